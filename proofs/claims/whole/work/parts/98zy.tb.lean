/-! what both readings of the text keep of the class's tables -/
/-- the names of the system's classes and subs, first subs, parameters, roles -/
def sysCN : List (List Int) := [[77, 97, 116, 104], [77, 101, 109, 111, 114, 121], [65, 114, 114, 97, 121], [83, 116, 114, 105, 110, 103], [79, 117, 116, 112, 117, 116], [75, 101, 121, 98, 111, 97, 114, 100], [83, 99, 114, 101, 101, 110], [83, 121, 115]]
def sysSN : List (List Int) := [[97, 98, 115], [109, 105, 110], [109, 97, 120], [109, 117, 108, 116, 105, 112, 108, 121], [100, 105, 118, 105, 100, 101], [115, 113, 114, 116], [112, 101, 101, 107], [112, 111, 107, 101], [97, 108, 108, 111, 99], [100, 101, 65, 108, 108, 111, 99], [110, 101, 119], [100, 105, 115, 112, 111, 115, 101], [110, 101, 119], [108, 101, 110, 103, 116, 104], [99, 104, 97, 114, 65, 116], [115, 101, 116, 67, 104, 97, 114, 65, 116], [97, 112, 112, 101, 110, 100, 67, 104, 97, 114], [101, 114, 97, 115, 101, 76, 97, 115, 116, 67, 104, 97, 114], [105, 110, 116, 86, 97, 108, 117, 101], [115, 101, 116, 73, 110, 116], [100, 105, 115, 112, 111, 115, 101], [110, 101, 119, 76, 105, 110, 101], [100, 111, 117, 98, 108, 101, 81, 117, 111, 116, 101], [98, 97, 99, 107, 83, 112, 97, 99, 101], [112, 114, 105, 110, 116, 67, 104, 97, 114], [112, 114, 105, 110, 116, 83, 116, 114, 105, 110, 103], [112, 114, 105, 110, 116, 73, 110, 116], [112, 114, 105, 110, 116, 108, 110], [107, 101, 121, 80, 114, 101, 115, 115, 101, 100], [114, 101, 97, 100, 67, 104, 97, 114], [114, 101, 97, 100, 76, 105, 110, 101], [99, 108, 101, 97, 114, 83, 99, 114, 101, 101, 110], [115, 101, 116, 67, 111, 108, 111, 114], [100, 114, 97, 119, 80, 105, 120, 101, 108], [100, 114, 97, 119, 76, 105, 110, 101], [100, 114, 97, 119, 82, 101, 99, 116, 97, 110, 103, 108, 101], [100, 114, 97, 119, 67, 105, 114, 99, 108, 101], [104, 97, 108, 116], [101, 114, 114, 111, 114], [119, 97, 105, 116]]
def sysFS : List Int := [0, 6, 10, 12, 24, 28, 31, 37, 40]
def sysPA : List Int := [1, 2, 2, 2, 2, 1, 1, 2, 1, 1, 1, 0, 1, 0, 1, 2, 1, 0, 0, 1, 0, 0, 0, 0, 1, 1, 1, 0, 0, 0, 1, 0, 1, 2, 4, 4, 3, 0, 1, 1]
def sysRO : List Int := [258, 258, 258, 258, 258, 258, 258, 258, 258, 258, 258, 259, 258, 259, 259, 259, 259, 259, 259, 259, 259, 258, 258, 258, 258, 258, 258, 258, 258, 258, 258, 258, 258, 258, 258, 258, 258, 258, 258, 258]
theorem sysCN_g : ∀ w ∈ sysCN, gw w := by unfold gw; decide
theorem sysSN_g : ∀ w ∈ sysSN, gw w := by unfold gw; decide
/-- the system's tables -/
def SYZ (s : iS) : Prop := (∀ i, i < 8 → s 25 i = wH (sysCN.getD i []) ∧ s 26 i = wL (sysCN.getD i [])) ∧ (∀ i, i < 40 → s 28 i = wH (sysSN.getD i []) ∧ s 29 i = wL (sysSN.getD i [])) ∧ (∀ i, i < 9 → s 30 i = sysFS.getD i 0) ∧ (∀ i, i < 40 → s 31 i = sysPA.getD i 0 ∧ s 32 i = sysRO.getD i 0)
def Z1 (s : iS) : Prop := TD s ∧ SYZ s
theorem SYZ_of {s s' : iS} (h : SYZ s) (hf : ∀ c k, (c = 25 ∨ c = 26) ∧ k < 8 ∨ (c = 28 ∨ c = 29 ∨ c = 31 ∨ c = 32) ∧ k < 40 ∨ c = 30 ∧ k < 9 → s' c k = s c k) : SYZ s' := by
  obtain ⟨h1, h2, h3, h4⟩ := h
  exact ⟨fun i hi => by rw [hf 25 i (by omega), hf 26 i (by omega)]; exact h1 i hi, fun i hi => by rw [hf 28 i (by omega), hf 29 i (by omega)]; exact h2 i hi, fun i hi => by rw [hf 30 i (by omega)]; exact h3 i hi, fun i hi => by rw [hf 31 i (by omega), hf 32 i (by omega)]; exact h4 i hi⟩
theorem Z1_ZK {s s' : iS} (h : Z1 s) (hz : ZK s s') : Z1 s' := by
  obtain ⟨h1, h2⟩ := h
  refine ⟨?_, SYZ_of h2 (fun c k q => hz c k (by omega) (by omega) (by omega))⟩
  unfold TD at h1 ⊢
  rw [hz 23 11 (by omega) (by omega) (by omega), hz 23 12 (by omega) (by omega) (by omega), hz 40 4 (by omega) (by omega) (by omega)]
  exact h1
/-- the variables at hand: of the class, of the sub -/
def wlC (K : List Nat) (W : List wrec) : List wrec := W.filter (fun r => r.1 == (K.length : Int) - 1 && r.2.1 == -1)
def wlU (U : List urec) (W : List wrec) : List wrec := W.filter (fun r => r.2.1 == (U.length : Int) - 1)
def wlG (g : Nat) (K : List Nat) (U : List urec) (W : List wrec) : List wrec := wlC K W ++ (if g = 0 then [] else wlU U W)
def vNs (F : Nat → Int) (P : Nat → Nat) (t0 : iS) (l : List wrec) : List (List Int) := l.map (fun r => nmT F P t0 r.2.2.2.2.1)
/-- the text's own variables are in order -/
def WOK (s0 : iS) (N : Nat) (K : List Nat) (U : List urec) (W : List wrec) : Prop := (∀ r ∈ W, (r.1 < (K.length : Int) ∧ -1 ≤ r.1 ∧ (0 ≤ r.2.2.2.2.2.1 ∧ r.2.2.2.2.2.1 < 12) ∧ 0 ≤ r.2.2.2.2.2.2 ∧ r.2.2.2.2.2.2 < 12) ∧ r.2.1 < (U.length : Int) ∧ -1 ≤ r.2.1 ∧ (r.2.1 = -1 → r.2.2.1 = 0 ∨ r.2.2.1 = 1) ∧ (r.2.1 ≠ -1 → r.2.2.1 = 2 ∨ r.2.2.1 = 3) ∧ r.2.2.2.2.1 < N ∧ s0 9 r.2.2.2.2.1 = 3) ∧ nwS W ≤ 12 ∧ (∀ x : Int, nwF x W ≤ 12) ∧ (∀ x : Int, nwP x W ≤ 12) ∧ (∀ x : Int, nwV x W ≤ 12) ∧ ∀ r ∈ W, (r.2.2.1 = 2 → r.2.2.2.2.2.1 < (nwP r.2.1 W : Int)) ∧ (r.2.2.1 = 3 → r.2.2.2.2.2.1 < (nwV r.2.1 W : Int))
/-- the class's counters and variables -/
def TXB (F : Nat → Int) (P : Nat → Nat) (s0 t0 : iS) (N g : Nat) (K : List Nat) (U : List urec) (W : List wrec) (s : iS) : Prop :=
  SBo s ∧ Z1 s ∧ (K.length ≤ 12 ∧ U.length ≤ 60) ∧ s 23 11 = 7 + (K.length : Int) ∧ s 23 12 = 39 + (U.length : Int) ∧ s 40 3 = (nwS W : Int) ∧ (K ≠ [] → s 40 4 = (nwF ((K.length : Int) - 1) W : Int) ∧ VS (vNs F P t0 (wlG g K U W)) (wlC K W).length s) ∧ (g = 1 ∨ g = 2 → U ≠ [] ∧ s 40 1 = (nwP ((U.length : Int) - 1) W : Int) ∧ s 40 2 = (nwV ((U.length : Int) - 1) W : Int)) ∧ (g ≠ 3 → K ≠ []) ∧ WOK s0 N K U W
section TXe
variable {F : Nat → Int} {n N : Nat} {P : Nat → Nat} {s0 t0 s s' : iS} {g j : Nat} {K : List Nat} {U : List urec} {W : List wrec} {v r y : Int}
theorem VS_of {V : List (List Int)} {cv : Nat} (h : VS V cv s) (hf : ∀ c k, c = 33 ∧ k = 2 ∨ c = 34 ∨ c = 35 ∨ c = 23 ∧ k = 15 → s' c k = s c k) : VS V cv s' := by
  obtain ⟨h1, h2, h3, h4, h5⟩ := h
  exact ⟨TBo (hf 33 2 (by omega)) (funext fun k => hf 34 k (by omega)) (funext fun k => hf 35 k (by omega)) h1, h2, h3, by rw [hf 23 15 (by omega)]; exact h4, h5⟩
theorem SBo_of (h : SBo s) (hf : ∀ c k, c = 33 ∧ k = 2 ∨ c = 24 ∧ k = 2 ∨ c = 27 ∧ k = 2 ∨ c = 23 ∧ k = 15 → s' c k = s c k) : SBo s' := by
  unfold SBo at h ⊢
  rw [hf 33 2 (by omega), hf 24 2 (by omega), hf 27 2 (by omega), hf 23 15 (by omega)]
  exact h
theorem TXB_of (h : TXB F P s0 t0 N g K U W s) (hf : ∀ c k, 23 ≤ c → c ≤ 40 → ¬ (36 ≤ c ∧ c ≤ 39) → ¬ (c = 31 ∧ 40 ≤ k) → ¬ (c = 23 ∧ (k = 13 ∨ k = 14)) → s' c k = s c k) : TXB F P s0 t0 N g K U W s' := by
  obtain ⟨a1, ⟨a2, a2'⟩, a3, a4, a5, a6, a7, a8, a9, a10⟩ := h
  refine ⟨SBo_of a1 (fun c k q => hf c k (by omega) (by omega) (by omega) (by omega) (by omega)), ⟨?_, SYZ_of a2' (fun c k q => hf c k (by omega) (by omega) (by omega) (by omega) (by omega))⟩, a3, by rw [hf 23 11 (by omega) (by omega) (by omega) (by omega) (by omega)]; exact a4, by rw [hf 23 12 (by omega) (by omega) (by omega) (by omega) (by omega)]; exact a5, by rw [hf 40 3 (by omega) (by omega) (by omega) (by omega) (by omega)]; exact a6, fun q => ⟨by rw [hf 40 4 (by omega) (by omega) (by omega) (by omega) (by omega)]; exact (a7 q).1, VS_of (a7 q).2 (fun c k q => hf c k (by omega) (by omega) (by omega) (by omega) (by omega))⟩, fun q => ⟨(a8 q).1, by rw [hf 40 1 (by omega) (by omega) (by omega) (by omega) (by omega)]; exact (a8 q).2.1, by rw [hf 40 2 (by omega) (by omega) (by omega) (by omega) (by omega)]; exact (a8 q).2.2⟩, a9, a10⟩
  unfold TD at a2 ⊢
  rw [hf 23 11 (by omega) (by omega) (by omega) (by omega) (by omega), hf 23 12 (by omega) (by omega) (by omega) (by omega) (by omega), hf 40 4 (by omega) (by omega) (by omega) (by omega) (by omega)]
  exact a2
theorem cP_le {α : Type} (p a b : α → Bool) : ∀ l : List α, (∀ r ∈ l, p r = true → a r = true ∨ b r = true) → l.countP p ≤ l.countP a + l.countP b
  | [], _ => by simp
  | x :: l, h => by
    have ih := cP_le p a b l (fun r hr => h r (List.mem_cons_of_mem _ hr))
    have hx := h x List.mem_cons_self
    simp only [List.countP_cons]
    cases h1 : p x <;> cases h2 : a x <;> cases h3 : b x <;> simp_all <;> omega
theorem wlC_len (h : WOK s0 N K U W) : (wlC K W).length ≤ nwS W + nwF ((K.length : Int) - 1) W := by
  unfold wlC nwS nwF
  rw [← List.countP_eq_length_filter]
  refine cP_le _ _ _ W (fun r hr q => ?_)
  obtain ⟨b1, b2, b3, b4, b5, b6⟩ := h.1 r hr
  simp only [Bool.and_eq_true, beq_iff_eq] at q ⊢
  have := b4 q.2
  omega
theorem wlU_len (h : WOK s0 N K U W) (hU : U ≠ []) : (wlU U W).length ≤ nwP ((U.length : Int) - 1) W + nwV ((U.length : Int) - 1) W := by
  have hU1 : 0 < U.length := List.length_pos_iff.mpr hU
  unfold wlU nwP nwV
  rw [← List.countP_eq_length_filter]
  refine cP_le _ _ _ W (fun r hr q => ?_)
  obtain ⟨b1, b2, b3, b4, b5, b6⟩ := h.1 r hr
  simp only [Bool.and_eq_true, beq_iff_eq] at q ⊢
  have := b5 (by omega)
  omega
theorem wlC_new (h : WOK s0 N K U W) : wlC (K ++ [j]) W = [] := by
  unfold wlC
  rw [List.filter_eq_nil_iff]
  intro r hr
  have := (h.1 r hr).1
  simp only [List.length_append, List.length_singleton, Bool.and_eq_true, beq_iff_eq]
  omega
theorem wlU_new {u : urec} (h : WOK s0 N K U W) : wlU (U ++ [u]) W = [] := by
  unfold wlU
  rw [List.filter_eq_nil_iff]
  intro r hr
  have := (h.1 r hr).2.1
  simp only [List.length_append, List.length_singleton, beq_iff_eq]
  omega
theorem nwF_new (h : WOK s0 N K U W) : nwF (((K ++ [j]).length : Int) - 1) W = 0 := by
  unfold nwF
  rw [List.countP_eq_zero]
  intro r hr
  have := (h.1 r hr).1
  simp only [List.length_append, List.length_singleton, Bool.and_eq_true, beq_iff_eq]
  omega
theorem nwPV_new {u : urec} (h : WOK s0 N K U W) : nwP (((U ++ [u]).length : Int) - 1) W = 0 ∧ nwV (((U ++ [u]).length : Int) - 1) W = 0 := by
  unfold nwP nwV
  rw [List.countP_eq_zero, List.countP_eq_zero]
  refine ⟨fun r hr => ?_, fun r hr => ?_⟩ <;>
  · have := (h.1 r hr).2.1
    simp only [List.length_append, List.length_singleton, Bool.and_eq_true, beq_iff_eq]
    omega
theorem vNs_g (h : TKR 0 F n N P s0 t0) {l : List wrec} (hl : ∀ r ∈ l, r.2.2.2.2.1 < N ∧ s0 9 r.2.2.2.2.1 = 3) : ∀ w ∈ vNs F P t0 l, gw w := by
  intro w hw
  unfold vNs at hw
  obtain ⟨r, hr, e⟩ := List.mem_map.mp hw
  rw [← e]
  exact (tkN h (hl r hr).1 (hl r hr).2).1
theorem wlG_mem {r : wrec} (h : r ∈ wlG g K U W) : r ∈ W := by
  unfold wlG wlC wlU at h
  rcases List.mem_append.mp h with q | q
  · exact (List.mem_filter.mp q).1
  · split at q
    · simp at q
    · exact (List.mem_filter.mp q).1
end TXe
