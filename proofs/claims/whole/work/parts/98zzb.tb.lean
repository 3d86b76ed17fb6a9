/-! the first reading of the text -/
/-- the class's tables of classes and subs, as far as told -/
def X1T (F : Nat → Int) (P : Nat → Nat) (s0 t0 : iS) (N g : Nat) (K : List Nat) (U : List urec) (W : List wrec) (s : iS) : Prop :=
  TB 24 25 26 (sysCN ++ K.map (nmT F P t0)) s ∧ TB 27 28 29 (sysSN ++ U.map (fun u => nmT F P t0 u.2.2.1)) s ∧ (∀ j ∈ K, j < N ∧ s0 9 j = 3) ∧ (∀ u ∈ U, u.2.2.1 < N ∧ s0 9 u.2.2.1 = 3 ∧ 0 ≤ u.1 ∧ u.1 < (K.length : Int) ∧ (u.2.1 = 1 ∨ u.2.1 = 2 ∨ u.2.1 = 3)) ∧
  (∀ k, k ≤ K.length → s 30 (8 + k) = 40 + (U.countP (fun u => decide (u.1 < (k : Int))) : Int)) ∧ (∀ u, u < U.length → s 32 (40 + u) = 256 + (U.getD u (0, 0, 0, 0)).2.1 ∧ (¬ (g = 1 ∧ u = U.length - 1) → s 31 (40 + u) = (nwP (u : Int) W : Int))) ∧ (g = 1 ∨ g = 2 → 256 ≤ s 23 13 ∧ s 23 13 ≤ 260)
def X1 (F : Nat → Int) (P : Nat → Nat) (s0 t0 : iS) (N g : Nat) (K : List Nat) (U : List urec) (W : List wrec) (s : iS) : Prop := TXB F P s0 t0 N g K U W s ∧ X1T F P s0 t0 N g K U W s
def T1 (F : Nat → Int) (P : Nat → Nat) (s0 t0 : iS) (N : Nat) : TXP := fun g K U W _ _ s => X1 F P s0 t0 N g K U W s ∧ s 22 4 = 0 ∧ s 14 7 = 0 ∧ s 2 13 = 0
def TV1 (_ r : Int) : Prop := -1 ≤ r ∧ r < 20
section TXg
variable {F : Nat → Int} {n N : Nat} {P : Nat → Nat} {s0 t0 s s' : iS} {g g' j : Nat} {K : List Nat} {U : List urec} {W : List wrec} {v r y : Int}
theorem X1T_of (h : X1T F P s0 t0 N g K U W s) (hf : ∀ c k, 24 ≤ c ∧ c ≤ 32 ∨ c = 23 ∧ k = 13 → s' c k = s c k) : X1T F P s0 t0 N g K U W s' := by
  obtain ⟨h1, h2, h3, h4, h5, h6, h7⟩ := h
  exact ⟨TBo (hf 24 2 (by omega)) (funext fun k => hf 25 k (by omega)) (funext fun k => hf 26 k (by omega)) h1, TBo (hf 27 2 (by omega)) (funext fun k => hf 28 k (by omega)) (funext fun k => hf 29 k (by omega)) h2, h3, h4, fun k hk => by rw [hf 30 _ (by omega)]; exact h5 k hk, fun u hu => by rw [hf 32 _ (by omega), hf 31 _ (by omega)]; exact h6 u hu, fun q => by rw [hf 23 13 (by omega)]; exact h7 q⟩
theorem X1_of (h : X1 F P s0 t0 N g K U W s) (hf : ∀ c k, 23 ≤ c → c ≤ 40 → s' c k = s c k) : X1 F P s0 t0 N g K U W s' :=
  ⟨TXB_of h.1 (fun c k a1 a2 _ _ _ => hf c k a1 a2), X1T_of h.2 (fun c k q => hf c k (by omega) (by omega))⟩
theorem X1_up {c k : Nat} {x : Int} (h : X1 F P s0 t0 N g K U W s) (hc : c < 23 ∨ 40 < c) : X1 F P s0 t0 N g K U W (up s c k x) := X1_of h (fun c' k' a1 a2 => up_ne (by omega))
theorem X1_MD (h : X1 F P s0 t0 N g K U W s) (hm : MD s s') : X1 F P s0 t0 N g K U W s' := X1_of h (fun c k a1 a2 => MD_at hm (by omega) (by omega))
theorem nmK_g (h : TKR 0 F n N P s0 t0) (hK : ∀ j ∈ K, j < N ∧ s0 9 j = 3) : ∀ w ∈ sysCN ++ K.map (nmT F P t0), gw w := by
  intro w hw
  rcases List.mem_append.mp hw with q | q
  · exact sysCN_g w q
  · obtain ⟨j, hj, e⟩ := List.mem_map.mp q
    rw [← e]
    exact (tkN h (hK j hj).1 (hK j hj).2).1
theorem nmU_g (h : TKR 0 F n N P s0 t0) (hU : ∀ u ∈ U, u.2.2.1 < N ∧ s0 9 u.2.2.1 = 3) : ∀ w ∈ sysSN ++ U.map (fun u => nmT F P t0 u.2.2.1), gw w := by
  intro w hw
  rcases List.mem_append.mp hw with q | q
  · exact sysSN_g w q
  · obtain ⟨u, hu, e⟩ := List.mem_map.mp q
    rw [← e]
    exact (tkN h (hU u hu).1 (hU u hu).2).1
theorem nmK_l : (sysCN ++ K.map (nmT F P t0)).length = 8 + K.length := by
  rw [List.length_append, List.length_map]
  rfl
theorem nmU_l : (sysSN ++ U.map (fun u => nmT F P t0 u.2.2.1)).length = 40 + U.length := by
  rw [List.length_append, List.length_map]
  rfl
/-- which class a name is -/
def fcK (F : Nat → Int) (P : Nat → Nat) (t0 : iS) (K : List Nat) (j : Nat) : Int := fst1 (fun i => (sysCN ++ K.map (nmT F P t0)).getD i [] = nmT F P t0 j) 0 (8 + K.length)
theorem fcK_ok (h : TKR 0 F n N P s0 t0) (hs : SC s0 s) (hj : j < N) (hk : s0 9 j = 3) (hT : TB 24 25 26 (sysCN ++ K.map (nmT F P t0)) s) (hK : ∀ j ∈ K, j < N ∧ s0 9 j = 3) (hl : K.length ≤ 12) : tok_findIn 24 25 26 20 (j : Int) 0 20 s = some (fcK F P t0 K j, s) ∧ -1 ≤ fcK F P t0 K j ∧ fcK F P t0 K j < 8 + (K.length : Int) := by
  have e := cFi (c := 24) (a := 25) (b := 26) (M := 20) (f := 0) (e := 20) h hs hj hk hT (nmK_g h hK) (by omega) (by rw [nmK_l]; omega) (by omega) (by omega)
  rw [nmK_l, show min 20 (8 + K.length) - 0 = 8 + K.length by omega] at e
  refine ⟨e, ?_⟩
  have a := fst1_rg (P := fun i => (sysCN ++ K.map (nmT F P t0)).getD i [] = nmT F P t0 j) (8 + K.length) 0
  unfold fcK
  omega
/-- what stands in phase 2 stands in phase 3 -/
theorem X1_23 (h : X1 F P s0 t0 N 2 K U W s) : X1 F P s0 t0 N 3 K U W s := by
  obtain ⟨⟨a1, a2, a3, a4, a5, a6, a7, a8, a9, a10⟩, ⟨h1, h2, h3, h4, h5, h6, h7⟩⟩ := h
  refine ⟨⟨a1, a2, a3, a4, a5, a6, a7, fun q => by omega, fun q => absurd rfl q, a10⟩, ⟨h1, h2, h3, h4, h5, fun u hu => ⟨(h6 u hu).1, fun _ => (h6 u hu).2 (by omega)⟩, fun q => by omega⟩⟩
theorem lp_pl1 {l : List urec} {k : Nat} {u : urec} : ((l ++ [u]).countP (fun u => decide (u.1 < (k : Int))) : Int) = (l.countP (fun u => decide (u.1 < (k : Int))) : Int) + (if u.1 < (k : Int) then 1 else 0) := by
  rw [List.countP_append, List.countP_cons, List.countP_nil]
  by_cases c : u.1 < (k : Int)
  · simp [c]
  · simp [c]
theorem cP_all {l : List urec} {k : Nat} (h : ∀ u ∈ l, u.1 < (k : Int)) : l.countP (fun u => decide (u.1 < (k : Int))) = l.length := by
  rw [List.countP_eq_length]
  intro u hu
  exact decide_eq_true (h u hu)
end TXg
