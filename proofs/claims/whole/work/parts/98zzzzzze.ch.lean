/-! chips: what both readers keep -/
abbrev chR := Nat × Nat × Nat × Nat
def cgN : List (List Int) := [[78, 97, 110, 100], [68, 102, 102]]
def cpN : List (List Int) := [[97], [98], [111, 117, 116], [105, 110], [111, 117, 116]]
/-- a pin's number of bits; a range -/
def wdT (s0 : iS) (j : Nat) : Int := if s0 9 (j + 1) = 91 then s0 11 (j + 2) else 1
def wdP (s0 : iS) (j : Nat) : Int := if wdT s0 j < 1 then 1 else if wdT s0 j ≤ 16 then wdT s0 j else 1
def nbP (s0 : iS) (j : Nat) : Int := if s0 9 (j + 1) = 91 then ((j + 2 : Nat) : Int) else -1
def rgA (s0 : iS) (j : Nat) : Int := if s0 9 (j + 1) = 91 then ((j + 1 : Nat) : Int) else -1
def rgI (s0 : iS) (j : Nat) : Int := if s0 9 (j + 1) = 91 then s0 11 (j + 2) else 0
def rgJ (s0 : iS) (j : Nat) : Int := if s0 9 (j + 1) = 91 then (if s0 9 (j + 3) = 46 then s0 11 (j + 4) else s0 11 (j + 2)) else 0
/-- a pin, a range stand in the text as they must -/
def pOK (s0 : iS) (N j : Nat) : Prop := j + 1 < N ∧ s0 9 j = 3 ∧ (s0 9 (j + 1) = 91 → j + 3 < N ∧ s0 9 (j + 2) = 4)
def rOK (s0 : iS) (N j : Nat) : Prop := j + 1 < N ∧ (s0 9 (j + 1) = 91 → j + 3 < N ∧ s0 9 (j + 2) = 4 ∧ (s0 9 (j + 3) = 46 → j + 5 < N ∧ s0 9 (j + 4) = 4))
section CHb
variable (F : Nat → Int) (P : Nat → Nat) (s0 t0 : iS)
def PcC (C : List chR) (s : iS) : Prop := TB 72 73 74 (cgN ++ C.map (fun c => nmT F P t0 c.1)) s ∧ ∀ i, i < C.length → s 75 (2 + i) = ((C.getD i (0, 0, 0, 0)).1 : Nat) ∧ s 76 (2 + i) = 5 + ((C.getD i (0, 0, 0, 0)).2.1 : Nat) ∧ s 78 (2 + i) = ((C.getD i (0, 0, 0, 0)).2.2.1 : Nat)
def PrC (C : List chR) (t : iS) : Prop := t 121 122 = (C.length : Int) ∧ ∀ i, i < C.length → t 195 i = ((C.getD i (0, 0, 0, 0)).1 : Nat) ∧ t 196 i = ((C.getD i (0, 0, 0, 0)).2.1 : Nat) ∧ t 201 i = ((C.getD i (0, 0, 0, 0)).2.2.1 : Nat) ∧ t 212 i = ((C.getD i (0, 0, 0, 0)).2.2.2 : Nat)
def PcO (O : List Nat) (s : iS) : Prop := ∀ i, i < O.length → s 77 (2 + i) = 5 + (O.getD i 0 : Nat)
def PcP (Q : List (Nat × Int)) (s : iS) : Prop := TB 79 80 81 (cpN ++ Q.map (fun q => nmT F P t0 q.1)) s ∧ ∀ i, i < Q.length → s 82 (5 + i) = ((Q.getD i (0, 0)).1 : Nat)
def PrP (Q : List (Nat × Int)) (t : iS) : Prop := t 121 125 = (Q.length : Int) ∧ ∀ i, i < Q.length → t 198 i = ((Q.getD i (0, 0)).1 : Nat) ∧ t 197 i = (Q.getD i (0, 0)).2 ∧ t 199 i = wdP s0 (Q.getD i (0, 0)).1 ∧ t 200 i = nbP s0 (Q.getD i (0, 0)).1
def PcR (R : List (Nat × Nat)) (s : iS) : Prop := s 71 13 = (R.length : Int) ∧ ∀ i, i < R.length → s 83 i = ((R.getD i (0, 0)).1 : Nat) ∧ s 84 i = ((R.getD i (0, 0)).2 : Nat)
def PrR (R : List (Nat × Nat)) (t : iS) : Prop := t 121 131 = (R.length : Int) ∧ ∀ i, i < R.length → t 202 i = ((R.getD i (0, 0)).1 : Nat) ∧ t 203 i = ((R.getD i (0, 0)).2 : Nat)
def PcL (L : List (Nat × Nat)) (s : iS) : Prop := s 71 14 = (L.length : Int) ∧ ∀ i, i < L.length → s 85 i = ((L.getD i (0, 0)).1 : Nat) ∧ s 86 i = ((L.getD i (0, 0)).2 : Nat)
def PrL (L : List (Nat × Nat)) (t : iS) : Prop := t 121 134 = (L.length : Int) ∧ ∀ i, i < L.length → (t 204 i = ((L.getD i (0, 0)).1 : Nat) ∧ t 205 i = rgA s0 (L.getD i (0, 0)).1 ∧ t 206 i = rgI s0 (L.getD i (0, 0)).1 ∧ t 207 i = rgJ s0 (L.getD i (0, 0)).1) ∧ t 208 i = ((L.getD i (0, 0)).2 : Nat) ∧ (s0 9 (L.getD i (0, 0)).2 = 3 → t 209 i = rgA s0 (L.getD i (0, 0)).2 ∧ t 210 i = rgI s0 (L.getD i (0, 0)).2 ∧ t 211 i = rgJ s0 (L.getD i (0, 0)).2) ∧ (s0 9 (L.getD i (0, 0)).2 ≠ 3 → t 209 i = -1)
def PcI (J : List Nat) (s : iS) : Prop := TB 87 88 89 (J.map (nmT F P t0)) s
def PrI (I : List Nat) (t : iS) : Prop := t 121 144 = (I.length : Int) ∧ ∀ i, i < I.length → t 213 i = (I.getD i 0 : Nat)
/-- the class's rows of the gates -/
def STc (s : iS) : Prop := s 76 0 = 0 ∧ s 76 1 = 3 ∧ s 77 0 = 2 ∧ s 77 1 = 4 ∧ s 78 0 = 0 ∧ s 78 1 = 0
/-- both readers live -/
def RLv (N : Nat) (C : List chR) (O : List Nat) (Q : List (Nat × Int)) (R L : List (Nat × Nat)) (I J : List Nat) (p : Nat) (s t : iS) : Prop := LVh N s0 t0 p s t ∧ (PcC F P t0 C s ∧ PrC C t ∧ PcO O s) ∧ (PcP F P t0 Q s ∧ PrP s0 Q t) ∧ (PcR R s ∧ PrR R t) ∧ (PcL L s ∧ PrL s0 L t) ∧ (PcI F P t0 J s ∧ PrI (I ++ J) t) ∧ STc s
/-- what stands of the class's names, whatever comes -/
def SZc (s : iS) : Prop := (2 ≤ s 72 2 ∧ s 72 2 ≤ 18) ∧ (5 ≤ s 79 2 ∧ s 79 2 ≤ 197) ∧ (0 ≤ s 71 13 ∧ s 71 13 ≤ 384) ∧ (0 ≤ s 71 14 ∧ s 71 14 ≤ 500) ∧ (0 ≤ s 87 2 ∧ s 87 2 ≤ 100) ∧ (∀ i, i < 2 → s 73 i = wH (cgN.getD i []) ∧ s 74 i = wL (cgN.getD i [])) ∧ (∀ i, i < 5 → s 80 i = wH (cpN.getD i []) ∧ s 81 i = wL (cpN.getD i [])) ∧ STc s
def SZr (t : iS) : Prop := (0 ≤ t 121 122 ∧ t 121 122 ≤ 16) ∧ (0 ≤ t 121 131 ∧ t 121 131 ≤ 384) ∧ (0 ≤ t 121 134 ∧ t 121 134 ≤ 600)
/-- both readers behind a fault -/
def RDd (N : Nat) (s t : iS) : Prop := ∃ (f : Int) (q : Nat), (0 < f ∧ f < 3) ∧ q < N ∧ DCh N s0 f q s ∧ SZc s ∧ DRh N P t0 f q t ∧ SZr t
end CHb
section CHc
variable {F : Nat → Int} {n N : Nat} {P : Nat → Nat} {s0 t0 s t s' t' : iS} {p a b j v q : Nat} {C : List chR} {O I J : List Nat} {Q : List (Nat × Int)} {R L : List (Nat × Nat)} {f : Int}
theorem SZc_of (h : SZc s) (hs : ∀ c k, c = 72 ∨ c = 73 ∨ c = 74 ∨ c = 79 ∨ c = 80 ∨ c = 81 ∨ c = 87 ∨ c = 71 ∨ (76 ≤ c ∧ c ≤ 78 ∧ k ≤ 1) → s' c k = s c k) : SZc s' := by
  obtain ⟨h1, h2, h3, h4, h5, h6, h7, h8⟩ := h
  refine ⟨by rw [hs 72 2 (by omega)]; exact h1, by rw [hs 79 2 (by omega)]; exact h2, by rw [hs 71 13 (by omega)]; exact h3, by rw [hs 71 14 (by omega)]; exact h4, by rw [hs 87 2 (by omega)]; exact h5, fun i hi => by rw [hs 73 i (by omega), hs 74 i (by omega)]; exact h6 i hi, fun i hi => by rw [hs 80 i (by omega), hs 81 i (by omega)]; exact h7 i hi, ?_⟩
  unfold STc
  rw [hs 76 0 (by omega), hs 76 1 (by omega), hs 77 0 (by omega), hs 77 1 (by omega), hs 78 0 (by omega), hs 78 1 (by omega)]
  exact h8
/-- rows of another state -/
theorem PcC_of (h : PcC F P t0 C s) (hs : ∀ c k, c = 72 ∨ c = 73 ∨ c = 74 ∨ (75 ≤ c ∧ c ≤ 78 ∧ c ≠ 77 ∧ k < 2 + C.length) → s' c k = s c k) : PcC F P t0 C s' := by
  refine ⟨TB_of h.1 (funext fun k => hs 72 k (by omega)) (funext fun k => hs 73 k (by omega)) (funext fun k => hs 74 k (by omega)), fun i hi => ?_⟩
  rw [hs 75 _ (by omega), hs 76 _ (by omega), hs 78 _ (by omega)]
  exact h.2 i hi
theorem PrC_of (h : PrC C t) (ht : ∀ c k, c = 121 ∧ k = 122 ∨ ((c = 195 ∨ c = 196 ∨ c = 201 ∨ c = 212) ∧ k < C.length) → t' c k = t c k) : PrC C t' := by
  refine ⟨by rw [ht 121 122 (by omega)]; exact h.1, fun i hi => ?_⟩
  rw [ht 195 i (by omega), ht 196 i (by omega), ht 201 i (by omega), ht 212 i (by omega)]
  exact h.2 i hi
theorem PcO_of (h : PcO O s) (hs : ∀ k, k < 2 + O.length → s' 77 k = s 77 k) : PcO O s' := fun i hi => by rw [hs _ (by omega)]; exact h i hi
theorem PcP_of (h : PcP F P t0 Q s) (hs : ∀ c k, c = 79 ∨ c = 80 ∨ c = 81 ∨ (c = 82 ∧ k < 5 + Q.length) → s' c k = s c k) : PcP F P t0 Q s' := by
  refine ⟨TB_of h.1 (funext fun k => hs 79 k (by omega)) (funext fun k => hs 80 k (by omega)) (funext fun k => hs 81 k (by omega)), fun i hi => ?_⟩
  rw [hs 82 _ (by omega)]
  exact h.2 i hi
theorem PrP_of (h : PrP s0 Q t) (ht : ∀ c k, c = 121 ∧ k = 125 ∨ (197 ≤ c ∧ c ≤ 200 ∧ k < Q.length) → t' c k = t c k) : PrP s0 Q t' := by
  refine ⟨by rw [ht 121 125 (by omega)]; exact h.1, fun i hi => ?_⟩
  rw [ht 198 i (by omega), ht 197 i (by omega), ht 199 i (by omega), ht 200 i (by omega)]
  exact h.2 i hi
theorem PcR_of (h : PcR R s) (hs : ∀ c k, c = 71 ∧ k = 13 ∨ ((c = 83 ∨ c = 84) ∧ k < R.length) → s' c k = s c k) : PcR R s' := by
  refine ⟨by rw [hs 71 13 (by omega)]; exact h.1, fun i hi => ?_⟩
  rw [hs 83 i (by omega), hs 84 i (by omega)]
  exact h.2 i hi
theorem PrR_of (h : PrR R t) (ht : ∀ c k, c = 121 ∧ k = 131 ∨ ((c = 202 ∨ c = 203) ∧ k < R.length) → t' c k = t c k) : PrR R t' := by
  refine ⟨by rw [ht 121 131 (by omega)]; exact h.1, fun i hi => ?_⟩
  rw [ht 202 i (by omega), ht 203 i (by omega)]
  exact h.2 i hi
theorem PcL_of (h : PcL L s) (hs : ∀ c k, c = 71 ∧ k = 14 ∨ ((c = 85 ∨ c = 86) ∧ k < L.length) → s' c k = s c k) : PcL L s' := by
  refine ⟨by rw [hs 71 14 (by omega)]; exact h.1, fun i hi => ?_⟩
  rw [hs 85 i (by omega), hs 86 i (by omega)]
  exact h.2 i hi
theorem PrL_of (h : PrL s0 L t) (ht : ∀ c k, c = 121 ∧ k = 134 ∨ (204 ≤ c ∧ c ≤ 211 ∧ k < L.length) → t' c k = t c k) : PrL s0 L t' := by
  refine ⟨by rw [ht 121 134 (by omega)]; exact h.1, fun i hi => ?_⟩
  rw [ht 204 i (by omega), ht 205 i (by omega), ht 206 i (by omega), ht 207 i (by omega), ht 208 i (by omega), ht 209 i (by omega), ht 210 i (by omega), ht 211 i (by omega)]
  exact h.2 i hi
theorem PcI_of (h : PcI F P t0 J s) (hs : ∀ c k, 87 ≤ c ∧ c ≤ 89 → s' c k = s c k) : PcI F P t0 J s' := TB_of h (funext fun k => hs 87 k (by omega)) (funext fun k => hs 88 k (by omega)) (funext fun k => hs 89 k (by omega))
theorem PrI_of (h : PrI I t) (ht : ∀ c k, c = 121 ∧ k = 144 ∨ (c = 213 ∧ k < I.length) → t' c k = t c k) : PrI I t' := by
  refine ⟨by rw [ht 121 144 (by omega)]; exact h.1, fun i hi => ?_⟩
  rw [ht 213 i (by omega)]
  exact h.2 i hi
theorem STc_of (h : STc s) (hs : ∀ c k, 76 ≤ c ∧ c ≤ 78 ∧ k ≤ 1 → s' c k = s c k) : STc s' := by
  unfold STc
  rw [hs 76 0 (by omega), hs 76 1 (by omega), hs 77 0 (by omega), hs 77 1 (by omega), hs 78 0 (by omega), hs 78 1 (by omega)]
  exact h
/-- the token moves on; scratch cells change -/
theorem RLv_of (h : RLv F P s0 t0 N C O Q R L I J p s t) (hl : LVh N s0 t0 q s' t') (hs : ∀ c k, 71 ≤ c ∧ c ≤ 89 → s' c k = s c k) (ht : ∀ c k, c = 121 ∧ (k = 122 ∨ k = 125 ∨ k = 131 ∨ k = 134 ∨ k = 144) ∨ (195 ≤ c ∧ c ≤ 213 ∧ ¬ (c = 196 ∧ C.length ≤ k) ∧ ¬ (c = 212 ∧ C.length ≤ k) ∧ ¬ (204 ≤ c ∧ c ≤ 211 ∧ L.length ≤ k)) → t' c k = t c k) : RLv F P s0 t0 N C O Q R L I J q s' t' := by
  obtain ⟨-, ⟨h2, h3, h4⟩, ⟨h5, h6⟩, ⟨h7, h8⟩, ⟨h9, h10⟩, ⟨h11, h12⟩, h13⟩ := h
  exact ⟨hl, ⟨PcC_of h2 (fun c k z => hs c k (by omega)), PrC_of h3 (fun c k z => ht c k (by omega)), PcO_of h4 (fun k z => hs 77 k (by omega))⟩, ⟨PcP_of h5 (fun c k z => hs c k (by omega)), PrP_of h6 (fun c k z => ht c k (by omega))⟩, ⟨PcR_of h7 (fun c k z => hs c k (by omega)), PrR_of h8 (fun c k z => ht c k (by omega))⟩, ⟨PcL_of h9 (fun c k z => hs c k (by omega)), PrL_of h10 (fun c k z => ht c k (by omega))⟩, ⟨PcI_of h11 (fun c k z => hs c k (by omega)), PrI_of h12 (fun c k z => ht c k (by omega))⟩, STc_of h13 (fun c k z => hs c k (by omega))⟩
theorem RLv_nx (h : RLv F P s0 t0 N C O Q R L I J p s t) (hN : p + 1 < N) : RLv F P s0 t0 N C O Q R L I J (p + 1) (up s 2 12 ((p + 1 : Nat) : Int)) (up t 121 10 ((p + 1 : Nat) : Int)) := RLv_of h (LVh_nx h.1 hN) (fun c k z => up_ne (by omega)) (fun c k z => up_ne (by omega))
/-- room -/
def bdL (C : List chR) (Q : List (Nat × Int)) (R L : List (Nat × Nat)) (J : List Nat) : Prop := C.length ≤ 16 ∧ Q.length ≤ 192 ∧ R.length ≤ 384 ∧ L.length ≤ 500 ∧ J.length ≤ 100
theorem tbpre {c a b' : Nat} {l l2 : List (List Int)} (h : TB c a b' (l ++ l2) s) : ∀ i, i < l.length → s a i = wH (l.getD i []) ∧ s b' i = wL (l.getD i []) := fun i hi => by
  have := h.2 i (by rw [List.length_append]; omega)
  rw [gdL hi] at this
  exact this
theorem RLv_sz (h : RLv F P s0 t0 N C O Q R L I J p s t) (hb : bdL C Q R L J) : SZc s ∧ SZr t := by
  obtain ⟨-, ⟨h2, h3, h4⟩, ⟨h5, h6⟩, ⟨h7, h8⟩, ⟨h9, h10⟩, ⟨h11, h12⟩, h13⟩ := h
  obtain ⟨b1, b2, b3, b4, b5⟩ := hb
  have e1 := h2.1.1
  have e2 := h5.1.1
  have e3 := h7.1
  have e4 := h9.1
  have e5 := h11.1
  have e6 := h3.1
  have e7 := h8.1
  have e8 := h10.1
  rw [List.length_append, List.length_map] at e1 e2
  rw [List.length_map] at e5
  have c1 : cgN.length = 2 := rfl
  have c2 : cpN.length = 5 := rfl
  refine ⟨⟨by omega, by omega, by omega, by omega, by omega, tbpre h2.1, tbpre h5.1, h13⟩, by omega, by omega, by omega⟩
theorem SZc_st (h : SZc s) : SZc (stp s f q N) := SZc_of h (fun c k z => by unfold stp; rw [up_ne (by omega), up_ne (by omega), up_ne (by omega)])
theorem SZr_fl (h : SZr t) : SZr (flt t f P q) := by
  unfold SZr flt
  rw [up_ne (by omega), up_ne (by omega), up_ne (by omega), up_ne (by omega), up_ne (by omega), up_ne (by omega)]
  exact h
theorem RDd_st (hl : LVh N s0 t0 p s t) (hz : SZc s ∧ SZr t) (hf : 0 < f ∧ f < 3) : RDd P s0 t0 N (stp s f p N) (flt t f P p) := ⟨f, p, hf, hl.2.2.2.2.1, DCh_st hl.1, SZc_st hz.1, DRh_fl hl.2.1 hl.2.2.2.1 hl.2.2.2.2.1, SZr_fl hz.2⟩
/-! the class behind a fault -/
def cDd (N : Nat) (s0 : iS) (f : Int) (q : Nat) (s : iS) : Prop := DCh N s0 f q s ∧ SZc s ∧ 0 < f ∧ f < 3
theorem cDd_of (h : cDd N s0 f q s) (hs : ∀ c k, c ≤ 13 ∨ c = 42 ∨ c = 43 → s' c k = s c k) (hz : SZc s') : cDd N s0 f q s' := by
  obtain ⟨⟨⟨a1, a2, a3, a4, a5, a6, a7, a8, a9, a10⟩, d2, d3, d4⟩, -, h3⟩ := h
  have r : ∀ c, c ≤ 13 ∨ c = 42 ∨ c = 43 → s' c = s c := fun c z => funext fun k => hs c k z
  exact ⟨⟨⟨by rw [r 1 (by omega)]; exact a1, by rw [r 9 (by omega)]; exact a2, by rw [r 10 (by omega)]; exact a3, by rw [r 11 (by omega)]; exact a4, by rw [r 12 (by omega)]; exact a5, by rw [r 13 (by omega)]; exact a6, by rw [r 2 (by omega)]; exact a7, by rw [r 2 (by omega)]; exact a8, by rw [r 42 (by omega)]; exact a9, by rw [r 43 (by omega)]; exact a10⟩, by rw [r 2 (by omega)]; exact d2, by rw [r 2 (by omega)]; exact d3, by rw [r 2 (by omega)]; exact d4⟩, hz, h3⟩
theorem dEx (h : TKR 1 F n N P s0 t0) (hd : cDd N s0 f q s) {c : Int} (hc : 0 ≤ c ∧ c < 400) : tok_expect c s = some (0, s) := cExD h hd.1.1 (by rw [hd.1.2.2.1]; have := hd.2.2; omega) hd.1.2.1 hc
theorem dSt (h : TKR 1 F n N P s0 t0) (hd : cDd N s0 f q s) {c : Int} : tok_stop c s = some (0, s) := cStD h hd.1.1 (by rw [hd.1.2.2.1]; have := hd.2.2; omega) hd.1.2.1
theorem dK (h : TKR 1 F n N P s0 t0) (hd : cDd N s0 f q s) : tok_kind s = some (-1, s) := cKD h hd.1.1 hd.1.2.1
theorem dPin {x : Int} (h : TKR 1 F n N P s0 t0) (hd : cDd N s0 f q s) : crd_readPin x s = some (0, s) := by
  unfold crd_readPin
  rw [dK h hd, bq, gr (by omega), if_neg (by omega), dSt h hd, bq]
theorem dPins7 {x y : Int} (h : TKR 1 F n N P s0 t0) (hd : cDd N s0 f q s) (hy : 0 ≤ y ∧ y ≤ 2000) : crd_readPins_7 x y s = some (0, s) := by
  unfold crd_readPins_7
  rw [lp_end (f := fun l : Int × iS => crd_readPins_7b x (l.1) (l.2)) (e := s) (by
    show crd_readPins_7b x y s = _
    unfold crd_readPins_7b
    rw [gr (by omega)]
    by_cases c : 2000 ≤ y
    · rw [if_pos c]
    · rw [if_neg c, dK h hd, bq, gr (by omega), if_neg (by omega)])]
  show crd_readPins_50 s = _
  unfold crd_readPins_50
  rw [dEx h hd (by omega), bq]
theorem dPins {x : Int} (h : TKR 1 F n N P s0 t0) (hd : cDd N s0 f q s) : crd_readPins x s = some (0, s) := by
  unfold crd_readPins
  rw [dPin h hd, bq, dPins7 h hd (by omega)]
theorem dRange (h : TKR 1 F n N P s0 t0) (hd : cDd N s0 f q s) : crd_readRange s = some (0, s) := by
  unfold crd_readRange
  rw [dK h hd, bq, gr (by omega), if_neg (by omega)]
theorem dL110 {x y : Int} (hd : cDd N s0 f q s) : ∃ s', crd_readLink_110 x y s = some (0, s') ∧ cDd N s0 f q s' := by
  obtain ⟨z1, z2, z3, z4, z5, z6, z7, z8⟩ := hd.2.1
  unfold crd_readLink_110
  rw [gr (by omega)]
  by_cases c : 500 ≤ s 71 14
  · rw [if_pos c]
    exact ⟨s, rfl, hd⟩
  · rw [if_neg c, gd_pos (by omega), lt_eq, up_ne (by omega), gd_pos (by omega), lt_eq, lt_eq]
    refine ⟨_, rfl, cDd_of hd (fun c k z => by rw [up_ne (by omega), up_ne (by omega), up_ne (by omega)]) ?_⟩
    have e : ∀ c k, c ≠ 85 → c ≠ 86 → ¬ (c = 71 ∧ k = 14) → up (up (up s 85 (s 71 14).toNat x) 86 (s 71 14).toNat y) 71 14 ((up (up s 85 (s 71 14).toNat x) 86 (s 71 14).toNat y) 71 14 + 1) c k = s c k := fun c k y1 y2 y3 => by rw [up_ne (by omega), up_ne (by omega), up_ne (by omega)]
    refine ⟨by rw [e 72 2 (by omega) (by omega) (by omega)]; exact z1, by rw [e 79 2 (by omega) (by omega) (by omega)]; exact z2, by rw [e 71 13 (by omega) (by omega) (by omega)]; exact z3, by rw [up_same, up_ne (by omega), up_ne (by omega)]; omega, by rw [e 87 2 (by omega) (by omega) (by omega)]; exact z5, fun i hi => by rw [e 73 i (by omega) (by omega) (by omega), e 74 i (by omega) (by omega) (by omega)]; exact z6 i hi, fun i hi => by rw [e 80 i (by omega) (by omega) (by omega), e 81 i (by omega) (by omega) (by omega)]; exact z7 i hi, STc_of z8 (fun c k z => e c k (by omega) (by omega) (by omega))⟩
theorem dLink {x : Int} (h : TKR 1 F n N P s0 t0) (hd : cDd N s0 f q s) : ∃ s', crd_readLink x s = some (0, s') ∧ cDd N s0 f q s' := by
  unfold crd_readLink
  rw [dEx h hd (by omega), bq, dRange h hd, bq, dEx h hd (by omega), bq, dK h hd, bq, gr (by omega), if_neg (by omega), dK h hd, bq, gr (by omega), if_neg (by omega), dK h hd, bq, gr (by omega), if_neg (by omega), dSt h hd, bq]
  exact dL110 hd
theorem dP103 {x y : Int} (h : TKR 1 F n N P s0 t0) (hd : cDd N s0 f q s) (hy : 0 ≤ y ∧ y ≤ 2000) : ∃ s', crd_readPart_103 x y s = some (0, s') ∧ cDd N s0 f q s' := by
  have e : crd_readPart_103 x y s = crd_readPart_146 s := by
    unfold crd_readPart_103
    rw [lp_end (f := fun l : Int × iS => crd_readPart_103b x (l.1) (l.2)) (e := s) (by
      show crd_readPart_103b x y s = _
      unfold crd_readPart_103b
      rw [gr (by omega)]
      by_cases c : 2000 ≤ y
      · rw [if_pos c]
      · rw [if_neg c, dK h hd, bq, gr (by omega), if_neg (by omega)])]
    rfl
  rw [e]
  have z3 := hd.2.1.2.2.1
  obtain ⟨s1, h1⟩ : ∃ s1, s1 = up s 84 (s 71 13).toNat (s 71 14) := ⟨_, rfl⟩
  have d1 : cDd N s0 f q s1 := cDd_of hd (fun c k z => by rw [h1, up_ne (by omega)]) (SZc_of hd.2.1 (fun c k z => by rw [h1, up_ne (by omega)]))
  refine ⟨s1, ?_, d1⟩
  unfold crd_readPart_146
  rw [gd_pos (by omega), lt_eq, ← h1, dEx h d1 (by omega), bq, dEx h d1 (by omega), bq]
theorem dC123 {y : Int} (h : TKR 1 F n N P s0 t0) (hd : cDd N s0 f q s) (hy : 0 ≤ y ∧ y ≤ 2000) (hv : 2 ≤ v ∧ v < 18) : ∃ s', crd_readChip_123 (v : Int) y s = some (0, s') ∧ cDd N s0 f q s' := by
  have e : crd_readChip_123 (v : Int) y s = crd_readChip_152 (v : Int) s := by
    unfold crd_readChip_123
    rw [lp_end (f := fun l : Int × iS => crd_readChip_123b (v : Int) (l.1) (l.2)) (e := s) (by
      show crd_readChip_123b (v : Int) y s = _
      unfold crd_readChip_123b
      rw [gr (by omega)]
      by_cases c : 2000 ≤ y
      · rw [if_pos c]
      · rw [if_neg c, dK h hd, bq, gr (by omega), if_neg (by omega)])]
    rfl
  rw [e]
  obtain ⟨s1, h1⟩ : ∃ s1, s1 = up s 78 (v + 1) (s 71 13) := ⟨_, rfl⟩
  have d1 : cDd N s0 f q s1 := cDd_of hd (fun c k z => by rw [h1, up_ne (by omega)]) (SZc_of hd.2.1 (fun c k z => by rw [h1, up_ne (by omega)]))
  refine ⟨s1, ?_, d1⟩
  unfold crd_readChip_152
  rw [gd_pos (by omega), lt_eq, show ((v : Int) + 1).toNat = v + 1 by omega, ← h1, dEx h d1 (by omega), bq]
/-- the rest of a chip -/
noncomputable def kC8 (v : Int) (s : iS) : Option (Int × iS) := bd (tok_expect 303 s) (fun _ s14 => bd (tok_expect 58 s14) (fun _ s15 => crd_readChip_123 v 0 s15))
noncomputable def kC7 (v : Int) (s : iS) : Option (Int × iS) := gd (0 ≤ (v + 1) ∧ (v + 1) < 19) (lt' (up s 76 (v + 1).toNat (s 79 2)) (fun s13 => kC8 v s13))
noncomputable def kC5 (v : Int) (s : iS) : Option (Int × iS) := bd (tok_expect 302 s) (fun _ s10 => bd (crd_readPins v s10) (fun _ s11 => kC7 v s11))
noncomputable def kC4 (v : Int) (s : iS) : Option (Int × iS) := gd (0 ≤ v ∧ v < 18) (lt' (up s 77 v.toNat (s 79 2)) (fun s9 => kC5 v s9))
theorem readChip_k : crd_readChip s = bd (tok_expect 300 s) (fun _ s1 => bd (crd_beginChip s1) (fun _ s2 => gd (rg (s2 2 13)) (if (s2 2 13) = 0 then bd (tok_expect 123 s2) (fun _ s5 => bd (tok_expect 301 s5) (fun _ s6 => bd (crd_readPins ((s2 72 2) - 1) s6) (fun _ s7 => kC4 ((s2 72 2) - 1) s7))) else some (0, s2)))) := rfl
theorem dC8 (h : TKR 1 F n N P s0 t0) (hd : cDd N s0 f q s) (hv : 2 ≤ v ∧ v < 18) : ∃ s', kC8 (v : Int) s = some (0, s') ∧ cDd N s0 f q s' := by
  unfold kC8
  rw [dEx h hd (by omega), bq, dEx h hd (by omega), bq]
  exact dC123 h hd (by omega) hv
theorem dC7 (h : TKR 1 F n N P s0 t0) (hd : cDd N s0 f q s) (hv : 2 ≤ v ∧ v < 18) : ∃ s', kC7 (v : Int) s = some (0, s') ∧ cDd N s0 f q s' := by
  unfold kC7
  rw [gd_pos (by omega), lt_eq, show ((v : Int) + 1).toNat = v + 1 by omega]
  exact dC8 h (cDd_of hd (fun c k z => up_ne (by omega)) (SZc_of hd.2.1 (fun c k z => up_ne (by omega)))) hv
theorem dC5 (h : TKR 1 F n N P s0 t0) (hd : cDd N s0 f q s) (hv : 2 ≤ v ∧ v < 18) : ∃ s', kC5 (v : Int) s = some (0, s') ∧ cDd N s0 f q s' := by
  unfold kC5
  rw [dEx h hd (by omega), bq, dPins h hd, bq]
  exact dC7 h hd hv
theorem dC4 (h : TKR 1 F n N P s0 t0) (hd : cDd N s0 f q s) (hv : 2 ≤ v ∧ v < 18) : ∃ s', kC4 (v : Int) s = some (0, s') ∧ cDd N s0 f q s' := by
  unfold kC4
  rw [gd_pos (by omega), lt_eq, Int.toNat_natCast]
  exact dC5 h (cDd_of hd (fun c k z => up_ne (by omega)) (SZc_of hd.2.1 (fun c k z => up_ne (by omega)))) hv
theorem dR39 {y : Int} (h : TKR 1 F n N P s0 t0) (hd : cDd N s0 f q s) (hy : 0 ≤ y ∧ y ≤ 2000) : crd_read_39 y s = some (0, s) := by
  unfold crd_read_39
  rw [lp_end (f := fun l : Int × iS => crd_read_39b (l.1) (l.2)) (e := s) (by
    show crd_read_39b y s = _
    unfold crd_read_39b
    rw [gr (by omega)]
    by_cases c : 2000 ≤ y
    · rw [if_pos c]
    · rw [if_neg c, dK h hd, bq, gr (by omega), if_neg (by omega)])]
  show crd_read_69 s = _
  unfold crd_read_69
  rw [dEx h hd (by omega), bq]
/-! the reference behind a fault -/
def rDd (N : Nat) (P : Nat → Nat) (t0 : iS) (f : Int) (q : Nat) (t : iS) : Prop := DRh N P t0 f q t ∧ SZr t ∧ 0 < f ∧ f < 3
theorem rDd_of (h : rDd N P t0 f q t) (ht : ∀ c k, c = 121 ∧ (k = 3 ∨ k = 10 ∨ k = 11 ∨ k = 12) ∨ 122 < c ∧ c < 128 → t' c k = t c k) (hz : SZr t') : rDd N P t0 f q t' := by
  obtain ⟨⟨⟨b1, b2, b3, b4, b5, b6⟩, d2, d3, p, d4, d5⟩, -, d6⟩ := h
  have r' : ∀ c, 122 < c ∧ c < 128 → t' c = t c := fun c z => funext fun k => ht c k (Or.inr z)
  exact ⟨⟨⟨by rw [r' 123 (by omega)]; exact b1, by rw [r' 124 (by omega)]; exact b2, by rw [r' 125 (by omega)]; exact b3, by rw [r' 126 (by omega)]; exact b4, by rw [r' 127 (by omega)]; exact b5, by rw [ht 121 3 (by omega)]; exact b6⟩, by rw [ht 121 11 (by omega)]; exact d2, by rw [ht 121 12 (by omega)]; exact d3, p, d4, by rw [ht 121 10 (by omega)]; exact d5⟩, hz, d6⟩
theorem SZr_of (h : SZr t) (ht : ∀ k, k = 122 ∨ k = 131 ∨ k = 134 → t' 121 k = t 121 k) : SZr t' := by
  unfold SZr
  rw [ht 122 (by omega), ht 131 (by omega), ht 134 (by omega)]
  exact h
theorem eSg (h : TKR 1 F n N P s0 t0) (hd : rDd N P t0 f q t) {c : Int} (hc : 33 ≤ c ∧ c ≤ 126) : m_needSign c t = some (0, t) := by
  obtain ⟨⟨d1, d2, d3, p, d4, d5⟩, -, d6⟩ := hd
  exact rNsD h d1 (by omega) d5 d4 hc
theorem eWd (h : TKR 1 F n N P s0 t0) (hd : rDd N P t0 f q t) {w : Int} (hw : 0 ≤ w ∧ w < 6) : m_needWord w t = some (0, t) := by
  obtain ⟨⟨d1, d2, d3, p, d4, d5⟩, -, d6⟩ := hd
  exact rNwD h d1 (by omega) d5 d4 hw
theorem e175 (h : TKR 1 F n N P s0 t0) (hd : rDd N P t0 f q t) : m_chip_175 t = some (0, t) := by
  have d6 := hd.2.2
  have d2 := hd.1.2.1
  unfold m_chip_175
  rw [lp_end (f := fun l : iS => m_chip_175b l) (e := t) (by
    show m_chip_175b t = _
    unfold m_chip_175b
    rw [gr (by omega), if_neg (by omega)])]
  show m_chip_198 t = _
  unfold m_chip_198
  rw [eSg h hd (by omega), bq]
theorem e164 (h : TKR 1 F n N P s0 t0) (hd : rDd N P t0 f q t) : m_chip_164 t = some (0, t) := by
  unfold m_chip_164
  rw [eWd h hd (by omega), bq, eSg h hd (by omega), bq, e175 h hd]
theorem e147 (h : TKR 1 F n N P s0 t0) (hd : rDd N P t0 f q t) : m_chip_147 t = some (0, t) := by
  have d6 := hd.2.2
  have d2 := hd.1.2.1
  unfold m_chip_147
  rw [eWd h hd (by omega), bq, gr (by omega), if_neg (by omega), e164 h hd]
theorem e100 {y : Int} (h : TKR 1 F n N P s0 t0) (hd : rDd N P t0 f q t) (hy : 0 ≤ y ∧ y ≤ 1) : m_part_100 y t = some (0, t) := by
  have d6 := hd.2.2
  have d2 := hd.1.2.1
  unfold m_part_100
  rw [lp_end (f := fun l : Int × iS => m_part_100b (l.1) (l.2)) (e := t) (by
    show m_part_100b y t = _
    unfold m_part_100b
    rw [gr (by omega)]
    by_cases c : y = 0
    · rw [if_pos c]
    · rw [if_neg c, gr (by omega), if_neg (by omega)])]
  show m_part_133 t = _
  unfold m_part_133
  rw [eSg h hd (by omega), bq, eSg h hd (by omega), bq]
end CHc
