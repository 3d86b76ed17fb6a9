/-! declarations: the reference's rows -/
def RXT (K : List Nat) (U : List urec) (W : List wrec) (t : iS) : Prop :=
  t 121 14 = (K.length : Int) ∧ (∀ i, i < K.length → t 128 i = (K.getD i 0 : Nat)) ∧ K.length ≤ 12 ∧
  t 121 17 = (U.length : Int) ∧ (∀ i, i < U.length → t 130 i = (U.getD i (0, 0, 0, 0)).1 ∧ t 131 i = (U.getD i (0, 0, 0, 0)).2.1 ∧ t 132 i = ((U.getD i (0, 0, 0, 0)).2.2.1 : Nat) ∧ t 133 i = (U.getD i (0, 0, 0, 0)).2.2.2) ∧ U.length ≤ 60 ∧
  t 121 25 = (W.length : Int) ∧ (∀ i, i < W.length → t 137 i = (W.getD i (0, 0, 0, 0, 0, 0, 0)).1 ∧ t 138 i = (W.getD i (0, 0, 0, 0, 0, 0, 0)).2.1 ∧ t 139 i = (W.getD i (0, 0, 0, 0, 0, 0, 0)).2.2.1 ∧ t 141 i = (W.getD i (0, 0, 0, 0, 0, 0, 0)).2.2.2.1 ∧ t 140 i = ((W.getD i (0, 0, 0, 0, 0, 0, 0)).2.2.2.2.1 : Nat) ∧ t 142 i = (W.getD i (0, 0, 0, 0, 0, 0, 0)).2.2.2.2.2.1 ∧ t 143 i = (W.getD i (0, 0, 0, 0, 0, 0, 0)).2.2.2.2.2.2) ∧
  (∀ r ∈ W, r.1 < (K.length : Int) ∧ r.2.1 < (U.length : Int)) ∧
  t 121 16 = (nwS W : Int) ∧ (K ≠ [] → t 121 60 = (nwC ((K.length : Int) - 1) W : Int)) ∧ (∀ c : Nat, c < K.length → t 129 c = (nwF (c : Int) W : Int)) ∧ (∀ u : Nat, u < U.length → t 134 u = (nwP (u : Int) W : Int) ∧ t 135 u = (nwV (u : Int) W : Int))
/-- one variable is told -/
noncomputable def dcl (t : iS) (w : Nat) (v1 v2 v3 v4 v5 v6 : Int) : iS := up (up (up (up (up (up (up (up t 137 w (t 121 14 - 1)) 138 w v1) 139 w v2) 140 w v4) 141 w v3) 142 w v5) 143 w v6) 121 25 ((w + 1 : Nat) : Int)
section TXd
variable {t t' : iS} {w : Nat} {v1 v2 v3 v4 v5 v6 : Int} {K : List Nat} {U : List urec} {W : List wrec}
theorem dcl_ne {c k : Nat} (h : ¬ (c = 121 ∧ k = 25)) (h2 : ¬ (137 ≤ c ∧ c ≤ 143 ∧ k = w)) : dcl t w v1 v2 v3 v4 v5 v6 c k = t c k := by
  unfold dcl
  rw [up_ne h, up_ne (by omega), up_ne (by omega), up_ne (by omega), up_ne (by omega), up_ne (by omega), up_ne (by omega), up_ne (by omega)]
theorem dcl_at : dcl t w v1 v2 v3 v4 v5 v6 137 w = t 121 14 - 1 ∧ dcl t w v1 v2 v3 v4 v5 v6 138 w = v1 ∧ dcl t w v1 v2 v3 v4 v5 v6 139 w = v2 ∧ dcl t w v1 v2 v3 v4 v5 v6 141 w = v3 ∧ dcl t w v1 v2 v3 v4 v5 v6 140 w = v4 ∧ dcl t w v1 v2 v3 v4 v5 v6 142 w = v5 ∧ dcl t w v1 v2 v3 v4 v5 v6 143 w = v6 ∧ dcl t w v1 v2 v3 v4 v5 v6 121 25 = ((w + 1 : Nat) : Int) := by
  unfold dcl
  refine ⟨?_, ?_, ?_, ?_, ?_, ?_, ?_, up_same _ _ _ _⟩
  · rw [up_ne (by omega), up_ne (by omega), up_ne (by omega), up_ne (by omega), up_ne (by omega), up_ne (by omega), up_ne (by omega), up_same]
  · rw [up_ne (by omega), up_ne (by omega), up_ne (by omega), up_ne (by omega), up_ne (by omega), up_ne (by omega), up_same]
  · rw [up_ne (by omega), up_ne (by omega), up_ne (by omega), up_ne (by omega), up_ne (by omega), up_same]
  · rw [up_ne (by omega), up_ne (by omega), up_ne (by omega), up_same]
  · rw [up_ne (by omega), up_ne (by omega), up_ne (by omega), up_ne (by omega), up_same]
  · rw [up_ne (by omega), up_ne (by omega), up_same]
  · rw [up_ne (by omega), up_same]
theorem mdcl_ok (h : t 121 25 = (w : Int)) (hw : w < 1100) : m_declare v1 v2 v3 v4 v5 v6 t = some (0, dcl t w v1 v2 v3 v4 v5 v6) := by
  have E : ∀ u : iS, u 121 25 = (w : Int) → (u 121 25).toNat = w := fun u hu => by rw [hu, Int.toNat_natCast]
  have A : ∀ u : iS, u 121 25 = (w : Int) → (0 ≤ u 121 25 ∧ u 121 25 < 1100) := fun u hu => by rw [hu]; omega
  have n1 : ∀ {u : iS} {c k : Nat} {x : Int}, c ≠ 121 → u 121 25 = (w : Int) → up u c k x 121 25 = (w : Int) := fun hc hu => by rw [up_ne (by omega)]; exact hu
  unfold m_declare dcl
  rw [gd_pos (A _ h), lt_eq, E _ h]
  have h1 : up t 137 w (t 121 14 - 1) 121 25 = (w : Int) := n1 (by omega) h
  rw [gd_pos (A _ h1), lt_eq, E _ h1]
  have h2 := n1 (c := 138) (k := w) (x := v1) (by omega) h1
  rw [gd_pos (A _ h2), lt_eq, E _ h2]
  have h3 := n1 (c := 139) (k := w) (x := v2) (by omega) h2
  rw [gd_pos (A _ h3), lt_eq, E _ h3]
  have h4 := n1 (c := 140) (k := w) (x := v4) (by omega) h3
  rw [gd_pos (A _ h4), lt_eq, E _ h4]
  have h5 := n1 (c := 141) (k := w) (x := v3) (by omega) h4
  rw [gd_pos (A _ h5), lt_eq, E _ h5]
  have h6 := n1 (c := 142) (k := w) (x := v5) (by omega) h5
  rw [gd_pos (A _ h6), lt_eq, E _ h6]
  have h7 := n1 (c := 143) (k := w) (x := v6) (by omega) h6
  rw [lt_eq, h7]
  rfl
theorem nw_add (W : List wrec) (r : wrec) : nwS (W ++ [r]) = nwS W + (if r.2.2.1 = 0 then 1 else 0) ∧ (∀ c, nwC c (W ++ [r]) = nwC c W + (if r.2.2.1 = 0 ∧ r.1 = c then 1 else 0)) ∧ (∀ c, nwF c (W ++ [r]) = nwF c W + (if r.2.2.1 = 1 ∧ r.1 = c then 1 else 0)) ∧ (∀ c, nwP c (W ++ [r]) = nwP c W + (if r.2.2.1 = 2 ∧ r.2.1 = c then 1 else 0)) ∧ (∀ c, nwV c (W ++ [r]) = nwV c W + (if r.2.2.1 = 3 ∧ r.2.1 = c then 1 else 0)) := by
  refine ⟨?_, fun c => ?_, fun c => ?_, fun c => ?_, fun c => ?_⟩ <;> simp [nwS, nwC, nwF, nwP, nwV, List.countP_append, List.countP_cons]
theorem gd_app {α : Type} {l : List α} {a d : α} {i : Nat} (hi : i < l.length) : (l ++ [a]).getD i d = l.getD i d := by
  simp [List.getD, List.getElem?_append_left hi]
theorem gd_end {α : Type} {l : List α} {a d : α} : (l ++ [a]).getD l.length d = a := by
  simp [List.getD]
/-- the rows behind one declaration -/
theorem RXT_add {v y : Int} {j : Nat} (h : RXT K U W t) (hv : v = 1 ∧ U ≠ [] ∨ v = 2 ∧ U ≠ [] ∨ v = 3 ∨ v = 4) (hK : K ≠ [])
    (hf : ∀ c k, ¬ (c = 121 ∧ (k = 25 ∨ v = 3 ∧ (k = 16 ∨ k = 60))) → ¬ (137 ≤ c ∧ c ≤ 143 ∧ k = W.length) → ¬ (v = 4 ∧ c = 129 ∧ k = K.length - 1) → ¬ (v = 1 ∧ c = 134 ∧ k = U.length - 1) → ¬ (v = 2 ∧ c = 135 ∧ k = U.length - 1) → t' c k = t c k)
    (h25 : t' 121 25 = ((W.length + 1 : Nat) : Int))
    (hr : t' 137 W.length = (wNew v K U W y j).1 ∧ t' 138 W.length = (wNew v K U W y j).2.1 ∧ t' 139 W.length = (wNew v K U W y j).2.2.1 ∧ t' 141 W.length = (wNew v K U W y j).2.2.2.1 ∧ t' 140 W.length = ((wNew v K U W y j).2.2.2.2.1 : Nat) ∧ t' 142 W.length = (wNew v K U W y j).2.2.2.2.2.1 ∧ t' 143 W.length = (wNew v K U W y j).2.2.2.2.2.2)
    (h3 : v = 3 → t' 121 16 = t 121 16 + 1 ∧ t' 121 60 = t 121 60 + 1) (h4 : v = 4 → t' 129 (K.length - 1) = t 129 (K.length - 1) + 1) (h1 : v = 1 → t' 134 (U.length - 1) = t 134 (U.length - 1) + 1) (h2 : v = 2 → t' 135 (U.length - 1) = t 135 (U.length - 1) + 1) : RXT K U (W ++ [wNew v K U W y j]) t' := by
  obtain ⟨a1, a2, a3, a4, a5, a6, a7, a8, a9, a10, a11, a12, a13⟩ := h
  obtain ⟨n1, n2, n3, n4, n5⟩ := nw_add W (wNew v K U W y j)
  have hK1 : 0 < K.length := List.length_pos_iff.mpr hK
  have hU1 : v = 1 ∨ v = 2 → 0 < U.length := fun q => List.length_pos_iff.mpr (by rcases hv with h | h | h | h <;> first | exact h.2 | omega)
  have cl : (wNew v K U W y j).1 = (K.length : Int) - 1 := rfl
  have S : v = 1 ∧ (wNew v K U W y j).2.2.1 = 2 ∧ (wNew v K U W y j).2.1 = (U.length : Int) - 1 ∨ v = 2 ∧ (wNew v K U W y j).2.2.1 = 3 ∧ (wNew v K U W y j).2.1 = (U.length : Int) - 1 ∨ v = 3 ∧ (wNew v K U W y j).2.2.1 = 0 ∧ (wNew v K U W y j).2.1 = -1 ∨ v = 4 ∧ (wNew v K U W y j).2.2.1 = 1 ∧ (wNew v K U W y j).2.1 = -1 := by
    rcases hv with h | h | h | h
    · exact Or.inl ⟨h.1, by simp [wNew, h.1], by simp [wNew, h.1]⟩
    · exact Or.inr (Or.inl ⟨h.1, by simp [wNew, h.1], by simp [wNew, h.1]⟩)
    · exact Or.inr (Or.inr (Or.inl ⟨h, by simp [wNew, h], by simp [wNew, h]⟩))
    · exact Or.inr (Or.inr (Or.inr ⟨h, by simp [wNew, h], by simp [wNew, h]⟩))
  refine ⟨?_, fun i hi => ?_, a3, ?_, fun i hi => ?_, a6, ?_, fun i hi => ?_, fun r hr' => ?_, ?_, ?_, fun c hc => ?_, fun u hu => ⟨?_, ?_⟩⟩
  · rw [hf 121 14 (by omega) (by omega) (by omega) (by omega) (by omega)]; exact a1
  · rw [hf 128 i (by omega) (by omega) (by omega) (by omega) (by omega)]; exact a2 i hi
  · rw [hf 121 17 (by omega) (by omega) (by omega) (by omega) (by omega)]; exact a4
  · rw [hf 130 i (by omega) (by omega) (by omega) (by omega) (by omega), hf 131 i (by omega) (by omega) (by omega) (by omega) (by omega), hf 132 i (by omega) (by omega) (by omega) (by omega) (by omega), hf 133 i (by omega) (by omega) (by omega) (by omega) (by omega)]; exact a5 i hi
  · rw [h25, List.length_append]; rfl
  · rw [List.length_append, List.length_singleton] at hi
    by_cases c : i < W.length
    · rw [gd_app c, hf 137 i (by omega) (by omega) (by omega) (by omega) (by omega), hf 138 i (by omega) (by omega) (by omega) (by omega) (by omega), hf 139 i (by omega) (by omega) (by omega) (by omega) (by omega), hf 140 i (by omega) (by omega) (by omega) (by omega) (by omega), hf 141 i (by omega) (by omega) (by omega) (by omega) (by omega), hf 142 i (by omega) (by omega) (by omega) (by omega) (by omega), hf 143 i (by omega) (by omega) (by omega) (by omega) (by omega)]
      exact a8 i c
    · have e : i = W.length := by omega
      rw [e, gd_end]
      exact hr
  · rcases List.mem_append.mp hr' with q | q
    · exact a9 r q
    · rw [List.mem_singleton.mp q, cl]
      omega
  · rw [n1]
    by_cases c : v = 3
    · rw [(h3 c).1, a10, if_pos (by omega)]
      omega
    · rw [hf 121 16 (by omega) (by omega) (by omega) (by omega) (by omega), a10, if_neg (by omega)]
      rfl
  · intro _
    rw [n2, cl]
    by_cases c : v = 3
    · rw [(h3 c).2, a11 hK, if_pos (by omega)]
      omega
    · rw [hf 121 60 (by omega) (by omega) (by omega) (by omega) (by omega), a11 hK, if_neg (by omega)]
      rfl
  · rw [n3, cl]
    by_cases c1 : v = 4 ∧ c = K.length - 1
    · rw [c1.2, h4 c1.1, ← c1.2, a12 c hc, if_pos (by omega)]
      omega
    · rw [hf 129 c (by omega) (by omega) (by omega) (by omega) (by omega), a12 c hc, if_neg (by omega)]
      rfl
  · rw [n4]
    by_cases c1 : v = 1 ∧ u = U.length - 1
    · rw [c1.2, h1 c1.1, ← c1.2, (a13 u hu).1, if_pos (by omega)]
      omega
    · rw [hf 134 u (by omega) (by omega) (by omega) (by omega) (by omega), (a13 u hu).1, if_neg (by omega)]
      rfl
  · rw [n5]
    by_cases c1 : v = 2 ∧ u = U.length - 1
    · rw [c1.2, h2 c1.1, ← c1.2, (a13 u hu).2, if_pos (by omega)]
      omega
    · rw [hf 135 u (by omega) (by omega) (by omega) (by omega) (by omega), (a13 u hu).2, if_neg (by omega)]
      rfl
end TXd
