/-! the reference's checks: which class, which sub, which variable a name is -/
section RK2
theorem fst1_y {Q : Nat → Prop} [DecidablePred Q] {i k : Nat} (h : Q i) : fst1 Q i (k + 1) = (i : Int) := if_pos h
theorem fst1_n {Q : Nat → Prop} [DecidablePred Q] {i k : Nat} (h : ¬ Q i) : fst1 Q i (k + 1) = fst1 Q (i + 1) k := if_neg h
theorem fst1_split {Q : Nat → Prop} [DecidablePred Q] : ∀ (k i m : Nat), fst1 Q i (k + m) = if fst1 Q i k = -1 then fst1 Q (i + k) m else fst1 Q i k
  | 0, i, m => by
    rw [Nat.zero_add]
    rfl
  | k + 1, i, m => by
    rw [show k + 1 + m = (k + m) + 1 by omega]
    by_cases c : Q i
    · rw [fst1_y c, fst1_y c, if_neg (by omega)]
    · rw [fst1_n c, fst1_n c, fst1_split k (i + 1) m, show i + 1 + k = i + (k + 1) by omega]
theorem fst1_cg {Q Q' : Nat → Prop} [DecidablePred Q] [DecidablePred Q'] : ∀ (k i : Nat), (∀ x, i ≤ x → x < i + k → (Q x ↔ Q' x)) → fst1 Q i k = fst1 Q' i k
  | 0, _, _ => rfl
  | k + 1, i, h => by
    simp only [fst1]
    have e := h i (by omega) (by omega)
    rw [fst1_cg k (i + 1) (fun x h1 h2 => h x (by omega) (by omega))]
    by_cases c : Q i
    · rw [if_pos c, if_pos (e.mp c)]
    · rw [if_neg c, if_neg (fun z => c (e.mpr z))]
theorem fst1_sh {Q : Nat → Prop} [DecidablePred Q] {d : Nat} : ∀ (k i : Nat), fst1 Q (d + i) k = if fst1 (fun x => Q (d + x)) i k = -1 then -1 else (d : Int) + fst1 (fun x => Q (d + x)) i k
  | 0, _ => rfl
  | k + 1, i => by
    by_cases c : Q (d + i)
    · rw [fst1_y c, fst1_y (Q := fun x => Q (d + x)) c, if_neg (by omega)]
      omega
    · rw [fst1_n c, fst1_n (Q := fun x => Q (d + x)) c, Nat.add_assoc d i 1, fst1_sh k (i + 1)]
/-- beyond the range nothing is found: the range may be made shorter -/
theorem fst1_in {Q : Nat → Prop} [DecidablePred Q] {i k a b : Nat} (h : ∀ x, i ≤ x → x < i + k → Q x → a ≤ x ∧ x < a + b) (ha : i ≤ a) (hb : a + b ≤ i + k) : fst1 Q i k = fst1 Q a b := by
  rw [show k = (a - i) + (b + (i + k - a - b)) by omega, fst1_split, if_pos ((fst1_no _ _).mpr fun x h1 h2 hq => by have := h x h1 (by omega) hq; omega), show i + (a - i) = a by omega, fst1_split]
  by_cases c : fst1 Q a b = -1
  · rw [if_pos c, c]
    exact (fst1_no _ _).mpr fun x h1 h2 hq => by have := h x (by omega) (by omega) hq; omega
  · rw [if_neg c]
variable {F : Nat → Int} {n N : Nat} {P : Nat → Nat} {s0 t0 t : iS} {a b j : Nat} {K : List Nat} {U : List urec} {W : List wrec} {Y : List Nat}
/-- the text as the reference has it behind reading -/
def RG (F : Nat → Int) (n N : Nat) (P : Nat → Nat) (s0 t0 : iS) (K : List Nat) (U : List urec) (W : List wrec) (Y : List Nat) (t : iS) : Prop := RQ F n N P s0 t0 t ∧ RXT K U W t ∧ YOK s0 N Y K U W ∧ W.length ≤ 1100 ∧ (∀ u ∈ U, 0 ≤ u.1 ∧ u.1 < (K.length : Int)) ∧ (∀ i k, i ≤ k → k < U.length → (U.getD i (0, 0, 0, 0)).1 ≤ (U.getD k (0, 0, 0, 0)).1) ∧ (∀ r ∈ W, -1 ≤ r.2.1 ∧ -1 ≤ r.1 ∧ (r.2.1 = -1 → r.2.2.1 = 0 ∨ r.2.2.1 = 1) ∧ (r.2.1 ≠ -1 → r.2.2.1 = 2 ∨ r.2.2.1 = 3))
theorem gd_mem {α : Type} {l : List α} {d : α} {i : Nat} (h : i < l.length) : l.getD i d ∈ l := by
  rw [List.getD_eq_getElem?_getD, List.getElem?_eq_getElem h]
  exact List.getElem_mem _
theorem RG_K (h : RG F n N P s0 t0 K U W Y t) {i : Nat} (hi : i < K.length) : t 128 i = (K.getD i 0 : Nat) ∧ K.getD i 0 < N ∧ s0 9 (K.getD i 0) = 3 := ⟨h.2.1.2.1 i hi, h.2.2.1.2.2.2 _ (gd_mem hi)⟩
theorem RG_U (h : RG F n N P s0 t0 K U W Y t) {i : Nat} (hi : i < U.length) : t 130 i = (U.getD i (0, 0, 0, 0)).1 ∧ t 131 i = (U.getD i (0, 0, 0, 0)).2.1 ∧ t 132 i = ((U.getD i (0, 0, 0, 0)).2.2.1 : Nat) ∧ t 133 i = (U.getD i (0, 0, 0, 0)).2.2.2 ∧ (U.getD i (0, 0, 0, 0)).2.2.1 < N ∧ s0 9 (U.getD i (0, 0, 0, 0)).2.2.1 = 3 ∧ 0 ≤ (U.getD i (0, 0, 0, 0)).1 ∧ (U.getD i (0, 0, 0, 0)).1 < (K.length : Int) ∧ K.length ≤ 12 ∧ U.length ≤ 60 ∧ ((U.getD i (0, 0, 0, 0)).2.1 = 1 ∨ (U.getD i (0, 0, 0, 0)).2.1 = 2 ∨ (U.getD i (0, 0, 0, 0)).2.1 = 3) := by
  obtain ⟨h1, h2, h3, h4, h5, h6, h7⟩ := h
  obtain ⟨a1, a2, a3, a4⟩ := h2.2.2.2.2.1 i hi
  obtain ⟨b1, b2, b3, b4⟩ := h3.2.2.1 _ (gd_mem (d := (0, 0, 0, 0)) hi)
  have c := h5 _ (gd_mem (d := (0, 0, 0, 0)) hi)
  exact ⟨a1, a2, a3, a4, b2, b3, c.1, c.2, h2.2.2.1, h2.2.2.2.2.2.1, b4⟩
theorem RG_W (h : RG F n N P s0 t0 K U W Y t) {i : Nat} (hi : i < W.length) : (t 137 i = (W.getD i (0, 0, 0, 0, 0, 0, 0)).1 ∧ t 138 i = (W.getD i (0, 0, 0, 0, 0, 0, 0)).2.1 ∧ t 139 i = (W.getD i (0, 0, 0, 0, 0, 0, 0)).2.2.1 ∧ t 141 i = (W.getD i (0, 0, 0, 0, 0, 0, 0)).2.2.2.1 ∧ t 140 i = ((W.getD i (0, 0, 0, 0, 0, 0, 0)).2.2.2.2.1 : Nat)) ∧ (W.getD i (0, 0, 0, 0, 0, 0, 0)).2.2.2.2.1 < N ∧ s0 9 (W.getD i (0, 0, 0, 0, 0, 0, 0)).2.2.2.2.1 = 3 ∧ ((W.getD i (0, 0, 0, 0, 0, 0, 0)).1 < (K.length : Int) ∧ (W.getD i (0, 0, 0, 0, 0, 0, 0)).2.1 < (U.length : Int)) ∧ -1 ≤ (W.getD i (0, 0, 0, 0, 0, 0, 0)).2.1 ∧ -1 ≤ (W.getD i (0, 0, 0, 0, 0, 0, 0)).1 ∧ 0 ≤ (W.getD i (0, 0, 0, 0, 0, 0, 0)).2.2.1 ∧ (W.getD i (0, 0, 0, 0, 0, 0, 0)).2.2.1 ≤ 3 ∧ K.length ≤ 12 ∧ U.length ≤ 60 := by
  obtain ⟨h1, h2, h3, h4, h5, h6, h7⟩ := h
  obtain ⟨a1, a2, a3, a4, a5, _⟩ := h2.2.2.2.2.2.2.2.1 i hi
  have m := gd_mem (d := ((0, 0, 0, 0, 0, 0, 0) : wrec)) hi
  obtain ⟨b1, b2, b3⟩ := h3.2.1 _ m
  have c := h2.2.2.2.2.2.2.2.2.1 _ m
  have d := h7 _ m
  refine ⟨⟨a1, a2, a3, a4, a5⟩, b2, b3, c, d.1, d.2.1, ?_, ?_, h2.2.2.1, h2.2.2.2.2.2.1⟩
  · by_cases q : (W.getD i (0, 0, 0, 0, 0, 0, 0)).2.1 = -1
    · have := d.2.2.1 q; omega
    · have := d.2.2.2 q; omega
  · by_cases q : (W.getD i (0, 0, 0, 0, 0, 0, 0)).2.1 = -1
    · have := d.2.2.1 q; omega
    · have := d.2.2.2 q; omega
theorem sc_ok (h : RQ F n N P s0 t0 t) (hj : j < N ∧ s0 9 j = 3) : ∀ k i : Nat, i + k = 8 → m_systemClass_2 (j : Int) (i : Int) t = some (fst1 (fun x => sysCN.getD x [] = nmT F P t0 j) i k, t)
  | 0, i, hi => by
    have st : m_systemClass_2b (j : Int) (i : Int) t = some (.inr (.inr t)) := by
      unfold m_systemClass_2b
      rw [gr (by omega), if_pos (by omega)]
    unfold m_systemClass_2
    rw [lp_end (f := fun l : Int × iS => m_systemClass_2b (j : Int) (l.1) (l.2)) (l := ((i : Int), t)) st]
    rfl
  | k + 1, i, hi => by
    obtain ⟨y1, y2⟩ := h.2.2.2.1 i (by omega)
    have sw := List.all_eq_true.mp sysW_c i (List.mem_range.mpr (by omega))
    rw [Bool.and_eq_true] at sw
    have st : m_systemClass_2b (j : Int) (i : Int) t = if sysCN.getD i [] = nmT F P t0 j then some (.inr (.inl ((i : Int), t))) else some (.inl (((i + 1 : Nat) : Int), t)) := by
      unfold m_systemClass_2b
      rw [gr (by omega), if_neg (by omega), gd_pos (by omega), Int.toNat_natCast, y1, isy_ok h hj ⟨sw.1, of_decide_eq_true sw.2⟩, bq]
      by_cases c : nmT F P t0 j = sysCN.getD i []
      · rw [if_pos c, gr (by omega), if_neg (by omega), if_pos c.symm]
      · rw [if_neg c, gr (by omega), if_pos rfl, if_neg (fun e => c e.symm)]
        rfl
    simp only [fst1]
    by_cases c : sysCN.getD i [] = nmT F P t0 j
    · rw [if_pos c]
      unfold m_systemClass_2
      rw [lp_end (f := fun l : Int × iS => m_systemClass_2b (j : Int) (l.1) (l.2)) (l := ((i : Int), t)) (st.trans (if_pos c))]
      rfl
    · rw [if_neg c, ← sc_ok h hj k (i + 1) (by omega)]
      unfold m_systemClass_2
      rw [lp_next (f := fun l : Int × iS => m_systemClass_2b (j : Int) (l.1) (l.2)) (l := ((i : Int), t)) (st.trans (if_neg c))]
theorem sysc_ok (h : RQ F n N P s0 t0 t) (hj : j < N ∧ s0 9 j = 3) : m_systemClass (j : Int) t = some (fst1 (fun x => sysCN.getD x [] = nmT F P t0 j) 0 8, t) := by
  unfold m_systemClass
  exact sc_ok h hj 8 0 (by omega)
theorem co_end {v1 v2 v3 : Int} (h : m_classOf_8b v1 v2 v3 t = some (.inr (v2, t))) : m_classOf_8 v1 v2 v3 t = some (v2, t) := by
  unfold m_classOf_8
  rw [lp_end (f := fun l : Int × Int × iS => m_classOf_8b v1 (l.1) (l.2.1) (l.2.2)) (l := (v2, v3, t)) h]
  rfl
theorem co_ne {v2 v3 : Int} (h : RG F n N P s0 t0 K U W Y t) (h2 : v2 ≠ -1 ∧ -2147483648 ≤ v2 ∧ v2 ≤ 2147483647) (h3 : 0 ≤ v3 ∧ v3 < 100) : m_classOf_8 (j : Int) v2 v3 t = some (v2, t) := by
  refine co_end ?_
  have k1 := h.2.1.1
  have k2 := h.2.1.2.2.1
  unfold m_classOf_8b
  rw [gr (by omega), k1, gr (by omega)]
  by_cases c : (K.length : Int) ≤ v3
  · rw [if_pos c]
  · rw [if_neg c, gr h2.2, if_neg h2.1]
theorem co_ok (h : RG F n N P s0 t0 K U W Y t) (hj : j < N ∧ s0 9 j = 3) : ∀ k i : Nat, i + k = K.length → m_classOf_8 (j : Int) (-1) (i : Int) t = some (fst1 (fun x => (sysCN ++ K.map (nmT F P t0)).getD x [] = nmT F P t0 j) (8 + i) k, t)
  | 0, i, hi => by
    have k1 := h.2.1.1
    have k2 := h.2.1.2.2.1
    refine (co_end ?_).trans rfl
    unfold m_classOf_8b
    rw [gr (by omega), k1, gr (by omega), if_pos (by omega)]
  | k + 1, i, hi => by
    have k1 := h.2.1.1
    have k2 := h.2.1.2.2.1
    obtain ⟨k3, k4, k5⟩ := RG_K h (i := i) (by omega)
    have e : (sysCN ++ K.map (nmT F P t0)).getD (8 + i) [] = nmT F P t0 (K.getD i 0) := by
      rw [show 8 + i = sysCN.length + i from rfl, List.getD_eq_getElem?_getD, List.getElem?_append_right (by omega), show sysCN.length + i - sysCN.length = i by omega, List.getElem?_map, List.getD_eq_getElem?_getD, List.getElem?_eq_getElem (show i < K.length by omega)]
      rfl
    have st : m_classOf_8b (j : Int) (-1) (i : Int) t = some (.inl (if nmT F P t0 (K.getD i 0) = nmT F P t0 j then 8 + (i : Int) else -1, ((i + 1 : Nat) : Int), t)) := by
      unfold m_classOf_8b
      rw [gr (by omega), k1, gr (by omega), if_neg (by omega), gr (by omega), if_pos rfl, gd_pos (by omega), Int.toNat_natCast, k3, like_ok h.1 ⟨k4, k5⟩ hj, bq]
      by_cases c : nmT F P t0 (K.getD i 0) = nmT F P t0 j
      · rw [if_pos c, gr (by omega), if_neg (by omega), if_pos c]
        rfl
      · rw [if_neg c, gr (by omega), if_pos rfl, if_neg c]
        rfl
    have nx : m_classOf_8 (j : Int) (-1) (i : Int) t = m_classOf_8 (j : Int) (if nmT F P t0 (K.getD i 0) = nmT F P t0 j then 8 + (i : Int) else -1) ((i + 1 : Nat) : Int) t := by
      unfold m_classOf_8
      rw [lp_next (f := fun l : Int × Int × iS => m_classOf_8b (j : Int) (l.1) (l.2.1) (l.2.2)) (l := (-1, (i : Int), t)) st]
    rw [nx]
    by_cases c : nmT F P t0 (K.getD i 0) = nmT F P t0 j
    · rw [if_pos c, fst1_y (Q := fun x => (sysCN ++ K.map (nmT F P t0)).getD x [] = nmT F P t0 j) (e.trans c), co_ne h (by omega) (by omega)]
      rfl
    · rw [if_neg c, fst1_n (Q := fun x => (sysCN ++ K.map (nmT F P t0)).getD x [] = nmT F P t0 j) (fun z => c (e.symm.trans z)), co_ok h hj k (i + 1) (by omega)]
      rfl
/-- which class a name is -/
theorem cls_ok (h : RG F n N P s0 t0 K U W Y t) (hj : j < N ∧ s0 9 j = 3) : m_classOf (j : Int) t = some (fcK F P t0 K j, t) := by
  have e : fst1 (fun x => (sysCN ++ K.map (nmT F P t0)).getD x [] = nmT F P t0 j) 0 8 = fst1 (fun x => sysCN.getD x [] = nmT F P t0 j) 0 8 := fst1_cg 8 0 (fun x _ hx => by
    rw [List.getD_eq_getElem?_getD, List.getElem?_append_left (show x < sysCN.length from by show x < 8; omega), List.getD_eq_getElem?_getD])
  unfold m_classOf fcK
  rw [sysc_ok h.1 hj, bq, fst1_split, e]
  by_cases c : fst1 (fun x => sysCN.getD x [] = nmT F P t0 j) 0 8 = -1
  · rw [if_pos c, c]
    exact co_ok h hj K.length 0 (by omega)
  · rw [if_neg c]
    have := fst1_rg (P := fun x => sysCN.getD x [] = nmT F P t0 j) 8 0
    rw [co_ne h ⟨c, by omega, by omega⟩ (by omega)]
end RK2
