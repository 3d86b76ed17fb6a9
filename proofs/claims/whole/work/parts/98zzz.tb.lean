/-! the reference's checks: items and calls -/
section RK8
variable {F : Nat → Int} {n N : Nat} {P : Nat → Nat} {s0 t0 t t2 t' t'' : iS} {a b i j u q k : Nat} {K : List Nat} {U : List urec} {W : List wrec} {Y : List Nat} {ow y v : Int} {L : List Nat}
/-- what is noted of a variable that was found -/
def vNt (U : List urec) (W : List wrec) (q : Nat) (v : Int) (j : Nat) : List Nat := if v = -1 then [] else if ((wGt W v.toNat).2.1 = -1 ∧ (wGt W v.toNat).2.2.1 = 1) ∧ (uAt U q).2.1 = 2 then [16 * j + 6] else []
theorem cv_ok (h : RG F n N P s0 t0 K U W Y t) (hb : RBc P N L t) (hq : q < U.length) (hv : v = -1 ∨ (0 ≤ v ∧ v < (W.length : Int))) (hj : v ≠ -1 → j < N) : ∃ t', m_checkVariable (q : Int) v (j : Int) t = some (0, t') ∧ RBc P N (L ++ vNt U W q v j) t' ∧ FN t t' ∧ RG F n N P s0 t0 K U W Y t' := by
  have hW := h.2.2.2.1
  have triv : RBc P N (L ++ []) t := by rw [List.append_nil]; exact hb
  unfold m_checkVariable vNt
  rw [gr (by omega)]
  by_cases c : v = -1
  · rw [if_pos c, if_pos c]
    exact ⟨t, rfl, triv, FN_refl, h⟩
  · obtain ⟨i, ei⟩ : ∃ i : Nat, v = (i : Int) := ⟨v.toNat, by omega⟩
    subst ei
    obtain ⟨⟨b1, b2, b3, b4, b5⟩, b6, b7, ⟨b8, b8'⟩, b9, b10, b11, b12, b13, b14⟩ := RG_W h (i := i) (by omega)
    obtain ⟨u1, u2, u3, u4, u5, u6, u7, u8, u9, u10, u11⟩ := RG_U h hq
    rw [if_neg c, if_neg c, gd_pos (by omega), Int.toNat_natCast, Int.toNat_natCast, b2, b3, u2, gr (by omega)]
    unfold wGt uAt
    by_cases c1 : (W.getD i (0, 0, 0, 0, 0, 0, 0)).2.1 = -1
    · rw [if_pos c1, gr (by omega)]
      by_cases c2 : (W.getD i (0, 0, 0, 0, 0, 0, 0)).2.2.1 = 1
      · rw [if_pos c2, gd_pos (by omega), gr (by omega)]
        by_cases c3 : (U.getD q (0, 0, 0, 0)).2.1 = 2
        · rw [if_pos c3, if_pos ⟨⟨c1, c2⟩, c3⟩]
          obtain ⟨t', e1, e2, e3⟩ := note_ok (f := 6) h.1 hb (by omega) (hj c)
          exact ⟨t', by rw [show m_note 6 (j : Int) t = _ from e1, bq], e2, e3, RG_fr h (FN_FR e3)⟩
        · rw [if_neg c3, if_neg (fun e => c3 e.2)]
          exact ⟨t, rfl, triv, FN_refl, h⟩
      · rw [if_neg c2, if_neg (fun e => c2 e.1.2)]
        exact ⟨t, rfl, triv, FN_refl, h⟩
    · rw [if_neg c1, if_neg (fun e => c1 e.1.1)]
      exact ⟨t, rfl, triv, FN_refl, h⟩
/-- an item as the checks want it -/
def IOK (s0 : iS) (N : Nat) (U : List urec) (t2 : iS) (k : Nat) : Prop := (0 ≤ t2 144 k ∧ t2 144 k ≤ 20) ∧ (0 ≤ t2 148 k ∧ t2 148 k < (U.length : Int)) ∧ (t2 144 k = 3 ∨ t2 144 k = 4 ∨ t2 144 k = 13 → 0 ≤ t2 147 k ∧ t2 147 k < (N : Int)) ∧ (t2 144 k = 4 ∨ t2 144 k = 13 → s0 9 (t2 147 k).toNat = 3)
def gI (F : Nat → Int) (P : Nat → Nat) (t0 : iS) (U : List urec) (W : List wrec) (t2 : iS) (k : Nat) : List Nat :=
  if t2 144 k = 3 then (if (uAt U (t2 148 k).toNat).2.1 = 2 then [16 * (t2 147 k).toNat + 6] else [])
  else if t2 144 k = 4 ∨ t2 144 k = 13 then (if rvI F P t0 U W (t2 148 k).toNat (t2 147 k).toNat = -1 then [16 * (t2 147 k).toNat + 4] else []) ++ vNt U W (t2 148 k).toNat (rvI F P t0 U W (t2 148 k).toNat (t2 147 k).toNat) (t2 147 k).toNat
  else []
/-- row 145 behind the check of the items -/
def r145 (F : Nat → Int) (P : Nat → Nat) (t0 : iS) (U : List urec) (W : List wrec) (t2 : iS) (k : Nat) : Int := if t2 144 k = 4 ∨ t2 144 k = 13 then rvI F P t0 U W (t2 148 k).toNat (t2 147 k).toNat else t2 145 k
def FI (t t' : iS) : Prop := ∀ c k, ¬ (c = 121 ∧ (k = 69 ∨ k = 70)) → c ≠ 145 → t' c k = t c k
theorem FI_FR (h : FI t t') : FR t t' := fun c k q _ q3 _ => h c k (by omega) q3
theorem ci73 (h : RG F n N P s0 t0 K U W Y t) (hb : RBc P N L t) (hk : k < 5000) (hj : j < N ∧ s0 9 j = 3) (hq : q < U.length) (h147 : t 147 k = (j : Int)) : ∃ t', m_checkItems_73 (k : Int) (q : Int) t = some (.inl ((k : Int) + 1, up t' 145 k (rvI F P t0 U W q j))) ∧ RBc P N (L ++ ((if rvI F P t0 U W q j = -1 then [16 * j + 4] else []) ++ vNt U W q (rvI F P t0 U W q j) j)) t' ∧ FN t t' := by
  have hW := h.2.2.2.1
  have rr := rvI_rg (F := F) (P := P) (t0 := t0) (U := U) (W := W) (u := q) (j := j)
  have fin : ∀ (L' : List Nat) (t3 : iS), RBc P N L' t3 → FN t t3 → ∃ t4, m_checkItems_101 (k : Int) (q : Int) (rvI F P t0 U W q j) t3 = some (.inl ((k : Int) + 1, up t4 145 k (rvI F P t0 U W q j))) ∧ RBc P N (L' ++ vNt U W q (rvI F P t0 U W q j) j) t4 ∧ FN t t4 := fun L' t3 c1 c2 => by
    obtain ⟨t4, e1, e2, e3, e4⟩ := cv_ok (j := j) (RG_fr h (FN_FR c2)) c1 hq rr (fun _ => hj.1)
    refine ⟨t4, ?_, e2, FN_trans c2 e3⟩
    unfold m_checkItems_101
    rw [gd_pos (by omega), Int.toNat_natCast, c2 147 k (by omega), h147, e1, bq, lt_eq]
  unfold m_checkItems_73
  rw [gd_pos (by omega), Int.toNat_natCast, h147, var_ok h hj hq, bq, gr (by omega), h147]
  by_cases c : rvI F P t0 U W q j = -1
  · rw [if_pos c, if_pos c, ← List.append_assoc]
    obtain ⟨t', e1, e2, e3⟩ := note_ok (f := 4) h.1 hb (by omega) hj.1
    rw [show m_note 4 (j : Int) t = _ from e1, bq]
    exact fin _ t' e2 e3
  · rw [if_neg c, if_neg c, List.nil_append]
    exact fin _ t hb FN_refl
theorem items_ok {I : Nat} (h : RG F n N P s0 t0 K U W Y t) (hb : RBc P N L t) (hI : t 121 33 = (I : Int)) (hI2 : I ≤ 5000) (hk : ∀ k, k < I → IOK s0 N U t k) : ∃ t', m_checkItems t = some (0, t') ∧ RBc P N (L ++ (List.range I).flatMap (gI F P t0 U W t)) t' ∧ FI t t' ∧ RG F n N P s0 t0 K U W Y t' ∧ ∀ k, t' 145 k = if k < I then r145 F P t0 U W t k else t 145 k := by
  have hN := N1001 h.1.1
  have hU := h.2.1.2.2.2.2.2.1
  have B := lpN (f := m_checkItems_2b) (M := I) (I := fun i t' => RBc P N (L ++ (List.range i).flatMap (gI F P t0 U W t)) t' ∧ FI t t' ∧ ∀ k, t' 145 k = if k < i then r145 F P t0 U W t k else t 145 k) (fun i t1 hi ⟨q1, q2, q3⟩ => by
    have g := RG_fr h (FI_FR q2)
    obtain ⟨⟨k1, k1'⟩, ⟨k2, k2'⟩, k3, k4⟩ := hk i hi
    obtain ⟨q, eq⟩ : ∃ q : Nat, t 148 i = (q : Int) := ⟨(t 148 i).toNat, by omega⟩
    have hq : q < U.length := by omega
    obtain ⟨u1, u2, u3, u4, u5, u6, u7, u8, u9, u10, u11⟩ := RG_U g hq
    have f144 : t1 144 i = t 144 i := q2 144 i (by omega) (by omega)
    have f147 : t1 147 i = t 147 i := q2 147 i (by omega) (by omega)
    have f148 : t1 148 i = t 148 i := q2 148 i (by omega) (by omega)
    have keep : ¬ (t 144 i = 4 ∨ t 144 i = 13) → ∀ t4, FN t1 t4 → FI t t4 ∧ ∀ k, t4 145 k = if k < i + 1 then r145 F P t0 U W t k else t 145 k := fun c t4 f => by
      refine ⟨fun c k a1 a2 => (f c k a1).trans (q2 c k a1 a2), fun k => ?_⟩
      rw [f 145 k (by omega), q3 k]
      by_cases c1 : k < i
      · rw [if_pos c1, if_pos (by omega)]
      · rw [if_neg c1]
        by_cases c2 : k = i
        · rw [if_pos (by omega)]
          unfold r145
          rw [c2, if_neg c]
        · rw [if_neg (by omega)]
    unfold m_checkItems_2b
    rw [gr (by omega), q2 121 33 (by omega) (by omega), hI, gr (by omega), if_neg (by omega), gd_pos (by omega), Int.toNat_natCast, f144, f147, f148, eq, gr (by omega), rg_s, ← List.append_assoc, Int.toNat_natCast, u2]
    unfold gI
    rw [eq, Int.toNat_natCast]
    by_cases c3 : t 144 i = 3
    · rw [if_pos c3, if_pos c3, gd_pos (by omega), gr (by omega)]
      have e49 : ∀ t3, FN t1 t3 → m_checkItems_49 (i : Int) (q : Int) t3 = some (.inl ((i : Int) + 1, t3)) := fun t3 f => by
        unfold m_checkItems_49
        rw [gd_pos (by omega), Int.toNat_natCast, f 144 i (by omega), f144, gr (by omega), if_neg (by omega), if_neg (by omega)]
      change ∃ t', (if (uAt U q).2.1 = 2 then _ else _) = _ ∧ _
      by_cases c4 : (uAt U q).2.1 = 2
      · rw [if_pos c4, if_pos c4]
        obtain ⟨j, ej⟩ : ∃ j : Nat, t 147 i = (j : Int) := ⟨(t 147 i).toNat, by have := k3 (Or.inl c3); omega⟩
        rw [ej, Int.toNat_natCast]
        obtain ⟨t3, e1, e2, e3⟩ := note_ok (f := 6) (j := j) g.1 q1 (by omega) (by have := k3 (Or.inl c3); omega)
        rw [show m_note 6 (j : Int) t1 = _ from e1, bq, e49 t3 e3]
        obtain ⟨d1, d2⟩ := keep (by omega) t3 e3
        exact ⟨t3, rfl, e2, d1, d2⟩
      · rw [if_neg c4, if_neg c4, List.append_nil, e49 t1 FN_refl]
        obtain ⟨d1, d2⟩ := keep (by omega) t1 FN_refl
        exact ⟨t1, rfl, q1, d1, d2⟩
    · rw [if_neg c3, if_neg c3]
      unfold m_checkItems_49
      rw [gd_pos (by omega), Int.toNat_natCast, f144, gr (by omega)]
      by_cases c4 : t 144 i = 4 ∨ t 144 i = 13
      · have hj := k3 (by omega)
        obtain ⟨j, ej⟩ : ∃ j : Nat, t 147 i = (j : Int) := ⟨(t 147 i).toNat, by omega⟩
        have hj2 := k4 c4
        rw [ej, Int.toNat_natCast] at hj2
        obtain ⟨t3, e1, e2, e3⟩ := ci73 (k := i) (j := j) (q := q) g q1 (by omega) ⟨by omega, hj2⟩ hq (f147.trans ej)
        rw [if_pos c4, ej, Int.toNat_natCast, e1]
        have fin : RBc P N (L ++ (List.range i).flatMap (gI F P t0 U W t) ++ ((if rvI F P t0 U W q j = -1 then [16 * j + 4] else []) ++ vNt U W q (rvI F P t0 U W q j) j)) (up t3 145 i (rvI F P t0 U W q j)) ∧ FI t (up t3 145 i (rvI F P t0 U W q j)) ∧ ∀ k, up t3 145 i (rvI F P t0 U W q j) 145 k = if k < i + 1 then r145 F P t0 U W t k else t 145 k := by
          refine ⟨RBc_fr e2 (fun k _ => up_ne (by omega)), fun c k a1 a2 => by rw [up_ne (by omega)]; exact (e3 c k a1).trans (q2 c k a1 a2), fun k => ?_⟩
          by_cases c1 : k = i
          · subst c1
            rw [up_same, if_pos (by omega)]
            unfold r145
            rw [if_pos c4, eq, ej, Int.toNat_natCast, Int.toNat_natCast]
          · rw [up_ne (by omega), e3 145 k (by omega), q3 k]
            by_cases c2 : k < i
            · rw [if_pos c2, if_pos (by omega)]
            · rw [if_neg c2, if_neg (by omega)]
        by_cases c5 : t 144 i = 4
        · rw [if_pos c5]
          exact ⟨_, rfl, fin⟩
        · rw [if_neg c5, if_pos (by omega)]
          exact ⟨_, rfl, fin⟩
      · rw [if_neg c4, if_neg (by omega), if_neg (by omega), List.append_nil]
        obtain ⟨d1, d2⟩ := keep c4 t1 FN_refl
        exact ⟨t1, rfl, q1, d1, d2⟩) (fun t1 ⟨q1, q2, q3⟩ => by
    unfold m_checkItems_2b
    rw [gr (by omega), q2 121 33 (by omega) (by omega), hI, gr (by omega), if_pos (by omega)]) I 0 t (by omega) ⟨by rw [List.range_zero, List.flatMap_nil, List.append_nil]; exact hb, fun _ _ _ _ => rfl, fun k => by rw [if_neg (by omega)]⟩
  obtain ⟨t', b1, b2, b3, b4⟩ := B
  refine ⟨t', ?_, b2, b3, RG_fr h (FI_FR b3), b4⟩
  unfold m_checkItems m_checkItems_2
  rw [show lp (L := Int × iS) (E := iS) (fun l => m_checkItems_2b (l.1) (l.2)) (0, t) = _ from b1]
  rfl
end RK8
