/-! both machines: the items' annotation, marks -/
section RNj
variable {F : Nat → Int} {n N : Nat} {P : Nat → Nat} {s0 t0 : iS} {K : List Nat} {U : List urec} {W : List wrec} {Y : List Nat} {A : List (List itm)} {I C p w u i : Nat} {tr t1 t2 t3 s s' t t' : iS} {r : itm}
/-- the place of a statement -/
theorem PRG_11 (h : PRG F n N P s0 t0 K U W Y A I C p w tr t1 t2 t3) (hu : u < A.length) (hi : i < (A.getD u []).length) (hr : (A.getD u []).getD i (0, 0, 0, 0) = r) (hk : r.1 = 11 ∨ r.1 = 17) : t3 170 (stA A u + i) = (P r.2.2.2.toNat : Int) ∧ r.2.2.2.toNat < N := by
  obtain ⟨h1, h2, h3, ⟨h4, h5, h6, h7⟩, h8, h9, hf, h11, h12⟩ := h
  obtain ⟨pf, a1, a2, a3, a4, a5, a6⟩ := AOK_it h2
  obtain ⟨z1, -, -, -⟩ := h9
  obtain ⟨d1, d2, d3, d4⟩ := h11
  obtain ⟨y1, y2, y3, y4⟩ := h1.1
  obtain ⟨b1, -, b4, b5⟩ := a4 u i hu hi
  obtain ⟨-, -, -, r4, -, -, -⟩ := (a2 u hu).1 _ (gd_mem (d := ((0, 0, 0, 0) : itm)) hi)
  rw [hr] at b4 b5 r4
  obtain ⟨j, j1, j2, j3⟩ := r4 hk
  have e2 : ∀ c k, c ≠ 145 → c ≠ 169 → ¬ (152 ≤ c ∧ c ≤ 155) → c ≠ 121 → t2 c k = tr c k := fun c k q4 q5 q6 q7 => by
    rw [hf c k (by omega), z1 c k (by omega) q5 q4 q6]
  have k9 : ¬ (r.1 = 9 ∨ r.1 = 10) := by clear b5 a1 a2 a3 a4 a5 a6 r4; omega
  have e147 : tr 147 (stA A u + i) = (j : Int) := by
    rcases b5 with ⟨q1, -⟩ | ⟨-, -, -, -, q5⟩
    · exact absurd q1 k9
    · exact q5.trans j1
  clear b5
  rw [d3, if_pos b1, e2 147 _ (by omega) (by omega) (by omega) (by omega), e147, Int.toNat_natCast, e2 125 j (by omega) (by omega) (by omega) (by omega), y3.2.2.1, j1, Int.toNat_natCast]
  exact ⟨(tkP y1 (by omega)).2.1, by omega⟩
theorem PRG_P (h : PRG F n N P s0 t0 K U W Y A I C p w tr t1 t2 t3) {j : Nat} (hj : j < N) : P j ≤ 4000 := by
  obtain ⟨y1, y2, y3, y4⟩ := h.1.1
  have n4 := y2.2.1
  have := (tkP y1 hj).2.2
  omega
/-- no object in a function -/
theorem PRG_th (h : PRG F n N P s0 t0 K U W Y A I C p w tr t1 t2 t3) (hu : u < A.length) (hi : i < (A.getD u []).length) (hr : (A.getD u []).getD i (0, 0, 0, 0) = r) : (r.1 = 3 → soF U u ≠ 2) ∧ (r.1 = 4 ∨ r.1 = 13 → (wGt W (rvI F P t0 U W u r.2.2.2.toNat).toNat).2.1 = -1 ∧ (wGt W (rvI F P t0 U W u r.2.2.2.toNat).toNat).2.2.1 = 1 → soF U u ≠ 2) ∧ (r.1 = 9 ∨ r.1 = 10 → (r.2.1 = -1 → soF U u ≠ 2) ∧ (r.2.1 ≠ -1 → rvI F P t0 U W u r.2.1.toNat ≠ -1 → (wGt W (rvI F P t0 U W u r.2.1.toNat).toNat).2.1 = -1 ∧ (wGt W (rvI F P t0 U W u r.2.1.toNat).toNat).2.2.1 = 1 → soF U u ≠ 2)) := by
  obtain ⟨h1, h2, h3, ⟨h4, h5, h6, h7⟩, h8, h9, hf, h11, h12⟩ := h
  have hN := N1001 h1.1.1
  obtain ⟨pf, a1, a2, a3, a4, a5, a6⟩ := AOK_it h2
  obtain ⟨nn1, nn2⟩ := no_note hN (IOK_of h2 h3 (by omega)) (COK_of h2 h3 (by omega) hN) h12
  obtain ⟨b1, ⟨b2, b3⟩, b4, b5⟩ := a4 u i hu hi
  rw [hr] at b4 b5
  have g1 := nn1 _ b1
  generalize stA A u + i = k at *
  have u148 : (tr 148 k).toNat = u := by rw [b2, Int.toNat_natCast]
  unfold gI at g1
  rw [b4, u148] at g1
  refine ⟨fun q => ?_, fun q z1 z2 => ?_, fun q => ?_⟩
  · rw [if_pos q] at g1
    intro z
    rw [if_pos (show (uAt U u).2.1 = 2 from z)] at g1
    simp at g1
  · rw [if_neg (by omega), if_pos q] at g1
    have k9 : ¬ (r.1 = 9 ∨ r.1 = 10) := by clear b5 a1 a2 a3 a4 a5 a6; omega
    have e147 : tr 147 k = r.2.2.2 := by
      rcases b5 with ⟨q1, -⟩ | ⟨-, -, -, -, q5⟩
      · exact absurd q1 k9
      · exact q5
    have g2 := (List.append_eq_nil_iff.mp g1).2
    have g3 := (List.append_eq_nil_iff.mp g1).1
    rw [e147] at g2 g3
    by_cases v1 : rvI F P t0 U W u r.2.2.2.toNat = -1
    · rw [if_pos v1] at g3
      simp at g3
    · unfold vNt at g2
      rw [if_neg v1, if_pos ⟨z1, z2⟩] at g2
      simp at g2
  · rcases b5 with ⟨-, c, c1, c2, c3, c4, c5, c6, -⟩ | ⟨q1, q2, -⟩
    case inr => omega
    have g := nn2 c c2
    unfold gC ntR at g
    rw [c4, c5, c6, Int.toNat_natCast] at g
    obtain ⟨g2, g3⟩ := List.append_eq_nil_iff.mp g
    refine ⟨fun z y => ?_, fun z v1 z1 z2 => ?_⟩
    · by_cases o : owR F P s0 t0 K U W u r.2.1 = -1
      · rw [if_pos o] at g3
        split at g3 <;> simp at g3
      · rw [if_neg o] at g3
        unfold nt173 at g3
        split at g3
        · simp at g3
        · have g4 := (List.append_eq_nil_iff.mp g3).2
          unfold nt259 obR at g4
          rw [if_pos z, if_pos ⟨rfl, y⟩] at g4
          simp at g4
    · rw [if_neg z] at g2
      unfold vNt at g2
      rw [if_neg v1, if_pos ⟨z1, z2⟩] at g2
      simp at g2
/-- the annotation, item by item -/
theorem aA_s (hi : i < (A.getD u []).length) : aA F P s0 t0 K U W A u (i + 1) = nxA P (obF F P t0 U W u) (e0U F P s0 t0 K U W u) (aA F P s0 t0 K U W A u i) ((A.getD u []).getD i (0, 0, 0, 0)) := by
  unfold aA
  rw [List.take_succ_eq_append_getElem hi, fdA_app, List.getD_eq_getElem?_getD (l := A.getD u []), List.getElem?_eq_getElem hi]
  rfl
theorem rq_at (h : PRG F n N P s0 t0 K U W Y A I C p w tr t1 t2 t3) (hu : u < A.length) (hi : i < (A.getD u []).length) : rqA (obF F P t0 U W u) 360 (aA F P s0 t0 K U W A u i) ((A.getD u []).getD i (0, 0, 0, 0)) := by
  have o := (PRG_an h hu).1
  have e : A.getD u [] = (A.getD u []).take i ++ ((A.getD u []).getD i (0, 0, 0, 0) :: (A.getD u []).drop (i + 1)) := by
    have e1 : (A.getD u []).getD i (0, 0, 0, 0) = (A.getD u [])[i] := by
      rw [List.getD_eq_getElem?_getD, List.getElem?_eq_getElem hi]
      rfl
    rw [e1, List.getElem_cons_drop, List.take_append_drop]
  rw [e] at o
  exact ((okA_app _ _).mp o).2.1
theorem PRG_ev (h : PRG F n N P s0 t0 K U W Y A I C p w tr t1 t2 t3) (hu : u < A.length) (hi : i < (A.getD u []).length) (hr : (A.getD u []).getD i (0, 0, 0, 0) = r) (e : e0U F P s0 t0 K U W u r = true) : r.1 = 9 ∨ r.1 = 11 ∨ r.1 = 12 ∨ r.1 = 17 := by
  by_cases c9 : r.1 = 9
  · exact Or.inl c9
  by_cases c11 : r.1 = 11
  · exact Or.inr (Or.inl c11)
  by_cases c12 : r.1 = 12
  · exact Or.inr (Or.inr (Or.inl c12))
  by_cases c17 : r.1 = 17
  · exact Or.inr (Or.inr (Or.inr c17))
  have k2 := (PRG_an h hu).2.2.2.1 r (by rw [← hr]; exact gm hi)
  exact absurd (of_decide_eq_true e) (emU_ne h hu hi hr k2 c9 c11 c12 c17)
theorem i_next (h : PRG F n N P s0 t0 K U W Y A I C p w tr t1 t2 t3) (hu : u < A.length) (hi : i < (A.getD u []).length) (hr : (A.getD u []).getD i (0, 0, 0, 0) = r) (h18 : r.1 ≠ 18) : i + 1 < (A.getD u []).length := by
  obtain ⟨l, j, e⟩ := (PRG_an h hu).2.2.2.2
  rw [e] at hi hr ⊢
  rw [List.length_append] at hi ⊢
  by_cases c : i = l.length + 1
  · rw [List.getD_eq_getElem?_getD, List.getElem?_append_right (by omega), show i - l.length = 1 by omega] at hr
    exact absurd (by rw [← hr]; rfl) h18
  · have : ([(0, 0, 0, j), (18, 1, 0, j)] : List itm).length = 2 := rfl
    omega
/-- the tokens of the statements that are open; the mark that waits -/
theorem aA_ws (h : PRG F n N P s0 t0 K U W Y A I C p w tr t1 t2 t3) (hu : u < A.length) : ∀ i, i ≤ (A.getD u []).length → (∀ x ∈ (aA F P s0 t0 K U W A u i).2.1, x < N) ∧ ((aA F P s0 t0 K U W A u i).2.2.2 = -1 ∨ ((aA F P s0 t0 K U W A u i).2.2.1 = true ∧ ∃ w ws, (aA F P s0 t0 K U W A u i).2.1 = w :: ws ∧ (aA F P s0 t0 K U W A u i).2.2.2 = (P w : Int)))
  | 0, _ => ⟨fun x hx => by simp [aA, fdA] at hx, Or.inl rfl⟩
  | i + 1, hi => by
    obtain ⟨i1, i2⟩ := aA_ws h hu i (by omega)
    have rq := rq_at h hu (show i < (A.getD u []).length by omega)
    have ev := PRG_ev h hu (show i < (A.getD u []).length by omega) rfl
    have k11 := PRG_11 h hu (show i < (A.getD u []).length by omega) rfl
    rw [aA_s (by omega)]
    generalize aA F P s0 t0 K U W A u i = a at *
    generalize (A.getD u []).getD i (0, 0, 0, 0) = r at *
    obtain ⟨a1, a2, a3, a4⟩ := a
    obtain ⟨-, -, -, -, -, -, -, -, -, q10, q11⟩ := rq
    dsimp only at i1 i2 q10 q11
    by_cases c11 : r.1 = 11
    · have z := (k11 (Or.inl c11)).2
      have e : nxA P (obF F P t0 U W u) (e0U F P s0 t0 K U W u) (a1, a2, a3, a4) r = (a1, r.2.2.2.toNat :: a2, true, (P r.2.2.2.toNat : Int)) := by simp [nxA, c11]
      rw [e]
      refine ⟨fun x hx => ?_, Or.inr ⟨rfl, _, _, rfl, rfl⟩⟩
      rcases List.mem_cons.mp hx with q | q
      · rw [q]; exact z
      · exact i1 x q
    by_cases c17 : r.1 = 17
    · obtain ⟨w, hw⟩ := q11 c17
      have e : nxA P (obF F P t0 U W u) (e0U F P s0 t0 K U W u) (a1, a2, a3, a4) r = (a1, a2, true, (P r.2.2.2.toNat : Int)) := by simp [nxA, c17]
      rw [e]
      exact ⟨i1, Or.inr ⟨rfl, _, w, hw, rfl⟩⟩
    by_cases c12 : r.1 = 12
    · have z : a4 = -1 := q10 (Or.inr (Or.inl c12))
      have e : nxA P (obF F P t0 U W u) (e0U F P s0 t0 K U W u) (a1, a2, a3, a4) r = (a1, a2.tail, false, -1) := by simp [nxA, c12, z]
      rw [e]
      exact ⟨fun x hx => i1 x (List.mem_of_mem_tail hx), Or.inl rfl⟩
    by_cases e0 : e0U F P s0 t0 K U W u r = true
    · have c9 : r.1 = 9 := by
        rcases ev e0 with q | q | q | q
        · exact q
        · exact absurd q c11
        · exact absurd q c12
        · exact absurd q c17
      have e : nxA P (obF F P t0 U W u) (e0U F P s0 t0 K U W u) (a1, a2, a3, a4) r = (a1 + obF F P t0 U W u r.2.1, a2, a3, a4) := by simp [nxA, c9, e0]
      rw [e]
      exact ⟨i1, i2⟩
    · have e : (nxA P (obF F P t0 U W u) (e0U F P s0 t0 K U W u) (a1, a2, a3, a4) r).2.2.2 = -1 := by simp [nxA, c11, c17, e0]
      refine ⟨fun x hx => ?_, Or.inl e⟩
      have e3 : (nxA P (obF F P t0 U W u) (e0U F P s0 t0 K U W u) (a1, a2, a3, a4) r).2.1 = if r.1 = 18 then a2.tail else a2 := by simp [nxA, c11, c12]
      rw [e3] at hx
      split at hx
      · exact i1 x (List.mem_of_mem_tail hx)
      · exact i1 x hx
/-- the mark at an item's first command -/
theorem aA_pm : (aA F P s0 t0 K U W A u i).2.2.2 = pmM P (emU F P s0 t0 K U W u) (-1) ((A.getD u []).take i) := by
  unfold aA
  exact pmM_fd (fun r => by unfold e0U; exact decide_eq_true_iff) _ _
end RNj
