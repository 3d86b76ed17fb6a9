/-! both machines: jumps -/
section RNy
variable {F : Nat → Int} {n N : Nat} {P : Nat → Nat} {s0 t0 : iS} {K : List Nat} {U : List urec} {W : List wrec} {Y : List Nat} {A : List (List itm)} {I C p w u i j k fu m : Nat} {tr t1 t2 t3 s s' t t' q qB sB s1 sa ta : iS} {r : itm} {f : frm} {g : List frm} {pv vv st st' L M : List Int} {ob v v' x y : Int}
/-- the condition of a while is asked -/
theorem I_17x (hP : PRG F n N P s0 t0 K U W Y A I C p w tr t1 t2 t3) (h : SIM F P s0 t0 K U W A t3 fu s t (u, i, pv, vv, st, ob) g) (hr : (A.getD u []).getD i (0, 0, 0, 0) = r) (hk : r.1 = 17) : ∃ (m : Nat) (s' t' : iS), TN m s s' ∧ m_run_141 t = m_run_141 t' ∧ t' 121 74 = t 121 74 ∧ ((m = 0 ∧ t' 121 96 = t 121 96 + 1 ∧ t' 121 96 ≤ (fu : Int) ∧ SIM F P s0 t0 K U W A t3 fu s' t' (u, i + 1, pv, vv, st, ob) g) ∨ (m = 1 ∧ t' 121 96 = t 121 96 ∧ FIN fu s' t')) := by
  obtain ⟨it, k5, e98, ⟨hu, hi⟩, rq, el, b3⟩ := SIM_k hP h hr
  have hi1 := i_next hP hu hi hr (by omega)
  have he := emU_no3 (F := F) (P := P) (s0 := s0) (t0 := t0) (K := K) (U := U) (W := W) (u := u) (r := r) (by omega)
  obtain ⟨e170, tN⟩ := PRG_11 hP hu hi hr (Or.inr hk)
  have pw := PRG_P hP tN
  have pm := rq.2.2.2.2.2.2.2.2.2.1 (by omega)
  obtain ⟨wt, hwt⟩ := rq.2.2.2.2.2.2.2.2.2.2 hk
  have hc : cpo F P s0 t0 K U W A u (i + 1) = cpo F P s0 t0 K U W A u i := by rw [cpo_s hi, hr, he]; rfl
  have ha : aA F P s0 t0 K U W A u (i + 1) = ((aA F P s0 t0 K U W A u i).1, (aA F P s0 t0 K U W A u i).2.1, true, (P r.2.2.2.toNat : Int)) := by
    rw [aA_s hi, hr]
    simp [nxA, hk]
  have h' := h
  obtain ⟨⟨⟨mm, g1⟩, -⟩, -, ⟨g6, g7⟩, ⟨g8, g9⟩, ⟨-, -, k3, k4, k5', k6⟩, -, -, ⟨l1, l2, l3, l4⟩, ⟨n1, n2, n3, n4, n5, n6⟩, ⟨-, e7⟩, -, -⟩ := h'
  dsimp only at n6 e7
  rw [if_pos pm] at n6
  have R0 : m_doItem t = bd (bd (m_step (up t 121 98 (t 121 98 + 1))) (fun _ s25 => some (0, s25))) (fun _ s40 => some (0, s40)) := by
    unfold m_doItem
    rw [lt_eq, e98, gd_pos (by omega), Int.toNat_natCast, up_ne (by omega), it.1, hk, gr (by omega)]
    simp only [Int.reduceEq, ↓reduceIte]
    unfold m_doStatementItem
    rw [gd_pos (by omega), Int.toNat_natCast, up_ne (by omega), it.1, hk, gr (by omega)]
    simp only [Int.reduceEq, ↓reduceIte]
  by_cases c : t 121 96 = (fu : Int)
  · have sx := st_n (t := up t 121 98 (t 121 98 + 1)) (x := (fu : Int)) (by rw [up_ne (by omega)]; exact c) (by rw [up_ne (by omega)]; exact n2) (by omega)
    obtain ⟨ty, hty⟩ : ∃ ty, ty = up (up t 121 98 (t 121 98 + 1)) 121 99 1 := ⟨_, rfl⟩
    have fy : ∀ c k, ¬ (c = 121 ∧ (k = 98 ∨ k = 99)) → ty c k = t c k := fun c k z => by rw [hty, up_ne (by omega), up_ne (by omega)]
    have y99 : ty 121 99 = 1 := by rw [hty, up_same]
    have R : m_doItem t = some (0, ty) := by rw [R0, sx, bq, bq, ← hty]
    have T := turn_x (q := s) hP g1 hu hi1 (by rw [ha]; show (P r.2.2.2.toNat : Int) ≠ -1; omega) l4 (by rw [hc]; exact e7) (fun _ _ _ _ => rfl) ⟨n4, by omega⟩ (by omega)
    rw [ha] at T
    refine ⟨1, _, ty, T, run_nx (r := 0) l2.2 R, fy 121 74 (by omega), Or.inr ⟨rfl, fy 121 96 (by omega), ?_⟩⟩
    refine FIN_mk hP h hwt ⟨by rw [up_same, y99], by rw [up_same]; decide, by rw [up_same]; decide⟩ (LB_of l1 (fun c k z => by rw [up_ne (by omega), up_ne (by omega)]) (fun c k z => fy c k (by omega))) ⟨by rw [up_ne (by omega), up_ne (by omega), fy 121 96 (by omega)]; omega, by rw [up_ne (by omega), up_ne (by omega)]; exact n4, by rw [up_ne (by omega), up_ne (by omega)]; omega⟩ ⟨by rw [up_ne (by omega), up_ne (by omega)], fy 121 89 (by omega)⟩ ⟨fy 121 95 (by omega), funext fun k => fy 185 k (by omega)⟩ (by rw [up_ne (by omega), up_same])
  · have sx := st_y (t := up t 121 98 (t 121 98 + 1)) (x := t 121 96) (y := (fu : Int)) (by rw [up_ne (by omega)]) (by rw [up_ne (by omega)]; exact n2) (by omega) (by omega)
    obtain ⟨ty, hty⟩ : ∃ ty, ty = up (up t 121 98 (t 121 98 + 1)) 121 96 (t 121 96 + 1) := ⟨_, rfl⟩
    have fy : ∀ c k, ¬ (c = 121 ∧ (k = 98 ∨ k = 96)) → ty c k = t c k := fun c k z => by rw [hty, up_ne (by omega), up_ne (by omega)]
    have y96 : ty 121 96 = t 121 96 + 1 := by rw [hty, up_same]
    have y98 : ty 121 98 = t 121 98 + 1 := by rw [hty, up_ne (by omega), up_same]
    have R : m_doItem t = some (0, ty) := by rw [R0, sx, bq, bq, ← hty]
    refine ⟨0, s, ty, TN_0, run_nx (r := 0) l2.2 R, fy 121 74 (by omega), Or.inl ⟨rfl, y96, by omega, ?_⟩⟩
    refine SIM_st (ws' := (aA F P s0 t0 K U W A u i).2.1) hP.2.2.2.2.1 h hi1 (fun _ _ _ _ => rfl) g6 (fun c k z1 z2 z3 => fy c k (by omega)) (RTK_of g7 (fy 121 87 (by omega)) (funext fun k => fy 180 k (by omega))) b3 (by rw [ha]) ⟨by rw [fy 121 95 (by omega)]; exact g8, fun k hk => by rw [fy 185 k (by omega)]; exact g9 k hk⟩ ⟨n4, by omega, ?_⟩ (by rw [y98, e98]; omega) (by rw [hc]; exact e7) (by rw [ha]; exact el) (fun _ z => ?_)
    · rw [ha, y96]
      show s 51 16 + (if (P r.2.2.2.toNat : Int) = -1 then 0 else 1) = _
      rw [if_neg (by omega)]; omega
    · rw [ha] at z
      exact absurd z (by show (P r.2.2.2.toNat : Int) ≠ -1; omega)
theorem I_17 (hP : PRG F n N P s0 t0 K U W Y A I C p w tr t1 t2 t3) (h : SIM F P s0 t0 K U W A t3 fu s t (u, i, pv, vv, st, ob) g) (hr : (A.getD u []).getD i (0, 0, 0, 0) = r) (hk : r.1 = 17) : STP F P s0 t0 K U W A t3 fu s t ((u, i, pv, vv, st, ob) :: g) := by
  obtain ⟨it, k5, e98, ⟨hu, hi⟩, rq, el, b3⟩ := SIM_k hP h hr
  have hi1 := i_next hP hu hi hr (by omega)
  have he := emU_no3 (F := F) (P := P) (s0 := s0) (t0 := t0) (K := K) (U := U) (W := W) (u := u) (r := r) (by omega)
  have hc : cpo F P s0 t0 K U W A u (i + 1) = cpo F P s0 t0 K U W A u i := by rw [cpo_s hi, hr, he]; rfl
  have n5 : t 121 96 ≤ (fu : Int) := h.2.2.2.2.2.2.2.2.1.2.2.2.2.1
  obtain ⟨m, s', t', a1, a2, a3, ⟨b1, b2, b4, b5⟩ | ⟨b1, b2, b4⟩⟩ := I_17x hP h hr hk
  · refine ⟨m, s', t', a1, a2, ⟨by omega, by omega⟩, Or.inl ⟨_, _, b5, ?_, ?_⟩⟩
    · show (m : Int) + (((cmN F P s0 t0 K U W A (u + 1)).length - cpo F P s0 t0 K U W A u (i + 1) + rmC F P s0 t0 K U W A g : Nat) : Int) ≤ (((cmN F P s0 t0 K U W A (u + 1)).length - cpo F P s0 t0 K U W A u i + rmC F P s0 t0 K U W A g : Nat) : Int) + _
      rw [hc, b1, b2]
      omega
    · rw [b2]
      show _ + (((A.getD u []).length - (i + 1) + rmI A g : Nat) : Int) < _ + (((A.getD u []).length - i + rmI A g : Nat) : Int)
      omega
  · refine ⟨m, s', t', a1, a2, ⟨by omega, by omega⟩, Or.inr ⟨b4, a3, ?_⟩⟩
    have : 0 ≤ (rmC F P s0 t0 K U W A ((u, i, pv, vv, st, ob) :: g) : Int) := Int.natCast_nonneg _
    omega
/-- where a jump goes -/
theorem jmp_t (hP : PRG F n N P s0 t0 K U W Y A I C p w tr t1 t2 t3) (hu : u < A.length) (hi : i < (A.getD u []).length) (hr : (A.getD u []).getD i (0, 0, 0, 0) = r) (hk : r.1 = 15 ∨ r.1 = 16) (he : ∀ c k, 128 ≤ c ∧ c ≤ 156 ∨ 169 ≤ c ∧ c ≤ 171 → t c k = t3 c k) : ∃ j, j + 1 < (A.getD u []).length ∧ t 145 (stA A u + i) = ((stA A u + j : Nat) : Int) ∧ ((A.getD u []).getD j (0, 0, 0, 0)).1 = 20 ∧ ((A.getD u []).getD j (0, 0, 0, 0)).2.1 = r.2.2.1 ∧ aA F P s0 t0 K U W A u (j + 1) = (0, (aA F P s0 t0 K U W A u i).2.1, false, -1) ∧ (i < j ∨ r.1 = 16 ∧ j + 1 < i ∧ ((A.getD u []).getD (j + 1) (0, 0, 0, 0)).1 = 17) := by
  obtain ⟨-, -, jp, -, -⟩ := PRG_an hP hu
  obtain ⟨j, j1, j2, j3, j4, j5⟩ := jp i hi (by rw [hr]; exact hk)
  have hj1 := i_next hP hu j1 rfl (by omega)
  have e145 : t 145 (stA A u + i) = tr 145 (stA A u + i) := by
    obtain ⟨h1, h2, h3, h4, h8, ⟨z1, z2, z3, z4⟩, hf, ⟨d1, d2, d3, d4⟩, h12⟩ := hP
    obtain ⟨pf, a1, a2, a3, a4, a5, a6⟩ := AOK_it h2
    obtain ⟨b1, -, b4, -⟩ := a4 u i hu hi
    rw [hr] at b4
    rw [he 145 _ (by omega), d1 145 _ (by omega) (by omega) (by omega), hf 145 _ (by omega), z3, if_pos b1]
    unfold r145
    rw [b4, if_neg (by omega)]
  have ej : aA F P s0 t0 K U W A u (j + 1) = (0, (aA F P s0 t0 K U W A u i).2.1, false, -1) := by
    have ev : e0U F P s0 t0 K U W u ((A.getD u []).getD j (0, 0, 0, 0)) = false := by
      unfold e0U emU emI
      rw [j3]
      simp only [Int.reduceEq, ↓reduceIte]
      rfl
    rcases j5 with ⟨-, q⟩ | ⟨-, -, -, q1, q2⟩
    · rw [aA_s j1]
      have q' : aA F P s0 t0 K U W A u j = (0, (aA F P s0 t0 K U W A u i).2.1, false, -1) := q
      rw [q']
      unfold nxA
      rw [j3, ev]
      simp
    · have q1' : (aA F P s0 t0 K U W A u (j + 1)).1 = 0 := q1
      have q2' : (aA F P s0 t0 K U W A u (j + 1)).2.1 = (aA F P s0 t0 K U W A u i).2.1 := q2
      have q3 : (aA F P s0 t0 K U W A u (j + 1)).2.2.1 = false := by
        rw [aA_s j1]
        unfold nxA
        rw [j3]
        simp
      have q4 : (aA F P s0 t0 K U W A u (j + 1)).2.2.2 = -1 := by
        rw [aA_s j1]
        unfold nxA
        rw [j3, ev]
        simp
      rw [← q1', ← q2', ← q3, ← q4]
  refine ⟨j, hj1, e145.trans j2, j3, by rw [j4, hr], ej, ?_⟩
  rcases j5 with ⟨q, -⟩ | ⟨q1, q2, q3, -⟩
  · exact Or.inl q
  · rw [hr] at q1
    exact Or.inr ⟨q1, q2, q3⟩
/-- the fourth of a jump -/
theorem fetchj {mm : Int} {x : crc} (hP : PRG F n N P s0 t0 K U W Y A I C p w tr t1 t2 t3) (hG : CPG F P s0 t0 K U W A mm s) (hu : u < A.length) (hi : i < (A.getD u []).length) (hr : (A.getD u []).getD i (0, 0, 0, 0) = r) (hm : m < (emU F P s0 t0 K U W u r).length) (hx : (emU F P s0 t0 K U W u r).getD m (0, 0, 0, 0) = x) (h12 : x.1 = 12 ∨ x.1 = 13) (hj : j < (A.getD u []).length) (h20 : ((A.getD u []).getD j (0, 0, 0, 0)).1 = 20) (hl : ((A.getD u []).getD j (0, 0, 0, 0)).2.1 = x.2.1) : s 18 (cpo F P s0 t0 K U W A u i + m) = ((cpo F P s0 t0 K U W A u (j + 1) : Nat) : Int) := by
  subst hr
  obtain ⟨g1, g2, g3, g4⟩ := hG
  obtain ⟨c1, c2⟩ := cM_it (F := F) (P := P) (s0 := s0) (t0 := t0) (K := K) (U := U) (W := W) hu hi hm hx
  obtain ⟨e1, e2, e3, e4, e5, e6, e7⟩ := g3 _ c1
  have lt := lb_tg (F := F) (P := P) (s0 := s0) (t0 := t0) (K := K) (U := U) (W := W) (PRG_an hP hu).2.1 hj h20
  rw [hl] at lt
  rw [c2, if_pos h12, lt] at e6
  exact e6 (by show ((cpo F P s0 t0 K U W A u (j + 1) : Nat) : Int) ≠ -9; omega) (by show ¬ (x.1 = 15 ∧ _); omega)
end RNy
