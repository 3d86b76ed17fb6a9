/-! both machines: jumps are done -/
section RNz
variable {F : Nat → Int} {n N : Nat} {P : Nat → Nat} {s0 t0 : iS} {K : List Nat} {U : List urec} {W : List wrec} {Y : List Nat} {A : List (List itm)} {I C p w u i j k fu m : Nat} {tr t1 t2 t3 s s' t t' q qB sB s1 sa ta tb : iS} {r : itm} {f : frm} {g : List frm} {pv vv st st' L M : List Int} {ob v v' x y : Int}
theorem di_20 (h98 : t 121 98 = (k : Int)) (hk : k < 5000) (h144 : t 144 k = 20) : m_doItem t = some (0, up t 121 98 ((k : Int) + 1)) := by
  unfold m_doItem
  rw [lt_eq, h98, gd_pos (by omega), Int.toNat_natCast, up_ne (by omega), h144, gr (by omega)]
  simp only [Int.reduceEq, ↓reduceIte]
  unfold m_doStatementItem
  rw [gd_pos (by omega), Int.toNat_natCast, up_ne (by omega), h144, gr (by omega)]
  simp only [Int.reduceEq, ↓reduceIte]
  rw [bq]
/-- both machines behind the label -/
theorem SIM_j (hP : PRG F n N P s0 t0 K U W Y A I C p w tr t1 t2 t3) (h : SIM F P s0 t0 K U W A t3 fu s t (u, i, pv, vv, st, ob) g) (hj : j + 1 < (A.getD u []).length) (h20 : ((A.getD u []).getD j (0, 0, 0, 0)).1 = 20) (ha : aA F P s0 t0 K U W A u (j + 1) = (0, (aA F P s0 t0 K U W A u i).2.1, false, -1))
    (m2 : sB 51 16 = t 121 96) (m4 : ∀ c k, ¬ (c = 51 ∧ (k = 16 ∨ k = 18)) → sB c k = s c k) (fs : ∀ c k, c ≠ 52 → ¬ (c = 51 ∧ (k = 6 ∨ k = 7)) → s' c k = sB c k) (h7 : s' 51 7 = ((cpo F P s0 t0 K U W A u (j + 1) : Nat) : Int)) (hst : STK s' (csG U g ++ (preF U (u, i, pv, vv, st, ob) ++ pv ++ vv ++ [])))
    (ft : FRx t ta) (hrt : RTK ta (rsG g ++ [])) (h98 : ta 121 98 = ((stA A u + j : Nat) : Int)) : ∃ tb, m_run_141 ta = m_run_141 tb ∧ SIM F P s0 t0 K U W A t3 fu s' tb (u, j + 1, pv, vv, [], ob) g ∧ tb 121 96 = t 121 96 ∧ tb 121 74 = t 121 74 := by
  have hu : u < A.length := h.2.1.1.1.1
  have h' := h
  obtain ⟨⟨-, g2, -⟩, -, -, ⟨g8, g9⟩, -, -, -, ⟨l1, l2, l3, l4⟩, ⟨n1, n2, n3, n4, n5, n6⟩, -, -, -⟩ := h'
  have it := (PRG_it hP hu (show j < (A.getD u []).length by omega)).1
  have kI : stA A u + j < 5000 := by
    obtain ⟨h1, h2, h3, ⟨h4, h5, h6, h7⟩, -⟩ := hP
    have hN := N1001 h1.1.1
    obtain ⟨pf, -, -, -, a4, -, -⟩ := AOK_it h2
    have := (a4 u j hu (by omega)).1
    omega
  have e144 : ta 144 (stA A u + j) = 20 := by rw [ft 144 _ (by omega) (by omega), g2 144 _ (by omega), it, h20]
  have R := di_20 h98 kI e144
  have t96 : 0 ≤ t 121 96 := by split at n6 <;> omega
  refine ⟨up ta 121 98 (((stA A u + j : Nat) : Int) + 1), run_nx (r := 0) (by rw [ft 121 99 (by omega) (by omega)]; exact l2.2) R, ?_, by rw [up_ne (by omega), ft 121 96 (by omega) (by omega)], by rw [up_ne (by omega), ft 121 74 (by omega) (by omega)]⟩
  have s16 : s' 51 16 = t 121 96 := by rw [fs 51 16 (by omega) (by omega)]; exact m2
  refine SIM_st (ws' := (aA F P s0 t0 K U W A u i).2.1) hP.2.2.2.2.1 h hj (fun c k z1 z2 => by rw [fs c k z2 (by omega), m4 c k (by omega)]) hst (fun c k z1 z2 z3 => by rw [up_ne (by omega), ft c k z2 (by omega)]) (RTK_of hrt (up_ne (by omega)) (funext fun k => up_ne (by omega))) (fun x hx => by simp at hx) (by rw [ha]) ⟨by rw [up_ne (by omega), ft 121 95 (by omega) (by omega)]; exact g8, fun k hk => by rw [up_ne (by omega), ft 185 k (by omega) (by omega)]; exact g9 k hk⟩ ⟨by omega, by rw [up_ne (by omega), ft 121 96 (by omega) (by omega)]; exact n5, ?_⟩ (by rw [up_same]; omega) h7 (by rw [ha]; rfl) (fun z => ?_)
  · rw [ha, up_ne (by omega), ft 121 96 (by omega) (by omega), s16]
    show _ + (if (-1 : Int) = -1 then 0 else 1) = _
    rw [if_pos rfl]
    omega
  · rw [ha] at z
    exact absurd (show false = true from z) (by decide)
theorem cpo_mono (h : i ≤ j) : cpo F P s0 t0 K U W A u i ≤ cpo F P s0 t0 K U W A u j := by
  have := fm_mono (l := A.getD u []) (em := emU F P s0 t0 K U W u) j i h
  unfold cpo
  omega
/-- a jump ahead -/
theorem STP_j (h : SIM F P s0 t0 K U W A t3 fu s t (u, i, pv, vv, st, ob) g) (hr : (A.getD u []).getD i (0, 0, 0, 0) = r) (hi : i < (A.getD u []).length) (hij : i < j) (hj : j + 1 < (A.getD u []).length) (hT : TN (emU F P s0 t0 K U W u r).length s s') (hR : m_run_141 t = m_run_141 tb) (hS : SIM F P s0 t0 K U W A t3 fu s' tb (u, j + 1, pv, vv, [], ob) g) (h96 : tb 121 96 = t 121 96) : STP F P s0 t0 K U W A t3 fu s t ((u, i, pv, vv, st, ob) :: g) := by
  have n5 : t 121 96 ≤ (fu : Int) := h.2.2.2.2.2.2.2.2.1.2.2.2.2.1
  refine ⟨_, s', tb, hT, hR, ⟨by omega, by omega⟩, Or.inl ⟨_, _, hS, ?_, ?_⟩⟩
  · have e1 := cpo_s (F := F) (P := P) (s0 := s0) (t0 := t0) (K := K) (U := U) (W := W) hi
    have e2 := cpo_le (F := F) (P := P) (s0 := s0) (t0 := t0) (K := K) (U := U) (W := W) (i := j + 1) (show j + 1 ≤ (A.getD u []).length by omega)
    have e3 := cpo_mono (F := F) (P := P) (s0 := s0) (t0 := t0) (K := K) (U := U) (W := W) (A := A) (u := u) (i := i + 1) (j := j + 1) (by omega)
    rw [hr] at e1
    rw [h96]
    show (((emU F P s0 t0 K U W u r).length : Nat) : Int) + (((cmN F P s0 t0 K U W A (u + 1)).length - cpo F P s0 t0 K U W A u (j + 1) + rmC F P s0 t0 K U W A g : Nat) : Int) ≤ (((cmN F P s0 t0 K U W A (u + 1)).length - cpo F P s0 t0 K U W A u i + rmC F P s0 t0 K U W A g : Nat) : Int) + _
    omega
  · rw [h96]
    show _ + (((A.getD u []).length - (j + 1) + rmI A g : Nat) : Int) < _ + (((A.getD u []).length - i + rmI A g : Nat) : Int)
    omega
/-- goto -/
theorem I_16 (hP : PRG F n N P s0 t0 K U W Y A I C p w tr t1 t2 t3) (h : SIM F P s0 t0 K U W A t3 fu s t (u, i, pv, vv, st, ob) g) (hr : (A.getD u []).getD i (0, 0, 0, 0) = r) (hk : r.1 = 16) : STP F P s0 t0 K U W A t3 fu s t ((u, i, pv, vv, st, ob) :: g) := by
  obtain ⟨it, k5, e98, ⟨hu, hi⟩, rq, el, b3⟩ := SIM_k hP h hr
  obtain ⟨mm, g1⟩ := h.1.1
  have l2 := h.2.2.2.2.2.2.2.1.2.1
  have n5 : t 121 96 ≤ (fu : Int) := h.2.2.2.2.2.2.2.2.1.2.2.2.2.1
  have s0' : st = [] := by
    have := rq.2.2.2.2.1 (by omega)
    exact List.length_eq_zero_iff.mp (by omega)
  obtain ⟨j, j1, j2, j3, j4, j5, j6⟩ := jmp_t hP hu hi hr (Or.inr hk) h.1.2.1
  have he : emU F P s0 t0 K U W u r = [(12, r.2.2.1, 0, -9)] := by
    unfold emU emI
    rw [hk]
    simp only [Int.reduceEq, ↓reduceIte]
  obtain ⟨sB, m1, m2, m3, m4, m5⟩ := SIM_mk hP h
  obtain ⟨q1, q2⟩ := SIM_q h m4 (v := ((cpo F P s0 t0 K U W A u i + 1 : Nat) : Int))
  have e4 := fetchj (m := 0) (x := (12, r.2.2.1, 0, -9)) hP g1 hu hi hr (by rw [he]; simp) (by rw [he]; rfl) (Or.inl rfl) (show j < (A.getD u []).length by omega) j3 j4
  rw [Nat.add_zero] at e4
  have T : TN 1 s (up (up sB 51 7 ((cpo F P s0 t0 K U W A u i + 1 : Nat) : Int)) 51 7 ((cpo F P s0 t0 K U W A u (j + 1) : Nat) : Int)) := step0 h hr m1 (by rw [he]; simp) (x := (12, r.2.2.1, 0, -9)) (by rw [he]; rfl) (by rw [e4]; exact c_goto q2)
  have R : m_doItem t = some (0, up (up t 121 98 (t 121 98 + 1)) 121 98 ((stA A u + j : Nat) : Int)) := by
    unfold m_doItem
    rw [lt_eq, e98, gd_pos (by omega), Int.toNat_natCast, up_ne (by omega), it.1, hk, gr (by omega)]
    simp only [Int.reduceEq, ↓reduceIte]
    unfold m_doStatementItem
    rw [gd_pos (by omega), Int.toNat_natCast, up_ne (by omega), it.1, hk, gr (by omega)]
    simp only [Int.reduceEq, ↓reduceIte]
    rw [up_ne (by omega), j2, lt_eq, bq]
  rw [s0'] at q1
  obtain ⟨tb, b1, b2, b4, b5⟩ := SIM_j (s' := up (up sB 51 7 ((cpo F P s0 t0 K U W A u i + 1 : Nat) : Int)) 51 7 ((cpo F P s0 t0 K U W A u (j + 1) : Nat) : Int)) (ta := up (up t 121 98 (t 121 98 + 1)) 121 98 ((stA A u + j : Nat) : Int)) hP h j1 j3 j5 m2 m4 (fun c k z1 z2 => by rw [up_ne (by omega), up_ne (by omega)]) (up_same _ _ _ _) (STK_of (by rw [s0']; exact q1) (up_ne (by omega)) (funext fun k => up_ne (by omega))) (fun c k z1 z2 => by rw [up_ne (by omega), up_ne (by omega)]) (RTK_of (by have := h.2.2.1.2; rw [s0'] at this; exact this) (by rw [up_ne (by omega), up_ne (by omega)]) (funext fun k => by rw [up_ne (by omega), up_ne (by omega)])) (up_same _ _ _ _)
  have RR := (run_nx (r := 0) l2.2 R).trans b1
  rcases j6 with c | ⟨-, c2, c3⟩
  · exact STP_j h hr hi c j1 (by rw [he]; exact T) RR b2 b4
  · -- back: the condition is asked again
    obtain ⟨m', s2, t2', x1, x2, x3, ⟨y1, y2, y3, y4⟩ | ⟨y1, y2, y3⟩⟩ := I_17x hP b2 rfl c3
    · have cl := g1.2.1
      have mo := cmN_mono (F := F) (P := P) (s0 := s0) (t0 := t0) (K := K) (U := U) (W := W) (A := A) (u := u + 1) A.length (by omega)
      have e1 := cpo_s (F := F) (P := P) (s0 := s0) (t0 := t0) (K := K) (U := U) (W := W) hi
      have e2 := cpo_le (F := F) (P := P) (s0 := s0) (t0 := t0) (K := K) (U := U) (W := W) (i := i + 1) (show i + 1 ≤ (A.getD u []).length by omega)
      rw [hr, he] at e1
      have e1' : cpo F P s0 t0 K U W A u (i + 1) = cpo F P s0 t0 K U W A u i + 1 := e1
      have kl : (A.getD u []).length ≤ 5000 := by
        obtain ⟨h1, h2, h3, ⟨h4, h5, h6, h7⟩, -⟩ := hP
        have hN := N1001 h1.1.1
        obtain ⟨pf, -, -, -, a4, -, -⟩ := AOK_it h2
        have := (a4 u ((A.getD u []).length - 1) hu (by omega)).1
        omega
      refine ⟨1 + m', s2, t2', TN_add T x1, RR.trans x2, ⟨by omega, by omega⟩, Or.inl ⟨_, _, y4, ?_, ?_⟩⟩
      · rw [y2, b4, y1]
        show ((1 + 0 : Nat) : Int) + (((cmN F P s0 t0 K U W A (u + 1)).length - cpo F P s0 t0 K U W A u (j + 1 + 1) + rmC F P s0 t0 K U W A g : Nat) : Int) ≤ (((cmN F P s0 t0 K U W A (u + 1)).length - cpo F P s0 t0 K U W A u i + rmC F P s0 t0 K U W A g : Nat) : Int) + _
        omega
      · rw [y2, b4]
        show _ + (((A.getD u []).length - (j + 1 + 1) + rmI A g : Nat) : Int) < _ + (((A.getD u []).length - i + rmI A g : Nat) : Int)
        omega
    · refine ⟨1 + m', s2, t2', TN_add T x1, RR.trans x2, ⟨by omega, by omega⟩, Or.inr ⟨y3, by rw [x3, b5], ?_⟩⟩
      have : 0 ≤ (rmC F P s0 t0 K U W A ((u, i, pv, vv, st, ob) :: g) : Int) := Int.natCast_nonneg _
      omega
/-- a jump if the value is 0 -/
theorem I_15 (hP : PRG F n N P s0 t0 K U W Y A I C p w tr t1 t2 t3) (h : SIM F P s0 t0 K U W A t3 fu s t (u, i, pv, vv, st, ob) g) (hr : (A.getD u []).getD i (0, 0, 0, 0) = r) (hk : r.1 = 15) : STP F P s0 t0 K U W A t3 fu s t ((u, i, pv, vv, st, ob) :: g) := by
  obtain ⟨it, k5, e98, ⟨hu, hi⟩, rq, el, b3⟩ := SIM_k hP h hr
  obtain ⟨L1, L2⟩ := SIM_len hP h
  obtain ⟨mm, g1⟩ := h.1.1
  have l2 := h.2.2.2.2.2.2.2.1.2.1
  have rt := h.2.2.1.2
  have h1 : st.length = 1 := by rw [el]; exact rq.2.2.2.1 (Or.inl hk)
  obtain ⟨x, est⟩ := List.length_eq_one_iff.mp h1
  have wx : w16 x := b3 x (by rw [est]; simp)
  obtain ⟨j, j1, j2, j3, j4, j5, j6⟩ := jmp_t hP hu hi hr (Or.inl hk) h.1.2.1
  have hij : i < j := by
    rcases j6 with z | ⟨z, -⟩
    · exact z
    · omega
  have he : emU F P s0 t0 K U W u r = [(0, 0, 0, 0), (8, 0, 0, 0), (13, r.2.2.1, 0, -9)] := by
    unfold emU emI
    rw [hk]
    simp only [Int.reduceEq, ↓reduceIte]
  have L1' : (csG U g ++ (preF U (u, i, pv, vv, st, ob) ++ pv ++ vv ++ [])).length + 1 ≤ 15360 := by
    have : (csG U g ++ (preF U (u, i, pv, vv, st, ob) ++ pv ++ vv ++ st)).length ≤ 15360 := L1
    rw [est, show ([x] : List Int) = [] ++ [x] from rfl, L4, List.length_append, List.length_singleton] at this
    rw [est]
    exact this
  have L2' : (rsG g ++ []).length + 1 ≤ 15360 := by
    have : (rsG g ++ st).length ≤ 15360 := L2
    rw [est, List.length_append, List.length_singleton] at this
    rw [List.append_nil]
    exact this
  -- the class
  have C : ∀ sB, MKB s (aA F P s0 t0 K U W A u i).2.2.2 sB → sB 51 16 = t 121 96 → (∀ c k, ¬ (c = 51 ∧ (k = 16 ∨ k = 18)) → sB c k = s c k) → ∃ s', TN 3 s s' ∧ STK s' (csG U g ++ (preF U (u, i, pv, vv, st, ob) ++ pv ++ vv ++ [])) ∧ (∀ c k, c ≠ 52 → ¬ (c = 51 ∧ (k = 6 ∨ k = 7)) → s' c k = sB c k) ∧ s' 51 7 = if x = 0 then ((cpo F P s0 t0 K U W A u (j + 1) : Nat) : Int) else ((cpo F P s0 t0 K U W A u i + 3 : Nat) : Int) := fun sB m1 m2 m4 => by
    obtain ⟨q1, q2⟩ := SIM_q h m4 (v := ((cpo F P s0 t0 K U W A u i + 1 : Nat) : Int))
    rw [show csG U g ++ (preF U (u, i, pv, vv, st, ob) ++ pv ++ vv ++ st) = (csG U g ++ (preF U (u, i, pv, vv, st, ob) ++ pv ++ vv ++ [])) ++ [x] by rw [← L4, ← est]; rfl] at q1
    generalize hLL : csG U g ++ (preF U (u, i, pv, vv, st, ob) ++ pv ++ vv ++ []) = LL at *
    have lx : (LL ++ [x]).length = LL.length + 1 := by rw [List.length_append, List.length_singleton]
    have e0 := fetch4 (m := 0) (x := (0, 0, 0, 0)) g1 hu hi hr (by rw [he]; simp) (by rw [he]; rfl) (by simp) (by simp) (by simp) (by simp)
    rw [Nat.add_zero] at e0
    obtain ⟨s1, d1, d2, d3⟩ := c_push (a := 0) (b := 0) (c := 0) (v := 0) q1 (by omega) q2 v_con
    have tn0 := step0 h hr m1 (by rw [he]; simp) (x := (0, 0, 0, 0)) (by rw [he]; rfl) (by rw [e0]; exact d1)
    have cx1 := CX_fs d3
    have nf1 := nf_fs q2 d3
    have e1 := fetch4 (m := 1) (x := (8, 0, 0, 0)) g1 hu hi hr (by rw [he]; simp) (by rw [he]; rfl) (by simp) (by simp) (by simp) (by simp)
    rw [List.append_assoc] at d2
    obtain ⟨s2, d4, d5, d6⟩ := c_two (s := up s1 51 7 ((cpo F P s0 t0 K U W A u i + (1 + 1) : Nat) : Int)) (k := 8) (a := 0) (b := 0) (c := 0) (x := x) (y := 0) (L := LL) (by omega) (STK_of d2 (up_ne (by omega)) (funext fun k => up_ne (by omega))) (by omega) ⟨by rw [up_ne (by omega)]; exact nf1.1, by rw [up_ne (by omega)]; exact nf1.2⟩ wx (by decide)
    have tn1 := stepm (m := 1) h hr m1 m2 m4 (by decide) cx1 (by rw [he]; simp) (x := (8, 0, 0, 0)) (by rw [he]; rfl) (by rw [e1]; exact d4)
    have cx2 := CX_fs2 cx1 d6
    have f1 : ∀ c k, c ≠ 52 → ¬ (c = 51 ∧ (k = 6 ∨ k = 7)) → s1 c k = sB c k := fun c k z1 z2 => by rw [d3 c k z1 (by omega), up_ne (by omega)]
    have f2 : ∀ c k, c ≠ 52 → ¬ (c = 51 ∧ (k = 6 ∨ k = 7)) → s2 c k = sB c k := fun c k z1 z2 => by rw [d6 c k z1 (by omega), up_ne (by omega)]; exact f1 c k z1 z2
    simp only [Int.reduceEq, ↓reduceIte] at d5
    have e2 := fetchj (m := 2) (x := (13, r.2.2.1, 0, -9)) hP g1 hu hi hr (by rw [he]; simp) (by rw [he]; rfl) (Or.inr rfl) (show j < (A.getD u []).length by omega) j3 j4
    obtain ⟨s3, p1, p2, p3⟩ := pop_ex (s := up s2 51 7 ((cpo F P s0 t0 K U W A u i + (2 + 1) : Nat) : Int)) (STK_of d5 (up_ne (by omega)) (funext fun k => up_ne (by omega))) (by omega)
    have f3 : ∀ c k, c ≠ 52 → ¬ (c = 51 ∧ (k = 6 ∨ k = 7)) → s3 c k = sB c k := fun c k z1 z2 => by rw [p3 c k z1 (by omega), up_ne (by omega)]; exact f2 c k z1 z2
    have s37 : s3 51 7 = ((cpo F P s0 t0 K U W A u i + 3 : Nat) : Int) := by rw [p3 51 7 (by omega) (by omega), up_same]
    have n3 : ∀ z, nf (up s3 51 7 z) := fun z => ⟨by rw [up_ne (by omega), f3 44 5 (by omega) (by omega)]; have := q2.1; rw [up_ne (by omega)] at this; exact this, by rw [up_ne (by omega), f3 48 9 (by omega) (by omega)]; have := q2.2; rw [up_ne (by omega)] at this; exact this⟩
    refine ⟨up s3 51 7 (if x = 0 then ((cpo F P s0 t0 K U W A u (j + 1) : Nat) : Int) else ((cpo F P s0 t0 K U W A u i + 3 : Nat) : Int)), ?_, STK_of p2 (up_ne (by omega)) (funext fun k => up_ne (by omega)), fun c k z1 z2 => by rw [up_ne (by omega)]; exact f3 c k z1 z2, up_same _ _ _ _⟩
    refine TN_add (TN_add tn0 tn1) (stepm (m := 2) h hr m1 m2 m4 (by decide) cx2 (by rw [he]; simp) (x := (13, r.2.2.1, 0, -9)) (by rw [he]; rfl) (rr := 0) ?_)
    rw [e2]
    unfold mac_doCommand mac_doCommand_143
    simp only [Int.reduceEq, ↓reduceIte]
    rw [gr (by omega), p1, bq]
    by_cases c : x = 0
    · rw [if_pos c, if_pos c, gr (by omega), if_neg (by omega), lt_eq, d258 (n3 _).1 (n3 _).2]
    · rw [if_neg c, if_neg c, gr (by omega), if_pos rfl, lt_eq, s37, d258 (n3 _).1 (n3 _).2]
  -- the reference
  have rt' : RTK (up t 121 98 (t 121 98 + 1)) ((rsG g ++ []) ++ [x]) := by
    have := RTK_98 (z := t 121 98 + 1) rt
    rw [show rsG ((u, i, pv, vv, st, ob) :: g) = (rsG g ++ []) ++ [x] by rw [List.append_nil, ← est]; rfl] at this
    exact this
  obtain ⟨tp, a1, a2, a3⟩ := rpop_ex rt' (by omega)
  have R : m_doItem t = if x = 0 then some (0, up tp 121 98 ((stA A u + j : Nat) : Int)) else some (0, tp) := by
    unfold m_doItem
    rw [e98] at a1 a3
    rw [lt_eq, e98, gd_pos (by omega), Int.toNat_natCast, up_ne (by omega), it.1, hk, gr (by omega)]
    simp only [Int.reduceEq, ↓reduceIte]
    unfold m_doStatementItem
    rw [gd_pos (by omega), Int.toNat_natCast, up_ne (by omega), it.1, hk, gr (by omega)]
    simp only [Int.reduceEq, ↓reduceIte]
    rw [a1, bq, gr (by omega)]
    by_cases c : x = 0
    · rw [if_pos c, if_pos c, a3 145 _ (by omega), up_ne (by omega), j2, lt_eq, bq]
    · rw [if_neg c, if_neg c, bq]
  by_cases c : x = 0
  · obtain ⟨sB, m1, m2, m3, m4, m5⟩ := SIM_mk hP h
    obtain ⟨s', c1, c2, c3, c4⟩ := C sB m1 m2 m4
    rw [if_pos c] at c4 R
    obtain ⟨tb, b1, b2, b4, b5⟩ := SIM_j (s' := s') (ta := up tp 121 98 ((stA A u + j : Nat) : Int)) hP h j1 j3 j5 m2 m4 c3 c4 c2 (fun c k z1 z2 => by rw [up_ne (by omega), a3 c k (by omega), up_ne (by omega)]) (RTK_of a2 (up_ne (by omega)) (funext fun k => up_ne (by omega))) (up_same _ _ _ _)
    exact STP_j h hr hi hij j1 (by rw [he]; exact c1) ((run_nx (r := 0) l2.2 R).trans b1) b2 b4
  · rw [if_neg c] at R
    refine STP_stk (st' := []) hP h hr (by omega) (fun x hx => by simp at hx) ?_ (fun sB m1 m2 m4 => ?_) ⟨tp, R, a2, fun c k z1 z2 => by rw [a3 c k (by omega), up_ne (by omega)], by rw [a3 121 98 (by omega), up_same]⟩
    · unfold nxA
      dsimp only
      rw [if_neg (by omega), if_neg (by omega), if_neg (by omega), if_neg (by omega), if_pos (by omega), ← el, h1]
      rfl
    · obtain ⟨s', c1, c2, c3, c4⟩ := C sB m1 m2 m4
      rw [if_neg c] at c4
      exact ⟨s', by rw [he]; exact c1, c2, fun c k z1 z2 => c3 c k z1 (by omega), by rw [he]; exact c4⟩
end RNz
