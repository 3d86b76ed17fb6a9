/-! both machines: signs -/
section RNo
variable {F : Nat → Int} {n N : Nat} {P : Nat → Nat} {s0 t0 : iS} {K : List Nat} {U : List urec} {W : List wrec} {Y : List Nat} {A : List (List itm)} {I C p w u i fu m : Nat} {tr t1 t2 t3 s s' t t' q qB sB s1 : iS} {r : itm} {x : crc} {f : frm} {g : List frm} {pv vv st st' : List Int} {ob v v' : Int}
theorem c_popv {L : List Int} {a b c x : Int} (h : STK s (L ++ [x])) (hl : L.length < 16384) : ∃ s1, STK s1 L ∧ FS s s1 ∧ mac_doCommand 1 a b c s = bd (mac_assign a b c x s1) (fun _ s7 => mac_doCommand_258 s7) := by
  obtain ⟨s1, a1, a2, a3⟩ := pop_ex h hl
  refine ⟨s1, a2, a3, ?_⟩
  unfold mac_doCommand
  simp only [Int.reduceEq, ↓reduceIte]
  rw [gr (by omega), a1, bq]
theorem L4 {L A B C D E : List Int} : L ++ (A ++ B ++ C ++ (D ++ E)) = (L ++ (A ++ B ++ C ++ D)) ++ E := by simp [List.append_assoc]
/-- the reference takes a value off -/
theorem rpop_ex {L : List Int} {x : Int} (h : RTK t (L ++ [x])) (hl : L.length < 20000) : ∃ t', m_pop t = some (x, t') ∧ RTK t' L ∧ ∀ c k, ¬ (c = 121 ∧ k = 87) → t' c k = t c k := ⟨_, (rpop_ok h hl).1, (rpop_ok h hl).2, fun _ _ z => up_ne z⟩
theorem rput_ex {L : List Int} {v v' : Int} (h : RTK t L) (hl : L.length < 20000) (hv : i_s v' = v) : ∃ t', m_put v' t = some (0, t') ∧ RTK t' (L ++ [v]) ∧ ∀ c k, c ≠ 180 → ¬ (c = 121 ∧ k = 87) → t' c k = t c k := by
  have := rput_ok (v := v') h hl
  rw [hv] at this
  exact ⟨_, this.1, this.2, fun _ _ z z' => rpu_ne z z'⟩
/-- minus, not -/
theorem I_78 (hP : PRG F n N P s0 t0 K U W Y A I C p w tr t1 t2 t3) (h : SIM F P s0 t0 K U W A t3 fu s t (u, i, pv, vv, st, ob) g) (hr : (A.getD u []).getD i (0, 0, 0, 0) = r) (hk : r.1 = 7 ∨ r.1 = 8) : STP F P s0 t0 K U W A t3 fu s t ((u, i, pv, vv, st, ob) :: g) := by
  obtain ⟨it, k5, e98, ⟨hu, hi⟩, rq, el, b3⟩ := SIM_k hP h hr
  obtain ⟨L1, L2⟩ := SIM_len hP h
  obtain ⟨mm, g1⟩ := h.1.1
  have rt := h.2.2.1.2
  have r1 : 1 ≤ st.length := by rw [el]; exact rq.2.1 (by omega)
  obtain ⟨M, y, est⟩ := snoc1 r1
  have wy : w16 y := b3 y (by rw [est]; simp)
  have L1' : (csG U g ++ (preF U (u, i, pv, vv, st, ob) ++ pv ++ vv ++ M)).length + 1 ≤ 15360 := by
    have : (csG U g ++ (preF U (u, i, pv, vv, st, ob) ++ pv ++ vv ++ st)).length ≤ 15360 := L1
    rw [est, L4, List.length_append, List.length_singleton] at this
    rw [est]
    exact this
  have L2' : (rsG g ++ M).length + 1 ≤ 15360 := by
    have : (rsG g ++ st).length ≤ 15360 := L2
    rw [est, ← List.append_assoc, List.length_append, List.length_singleton] at this
    exact this
  -- the command, the value
  obtain ⟨k, v, v', he, hkk, hv, wv, hR⟩ : ∃ (k : Int) (v v' : Int), emU F P s0 t0 K U W u r = [(k, 0, 0, 0)] ∧ (k = 4 ∨ k = 7) ∧ (if k = 4 then i_s (-y) else i_xor y (-1)) = v ∧ i_s v' = v ∧ m_doItem t = bd (m_pop (up t 121 98 (t 121 98 + 1))) (fun r27 s27 => bd (m_put (if k = 4 then -r27 else i_xor r27 (-1)) s27) (fun _ s28 => some (0, s28))) ∧ (v' = if k = 4 then -y else i_xor y (-1)) := by
    rcases hk with hk | hk
    · refine ⟨4, i_s (-y), -y, ?_, Or.inl rfl, rfl, rfl, ?_, rfl⟩
      · unfold emU emI
        rw [hk]
        simp only [Int.reduceEq, ↓reduceIte]
      · unfold m_doItem
        rw [lt_eq, e98, gd_pos (by omega), Int.toNat_natCast, up_ne (by omega), it.1, hk, gr (by omega)]
        simp only [Int.reduceEq, ↓reduceIte]
    · refine ⟨7, i_xor y (-1), i_xor y (-1), ?_, Or.inr rfl, rfl, i_s_id (not_w wy), ?_, rfl⟩
      · unfold emU emI
        rw [hk]
        simp only [Int.reduceEq, ↓reduceIte]
      · unfold m_doItem
        rw [lt_eq, e98, gd_pos (by omega), Int.toNat_natCast, up_ne (by omega), it.1, hk, gr (by omega)]
        simp only [Int.reduceEq, ↓reduceIte]
  obtain ⟨hR, hv'⟩ := hR
  have w6 : w16 v := by rw [← wv]; exact i_s_rg _
  refine STP_stk (st' := M ++ [v]) hP h hr (by omega) (fun x hx => ?_) ?_ (fun sB m1 m2 m4 => ?_) ?_
  · rcases List.mem_append.mp hx with z | z
    · exact b3 x (by rw [est]; exact List.mem_append_left _ z)
    · rw [List.mem_singleton.mp z]; exact w6
  · have : st.length = M.length + 1 := by rw [est, List.length_append, List.length_singleton]
    rw [List.length_append, List.length_singleton, ← this, el]
    unfold nxA
    dsimp only
    rw [if_neg (by omega), if_neg (by omega), if_neg (by omega), if_neg (by omega), if_neg (by omega), if_neg (by omega)]
  · obtain ⟨q1, q2⟩ := SIM_q h m4 (v := ((cpo F P s0 t0 K U W A u i + 1 : Nat) : Int))
    rw [show csG U g ++ (preF U (u, i, pv, vv, st, ob) ++ pv ++ vv ++ st) = (csG U g ++ (preF U (u, i, pv, vv, st, ob) ++ pv ++ vv ++ M)) ++ [y] by rw [← L4, ← est]] at q1
    have e4 := fetch4 (m := 0) (x := (k, 0, 0, 0)) g1 hu hi hr (by rw [he]; simp) (by rw [he]; rfl) (by show k ≠ 12; omega) (by show k ≠ 13; omega) (by show (0 : Int) ≠ -9; decide) (by show ¬ (k = 15 ∧ _); omega)
    obtain ⟨s1, d1, d2, d3⟩ := c_one (a := 0) (b := 0) (c := 0) hkk q1 (by omega) q2 wy
    rw [hv] at d2
    refine ⟨s1, ?_, by rw [L4]; exact d2, by rw [he]; exact CX_fs d3⟩
    rw [he]
    exact step0 h hr m1 (by rw [he]; simp) (x := (k, 0, 0, 0)) (by rw [he]; rfl) (by rw [Nat.add_zero] at e4; rw [e4]; exact d1)
  · have rt' : RTK (up t 121 98 (t 121 98 + 1)) ((rsG g ++ M) ++ [y]) := by
      have := RTK_98 (z := t 121 98 + 1) rt
      rw [show rsG ((u, i, pv, vv, st, ob) :: g) = (rsG g ++ M) ++ [y] by rw [List.append_assoc, ← est]; rfl] at this
      exact this
    obtain ⟨ta, a1, a2, a3⟩ := rpop_ex rt' (by omega)
    obtain ⟨tb, c1, c2, c3⟩ := rput_ex a2 (by omega) wv
    refine ⟨tb, by rw [hR, a1, bq, ← hv', c1, bq], by rw [← List.append_assoc]; exact c2, fun c j z1 z2 => by rw [c3 c j z1 (by omega), a3 c j (by omega), up_ne (by omega)], by rw [c3 121 98 (by omega) (by omega), a3 121 98 (by omega), up_same]⟩
/-- a value is dropped -/
theorem I_19 (hP : PRG F n N P s0 t0 K U W Y A I C p w tr t1 t2 t3) (h : SIM F P s0 t0 K U W A t3 fu s t (u, i, pv, vv, st, ob) g) (hr : (A.getD u []).getD i (0, 0, 0, 0) = r) (hk : r.1 = 19) : STP F P s0 t0 K U W A t3 fu s t ((u, i, pv, vv, st, ob) :: g) := by
  obtain ⟨it, k5, e98, ⟨hu, hi⟩, rq, el, b3⟩ := SIM_k hP h hr
  obtain ⟨L1, L2⟩ := SIM_len hP h
  obtain ⟨mm, g1⟩ := h.1.1
  have rt := h.2.2.1.2
  have r1 : 1 ≤ st.length := by rw [el]; exact rq.2.1 (by omega)
  obtain ⟨M, y, est⟩ := snoc1 r1
  have L1' : (csG U g ++ (preF U (u, i, pv, vv, st, ob) ++ pv ++ vv ++ M)).length + 1 ≤ 15360 := by
    have : (csG U g ++ (preF U (u, i, pv, vv, st, ob) ++ pv ++ vv ++ st)).length ≤ 15360 := L1
    rw [est, L4, List.length_append, List.length_singleton] at this
    rw [est]
    exact this
  have L2' : (rsG g ++ M).length + 1 ≤ 15360 := by
    have : (rsG g ++ st).length ≤ 15360 := L2
    rw [est, ← List.append_assoc, List.length_append, List.length_singleton] at this
    exact this
  have he : emU F P s0 t0 K U W u r = [(1, 7, 0, 0)] := by
    unfold emU emI
    rw [hk]
    simp only [Int.reduceEq, ↓reduceIte]
  refine STP_stk (st' := M) hP h hr (by omega) (fun x hx => b3 x (by rw [est]; exact List.mem_append_left _ hx)) ?_ (fun sB m1 m2 m4 => ?_) ?_
  · have : st.length = M.length + 1 := by rw [est, List.length_append, List.length_singleton]
    unfold nxA
    dsimp only
    rw [if_neg (by omega), if_neg (by omega), if_neg (by omega), if_neg (by omega), if_pos (by omega), ← el]
    omega
  · obtain ⟨q1, q2⟩ := SIM_q h m4 (v := ((cpo F P s0 t0 K U W A u i + 1 : Nat) : Int))
    rw [show csG U g ++ (preF U (u, i, pv, vv, st, ob) ++ pv ++ vv ++ st) = (csG U g ++ (preF U (u, i, pv, vv, st, ob) ++ pv ++ vv ++ M)) ++ [y] by rw [← L4, ← est]] at q1
    have e4 := fetch4 (m := 0) (x := (1, 7, 0, 0)) g1 hu hi hr (by rw [he]; simp) (by rw [he]; rfl) (by simp) (by simp) (by simp) (by simp)
    obtain ⟨s1, d1, d2, d3⟩ := c_popv (a := 7) (b := 0) (c := 0) q1 (by omega)
    have nf1 := nf_fs q2 d2
    rw [as_tmp, bq, d258 (by rw [up_ne (by omega)]; exact nf1.1) (by rw [up_ne (by omega)]; exact nf1.2)] at d3
    refine ⟨up s1 51 12 y, ?_, STK_of d1 (up_ne (by omega)) (funext fun k => up_ne (by omega)), ?_⟩
    · rw [he]
      exact step0 h hr m1 (by rw [he]; simp) (x := (1, 7, 0, 0)) (by rw [he]; rfl) (by rw [Nat.add_zero] at e4; rw [e4]; exact d3)
    · rw [he]
      exact ⟨fun c j z1 z2 => by rw [up_ne (by omega), d2 c j z1 (by omega), up_ne (by omega)], by rw [up_ne (by omega), d2 51 7 (by omega) (by omega), up_same]; rfl⟩
  · have rt' : RTK (up t 121 98 (t 121 98 + 1)) ((rsG g ++ M) ++ [y]) := by
      have := RTK_98 (z := t 121 98 + 1) rt
      rw [show rsG ((u, i, pv, vv, st, ob) :: g) = (rsG g ++ M) ++ [y] by rw [List.append_assoc, ← est]; rfl] at this
      exact this
    obtain ⟨ta, a1, a2, a3⟩ := rpop_ex rt' (by omega)
    refine ⟨ta, ?_, a2, fun c j z1 z2 => by rw [a3 c j (by omega), up_ne (by omega)], by rw [a3 121 98 (by omega), up_same]⟩
    unfold m_doItem
    rw [lt_eq, e98, gd_pos (by omega), Int.toNat_natCast, up_ne (by omega), it.1, hk, gr (by omega)]
    simp only [Int.reduceEq, ↓reduceIte]
    unfold m_doStatementItem
    rw [gd_pos (by omega), Int.toNat_natCast, up_ne (by omega), it.1, hk, gr (by omega)]
    simp only [Int.reduceEq, ↓reduceIte]
    rw [e98] at a1
    rw [a1, bq, bq]
/-- + - & | < > = -/
theorem I_6 (hP : PRG F n N P s0 t0 K U W Y A I C p w tr t1 t2 t3) (h : SIM F P s0 t0 K U W A t3 fu s t (u, i, pv, vv, st, ob) g) (hr : (A.getD u []).getD i (0, 0, 0, 0) = r) (hk : r.1 = 6) (h42 : r.2.1 ≠ 42) (h47 : r.2.1 ≠ 47) : STP F P s0 t0 K U W A t3 fu s t ((u, i, pv, vv, st, ob) :: g) := by
  obtain ⟨it, k5, e98, ⟨hu, hi⟩, rq, el, b3⟩ := SIM_k hP h hr
  obtain ⟨L1, L2⟩ := SIM_len hP h
  obtain ⟨mm, g1⟩ := h.1.1
  have rt := h.2.2.1.2
  have e145 := (it.2.2.2.2.2.1 hk)
  have r1 : 2 ≤ st.length := by rw [el]; exact rq.1 (by omega)
  obtain ⟨M, x, y, est⟩ := snoc2 r1
  have wx : w16 x := b3 x (by rw [est]; simp)
  have wy : w16 y := b3 y (by rw [est]; simp)
  have L1' : (csG U g ++ (preF U (u, i, pv, vv, st, ob) ++ pv ++ vv ++ M)).length + 2 ≤ 15360 := by
    have : (csG U g ++ (preF U (u, i, pv, vv, st, ob) ++ pv ++ vv ++ st)).length ≤ 15360 := L1
    rw [est, L4, List.length_append] at this
    rw [est]
    exact this
  have L2' : (rsG g ++ M).length + 2 ≤ 15360 := by
    have : (rsG g ++ st).length ≤ 15360 := L2
    rw [est, ← List.append_assoc, List.length_append] at this
    exact this
  have hs : r.2.1 = 38 ∨ r.2.1 = 43 ∨ r.2.1 = 45 ∨ r.2.1 = 60 ∨ r.2.1 = 62 ∨ r.2.1 = 124 ∨ r.2.1 = 61 := by
    obtain ⟨pf, -, a2, -, -, -, -⟩ := AOK_it hP.2.1
    obtain ⟨-, -, -, -, -, -, r7⟩ := (a2 u hu).1 _ (gd_mem (d := ((0, 0, 0, 0) : itm)) hi)
    rw [hr] at r7
    have := r7 hk
    simp [sO] at this
    omega
  obtain ⟨k, v, v', he, hkk, hv, wv, hR⟩ : ∃ (k : Int) (v v' : Int), emU F P s0 t0 K U W u r = [(k, 0, 0, 0)] ∧ (k = 2 ∨ k = 3 ∨ k = 5 ∨ k = 6 ∨ k = 8 ∨ k = 9 ∨ k = 10) ∧ (if k = 2 then i_s (x + y) else if k = 3 then i_s (x - y) else if k = 5 then i_and x y else if k = 6 then i_or x y else if k = 8 then (if x = y then -1 else 0) else if k = 9 then (if y ≤ x then 0 else -1) else (if x ≤ y then 0 else -1)) = v ∧ i_s v' = v ∧ ∀ q : iS, m_sign r.2.1 x y q = some (v', q) := by
    have e0 : emU F P s0 t0 K U W u r = [opC r.2.1] := by
      unfold emU emI
      rw [hk]
      simp only [Int.reduceEq, ↓reduceIte]
    rcases hs with c | c | c | c | c | c | c <;> rw [e0, c]
    · exact ⟨5, i_and x y, i_and x y, rfl, by omega, rfl, i_s_id (and_w wx wy), fun q => by unfold m_sign; rw [gr (by omega)]; rfl⟩
    · exact ⟨2, i_s (x + y), x + y, rfl, by omega, rfl, rfl, fun q => by unfold m_sign; rw [gr (by omega)]; rfl⟩
    · exact ⟨3, i_s (x - y), x - y, rfl, by omega, rfl, rfl, fun q => by unfold m_sign; rw [gr (by omega)]; rfl⟩
    · refine ⟨9, if y ≤ x then 0 else -1, if y ≤ x then 0 else -1, rfl, by omega, rfl, by split <;> rfl, fun q => ?_⟩
      unfold m_sign
      simp only [Int.reduceEq, ↓reduceIte]
      rw [gr (by omega), gr (by omega), gr (by omega)]
      split <;> rfl
    · refine ⟨10, if x ≤ y then 0 else -1, if x ≤ y then 0 else -1, rfl, by omega, rfl, by split <;> rfl, fun q => ?_⟩
      unfold m_sign
      simp only [Int.reduceEq, ↓reduceIte]
      rw [gr (by omega), gr (by omega), gr (by omega)]
      split <;> rfl
    · exact ⟨6, i_or x y, i_or x y, rfl, by omega, rfl, i_s_id (or_w wx wy), fun q => by unfold m_sign; rw [gr (by omega)]; rfl⟩
    · refine ⟨8, if x = y then -1 else 0, if x = y then -1 else 0, rfl, by omega, rfl, by split <;> rfl, fun q => ?_⟩
      unfold m_sign
      simp only [Int.reduceEq, ↓reduceIte]
      rw [gr (by omega), gr (by omega), gr (by omega)]
      split <;> rfl
  have w6 : w16 v := by rw [← wv]; exact i_s_rg _
  refine STP_stk (st' := M ++ [v]) hP h hr (by omega) (fun x hx => ?_) ?_ (fun sB m1 m2 m4 => ?_) ?_
  · rcases List.mem_append.mp hx with z | z
    · exact b3 x (by rw [est]; exact List.mem_append_left _ z)
    · rw [List.mem_singleton.mp z]; exact w6
  · have : st.length = M.length + 2 := by rw [est, List.length_append]; rfl
    rw [List.length_append, List.length_singleton]
    unfold nxA
    dsimp only
    rw [if_neg (by omega), if_pos (by omega), ← el]
    omega
  · obtain ⟨q1, q2⟩ := SIM_q h m4 (v := ((cpo F P s0 t0 K U W A u i + 1 : Nat) : Int))
    rw [show csG U g ++ (preF U (u, i, pv, vv, st, ob) ++ pv ++ vv ++ st) = (csG U g ++ (preF U (u, i, pv, vv, st, ob) ++ pv ++ vv ++ M)) ++ [x, y] by rw [← L4, ← est]] at q1
    have e4 := fetch4 (m := 0) (x := (k, 0, 0, 0)) g1 hu hi hr (by rw [he]; simp) (by rw [he]; rfl) (by show k ≠ 12; omega) (by show k ≠ 13; omega) (by show (0 : Int) ≠ -9; decide) (by show ¬ (k = 15 ∧ _); omega)
    obtain ⟨s1, d1, d2, d3⟩ := c_two (a := 0) (b := 0) (c := 0) hkk q1 (by omega) q2 wx wy
    rw [hv] at d2
    refine ⟨s1, ?_, by rw [L4]; exact d2, by rw [he]; exact CX_fs d3⟩
    rw [he]
    exact step0 h hr m1 (by rw [he]; simp) (x := (k, 0, 0, 0)) (by rw [he]; rfl) (by rw [Nat.add_zero] at e4; rw [e4]; exact d1)
  · have rt' : RTK (up t 121 98 (t 121 98 + 1)) (((rsG g ++ M) ++ [x]) ++ [y]) := by
      have := RTK_98 (z := t 121 98 + 1) rt
      rw [show rsG ((u, i, pv, vv, st, ob) :: g) = ((rsG g ++ M) ++ [x]) ++ [y] by rw [List.append_assoc, List.append_assoc]; show rsG g ++ st = _; rw [est]; simp] at this
      exact this
    obtain ⟨ta, a1, a2, a3⟩ := rpop_ex rt' (by rw [List.length_append, List.length_singleton]; omega)
    obtain ⟨tb, b1, b2, b4⟩ := rpop_ex a2 (by omega)
    obtain ⟨tc, c1, c2, c3⟩ := rput_ex b2 (by omega) wv
    refine ⟨tc, ?_, by rw [← List.append_assoc]; exact c2, fun c j z1 z2 => by rw [c3 c j z1 (by omega), b4 c j (by omega), a3 c j (by omega), up_ne (by omega)], by rw [c3 121 98 (by omega) (by omega), b4 121 98 (by omega), a3 121 98 (by omega), up_same]⟩
    unfold m_doItem
    rw [e98] at a1 a3
    rw [lt_eq, e98, gd_pos (by omega), Int.toNat_natCast, up_ne (by omega), it.1, hk, gr (by omega)]
    simp only [Int.reduceEq, ↓reduceIte]
    rw [a1, bq, b1, bq, a3 145 _ (by omega), up_ne (by omega), e145.1, hR, bq, c1, bq]
end RNo
