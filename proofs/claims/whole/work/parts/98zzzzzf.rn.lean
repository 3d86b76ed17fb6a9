/-! both machines: a word is written; calls of the system -/
section RNs
variable {F : Nat → Int} {n N : Nat} {P : Nat → Nat} {s0 t0 : iS} {K : List Nat} {U : List urec} {W : List wrec} {Y : List Nat} {A : List (List itm)} {I C p w u i j k fu m : Nat} {tr t1 t2 t3 s s' t t' q qB sB s1 sa ta : iS} {r : itm} {f : frm} {g : List frm} {pv vv st st' L M : List Int} {ob v v' x y : Int}
/-- let name[e] -/
theorem I_14 (hP : PRG F n N P s0 t0 K U W Y A I C p w tr t1 t2 t3) (h : SIM F P s0 t0 K U W A t3 fu s t (u, i, pv, vv, st, ob) g) (hr : (A.getD u []).getD i (0, 0, 0, 0) = r) (hk : r.1 = 14) : STP F P s0 t0 K U W A t3 fu s t ((u, i, pv, vv, st, ob) :: g) := by
  obtain ⟨it, k5, e98, ⟨hu, hi⟩, rq, el, b3⟩ := SIM_k hP h hr
  obtain ⟨L1, L2⟩ := SIM_len hP h
  obtain ⟨mm, g1⟩ := h.1.1
  have rt := h.2.2.1.2
  have r1 : 2 ≤ st.length := by rw [el]; exact rq.1 (by omega)
  obtain ⟨M, x, y, est⟩ := snoc2 r1
  have wx : w16 x := b3 x (by rw [est]; simp)
  have wy : w16 y := b3 y (by rw [est]; simp)
  have L1' : (csG U g ++ (preF U (u, i, pv, vv, st, ob) ++ pv ++ vv ++ M)).length + 2 ≤ 15360 := by
    have : (csG U g ++ (preF U (u, i, pv, vv, st, ob) ++ pv ++ vv ++ st)).length ≤ 15360 := L1
    rw [est, L4, List.length_append] at this
    rw [est]
    exact this
  have L2' : (rsG g ++ M).length + 2 ≤ 15360 := by
    have : (rsG g ++ st).length ≤ 15360 := L2
    rw [est, ← List.append_assoc, List.length_append] at this
    exact this
  have he : emU F P s0 t0 K U W u r = [(1, 7, 0, 0), (1, 6, 1, 0), (0, 7, 0, 0), (1, 5, 0, 0)] := by
    unfold emU emI
    rw [hk]
    simp only [Int.reduceEq, ↓reduceIte]
  have fr : (aA F P s0 t0 K U W A u i).2.2.1 = true := rq.2.2.2.2.2.2.2.2.1 (by omega)
  obtain ⟨sB, m1, m2, m3, m4, m5⟩ := SIM_mk hP h
  obtain ⟨q1, q2⟩ := SIM_q h m4 (v := ((cpo F P s0 t0 K U W A u i + 1 : Nat) : Int))
  rw [show csG U g ++ (preF U (u, i, pv, vv, st, ob) ++ pv ++ vv ++ st) = ((csG U g ++ (preF U (u, i, pv, vv, st, ob) ++ pv ++ vv ++ M)) ++ [x]) ++ [y] by rw [List.append_assoc _ [x], List.singleton_append, ← L4, ← est]] at q1
  generalize hLL : csG U g ++ (preF U (u, i, pv, vv, st, ob) ++ pv ++ vv ++ M) = LL at *
  have lx : (LL ++ [x]).length = LL.length + 1 := by rw [List.length_append, List.length_singleton]
  -- POP temp
  have e0 := fetch4 (m := 0) (x := (1, 7, 0, 0)) g1 hu hi hr (by rw [he]; simp) (by rw [he]; rfl) (by simp) (by simp) (by simp) (by simp)
  rw [Nat.add_zero] at e0
  obtain ⟨sp, d1, d2, d3⟩ := c_popv (a := 7) (b := 0) (c := 0) q1 (by omega)
  have np := nf_fs q2 d2
  rw [as_tmp, bq, d258 (by rw [up_ne (by omega)]; exact np.1) (by rw [up_ne (by omega)]; exact np.2)] at d3
  have tn0 := step0 h hr m1 (by rw [he]; simp) (x := (1, 7, 0, 0)) (by rw [he]; rfl) (by rw [e0]; exact d3)
  obtain ⟨sa, hsa⟩ : ∃ sa, sa = up sp 51 12 y := ⟨_, rfl⟩
  rw [← hsa] at tn0
  have cxa : CX sB sa (cpo F P s0 t0 K U W A u i + 1) := ⟨fun c j z1 z2 => by rw [hsa, up_ne (by omega), d2 c j z1 (by omega), up_ne (by omega)], by rw [hsa, up_ne (by omega), d2 51 7 (by omega) (by omega), up_same]⟩
  have sta : STK sa (LL ++ [x]) := by rw [hsa]; exact STK_of d1 (up_ne (by omega)) (funext fun k => up_ne (by omega))
  have a12 : sa 51 12 = y := by rw [hsa, up_same]
  have nfa : nf sa := ⟨by rw [hsa, up_ne (by omega)]; exact np.1, by rw [hsa, up_ne (by omega)]; exact np.2⟩
  -- POP pointer 1
  have e1 := fetch4 (m := 1) (x := (1, 6, 1, 0)) g1 hu hi hr (by rw [he]; simp) (by rw [he]; rfl) (by simp) (by simp) (by simp) (by simp)
  obtain ⟨sq, d4, d5, d6⟩ := c_popv (s := up sa 51 7 ((cpo F P s0 t0 K U W A u i + (1 + 1) : Nat) : Int)) (a := 6) (b := 1) (c := 0) (STK_of sta (up_ne (by omega)) (funext fun k => up_ne (by omega))) (by omega)
  have nq : sq 44 5 = 0 ∧ sq 48 9 = 0 := ⟨by rw [d5 44 5 (by omega) (by omega), up_ne (by omega)]; exact nfa.1, by rw [d5 48 9 (by omega) (by omega), up_ne (by omega)]; exact nfa.2⟩
  rw [as_ptr (Or.inr rfl), bq, if_neg (by decide), d258 (by rw [up_ne (by omega)]; exact nq.1) (by rw [up_ne (by omega)]; exact nq.2)] at d6
  have tn1 := stepm (m := 1) h hr m1 m2 m4 (by decide) cxa (by rw [he]; simp) (x := (1, 6, 1, 0)) (by rw [he]; rfl) (by rw [e1]; exact d6)
  obtain ⟨sb, hsb⟩ : ∃ sb, sb = up sq 51 11 x := ⟨_, rfl⟩
  rw [← hsb] at tn1
  have cxb : CX sB sb (cpo F P s0 t0 K U W A u i + 2) := ⟨fun c j z1 z2 => by rw [hsb, up_ne (by omega), d5 c j z1 (by omega), up_ne (by omega)]; exact cxa.1 c j z1 z2, by rw [hsb, up_ne (by omega), d5 51 7 (by omega) (by omega), up_same]⟩
  have stb : STK sb LL := by rw [hsb]; exact STK_of d4 (up_ne (by omega)) (funext fun k => up_ne (by omega))
  have b12 : sb 51 12 = y := by rw [hsb, up_ne (by omega), d5 51 12 (by omega) (by omega), up_ne (by omega)]; exact a12
  have b11 : sb 51 11 = x := by rw [hsb, up_same]
  have nfb : nf sb := ⟨by rw [hsb, up_ne (by omega)]; exact nq.1, by rw [hsb, up_ne (by omega)]; exact nq.2⟩
  -- PUSH temp
  have e2 := fetch4 (m := 2) (x := (0, 7, 0, 0)) g1 hu hi hr (by rw [he]; simp) (by rw [he]; rfl) (by simp) (by simp) (by simp) (by simp)
  obtain ⟨sc, d7, d8, d9⟩ := c_push (s := up sb 51 7 ((cpo F P s0 t0 K U W A u i + (2 + 1) : Nat) : Int)) (a := 7) (b := 0) (c := 0) (v := y) (STK_of stb (up_ne (by omega)) (funext fun k => up_ne (by omega))) (by omega) ⟨by rw [up_ne (by omega)]; exact nfb.1, by rw [up_ne (by omega)]; exact nfb.2⟩ (by rw [v_tmp, up_ne (by omega), b12])
  have tn2 := stepm (m := 2) h hr m1 m2 m4 (by decide) cxb (by rw [he]; simp) (x := (0, 7, 0, 0)) (by rw [he]; rfl) (by rw [e2]; exact d7)
  have cxc := CX_fs2 cxb d9
  have c11 : sc 51 11 = x := by rw [d9 51 11 (by omega) (by omega), up_ne (by omega)]; exact b11
  -- POP that
  have e3 := fetch4 (m := 3) (x := (1, 5, 0, 0)) g1 hu hi hr (by rw [he]; simp) (by rw [he]; rfl) (by simp) (by simp) (by simp) (by simp)
  obtain ⟨sd, g4, g5, g6⟩ := c_popv (s := up sc 51 7 ((cpo F P s0 t0 K U W A u i + (3 + 1) : Nat) : Int)) (a := 5) (b := 0) (c := 0) (STK_of d8 (up_ne (by omega)) (funext fun k => up_ne (by omega))) (by omega)
  have fd : ∀ c k, c ≠ 52 → ¬ (c = 51 ∧ (k = 6 ∨ k = 7 ∨ k = 11 ∨ k = 12)) → sd c k = sB c k := fun c k z1 z2 => by rw [g5 c k z1 (by omega), up_ne (by omega)]; exact cxc.1 c k z1 z2
  have dd11 : sd 51 11 = x := by rw [g5 51 11 (by omega) (by omega), up_ne (by omega)]; exact c11
  have dd7 : sd 51 7 = ((cpo F P s0 t0 K U W A u i + 4 : Nat) : Int) := by rw [g5 51 7 (by omega) (by omega), up_same]
  -- the reference
  have rt' : RTK (up t 121 98 (t 121 98 + 1)) (((rsG g ++ M) ++ [x]) ++ [y]) := by
    have := RTK_98 (z := t 121 98 + 1) rt
    rw [show rsG ((u, i, pv, vv, st, ob) :: g) = ((rsG g ++ M) ++ [x]) ++ [y] by rw [List.append_assoc, List.append_assoc]; show rsG g ++ st = _; rw [est]; simp] at this
    exact this
  obtain ⟨tb, a1, a2, a3⟩ := rpop_ex rt' (by rw [List.length_append, List.length_singleton]; omega)
  obtain ⟨tc, b1, b2, b4⟩ := rpop_ex a2 (by omega)
  have ftc : ∀ c k, ¬ (c = 121 ∧ (k = 87 ∨ k = 98)) → tc c k = t c k := fun c k z => by rw [b4 c k (by omega), a3 c k (by omega), up_ne (by omega)]
  obtain ⟨lb, go, l9⟩ := SIM_lb (s' := sd) (t' := tc) h (fun c k z => by rw [fd c k (by omega) (by omega), m4 c k (by omega)]) (fun c k z1 z2 => ftc c k z2)
  obtain ⟨rv, rv', sf, ta, o1, o2, o3, o4⟩ := Ov_u2 (wr_ok1 (a := x) (b := y) lb go)
  have cx := wr_cx o1
  have rx := wr_rx o2
  refine I_eff2 (M := M) (sa := sf) (ta := ta) (rr := 0) hP h hr (by omega) fr m2 m3 m4 m5 (by rw [he]; simp) (fun s' e => ?_) ?_ o3 o4 (by rw [wr_9 o1]; exact l9) (fun c k z1 z2 z3 => by rw [cx c k z1]; exact fd c k z2 z3) (by rw [cx 51 7 (by omega), dd7, he]; rfl) (fun c k z1 z2 z3 z4 z5 z6 z7 => by rw [rx c k z1 z2 z3 z4 (by omega), ftc c k (by omega)]) (by rw [rx 121 98 (by omega) (by omega) (by omega) (by omega) (by omega), b4 121 98 (by omega), a3 121 98 (by omega), up_same]) (by rw [hLL]; exact STK_of g4 (cx 51 6 (by omega)) (funext fun k => cx 52 k (by omega))) (RTK_of b2 (rx 121 87 (by omega) (by omega) (by omega) (by omega) (by omega)) (funext fun k => rx 180 k (by omega) (by omega) (by omega) (by omega) (by omega))) (fun x hx => b3 x (by rw [est]; exact List.mem_append_left _ hx)) ?_
  · rw [he]
    refine TN_add (TN_add (TN_add tn0 tn1) tn2) (stepm (m := 3) h hr m1 m2 m4 (by decide) cxc (by rw [he]; simp) (x := (1, 5, 0, 0)) (by rw [he]; rfl) (rr := 0) ?_)
    rw [e3]
    refine g6.trans ?_
    unfold mac_assign
    simp only [Int.reduceEq, ↓reduceIte]
    rw [gr (by omega), dd11, Int.add_zero, o1, bq, bq]
    exact e
  · unfold m_doItem
    rw [e98] at a1
    rw [lt_eq, e98, gd_pos (by omega), Int.toNat_natCast, up_ne (by omega), it.1, hk, gr (by omega)]
    simp only [Int.reduceEq, ↓reduceIte]
    unfold m_doStatementItem
    rw [gd_pos (by omega), Int.toNat_natCast, up_ne (by omega), it.1, hk, gr (by omega)]
    simp only [Int.reduceEq, ↓reduceIte]
    rw [a1, bq, b1, bq, o2, bq, bq]
  · have : st.length = M.length + 2 := by rw [est, List.length_append]; rfl
    unfold nxA
    dsimp only
    rw [if_neg (by omega), if_neg (by omega), if_neg (by omega), if_neg (by omega), if_neg (by omega), if_pos (by omega), ← el]
    omega
/-- a command that calls the system -/
theorem c_call {B : List Int} {v2 kk rv : Int} (h : STK q (L ++ B)) (hB : B.length ≤ 8) (hl : (L ++ B).length ≤ 15360) (hv : -100 ≤ v2 ∧ v2 < 800) (hX : lib_perform kk (q 52 L.length) (q 52 (L.length + 1)) (q 52 (L.length + 2)) (q 52 (L.length + 3)) q = some (rv, sa)) (h6 : sa 51 6 = q 51 6) : mac_doCommand 15 v2 (B.length : Int) kk q = bd (mac_push rv (up sa 51 6 (L.length : Int))) (fun _ s54 => mac_doCommand_258 s54) := by
  have e6 : q 51 6 - (B.length : Int) = (L.length : Int) := by rw [h.1, List.length_append]; omega
  have ll : L.length ≤ 15360 := by rw [List.length_append] at hl; omega
  have at' : ∀ j : Nat, j ≤ 3 → mac_at ((L.length : Int) + (j : Int)) q = some (q 52 (L.length + j), q) := fun j hj => by
    unfold mac_at
    rw [gr (by omega), if_neg (by omega), if_neg (by omega), gd_pos (by omega), show ((L.length : Int) + (j : Int)).toNat = L.length + j by omega]
  have a0 := at' 0 (by omega)
  have a1 := at' 1 (by omega)
  have a2 := at' 2 (by omega)
  have a3 := at' 3 (by omega)
  rw [show (L.length : Int) + ((0 : Nat) : Int) = (L.length : Int) by omega, Nat.add_zero] at a0
  unfold mac_doCommand
  simp only [Int.reduceEq, ↓reduceIte]
  rw [gr (by omega), gr (by omega), if_pos hv.2, e6, a0, bq, show (L.length : Int) + 1 = (L.length : Int) + ((1 : Nat) : Int) by omega, a1, bq, show (L.length : Int) + 2 = (L.length : Int) + ((2 : Nat) : Int) by omega, a2, bq, show (L.length : Int) + 3 = (L.length : Int) + ((3 : Nat) : Int) by omega, a3, bq, hX, bq]
  unfold mth_max
  rw [gr (by omega), gr (by omega)]
  by_cases c : 0 < (L.length : Int)
  · rw [if_pos c, bq, lt_eq]
  · rw [if_neg c, bq, lt_eq, show (0 : Int) = (L.length : Int) by omega]
theorem STK_at {B : List Int} {k : Nat} (h : STK q (L ++ B)) (hk : k < B.length) : q 52 (L.length + k) = B.getD k 0 := by
  rw [h.2 _ (by rw [List.length_append]; omega), gdR (by omega), Nat.add_sub_cancel_left]
theorem STK_cut {B : List Int} (h : STK q (L ++ B)) (hs : sa 52 = q 52) : STK (up sa 51 6 (L.length : Int)) L := ⟨up_same _ _ _ _, fun k hk => by rw [up_ne (by omega), hs, h.2 k (by rw [List.length_append]; omega), gdL hk]⟩
end RNs
