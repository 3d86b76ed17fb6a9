/-! both machines: a call of the system -/
section RNv
variable {F : Nat → Int} {n N : Nat} {P : Nat → Nat} {s0 t0 : iS} {K : List Nat} {U : List urec} {W : List wrec} {Y : List Nat} {A : List (List itm)} {I C p w u i j k fu m : Nat} {tr t1 t2 t3 s s' t t' q qB sB s1 sa ta : iS} {r : itm} {f : frm} {g : List frm} {pv vv st st' L M : List Int} {ob v v' x y : Int}
/-- the command of a call -/
theorem emU_10 (hP : PRG F n N P s0 t0 K U W Y A I C p w tr t1 t2 t3) (hu : u < A.length) (hi : i < (A.getD u []).length) (hr : (A.getD u []).getD i (0, 0, 0, 0) = r) (hk : r.1 = 10) : emU F P s0 t0 K U W u r = [(15, nmbT K U (owR F P s0 t0 K U W u r.2.1) (fsbT F P t0 K U (owR F P s0 t0 K U W u r.2.1) r.2.2.1.toNat), r.2.2.2 + (obF F P t0 U W u r.2.1 : Int), fsbT F P t0 K U (owR F P s0 t0 K U W u r.2.1) r.2.2.1.toNat)] := by
  have it := PRG_it hP hu hi
  rw [hr] at it
  obtain ⟨-, -, -, -, -, -, q9, -⟩ := it
  obtain ⟨c, -, -, -, -, z1, z2⟩ := q9 (Or.inr hk)
  unfold emU emI
  rw [hk]
  simp only [Int.reduceEq, ↓reduceIte]
  by_cases f1 : r.2.1 = -1
  · have c1 : (clF U u : Int) = (uAt U u).1 := by
      have hu' : u < U.length := by rw [← hP.2.2.1]; exact hu
      have := hP.1.2.2.2.2.1 _ (gd_mem (d := ((0, 0, 0, 0) : urec)) hu')
      show ((uAt U u).1.toNat : Int) = _
      have e : 0 ≤ (uAt U u).1 := this.1
      omega
    rw [if_pos f1]
    unfold cmC owR obF
    rw [if_pos f1, if_pos f1, c1]
    rfl
  · rw [if_neg f1]
    rcases z1 f1 with ⟨y1, y2⟩ | ⟨y1, y2, y3⟩
    · have o : fcK F P t0 K r.2.1.toNat ≠ -1 := by
        have := (z2 hk).1
        unfold owR at this
        rw [if_neg f1, if_pos y2] at this
        exact this
      rw [if_pos y1, if_neg o]
      unfold cmC owR obF
      rw [if_neg f1, if_pos y2, if_neg f1, if_pos y2]
      rfl
    · rw [if_neg y1, y3]
      unfold cmC owR obF
      rw [if_neg f1, if_neg y2, if_neg f1, if_neg y2]
      rfl
/-- what stands of a call -/
theorem call_f (hP : PRG F n N P s0 t0 K U W Y A I C p w tr t1 t2 t3) (h : SIM F P s0 t0 K U W A t3 fu s t (u, i, pv, vv, st, ob) g) (hr : (A.getD u []).getD i (0, 0, 0, 0) = r) (hk : r.1 = 10) : ∃ (c : Nat) (ow sb : Int) (na : Nat), (c < 1000 ∧ t 145 (stA A u + i) = (c : Int) ∧ t 151 c = r.2.2.2 ∧ 0 ≤ r.2.2.2 ∧ r.2.2.2 ≤ 12 ∧ t 152 c = obR F P t0 U W u r.2.1 ∧ t 154 c = ow ∧ t 155 c = sb) ∧ (0 ≤ ow ∧ ow < 8 + (K.length : Int)) ∧ (sb ≠ -1 ∧ sb = sbR F P t0 U ow r.2.2.1.toNat) ∧ (isM U ow sb = (obF F P t0 U W u r.2.1 : Int) ∧ mnR W ow sb = r.2.2.2) ∧ ((na : Int) = r.2.2.2 + (obF F P t0 U W u r.2.1 : Int) ∧ na ≤ st.length ∧ na ≤ 13 ∧ obF F P t0 U W u r.2.1 ≤ 1) ∧ emU F P s0 t0 K U W u r = [(15, nmbT K U ow (if 8 ≤ ow then 40 + sb else sb), (na : Int), if 8 ≤ ow then 40 + sb else sb)] := by
  obtain ⟨it, k5, e98, ⟨hu, hi⟩, rq, el, b3⟩ := SIM_k hP h hr
  obtain ⟨c, c1, c2, ⟨c3, c4, c5⟩, c6, -, c7⟩ := it.2.2.2.2.2.2.1 (Or.inr hk)
  obtain ⟨o1, o2⟩ := c7 hk
  obtain ⟨d1, d2⟩ := c5 o1
  obtain ⟨p1, p2⟩ := PRG_call hP hu hi hr hk
  have e := emU_10 hP hu hi hr hk
  have owr := owR_rg (f := r.2.1) hP.1 (show u < U.length by rw [← hP.2.2.1]; exact hu)
  have owr' := owr.resolve_left o1
  have se := sb_eq (j := r.2.2.1.toNat) hP.1 owr'
  rw [if_neg o2] at se
  have m12 := mnR_12 hP.2.2.2.2.1 (ow := owR F P s0 t0 K U W u r.2.1) (sb := sbR F P t0 U (owR F P s0 t0 K U W u r.2.1) r.2.2.1.toNat)
  have ob1 := obF_1 (F := F) (P := P) (t0 := t0) (U := U) (W := W) (u := u) r.2.1
  have rq10 := rq.2.2.1 hk
  rw [p2] at m12
  rw [se] at e
  refine ⟨c, _, _, r.2.2.2.toNat + obF F P t0 U W u r.2.1, ⟨c1, c2, c6 hk, m12.2, m12.1, c3, d1, d2⟩, owr', ⟨o2, rfl⟩, ⟨p1, p2⟩, ⟨by omega, by omega, by omega, ob1⟩, ?_⟩
  rw [e, show r.2.2.2 + (obF F P t0 U W u r.2.1 : Int) = ((r.2.2.2.toNat + obF F P t0 U W u r.2.1 : Nat) : Int) by omega]
theorem sys_rg {ow : Int} (ho : 0 ≤ ow ∧ ow < 8) (hs : sbR F P t0 U ow j ≠ -1) : ∃ k : Nat, sbR F P t0 U ow j = (k : Int) ∧ k < 40 ∧ sysFS.getD ow.toNat 0 ≤ (k : Int) ∧ (k : Int) < sysFS.getD (ow.toNat + 1) 0 := by
  have d : (List.range 8).all (fun i => decide (0 ≤ sysFS.getD i 0 ∧ sysFS.getD i 0 ≤ sysFS.getD (i + 1) 0 ∧ sysFS.getD (i + 1) 0 ≤ 40)) = true := by decide
  have d' := of_decide_eq_true (List.all_eq_true.mp d ow.toNat (List.mem_range.mpr (by omega)))
  have e : sbR F P t0 U ow j = fst1 (fun i => sysSN.getD i [] = nmT F P t0 j) (sysFS.getD ow.toNat 0).toNat ((sysFS.getD (ow.toNat + 1) 0).toNat - (sysFS.getD ow.toNat 0).toNat) := by
    unfold sbR
    rw [if_neg (by omega)]
  have r1 := fst1_rg (P := fun i => sysSN.getD i [] = nmT F P t0 j) ((sysFS.getD (ow.toNat + 1) 0).toNat - (sysFS.getD ow.toNat 0).toNat) (sysFS.getD ow.toNat 0).toNat
  rw [← e] at r1
  rcases r1 with z | ⟨z1, z2, -⟩
  · exact absurd z hs
  · exact ⟨(sbR F P t0 U ow j).toNat, by omega, by omega, by omega, by omega⟩
theorem nmb_sys {ow k : Int} (ho : 0 ≤ ow ∧ ow < 8) (h1 : sysFS.getD ow.toNat 0 ≤ k) (h2 : k < sysFS.getD (ow.toNat + 1) 0) : -100 ≤ nmbT K U ow k ∧ nmbT K U ow k < 800 := by
  have d : (List.range 8).all (fun i => decide (sysFS.getD (i + 1) 0 - sysFS.getD i 0 ≤ 12)) = true := by decide
  have d' := of_decide_eq_true (List.all_eq_true.mp d ow.toNat (List.mem_range.mpr (by omega)))
  unfold nmbT fsT
  rw [if_neg (by omega), if_neg (by omega), if_pos (by omega)]
  omega
theorem sFIFS {i : Nat} (h : i < 8) : sysFI.getD i 0 = sysFS.getD i 0 := by
  have d : (List.range 8).all (fun i => decide (sysFI.getD i 0 = sysFS.getD i 0)) = true := by decide
  exact of_decide_eq_true (List.all_eq_true.mp d i (List.mem_range.mpr h))
/-- a call of a sub of the system -/
theorem I_10s (hP : PRG F n N P s0 t0 K U W Y A I C p w tr t1 t2 t3) (h : SIM F P s0 t0 K U W A t3 fu s t (u, i, pv, vv, st, ob) g) (hr : (A.getD u []).getD i (0, 0, 0, 0) = r) (hk : r.1 = 10) (hs : owR F P s0 t0 K U W u r.2.1 < 8) : STP F P s0 t0 K U W A t3 fu s t ((u, i, pv, vv, st, ob) :: g) := by
  obtain ⟨it, k5, e98, ⟨hu, hi⟩, rq, el, b3⟩ := SIM_k hP h hr
  obtain ⟨c, ow, sb, na, ⟨c1, c2, c3, c3', c3'', c4, c5, c6⟩, c7, ⟨c8, c9⟩, ⟨d1, d2⟩, ⟨d3, d4, d5, d6⟩, he⟩ := call_f hP h hr hk
  have ow8 : ow < 8 := by
    have it' := it.2.2.2.2.2.2.1 (Or.inr hk)
    obtain ⟨c', _, z2, ⟨-, -, z3⟩, -, -, z4⟩ := it'
    have := (z3 (z4 hk).1).1
    have e : (c' : Int) = (c : Int) := z2.symm.trans c2
    have e' : c' = c := by omega
    rw [e', c5] at this
    omega
  obtain ⟨k, hk1, hk2, hk3, hk4⟩ := sys_rg (F := F) (P := P) (t0 := t0) (U := U) (j := r.2.2.1.toNat) ⟨c7.1, ow8⟩ (by rw [← c9]; exact c8)
  rw [← c9] at hk1
  rw [if_neg (by omega), hk1] at he
  have nm := nmb_sys (K := K) (U := U) ⟨c7.1, ow8⟩ hk3 hk4
  unfold isM at d1
  unfold mnR at d2
  rw [if_neg (by omega), hk1, Int.toNat_natCast] at d1 d2
  have na4 : (na : Int) = sysMN.getD k 0 + sysME.getD k 0 := by rw [d1, d2]; exact d3
  have na8 : na ≤ 8 := by
    have d : (List.range 40).all (fun k => decide (sysMN.getD k 0 + sysME.getD k 0 ≤ 8)) = true := by decide
    have := of_decide_eq_true (List.all_eq_true.mp d k (List.mem_range.mpr hk2))
    omega
  obtain ⟨L1, L2⟩ := SIM_len hP h
  obtain ⟨mm, g1⟩ := h.1.1
  have rt := h.2.2.1.2
  have fr : (aA F P s0 t0 K U W A u i).2.2.1 = true := rq.2.2.2.2.2.2.2.2.1 (by omega)
  obtain ⟨M, B, est, hB⟩ : ∃ M B, st = M ++ B ∧ B.length = na := ⟨st.take (st.length - na), st.drop (st.length - na), (List.take_append_drop _ _).symm, by rw [List.length_drop]; omega⟩
  have L1' : (csG U g ++ (preF U (u, i, pv, vv, st, ob) ++ pv ++ vv ++ M)).length + na ≤ 15360 := by
    have : (csG U g ++ (preF U (u, i, pv, vv, st, ob) ++ pv ++ vv ++ st)).length ≤ 15360 := L1
    rw [est, L4, List.length_append, hB] at this
    rw [est]
    exact this
  have L2' : (rsG g ++ M).length + na ≤ 15360 := by
    have : (rsG g ++ st).length ≤ 15360 := L2
    rw [est, ← List.append_assoc, List.length_append, hB] at this
    exact this
  obtain ⟨sB, m1, m2, m3, m4, m5⟩ := SIM_mk hP h
  obtain ⟨q1, q2⟩ := SIM_q h m4 (v := ((cpo F P s0 t0 K U W A u i + 1 : Nat) : Int))
  rw [show csG U g ++ (preF U (u, i, pv, vv, st, ob) ++ pv ++ vv ++ st) = (csG U g ++ (preF U (u, i, pv, vv, st, ob) ++ pv ++ vv ++ M)) ++ B by rw [← L4, ← est]] at q1
  have e4 := fetch4 (m := 0) (x := (15, nmbT K U ow (k : Int), (na : Int), (k : Int))) g1 hu hi hr (by rw [he]; simp) (by rw [he]; rfl) (by simp) (by simp) (by show (k : Int) ≠ -9; omega) (by show ¬ ((15 : Int) = 15 ∧ 800 ≤ nmbT K U ow (k : Int)); omega)
  rw [Nat.add_zero] at e4
  -- the reference's values
  have rt' : RTK (up t 121 98 (t 121 98 + 1)) ((rsG g ++ M) ++ B) := by
    have := RTK_98 (z := t 121 98 + 1) rt
    rw [show rsG ((u, i, pv, vv, st, ob) :: g) = (rsG g ++ M) ++ B by rw [List.append_assoc, ← est]; rfl] at this
    exact this
  obtain ⟨tc, x1, x2, x3, x4, x5⟩ := rc_55 (v2 := ow) (v3 := (k : Int)) na B (rsG g ++ M) (up t 121 98 (t 121 98 + 1)) hB na8 rt' (by rw [List.length_append, hB]; exact L2')
  have ftc : ∀ c k, c ≠ 188 → ¬ (c = 121 ∧ (k = 87 ∨ k = 98)) → tc c k = t c k := fun c k z1 z2 => by rw [x4 c k z1 (by omega), up_ne (by omega)]
  have R : m_doItem t = bd (m_systemCall ow ((k : Int) - sysFI.getD ow.toNat 0) tc) (fun r2 s2 => bd (m_put r2 s2) (fun _ s3 => some (0, s3))) := by
    have rs := (h.1.2.2.1 ow.toNat (by omega)).2
    have e46 : m_callItem (c : Int) (up t 121 98 (t 121 98 + 1)) = m_callItem_55 ow (k : Int) ((na : Int) - 1) (up t 121 98 (t 121 98 + 1)) := by
      unfold m_callItem m_callItem_46
      rw [gd_pos (by omega), Int.toNat_natCast, up_ne (by omega), up_ne (by omega), up_ne (by omega), up_ne (by omega), c5, gr (by omega), if_pos ow8, c4, c3, c6, hk1]
      have o2 : (obR F P t0 U W u r.2.1 ≤ 0 → obF F P t0 U W u r.2.1 = 0) ∧ (¬ obR F P t0 U W u r.2.1 ≤ 0 → obF F P t0 U W u r.2.1 = 1) ∧ (0 ≤ obR F P t0 U W u r.2.1 ∧ obR F P t0 U W u r.2.1 ≤ 2) := by
        unfold obR obF
        by_cases f1 : r.2.1 = -1
        · rw [if_pos f1, if_pos f1]; omega
        · rw [if_neg f1, if_neg f1]
          by_cases f2 : rvI F P t0 U W u r.2.1.toNat = -1
          · rw [if_pos f2, if_pos f2]; omega
          · rw [if_neg f2, if_neg f2]; omega
      rw [gr (by omega)]
      by_cases q : obR F P t0 U W u r.2.1 ≤ 0
      · rw [if_pos q]
        have := o2.1 q
        congr 1
        omega
      · rw [if_neg q]
        have := o2.2.1 q
        congr 1
        omega
    unfold m_doItem
    rw [e98] at e46 x1
    rw [lt_eq, e98, gd_pos (by omega), Int.toNat_natCast, up_ne (by omega), it.1, hk, gr (by omega)]
    simp only [Int.reduceEq, ↓reduceIte]
    rw [up_ne (by omega), c2, e46, x1]
    unfold m_callItem_77
    rw [gd_pos (by omega), ftc 164 _ (by omega) (by omega), rs]
    cases m_systemCall ow ((k : Int) - sysFI.getD ow.toNat 0) tc with
    | none => rfl
    | some z =>
      obtain ⟨z1, z2⟩ := z
      rw [bq]
      cases m_put z1 z2 <;> rfl
  generalize hq : up sB 51 7 ((cpo F P s0 t0 K U W A u i + 1 : Nat) : Int) = q at *
  have fq : ∀ c k, ¬ (c = 51 ∧ k = 7) → q c k = sB c k := fun c k z => by rw [← hq, up_ne z]
  have q7 : q 51 7 = ((cpo F P s0 t0 K U W A u i + 1 : Nat) : Int) := by rw [← hq, up_same]
  obtain ⟨lb, go, l9⟩ : LB q tc ∧ gO q tc ∧ q 48 9 = 0 := by
    have l := h.2.2.2.2.2.2.2.1
    exact ⟨LB_of l.1 (fun c k z => by rw [fq c k (by omega), m4 c k (by omega)]) (fun c k z => ftc c k (by omega) (by omega)), ⟨by rw [fq 44 5 (by omega), m4 44 5 (by omega)]; exact l.2.1.1, by rw [ftc 121 99 (by omega) (by omega)]; exact l.2.1.2⟩, by rw [fq 48 9 (by omega), m4 48 9 (by omega)]; exact l.2.2.1⟩
  generalize hLL : csG U g ++ (preF U (u, i, pv, vv, st, ob) ++ pv ++ vv ++ M) = LL at *
  have T : ∀ s', mac_doCommand 15 (nmbT K U ow (k : Int)) (na : Int) (k : Int) q = some (0, s') → TN (emU F P s0 t0 K U W u r).length s s' := fun s' e => by
    rw [he]
    exact step0 h hr m1 (by rw [he]; simp) (x := (15, nmbT K U ow (k : Int), (na : Int), (k : Int))) (by rw [he]; rfl) (rr := 0) (by rw [e4, hq]; exact e)
  have hlen : M.length + 1 = (nxA P (obF F P t0 U W u) (e0U F P s0 t0 K U W u) (aA F P s0 t0 K U W A u i) r).1 := by
    have : st.length = M.length + na := by rw [est, List.length_append, hB]
    unfold nxA
    dsimp only
    rw [if_neg (by omega), if_neg (by omega), if_neg (by omega), if_pos hk, ← el]
    omega
  by_cases c37 : k = 37
  · -- halt
    have w7 : ow.toNat = 7 := by
      have := sysCl_eq (k := k) (cl := ow.toNat) hk2 (by omega) (by rw [sFIFS (by omega)]; exact hk3) hk4
      rw [this, c37]; rfl
    have ow7 : ow = 7 := by omega
    obtain ⟨h1, h2⟩ := pf_37 (a := q 52 LL.length) (b := q 52 (LL.length + 1)) (c := q 52 (LL.length + 2)) (d := q 52 (LL.length + 3)) go
    have cc := c_call (v2 := nmbT K U ow (k : Int)) (kk := (k : Int)) (rv := 0) (sa := up q 48 9 1) (B := B) q1 (by omega) (by rw [List.length_append, hB]; exact L1') nm (by rw [c37]; exact h1) (up_ne (by omega))
    rw [hB] at cc
    have stc := STK_cut (sa := up q 48 9 1) q1 (funext fun k => up_ne (by omega))
    obtain ⟨s4, y1, y2, y3⟩ := push_ex (v := 0) stc (by omega)
    have f4 : ∀ c k, c ≠ 52 → ¬ (c = 51 ∧ (k = 6 ∨ k = 7)) → ¬ (c = 48 ∧ k = 9) → s4 c k = sB c k := fun c k z1 z2 z3 => by rw [y3 c k z1 (by omega), up_ne (by omega), up_ne z3, fq c k (by omega)]
    have r2 : RTK (up tc 121 99 0) (rsG g ++ M) := RTK_of x2 (up_ne (by omega)) (funext fun k => up_ne (by omega))
    obtain ⟨t4, z1, z2, z3⟩ := rput_ex (v := 0) (v' := 0) r2 (by omega) (by decide)
    refine STP_fl (s' := up s4 51 14 0) (t' := t4) (rr := 0) (m := (emU F P s0 t0 K U W u r).length) hP h fr m2 m3 m4 m5 (by rw [he]; simp) (T _ ?_) ?_ (fun k z => by rw [up_ne (by omega), f4 51 k (by omega) (by omega) (by omega)]) (by rw [up_same, z3 121 99 (by omega) (by omega), up_same]; decide) (fun k z => by rw [z3 121 k (by omega) (by omega), up_ne (by omega), ftc 121 k (by omega) (by omega)]) (funext fun k => by rw [z3 185 k (by omega) (by omega), up_ne (by omega), ftc 185 k (by omega) (by omega)]) (LB_of lb (fun c k z => by rw [up_ne (by omega), y3 c k (by omega) (by omega), up_ne (by omega), up_ne (by omega)]) (fun c k z => by rw [z3 c k (by omega) (by omega), up_ne (by omega)]))
    · rw [cc, y1, bq, d258_h (by rw [y3 44 5 (by omega) (by omega), up_ne (by omega), up_ne (by omega)]; exact go.1) (by rw [y3 48 9 (by omega) (by omega), up_ne (by omega), up_same])]
    · rw [R, ow7, c37]
      have e0 : ((37 : Nat) : Int) - sysFI.getD (7 : Int).toNat 0 = 0 := by decide
      rw [e0, h2, bq, z1, bq]
  · have ecl : ow.toNat = sysCl.getD k 0 := sysCl_eq hk2 (by omega) (by rw [sFIFS (by omega)]; exact hk3) hk4
    obtain ⟨pf1, pf2⟩ := pf_all (a := fun j => q 52 (LL.length + j)) (cl := ow.toNat) lb go hk2 c37 ecl (fun j hj => by
      have jB : j < B.length := by omega
      have e1 := STK_at (k := j) q1 jB
      refine ⟨?_, by rw [x3 j jB]; exact e1.symm⟩
      rw [e1, List.getD_eq_getElem?_getD, List.getElem?_eq_getElem jB]
      exact b3 _ (by rw [est]; exact List.mem_append_right _ (List.getElem_mem jB)))
    rw [show ((ow.toNat : Nat) : Int) = ow by omega] at pf1
    obtain ⟨rv, rv', sx, ta, o1, o2, o3, o4⟩ := Ov_un pf1 (fun r r' z => z.1)
    have cx := pe_cx o1
    have rx := sc_rx o2
    have cc := c_call (v2 := nmbT K U ow (k : Int)) (kk := (k : Int)) (rv := rv) (sa := sx) (B := B) q1 (by omega) (by rw [List.length_append, hB]; exact L1') nm o1 (cx 51 6 (by omega))
    rw [hB] at cc
    refine I_eff (M := M) (sa := up sx 51 6 (LL.length : Int)) (ta := ta) (rv := rv) (rv' := rv') hP h hr (by omega) fr m2 m3 m4 m5 (by rw [he]; simp) (fun s' e => T s' (cc.trans e)) (by rw [R, o2, bq]) (LB_of o3 (fun c k z => up_ne (by omega)) (fun _ _ _ => rfl)) (by
      rcases o4 with ⟨z1, z2⟩ | z1
      · exact Or.inl ⟨⟨by rw [up_ne (by omega)]; exact z1.1, z1.2⟩, z2⟩
      · exact Or.inr ⟨by rw [up_ne (by omega)]; exact z1.1, z1.2⟩) (by rw [up_ne (by omega), pf2 _ _ o1]; exact l9) (fun c k z1 z2 z3 => by rw [up_ne (by omega), cx c k z1]; exact fq c k (by omega)) (by rw [up_ne (by omega), cx 51 7 (by omega), q7, he]; rfl) (fun c k z1 z2 z3 z4 z5 z6 z7 => by rw [rx c k z1 z2 z3 z4 (by omega), ftc c k z5 (by omega)]) (by rw [rx 121 98 (by omega) (by omega) (by omega) (by omega) (by omega), x4 121 98 (by omega) (by omega), up_same]) (by rw [hLL]; exact STK_cut q1 (funext fun k => cx 52 k (by omega))) (RTK_of x2 (rx 121 87 (by omega) (by omega) (by omega) (by omega) (by omega)) (funext fun k => rx 180 k (by omega) (by omega) (by omega) (by omega) (by omega))) (by rw [hLL]; omega) (by omega) (fun x hx => b3 x (by rw [est]; exact List.mem_append_left _ hx)) hlen
end RNv
