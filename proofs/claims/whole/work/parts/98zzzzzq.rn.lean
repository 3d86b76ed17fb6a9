/-! both machines: a string is done -/
section ROd
variable {F : Nat → Int} {n N : Nat} {P : Nat → Nat} {s0 t0 : iS} {K : List Nat} {U : List urec} {W : List wrec} {Y : List Nat} {A : List (List itm)} {I C p w u i j k fu m : Nat} {tr t1 t2 t3 s s' t t' q qB sB s1 sa ta tb : iS} {r : itm} {x : crc} {f : frm} {g : List frm} {pv vv st st' LL M : List Int} {ob v v' a : Int}
theorem I_1 (hP : PRG F n N P s0 t0 K U W Y A I C p w tr t1 t2 t3) (h : SIM F P s0 t0 K U W A t3 fu s t (u, i, pv, vv, st, ob) g) (hr : (A.getD u []).getD i (0, 0, 0, 0) = r) (hk : r.1 = 1) : STP F P s0 t0 K U W A t3 fu s t ((u, i, pv, vv, st, ob) :: g) := by
  obtain ⟨it, k5, e98, ⟨hu, hi⟩, rq, el, b3⟩ := SIM_k hP h hr
  obtain ⟨z, pq, z1, z2, z3, z4, z5, z6⟩ := it.2.2.2.1 hk
  obtain ⟨L1, L2⟩ := SIM_len hP h
  obtain ⟨mm, g1⟩ := h.1.1
  have rt := h.2.2.1.2
  have l2 := h.2.2.2.2.2.2.2.1.2.1
  have fr : (aA F P s0 t0 K U W A u i).2.2.1 = true := rq.2.2.2.2.2.2.2.2.1 (by omega)
  have he : emU F P s0 t0 K U W u r = (0, 0, (z : Int), 0) :: (15, 300, 1, 12) :: strC F pq 1 z := by
    unfold emU emI
    rw [hk]
    simp only [Int.reduceEq, ↓reduceIte]
    rw [z4, ← z3, Int.toNat_natCast]
  have len : (emU F P s0 t0 K U W u r).length = 2 * z + 2 := by rw [he]; show (strC F pq 1 z).length + 1 + 1 = _; rw [stC_len]
  obtain ⟨sB, m1, m2, m3, m4, m5⟩ := SIM_mk hP h
  obtain ⟨q1, q2⟩ := SIM_q h m4 (v := ((cpo F P s0 t0 K U W A u i + 1 : Nat) : Int))
  have L1' : (csG U g ++ (preF U (u, i, pv, vv, st, ob) ++ pv ++ vv ++ st)).length ≤ 15360 := L1
  have L2' : (rsG g ++ st).length ≤ 15360 := L2
  have h' := h
  obtain ⟨-, ⟨⟨-, -, ⟨c3, c3', -⟩, c4, c5, -⟩, -⟩, -, -, -, -, hst, -, -, -, -, -⟩ := h'
  dsimp only at c3 c3' c4 c5
  -- PUSH
  have e0 := fetch4 (m := 0) (x := (0, 0, (z : Int), 0)) g1 hu hi hr (by omega) (by rw [he]; rfl) (by simp) (by simp) (by simp) (by simp)
  rw [Nat.add_zero] at e0
  obtain ⟨s1, d1, d2, d3⟩ := c_push (a := 0) (b := (z : Int)) (c := 0) (v := (z : Int)) q1 (by omega) q2 v_con
  have tn0 := step0 h hr m1 (by omega) (x := (0, 0, (z : Int), 0)) (by rw [he]; rfl) (by rw [e0]; exact d1)
  have cx1 := CX_fs d3
  generalize hLL : csG U g ++ (preF U (u, i, pv, vv, st, ob) ++ pv ++ vv ++ st) = LL at *
  -- CALL String.new
  have e1 := fetch4 (m := 1) (x := (15, 300, 1, 12)) g1 hu hi hr (by omega) (by rw [he]; rfl) (by simp) (by simp) (by simp) (by simp)
  obtain ⟨s2, hs2⟩ : ∃ s2, s2 = up s1 51 7 ((cpo F P s0 t0 K U W A u i + (1 + 1) : Nat) : Int) := ⟨_, rfl⟩
  have f2 : ∀ c k, c ≠ 52 → ¬ (c = 51 ∧ (k = 6 ∨ k = 7)) → s2 c k = sB c k := fun c k y1 y2 => by rw [hs2, up_ne (by omega), d3 c k y1 (by omega), up_ne (by omega)]
  have st2 : STK s2 (LL ++ [(z : Int)]) := by rw [hs2]; exact STK_of d2 (up_ne (by omega)) (funext fun k => up_ne (by omega))
  obtain ⟨lb, go, l9⟩ := SIM_lb (s' := s2) (t' := up t 121 98 (t 121 98 + 1)) h (fun c k y => by rw [f2 c k (by omega) (by omega), m4 c k (by omega)]) (fun c k y1 y2 => up_ne (by omega))
  have va : s2 52 LL.length = (z : Int) := STK_at (k := 0) st2 (by simp)
  have ea : lib_perform 12 (z : Int) (s2 52 (LL.length + 1)) (s2 52 (LL.length + 2)) (s2 52 (LL.length + 3)) s2 = lib_newString (z : Int) s2 := by
    unfold lib_perform
    rw [gr (by omega)]
    simp only [Int.reduceEq, ↓reduceIte, bd_id]
  have R : ∀ rz ty, m_newString (z : Int) (up t 121 98 (t 121 98 + 1)) = some (rz, ty) → m_doItem t = bd (m_stringItem_13 ((stA A u + i : Nat) : Int) rz 0 ty) (fun _ s7 => some (0, s7)) := fun rz ty e => by
    unfold m_doItem
    rw [e98] at e
    rw [lt_eq, e98, gd_pos (by omega), Int.toNat_natCast, up_ne (by omega), it.1, hk, gr (by omega)]
    simp only [Int.reduceEq, ↓reduceIte]
    unfold m_stringItem
    rw [gd_pos (by omega), Int.toNat_natCast, up_ne (by omega), z1, e, bq]
  have rxn : ∀ {rz ty}, m_newString (z : Int) (up t 121 98 (t 121 98 + 1)) = some (rz, ty) → LRx (up t 121 98 (t 121 98 + 1)) ty := fun e c k h1 h2 h3 h4 h5 => (show md L_m_newString G_m_newString _ _ from fm_newString _ _ _ e) c k (by simp [L_m_newString]; omega) (by simp [G_m_newString]; omega)
  rcases ns_ok1 (v := (z : Int)) lb go ⟨by omega, by omega⟩ with ⟨rv, rz, sx, ty, p1, p2, p3, p4, p5⟩ | ⟨rv, rz, sx, ty, p1, p2, p3, p4, p5⟩
  · obtain ⟨p3, p3w⟩ := p3
    subst p3
    have cx : LCx s2 sx := pe_cx (ea.trans p1)
    have x9 : sx 48 9 = 0 := by
      have : sx 48 9 = s2 48 9 := fr9 rfl (show md L_lib_newString G_lib_newString s2 sx from flib_newString _ _ _ p1)
      rw [this]; exact l9
    have cc := c_cal2 (v2 := 300) (kk := 12) (rv := rv) (sa := sx) (B := [(z : Int)]) st2 (by simp) (by rw [List.length_append, List.length_singleton]; omega) (by omega) (by rw [va, ea]; exact p1) (cx 51 6 (by omega))
    obtain ⟨s4, k1, k2, k3⟩ := push_ex (v := rv) (STK_cut (sa := sx) st2 (funext fun k => cx 52 k (by omega))) (by omega)
    have f4 : ∀ c k, ¬ (44 ≤ c ∧ c ≤ 49) → c ≠ 52 → ¬ (c = 51 ∧ k = 6) → s4 c k = s2 c k := fun c k y0 y1 y2 => by rw [k3 c k y1 y2, up_ne y2, cx c k y0]
    have tn1 := stepm (m := 1) (rr := 0) (s1 := s4) h hr m1 m2 m4 (by decide) cx1 (by omega) (x := (15, 300, 1, 12)) (by rw [he]; rfl) (by
      rw [e1, ← hs2]
      refine cc.trans ?_
      rw [k1, bq, d258 (by rw [k3 44 5 (by omega) (by omega), up_ne (by omega)]; exact p5.1) (by rw [k3 48 9 (by omega) (by omega), up_ne (by omega)]; exact x9)])
    have cy4 : CYx sB s4 (cpo F P s0 t0 K U W A u i + (2 + 2 * 0)) := ⟨fun c j y0 y1 y2 => by rw [f4 c j y0 y1 (by omega), f2 c j y1 y2], by rw [f4 51 7 (by omega) (by omega) (by omega), hs2, up_same]⟩
    obtain ⟨m, s', t', i1, i2, i3, i4, i5, i6, i7⟩ := str_lp (LL := LL) (a := rv) h hu hi hr m2 m4 he z5 k5 z1 z2 (fun j hj => z6 j hj) p3w (by omega) z 0 s4 ty (by omega) cy4 k2 (LB_of p4 (fun c k y => by rw [k3 c k (by omega) (by omega), up_ne (by omega)]) (fun _ _ _ => rfl)) ⟨by rw [k3 44 5 (by omega) (by omega), up_ne (by omega)]; exact p5.1, p5.2⟩ (by rw [k3 48 9 (by omega) (by omega), up_ne (by omega)]; exact x9) (fun c k y1 y2 y3 y4 y5 => by rw [rxn p2 c k y1 y2 y3 y4 (by omega), up_ne (by omega)])
    have ft' : ∀ c k, c ≠ 175 → c ≠ 176 → c ≠ 177 → c ≠ 187 → ¬ (c = 121 ∧ (k = 81 ∨ k = 99 ∨ k = 100 ∨ k = 103 ∨ k = 106 ∨ k = 108 ∨ k = 98)) → t' c k = t c k := fun c k y1 y2 y3 y4 y5 => by rw [i5 c k y1 y2 y3 y4 (by omega), rxn p2 c k y1 y2 y3 y4 (by omega), up_ne (by omega)]
    have t98 : t' 121 98 = t 121 98 + 1 := by rw [i5 121 98 (by omega) (by omega) (by omega) (by omega) (by omega), rxn p2 121 98 (by omega) (by omega) (by omega) (by omega) (by omega), up_same]
    have rt' : RTK t' (rsG g ++ st) := RTK_of rt (ft' 121 87 (by omega) (by omega) (by omega) (by omega) (by omega)) (funext fun k => ft' 180 k (by omega) (by omega) (by omega) (by omega) (by omega))
    obtain ⟨tz, y1, y2, y3⟩ := rput_ex rt' (by omega) (i_s_id p3w)
    have RR : m_doItem t = some (0, tz) := by
      rw [R rv ty p2, show (0 : Int) = ((0 : Nat) : Int) from rfl, i3]
      unfold m_stringItem_57
      rw [y1, bq, bq]
    have fz : ∀ c k, c ≠ 175 → c ≠ 176 → c ≠ 177 → c ≠ 187 → c ≠ 180 → ¬ (c = 121 ∧ (k = 81 ∨ k = 99 ∨ k = 100 ∨ k = 103 ∨ k = 106 ∨ k = 108 ∨ k = 87 ∨ k = 98)) → tz c k = t c k := fun c k w1 w2 w3 w4 w5 w6 => by rw [y3 c k w5 (by omega), ft' c k w1 w2 w3 w4 (by omega)]
    have lbz : LB s' tz := LB_of i4 (fun _ _ _ => rfl) (fun c k w => y3 c k (by omega) (by omega))
    have TT := TN_add (TN_add tn0 tn1) i1
    rcases i7 with ⟨j1, j2, j3, j4, j5⟩ | ⟨j1, j2⟩
    · rw [show 1 + 1 + m = (emU F P s0 t0 K U W u r).length by omega] at TT
      refine STP_go (pv' := pv) (vv' := vv) (st' := st ++ [rv]) hP h hr (by omega) m2 m3 m4 m5 TT RR (fun c k w1 w2 w3 w4 => j3.1 c k w1 w2 (by omega)) (fun c k w1 w2 w3 w4 w5 w6 _ _ w7 => fz c k w1 w2 w3 w4 w6 w7) ⟨lbz, ⟨j1.1, by rw [y3 121 99 (by omega) (by omega)]; exact j1.2⟩, j5⟩ (by rw [j3.2, len]; omega) (by rw [y3 121 98 (by omega) (by omega)]; exact t98) ⟨rfl, rfl⟩ ⟨c3, c3', fun x hx => ?_⟩ (fun k _ => fz 179 k (by omega) (by omega) (by omega) (by omega) (by omega) (by omega)) (fun k hk => by rw [fz 179 _ (by omega) (by omega) (by omega) (by omega) (by omega) (by omega)]; exact c4 k hk) (fun k hk => by rw [fz 179 _ (by omega) (by omega) (by omega) (by omega) (by omega) (by omega)]; exact c5 k hk) (by rw [L4, hLL]; exact j4) (by rw [← List.append_assoc]; exact y2) (fun k hk => ?_) ?_
      · rcases List.mem_append.mp hx with w | w
        · exact b3 x w
        · rw [List.mem_singleton.mp w]; exact p3w
      · rw [j3.1 54 k (by omega) (by omega) (by omega), m4 54 k (by omega), fz 178 k (by omega) (by omega) (by omega) (by omega) (by omega) (by omega)]
        exact hst k hk
      · rw [List.length_append, List.length_singleton, el]
        unfold nxA
        dsimp only
        rw [if_pos (by omega)]
    · exact STP_fl hP h fr m2 m3 m4 m5 (by omega) TT RR i6 (by rw [j1, y3 121 99 (by omega) (by omega), j2]; omega) (fun k w => fz 121 k (by omega) (by omega) (by omega) (by omega) (by omega) (by omega)) (funext fun k => fz 185 k (by omega) (by omega) (by omega) (by omega) (by omega) (by omega)) lbz
  · have cx : LCx s2 sx := pe_cx (ea.trans p1)
    have cc := c_cal2 (v2 := 300) (kk := 12) (rv := rv) (sa := sx) (B := [(z : Int)]) st2 (by simp) (by rw [List.length_append, List.length_singleton]; omega) (by omega) (by rw [va, ea]; exact p1) (cx 51 6 (by omega))
    obtain ⟨s4, k1, k2, k3⟩ := push_ex (v := rv) (STK_cut (sa := sx) st2 (funext fun k => cx 52 k (by omega))) (by omega)
    have tn1 := stepm (m := 1) (rr := 0) (s1 := up s4 51 14 3) h hr m1 m2 m4 (by decide) cx1 (by omega) (x := (15, 300, 1, 12)) (by rw [he]; rfl) (by
      rw [e1, ← hs2]
      refine cc.trans ?_
      rw [k1, bq, d258_f (by rw [k3 44 5 (by omega) (by omega), up_ne (by omega)]; exact p5.1)])
    have ft' : ∀ c k, c ≠ 175 → c ≠ 176 → c ≠ 177 → c ≠ 187 → ¬ (c = 121 ∧ (k = 81 ∨ k = 99 ∨ k = 100 ∨ k = 103 ∨ k = 106 ∨ k = 108 ∨ k = 98)) → ty c k = t c k := fun c k y1 y2 y3 y4 y5 => by rw [rxn p2 c k y1 y2 y3 y4 (by omega), up_ne (by omega)]
    have rt' : RTK ty (rsG g ++ st) := RTK_of rt (ft' 121 87 (by omega) (by omega) (by omega) (by omega) (by omega)) (funext fun k => ft' 180 k (by omega) (by omega) (by omega) (by omega) (by omega))
    obtain ⟨tz, y1, y2, y3⟩ := rput_ex (v := i_s rz) (v' := rz) rt' (by omega) rfl
    have RR : m_doItem t = some (0, tz) := by
      rw [R rz ty p2]
      unfold m_stringItem_13
      rw [lp_end (f := fun l : Int × iS => m_stringItem_13b ((stA A u + i : Nat) : Int) rz (l.1) (l.2)) (e := ty) (by
        show m_stringItem_13b ((stA A u + i : Nat) : Int) rz 0 ty = _
        unfold m_stringItem_13b
        rw [gd_pos (by omega), Int.toNat_natCast, ft' 146 _ (by omega) (by omega) (by omega) (by omega) (by omega), z1, gr (by omega), gr (by omega)]
        by_cases c : (z : Int) ≤ 0
        · rw [if_pos c]
        · rw [if_neg c, p5.2, gr (by omega), if_neg (by omega)])]
      show bd (m_stringItem_57 rz ty) _ = _
      unfold m_stringItem_57
      rw [y1, bq, bq]
    exact STP_fl (m := 1 + 1) hP h fr m2 m3 m4 m5 (by omega) (TN_add tn0 tn1) RR (fun k w => by rw [up_ne (by omega), k3 51 k (by omega) (by omega), up_ne (by omega), cx 51 k (by omega), f2 51 k (by omega) (by omega)]) (by rw [up_same, y3 121 99 (by omega) (by omega), p5.2]; omega) (fun k w => by rw [y3 121 k (by omega) (by omega), ft' 121 k (by omega) (by omega) (by omega) (by omega) (by omega)]) (funext fun k => by rw [y3 185 k (by omega) (by omega), ft' 185 k (by omega) (by omega) (by omega) (by omega) (by omega)]) (LB_of p4 (fun c k w => by rw [up_ne (by omega), k3 c k (by omega) (by omega), up_ne (by omega)]) (fun c k w => y3 c k (by omega) (by omega)))
end ROd
