/-! both machines: objects and calls -/
section RNu
variable {F : Nat → Int} {n N : Nat} {P : Nat → Nat} {s0 t0 : iS} {K : List Nat} {U : List urec} {W : List wrec} {Y : List Nat} {A : List (List itm)} {I C p w u i j k fu m : Nat} {tr t1 t2 t3 s s' t t' q qB sB s1 sa ta : iS} {r : itm} {f : frm} {g : List frm} {pv vv st st' L M : List Int} {ob v v' x y : Int}
/-- an item without commands -/
theorem SIM_no (h : SIM F P s0 t0 K U W A t3 fu s t (u, i, pv, vv, st, ob) g) (hi1 : i + 1 < (A.getD u []).length) (hc : cpo F P s0 t0 K U W A u (i + 1) = cpo F P s0 t0 K U W A u i) (ha : aA F P s0 t0 K U W A u (i + 1) = aA F P s0 t0 K U W A u i) (hW : WOK s0 N K U W) (ft : ∀ c k, ¬ (c = 121 ∧ k = 98) → ta c k = t c k) (h98 : ta 121 98 = t 121 98 + 1) : SIM F P s0 t0 K U W A t3 fu s ta (u, i + 1, pv, vv, st, ob) g := by
  obtain ⟨⟨⟨mm, g1⟩, g2, g3⟩, ⟨⟨⟨b1, b1'⟩, ⟨b2, b2'⟩, ⟨b3, b3', b3'', b3o⟩, b4, b5, b6, b7, b8⟩, g5⟩, ⟨g6, g7⟩, ⟨g8, g9⟩, ⟨k1, k2, k3, k4, k5, k6⟩, ⟨m1, m2, m3⟩, hst, ⟨l1, l2, l3, l4⟩, ⟨n1, n2, n3, n4, n5, n6⟩, ⟨e98, e7⟩, el, ef⟩ := h
  dsimp only at b1 b1' b2 b2' b3 b3' b3'' b4 b5 b6 e98 e7 el ef n6 m2 m3
  have ew : wsG F P s0 t0 K U W A ((u, i + 1, pv, vv, st, ob) :: g) = wsG F P s0 t0 K U W A ((u, i, pv, vv, st, ob) :: g) := by
    show wsG F P s0 t0 K U W A g ++ (aA F P s0 t0 K U W A u (i + 1)).2.1.reverse = _
    rw [ha]; rfl
  refine ⟨⟨⟨mm, g1⟩, fun c k z => by rw [ft c k (by omega)]; exact g2 c k z, ?_⟩, ⟨⟨⟨b1, hi1⟩, ⟨b2, b2'⟩, ⟨b3, b3', b3'', b3o⟩, fun k hk => by rw [ft 179 _ (by omega)]; exact b4 k hk, fun k hk => by rw [ft 179 _ (by omega)]; exact b5 k hk, by rw [ft 183 _ (by omega)]; exact b6, by rw [ft 184 _ (by omega)]; exact b7, fun f' g' e => by rw [ft 181 _ (by omega)]; exact b8 f' g' e⟩, GOK_of hW g g5 (fun k _ => rfl) (fun k _ => ft 179 k (by omega)) (fun k _ => ⟨ft 181 k (by omega), ft 183 k (by omega), ft 184 k (by omega)⟩)⟩, ⟨g6, RTK_of g7 (ft 121 87 (by omega)) (funext fun k => ft 180 k (by omega))⟩, ⟨by rw [ew, ft 121 95 (by omega)]; exact g8, by rw [ew]; intro k hk; rw [ft 185 k (by omega)]; exact g9 k hk⟩, ⟨k1, by rw [ft 121 88 (by omega)]; exact k2, k3, by rw [ft 121 89 (by omega)]; exact k4, k5, k6⟩, ⟨m1, m2, m3⟩, fun k hk => by rw [ft 178 k (by omega)]; exact hst k hk, ⟨LB_of l1 (fun _ _ _ => rfl) (fun c k z => ft c k (by omega)), ⟨l2.1, by rw [ft 121 99 (by omega)]; exact l2.2⟩, l3, l4⟩, ⟨n1, by rw [ft 121 97 (by omega)]; exact n2, n3, n4, by rw [ft 121 96 (by omega)]; exact n5, ?_⟩, ⟨?_, ?_⟩, ?_, ?_⟩
  · obtain ⟨c1, c2, c3⟩ := g3
    refine ⟨fun j hj => ?_, by rw [ft 164 _ (by omega)]; exact c2, fun j hj => ?_⟩
    · rw [ft 165 _ (by omega), ft 164 _ (by omega)]; exact c1 j hj
    · rw [ft 166 _ (by omega), ft 167 _ (by omega), ft 168 _ (by omega)]; exact c3 j hj
  · show s 51 16 + (if (aA F P s0 t0 K U W A u (i + 1)).2.2.2 = -1 then 0 else 1) = ta 121 96
    rw [ha, ft 121 96 (by omega)]; exact n6
  · show ta 121 98 = ((stA A u + (i + 1) : Nat) : Int)
    rw [h98, e98]; omega
  · show s 51 7 = ((cpo F P s0 t0 K U W A u (i + 1) : Nat) : Int)
    rw [hc]; exact e7
  · show st.length = (aA F P s0 t0 K U W A u (i + 1)).1
    rw [ha]; exact el
  · show (aA F P s0 t0 K U W A u (i + 1)).2.2.1 = true → (aA F P s0 t0 K U W A u (i + 1)).2.2.2 = -1 → ∃ w ws, (aA F P s0 t0 K U W A u (i + 1)).2.1 = w :: ws ∧ s 51 18 = (P w : Int)
    rw [ha]; exact ef
/-- the object of a call -/
theorem I_9 (hP : PRG F n N P s0 t0 K U W Y A I C p w tr t1 t2 t3) (h : SIM F P s0 t0 K U W A t3 fu s t (u, i, pv, vv, st, ob) g) (hr : (A.getD u []).getD i (0, 0, 0, 0) = r) (hk : r.1 = 9) : STP F P s0 t0 K U W A t3 fu s t ((u, i, pv, vv, st, ob) :: g) := by
  obtain ⟨it, k5, e98, ⟨hu, hi⟩, rq, el, b3⟩ := SIM_k hP h hr
  have hi1 := i_next hP hu hi hr (by omega)
  have th := (PRG_th hP hu hi hr).2.2 (Or.inl hk)
  obtain ⟨c, c1, c2, ⟨c3, c4, -⟩, -, c5, -⟩ := it.2.2.2.2.2.2.1 (Or.inl hk)
  have l2 := h.2.2.2.2.2.2.2.1.2.1
  have fr : (aA F P s0 t0 K U W A u i).2.2.1 = true := rq.2.2.2.2.2.2.2.2.1 (by omega)
  have w6 : w16 ob := h.2.1.1.2.2.1.2.2.2
  have e183 : t 183 g.length = ob := h.2.1.1.2.2.2.2.2.1
  have e88 : t 121 88 = ((g.length + 1 : Nat) : Int) := h.2.2.2.2.1.2.1
  have g40 : g.length + 1 ≤ 40 := h.2.2.2.2.1.2.2.1
  have f98 : ∀ c k, ¬ (c = 121 ∧ k = 98) → up t 121 98 (t 121 98 + 1) c k = t c k := fun c k z => up_ne z
  have o02 : 0 ≤ t 152 c ∧ t 152 c ≤ 2 := by
    rw [c3]
    unfold obR
    split
    · omega
    · split <;> omega
  have R : m_doItem t = (if t 152 c = 1 then bd (m_variable (t 153 c) (up t 121 98 (t 121 98 + 1))) (fun r36 s36 => bd (m_put r36 s36) (fun _ s37 => m_doItem_228 (t 121 98) s37)) else m_doItem_228 (t 121 98) (up t 121 98 (t 121 98 + 1))) := by
    unfold m_doItem
    rw [lt_eq, e98, gd_pos (by omega), Int.toNat_natCast, up_ne (by omega), it.1, hk, gr (by omega)]
    simp only [Int.reduceEq, ↓reduceIte]
    rw [up_ne (by omega), c2, gd_pos (by omega), Int.toNat_natCast, up_ne (by omega), up_ne (by omega), gr (by omega)]
  have R2 : ∀ z : iS, (∀ c' k', c' ≠ 180 → ¬ (c' = 121 ∧ (k' = 87 ∨ k' = 98 ∨ k' = 99 ∨ k' = 100)) → z c' k' = t c' k') → m_doItem_228 (t 121 98) z = if t 152 c = 2 then bd (m_put ob z) (fun _ s6 => some (0, s6)) else some (0, z) := fun z hz => by
    unfold m_doItem_228
    rw [e98, gd_pos (by omega), Int.toNat_natCast, hz 145 _ (by omega) (by omega), c2, gd_pos (by omega), Int.toNat_natCast, hz 152 _ (by omega) (by omega), gr (by omega)]
    by_cases q : t 152 c = 2
    · rw [if_pos q, if_pos q, hz 121 88 (by omega) (by omega), e88, gd_pos (by omega), show ((g.length + 1 : Nat) : Int) - 1 = (g.length : Int) by omega, Int.toNat_natCast, hz 183 _ (by omega) (by omega), e183]
    · rw [if_neg q, if_neg q]
  by_cases f1 : r.2.1 = -1
  · have o2 : t 152 c = 2 := by rw [c3]; unfold obR; rw [if_pos f1]
    have h10 := h.2.2.2.2.2.1.2.2 (th.1 f1)
    refine I_push (a := 6) (b := 0) (c := 0) (v := ob) (v' := ob) hP h hr (by
      have : obF F P t0 U W u r.2.1 = 1 := by unfold obF; rw [if_pos f1]
      omega) ?_ (by decide) (fun q hq => ?_) w6 ?_ (i_s_id w6)
    · unfold emU emI
      rw [hk]
      simp only [Int.reduceEq, ↓reduceIte]
      rw [if_pos f1]
    · rw [v_ptr (Or.inl rfl), if_pos rfl, hq 51 10 (by omega)]
      exact congrArg (fun z => some (z, q)) h10
    · rw [R, if_neg (by omega), R2 _ (fun c' k' z1 z2 => f98 c' k' (by omega)), if_pos o2]
  · have ag := c5 f1
    by_cases v1 : rvI F P t0 U W u r.2.1.toNat = -1
    · -- a class's name
      have o2 : t 152 c = 0 := by rw [c3]; unfold obR; rw [if_neg f1, if_pos v1]
      have ob0 : obF F P t0 U W u r.2.1 = 0 := by unfold obF; rw [if_neg f1, if_pos v1]
      have he : emU F P s0 t0 K U W u r = [] := by
        unfold emU emI
        rw [hk]
        simp only [Int.reduceEq, ↓reduceIte]
        rw [if_neg f1]
        unfold emV
        rcases ag with ⟨z, _⟩ | ⟨_, z, _⟩
        · rw [if_pos z]
        · exact absurd v1 z
      have e0 : e0U F P s0 t0 K U W u r = true := by unfold e0U; rw [he]; rfl
      have ha : aA F P s0 t0 K U W A u (i + 1) = aA F P s0 t0 K U W A u i := by
        rw [aA_s hi, hr]
        simp [nxA, hk, e0, ob0]
      have hc : cpo F P s0 t0 K U W A u (i + 1) = cpo F P s0 t0 K U W A u i := by
        rw [cpo_s hi, hr, he]; rfl
      have S := SIM_no (ta := up t 121 98 (t 121 98 + 1)) h hi1 hc ha hP.2.2.2.2.1 f98 (up_same _ _ _ _)
      refine STP_mk (m := 0) h hr hi1 (by rw [he]; rfl) TN_0 (run_nx (r := 0) l2.2 ?_) (f98 121 96 (by omega)) S ⟨Int.le_refl _, ?_⟩
      · rw [R, if_neg (by omega), R2 _ (fun c' k' z1 z2 => f98 c' k' (by omega)), if_neg (by omega)]
      · obtain ⟨-, -, -, -, -, -, -, -, ⟨n1, n2, n3, n4, n5, n6⟩, -⟩ := h
        split at n6 <;> omega
    · have o2 : t 152 c = 1 := by rw [c3]; unfold obR; rw [if_neg f1, if_neg v1]
      have ob1 : obF F P t0 U W u r.2.1 = 1 := by unfold obF; rw [if_neg f1, if_neg v1]
      obtain ⟨k, hx⟩ := rvI_nat v1
      have he : emU F P s0 t0 K U W u r = [(0, sgT (wGt W k), nuT (soF U u) (wGt W k), (wGt W k).2.2.2.2.2.2)] := by
        unfold emU emI
        rw [hk]
        simp only [Int.reduceEq, ↓reduceIte]
        rw [if_neg f1]
        exact emV_w ag hx
      have rows := var_rows hP hx h.1.2.1
      have R3 : m_doItem t = bd (m_variable (k : Int) (up t 121 98 (t 121 98 + 1))) (fun r36 s36 => bd (m_put r36 s36) (fun _ s37 => m_doItem_228 (t 121 98) s37)) := by
        rw [R, if_pos o2, c4 f1, hx]
      by_cases d1 : (wGt W k).2.2.1 = 1
      · have so : soF U u ≠ 2 := th.2 f1 v1 (by rw [hx, Int.toNat_natCast]; exact ⟨rows.2.2.2.2.2.2.2 d1, d1⟩)
        obtain ⟨f1', f2, f3⟩ := var_fd hP h hx d1 so
        obtain ⟨sB, m1, m2, m3, m4, m5⟩ := SIM_mk hP h
        obtain ⟨q1, q2⟩ := SIM_q h m4 (v := ((cpo F P s0 t0 K U W A u i + 1 : Nat) : Int))
        obtain ⟨mm, g1⟩ := h.1.1
        obtain ⟨L1, L2⟩ := SIM_len hP h
        obtain ⟨lb, go, l9⟩ := SIM_lb (s' := up sB 51 7 ((cpo F P s0 t0 K U W A u i + 1 : Nat) : Int)) (t' := up t 121 98 (t 121 98 + 1)) h (fun c k z => by rw [up_ne (by omega), m4 c k (by omega)]) (fun c k z1 z2 => up_ne (by omega))
        obtain ⟨f3', -⟩ := f3 (up t 121 98 (t 121 98 + 1)) (fun c k z => up_ne (by omega))
        have e4 := fetch4 (m := 0) (x := (0, sgT (wGt W k), nuT (soF U u) (wGt W k), (wGt W k).2.2.2.2.2.2)) g1 hu hi hr (by rw [he]; simp) (by rw [he]; rfl) (by simp) (by simp) (by show (wGt W k).2.2.2.2.2.2 ≠ -9; have := rows.2.2.2.2.1; omega) (by simp)
        obtain ⟨rv, rv', sa, ta, p1, p2, p3, p4⟩ := Ov_un (rd_ok1 (a := ob + (wGt W k).2.2.2.2.2.1) lb go) (fun r r' z => by rw [← z.1, i_s_id z.2])
        have cx := rd_cx p1
        have rx : ∀ c k, ¬ (c = 121 ∧ (k = 99 ∨ k = 100)) → ta c k = up t 121 98 (t 121 98 + 1) c k := fun c k z => (show md L_m_read G_m_read _ ta from fm_read _ _ _ p2) c k (by simp [L_m_read]) (by simp [G_m_read]; omega)
        have rxt : ∀ c k, ¬ (c = 121 ∧ (k = 98 ∨ k = 99 ∨ k = 100)) → ta c k = t c k := fun c k z => by rw [rx c k (by omega), up_ne (by omega)]
        have rtk : RTK ta (rsG g ++ st) := RTK_of (RTK_98 (z := t 121 98 + 1) h.2.2.1.2) (rx 121 87 (by omega)) (funext fun k => rx 180 k (by omega))
        refine I_eff (M := st) (sa := sa) (ta := ta) (rv := rv) (rv' := rv') hP h hr ⟨fun _ => by unfold e0U; rw [he]; rfl, by omega, by omega, by omega, by omega⟩ fr m2 m3 m4 m5 (by rw [he]; simp) (fun s' e => ?_) ?_ p3 p4 (by rw [rd_9 p1]; exact l9) (fun c k z1 z2 z3 => by rw [cx c k z1, up_ne (by omega)]) (by rw [cx 51 7 (by omega), up_same, he]; rfl) (fun c k z1 z2 z3 z4 z5 z6 z7 => rxt c k (by omega)) (by rw [rx 121 98 (by omega), up_same]) (STK_of q1 (cx 51 6 (by omega)) (funext fun k => cx 52 k (by omega))) rtk L1 L2 b3 ?_
        · rw [he]
          refine step0 h hr m1 (by rw [he]; simp) (x := (0, sgT (wGt W k), nuT (soF U u) (wGt W k), (wGt W k).2.2.2.2.2.2)) (by rw [he]; rfl) (rr := 0) ?_
          rw [Nat.add_zero] at e4
          rw [e4, f1']
          unfold mac_doCommand mac_valueOf
          simp only [Int.reduceEq, ↓reduceIte]
          rw [gr (by omega), gr (by omega), up_ne (by omega), m4 51 10 (by omega), f2, bd_id, p1, bq]
          exact e
        · obtain ⟨tz, y1, y2, y3⟩ := rput_ex (v := i_s rv') (v' := rv') rtk (by have : (rsG g ++ st).length ≤ 15360 := L2
                                                                                omega) rfl
          rw [R3, f3', p2, bq, y1, bq, bq, R2 tz (fun c' k' z1 z2 => by rw [y3 c' k' z1 (by omega), rxt c' k' (by omega)]), if_neg (by omega)]
        · unfold nxA
          dsimp only
          rw [if_neg (by omega), if_neg (by omega), if_pos (by omega), el, ob1]
      · obtain ⟨v, w1, w2, w3⟩ := var_go hP h hx d1
        refine I_push (v := v) (v' := v) hP h hr (by omega) he (by have := rows.2.2.2.2.1; omega) w2 w1 ?_ (i_s_id w1)
        obtain ⟨L1, L2⟩ := SIM_len hP h
        obtain ⟨tz, y1, y2, y3⟩ := rput_ex (v := v) (v' := v) (RTK_98 (z := t 121 98 + 1) h.2.2.1.2) (by omega) (i_s_id w1)
        rw [R3, w3 _ (fun c k z => up_ne z), bq, y1, bq, bq, R2 tz (fun c' k' z1 z2 => by rw [y3 c' k' z1 (by omega), f98 c' k' (by omega)]), if_neg (by omega)]
end RNu
