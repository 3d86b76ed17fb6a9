/-! both machines: variables and memory are read -/
section RNq
variable {F : Nat → Int} {n N : Nat} {P : Nat → Nat} {s0 t0 : iS} {K : List Nat} {U : List urec} {W : List wrec} {Y : List Nat} {A : List (List itm)} {I C p w u i j k fu m : Nat} {tr t1 t2 t3 s s' t t' q qB sB s1 sa ta : iS} {r : itm} {x : crc} {f : frm} {g : List frm} {pv vv st st' L M : List Int} {ob v v' rv rv' : Int}
theorem Ov_un {V : Int → Int → Prop} {X Y : Option (Int × iS)} (h : Ov V X Y) (hV : ∀ r r', V r r' → r = i_s r') : ∃ r r' s3 t3, X = some (r, s3) ∧ Y = some (r', t3) ∧ LB s3 t3 ∧ (gO s3 t3 ∧ r = i_s r' ∨ kO s3 t3) := by
  rcases h with ⟨r, r', s', t', e1, e2, e3, e4, e5⟩ | ⟨r, r', s', t', e1, e2, e3, e4, e5⟩
  · exact ⟨r, r', s', t', e1, e2, e4, Or.inl ⟨e5, hV _ _ e3⟩⟩
  · exact ⟨r, r', s', t', e1, e2, e4, Or.inr e5⟩
/-- an effect whose value is pushed -/
theorem I_eff (hP : PRG F n N P s0 t0 K U W Y A I C p w tr t1 t2 t3) (h : SIM F P s0 t0 K U W A t3 fu s t (u, i, pv, vv, st, ob) g) (hr : (A.getD u []).getD i (0, 0, 0, 0) = r) (hk : (r.1 = 9 → e0U F P s0 t0 K U W u r = false) ∧ r.1 ≠ 11 ∧ r.1 ≠ 12 ∧ r.1 ≠ 17 ∧ r.1 ≠ 18) (hf : (aA F P s0 t0 K U W A u i).2.2.1 = true)
    (m2 : sB 51 16 = t 121 96) (m3 : s 51 16 ≤ sB 51 16) (m4 : ∀ c k, ¬ (c = 51 ∧ (k = 16 ∨ k = 18)) → sB c k = s c k) (m5 : (aA F P s0 t0 K U W A u i).2.2.1 = true → ∃ w ws, (aA F P s0 t0 K U W A u i).2.1 = w :: ws ∧ sB 51 18 = (P w : Int))
    (h3000 : (emU F P s0 t0 K U W u r).length ≤ 3000) (hT : ∀ s', bd (mac_push rv sa) (fun _ s4 => mac_doCommand_258 s4) = some (0, s') → TN (emU F P s0 t0 K U W u r).length s s') (hR : m_doItem t = bd (m_put rv' ta) (fun _ z => some (0, z)))
    (hL : LB sa ta) (ho : gO sa ta ∧ rv = i_s rv' ∨ kO sa ta) (h9 : sa 48 9 = 0)
    (fs : ∀ c k, ¬ (44 ≤ c ∧ c ≤ 49) → c ≠ 52 → ¬ (c = 51 ∧ (k = 6 ∨ k = 7 ∨ k = 11 ∨ k = 12)) → sa c k = sB c k) (hpc : sa 51 7 = ((cpo F P s0 t0 K U W A u i + (emU F P s0 t0 K U W u r).length : Nat) : Int))
    (ft : ∀ c k, c ≠ 175 → c ≠ 176 → c ≠ 177 → c ≠ 187 → c ≠ 188 → c ≠ 180 → ¬ (c = 121 ∧ (k = 81 ∨ k = 99 ∨ k = 100 ∨ k = 103 ∨ k = 106 ∨ k = 108 ∨ k = 87 ∨ k = 98)) → ta c k = t c k) (h98 : ta 121 98 = t 121 98 + 1)
    (hST : STK sa (csG U g ++ (preF U (u, i, pv, vv, st, ob) ++ pv ++ vv ++ M))) (hRT : RTK ta (rsG g ++ M)) (hl1 : (csG U g ++ (preF U (u, i, pv, vv, st, ob) ++ pv ++ vv ++ M)).length ≤ 15360) (hl2 : (rsG g ++ M).length ≤ 15360) (hM : ∀ x ∈ M, w16 x)
    (hlen : M.length + 1 = (nxA P (obF F P t0 U W u) (e0U F P s0 t0 K U W u) (aA F P s0 t0 K U W A u i) r).1) : STP F P s0 t0 K U W A t3 fu s t ((u, i, pv, vv, st, ob) :: g) := by
  obtain ⟨s', t', e1, e2, e3, e4, e5, e6⟩ := EFF_tail hL ho h9 hST hRT (by omega) (by omega)
  have hR' : m_doItem t = some (0, t') := by rw [hR, e2, bq]
  have h' := h
  obtain ⟨-, ⟨⟨⟨b1, b1'⟩, -, ⟨b3, b3', -⟩, b4, b5, -⟩, -⟩, -, -, -, -, st1, ⟨l1, l2, l3, l4⟩, -, -, -, -⟩ := h'
  dsimp only at b1 b1' b3 b3' b4 b5
  have ft' : ∀ c k, c ≠ 175 → c ≠ 176 → c ≠ 177 → c ≠ 187 → c ≠ 188 → c ≠ 180 → ¬ (c = 121 ∧ (k = 81 ∨ k = 99 ∨ k = 100 ∨ k = 103 ∨ k = 106 ∨ k = 108 ∨ k = 87 ∨ k = 98)) → t' c k = t c k := fun c k z1 z2 z3 z4 z5 z6 z7 => by
    rw [e4 c k z6 (by omega)]
    exact ft c k z1 z2 z3 z4 z5 z6 z7
  rcases e6 with ⟨a1, a2, a3, a4, a5⟩ | ⟨a1, a2⟩
  · refine STP_go (pv' := pv) (vv' := vv) (st' := M ++ [rv]) hP h hr hk m2 m3 m4 m5 (hT s' e1) hR' (fun c k z1 z2 z3 z4 => ?_) (fun c k z1 z2 z3 z4 z5 z6 _ _ z7 => ft' c k z1 z2 z3 z4 z5 z6 z7) ⟨e5, a1, by rw [e3 48 9 (by omega) (by omega)]; exact h9⟩ (by rw [e3 51 7 (by omega) (by omega)]; exact hpc) (by rw [e4 121 98 (by omega) (by omega)]; exact h98) ⟨rfl, rfl⟩ ⟨b3, b3', fun x hx => ?_⟩ (fun k _ => ft' 179 k (by omega) (by omega) (by omega) (by omega) (by omega) (by omega) (by omega)) (fun k hk => by rw [ft' 179 _ (by omega) (by omega) (by omega) (by omega) (by omega) (by omega) (by omega)]; exact b4 k hk) (fun k hk => by rw [ft' 179 _ (by omega) (by omega) (by omega) (by omega) (by omega) (by omega) (by omega)]; exact b5 k hk) (by rw [L4]; exact a3) (by rw [← List.append_assoc]; exact a4) (fun k hk => ?_) (by rw [List.length_append, List.length_singleton]; exact hlen)
    · by_cases z : c = 51 ∧ k = 14
      · obtain ⟨z1', z2'⟩ := z
        subst z1'; subst z2'
        rw [a2]
        exact fs 51 14 (by omega) (by omega) (by omega)
      · rw [e3 c k z2 (by omega)]
        exact fs c k z1 z2 z4
    · rcases List.mem_append.mp hx with z | z
      · exact hM x z
      · rw [List.mem_singleton.mp z]; exact a5
    · rw [e3 54 k (by omega) (by omega), fs 54 k (by omega) (by omega) (by omega), m4 54 k (by omega), ft' 178 k (by omega) (by omega) (by omega) (by omega) (by omega) (by omega) (by omega)]
      exact st1 k hk
  · exact STP_fl hP h hf m2 m3 m4 m5 h3000 (hT s' e1) hR' (fun k z => by rw [e3 51 k (by omega) (by omega)]; exact fs 51 k (by omega) (by omega) (by omega)) (by rw [a1, a2]; omega) (fun k z => ft' 121 k (by omega) (by omega) (by omega) (by omega) (by omega) (by omega) (by omega)) (funext fun k => ft' 185 k (by omega) (by omega) (by omega) (by omega) (by omega) (by omega) (by omega)) e5
theorem emV_w {kd : Int} (ha : Agr F P t0 U W u j) (hx : rvI F P t0 U W u j = (k : Int)) : emV F P t0 (wlF U W u) (wlFc U W u).length (soF U u) kd j = [(kd, sgT (wGt W k), nuT (soF U u) (wGt W k), (wGt W k).2.2.2.2.2.2)] := by
  rcases ha with ⟨_, a2⟩ | ⟨a1, _, a3⟩
  · omega
  · unfold emV
    rw [if_neg a1, a3, hx, Int.toNat_natCast]
theorem rvI_nat (h : rvI F P t0 U W u j ≠ -1) : ∃ k : Nat, rvI F P t0 U W u j = (k : Int) := by
  rcases rvI_rg (F := F) (P := P) (t0 := t0) (U := U) (W := W) (u := u) (j := j) with z | z
  · exact absurd z h
  · exact ⟨(rvI F P t0 U W u j).toNat, by omega⟩
/-- both stand alike at an item -/
theorem SIM_lb (h : SIM F P s0 t0 K U W A t3 fu s t f g) (hs : ∀ c k, (44 ≤ c ∧ c ≤ 50) → s' c k = s c k) (ht : ∀ c k, c ≠ 180 → ¬ (c = 121 ∧ (k = 87 ∨ k = 98)) → t' c k = t c k) : LB s' t' ∧ gO s' t' ∧ s' 48 9 = 0 := by
  obtain ⟨-, -, -, -, -, -, -, ⟨l1, l2, l3, -⟩, -⟩ := h
  exact ⟨LB_of l1 (fun c k z => hs c k (by omega)) (fun c k z => ht c k (by omega) (by omega)), ⟨by rw [hs 44 5 (by omega)]; exact l2.1, by rw [ht 121 99 (by omega) (by omega)]; exact l2.2⟩, by rw [hs 48 9 (by omega)]; exact l3⟩
/-- a variable -/
theorem I_4 (hP : PRG F n N P s0 t0 K U W Y A I C p w tr t1 t2 t3) (h : SIM F P s0 t0 K U W A t3 fu s t (u, i, pv, vv, st, ob) g) (hr : (A.getD u []).getD i (0, 0, 0, 0) = r) (hk : r.1 = 4) : STP F P s0 t0 K U W A t3 fu s t ((u, i, pv, vv, st, ob) :: g) := by
  obtain ⟨it, k5, e98, ⟨hu, hi⟩, rq, el, b3⟩ := SIM_k hP h hr
  obtain ⟨e145, nv, ag⟩ := it.2.2.2.2.1 (Or.inl hk)
  obtain ⟨k, hx⟩ := rvI_nat nv
  have he : emU F P s0 t0 K U W u r = [(0, sgT (wGt W k), nuT (soF U u) (wGt W k), (wGt W k).2.2.2.2.2.2)] := by
    unfold emU emI
    rw [hk]
    simp only [Int.reduceEq, ↓reduceIte]
    exact emV_w ag hx
  have hR : m_doItem t = bd (m_variable (k : Int) (up t 121 98 (t 121 98 + 1))) (fun r14 s14 => bd (m_put r14 s14) (fun _ s15 => some (0, s15))) := by
    unfold m_doItem
    rw [lt_eq, e98, gd_pos (by omega), Int.toNat_natCast, up_ne (by omega), it.1, hk, gr (by omega)]
    simp only [Int.reduceEq, ↓reduceIte]
    rw [up_ne (by omega), e145, hx]
  have rows := var_rows hP hx h.1.2.1
  by_cases c1 : (wGt W k).2.2.1 = 1
  · have so : soF U u ≠ 2 := (PRG_th hP hu hi hr).2.1 (Or.inl hk) (by rw [hx, Int.toNat_natCast]; exact ⟨rows.2.2.2.2.2.2.2 c1, c1⟩)
    obtain ⟨f1, f2, f3⟩ := var_fd hP h hx c1 so
    obtain ⟨sB, m1, m2, m3, m4, m5⟩ := SIM_mk hP h
    obtain ⟨q1, q2⟩ := SIM_q h m4 (v := ((cpo F P s0 t0 K U W A u i + 1 : Nat) : Int))
    obtain ⟨mm, g1⟩ := h.1.1
    obtain ⟨L1, L2⟩ := SIM_len hP h
    have fr : (aA F P s0 t0 K U W A u i).2.2.1 = true := rq.2.2.2.2.2.2.2.2.1 (by omega)
    obtain ⟨lb, go, l9⟩ := SIM_lb (s' := up sB 51 7 ((cpo F P s0 t0 K U W A u i + 1 : Nat) : Int)) (t' := up t 121 98 (t 121 98 + 1)) h (fun c k z => by rw [up_ne (by omega), m4 c k (by omega)]) (fun c k z1 z2 => up_ne (by omega))
    obtain ⟨f3', -⟩ := f3 (up t 121 98 (t 121 98 + 1)) (fun c k z => up_ne (by omega))
    have e4 := fetch4 (m := 0) (x := (0, sgT (wGt W k), nuT (soF U u) (wGt W k), (wGt W k).2.2.2.2.2.2)) g1 hu hi hr (by rw [he]; simp) (by rw [he]; rfl) (by simp) (by simp) (by show (wGt W k).2.2.2.2.2.2 ≠ -9; have := rows.2.2.2.2.1; omega) (by simp)
    obtain ⟨rv, rv', sa, ta, o1, o2, o3, o4⟩ := Ov_un (rd_ok1 (a := ob + (wGt W k).2.2.2.2.2.1) lb go) (fun r r' z => by rw [← z.1, i_s_id z.2])
    have cx := rd_cx o1
    have rx := rd_rx o2
    refine I_eff (M := st) (sa := sa) (ta := ta) (rv := rv) (rv' := rv') hP h hr (by omega) fr m2 m3 m4 m5 (by rw [he]; simp) (fun s' e => ?_) (by rw [hR, f3', o2, bq]) o3 o4 (by rw [rd_9 o1]; exact l9) (fun c k z1 z2 z3 => by rw [cx c k z1, up_ne (by omega)]) (by rw [cx 51 7 (by omega), up_same, he]; rfl) (fun c k z1 z2 z3 z4 z5 z6 z7 => by rw [rx c k z1 z2 z3 z4 (by omega), up_ne (by omega)]) (by rw [rx 121 98 (by omega) (by omega) (by omega) (by omega) (by omega), up_same]) (STK_of q1 (cx 51 6 (by omega)) (funext fun k => cx 52 k (by omega))) (RTK_of (RTK_98 (z := t 121 98 + 1) h.2.2.1.2) (rx 121 87 (by omega) (by omega) (by omega) (by omega) (by omega)) (funext fun k => rx 180 k (by omega) (by omega) (by omega) (by omega) (by omega))) L1 L2 b3 ?_
    · rw [he]
      refine step0 h hr m1 (by rw [he]; simp) (x := (0, sgT (wGt W k), nuT (soF U u) (wGt W k), (wGt W k).2.2.2.2.2.2)) (by rw [he]; rfl) (rr := 0) ?_
      rw [Nat.add_zero] at e4
      rw [e4, f1]
      unfold mac_doCommand mac_valueOf
      simp only [Int.reduceEq, ↓reduceIte]
      rw [gr (by omega), gr (by omega), up_ne (by omega), m4 51 10 (by omega), f2, bd_id, o1, bq]
      exact e
    · unfold nxA
      dsimp only
      rw [if_pos (by omega), el]
  · obtain ⟨v, v1, v2, v3⟩ := var_go hP h hx c1
    exact I_push (v := v) (v' := v) hP h hr (by omega) he (by have := rows.2.2.2.2.1; omega) v2 v1 (by rw [hR, v3 _ (fun c k z => up_ne z), bq]) (i_s_id v1)
/-- a word of memory -/
theorem I_5 (hP : PRG F n N P s0 t0 K U W Y A I C p w tr t1 t2 t3) (h : SIM F P s0 t0 K U W A t3 fu s t (u, i, pv, vv, st, ob) g) (hr : (A.getD u []).getD i (0, 0, 0, 0) = r) (hk : r.1 = 5) : STP F P s0 t0 K U W A t3 fu s t ((u, i, pv, vv, st, ob) :: g) := by
  obtain ⟨it, k5, e98, ⟨hu, hi⟩, rq, el, b3⟩ := SIM_k hP h hr
  obtain ⟨L1, L2⟩ := SIM_len hP h
  obtain ⟨mm, g1⟩ := h.1.1
  have rt := h.2.2.1.2
  have r1 : 2 ≤ st.length := by rw [el]; exact rq.1 (by omega)
  obtain ⟨M, x, y, est⟩ := snoc2 r1
  have wx : w16 x := b3 x (by rw [est]; simp)
  have wy : w16 y := b3 y (by rw [est]; simp)
  have L1' : (csG U g ++ (preF U (u, i, pv, vv, st, ob) ++ pv ++ vv ++ M)).length + 2 ≤ 15360 := by
    have : (csG U g ++ (preF U (u, i, pv, vv, st, ob) ++ pv ++ vv ++ st)).length ≤ 15360 := L1
    rw [est, L4, List.length_append] at this
    rw [est]
    exact this
  have L2' : (rsG g ++ M).length + 2 ≤ 15360 := by
    have : (rsG g ++ st).length ≤ 15360 := L2
    rw [est, ← List.append_assoc, List.length_append] at this
    exact this
  have he : emU F P s0 t0 K U W u r = [(2, 0, 0, 0), (1, 6, 1, 0), (0, 5, 0, 0)] := by
    unfold emU emI
    rw [hk]
    simp only [Int.reduceEq, ↓reduceIte]
  have fr : (aA F P s0 t0 K U W A u i).2.2.1 = true := rq.2.2.2.2.2.2.2.2.1 (by omega)
  obtain ⟨sB, m1, m2, m3, m4, m5⟩ := SIM_mk hP h
  obtain ⟨q1, q2⟩ := SIM_q h m4 (v := ((cpo F P s0 t0 K U W A u i + 1 : Nat) : Int))
  rw [show csG U g ++ (preF U (u, i, pv, vv, st, ob) ++ pv ++ vv ++ st) = (csG U g ++ (preF U (u, i, pv, vv, st, ob) ++ pv ++ vv ++ M)) ++ [x, y] by rw [← L4, ← est]] at q1
  -- ADD
  have e0 := fetch4 (m := 0) (x := (2, 0, 0, 0)) g1 hu hi hr (by rw [he]; simp) (by rw [he]; rfl) (by simp) (by simp) (by simp) (by simp)
  obtain ⟨s1, d1, d2, d3⟩ := c_two (k := 2) (a := 0) (b := 0) (c := 0) (Or.inl rfl) q1 (by omega) q2 wx wy
  have tn1 := step0 h hr m1 (by rw [he]; simp) (x := (2, 0, 0, 0)) (by rw [he]; rfl) (by rw [Nat.add_zero] at e0; rw [e0]; exact d1)
  have cx1 := CX_fs d3
  rw [if_pos rfl] at d2
  have nf1 := nf_fs q2 d3
  -- POP pointer 1
  have e1 := fetch4 (m := 1) (x := (1, 6, 1, 0)) g1 hu hi hr (by rw [he]; simp) (by rw [he]; rfl) (by simp) (by simp) (by simp) (by simp)
  have s2 : STK (up s1 51 7 ((cpo F P s0 t0 K U W A u i + (1 + 1) : Nat) : Int)) ((csG U g ++ (preF U (u, i, pv, vv, st, ob) ++ pv ++ vv ++ M)) ++ [i_s (x + y)]) := STK_of d2 (up_ne (by omega)) (funext fun k => up_ne (by omega))
  obtain ⟨s3, d4, d5, d6⟩ := c_popv (a := 6) (b := 1) (c := 0) s2 (by omega)
  have n5 : s3 44 5 = 0 := by rw [d5 44 5 (by omega) (by omega), up_ne (by omega)]; exact nf1.1
  have n9 : s3 48 9 = 0 := by rw [d5 48 9 (by omega) (by omega), up_ne (by omega)]; exact nf1.2
  rw [as_ptr (Or.inr rfl), bq, if_neg (by decide), d258 (by rw [up_ne (by omega)]; exact n5) (by rw [up_ne (by omega)]; exact n9)] at d6
  have tn2 := stepm (m := 1) h hr m1 m2 m4 (by decide) cx1 (by rw [he]; simp) (x := (1, 6, 1, 0)) (by rw [he]; rfl) (by rw [e1]; exact d6)
  have cx2 : CX sB (up s3 51 11 (i_s (x + y))) (cpo F P s0 t0 K U W A u i + 2) := ⟨fun c j z1 z2 => by rw [up_ne (by omega), d5 c j z1 (by omega), up_ne (by omega)]; exact cx1.1 c j z1 z2, by rw [up_ne (by omega), d5 51 7 (by omega) (by omega), up_same]⟩
  -- PUSH that
  have e2 := fetch4 (m := 2) (x := (0, 5, 0, 0)) g1 hu hi hr (by rw [he]; simp) (by rw [he]; rfl) (by simp) (by simp) (by simp) (by simp)
  obtain ⟨sc, hsc⟩ : ∃ sc, sc = up (up s3 51 11 (i_s (x + y))) 51 7 ((cpo F P s0 t0 K U W A u i + (2 + 1) : Nat) : Int) := ⟨_, rfl⟩
  have fc : ∀ c k, c ≠ 52 → ¬ (c = 51 ∧ (k = 6 ∨ k = 7 ∨ k = 11 ∨ k = 12)) → sc c k = sB c k := fun c k z1 z2 => by rw [hsc, up_ne (by omega)]; exact cx2.1 c k z1 z2
  have c11 : sc 51 11 = i_s (x + y) := by rw [hsc, up_ne (by omega), up_same]
  have c7 : sc 51 7 = ((cpo F P s0 t0 K U W A u i + 3 : Nat) : Int) := by rw [hsc, up_same]
  have cst : STK sc (csG U g ++ (preF U (u, i, pv, vv, st, ob) ++ pv ++ vv ++ M)) := by rw [hsc]; exact STK_of d4 (by rw [up_ne (by omega), up_ne (by omega)]) (funext fun k => by rw [up_ne (by omega), up_ne (by omega)])
  -- the reference
  have rt' : RTK (up t 121 98 (t 121 98 + 1)) (((rsG g ++ M) ++ [x]) ++ [y]) := by
    have := RTK_98 (z := t 121 98 + 1) rt
    rw [show rsG ((u, i, pv, vv, st, ob) :: g) = ((rsG g ++ M) ++ [x]) ++ [y] by rw [List.append_assoc, List.append_assoc]; show rsG g ++ st = _; rw [est]; simp] at this
    exact this
  obtain ⟨tb, a1, a2, a3⟩ := rpop_ex rt' (by rw [List.length_append, List.length_singleton]; omega)
  obtain ⟨tc, b1, b2, b4⟩ := rpop_ex a2 (by omega)
  have ftc : ∀ c k, ¬ (c = 121 ∧ (k = 87 ∨ k = 98)) → tc c k = t c k := fun c k z => by rw [b4 c k (by omega), a3 c k (by omega), up_ne (by omega)]
  obtain ⟨lb, go, l9⟩ := SIM_lb (s' := sc) (t' := tc) h (fun c k z => by rw [fc c k (by omega) (by omega), m4 c k (by omega)]) (fun c k z1 z2 => ftc c k z2)
  obtain ⟨rv, rv', sa, ta, o1, o2, o3, o4⟩ := Ov_un (rd_ok1 (a := x + y) lb go) (fun r r' z => by rw [← z.1, i_s_id z.2])
  have cx := rd_cx o1
  have rx := rd_rx o2
  have ois : mem_read (i_s (x + y) + 0) sc = mem_read (x + y) sc := by
    unfold mem_read
    rw [Int.add_zero, i_s_id (i_s_rg _)]
  refine I_eff (M := M) (sa := sa) (ta := ta) (rv := rv) (rv' := rv') hP h hr (by omega) fr m2 m3 m4 m5 (by rw [he]; simp) (fun s' e => ?_) ?_ o3 o4 (by rw [rd_9 o1]; exact l9) (fun c k z1 z2 z3 => by rw [cx c k z1]; exact fc c k z2 z3) (by rw [cx 51 7 (by omega), c7, he]; rfl) (fun c k z1 z2 z3 z4 z5 z6 z7 => by rw [rx c k z1 z2 z3 z4 (by omega), ftc c k (by omega)]) (by rw [rx 121 98 (by omega) (by omega) (by omega) (by omega) (by omega), b4 121 98 (by omega), a3 121 98 (by omega), up_same]) (STK_of cst (cx 51 6 (by omega)) (funext fun k => cx 52 k (by omega))) (RTK_of b2 (rx 121 87 (by omega) (by omega) (by omega) (by omega) (by omega)) (funext fun k => rx 180 k (by omega) (by omega) (by omega) (by omega) (by omega))) (by omega) (by omega) (fun x hx => b3 x (by rw [est]; exact List.mem_append_left _ hx)) ?_
  · rw [he]
    refine TN_add (TN_add tn1 tn2) (stepm (m := 2) h hr m1 m2 m4 (by decide) cx2 (by rw [he]; simp) (x := (0, 5, 0, 0)) (by rw [he]; rfl) (rr := 0) ?_)
    rw [e2, ← hsc]
    unfold mac_doCommand mac_valueOf
    simp only [Int.reduceEq, ↓reduceIte]
    rw [gr (by omega), gr (by omega), c11, ois, bd_id, o1, bq]
    exact e
  · unfold m_doItem
    rw [e98] at a1
    rw [lt_eq, e98, gd_pos (by omega), Int.toNat_natCast, up_ne (by omega), it.1, hk, gr (by omega)]
    simp only [Int.reduceEq, ↓reduceIte]
    rw [a1, bq, b1, bq, o2, bq]
  · have : st.length = M.length + 2 := by rw [est, List.length_append]; rfl
    unfold nxA
    dsimp only
    rw [if_neg (by omega), if_pos (by omega), ← el]
    omega
end RNq
