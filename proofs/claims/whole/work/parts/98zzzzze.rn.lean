/-! both machines: variables and memory are written -/
section RNr
variable {F : Nat → Int} {n N : Nat} {P : Nat → Nat} {s0 t0 : iS} {K : List Nat} {U : List urec} {W : List wrec} {Y : List Nat} {A : List (List itm)} {I C p w u i j k fu m : Nat} {tr t1 t2 t3 s s' t t' q qB sB s1 sa ta : iS} {r : itm} {f : frm} {g : List frm} {pv vv st st' L M : List Int} {ob v v' x y : Int}
theorem EFF_end (h : LB s t) (ho : gO s t ∨ kO s t) (h9 : s 48 9 = 0) : ∃ s', mac_doCommand_258 s = some (0, s') ∧ (∀ c k, ¬ (c = 51 ∧ k = 14) → s' c k = s c k) ∧ LB s' t ∧ (gO s' t ∧ s' = s ∨ s' 51 14 = 3 ∧ t 121 99 = 3) := by
  rcases ho with g | g
  · exact ⟨s, d258 g.1 h9, fun _ _ _ => rfl, h, Or.inl ⟨g, rfl⟩⟩
  · exact ⟨up s 51 14 3, d258_f g.1, fun c k z => up_ne z, LB_of h (fun c k z => up_ne (by omega)) (fun _ _ _ => rfl), Or.inr ⟨up_same _ _ _ _, g.2⟩⟩
/-- an effect without a value -/
theorem I_eff2 (hP : PRG F n N P s0 t0 K U W Y A I C p w tr t1 t2 t3) (h : SIM F P s0 t0 K U W A t3 fu s t (u, i, pv, vv, st, ob) g) (hr : (A.getD u []).getD i (0, 0, 0, 0) = r) (hk : (r.1 = 9 → e0U F P s0 t0 K U W u r = false) ∧ r.1 ≠ 11 ∧ r.1 ≠ 12 ∧ r.1 ≠ 17 ∧ r.1 ≠ 18) (hf : (aA F P s0 t0 K U W A u i).2.2.1 = true)
    (m2 : sB 51 16 = t 121 96) (m3 : s 51 16 ≤ sB 51 16) (m4 : ∀ c k, ¬ (c = 51 ∧ (k = 16 ∨ k = 18)) → sB c k = s c k) (m5 : (aA F P s0 t0 K U W A u i).2.2.1 = true → ∃ w ws, (aA F P s0 t0 K U W A u i).2.1 = w :: ws ∧ sB 51 18 = (P w : Int))
    (h3000 : (emU F P s0 t0 K U W u r).length ≤ 3000) (hT : ∀ s', mac_doCommand_258 sa = some (0, s') → TN (emU F P s0 t0 K U W u r).length s s') {rr : Int} (hR : m_doItem t = some (rr, ta))
    (hL : LB sa ta) (ho : gO sa ta ∨ kO sa ta) (h9 : sa 48 9 = 0)
    (fs : ∀ c k, ¬ (44 ≤ c ∧ c ≤ 49) → c ≠ 52 → ¬ (c = 51 ∧ (k = 6 ∨ k = 7 ∨ k = 11 ∨ k = 12)) → sa c k = sB c k) (hpc : sa 51 7 = ((cpo F P s0 t0 K U W A u i + (emU F P s0 t0 K U W u r).length : Nat) : Int))
    (ft : ∀ c k, c ≠ 175 → c ≠ 176 → c ≠ 177 → c ≠ 187 → c ≠ 188 → c ≠ 180 → ¬ (c = 121 ∧ (k = 81 ∨ k = 99 ∨ k = 100 ∨ k = 103 ∨ k = 106 ∨ k = 108 ∨ k = 87 ∨ k = 98)) → ta c k = t c k) (h98 : ta 121 98 = t 121 98 + 1)
    (hST : STK sa (csG U g ++ (preF U (u, i, pv, vv, st, ob) ++ pv ++ vv ++ M))) (hRT : RTK ta (rsG g ++ M)) (hM : ∀ x ∈ M, w16 x)
    (hlen : M.length = (nxA P (obF F P t0 U W u) (e0U F P s0 t0 K U W u) (aA F P s0 t0 K U W A u i) r).1) : STP F P s0 t0 K U W A t3 fu s t ((u, i, pv, vv, st, ob) :: g) := by
  obtain ⟨s', e1, e3, e5, e6⟩ := EFF_end hL ho h9
  have h' := h
  obtain ⟨-, ⟨⟨⟨b1, b1'⟩, -, ⟨b3, b3', -⟩, b4, b5, -⟩, -⟩, -, -, -, -, st1, ⟨l1, l2, l3, l4⟩, -, -, -, -⟩ := h'
  dsimp only at b1 b1' b3 b3' b4 b5
  rcases e6 with ⟨a1, a2⟩ | ⟨a1, a2⟩
  · subst a2
    refine STP_go (pv' := pv) (vv' := vv) (st' := M) hP h hr hk m2 m3 m4 m5 (hT s' e1) hR (fun c k z1 z2 z3 z4 => fs c k z1 z2 z4) (fun c k z1 z2 z3 z4 z5 z6 _ _ z7 => ft c k z1 z2 z3 z4 z5 z6 z7) ⟨e5, a1, h9⟩ hpc h98 ⟨rfl, rfl⟩ ⟨b3, b3', hM⟩ (fun k _ => ft 179 k (by omega) (by omega) (by omega) (by omega) (by omega) (by omega) (by omega)) (fun k hk => by rw [ft 179 _ (by omega) (by omega) (by omega) (by omega) (by omega) (by omega) (by omega)]; exact b4 k hk) (fun k hk => by rw [ft 179 _ (by omega) (by omega) (by omega) (by omega) (by omega) (by omega) (by omega)]; exact b5 k hk) hST hRT (fun k hk => ?_) hlen
    rw [fs 54 k (by omega) (by omega) (by omega), m4 54 k (by omega), ft 178 k (by omega) (by omega) (by omega) (by omega) (by omega) (by omega) (by omega)]
    exact st1 k hk
  · exact STP_fl hP h hf m2 m3 m4 m5 h3000 (hT s' e1) hR (fun k z => by rw [e3 51 k (by omega)]; exact fs 51 k (by omega) (by omega) (by omega)) (by rw [a1, a2]; omega) (fun k z => ft 121 k (by omega) (by omega) (by omega) (by omega) (by omega) (by omega) (by omega)) (funext fun k => ft 185 k (by omega) (by omega) (by omega) (by omega) (by omega) (by omega) (by omega)) e5
theorem Ov_u2 {V : Int → Int → Prop} {X Y : Option (Int × iS)} (h : Ov V X Y) : ∃ r r' s3 t3, X = some (r, s3) ∧ Y = some (r', t3) ∧ LB s3 t3 ∧ (gO s3 t3 ∨ kO s3 t3) := by
  rcases h with ⟨r, r', s', t', e1, e2, e3, e4, e5⟩ | ⟨r, r', s', t', e1, e2, e3, e4, e5⟩
  · exact ⟨r, r', s', t', e1, e2, e4, Or.inl e5⟩
  · exact ⟨r, r', s', t', e1, e2, e4, Or.inr e5⟩
/-- a cell of the stack is written -/
theorem set_in {L A B C : List Int} (h : k < B.length) : L ++ (A ++ B.set k x ++ C) = (L ++ (A ++ B ++ C)).set (L.length + A.length + k) x := by
  rw [List.set_append_right _ _ (by omega), List.set_append_left _ _ (by rw [List.length_append]; omega), List.set_append_right _ _ (by omega)]
  congr 4
  omega
theorem set_gd {L : List Int} {a b : Nat} (h : a < L.length) : (L.set a x).getD b 0 = if a = b then x else L.getD b 0 := by
  rw [List.getD_eq_getElem?_getD, List.getElem?_set]
  by_cases c : a = b
  · rw [if_pos c, if_pos c, if_pos h]; rfl
  · rw [if_neg c, if_neg c, List.getD_eq_getElem?_getD]
theorem STK_set {L A B C : List Int} (hs : STK s (L ++ (A ++ B ++ C))) (h : k < B.length) : STK (up s 52 (L.length + A.length + k) x) (L ++ (A ++ B.set k x ++ C)) := by
  have hl : L.length + A.length + k < (L ++ (A ++ B ++ C)).length := by simp only [List.length_append]; omega
  rw [set_in h]
  refine ⟨by rw [up_ne (by omega), List.length_set]; exact hs.1, fun j hj => ?_⟩
  rw [List.length_set] at hj
  rw [set_gd hl]
  by_cases c : L.length + A.length + k = j
  · subst c
    rw [if_pos rfl, up_same]
  · rw [if_neg c, up_ne (by omega)]
    exact hs.2 j hj
theorem set_w {L : List Int} (h : ∀ y ∈ L, w16 y) (hx : w16 x) : ∀ y ∈ L.set k x, w16 y := fun y hy => by
  rcases List.mem_or_eq_of_mem_set hy with z | z
  · exact h y z
  · rw [z]; exact hx
/-- let -/
theorem I_13 (hP : PRG F n N P s0 t0 K U W Y A I C p w tr t1 t2 t3) (h : SIM F P s0 t0 K U W A t3 fu s t (u, i, pv, vv, st, ob) g) (hr : (A.getD u []).getD i (0, 0, 0, 0) = r) (hk : r.1 = 13) : STP F P s0 t0 K U W A t3 fu s t ((u, i, pv, vv, st, ob) :: g) := by
  obtain ⟨it, k5, e98, ⟨hu, hi⟩, rq, el, b3⟩ := SIM_k hP h hr
  obtain ⟨e145, nv, ag⟩ := it.2.2.2.2.1 (Or.inr hk)
  obtain ⟨k, hx⟩ := rvI_nat nv
  have he : emU F P s0 t0 K U W u r = [(1, sgT (wGt W k), nuT (soF U u) (wGt W k), (wGt W k).2.2.2.2.2.2)] := by
    unfold emU emI
    rw [hk]
    simp only [Int.reduceEq, ↓reduceIte]
    exact emV_w ag hx
  obtain ⟨L1, L2⟩ := SIM_len hP h
  obtain ⟨mm, g1⟩ := h.1.1
  have rt := h.2.2.1.2
  have r1 : 1 ≤ st.length := by rw [el]; exact rq.2.1 (by omega)
  obtain ⟨M, y, est⟩ := snoc1 r1
  have wy : w16 y := b3 y (by rw [est]; simp)
  have wM : ∀ x ∈ M, w16 x := fun x hx => b3 x (by rw [est]; exact List.mem_append_left _ hx)
  have L1' : (csG U g ++ (preF U (u, i, pv, vv, st, ob) ++ pv ++ vv ++ M)).length + 1 ≤ 15360 := by
    have : (csG U g ++ (preF U (u, i, pv, vv, st, ob) ++ pv ++ vv ++ st)).length ≤ 15360 := L1
    rw [est, L4, List.length_append, List.length_singleton] at this
    rw [est]
    exact this
  have L2' : (rsG g ++ M).length + 1 ≤ 15360 := by
    have : (rsG g ++ st).length ≤ 15360 := L2
    rw [est, ← List.append_assoc, List.length_append, List.length_singleton] at this
    exact this
  have rows := var_rows hP hx h.1.2.1
  have fr : (aA F P s0 t0 K U W A u i).2.2.1 = true := rq.2.2.2.2.2.2.2.2.1 (by omega)
  obtain ⟨sB, m1, m2, m3, m4, m5⟩ := SIM_mk hP h
  obtain ⟨q1, q2⟩ := SIM_q h m4 (v := ((cpo F P s0 t0 K U W A u i + 1 : Nat) : Int))
  rw [show csG U g ++ (preF U (u, i, pv, vv, st, ob) ++ pv ++ vv ++ st) = (csG U g ++ (preF U (u, i, pv, vv, st, ob) ++ pv ++ vv ++ M)) ++ [y] by rw [← L4, ← est]] at q1
  have e4 := fetch4 (m := 0) (x := (1, sgT (wGt W k), nuT (soF U u) (wGt W k), (wGt W k).2.2.2.2.2.2)) g1 hu hi hr (by rw [he]; simp) (by rw [he]; rfl) (by simp) (by simp) (by show (wGt W k).2.2.2.2.2.2 ≠ -9; have := rows.2.2.2.2.1; omega) (by simp)
  rw [Nat.add_zero] at e4
  obtain ⟨sp, d1, d2, d3⟩ := c_popv (a := sgT (wGt W k)) (b := nuT (soF U u) (wGt W k)) (c := (wGt W k).2.2.2.2.2.2) q1 (by omega)
  have fsp : ∀ c k, c ≠ 52 → ¬ (c = 51 ∧ (k = 6 ∨ k = 7)) → sp c k = sB c k := fun c k z1 z2 => by rw [d2 c k z1 (by omega), up_ne (by omega)]
  have p7 : sp 51 7 = ((cpo F P s0 t0 K U W A u i + 1 : Nat) : Int) := by rw [d2 51 7 (by omega) (by omega), up_same]
  have T : ∀ s', bd (mac_assign (sgT (wGt W k)) (nuT (soF U u) (wGt W k)) (wGt W k).2.2.2.2.2.2 y sp) (fun _ s7 => mac_doCommand_258 s7) = some (0, s') → TN (emU F P s0 t0 K U W u r).length s s' := fun s' e => by
    rw [he]
    exact step0 h hr m1 (by rw [he]; simp) (x := (1, sgT (wGt W k), nuT (soF U u) (wGt W k), (wGt W k).2.2.2.2.2.2)) (by rw [he]; rfl) (rr := 0) (by rw [e4]; exact d3.trans e)
  have rt' : RTK (up t 121 98 (t 121 98 + 1)) ((rsG g ++ M) ++ [y]) := by
    have := RTK_98 (z := t 121 98 + 1) rt
    rw [show rsG ((u, i, pv, vv, st, ob) :: g) = (rsG g ++ M) ++ [y] by rw [List.append_assoc, ← est]; rfl] at this
    exact this
  obtain ⟨tb, a1, a2, a3⟩ := rpop_ex rt' (by omega)
  have ftb : ∀ c k, ¬ (c = 121 ∧ (k = 87 ∨ k = 98)) → tb c k = t c k := fun c k z => by rw [a3 c k (by omega), up_ne (by omega)]
  have b98 : tb 121 98 = t 121 98 + 1 := by rw [a3 121 98 (by omega), up_same]
  have hR : m_doItem t = bd (m_setVariable (k : Int) y tb) (fun _ s12 => some (0, s12)) := by
    unfold m_doItem
    rw [e98] at a1
    rw [lt_eq, e98, gd_pos (by omega), Int.toNat_natCast, up_ne (by omega), it.1, hk, gr (by omega)]
    simp only [Int.reduceEq, ↓reduceIte]
    unfold m_doStatementItem
    rw [gd_pos (by omega), Int.toNat_natCast, up_ne (by omega), it.1, hk, gr (by omega)]
    simp only [Int.reduceEq, ↓reduceIte]
    rw [a1, bq, up_ne (by omega), e145, hx]
    cases m_setVariable (k : Int) y tb <;> rfl
  have nl : M.length = (nxA P (obF F P t0 U W u) (e0U F P s0 t0 K U W u) (aA F P s0 t0 K U W A u i) r).1 := by
    have : st.length = M.length + 1 := by rw [est, List.length_append, List.length_singleton]
    unfold nxA
    dsimp only
    rw [if_neg (by omega), if_neg (by omega), if_neg (by omega), if_neg (by omega), if_pos (by omega), ← el]
    omega
  obtain ⟨lb, go, l9⟩ := SIM_lb (s' := sp) (t' := tb) h (fun c k z => by rw [fsp c k (by omega) (by omega), m4 c k (by omega)]) (fun c k z1 z2 => ftb c k z2)
  by_cases c1 : (wGt W k).2.2.1 = 1
  · have so : soF U u ≠ 2 := (PRG_th hP hu hi hr).2.1 (Or.inr hk) (by rw [hx, Int.toNat_natCast]; exact ⟨rows.2.2.2.2.2.2.2 c1, c1⟩)
    obtain ⟨f1, f2, f3⟩ := var_fd hP h hx c1 so
    have f3' := (f3 tb (fun c k z => ftb c k (by omega))).2 y
    obtain ⟨rv, rv', sa, ta, o1, o2, o3, o4⟩ := Ov_u2 (wr_ok1 (a := ob + (wGt W k).2.2.2.2.2.1) (b := y) lb go)
    have cx := wr_cx o1
    have rx := wr_rx o2
    refine I_eff2 (M := M) (sa := sa) (ta := ta) (rr := 0) hP h hr (by omega) fr m2 m3 m4 m5 (by rw [he]; simp) (fun s' e => T s' ?_) (by rw [hR, f3', o2, bq, bq]) o3 o4 (by rw [wr_9 o1]; exact l9) (fun c k z1 z2 z3 => by rw [cx c k z1, fsp c k z2 (by omega)]) (by rw [cx 51 7 (by omega), p7, he]; rfl) (fun c k z1 z2 z3 z4 z5 z6 z7 => by rw [rx c k z1 z2 z3 z4 (by omega), ftb c k (by omega)]) (by rw [rx 121 98 (by omega) (by omega) (by omega) (by omega) (by omega), b98]) (STK_of d1 (cx 51 6 (by omega)) (funext fun k => cx 52 k (by omega))) (RTK_of a2 (rx 121 87 (by omega) (by omega) (by omega) (by omega) (by omega)) (funext fun k => rx 180 k (by omega) (by omega) (by omega) (by omega) (by omega))) wM nl
    rw [f1]
    unfold mac_assign
    simp only [Int.reduceEq, ↓reduceIte]
    rw [gr (by omega), fsp 51 10 (by omega) (by omega), m4 51 10 (by omega), f2, o1, bq, bq]
    exact e
  · obtain ⟨v1, ⟨v2, v3, v4⟩, v5, v6, v7, v8, v9, -⟩ := rows
    have h' := h
    obtain ⟨-, ⟨⟨-, ⟨c2, c2'⟩, ⟨c3, c3', -⟩, c4, c5, -⟩, -⟩, -, -, ⟨-, k2, k3, -⟩, ⟨n1, n2, -⟩, hst, -, -, -, -, -⟩ := h'
    dsimp only at c2 c2' c3 c3' c4 c5 n2
    have pl2 := preF_l (U := U) (u := u) (i := i) (pv := pv) (vv := vv) (st := st) (ob := ob)
    have p12 := hP.2.2.2.2.1.2.2.2.1 (u : Int)
    have v12 := hP.2.2.2.2.1.2.2.2.2.1 (u : Int)
    obtain ⟨nu, hnu⟩ : ∃ nu : Nat, (wGt W k).2.2.2.2.2.1 = (nu : Int) := ⟨(wGt W k).2.2.2.2.2.1.toNat, by omega⟩
    obtain ⟨pl, hpl⟩ : ∃ pl : Nat, (wGt W k).2.2.2.2.2.2 = (pl : Int) := ⟨(wGt W k).2.2.2.2.2.2.toNat, by omega⟩
    have s88 : tb 121 88 - 1 = (g.length : Int) := by rw [ftb 121 88 (by omega), k2]; omega
    have p8 : sp 51 8 = ((csG U g).length : Int) := by rw [fsp 51 8 (by omega) (by omega), m4 51 8 (by omega)]; exact n1
    have p9 : sp 51 9 = (((csG U g).length + (preF U (u, i, pv, vv, st, ob)).length + pv.length : Nat) : Int) := by rw [fsp 51 9 (by omega) (by omega), m4 51 9 (by omega)]; exact n2
    have nfp : sp 44 5 = 0 ∧ sp 48 9 = 0 := ⟨go.1, l9⟩
    by_cases c0 : (wGt W k).2.2.1 = 0
    · have sg : sgT (wGt W k) = 3 := by unfold sgT; rw [if_pos c0]
      have e1 : bd (mac_assign (sgT (wGt W k)) (nuT (soF U u) (wGt W k)) (wGt W k).2.2.2.2.2.2 y sp) (fun _ s7 => mac_doCommand_258 s7) = some (0, up sp 54 pl y) := by
        rw [sg, hpl, as_sta (by omega), bq, d258 (by rw [up_ne (by omega)]; exact nfp.1) (by rw [up_ne (by omega)]; exact nfp.2)]
      have e2 : m_setVariable (k : Int) y tb = some (0, up tb 178 pl y) := by
        unfold m_setVariable
        rw [gd_pos (by omega), Int.toNat_natCast, ftb 139 k (by omega), v2, c0, gr (by omega), if_pos rfl, ftb 143 k (by omega), v4, hpl, gd_pos (by omega), Int.toNat_natCast, lt_eq]
      refine STP_go (s' := up sp 54 pl y) (t' := up tb 178 pl y) (pv' := pv) (vv' := vv) (st' := M) (rr := 0) hP h hr (by omega) m2 m3 m4 m5 (T _ e1) (by rw [hR, e2, bq]) (fun c k z1 z2 z3 z4 => by rw [up_ne (by omega), fsp c k z2 (by omega)]) (fun c k z1 z2 z3 z4 z5 z6 z7 z8 z9 => by rw [up_ne (by omega), ftb c k (by omega)]) ⟨LB_of lb (fun c k z => up_ne (by omega)) (fun c k z => up_ne (by omega)), ⟨by rw [up_ne (by omega)]; exact go.1, by rw [up_ne (by omega)]; exact go.2⟩, by rw [up_ne (by omega)]; exact l9⟩ (by rw [up_ne (by omega), p7, he]; rfl) (by rw [up_ne (by omega), b98]) ⟨rfl, rfl⟩ ⟨c3, c3', wM⟩ (fun k _ => by rw [up_ne (by omega), ftb 179 k (by omega)]) (fun k hk => by rw [up_ne (by omega), ftb 179 _ (by omega)]; exact c4 k hk) (fun k hk => by rw [up_ne (by omega), ftb 179 _ (by omega)]; exact c5 k hk) (STK_of d1 (up_ne (by omega)) (funext fun k => up_ne (by omega))) (RTK_of a2 (up_ne (by omega)) (funext fun k => up_ne (by omega))) (fun z hz => ?_) nl
      by_cases cz : z = pl
      · subst cz
        rw [up_same, up_same]
        exact ⟨rfl, wy⟩
      · rw [up_ne (by omega), up_ne (by omega), fsp 54 z (by omega) (by omega), m4 54 z (by omega), ftb 178 z (by omega)]
        exact hst z hz
    by_cases cp : (wGt W k).2.2.1 = 2
    · have sg : sgT (wGt W k) = 1 := by unfold sgT; rw [if_neg c0, if_neg c1, if_pos cp]
      have nl' : nu < pv.length := by have := v8 cp; omega
      have ix : sp 51 8 + nuT (soF U u) (wGt W k) = (((csG U g).length + (preF U (u, i, pv, vv, st, ob)).length + nu : Nat) : Int) := by
        unfold nuT
        rw [p8, hnu, pl2]
        by_cases so : soF U u = 3
        · rw [if_pos ⟨cp, so⟩, if_pos so]; omega
        · rw [if_neg (fun z => so z.2), if_neg so]; omega
      have il : (csG U g).length + (preF U (u, i, pv, vv, st, ob)).length + nu < 16384 := by
        simp only [List.length_append] at L1'
        omega
      have e1 : bd (mac_assign (sgT (wGt W k)) (nuT (soF U u) (wGt W k)) (wGt W k).2.2.2.2.2.2 y sp) (fun _ s7 => mac_doCommand_258 s7) = some (0, up sp 52 ((csG U g).length + (preF U (u, i, pv, vv, st, ob)).length + nu) y) := by
        rw [sg, as_loc (Or.inl ⟨rfl, ix⟩) il, bq, d258 (by rw [up_ne (by omega)]; exact nfp.1) (by rw [up_ne (by omega)]; exact nfp.2)]
      have e2 : m_setVariable (k : Int) y tb = some (0, up tb 179 (24 * g.length + nu) y) := by
        unfold m_setVariable
        rw [gd_pos (by omega), Int.toNat_natCast, ftb 139 k (by omega), v2, gr (by omega), if_neg c0, if_neg c1, if_pos cp, ftb 142 k (by omega), v3, hnu, s88, gd_pos (by omega), show (24 * (g.length : Int) + (nu : Int)).toNat = 24 * g.length + nu by omega, lt_eq]
      refine STP_go (s' := up sp 52 ((csG U g).length + (preF U (u, i, pv, vv, st, ob)).length + nu) y) (t' := up tb 179 (24 * g.length + nu) y) (pv' := pv.set nu y) (vv' := vv) (st' := M) (rr := 0) hP h hr (by omega) m2 m3 m4 m5 (T _ e1) (by rw [hR, e2, bq]) (fun c k z1 z2 z3 z4 => by rw [up_ne (by omega), fsp c k z2 (by omega)]) (fun c k z1 z2 z3 z4 z5 z6 z7 z8 z9 => by rw [up_ne (by omega), ftb c k (by omega)]) ⟨LB_of lb (fun c k z => up_ne (by omega)) (fun c k z => up_ne (by omega)), ⟨by rw [up_ne (by omega)]; exact go.1, by rw [up_ne (by omega)]; exact go.2⟩, by rw [up_ne (by omega)]; exact l9⟩ (by rw [up_ne (by omega), p7, he]; rfl) (by rw [up_ne (by omega), b98]) ⟨List.length_set, rfl⟩ ⟨set_w c3 wy, c3', wM⟩ (fun k _ => by rw [up_ne (by omega), ftb 179 k (by omega)]) (fun z hz => ?_) (fun k hk => by rw [up_ne (by omega), ftb 179 _ (by omega)]; exact c5 k hk) ?_ (RTK_of a2 (up_ne (by omega)) (funext fun k => up_ne (by omega))) (fun z hz => by rw [up_ne (by omega), up_ne (by omega), fsp 54 z (by omega) (by omega), m4 54 z (by omega), ftb 178 z (by omega)]; exact hst z hz) nl
      · rw [List.length_set] at hz
        rw [set_gd nl']
        by_cases cz : nu = z
        · subst cz; rw [if_pos rfl, up_same]
        · rw [if_neg cz, up_ne (by omega), ftb 179 _ (by omega)]; exact c4 z hz
      · have q := d1
        rw [List.append_assoc (preF U (u, i, pv, vv, st, ob) ++ pv)] at q
        have := STK_set (x := y) q nl'
        rw [List.append_assoc (preF U (u, i, pv, vv, st, ob) ++ pv.set nu y)]
        exact this
    · have cv : (wGt W k).2.2.1 = 3 := by omega
      have sg : sgT (wGt W k) = 2 := by unfold sgT; rw [if_neg c0, if_neg c1, if_neg cp]
      have nl' : nu < vv.length := by have := v9 cv; omega
      have ix : sp 51 9 + nuT (soF U u) (wGt W k) = (((csG U g).length + (preF U (u, i, pv, vv, st, ob) ++ pv).length + nu : Nat) : Int) := by
        unfold nuT
        rw [p9, hnu, if_neg (fun z => cp z.1), List.length_append]
        omega
      have il : (csG U g).length + (preF U (u, i, pv, vv, st, ob) ++ pv).length + nu < 16384 := by
        simp only [List.length_append] at L1' ⊢
        omega
      have e1 : bd (mac_assign (sgT (wGt W k)) (nuT (soF U u) (wGt W k)) (wGt W k).2.2.2.2.2.2 y sp) (fun _ s7 => mac_doCommand_258 s7) = some (0, up sp 52 ((csG U g).length + (preF U (u, i, pv, vv, st, ob) ++ pv).length + nu) y) := by
        rw [sg, as_loc (Or.inr ⟨rfl, ix⟩) il, bq, d258 (by rw [up_ne (by omega)]; exact nfp.1) (by rw [up_ne (by omega)]; exact nfp.2)]
      have e2 : m_setVariable (k : Int) y tb = some (0, up tb 179 (24 * g.length + 12 + nu) y) := by
        unfold m_setVariable
        rw [gd_pos (by omega), Int.toNat_natCast, ftb 139 k (by omega), v2, gr (by omega), if_neg c0, if_neg c1, if_neg cp, ftb 142 k (by omega), v3, hnu, s88, gd_pos (by omega), show (24 * (g.length : Int) + 12 + (nu : Int)).toNat = 24 * g.length + 12 + nu by omega, lt_eq]
      refine STP_go (s' := up sp 52 ((csG U g).length + (preF U (u, i, pv, vv, st, ob) ++ pv).length + nu) y) (t' := up tb 179 (24 * g.length + 12 + nu) y) (pv' := pv) (vv' := vv.set nu y) (st' := M) (rr := 0) hP h hr (by omega) m2 m3 m4 m5 (T _ e1) (by rw [hR, e2, bq]) (fun c k z1 z2 z3 z4 => by rw [up_ne (by omega), fsp c k z2 (by omega)]) (fun c k z1 z2 z3 z4 z5 z6 z7 z8 z9 => by rw [up_ne (by omega), ftb c k (by omega)]) ⟨LB_of lb (fun c k z => up_ne (by omega)) (fun c k z => up_ne (by omega)), ⟨by rw [up_ne (by omega)]; exact go.1, by rw [up_ne (by omega)]; exact go.2⟩, by rw [up_ne (by omega)]; exact l9⟩ (by rw [up_ne (by omega), p7, he]; rfl) (by rw [up_ne (by omega), b98]) ⟨rfl, List.length_set⟩ ⟨c3, set_w c3' wy, wM⟩ (fun k _ => by rw [up_ne (by omega), ftb 179 k (by omega)]) (fun k hk => by rw [up_ne (by omega), ftb 179 _ (by omega)]; exact c4 k hk) (fun z hz => ?_) (STK_set (x := y) d1 nl') (RTK_of a2 (up_ne (by omega)) (funext fun k => up_ne (by omega))) (fun z hz => by rw [up_ne (by omega), up_ne (by omega), fsp 54 z (by omega) (by omega), m4 54 z (by omega), ftb 178 z (by omega)]; exact hst z hz) nl
      rw [List.length_set] at hz
      rw [set_gd nl']
      by_cases cz : nu = z
      · subst cz; rw [if_pos rfl, up_same]
      · rw [if_neg cz, up_ne (by omega), ftb 179 _ (by omega)]; exact c5 z hz
end RNr
