/-! both machines: a call of a text's sub; a step -/
section ROn
variable {F : Nat → Int} {n N : Nat} {P : Nat → Nat} {s0 t0 : iS} {K : List Nat} {U : List urec} {W : List wrec} {Y : List Nat} {A : List (List itm)} {I C p w u i j k fu m : Nat} {tr t1 t2 t3 s s' t t' q qB sB s1 sa ta : iS} {r : itm} {f : frm} {g : List frm} {pv vv st st' L M : List Int} {ob v v' x y : Int}
theorem I_10t (hP : PRG F n N P s0 t0 K U W Y A I C p w tr t1 t2 t3) (h : SIM F P s0 t0 K U W A t3 fu s t (u, i, pv, vv, st, ob) g) (hr : (A.getD u []).getD i (0, 0, 0, 0) = r) (hk : r.1 = 10) (hs : ¬ owR F P s0 t0 K U W u r.2.1 < 8) : STP F P s0 t0 K U W A t3 fu s t ((u, i, pv, vv, st, ob) :: g) := by
  obtain ⟨it, k5, e98, ⟨hu, hi⟩, rq, el, b3⟩ := SIM_k hP h hr
  obtain ⟨c, ow, sbI, na, ⟨c1, c2, c3, c3', c3'', c4, c5, c6⟩, c7, ⟨c8, c9⟩, ⟨d1, d2⟩, ⟨d3, d4, d5, d6⟩, he⟩ := call_f hP h hr hk
  have ow8 : 8 ≤ ow := by
    have it' := it.2.2.2.2.2.2.1 (Or.inr hk)
    obtain ⟨c', _, z2, ⟨-, -, z3⟩, -, -, z4⟩ := it'
    have := (z3 (z4 hk).1).1
    have e : (c' : Int) = (c : Int) := z2.symm.trans c2
    have e' : c' = c := by omega
    rw [e', c5] at this
    omega
  obtain ⟨sb, hb1, hb2, hb3⟩ := sbR_txt (F := F) (P := P) (t0 := t0) (U := U) (j := r.2.2.1.toNat) ow8 (by rw [← c9]; exact c8)
  rw [← c9] at hb1
  rw [if_pos ow8, hb1] at he
  have hsb : sb < A.length := by rw [hP.2.2.1]; exact hb2
  have nm := nmb_txt (sb := sb) ⟨ow8, c7.2⟩ hP.1.2.2.2.2.2.1 hb2 hb3
  have dm : obF F P t0 U W u r.2.1 = if soF U sb = 3 then 1 else 0 := by
    unfold isM at d1
    rw [if_pos ow8, hb1, Int.toNat_natCast] at d1
    have z : (if soF U sb = 3 then (1 : Int) else 0) = (obF F P t0 U W u r.2.1 : Int) := d1
    by_cases q : soF U sb = 3
    · rw [if_pos q] at z ⊢
      omega
    · rw [if_neg q] at z ⊢
      omega
  have K12 : K.length ≤ 12 := hP.1.2.1.2.2.1
  have dn : (nwP (sb : Int) W : Int) = r.2.2.2 := by
    unfold mnR at d2
    rw [if_pos ow8, hb1, Int.toNat_natCast] at d2
    exact d2
  obtain ⟨L1, L2⟩ := SIM_len hP h
  have fr : (aA F P s0 t0 K U W A u i).2.2.1 = true := rq.2.2.2.2.2.2.2.2.1 (by omega)
  obtain ⟨M, B', est, hB'⟩ : ∃ M B, st = M ++ B ∧ B.length = na := ⟨st.take (st.length - na), st.drop (st.length - na), (List.take_append_drop _ _).symm, by rw [List.length_drop]; omega⟩
  obtain ⟨o, B, eB, wo, hB⟩ : ∃ o B, B' = obL U sb o ++ B ∧ w16 o ∧ B.length = nwP (sb : Int) W := by
    unfold obL
    by_cases q : soF U sb = 3
    · rw [if_pos q] at dm
      cases hb : B' with
      | nil => rw [hb, List.length_nil] at hB'; omega
      | cons o B =>
        refine ⟨o, B, by rw [if_pos q]; rfl, b3 o (by rw [est, hb]; simp), ?_⟩
        rw [hb, List.length_cons] at hB'
        omega
    · rw [if_neg q] at dm
      exact ⟨0, B', by rw [if_neg q]; rfl, by decide, by omega⟩
  have wB : ∀ x ∈ B, w16 x := fun x hx => b3 x (by rw [est, eB]; simp [hx])
  obtain ⟨sB, m1, m2, m3, m4, m5⟩ := SIM_mk hP h
  obtain ⟨q1, q2⟩ := SIM_q h m4 (v := ((cpo F P s0 t0 K U W A u i + 1 : Nat) : Int))
  obtain ⟨pw, pws, pw1, pw2⟩ := m5 fr
  have h' := h
  obtain ⟨hpg, ⟨⟨b1, b2, ⟨b31, b32, b33, b34⟩, b4, b5, b6, b7, b8⟩, g5⟩, ⟨g6, g7⟩, ⟨g8, g9⟩, ⟨k1, k2, k3, k4, k5', k6⟩, ⟨v1, v2, v3⟩, hst, ⟨l1, l2, l3, l4⟩, ⟨n1, n2, n3, n4, n5, n6⟩, ⟨-, e7⟩, -, -⟩ := h'
  dsimp only at b1 b2 b31 b32 b33 b34 b4 b5 b6 b7 b8 v2 v3 e7
  obtain ⟨⟨mm, g1⟩, hg2, hg3⟩ := hpg
  have t96 : 0 ≤ t 121 96 := by split at n6 <;> omega
  -- the command
  have e4 : s 18 (cpo F P s0 t0 K U W A u i) = ((cmN F P s0 t0 K U W A sb).length : Int) := by
    obtain ⟨x1, x2, x3, x4⟩ := g1
    obtain ⟨y1, y2⟩ := cM_it (F := F) (P := P) (s0 := s0) (t0 := t0) (K := K) (U := U) (W := W) (m := 0) (x := (15, nmbT K U ow (40 + (sb : Int)), (na : Int), 40 + (sb : Int))) hu hi (by rw [hr, he]; simp) (by rw [hr, he]; rfl)
    obtain ⟨z1, z2, z3, z4, z5, z6, z7⟩ := x3 _ y1
    rw [y2] at z7
    exact z7 rfl nm sb hsb (by simp)
  have nmU : nmbT K U ow (40 + (sb : Int)) ≤ 100000 := by
    obtain ⟨x1, x2, x3, x4⟩ := g1
    obtain ⟨y1, y2⟩ := cM_it (F := F) (P := P) (s0 := s0) (t0 := t0) (K := K) (U := U) (W := W) (m := 0) (x := (15, nmbT K U ow (40 + (sb : Int)), (na : Int), 40 + (sb : Int))) hu hi (by rw [hr, he]; simp) (by rw [hr, he]; rfl)
    obtain ⟨z1, z2, z3, z4, z5, z6, z7⟩ := x3 _ y1
    rw [y2] at z5
    exact z5.2.1.2
  have dc : ∀ (v4 : Int) (z z' : iS), mac_enter v4 (na : Int) z = some (0, z') → nf z' → mac_doCommand 15 (nmbT K U ow (40 + (sb : Int))) (na : Int) v4 z = some (0, z') := fun v4 z z' y1 y2 => by
    unfold mac_doCommand
    simp only [Int.reduceEq, ↓reduceIte]
    rw [gr (by omega), gr (by omega), if_neg (by omega), y1, bq, d258 y2.1 y2.2]
  have T : ∀ z', mac_enter ((cmN F P s0 t0 K U W A sb).length : Int) (na : Int) (up sB 51 7 ((cpo F P s0 t0 K U W A u i + 1 : Nat) : Int)) = some (0, z') → nf z' → TN 1 s z' := fun z' y1 y2 =>
    step0 h hr m1 (by rw [he]; simp) (x := (15, nmbT K U ow (40 + (sb : Int)), (na : Int), 40 + (sb : Int))) (by rw [he]; rfl) (rr := 0) (by rw [e4]; exact dc _ _ _ y1 y2)
  have R : ∀ t', m_enter (sb : Int) (up t 121 98 (t 121 98 + 1)) = some (0, t') → m_doItem t = some (0, t') := fun t' y1 => by
    rw [e98] at y1
    unfold m_doItem
    rw [lt_eq, e98, gd_pos (by omega), Int.toNat_natCast, up_ne (by omega), it.1, hk, gr (by omega)]
    simp only [Int.reduceEq, ↓reduceIte]
    unfold m_callItem
    rw [up_ne (by omega), c2, gd_pos (by omega), Int.toNat_natCast, up_ne (by omega), up_ne (by omega), c5, gr (by omega), if_neg (by omega), up_ne (show ¬ (155 = 121 ∧ c = 98) by omega), c6, hb1, y1, bq, bq]
  generalize hq : up sB 51 7 ((cpo F P s0 t0 K U W A u i + 1 : Nat) : Int) = q at *
  have fq : ∀ c k, ¬ (c = 51 ∧ k = 7) → q c k = sB c k := fun c k z => by rw [← hq, up_ne z]
  have fqs : ∀ c k, ¬ (c = 51 ∧ (k = 7 ∨ k = 16 ∨ k = 18)) → q c k = s c k := fun c k z => by rw [fq c k (by omega), m4 c k (by omega)]
  have q7 : q 51 7 = ((cpo F P s0 t0 K U W A u i + 1 : Nat) : Int) := by rw [← hq, up_same]
  have q16 : q 51 16 = t 121 96 := by rw [fq 51 16 (by omega)]; exact m2
  have q15 : q 51 15 = (fu : Int) := by rw [fqs 51 15 (by omega)]; exact n1
  have q18 : q 51 18 = (P pw : Int) := by rw [fq 51 18 (by omega)]; exact pw2
  generalize ht : up t 121 98 (t 121 98 + 1) = tq at *
  have ftq : ∀ c k, ¬ (c = 121 ∧ k = 98) → tq c k = t c k := fun c k z => by rw [← ht, up_ne z]
  have tq98 : tq 121 98 = t 121 98 + 1 := by rw [← ht, up_same]
  have lbq : LB q tq := LB_of l1 (fun c k z => fqs c k (by omega)) (fun c k z => ftq c k (by omega))
  by_cases nfu : t 121 96 = (fu : Int)
  · -- no step is left
    have a1 := ent_n (q := q) (v1 := ((cmN F P s0 t0 K U W A sb).length : Int)) (v2 := (na : Int)) (by omega) (by omega)
    have a2 := ren_n (t := tq) (v1 := (sb : Int)) (x := (fu : Int)) (by rw [ftq 121 96 (by omega)]; exact nfu) (by rw [ftq 121 97 (by omega)]; exact n2) (by omega)
    exact STP_fl (s' := up q 51 14 1) (t' := up tq 121 99 1) (rr := 0) (m := 1) hP h fr m2 m3 m4 m5 (by omega) (T _ a1 ⟨by rw [up_ne (by omega)]; exact q2.1, by rw [up_ne (by omega)]; exact q2.2⟩) (R _ a2) (fun k z => by rw [up_ne (by omega), fq 51 k (by omega)]) (by rw [up_same, up_same]; decide) (fun k z => by rw [up_ne (by omega), ftq 121 k (by omega)]) (funext fun k => by rw [up_ne (by omega), ftq 185 k (by omega)]) (LB_of lbq (fun c k z => up_ne (by omega)) (fun c k z => up_ne (by omega)))
  have f1 : t 121 96 < (fu : Int) := by omega
  by_cases n40 : g.length + 1 = 40
  · -- as deep as can be
    have a1 := ent_40 (q := q) (v1 := ((cmN F P s0 t0 K U W A sb).length : Int)) (v2 := (na : Int)) (by rw [fqs 51 13 (by omega), k1, n40]; rfl) (by omega)
    have a2 := ren_40 (t := tq) (v1 := (sb : Int)) (x := t 121 96) (y := (fu : Int)) (ftq 121 96 (by omega)) (by rw [ftq 121 97 (by omega)]; exact n2) ⟨t96, f1⟩ (by omega) (by rw [ftq 121 88 (by omega), k2, n40]; rfl)
    have T1 := T _ a1 ⟨by rw [up_ne (by omega), up_ne (by omega)]; exact q2.1, by rw [up_ne (by omega), up_ne (by omega)]; exact q2.2⟩
    have R1 := R _ a2
    obtain ⟨sx, hsx⟩ : ∃ sx, sx = up (up q 51 16 (q 51 16 + 1)) 51 14 2 := ⟨_, rfl⟩
    obtain ⟨tx, htx⟩ : ∃ tx, tx = up (up tq 121 96 (t 121 96 + 1)) 121 99 2 := ⟨_, rfl⟩
    rw [← hsx] at T1
    rw [← htx] at R1
    have fx : ∀ c k, ¬ (c = 51 ∧ (k = 14 ∨ k = 16)) → sx c k = q c k := fun c k z => by rw [hsx, up_ne (by omega), up_ne (by omega)]
    have ftx : ∀ c k, ¬ (c = 121 ∧ (k = 96 ∨ k = 99)) → tx c k = tq c k := fun c k z => by rw [htx, up_ne (by omega), up_ne (by omega)]
    have x16 : sx 51 16 = t 121 96 + 1 := by rw [hsx, up_ne (by omega), up_same, q16]
    have x96 : tx 121 96 = t 121 96 + 1 := by rw [htx, up_ne (by omega), up_same]
    have x14 : sx 51 14 = 2 := by rw [hsx, up_same]
    have x99 : tx 121 99 = 2 := by rw [htx, up_same]
    have fin := FIN_mk (s' := sx) (t' := tx) hP h pw1 (by rw [x14, x99]; decide) (LB_of lbq (fun c k z => fx c k (by omega)) (fun c k z => ftx c k (by omega))) ⟨by rw [x16, x96], by omega, by omega⟩ ⟨by rw [fx 51 17 (by omega), fqs 51 17 (by omega)], by rw [ftx 121 89 (by omega), ftq 121 89 (by omega)]⟩ ⟨by rw [ftx 121 95 (by omega), ftq 121 95 (by omega)], funext fun k => by rw [ftx 185 k (by omega), ftq 185 k (by omega)]⟩ (by rw [fx 51 18 (by omega)]; exact q18)
    refine ⟨1, sx, tx, T1, run_nx l2.2 R1, ⟨by omega, by omega⟩, Or.inr ⟨fin, by rw [ftx 121 74 (by omega), ftq 121 74 (by omega)], ?_⟩⟩
    have : 0 ≤ (rmC F P s0 t0 K U W A ((u, i, pv, vv, st, ob) :: g) : Int) := Int.natCast_nonneg _
    omega
  -- entered
  have hi1 := i_next hP hu hi hr (by omega)
  have cs := cpo_s (F := F) (P := P) (s0 := s0) (t0 := t0) (K := K) (U := U) (W := W) hi
  rw [hr, he, List.length_singleton] at cs
  have aw := aA_w (F := F) (P := P) (s0 := s0) (t0 := t0) (K := K) (U := U) (W := W) hi hr (by omega) (by omega) (by omega)
  have ap := aA_p hP hu hi hr (fun z => by omega) (by omega) (by omega) (by omega)
  have af : (aA F P s0 t0 K U W A u (i + 1)).2.2.1 = true := by
    rw [aA_s hi, hr]
    unfold nxA
    dsimp only
    rw [if_neg (by omega), if_neg (by omega)]
    exact fr
  have hlen : M.length + 1 = (aA F P s0 t0 K U W A u (i + 1)).1 := by
    have : st.length = M.length + na := by rw [est, List.length_append, hB']
    rw [aA_n hi hr]
    unfold nxA
    dsimp only
    rw [if_neg (by omega), if_neg (by omega), if_neg (by omega), if_pos hk, ← el]
    omega
  have ew : wsG F P s0 t0 K U W A ((u, i + 1, pv, vv, M, ob) :: g) = wsG F P s0 t0 K U W A ((u, i, pv, vv, st, ob) :: g) := by
    show wsG F P s0 t0 K U W A g ++ (aA F P s0 t0 K U W A u (i + 1)).2.1.reverse = _
    rw [aw]; rfl
  have ecs : csG U ((u, i, pv, vv, st, ob) :: g) = csG U ((u, i + 1, pv, vv, M, ob) :: g) ++ (obL U sb o ++ B) := by
    show csG U g ++ (preF U (u, i, pv, vv, st, ob) ++ pv ++ vv ++ st) = (csG U g ++ (preF U (u, i, pv, vv, st, ob) ++ pv ++ vv ++ M)) ++ (obL U sb o ++ B)
    rw [← L4, ← eB, ← est]
  have ers : rsG ((u, i, pv, vv, st, ob) :: g) = rsG ((u, i + 1, pv, vv, M, ob) :: g) ++ (obL U sb o ++ B) := by
    show rsG g ++ st = (rsG g ++ M) ++ (obL U sb o ++ B)
    rw [List.append_assoc, ← eB, ← est]
  obtain ⟨p1, p2⟩ := SIM_pl h pw1
  have gw := G_ws hP _ h.2.1
  have wN := (aA_ws hP hu i (by omega)).1 pw (by rw [pw1]; exact List.mem_cons_self)
  have pP := PRG_P hP wN
  have lG : ((u, i + 1, pv, vv, M, ob) :: g).length = g.length + 1 := rfl
  have lG' : ((u, i, pv, vv, st, ob) :: g).length = g.length + 1 := rfl
  have wl := hP.2.2.2.2.1
  have FG : GOK F P s0 t0 K U W A q tq ((u, i + 1, pv, vv, M, ob) :: g) := by
    refine ⟨⟨⟨hu, hi1⟩, b2, ⟨b31, b32, fun x hx => b3 x (by rw [est]; exact List.mem_append_left _ hx), b34⟩, fun k hk => by rw [ftq 179 _ (by omega)]; exact b4 k hk, fun k hk => by rw [ftq 179 _ (by omega)]; exact b5 k hk, by rw [ftq 183 _ (by omega)]; exact b6, by rw [ftq 184 _ (by omega)]; exact b7, fun f' g' e => ?_⟩, GOK_of wl g g5 (fun k _ => fqs 53 k (by omega)) (fun k _ => ftq 179 k (by omega)) (fun k _ => ⟨ftq 181 k (by omega), ftq 183 k (by omega), ftq 184 k (by omega)⟩)⟩
    obtain ⟨y1, y2, y3, y4, y5, y6, y7⟩ := b8 f' g' e
    rw [ftq 181 _ (by omega), fqs 53 _ (by omega), fqs 53 _ (by omega), fqs 53 _ (by omega), fqs 53 _ (by omega), fqs 53 _ (by omega)]
    exact ⟨y1, y2, y3, y4, y5, y6, y7⟩
  have hpg' : PGM F P s0 t0 K U W A t3 q tq := by
    refine ⟨⟨mm, ?_⟩, fun c k z => by rw [ftq c k (by omega)]; exact hg2 c k z, ?_⟩
    · obtain ⟨y1, y2, y3, y4⟩ := g1
      refine ⟨by rw [fqs 14 8 (by omega)]; exact y1, y2, fun j hj => ?_, by rw [fqs 14 10 (by omega)]; exact y4⟩
      rw [fqs 15 j (by omega), fqs 16 j (by omega), fqs 17 j (by omega), fqs 18 j (by omega), fqs 19 j (by omega)]
      exact y3 j hj
    · obtain ⟨y1, y2, y3⟩ := hg3
      refine ⟨fun j hj => ?_, by rw [ftq 164 _ (by omega)]; exact y2, fun j hj => ?_⟩
      · rw [ftq 165 _ (by omega), ftq 164 _ (by omega)]; exact y1 j hj
      · rw [ftq 166 _ (by omega), ftq 167 _ (by omega), ftq 168 _ (by omega)]; exact y3 j hj
  obtain ⟨m, s1, s', t', o1, o2, o3, o4, o5, o6, o7, o8⟩ := ENT_ok (fu := fu) (G := (u, i + 1, pv, vv, M, ob) :: g) (B := B) (o := o) (na := na) (q := q) (t := tq) hP hsb hpg' FG hB wB wo (by rw [← ecs]; exact STK_of g6 (fqs 51 6 (by omega)) (funext fun k => fqs 52 k (by omega))) (by rw [← ers]; exact RTK_of g7 (ftq 121 87 (by omega)) (funext fun k => ftq 180 k (by omega))) (by rw [← ecs]; exact L1) (by rw [← ers]; exact L2) (by rw [← eB]; exact hB'.symm) (by rw [ew, ftq 121 95 (by omega)]; exact ⟨g8, fun k hk => by rw [ftq 185 k (by omega)]; exact g9 k hk⟩) ⟨⟨by rw [fqs 51 13 (by omega), lG]; exact k1, by rw [ftq 121 88 (by omega), lG]; exact k2⟩, by omega, by rw [fqs 51 17 (by omega), ftq 121 89 (by omega)]; exact k4, by rw [fqs 51 17 (by omega)]; exact k5', by rw [fqs 51 17 (by omega)]; exact k6⟩ (fun k hk => by rw [fqs 54 k (by omega), ftq 178 k (by omega)]; exact hst k hk) ⟨lbq, ⟨q2.1, by rw [ftq 121 99 (by omega)]; exact l2.2⟩, q2.2, by rw [fqs 51 14 (by omega)]; exact l4⟩ ⟨q15, by rw [ftq 121 97 (by omega)]; exact n2, n3, by omega, by rw [q16, ftq 121 96 (by omega)], by rw [ftq 121 96 (by omega)]; exact f1⟩ (fun f' g' e => by
      obtain ⟨e1, e2⟩ := List.cons.inj e
      subst e1
      subst e2
      refine ⟨?_, ?_, ?_, ?_, fun z => ?_, ⟨pw, pws, ?_, q18⟩, hlen, af, ap⟩
      · rw [tq98, e98]
        show ((stA A u + i : Nat) : Int) + 1 = ((stA A u + (i + 1) : Nat) : Int)
        omega
      · rw [q7]
        show _ = ((cpo F P s0 t0 K U W A u (i + 1) : Nat) : Int)
        rw [cs]
      · rw [fqs 51 8 (by omega)]; exact v1
      · rw [fqs 51 9 (by omega)]; exact v2
      · rw [fqs 51 10 (by omega)]; exact v3 z
      · show (aA F P s0 t0 K U W A u (i + 1)).2.1 = _
        rw [aw]; exact pw1) (by
      rw [ftq 121 95 (by omega), ftq 121 74 (by omega), ftq 185 _ (by omega), if_neg (by omega), p2, q18]
      omega)
  have T1 := T s1 o1 o2
  have e96 := ftq 121 96 (by omega)
  refine ⟨1 + m, s', t', TN_add T1 o3, run_nx l2.2 (R _ o4), ⟨by omega, by omega⟩, ?_⟩
  rcases o8 with ⟨f, y1, y2, y3⟩ | y1
  · refine Or.inl ⟨f, _, y1, ?_, ?_⟩
    · have z1 : rmC F P s0 t0 K U W A (f :: (u, i + 1, pv, vv, M, ob) :: g) = rmC F P s0 t0 K U W A [f] + ((cmN F P s0 t0 K U W A (u + 1)).length - cpo F P s0 t0 K U W A u (i + 1) + rmC F P s0 t0 K U W A g) := rfl
      have z2 : rmC F P s0 t0 K U W A ((u, i, pv, vv, st, ob) :: g) = (cmN F P s0 t0 K U W A (u + 1)).length - cpo F P s0 t0 K U W A u i + rmC F P s0 t0 K U W A g := rfl
      have z3 := cpo_le (F := F) (P := P) (s0 := s0) (t0 := t0) (K := K) (U := U) (W := W) (i := i + 1) (show i + 1 ≤ (A.getD u []).length by omega)
      rw [z1, z2]
      omega
    · have z1 : rmI A (f :: (u, i + 1, pv, vv, M, ob) :: g) = rmI A [f] + ((A.getD u []).length - (i + 1) + rmI A g) := rfl
      have z2 : rmI A ((u, i, pv, vv, st, ob) :: g) = (A.getD u []).length - i + rmI A g := rfl
      rw [z1, z2]
      omega
  · refine Or.inr ⟨y1, by rw [o6, ftq 121 74 (by omega)], ?_⟩
    have : 0 ≤ (rmC F P s0 t0 K U W A ((u, i, pv, vv, st, ob) :: g) : Int) := Int.natCast_nonneg _
    omega
end ROn
