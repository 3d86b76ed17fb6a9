/-! statements: while; all statements -/
section STi
variable {F : Nat → Int} {n N : Nat} {P : Nat → Nat} {s0 t0 : iS} {R : List itm → iS → Prop} {b q : Int} {fv : Nat → Int}
set_option maxHeartbeats 4000000 in
theorem s_while (h : TKR 0 F n N P s0 t0) (hR : RHE R b fv s0 N) (hS : RHS R b fv s0 N P) {m : Nat} (hM : STM R b s0 t0 N P q m) {s t : iS} {p o w I C lb B : Nat} {l : List itm} (hL : LV s0 t0 N q s t p o w I C) (hl : R l s) (h7' : s 22 7 = (lb : Int)) (h50 : t 121 50 = (lb : Int)) (h55 : t 121 55 = (B : Int)) (ho : 2 ≤ o) (hB : B ≤ o) (hlb : lb + 2 ≤ p) (hfu : 3 * (25 - o) + 1 ≤ m) (hm : 1 ≤ m) (hk : s0 9 p = 275) : STO R b s0 t0 N P q t p w lb I C B l o (bd (prg_markNext (P p : Int) s) (fun _ s9 => trlS (m + 2) 3 (P p : Int) 0 0 (up s9 2 12 ((p + 1 : Nat) : Int)))) := by
  have hN2 := N1001 h
  have hL' := hL
  obtain ⟨h1, h2, h3, h4, h5, h6, h7, h8, h9, h10, h11, h12, h13, h14, h15, h16, h17⟩ := hL
  have hp1 := tkL h h5 (by omega)
  have g0 := GS_0 (B0 := B) hL' hl h7' h50 h55
  obtain ⟨sa, f1, f2, f3⟩ := hS.2.1 l s p hl h5 (Or.inr (Or.inr (Or.inl hk)))
  have ga := GS_next hR g0 hp1
  have gb := GS_add (a := 11) (b' := 0) (c := 0) (d := (p : Int)) ga (MD_up2 f3) (by rw [List.append_nil]; exact (hR.1 _ _ _ f2).1) (by omega) (by show 0 + 1 ≤ _; omega) h15
  have M0 : m_statement t = m_statement_206 (p : Int) 1 (adt (up t 121 10 ((p + 1 : Nat) : Int)) (I + ([] : List itm).length) 11 0 0 (p : Int)) := by
    rw [mst_eq h h2 h4 h5 (Or.inr (Or.inr (Or.inr (Or.inl hk))))]
    simp only [if_neg (show ¬ s0 9 p = 271 by omega), if_neg (show ¬ s0 9 p = 272 by omega), if_neg (show ¬ s0 9 p = 276 by omega), if_pos hk]
    exact beg_r h g0
  rw [f1, bq, trlS_3]
  have gc := GS_lab (lb' := lb + 2) hR gb
  have b7 := gb.2.1
  have b50 := gb.2.2.1
  generalize adt (up t 121 10 ((p + 1 : Nat) : Int)) (I + ([] : List itm).length) 11 0 0 (p : Int) = t8 at *
  generalize up sa 2 12 ((p + 1 : Nat) : Int) = s8 at *
  -- the label, and that it asks
  obtain ⟨s9, y1, y2, y3⟩ := hS.2.2.2.2.2.2.2.2.2.2.1 _ _ (p : Int) lb gc.2.2.2.2.2.2.2.2.1 (by omega)
  have gd1 := GS_add (a := 20) (b' := (lb : Int)) (c := 0) (d := (p : Int)) gc y3 y2 (by omega) (by show 0 + 1 + 1 ≤ _; omega) h15
  obtain ⟨s10, y4, y5, y6⟩ := hS.2.2.2.2.2.2.2.2.2.2.2.1 _ _ p gd1.2.2.2.2.2.2.2.2.1 h5
  have ge := GS_add (a := 17) (b' := 0) (c := 0) (d := (p : Int)) gd1 y6 y5 (by omega) (by rw [List.length_append]; show 0 + 1 + 1 + 1 ≤ _; omega) h15
  have q33 := gc.1.2.2.2.2.2.2.2.2.2.2.2.2.1
  have q15 := gc.1.2.2.2.2.2.2.2.2.2.2.2.2.2.2.1
  have r33 := gd1.1.2.2.2.2.2.2.2.2.2.2.2.2.1
  have r15 := gd1.1.2.2.2.2.2.2.2.2.2.2.2.2.2.2.1
  have M1 : m_statement t = bd (m_branch_45 1 (p : Int) (lb : Int) (up t8 121 50 ((lb + 2 : Nat) : Int) 121 33) (adt (adt (up t8 121 50 ((lb + 2 : Nat) : Int)) (I + ([] ++ [(11, 0, 0, (p : Int))] : List itm).length) 20 (lb : Int) 0 (p : Int)) (I + ([] ++ [(11, 0, 0, (p : Int))] ++ [(20, (lb : Int), 0, (p : Int))] : List itm).length) 17 0 0 (p : Int))) (fun _ s1 => some (0, s1)) := by
    rw [M0]
    unfold m_statement_206 m_branch
    rw [lt_eq, b50, gr (by omega), if_neg (by omega)]
    rw [show (lb : Int) + 2 = ((lb + 2 : Nat) : Int) from rfl, mad_ok q33 (by omega), bq, mad_ok r33 (by omega), bq]
  generalize adt (adt (up t8 121 50 ((lb + 2 : Nat) : Int)) (I + ([] ++ [(11, 0, 0, (p : Int))] : List itm).length) 20 (lb : Int) 0 (p : Int)) (I + ([] ++ [(11, 0, 0, (p : Int))] ++ [(20, (lb : Int), 0, (p : Int))] : List itm).length) 17 0 0 (p : Int) = t10 at *
  generalize hfr : up t8 121 50 ((lb + 2 : Nat) : Int) 121 33 = fr at *
  unfold m_branch_45 at M1
  have C1' : trl_readWhile (trlS (m + 1)) (P p : Int) s8 = bd (trl_readCondition ((lb + 1 : Nat) : Int) s10) (fun _ s4 => bd (trlS (m + 1) 2 0 0 0 s4) (fun _ s5 => bd (prg_add 12 (lb : Int) 0 s5) (fun _ s6 => bd (prg_add 11 ((lb + 1 : Nat) : Int) 0 s6) (fun _ s7 => some (0, s7))))) := by
    unfold trl_readWhile trl_takeLabels
    rw [lt_eq, b7, up_same, bq, show (lb : Int) + 2 - 2 = (lb : Int) by omega]
    rw [show (lb : Int) + 2 = ((lb + 2 : Nat) : Int) from rfl, y1, bq, y4, bq, show (lb : Int) + 1 = ((lb + 1 : Nat) : Int) by omega]
  rw [C1']
  have CTr : CT s0 N (fun s5 => bd (prg_add 12 (lb : Int) 0 s5) (fun _ s6 => bd (prg_add 11 ((lb + 1 : Nat) : Int) 0 s6) (fun _ s7 => some (0, s7)))) := CT_bd (CT_pa (a := 12) (b := (lb : Int)) (c := 0)) (CT_bd (CT_pa (a := 11) (b := ((lb + 1 : Nat) : Int)) (c := 0)) (CT_some (v := 0)))
  have CTb : CT s0 N (trlS (m + 1) 2 0 0 0) := by
    obtain ⟨m', rfl⟩ : ∃ m', m = m' + 1 := ⟨m - 1, by omega⟩
    exact CT_bk h
  have KR : R0 t0 N P (fun s3 => gd (rg 1) (if (1 : Int) = 0 then m_branch_76 1 (p : Int) (lb : Int) fr (lb : Int) 0 15 s3 else m_branch_76 1 (p : Int) (lb : Int) fr ((lb : Int) + 1) 0 15 s3)) 2 := R0_if (Or.inr rfl) (R0_76 h (Or.inr rfl)) (R0_76 h (Or.inr rfl))
  have k125 : s0 9 p ≠ 125 := by omega
  rcases cond_ok (lab := lb + 1) (at' := (p : Int)) h hR hS ge ho h15 (by omega) (by omega) KR (by omega) with ⟨s2, tc, p2, w2, C2, l2, e1, e2, e3, e4, e5, e6, e7⟩ | ⟨tx, e1, e2⟩
  case inr =>
    rw [e1, bq] at M1
    refine Or.inr ⟨tx, ?_, DM_mono (DM_c e2 (CT_bd CTb CTr)) (by omega)⟩
    rw [lS_st h h2 h6 h4 h5 k125 M1]
    obtain ⟨f, u, z1, z2, _⟩ := e2
    exact lS_dead (by have := z2.2.2.1; omega)
  rw [e2, gr (by omega), if_neg (by omega)] at M1
  unfold m_branch_76 m_branch_92 at M1
  have c5 := e5.1.2.2.2.2.1
  rw [show (lb : Int) + 1 = ((lb + 1 : Nat) : Int) by omega, mad_ok e4 (by omega), bq, gr (by omega), if_neg (by omega)] at M1
  rw [e1, bq]
  have n144 : adt tc (I + ([] ++ [(11, 0, 0, (p : Int))] ++ [(20, (lb : Int), 0, (p : Int))] ++ [(17, 0, 0, (p : Int))] ++ l2).length) 15 0 ((lb + 1 : Nat) : Int) (p : Int) 144 (I + ([] ++ [(11, 0, 0, (p : Int))] ++ [(20, (lb : Int), 0, (p : Int))] ++ [(17, 0, 0, (p : Int))] ++ l2).length) = 15 := adt_at.1
  generalize hlx : ([] ++ [(11, 0, 0, (p : Int))] ++ [(20, (lb : Int), 0, (p : Int))] ++ [(17, 0, 0, (p : Int))] ++ l2 : List itm) = lc at *
  generalize adt tc (I + lc.length) 15 0 ((lb + 1 : Nat) : Int) (p : Int) = td at *
  have M1' : m_statement t = bd (bd (m_begins 3 (lb : Int) ((I + lc.length : Nat) : Int) fr td) (fun _ s1 => some (0, s1))) (fun _ s1 => some (0, s1)) := M1
  rcases blk_ok (so := 3) (lab := (lb : Int)) (hole := ((I + lc.length : Nat) : Int)) (fr := fr) h hR hM e5 ho hB (Nat.le_refl _) (by omega) hfu hm with ⟨s3, tb, te, p3, w3, C3, lb3, l3, x1, x2, x3, x4, x5, x6, x7, x8, x9, x10, x11, x12⟩ | ⟨tb, ty, x1, x2, x3⟩
  case inr =>
    rw [x1, bq, bq] at M1'
    exact Or.inr ⟨ty, by rw [lS_st h h2 h6 h4 h5 k125 M1', x2], DM_c x3 CTr⟩
  rw [x2, bq, bq] at M1'
  have L0 := lS_st h h2 h6 h4 h5 k125 M1'
  rw [x1, bq]
  obtain ⟨i1, i2, i3, i4, i5, i6, i7, i8, i9, i10, i11, i12, i13, i14, i15, i16, i17⟩ := x11.1
  have gB := GS_blk (B2 := B) x11
  have e144 : te 144 (I + lc.length) = 15 := by rw [x10.2.1 144 (I + lc.length) (by omega) (by omega) (by rw [List.length_append]; show _ < _ + (_ + 1); omega)]; exact n144
  have hlen3 : (lc ++ [(15, 0, ((lb + 1 : Nat) : Int), (p : Int))] ++ l3).length + 3 ≤ 3 * (p3 - p) := by
    rw [List.length_append, List.length_append]
    show _ + 1 + _ + 3 ≤ _
    omega
  have ho3 : I + lc.length < I + (lc ++ [(15, 0, ((lb + 1 : Nat) : Int), (p : Int))] ++ l3).length := by
    rw [List.length_append, List.length_append]
    show _ < I + (_ + 1 + _)
    omega
  obtain ⟨s4, z1, z2, z3⟩ := hS.2.2.2.2.2.2.2.2.2.1 _ _ fr (p3 : Int) lb gB.2.2.2.2.2.2.2.2.1 (by omega)
  have gC := GS_add (a := 16) (b' := fr) (c := (lb : Int)) (d := (p3 : Int)) gB z3 z2 (by omega) (by omega) h15
  have v33 := gB.1.2.2.2.2.2.2.2.2.2.2.2.2.1
  have v15 := gB.1.2.2.2.2.2.2.2.2.2.2.2.2.2.2.1
  have ME : m_ends te = m_ends_183 (((lb + 1 : Nat) : Int)) 20 ((I + lc.length : Nat) : Int) (adt (up te 121 55 (B : Int)) (I + (lc ++ [(15, 0, ((lb + 1 : Nat) : Int), (p : Int))] ++ l3).length) 16 fr (lb : Int) (p3 : Int)) := by
    have v160 : up te 121 55 (B : Int) 160 B = 3 := by rw [up_ne (by omega)]; exact x6
    have v161 : up te 121 55 (B : Int) 161 B = (lb : Int) := by rw [up_ne (by omega)]; exact x7
    have v162 : up te 121 55 (B : Int) 162 B = ((I + lc.length : Nat) : Int) := by rw [up_ne (by omega)]; exact x8
    have v163 : up te 121 55 (B : Int) 163 B = fr := by rw [up_ne (by omega)]; exact x9
    have v10 : up te 121 55 (B : Int) 121 10 = (p3 : Int) := by rw [up_ne (by omega)]; exact i4
    unfold m_ends m_ends_98
    rw [lt_eq, x11.2.2.2.1, show ((B + 1 : Nat) : Int) - 1 = (B : Int) by omega, up_same, gd_pos (by omega), Int.toNat_natCast, v160, gr (by omega), if_neg (by omega), v161, v162, gd_pos (by omega), gr (by omega), if_pos rfl, v163, v10, mad_ok v33 (by omega), bq]
    unfold m_ends_183
    rfl
  obtain ⟨s5, t5, y7, y8, y8b, y9⟩ := fin_lab (hole := I + lc.length) (lab := lb + 1) hR hS hN2 gC h15 (by rw [List.length_append]; show _ + 1 + 2 ≤ _; omega) (by rw [adt_ne (by omega) (by omega), up_ne (by omega)]; exact Or.inl e144) (by omega) (by rw [List.length_append]; omega) (by omega)
  rw [y8] at ME
  refine Or.inl ⟨s5, t5, p3, w3, C3, lb3, _, by rw [z1, bq, y7, bq], by rw [L0, x3 _ _ ME], ⟨by omega, ?_⟩, x5, y9⟩
  obtain ⟨_, pc, u1, u2⟩ := e3
  obtain ⟨_, px, v1, v2⟩ := x4
  have lx : lc.length = l2.length + 3 := by rw [← hlx]; simp
  have l14 : (lc ++ [(15, 0, ((lb + 1 : Nat) : Int), (p : Int))] : List itm).length = l2.length + 4 := by rw [List.length_append, lx]; rfl
  have l15 : (lc ++ [(15, 0, ((lb + 1 : Nat) : Int), (p : Int))] ++ l3 : List itm).length = l2.length + l3.length + 4 := by rw [List.length_append, List.length_append, lx]; show l2.length + 3 + 1 + l3.length = _; omega
  have l16 : (lc ++ [(15, 0, ((lb + 1 : Nat) : Int), (p : Int))] ++ l3 ++ [(16, fr, (lb : Int), (p3 : Int))] : List itm).length = l2.length + l3.length + 5 := by rw [List.length_append, List.length_append, List.length_append, lx]; show l2.length + 3 + 1 + l3.length + 1 = _; omega
  rw [u1, show pc + 1 + 1 = pc + 2 from rfl, l14, ← Nat.add_assoc] at v2
  have g1 : GY s0 t5 1 (o + 1) (I + l2.length + 4) (pc + 2) w2 (lb + 2) px w3 lb3 l3 := GY_t v2 (fun k z1 z2 => by rw [y8b.2 k (by omega) (by omega), adt_ne (by omega) (by omega), up_ne (by omega)])
  have g2 : t5 145 (I + l2.length + 3) = ((I + l2.length + l3.length + 5 : Nat) : Int) := by
    have := y8b.1
    rw [lx, l16] at this
    rw [show I + l2.length + 3 = I + (l2.length + 3) by omega, this]
    omega
  have g3 : t5 145 (I + l2.length + l3.length + 4) = ((I + 1 : Nat) : Int) := by
    rw [y8b.2 _ (by omega) (by omega), show I + l2.length + l3.length + 4 = I + (lc ++ [(15, 0, ((lb + 1 : Nat) : Int), (p : Int))] ++ l3 : List itm).length by omega, adt_at.2.1]
    exact q33
  rw [v1, ← hlx]
  exact .whl o I p w lb pc w2 px w3 lb3 l2 l3 _ _ _ _ _ _ (by omega) u2 g1 g2 g3
/-- a simple statement, in the loop -/
theorem STO_of (h : TKR 0 F n N P s0 t0) {s t : iS} {p o w I C lb B : Nat} {l : List itm} {cl : Option (Int × iS)} (hL : LV s0 t0 N q s t p o w I C) (hk : s0 9 p ≠ 125) (hlb : lb + 2 ≤ p) (hs : SOUT R b s0 t0 N P q t t p I C B l p o w lb B [] cl (m_statement t)) : STO R b s0 t0 N P q t p w lb I C B l o cl := by
  obtain ⟨h1, h2, h3, h4, h5, h6, _⟩ := hL
  rcases hs with ⟨s2, t2, p2, w2, C2, l2, e1, e2, e3, e4⟩ | ⟨t2, e1, e2⟩
  · exact Or.inl ⟨s2, t2, p2, w2, C2, lb, l2, e1, lS_st h h2 h6 h4 h5 hk e2, e3, by omega, e4⟩
  · refine Or.inr ⟨t2, ?_, DM_mono e2 (by omega)⟩
    rw [lS_st h h2 h6 h4 h5 hk e1]
    obtain ⟨f, u, z1, z2, _⟩ := e2
    exact lS_dead (by have := z2.2.2.1; omega)
theorem stm_loop (h : TKR 0 F n N P s0 t0) (hR : RHE R b fv s0 N) (hS : RHS R b fv s0 N P) {m : Nat} (hM : STM R b s0 t0 N P q m) (hm : 1 ≤ m) : ∀ (d : Nat) (s t : iS) (p o w I C lb B turn : Nat) (l : List itm), N ≤ p + d → LV s0 t0 N q s t p o w I C → R l s → s 22 7 = (lb : Int) → t 121 50 = (lb : Int) → t 121 55 = (B : Int) → 2 ≤ o → B ≤ o → lb + 2 ≤ p → turn < p → 3 * (25 - o) + 1 ≤ m → (∃ s2 t2 p2 w2 C2 lb2 l2, trl_readStatements_2 (trlS (m + 2)) (turn : Int) s = some (0, s2) ∧ lS 1 t = lS 1 t2 ∧ (¬ stk (s0 9 p2) ∧ GY s0 t2 1 o I p w lb p2 w2 lb2 l2) ∧ lb2 + 2 ≤ p2 ∧ GS R s0 t0 N q s2 t2 t p I C B l p2 o w2 C2 lb2 B l2) ∨ (∃ t2, lS 1 t = some t2 ∧ DM 3400 b s0 t0 N P t t2 (trl_readStatements_2 (trlS (m + 2)) (turn : Int) s)) := by
  have hN2 := N1001 h
  intro d
  induction d with
  | zero =>
    intro s t p o w I C lb B turn l hd hL
    have := hL.2.2.2.2.1
    omega
  | succ d ih =>
    intro s t p o w I C lb B turn l hd hL hl a7 a50 a55 ho hB hlb htu hfu
    have hL' := hL
    obtain ⟨h1, h2, h3, h4, h5, h6, h7, h8, h9, h10, h11, h12, h13, h14, h15, h16, h17⟩ := hL
    have kr := kRg h h5
    by_cases ks : stk (s0 9 p)
    case neg =>
      have C0 : trl_readStatements_2b (trlS (m + 2)) (turn : Int) s = some (.inr s) := by
        unfold trl_readStatements_2b
        rw [gr (by omega), if_neg (by omega), cK h h1 h3 h5, bq, bS0 ⟨by omega, by omega⟩ ks, bq, gr (by omega), if_pos rfl]
      exact Or.inl ⟨s, t, p, w, C, lb, [], st2_en C0, rfl, ⟨ks, .nil _ _ _ _ _⟩, hlb, GS_0 hL' hl a7 a50 a55⟩
    -- a statement
    obtain ⟨X, hX, hO⟩ : ∃ X : Option (Int × iS), trl_readStatements_2b (trlS (m + 2)) (turn : Int) s = bd X (fun _ s13 => some (.inl (((turn : Int) + 1), s13))) ∧ STO R b s0 t0 N P q t p w lb I C B l o X := by
      have C0 : trl_readStatements_2b (trlS (m + 2)) (turn : Int) s = (if s0 9 p = 271 then bd (trl_readLet (up (up s 14 12 (P p : Int)) 2 12 ((p + 1 : Nat) : Int))) (fun _ s13 => some (.inl (((turn : Int) + 1), s13))) else if s0 9 p = 272 then bd (trl_readDo (up (up s 14 12 (P p : Int)) 2 12 ((p + 1 : Nat) : Int))) (fun _ s15 => some (.inl (((turn : Int) + 1), s15))) else if s0 9 p = 273 then bd (trlS (m + 2) 1 0 0 0 (up (up s 14 12 (P p : Int)) 2 12 ((p + 1 : Nat) : Int))) (fun _ s17 => some (.inl (((turn : Int) + 1), s17))) else if s0 9 p = 274 then bd (trl_readReturn (up (up s 14 12 (P p : Int)) 2 12 ((p + 1 : Nat) : Int))) (fun _ s19 => some (.inl (((turn : Int) + 1), s19))) else if s0 9 p = 275 then bd (trlS (m + 2) 3 (P p : Int) 0 0 (up (up s 14 12 (P p : Int)) 2 12 ((p + 1 : Nat) : Int))) (fun _ s21 => some (.inl (((turn : Int) + 1), s21))) else bd (trl_readReturn (up (up s 14 12 (P p : Int)) 2 12 ((p + 1 : Nat) : Int))) (fun _ s22 => some (.inl (((turn : Int) + 1), s22)))) := by
        unfold trl_readStatements_2b
        rw [gr (by omega), if_neg (by omega), cK h h1 h3 h5, bq, bS1 ks, bq, gr (by omega), if_neg (by omega), cK h h1 h3 h5, bq, h3, cPo h h1 h5, bq, mk_eq, bq, lt_eq, up_ne (by omega), h3, gr (by omega)]
        rfl
      have g0 := GS_0 (B0 := B) hL' hl a7 a50 a55
      rcases ks with k | k | k | k | k
      · exact ⟨bd (prg_markNext (P p : Int) s) (fun _ s9 => trl_readLet (up s9 2 12 ((p + 1 : Nat) : Int))), by rw [C0, if_pos k, mk_eq, bq], STO_of h hL' (by omega) hlb (s_let h hR hS g0 ho h15 k)⟩
      · exact ⟨bd (prg_markNext (P p : Int) s) (fun _ s9 => trl_readDo (up s9 2 12 ((p + 1 : Nat) : Int))), by rw [C0, if_neg (by omega), if_pos k, mk_eq, bq], STO_of h hL' (by omega) hlb (s_do h hR hS g0 ho h15 k)⟩
      · exact ⟨bd (prg_markNext (P p : Int) s) (fun _ s9 => trlS (m + 2) 1 0 0 0 (up s9 2 12 ((p + 1 : Nat) : Int))), by rw [C0, if_neg (by omega), if_neg (by omega), if_pos k, mk_eq, bq], s_if h hR hS hM hL' hl a7 a50 a55 ho hB hlb hfu hm k⟩
      · exact ⟨bd (prg_markNext (P p : Int) s) (fun _ s9 => trlS (m + 2) 3 (P p : Int) 0 0 (up s9 2 12 ((p + 1 : Nat) : Int))), by rw [C0, if_neg (by omega), if_neg (by omega), if_neg (by omega), if_neg (by omega), if_pos k, mk_eq, bq], s_while h hR hS hM hL' hl a7 a50 a55 ho hB hlb hfu hm k⟩
      · exact ⟨bd (prg_markNext (P p : Int) s) (fun _ s9 => trl_readReturn (up s9 2 12 ((p + 1 : Nat) : Int))), by rw [C0, if_neg (by omega), if_neg (by omega), if_neg (by omega), if_neg (by omega), if_neg (by omega), mk_eq, bq], STO_of h hL' (by omega) hlb (s_ret h hR hS g0 ho h15 k)⟩
    rcases hO with ⟨s2, t2, p2, w2, C2, lb2, l2, e1, e2, e3, e4, e5⟩ | ⟨t2, e1, f, u, e2, e3, e4, e5⟩
    · rw [e1, bq] at hX
      have e5' := e5
      obtain ⟨c1, c2, c3, c4, c5, c6, c7, c8, c9, c10, c11⟩ := e5
      rcases ih s2 t2 p2 o w2 (I + l2.length) C2 lb2 B (turn + 1) (l ++ l2) (by omega) c1 c9 c2 c3 c4 ho hB e4 (by omega) hfu with ⟨s3, t3, p3, w3, C3, lb3, l3, f1, f2, f3, f4, f5⟩ | ⟨t3, f1, f, u, f2, f3, f4, f5⟩
      · exact Or.inl ⟨s3, t3, p3, w3, C3, lb3, l2 ++ l3, by rw [st2_nx hX]; exact f1, by rw [e2, f2], ⟨f3.1, .cons _ _ _ _ _ _ _ _ _ _ _ _ _ (GY_t e3.2 (fun k z1 z2 => f5.2.2.2.2.2.2.2.2.2.2.2.1 145 k (by omega) (by omega) (by omega))) f3.2⟩, f4, GS_cat e5' f5 (Nat.le_refl _)⟩
      · exact Or.inr ⟨t3, by rw [e2, f1], f, u, f2, f3, PS0_trans (PS_0 c11) f4, fun hb => by rw [st2_nx hX]; exact f5 hb⟩
    · refine Or.inr ⟨t2, e1, f, u, e2, e3, e4, fun hb => ?_⟩
      obtain ⟨r, s', y1, y2⟩ := e5 hb
      rw [y1, bq] at hX
      exact ⟨0, s', by rw [st2_nx hX, cz_st h y2 ⟨by omega, by omega⟩], y2⟩
theorem stm_ok (h : TKR 0 F n N P s0 t0) (hR : RHE R b fv s0 N) (hS : RHS R b fv s0 N P) : ∀ m, STM R b s0 t0 N P q m := by
  intro m
  induction m using Nat.strongRecOn with
  | _ m ih =>
    intro s t p o w I C lb B l hL hl a7 a50 a55 ho hB hlb hfu
    obtain ⟨m, rfl⟩ : ∃ x, m = x + 3 := ⟨m - 3, by omega⟩
    have h15 := hL.2.2.2.2.2.2.2.2.2.2.2.2.2.2.2.1
    rw [trlS_0]
    unfold trl_readStatements
    by_cases hm : 1 ≤ m
    · exact stm_loop h hR hS (ih m (by omega)) hm N s t p o w I C lb B 0 l (by omega) hL hl a7 a50 a55 ho hB hlb (by omega) (by omega)
    · omega
end STi
