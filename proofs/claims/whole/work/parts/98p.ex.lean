/-! expressions: all terms -/
section EXh
variable {F : Nat → Int} {n N : Nat} {P : Nat → Nat} {s0 t0 : iS} {R : List itm → iS → Prop} {b q : Int} {fv : Nat → Int}
theorem term_ok (h : TKR 0 F n N P s0 t0) (hR : RHE R b fv s0 N) {m : Nat} (ihE : ∀ m', m' < m → EXPR R b s0 t0 N P q m') (ihT : ∀ m', m' < m → TERM R b s0 t0 N P q m') (ihC : ∀ m', m' < m → CALLS R b s0 t0 N P q m') : TERM R b s0 t0 N P q m := by
  have hN2 := N1001 h
  intro s t p o w I C k l hL hl t61 t51 hko hfu
  obtain ⟨m, rfl⟩ : ∃ x, m = x + 6 := ⟨m - 6, by omega⟩
  have hL' := hL
  obtain ⟨h1, h2, h3, h4, h5, h6, h7, h8, h9, h10, h11, h12, h13, h14, h15, h16, h17⟩ := hL
  have kr := kRg h h5
  have hup := fun (s1 : iS) (x : Int) (l' : List itm) (z : R l' s1) => (hR.1 l' s1 x z).1
  have hu : LV s0 t0 N q s (up t 121 61 0) p o w I C := LV_r hL' (SR_up h2 (by omega)) (fun j hj => up_ne (by omega))
  have Pu : PG t (up t 121 61 0) I C (k + 1) := PG_up (by omega)
  have u61 : up t 121 61 0 121 61 = 0 := up_same _ _ _ _
  have u51 : up t 121 61 0 121 51 = ((k + 1 : Nat) : Int) := by rw [up_ne (by omega)]; exact t51
  have u11 : up t 121 61 0 121 11 = 0 := by rw [up_ne (by omega)]; exact h6
  -- the class
  have C0 : trlE (m + 6) 2 0 0 0 s = (if s0 9 p = 3 then bd (trlE (m + 5) 3 0 0 0 s) (fun _ s4 => some (0, s4)) else if s0 9 p = 5 then bd (trl_readStringTerm s) (fun _ s6 => some (0, s6)) else if s0 9 p = 40 then bd (trl_openSign 40 s) (fun _ s8 => bd (trlE (m + 5) 1 0 0 0 s8) (fun _ s9 => bd (tok_expect 41 s9) (fun _ s10 => lt' (up s10 22 5 ((s10 22 5) - 1)) (fun s11 => some (0, s11))))) else if s0 9 p = 45 then bd (trlE (m + 5) 6 0 0 0 s) (fun _ s13 => some (0, s13)) else if s0 9 p = 126 then bd (trlE (m + 5) 6 0 0 0 s) (fun _ s15 => some (0, s15)) else if s0 9 p = 270 then bd (trl_askForThis (p : Int) s) (fun _ s17 => bd (prg_add 0 6 0 s17) (fun _ s18 => lt' (up s18 2 12 ((s18 2 12) + 1)) (fun s19 => some (0, s19)))) else bd (trl_readConstantTerm (s0 9 p) s) (fun _ s21 => some (0, s21))) := by
    rw [trlE_2]
    unfold trl_readTerm
    rw [cK h h1 h3 h5, bq, gr (by omega), h3, cK h h1 h3 h5, bq]
  have K0 : trl_readConstantTerm (s0 9 p) s = (if s0 9 p = 4 then trl_readConstantTerm_35 (s0 9 p) s else if s0 9 p = 267 then trl_readConstantTerm_35 (s0 9 p) s else if s0 9 p = 268 then trl_readConstantTerm_35 (s0 9 p) s else if s0 9 p = 269 then trl_readConstantTerm_35 (s0 9 p) s else bd (tok_stop 1 s) (fun _ s6 => some (0, s6))) := by
    unfold trl_readConstantTerm
    rw [gr (by omega)]
  have e85 : ∀ s1 : iS, s1 2 12 = (p : Int) → trl_readConstantTerm_85 s1 = some (0, up s1 2 12 ((p + 1 : Nat) : Int)) := by
    intro s1 z
    unfold trl_readConstantTerm_85
    rw [lt_eq, z]
    rfl
  by_cases k4 : s0 9 p = 4
  · -- a number
    obtain ⟨v1, v2, v3⟩ := tkV h h5 k4
    obtain ⟨s1, f1, f2, f3⟩ := hR.2.2.1 l s (s0 11 p) (p : Int) hl v2 v3
    refine Or.inl (leaf h (LV_MD hu f3) f2 (fun x l' z => hup s1 x l' z) Pu u61 u51 hko (by omega) (tkL h h5 (by omega)) t61 t51 h6 ?_ (.num o p w _ (by omega)) (mt_num h h2 h4 h5 k4))
    rw [C0, if_neg (by omega), if_neg (by omega), if_neg (by omega), if_neg (by omega), if_neg (by omega), if_neg (by omega), K0, if_pos k4]
    unfold trl_readConstantTerm_35 trl_readConstantTerm_64
    rw [gr (by omega), if_pos k4, h3, cVo h h1 h5, bq, f1, bq, gr (by omega), if_neg (by omega), e85 s1 (by rw [MD_at f3 (by omega) (by omega)]; exact h3), bq]
  by_cases k5 : s0 9 p = 5
  · -- a string
    obtain ⟨v, v1, v2, v3, _⟩ := tkS h h5 k5
    have T0 := mt_str h h2 h4 h5 k5 h11 h12
    have w1 : up (up t 121 61 0) 121 49 ((w : Int) + s0 11 p) 121 33 = (I : Int) := by rw [up_ne (by omega), up_ne (by omega)]; exact h13
    have C1 : trl_readStringTerm s = (if (w : Int) + s0 11 p ≤ 300 then bd (prg_add 0 0 (s0 11 p) (up s 22 6 ((w : Int) + s0 11 p))) (fun _ s5 => bd (prg_add 15 300 1 s5) (fun _ s6 => bd (prg_aim 12 s6) (fun _ s7 => trl_readStringTerm_78 (s0 11 p) 1 s7))) else bd (tok_stop 2 (up s 22 6 ((w : Int) + s0 11 p))) (fun _ s8 => some (0, s8))) := by
      unfold trl_readStringTerm
      rw [h3, cVo h h1 h5, bq, lt_eq, h10, up_same, gr (by omega)]
    rw [if_neg (by omega), if_pos k5, C1] at C0
    by_cases c : (w : Int) + s0 11 p ≤ 300
    · rw [if_pos c] at C0 T0
      have es : up s 22 6 ((w : Int) + s0 11 p) 2 12 = (p : Int) := by rw [up_ne (by omega)]; exact h3
      obtain ⟨s1, s2, s3, s4, f1, f2, f3, f4, f5, f6⟩ := hR.2.2.2.2.1 l (up s 22 6 ((w : Int) + s0 11 p)) p (hR.1 l s _ hl).2.2.1 (SC_up h1 (by omega)) h5 k5 es
      have hu2 : LV s0 t0 N q (up s 22 6 ((w : Int) + s0 11 p)) (up (up t 121 61 0) 121 49 ((w : Int) + s0 11 p)) p o (w + v) I C := by
        have ew : (w : Int) + s0 11 p = ((w + v : Nat) : Int) := by rw [v2]; omega
        rw [ew]
        exact ⟨SC_up h1 (by omega), SR_up (SR_up h2 (by omega)) (by omega), by rw [up_ne (by omega)]; exact h3, by rw [up_ne (by omega), up_ne (by omega)]; exact h4, h5, by rw [up_ne (by omega)]; exact u11, by rw [up_ne (by omega)]; exact h7, by rw [up_ne (by omega), up_ne (by omega)]; exact h8, h9, up_same _ _ _ _, up_same _ _ _ _, by omega, by rw [up_ne (by omega), up_ne (by omega)]; exact h13, by rw [up_ne (by omega), up_ne (by omega)]; exact h14, h15, h16, by rw [up_ne (by omega), up_ne (by omega)]; exact h17⟩
      refine Or.inl (leaf h (LV_MD hu2 f6) f5 (fun x l' z => hup s4 x l' z) (PG_trans Pu (PG_up (by omega)) (Nat.le_refl _) (Nat.le_refl _) (Nat.le_refl _)) (by rw [up_ne (by omega)]; exact u61) (by rw [up_ne (by omega)]; exact u51) hko (by omega) (tkL h h5 (by omega)) t61 t51 h6 ?_ (.str o p w v k5 v2) (by rw [T0]; unfold m_term_97; rfl))
      rw [C0, f1, bq, f2, bq, f3, bq, f4, bq]
    · -- too many bytes
      rw [if_neg c] at C0 T0
      have hu3 : LV s0 t0 N q s (up (up t 121 61 0) 121 49 (w : Int)) p o w I C := by
        have : up (up t 121 61 0) 121 49 (w : Int) = up t 121 61 0 := by
          have z := up_id (s := up t 121 61 0) (c := 121) (k := 49)
          rw [up_ne (show ¬ (121 = 121 ∧ 49 = 61) by omega), h11] at z
          exact z
        rw [this]; exact hu
      have g11 : up (up t 121 61 0) 121 49 ((w : Int) + s0 11 p) 121 11 = 0 := by rw [up_ne (by omega)]; exact u11
      have RDx : RD t0 N P (flt (up (up t 121 61 0) 121 49 ((w : Int) + s0 11 p)) 2 P p) 2 p 3050 := flt_RD (SR_up (SR_up h2 (by omega)) (by omega)) (by rw [up_ne (by omega), up_ne (by omega)]; exact h4) h5 w1 (by omega) (by rw [up_ne (by omega), up_ne (by omega)]; omega)
      obtain ⟨I', z1, z2, z3, z4⟩ := RD_add (a := 1) (b' := 0) (c := 0) (d := (p : Int)) RDx (by omega)
      have e1 : m_term t = some (0, adt (flt (up (up t 121 61 0) 121 49 ((w : Int) + s0 11 p)) 2 P p) I' 1 0 0 (p : Int)) := by
        rw [T0, rWr (SR_up (SR_up h2 (by omega)) (by omega)) h g11 h5, bq]
        unfold m_term_97
        rw [z2, bq, rGoD (by have := z3.2.2.1; omega), bq]
      refine Or.inr ⟨_, by rw [eL_term h6 (by rw [t51]; omega) t61 e1]; exact eL_dead (by have := z3.2.2.1; omega), 2, p, ⟨Or.inr rfl, h5⟩, RD_mono z3 (by omega), PG0_trans (PG0_trans (PG0_trans (PG_up (by omega)) (PG_up (by omega))) flt_PG) z4, fun hb => ?_⟩
      obtain ⟨y1, y2, y3⟩ := hR.2.1 l s hl
      obtain ⟨y4, y5⟩ := y3 hb
      have hs2 : SC s0 (up s 22 6 ((w : Int) + s0 11 p)) := SC_up h1 (by omega)
      have hb2 : SBo (up s 22 6 ((w : Int) + s0 11 p)) := by
        unfold SBo at y2 ⊢
        rw [up_ne (by omega), up_ne (by omega), up_ne (by omega), up_ne (by omega)]
        exact y2
      rw [C0, cSt h hs2 (by rw [up_ne (by omega)]; exact y4) (by rw [up_ne (by omega)]; exact h3) h5, bq, bq, if_neg (by omega)]
      exact ⟨0, _, rfl, stp_CD hs2 (by rw [up_ne (by omega), y1, hb]) (by rw [up_ne (by omega)]; exact y5) hb2⟩
  have T0 := mt_wd h h2 h4 h5 ⟨k4, k5⟩
  have hp1' := fun z => tkL (p := p) h h5 z
  by_cases k267 : s0 9 p = 267
  · -- true
    obtain ⟨s1, s2, f1, f2, f3, f4⟩ := hR.2.2.2.1 l s (p : Int) hl
    rw [if_pos k267] at T0
    refine Or.inl (leaf h (LV_MD hu f4) f3 (fun x l' z => hup s2 x l' z) Pu u61 u51 hko (by omega) (hp1' (by omega)) t61 t51 h6 ?_ (.num o p w _ (by omega)) T0)
    rw [C0, if_neg (by omega), if_neg (by omega), if_neg (by omega), if_neg (by omega), if_neg (by omega), if_neg (by omega), K0, if_neg k4, if_pos k267]
    unfold trl_readConstantTerm_35 trl_readConstantTerm_64
    rw [gr (by omega), if_neg k4, f1, bq, gr (by omega), if_pos k267, f2, bq, e85 s2 (by rw [MD_at f4 (by omega) (by omega)]; exact h3), bq]
  rw [if_neg k267] at T0
  by_cases k268 : s0 9 p = 268 ∨ s0 9 p = 269
  · -- false, null
    obtain ⟨s1, f1, f2, f3⟩ := hR.2.2.1 l s 0 (p : Int) hl (by omega) (by omega)
    rw [if_pos k268] at T0
    refine Or.inl (leaf h (LV_MD hu f3) f2 (fun x l' z => hup s1 x l' z) Pu u61 u51 hko (by omega) (hp1' (by omega)) t61 t51 h6 ?_ (.num o p w _ (by omega)) (by rw [T0]; unfold m_term_156; rfl))
    have e35 : trl_readConstantTerm_35 (s0 9 p) s = some (0, up s1 2 12 ((p + 1 : Nat) : Int)) := by
      unfold trl_readConstantTerm_35 trl_readConstantTerm_64
      rw [gr (by omega), if_neg k4, f1, bq, gr (by omega), if_neg k267, e85 s1 (by rw [MD_at f3 (by omega) (by omega)]; exact h3)]
    rw [C0, if_neg (by omega), if_neg (by omega), if_neg (by omega), if_neg (by omega), if_neg (by omega), if_neg (by omega), K0, if_neg k4, if_neg k267, e35]
    rcases k268 with z | z
    · rw [if_pos z, bq]
    · rw [if_neg (by omega), if_pos z, bq]
  rw [if_neg k268] at T0
  by_cases k270 : s0 9 p = 270
  · -- this
    obtain ⟨s1, s2, f1, f2, f3, f4⟩ := hR.2.2.2.2.2.1 l s p hl h1 h5
    rw [if_pos k270] at T0
    refine Or.inl (leaf h (LV_MD hu f4) f3 (fun x l' z => hup s2 x l' z) Pu u61 u51 hko (by omega) (hp1' (by omega)) t61 t51 h6 ?_ (.ths o p w) T0)
    have z : s2 2 12 = (p : Int) := by rw [MD_at f4 (by omega) (by omega)]; exact h3
    rw [C0, if_neg (by omega), if_neg (by omega), if_neg (by omega), if_neg (by omega), if_neg (by omega), if_pos k270, f1, bq, f2, bq, lt_eq, z]
    rfl
  rw [if_neg k270] at T0
  by_cases k40 : s0 9 p = 40
  · -- ( )
    rw [if_pos k40] at T0
    rw [if_neg (by omega), if_neg (by omega), if_pos k40] at C0
    rw [C0]
    obtain ⟨tb, e1, e2⟩ := t_paren (k := k) (m := m + 3) (so := 1) (d := 41) h hR (ihE (m + 5) (by omega)) hu hl u51 hko (by omega) (by omega) (Or.inl ⟨rfl, rfl⟩) k40 (fun s11 => some (0, s11)) (fun _ s f u z => ⟨0, s, rfl, z⟩)
    rw [e1] at T0
    have E0 := eL_term h6 (by rw [t51]; omega) t61 T0
    rcases e2 with ⟨s2, t1, t2, p2, w2, C2, l2, g1, g2, g3, g4, g5, g6, g7, g8, g9, g10, g11, g12⟩ | ⟨t1, g1, f, u, g2, g3, g4, g5⟩
    · rw [if_pos rfl] at g7
      have E1 := eL_bt g4 ⟨g5, g6⟩ g3 g7
      obtain ⟨i1, i2, i3, i4, i5, i6, i7, i8⟩ := g11
      have hz := LV_close i1 g10
      have x61 : up (up (up t2 121 10 ((p2 + 1 : Nat) : Int)) 121 48 (o : Int)) 121 51 ((k + 1 : Nat) : Int) 121 61 = 0 := by rw [up_ne (by omega), up_ne (by omega), up_ne (by omega)]; exact g8
      have x11 : up (up (up t2 121 10 ((p2 + 1 : Nat) : Int)) 121 48 (o : Int)) 121 51 ((k + 1 : Nat) : Int) 121 11 = 0 := by rw [up_ne (by omega)]; exact hz.2.2.2.2.2.1
      have x51 : up (up (up t2 121 10 ((p2 + 1 : Nat) : Int)) 121 48 (o : Int)) 121 51 ((k + 1 : Nat) : Int) 121 51 = ((k + 1 : Nat) : Int) := up_same _ _ _ _
      have Px : PG t2 (up (up (up t2 121 10 ((p2 + 1 : Nat) : Int)) 121 48 (o : Int)) 121 51 ((k + 1 : Nat) : Int)) (I + l2.length) C2 (k + 1) := PG_trans (PG_trans (PG_up (by omega)) (PG_up (by omega)) (Nat.le_refl _) (Nat.le_refl _) (Nat.le_refl _)) (PG_up (by omega)) (Nat.le_refl _) (Nat.le_refl _) (Nat.le_refl _)
      exact Or.inl ⟨_, _, _, p2 + 1, w2, C2, l2, g1, by rw [E0, g2, E1], x61, x11, by rw [x51]; omega, by rw [x51]; omega, rfl, x51, x61, ⟨by omega, .par _ _ _ _ _ _ g9.2.1 g9.2.2⟩, LV_r hz (SR_up hz.2.1 (by omega)) (fun j hj => up_ne (by omega)), by omega, by omega, i4, by omega, (hR.1 _ _ _ (hR.1 _ _ _ i6).1).2.1, IMs_pg i7 Px (Nat.le_refl _) (Nat.le_refl _), PG_trans (PG_trans Pu i8 (Nat.le_refl _) (Nat.le_refl _) (Nat.le_refl _)) Px (by omega) i4 (Nat.le_refl _)⟩
    · exact Or.inr ⟨t1, by rw [E0, g1], f, u, g2, g3, PG0_trans (PG_mono Pu (Nat.zero_le _) (Nat.zero_le _) (Nat.zero_le _)) g4, g5⟩
  rw [if_neg k40] at T0
  by_cases k45 : s0 9 p = 45 ∨ s0 9 p = 126
  · -- - ~
    rw [if_pos k45] at T0
    have C1 : trlE (m + 6) 2 0 0 0 s = bd (trlE (m + 5) 6 0 0 0 s) (fun _ s13 => some (0, s13)) := by
      rw [C0, if_neg (by omega), if_neg (by omega), if_neg (by omega)]
      rcases k45 with z | z
      · rw [if_pos z]
      · rw [if_neg (by omega), if_pos z]
    rw [C1]
    rcases t_sign (m := m + 3) h hR (ihT (m + 4) (by omega)) hu hl Pu u51 hko (by omega) k45 t61 t51 h6 T0 with ⟨s', t1, t2, p', w', C', l', e1, e2⟩ | ⟨t1, e1, f, u, e2, e3, e4, e5⟩
    · exact Or.inl ⟨s', t1, t2, p', w', C', l', by rw [e1, bq], e2⟩
    · refine Or.inr ⟨t1, e1, f, u, e2, e3, e4, fun hb => ?_⟩
      obtain ⟨r, s', g1, g2⟩ := e5 hb
      exact ⟨0, s', by rw [g1, bq], g2⟩
  rw [if_neg k45] at T0
  by_cases k3 : s0 9 p = 3
  case neg =>
    -- no term
    rw [if_neg k3, rSy h (SR_up h2 (by omega)) u11 (by rw [up_ne (by omega)]; exact h4) h5, bq] at T0
    have hf : (if s0 9 p = 2 then (2 : Int) else 1) = 1 ∨ (if s0 9 p = 2 then (2 : Int) else 1) = 2 := by split <;> omega
    refine Or.inr ⟨_, by rw [eL_term h6 (by rw [t51]; omega) t61 T0]; exact eL_dead (by rw [flt_11]; omega), dead_at hR hu hN2 hl hf (PG_up (by omega)) (fun hb y4 y5 y1 y2 zd => ?_)⟩
    rw [C0, if_neg k3, if_neg k5, if_neg k40, if_neg (by omega), if_neg (by omega), if_neg k270, K0, if_neg k4, if_neg k267, if_neg (by omega), if_neg (by omega), cSt h h1 y4 h3 h5, bq, bq]
    exact ⟨0, _, rfl, zd⟩
  -- a name
  have hp1 := hp1' (by omega)
  have kr1 := kRg h hp1
  rw [if_pos k3, rGo (p := p) u11 (by rw [up_ne (by omega)]; exact h4), bq] at T0
  rw [if_pos k3, trlE_3] at C0
  have hg : LV s0 t0 N q (up s 2 12 ((p + 1 : Nat) : Int)) (up (up t 121 61 0) 121 10 ((p + 1 : Nat) : Int)) (p + 1) o w I C := LV_go hu hp1
  have Pg : PG t (up (up t 121 61 0) 121 10 ((p + 1 : Nat) : Int)) I C (k + 1) := PG_trans Pu (PG_up (by omega)) (Nat.le_refl _) (Nat.le_refl _) (Nat.le_refl _)
  have g51 : up (up t 121 61 0) 121 10 ((p + 1 : Nat) : Int) 121 51 = ((k + 1 : Nat) : Int) := by rw [up_ne (by omega)]; exact u51
  have g61 : up (up t 121 61 0) 121 10 ((p + 1 : Nat) : Int) 121 61 = 0 := by rw [up_ne (by omega)]; exact u61
  generalize up (up t 121 61 0) 121 10 ((p + 1 : Nat) : Int) = ug at *
  have hg' := hg
  obtain ⟨d1, d2, d3, d4, d5, d6, d7, d8, d9, d10, d11, d12, d13, d14, d15, d16, d17⟩ := hg
  have N0 : m_named (p : Int) ug = (if s0 9 (p + 1) = 46 ∨ s0 9 (p + 1) = 40 then m_named_18 (p : Int) ug else bd (m_add 4 0 0 (p : Int) ug) (fun r7 s7 => bd (m_isSign 91 s7) (fun r8 s8 => gd (rg r8) (if r8 = 0 then some (0, s8) else bd (m_openSign 91 s8) (fun _ s11 => bd (m_push 2 s11) (fun _ s12 => lt' (up s12 121 61 1) (fun s13 => some (0, s13)))))))) := by
    unfold m_named
    rw [rS h d2 d4 d5 (by omega), bq]
    by_cases z : s0 9 (p + 1) = 46
    · rw [if_pos z, gr (by omega), if_neg (by omega), if_pos (Or.inl z)]
    · rw [if_neg z, gr (by omega), if_pos rfl, rS h d2 d4 d5 (by omega), bq]
      by_cases z2 : s0 9 (p + 1) = 40
      · rw [if_pos z2, gr (by omega), if_neg (by omega), if_pos (Or.inr z2)]
      · rw [if_neg z2, gr (by omega), if_pos rfl, if_neg (by omega)]
  unfold trl_readNameTerm at C0
  rw [h3, show (p : Int) + 1 = ((p + 1 : Nat) : Int) by omega, cKo h h1 hp1, bq, gr (by omega)] at C0
  by_cases kc : s0 9 (p + 1) = 46 ∨ s0 9 (p + 1) = 40
  · -- a call
    rw [N0, if_pos kc] at T0
    unfold m_named_18 at T0
    have C1 : trlE (m + 6) 2 0 0 0 s = bd (bd (trlE (m + 4) 4 0 0 0 s) (fun _ s1 => some (0, s1))) (fun _ s4 => some (0, s4)) := by
      rw [C0]
      unfold trl_readNameTerm_29
      rcases kc with z | z
      · rw [if_neg (by omega), if_pos z]
      · rw [if_pos z]
    rcases ihC (m + 4) (by omega) s ug p o w I C k l h3 h1 hg' hl k3 h16 g51 hko (by omega) (by omega) with ⟨s', t1, t3, p', w', C', l', e1, e2, ex, e3, e4, e5, e6, e7, g1, g2, g3, g4, g5, g6, g7, g8⟩ | ⟨t1, t', e1, ex, e2, f, u, e3, e4, e5, e6⟩
    · rw [e2, bq, bq] at T0
      have E0 := eL_term h6 (by rw [t51]; omega) t61 T0
      exact Or.inl ⟨s', t3, t3, p', w', C', l', by rw [C1, e1, bq, bq], by rw [E0, e3], e4, e5, by rw [e6]; omega, by rw [e6]; omega, rfl, e6, e4, ⟨by omega, .call _ _ _ _ _ _ e7.2⟩, g1, by omega, by omega, g4, by omega, g6, g7, PG_trans Pg g8 (Nat.le_refl _) (Nat.le_refl _) (Nat.le_refl _)⟩
    · rw [e1, bq, bq] at T0
      have E0 := eL_term h6 (by rw [t51]; omega) t61 T0
      refine Or.inr ⟨t', by rw [E0, e2], f, u, e3, e4, PG0_trans (PG_mono Pg (Nat.zero_le _) (Nat.zero_le _) (Nat.zero_le _)) e5, fun hb => ?_⟩
      obtain ⟨r, s', y1, y2⟩ := e6 hb
      exact ⟨0, s', by rw [C1, y1, bq, bq], y2⟩
  -- a variable
  obtain ⟨v1, v2⟩ := hR.2.2.2.2.2.2.1 l s p hl h1 h5 k3
  obtain ⟨s1, s2, f1, f2, f3, f4⟩ := hR.2.2.2.2.2.2.2.1 l s p hl h1 h5 k3
  have s212 : s2 2 12 = (p : Int) := by rw [MD_at f4 (by omega) (by omega)]; exact h3
  rw [if_neg (by omega), if_neg (by omega), h3, v1, bq, h3, f1, bq, f2, bq, lt_eq, s212, show (p : Int) + 1 = ((p + 1 : Nat) : Int) by omega] at C0
  rw [N0, if_neg kc, mad_ok d13 (by omega), bq] at T0
  have q17 : ug 121 17 = q + 1 := d17
  have hv : LV s0 t0 N q (up s2 2 12 ((p + 1 : Nat) : Int)) (adt ug I 4 0 0 (p : Int)) (p + 1) o w (I + 1) C := by
    have z := LV_adt (a := 4) (b' := 0) (c := 0) (d := (p : Int)) hg' (by omega)
    obtain ⟨j1, j2, j3, j4, j5, j6, j7, j8, j9, j10, j11, j12, j13, j14, j15, j16, j17⟩ := z
    exact ⟨SC_up (MD_SC f4 h1) (by omega), j2, up_same _ _ _ _, j4, j5, j6, by rw [up_ne (by omega), MD_at f4 (by omega) (by omega)]; exact h7, j8, j9, by rw [up_ne (by omega), MD_at f4 (by omega) (by omega)]; exact h10, j11, j12, j13, j14, j15, j16, j17⟩
  have hRv := hup s2 ((p + 1 : Nat) : Int) _ f3
  have Pv : PG ug (adt ug I 4 0 0 (p : Int)) I C (k + 1) := PG_adt (Nat.le_refl _)
  have Iv : IMs (adt ug I 4 0 0 (p : Int)) I q C C [(4, 0, 0, (p : Int))] := IMs_one d17 (by omega)
  have v51 : adt ug I 4 0 0 (p : Int) 121 51 = ((k + 1 : Nat) : Int) := by rw [adt_ne (by omega) (by omega)]; exact g51
  have v61 : adt ug I 4 0 0 (p : Int) 121 61 = 0 := by rw [adt_ne (by omega) (by omega)]; exact g61
  have v11 : adt ug I 4 0 0 (p : Int) 121 11 = 0 := by rw [adt_ne (by omega) (by omega)]; exact d6
  generalize adt ug I 4 0 0 (p : Int) = tv at *
  generalize up s2 2 12 ((p + 1 : Nat) : Int) = s3 at *
  rw [rS h hv.2.1 hv.2.2.2.1 hp1 (by omega), bq] at T0
  by_cases k91 : s0 9 (p + 1) = 91
  case neg =>
    rw [if_neg k91, gr (by omega), if_pos rfl, bq] at T0
    rw [if_neg k91, bq] at C0
    have E0 := eL_term h6 (by rw [t51]; omega) t61 T0
    exact Or.inl ⟨_, tv, tv, p + 1, w, C, [(4, 0, 0, (p : Int))], C0, E0, v61, v11, by rw [v51]; omega, by rw [v51]; omega, rfl, v51, v61, ⟨by omega, .var _ _ _ k3⟩, GD_one hv (by omega) hRv Iv (PG_trans Pg Pv (Nat.le_refl _) (Nat.le_refl _) (Nat.le_refl _))⟩
  -- with an index
  rw [if_pos k91, gr (by omega), if_neg (by omega)] at T0
  rw [if_pos k91, trlE_0] at C0
  unfold trl_readIndex at C0
  obtain ⟨tb, e1, e2⟩ := t_paren (k := k) (m := m + 1) (so := 2) (d := 93) h hR (ihE (m + 3) (by omega)) hv hRv v51 hko (by omega) (by omega) (Or.inr ⟨rfl, rfl⟩) k91 (fun s4 => bd (prg_add 2 0 0 s4) (fun _ s5 => some (0, s5))) (fun _ s f u z => ⟨0, s, by rw [pad0 z.2.2.2.2.2.1, bq], z⟩)
  rw [e1, bq] at T0
  have E0 := eL_term h6 (by rw [t51]; omega) t61 T0
  rcases e2 with ⟨s4, t1, t2, p2, w2, C2, l2, g1, g2, g3, g4, g5, g6, g7, g8, g9, g10, g11, g12⟩ | ⟨t1, g1, f, u, g2, g3, g4, g5⟩
  · rw [if_neg (by decide)] at g7
    have E1 := eL_bt g4 ⟨g5, g6⟩ g3 g7
    obtain ⟨i1, i2, i3, i4, i5, i6, i7, i8⟩ := g11
    have hz := LV_close i1 g10
    obtain ⟨a1, a2, a3, b1, b2, b3, b4, b5, b6⟩ := hR.2.2.2.2.2.2.2.2.1 _ _ ((p2 + 1 : Nat) : Int) (hR.1 _ _ (o : Int) (hR.1 _ _ ((p2 + 1 : Nat) : Int) i6).1).2.1
    have hw := LV_adt (a := 5) (b' := 0) (c := 0) (d := ((p2 + 1 : Nat) : Int)) (LV_r (t' := up (up (up t2 121 10 ((p2 + 1 : Nat) : Int)) 121 48 (o : Int)) 121 51 ((k + 1 : Nat) : Int)) (LV_MD hz b5) (SR_up hz.2.1 (by omega)) (fun j hj => up_ne (by omega))) (by omega)
    have x51 : adt (up (up (up t2 121 10 ((p2 + 1 : Nat) : Int)) 121 48 (o : Int)) 121 51 ((k + 1 : Nat) : Int)) (I + 1 + l2.length) 5 0 0 ((p2 + 1 : Nat) : Int) 121 51 = ((k + 1 : Nat) : Int) := by rw [adt_ne (by omega) (by omega)]; exact up_same _ _ _ _
    have x61 : adt (up (up (up t2 121 10 ((p2 + 1 : Nat) : Int)) 121 48 (o : Int)) 121 51 ((k + 1 : Nat) : Int)) (I + 1 + l2.length) 5 0 0 ((p2 + 1 : Nat) : Int) 121 61 = 0 := by rw [adt_ne (by omega) (by omega), up_ne (by omega), up_ne (by omega), up_ne (by omega)]; exact g8
    have Px : PG t2 (adt (up (up (up t2 121 10 ((p2 + 1 : Nat) : Int)) 121 48 (o : Int)) 121 51 ((k + 1 : Nat) : Int)) (I + 1 + l2.length) 5 0 0 ((p2 + 1 : Nat) : Int)) (I + 1 + l2.length) C2 (k + 1) := PG_trans (PG_trans (PG_trans (PG_up (by omega)) (PG_up (by omega)) (Nat.le_refl _) (Nat.le_refl _) (Nat.le_refl _)) (PG_up (by omega)) (Nat.le_refl _) (Nat.le_refl _) (Nat.le_refl _)) (PG_adt (Nat.le_refl _)) (Nat.le_refl _) (Nat.le_refl _) (Nat.le_refl _)
    have Il : IMs (adt (up (up (up t2 121 10 ((p2 + 1 : Nat) : Int)) 121 48 (o : Int)) 121 51 ((k + 1 : Nat) : Int)) (I + 1 + l2.length) 5 0 0 ((p2 + 1 : Nat) : Int)) (I + 1 + l2.length) q C2 C2 [(5, 0, 0, ((p2 + 1 : Nat) : Int))] := IMs_one (by rw [up_ne (by omega)]; exact hz.2.2.2.2.2.2.2.2.2.2.2.2.2.2.2.2) (by omega)
    refine Or.inl ⟨a3, _, _, p2 + 1, w2, C2, (4, 0, 0, (p : Int)) :: l2 ++ [(5, 0, 0, ((p2 + 1 : Nat) : Int))], ?_, by rw [E0, g2, E1], x61, hw.2.2.2.2.2.1, by rw [x51]; omega, by rw [x51]; omega, rfl, x51, x61, ⟨by omega, .idx _ _ _ _ _ _ _ k3 g9.2.1 g9.2.2⟩, ?_, by omega, ?_, by omega, by omega, ?_, ?_, ?_⟩
    · rw [C0, g1, b1, bq, bq, b2, bq, b3, bq, bq]
    · have e : I + ((4, 0, 0, (p : Int)) :: l2 ++ [(5, 0, 0, ((p2 + 1 : Nat) : Int))] : List itm).length = I + 1 + l2.length + 1 := by simp; omega
      rw [e]
      exact hw
    · have e : ((4, 0, 0, (p : Int)) :: l2 ++ [(5, 0, 0, ((p2 + 1 : Nat) : Int))] : List itm).length = l2.length + 2 := by simp
      rw [e]; omega
    · have e : l ++ ((4, 0, 0, (p : Int)) :: l2 ++ [(5, 0, 0, ((p2 + 1 : Nat) : Int))]) = l ++ [(4, 0, 0, (p : Int))] ++ l2 ++ [(5, 0, 0, ((p2 + 1 : Nat) : Int))] := by simp
      rw [e]; exact b4
    · have e : ((4, 0, 0, (p : Int)) :: l2 ++ [(5, 0, 0, ((p2 + 1 : Nat) : Int))] : List itm) = [(4, 0, 0, (p : Int))] ++ (l2 ++ [(5, 0, 0, ((p2 + 1 : Nat) : Int))]) := by simp
      rw [e]
      refine IMs_app (C1 := C) (IMs_pg (IMs_pg Iv i8 (Nat.le_refl _) (Nat.le_refl _)) Px (by show I + 1 ≤ _; omega) i4) ?_ (Nat.le_refl _) i4
      exact IMs_app (C1 := C2) (IMs_pg i7 Px (Nat.le_refl _) (Nat.le_refl _)) Il i4 (Nat.le_refl _)
    · exact PG_trans (PG_trans (PG_trans Pg Pv (Nat.le_refl _) (Nat.le_refl _) (Nat.le_refl _)) i8 (by omega) (Nat.le_refl _) (Nat.le_refl _)) Px (by omega) i4 (Nat.le_refl _)
  · refine Or.inr ⟨t1, by rw [E0, g1], f, u, g2, g3, PG0_trans (PG_mono (PG_trans Pg Pv (Nat.le_refl _) (Nat.le_refl _) (Nat.le_refl _)) (Nat.zero_le _) (Nat.zero_le _) (Nat.zero_le _)) g4, fun hb => ?_⟩
    obtain ⟨r, s', y1, y2⟩ := g5 hb
    exact ⟨0, s', by rw [C0, y1, bq, pad0 y2.2.2.2.2.2.1, bq, pad0 y2.2.2.2.2.2.1, bq, bq], y2⟩
/-- all of it, by the depth -/
theorem exprs_ok (h : TKR 0 F n N P s0 t0) (hR : RHE R b fv s0 N) : ∀ m, TERM R b s0 t0 N P q m ∧ EXPR R b s0 t0 N P q m ∧ CALLS R b s0 t0 N P q m := by
  intro m
  induction m using Nat.strongRecOn with
  | _ m ih =>
    refine ⟨term_ok h hR (fun m' hm => (ih m' hm).2.1) (fun m' hm => (ih m' hm).1) (fun m' hm => (ih m' hm).2.2), ?_, ?_⟩
    · rcases m with _ | _ | m
      · intro s t p o w I C k l _ _ _ _ _ _ _ _ hf
        omega
      · intro s t p o w I C k l _ _ _ _ _ _ _ _ hf
        omega
      · exact expr_ok h hR (ih (m + 1) (by omega)).1 (by omega)
    · rcases m with _ | _ | m
      · intro s t p o w I C k l _ _ _ _ _ _ _ _ _ hf
        omega
      · intro s t p o w I C k l _ _ _ _ _ _ _ _ _ hf
        omega
      · exact call_ok h hR (ih m (by omega)).2.1
end EXh
