/-! statements: do, return -/
section STe
variable {F : Nat → Int} {n N : Nat} {P : Nat → Nat} {s0 t0 : iS} {R : List itm → iS → Prop} {b q : Int} {fv : Nat → Int}
theorem MD_up2 {s s' : iS} {c k : Nat} {x : Int} (h : MD s s') : MD (up s c k x) (up s' c k x) := by
  intro c' k' h1 h2
  rw [up_at, up_at, h c' k' h1 h2]
/-- a call of the class whose name is wanting -/
theorem call_noname (h : TKR 0 F n N P s0 t0) {s : iS} {p m : Nat} {f : Int} (hf : f = if s0 9 p = 2 then 2 else 1) (hs : SC s0 s) (hp : s 2 12 = (p : Int)) (hN : p < N) (k3 : s0 9 p ≠ 3) (h4 : s 22 4 = 0) (h7 : s 14 7 = 0) (h13 : s 2 13 = 0) (hb : SBo s) : ∃ s', trlE (m + 4) 4 0 0 0 s = some (0, s') ∧ CD s0 N s' f p := by
  have hN2 := N1001 h
  have ff : ft f p N := ⟨by rw [hf]; split <;> omega, hN⟩
  have zd := stp_CD (N := N) (p := p) (f := f) hs h4 h7 hb
  have e34 : ∀ v, b01 v → ∃ s', trl_readCall_34 (trlE (m + 3)) (p : Int) v s = some (0, s') ∧ CD s0 N s' f p := by
    intro v hv
    unfold trl_readCall_34
    rw [cEx0 h hs h13 hp hN (by omega) k3, bq, ← hf, gr (by omega)]
    by_cases z : v = 0
    · rw [if_pos z]
      exact cz_64 h ff zd hv hN
    · rw [if_neg z, cz_ex h ff zd (by omega), bq, cz_ex h ff zd (by omega), bq]
      exact cz_64 h ff zd hv hN
  rw [trlE_4]
  unfold trl_readCall
  rw [hp, show (p : Int) + 1 = ((p + 1 : Nat) : Int) by omega]
  by_cases z : p + 1 < N
  · have kr := kRg h z
    rw [cKo h hs z, bq, gr (by omega)]
    by_cases z2 : s0 9 (p + 1) = 46
    · rw [if_pos z2]; exact e34 1 (Or.inr rfl)
    · rw [if_neg z2]; exact e34 0 (Or.inl rfl)
  · rw [cKoE h hs (by omega) (by omega), bq, gr (by omega), if_neg (by omega)]
    exact e34 0 (Or.inl rfl)
/-- a call of the class without its ( -/
theorem call_nopar (h : TKR 0 F n N P s0 t0) {s : iS} {p m : Nat} {f : Int} (hf : f = if s0 9 (p + 1) = 2 then 2 else 1) (hs : SC s0 s) (hp : s 2 12 = (p : Int)) (hN : p + 1 < N) (k3 : s0 9 p = 3) (k1 : s0 9 (p + 1) ≠ 46) (k2 : s0 9 (p + 1) ≠ 40) (h4 : s 22 4 = 0) (h7 : s 14 7 = 0) (h13 : s 2 13 = 0) (hb : SBo s) : ∃ s', trlE (m + 4) 4 0 0 0 s = some (0, s') ∧ CD s0 N s' f (p + 1) := by
  have hN2 := N1001 h
  have kr := kRg h hN
  have ff : ft f (p + 1) N := ⟨by rw [hf]; split <;> omega, hN⟩
  have hs1 : SC s0 (up s 2 12 ((p + 1 : Nat) : Int)) := SC_up hs (by omega)
  have b1 : SBo (up s 2 12 ((p + 1 : Nat) : Int)) := SBo_up hb (by omega)
  have z4 : up s 2 12 ((p + 1 : Nat) : Int) 22 4 = 0 := by rw [up_ne (by omega)]; exact h4
  have z7 : up s 2 12 ((p + 1 : Nat) : Int) 14 7 = 0 := by rw [up_ne (by omega)]; exact h7
  have z13 : up s 2 12 ((p + 1 : Nat) : Int) 2 13 = 0 := by rw [up_ne (by omega)]; exact h13
  have zd := stp_CD (N := N) (p := p + 1) (f := f) hs1 z4 z7 b1
  rw [trlE_4]
  unfold trl_readCall
  rw [hp, show (p : Int) + 1 = ((p + 1 : Nat) : Int) by omega, cKo h hs hN, bq, gr (by omega), if_neg k1]
  unfold trl_readCall_34
  rw [cEx h hs hp (by omega) (by omega) k3, bq, gr (by omega), if_pos rfl]
  unfold trl_readCall_64 trl_readCall_77 trl_readCall_87 trl_readCall_92
  rw [gr (by omega), if_pos rfl, gr (by omega), if_pos rfl, gr (by omega), if_pos rfl, gr (by omega), if_pos rfl, at0 z4, bq, pad0 z7, bq, c134_eq, cOpN h hs1 z13 (up_same _ _ _ _) hN (by omega) k2, bq, ← hf]
  unfold c185
  exact cz_134t (m := m) (v2 := 0) (v3 := -1) (v4 := 1) h ff zd (Or.inl rfl) (by omega) (by omega)
theorem s_do (h : TKR 0 F n N P s0 t0) (hR : RHE R b fv s0 N) (hS : RHS R b fv s0 N P) {s1 t1 t : iS} {p I C B p1 o1 w1 C1 lb B1 : Nat} {l l1 : List itm} (g : GS R s0 t0 N q s1 t1 t p I C B l p1 o1 w1 C1 lb B1 l1) (ho : 2 ≤ o1) (hI : I ≤ 3 * p) (hk : s0 9 p1 = 272) : SOUT R b s0 t0 N P q t t1 p I C B l p1 o1 w1 lb B1 l1 (bd (prg_markNext (P p1 : Int) s1) (fun _ s9 => trl_readDo (up s9 2 12 ((p1 + 1 : Nat) : Int)))) (m_statement t1) := by
  have hN2 := N1001 h
  have g' := g
  obtain ⟨a1, a2, a3, a4, a5, a6, a7, a8, a9, a10, a11⟩ := g
  have a1' := a1
  obtain ⟨h1, h2, h3, h4, h5, h6, h7, h8, h9, h10, h11, h12, h13, h14, h15, h16, h17⟩ := a1
  have hp1 := tkL h h5 (by omega)
  have kr1 := kRg h hp1
  have M0 : m_statement t1 = bd (m_call (adt (up t1 121 10 ((p1 + 1 : Nat) : Int)) (I + l1.length) 11 0 0 (p1 : Int))) (fun _ s12 => bd (m_add 19 0 0 (p1 : Int) s12) (fun r13 s13 => bd (m_needSign 59 s13) (fun _ s14 => m_statement_211 (p1 : Int) s14))) := by
    rw [mst_eq h h2 h4 h5 (Or.inr (Or.inl hk))]
    simp only [if_neg (show ¬ s0 9 p1 = 271 by omega), if_pos hk]
    exact beg_r h g'
  obtain ⟨sa, f1, f2, f3⟩ := hS.2.1 (l ++ l1) s1 p1 a9 h5 (Or.inl hk)
  have ga := GS_next hR g' hp1
  have gb := GS_add (a := 11) (b' := 0) (c := 0) (d := (p1 : Int)) ga (MD_up2 f3) ((hR.1 _ _ _ f2).1) (by omega) (by omega) hI
  rw [f1, bq, M0]
  unfold trl_readDo
  have gb' := gb
  obtain ⟨d1, d2, d3, d4, d5, d6, d7, d8, d9, d10, d11, d12, d13, d14, d15, d16, d17⟩ := gb.1
  have b9 := gb.2.2.2.2.2.2.2.2.1
  generalize adt (up t1 121 10 ((p1 + 1 : Nat) : Int)) (I + l1.length) 11 0 0 (p1 : Int) = t8 at *
  generalize up sa 2 12 ((p1 + 1 : Nat) : Int) = s8 at *
  have k := tkK h hp1
  rw [if_pos rfl] at k
  have CTt : CT s0 N (fun s1 => bd (tok_expect 59 s1) (fun _ s2 => bd (prg_add 1 7 0 s2) (fun _ s3 => some (0, s3)))) := CT_bd (CT_ex (c := 59) h (by omega)) (CT_bd (CT_pa (a := 1) (b := 7) (c := 0)) (CT_some (v := 0)))
  have R0t : R0 t0 N P (fun s12 => bd (m_add 19 0 0 (p1 : Int) s12) (fun r13 s13 => bd (m_needSign 59 s13) (fun _ s14 => m_statement_211 (p1 : Int) s14))) 2 := R0_bd (d1 := 1) RT_ad (R0_bd (d1 := 0) (RT_ns (c := 59) h (by omega)) R0_211)
  -- a dead call
  have fin : ∀ tx, m_call t8 = some (0, tx) → DM 3200 b s0 t0 N P t tx (trlE 150 4 0 0 0 s8) → ∃ t2, bd (m_call t8) (fun _ s12 => bd (m_add 19 0 0 (p1 : Int) s12) (fun r13 s13 => bd (m_needSign 59 s13) (fun _ s14 => m_statement_211 (p1 : Int) s14))) = some (0, t2) ∧ DM 3250 b s0 t0 N P t t2 (bd (trlE 150 4 0 0 0 s8) (fun _ s1 => bd (tok_expect 59 s1) (fun _ s2 => bd (prg_add 1 7 0 s2) (fun _ s3 => some (0, s3))))) := by
    intro tx e1 e2
    obtain ⟨t3, y1, y2⟩ := DM_0 (DM_c e2 CTt) R0t (by omega)
    exact ⟨t3, by rw [e1, bq]; exact y1, DM_mono y2 (by omega)⟩
  by_cases k3 : s0 9 (p1 + 1) = 3
  case neg =>
    have hf : (if s0 9 (p1 + 1) = 2 then (2 : Int) else 1) = 1 ∨ (if s0 9 (p1 + 1) = 2 then (2 : Int) else 1) = 2 := by split <;> omega
    have e1 : m_call t8 = some (0, flt t8 (if s0 9 (p1 + 1) = 2 then 2 else 1) P (p1 + 1)) := by
      unfold m_call m_needName m_needName_24
      rw [d4, gd_pos (by omega), Int.toNat_natCast, d2.2.1, gr (by omega), if_neg (by omega), rSy h d2 d6 d4 d5, bq, flt_11, gr (by omega), if_neg (by omega), bq, flt_11, gr (by omega), if_neg (by omega)]
    refine Or.inr (fin _ e1 ⟨_, p1 + 1, ⟨hf, hp1⟩, flt_RD d2 d4 d5 d13 (by omega) (by omega), PS0_trans (PS_0 gb'.2.2.2.2.2.2.2.2.2.2) (PS_PG (K := 0) flt_PG), fun hb => ?_⟩)
    obtain ⟨y1, y2, y3⟩ := hR.2.1 _ s8 b9
    obtain ⟨y4, y5⟩ := y3 hb
    obtain ⟨s', z1, z2⟩ := call_noname (m := 146) h rfl d1 d3 hp1 k3 (by rw [y1, hb]) y5 y4 y2
    exact ⟨0, s', z1, z2⟩
  have hp2 := tkL h hp1 (by omega)
  have kr2 := kRg h hp2
  have N0 : m_needName t8 = some (((p1 + 1 : Nat) : Int), up t8 121 10 ((p1 + 2 : Nat) : Int)) := by
    unfold m_needName m_needName_24
    rw [d4, gd_pos (by omega), Int.toNat_natCast, d2.2.1, gr (by omega), if_pos (by omega), rGo d6 d4, bq, up_ne (by omega), d6, gr (by omega), if_pos rfl, up_same]
    rw [show ((p1 + 1 + 1 : Nat) : Int) - 1 = ((p1 + 1 : Nat) : Int) by omega]
  have hn : LV s0 t0 N q (up s8 2 12 ((p1 + 2 : Nat) : Int)) (up t8 121 10 ((p1 + 2 : Nat) : Int)) (p1 + 2) o1 w1 (I + (l1 ++ [(11, 0, 0, (p1 : Int))]).length) C1 := LV_go gb'.1 hp2
  obtain ⟨n1, n2, n3, n4, n5, n6, n7, n8, n9, n10, n11, n12, n13, n14, n15, n16, n17⟩ := hn
  have Mc : m_call t8 = (if s0 9 (p1 + 2) = 46 ∨ s0 9 (p1 + 2) = 40 then m_call_36 ((p1 + 1 : Nat) : Int) (up t8 121 10 ((p1 + 2 : Nat) : Int)) else bd (m_syntax (up t8 121 10 ((p1 + 2 : Nat) : Int))) (fun _ s10 => some (0, s10))) := by
    unfold m_call
    rw [N0, bq, n6, gr (by omega), if_pos (by omega), rS h n2 n4 n5 (by omega), bq]
    by_cases z : s0 9 (p1 + 2) = 46
    · rw [if_pos z, gr (by omega), if_neg (by omega), if_pos (Or.inl z)]
    · rw [if_neg z, gr (by omega), if_pos rfl, rS h n2 n4 n5 (by omega), bq]
      by_cases z2 : s0 9 (p1 + 2) = 40
      · rw [if_pos z2, gr (by omega), if_neg (by omega), if_pos (Or.inr z2)]
      · rw [if_neg z2, gr (by omega), if_pos rfl, if_neg (by omega)]
  have Pn : PS t (up t8 121 10 ((p1 + 2 : Nat) : Int)) 0 0 0 := PS0_trans (PS_0 gb'.2.2.2.2.2.2.2.2.2.2) (PS_up (by omega))
  by_cases kc : s0 9 (p1 + 2) = 46 ∨ s0 9 (p1 + 2) = 40
  case neg =>
    have hf : (if s0 9 (p1 + 2) = 2 then (2 : Int) else 1) = 1 ∨ (if s0 9 (p1 + 2) = 2 then (2 : Int) else 1) = 2 := by split <;> omega
    rw [if_neg kc, rSy h n2 n6 n4 n5, bq] at Mc
    refine Or.inr (fin _ Mc ⟨_, p1 + 2, ⟨hf, hp2⟩, flt_RD n2 n4 n5 n13 (by omega) (by omega), PS0_trans Pn (PS_PG (K := 0) flt_PG), fun hb => ?_⟩)
    obtain ⟨y1, y2, y3⟩ := hR.2.1 _ s8 b9
    obtain ⟨y4, y5⟩ := y3 hb
    obtain ⟨s', z1, z2⟩ := call_nopar (m := 146) (p := p1 + 1) h rfl d1 d3 hp2 k3 (fun z => kc (Or.inl z)) (fun z => kc (Or.inr z)) (by rw [y1, hb]) y5 y4 y2
    exact ⟨0, s', z1, z2⟩
  rw [if_pos kc] at Mc
  -- the call
  have u51 : psh (up (up (up t8 121 10 ((p1 + 2 : Nat) : Int)) 121 51 0) 121 62 1) 0 0 121 51 = ((0 + 1 : Nat) : Int) := psh_51
  have hu : LV s0 t0 N q (up s8 2 12 ((p1 + 1 + 1 : Nat) : Int)) (psh (up (up (up t8 121 10 ((p1 + 2 : Nat) : Int)) 121 51 0) 121 62 1) 0 0) (p1 + 1 + 1) o1 w1 (I + (l1 ++ [(11, 0, 0, (p1 : Int))]).length) C1 := LV_r (LV_go gb'.1 hp2) (PG_SR psh_PG0 (SR_up (SR_up n2 (by omega)) (by omega))) (fun j hj => by rw [psh_ne (by omega) (by omega), up_ne (by omega), up_ne (by omega)])
  have Pu : PS (up t8 121 10 ((p1 + 2 : Nat) : Int)) (psh (up (up (up t8 121 10 ((p1 + 2 : Nat) : Int)) 121 51 0) 121 62 1) 0 0) (I + (l1 ++ [(11, 0, 0, (p1 : Int))]).length) C1 B := PS_trans (PS_trans (PS_up (by omega)) (PS_up (by omega)) (Nat.le_refl _) (Nat.le_refl _) (Nat.le_refl _)) (PS_PG (K := 0) (psh_PG (Nat.zero_le _))) (Nat.le_refl _) (Nat.le_refl _) (Nat.le_refl _)
  have uk : ∀ j, j = 50 ∨ j = 55 → psh (up (up (up t8 121 10 ((p1 + 2 : Nat) : Int)) 121 51 0) 121 62 1) 0 0 121 j = t8 121 j := fun j hj => by rw [psh_ne (by omega) (by omega), up_ne (by omega), up_ne (by omega), up_ne (by omega)]
  have u62 : psh (up (up (up t8 121 10 ((p1 + 2 : Nat) : Int)) 121 51 0) 121 62 1) 0 0 121 62 = 1 := by rw [psh_ne (by omega) (by omega), up_same]
  have u157 : psh (up (up (up t8 121 10 ((p1 + 2 : Nat) : Int)) 121 51 0) 121 62 1) 0 0 157 0 = 0 := psh_at.1
  have u158 : psh (up (up (up t8 121 10 ((p1 + 2 : Nat) : Int)) 121 51 0) 121 62 1) 0 0 158 0 = 0 := psh_at.2
  have M36 : m_call_36 ((p1 + 1 : Nat) : Int) (up t8 121 10 ((p1 + 2 : Nat) : Int)) = bd (m_beginCall ((p1 + 1 : Nat) : Int) (psh (up (up (up t8 121 10 ((p1 + 2 : Nat) : Int)) 121 51 0) 121 62 1) 0 0)) (fun _ s4 => gd (rg (s4 121 11)) (if (s4 121 11) = 0 then bd (m_expressions s4) (fun _ s7 => some (0, s7)) else some (0, s4))) := by
    unfold m_call_36
    rw [lt_eq, lt_eq, psh_ok (k := 0) (by rw [up_ne (by omega), up_same]; rfl) (by omega), bq]
  rw [M36] at Mc
  have Pt := PS_trans (PS_trans gb'.2.2.2.2.2.2.2.2.2.2 (PS_up (k := 10) (x := ((p1 + 2 : Nat) : Int)) (I := I) (C := C) (B := B) (by omega)) (Nat.le_refl _) (Nat.le_refl _) (Nat.le_refl _)) Pu (by omega) a7 (Nat.le_refl _)
  have Pi := PS_trans (PS_up (t := t8) (k := 10) (x := ((p1 + 2 : Nat) : Int)) (I := I + (l1 ++ [(11, 0, 0, (p1 : Int))]).length) (C := C1) (B := B) (by omega)) Pu (Nat.le_refl _) (Nat.le_refl _) (Nat.le_refl _)
  generalize psh (up (up (up t8 121 10 ((p1 + 2 : Nat) : Int)) 121 51 0) 121 62 1) 0 0 = ug at *
  rcases (exprs_ok (q := q) h hR 150).2.2 s8 ug (p1 + 1) o1 w1 (I + (l1 ++ [(11, 0, 0, (p1 : Int))]).length) C1 0 (l ++ (l1 ++ [(11, 0, 0, (p1 : Int))])) d3 d1 hu b9 k3 (by omega) u51 (Nat.zero_le _) (by omega) (by omega) with ⟨s', t1', t3, p', w', C', l', e1, e2, ex, e3, e4, e5, e6, e7, i1, i2, i3, i4, i5, i6, i7, i8⟩ | ⟨t1', t', e1, ex, e2, f, u, e3, e4, e5, e6⟩
  case inr =>
    have Mc2 : m_call t8 = some (0, t') := by
      rw [Mc, e1, bq]
      rcases ex with z | z
      · rw [gr (by omega), if_pos z, exq, e2, bn, bq]
      · have : t1' = t' := by
          have := eL_dead z
          rw [e2] at this
          exact (Option.some.inj this).symm
        rw [gr (by omega), if_neg (by omega), this]
    exact Or.inr (fin _ Mc2 ⟨f, u, e3, RD_mono e4 (by omega), PS0_trans (PS_0 Pt) (PS_PG (K := 0) e5), e6⟩)
  have i1' := i1
  obtain ⟨j1, j2, j3, j4, j5, j6, j7, j8, j9, j10, j11, j12, j13, j14, j15, j16, j17⟩ := i1
  have B0 : m_behindTerm t3 = some (0, up t3 121 51 0) := by
    have z157 : t3 157 0 = 0 := by rw [i8.2.2.2 157 0 (by omega) (by omega) (by omega)]; exact u157
    have z158 : t3 158 0 = 0 := by rw [i8.2.2.2 158 0 (by omega) (by omega) (by omega)]; exact u158
    have z62 : t3 121 62 = 1 := by rw [PG_c i8 (by omega)]; exact u62
    rw [btq, pL_end (k := 0) e6 (by omega) (by omega), bn]
    unfold m_behindTerm_58 m_behindTerm_92
    have zz : up t3 158 0 0 = t3 := by
      have := up_id (s := t3) (c := 158) (k := 0)
      rw [z158] at this
      exact this
    rw [e6, show ((0 + 1 : Nat) : Int) - 1 = ((0 : Nat) : Int) from rfl, gd_pos (by omega), Int.toNat_natCast, z158, gr (by omega), if_pos rfl, gd_pos (by omega), lt_eq, zz, z157, gr (by omega), if_pos rfl, z62, gr (by omega), if_neg (by omega), lt_eq]
  have E1 := eL_bt e5 (by rw [e6]; omega) e4 B0
  have E2 : eL (up t3 121 51 0) = some (up t3 121 51 0) := eL_end (by rw [up_ne (by omega)]; exact j6) (up_same _ _ _ _)
  have Mc2 : m_call t8 = some (0, up t3 121 51 0) := by
    rw [Mc, e2, bq, ex, gr (by omega), if_pos rfl, exq, e3, E1, E2, bn, bq]
  have fr : s' 22 7 = s8 22 7 := ftrlE 150 4 0 0 0 s8 (0, s') e1 22 7 (by decide) (by decide)
  have PP : PS ug (up t3 121 51 0) (I + (l1 ++ [(11, 0, 0, (p1 : Int))]).length) C1 B := PS_trans (PS_PG i8) (PS_up (by omega)) (Nat.le_refl _) (Nat.le_refl _) (Nat.le_refl _)
  have gc : GS R s0 t0 N q s' (up t3 121 51 0) t p I C B l p' o1 w' C' lb B1 (l1 ++ [(11, 0, 0, (p1 : Int))] ++ l') := by
    refine ⟨?_, by rw [fr]; exact gb'.2.1, ?_, ?_, by omega, ?_, by omega, by omega, by rw [← List.append_assoc]; exact i6, ?_, PS_trans Pt PP (by omega) a7 (Nat.le_refl _)⟩
    · rw [List.length_append (as := l1 ++ [(11, 0, 0, (p1 : Int))]), ← Nat.add_assoc]
      exact LV_r i1' (SR_up j2 (by omega)) (fun j hj => up_ne (by omega))
    · rw [up_ne (by omega), PG_c i8 (by omega), uk 50 (by omega)]; exact gb'.2.2.1
    · rw [up_ne (by omega), PG_c i8 (by omega), uk 55 (by omega)]; exact gb'.2.2.2.1
    · rw [List.length_append, List.length_append]
      show _ + 1 + _ ≤ _
      omega
    · refine IMs_app (C1 := C1) (IMs_ps (IMs_ps gb'.2.2.2.2.2.2.2.2.2.1 Pi (Nat.le_refl _) (Nat.le_refl _)) PP (Nat.le_refl _) (Nat.le_refl _)) ?_ a7 i4
      exact IMs_x i7 (fun c k z1 z2 z3 z4 => up_ne (by omega)) (fun c k z1 z2 z3 z4 => up_ne (by omega))
  have lenc : (l1 ++ [(11, 0, 0, (p1 : Int))] ++ l').length = l1.length + 1 + l'.length := by simp; omega
  -- the dropping; ;
  rw [Mc2, bq, e1, bq]
  generalize up t3 121 51 0 = tc at *
  have c13 := gc.1.2.2.2.2.2.2.2.2.2.2.2.2.1
  have c15 := gc.1.2.2.2.2.2.2.2.2.2.2.2.2.2.2.1
  obtain ⟨x1, x2, x3, x4, x5, x6, x7, x8, x9, x10, x11, x12, x13, x14, x15, x16, x17⟩ := gc.1
  rw [mad_ok c13 (by omega), bq]
  by_cases k59 : s0 9 p' = 59
  case neg =>
    -- the ; is wanting
    have hf : (if s0 9 p' = 2 then (2 : Int) else 1) = 1 ∨ (if s0 9 p' = 2 then (2 : Int) else 1) = 2 := by split <;> omega
    have y4 : adt tc (I + (l1 ++ [(11, 0, 0, (p1 : Int))] ++ l').length) 19 0 0 (p1 : Int) 121 10 = (p' : Int) := by rw [adt_ne (by omega) (by omega)]; exact x4
    have y6 : adt tc (I + (l1 ++ [(11, 0, 0, (p1 : Int))] ++ l').length) 19 0 0 (p1 : Int) 121 11 = 0 := by rw [adt_ne (by omega) (by omega)]; exact x6
    have y2 : SR t0 (adt tc (I + (l1 ++ [(11, 0, 0, (p1 : Int))] ++ l').length) 19 0 0 (p1 : Int)) := PG_SR (PG_adt (I := 0) (C := 0) (K := 0) (Nat.zero_le _)) x2
    have D : DM 3010 b s0 t0 N P t (flt (adt tc (I + (l1 ++ [(11, 0, 0, (p1 : Int))] ++ l').length) 19 0 0 (p1 : Int)) (if s0 9 p' = 2 then 2 else 1) P p') (tok_expect 59 s') := by
      refine ⟨_, p', ⟨hf, x5⟩, flt_RD y2 y4 x5 adt_33 (by omega) (by rw [adt_ne (by omega) (by omega)]; omega), PS0_trans (PS_0 gc.2.2.2.2.2.2.2.2.2.2) (PS0_trans (PS_PG (K := 0) (PG_adt (Nat.zero_le _))) (PS_PG (K := 0) flt_PG)), fun hb => ?_⟩
      obtain ⟨z1, z2, z3⟩ := hR.2.1 _ s' gc.2.2.2.2.2.2.2.2.1
      obtain ⟨z4, z5⟩ := z3 hb
      exact ⟨0, _, cEx0 h x1 z4 x3 x5 (by omega) k59, stp_CD x1 (by rw [z1, hb]) z5 z2⟩
    rw [rNs h y2 y6 y4 x5 (by omega), if_neg k59, bq]
    obtain ⟨t4, y1, y2⟩ := DM_0 (DM_c D (CT_bd (CT_pa (a := 1) (b := 7) (c := 0)) (CT_some (v := 0)))) (R0_211 (v := (p1 : Int))) (by omega)
    exact Or.inr ⟨t4, y1, DM_mono y2 (by omega)⟩
  have hp3 := tkL h x5 (by omega)
  have gd' := GS_next hR gc hp3
  obtain ⟨s5, y1, y2, y3⟩ := hS.2.2.2.2.2.2.1 _ _ (p1 : Int) gd'.2.2.2.2.2.2.2.2.1
  have ge := GS_add (a := 19) (b' := 0) (c := 0) (d := (p1 : Int)) gd' y3 y2 (by omega) (by rw [lenc]; omega) hI
  have gf := GS_add0 (a := 12) (b' := 0) (c := 0) (d := (p1 : Int)) ge (hS.2.2.2.2.2.2.2.2.2.2.2.2 _ _ _ ge.2.2.2.2.2.2.2.2.1) (by omega) (by rw [List.length_append, lenc]; show _ + 1 + 1 ≤ _; omega) hI
  have n33 := ge.1.2.2.2.2.2.2.2.2.2.2.2.2.1
  have q15 := ge.1.2.2.2.2.2.2.2.2.2.2.2.2.2.2.1
  have q5 := ge.1.2.2.2.2.1
  refine Or.inl ⟨s5, _, p' + 1, w', C', [(11, 0, 0, (p1 : Int))] ++ (l' ++ ([(19, 0, 0, (p1 : Int))] ++ [(12, 0, 0, (p1 : Int))])), ?_, ?_, ⟨by omega, .doc _ _ _ _ _ _ _ _ _ _ (by omega) e7.2⟩, by
    have e : l1 ++ ([(11, 0, 0, (p1 : Int))] ++ (l' ++ ([(19, 0, 0, (p1 : Int))] ++ [(12, 0, 0, (p1 : Int))]))) = l1 ++ [(11, 0, 0, (p1 : Int))] ++ l' ++ [(19, 0, 0, (p1 : Int))] ++ [(12, 0, 0, (p1 : Int))] := by simp
    rw [e]; exact gf⟩
  · rw [cEx h x1 x3 x5 (by omega) k59, bq, y1, bq]
  · rw [rNs h (PG_SR (PG_adt (I := 0) (C := 0) (K := 0) (Nat.zero_le _)) x2) (by rw [adt_ne (by omega) (by omega)]; exact x6) (by rw [adt_ne (by omega) (by omega)]; exact x4) x5 (by omega), if_pos k59, bq, adt_go (by omega)]
    unfold m_statement_211
    rw [mad_ok n33 (by omega), bq]
theorem s_ret (h : TKR 0 F n N P s0 t0) (hR : RHE R b fv s0 N) (hS : RHS R b fv s0 N P) {s1 t1 t : iS} {p I C B p1 o1 w1 C1 lb B1 : Nat} {l l1 : List itm} (g : GS R s0 t0 N q s1 t1 t p I C B l p1 o1 w1 C1 lb B1 l1) (ho : 2 ≤ o1) (hI : I ≤ 3 * p) (hk : s0 9 p1 = 276) : SOUT R b s0 t0 N P q t t1 p I C B l p1 o1 w1 lb B1 l1 (bd (prg_markNext (P p1 : Int) s1) (fun _ s9 => trl_readReturn (up s9 2 12 ((p1 + 1 : Nat) : Int)))) (m_statement t1) := by
  have hN2 := N1001 h
  have g' := g
  obtain ⟨a1, a2, a3, a4, a5, a6, a7, a8, a9, a10, a11⟩ := g
  have a1' := a1
  obtain ⟨h1, h2, h3, h4, h5, h6, h7, h8, h9, h10, h11, h12, h13, h14, h15, h16, h17⟩ := a1
  have hp1 := tkL h h5 (by omega)
  have kr1 := kRg h hp1
  have M0 : m_statement t1 = (fun s8 => bd (m_isSign 59 s8) (fun r16 s16 => gd (rg r16) (if r16 = 0 then m_statement_156 (p1 : Int) 1 s16 else m_statement_156 (p1 : Int) 0 s16))) (adt (up t1 121 10 ((p1 + 1 : Nat) : Int)) (I + l1.length) 11 0 0 (p1 : Int)) := by
    rw [mst_eq h h2 h4 h5 (Or.inr (Or.inr (Or.inr (Or.inr hk))))]
    simp only [if_neg (show ¬ s0 9 p1 = 271 by omega), if_neg (show ¬ s0 9 p1 = 272 by omega), if_pos hk]
    exact beg_r h g'
  obtain ⟨sa, f1, f2, f3⟩ := hS.2.1 (l ++ l1) s1 p1 a9 h5 (Or.inr (Or.inr (Or.inr hk)))
  have ga := GS_next hR g' hp1
  have gb := GS_add (a := 11) (b' := 0) (c := 0) (d := (p1 : Int)) ga (MD_up2 f3) ((hR.1 _ _ _ f2).1) (by omega) (by omega) hI
  rw [f1, bq, M0]
  have gb' := gb
  obtain ⟨d1, d2, d3, d4, d5, d6, d7, d8, d9, d10, d11, d12, d13, d14, d15, d16, d17⟩ := gb.1
  have b9 := gb.2.2.2.2.2.2.2.2.1
  generalize adt (up t1 121 10 ((p1 + 1 : Nat) : Int)) (I + l1.length) 11 0 0 (p1 : Int) = t8 at *
  generalize up sa 2 12 ((p1 + 1 : Nat) : Int) = s8 at *
  -- ; and the return
  have tail : ∀ (s2 t2 : iS) (p2 w2 C2 : Nat) (l2 : List itm), p1 + 1 ≤ p2 → GS R s0 t0 N q s2 t2 t p I C B l p2 o1 w2 C2 lb B1 (l1 ++ [(11, 0, 0, (p1 : Int))] ++ l2) → (l1 ++ [(11, 0, 0, (p1 : Int))] ++ l2).length + 1 ≤ 3 * (p2 - p) → (∀ tt, GY s0 tt 0 o1 (I + l1.length) p1 w1 lb (p2 + 1) w2 lb ([(11, 0, 0, (p1 : Int))] ++ (l2 ++ [(18, 0, 0, (p1 : Int))]))) → (∃ s3 t3 p3 w3 C3 l3, trl_readReturn_29 s2 = some (0, s3) ∧ m_statement_177 (p1 : Int) t2 = some (0, t3) ∧ (p1 + 1 < p3 ∧ GY s0 t3 0 o1 (I + l1.length) p1 w1 lb p3 w3 lb l3) ∧ GS R s0 t0 N q s3 t3 t p I C B l p3 o1 w3 C3 lb B1 (l1 ++ l3)) ∨ (∃ t3, m_statement_177 (p1 : Int) t2 = some (0, t3) ∧ DM 3250 b s0 t0 N P t t3 (trl_readReturn_29 s2)) := by
    intro s2 t2 p2 w2 C2 l2 hp2 gx hlen hgy
    obtain ⟨x1, x2, x3, x4, x5, x6, x7, x8, x9, x10, x11, x12, x13, x14, x15, x16, x17⟩ := gx.1
    unfold trl_readReturn_29 m_statement_177
    rw [mad_ok x13 (by omega), bq]
    have y4 : adt t2 (I + (l1 ++ [(11, 0, 0, (p1 : Int))] ++ l2).length) 18 0 0 (p1 : Int) 121 10 = (p2 : Int) := by rw [adt_ne (by omega) (by omega)]; exact x4
    have y6 : adt t2 (I + (l1 ++ [(11, 0, 0, (p1 : Int))] ++ l2).length) 18 0 0 (p1 : Int) 121 11 = 0 := by rw [adt_ne (by omega) (by omega)]; exact x6
    have y2 : SR t0 (adt t2 (I + (l1 ++ [(11, 0, 0, (p1 : Int))] ++ l2).length) 18 0 0 (p1 : Int)) := PG_SR (PG_adt (I := 0) (C := 0) (K := 0) (Nat.zero_le _)) x2
    rw [rNs h y2 y6 y4 x5 (by omega)]
    by_cases k59 : s0 9 p2 = 59
    · have hp3 := tkL h x5 (by omega)
      have gd' := GS_next hR gx hp3
      obtain ⟨s5, y1, y2, y3⟩ := hS.2.2.2.2.2.2.2.1 _ _ (p1 : Int) gd'.2.2.2.2.2.2.2.2.1
      have ge := GS_add (a := 18) (b' := 0) (c := 0) (d := (p1 : Int)) gd' y3 y2 (by omega) (by omega) hI
      refine Or.inl ⟨s5, _, p2 + 1, w2, C2, [(11, 0, 0, (p1 : Int))] ++ (l2 ++ [(18, 0, 0, (p1 : Int))]), ?_, ?_, ⟨by omega, hgy _⟩, by
        have e : l1 ++ ([(11, 0, 0, (p1 : Int))] ++ (l2 ++ [(18, 0, 0, (p1 : Int))])) = l1 ++ [(11, 0, 0, (p1 : Int))] ++ l2 ++ [(18, 0, 0, (p1 : Int))] := by simp
        rw [e]; exact ge⟩
      · rw [cEx h x1 x3 x5 (by omega) k59, bq, y1, bq]
      · rw [if_pos k59, bq, adt_go (by omega)]
    · have hf : (if s0 9 p2 = 2 then (2 : Int) else 1) = 1 ∨ (if s0 9 p2 = 2 then (2 : Int) else 1) = 2 := by split <;> omega
      rw [if_neg k59, bq]
      refine Or.inr ⟨_, rfl, DM_c (cl := tok_expect 59 s2) ⟨_, p2, ⟨hf, x5⟩, flt_RD y2 y4 x5 adt_33 (by omega) (by rw [adt_ne (by omega) (by omega)]; omega), PS0_trans (PS_0 gx.2.2.2.2.2.2.2.2.2.2) (PS0_trans (PS_PG (K := 0) (PG_adt (Nat.zero_le _))) (PS_PG (K := 0) flt_PG)), fun hb => ?_⟩ (CT_bd (CT_pa (a := 16) (b := 0) (c := 0)) (CT_some (v := 0)))⟩
      obtain ⟨z1, z2, z3⟩ := hR.2.1 _ s2 gx.2.2.2.2.2.2.2.2.1
      obtain ⟨z4, z5⟩ := z3 hb
      exact ⟨0, _, cEx0 h x1 z4 x3 x5 (by omega) k59, stp_CD x1 (by rw [z1, hb]) z5 z2⟩
  unfold trl_readReturn
  show SOUT R b s0 t0 N P q t t1 p I C B l p1 o1 w1 lb B1 l1 _ (bd (m_isSign 59 t8) (fun r16 s16 => gd (rg r16) (if r16 = 0 then m_statement_156 (p1 : Int) 1 s16 else m_statement_156 (p1 : Int) 0 s16)))
  rw [cK h d1 d3 hp1, bq, gr (by omega), rS h d2 d4 hp1 (by omega), bq]
  unfold m_statement_156
  by_cases k59 : s0 9 (p1 + 1) = 59
  · -- without a value
    rw [if_pos k59, if_pos k59, gr (by omega), if_neg (by omega), gr (by omega), if_pos rfl, mad_ok d13 (by omega), bq]
    obtain ⟨s5, y1, y2, y3⟩ := hR.2.2.1 _ s8 0 (p1 : Int) b9 (by omega) (by omega)
    have gc := GS_add (a := 0) (b' := 0) (c := 0) (d := (p1 : Int)) gb' y3 y2 (by omega) (by rw [List.length_append]; show _ + 1 + 1 ≤ _; omega) hI
    rw [y1, bq]
    exact tail s5 _ (p1 + 1) w1 C1 [(0, 0, 0, (p1 : Int))] (Nat.le_refl _) gc (by rw [List.length_append, List.length_append]; show _ + 1 + 1 + 1 ≤ _; omega) (fun tt => .ret0 _ _ _ _ _ _ _ (by omega))
  · -- with one
    rw [if_neg k59, if_neg k59, gr (by omega), if_pos rfl, gr (by omega), if_neg (by omega)]
    rcases x_top (m := 150) h hR gb' (by omega) with ⟨s2, t2, p2, w2, C2, l2, x1, x2, x3, x4, x5, x6⟩ | ⟨t2, x1, x2⟩
    · rw [x1, bq, x2, bq]
      exact tail s2 t2 p2 w2 C2 l2 (by omega) x5 (by rw [List.length_append, List.length_append]; show _ + 1 + _ + 1 ≤ _; omega) (fun tt => .ret1 _ _ _ _ _ _ _ _ _ (by omega) x3.2)
    · rw [x1, bq]
      obtain ⟨t3, y1, y2⟩ := DM_0 (M := 3200) (k := m_statement_177 (p1 : Int)) (DM_c x2 (k := trl_readReturn_29) (CT_bd (CT_ex (c := 59) h (by omega)) (CT_bd (CT_pa (a := 16) (b := 0) (c := 0)) (CT_some (v := 0))))) (R0_bd (d1 := 1) RT_ad (R0_bd (d1 := 0) (RT_ns (c := 59) h (by omega)) R0_some)) (by omega)
      exact Or.inr ⟨t3, y1, DM_mono y2 (by omega)⟩
end STe
