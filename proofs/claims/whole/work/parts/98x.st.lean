/-! statements: the ends of blocks -/
section STh
variable {F : Nat → Int} {n N : Nat} {P : Nat → Nat} {s0 t0 : iS} {R : List itm → iS → Prop} {b q : Int} {fv : Nat → Int}
theorem R0_bdr {k1 : iS → Option (Int × iS)} {k2 : Int → iS → Option (Int × iS)} {d1 d2 : Nat} (h1 : RT t0 N P k1 d1) (h2 : ∀ r, R0 t0 N P (k2 r) d2) : R0 t0 N P (fun t => bd (k1 t) (fun r t' => k2 r t')) (d1 + d2) := by
  intro t f u M hf hd hM
  obtain ⟨r, t', e, hd', hp⟩ := h1 t f u M hf hd (by omega)
  obtain ⟨t2, e2, hd2, hp2⟩ := h2 r t' f u (M + d1) hf hd' (by omega)
  exact ⟨t2, by show bd (k1 t) _ = _; rw [e, bq, e2], RD_mono hd2 (by omega), PS0_trans hp hp2⟩
/-- two labels are taken -/
theorem GS_lab {s1 t1 t : iS} {p I C B p1 o1 w1 C1 lb B1 lb' : Nat} {l l1 : List itm} (hR : RHE R b fv s0 N) (g : GS R s0 t0 N q s1 t1 t p I C B l p1 o1 w1 C1 lb B1 l1) : GS R s0 t0 N q (up s1 22 7 (lb' : Int)) (up t1 121 50 (lb' : Int)) t p I C B l p1 o1 w1 C1 lb' B1 l1 := by
  obtain ⟨a1, a2, a3, a4, a5, a6, a7, a8, a9, a10, a11⟩ := g
  obtain ⟨h1, h2, h3, h4, h5, h6, h7, h8, h9, h10, h11, h12, h13, h14, h15, h16, h17⟩ := a1
  have PP : PS t1 (up t1 121 50 (lb' : Int)) (I + l1.length) C1 B := PS_up (by omega)
  refine ⟨⟨SC_up h1 (by omega), SR_up h2 (by omega), ?_, ?_, h5, ?_, ?_, ?_, h9, ?_, ?_, h12, ?_, ?_, h15, h16, ?_⟩, up_same _ _ _ _, up_same _ _ _ _, ?_, a5, a6, a7, a8, (hR.1 _ _ _ a9).2.2.2, IMs_ps a10 PP (Nat.le_refl _) (Nat.le_refl _), PS_trans a11 PP (by omega) a7 (Nat.le_refl _)⟩
  · rw [up_ne (by omega)]; exact h3
  · rw [up_ne (by omega)]; exact h4
  · rw [up_ne (by omega)]; exact h6
  · rw [up_ne (by omega)]; exact h7
  · rw [up_ne (by omega)]; exact h8
  · rw [up_ne (by omega)]; exact h10
  · rw [up_ne (by omega)]; exact h11
  · rw [up_ne (by omega)]; exact h13
  · rw [up_ne (by omega)]; exact h14
  · rw [up_ne (by omega)]; exact h17
  · rw [up_ne (by omega)]; exact a4
/-- the number of blocks -/
theorem GS_blk {s1 t1 t : iS} {p I C B p1 o1 w1 C1 lb B1 B2 : Nat} {l l1 : List itm} (g : GS R s0 t0 N q s1 t1 t p I C B l p1 o1 w1 C1 lb B1 l1) : GS R s0 t0 N q s1 (up t1 121 55 (B2 : Int)) t p I C B l p1 o1 w1 C1 lb B2 l1 := by
  obtain ⟨a1, a2, a3, a4, a5, a6, a7, a8, a9, a10, a11⟩ := g
  have PP : PS t1 (up t1 121 55 (B2 : Int)) (I + l1.length) C1 B := PS_up (by omega)
  exact ⟨LV_r a1 (SR_up a1.2.1 (by omega)) (fun j hj => up_ne (by omega)), a2, by rw [up_ne (by omega)]; exact a3, up_same _ _ _ _, a5, a6, a7, a8, a9, IMs_ps a10 PP (Nat.le_refl _) (Nat.le_refl _), PS_trans a11 PP (by omega) a7 (Nat.le_refl _)⟩
/-- where a jump goes to -/
theorem GS_hole {s1 t1 t : iS} {p I C B p1 o1 w1 C1 lb B1 hole : Nat} {x : Int} {l l1 : List itm} (g : GS R s0 t0 N q s1 t1 t p I C B l p1 o1 w1 C1 lb B1 l1) (hh : t1 144 hole = 15 ∨ t1 144 hole = 16) (hI : I ≤ hole) : GS R s0 t0 N q s1 (up t1 145 hole x) t p I C B l p1 o1 w1 C1 lb B1 l1 := by
  obtain ⟨a1, a2, a3, a4, a5, a6, a7, a8, a9, a10, a11⟩ := g
  exact ⟨LV_r a1 (SR_up a1.2.1 (by omega)) (fun j hj => up_ne (by omega)), a2, by rw [up_ne (by omega)]; exact a3, by rw [up_ne (by omega)]; exact a4, a5, a6, a7, a8, a9, IMs_hole a10 hh, PS_trans a11 (PS_upr (by omega)) (Nat.le_refl I) (Nat.le_refl C) (Nat.le_refl B)⟩
/-- a label, the jump to it, and the statement is done -/
theorem fin_lab (hR : RHE R b fv s0 N) (hS : RHS R b fv s0 N P) (hN2 : N ≤ 1001) {s1 t1 t : iS} {p I C B p1 o1 w1 C1 lb B1 hole lab : Nat} {l l1 : List itm} (g : GS R s0 t0 N q s1 t1 t p I C B l p1 o1 w1 C1 lb B1 l1) (hI : I ≤ 3 * p) (hlen : l1.length + 2 ≤ 3 * (p1 - p)) (hh : t1 144 hole = 15 ∨ t1 144 hole = 16) (hI2 : I ≤ hole) (hho : hole < I + l1.length) (hlab : lab < 1000) : ∃ s2 t2, prg_add 11 (lab : Int) 0 s1 = some (0, s2) ∧ m_ends_183 (lab : Int) 20 (hole : Int) t1 = some (0, t2) ∧ (t2 145 hole = ((I + l1.length : Nat) : Int) ∧ ∀ k, k ≠ hole → k < I + l1.length → t2 145 k = t1 145 k) ∧ GS R s0 t0 N q s2 t2 t p I C B l p1 o1 w1 C1 lb B1 (l1 ++ [(20, (lab : Int), 0, (p1 : Int))] ++ [(12, 0, 0, (p1 : Int))]) := by
  obtain ⟨h1, h2, h3, h4, h5, h6, h7, h8, h9, h10, h11, h12, h13, h14, h15, h16, h17⟩ := g.1
  obtain ⟨s2, f1, f2, f3⟩ := hS.2.2.2.2.2.2.2.2.2.2.1 _ s1 (p1 : Int) lab g.2.2.2.2.2.2.2.2.1 hlab
  have G1 := GS_add (a := 20) (b' := (lab : Int)) (c := 0) (d := (p1 : Int)) g f3 f2 (by omega) (by omega) hI
  have G2 := GS_hole (hole := hole) (x := ((I + l1.length : Nat) : Int)) G1 (by rw [adt_ne (by omega) (by omega)]; exact hh) hI2
  have G3 := GS_add0 (a := 12) (b' := 0) (c := 0) (d := (p1 : Int)) G2 (hS.2.2.2.2.2.2.2.2.2.2.2.2 _ _ _ G2.2.2.2.2.2.2.2.2.1) (by omega) (by rw [List.length_append]; show _ + 1 + 1 ≤ _; omega) hI
  refine ⟨s2, _, f1, ?_, ⟨by rw [adt_ne (by rw [List.length_append]; show _ ∨ _ ∨ _ ≠ I + (_ + 1); omega) (by omega), up_same], fun k z1 z2 => by rw [adt_ne (by rw [List.length_append]; show _ ∨ _ ∨ _ ≠ I + (_ + 1); omega) (by omega), up_ne (by omega), adt_ne (by omega) (by omega)]⟩, G3⟩
  have n33 := G2.1.2.2.2.2.2.2.2.2.2.2.2.2.1
  have n15 := G2.1.2.2.2.2.2.2.2.2.2.2.2.2.2.2.1
  have n10 := G2.1.2.2.2.1
  unfold m_ends_183 m_ends_192
  rw [h4, mad_ok h13 (by omega), bq, gd_pos (by omega), lt_eq, Int.toNat_natCast, n10, mad_ok n33 (by omega), bq]
/-- the outcome of a statement, in the loop of the reference -/
abbrev STO (R : List itm → iS → Prop) (b : Int) (s0 t0 : iS) (N : Nat) (P : Nat → Nat) (q : Int) (t : iS) (p w lb I C B : Nat) (l : List itm) (o : Nat) (cl : Option (Int × iS)) : Prop := (∃ s2 t2 p2 w2 C2 lb2 l2, cl = some (0, s2) ∧ lS 1 t = lS 1 t2 ∧ (p + 1 < p2 ∧ GY s0 t2 0 o I p w lb p2 w2 lb2 l2) ∧ lb2 + 2 ≤ p2 ∧ GS R s0 t0 N q s2 t2 t p I C B l p2 o w2 C2 lb2 B l2) ∨ (∃ t2, lS 1 t = some t2 ∧ DM 3400 b s0 t0 N P t t2 cl)
theorem R0_92 (h : TKR 0 F n N P s0 t0) {a c d e : Int} : R0 t0 N P (m_branch_92 a c d e) 1 := R0_bd (d1 := 1) (d2 := 0) (R0_T (R0_begins h)) R0_some
theorem R0_76 (h : TKR 0 F n N P s0 t0) {v1 a c d e f g : Int} (hv : b01 v1) : R0 t0 N P (m_branch_76 v1 a c d e f g) 2 := R0_bdr (d1 := 1) (d2 := 1) RT_ad (fun r => R0_if hv (R0_92 h) (R0_92 h))
set_option maxHeartbeats 4000000 in
theorem s_if (h : TKR 0 F n N P s0 t0) (hR : RHE R b fv s0 N) (hS : RHS R b fv s0 N P) {m : Nat} (hM : STM R b s0 t0 N P q m) {s t : iS} {p o w I C lb B : Nat} {l : List itm} (hL : LV s0 t0 N q s t p o w I C) (hl : R l s) (h7' : s 22 7 = (lb : Int)) (h50 : t 121 50 = (lb : Int)) (h55 : t 121 55 = (B : Int)) (ho : 2 ≤ o) (hB : B ≤ o) (hlb : lb + 2 ≤ p) (hfu : 3 * (25 - o) + 1 ≤ m) (hm : 1 ≤ m) (hk : s0 9 p = 273) : STO R b s0 t0 N P q t p w lb I C B l o (bd (prg_markNext (P p : Int) s) (fun _ s9 => trlS (m + 2) 1 0 0 0 (up s9 2 12 ((p + 1 : Nat) : Int)))) := by
  have hN2 := N1001 h
  have hL' := hL
  obtain ⟨h1, h2, h3, h4, h5, h6, h7, h8, h9, h10, h11, h12, h13, h14, h15, h16, h17⟩ := hL
  have hp1 := tkL h h5 (by omega)
  have g0 := GS_0 (B0 := B) hL' hl h7' h50 h55
  obtain ⟨sa, f1, f2, f3⟩ := hS.2.1 l s p hl h5 (Or.inr (Or.inl hk))
  have ga := GS_next hR g0 hp1
  have gb := GS_add (a := 11) (b' := 0) (c := 0) (d := (p : Int)) ga (MD_up2 f3) (by rw [List.append_nil]; exact (hR.1 _ _ _ f2).1) (by omega) (by show 0 + 1 ≤ _; omega) h15
  have M0 : m_statement t = m_statement_206 (p : Int) 0 (adt (up t 121 10 ((p + 1 : Nat) : Int)) (I + ([] : List itm).length) 11 0 0 (p : Int)) := by
    rw [mst_eq h h2 h4 h5 (Or.inr (Or.inr (Or.inl hk)))]
    simp only [if_neg (show ¬ s0 9 p = 271 by omega), if_neg (show ¬ s0 9 p = 272 by omega), if_neg (show ¬ s0 9 p = 276 by omega), if_neg (show ¬ s0 9 p = 275 by omega)]
    exact beg_r h g0
  rw [f1, bq, trlS_1]
  have gc := GS_lab (lb' := lb + 2) hR gb
  have b7 := gb.2.1
  have b50 := gb.2.2.1
  have b33 := gb.1.2.2.2.2.2.2.2.2.2.2.2.2.1
  generalize adt (up t 121 10 ((p + 1 : Nat) : Int)) (I + ([] : List itm).length) 11 0 0 (p : Int) = t8 at *
  generalize up sa 2 12 ((p + 1 : Nat) : Int) = s8 at *
  have M1 : m_statement t = bd (bd (m_openSign 40 (up t8 121 50 ((lb + 2 : Nat) : Int))) (fun _ s1 => bd (m_expression s1) (fun _ s2 => bd (m_closeSign 41 s2) (fun _ s3 => gd (rg 0) (if (0 : Int) = 0 then m_branch_76 0 (p : Int) (lb : Int) (up t8 121 50 ((lb + 2 : Nat) : Int) 121 33) (lb : Int) 0 15 s3 else m_branch_76 0 (p : Int) (lb : Int) (up t8 121 50 ((lb + 2 : Nat) : Int) 121 33) ((lb : Int) + 1) 0 15 s3))))) (fun _ s1 => some (0, s1)) := by
    rw [M0]
    unfold m_statement_206 m_branch m_branch_45
    rw [lt_eq, b50, gr (by omega), if_pos rfl]
    rfl
  have C1' : trl_readIf (trlS (m + 1)) s8 = bd (trl_readCondition (lb : Int) (up s8 22 7 ((lb + 2 : Nat) : Int))) (fun _ s2 => bd (trlS (m + 1) 2 0 0 0 s2) (fun _ s3 => bd (tok_kind s3) (fun r4 s4 => gd (rg r4) (if r4 = 274 then lt' (up s4 2 12 ((s4 2 12) + 1)) (fun s7 => bd (prg_add 12 ((lb : Int) + 1) 0 s7) (fun _ s8 => bd (prg_add 11 (lb : Int) 0 s8) (fun _ s9 => bd (trlS (m + 1) 2 0 0 0 s9) (fun _ s10 => bd (prg_add 11 ((lb : Int) + 1) 0 s10) (fun _ s11 => some (0, s11)))))) else bd (prg_add 11 (lb : Int) 0 s4) (fun _ s12 => some (0, s12)))))) := by
    unfold trl_readIf trl_takeLabels
    rw [lt_eq, b7, up_same, bq, show (lb : Int) + 2 - 2 = (lb : Int) by omega]
    rfl
  rw [C1']
  -- the class's rest behind a fault
  have CTr : CT s0 N (fun s3 => bd (tok_kind s3) (fun r4 s4 => gd (rg r4) (if r4 = 274 then lt' (up s4 2 12 ((s4 2 12) + 1)) (fun s7 => bd (prg_add 12 ((lb : Int) + 1) 0 s7) (fun _ s8 => bd (prg_add 11 (lb : Int) 0 s8) (fun _ s9 => bd (trlS (m + 1) 2 0 0 0 s9) (fun _ s10 => bd (prg_add 11 ((lb : Int) + 1) 0 s10) (fun _ s11 => some (0, s11)))))) else bd (prg_add 11 (lb : Int) 0 s4) (fun _ s12 => some (0, s12))))) := by
    intro s f u hf hd
    show ∃ r s', bd (tok_kind s) _ = some (r, s') ∧ _
    rw [cKD h hd.1 hd.2.1, bq, gr (by omega), if_neg (by omega), pad0 hd.2.2.2.2.2.1, bq]
    exact ⟨0, s, rfl, hd⟩
  have CTb : CT s0 N (trlS (m + 1) 2 0 0 0) := by
    obtain ⟨m', rfl⟩ : ∃ m', m = m' + 1 := ⟨m - 1, by omega⟩
    exact CT_bk h
  have KR : R0 t0 N P (fun s3 => gd (rg 0) (if (0 : Int) = 0 then m_branch_76 0 (p : Int) (lb : Int) (up t8 121 50 ((lb + 2 : Nat) : Int) 121 33) (lb : Int) 0 15 s3 else m_branch_76 0 (p : Int) (lb : Int) (up t8 121 50 ((lb + 2 : Nat) : Int) 121 33) ((lb : Int) + 1) 0 15 s3)) 2 := R0_if (Or.inl rfl) (R0_76 h (Or.inl rfl)) (R0_76 h (Or.inl rfl))
  have k125 : s0 9 p ≠ 125 := by omega
  rcases cond_ok (lab := lb) (at' := (p : Int)) h hR hS gc ho h15 (by omega) (by omega) KR (by omega) with ⟨s2, tc, p2, w2, C2, l2, e1, e2, e3, e4, e5, e6, e7⟩ | ⟨tx, e1, e2⟩
  case inr =>
    rw [e1, bq] at M1
    refine Or.inr ⟨tx, ?_, DM_mono (DM_c e2 (CT_bd CTb CTr)) (by omega)⟩
    rw [lS_st h h2 h6 h4 h5 k125 M1]
    obtain ⟨f, u, z1, z2, _⟩ := e2
    exact lS_dead (by have := z2.2.2.1; omega)
  rw [e2, gr (by omega), if_pos rfl] at M1
  unfold m_branch_76 m_branch_92 at M1
  have c5 := e5.1.2.2.2.2.1
  rw [mad_ok e4 (by omega), bq, gr (by omega), if_pos rfl] at M1
  rw [e1, bq]
  have n144 : adt tc (I + ([] ++ [(11, 0, 0, (p : Int))] ++ l2).length) 15 0 (lb : Int) (p : Int) 144 (I + ([] ++ [(11, 0, 0, (p : Int))] ++ l2).length) = 15 := adt_at.1
  have lx : ([] ++ [(11, 0, 0, (p : Int))] ++ l2 : List itm).length = l2.length + 1 := by simp
  generalize hlx : ([] ++ [(11, 0, 0, (p : Int))] ++ l2 : List itm) = lc at *
  generalize adt tc (I + lc.length) 15 0 (lb : Int) (p : Int) = td at *
  have M1' : m_statement t = bd (bd (m_begins 1 (lb : Int) ((I + lc.length : Nat) : Int) (up t8 121 50 ((lb + 2 : Nat) : Int) 121 33) td) (fun _ s1 => some (0, s1))) (fun _ s1 => some (0, s1)) := M1
  rcases blk_ok (so := 1) (lab := (lb : Int)) (hole := ((I + lc.length : Nat) : Int)) (fr := up t8 121 50 ((lb + 2 : Nat) : Int) 121 33) h hR hM e5 ho hB (Nat.le_refl _) (by omega) hfu hm with ⟨s3, tb, te, p3, w3, C3, lb3, l3, x1, x2, x3, x4, x5, x6, x7, x8, x9, x10, x11, x12⟩ | ⟨tb, ty, x1, x2, x3⟩
  case inr =>
    rw [x1, bq, bq] at M1'
    exact Or.inr ⟨ty, by rw [lS_st h h2 h6 h4 h5 k125 M1', x2], DM_c x3 CTr⟩
  rw [x2, bq, bq] at M1'
  have L0 := lS_st h h2 h6 h4 h5 k125 M1'
  rw [x1, bq]
  obtain ⟨i1, i2, i3, i4, i5, i6, i7, i8, i9, i10, i11, i12, i13, i14, i15, i16, i17⟩ := x11.1
  have kr3 := kRg h i5
  have gB := GS_blk (B2 := B) x11
  have e144 : te 144 (I + lc.length) = 15 := by rw [x10.2.1 144 (I + lc.length) (by omega) (by omega) (by rw [List.length_append]; show _ < _ + (_ + 1); omega)]; exact n144
  have r160 : up te 121 55 (B : Int) 160 B = 1 := by rw [up_ne (by omega)]; exact x6
  have r161 : up te 121 55 (B : Int) 161 B = (lb : Int) := by rw [up_ne (by omega)]; exact x7
  have r162 : up te 121 55 (B : Int) 162 B = ((I + lc.length : Nat) : Int) := by rw [up_ne (by omega)]; exact x8
  have ME : m_ends te = (if s0 9 p3 = 274 then bd (m_go (up te 121 55 (B : Int))) (fun _ s8 => bd (m_add 16 0 ((lb : Int) + 1) (s8 121 10) s8) (fun r9 s9 => bd (m_add 20 (lb : Int) 0 (s9 121 10) s9) (fun r10 s10 => gd (0 ≤ ((I + lc.length : Nat) : Int) ∧ ((I + lc.length : Nat) : Int) < 5000) (lt' (up s10 145 (I + lc.length) r10) (fun s12 => bd (m_begins 2 (lb : Int) r9 0 s12) (fun _ s13 => some (0, s13))))))) else m_ends_183 (lb : Int) 20 ((I + lc.length : Nat) : Int) (up te 121 55 (B : Int))) := by
    unfold m_ends m_ends_98
    rw [lt_eq, x11.2.2.2.1, show ((B + 1 : Nat) : Int) - 1 = (B : Int) by omega, up_same, gd_pos (by omega), Int.toNat_natCast, r160, gr (by omega), if_pos rfl, rW h (SR_up i2 (by omega)) (by rw [up_ne (by omega)]; exact i4) i5 (by omega), bq, r161, r162]
    by_cases z : s0 9 p3 = 274
    · rw [if_pos (by omega), if_pos z, gr (by omega), if_neg (by omega)]
      rfl
    · rw [if_neg (by omega), if_neg z, gr (by omega), if_pos rfl, up_same, gd_pos (by omega), Int.toNat_natCast, r160, gr (by omega), if_neg (by omega), if_neg (by omega)]
  rw [cK h i1 i3 i5, bq, gr (by omega)]
  have hlen3 : (lc ++ [(15, 0, (lb : Int), (p : Int))] ++ l3).length + 2 ≤ 3 * (p3 - p) := by
    rw [List.length_append, List.length_append]
    show _ + 1 + _ + 2 ≤ _
    omega
  have ho3 : I + lc.length < I + (lc ++ [(15, 0, (lb : Int), (p : Int))] ++ l3).length := by
    rw [List.length_append, List.length_append]
    show _ < I + (_ + 1 + _)
    omega
  by_cases kE : s0 9 p3 = 274
  case neg =>
    -- without else
    rw [if_neg kE] at ME ⊢
    obtain ⟨s4, t4, y1, y2, y2b, y3⟩ := fin_lab (hole := I + lc.length) (lab := lb) hR hS hN2 gB h15 hlen3 (by rw [up_ne (by omega)]; exact Or.inl e144) (by omega) ho3 (by omega)
    rw [y2] at ME
    refine Or.inl ⟨s4, t4, p3, w3, C3, lb3, _, by rw [y1, bq], by rw [L0, x3 _ _ ME], ⟨by omega, ?_⟩, x5, y3⟩
    obtain ⟨_, pc, u1, u2⟩ := e3
    obtain ⟨_, px, v1, v2⟩ := x4
    have le : (lc ++ [(15, 0, (lb : Int), (p : Int))] : List itm).length = l2.length + 2 := by rw [List.length_append, lx]; rfl
    have le2 : (lc ++ [(15, 0, (lb : Int), (p : Int))] ++ l3 : List itm).length = l2.length + 2 + l3.length := by rw [List.length_append, le]
    rw [u1, show pc + 1 + 1 = pc + 2 from rfl, le, ← Nat.add_assoc] at v2
    have g1 : GY s0 t4 1 (o + 1) (I + l2.length + 2) (pc + 2) w2 (lb + 2) px w3 lb3 l3 := GY_t v2 (fun k z1 z2 => by rw [y2b.2 k (by omega) (by omega), up_ne (by omega)])
    have g2 : t4 145 (I + l2.length + 1) = ((I + l2.length + 2 + l3.length : Nat) : Int) := by
      have := y2b.1
      rw [lx, le2, ← Nat.add_assoc, ← Nat.add_assoc, ← Nat.add_assoc] at this
      exact this
    rw [v1, ← hlx]
    exact .if1 o I p w lb pc w2 px w3 lb3 l2 l3 _ _ _ (by omega) u2 g1 g2
  -- with else
  rw [if_pos kE] at ME ⊢
  have hp3 := tkL h i5 (by omega)
  have gC := GS_next hR gB hp3
  obtain ⟨sj, y1, y2, y3⟩ := hS.2.2.2.2.2.2.2.2.2.1 _ _ 0 ((p3 + 1 : Nat) : Int) (lb + 1) gC.2.2.2.2.2.2.2.2.1 (by omega)
  have gD := GS_add (a := 16) (b' := 0) (c := ((lb + 1 : Nat) : Int)) (d := ((p3 + 1 : Nat) : Int)) gC y3 y2 (by omega) (by omega) h15
  obtain ⟨sk, y4, y5, y6⟩ := hS.2.2.2.2.2.2.2.2.2.2.1 _ _ ((p3 + 1 : Nat) : Int) lb gD.2.2.2.2.2.2.2.2.1 (by omega)
  have gE := GS_add (a := 20) (b' := (lb : Int)) (c := 0) (d := ((p3 + 1 : Nat) : Int)) gD y6 y5 (by omega) (by rw [List.length_append]; show _ + 1 + 1 ≤ _; omega) h15
  have q33 := gC.1.2.2.2.2.2.2.2.2.2.2.2.2.1
  have q10 := gC.1.2.2.2.1
  have q15 := gC.1.2.2.2.2.2.2.2.2.2.2.2.2.2.2.1
  have r33 := gD.1.2.2.2.2.2.2.2.2.2.2.2.2.1
  have r10 := gD.1.2.2.2.1
  have r15 := gD.1.2.2.2.2.2.2.2.2.2.2.2.2.2.2.1
  have gc144 : up (up te 121 55 (B : Int)) 121 10 ((p3 + 1 : Nat) : Int) 144 (I + lc.length) = 15 := by rw [up_ne (by omega), up_ne (by omega)]; exact e144
  have s312 : s3 2 12 = (p3 : Int) := i3
  rw [lt_eq, s312, show (p3 : Int) + 1 = ((p3 + 1 : Nat) : Int) by omega, show (lb : Int) + 1 = ((lb + 1 : Nat) : Int) by omega, y1, bq, y4, bq]
  rw [rGo (p := p3) (by rw [up_ne (by omega)]; exact i6) (by rw [up_ne (by omega)]; exact i4), bq, q10, show (lb : Int) + 1 = ((lb + 1 : Nat) : Int) by omega, mad_ok q33 (by omega), bq, r10, mad_ok r33 (by omega), bq, gd_pos (by omega), lt_eq] at ME
  have gF := GS_hole (hole := I + lc.length) (x := ((I + (lc ++ [(15, 0, (lb : Int), (p : Int))] ++ l3 ++ [(16, 0, ((lb + 1 : Nat) : Int), ((p3 + 1 : Nat) : Int))]).length : Nat) : Int)) gE (by rw [adt_ne (by rw [List.length_append]; show _ ∨ _ ∨ _ ≠ _ + (_ + 1); omega) (by omega), adt_ne (by omega) (by omega)]; exact Or.inl gc144) (by omega)
  have n16 : up (adt (adt (up (up te 121 55 (B : Int)) 121 10 ((p3 + 1 : Nat) : Int)) (I + (lc ++ [(15, 0, (lb : Int), (p : Int))] ++ l3).length) 16 0 ((lb + 1 : Nat) : Int) ((p3 + 1 : Nat) : Int)) (I + (lc ++ [(15, 0, (lb : Int), (p : Int))] ++ l3 ++ [(16, 0, ((lb + 1 : Nat) : Int), ((p3 + 1 : Nat) : Int))]).length) 20 (lb : Int) 0 ((p3 + 1 : Nat) : Int)) 145 (I + lc.length) ((I + (lc ++ [(15, 0, (lb : Int), (p : Int))] ++ l3 ++ [(16, 0, ((lb + 1 : Nat) : Int), ((p3 + 1 : Nat) : Int))]).length : Nat) : Int) 144 (I + (lc ++ [(15, 0, (lb : Int), (p : Int))] ++ l3).length) = 16 := by
    rw [up_ne (by omega), adt_ne (by rw [List.length_append (as := lc ++ [(15, 0, (lb : Int), (p : Int))] ++ l3)]; show _ ∨ _ ∨ _ ≠ I + (_ + 1); omega) (by omega)]
    exact adt_at.1
  have n145 : up (adt (adt (up (up te 121 55 (B : Int)) 121 10 ((p3 + 1 : Nat) : Int)) (I + (lc ++ [(15, 0, (lb : Int), (p : Int))] ++ l3).length) 16 0 ((lb + 1 : Nat) : Int) ((p3 + 1 : Nat) : Int)) (I + (lc ++ [(15, 0, (lb : Int), (p : Int))] ++ l3 ++ [(16, 0, ((lb + 1 : Nat) : Int), ((p3 + 1 : Nat) : Int))]).length) 20 (lb : Int) 0 ((p3 + 1 : Nat) : Int)) 145 (I + lc.length) ((I + (lc ++ [(15, 0, (lb : Int), (p : Int))] ++ l3 ++ [(16, 0, ((lb + 1 : Nat) : Int), ((p3 + 1 : Nat) : Int))]).length : Nat) : Int) 145 (I + lc.length) = ((I + (lc ++ [(15, 0, (lb : Int), (p : Int))] ++ l3 ++ [(16, 0, ((lb + 1 : Nat) : Int), ((p3 + 1 : Nat) : Int))]).length : Nat) : Int) := up_same _ _ _ _
  have nk : ∀ k, k ≠ I + lc.length → k < I + (lc ++ [(15, 0, (lb : Int), (p : Int))] ++ l3).length → up (adt (adt (up (up te 121 55 (B : Int)) 121 10 ((p3 + 1 : Nat) : Int)) (I + (lc ++ [(15, 0, (lb : Int), (p : Int))] ++ l3).length) 16 0 ((lb + 1 : Nat) : Int) ((p3 + 1 : Nat) : Int)) (I + (lc ++ [(15, 0, (lb : Int), (p : Int))] ++ l3 ++ [(16, 0, ((lb + 1 : Nat) : Int), ((p3 + 1 : Nat) : Int))]).length) 20 (lb : Int) 0 ((p3 + 1 : Nat) : Int)) 145 (I + lc.length) ((I + (lc ++ [(15, 0, (lb : Int), (p : Int))] ++ l3 ++ [(16, 0, ((lb + 1 : Nat) : Int), ((p3 + 1 : Nat) : Int))]).length : Nat) : Int) 145 k = te 145 k := fun k z1 z2 => by
    rw [up_ne (by omega), adt_ne (by rw [List.length_append (as := lc ++ [(15, 0, (lb : Int), (p : Int))] ++ l3)]; show _ ∨ _ ∨ _ ≠ I + (_ + 1); omega) (by omega), adt_ne (by omega) (by omega), up_ne (by omega), up_ne (by omega)]
  have l16 : (lc ++ [(15, 0, (lb : Int), (p : Int))] ++ l3 ++ [(16, 0, ((lb + 1 : Nat) : Int), ((p3 + 1 : Nat) : Int))] : List itm).length = l2.length + 2 + l3.length + 1 := by rw [List.length_append, List.length_append, List.length_append, lx]; rfl
  have l15 : (lc ++ [(15, 0, (lb : Int), (p : Int))] ++ l3 : List itm).length = l2.length + 2 + l3.length := by rw [List.length_append, List.length_append, lx]; rfl
  have l14 : (lc ++ [(15, 0, (lb : Int), (p : Int))] : List itm).length = l2.length + 2 := by rw [List.length_append, lx]; rfl
  generalize up (adt (adt (up (up te 121 55 (B : Int)) 121 10 ((p3 + 1 : Nat) : Int)) (I + (lc ++ [(15, 0, (lb : Int), (p : Int))] ++ l3).length) 16 0 ((lb + 1 : Nat) : Int) ((p3 + 1 : Nat) : Int)) (I + (lc ++ [(15, 0, (lb : Int), (p : Int))] ++ l3 ++ [(16, 0, ((lb + 1 : Nat) : Int), ((p3 + 1 : Nat) : Int))]).length) 20 (lb : Int) 0 ((p3 + 1 : Nat) : Int)) 145 (I + lc.length) ((I + (lc ++ [(15, 0, (lb : Int), (p : Int))] ++ l3 ++ [(16, 0, ((lb + 1 : Nat) : Int), ((p3 + 1 : Nat) : Int))]).length : Nat) : Int) = tg at *
  have lE : (lc ++ [(15, 0, (lb : Int), (p : Int))] ++ l3 ++ [(16, 0, ((lb + 1 : Nat) : Int), ((p3 + 1 : Nat) : Int))] ++ [(20, (lb : Int), 0, ((p3 + 1 : Nat) : Int))]).length = (lc ++ [(15, 0, (lb : Int), (p : Int))] ++ l3).length + 2 := by simp; omega
  generalize hlf : lc ++ [(15, 0, (lb : Int), (p : Int))] ++ l3 ++ [(16, 0, ((lb + 1 : Nat) : Int), ((p3 + 1 : Nat) : Int))] ++ [(20, (lb : Int), 0, ((p3 + 1 : Nat) : Int))] = lf at *
  generalize hjm : I + (lc ++ [(15, 0, (lb : Int), (p : Int))] ++ l3).length = jm at *
  have CTe : CT s0 N (fun s10 => bd (prg_add 11 ((lb + 1 : Nat) : Int) 0 s10) (fun _ s11 => some (0, s11))) := CT_bd (CT_pa (a := 11) (b := ((lb + 1 : Nat) : Int)) (c := 0)) (CT_some (v := 0))
  rcases blk_ok (so := 2) (lab := (lb : Int)) (hole := (jm : Int)) (fr := 0) h hR hM gF ho hB (Nat.le_refl _) (by omega) hfu hm with ⟨s5, tb2, te2, p5, w5, C5, lb5, l5, z1, z2, z3, z4, z5, z6, z7, z8, z9, z10, z11, z12⟩ | ⟨tb2, ty, z1, z2, z3⟩
  case inr =>
    rw [z1, bq] at ME
    exact Or.inr ⟨ty, by rw [L0, x3 _ _ ME, z2], DM_c z3 CTe⟩
  rw [z2, bq] at ME
  rw [z1, bq]
  obtain ⟨j1, j2, j3, j4, j5, j6, j7, j8, j9, j10, j11, j12, j13, j14, j15, j16, j17⟩ := z11.1
  have gH := GS_blk (B2 := B) z11
  have f144 : te2 144 jm = 16 := by rw [z10.2.1 144 jm (by omega) (by omega) (by omega)]; exact n16
  have ME2 : m_ends te2 = m_ends_183 (((lb + 1 : Nat) : Int)) 20 (jm : Int) (up te2 121 55 (B : Int)) := by
    have v160 : up te2 121 55 (B : Int) 160 B = 2 := by rw [up_ne (by omega)]; exact z6
    have v161 : up te2 121 55 (B : Int) 161 B = (lb : Int) := by rw [up_ne (by omega)]; exact z7
    have v162 : up te2 121 55 (B : Int) 162 B = (jm : Int) := by rw [up_ne (by omega)]; exact z8
    unfold m_ends m_ends_98
    rw [lt_eq, z11.2.2.2.1, show ((B + 1 : Nat) : Int) - 1 = (B : Int) by omega, up_same, gd_pos (by omega), Int.toNat_natCast, v160, gr (by omega), if_neg (by omega), v161, v162, gd_pos (by omega), gr (by omega), if_neg (by omega), if_pos rfl]
    rfl
  obtain ⟨s6, t6, y7, y8, y8b, y9⟩ := fin_lab (hole := jm) (lab := lb + 1) hR hS hN2 gH h15 (by rw [List.length_append]; omega) (by rw [up_ne (by omega)]; exact Or.inr f144) (by omega) (by rw [List.length_append]; omega) (by omega)
  rw [y8] at ME2
  refine Or.inl ⟨s6, t6, p5, w5, C5, lb5, _, by rw [y7, bq], by rw [L0, x3 _ _ ME, z3 _ _ ME2], ⟨by omega, ?_⟩, z5, y9⟩
  obtain ⟨_, pc, u1, u2⟩ := e3
  obtain ⟨_, px, v1, v2⟩ := x4
  obtain ⟨_, py, v3, v4⟩ := z4
  have lf' : lf.length = l2.length + l3.length + 4 := by rw [lE, l15]; omega
  have lg : (lf ++ l5).length = l2.length + l3.length + 4 + l5.length := by rw [List.length_append, lf']
  have jm' : jm = I + l2.length + l3.length + 2 := by rw [← hjm, l15]; omega
  rw [u1, show pc + 1 + 1 = pc + 2 from rfl, l14, ← Nat.add_assoc] at v2
  rw [v1, show px + 1 + 1 + 1 = px + 3 from rfl, lf', show I + (l2.length + l3.length + 4) = I + l2.length + l3.length + 4 by omega] at v4
  have k2 : ∀ k, k < I + lf.length → te2 145 k = tg 145 k := fun k z => z10.2.1 145 k (by omega) (by omega) z
  have g1 : GY s0 t6 1 (o + 1) (I + l2.length + 2) (pc + 2) w2 (lb + 2) px w3 lb3 l3 := GY_t v2 (fun k z1 z2 => by rw [y8b.2 k (by omega) (by omega), up_ne (by omega), k2 k (by omega), nk k (by omega) (by omega)])
  have g2 : GY s0 t6 1 (o + 1) (I + l2.length + l3.length + 4) (px + 3) w3 lb3 py w5 lb5 l5 := GY_t v4 (fun k z1 z2 => by rw [y8b.2 k (by omega) (by omega), up_ne (by omega)])
  have g3 : t6 145 (I + l2.length + 1) = ((I + l2.length + l3.length + 3 : Nat) : Int) := by
    rw [y8b.2 _ (by omega) (by omega), up_ne (by omega), k2 _ (by omega), show I + l2.length + 1 = I + lc.length by omega, n145, l16]
    congr 1
    omega
  have g4 : t6 145 (I + l2.length + l3.length + 2) = ((I + l2.length + l3.length + 4 + l5.length : Nat) : Int) := by
    have := y8b.1
    rw [jm', lg] at this
    rw [this]
    congr 1
    omega
  rw [v3, ← hlf, ← hlx]
  exact .if2 o I p w lb pc w2 px w3 lb3 py w5 lb5 l2 l3 l5 _ _ _ _ _ (by omega) u2 g1 g2 g3 g4
end STh
