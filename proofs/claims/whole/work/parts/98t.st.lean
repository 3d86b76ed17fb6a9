/-! statements: let, do, return from their words on -/
section STd
variable {F : Nat → Int} {n N : Nat} {P : Nat → Nat} {s0 t0 : iS} {R : List itm → iS → Prop} {b q : Int} {fv : Nat → Int}
theorem mk_eq {x : Int} {s : iS} : prg_markNext x s = some (0, up s 14 12 x) := by
  unfold prg_markNext
  rw [lt_eq]
theorem SBo_up {s : iS} {c k : Nat} {x : Int} (h : SBo s) (hc : ¬ (c = 33 ∧ k = 2) ∧ ¬ (c = 24 ∧ k = 2) ∧ ¬ (c = 27 ∧ k = 2) ∧ ¬ (c = 23 ∧ k = 15)) : SBo (up s c k x) := by
  unfold SBo at h ⊢
  rw [up_ne (by omega), up_ne (by omega), up_ne (by omega), up_ne (by omega)]
  exact h
/-- the begin of a let whose name is wanting: the class alone, in its first reading -/
theorem let_noname (h : TKR 0 F n N P s0 t0) {s1 : iS} {p1 : Nat} {x f : Int} (hf : f = if s0 9 (p1 + 1) = 2 then 2 else 1) (h1 : SC s0 s1) (hp : p1 + 1 < N) (k3 : s0 9 (p1 + 1) ≠ 3) (h4 : s1 22 4 = 0) (h7 : s1 14 7 = 0) (h13 : s1 2 13 = 0) (hb : SBo s1) : ∃ r s', bd (prg_markNext x s1) (fun _ s9 => trl_readLet (up s9 2 12 ((p1 + 1 : Nat) : Int))) = some (r, s') ∧ CD s0 N s' f (p1 + 1) := by
  have hN2 := N1001 h
  have hs : SC s0 (up (up s1 14 12 x) 2 12 ((p1 + 1 : Nat) : Int)) := SC_up (SC_up h1 (by omega)) (by omega)
  have b1 : SBo (up (up s1 14 12 x) 2 12 ((p1 + 1 : Nat) : Int)) := SBo_up (SBo_up hb (by omega)) (by omega)
  have z4 : up (up s1 14 12 x) 2 12 ((p1 + 1 : Nat) : Int) 22 4 = 0 := by rw [up_ne (by omega), up_ne (by omega)]; exact h4
  have z7 : up (up s1 14 12 x) 2 12 ((p1 + 1 : Nat) : Int) 14 7 = 0 := by rw [up_ne (by omega), up_ne (by omega)]; exact h7
  have z13 : up (up s1 14 12 x) 2 12 ((p1 + 1 : Nat) : Int) 2 13 = 0 := by rw [up_ne (by omega), up_ne (by omega)]; exact h13
  have z12 : up (up s1 14 12 x) 2 12 ((p1 + 1 : Nat) : Int) 2 12 = ((p1 + 1 : Nat) : Int) := up_same _ _ _ _
  have z8 : 0 ≤ up (up s1 14 12 x) 2 12 ((p1 + 1 : Nat) : Int) 2 8 ∧ up (up s1 14 12 x) 2 12 ((p1 + 1 : Nat) : Int) 2 8 ≤ 2001 := by rw [hs.2.2.2.2.2.2.1, h.2.2.2.1]; omega
  rw [mk_eq, bq]
  generalize up (up s1 14 12 x) 2 12 ((p1 + 1 : Nat) : Int) = s at *
  obtain ⟨v, v1, v2⟩ := fv_tot (j := ((p1 + 1 : Nat) : Int)) z8 b1 ⟨by omega, by omega⟩
  have ff : ft f (p1 + 1) N := ⟨by rw [hf]; split <;> omega, hp⟩
  have zd := stp_CD (N := N) (p := p1 + 1) (f := f) hs z4 z7 b1
  unfold trl_readLet trl_readLet_49
  rw [z12, v1, bq, cv0 z4, bq, cEx0 h hs z13 z12 hp (by omega) k3, bq, ← hf, cKD h zd.1 zd.2.1, bq, gr (by omega), if_neg (by omega), gr (by omega), if_pos rfl]
  unfold trl_readLet_64
  exact CT_bd (CT_ex (c := 61) h (by omega)) (CT_bd (CT_xp (m := 148) h) (CT_bd (CT_ex (c := 59) h (by omega)) (CT_if (v := 0) (Or.inl rfl) (CT_bd (CT_av (k := 1) v2) (CT_some (v := 0))) (CT_bd (CT_pa (a := 1) (b := 7) (c := 0)) (CT_bd (CT_pa (a := 1) (b := 6) (c := 1)) (CT_bd (CT_pa (a := 0) (b := 7) (c := 0)) (CT_bd (CT_pa (a := 1) (b := 5) (c := 0)) (CT_some (v := 0))))))))) _ f (p1 + 1) ff zd
theorem s_let (h : TKR 0 F n N P s0 t0) (hR : RHE R b fv s0 N) (hS : RHS R b fv s0 N P) {s1 t1 t : iS} {p I C B p1 o1 w1 C1 lb B1 : Nat} {l l1 : List itm} (g : GS R s0 t0 N q s1 t1 t p I C B l p1 o1 w1 C1 lb B1 l1) (ho : 2 ≤ o1) (hI : I ≤ 3 * p) (hk : s0 9 p1 = 271) : SOUT R b s0 t0 N P q t t1 p I C B l p1 o1 w1 lb B1 l1 (bd (prg_markNext (P p1 : Int) s1) (fun _ s9 => trl_readLet (up s9 2 12 ((p1 + 1 : Nat) : Int)))) (m_statement t1) := by
  have hN2 := N1001 h
  have g' := g
  obtain ⟨a1, a2, a3, a4, a5, a6, a7, a8, a9, a10, a11⟩ := g
  have a1' := a1
  obtain ⟨h1, h2, h3, h4, h5, h6, h7, h8, h9, h10, h11, h12, h13, h14, h15, h16, h17⟩ := a1
  have hp1 := tkL h h5 (by omega)
  have kr1 := kRg h hp1
  have M0 : m_statement t1 = bd (m_let (adt (up t1 121 10 ((p1 + 1 : Nat) : Int)) (I + l1.length) 11 0 0 (p1 : Int))) (fun _ s10 => m_statement_211 (p1 : Int) s10) := by
    rw [mst_eq h h2 h4 h5 (Or.inl hk)]
    simp only [if_pos hk]
    exact beg_r h g'
  have ga := GS_next hR g' hp1
  by_cases k3 : s0 9 (p1 + 1) = 3
  case neg =>
    -- no name
    have ha := LV_adt (a := 11) (b' := 0) (c := 0) (d := (p1 : Int)) ga.1 (by omega)
    obtain ⟨d1, d2, d3, d4, d5, d6, d7, d8, d9, d10, d11, d12, d13, d14, d15, d16, d17⟩ := ha
    have Px : PS t (adt (up t1 121 10 ((p1 + 1 : Nat) : Int)) (I + l1.length) 11 0 0 (p1 : Int)) 0 0 0 := PS0_trans (PS_0 ga.2.2.2.2.2.2.2.2.2.2) (PS_PG (K := 0) (PG_adt (Nat.zero_le _)))
    rw [M0]
    generalize adt (up t1 121 10 ((p1 + 1 : Nat) : Int)) (I + l1.length) 11 0 0 (p1 : Int) = t8 at *
    have k := tkK h hp1
    rw [if_pos rfl] at k
    have hf : (if s0 9 (p1 + 1) = 2 then (2 : Int) else 1) = 1 ∨ (if s0 9 (p1 + 1) = 2 then (2 : Int) else 1) = 2 := by split <;> omega
    have RDx : RD t0 N P (flt t8 (if s0 9 (p1 + 1) = 2 then 2 else 1) P (p1 + 1)) (if s0 9 (p1 + 1) = 2 then 2 else 1) (p1 + 1) 3010 := flt_RD d2 d4 d5 d13 (by omega) (by omega)
    have D : DM 3010 b s0 t0 N P t (flt t8 (if s0 9 (p1 + 1) = 2 then 2 else 1) P (p1 + 1)) (bd (prg_markNext (P p1 : Int) s1) (fun _ s9 => trl_readLet (up s9 2 12 ((p1 + 1 : Nat) : Int)))) := by
      refine ⟨_, p1 + 1, ⟨hf, hp1⟩, RDx, PS0_trans Px (PS_PG (K := 0) flt_PG), fun hb => ?_⟩
      obtain ⟨y1, y2, y3⟩ := hR.2.1 _ s1 a9
      obtain ⟨y4, y5⟩ := y3 hb
      exact let_noname h rfl h1 hp1 k3 (by rw [y1, hb]) y5 y4 y2
    have e59 : ∃ v2, b01 v2 ∧ m_let t8 = m_let_59 0 v2 (flt t8 (if s0 9 (p1 + 1) = 2 then 2 else 1) P (p1 + 1)) := by
      unfold m_let m_needName m_needName_24
      rw [d4, gd_pos (by omega), Int.toNat_natCast, d2.2.1, gr (by omega), if_neg (by omega), rSy h d2 d6 d4 d5, bq, flt_11, gr (by omega), if_neg (by omega), bq, rS h (flt_SR d2) (by rw [flt_ne (by omega)]; exact d4) d5 (by omega), bq]
      by_cases z : s0 9 (p1 + 1) = 91
      · exact ⟨1, Or.inr rfl, by rw [if_pos z, gr (by omega), if_neg (by omega), flt_11, gr (by omega), if_neg (by omega)]⟩
      · exact ⟨0, Or.inl rfl, by rw [if_neg z, gr (by omega), if_pos rfl]⟩
    obtain ⟨v2, hv2, e59⟩ := e59
    rw [e59]
    unfold m_let_59
    obtain ⟨t3, f1, f2⟩ := DM_0 D (R0_bd (d1 := 1) (R0_T (R0_bd (d1 := 0) (RT_ns (c := 61) h (by omega)) (R0_bd (d1 := 0) RT_xp (R0_bd (d1 := 0) (RT_ns (c := 59) h (by omega)) (R0_if hv2 (R0_87 (v := 0) (k := 13)) (R0_87 (v := 0) (k := 14))))))) (R0_211 (v := (p1 : Int)))) (by omega)
    exact Or.inr ⟨t3, f1, DM_mono f2 (by omega)⟩
  have hp2 := tkL h hp1 (by omega)
  have kr2 := kRg h hp2
  obtain ⟨sa, sb, f1, f2, f3, f4, f5⟩ := hS.2.2.1 (l ++ l1) s1 p1 a9 h1 hp1 hk k3
  -- the item of the begin; the name
  have gb := GS_add (a := 11) (b' := 0) (c := 0) (d := (p1 : Int)) ga f5 f4 (by omega) (by omega) hI
  have gc := GS_next hR gb hp2
  have C0 : bd (prg_markNext (P p1 : Int) s1) (fun _ s9 => trl_readLet (up s9 2 12 ((p1 + 1 : Nat) : Int))) = bd (tok_expect 3 sb) (fun _ s3 => bd (tok_kind s3) (fun r4 s4 => gd (rg r4) (if r4 = 91 then trl_readLet_49 (fv (p1 + 1)) 1 s4 else trl_readLet_49 (fv (p1 + 1)) 0 s4))) := by
    rw [f1, bq]
    unfold trl_readLet
    rw [up_same, f2, bq, up_same, f3, bq]
  rw [C0, M0]
  obtain ⟨d1, d2, d3, d4, d5, d6, d7, d8, d9, d10, d11, d12, d13, d14, d15, d16, d17⟩ := gb.1
  have k := tkK h hp1
  rw [if_pos rfl] at k
  have L0 : m_let (adt (up t1 121 10 ((p1 + 1 : Nat) : Int)) (I + l1.length) 11 0 0 (p1 : Int)) = bd (m_isSign 91 (up (adt (up t1 121 10 ((p1 + 1 : Nat) : Int)) (I + l1.length) 11 0 0 (p1 : Int)) 121 10 ((p1 + 1 + 1 : Nat) : Int))) (fun r2 s2 => gd (rg r2) (if r2 = 0 then m_let_59 ((p1 + 1 : Nat) : Int) r2 s2 else gd (rg (s2 121 11)) (if (s2 121 11) = 0 then bd (m_add 4 0 0 ((p1 + 1 : Nat) : Int) s2) (fun r7 s7 => bd (m_openSign 91 s7) (fun _ s8 => bd (m_expression s8) (fun _ s9 => bd (m_closeSign 93 s9) (fun _ s10 => bd (m_add 6 43 0 ((p1 + 1 : Nat) : Int) s10) (fun r11 s11 => m_let_59 ((p1 + 1 : Nat) : Int) r2 s11))))) else m_let_59 ((p1 + 1 : Nat) : Int) r2 s2))) := by
    unfold m_let m_needName m_needName_24
    rw [d4, gd_pos (by omega), Int.toNat_natCast, d2.2.1, gr (by omega), if_pos (by omega), rGo d6 d4, bq, up_ne (show ¬ (121 = 121 ∧ 11 = 10) by omega), d6, gr (by omega), if_pos rfl, up_same, show ((p1 + 1 + 1 : Nat) : Int) - 1 = ((p1 + 1 : Nat) : Int) by omega, bq]
  rw [L0, cEx h d1 d3 hp1 (by omega) k3, bq]
  have hin : (11, 0, 0, (p1 : Int)) ∈ l ++ (l1 ++ [(11, 0, 0, (p1 : Int))]) := by simp
  generalize up (adt (up t1 121 10 ((p1 + 1 : Nat) : Int)) (I + l1.length) 11 0 0 (p1 : Int)) 121 10 ((p1 + 1 + 1 : Nat) : Int) = tc at *
  generalize up sb 2 12 ((p1 + 1 + 1 : Nat) : Int) = sc at *
  obtain ⟨c1, c2, c3, c4, c5, c6, c7, c8, c9, c10, c11, c12, c13, c14, c15, c16, c17⟩ := gc.1
  rw [rS h c2 c4 c5 (by omega), bq, cK h c1 c3 c5, bq, gr (show -2147483648 ≤ s0 9 (p1 + 1 + 1) ∧ s0 9 (p1 + 1 + 1) ≤ 2147483647 by omega)]
  unfold trl_readLet_49
  by_cases k91 : s0 9 (p1 + 1 + 1) = 91
  case neg =>
    rw [if_neg k91, if_neg k91, gr (by omega), if_pos rfl, gr (by omega), if_pos rfl]
    rcases let_tail (j := p1) (v2 := 0) h hR hS gc ho hI (by omega) hin hk k3 (Or.inl rfl) with ⟨s2, t2, p2, w2, C2, l2, e1, e2, e3, e4⟩ | ⟨t2, e1, e2⟩
    · exact Or.inl ⟨s2, t2, p2, w2, C2, [(11, 0, 0, (p1 : Int))] ++ l2, e1, e2, ⟨by omega, by obtain ⟨_, px, lx, z1, z2, z3⟩ := e3; rw [z1, z3, if_pos rfl]; exact .let1 _ _ _ _ _ _ _ _ _ hk k3 z2⟩, by rw [← List.append_assoc]; exact e4⟩
    · exact Or.inr ⟨t2, e1, DM_mono e2 (by omega)⟩
  -- an index
  rw [if_pos k91, if_pos k91, gr (by omega), if_neg (by omega), c6, gr (by omega), if_pos rfl, gr (by omega), if_neg (by omega)]
  obtain ⟨sd, f6, f7, f8⟩ := hS.2.2.2.1 (l ++ (l1 ++ [(11, 0, 0, (p1 : Int))])) sc p1 gc.2.2.2.2.2.2.2.2.1 c1 hin hp1 hk k3
  have gd' := GS_add (a := 4) (b' := 0) (c := 0) (d := ((p1 + 1 : Nat) : Int)) gc f8 f7 (by omega) (by rw [List.length_append]; show _ + 1 + 1 ≤ _; omega) hI
  rw [f6, bq, mad_ok c13 (by omega), bq, trlE_0]
  unfold trl_readIndex
  have hvr : -1 ≤ fv (p1 + 1) ∧ fv (p1 + 1) < 48 := (hR.2.2.2.2.2.2.1 _ sc (p1 + 1) gc.2.2.2.2.2.2.2.2.1 c1 hp1 k3).2
  have C64 : CT s0 N (trl_readLet_64 (fv (p1 + 1)) 1) := CT_bd (CT_ex (c := 61) h (by omega)) (CT_bd (CT_xp (m := 148) h) (CT_bd (CT_ex (c := 59) h (by omega)) (CT_if (v := 1) (Or.inr rfl) (CT_bd (CT_av (k := 1) hvr) (CT_some (v := 0))) (CT_bd (CT_pa (a := 1) (b := 7) (c := 0)) (CT_bd (CT_pa (a := 1) (b := 6) (c := 1)) (CT_bd (CT_pa (a := 0) (b := 7) (c := 0)) (CT_bd (CT_pa (a := 1) (b := 5) (c := 0)) (CT_some (v := 0)))))))))
  have R59 : R0 t0 N P (m_let_59 ((p1 + 1 : Nat) : Int) 1) 1 := R0_bd (d1 := 0) (RT_ns (c := 61) h (by omega)) (R0_bd (d1 := 0) RT_xp (R0_bd (d1 := 0) (RT_ns (c := 59) h (by omega)) (R0_if (v := 1) (Or.inr rfl) (R0_87 (v := ((p1 + 1 : Nat) : Int)) (k := 13)) (R0_87 (v := ((p1 + 1 : Nat) : Int)) (k := 14)))))
  -- [
  rcases g_open h hR gd' (c := 91) (by omega) with ⟨hp3, ho3, e1, e2⟩ | ⟨t2, e1, e2⟩
  case inr =>
    obtain ⟨t3, y1, y2⟩ := DM_0 (DM_c (DM_c e2 (CT_bd (CT_xp (m := 147) h) (CT_bd (CT_ex (c := 93) h (by omega)) (CT_up5 (CT_bd (CT_pa (a := 2) (b := 0) (c := 0)) (CT_some (v := 0))))))) C64) (R0_bd (d1 := 3) (R0_T (R0_bd (d1 := 0) RT_xp (R0_bd (d1 := 1) (RT_cs (c := 93) h (by omega)) (R0_bd (d1 := 1) (RT_ad (a := 6) (b := 43) (c := 0) (d := ((p1 + 1 : Nat) : Int))) R59)))) (R0_211 (v := (p1 : Int)))) (by omega)
    exact Or.inr ⟨t3, by rw [e1, bq]; exact y1, DM_mono y2 (by omega)⟩
  rw [e1, bq, e2, bq]
  have ge := GS_open hR gd' hp3 ho3
  -- e
  rcases x_top (m := 149) h hR ge (by omega) with ⟨s2, t2, p2, w2, C2, l2, x1, x2, x3, x4, x5, x6⟩ | ⟨t2, x1, x2⟩
  case inr =>
    obtain ⟨t3, y1, y2⟩ := DM_0 (M := 3200) (DM_c (DM_c x2 (CT_bd (CT_ex (c := 93) h (by omega)) (CT_up5 (CT_bd (CT_pa (a := 2) (b := 0) (c := 0)) (CT_some (v := 0)))))) C64) (R0_bd (d1 := 3) (R0_T (R0_bd (d1 := 1) (RT_cs (c := 93) h (by omega)) (R0_bd (d1 := 1) (RT_ad (a := 6) (b := 43) (c := 0) (d := ((p1 + 1 : Nat) : Int))) R59))) (R0_211 (v := (p1 : Int)))) (by omega)
    exact Or.inr ⟨t3, by rw [x1, bq]; exact y1, DM_mono y2 (by omega)⟩
  rw [x1, bq, x2, bq]
  -- ]
  rcases g_close h hR x5 (c := 93) (by omega) with ⟨k93, hp4, z1, z2⟩ | ⟨t3, z1, z2⟩
  case inr =>
    obtain ⟨t4, y1, y2⟩ := DM_0 (DM_c (z2 _ (CT_bd (CT_pa (a := 2) (b := 0) (c := 0)) (CT_some (v := 0)))) C64) (R0_bd (d1 := 2) (R0_T (R0_bd (d1 := 1) (RT_ad (a := 6) (b := 43) (c := 0) (d := ((p1 + 1 : Nat) : Int))) R59)) (R0_211 (v := (p1 : Int)))) (by omega)
    exact Or.inr ⟨t4, by rw [z1, bq]; exact y1, DM_mono y2 (by omega)⟩
  have gf := GS_close hR x5 hp4
  rw [z1 (fun s4 => bd (prg_add 2 0 0 s4) (fun _ s5 => some (0, s5))), z2, bq]
  have e43 : ∀ s, trl_addOperator 43 s = bd (prg_add 2 0 0 s) (fun _ s5 => some (0, s5)) := fun s => by
    unfold trl_addOperator
    rw [gr (by omega), if_neg (by omega), if_neg (by omega), if_pos rfl]
  obtain ⟨s5, y1, y2, y3⟩ := hR.2.2.2.2.2.2.2.2.2.1 _ _ 43 ((p1 + 1 : Nat) : Int) gf.2.2.2.2.2.2.2.2.1 (by decide)
  have gg := GS_add (a := 6) (b' := 43) (c := 0) (d := ((p1 + 1 : Nat) : Int)) gf y3 y2 (by omega) (by have := x5.2.2.2.2.2.1; rw [List.length_append, List.length_append, List.length_append] at this; simp only [List.length_append, List.length_cons, List.length_nil] at this ⊢; omega) hI
  have f13 := gf.1.2.2.2.2.2.2.2.2.2.2.2.2.1
  have f15 := gf.1.2.2.2.2.2.2.2.2.2.2.2.2.2.2.1
  rw [← e43, y1, bq, mad_ok f13 (by omega), bq]
  rcases let_tail (j := p1) (v2 := 1) h hR hS gg ho hI (by omega) (by simp) hk k3 (Or.inr rfl) with ⟨s3, t3, p3, w3, C3, l3, u1, u2, u3, u4⟩ | ⟨t3, u1, u2⟩
  · exact Or.inl ⟨s3, t3, p3, w3, C3, [(11, 0, 0, (p1 : Int))] ++ ([(4, 0, 0, ((p1 + 1 : Nat) : Int))] ++ (l2 ++ ([(6, 43, 0, ((p1 + 1 : Nat) : Int))] ++ l3))), u1, u2, ⟨by omega, by obtain ⟨_, px, lx, z1, z2, z3⟩ := u3; rw [z1, z3, if_neg (by decide)]; exact .let2 _ _ _ _ _ _ _ _ _ _ _ _ _ _ hk k3 x3.2 z2⟩, by simp only [List.append_assoc] at u4 ⊢; exact u4⟩
  · exact Or.inr ⟨t3, u1, DM_mono u2 (by omega)⟩
end STd
