/-! statements: if, while -/
section STg
variable {F : Nat → Int} {n N : Nat} {P : Nat → Nat} {s0 t0 : iS} {R : List itm → iS → Prop} {b q : Int} {fv : Nat → Int}
theorem RT_op (h : TKR 0 F n N P s0 t0) {c : Int} (hc : 33 ≤ c ∧ c ≤ 126) : RT t0 N P (m_openSign c) 1 := by
  intro t f u M hf hd hM
  have hd' := hd
  obtain ⟨h1, ⟨p, h2, h3⟩, h4, h5, ⟨I, h6, h7⟩, h8⟩ := hd
  have k := kRg h h2
  unfold m_openSign m_open
  rw [rS h h1 h3 h2 hc, bq]
  by_cases z : s0 9 p = c
  · have D : RD t0 N P (up t 121 48 (t 121 48 + 1)) f u (M + 1) := RD_48 (RD_mono hd' (Nat.le_succ M)) (by omega)
    have f11 := D.2.2.1
    rw [if_pos z, gr (by omega), if_neg (by omega), lt_eq, up_same, gr (by omega)]
    refine ⟨0, _, ?_, D, PS_up (by omega)⟩
    by_cases z2 : t 121 48 + 1 ≤ 25
    · rw [if_pos z2, bq, rGoD (by omega), bq]
    · rw [if_neg z2, rWrD (by omega), bq, bq, rGoD (by omega), bq]
  · rw [if_neg z, gr (by omega), if_pos rfl, rSyD h h1 (by omega) h3 h2, bq]
    exact ⟨0, t, rfl, RD_mono hd' (Nat.le_succ M), PS_refl⟩
theorem R0_begins (h : TKR 0 F n N P s0 t0) {so lab hole fr : Int} : R0 t0 N P (m_begins so lab hole fr) 1 := by
  intro t f u M hf hd hM
  obtain ⟨r, t', e1, e2, e3⟩ := RT_op h (c := 123) (by omega) t f u M hf hd hM
  have ff := e2.2.2.1
  refine ⟨t', ?_, e2, e3⟩
  unfold m_begins
  rw [e1, bq, ff, gr (by omega), if_neg (by omega)]
theorem CT_cond (h : TKR 0 F n N P s0 t0) {lab : Int} : CT s0 N (trl_readCondition lab) := CT_bd (CT_op (c := 40) h (by omega)) (CT_bd (CT_xp (m := 148) h) (CT_bd (CT_ex (c := 41) h (by omega)) (CT_up5 (CT_bd (CT_pa (a := 0) (b := 0) (c := 0)) (CT_bd (CT_pa (a := 8) (b := 0) (c := 0)) (CT_bd (CT_pa (a := 13) (b := lab) (c := 0)) (CT_some (v := 0))))))))
/-- the condition of an if or while: ( e ) and its jump -/
theorem cond_ok (h : TKR 0 F n N P s0 t0) (hR : RHE R b fv s0 N) (hS : RHS R b fv s0 N P) {s1 t1 t : iS} {p I C B p1 o1 w1 C1 lb B1 lab : Nat} {l l1 : List itm} {at' : Int} {K : iS → Option (Int × iS)} {d : Nat} (g : GS R s0 t0 N q s1 t1 t p I C B l p1 o1 w1 C1 lb B1 l1) (ho : 2 ≤ o1) (hI : I ≤ 3 * p) (hpp : p < p1) (hlab : lab < 1000) (hK : R0 t0 N P K d) (hd : d ≤ 100) (hat : 0 ≤ at' ∧ at' < 2002 := by omega) : (∃ s2 tc p2 w2 C2 l2, trl_readCondition (lab : Int) s1 = some (0, s2) ∧ bd (m_openSign 40 t1) (fun _ s1 => bd (m_expression s1) (fun _ s2 => bd (m_closeSign 41 s2) (fun _ s3 => K s3))) = K tc ∧ ((p1 + 2 < p2 ∧ o1 < 25) ∧ ∃ px, p2 = px + 1 ∧ GX s0 1 (o1 + 1) (p1 + 1) w1 px w2 0 l2) ∧ tc 121 33 = ((I + (l1 ++ l2).length : Nat) : Int) ∧ GS R s0 t0 N q s2 (adt tc (I + (l1 ++ l2).length) 15 0 (lab : Int) at') t p I C B l p2 o1 w2 C2 lb B1 (l1 ++ l2 ++ [(15, 0, (lab : Int), at')]) ∧ (l1 ++ l2).length + 1 ≤ 3 * (p2 - p) ∧ PS t1 tc (I + l1.length) C1 B) ∨ (∃ t2, bd (m_openSign 40 t1) (fun _ s1 => bd (m_expression s1) (fun _ s2 => bd (m_closeSign 41 s2) (fun _ s3 => K s3))) = some (0, t2) ∧ DM 3320 b s0 t0 N P t t2 (trl_readCondition (lab : Int) s1)) := by
  have hN2 := N1001 h
  have CT3 : CT s0 N (fun s4 => bd (prg_add 0 0 0 s4) (fun _ s5 => bd (prg_add 8 0 0 s5) (fun _ s6 => bd (prg_add 13 (lab : Int) 0 s6) (fun _ s7 => some (0, s7))))) := CT_bd (CT_pa (a := 0) (b := 0) (c := 0)) (CT_bd (CT_pa (a := 8) (b := 0) (c := 0)) (CT_bd (CT_pa (a := 13) (b := (lab : Int)) (c := 0)) (CT_some (v := 0))))
  unfold trl_readCondition
  rcases g_open h hR g (c := 40) (by omega) with ⟨hp1, ho1, e1, e2⟩ | ⟨tx, e1, e2⟩
  case inr =>
    obtain ⟨t3, y1, y2⟩ := DM_0 (DM_c e2 (CT_bd (CT_xp (m := 148) h) (CT_bd (CT_ex (c := 41) h (by omega)) (CT_up5 CT3)))) (R0_bd (d1 := 0) RT_xp (R0_bd (d1 := 1) (RT_cs (c := 41) h (by omega)) hK)) (by omega)
    exact Or.inr ⟨t3, by rw [e1, bq]; exact y1, DM_mono y2 (by omega)⟩
  have ga := GS_open hR g hp1 ho1
  rw [e1, bq, e2, bq]
  rcases x_top (m := 150) h hR ga (by omega) with ⟨s2, t2, p2, w2, C2, l2, x1, x2, x3, x4, x5, x6⟩ | ⟨t2, x1, x2⟩
  case inr =>
    obtain ⟨t3, y1, y2⟩ := DM_0 (M := 3200) (DM_c x2 (CT_bd (CT_ex (c := 41) h (by omega)) (CT_up5 CT3))) (R0_bd (d1 := 1) (RT_cs (c := 41) h (by omega)) hK) (by omega)
    exact Or.inr ⟨t3, by rw [x1, bq]; exact y1, DM_mono y2 (by omega)⟩
  rw [x1, bq, x2, bq]
  rcases g_close h hR x5 (c := 41) (by omega) with ⟨k41, hp4, z1, z2⟩ | ⟨t3, z1, z2⟩
  case inr =>
    obtain ⟨t4, y1, y2⟩ := DM_0 (z2 _ CT3) hK (by omega)
    exact Or.inr ⟨t4, by rw [z1, bq]; exact y1, DM_mono y2 (by omega)⟩
  have gf := GS_close hR x5 hp4
  rw [z1 (fun s4 => bd (prg_add 0 0 0 s4) (fun _ s5 => bd (prg_add 8 0 0 s5) (fun _ s6 => bd (prg_add 13 (lab : Int) 0 s6) (fun _ s7 => some (0, s7))))), z2, bq]
  obtain ⟨sa, sb, sc, y1, y2, y3, y4, y5⟩ := hS.2.2.2.2.2.2.2.2.1 _ _ at' lab gf.2.2.2.2.2.2.2.2.1 hlab
  have hlen : (l1 ++ l2).length + 1 ≤ 3 * (p2 + 1 - p) := by
    have := g.2.2.2.2.2.1
    rw [List.length_append]; omega
  have gg := GS_add (a := 15) (b' := 0) (c := (lab : Int)) (d := at') gf y5 y4 (by omega) hlen hI
  have PP : PS t1 (up (up t2 121 10 ((p2 + 1 : Nat) : Int)) 121 48 (o1 : Int)) (I + l1.length) C1 B := by
    rcases x_top (m := 150) (l := l ++ l1) (l1 := []) (I := I + l1.length) (C := C1) (B := B) (p := p1) (t := up (up t1 121 48 ((o1 + 1 : Nat) : Int)) 121 10 ((p1 + 1 : Nat) : Int)) h hR ⟨ga.1, ga.2.1, ga.2.2.1, ga.2.2.2.1, Nat.le_succ _, by simp, Nat.le_refl _, by omega, by rw [List.append_nil]; exact ga.2.2.2.2.2.2.2.2.1, IMs_nil, PS_refl⟩ (by omega) with ⟨s2', t2', p2', w2', C2', l2', x1', x2', x3', x4', x5', x6'⟩ | ⟨t2', x1', x2'⟩
    · rw [x2] at x2'
      have e := congrArg Prod.snd (Option.some.inj x2')
      simp only at e
      rw [e]
      exact PS_trans (PS_trans (PS_trans (PS_up (by omega)) (PS_up (by omega)) (Nat.le_refl _) (Nat.le_refl _) (Nat.le_refl _)) x5'.2.2.2.2.2.2.2.2.2.2 (Nat.le_refl _) (Nat.le_refl _) (Nat.le_refl _)) (PS_trans (PS_up (by omega)) (PS_up (by omega)) (Nat.le_refl _) (Nat.le_refl _) (Nat.le_refl _)) (Nat.le_refl _) (Nat.le_refl _) (Nat.le_refl _)
    · exfalso
      rw [x2] at x1'
      have e := congrArg Prod.snd (Option.some.inj x1')
      simp only at e
      obtain ⟨f, u, z1, z2, _⟩ := x2'
      have z3 := z2.2.2.1
      rw [← e, x5.1.2.2.2.2.2.1] at z3
      omega
  exact Or.inl ⟨sc, _, p2 + 1, w2, C2, l2, by rw [y1, bq, y2, bq, y3, bq], rfl, ⟨by omega, p2, rfl, x3.2⟩, gf.1.2.2.2.2.2.2.2.2.2.2.2.2.1, gg, hlen, PP⟩
end STg
