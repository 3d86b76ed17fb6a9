/-! statements: let, do, return -/
theorem up_comm {s : iS} {c k c' k' : Nat} {x y : Int} (h : ¬ (c = c' ∧ k = k')) : up (up s c k x) c' k' y = up (up s c' k' y) c k x := by
  funext a i
  simp only [up_at]
  by_cases h1 : a = c' ∧ i = k'
  · rw [if_pos h1, if_neg (fun z => h ⟨by omega, by omega⟩), if_pos h1]
  · rw [if_neg h1, if_neg h1]
theorem adt_go {t : iS} {I k : Nat} {a b c d x : Int} (hk : k ≠ 33 ∧ k ≠ 17) : up (adt t I a b c d) 121 k x = adt (up t 121 k x) I a b c d := by
  unfold adt
  rw [up_comm (by omega), up_comm (s := up (up (up (up t 144 I a) 145 I b) 146 I c) 147 I d) (by omega), up_comm (s := up (up (up t 144 I a) 145 I b) 146 I c) (by omega), up_comm (s := up (up t 144 I a) 145 I b) (by omega), up_comm (s := up t 144 I a) (by omega), up_comm (s := t) (by omega), up_ne (s := t) (show ¬ (121 = 121 ∧ 17 = k) by omega)]
section STc
variable {F : Nat → Int} {n N : Nat} {P : Nat → Nat} {s0 t0 : iS} {R : List itm → iS → Prop} {b q : Int} {fv : Nat → Int}
theorem kwv (h : TKR 0 F n N P s0 t0) {p : Nat} (hN : p < N) (hk : 256 ≤ s0 9 p) : t0 124 p = 5 ∧ t0 127 p = s0 9 p - 256 := by
  have k := tkK h hN
  rw [if_pos rfl, if_pos rfl] at k
  omega
/-- a statement of the reference -/
theorem mst_eq (h : TKR 0 F n N P s0 t0) {t : iS} {p : Nat} (hr : SR t0 t) (hp : t 121 10 = (p : Int)) (hN : p < N) (hk : s0 9 p = 271 ∨ s0 9 p = 272 ∨ s0 9 p = 273 ∨ s0 9 p = 275 ∨ s0 9 p = 276) : m_statement t = bd (m_add 11 0 0 (p : Int) t) (fun r7 s7 => bd (m_go s7) (fun _ s8 => if s0 9 p = 271 then bd (m_let s8) (fun _ s10 => m_statement_211 (p : Int) s10) else if s0 9 p = 272 then bd (m_call s8) (fun _ s12 => bd (m_add 19 0 0 (p : Int) s12) (fun r13 s13 => bd (m_needSign 59 s13) (fun _ s14 => m_statement_211 (p : Int) s14))) else if s0 9 p = 276 then bd (m_isSign 59 s8) (fun r16 s16 => gd (rg r16) (if r16 = 0 then m_statement_156 (p : Int) 1 s16 else m_statement_156 (p : Int) 0 s16)) else if s0 9 p = 275 then m_statement_206 (p : Int) 1 s8 else m_statement_206 (p : Int) 0 s8)) := by
  obtain ⟨k1, k2⟩ := kwv h hN (by omega)
  have hN2 := N1001 h
  have e1 : (s0 9 p - 256 = 15) = (s0 9 p = 271) := propext ⟨fun z => by omega, fun z => by omega⟩
  have e2 : (s0 9 p - 256 = 16) = (s0 9 p = 272) := propext ⟨fun z => by omega, fun z => by omega⟩
  have e3 : (s0 9 p - 256 = 20) = (s0 9 p = 276) := propext ⟨fun z => by omega, fun z => by omega⟩
  have e4 : (s0 9 p - 256 = 19) = (s0 9 p = 275) := propext ⟨fun z => by omega, fun z => by omega⟩
  unfold m_statement
  rw [hp, gd_pos (by omega), Int.toNat_natCast, hr.2.1, hr.2.2.2.2.1, k1, k2, gr (by omega), if_pos rfl, gr (by omega), if_neg (by omega), if_neg (by omega)]
  simp only [e1, e2, e3, e4]
theorem mst_no (h : TKR 0 F n N P s0 t0) {t : iS} {p : Nat} (hr : SR t0 t) (hp : t 121 10 = (p : Int)) (hN : p < N) (hk : ¬ (s0 9 p = 271 ∨ s0 9 p = 272 ∨ s0 9 p = 273 ∨ s0 9 p = 275 ∨ s0 9 p = 276)) : m_statement t = bd (m_syntax t) (fun _ s1 => some (0, s1)) := by
  have k := tkK h hN
  rw [if_pos rfl, if_pos rfl] at k
  have hN2 := N1001 h
  unfold m_statement m_statement_46
  rw [hp, gd_pos (by omega), Int.toNat_natCast, hr.2.1, hr.2.2.2.2.1, gr (by omega)]
  by_cases c : t0 124 p = 5
  · rw [if_pos c, gr (by omega)]
    by_cases c2 : t0 127 p < 15
    · rw [if_pos c2]
    · rw [if_neg c2, if_pos (by omega)]
  · rw [if_neg c]
/-- the begin of a statement, in the reference -/
theorem beg_r {t1 t : iS} {s1 : iS} {p I C B p1 o1 w1 C1 lb B1 : Nat} {l l1 : List itm} (h : TKR 0 F n N P s0 t0) (g : GS R s0 t0 N q s1 t1 t p I C B l p1 o1 w1 C1 lb B1 l1) {G : iS → Option (Int × iS)} : bd (m_add 11 0 0 (p1 : Int) t1) (fun r7 s7 => bd (m_go s7) (fun _ s8 => G s8)) = G (adt (up t1 121 10 ((p1 + 1 : Nat) : Int)) (I + l1.length) 11 0 0 (p1 : Int)) := by
  have hN2 := N1001 h
  obtain ⟨h1, h2, h3, h4, h5, h6, h7, h8, h9, h10, h11, h12, h13, h14, h15, h16, h17⟩ := g.1
  rw [mad_ok h13 (by omega), bq, rGo (p := p1) (by rw [adt_ne (by omega) (by omega)]; exact h6) (by rw [adt_ne (by omega) (by omega)]; exact h4), bq, adt_go (by omega)]
/-- the outcome of a statement -/
abbrev SOUT (R : List itm → iS → Prop) (b : Int) (s0 t0 : iS) (N : Nat) (P : Nat → Nat) (q : Int) (t t1 : iS) (p I C B : Nat) (l : List itm) (p1 o1 w1 lb B1 : Nat) (l1 : List itm) (cl rf : Option (Int × iS)) : Prop := (∃ s2 t2 p2 w2 C2 l2, cl = some (0, s2) ∧ rf = some (0, t2) ∧ (p1 + 1 < p2 ∧ GY s0 t2 0 o1 (I + l1.length) p1 w1 lb p2 w2 lb l2) ∧ GS R s0 t0 N q s2 t2 t p I C B l p2 o1 w2 C2 lb B1 (l1 ++ l2)) ∨ (∃ t2, rf = some (0, t2) ∧ DM 3250 b s0 t0 N P t t2 cl)
theorem CT_if {v : Int} {A B : iS → Option (Int × iS)} (hv : b01 v) (hA : CT s0 N A) (hB : CT s0 N B) : CT s0 N (fun s => gd (rg v) (if v = 0 then A s else B s)) := by
  intro s f u hf hd
  show ∃ r s', gd (rg v) (if v = 0 then A s else B s) = some (r, s') ∧ _
  rw [gr (by omega)]
  by_cases z : v = 0
  · rw [if_pos z]; exact hA s f u hf hd
  · rw [if_neg z]; exact hB s f u hf hd
/-- the reference's rest: its answer is 0 -/
def R0 (t0 : iS) (N : Nat) (P : Nat → Nat) (k : iS → Option (Int × iS)) (d : Nat) : Prop := ∀ t f u M, ft f u N → RD t0 N P t f u M → M + d < 4000 → ∃ t', k t = some (0, t') ∧ RD t0 N P t' f u (M + d) ∧ PS t t' 0 0 0
theorem R0_T {k : iS → Option (Int × iS)} {d : Nat} (h : R0 t0 N P k d) : RT t0 N P k d := fun t f u M h1 h2 h3 => by
  obtain ⟨t', e⟩ := h t f u M h1 h2 h3
  exact ⟨0, t', e⟩
theorem R0_some : R0 t0 N P (fun t => some (0, t)) 0 := fun t f u M _ h _ => ⟨t, rfl, h, PS_refl⟩
theorem R0_bd {k1 k2 : iS → Option (Int × iS)} {d1 d2 : Nat} (h1 : RT t0 N P k1 d1) (h2 : R0 t0 N P k2 d2) : R0 t0 N P (fun t => bd (k1 t) (fun _ t' => k2 t')) (d1 + d2) := by
  intro t f u M hf hd hM
  obtain ⟨r, t', e, hd', hp⟩ := h1 t f u M hf hd (by omega)
  obtain ⟨t2, e2, hd2, hp2⟩ := h2 t' f u (M + d1) hf hd' (by omega)
  exact ⟨t2, by show bd (k1 t) _ = _; rw [e, bq, e2], RD_mono hd2 (by omega), PS0_trans hp hp2⟩
theorem R0_if {v : Int} {A B : iS → Option (Int × iS)} {d : Nat} (hv : b01 v) (hA : R0 t0 N P A d) (hB : R0 t0 N P B d) : R0 t0 N P (fun s => gd (rg v) (if v = 0 then A s else B s)) d := by
  intro t f u M hf hd hM
  show ∃ t', gd (rg v) (if v = 0 then A t else B t) = some (0, t') ∧ _
  rw [gr (by omega)]
  by_cases z : v = 0
  · rw [if_pos z]; exact hA t f u M hf hd hM
  · rw [if_neg z]; exact hB t f u M hf hd hM
theorem DM_0 {M d : Nat} {t t1 : iS} {cl : Option (Int × iS)} {k : iS → Option (Int × iS)} (h : DM M b s0 t0 N P t t1 cl) (hk : R0 t0 N P k d) (hM : M + d < 4000) : ∃ t2, k t1 = some (0, t2) ∧ DM (M + d) b s0 t0 N P t t2 cl := by
  obtain ⟨f, u, h1, h2, h3, h4⟩ := h
  obtain ⟨t2, e, e2, e3⟩ := hk t1 f u M h1 h2 hM
  exact ⟨t2, e, f, u, h1, e2, PS0_trans h3 e3, h4⟩
theorem R0_87 {v k : Int} : R0 t0 N P (m_let_87 v k) 1 := R0_bd RT_ad R0_some
theorem R0_211 {v : Int} : R0 t0 N P (m_statement_211 v) 1 := R0_bd RT_ad R0_some
/-- the end of a let -/
theorem let_end (hR : RHE R b fv s0 N) (hS : RHS R b fv s0 N P) {s1 t1 t : iS} {p I C B p1 o1 w1 C1 lb B1 j : Nat} {l l1 : List itm} {v2 : Int} (hN2 : N ≤ 1001) (g : GS R s0 t0 N q s1 t1 t p I C B l p1 o1 w1 C1 lb B1 l1) (hI : I ≤ 3 * p) (hlen : l1.length + 2 ≤ 3 * (p1 - p)) (hin : (11, 0, 0, (j : Int)) ∈ l ++ l1) (hj : s0 9 j = 271) (hj1 : s0 9 (j + 1) = 3) (hjN : j + 1 < N) (hv2 : b01 v2) : ∃ s2 t2 l2, gd (rg v2) (if v2 = 0 then bd (trl_addVariable 1 (fv (j + 1)) s1) (fun _ s6 => some ((0 : Int), s6)) else bd (prg_add 1 7 0 s1) (fun _ s7 => bd (prg_add 1 6 1 s7) (fun _ s8 => bd (prg_add 0 7 0 s8) (fun _ s9 => bd (prg_add 1 5 0 s9) (fun _ s10 => some ((0 : Int), s10)))))) = some (0, s2) ∧ bd (gd (rg v2) (if v2 = 0 then m_let_87 ((j + 1 : Nat) : Int) 13 t1 else m_let_87 ((j + 1 : Nat) : Int) 14 t1)) (fun _ s10 => m_statement_211 (j : Int) s10) = some (0, t2) ∧ l2 = [(if v2 = 0 then 13 else 14, 0, 0, ((j + 1 : Nat) : Int)), (12, 0, 0, (j : Int))] ∧ GS R s0 t0 N q s2 t2 t p I C B l p1 o1 w1 C1 lb B1 (l1 ++ l2) := by
  obtain ⟨h1, h2, h3, h4, h5, h6, h7, h8, h9, h10, h11, h12, h13, h14, h15, h16, h17⟩ := g.1
  obtain ⟨kd, s2, x1, x2, x3, x4, x5⟩ : ∃ kd s2, (kd = 13 ∧ v2 = 0 ∨ kd = 14 ∧ v2 = 1) ∧ gd (rg v2) (if v2 = 0 then bd (trl_addVariable 1 (fv (j + 1)) s1) (fun _ s6 => some ((0 : Int), s6)) else bd (prg_add 1 7 0 s1) (fun _ s7 => bd (prg_add 1 6 1 s7) (fun _ s8 => bd (prg_add 0 7 0 s8) (fun _ s9 => bd (prg_add 1 5 0 s9) (fun _ s10 => some ((0 : Int), s10)))))) = some (0, s2) ∧ gd (rg v2) (if v2 = 0 then m_let_87 ((j + 1 : Nat) : Int) 13 t1 else m_let_87 ((j + 1 : Nat) : Int) 14 t1) = m_let_87 ((j + 1 : Nat) : Int) kd t1 ∧ R (l ++ l1 ++ [(kd, 0, 0, ((j + 1 : Nat) : Int))]) s2 ∧ MD s1 s2 := by
    rcases hv2 with z | z
    · subst z
      obtain ⟨s2, f1, f2, f3⟩ := hS.2.2.2.2.1 (l ++ l1) s1 j g.2.2.2.2.2.2.2.2.1 h1 hin hjN hj hj1
      exact ⟨13, s2, Or.inl ⟨rfl, rfl⟩, by rw [gr (by omega), if_pos rfl, f1, bq], by rw [gr (by omega), if_pos rfl], f2, f3⟩
    · subst z
      obtain ⟨s2, s3, s4, s5, f1, f2, f3, f4, f5, f6⟩ := hS.2.2.2.2.2.1 (l ++ l1) s1 ((j + 1 : Nat) : Int) g.2.2.2.2.2.2.2.2.1
      exact ⟨14, s5, Or.inr ⟨rfl, rfl⟩, by rw [gr (by omega), if_neg (by decide), f1, bq, f2, bq, f3, bq, f4, bq], by rw [gr (by omega), if_neg (by decide)], f5, f6⟩
  have G1 := GS_add g x5 x4 (by omega) (by omega) hI
  have G2 := GS_add0 (a := 12) (b' := 0) (c := 0) (d := (j : Int)) G1 (by rw [← List.append_assoc]; exact hS.2.2.2.2.2.2.2.2.2.2.2.2 _ _ _ x4) (by omega) (by rw [List.length_append]; show _ + 1 + 1 ≤ _; omega) hI
  refine ⟨s2, _, [(kd, 0, 0, ((j + 1 : Nat) : Int)), (12, 0, 0, (j : Int))], x2, ?_, by rcases x1 with ⟨z1, z2⟩ | ⟨z1, z2⟩ <;> rw [z1, z2] <;> rfl, by rw [List.append_assoc] at G2; exact G2⟩
  rw [x3]
  unfold m_let_87 m_statement_211
  have n1 := G1.1.2.2.2.2.2.2.2.2.2.2.2.2.1
  rw [mad_ok h13 (by omega), bq, bq, mad_ok n1 (by have := G1.1.2.2.2.2.2.2.2.2.2.2.2.2.2.2.1; have := G1.1.2.2.2.2.1; omega), bq]
/-- = e ; and the storing -/
theorem let_tail (h : TKR 0 F n N P s0 t0) (hR : RHE R b fv s0 N) (hS : RHS R b fv s0 N P) {s1 t1 t : iS} {p I C B p1 o1 w1 C1 lb B1 j : Nat} {l l1 : List itm} {v2 : Int} (g : GS R s0 t0 N q s1 t1 t p I C B l p1 o1 w1 C1 lb B1 l1) (ho : 2 ≤ o1) (hI : I ≤ 3 * p) (hpj : p ≤ j ∧ j + 2 ≤ p1) (hin : (11, 0, 0, (j : Int)) ∈ l ++ l1) (hj : s0 9 j = 271) (hj1 : s0 9 (j + 1) = 3) (hv2 : b01 v2) : (∃ s2 t2 p2 w2 C2 l2, trl_readLet_64 (fv (j + 1)) v2 s1 = some (0, s2) ∧ bd (m_let_59 ((j + 1 : Nat) : Int) v2 t1) (fun _ s10 => m_statement_211 (j : Int) s10) = some (0, t2) ∧ (p1 < p2 ∧ ∃ px lx, p2 = px + 1 ∧ GX s0 1 o1 (p1 + 1) w1 px w2 0 lx ∧ l2 = lx ++ [(if v2 = 0 then 13 else 14, 0, 0, ((j + 1 : Nat) : Int)), (12, 0, 0, (j : Int))]) ∧ GS R s0 t0 N q s2 t2 t p I C B l p2 o1 w2 C2 lb B1 (l1 ++ l2)) ∨ (∃ t2, bd (m_let_59 ((j + 1 : Nat) : Int) v2 t1) (fun _ s10 => m_statement_211 (j : Int) s10) = some (0, t2) ∧ DM 3210 b s0 t0 N P t t2 (trl_readLet_64 (fv (j + 1)) v2 s1)) := by
  have hN2 := N1001 h
  have hp1N := g.1.2.2.2.2.1
  have hlen := g.2.2.2.2.2.1
  have hvr : -1 ≤ fv (j + 1) ∧ fv (j + 1) < 48 := (hR.2.2.2.2.2.2.1 _ s1 (j + 1) g.2.2.2.2.2.2.2.2.1 g.1.1 (by omega) hj1).2
  have CT2 : CT s0 N (fun s3 => gd (rg v2) (if v2 = 0 then bd (trl_addVariable 1 (fv (j + 1)) s3) (fun _ s6 => some (0, s6)) else bd (prg_add 1 7 0 s3) (fun _ s7 => bd (prg_add 1 6 1 s7) (fun _ s8 => bd (prg_add 0 7 0 s8) (fun _ s9 => bd (prg_add 1 5 0 s9) (fun _ s10 => some (0, s10))))))) := CT_if hv2 (CT_bd (CT_av (k := 1) hvr) (CT_some (v := 0))) (CT_bd (CT_pa (a := 1) (b := 7) (c := 0)) (CT_bd (CT_pa (a := 1) (b := 6) (c := 1)) (CT_bd (CT_pa (a := 0) (b := 7) (c := 0)) (CT_bd (CT_pa (a := 1) (b := 5) (c := 0)) (CT_some (v := 0))))))
  have R2 : R0 t0 N P (fun s3 => gd (rg v2) (if v2 = 0 then m_let_87 ((j + 1 : Nat) : Int) 13 s3 else m_let_87 ((j + 1 : Nat) : Int) 14 s3)) 1 := R0_if hv2 R0_87 R0_87
  unfold trl_readLet_64 m_let_59
  -- =
  rcases g_need h hR g (c := 61) (by omega) with ⟨k1, hp1, e1, e2⟩ | ⟨t2, e1, e2⟩
  case inr =>
    obtain ⟨t3, f1, f2⟩ := DM_0 (DM_c e2 (CT_bd (CT_xp (m := 148) h) (CT_bd (CT_ex (c := 59) h (by omega)) CT2))) (R0_bd (d1 := 1) (R0_T (R0_bd (d1 := 0) RT_xp (R0_bd (d1 := 0) (RT_ns (c := 59) h (by omega)) R2))) (R0_211 (v := (j : Int)))) (by omega)
    exact Or.inr ⟨t3, by rw [e1, bq]; exact f1, DM_mono f2 (by omega)⟩
  have g1 := GS_next hR g hp1
  rw [e1, bq, e2, bq]
  -- e
  rcases x_top (m := 150) h hR g1 (by omega) with ⟨s2, t2, p2, w2, C2, l2, a1, a2, a3, a4, a5, a6⟩ | ⟨t2, a1, a2⟩
  case inr =>
    obtain ⟨t3, f1, f2⟩ := DM_0 (M := 3200) (DM_c a2 (CT_bd (CT_ex (c := 59) h (by omega)) CT2)) (R0_bd (d1 := 1) (R0_T (R0_bd (d1 := 0) (RT_ns (c := 59) h (by omega)) R2)) (R0_211 (v := (j : Int)))) (by omega)
    exact Or.inr ⟨t3, by rw [a1, bq]; exact f1, DM_mono f2 (by omega)⟩
  rw [a1, bq, a2, bq]
  -- ;
  rcases g_need h hR a5 (c := 59) (by omega) with ⟨k1, hp2, b1, b2⟩ | ⟨t3, b1, b2⟩
  case inr =>
    obtain ⟨t4, f1, f2⟩ := DM_0 (DM_c b2 CT2) (R0_bd (d1 := 1) (R0_T R2) (R0_211 (v := (j : Int)))) (by omega)
    exact Or.inr ⟨t4, by rw [b1, bq]; exact f1, DM_mono f2 (by omega)⟩
  rw [b1, bq, b2, bq]
  have g2 := GS_next hR a5 hp2
  obtain ⟨s3, t3, l3, c1, c2, c2b, c3⟩ := let_end hR hS (j := j) hN2 g2 hI (by rw [List.length_append]; omega) (by rw [← List.append_assoc]; exact List.mem_append_left _ hin) hj hj1 (by omega) hv2
  exact Or.inl ⟨s3, t3, p2 + 1, w2, C2, l2 ++ l3, c1, c2, ⟨by omega, p2, l2, rfl, a3.2, by rw [c2b]⟩, by rw [← List.append_assoc]; exact c3⟩
end STc
