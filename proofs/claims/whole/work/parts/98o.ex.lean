/-! expressions: terms -/
section EXg
variable {F : Nat → Int} {n N : Nat} {P : Nat → Nat} {s0 t0 : iS} {R : List itm → iS → Prop} {b q : Int} {fv : Nat → Int}
/-- a term of one token and one item -/
theorem leaf (h : TKR 0 F n N P s0 t0) {m : Nat} {s s1 t u : iS} {p o w2 I C k : Nat} {l : List itm} {a b' c : Int} (hu : LV s0 t0 N q s1 u p o w2 I C) (hRl : R (l ++ [(a, b', c, (p : Int))]) s1) (hup : ∀ x l', R l' s1 → R l' (up s1 2 12 x)) (hP : PG t u I C (k + 1)) (u61 : u 121 61 = 0) (u51 : u 121 51 = ((k + 1 : Nat) : Int)) (hk : k ≤ o) (ha : a ≠ 9 ∧ a ≠ 10) (hp1 : p + 1 < N) (t61 : t 121 61 = 1) (t51 : t 121 51 = ((k + 1 : Nat) : Int)) (t11 : t 121 11 = 0) (hc : trlE m 2 0 0 0 s = some (0, up s1 2 12 ((p + 1 : Nat) : Int))) {w : Nat} (hgx : GX s0 0 o p w (p + 1) w2 0 [(a, b', c, (p : Int))]) (hr : m_term t = bd (m_add a b' c (p : Int) u) (fun r44 s44 => bd (m_go s44) (fun _ s45 => some (0, s45)))) : ∃ s' t1 t2 p' w' C' l', trlE m 2 0 0 0 s = some (0, s') ∧ eL t = eL t1 ∧ t1 121 61 = 0 ∧ t1 121 11 = 0 ∧ 0 < t1 121 51 ∧ t1 121 51 < 100 ∧ pL t1 = pL t2 ∧ t2 121 51 = ((k + 1 : Nat) : Int) ∧ t2 121 61 = 0 ∧ (p < p' ∧ GX s0 0 o p w p' w' 0 l') ∧ GD R s0 t0 N q s' t2 t p I C (k + 1) l p' o w' C' l' := by
  have hN2 := N1001 h
  have hu' := hu
  obtain ⟨h1, h2, h3, h4, h5, h6, h7, h8, h9, h10, h11, h12, h13, h14, h15, h16, h17⟩ := hu
  have e1 : m_term t = some (0, up (adt u I a b' c (p : Int)) 121 10 ((p + 1 : Nat) : Int)) := by
    rw [hr, mad_ok h13 (by omega), bq, rGo (p := p) (by rw [adt_ne (by omega) (by omega)]; exact h6) (by rw [adt_ne (by omega) (by omega)]; exact h4), bq]
  have E0 := eL_term t11 (by rw [t51]; omega) t61 e1
  have v61 : up (adt u I a b' c (p : Int)) 121 10 ((p + 1 : Nat) : Int) 121 61 = 0 := by rw [up_ne (by omega), adt_ne (by omega) (by omega)]; exact u61
  have v11 : up (adt u I a b' c (p : Int)) 121 10 ((p + 1 : Nat) : Int) 121 11 = 0 := by rw [up_ne (by omega), adt_ne (by omega) (by omega)]; exact h6
  have v51 : up (adt u I a b' c (p : Int)) 121 10 ((p + 1 : Nat) : Int) 121 51 = ((k + 1 : Nat) : Int) := by rw [up_ne (by omega), adt_ne (by omega) (by omega)]; exact u51
  refine ⟨_, _, _, p + 1, w2, C, [(a, b', c, (p : Int))], hc, E0, v61, v11, by rw [v51]; omega, by rw [v51]; omega, rfl, v51, v61, ⟨by omega, hgx⟩, ?_⟩
  refine GD_one ?_ (by omega) (hup _ _ hRl) ?_ ?_
  · have := LV_go hu' hp1
    obtain ⟨g1, g2, g3, g4, g5, g6, g7, g8, g9, g10, g11, g12, g13, g14, g15, g16, g17⟩ := this
    exact ⟨g1, SR_up (PG_SR (PG_adt (I := I) (C := 0) (K := 0) (Nat.le_refl _)) h2) (by omega), g3, up_same _ _ _ _, g5, v11, g7, by rw [up_ne (by omega), adt_ne (by omega) (by omega)]; exact h8, g9, g10, by rw [up_ne (by omega), adt_ne (by omega) (by omega)]; exact h11, g12, by rw [up_ne (by omega)]; exact adt_33, by rw [up_ne (by omega), adt_ne (by omega) (by omega)]; exact h14, by omega, by omega, by rw [up_ne (by omega), adt_ne (by omega) (by omega)]; exact h17⟩
  · exact IMs_x (IMs_one h17 ha (by omega)) (fun c' k' z1 z2 z3 z4 => up_ne (by omega)) (fun c' k' z1 z2 z3 z4 => up_ne (by omega))
  · exact PG_trans (PG_trans hP (PG_adt (Nat.le_refl _)) (Nat.le_refl _) (Nat.le_refl _) (Nat.le_refl _)) (PG_up (by omega)) (Nat.le_refl _) (Nat.le_refl _) (Nat.le_refl _)
/-- a level's closing by its sign -/
theorem cl_sign (h : TKR 0 F n N P s0 t0) {s t : iS} {p o w I C : Nat} {c : Int} (hL : LV s0 t0 N q s t p (o + 1) w I C) (hc : 33 ≤ c ∧ c ≤ 126) : m_closeSign c t = some (0, if s0 9 p = c then up (up t 121 10 ((p + 1 : Nat) : Int)) 121 48 (o : Int) else up (flt t (if s0 9 p = 2 then 2 else 1) P p) 121 48 (o : Int)) := by
  obtain ⟨h1, h2, h3, h4, h5, h6, h7, h8, h9, h10, h11, h12, h13, h14, h15, h16, h17⟩ := hL
  unfold m_closeSign
  rw [rNs h h2 h6 h4 h5 hc, bq, lt_eq]
  by_cases q : s0 9 p = c
  · rw [if_pos q, if_pos q, up_ne (by omega), h8, show ((o + 1 : Nat) : Int) - 1 = (o : Int) by omega]
  · rw [if_neg q, if_neg q, flt_ne (by omega), h8, show ((o + 1 : Nat) : Int) - 1 = (o : Int) by omega]
/-- the class's closing -/
theorem cc_sign (h : TKR 0 F n N P s0 t0) {s t : iS} {p o w I C : Nat} {c : Int} (hL : LV s0 t0 N q s t p (o + 1) w I C) (hc : 33 ≤ c ∧ c ≤ 126) (hk : s0 9 p = c) {G : iS → Option (Int × iS)} : bd (tok_expect c s) (fun _ s10 => lt' (up s10 22 5 ((s10 22 5) - 1)) G) = G (up (up s 2 12 ((p + 1 : Nat) : Int)) 22 5 (o : Int)) := by
  obtain ⟨h1, h2, h3, h4, h5, h6, h7, h8, h9, h10, h11, h12, h13, h14, h15, h16, h17⟩ := hL
  rw [cEx h h1 h3 h5 (by omega) hk, bq, lt_eq, up_ne (by omega), h7, show ((o + 1 : Nat) : Int) - 1 = (o : Int) by omega]
abbrev TOUT (R : List itm → iS → Prop) (b : Int) (s0 t0 : iS) (N : Nat) (P : Nat → Nat) (q : Int) (t : iS) (p o w I C k : Nat) (l : List itm) (cl : Option (Int × iS)) : Prop := (∃ s' t1 t2 p' w' C' l', cl = some (0, s') ∧ eL t = eL t1 ∧ t1 121 61 = 0 ∧ t1 121 11 = 0 ∧ 0 < t1 121 51 ∧ t1 121 51 < 100 ∧ pL t1 = pL t2 ∧ t2 121 51 = ((k + 1 : Nat) : Int) ∧ t2 121 61 = 0 ∧ (p < p' ∧ GX s0 0 o p w p' w' 0 l') ∧ GD R s0 t0 N q s' t2 t p I C (k + 1) l p' o w' C' l') ∨ (∃ t1, eL t = some t1 ∧ DEAD b s0 t0 N P t t1 cl)
theorem RD_psh {t : iS} {f : Int} {u M k : Nat} {a : Int} (h : RD t0 N P t f u M) : RD t0 N P (psh t k a) f u M := by
  unfold psh
  exact RD_up (RD_upr (RD_upr h (by omega)) (by omega)) (Or.inr (Or.inl rfl))
theorem psh_PG0 {t : iS} {k : Nat} {a : Int} : PG t (psh t k a) 0 0 0 := psh_PG (Nat.zero_le _)
theorem b121 (h : TKR 0 F n N P s0 t0) {t2 : iS} {p k : Nat} {so d : Int} (hr : SR t0 t2) (h10 : t2 121 10 = (p : Int)) (hN : p < N) (hno : s0 9 p ∉ sO) (hk : k < 60) (h157 : t2 157 k = so) (hso : so = 1 ∧ d = 41 ∨ so = 2 ∧ d = 93) : m_behindTerm_121 (k : Int) t2 = bd (m_closeSign d t2) (fun _ s9 => lt' (up s9 121 51 (k : Int)) (fun s10 => if so = 1 then some (0, s10) else bd (m_add 5 0 0 (s10 121 10) s10) (fun r14 s14 => some (0, s14)))) := by
  unfold m_behindTerm_121
  rw [mop h hr h10 hN, bq, if_neg hno, gr (by omega), if_pos rfl, gd_pos (by omega), Int.toNat_natCast, h157, gr (by omega), if_neg (by omega)]
  rcases hso with ⟨q1, q2⟩ | ⟨q1, q2⟩
  · subst q1 q2
    rw [if_pos rfl]
    simp only [if_pos]
  · subst q1 q2
    rw [if_neg (by decide), if_pos rfl]
    simp only [show ¬ ((2 : Int) = 1) by decide, if_false]
/-- a ( and its expression: a term, or the index of a variable -/
theorem t_paren (h : TKR 0 F n N P s0 t0) (hR : RHE R b fv s0 N) {m : Nat} (hE : EXPR R b s0 t0 N P q (m + 2)) {s u : iS} {p o w I C k : Nat} {l : List itm} {c d so : Int} (hL : LV s0 t0 N q s u p o w I C) (hl : R l s) (u51 : u 121 51 = ((k + 1 : Nat) : Int)) (hko : k ≤ o) (hfu : 6 * (25 - o) + 1 ≤ m + 2) (hc : 33 ≤ c ∧ c ≤ 126) (hso : so = 1 ∧ d = 41 ∨ so = 2 ∧ d = 93) (hk : s0 9 p = c) (G : iS → Option (Int × iS)) (hG : b = 0 → ∀ s f u, CD s0 N s f u → ∃ r s', G s = some (r, s') ∧ CD s0 N s' f u) : (∃ tb, bd (m_openSign c u) (fun _ s33 => bd (m_push so s33) (fun _ s34 => lt' (up s34 121 61 1) (fun s35 => some ((0 : Int), s35)))) = some (0, tb) ∧ ((∃ s2 t1 t2 p2 w2 C2 l2, bd (trl_openSign c s) (fun _ s8 => bd (trlE (m + 2) 1 0 0 0 s8) (fun _ s9 => bd (tok_expect d s9) (fun _ s10 => lt' (up s10 22 5 ((s10 22 5) - 1)) G))) = G (up (up s2 2 12 ((p2 + 1 : Nat) : Int)) 22 5 (o : Int)) ∧ eL tb = eL t1 ∧ t1 121 61 = 0 ∧ t1 121 11 = 0 ∧ 0 < t1 121 51 ∧ t1 121 51 < 100 ∧ m_behindTerm t1 = (if so = 1 then some (0, up (up (up t2 121 10 ((p2 + 1 : Nat) : Int)) 121 48 (o : Int)) 121 51 ((k + 1 : Nat) : Int)) else some (0, adt (up (up (up t2 121 10 ((p2 + 1 : Nat) : Int)) 121 48 (o : Int)) 121 51 ((k + 1 : Nat) : Int)) (I + l2.length) 5 0 0 ((p2 + 1 : Nat) : Int))) ∧ t2 121 61 = 0 ∧ (p + 1 < p2 ∧ o < 25 ∧ GX s0 1 (o + 1) (p + 1) w p2 w2 0 l2) ∧ p2 + 1 < N ∧ GD R s0 t0 N q s2 t2 u p I C (k + 1) l p2 (o + 1) w2 C2 l2 ∧ l2.length + 1 ≤ p2 - p) ∨ (∃ t1, eL tb = some t1 ∧ DEAD b s0 t0 N P u t1 (bd (trl_openSign c s) (fun _ s8 => bd (trlE (m + 2) 1 0 0 0 s8) (fun _ s9 => bd (tok_expect d s9) (fun _ s10 => lt' (up s10 22 5 ((s10 22 5) - 1)) G))))))) := by
  have hN2 := N1001 h
  have hL' := hL
  obtain ⟨h1, h2, h3, h4, h5, h6, h7, h8, h9, h10, h11, h12, h13, h14, h15, h16, h17⟩ := hL
  by_cases co : o = 25
  · rw [rOpF h h2 h6 h4 h5 h8 co hc hk, bq, psh_ok (k := k + 1) (by rw [flt_ne (by omega), up_ne (by omega)]; exact u51) (by omega), bq, lt_eq]
    have RDx : RD t0 N P (up (psh (flt (up u 121 48 26) 2 P p) (k + 1) so) 121 61 1) 2 p 3100 := RD_up (RD_psh (flt_RD (SR_up h2 (by omega)) (by rw [up_ne (by omega)]; exact h4) h5 (by rw [up_ne (by omega)]; exact h13) (by omega) (by rw [up_same]; omega))) (Or.inr (Or.inr rfl))
    refine ⟨_, rfl, Or.inr ⟨_, eL_dead (by have := RDx.2.2.1; omega), 2, p, ⟨Or.inr rfl, h5⟩, RDx, PG0_trans (PG0_trans (PG0_trans (PG_up (by omega)) flt_PG) psh_PG0) (PG_up (by omega)), fun hb => ?_⟩⟩
    obtain ⟨y1, y2, y3⟩ := hR.2.1 l s hl
    obtain ⟨y4, y5⟩ := y3 hb
    have zd := stp_CD (N := N) (p := p) (f := 2) h1 (by rw [y1, hb]) y5 y2
    rw [cOpF h h1 y4 h3 h5 h7 co hc hk, bq, cz_expr h ⟨Or.inr rfl, h5⟩ zd, bq, cz_ex h ⟨Or.inr rfl, h5⟩ zd (by omega), bq, lt_eq]
    exact hG hb _ _ _ (CD_up zd (Or.inl rfl))
  have kr := kRg h h5
  have hp1 := tkL h h5 (by omega)
  have l51 : up (up u 121 48 ((o + 1 : Nat) : Int)) 121 10 ((p + 1 : Nat) : Int) 121 51 = ((k + 1 : Nat) : Int) := by rw [up_ne (by omega), up_ne (by omega)]; exact u51
  rw [rOp h h2 h6 h4 h5 h8 (by omega) hc hk, bq, psh_ok l51 (by omega), bq, lt_eq, cOp h h1 h3 h5 h7 (by omega) hc hk, bq]
  have hLa := LV_open hL' hp1 (by omega)
  have hLb : LV s0 t0 N q (up (up s 22 5 ((o + 1 : Nat) : Int)) 2 12 ((p + 1 : Nat) : Int)) (up (psh (up (up u 121 48 ((o + 1 : Nat) : Int)) 121 10 ((p + 1 : Nat) : Int)) (k + 1) so) 121 61 1) (p + 1) (o + 1) w I C := LV_r hLa (SR_up (PG_SR (psh_PG0) hLa.2.1) (by omega)) (fun j hj => by rw [up_ne (by omega), psh_ne (by omega) (by omega)])
  have Pb : PG u (up (psh (up (up u 121 48 ((o + 1 : Nat) : Int)) 121 10 ((p + 1 : Nat) : Int)) (k + 1) so) 121 61 1) I C (k + 1) := PG_trans (PG_trans (PG_trans (PG_up (by omega)) (PG_up (by omega)) (Nat.le_refl _) (Nat.le_refl _) (Nat.le_refl _)) (psh_PG (Nat.le_refl _)) (Nat.le_refl _) (Nat.le_refl _) (Nat.le_refl _)) (PG_up (by omega)) (Nat.le_refl _) (Nat.le_refl _) (Nat.le_refl _)
  have b157 : up (psh (up (up u 121 48 ((o + 1 : Nat) : Int)) 121 10 ((p + 1 : Nat) : Int)) (k + 1) so) 121 61 1 157 (k + 1) = so := by rw [up_ne (by omega)]; exact psh_at.1
  have b158 : up (psh (up (up u 121 48 ((o + 1 : Nat) : Int)) 121 10 ((p + 1 : Nat) : Int)) (k + 1) so) 121 61 1 158 (k + 1) = 0 := by rw [up_ne (by omega)]; exact psh_at.2
  have b51 : up (psh (up (up u 121 48 ((o + 1 : Nat) : Int)) 121 10 ((p + 1 : Nat) : Int)) (k + 1) so) 121 61 1 121 51 = ((k + 1 + 1 : Nat) : Int) := by rw [up_ne (by omega)]; exact psh_51
  refine ⟨_, rfl, ?_⟩
  rcases hE _ _ (p + 1) (o + 1) w I C (k + 1) l hLb (hR.1 _ _ _ (hR.1 _ _ _ hl).2.1).1 (up_same _ _ _ _) b51 (by omega) (by rw [b157]; omega) (by rw [b157]; omega) b158 (by omega) with ⟨s2, t1, t2, p2, w2, C2, l2, e1, e2, e3, e4, e5, e6, e7, e8, e9, e10, e11, e12, e13, e14, e15⟩ | ⟨t', e1, f, u', e2, e3, e4, e5⟩
  case inr =>
    refine Or.inr ⟨t', e1, f, u', e2, e3, PG0_trans (PG_mono Pb (Nat.zero_le _) (Nat.zero_le _) (Nat.zero_le _)) e4, fun hb => ?_⟩
    obtain ⟨r, s', g1, g2⟩ := e5 hb
    rw [g1, bq, cz_ex h e2 g2 (by omega), bq, lt_eq]
    exact hG hb _ _ _ (CD_up g2 (Or.inl rfl))
  obtain ⟨g1, g2, g3, g4, g5, g6, g7, g8⟩ := e15
  have g1' := g1
  obtain ⟨i1, i2, i3, i4, i5, i6, i7, i8, i9, i10, i11, i12, i13, i14, i15, i16, i17⟩ := g1
  have P2 := PG_trans Pb g8 (Nat.le_refl _) (Nat.le_refl _) (Nat.le_refl _)
  rw [e1, bq]
  have hd : 33 ≤ d ∧ d ≤ 126 := by omega
  have B0 := b121 (k := k + 1) h i2 i4 i5 e11 (by omega) (by rw [e12]; exact b157) hso
  rw [← e7, cl_sign h g1' hd, bq, lt_eq] at B0
  by_cases cd : s0 9 p2 = d
  · have kr2 := kRg h i5
    have hp2 := tkL h i5 (by omega)
    rw [if_pos cd] at B0
    refine Or.inl ⟨s2, t1, t2, p2, w2, C2, l2, cc_sign h g1' hd cd, e2, e3, e4, e5, e6, ?_, e9, ⟨by omega, by omega, e10.2⟩, hp2, ⟨g1', by omega, by omega, g4, by omega, g6, g7, P2⟩, by omega⟩
    rw [B0]
    by_cases z : so = 1
    · rw [if_pos z, if_pos z]
    · rw [if_neg z, if_neg z, mad_ok (I := I + l2.length) (by rw [up_ne (by omega), up_ne (by omega), up_ne (by omega)]; exact i13) (by omega), bq, up_ne (show ¬ (121 = 121 ∧ 10 = 51) by omega), up_ne (show ¬ (121 = 121 ∧ 10 = 48) by omega), up_same]
  · -- not closed
    have hf : (if s0 9 p2 = 2 then (2 : Int) else 1) = 1 ∨ (if s0 9 p2 = 2 then (2 : Int) else 1) = 2 := by split <;> omega
    rw [if_neg cd] at B0
    have RDx : RD t0 N P (up (up (flt t2 (if s0 9 p2 = 2 then 2 else 1) P p2) 121 48 (o : Int)) 121 51 ((k + 1 : Nat) : Int)) (if s0 9 p2 = 2 then 2 else 1) p2 3050 := RD_up (RD_48 (flt_RD i2 i4 i5 i13 (by omega) (by omega)) (by omega)) (Or.inr (Or.inl rfl))
    have Px : PG u (up (up (flt t2 (if s0 9 p2 = 2 then 2 else 1) P p2) 121 48 (o : Int)) 121 51 ((k + 1 : Nat) : Int)) 0 0 0 := PG0_trans (PG0_trans (PG0_trans (PG_mono P2 (Nat.zero_le _) (Nat.zero_le _) (Nat.zero_le _)) flt_PG) (PG_up (by omega))) (PG_up (by omega))
    have cl : b = 0 → ∃ r s', bd (tok_expect d s2) (fun _ s10 => lt' (up s10 22 5 ((s10 22 5) - 1)) G) = some (r, s') ∧ CD s0 N s' (if s0 9 p2 = 2 then 2 else 1) p2 := by
      intro hb
      obtain ⟨y1, y2, y3⟩ := hR.2.1 _ s2 g6
      obtain ⟨y4, y5⟩ := y3 hb
      have zd := stp_CD (N := N) (p := p2) (f := if s0 9 p2 = 2 then 2 else 1) i1 (by rw [y1, hb]) y5 y2
      rw [cEx0 h i1 y4 i3 i5 (by omega) cd, bq, lt_eq]
      exact hG hb _ _ _ (CD_up zd (Or.inl rfl))
    generalize up (up (flt t2 (if s0 9 p2 = 2 then 2 else 1) P p2) 121 48 (o : Int)) 121 51 ((k + 1 : Nat) : Int) = tx at *
    by_cases z : so = 1
    · rw [if_pos z] at B0
      exact Or.inr ⟨tx, by rw [e2, eL_bt e4 ⟨e5, e6⟩ e3 B0]; exact eL_dead (by have := RDx.2.2.1; omega), _, p2, ⟨hf, i5⟩, RD_mono RDx (by omega), Px, cl⟩
    · obtain ⟨I', z1, z2, z3, z4⟩ := RD_add (a := 5) (b' := 0) (c := 0) (d := tx 121 10) RDx (by omega)
      rw [if_neg z, z2, bq] at B0
      exact Or.inr ⟨_, by rw [e2, eL_bt e4 ⟨e5, e6⟩ e3 B0]; exact eL_dead (by have := z3.2.2.1; omega), _, p2, ⟨hf, i5⟩, RD_mono z3 (by omega), PG0_trans Px z4, cl⟩
/-- - or ~ and its term -/
theorem t_sign (h : TKR 0 F n N P s0 t0) (hR : RHE R b fv s0 N) {m : Nat} (hT : TERM R b s0 t0 N P q (m + 1)) {s t u : iS} {p o w I C k : Nat} {l : List itm} (hL : LV s0 t0 N q s u p o w I C) (hl : R l s) (hPu : PG t u I C (k + 1)) (u51 : u 121 51 = ((k + 1 : Nat) : Int)) (hko : k ≤ o) (hfu : 6 * (25 - o) ≤ m + 1) (hk : s0 9 p = 45 ∨ s0 9 p = 126) (t61 : t 121 61 = 1) (t51 : t 121 51 = ((k + 1 : Nat) : Int)) (t11 : t 121 11 = 0) (hr : m_term t = m_term_243 u) : TOUT R b s0 t0 N P q t p o w I C k l (trlE (m + 2) 6 0 0 0 s) := by
  have hN2 := N1001 h
  have hL' := hL
  obtain ⟨h1, h2, h3, h4, h5, h6, h7, h8, h9, h10, h11, h12, h13, h14, h15, h16, h17⟩ := hL
  have kr := kRg h h5
  obtain ⟨kd, hkd, k78⟩ : ∃ kd : Int, (if s0 9 p = 45 then (7 : Int) else 8) = kd ∧ (kd = 7 ∧ s0 9 p = 45 ∨ kd = 8 ∧ s0 9 p = 126) := by
    by_cases z : s0 9 p = 45
    · exact ⟨7, by rw [if_pos z], Or.inl ⟨rfl, z⟩⟩
    · exact ⟨8, by rw [if_neg z], Or.inr ⟨rfl, by omega⟩⟩
  have hv := sgn_v h h5 (c := s0 9 p) (by omega) rfl
  have C0 : trlE (m + 2) 6 0 0 0 s = bd (trl_openSign (s0 9 p) s) (fun _ s2 => bd (trlE (m + 1) 2 0 0 0 s2) (fun _ s3 => lt' (up s3 22 5 ((s3 22 5) - 1)) (fun s4 => bd (prg_add (if kd = 7 then 4 else 7) 0 0 s4) (fun _ s5 => some (0, s5))))) := by
    rw [trlE_6]
    unfold trl_readSignTerm trl_readSignTerm_43
    rw [cK h h1 h3 h5, bq]
    simp only [gr (show -2147483648 ≤ s0 9 p ∧ s0 9 p ≤ 2147483647 by omega)]
    rcases k78 with ⟨z1, z2⟩ | ⟨z1, z2⟩
    · simp only [z1, if_pos z2, if_pos]
    · simp only [z1, if_neg (show ¬ s0 9 p = 45 by omega), if_neg (show ¬ (8 : Int) = 7 by decide)]
  have T0 : m_term t = bd (m_open (up (psh u (k + 1) 4) 159 (k + 1) kd)) (fun _ s3 => bd (m_go s3) (fun _ s4 => lt' (up s4 121 61 1) (fun s5 => some (0, s5)))) := by
    rw [hr]
    unfold m_term_243 m_term_279
    have a1 : psh u (k + 1) 4 121 10 = (p : Int) := by rw [psh_ne (by omega) (by omega)]; exact h4
    have a2 : psh u (k + 1) 4 127 p = s0 9 p := by rw [psh_ne (by omega) (by omega), h2.2.2.2.2.1]; exact hv
    rw [psh_ok u51 (by omega), bq, a1, gd_pos (by omega), Int.toNat_natCast, a2, gr (by omega), psh_51, show ((k + 1 + 1 : Nat) : Int) - 1 = ((k + 1 : Nat) : Int) by omega]
    rcases k78 with ⟨z1, z2⟩ | ⟨z1, z2⟩
    · rw [z1, if_pos z2, gd_pos (by omega), lt_eq, Int.toNat_natCast]
    · rw [z1, if_neg (by omega), gd_pos (by omega), lt_eq, Int.toNat_natCast]
  have hLp : LV s0 t0 N q s (up (psh u (k + 1) 4) 159 (k + 1) kd) p o w I C := LV_r hL' (SR_up (PG_SR psh_PG0 h2) (by omega)) (fun j hj => by rw [up_ne (by omega), psh_ne (by omega) (by omega)])
  have Pp : PG t (up (psh u (k + 1) 4) 159 (k + 1) kd) I C (k + 1) := PG_trans (PG_trans hPu (psh_PG (Nat.le_refl _)) (Nat.le_refl _) (Nat.le_refl _) (Nat.le_refl _)) (PG_upr (by omega)) (Nat.le_refl _) (Nat.le_refl _) (Nat.le_refl _)
  have p51 : up (psh u (k + 1) 4) 159 (k + 1) kd 121 51 = ((k + 1 + 1 : Nat) : Int) := by rw [up_ne (by omega)]; exact psh_51
  have p157 : up (psh u (k + 1) 4) 159 (k + 1) kd 157 (k + 1) = 4 := by rw [up_ne (by omega)]; exact psh_at.1
  have p159 : up (psh u (k + 1) 4) 159 (k + 1) kd 159 (k + 1) = kd := up_same _ _ _ _
  generalize up (psh u (k + 1) 4) 159 (k + 1) kd = tp at *
  have hLp' := hLp
  obtain ⟨d1, d2, d3, d4, d5, d6, d7, d8, d9, d10, d11, d12, d13, d14, d15, d16, d17⟩ := hLp
  by_cases co : o = 25
  · have e1 : up tp 121 48 26 121 11 = 0 := by rw [up_ne (by omega)]; exact d6
    have T1 : m_term t = some (0, up (flt (up tp 121 48 26) 2 P p) 121 61 1) := by
      rw [T0]
      unfold m_open
      rw [lt_eq, up_same, d8, co, gr (by omega), if_neg (by omega), show ((25 : Nat) : Int) + 1 = 26 from rfl, up_ne (show ¬ (121 = 121 ∧ 10 = 48) by omega), d4, rWr (SR_up d2 (by omega)) h e1 h5, bq, bq, rGoD (by rw [flt_11]; omega), bq, lt_eq]
    have RDx : RD t0 N P (up (flt (up tp 121 48 26) 2 P p) 121 61 1) 2 p 3100 := RD_up (flt_RD (SR_up d2 (by omega)) (by rw [up_ne (by omega)]; exact d4) h5 (by rw [up_ne (by omega)]; exact d13) (by omega) (by rw [up_same]; omega)) (Or.inr (Or.inr rfl))
    refine Or.inr ⟨_, by rw [eL_term t11 (by rw [t51]; omega) t61 T1]; exact eL_dead (by have := RDx.2.2.1; omega), 2, p, ⟨Or.inr rfl, h5⟩, RDx, PG0_trans (PG_mono Pp (Nat.zero_le _) (Nat.zero_le _) (Nat.zero_le _)) (PG0_trans (PG0_trans (PG_up (by omega)) flt_PG) (PG_up (by omega))), fun hb => ?_⟩
    obtain ⟨y1, y2, y3⟩ := hR.2.1 l s hl
    obtain ⟨y4, y5⟩ := y3 hb
    have zd := stp_CD (N := N) (p := p) (f := 2) h1 (by rw [y1, hb]) y5 y2
    have zd2 := CD_up (x := stp s 2 p N 22 5 - 1) zd (Or.inl rfl)
    rw [C0, cOpF h h1 y4 h3 h5 h7 co (by omega) rfl, bq, cz_term h ⟨Or.inr rfl, h5⟩ zd, bq, lt_eq, pad0 zd2.2.2.2.2.2.1, bq]
    exact ⟨0, _, rfl, zd2⟩
  have hp1 := tkL h h5 (by omega)
  have T1 : m_term t = some (0, up (up (up tp 121 48 ((o + 1 : Nat) : Int)) 121 10 ((p + 1 : Nat) : Int)) 121 61 1) := by
    rw [T0]
    unfold m_open
    rw [lt_eq, up_same, d8, gr (by omega), if_pos (by omega), bq, rGo (p := p) (by rw [up_ne (by omega)]; exact d6) (by rw [up_ne (by omega)]; exact d4), bq, lt_eq]
    rfl
  have E0 := eL_term t11 (by rw [t51]; omega) t61 T1
  have hLb := LV_open hLp' hp1 (by omega)
  have hLc : LV s0 t0 N q (up (up s 22 5 ((o + 1 : Nat) : Int)) 2 12 ((p + 1 : Nat) : Int)) (up (up (up tp 121 48 ((o + 1 : Nat) : Int)) 121 10 ((p + 1 : Nat) : Int)) 121 61 1) (p + 1) (o + 1) w I C := LV_r hLb (SR_up hLb.2.1 (by omega)) (fun j hj => up_ne (by omega))
  have Pc : PG tp (up (up (up tp 121 48 ((o + 1 : Nat) : Int)) 121 10 ((p + 1 : Nat) : Int)) 121 61 1) I C (k + 2) := PG_trans (PG_trans (PG_up (by omega)) (PG_up (by omega)) (Nat.le_refl _) (Nat.le_refl _) (Nat.le_refl _)) (PG_up (by omega)) (Nat.le_refl _) (Nat.le_refl _) (Nat.le_refl _)
  rw [cOp h h1 h3 h5 h7 (by omega) (by omega) rfl, bq] at C0
  rcases hT _ _ (p + 1) (o + 1) w I C (k + 1) l hLc (hR.1 _ _ _ (hR.1 _ _ _ hl).2.1).1 (up_same _ _ _ _) (by rw [up_ne (by omega), up_ne (by omega), up_ne (by omega)]; exact p51) (by omega) (by omega) with ⟨s2, t1, t2, p2, w2, C2, l2, e1, e2, e3, e4, e5, e6, e7, e8, e9, e10, e11⟩ | ⟨t', e1, f, u', e2, e3, e4, e5⟩
  case inr =>
    refine Or.inr ⟨t', by rw [E0, e1], f, u', e2, e3, PG0_trans (PG_mono Pp (Nat.zero_le _) (Nat.zero_le _) (Nat.zero_le _)) (PG0_trans (PG_mono Pc (Nat.zero_le _) (Nat.zero_le _) (Nat.zero_le _)) e4), fun hb => ?_⟩
    obtain ⟨r, s', g1, g2⟩ := e5 hb
    have zd2 := CD_up (x := s' 22 5 - 1) g2 (Or.inl rfl)
    rw [C0, g1, bq, lt_eq, pad0 zd2.2.2.2.2.2.1, bq]
    exact ⟨0, _, rfl, zd2⟩
  obtain ⟨g1, g2, g3, g4, g5, g6, g7, g8⟩ := e11
  have g1' := g1
  obtain ⟨i1, i2, i3, i4, i5, i6, i7, i8, i9, i10, i11, i12, i13, i14, i15, i16, i17⟩ := g1
  have P2 : PG tp t2 I C (k + 2) := PG_trans Pc g8 (Nat.le_refl _) (Nat.le_refl _) (Nat.le_refl _)
  have r157 : t2 157 (k + 1) = 4 := by rw [P2.2.2.2 157 (k + 1) (by omega) (by omega) (by omega)]; exact p157
  have r159 : t2 159 (k + 1) = kd := by rw [P2.2.2.2 159 (k + 1) (by omega) (by omega) (by omega)]; exact p159
  -- the sign is popped
  have hpop : pL t2 = pL (adt (up (up t2 121 51 ((k + 1 : Nat) : Int)) 121 48 (o : Int)) (I + l2.length) kd 0 0 (p2 : Int)) := by
    unfold pL
    refine lp_next ?_
    show m_behindTerm_0b t2 = _
    unfold m_behindTerm_0b
    have a1 : up (up t2 121 51 ((k + 1 : Nat) : Int)) 121 48 (o : Int) 121 51 = ((k + 1 : Nat) : Int) := by rw [up_ne (by omega), up_same]
    have a2 : up (up t2 121 51 ((k + 1 : Nat) : Int)) 121 48 (o : Int) 159 (k + 1) = kd := by rw [up_ne (by omega), up_ne (by omega)]; exact r159
    have a3 : up (up t2 121 51 ((k + 1 : Nat) : Int)) 121 48 (o : Int) 121 10 = (p2 : Int) := by rw [up_ne (by omega), up_ne (by omega)]; exact i4
    rw [e8, show ((k + 1 + 1 : Nat) : Int) - 1 = ((k + 1 : Nat) : Int) by omega, gd_pos (by omega), Int.toNat_natCast, r157, gr (by omega), if_pos rfl, lt_eq, lt_eq, up_ne (show ¬ (121 = 121 ∧ 48 = 51) by omega), i8, show ((o + 1 : Nat) : Int) - 1 = (o : Int) by omega, a1, gd_pos (by omega), Int.toNat_natCast, a2, a3, mad_ok (I := I + l2.length) (by rw [up_ne (by omega), up_ne (by omega)]; exact i13) (by omega), bq]
  have hs5 : (up s2 22 5 (s2 22 5 - 1)) = up s2 22 5 (o : Int) := by rw [i7, show ((o + 1 : Nat) : Int) - 1 = (o : Int) by omega]
  obtain ⟨s5, y1, y2, y3⟩ : ∃ s5, prg_add (if kd = 7 then 4 else 7) 0 0 (up s2 22 5 (o : Int)) = some (0, s5) ∧ R (l ++ l2 ++ [(kd, 0, 0, (p2 : Int))]) s5 ∧ MD (up s2 22 5 (o : Int)) s5 := by
    have g6' := (hR.1 _ _ (o : Int) g6).2.1
    rcases k78 with ⟨z1, z2⟩ | ⟨z1, z2⟩
    · rw [z1, if_pos rfl]; exact hR.2.2.2.2.2.2.2.2.2.2.1 _ _ _ g6'
    · rw [z1, if_neg (by decide)]; exact hR.2.2.2.2.2.2.2.2.2.2.2.1 _ _ _ g6'
  have hLz : LV s0 t0 N q (up s2 22 5 (o : Int)) (up (up t2 121 51 ((k + 1 : Nat) : Int)) 121 48 (o : Int)) p2 o w2 (I + l2.length) C2 := ⟨SC_up i1 (by omega), SR_up (SR_up i2 (by omega)) (by omega), by rw [up_ne (by omega)]; exact i3, by rw [up_ne (by omega), up_ne (by omega)]; exact i4, i5, by rw [up_ne (by omega), up_ne (by omega)]; exact i6, up_same _ _ _ _, up_same _ _ _ _, h9, by rw [up_ne (by omega)]; exact i10, by rw [up_ne (by omega), up_ne (by omega)]; exact i11, i12, by rw [up_ne (by omega), up_ne (by omega)]; exact i13, by rw [up_ne (by omega), up_ne (by omega)]; exact i14, i15, i16, by rw [up_ne (by omega), up_ne (by omega)]; exact i17⟩
  have Pz : PG t2 (adt (up (up t2 121 51 ((k + 1 : Nat) : Int)) 121 48 (o : Int)) (I + l2.length) kd 0 0 (p2 : Int)) (I + l2.length) C2 (k + 1) := PG_trans (PG_trans (PG_up (by omega)) (PG_up (by omega)) (Nat.le_refl _) (Nat.le_refl _) (Nat.le_refl _)) (PG_adt (Nat.le_refl _)) (Nat.le_refl _) (Nat.le_refl _) (Nat.le_refl _)
  refine Or.inl ⟨s5, t1, adt (up (up t2 121 51 ((k + 1 : Nat) : Int)) 121 48 (o : Int)) (I + l2.length) kd 0 0 (p2 : Int), p2, w2, C2, l2 ++ [(kd, 0, 0, (p2 : Int))], ?_, by rw [E0, e2], e3, e4, e5, e6, e7.trans hpop, ?_, ?_, ⟨by omega, .sgn _ _ _ _ _ _ _ _ (by omega) (by omega) e10.2⟩, ?_, by omega, ?_, g4, by omega, ?_, ?_, ?_⟩
  · rw [C0, e1, bq, lt_eq, hs5, y1, bq]
  · rw [adt_ne (by omega) (by omega), up_ne (by omega), up_same]
  · rw [adt_ne (by omega) (by omega), up_ne (by omega), up_ne (by omega)]; exact e9
  · rw [List.length_append, ← Nat.add_assoc]
    exact LV_adt (LV_MD hLz y3) (by omega)
  · rw [List.length_append]
    show _ + 1 ≤ _
    omega
  · rw [← List.append_assoc]; exact y2
  · exact IMs_app (C1 := C2) (IMs_pg g7 Pz (Nat.le_refl _) (Nat.le_refl _)) (IMs_one (by rw [up_ne (by omega), up_ne (by omega)]; exact i17) (by omega)) g4 (Nat.le_refl _)
  · exact PG_trans (PG_trans Pp P2 (Nat.le_refl _) (Nat.le_refl _) (by omega)) Pz (by omega) g4 (Nat.le_refl _)
end EXg
