/-! expressions: operators -/
section EXb
variable {F : Nat → Int} {n N : Nat} {P : Nat → Nat} {s0 t0 : iS} {R : List itm → iS → Prop} {b q : Int} {fv : Nat → Int}
theorem sgn_v (h : TKR 0 F n N P s0 t0) {p : Nat} (hN : p < N) {c : Int} (hc : 33 ≤ c ∧ c ≤ 126) (hk : s0 9 p = c) : t0 127 p = c := by
  have k := tkK h hN
  rw [if_pos rfl] at k
  omega
theorem e_loop (h : TKR 0 F n N P s0 t0) (hR : RHE R b fv s0 N) {m : Nat} (hT : TERM R b s0 t0 N P q m) (hm : 1 ≤ m) : ∀ (d : Nat) (s t1 t2 : iS) (p o w I C k turn : Nat) (l : List itm), N ≤ p + d → LV s0 t0 N q s t2 p o w I C → R l s → t1 121 61 = 0 → t1 121 11 = 0 → 0 < t1 121 51 → t1 121 51 < 100 → m_behindTerm t1 = m_behindTerm_121 (k : Int) t2 → t2 121 51 = ((k + 1 : Nat) : Int) → t2 121 61 = 0 → k ≤ o → (0 ≤ t2 157 k ∧ t2 157 k < 4) → (t2 157 k = 0 → t2 121 62 = 0) → t2 158 k = 0 → turn < p → 6 * (25 - o) + 6 ≤ m → (∃ s' t1' t2' p' w' C' l', trl_readExpression_6 (trlE m) (turn : Int) s = some (0, s') ∧ eL t1 = eL t1' ∧ t1' 121 61 = 0 ∧ t1' 121 11 = 0 ∧ 0 < t1' 121 51 ∧ t1' 121 51 < 100 ∧ m_behindTerm t1' = m_behindTerm_121 (k : Int) t2' ∧ t2' 121 51 = ((k + 1 : Nat) : Int) ∧ t2' 121 61 = 0 ∧ (∀ pp w0 l0, GX s0 1 o pp w0 p w 0 l0 → GX s0 1 o pp w0 p' w' 0 (l0 ++ l')) ∧ s0 9 p' ∉ sO ∧ t2' 157 k = t2 157 k ∧ t2' 159 k = t2 159 k ∧ t2' 158 k = 0 ∧ GD R s0 t0 N q s' t2' t2 p I C k l p' o w' C' l') ∨ (∃ t', eL t1 = some t' ∧ DEAD b s0 t0 N P t2 t' (trl_readExpression_6 (trlE m) (turn : Int) s)) := by
  have hN2 := N1001 h
  intro d
  induction d with
  | zero =>
    intro s t1 t2 p o w I C k turn l hd hL
    have := hL.2.2.2.2.1
    omega
  | succ d ih =>
    intro s t1 t2 p o w I C k turn l hd hL hl a1 a2 a3 a4 a5 a6 a7 hko h157 h62 h158 htu hfu
    have hL' := hL
    obtain ⟨h1, h2, h3, h4, h5, h6, h7, h8, h9, h10, h11, h12, h13, h14, h15, h16, h17⟩ := hL
    have kr := kRg h h5
    have C0 : trl_readExpression_6b (trlE m) (turn : Int) s = if s0 9 p ∈ sO then bd (trlE m 2 0 0 0 (up s 2 12 ((p + 1 : Nat) : Int))) (fun _ s9 => bd (trl_addOperator (s0 9 p) s9) (fun _ s10 => some (.inl (((turn : Int) + 1), s10)))) else some (.inr s) := by
      unfold trl_readExpression_6b
      rw [gr (by omega), if_neg (by omega), cK h h1 h3 h5, bq, cop (by omega), bq]
      by_cases c : s0 9 p ∈ sO
      · rw [if_pos c, if_pos c, gr (by omega), if_neg (by omega), cK h h1 h3 h5, bq, lt_eq, h3]
        rfl
      · rw [if_neg c, if_neg c, gr (by omega), if_pos rfl]
    by_cases c : s0 9 p ∈ sO
    case neg =>
      rw [if_neg c] at C0
      exact Or.inl ⟨s, t1, t2, p, w, C, [], e6_en C0, rfl, a1, a2, a3, a4, a5, a6, a7, fun pp w0 l0 z => by rw [List.append_nil]; exact z, c, rfl, rfl, h158, GD_nil hL' (Nat.le_refl _) hl PG_refl⟩
    rw [if_pos c] at C0
    have cr := sO_rg c
    have hp1 := tkL h h5 (by omega)
    have hv := sgn_v h h5 (c := s0 9 p) (by omega) rfl
    -- the reference takes the operator
    have R0 : m_behindTerm t1 = some (0, up (up (up t2 158 k (s0 9 p)) 121 10 ((p + 1 : Nat) : Int)) 121 61 1) := by
      rw [a5]
      unfold m_behindTerm_121
      rw [mop h h2 h4 h5, bq, if_pos c, gr (by omega), if_neg (by omega), h4, gd_pos (by omega), gd_pos (by omega), lt_eq, Int.toNat_natCast, Int.toNat_natCast, h2.2.2.2.2.1, hv, rGo (p := p) (by rw [up_ne (by omega)]; exact h6) (by rw [up_ne (by omega)]; exact h4), bq, lt_eq]
    have E0 := eL_bt a2 ⟨a3, a4⟩ a1 R0
    have hL3 : LV s0 t0 N q (up s 2 12 ((p + 1 : Nat) : Int)) (up (up (up t2 158 k (s0 9 p)) 121 10 ((p + 1 : Nat) : Int)) 121 61 1) (p + 1) o w I C :=
      LV_r (LV_go (LV_r hL' (SR_up h2 (by omega)) (fun j hj => up_ne (by omega))) hp1) (SR_up (SR_up (SR_up h2 (by omega)) (by omega)) (by omega)) (fun j hj => up_ne (by omega))
    have P3 : PG t2 (up (up (up t2 158 k (s0 9 p)) 121 10 ((p + 1 : Nat) : Int)) 121 61 1) I C k := PG_trans (PG_trans (PG_upr (by omega)) (PG_up (by omega)) (Nat.le_refl _) (Nat.le_refl _) (Nat.le_refl _)) (PG_up (by omega)) (Nat.le_refl _) (Nat.le_refl _) (Nat.le_refl _)
    rcases hT _ _ (p + 1) o w I C k l hL3 (hR.1 l s _ hl).1 (up_same _ _ _ _) (by rw [up_ne (by omega), up_ne (by omega), up_ne (by omega)]; exact a6) hko hfu with ⟨s', t1', t2', p', w', C', l', e1, e2, e3, e4, e5, e6, e7, e8, e9, e10, e11⟩ | ⟨t', e1, f, u, e2, e3, e4, e5⟩
    case inr =>
      refine Or.inr ⟨t', by rw [E0, e1], f, u, e2, e3, PG_trans (PG_mono P3 (Nat.zero_le _) (Nat.zero_le _) (Nat.zero_le _)) e4 (Nat.le_refl _) (Nat.le_refl _) (Nat.le_refl _), fun hb => ?_⟩
      obtain ⟨r, s', g1, g2⟩ := e5 hb
      rw [g1, bq, ao0 g2.2.2.2.2.2.1 ⟨by omega, by omega⟩, bq] at C0
      exact ⟨0, s', by rw [e6_nx C0, cz_6 h g2 ⟨by omega, by omega⟩], g2⟩
    have e11' := e11
    obtain ⟨g1, g2, g3, g4, g5, g6, g7, g8⟩ := e11
    have g1' := g1
    obtain ⟨i1, i2, i3, i4, i5, i6, i7, i8, i9, i10, i11, i12, i13, i14, i15, i16, i17⟩ := g1
    have r157 : t2' 157 k = t2 157 k := by rw [g8.2.2.2 157 k (by omega) (by omega) (by omega), up_ne (by omega), up_ne (by omega), up_ne (by omega)]
    have r158 : t2' 158 k = s0 9 p := by rw [g8.2.2.2 158 k (by omega) (by omega) (by omega), up_ne (by omega), up_ne (by omega), up_same]
    have r159 : t2' 159 k = t2 159 k := by rw [g8.2.2.2 159 k (by omega) (by omega) (by omega), up_ne (by omega), up_ne (by omega), up_ne (by omega)]
    have r62 : t2' 121 62 = t2 121 62 := by rw [PG_c g8 (by omega), up_ne (by omega), up_ne (by omega), up_ne (by omega)]
    have B1 := bt_58 (I := I + l'.length) (p := p') e7 e8 (by omega) (by rw [r157]; exact h157) (by rw [r157, r62]; exact h62) (by rw [r158]; omega) i13 (by omega) i4
    rw [r158, if_neg (by omega)] at B1
    obtain ⟨s3, f1, f2, f3⟩ := hR.2.2.2.2.2.2.2.2.2.1 (l ++ l') s' (s0 9 p) (p' : Int) g6 c
    rw [e1, bq, f1, bq] at C0
    -- the item of the operator
    have hL5 : LV s0 t0 N q s3 (up (adt t2' (I + l'.length) 6 (s0 9 p) 0 (p' : Int)) 158 k 0) p' o w' (I + l'.length + 1) C' :=
      LV_r (LV_adt (LV_MD g1' f3) (by omega)) (SR_up (PG_SR (PG_adt (C := 0) (K := 0) (Nat.le_refl _)) i2) (by omega)) (fun j hj => up_ne (by omega))
    have P5 : PG t2' (up (adt t2' (I + l'.length) 6 (s0 9 p) 0 (p' : Int)) 158 k 0) (I + l'.length) C' k := PG_trans (PG_adt (Nat.le_refl _)) (PG_upr (by omega)) (Nat.le_refl _) (Nat.le_refl _) (Nat.le_refl _)
    have G5 : GD R s0 t0 N q s3 (up (adt t2' (I + l'.length) 6 (s0 9 p) 0 (p' : Int)) 158 k 0) t2 p I C k l p' o w' C' (l' ++ [(6, s0 9 p, 0, (p' : Int))]) := by
      refine ⟨by rw [List.length_append, ← Nat.add_assoc]; exact hL5, by omega, by rw [List.length_append]; show _ + 1 ≤ _; omega, g4, by omega, by rw [← List.append_assoc]; exact f2, ?_, ?_⟩
      · refine IMs_app (C1 := C') (IMs_pg g7 P5 (Nat.le_refl _) (Nat.le_refl _)) ?_ g4 (Nat.le_refl _)
        exact IMs_pg (K := 0) (IMs_one i17 (by omega)) (PG_upr (by omega)) (Nat.le_refl _) (Nat.le_refl _)
      · exact PG_trans (PG_trans P3 g8 (Nat.le_refl _) (Nat.le_refl _) (by omega)) P5 (by omega) g4 (Nat.le_refl _)
    have q157 : up (adt t2' (I + l'.length) 6 (s0 9 p) 0 (p' : Int)) 158 k 0 157 k = t2 157 k := by rw [up_ne (by omega), adt_ne (by omega) (by omega), r157]
    have q159 : up (adt t2' (I + l'.length) 6 (s0 9 p) 0 (p' : Int)) 158 k 0 159 k = t2 159 k := by rw [up_ne (by omega), adt_ne (by omega) (by omega), r159]
    rcases ih s3 t1' _ p' o w' (I + l'.length + 1) C' k (turn + 1) (l ++ l' ++ [(6, s0 9 p, 0, (p' : Int))]) (by omega) hL5 f2 e3 e4 e5 e6 B1 (by rw [up_ne (by omega), adt_ne (by omega) (by omega)]; exact e8) (by rw [up_ne (by omega), adt_ne (by omega) (by omega)]; exact e9) hko (by rw [q157]; exact h157) (by rw [q157, up_ne (by omega), adt_ne (by omega) (by omega), r62]; exact h62) (up_same _ _ _ _) (by omega) hfu with ⟨s4, t1'', t2'', p'', w'', C'', l'', j1, j2, j3, j4, j5, j6, j7, j8, j9, j9b, j10, j11, j12, j12b, j13⟩ | ⟨t', j1, j2⟩
    · refine Or.inl ⟨s4, t1'', t2'', p'', w'', C'', l' ++ [(6, s0 9 p, 0, (p' : Int))] ++ l'', by rw [e6_nx C0]; exact j1, by rw [E0, e2, j2], j3, j4, j5, j6, j7, j8, j9, fun pp w0 l0 z => by rw [← List.append_assoc]; exact j9b pp w0 _ (.op o pp w0 p w p' w' l0 l' _ _ z c e10.2), j10, by rw [j11, q157], by rw [j12, q159], j12b, ?_⟩
      refine GD_cat G5 ?_ (Nat.le_refl _)
      rw [List.length_append, ← Nat.add_assoc, ← List.append_assoc]
      exact j13
    · obtain ⟨f, u, k1, k2, k3, k4⟩ := j2
      refine Or.inr ⟨t', by rw [E0, e2, j1], f, u, k1, k2, PG_trans (PG_mono G5.2.2.2.2.2.2.2 (Nat.zero_le _) (Nat.zero_le _) (Nat.zero_le _)) k3 (Nat.le_refl _) (Nat.le_refl _) (Nat.le_refl _), fun hb => ?_⟩
      rw [e6_nx C0]
      exact k4 hb
theorem expr_ok (h : TKR 0 F n N P s0 t0) (hR : RHE R b fv s0 N) {m : Nat} (hT : TERM R b s0 t0 N P q m) (hm : 1 ≤ m) : EXPR R b s0 t0 N P q (m + 1) := by
  have hN2 := N1001 h
  intro s t p o w I C k l hL hl a1 a2 hko h157 h62 h158 hfu
  rw [trlE_1]
  unfold trl_readExpression
  rcases hT s t p o w I C k l hL hl a1 a2 hko (by omega) with ⟨s', t1, t2, p', w', C', l', e1, e2, e3, e4, e5, e6, e7, e8, e9, e10, e11⟩ | ⟨t', e1, f, u, e2, e3, e4, e5⟩
  case inr =>
    refine Or.inr ⟨t', e1, f, u, e2, e3, e4, fun hb => ?_⟩
    obtain ⟨r, s', g1, g2⟩ := e5 hb
    rw [g1, bq, cz_6 h g2 (by omega)]
    exact ⟨0, s', rfl, g2⟩
  rw [e1, bq]
  have e11' := e11
  obtain ⟨g1, g2, g3, g4, g5, g6, g7, g8⟩ := e11
  have g1' := g1
  obtain ⟨i1, i2, i3, i4, i5, i6, i7, i8, i9, i10, i11, i12, i13, i14, i15, i16, i17⟩ := g1
  have r157 : t2 157 k = t 157 k := g8.2.2.2 157 k (by omega) (by omega) (by omega)
  have r158 : t2 158 k = 0 := by rw [g8.2.2.2 158 k (by omega) (by omega) (by omega)]; exact h158
  have r159 : t2 159 k = t 159 k := g8.2.2.2 159 k (by omega) (by omega) (by omega)
  have r62 : t2 121 62 = t 121 62 := PG_c g8 (by omega)
  have ho := hL.2.2.2.2.2.2.2.2.1
  have B1 := bt_58 (I := I + l'.length) (p := p') e7 e8 (by omega) (by rw [r157]; exact h157) (by rw [r157, r62]; exact h62) (by rw [r158]; omega) i13 (by omega) i4
  rw [r158, if_pos rfl] at B1
  rcases e_loop h hR hT hm N s' t1 t2 p' o w' (I + l'.length) C' k 0 (l ++ l') (by omega) g1' g6 e3 e4 e5 e6 B1 e8 e9 hko (by rw [r157]; exact h157) (by rw [r157, r62]; exact h62) r158 (by omega) (by omega) with ⟨s4, t1'', t2'', p'', w'', C'', l'', j1, j2, j3, j4, j5, j6, j7, j8, j9, j9b, j10, j11, j12, j12b, j13⟩ | ⟨t', j1, j2⟩
  · exact Or.inl ⟨s4, t1'', t2'', p'', w'', C'', l' ++ l'', j1, by rw [e2, j2], j3, j4, j5, j6, j7, j8, j9, ⟨by have := j13.2.1; omega, j9b p w l' (.one _ _ _ _ _ _ e10.2)⟩, j10, by rw [j11, r157], by rw [j12, r159], j12b, GD_cat ⟨g1', g2, g3, g4, g5, g6, g7, PG_mono g8 (Nat.le_refl _) (Nat.le_refl _) (by omega)⟩ j13 (Nat.le_refl _)⟩
  · obtain ⟨f, u, k1, k2, k3, k4⟩ := j2
    exact Or.inr ⟨t', by rw [e2, j1], f, u, k1, k2, PG_trans (PG_mono g8 (Nat.zero_le _) (Nat.zero_le _) (Nat.zero_le _)) k3 (Nat.le_refl _) (Nat.le_refl _) (Nat.le_refl _), k4⟩
end EXb
