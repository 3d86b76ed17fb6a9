/-! a sub: its body -/
section TXl
variable {F : Nat → Int} {n N : Nat} {P : Nat → Nat} {s0 t0 : iS} {T : TXP} {TV : Int → Int → Prop} {Z : iS → Prop} {b : Int} {K : List Nat} {U : List urec} {W : List wrec} {Y : List Nat} {A : List (List itm)} {s t t' : iS} {p o w I C : Nat} {q so : Int}
theorem LV_of (h : LXT s0 t0 N s t p o w I C) (hC : C + 5 ≤ p) (hq : t 121 17 = q + 1) : LV s0 t0 N q s t p o w I C := by
  obtain ⟨h1, h2, h3, h4, h5, h6, h7, h8, h9, h10, h11, h12, h13, h14, h15, h16⟩ := h
  exact ⟨h1, h2, h3, h4, h5, h6, h7, h8, h9, h10, h11, h12, h13, h14, h15, hC, hq⟩
theorem LXT_of (h : LV s0 t0 N q s t p o w I C) : LXT s0 t0 N s t p o w I C := by
  obtain ⟨h1, h2, h3, h4, h5, h6, h7, h8, h9, h10, h11, h12, h13, h14, h15, h16, h17⟩ := h
  exact ⟨h1, h2, h3, h4, h5, h6, h7, h8, h9, h10, h11, h12, h13, h14, h15, Or.inr h16⟩
theorem RXT_of (h : RXT K U W t) (hf : ∀ c k, (c ≠ 121 ∧ c < 144 ∧ c ≠ 136 ∨ c = 121 ∧ (k = 14 ∨ k = 17 ∨ k = 25 ∨ k = 16 ∨ k = 60)) → t' c k = t c k) : RXT K U W t' := by
  obtain ⟨a1, a2, a3, a4, a5, a6, a7, a8, a9, a10, a11, a12, a13⟩ := h
  exact ⟨by rw [hf 121 14 (by omega)]; exact a1, fun i hi => by rw [hf 128 i (by omega)]; exact a2 i hi, a3, by rw [hf 121 17 (by omega)]; exact a4, fun i hi => by rw [hf 130 i (by omega), hf 131 i (by omega), hf 132 i (by omega), hf 133 i (by omega)]; exact a5 i hi, a6, by rw [hf 121 25 (by omega)]; exact a7, fun i hi => by rw [hf 137 i (by omega), hf 138 i (by omega), hf 139 i (by omega), hf 140 i (by omega), hf 141 i (by omega), hf 142 i (by omega), hf 143 i (by omega)]; exact a8 i hi, a9, by rw [hf 121 16 (by omega)]; exact a10, fun q => by rw [hf 121 60 (by omega)]; exact a11 q, fun c hc => by rw [hf 129 c (by omega)]; exact a12 c hc, fun u hu => by rw [hf 134 u (by omega), hf 135 u (by omega)]; exact a13 u hu⟩
/-- the body of a sub -/
theorem x_body (h : TKR 0 F n N P s0 t0) (hT : RHT T TV Z b s0 N P) (hU : U ≠ []) (hso : so = 1 ∨ so = 2 ∨ so = 3) (hlast : ∃ x y, U.getLast? = some (x, so, y)) (hL : LXT s0 t0 N s t p (o + 1) w I C) (hs : T 2 K U W Y A s) (hX : RXT K U W t) (ho : 1 ≤ o) (hp : 5 ≤ p) (h50 : t 121 50 = 0) :
    (∃ s2 t2 p2 l w2 C2, trl_readSub_116 (256 + so) s = some (0, s2) ∧ m_subr_235 t = some (0, t2) ∧ LXT s0 t0 N s2 t2 p2 o w2 (I + l.length + 2) C2 ∧ T 3 K U W Y (A ++ [l ++ [(0, 0, 0, (p2 : Int)), (18, 1, 0, (p2 : Int))]]) s2 ∧ RXT K U W t2 ∧ (p < p2 ∧ ∃ pe lb, p2 = pe + 1 ∧ GY s0 t2 1 (o + 1) I p w 0 pe w2 lb l) ∧ C ≤ C2 ∧ IMs t2 I ((U.length : Int) - 1) C C2 (l ++ [(0, 0, 0, (p2 : Int)), (18, 1, 0, (p2 : Int))]) ∧ t2 136 (U.length - 1) = (I : Int) ∧ (∀ k, k ≠ U.length - 1 → t2 136 k = t 136 k) ∧ (∀ c k, 144 ≤ c → c ≤ 148 → k < I → t2 c k = t c k) ∧ (∀ c k, 149 ≤ c → c ≤ 156 → k < C → t2 c k = t c k)) ∨
    (∃ t2, m_subr_235 t = some (0, t2) ∧ DX 3400 b Z s0 t0 N P (t 121 17) t2 (trl_readSub_116 (256 + so) s)) := by
  have hN2 := N1001 h
  have hL' := hL
  obtain ⟨h1, h2, h3, h4, h5, h6, h7, h8, h9, h10, h11, h12, h13, h14, h15, h16⟩ := hL
  have hX' := hX
  obtain ⟨a1, a2, a3, a4, a5, a6, _⟩ := hX
  have hU1 : 0 < U.length := List.length_pos_iff.mpr hU
  obtain ⟨R, fv, s1, r1, r2, r3, r4, r5, r6, hz1, r7⟩ := hT.2.2.2.2.2.2.2.2.2.2 K U W Y A s so hs h1 hlast
  have L1 : LXT s0 t0 N s1 (up (up t 136 (U.length - 1) (I : Int)) 121 55 0) p (o + 1) w I C := LXT_r (LXT_MX hL' r5) (SR_up (SR_up h2 (by omega)) (by omega)) (fun k hk => by rw [up_ne (by omega), up_ne (by omega)])
  have V1 : LV s0 t0 N ((U.length : Int) - 1) s1 (up (up t 136 (U.length - 1) (I : Int)) 121 55 0) p (o + 1) w I C := LV_of L1 (by omega) (by rw [up_ne (by omega), up_ne (by omega), a4]; omega)
  have P0 : ∀ c k, ¬ (c = 136 ∧ k = U.length - 1) → ¬ (c = 121 ∧ k = 55) → up (up t 136 (U.length - 1) (I : Int)) 121 55 0 c k = t c k := fun c k q1 q2 => by rw [up_ne (by omega), up_ne (by omega)]
  have Eq : m_subr_235 t = bd ((lS 1 (up (up t 136 (U.length - 1) (I : Int)) 121 55 0)).bind (fun e => some ((0 : Int), e))) (fun _ s3 => gd (rg (s3 121 11)) (if (s3 121 11) ≤ 0 then bd (m_add 0 0 0 (s3 121 10) s3) (fun r6 s6 => bd (m_add 18 1 0 (s6 121 10) s6) (fun r7 s7 => some (0, s7))) else some (0, s3))) := by
    unfold m_subr_235 m_statements
    rw [gd_pos (by omega), lt_eq, lt_eq, stq, show (t 121 17 - 1).toNat = U.length - 1 by omega, h13]
  have Ec : trl_readSub_116 (256 + so) s = bd (trlS 90 0 0 0 0 s1) (fun _ s3 => bd (prg_add 0 0 0 s3) (fun _ s4 => bd (prg_add 16 0 0 s4) (fun _ s5 => bd (prg_endSub s5) (fun _ s6 => bd (tok_expect 125 s6) (fun _ s7 => lt' (up s7 22 5 ((s7 22 5) - 1)) (fun s8 => some (0, s8))))))) := by
    unfold trl_readSub_116
    rw [lt_eq, r3, bq]
  rw [Eq, Ec]
  rcases stm_ok (q := (U.length : Int) - 1) h r1 r2 90 s1 _ p (o + 1) w I C 0 0 [] V1 r4 r6 (by rw [P0 121 50 (by omega) (by omega)]; exact h50) (up_same _ _ _ _) (by omega) (by omega) (by omega) (by omega) with ⟨s2, t2, p2, w2, C2, lb2, l2, c1, c2, c3, c4, c5⟩ | ⟨t2, c1, c2⟩
  · have c5' := c5
    obtain ⟨d1, d2, d3, d4, d5, d6, d7, d8, d9, d10, d11⟩ := c5
    rw [List.nil_append] at d9
    have d1' := d1
    obtain ⟨i1, i2, i3, i4, i5, i6, i7, i8, i9, i10, i11, i12, i13, i14, i15, i16, i17⟩ := d1
    obtain ⟨s3, s4, s5, g1, g2, g3, g4, g5⟩ := r7 l2 s2 ((p2 + 1 : Nat) : Int) d9 i1
    have X5 := LXT_MX (LXT_of d1') g5
    rw [c1, bq, g1, bq, g2, bq, g3, bq, c2]
    by_cases k125 : s0 9 p2 = 125
    · have hp2 : p2 + 1 < N := tkL h i5 (by omega)
      have cc := cc_sign (G := fun s8 => some ((0 : Int), s8)) h (LV_of X5 i16 i17) (c := 125) (by omega) k125
      have cl := cl_sign h d1' (c := 125) (by omega)
      rw [if_pos k125] at cl
      have lc := (lS_cl h i2 i6 i4 i5 k125 cl (B := 0) (by rw [up_ne (by omega), up_ne (by omega)]; exact d4) (by omega)).1 rfl
      have e33 : up (up t2 121 10 ((p2 + 1 : Nat) : Int)) 121 48 (o : Int) 121 33 = ((I + l2.length : Nat) : Int) := by rw [up_ne (by omega), up_ne (by omega)]; exact i13
      have e11 : up (up t2 121 10 ((p2 + 1 : Nat) : Int)) 121 48 (o : Int) 121 11 = 0 := by rw [up_ne (by omega), up_ne (by omega)]; exact i6
      have e10 : up (up t2 121 10 ((p2 + 1 : Nat) : Int)) 121 48 (o : Int) 121 10 = ((p2 + 1 : Nat) : Int) := by rw [up_ne (by omega), up_same]
      have e17 : up (up t2 121 10 ((p2 + 1 : Nat) : Int)) 121 48 (o : Int) 121 17 = (U.length : Int) - 1 + 1 := by rw [up_ne (by omega), up_ne (by omega)]; exact i17
      have cn : ∀ c k, ¬ (c = 121 ∧ (k = 10 ∨ k = 48)) → up (up t2 121 10 ((p2 + 1 : Nat) : Int)) 121 48 (o : Int) c k = t2 c k := fun c k q => by rw [up_ne (by omega), up_ne (by omega)]
      have Lc : LXT s0 t0 N (up (up s5 2 12 ((p2 + 1 : Nat) : Int)) 22 5 (o : Int)) (up (up t2 121 10 ((p2 + 1 : Nat) : Int)) 121 48 (o : Int)) (p2 + 1) o w2 (I + l2.length) C2 := LXT_of (LV_close (LV_of X5 i16 i17) hp2)
      have imc : IMs (up (up t2 121 10 ((p2 + 1 : Nat) : Int)) 121 48 (o : Int)) I ((U.length : Int) - 1) C C2 l2 := IMs_x d10 (fun c k q1 q2 _ _ => cn c k (by omega)) (fun c k q1 q2 _ _ => cn c k (by omega))
      rw [show bd (tok_expect 125 s5) (fun _ s7 => lt' (up s7 22 5 ((s7 22 5) - 1)) (fun s8 => some ((0 : Int), s8))) = _ from cc, lc, bn, bq]
      have T5 := (hT.1 _ _ _ _ _ _ _ (o : Int) (hT.1 _ _ _ _ _ _ _ ((p2 + 1 : Nat) : Int) g4).1).2
      generalize up (up t2 121 10 ((p2 + 1 : Nat) : Int)) 121 48 (o : Int) = tc at *
      have q1 : I + l2.length < 5000 := by omega
      have q2 : I + l2.length + 1 < 5000 := by omega
      have e10' : adt tc (I + l2.length) 0 0 0 ((p2 + 1 : Nat) : Int) 121 10 = ((p2 + 1 : Nat) : Int) := by rw [adt_ne (by omega) (by omega)]; exact e10
      rw [e11, gr (by omega), if_pos (by omega), e10, mad_ok e33 q1, bq, e10', mad_ok adt_33 q2, bq]
      have an : ∀ c k, (c < 144 ∨ 148 < c ∨ k < I + l2.length) → ¬ (c = 121 ∧ k = 33) → adt (adt tc (I + l2.length) 0 0 0 ((p2 + 1 : Nat) : Int)) (I + l2.length + 1) 18 1 0 ((p2 + 1 : Nat) : Int) c k = tc c k := fun c k z1 z2 => by rw [adt_ne (by omega) z2, adt_ne (by omega) z2]
      refine Or.inl ⟨_, _, p2 + 1, l2, w2, C2, rfl, rfl, ?_, T5, ?_, ⟨by omega, p2, lb2, rfl, GY_t c3.2 (fun k z1 z2 => by rw [an 145 k (by omega) (by omega), cn 145 k (by omega)])⟩, by omega, ?_, ?_, fun k hk => ?_, fun c k z1 z2 z3 => ?_, fun c k z1 z2 z3 => ?_⟩
      · obtain ⟨j1, j2, j3, j4, j5, j6, j7, j8, j9, j10, j11, j12, j13, j14, j15, j16⟩ := Lc
        refine ⟨j1, ?_, j3, by rw [an 121 10 (by omega) (by omega)]; exact j4, j5, by rw [an 121 11 (by omega) (by omega)]; exact j6, j7, by rw [an 121 48 (by omega) (by omega)]; exact j8, j9, j10, by rw [an 121 49 (by omega) (by omega)]; exact j11, j12, adt_33, by rw [an 121 39 (by omega) (by omega)]; exact j14, by omega, by omega⟩
        unfold SR at j2 ⊢
        rw [show adt (adt tc (I + l2.length) 0 0 0 ((p2 + 1 : Nat) : Int)) (I + l2.length + 1) 18 1 0 ((p2 + 1 : Nat) : Int) 123 = tc 123 from funext fun k => an 123 k (by omega) (by omega), show adt (adt tc (I + l2.length) 0 0 0 ((p2 + 1 : Nat) : Int)) (I + l2.length + 1) 18 1 0 ((p2 + 1 : Nat) : Int) 124 = tc 124 from funext fun k => an 124 k (by omega) (by omega), show adt (adt tc (I + l2.length) 0 0 0 ((p2 + 1 : Nat) : Int)) (I + l2.length + 1) 18 1 0 ((p2 + 1 : Nat) : Int) 125 = tc 125 from funext fun k => an 125 k (by omega) (by omega), show adt (adt tc (I + l2.length) 0 0 0 ((p2 + 1 : Nat) : Int)) (I + l2.length + 1) 18 1 0 ((p2 + 1 : Nat) : Int) 126 = tc 126 from funext fun k => an 126 k (by omega) (by omega), show adt (adt tc (I + l2.length) 0 0 0 ((p2 + 1 : Nat) : Int)) (I + l2.length + 1) 18 1 0 ((p2 + 1 : Nat) : Int) 127 = tc 127 from funext fun k => an 127 k (by omega) (by omega), an 121 3 (by omega) (by omega)]
        exact j2
      · exact RXT_of hX' (fun c k z => by rw [an c k (by omega) (by omega), cn c k (by omega), d11.1 c k (by omega), P0 c k (by omega) (by omega)])
      · have m0 : IMs (adt tc (I + l2.length) 0 0 0 ((p2 + 1 : Nat) : Int)) (I + l2.length) ((U.length : Int) - 1) C2 C2 [(0, 0, 0, ((p2 + 1 : Nat) : Int))] := IMs_one e17 (by omega)
        have m1 : IMs (adt (adt tc (I + l2.length) 0 0 0 ((p2 + 1 : Nat) : Int)) (I + l2.length + 1) 18 1 0 ((p2 + 1 : Nat) : Int)) (I + l2.length + 1) ((U.length : Int) - 1) C2 C2 [(18, 1, 0, ((p2 + 1 : Nat) : Int))] := IMs_one (by rw [adt_ne (by omega) (by omega)]; exact e17) (by omega)
        have m0' : IMs (adt (adt tc (I + l2.length) 0 0 0 ((p2 + 1 : Nat) : Int)) (I + l2.length + 1) 18 1 0 ((p2 + 1 : Nat) : Int)) (I + l2.length) ((U.length : Int) - 1) C2 C2 [(0, 0, 0, ((p2 + 1 : Nat) : Int))] := IMs_x m0 (fun c k z1 z2 z3 z4 => adt_ne (by rw [List.length_singleton] at z4; omega) (by omega)) (fun c k z1 z2 z3 z4 => by omega)
        have m01 := IMs_app m0' m1 (Nat.le_refl _) (Nat.le_refl _)
        exact IMs_app (IMs_x imc (fun c k z1 z2 z3 z4 => an c k (by omega) (by omega)) (fun c k z1 z2 z3 z4 => an c k (by omega) (by omega))) m01 d7 (Nat.le_refl _)
      · rw [an 136 _ (by omega) (by omega), cn 136 _ (by omega), d11.1 136 _ (by omega), up_ne (by omega), up_same]
      · rw [an 136 _ (by omega) (by omega), cn 136 _ (by omega), d11.1 136 _ (by omega), P0 136 k (by omega) (by omega)]
      · rw [an c k (by omega) (by omega), cn c k (by omega), d11.2.1 c k z1 z2 z3, P0 c k (by omega) (by omega)]
      · rw [an c k (by omega) (by omega), cn c k (by omega), d11.2.2.1 c k z1 z2 z3, P0 c k (by omega) (by omega)]
    · have hf : (if s0 9 p2 = 2 then (2 : Int) else 1) = 1 ∨ (if s0 9 p2 = 2 then (2 : Int) else 1) = 2 := by split <;> omega
      have rd := flt_RD (f := (if s0 9 p2 = 2 then (2 : Int) else 1)) (P := P) (M := 3400) i2 i4 i5 i13 (by omega) (by omega)
      have hft : ft (if s0 9 p2 = 2 then (2 : Int) else 1) p2 N := ⟨hf, i5⟩
      have gz := RZ_f hft rd
      rw [mst_dead h i2 i6 i4 i5 c3.1 k125, bn, bq, gr (by omega), if_neg (by omega)]
      refine Or.inr ⟨_, rfl, _, p2, hft, rd, by rw [flt_ne (by omega), i17, a4]; omega, fun hb => ?_⟩
      obtain ⟨y1, y2, y3, y4⟩ := hT.2.1 _ _ _ _ _ _ _ g4
      have cd := stp_CD (N := N) (p := p2) (f := (if s0 9 p2 = 2 then (2 : Int) else 1)) g5.1 (by rw [y1, hb]) (y3 hb).2 y2
      refine ⟨0, _, by rw [cEx0 h g5.1 (y3 hb).1 X5.2.2.1 i5 (by omega) k125, bq, lt_eq], CD_upx cd (by omega), hT.2.2.2.1 _ _ y4 (fun c k z1 z2 z3 => ?_)⟩
      rw [up_ne (by omega)]
      exact stp_ZK c k z1 z2 z3
  · obtain ⟨f, u, z1, z2, z3, z4⟩ := c2
    have gz := RZ_f z1 z2
    rw [c1, bn, bq, gr (by omega), if_neg (by omega)]
    refine Or.inr ⟨t2, rfl, f, u, z1, z2, by rw [z3.1 121 17 (by omega), P0 121 17 (by omega) (by omega)], fun hb => ?_⟩
    obtain ⟨r, s', e, hd⟩ := z4 hb
    have md := ftrlS 90 0 0 0 0 s1 (r, s') e
    have hz : Z s' := hT.2.2.2.1 _ _ hz1 (fun c k w1 w2 w3 => md c k (by simp only [L_trlS, List.mem_cons, List.not_mem_nil, or_false]; omega) (by simp only [G_trlS, List.mem_cons, List.not_mem_nil, or_false, Prod.mk.injEq]; omega))
    rw [e, bq, pad0 hd.2.2.2.2.2.1, bq, pad0 hd.2.2.2.2.2.1, bq, cz_end hd, bq, cz_ex h z1 hd (by omega), bq, lt_eq]
    exact ⟨0, _, rfl, CD_upx hd (by omega), hT.2.2.2.1 _ _ hz (KS_ZK (KS_up (by omega)))⟩
end TXl
