/-! a class, whole -/
section TXr
variable {F : Nat → Int} {n N : Nat} {P : Nat → Nat} {s0 t0 : iS} {T : TXP} {TV : Int → Int → Prop} {Z : iS → Prop} {b : Int} {g : Nat} {K : List Nat} {U : List urec} {W : List wrec} {Y : List Nat} {A : List (List itm)} {s t : iS} {p o w I C : Nat}
theorem r_cnam (h : TKR 0 F n N P s0 t0) (hL : LXT s0 t0 N s t p o w I C) (hX : RXT K U W t) :
    (K.length < 12 → m_texts_93 t = bd (m_openSign 123 (up (ncl t K.length) 121 10 ((p + 1 : Nat) : Int))) (fun _ s10 => m_texts_170 s10)) ∧
    (K.length = 12 → m_texts_93 t = some (.inr (.inl (flt t 2 P p)))) := by
  have hN2 := N1001 h
  obtain ⟨h1, h2, h3, h4, h5, h6, h7, h8, h9, h10, h11, h12, h13, h14, h15, h16⟩ := hL
  obtain ⟨a1, a2, a3, _⟩ := hX
  refine ⟨fun c => ?_, fun c => ?_⟩
  · have room : m_room (t 121 14) 12 (t 121 10) t = some (0, t) := by
      unfold m_room
      rw [a1, gr (by omega), gr (by omega), if_pos (by omega)]
    have e14 : up t 128 K.length (t 121 10) 121 14 = (K.length : Int) := by rw [up_ne (by omega)]; exact a1
    have e14' : up (up t 128 K.length (t 121 10)) 129 K.length 0 121 14 = (K.length : Int) := by rw [up_ne (by omega)]; exact e14
    unfold m_texts_93 m_texts_114
    rw [h6, gr (by omega), if_pos rfl, room, bq, h6, gr (by omega), if_pos (by omega), a1, gd_pos (by omega), Int.toNat_natCast, lt_eq, e14, gd_pos (by omega), Int.toNat_natCast, lt_eq, lt_eq, e14', lt_eq]
    have e : up (up (up (up t 128 K.length (t 121 10)) 129 K.length 0) 121 14 ((K.length : Int) + 1)) 121 60 0 = ncl t K.length := rfl
    rw [e, rGo (p := p) (by rw [ncl_ne (by omega) (by omega)]; exact h6) (by rw [ncl_ne (by omega) (by omega)]; exact h4), bq]
  · have room : m_room (t 121 14) 12 (t 121 10) t = some (0, flt t 2 P p) := by
      unfold m_room
      rw [a1, gr (by omega), gr (by omega), if_neg (by omega), h4, rWr h2 h h6 h5, bq]
    unfold m_texts_93
    rw [h6, gr (by omega), if_pos rfl, room, bq]
    exact RZ_114 (M := 3400) (f := 2) (u := p) ⟨Or.inr rfl, h5⟩ (flt_RD h2 h4 h5 h13 (by omega) (by omega))
theorem cz_tail {v x f : Int} {u : Nat} (h : TKR 0 F n N P s0 t0) (hf : ft f u N) (hd : CD s0 N s f u) : bd (trl_openSign 123 s) (fun _ s8 => bd (trl_readClassVariables s8) (fun _ s9 => trl_readText_97 v x 0 s9)) = some (.inl (x + 1, up s 22 5 (s 22 5 - 1))) := by
  rw [cz_open h hf hd (by omega), bq, cz_cvs h hd, bq, cz_97 h hf hd (by omega)]
/-- a class -/
theorem x_class (h : TKR 0 F n N P s0 t0) (hT : RHT T TV Z b s0 N P) (hb01 : b = 0 ∨ b = 1) {v1 : Int} {x : Nat} (hx : x < 1000) (hg : g = 0 ∨ g = 3) (hk : s0 9 p = 256) (hL : LXT s0 t0 N s t p 0 w I C) (hs : T g K U W Y A s) (hX : RXT K U W t) (hW : W.length ≤ p) (hY : YOK s0 N Y K U W) (hA : AOK s0 K U W A t I C p w) (hAU : A.length = U.length) :
    (∃ s2 t2 p2 g2 K2 U2 W2 Y2 A2 w2 I2 C2, trl_readText_48b v1 (x : Int) s = some (.inl ((x : Int) + 1, s2)) ∧ m_texts_45b t = some (.inl t2) ∧ (g2 = 0 ∨ g2 = 3) ∧ LXT s0 t0 N s2 t2 p2 0 w2 I2 C2 ∧ T g2 K2 U2 W2 Y2 A2 s2 ∧ RXT K2 U2 W2 t2 ∧ W2.length ≤ p2 ∧ p < p2 ∧ YOK s0 N Y2 K2 U2 W2 ∧ AOK s0 K2 U2 W2 A2 t2 I2 C2 p2 w2 ∧ A2.length = U2.length) ∨
    (∃ t2, (m_texts_45b t = some (.inl t2) ∨ m_texts_45b t = some (.inr (.inl t2))) ∧ DXL 3412 b Z s0 t0 N P ((x : Int) + 1) t2 (trl_readText_48b v1 (x : Int) s)) := by
  have hN2 := N1001 h
  have hL' := hL
  obtain ⟨h1, h2, h3, h4, h5, h6, h7, h8, h9, h10, h11, h12, h13, h14, h15, h16⟩ := hL
  obtain ⟨hp1, E⟩ := (r_cls h hL').2.1 hk
  have L1 := LXT_go hL' hp1
  have T1 := (hT.1 _ _ _ _ _ _ s ((p + 1 : Nat) : Int) hs).1
  have X1 := RXT_10 (x := ((p + 1 : Nat) : Int)) hX
  have hK12 := hX.2.2.1
  have B : trl_readText_48b v1 (x : Int) s = bd (trl_readClassName (up s 2 12 ((p + 1 : Nat) : Int))) (fun _ s7 => bd (trl_openSign 123 s7) (fun _ s8 => bd (trl_readClassVariables s8) (fun _ s9 => trl_readText_97 v1 (x : Int) 0 s9))) := by
    unfold trl_readText_48b
    rw [gr (by omega), if_neg (by omega), cK h h1 h3 h5, bq, gr (by omega), if_pos hk, lt_eq, h3]
    rfl
  obtain ⟨c1, c2, c3⟩ := c_cnam h hT L1 T1 hg hK12 hb01
  obtain ⟨r1, r2⟩ := r_cnam h L1 X1
  rw [B, E]
  have dead : ∀ {f : Int}, (f = 1 ∨ f = 2) → (b = 0 → trl_readClassName (up s 2 12 ((p + 1 : Nat) : Int)) = some (0, stp (up s 2 12 ((p + 1 : Nat) : Int)) f (p + 1) N)) → DXL 3412 b Z s0 t0 N P ((x : Int) + 1) (flt (up t 121 10 ((p + 1 : Nat) : Int)) f P (p + 1)) (bd (trl_readClassName (up s 2 12 ((p + 1 : Nat) : Int))) (fun _ s7 => bd (trl_openSign 123 s7) (fun _ s8 => bd (trl_readClassVariables s8) (fun _ s9 => trl_readText_97 v1 (x : Int) 0 s9)))) := by
    intro f hf hc
    obtain ⟨f', u, d1, d2, d3, d4⟩ := x_stop h hT L1 T1 hf (fun hb => ⟨0, hc hb⟩)
    refine ⟨f', u, d1, RD_mono d2 (by omega), fun hb => ?_⟩
    obtain ⟨r, s', y1, y2, y3⟩ := d4 hb
    rw [y1, bq, cz_tail h d1 y2]
    exact ⟨_, rfl, CD_upx y2 (by omega), hT.2.2.2.1 _ _ y3 (KS_ZK (KS_up (by omega)))⟩
  by_cases k3 : s0 9 (p + 1) = 3
  · rw [if_pos k3]
    by_cases kK : K.length < 12
    · obtain ⟨s1, e1, e2, e3⟩ := c1 k3 kK
      rw [r1 kK, e1, bq]
      have hp2 : p + 1 + 1 < N := tkL h hp1 (by omega)
      have nn : ∀ c i, ¬ (c = 121 ∧ (i = 14 ∨ i = 60)) → ¬ ((c = 128 ∨ c = 129) ∧ i = K.length) → ncl (up t 121 10 ((p + 1 : Nat) : Int)) K.length c i = up t 121 10 ((p + 1 : Nat) : Int) c i := fun c i z1 z2 => ncl_ne z1 z2
      have L2 : LXT s0 t0 N s1 (ncl (up t 121 10 ((p + 1 : Nat) : Int)) K.length) (p + 1) 0 w I C := by
        refine LXT_r (LXT_MX L1 e3) ?_ (fun k hk => nn 121 k (by omega) (by omega))
        have j2 := L1.2.1
        unfold SR at j2 ⊢
        rw [show ncl (up t 121 10 ((p + 1 : Nat) : Int)) K.length 123 = up t 121 10 ((p + 1 : Nat) : Int) 123 from funext fun k => nn 123 k (by omega) (by omega), show ncl (up t 121 10 ((p + 1 : Nat) : Int)) K.length 124 = up t 121 10 ((p + 1 : Nat) : Int) 124 from funext fun k => nn 124 k (by omega) (by omega), show ncl (up t 121 10 ((p + 1 : Nat) : Int)) K.length 125 = up t 121 10 ((p + 1 : Nat) : Int) 125 from funext fun k => nn 125 k (by omega) (by omega), show ncl (up t 121 10 ((p + 1 : Nat) : Int)) K.length 126 = up t 121 10 ((p + 1 : Nat) : Int) 126 from funext fun k => nn 126 k (by omega) (by omega), show ncl (up t 121 10 ((p + 1 : Nat) : Int)) K.length 127 = up t 121 10 ((p + 1 : Nat) : Int) 127 from funext fun k => nn 127 k (by omega) (by omega), nn 121 3 (by omega) (by omega)]
        exact j2
      have X2 := RXT_cls (p := p + 1) X1 kK (up_same _ _ _ _)
      have L3 := LXT_go L2 hp2
      have T3 := (hT.1 _ _ _ _ _ _ s1 ((p + 1 + 1 : Nat) : Int) e2).1
      have X3 := RXT_10 (x := ((p + 1 + 1 : Nat) : Int)) X2
      have Y3 : YOK s0 N Y (K ++ [p + 1]) U W := ⟨hY.1, hY.2.1, hY.2.2.1, fun j hj => by
        rcases List.mem_append.mp hj with q | q
        · exact hY.2.2.2 j q
        · rw [List.mem_singleton.mp q]; exact ⟨hp1, k3⟩⟩
      have hK2 : K ++ [p + 1] ≠ [] := by simp
      rcases x_open h hT L3 T3 X3 (by omega) with ⟨s3, t3, i1, i2, i3, i4, i5, i6, i7⟩ | ⟨t3, i1, f, u, d1, d2, d3, d4⟩
      · rw [i2, bq, i3, bq]
        unfold trl_readClassVariables
        rw [cK h i4.1 i4.2.2.1 i1, bq]
        rcases x_cvars h hT hK2 (N - (p + 1 + 1 + 1)) W Y s3 t3 (p + 1 + 1 + 1) 0 (Nat.le_refl _) i4 i5 i6 (by omega) (by omega) Y3 with ⟨s4, t4, p4, W4, Y4, j1, j2, j3, j4, j5, j6, j7, j8, j9⟩ | ⟨t4, j1, f, u, d1, d2, d3, d4⟩
        · obtain ⟨j6a, lx, j6b, j6c⟩ := j6
          have A4 : AOK s0 (K ++ [p + 1]) U W4 A t4 I C p4 w := AOK_of hA hAU (by rw [List.length_append]; omega) j6b (fun e he => by
            obtain ⟨y1, y2, y3⟩ := j6c e he
            rw [List.length_append, List.length_singleton] at y2
            exact ⟨y1, by omega⟩) (fun c k z => by rw [j8 c k (by omega) (by omega) (by omega) (by omega) (by omega), i7 c k (by omega), up_ne (by omega), nn c k (by omega) (by omega), up_ne (by omega)]) (by omega) (Nat.le_refl _)
          rw [show trl_readClassVariables_10 (s0 9 (p + 1 + 1 + 1)) 0 s3 = _ from j1, bq, j2]
          rcases x_subs h hT hb01 hK2 (v1 := v1) (v2 := (x : Int)) (N - p4) 0 U W4 Y4 A s4 t4 p4 w I C 0 (Nat.le_refl _) (Or.inl rfl) j3 j4 j5 j6a (by omega) (by omega) j9 A4 hAU with ⟨s5, t5, p5, g5, U5, W5, Y5, A5, w5, I5, C5, f1, f2, f3, f4, f5, f6, f7, f8, f9, f10, f11⟩ | ⟨t5, f1, f, u, d1, d2, d3⟩
          · exact Or.inl ⟨s5, t5, p5, g5, _, U5, W5, Y5, A5, w5, I5, C5, f1, f2, f3, f4, f5, f6, f7, by omega, f9, f10, f11⟩
          · exact Or.inr ⟨t5, Or.inl f1, f, u, d1, RD_mono d2 (by omega), d3⟩
        · rw [j1, RZ_214 h d1 d2]
          refine Or.inr ⟨_, Or.inl rfl, f, u, d1, RD_48 (RD_mono d2 (by omega)) (by have := d2.2.2.2.2.2; omega), fun hb => ?_⟩
          obtain ⟨r, s', y1, y2, y3⟩ := d4 hb
          rw [show trl_readClassVariables_10 (s0 9 (p + 1 + 1 + 1)) 0 s3 = _ from y1, bq, cz_97 h d1 y2 (by omega)]
          exact ⟨_, rfl, CD_upx y2 (by omega), hT.2.2.2.1 _ _ y3 (KS_ZK (KS_up (by omega)))⟩
      · rw [i1, bq, RZ_170 h d1 d2]
        refine Or.inr ⟨_, Or.inl rfl, f, u, d1, RD_48 (RD_mono d2 (by omega)) (by have := d2.2.2.2.2.2; omega), fun hb => ?_⟩
        obtain ⟨r, s', y1, y2, y3⟩ := d4 hb
        rw [y1, bq, cz_cvs h y2, bq, cz_97 h d1 y2 (by omega)]
        exact ⟨_, rfl, CD_upx y2 (by omega), hT.2.2.2.1 _ _ y3 (KS_ZK (KS_up (by omega)))⟩
    · exact Or.inr ⟨_, Or.inr (r2 (by omega)), dead (Or.inr rfl) (fun hb => c3 k3 (by omega) hb)⟩
  · rw [if_neg k3]
    have hf : (if s0 9 (p + 1) = 2 then (2 : Int) else 1) = 1 ∨ (if s0 9 (p + 1) = 2 then (2 : Int) else 1) = 2 := by split <;> omega
    exact Or.inr ⟨_, Or.inr rfl, dead hf (fun hb => c2 k3 hb)⟩
end TXr
