/-! a sub, whole -/
section TXm
variable {F : Nat → Int} {n N : Nat} {P : Nat → Nat} {s0 t0 : iS} {T : TXP} {TV : Int → Int → Prop} {Z : iS → Prop} {b : Int} {g : Nat} {K : List Nat} {U : List urec} {W : List wrec} {Y Y1 : List Nat} {A : List (List itm)} {s t : iS} {p w I C : Nat} {so y : Int}
theorem YOK_U {j p : Nat} (h : YOK s0 N Y K U W) (hj : j < N ∧ s0 9 j = 3) (hso : so = 1 ∨ so = 2 ∨ so = 3) (hp : p < N) (hY : y = -1 ∧ Y1 = Y ∨ y = (p : Int) ∧ (s0 9 p = 3 ∧ Y1 = Y ++ [p] ∨ s0 9 p ≠ 3 ∧ Y1 = Y)) {c : Int} : YOK s0 N Y1 K (U ++ [(c, so, j, y)]) W := by
  obtain ⟨h1, h2, h3, h4⟩ := h
  have sub : ∀ j ∈ Y, j ∈ Y1 := fun j hj => by
    rcases hY with ⟨_, q⟩ | ⟨_, ⟨_, q⟩ | ⟨_, q⟩⟩
    · rw [q]; exact hj
    · rw [q]; exact List.mem_append_left _ hj
    · rw [q]; exact hj
  have old : ∀ i ∈ Y, i < N ∧ s0 9 i = 3 ∧ ((∃ e ∈ W, e.2.2.2.1 = (i : Int)) ∨ ∃ e ∈ U ++ [(c, so, j, y)], e.2.2.2 = (i : Int)) := fun i q => by
    obtain ⟨a, b', c'⟩ := h1 i q
    refine ⟨a, b', ?_⟩
    rcases c' with c' | ⟨e, e1, e2⟩
    · exact Or.inl c'
    · exact Or.inr ⟨e, List.mem_append_left _ e1, e2⟩
  refine ⟨fun i hi => ?_, fun e he => ?_, fun e he => ?_, h4⟩
  · rcases hY with ⟨_, q⟩ | ⟨z, ⟨z2, q⟩ | ⟨_, q⟩⟩
    · rw [q] at hi; exact old i hi
    · rw [q] at hi
      rcases List.mem_append.mp hi with a | a
      · exact old i a
      · rw [List.mem_singleton.mp a]
        exact ⟨hp, z2, Or.inr ⟨_, List.mem_append_right _ (List.mem_singleton.mpr rfl), z⟩⟩
    · rw [q] at hi; exact old i hi
  · obtain ⟨⟨i, i1, i2, i3⟩, b'⟩ := h2 e he
    exact ⟨⟨i, i1, i2, fun q => sub i (i3 q)⟩, b'⟩
  · rcases List.mem_append.mp he with a | a
    · obtain ⟨a1, a2⟩ := h3 e a
      refine ⟨?_, a2⟩
      rcases a1 with a1 | ⟨i, i1, i2, i3⟩
      · exact Or.inl a1
      · exact Or.inr ⟨i, i1, i2, fun q => sub i (i3 q)⟩
    · rw [List.mem_singleton.mp a]
      refine ⟨?_, hj.1, hj.2, hso⟩
      rcases hY with ⟨q, _⟩ | ⟨q, q2⟩
      · exact Or.inl q
      · refine Or.inr ⟨p, q, hp, fun z => ?_⟩
        rcases q2 with ⟨_, q3⟩ | ⟨q3, _⟩
        · rw [q3]; exact List.mem_append_right _ (List.mem_singleton.mpr rfl)
        · exact absurd z q3
/-- what a sub gives -/
def SUBX (T : TXP) (s0 t0 : iS) (N : Nat) (K : List Nat) (U : List urec) (W : List wrec) (A : List (List itm)) (so y : Int) (t : iS) (p w I C : Nat) (cl rf : Option (Int × iS)) : Prop := ∃ s2 t2 p2 W2 Y2 l w2 C2 j, cl = some (0, s2) ∧ rf = some (0, t2) ∧ LXT s0 t0 N s2 t2 p2 1 w2 (I + l.length + 2) C2 ∧ T 3 K (U ++ [((K.length : Int) - 1, so, j, y)]) W2 Y2 (A ++ [l ++ [(0, 0, 0, (p2 : Int)), (18, 1, 0, (p2 : Int))]]) s2 ∧ RXT K (U ++ [((K.length : Int) - 1, so, j, y)]) W2 t2 ∧ (W2.length ≤ p2 ∧ ∃ lx, W2 = W ++ lx ∧ ∀ e ∈ lx, e.2.2.2.2.1 < p2 ∧ e.2.1 = (U.length : Int)) ∧ (p + 4 < p2 ∧ ∃ pb pe lb, p + 4 ≤ pb ∧ p2 = pe + 1 ∧ GY s0 t2 1 2 I pb w 0 pe w2 lb l) ∧ C ≤ C2 ∧ IMs t2 I (U.length : Int) C C2 (l ++ [(0, 0, 0, (p2 : Int)), (18, 1, 0, (p2 : Int))]) ∧ t2 136 U.length = (I : Int) ∧ (∀ k, k ≠ U.length → t2 136 k = t 136 k) ∧ (∀ c k, 144 ≤ c → c ≤ 148 → k < I → t2 c k = t c k) ∧ (∀ c k, 149 ≤ c → c ≤ 156 → k < C → t2 c k = t c k) ∧ YOK s0 N Y2 K (U ++ [((K.length : Int) - 1, so, j, y)]) W2
/-- a sub, from its name -/
theorem x_sub55 (h : TKR 0 F n N P s0 t0) (hT : RHT T TV Z b s0 N P) (hb01 : b = 0 ∨ b = 1) (hg : g = 0 ∨ g = 3) (hK : K ≠ []) (hso : so = 1 ∨ so = 2 ∨ so = 3) (hL : LXT s0 t0 N s t p 1 w I C) (hs : T g K U W Y A s) (hX : RXT K U W t) (hW : W.length ≤ p) (hp : 3 ≤ p) (hY : s0 9 p = 3 → YOK s0 N Y K (U ++ [((K.length : Int) - 1, so, p, y)]) W) :
    SUBX T s0 t0 N K U W A so y t p w I C (trl_readSub_55 (256 + so) s) (m_subr_41 so y t) ∨
    (∃ q t2, m_subr_41 so y t = some (0, t2) ∧ DX 3410 b Z s0 t0 N P q t2 (trl_readSub_55 (256 + so) s)) := by
  have hN2 := N1001 h
  have hv : 0 ≤ 256 + so ∧ 256 + so < 1000 := by omega
  have hX' := hX
  obtain ⟨a1, a2, a3, a4, a5, a6, _⟩ := hX
  obtain ⟨c1, c2, c3⟩ := c_snam (y := y) h hT hL hs hg hK hso a6 hb01
  obtain ⟨r1, r2, r3⟩ := r_snam (so := so) (y := y) h hL hX'
  have CT1 : CTZ Z s0 N (fun s1 => bd (trl_readParameters s1) (fun _ s2 => bd (trl_openSign 123 s2) (fun _ s3 => trl_readSub_72 (256 + so) 0 s3))) := CTZ_ks hT (fun s f u hf hd ht => cz_72p h hf hd ht hv)
  have CT2 : CTZ Z s0 N (fun s2 => bd (trl_openSign 123 s2) (fun _ s3 => trl_readSub_72 (256 + so) 0 s3)) := CTZ_ks hT (fun s f u hf hd ht => cz_72o h hf hd ht hv)
  have CT3 : CTZ Z s0 N (fun s3 => trl_readSub_72 (256 + so) 0 s3) := CTZ_ks hT (fun s f u hf hd ht => cz_72 h hf hd ht hv (by omega))
  unfold trl_readSub_55
  by_cases k3 : s0 9 p = 3
  · by_cases kU : U.length < 60
    · obtain ⟨s1, e1, e2, e3⟩ := c1 k3 kU
      obtain ⟨hp1, f1⟩ := r1 k3 kU
      have UL : (U ++ [((K.length : Int) - 1, so, p, y)]).length = U.length + 1 := by rw [List.length_append]; rfl
      have ue : (((U ++ [((K.length : Int) - 1, so, p, y)]).length : Nat) : Int) - 1 = (U.length : Int) := by rw [UL]; omega
      have X1 := RXT_sub (so := so) (y := y) hX' kU hL.2.2.2.1
      have nn : ∀ c k, ¬ (c = 121 ∧ (k = 17 ∨ k = 50)) → ¬ (130 ≤ c ∧ c ≤ 136 ∧ k = U.length) → nsb t U.length so y c k = t c k := fun c k z1 z2 => nsb_ne z1 z2
      have n50 : nsb t U.length so y 121 50 = 0 := nsb_at.2.2.2.2.2.2.2.2
      have L1 : LXT s0 t0 N s1 (nsb t U.length so y) p 1 w I C := by
        refine LXT_r (LXT_MX hL e3) ?_ (fun k hk => nn 121 k (by omega) (by omega))
        have j2 := hL.2.1
        unfold SR at j2 ⊢
        rw [show nsb t U.length so y 123 = t 123 from funext fun k => nn 123 k (by omega) (by omega), show nsb t U.length so y 124 = t 124 from funext fun k => nn 124 k (by omega) (by omega), show nsb t U.length so y 125 = t 125 from funext fun k => nn 125 k (by omega) (by omega), show nsb t U.length so y 126 = t 126 from funext fun k => nn 126 k (by omega) (by omega), show nsb t U.length so y 127 = t 127 from funext fun k => nn 127 k (by omega) (by omega), nn 121 3 (by omega) (by omega)]
        exact j2
      have L2 := LXT_go L1 hp1
      have T2 := (hT.1 _ _ _ _ _ _ s1 ((p + 1 : Nat) : Int) e2).1
      have X2 := RXT_10 (x := ((p + 1 : Nat) : Int)) X1
      have hU2 : U ++ [((K.length : Int) - 1, so, p, y)] ≠ [] := by simp
      have lst : ∃ x z, (U ++ [((K.length : Int) - 1, so, p, y)]).getLast? = some (x, so, z) := ⟨_, _, by rw [List.getLast?_concat]⟩
      rw [e1, bq, f1]
      have XP := x_params h hT hK hU2 L2 T2 X2 (by omega) (hY k3)
      rw [ue] at XP
      rcases XP with ⟨s2, t2, p2, W2, Y2, g1, g2, g3, g4, g5, g6, g7, g8, g9⟩ | ⟨t2, g1, g2⟩
      · rw [g1, bq, g2, bq]
        rcases x_open h hT g3 g4 g5 (by omega) with ⟨s3, t3, i1, i2, i3, i4, i5, i6, i7⟩ | ⟨t3, i1, i2⟩
        · rw [i2, bq, i3, bq]
          rcases x_svars h hT hK hU2 hv (N - (p2 + 1)) W2 Y2 s3 t3 (p2 + 1) 0 (Nat.le_refl _) i4 i5 i6 (by omega) (by omega) g9 with ⟨s4, t4, p4, W4, Y4, j1, j2, j3, j4, j5, j6, j7, j8, j9⟩ | ⟨t4, j1, j2⟩
          · have q50 : t4 121 50 = 0 := by rw [j8 121 50 (by omega) (by omega) (by omega) (by omega) (by omega), i7 121 50 (by omega), g8 121 50 (by omega) (by omega) (by omega) (by omega) (by omega), up_ne (by omega)]; exact n50
            have fr : ∀ c k, 136 = c ∨ 144 ≤ c → t4 c k = nsb t U.length so y c k := fun c k hc => by rw [j8 c k (by omega) (by omega) (by omega) (by omega) (by omega), i7 c k (by omega), g8 c k (by omega) (by omega) (by omega) (by omega) (by omega), up_ne (by omega)]
            rw [show trl_readSub_72 (256 + so) 0 s3 = _ from j1, j2]
            have XB := x_body h hT hU2 hso lst j3 j4 j5 (by omega) (by omega) q50
            rw [ue, show (U ++ [((K.length : Int) - 1, so, p, y)]).length - 1 = U.length by rw [UL]; rfl] at XB
            rcases XB with ⟨s5, t5, p5, l, w5, C5, k1, k2, k3', k4, k5, k6, k7, k8, k9, k10, k11, k12⟩ | ⟨t5, k1, k2⟩
            · refine Or.inl ⟨s5, t5, p5, W4, Y4, l, w5, C5, p, k1, k2, k3', k4, k5, ⟨by omega, by
                obtain ⟨_, l1, z1, z2⟩ := g6
                obtain ⟨_, l2, z3, z4⟩ := j6
                refine ⟨l1 ++ l2, by rw [z3, z1, List.append_assoc], fun e he => ?_⟩
                rcases List.mem_append.mp he with q | q
                · obtain ⟨y1, y2⟩ := z2 e q
                  exact ⟨by omega, by omega⟩
                · obtain ⟨y1, y2⟩ := z4 e q
                  exact ⟨by omega, by omega⟩⟩, ⟨by omega, by obtain ⟨_, pe, lb, z1, z2⟩ := k6; exact ⟨p4, pe, lb, by omega, z1, z2⟩⟩, k7, k8, k9, fun k hk => ?_, fun c k z1 z2 z3 => ?_, fun c k z1 z2 z3 => ?_, j9⟩
              · rw [k10 k hk, fr 136 k (Or.inl rfl), nn 136 k (by omega) (by omega)]
              · rw [k11 c k z1 z2 z3, fr c k (by omega), nn c k (by omega) (by omega)]
              · rw [k12 c k z1 z2 z3, fr c k (by omega), nn c k (by omega) (by omega)]
            · exact Or.inr ⟨_, t5, k1, DX_mono k2 (by omega)⟩
          · exact Or.inr ⟨_, t4, j1, DX_mono j2 (by omega)⟩
        · have D := DX_c i2 (fun _ => CT3)
          obtain ⟨f, u, d1, d2, d3, d4⟩ := D
          have g17 : t2 121 17 = ((U.length + 1 : Nat) : Int) := by rw [g5.2.2.2.1, UL]
          obtain ⟨t4, m1, m2, m3⟩ := RZ_205 d1 d2 (by omega)
          rw [i1, bq, m1]
          exact Or.inr ⟨_, t4, rfl, f, u, d1, RD_mono m2 (by omega), rfl, d4⟩
      · have D := DX_c g2 (fun _ => CT2)
        obtain ⟨f, u, d1, d2, d3, d4⟩ := D
        rw [up_ne (by omega), nsb_at.2.2.2.2.2.2.2.1] at d3
        obtain ⟨r', t3, m1, m2, m3⟩ := RT_op h (c := 123) (by omega) t2 f u 3010 d1 d2 (by omega)
        obtain ⟨t4, m4, m5, m6⟩ := RZ_205 d1 m2 (by rw [m3.1 121 17 (by omega)]; omega)
        rw [g1, bq, m1, bq, m4]
        exact Or.inr ⟨_, t4, rfl, f, u, d1, RD_mono m5 (by omega), rfl, d4⟩
    · have D := DX_c (x_stop h hT hL hs (Or.inr rfl) (fun hb => ⟨0, c3 k3 (by omega) hb⟩)) (fun _ => CT1)
      exact Or.inr ⟨_, _, r3 k3 (by omega), DX_mono D (by omega)⟩
  · have hf : (if s0 9 p = 2 then (2 : Int) else 1) = 1 ∨ (if s0 9 p = 2 then (2 : Int) else 1) = 2 := by split <;> omega
    have D := DX_c (x_stop h hT hL hs hf (fun hb => ⟨0, c2 k3 hb⟩)) (fun _ => CT1)
    exact Or.inr ⟨_, _, r2 k3, DX_mono D (by omega)⟩
end TXm
