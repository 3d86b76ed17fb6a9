/-! parameters: the list -/
section TXi
variable {F : Nat → Int} {n N : Nat} {P : Nat → Nat} {s0 t0 : iS} {T : TXP} {TV : Int → Int → Prop} {Z : iS → Prop} {b : Int} {g : Nat} {K : List Nat} {U : List urec} {A : List (List itm)} {o w I C : Nat}
theorem pm_58 {u x : Int} {t t' : iS} (h : m_parameters_21b u x t = some (.inr (.inr (.inl t')))) : m_parameters_21 u x t = m_parameters_58 t' := by
  rw [pm_en h]
  rfl
theorem CTZ_p32 (h : TKR 0 F n N P s0 t0) (hT : RHT T TV Z b s0 N P) {x : Int} (hx : 0 ≤ x ∧ x < 100000) : CTZ Z s0 N (trl_readParameters_32 x) := CTZ_ks hT (fun s f u hf hd ht => cz_par32 h hf hd ht hx)
theorem CTZ_pd (h : TKR 0 F n N P s0 t0) (hT : RHT T TV Z b s0 N P) {x y : Int} (hx : 0 ≤ x ∧ x < 100000) : CTZ Z s0 N (fun s => bd (trl_declare 1 y s) (fun _ s6 => trl_readParameters_32 x s6)) := CTZ_ks hT (fun s f u hf hd ht => by
  show ∃ s', bd (trl_declare 1 y s) _ = _ ∧ _
  rw [cz_decl h hf hd, bq]
  exact cz_par32 h hf hd ht hx)
theorem x_plist (h : TKR 0 F n N P s0 t0) (hT : RHT T TV Z b s0 N P) (hK : K ≠ []) (hU : U ≠ []) : ∀ (d : Nat) (W : List wrec) (Y : List Nat) (s t : iS) (p x : Nat), N - p ≤ d → LXT s0 t0 N s t p o w I C → T 1 K U W Y A s → RXT K U W t → W.length ≤ p → x ≤ p → YOK s0 N Y K U W →
    (∃ s2 t2 p2 W2 Y2, bd (trl_readType s) (fun r5 s5 => bd (trl_declare 1 r5 s5) (fun _ s6 => trl_readParameters_32 (x : Int) s6)) = some (0, s2) ∧ m_parameters_21 ((U.length : Int) - 1) 1 t = some (0, t2) ∧ LXT s0 t0 N s2 t2 p2 o w I C ∧ T 2 K U W2 Y2 A s2 ∧ RXT K U W2 t2 ∧ (W2.length ≤ p2 ∧ ∃ lx, W2 = W ++ lx ∧ ∀ e ∈ lx, e.2.2.2.2.1 < p2 ∧ e.2.1 = (U.length : Int) - 1) ∧ p < p2 ∧ FDX t t2 ∧ YOK s0 N Y2 K U W2) ∨
    (∃ t2, m_parameters_21 ((U.length : Int) - 1) 1 t = some (0, t2) ∧ DX 3010 b Z s0 t0 N P (t 121 17) t2 (bd (trl_readType s) (fun r5 s5 => bd (trl_declare 1 r5 s5) (fun _ s6 => trl_readParameters_32 (x : Int) s6)))) := by
  have hN2 := N1001 h
  intro d
  induction d with
  | zero => intro W Y s t p x hd hL; have := hL.2.2.2.2.1; omega
  | succ d ih =>
    intro W Y s t p x hd hL hs hX hW hx hY
    have q1 : N - (p + 1 + 1 + 1) ≤ d := by omega
    have q3 : x + 1 ≤ p + 1 + 1 + 1 := by omega
    have hp0 : p < N := hL.2.2.2.2.1
    have pb := pm_b (u := (U.length : Int) - 1) hL.2.2.2.2.2.1
    rcases x_type h hT hL hs with ⟨hp1, r, s1, Y1, e1, e2, e3, e4, e5, e6⟩ | ⟨r, t2, e1, e2, e3, e4⟩
    · have L1 := LXT_go (LXT_MX hL e5) hp1
      have T1 := (hT.1 _ _ _ _ _ _ s1 ((p + 1 : Nat) : Int) e4).1
      have X1 := RXT_10 (x := ((p + 1 : Nat) : Int)) hX
      rw [e2, bq, L1.2.2.2.2.2.1, gr (by omega), if_pos (by omega)] at pb
      rw [e1, bq]
      obtain ⟨c1, c2, c3⟩ := c_decl h hT L1 T1 e3 (v := 1) (by omega) (by omega)
      obtain ⟨r1, r2, r3⟩ := r_parm (y := (p : Int)) h L1 X1 hK hU (by omega)
      by_cases k3 : s0 9 (p + 1) = 3
      · by_cases k12 : nwW 1 K U W < 12
        · obtain ⟨s2, f1, f2, f3⟩ := c1 k3 k12
          obtain ⟨hp2, t1, g1, g2, g3, g4, g5⟩ := r1 k3 k12
          have F3 : ∀ k, k = 11 ∨ k = 48 ∨ k = 49 ∨ k = 33 ∨ k = 39 ∨ k = 17 → t1 121 k = (up t 121 10 ((p + 1 : Nat) : Int)) 121 k := fun k hk => g2 121 k (by omega) (by omega) (by omega) (by omega) (by omega)
          have L2 : LXT s0 t0 N s2 t1 (p + 1) o w I C := LXT_r (LXT_MX L1 f3) (FDX_SR g2 L1.2.1) (fun k hk => by
            by_cases c : k = 10
            · rw [c]; exact g3
            · exact F3 k (by omega))
          have L3 := LXT_go L2 hp2
          have T3 := (hT.1 _ _ _ _ _ _ s2 ((p + 1 + 1 : Nat) : Int) f2).1
          have X3 := RXT_10 (x := ((p + 1 + 1 : Nat) : Int)) g1
          have wl : (W ++ [wNew 1 K U W (p : Int) (p + 1)]).length = W.length + 1 := by rw [List.length_append]; rfl
          have q2 : (W ++ [wNew 1 K U W (p : Int) (p + 1)]).length ≤ p + 1 + 1 := by rw [wl]; exact Nat.le_trans (Nat.succ_le_succ hW) (Nat.le_succ _)
          have Y3 : YOK s0 N Y1 K U (W ++ [wNew 1 K U W (p : Int) (p + 1)]) := YOK_W hY hp0 e6 (List.cons_ne_nil _ _) (fun e he => by
            rw [List.mem_singleton.mp he]
            exact ⟨rfl, hp1, k3⟩)
          have k1 := cK h L3.1 L3.2.2.1 hp2
          have kk := tkK h hp2
          have z9 : -2147483648 ≤ s0 9 (p + 1 + 1) ∧ s0 9 (p + 1 + 1) ≤ 2147483647 := by
            rw [if_pos rfl] at kk
            omega
          rw [f1, bq]
          by_cases k44 : s0 9 (p + 1 + 1) = 44
          · have hp3 : p + 1 + 1 + 1 < N := tkL h hp2 (by rw [k44]; decide)
            have L4 := LXT_go L3 hp3
            have T4 := (hT.1 _ _ _ _ _ _ _ ((p + 1 + 1 + 1 : Nat) : Int) T3).1
            have X4 := RXT_10 (x := ((p + 1 + 1 + 1 : Nat) : Int)) X3
            have E := pm_nx (pb.trans (g4 k44))
            have Ec : trl_readParameters_32 (x : Int) (up s2 2 12 ((p + 1 + 1 : Nat) : Int)) = bd (trl_readType (up (up s2 2 12 ((p + 1 + 1 : Nat) : Int)) 2 12 ((p + 1 + 1 + 1 : Nat) : Int))) (fun r5 s5 => bd (trl_declare 1 r5 s5) (fun _ s6 => trl_readParameters_32 ((x + 1 : Nat) : Int) s6)) := by
              have B : trl_readParameters_32b (x : Int) (up s2 2 12 ((p + 1 + 1 : Nat) : Int)) = bd (trl_readType (up (up s2 2 12 ((p + 1 + 1 : Nat) : Int)) 2 12 ((p + 1 + 1 + 1 : Nat) : Int))) (fun r7 s7 => bd (trl_declare 1 r7 s7) (fun _ s8 => some (.inl (((x : Int) + 1), s8)))) := by
                unfold trl_readParameters_32b
                rw [gr (by omega), if_neg (by omega), k1, bq, gr z9, if_pos k44, lt_eq, up_same]
                rfl
              rcases hD : trl_readType (up (up s2 2 12 ((p + 1 + 1 : Nat) : Int)) 2 12 ((p + 1 + 1 + 1 : Nat) : Int)) with _ | ⟨a, s7⟩
              · rw [hD] at B
                rw [rp_no B]
                rfl
              · rw [hD, bq] at B
                rw [bq]
                rcases hD2 : trl_declare 1 a s7 with _ | ⟨a2, s8⟩
                · rw [hD2] at B
                  rw [rp_no B]
                  rfl
                · rw [hD2, bq] at B
                  rw [rp_nx B, bq]
                  rfl
            rw [E, Ec]
            rcases ih _ _ _ _ (p + 1 + 1 + 1) (x + 1) q1 L4 T4 X4 (Nat.le_trans q2 (Nat.le_succ _)) q3 Y3 with ⟨s3, t3, p2, W2, Y2, a1, a2, a3, a4, a5, a6, a7, a8, a9⟩ | ⟨t3, a1, a2⟩
            · exact Or.inl ⟨s3, t3, p2, W2, Y2, a1, a2, a3, a4, a5, ⟨a6.1, by obtain ⟨_, lx, z1, z2⟩ := a6; exact ⟨wNew 1 K U W (p : Int) (p + 1) :: lx, by rw [z1, ← List.append_cons], fun e he => by
              rcases List.mem_cons.mp he with q | q
              · rw [q]; exact ⟨by show p + 1 < p2; omega, rfl⟩
              · exact z2 e q⟩⟩, by omega, FDX_trans FDX_10 (FDX_trans g2 (FDX_trans FDX_10 (FDX_trans FDX_10 a8))), a9⟩
            · rw [up_ne (by omega), up_ne (by omega), F3 17 (by omega), up_ne (by omega)] at a2
              exact Or.inr ⟨t3, a1, a2⟩
          · have E := pm_nx (pb.trans (g5 k44))
            have Ec : trl_readParameters_32 (x : Int) (up s2 2 12 ((p + 1 + 1 : Nat) : Int)) = trl_readParameters_79 (up s2 2 12 ((p + 1 + 1 : Nat) : Int)) := by
              refine rp_en ?_
              unfold trl_readParameters_32b
              rw [gr (by omega), if_neg (by omega), k1, bq, gr z9, if_neg k44]
            rw [E, Ec, pm_0]
            rcases x_pend h hT L3 T3 with ⟨s3, b1, b2, b3, b4, b5⟩ | ⟨t3, b1, b2⟩
            · exact Or.inl ⟨s3, _, p + 1 + 1 + 1, _, Y1, b2, b3, b4, b5, RXT_10 X3, ⟨Nat.le_trans q2 (Nat.le_succ _), [wNew 1 K U W (p : Int) (p + 1)], rfl, fun e he => by rw [List.mem_singleton.mp he]; exact ⟨by show p + 1 < p + 1 + 1 + 1; omega, rfl⟩⟩, by omega, FDX_trans FDX_10 (FDX_trans g2 (FDX_trans FDX_10 FDX_10)), Y3⟩
            · rw [up_ne (by omega), F3 17 (by omega), up_ne (by omega)] at b2
              exact Or.inr ⟨t3, b1, b2⟩
        · obtain ⟨x', t1, g1, g2, g3, g4⟩ := r3 k3 (by omega)
          have hf' : ft 2 (p + 1) N := ⟨Or.inr rfl, hp1⟩
          have gz := RZ_f hf' g3
          rw [up_ne (by omega)] at g4
          refine Or.inr ⟨t1, ?_, ?_⟩
          · rw [pm_nx (pb.trans g2), pm_d g1 gz]
            unfold m_parameters_138
            rw [RD_ns h hf' g3 (by omega), bq]
          · refine DX_c ⟨2, p + 1, hf', g3, g4, fun hb => ?_⟩ (fun _ => CTZ_p32 h hT (by omega))
            obtain ⟨f, u, d1, d2, d3, d4⟩ := x_stop h hT L1 T1 (f := 2) (Or.inr rfl) (fun hb => ⟨0, c3 k3 (by omega) hb⟩)
            obtain ⟨y1, y2, y3, y4⟩ := hT.2.1 _ _ _ _ _ _ _ T1
            exact ⟨0, _, c3 k3 (by omega) hb, stp_CD L1.1 (by rw [y1, hb]) (y3 hb).2 y2, hT.2.2.2.1 _ _ y4 stp_ZK⟩
      · have hf : (if s0 9 (p + 1) = 2 then (2 : Int) else 1) = 1 ∨ (if s0 9 (p + 1) = 2 then (2 : Int) else 1) = 2 := by split <;> omega
        have X := x_stop h hT L1 T1 hf (fun hb => ⟨0, c2 k3 hb⟩)
        rw [up_ne (by omega)] at X
        refine Or.inr ⟨_, ?_, DX_c X (fun _ => CTZ_p32 h hT (by omega))⟩
        have M58 : m_parameters_58 (up t 121 10 ((p + 1 : Nat) : Int)) = some (0, flt (up t 121 10 ((p + 1 : Nat) : Int)) (if s0 9 (p + 1) = 2 then 2 else 1) P (p + 1)) := by
          unfold m_parameters_58
          rw [rSy h L1.2.1 L1.2.2.2.2.2.1 L1.2.2.2.1 hp1, bq]
        rw [pm_58 (pb.trans (r2 k3)), M58]
    · refine Or.inr ⟨t2, ?_, DX_c e4 (fun y => CTZ_pd h hT (by omega))⟩
      obtain ⟨f, u, d1, d2, d3, d4⟩ := e4
      have gz := RZ_f d1 d2
      rw [e1, bq, gr (by omega), if_neg (by omega)] at pb
      rw [pm_en pb]
      rfl
/-- the parameters of a sub -/
theorem x_params (h : TKR 0 F n N P s0 t0) (hT : RHT T TV Z b s0 N P) (hK : K ≠ []) (hU : U ≠ []) {W : List wrec} {Y : List Nat} {s t : iS} {p : Nat} (hL : LXT s0 t0 N s t p o w I C) (hs : T 1 K U W Y A s) (hX : RXT K U W t) (hW : W.length ≤ p) (hY : YOK s0 N Y K U W) :
    (∃ s2 t2 p2 W2 Y2, trl_readParameters s = some (0, s2) ∧ m_parameters ((U.length : Int) - 1) t = some (0, t2) ∧ LXT s0 t0 N s2 t2 p2 o w I C ∧ T 2 K U W2 Y2 A s2 ∧ RXT K U W2 t2 ∧ (W2.length ≤ p2 ∧ ∃ lx, W2 = W ++ lx ∧ ∀ e ∈ lx, e.2.2.2.2.1 < p2 ∧ e.2.1 = (U.length : Int) - 1) ∧ p + 1 < p2 ∧ FDX t t2 ∧ YOK s0 N Y2 K U W2) ∨
    (∃ t2, m_parameters ((U.length : Int) - 1) t = some (0, t2) ∧ DX 3010 b Z s0 t0 N P (t 121 17) t2 (trl_readParameters s)) := by
  have hN2 := N1001 h
  unfold trl_readParameters m_parameters m_parameters_20
  rcases x_need h hT hL hs (c := 40) (by omega) with ⟨b1, b2, b3, b4⟩ | ⟨t2, b1, b2⟩
  · have L1 := LXT_go hL b2
    have T1 := (hT.1 _ _ _ _ _ _ s ((p + 1 : Nat) : Int) hs).1
    have X1 := RXT_10 (x := ((p + 1 : Nat) : Int)) hX
    have kk := tkK h b2
    have z9 : -2147483648 ≤ s0 9 (p + 1) ∧ s0 9 (p + 1) ≤ 2147483647 := by
      rw [if_pos rfl] at kk
      omega
    rw [b3, bq, b4, bq, cK h L1.1 L1.2.2.1 b2, bq, rS h L1.2.1 L1.2.2.2.1 b2 (by omega), bq, gr z9]
    by_cases k : s0 9 (p + 1) = 41
    · rw [if_pos k, if_pos k, gr (by omega), if_neg (by omega), pm_0]
      rcases x_pend h hT L1 T1 with ⟨s3, b1, b2, b3, b4, b5⟩ | ⟨t3, b1, b2⟩
      · exact Or.inl ⟨s3, _, p + 1 + 1, _, Y, b2, b3, b4, b5, RXT_10 X1, ⟨by omega, [], (List.append_nil _).symm, fun e he => by simp at he⟩, by omega, FDX_trans FDX_10 FDX_10, hY⟩
      · rw [up_ne (by omega)] at b2
        exact Or.inr ⟨t3, b1, b2⟩
    · rw [if_neg k, if_neg k, gr (by omega), if_pos rfl]
      rcases x_plist h hT hK hU (N - (p + 1)) W Y _ _ (p + 1) 0 (Nat.le_refl _) L1 T1 X1 (by omega) (by omega) hY with ⟨s3, t3, p2, W2, Y2, a1, a2, a3, a4, a5, a6, a7, a8, a9⟩ | ⟨t3, a1, a2⟩
      · exact Or.inl ⟨s3, t3, p2, W2, Y2, a1, a2, a3, a4, a5, a6, by omega, FDX_trans FDX_10 a8, a9⟩
      · rw [up_ne (by omega)] at a2
        exact Or.inr ⟨t3, a1, a2⟩
  · have D := DX_c b2 (k := fun _ s1 => bd (tok_kind s1) (fun r2 s2 => gd (rg r2) (if r2 = 41 then trl_readParameters_79 s2 else bd (trl_readType s2) (fun r5 s5 => bd (trl_declare 1 r5 s5) (fun _ s6 => trl_readParameters_32 0 s6))))) (fun _ => CTZ_ks hT (fun s f u hf hd ht => by
      show ∃ s', bd (tok_kind s) _ = _ ∧ _
      rw [cKD h hd.1 hd.2.1, bq, gr (by omega), if_neg (by omega), cz_type h hf hd, bq, cz_decl h hf hd, bq]
      exact cz_par32 h hf hd ht (by omega)))
    refine Or.inr ⟨t2, ?_, D⟩
    obtain ⟨f, u, d1, d2, d3, d4⟩ := b2
    have gz := RZ_f d1 d2
    obtain ⟨p', hp', hp2'⟩ := d2.2.1
    have Z1 : ∀ x : Int, x = 0 ∨ x = 1 → m_parameters_21 ((U.length : Int) - 1) x t2 = some (0, t2) := fun x hx => by
      rw [pm_d hx gz]
      unfold m_parameters_138
      rw [RD_ns h d1 d2 (by omega), bq]
    rw [b1, bq, rS h d2.1 hp2' hp' (by omega), bq]
    by_cases k : s0 9 p' = 41
    · rw [if_pos k, gr (by omega), if_neg (by omega), Z1 0 (Or.inl rfl)]
    · rw [if_neg k, gr (by omega), if_pos rfl, Z1 1 (Or.inr rfl)]
end TXi
