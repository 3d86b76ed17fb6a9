/-! a sub, from its first word -/
section TXn
variable {F : Nat → Int} {n N : Nat} {P : Nat → Nat} {s0 t0 : iS} {T : TXP} {TV : Int → Int → Prop} {Z : iS → Prop} {b : Int} {g : Nat} {K : List Nat} {U : List urec} {W : List wrec} {Y : List Nat} {A : List (List itm)} {s t t' : iS} {p p' w I C : Nat} {so y : Int}
theorem SUBX_t {cl rf : Option (Int × iS)} (h : SUBX T s0 t0 N K U W A so y t' p' w I C cl rf) (ht : ∀ c k, c ≠ 121 → t' c k = t c k) (hp : p ≤ p') : SUBX T s0 t0 N K U W A so y t p w I C cl rf := by
  obtain ⟨s2, t2, p2, W2, Y2, l, w2, C2, j, h1, h2, h3, h4, h5, h6, h7, h8, h9, h10, h11, h12, h13, h14⟩ := h
  exact ⟨s2, t2, p2, W2, Y2, l, w2, C2, j, h1, h2, h3, h4, h5, h6, ⟨by omega, by obtain ⟨_, pb, pe, lb, z1, z2, z3⟩ := h7; exact ⟨pb, pe, lb, by omega, z2, z3⟩⟩, h8, h9, h10, fun k hk => by rw [h11 k hk, ht 136 k (by omega)], fun c k z1 z2 z3 => by rw [h12 c k z1 z2 z3, ht c k (by omega)], fun c k z1 z2 z3 => by rw [h13 c k z1 z2 z3, ht c k (by omega)], h14⟩
theorem x_sub (h : TKR 0 F n N P s0 t0) (hT : RHT T TV Z b s0 N P) (hb01 : b = 0 ∨ b = 1) (hg : g = 0 ∨ g = 3) (hK : K ≠ []) (hso : so = 1 ∨ so = 2 ∨ so = 3) (hk : s0 9 p = 256 + so) (hL : LXT s0 t0 N s t p 1 w I C) (hs : T g K U W Y A s) (hX : RXT K U W t) (hW : W.length ≤ p) (hp : 3 ≤ p) (hY : YOK s0 N Y K U W) :
    (∃ y, SUBX T s0 t0 N K U W A so y t p w I C (trl_readSub s) (m_subr t)) ∨
    (∃ q t2, m_subr t = some (0, t2) ∧ DX 3410 b Z s0 t0 N P q t2 (trl_readSub s)) := by
  have hN2 := N1001 h
  have hL' := hL
  obtain ⟨h1, h2, h3, h4, h5, h6, _⟩ := hL
  have kk := tkK h h5
  have e127 : t 127 (t 121 10).toNat = so := by
    rw [h4, Int.toNat_natCast, h2.2.2.2.2.1]
    rw [if_pos rfl] at kk
    omega
  have hp1 : p + 1 < N := tkL h h5 (by omega)
  have L1 := LXT_go hL' hp1
  have T1 := (hT.1 _ _ _ _ _ _ s ((p + 1 : Nat) : Int) hs).1
  have X1 := RXT_10 (x := ((p + 1 : Nat) : Int)) hX
  have kk1 := tkK h hp1
  have z9 : -2147483648 ≤ s0 9 (p + 1) ∧ s0 9 (p + 1) ≤ 2147483647 := by
    rw [if_pos rfl] at kk1
    omega
  have wd := rW h L1.2.1 L1.2.2.2.1 hp1 (w := 10) (by omega)
  have Ec : trl_readSub s = if s0 9 (p + 1) = 266 then trl_readSub_55 (256 + so) (up (up s 2 12 ((p + 1 : Nat) : Int)) 2 12 ((p + 1 + 1 : Nat) : Int)) else bd (trl_readType (up s 2 12 ((p + 1 : Nat) : Int))) (fun r6 s6 => trl_readSub_55 (256 + so) s6) := by
    unfold trl_readSub
    rw [cK h h1 h3 h5, bq, lt_eq, h3, hk, show (p : Int) + 1 = ((p + 1 : Nat) : Int) by omega, cK h L1.1 L1.2.2.1 hp1, bq, gr z9, lt_eq, up_same]
    rfl
  have Er : m_subr t = if s0 9 (p + 1) = 266 then m_subr_31 so (-1) (up t 121 10 ((p + 1 : Nat) : Int)) else bd (m_type (up t 121 10 ((p + 1 : Nat) : Int))) (fun r6 s6 => m_subr_31 so r6 s6) := by
    unfold m_subr
    rw [gd_pos (by omega), rGo h6 h4, bq, wd, bq, e127]
    by_cases k : s0 9 (p + 1) = 266
    · rw [if_pos (show s0 9 (p + 1) = 10 + 256 by omega), gr (by omega), if_neg (by omega), if_pos k]
    · rw [if_neg (show ¬ s0 9 (p + 1) = 10 + 256 by omega), gr (by omega), if_pos rfl, if_neg k]
  rw [Ec, Er]
  by_cases k : s0 9 (p + 1) = 266
  · have hp2 : p + 1 + 1 < N := tkL h hp1 (by omega)
    have L2 := LXT_go L1 hp2
    have T2 := (hT.1 _ _ _ _ _ _ _ ((p + 1 + 1 : Nat) : Int) T1).1
    have X2 := RXT_10 (x := ((p + 1 + 1 : Nat) : Int)) X1
    have E31 : m_subr_31 so (-1) (up t 121 10 ((p + 1 : Nat) : Int)) = m_subr_41 so (-1) (up (up t 121 10 ((p + 1 : Nat) : Int)) 121 10 ((p + 1 + 1 : Nat) : Int)) := by
      unfold m_subr_31
      rw [gr (by omega), if_pos rfl, rGo L1.2.2.2.2.2.1 L1.2.2.2.1, bq]
    rw [if_pos k, if_pos k, E31]
    rcases x_sub55 (y := -1) h hT hb01 hg hK hso L2 T2 X2 (by omega) (by omega) (fun k3 => YOK_U hY ⟨hp2, k3⟩ hso h5 (Or.inl ⟨rfl, rfl⟩)) with S | D
    · exact Or.inl ⟨-1, SUBX_t S (fun c k z => by rw [up_ne (by omega), up_ne (by omega)]) (by omega)⟩
    · exact Or.inr D
  · rw [if_neg k, if_neg k]
    rcases x_type h hT L1 T1 with ⟨hp2, r, s1, Y1, e1, e2, e3, e4, e5, e6⟩ | ⟨r, t2, e1, e2, e3, e4⟩
    · have L2 := LXT_go (LXT_MX L1 e5) hp2
      have T2 := (hT.1 _ _ _ _ _ _ s1 ((p + 1 + 1 : Nat) : Int) e4).1
      have X2 := RXT_10 (x := ((p + 1 + 1 : Nat) : Int)) X1
      have E31 : m_subr_31 so ((p + 1 : Nat) : Int) (up (up t 121 10 ((p + 1 : Nat) : Int)) 121 10 ((p + 1 + 1 : Nat) : Int)) = m_subr_41 so ((p + 1 : Nat) : Int) (up (up t 121 10 ((p + 1 : Nat) : Int)) 121 10 ((p + 1 + 1 : Nat) : Int)) := by
        unfold m_subr_31
        rw [gr (by omega), if_neg (by omega)]
      rw [e1, bq, e2, bq, E31]
      rcases x_sub55 (y := ((p + 1 : Nat) : Int)) h hT hb01 hg hK hso L2 T2 X2 (by omega) (by omega) (fun k3 => YOK_U hY ⟨hp2, k3⟩ hso hp1 (Or.inr ⟨rfl, e6⟩)) with S | D
      · exact Or.inl ⟨_, SUBX_t S (fun c k z => by rw [up_ne (by omega), up_ne (by omega)]) (by omega)⟩
      · exact Or.inr D
    · have D := DX_c e4 (fun _ => CTZ_ks hT (k := trl_readSub_55 (256 + so)) (fun s f u hf hd ht => cz_55 h hf hd ht (by omega)))
      obtain ⟨f, u, d1, d2, d3, d4⟩ := e4
      refine Or.inr ⟨_, t2, ?_, DX_mono D (by omega)⟩
      rw [e1, bq, RZ_31 d1 d2 ⟨e2, e3⟩]
end TXn
