/-! a sub: its variables -/
section TXk
variable {F : Nat → Int} {n N : Nat} {P : Nat → Nat} {s0 t0 : iS} {T : TXP} {TV : Int → Int → Prop} {Z : iS → Prop} {b : Int} {g : Nat} {K : List Nat} {U : List urec} {A : List (List itm)} {o w I C : Nat}
theorem LXT_open {s t : iS} {p : Nat} (h : LXT s0 t0 N s t p o w I C) (hp : p + 1 < N) (ho : o < 25) : LXT s0 t0 N (up (up s 22 5 ((o + 1 : Nat) : Int)) 2 12 ((p + 1 : Nat) : Int)) (up (up t 121 48 ((o + 1 : Nat) : Int)) 121 10 ((p + 1 : Nat) : Int)) (p + 1) (o + 1) w I C := by
  obtain ⟨h1, h2, h3, h4, h5, h6, h7, h8, h9, h10, h11, h12, h13, h14, h15, h16⟩ := h
  exact ⟨SC_up (SC_up h1 (by omega)) (by omega), SR_up (SR_up h2 (by omega)) (by omega), up_same _ _ _ _, up_same _ _ _ _, hp, by rw [up_ne (by omega), up_ne (by omega)]; exact h6, by rw [up_ne (by omega), up_same], by rw [up_ne (by omega), up_same], by omega, by rw [up_ne (by omega), up_ne (by omega)]; exact h10, by rw [up_ne (by omega), up_ne (by omega)]; exact h11, h12, by rw [up_ne (by omega), up_ne (by omega)]; exact h13, by rw [up_ne (by omega), up_ne (by omega)]; exact h14, by omega, by omega⟩
theorem RXT_48 {W : List wrec} {t : iS} {x : Int} (h : RXT K U W t) : RXT K U W (up t 121 48 x) := by
  obtain ⟨a1, a2, a3, a4, a5, a6, a7, a8, a9, a10, a11, a12, a13⟩ := h
  exact ⟨by rw [up_ne (by omega)]; exact a1, fun i hi => by rw [up_ne (by omega)]; exact a2 i hi, a3, by rw [up_ne (by omega)]; exact a4, fun i hi => by rw [up_ne (by omega), up_ne (by omega), up_ne (by omega), up_ne (by omega)]; exact a5 i hi, a6, by rw [up_ne (by omega)]; exact a7, fun i hi => by rw [up_ne (by omega), up_ne (by omega), up_ne (by omega), up_ne (by omega), up_ne (by omega), up_ne (by omega), up_ne (by omega)]; exact a8 i hi, a9, by rw [up_ne (by omega)]; exact a10, fun q => by rw [up_ne (by omega)]; exact a11 q, fun c hc => by rw [up_ne (by omega)]; exact a12 c hc, fun u hu => by rw [up_ne (by omega), up_ne (by omega)]; exact a13 u hu⟩
/-- the sign that opens a class or a sub -/
theorem x_open (h : TKR 0 F n N P s0 t0) (hT : RHT T TV Z b s0 N P) {W : List wrec} {Y : List Nat} {s t : iS} {p : Nat} (hL : LXT s0 t0 N s t p o w I C) (hs : T g K U W Y A s) (hX : RXT K U W t) (ho : o < 25) :
    (∃ s2 t2, p + 1 < N ∧ trl_openSign 123 s = some (0, s2) ∧ m_openSign 123 t = some (0, t2) ∧ LXT s0 t0 N s2 t2 (p + 1) (o + 1) w I C ∧ T g K U W Y A s2 ∧ RXT K U W t2 ∧ (∀ c k, ¬ (c = 121 ∧ (k = 10 ∨ k = 48)) → t2 c k = t c k)) ∨
    (∃ t2, m_openSign 123 t = some (0, t2) ∧ DX 3010 b Z s0 t0 N P (t 121 17) t2 (trl_openSign 123 s)) := by
  have hL' := hL
  obtain ⟨h1, h2, h3, h4, h5, h6, h7, h8, h9, _⟩ := hL
  by_cases k : s0 9 p = 123
  · have hp1 : p + 1 < N := tkL h h5 (by omega)
    exact Or.inl ⟨_, _, hp1, cOp h h1 h3 h5 h7 ho (by omega) k, rOp h h2 h6 h4 h5 h8 ho (by omega) k, LXT_open hL' hp1 ho, (hT.1 _ _ _ _ _ _ _ _ (hT.1 _ _ _ _ _ _ _ _ hs).2).1, RXT_10 (RXT_48 hX), fun c k q => by rw [up_ne (by omega), up_ne (by omega)]⟩
  · have hf : (if s0 9 p = 2 then (2 : Int) else 1) = 1 ∨ (if s0 9 p = 2 then (2 : Int) else 1) = 2 := by split <;> omega
    exact Or.inr ⟨_, rOpN h h2 h6 h4 h5 (by omega) k, x_stop h hT hL' hs hf (fun hb => ⟨0, cOpN h h1 ((hT.2.1 _ _ _ _ _ _ s hs).2.2.1 hb).1 h3 h5 (by omega) k⟩)⟩
theorem sv_nx {v x x' : Int} {s s' : iS} (h : trl_readSub_72b v x s = some (.inl (x', s'))) : trl_readSub_72 v x s = trl_readSub_72 v x' s' := by
  unfold trl_readSub_72
  rw [lp_next (f := fun l : Int × iS => trl_readSub_72b v (l.1) (l.2)) (l := (x, s)) h]
theorem sv_en {v x : Int} {s s' : iS} (h : trl_readSub_72b v x s = some (.inr s')) : trl_readSub_72 v x s = trl_readSub_116 v s' := by
  unfold trl_readSub_72
  rw [lp_end (f := fun l : Int × iS => trl_readSub_72b v (l.1) (l.2)) (l := (x, s)) h, bn]
theorem sv_no {v x : Int} {s : iS} (h : trl_readSub_72b v x s = none) : trl_readSub_72 v x s = none := by
  unfold trl_readSub_72
  rw [lp_none (f := fun l : Int × iS => trl_readSub_72b v (l.1) (l.2)) (l := (x, s)) h]
  rfl
theorem mv_nx {t t' : iS} (h : m_subr_205b t = some (.inl t')) : m_subr_205 t = m_subr_205 t' := by
  unfold m_subr_205
  rw [lp_next (f := fun l : iS => m_subr_205b l) (l := t) h]
theorem mv_en {t t' : iS} (h : m_subr_205b t = some (.inr t')) : m_subr_205 t = m_subr_235 t' := by
  unfold m_subr_205
  rw [lp_end (f := fun l : iS => m_subr_205b l) (l := t) h, bn]
/-- the variables of a sub -/
theorem x_svars (h : TKR 0 F n N P s0 t0) (hT : RHT T TV Z b s0 N P) (hK : K ≠ []) (hU : U ≠ []) {v : Int} (hv : 0 ≤ v ∧ v < 1000) : ∀ (d : Nat) (W : List wrec) (Y : List Nat) (s t : iS) (p x : Nat), N - p ≤ d → LXT s0 t0 N s t p o w I C → T 2 K U W Y A s → RXT K U W t → W.length ≤ p → x + 1 ≤ p → YOK s0 N Y K U W →
    (∃ s2 t2 p2 W2 Y2, trl_readSub_72 v (x : Int) s = trl_readSub_116 v s2 ∧ m_subr_205 t = m_subr_235 t2 ∧ LXT s0 t0 N s2 t2 p2 o w I C ∧ T 2 K U W2 Y2 A s2 ∧ RXT K U W2 t2 ∧ (W2.length ≤ p2 ∧ ∃ lx, W2 = W ++ lx ∧ ∀ e ∈ lx, e.2.2.2.2.1 < p2 ∧ e.2.1 = (U.length : Int) - 1) ∧ p ≤ p2 ∧ FDX t t2 ∧ YOK s0 N Y2 K U W2) ∨
    (∃ t2, m_subr_205 t = some (0, t2) ∧ DX 3010 b Z s0 t0 N P (t 121 17) t2 (trl_readSub_72 v (x : Int) s)) := by
  have hN2 := N1001 h
  intro d
  induction d with
  | zero => intro W Y s t p x hd hL; have := hL.2.2.2.2.1; omega
  | succ d ih =>
    intro W Y s t p x hd hL hs hX hW hx hY
    have hL' := hL
    obtain ⟨h1, h2, h3, h4, h5, h6, _⟩ := hL
    have hX' := hX
    obtain ⟨a1, a2, a3, a4, a5, a6, _⟩ := hX
    have hU1 : 0 < U.length := List.length_pos_iff.mpr hU
    have kk := tkK h h5
    have z9 : -2147483648 ≤ s0 9 p ∧ s0 9 p ≤ 2147483647 := by
      rw [if_pos rfl] at kk
      omega
    have wd := rW h h2 h4 h5 (w := 6) (by omega)
    by_cases k : s0 9 p = 262
    · rw [if_pos (show s0 9 p = 6 + 256 by omega)] at wd
      have B : trl_readSub_72b v (x : Int) s = bd (trl_readVariables 2 (up s 2 12 ((p + 1 : Nat) : Int))) (fun _ s7 => some (.inl (((x : Int) + 1), s7))) := by
        unfold trl_readSub_72b
        rw [gr (by omega), if_neg (by omega), cK h h1 h3 h5, bq, gr z9, if_pos k, lt_eq, h3]
        rfl
      have E : m_subr_205b t = bd (m_declares ((U.length : Int) - 1) 3 t) (fun _ s6 => some (.inl s6)) := by
        unfold m_subr_205b
        rw [gr (by omega), if_pos h6, wd, bq, gr (by omega), if_neg (by omega), a4]
      rcases x_vars h hT hK (v := 2) (Or.inl ⟨rfl, hU⟩) (Or.inr ⟨rfl, rfl⟩) (u := (U.length : Int) - 1) (so := 3) (by rw [if_pos rfl]) (by rw [if_pos rfl]) hL' (by omega) hs hX' hW hY with ⟨s2, t2, p2, l, Y2, e1, e2, e3, e4, e5, e6, e7, e8, e9⟩ | ⟨t2, e1, e2⟩
      · rw [e1, bq] at B
        rw [e2, bq] at E
        rw [sv_nx B, mv_nx E]
        rcases ih _ _ _ _ p2 (x + 1) (by omega) e3 e4 e5 e6.1 (by omega) e9 with ⟨s3, t3, p3, W2, Y3, f1, f2, f3, f4, f5, f6, f7, f8, f9⟩ | ⟨t3, f1, f2⟩
        · exact Or.inl ⟨s3, t3, p3, W2, Y3, f1, f2, f3, f4, f5, ⟨f6.1, by obtain ⟨_, lx, z1, z2⟩ := f6; exact ⟨l ++ lx, by rw [z1, List.append_assoc], fun e he => by
          rcases List.mem_append.mp he with q | q
          · obtain ⟨y1, y2, y3⟩ := e6.2 e q
            exact ⟨by omega, y3⟩
          · exact z2 e q⟩⟩, by omega, FDX_trans e8 f8, f9⟩
        · rw [e8 121 17 (by omega) (by omega) (by omega) (by omega) (by omega)] at f2
          exact Or.inr ⟨t3, f1, f2⟩
      · obtain ⟨f, u, d1, d2, d3, d4⟩ := e2
        rw [e1, bq] at E
        obtain ⟨t3, g1, g2, g3⟩ := RZ_205 d1 d2 (by omega)
        refine Or.inr ⟨t3, by rw [mv_nx E, g1], f, u, d1, g2, by rw [g3, d3], fun hb => ?_⟩
        obtain ⟨r, s', y1, y2, y3⟩ := d4 hb
        rw [y1, bq] at B
        obtain ⟨s'', z1, z2, z3⟩ := cz_72 (v := v) (x := (x : Int) + 1) h d1 y2 (hT.2.2.1 _ y3) hv (by omega)
        exact ⟨0, s'', by rw [sv_nx B, z1], z2, hT.2.2.2.1 _ _ y3 (KS_ZK z3)⟩
    · rw [if_neg (show ¬ s0 9 p = 6 + 256 by omega)] at wd
      refine Or.inl ⟨s, t, p, W, Y, sv_en ?_, mv_en ?_, hL', hs, hX', ⟨hW, [], (List.append_nil _).symm, fun e he => by simp at he⟩, Nat.le_refl _, FDX_refl, hY⟩
      · unfold trl_readSub_72b
        rw [gr (by omega), if_neg (by omega), cK h h1 h3 h5, bq, gr z9, if_neg k]
      · unfold m_subr_205b
        rw [gr (by omega), if_pos h6, wd, bq, gr (by omega), if_pos rfl]
end TXk
