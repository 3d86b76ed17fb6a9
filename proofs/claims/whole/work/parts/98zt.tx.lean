/-! the text, whole -/
section TXs
variable {F : Nat → Int} {n N : Nat} {P : Nat → Nat} {s0 t0 : iS} {T : TXP} {TV : Int → Int → Prop} {Z : iS → Prop} {b : Int}
theorem c48_nx {v x x' : Int} {s s' : iS} (h : trl_readText_48b v x s = some (.inl (x', s'))) : trl_readText_48 v x s = trl_readText_48 v x' s' := by
  unfold trl_readText_48
  rw [lp_next (f := fun l : Int × iS => trl_readText_48b v (l.1) (l.2)) (l := (x, s)) h]
theorem c48_en {v x : Int} {s s' : iS} (h : trl_readText_48b v x s = some (.inr s')) : trl_readText_48 v x s = trl_readText_152 v s' := by
  unfold trl_readText_48
  rw [lp_end (f := fun l : Int × iS => trl_readText_48b v (l.1) (l.2)) (l := (x, s)) h, bn]
theorem m45_nx {t t' : iS} (h : m_texts_45b t = some (.inl t')) : m_texts_45 t = m_texts_45 t' := by
  unfold m_texts_45
  rw [lp_next (f := fun l : iS => m_texts_45b l) (l := t) h]
theorem m45_en {t t' : iS} (h : m_texts_45b t = some (.inr (.inl t')) ∨ m_texts_45b t = some (.inr (.inr t'))) : m_texts_45 t = some (0, t') := by
  unfold m_texts_45
  rcases h with h | h
  · rw [lp_end (f := fun l : iS => m_texts_45b l) (l := t) h, bn]; rfl
  · rw [lp_end (f := fun l : iS => m_texts_45b l) (l := t) h, bn]; rfl
theorem x_texts (h : TKR 0 F n N P s0 t0) (hT : RHT T TV Z b s0 N P) (hb01 : b = 0 ∨ b = 1) : ∀ (d g : Nat) (K : List Nat) (U : List urec) (W : List wrec) (Y : List Nat) (A : List (List itm)) (s t : iS) (p w I C x : Nat), N - p ≤ d → (g = 0 ∨ g = 3) → LXT s0 t0 N s t p 0 w I C → T g K U W Y A s → RXT K U W t → W.length ≤ p → x ≤ p → YOK s0 N Y K U W → AOK s0 K U W A t I C p w → A.length = U.length →
    (∃ s2 t2 p2 g2 K2 U2 W2 Y2 A2 w2 I2 C2, trl_readText_48 b (x : Int) s = trl_readText_152 b s2 ∧ m_texts_45 t = some (0, t2) ∧ s0 9 p2 = 0 ∧ (g2 = 0 ∨ g2 = 3) ∧ LXT s0 t0 N s2 t2 p2 0 w2 I2 C2 ∧ T g2 K2 U2 W2 Y2 A2 s2 ∧ RXT K2 U2 W2 t2 ∧ W2.length ≤ p2 ∧ YOK s0 N Y2 K2 U2 W2 ∧ AOK s0 K2 U2 W2 A2 t2 I2 C2 p2 w2 ∧ A2.length = U2.length) ∨
    (∃ t2 f u, m_texts_45 t = some (0, t2) ∧ ft f u N ∧ RD t0 N P t2 f u 3412 ∧ (b = 0 → ∃ s', trl_readText_48 b (x : Int) s = some (0, s') ∧ CD s0 N s' f u ∧ Z s')) := by
  have hN2 := N1001 h
  intro d
  induction d with
  | zero => intro g K U W Y A s t p w I C x hd hg hL; have := hL.2.2.2.2.1; omega
  | succ d ih =>
    intro g K U W Y A s t p w I C x hd hg hL hs hX hW hx hY hA hAU
    have hL' := hL
    obtain ⟨h1, h2, h3, h4, h5, h6, _⟩ := hL
    have kk := tkK h h5
    have z9 : -2147483648 ≤ s0 9 p ∧ s0 9 p ≤ 2147483647 := by
      rw [if_pos rfl] at kk
      omega
    obtain ⟨r1, r2, r3⟩ := r_cls h hL'
    by_cases k : s0 9 p = 256
    · have hp1 : p + 1 < N := tkL h h5 (by omega)
      rcases x_class h hT hb01 (v1 := b) (x := x) (by omega) hg k hL' hs hX hW hY hA hAU with ⟨s2, t2, p2, g2, K2, U2, W2, Y2, A2, w2, I2, C2, e1, e2, e3, e4, e5, e6, e7, e8, e9, e10, e11⟩ | ⟨t2, e1, f, u, d1, d2, d3⟩
      · rw [c48_nx e1, m45_nx e2]
        exact ih g2 K2 U2 W2 Y2 A2 s2 t2 p2 w2 I2 C2 (x + 1) (by omega) e3 e4 e5 e6 e7 (by omega) e9 e10 e11
      · refine Or.inr ⟨t2, f, u, ?_, d1, d2, fun hb => ?_⟩
        · rcases e1 with e1 | e1
          · rw [m45_nx e1, m45_en (Or.inr (RZ_45b d1 d2))]
          · exact m45_en (Or.inl e1)
        · obtain ⟨s', y1, y2, y3⟩ := d3 hb
          refine ⟨s', ?_, y2, y3⟩
          rw [c48_nx y1, hb]
          exact cz_48 h d1 y2 (by omega)
    · have B : trl_readText_48b b (x : Int) s = some (.inr s) := by
        unfold trl_readText_48b
        rw [gr (by omega)]
        by_cases c : 1000 ≤ (x : Int)
        · rw [if_pos c]
        · rw [if_neg c, cK h h1 h3 h5, bq, gr z9, if_neg k]
      rw [c48_en B]
      by_cases k0 : s0 9 p = 0
      · rw [m45_en (Or.inr (r1 k0))]
        exact Or.inl ⟨s, t, p, g, K, U, W, Y, A, w, I, C, rfl, rfl, k0, hg, hL', hs, hX, hW, hY, hA, hAU⟩
      · have hf : (if s0 9 p = 2 then (2 : Int) else 1) = 1 ∨ (if s0 9 p = 2 then (2 : Int) else 1) = 2 := by split <;> omega
        have hL2 := hL'
        obtain ⟨_, _, _, _, _, _, i7, i8, i9, i10, i11, i12, i13, i14, i15, i16⟩ := hL2
        obtain ⟨y1, y2, y3, y4⟩ := hT.2.1 _ _ _ _ _ _ s hs
        refine Or.inr ⟨_, _, p, m45_en (Or.inl (r3 k0 k)), ⟨hf, h5⟩, flt_RD h2 h4 h5 i13 (by omega) (by omega), fun hb => ⟨_, ?_, stp_CD h1 (by rw [y1, hb]) (y3 hb).2 y2, hT.2.2.2.1 _ _ y4 stp_ZK⟩⟩
        unfold trl_readText_152
        rw [cEx0 h h1 (y3 hb).1 h3 h5 (by omega) k0, bq, hb, gr (by omega), if_pos rfl]
end TXs
