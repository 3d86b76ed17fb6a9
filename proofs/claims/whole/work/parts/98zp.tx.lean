/-! the variables of a class -/
section TXo
variable {F : Nat → Int} {n N : Nat} {P : Nat → Nat} {s0 t0 : iS} {T : TXP} {TV : Int → Int → Prop} {Z : iS → Prop} {b : Int} {K : List Nat} {U : List urec} {A : List (List itm)} {o w I C : Nat}
theorem kv_nx {v x v' x' : Int} {s s' : iS} (h : trl_readClassVariables_10b v x s = some (.inl (v', x', s'))) : trl_readClassVariables_10 v x s = trl_readClassVariables_10 v' x' s' := by
  unfold trl_readClassVariables_10
  rw [lp_next (f := fun l : Int × Int × iS => trl_readClassVariables_10b (l.1) (l.2.1) (l.2.2)) (l := (v, x, s)) h]
theorem kv_en {v x : Int} {s s' : iS} (h : trl_readClassVariables_10b v x s = some (.inr s')) : trl_readClassVariables_10 v x s = some (0, s') := by
  unfold trl_readClassVariables_10
  rw [lp_end (f := fun l : Int × Int × iS => trl_readClassVariables_10b (l.1) (l.2.1) (l.2.2)) (l := (v, x, s)) h, bn]
theorem mk_nx {t t' : iS} (h : m_texts_170b t = some (.inl t')) : m_texts_170 t = m_texts_170 t' := by
  unfold m_texts_170
  rw [lp_next (f := fun l : iS => m_texts_170b l) (l := t) h]
theorem mk_en {t t' : iS} (h : m_texts_170b t = some (.inr t')) : m_texts_170 t = m_texts_214 t' := by
  unfold m_texts_170
  rw [lp_end (f := fun l : iS => m_texts_170b l) (l := t) h, bn]
theorem x_cvars (h : TKR 0 F n N P s0 t0) (hT : RHT T TV Z b s0 N P) (hK : K ≠ []) : ∀ (d : Nat) (W : List wrec) (Y : List Nat) (s t : iS) (p x : Nat), N - p ≤ d → LXT s0 t0 N s t p o w I C → T 0 K U W Y A s → RXT K U W t → W.length ≤ p → x + 1 ≤ p → YOK s0 N Y K U W →
    (∃ s2 t2 p2 W2 Y2, trl_readClassVariables_10 (s0 9 p) (x : Int) s = some (0, s2) ∧ m_texts_170 t = m_texts_214 t2 ∧ LXT s0 t0 N s2 t2 p2 o w I C ∧ T 0 K U W2 Y2 A s2 ∧ RXT K U W2 t2 ∧ (W2.length ≤ p2 ∧ ∃ lx, W2 = W ++ lx ∧ ∀ e ∈ lx, e.2.2.2.2.1 < p2 ∧ e.1 = (K.length : Int) - 1 ∧ e.2.1 = -1) ∧ p ≤ p2 ∧ FDX t t2 ∧ YOK s0 N Y2 K U W2) ∨
    (∃ t2, m_texts_170 t = m_texts_214 t2 ∧ DX 3010 b Z s0 t0 N P (t 121 17) t2 (trl_readClassVariables_10 (s0 9 p) (x : Int) s)) := by
  have hN2 := N1001 h
  intro d
  induction d with
  | zero => intro W Y s t p x hd hL; have := hL.2.2.2.2.1; omega
  | succ d ih =>
    intro W Y s t p x hd hL hs hX hW hx hY
    have hL' := hL
    obtain ⟨h1, h2, h3, h4, h5, h6, _⟩ := hL
    have kk := tkK h h5
    have z9 : -2147483648 ≤ s0 9 p ∧ s0 9 p ≤ 2147483647 := by
      rw [if_pos rfl] at kk
      omega
    have w5 := rW h h2 h4 h5 (w := 5) (by omega)
    have w4 := rW h h2 h4 h5 (w := 4) (by omega)
    by_cases k : s0 9 p = 261 ∨ s0 9 p = 260
    · have hv : ∃ v so : Int, (v = 3 ∧ so = 0 ∧ s0 9 p = 261 ∨ v = 4 ∧ so = 1 ∧ s0 9 p = 260) := by
        rcases k with k | k
        · exact ⟨3, 0, Or.inl ⟨rfl, rfl, k⟩⟩
        · exact ⟨4, 1, Or.inr ⟨rfl, rfl, k⟩⟩
      obtain ⟨v, so, hv⟩ := hv
      have B : trl_readClassVariables_10b (s0 9 p) (x : Int) s = bd (trl_readVariables v (up s 2 12 ((p + 1 : Nat) : Int))) (fun _ s1 => bd (tok_kind s1) (fun r2 s2 => some (.inl (r2, ((x : Int) + 1), s2)))) := by
        unfold trl_readClassVariables_10b
        have e31 : trl_readClassVariables_31 (s0 9 p) (x : Int) s = bd (trl_readVariables v (up s 2 12 ((p + 1 : Nat) : Int))) (fun _ s1 => bd (tok_kind s1) (fun r2 s2 => some (.inl (r2, ((x : Int) + 1), s2)))) := by
          unfold trl_readClassVariables_31 trl_readClassVariables_57
          rw [lt_eq, gr z9, h3, show (p : Int) + 1 = ((p + 1 : Nat) : Int) by omega]
          rcases hv with ⟨q1, q2, q3⟩ | ⟨q1, q2, q3⟩
          · rw [if_pos q3, q1]
          · rw [if_neg (by omega), q1]
        rw [gr (by omega), if_neg (by omega), gr z9, e31]
        by_cases c : s0 9 p = 261
        · rw [if_pos c]
        · rw [if_neg c, if_pos (by omega)]
      have E : m_texts_170b t = bd (m_declares (-1) so t) (fun _ s6 => some (.inl s6)) := by
        unfold m_texts_170b m_texts_193 m_texts_208
        rw [gr (by omega), if_pos h6, w5, bq]
        rcases hv with ⟨q1, q2, q3⟩ | ⟨q1, q2, q3⟩
        · rw [if_pos (show s0 9 p = 5 + 256 by omega), gr (by omega), if_neg (by omega), w5, bq, if_pos (show s0 9 p = 5 + 256 by omega), gr (by omega), if_neg (by omega), q2]
        · rw [if_neg (show ¬ s0 9 p = 5 + 256 by omega), gr (by omega), if_pos rfl, w4, bq, if_pos (show s0 9 p = 4 + 256 by omega), gr (by omega), if_neg (by omega), w5, bq, if_neg (show ¬ s0 9 p = 5 + 256 by omega), gr (by omega), if_pos rfl, q2]
      rcases x_vars h hT hK (v := v) (by omega) (by omega) (u := -1) (so := so) (by rw [if_neg (by omega)]) (by rcases hv with ⟨q1, q2, q3⟩ | ⟨q1, q2, q3⟩ <;> rw [q1, q2] <;> decide) hL' (by omega) hs hX hW hY with ⟨s2, t2, p2, l, Y2, e1, e2, e3, e4, e5, e6, e7, e8, e9⟩ | ⟨t2, e1, e2⟩
      · rw [e1, bq, cK h e3.1 e3.2.2.1 e3.2.2.2.2.1, bq] at B
        rw [e2, bq] at E
        rw [kv_nx B, mk_nx E]
        rcases ih _ _ _ _ p2 (x + 1) (by omega) e3 e4 e5 e6.1 (by omega) e9 with ⟨s3, t3, p3, W2, Y3, f1, f2, f3, f4, f5, f6, f7, f8, f9⟩ | ⟨t3, f1, f2⟩
        · exact Or.inl ⟨s3, t3, p3, W2, Y3, f1, f2, f3, f4, f5, ⟨f6.1, by obtain ⟨_, lx, z1, z2⟩ := f6; exact ⟨l ++ lx, by rw [z1, List.append_assoc], fun e he => by
          rcases List.mem_append.mp he with q | q
          · obtain ⟨y1, y2, y3⟩ := e6.2 e q
            exact ⟨by omega, y2, y3⟩
          · exact z2 e q⟩⟩, by omega, FDX_trans e8 f8, f9⟩
        · rw [e8 121 17 (by omega) (by omega) (by omega) (by omega) (by omega)] at f2
          exact Or.inr ⟨t3, f1, f2⟩
      · obtain ⟨f, u, d1, d2, d3, d4⟩ := e2
        rw [e1, bq] at E
        have gz := RZ_f d1 d2
        refine Or.inr ⟨t2, ?_, f, u, d1, d2, d3, fun hb => ?_⟩
        · rw [mk_nx E]
          refine mk_en ?_
          unfold m_texts_170b
          rw [gr (by omega), if_neg (by omega)]
        · obtain ⟨r, s', y1, y2, y3⟩ := d4 hb
          rw [y1, bq, cKD h y2.1 y2.2.1, bq] at B
          exact ⟨0, s', by rw [kv_nx B, cz_cv10 (by omega) (by omega)], y2, y3⟩
    · refine Or.inl ⟨s, t, p, W, Y, kv_en ?_, mk_en ?_, hL', hs, hX, ⟨hW, [], (List.append_nil _).symm, fun e he => by simp at he⟩, Nat.le_refl _, FDX_refl, hY⟩
      · unfold trl_readClassVariables_10b
        rw [gr (by omega), if_neg (by omega), gr z9, if_neg (by omega), if_neg (by omega)]
      · unfold m_texts_170b
        rw [gr (by omega), if_pos h6, w5, bq, if_neg (show ¬ s0 9 p = 5 + 256 by omega), gr (by omega), if_pos rfl, w4, bq, if_neg (show ¬ s0 9 p = 4 + 256 by omega), gr (by omega), if_pos rfl]
end TXo
