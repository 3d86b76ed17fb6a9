/-! chips: which gate of the class is which of the reference -/
section CLa
variable (p : Nat → Nat → Nat)
def GMr : Nat → Nat → Nat → Nat → Nat → Nat → Prop
  | 0, _, _, _, _, _ => False
  | f + 1, c, g, g', x, y => ∃ k, k < npC p c ∧ (p 1 (p 0 c + k) < 2 ∧ x = cgk p c g k ∧ y = rgk p c g' k ∨ 2 ≤ p 1 (p 0 c + k) ∧ GMr f (p 1 (p 0 c + k) - 2) (cgk p c g k) (rgk p c g' (npC p c) + rsg p c (k + 1)) x y)
end CLa
section CLb
variable {p : Nat → Nat → Nat}
theorem GM_rg (h : WFp p) : ∀ (f c g g' x y : Nat), c < p 10 0 → GMr p f c g g' x y → (g ≤ x ∧ x < g + p 12 (2 + c)) ∧ g' ≤ y ∧ y < g' + p 12 (2 + c)
  | 0, _, _, _, _, _, _, hw => hw.elim
  | f + 1, c, g, g', x, y, hc, hw => by
    obtain ⟨k, hk, hw⟩ := hw
    have a := cgk_in h (g := g) hc hk
    have b := rgk_in h (g := g') hc hk
    have w2 := (WF_r h hc hk).2.1
    have r0 := rgk_m (p := p) (c := c) (g := g') (show 0 ≤ npC p c by omega)
    have e0 : rgk p c g' 0 = g' := rfl
    rcases hw with ⟨q, e1, e2⟩ | ⟨q, hw⟩
    · rw [if_pos q] at b
      rw [(WFg h q).2.1] at a
      omega
    · rw [if_neg (by omega), if_neg (by omega)] at b
      have := GM_rg h f _ _ _ _ _ (by omega) hw
      rw [show 2 + (p 1 (p 0 c + k) - 2) = p 1 (p 0 c + k) by omega] at this
      omega
/-- a number lies in one step of a growing row -/
theorem find_k {F : Nat → Nat} {x : Nat} : ∀ n, F 0 ≤ x → x < F n → ∃ k, k < n ∧ F k ≤ x ∧ x < F (k + 1)
  | 0, h1, h2 => by omega
  | n + 1, h1, h2 => by
    by_cases q : x < F n
    · obtain ⟨k, a1, a2⟩ := find_k n h1 q
      exact ⟨k, by omega, a2⟩
    · exact ⟨n, by omega, by omega, h2⟩
theorem GM_x (h : WFp p) : ∀ (f c g g' x : Nat), c < p 10 0 → p 13 (2 + c) ≤ f → g ≤ x → x < g + p 12 (2 + c) → ∃ y, GMr p f c g g' x y
  | 0, c, _, _, _, hc, hf, _, _ => by
    have := (h.2.1 c hc).2.2.1
    omega
  | f + 1, c, g, g', x, hc, hf, h1, h2 => by
    rw [← cgk_e h hc] at h2
    obtain ⟨k, k1, k2, k3⟩ := find_k (F := fun k => cgk p c g k) (npC p c) h1 h2
    have w := WF_r h hc k1
    have k2' : cgk p c g k ≤ x := k2
    have k3' : x < cgk p c g (k + 1) := k3
    rw [cgk_s] at k3'
    by_cases q : p 1 (p 0 c + k) < 2
    · rw [(WFg h q).2.1] at k3'
      exact ⟨rgk p c g' k, k, k1, Or.inl ⟨q, by omega, rfl⟩⟩
    · have e2 : 2 + (p 1 (p 0 c + k) - 2) = p 1 (p 0 c + k) := by omega
      obtain ⟨y, hy⟩ := GM_x h f (p 1 (p 0 c + k) - 2) (cgk p c g k) (rgk p c g' (npC p c) + rsg p c (k + 1)) x (by omega) (by rw [e2]; omega) k2' (by rw [e2]; exact k3')
      exact ⟨y, k, k1, Or.inr ⟨by omega, hy⟩⟩
theorem GM_y (h : WFp p) : ∀ (f c g g' y : Nat), c < p 10 0 → p 13 (2 + c) ≤ f → g' ≤ y → y < g' + p 12 (2 + c) → ∃ x, GMr p f c g g' x y
  | 0, c, _, _, _, hc, hf, _, _ => by
    have := (h.2.1 c hc).2.2.1
    omega
  | f + 1, c, g, g', y, hc, hf, h1, h2 => by
    rw [← rg_tot h hc] at h2
    by_cases z : y < rgk p c g' (npC p c)
    · obtain ⟨k, k1, k2, k3⟩ := find_k (F := fun k => rgk p c g' k) (npC p c) h1 z
      have k2' : rgk p c g' k ≤ y := k2
      have k3' : y < rgk p c g' (k + 1) := k3
      rw [rgk_s] at k3'
      by_cases q : p 1 (p 0 c + k) < 2
      · rw [if_pos q] at k3'
        exact ⟨cgk p c g k, k, k1, Or.inl ⟨q, rfl, by omega⟩⟩
      · rw [if_neg q] at k3'
        omega
    · -- from the end
      have go : ∀ d, d ≤ npC p c → y < rgk p c g' (npC p c) + rsg p c (npC p c - d) → ∃ k, k < npC p c ∧ rgk p c g' (npC p c) + rsg p c (k + 1) ≤ y ∧ y < rgk p c g' (npC p c) + rsg p c k := by
        intro d
        induction d with
        | zero =>
          intro _ q
          rw [Nat.sub_zero, rsg_e] at q
          omega
        | succ d ih =>
          intro hd q
          by_cases r : y < rgk p c g' (npC p c) + rsg p c (npC p c - d)
          · exact ih (by omega) r
          · refine ⟨npC p c - (d + 1), by omega, ?_, q⟩
            rw [show npC p c - (d + 1) + 1 = npC p c - d by omega]
            omega
      obtain ⟨k, k1, k2, k3⟩ := go (npC p c) (Nat.le_refl _) (by rw [Nat.sub_self]; exact h2)
      rw [rsg_s k1] at k3
      have w := WF_r h hc k1
      by_cases q : p 1 (p 0 c + k) < 2
      · rw [if_pos q] at k3
        omega
      · rw [if_neg q] at k3
        have e2 : 2 + (p 1 (p 0 c + k) - 2) = p 1 (p 0 c + k) := by omega
        obtain ⟨x, hx⟩ := GM_y h f (p 1 (p 0 c + k) - 2) (cgk p c g k) (rgk p c g' (npC p c) + rsg p c (k + 1)) y (by omega) (by rw [e2]; omega) k2 (by rw [e2]; omega)
        exact ⟨x, k, k1, Or.inr ⟨by omega, hx⟩⟩
theorem GM_1 (h : WFp p) : ∀ (f c g g' x y y' : Nat), c < p 10 0 → GMr p f c g g' x y → GMr p f c g g' x y' → y = y'
  | 0, _, _, _, _, _, _, _, hw, _ => hw.elim
  | f + 1, c, g, g', x, y, y', hc, h1, h2 => by
    obtain ⟨k, hk, h1⟩ := h1
    obtain ⟨k', hk', h2⟩ := h2
    have w := (WF_r h hc hk).2.1
    have w' := (WF_r h hc hk').2.1
    -- the part is the same
    have rx : ∀ k y, k < npC p c → (p 1 (p 0 c + k) < 2 ∧ x = cgk p c g k ∧ y = rgk p c g' k ∨ 2 ≤ p 1 (p 0 c + k) ∧ GMr p f (p 1 (p 0 c + k) - 2) (cgk p c g k) (rgk p c g' (npC p c) + rsg p c (k + 1)) x y) → cgk p c g k ≤ x ∧ x < cgk p c g (k + 1) := by
      intro k y hk q
      have w := (WF_r h hc hk).2.1
      rw [cgk_s]
      rcases q with ⟨q, e1, -⟩ | ⟨q, e⟩
      · rw [(WFg h q).2.1]; omega
      · have := (GM_rg h f _ _ _ _ _ (by omega) e).1
        rw [show 2 + (p 1 (p 0 c + k) - 2) = p 1 (p 0 c + k) by omega] at this
        exact this
    have a := rx k y hk h1
    have b := rx k' y' hk' h2
    have kk : k = k' := by
      rcases Nat.lt_trichotomy k k' with q | q | q
      · have := cgk_m (p := p) (c := c) (g := g) (show k + 1 ≤ k' by omega)
        omega
      · exact q
      · have := cgk_m (p := p) (c := c) (g := g) (show k' + 1 ≤ k by omega)
        omega
    subst kk
    rcases h1 with ⟨q, e1, e2⟩ | ⟨q, e⟩ <;> rcases h2 with ⟨q', e1', e2'⟩ | ⟨q', e'⟩
    · rw [e2, e2']
    · omega
    · omega
    · exact GM_1 h f _ _ _ _ _ _ (by omega) e e'
theorem GM_2 (h : WFp p) : ∀ (f c g g' x x' y : Nat), c < p 10 0 → GMr p f c g g' x y → GMr p f c g g' x' y → x = x'
  | 0, _, _, _, _, _, _, _, hw, _ => hw.elim
  | f + 1, c, g, g', x, x', y, hc, h1, h2 => by
    obtain ⟨k, hk, h1⟩ := h1
    obtain ⟨k', hk', h2⟩ := h2
    have w := (WF_r h hc hk).2.1
    have w' := (WF_r h hc hk').2.1
    have ry : ∀ k x, k < npC p c → 2 ≤ p 1 (p 0 c + k) → GMr p f (p 1 (p 0 c + k) - 2) (cgk p c g k) (rgk p c g' (npC p c) + rsg p c (k + 1)) x y → rgk p c g' (npC p c) + rsg p c (k + 1) ≤ y ∧ y < rgk p c g' (npC p c) + rsg p c k := by
      intro k x hk q e
      have w := (WF_r h hc hk).2.1
      have := (GM_rg h f _ _ _ _ _ (by omega) e).2
      rw [show 2 + (p 1 (p 0 c + k) - 2) = p 1 (p 0 c + k) by omega] at this
      rw [rsg_s hk, if_neg (by omega)]
      omega
    rcases h1 with ⟨q, e1, e2⟩ | ⟨q, e⟩ <;> rcases h2 with ⟨q', e1', e2'⟩ | ⟨q', e'⟩
    · have kk : k = k' := by
        rcases Nat.lt_trichotomy k k' with z | z | z
        · have := rgk_m (p := p) (c := c) (g := g') (show k + 1 ≤ k' by omega)
          rw [rgk_s, if_pos q] at this
          omega
        · exact z
        · have := rgk_m (p := p) (c := c) (g := g') (show k' + 1 ≤ k by omega)
          rw [rgk_s, if_pos q'] at this
          omega
      rw [e1, e1', kk]
    · have a := ry k' x' hk' q' e'
      have b := (rgk_in h (g := g') hc hk).1
      rw [if_pos q] at b
      omega
    · have a := ry k x hk q e
      have b := (rgk_in h (g := g') hc hk').1
      rw [if_pos q'] at b
      omega
    · have a := ry k x hk q e
      have b := ry k' x' hk' q' e'
      have kk : k = k' := by
        rcases Nat.lt_trichotomy k k' with z | z | z
        · have := rsg_m (p := p) (c := c) (d := k' - (k + 1)) (k := k + 1) (by omega)
          rw [show k + 1 + (k' - (k + 1)) = k' by omega] at this
          omega
        · exact z
        · have := rsg_m (p := p) (c := c) (d := k - (k' + 1)) (k := k' + 1) (by omega)
          rw [show k' + 1 + (k - (k' + 1)) = k by omega] at this
          omega
      subst kk
      exact GM_2 h f _ _ _ _ _ _ (by omega) e e'
end CLb
