/-! chips: the reference builds all that is below a chip -/
section CKz
variable {p : Nat → Nat → Nat} {ph : Nat → Nat → Nat} {t0 : iS}
theorem rbk_in (h : WFp p) {c u k : Nat} (hc : c < p 10 0) (hk : k < npC p c) : rbk p c u k + p 4 (p 1 (p 0 c + k)) ≤ rbk p c u (npC p c) ∧ u ≤ rbk p c u k ∧ rbk p c u (npC p c) + rsb p c (k + 1) + p 11 (p 1 (p 0 c + k)) ≤ u + p 11 (2 + c) := by
  have a := rbk_m (p := p) (c := c) (u := u) (show k + 1 ≤ npC p c by omega)
  rw [rbk_s] at a
  have b := rbk_m (p := p) (c := c) (u := u) (Nat.zero_le k)
  have e0 : rbk p c u 0 = u := rfl
  have d := rsb_m (p := p) (c := c) (d := k) (k := 0) (by omega)
  have e := rsb_s (p := p) hk
  have tb := rb_tot h (u := u) hc
  rw [Nat.zero_add] at d
  omega
theorem rgk_in (h : WFp p) {c g k : Nat} (hc : c < p 10 0) (hk : k < npC p c) : rgk p c g k + (if p 1 (p 0 c + k) < 2 then 1 else 0) ≤ rgk p c g (npC p c) ∧ g ≤ rgk p c g k ∧ rgk p c g (npC p c) + rsg p c (k + 1) + (if p 1 (p 0 c + k) < 2 then 0 else p 12 (p 1 (p 0 c + k))) ≤ g + p 12 (2 + c) ∧ rgk p c g (npC p c) ≤ g + p 12 (2 + c) := by
  have a := rgk_m (p := p) (c := c) (g := g) (show k + 1 ≤ npC p c by omega)
  rw [rgk_s] at a
  have b := rgk_m (p := p) (c := c) (g := g) (Nat.zero_le k)
  have e0 : rgk p c g 0 = g := rfl
  have d := rsg_m (p := p) (c := c) (d := k) (k := 0) (by omega)
  have e := rsg_s (p := p) hk
  have tb := rg_tot h (g := g) hc
  rw [Nat.zero_add] at d
  omega
theorem WRt_of (h : WFp p) (hph : PHw p ph) {t t' : iS} : ∀ (f c b u g : Nat), c < p 10 0 → WRt p ph f c b u g t → (∀ x, (b + p 5 (2 + c) ≤ x ∧ x < b + p 4 (2 + c)) ∨ (u ≤ x ∧ x < u + p 11 (2 + c)) → t' 222 x = t 222 x) → (∀ x, (b ≤ x ∧ x < b + p 4 (2 + c)) ∨ (u ≤ x ∧ x < u + p 11 (2 + c)) → t' 223 x = t 223 x) → (∀ x, g ≤ x → x < g + p 12 (2 + c) → t' 224 x = t 224 x ∧ t' 225 x = t 225 x) → WRt p ph f c b u g t'
  | 0, _, _, _, _, _, hw, _, _, _ => hw
  | f + 1, c, b, u, g, hc, hw, h1, h2, h3 => by
    obtain ⟨a1, a2, a3⟩ := hw
    refine ⟨fun j j1 j2 => by
      have := ph_in hph h hc j1 j2
      rw [h1 _ (Or.inl ⟨by omega, by omega⟩)]; exact a1 j j1 j2, fun j j1 => by rw [h2 _ (Or.inl ⟨by omega, by omega⟩)]; exact a2 j j1, fun k hk => ?_⟩
    obtain ⟨b1, b2, b3⟩ := a3 k hk
    obtain ⟨w1, w2, w3, w4, w5, w6⟩ := WF_r h hc hk
    have ci := rbk_in h (u := u) hc hk
    have gi := rgk_in h (g := g) hc hk
    have fi := h.2.2.2.2 _ w2
    refine ⟨fun j hj => by rw [h1 _ (Or.inr ⟨by omega, by omega⟩)]; exact b1 j hj, fun q => ?_, fun q => ?_⟩
    · obtain ⟨d1, d2, d3, d4⟩ := b2 q
      rw [if_pos q] at gi
      have hg := h3 (rgk p c g k) (by omega) (by omega)
      exact ⟨by rw [hg.1]; exact d1, by rw [hg.2]; exact d2, fun j hj => by rw [h2 _ (Or.inr ⟨by omega, by omega⟩)]; exact d3 j hj, by rw [h2 _ (Or.inr ⟨by omega, by omega⟩)]; exact d4⟩
    · have e2 : 2 + (p 1 (p 0 c + k) - 2) = p 1 (p 0 c + k) := by omega
      rw [if_neg (by omega), if_neg (by omega)] at gi
      have rn := rbk_m (p := p) (c := c) (u := u) (show 0 ≤ npC p c by omega)
      have e0 : rbk p c u 0 = u := rfl
      refine WRt_of h hph f (p 1 (p 0 c + k) - 2) _ _ _ (by omega) (b3 q) (fun x hx => h1 x (Or.inr ?_)) (fun x hx => h2 x (Or.inr ?_)) (fun x x1 x2 => h3 x (by omega) ?_)
      · rw [e2] at hx; omega
      · rw [e2] at hx; omega
      · rw [e2] at x2; omega
/-- part k, with all below it -/
def PF2 (p ph : Nat → Nat → Nat) (f c b u g k : Nat) (t : iS) : Prop := (∀ j, j < p 5 (p 1 (p 0 c + k)) → t 222 (rbk p c u k + j) = rIW ph c b (IWa p (p 0 c + k) j)) ∧ (p 1 (p 0 c + k) < 2 → GTr p (p 1 (p 0 c + k)) (rbk p c u k) (rgk p c g k) t) ∧ (2 ≤ p 1 (p 0 c + k) → WRt p ph f (p 1 (p 0 c + k) - 2) (rbk p c u k) (rbk p c u (npC p c) + rsb p c (k + 1)) (rgk p c g (npC p c) + rsg p c (k + 1)) t)
/-- parts m .. are done with all below -/
def P2m (p ph : Nat → Nat → Nat) (t0 t : iS) (f c b u g w m : Nat) (s : iS) : Prop := STr t0 s ∧ (s 121 158 = ((rbk p c u (npC p c) + rsb p c m : Nat) : Int) ∧ s 121 161 = ((rgk p c g (npC p c) + rsg p c m : Nat) : Int) ∧ s 121 170 = ((w + rnk p c m : Nat) : Int)) ∧ (∀ k, k < m → 2 ≤ p 1 (p 0 c + k) → s 231 (w + rnk p c k) = ((p 1 (p 0 c + k) - 2 : Nat) : Int) ∧ s 232 (w + rnk p c k) = ((rbk p c u k : Nat) : Int)) ∧ (∀ j, p 5 (2 + c) ≤ j → j < p 4 (2 + c) → s 222 (b + ph c j) = rOW p c u (OWp p c (npC p c) j)) ∧ (∀ k, k < m → PFr p ph c b u g k s) ∧ (∀ k, m ≤ k → k < npC p c → PF2 p ph f c b u g k s) ∧ (∀ x, ¬ (b + p 5 (2 + c) ≤ x ∧ x < b + p 4 (2 + c)) → ¬ (u ≤ x ∧ x < rbk p c u (npC p c) + rsb p c m) → s 222 x = t 222 x) ∧ (∀ x, ¬ (u ≤ x ∧ x < rbk p c u (npC p c) + rsb p c m) → s 223 x = t 223 x) ∧ (∀ x, ¬ (g ≤ x ∧ x < rgk p c g (npC p c) + rsg p c m) → s 224 x = t 224 x ∧ s 225 x = t 225 x) ∧ (∀ x, x < w → s 231 x = t 231 x ∧ s 232 x = t 232 x) ∧ ∀ c' x, ¬ (222 ≤ c' ∧ c' ≤ 225) → ¬ (231 ≤ c' ∧ c' ≤ 232) → ¬ (c' = 121 ∧ (x = 158 ∨ x = 161 ∨ x = 170)) → s c' x = t c' x
theorem r_put (h : WFp p) (hph : PHw p ph) (hC : HCn p ph t0) (hO : HOw p t0) (hR : PLR p t0) : ∀ (f c : Nat), c < p 10 0 → p 13 (2 + c) ≤ f → ∀ (b u g w : Nat) (t : iS), STr t0 t → t 121 158 = (u : Int) → t 121 161 = (g : Int) → t 121 170 = ((w + 1 : Nat) : Int) → t 231 w = (c : Int) → t 232 w = (b : Int) → u + p 11 (2 + c) ≤ 40000 → g + p 12 (2 + c) ≤ 1500 → b + p 4 (2 + c) ≤ u → 2 * (w + 1) ≤ u → (∀ j, p 5 (2 + c) ≤ j → j < p 4 (2 + c) → t 222 (b + j) = -1) → (∀ j, j < p 4 (2 + c) → t 223 (b + j) = 0) → ∃ t', lp (L := iS) (E := iS) (fun l => m_build_26b l) t = lp (L := iS) (E := iS) (fun l => m_build_26b l) t' ∧ STr t0 t' ∧ t' 121 158 = ((u + p 11 (2 + c) : Nat) : Int) ∧ t' 121 161 = ((g + p 12 (2 + c) : Nat) : Int) ∧ t' 121 170 = (w : Int) ∧ WRt p ph f c b u g t' ∧ (∀ x, ¬ (b + p 5 (2 + c) ≤ x ∧ x < b + p 4 (2 + c)) → ¬ (u ≤ x ∧ x < u + p 11 (2 + c)) → t' 222 x = t 222 x) ∧ (∀ x, ¬ (u ≤ x ∧ x < u + p 11 (2 + c)) → t' 223 x = t 223 x) ∧ (∀ x, ¬ (g ≤ x ∧ x < g + p 12 (2 + c)) → t' 224 x = t 224 x ∧ t' 225 x = t 225 x) ∧ (∀ x, x < w → t' 231 x = t 231 x ∧ t' 232 x = t 232 x) ∧ ∀ c' x, ¬ (222 ≤ c' ∧ c' ≤ 225) → ¬ (231 ≤ c' ∧ c' ≤ 232) → ¬ (c' = 121 ∧ (x = 158 ∨ x = 161 ∨ x = 170)) → t' c' x = t c' x
  | 0, c, hc, hf, _, _, _, _, _, _, _, _, _, _, _, _, _, _, _, _, _ => by
    have := (h.2.1 c hc).2.2.1
    omega
  | f + 1, c, hc, hf, b, u, g, w, t, hS, h158, h161, h170, h231, h232, hu, hg, hb, hw, hf1, hf2 => by
    have wc := h.2.1 c hc
    have c16 := h.1.2
    obtain ⟨t1, ht1⟩ : ∃ t1, t1 = up t 121 170 (w : Int) := ⟨_, rfl⟩
    have n1 : ∀ c' x, ¬ (c' = 121 ∧ x = 170) → t1 c' x = t c' x := fun c' x z => by rw [ht1, up_ne z]
    have S1 : STr t0 t1 := STr_of hS (fun c' x y1 y2 => n1 c' x (by omega))
    obtain ⟨t2, a1, a2, a3, a4, a5, a6, a7, a8, a9, a10, a11, a12, a13⟩ := r_prs h hph hC hO hR (b := b) (w := w) (t := t1) hc S1 (by rw [n1 121 158 (by omega)]; exact h158) (by rw [n1 121 161 (by omega)]; exact h161) (by rw [ht1, up_same]) hu hg hb (by omega) (fun j j1 j2 => by rw [n1 222 _ (by omega)]; exact hf1 j j1 j2)
    have st : m_build_26b t = some (.inl t2) := by
      unfold m_build_26b
      rw [h170, gr (by omega), if_neg (by omega), show ((w + 1 : Nat) : Int) - 1 = (w : Int) by omega, lt_eq, ← ht1, show t1 121 170 = (w : Int) by rw [ht1, up_same], gd_pos (by omega), Int.toNat_natCast, n1 231 w (by omega), h231, gd_pos (by omega), n1 232 w (by omega), h232, Int.toNat_natCast, S1 201 c (by omega) (by omega), hR.1 c (by omega), a1]
    have P0 : P2m p ph t0 t f c b u g w (npC p c) t2 := by
      refine ⟨a2, ⟨by rw [rsb_e, Nat.add_zero]; exact a3, by rw [rsg_e, Nat.add_zero]; exact a4, a5⟩, a6, a7, a8, fun k k1 k2 => by omega, ?_, ?_, ?_, ?_, ?_⟩
      · intro x x1 x2
        rw [rsb_e] at x2
        rw [a9 x x1 (by omega), n1 222 x (by omega)]
      · intro x x1
        rw [rsb_e] at x1
        rw [a10 x (by omega), n1 223 x (by omega)]
      · intro x x1
        rw [rsg_e] at x1
        obtain ⟨y1, y2⟩ := a11 x (by omega)
        rw [y1, y2, n1 224 x (by omega), n1 225 x (by omega)]
        exact ⟨rfl, rfl⟩
      · intro x x1
        obtain ⟨y1, y2⟩ := a12 x x1
        rw [y1, y2, n1 231 x (by omega), n1 232 x (by omega)]
        exact ⟨rfl, rfl⟩
      · intro c' x y1 y2 y3
        rw [a13 c' x y1 y2 y3, n1 c' x (by omega)]
    have go : ∀ m, m ≤ npC p c → ∀ s, P2m p ph t0 t f c b u g w m s → ∃ t', lp (L := iS) (E := iS) (fun l => m_build_26b l) s = lp (L := iS) (E := iS) (fun l => m_build_26b l) t' ∧ P2m p ph t0 t f c b u g w 0 t' := by
      intro m
      induction m with
      | zero => exact fun _ s hs => ⟨s, rfl, hs⟩
      | succ m ih =>
        intro hm s hs
        have hk : m < npC p c := by omega
        obtain ⟨e1, ⟨e2, e3, e4⟩, e5, e6, e7, e7b, e8, e9, e10, e11, e12⟩ := hs
        obtain ⟨w1, w2, w3, w4, w5, w6⟩ := WF_r h hc hk
        have fi := h.2.2.2.2 _ w2
        have ci := rbk_in h (u := u) hc hk
        have gi := rgk_in h (g := g) hc hk
        have sb := rsb_s (p := p) hk
        have sg := rsg_s (p := p) hk
        have ns := rnk_s (p := p) (c := c) (k := m)
        obtain ⟨q1, q2, q3⟩ := e7 m (by omega)
        by_cases ig : p 1 (p 0 c + m) < 2
        · rw [if_pos ig] at sg ns
          rw [(WFg h ig).1] at sb
          refine ih (by omega) s ⟨e1, ⟨by rw [sb, Nat.zero_add]; exact e2, by rw [sg, Nat.zero_add]; exact e3, by rw [ns, Nat.add_zero] at e4; exact e4⟩, fun k hk => e5 k (by omega), e6, fun k hk => e7 k (by omega), fun k k1 k2 => ?_, by rw [sb, Nat.zero_add]; exact e8, by rw [sb, Nat.zero_add]; exact e9, by rw [sg, Nat.zero_add]; exact e10, e11, e12⟩
          by_cases y : k = m
          · rw [y]
            exact ⟨q1, q2, fun z => by omega⟩
          · exact e7b k (by omega) k2
        · rw [if_neg ig] at sg ns gi
          rw [if_neg ig] at gi
          obtain ⟨q4, q5⟩ := q3 (by omega)
          obtain ⟨x1, x2⟩ := e5 m (by omega) (by omega)
          have e2' : 2 + (p 1 (p 0 c + m) - 2) = p 1 (p 0 c + m) := by omega
          have rl := rn_le h (u := u) hc (show m + 1 ≤ npC p c by omega)
          have rm := rbk_m (p := p) (c := c) (u := u) (show m + 1 ≤ npC p c by omega)
          obtain ⟨s', d1, d2, d3, d4, d5, d6, d7, d8, d9, d10, d11⟩ := r_put h hph hC hO hR f (p 1 (p 0 c + m) - 2) (by omega) (by rw [e2']; omega) (rbk p c u m) (rbk p c u (npC p c) + rsb p c (m + 1)) (rgk p c g (npC p c) + rsg p c (m + 1)) (w + rnk p c m) s e1 e2 e3 (by rw [e4, ns]; rfl) x1 x2 (by rw [e2']; omega) (by rw [e2']; omega) (by rw [e2']; omega) (by omega) (by rw [e2']; exact q4) (by rw [e2']; exact q5)
          rw [e2'] at d3 d4 d7 d8 d9
          rw [d1]
          have nm := fun k (hk : k < m) => rnk_m (p := p) (c := c) (show k + 1 ≤ m by omega)
          have rb0 := rbk_m (p := p) (c := c) (u := u) (show 0 ≤ npC p c by omega)
          have e0 : rbk p c u 0 = u := rfl
          have rg0 := rgk_m (p := p) (c := c) (g := g) (show 0 ≤ npC p c by omega)
          have e0g : rgk p c g 0 = g := rfl
          refine ih (by omega) s' ⟨d2, ⟨by rw [d3, sb]; omega, by rw [d4, sg]; omega, d5⟩, fun k hk y => ?_, fun j j1 j2 => ?_, fun k hk => ?_, fun k k1 k2 => ?_, fun x y1 y2 => ?_, fun x y1 => ?_, fun x y1 => ?_, fun x y1 => ?_, fun c' x y1 y2 y3 => ?_⟩
          · have z := nm k hk
            have ns' := rnk_s (p := p) (c := c) (k := k)
            rw [if_neg (by omega)] at ns'
            obtain ⟨z1, z2⟩ := d10 (w + rnk p c k) (by omega)
            rw [z1, z2]
            exact e5 k (by omega) y
          · have pj := ph_in hph h hc j1 j2
            rw [d7 _ (by omega) (by omega)]
            exact e6 j j1 j2
          · have cm := rbk_m (p := p) (c := c) (u := u) (show k + 1 ≤ m by omega)
            have cm2 := rgk_m (p := p) (c := c) (g := g) (show k + 1 ≤ npC p c by omega)
            refine PFr_of h hc (by omega) (e7 k (by omega)) (fun x z1 z2 => ⟨d7 x (by omega) (by omega), d8 x (by omega)⟩) (fun x z1 z2 => d9 x (by omega))
          · by_cases y : k = m
            · rw [y]
              refine ⟨fun j hj => ?_, fun z => absurd z ig, fun _ => d6⟩
              rw [d7 _ (by omega) (by omega)]
              exact q1 j hj
            · have ck := rbk_in h (u := u) hc k2
              have gk := rgk_in h (g := g) hc k2
              have cm := rbk_m (p := p) (c := c) (u := u) (show m + 1 ≤ k by omega)
              rw [rbk_s] at cm
              have sm := rsb_m (p := p) (c := c) (d := k - (m + 1)) (k := m + 1) (by omega)
              rw [show m + 1 + (k - (m + 1)) = k by omega, rsb_s k2] at sm
              have tm := rsg_m (p := p) (c := c) (d := k - (m + 1)) (k := m + 1) (by omega)
              rw [show m + 1 + (k - (m + 1)) = k by omega, rsg_s k2] at tm
              have wk := WF_r h hc k2
              have fk := h.2.2.2.2 _ wk.2.1
              obtain ⟨z1, z2, z3⟩ := e7b k (by omega) k2
              refine ⟨fun j hj => by rw [d7 _ (by omega) (by omega)]; exact z1 j hj, fun z => ?_, fun z => ?_⟩
              · obtain ⟨y1, y2, y3, y4⟩ := z2 z
                rw [if_pos z] at gk
                obtain ⟨v1, v2⟩ := d9 (rgk p c g k) (by omega)
                exact ⟨by rw [v1]; exact y1, by rw [v2]; exact y2, fun j hj => by rw [d8 _ (by omega)]; exact y3 j hj, by rw [d8 _ (by omega)]; exact y4⟩
              · rw [if_neg (by omega)] at tm
                have e3' : 2 + (p 1 (p 0 c + k) - 2) = p 1 (p 0 c + k) := by omega
                refine WRt_of h hph f _ _ _ _ (by omega) (z3 z) (fun x hx => ?_) (fun x hx => ?_) (fun x v1 v2 => ?_)
                · rw [e3'] at hx
                  exact d7 x (by omega) (by omega)
                · rw [e3'] at hx
                  exact d8 x (by omega)
                · rw [e3'] at v2
                  exact d9 x (by omega)
          · rw [sb] at y2
            rw [d7 x (by omega) (by omega)]
            exact e8 x y1 (by omega)
          · rw [sb] at y1
            rw [d8 x (by omega)]
            exact e9 x (by omega)
          · rw [sg] at y1
            obtain ⟨v1, v2⟩ := d9 x (by omega)
            rw [v1, v2]
            exact e10 x (by omega)
          · obtain ⟨v1, v2⟩ := d10 x (by omega)
            rw [v1, v2]
            exact e11 x y1
          · rw [d11 c' x y1 y2 y3]
            exact e12 c' x y1 y2 y3
    obtain ⟨t', l1, l2⟩ := go (npC p c) (Nat.le_refl _) t2 P0
    obtain ⟨e1, ⟨e2, e3, e4⟩, -, e6, -, e7, e8, e9, e10, e11, e12⟩ := l2
    rw [rb_tot h hc] at e2 e8 e9
    rw [rg_tot h hc] at e3 e10
    refine ⟨t', by rw [lp_next (f := fun l : iS => m_build_26b l) st]; exact l1, e1, e2, e3, e4, ⟨e6, fun j hj => ?_, fun k hk => e7 k (Nat.zero_le k) hk⟩, e8, e9, e10, e11, e12⟩
    rw [e9 _ (by omega)]
    exact hf2 j hj
end CKz
