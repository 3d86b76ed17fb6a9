/-! chips: the reference puts the parts of a chip -/
section CKy
variable {p : Nat → Nat → Nat} {ph : Nat → Nat → Nat} {t t' t0 : iS}
/-- part k of chip c, as the reference leaves it ahead of what is below -/
def PFr (p ph : Nat → Nat → Nat) (c b u g k : Nat) (t : iS) : Prop := (∀ j, j < p 5 (p 1 (p 0 c + k)) → t 222 (rbk p c u k + j) = rIW ph c b (IWa p (p 0 c + k) j)) ∧ (p 1 (p 0 c + k) < 2 → GTr p (p 1 (p 0 c + k)) (rbk p c u k) (rgk p c g k) t) ∧ (2 ≤ p 1 (p 0 c + k) → (∀ j, p 5 (p 1 (p 0 c + k)) ≤ j → j < p 4 (p 1 (p 0 c + k)) → t 222 (rbk p c u k + j) = -1) ∧ ∀ j, j < p 4 (p 1 (p 0 c + k)) → t 223 (rbk p c u k + j) = 0)
theorem PFr_of (h : WFp p) {c b u g k : Nat} (hc : c < p 10 0) (hk : k < npC p c) (hw : PFr p ph c b u g k t) (h1 : ∀ x, rbk p c u k ≤ x → x < rbk p c u (k + 1) → t' 222 x = t 222 x ∧ t' 223 x = t 223 x) (h2 : ∀ x, rgk p c g k ≤ x → x < rgk p c g (k + 1) → t' 224 x = t 224 x ∧ t' 225 x = t 225 x) : PFr p ph c b u g k t' := by
  obtain ⟨a1, a2, a3⟩ := hw
  obtain ⟨w1, w2, w3, w4, w5, w6⟩ := WF_r h hc hk
  have fi := h.2.2.2.2 _ w2
  rw [rbk_s] at h1
  rw [rgk_s] at h2
  refine ⟨fun j hj => by rw [(h1 _ (by omega) (by omega)).1]; exact a1 j hj, fun q => ?_, fun q => ?_⟩
  · obtain ⟨d1, d2, d3, d4⟩ := a2 q
    rw [if_pos q] at h2
    have hg := h2 _ (Nat.le_refl _) (by omega)
    exact ⟨by rw [hg.1]; exact d1, by rw [hg.2]; exact d2, fun j hj => by rw [(h1 _ (by omega) (by omega)).2]; exact d3 j hj, by rw [(h1 _ (by omega) (by omega)).2]; exact d4⟩
  · obtain ⟨d1, d2⟩ := a3 q
    exact ⟨fun j j1 j2 => by rw [(h1 _ (by omega) (by omega)).1]; exact d1 j j1 j2, fun j j1 => by rw [(h1 _ (by omega) (by omega)).2]; exact d2 j j1⟩
/-- all links of part k -/
theorem r_jls (h : WFp p) (hph : PHw p ph) (hC : HCn p ph t0) (hR : PLR p t0) {c k b u : Nat} (hc : c < p 10 0) (hk : k < npC p c) (hS : STr t0 t) {o : Nat → Option (Nat × Nat)} (ho : ∀ j, p 5 (2 + c) ≤ j → j < p 4 (2 + c) → t 222 (b + ph c j) = rOW p c u (o j)) (hb : b + p 4 (2 + c) ≤ u) (hq : rbk p c u k + p 4 (p 1 (p 0 c + k)) ≤ 40000) (hf : ∀ j, j < p 5 (p 1 (p 0 c + k)) → t 222 (rbk p c u k + j) = -1) : ∃ t', lp (L := Int × iS) (E := iS) (fun l => m_build_106b (c : Int) (b : Int) ((p 0 c + k : Nat) : Int) ((rbk p c u k : Nat) : Int) (l.1) (l.2)) (((p 2 (p 0 c + k) : Nat) : Int), t) = some t' ∧ (∀ c' x, c' ≠ 222 → t' c' x = t c' x) ∧ (∀ j, p 5 (2 + c) ≤ j → j < p 4 (2 + c) → t' 222 (b + ph c j) = rOW p c u (OWl p k (p 0 c + k) o (p 3 (p 0 c + k) - p 2 (p 0 c + k)) j)) ∧ (∀ j, j < p 5 (p 1 (p 0 c + k)) → t' 222 (rbk p c u k + j) = rIW ph c b (IWa p (p 0 c + k) j)) ∧ ∀ x, ¬ (b + p 5 (2 + c) ≤ x ∧ x < b + p 4 (2 + c)) → ¬ (rbk p c u k ≤ x ∧ x < rbk p c u k + p 5 (p 1 (p 0 c + k))) → t' 222 x = t 222 x := by
  obtain ⟨w1, w2, w3, w4, w5, w6⟩ := WF_r h hc hk
  have ci := (rbk_m (p := p) (c := c) (u := u) (Nat.zero_le k))
  have e0 : rbk p c u 0 = u := rfl
  have fi := h.2.2.2.2 _ w2
  have b8 := (h.2.1 c hc).2.1
  obtain ⟨m1, m2, m3⟩ := hR.2 c (p 0 c + k) hc (by omega) w1
  obtain ⟨x1, x2, x3, x4⟩ := hph c hc
  have x4 := x4 k
  have cn : ∀ t, STr t0 t → ∀ l, _ := fun t ht l => hC t ht c k l b (rbk p c u k) hc hk
  obtain ⟨r, hr⟩ : ∃ r, r = p 0 c + k := ⟨_, rfl⟩
  obtain ⟨q, hqq⟩ : ∃ q, q = rbk p c u k := ⟨_, rfl⟩
  rw [← hr] at w1 w2 w3 w4 w5 w6 fi hq hf m1 m2 m3 x4 cn ⊢
  rw [← hqq] at hq hf ci cn ⊢
  have L := lpG (f := fun l : Int × iS => m_build_106b (c : Int) (b : Int) ((r : Nat) : Int) ((q : Nat) : Int) (l.1) (l.2)) (M := p 3 r - p 2 r) (I := fun m l => l.1 = ((p 2 r + m : Nat) : Int) ∧ (∀ c' x, c' ≠ 222 → l.2 c' x = t c' x) ∧ (∀ j, p 5 (2 + c) ≤ j → j < p 4 (2 + c) → l.2 222 (b + ph c j) = rOW p c u (OWl p k r o m j)) ∧ (∀ j, j < p 5 (p 1 r) → l.2 222 (q + j) = rIW ph c b (IWf p r m j)) ∧ ∀ x, ¬ (b + p 5 (2 + c) ≤ x ∧ x < b + p 4 (2 + c)) → ¬ (q ≤ x ∧ x < q + p 5 (p 1 r)) → l.2 222 x = t 222 x) (J := fun e => (∀ c' x, c' ≠ 222 → e c' x = t c' x) ∧ (∀ j, p 5 (2 + c) ≤ j → j < p 4 (2 + c) → e 222 (b + ph c j) = rOW p c u (OWl p k r o (p 3 r - p 2 r) j)) ∧ (∀ j, j < p 5 (p 1 r) → e 222 (q + j) = rIW ph c b (IWf p r (p 3 r - p 2 r) j)) ∧ ∀ x, ¬ (b + p 5 (2 + c) ≤ x ∧ x < b + p 4 (2 + c)) → ¬ (q ≤ x ∧ x < q + p 5 (p 1 r)) → e 222 x = t 222 x) (by
    rintro m ⟨v, s⟩ hm ⟨e, e1, e2, e3, e4⟩
    have e' : v = ((p 2 r + m : Nat) : Int) := e
    subst e'
    have e1' : ∀ c' x, c' ≠ 222 → s c' x = t c' x := e1
    have e2' : ∀ j, p 5 (2 + c) ≤ j → j < p 4 (2 + c) → s 222 (b + ph c j) = rOW p c u (OWl p k r o m j) := e2
    have e3' : ∀ j, j < p 5 (p 1 r) → s 222 (q + j) = rIW ph c b (IWf p r m j) := e3
    have e4' : ∀ x, ¬ (b + p 5 (2 + c) ≤ x ∧ x < b + p 4 (2 + c)) → ¬ (q ≤ x ∧ x < q + p 5 (p 1 r)) → s 222 x = t 222 x := e4
    obtain ⟨l, hl⟩ : ∃ l, l = p 2 r + m := ⟨_, rfl⟩
    have hS' : STr t0 s := STr_of hS (fun c' x c1 _ => e1' c' x (by omega))
    obtain ⟨lw, lk⟩ := w6 l (by omega) (by omega)
    have xx := x4 l hk (by omega) (by omega)
    obtain ⟨t', a1, a2, a3, a4⟩ := cn s hS' l (by omega) (by omega) (by omega) hq
    have oS : ∀ j, OWl p k r o (m + 1) j = if p 8 l = 1 ∧ p 9 l - 2 ≤ j ∧ j < p 9 l - 2 + p 6 l then some (k, p 7 l + (j - (p 9 l - 2))) else OWl p k r o m j := fun j => by rw [hl]; rfl
    have iS' : ∀ j, IWf p r (m + 1) j = if p 8 l = 0 ∧ p 7 l ≤ j ∧ j < p 7 l + p 6 l then (if p 9 l < 2 then (p 9 l : Int) - 2 else ((p 9 l - 2 + (j - p 7 l) : Nat) : Int)) else IWf p r m j := fun j => by rw [hl]; rfl
    refine ⟨((l : Int) + 1, t'), ?_, by show (l : Int) + 1 = ((p 2 r + (m + 1) : Nat) : Int); omega, ?_, ?_, ?_, ?_⟩
    · show m_build_106b (c : Int) (b : Int) ((r : Nat) : Int) ((q : Nat) : Int) ((p 2 r + m : Nat) : Int) s = _
      rw [← hl]
      unfold m_build_106b
      rw [gd_pos (by omega), gr (by omega), show ((r : Int) + 1).toNat = r + 1 by omega, hS' 203 _ (by omega) (by omega), m3, gr (by omega), if_neg (by omega), gd_pos (by omega), Int.toNat_natCast, hS' 216 _ (by omega) (by omega), m1, a1, bq]
    · intro c' x hc'
      show t' c' x = _
      rw [a2 c' x hc']
      exact e1' c' x hc'
    · intro j j1 j2
      show t' 222 (b + ph c j) = _
      have pj := ph_in hph h hc j1 j2
      rw [oS j]
      rcases lk with ⟨z, z1, z2⟩ | ⟨z, z1, z2, z3, z4, z5⟩
      · rw [a3 z (b + ph c j), if_neg (by omega), if_neg (by omega)]
        exact e2' j j1 j2
      · rw [a4 z (b + ph c j)]
        by_cases y : p 9 l - 2 ≤ j ∧ j < p 9 l - 2 + p 6 l
        · have pe := xx z3 (j - (p 9 l - 2)) (by omega)
          rw [show p 9 l - 2 + (j - (p 9 l - 2)) = j by omega] at pe
          rw [if_pos (show b + ph c (p 9 l - 2) ≤ b + ph c j ∧ b + ph c j < b + ph c (p 9 l - 2) + p 6 l by omega), if_pos (show p 8 l = 1 ∧ p 9 l - 2 ≤ j ∧ j < p 9 l - 2 + p 6 l from ⟨z, y⟩)]
          show _ = ((rbk p c u k + (p 7 l + (j - (p 9 l - 2))) : Nat) : Int)
          rw [← hqq]
          omega
        · rw [if_neg ?_, if_neg (by omega)]
          · exact e2' j j1 j2
          · intro y2
            have pe := xx z3 (ph c j - ph c (p 9 l - 2)) (by omega)
            have := x2 (p 9 l - 2 + (ph c j - ph c (p 9 l - 2))) j (by omega) j2 (by omega)
            omega
    · intro j j1
      show t' 222 (q + j) = _
      rw [iS' j]
      rcases lk with ⟨z, z1, z2⟩ | ⟨z, z1, z2, z3, z4, z5⟩
      · rw [a3 z (q + j)]
        by_cases y : p 7 l ≤ j ∧ j < p 7 l + p 6 l
        · rw [if_pos (show q + p 7 l ≤ q + j ∧ q + j < q + p 7 l + p 6 l by omega), if_pos (show p 8 l = 0 ∧ p 7 l ≤ j ∧ j < p 7 l + p 6 l from ⟨z, y⟩)]
          unfold rIW
          by_cases y2 : p 9 l < 2
          · rw [if_pos y2, if_pos y2, if_pos (by omega)]
          · have pe := xx (by omega) (j - p 7 l) (by omega)
            rw [if_neg y2, if_neg y2, if_neg (by omega), Int.toNat_natCast, pe]
            omega
        · rw [if_neg (by omega), if_neg (by omega)]
          exact e3' j j1
      · have p0 := ph_in hph h hc (j := p 9 l - 2) z4
        rw [a4 z (q + j), if_neg ?_, if_neg (by omega)]
        · exact e3' j j1
        · intro y2
          have pz := p0 (by omega)
          have pe := xx z3 (p 6 l - 1) (by omega)
          have := (ph_in hph h hc (j := p 9 l - 2 + (p 6 l - 1)) (by omega) (by omega)).2
          omega
    · intro x y1 y2
      show t' 222 x = _
      rcases lk with ⟨z, z1, z2⟩ | ⟨z, z1, z2, z3, z4, z5⟩
      · rw [a3 z x, if_neg (by omega)]
        exact e4' x y1 y2
      · rw [a4 z x, if_neg ?_]
        · exact e4' x y1 y2
        · intro y3
          have pz := ph_in hph h hc (j := p 9 l - 2) z4 (by omega)
          have pe := xx z3 (p 6 l - 1) (by omega)
          have := (ph_in hph h hc (j := p 9 l - 2 + (p 6 l - 1)) (by omega) (by omega)).2
          omega) (by
    rintro ⟨v, s⟩ ⟨e, e1, e2, e3, e4⟩
    have e' : v = ((p 2 r + (p 3 r - p 2 r) : Nat) : Int) := e
    subst e'
    have e1' : ∀ c' x, c' ≠ 222 → s c' x = t c' x := e1
    have hS' : STr t0 s := STr_of hS (fun c' x c1 _ => e1' c' x (by omega))
    refine ⟨s, ?_, e1, e2, e3, e4⟩
    show m_build_106b (c : Int) (b : Int) ((r : Nat) : Int) ((q : Nat) : Int) ((p 2 r + (p 3 r - p 2 r) : Nat) : Int) s = _
    unfold m_build_106b
    rw [gd_pos (by omega), gr (by omega), show ((r : Int) + 1).toNat = r + 1 by omega, hS' 203 _ (by omega) (by omega), m3, gr (by omega), if_pos (by omega)]) (p 3 r - p 2 r) 0 (((p 2 r : Nat) : Int), t) (by omega) ⟨rfl, fun _ _ _ => rfl, ho, fun j hj => by rw [show (((p 2 r : Nat) : Int), t).2 222 (q + j) = t 222 (q + j) from rfl, hf j hj]; rfl, fun _ _ _ => rfl⟩
  exact L
/-- all parts of a chip -/
theorem r_prs (h : WFp p) (hph : PHw p ph) (hC : HCn p ph t0) (hO : HOw p t0) (hR : PLR p t0) {c b u g w : Nat} (hc : c < p 10 0) (hS : STr t0 t) (h158 : t 121 158 = (u : Int)) (h161 : t 121 161 = (g : Int)) (h170 : t 121 170 = (w : Int)) (hu : u + p 11 (2 + c) ≤ 40000) (hg : g + p 12 (2 + c) ≤ 1500) (hb : b + p 4 (2 + c) ≤ u) (hw : 2 * w ≤ u) (hf : ∀ j, p 5 (2 + c) ≤ j → j < p 4 (2 + c) → t 222 (b + j) = -1) : ∃ t', m_build_71 (c : Int) (b : Int) (p 0 c : Int) t = some (.inl t') ∧ STr t0 t' ∧ t' 121 158 = ((rbk p c u (npC p c) : Nat) : Int) ∧ t' 121 161 = ((rgk p c g (npC p c) : Nat) : Int) ∧ t' 121 170 = ((w + rnk p c (npC p c) : Nat) : Int) ∧ (∀ k, k < npC p c → 2 ≤ p 1 (p 0 c + k) → t' 231 (w + rnk p c k) = ((p 1 (p 0 c + k) - 2 : Nat) : Int) ∧ t' 232 (w + rnk p c k) = ((rbk p c u k : Nat) : Int)) ∧ (∀ j, p 5 (2 + c) ≤ j → j < p 4 (2 + c) → t' 222 (b + ph c j) = rOW p c u (OWp p c (npC p c) j)) ∧ (∀ k, k < npC p c → PFr p ph c b u g k t') ∧ (∀ x, ¬ (b + p 5 (2 + c) ≤ x ∧ x < b + p 4 (2 + c)) → ¬ (u ≤ x ∧ x < rbk p c u (npC p c)) → t' 222 x = t 222 x) ∧ (∀ x, ¬ (u ≤ x ∧ x < rbk p c u (npC p c)) → t' 223 x = t 223 x) ∧ (∀ x, ¬ (g ≤ x ∧ x < rgk p c g (npC p c)) → t' 224 x = t 224 x ∧ t' 225 x = t 225 x) ∧ (∀ x, x < w → t' 231 x = t 231 x ∧ t' 232 x = t 232 x) ∧ ∀ c' x, ¬ (222 ≤ c' ∧ c' ≤ 225) → ¬ (231 ≤ c' ∧ c' ≤ 232) → ¬ (c' = 121 ∧ (x = 158 ∨ x = 161 ∨ x = 170)) → t' c' x = t c' x := by
  have wc := h.2.1 c hc
  have c16 := h.1.2
  have e201 : t0 201 (c + 1) = (p 0 (c + 1) : Int) := hR.1 (c + 1) (by omega)
  have np : p 0 c + npC p c = p 0 (c + 1) := by unfold npC; omega
  have tb := rb_tot h (u := u) hc
  have tg := rg_tot h (g := g) hc
  have L := lpG (f := fun l : Int × iS => m_build_71b (c : Int) (b : Int) (l.1) (l.2)) (M := npC p c) (I := fun k l => l.1 = ((p 0 c + k : Nat) : Int) ∧ STr t0 l.2 ∧ (l.2 121 158 = ((rbk p c u k : Nat) : Int) ∧ l.2 121 161 = ((rgk p c g k : Nat) : Int) ∧ l.2 121 170 = ((w + rnk p c k : Nat) : Int)) ∧ (∀ k', k' < k → 2 ≤ p 1 (p 0 c + k') → l.2 231 (w + rnk p c k') = ((p 1 (p 0 c + k') - 2 : Nat) : Int) ∧ l.2 232 (w + rnk p c k') = ((rbk p c u k' : Nat) : Int)) ∧ (∀ j, p 5 (2 + c) ≤ j → j < p 4 (2 + c) → l.2 222 (b + ph c j) = rOW p c u (OWp p c k j)) ∧ (∀ k', k' < k → PFr p ph c b u g k' l.2) ∧ (∀ x, ¬ (b + p 5 (2 + c) ≤ x ∧ x < b + p 4 (2 + c)) → ¬ (u ≤ x ∧ x < rbk p c u k) → l.2 222 x = t 222 x) ∧ (∀ x, ¬ (u ≤ x ∧ x < rbk p c u k) → l.2 223 x = t 223 x) ∧ (∀ x, ¬ (g ≤ x ∧ x < rgk p c g k) → l.2 224 x = t 224 x ∧ l.2 225 x = t 225 x) ∧ (∀ x, x < w → l.2 231 x = t 231 x ∧ l.2 232 x = t 232 x) ∧ ∀ c' x, ¬ (222 ≤ c' ∧ c' ≤ 225) → ¬ (231 ≤ c' ∧ c' ≤ 232) → ¬ (c' = 121 ∧ (x = 158 ∨ x = 161 ∨ x = 170)) → l.2 c' x = t c' x) (J := fun e => STr t0 e ∧ (e 121 158 = ((rbk p c u (npC p c) : Nat) : Int) ∧ e 121 161 = ((rgk p c g (npC p c) : Nat) : Int) ∧ e 121 170 = ((w + rnk p c (npC p c) : Nat) : Int)) ∧ (∀ k', k' < npC p c → 2 ≤ p 1 (p 0 c + k') → e 231 (w + rnk p c k') = ((p 1 (p 0 c + k') - 2 : Nat) : Int) ∧ e 232 (w + rnk p c k') = ((rbk p c u k' : Nat) : Int)) ∧ (∀ j, p 5 (2 + c) ≤ j → j < p 4 (2 + c) → e 222 (b + ph c j) = rOW p c u (OWp p c (npC p c) j)) ∧ (∀ k', k' < npC p c → PFr p ph c b u g k' e) ∧ (∀ x, ¬ (b + p 5 (2 + c) ≤ x ∧ x < b + p 4 (2 + c)) → ¬ (u ≤ x ∧ x < rbk p c u (npC p c)) → e 222 x = t 222 x) ∧ (∀ x, ¬ (u ≤ x ∧ x < rbk p c u (npC p c)) → e 223 x = t 223 x) ∧ (∀ x, ¬ (g ≤ x ∧ x < rgk p c g (npC p c)) → e 224 x = t 224 x ∧ e 225 x = t 225 x) ∧ (∀ x, x < w → e 231 x = t 231 x ∧ e 232 x = t 232 x) ∧ ∀ c' x, ¬ (222 ≤ c' ∧ c' ≤ 225) → ¬ (231 ≤ c' ∧ c' ≤ 232) → ¬ (c' = 121 ∧ (x = 158 ∨ x = 161 ∨ x = 170)) → e c' x = t c' x) (by
    rintro k ⟨v, s⟩ hk ⟨e, e1, ⟨e2, e3, e4⟩, e5, e6, e7, e8, e9, e10, e11, e12⟩
    have e' : v = ((p 0 c + k : Nat) : Int) := e
    subst e'
    have e1' : STr t0 s := e1
    have e2' : s 121 158 = ((rbk p c u k : Nat) : Int) := e2
    have e3' : s 121 161 = ((rgk p c g k : Nat) : Int) := e3
    have e4' : s 121 170 = ((w + rnk p c k : Nat) : Int) := e4
    have e5' : ∀ k', k' < k → 2 ≤ p 1 (p 0 c + k') → s 231 (w + rnk p c k') = ((p 1 (p 0 c + k') - 2 : Nat) : Int) ∧ s 232 (w + rnk p c k') = ((rbk p c u k' : Nat) : Int) := e5
    have e6' : ∀ j, p 5 (2 + c) ≤ j → j < p 4 (2 + c) → s 222 (b + ph c j) = rOW p c u (OWp p c k j) := e6
    have e7' : ∀ k', k' < k → PFr p ph c b u g k' s := e7
    have e8' : ∀ x, ¬ (b + p 5 (2 + c) ≤ x ∧ x < b + p 4 (2 + c)) → ¬ (u ≤ x ∧ x < rbk p c u k) → s 222 x = t 222 x := e8
    have e9' : ∀ x, ¬ (u ≤ x ∧ x < rbk p c u k) → s 223 x = t 223 x := e9
    have e10' : ∀ x, ¬ (g ≤ x ∧ x < rgk p c g k) → s 224 x = t 224 x ∧ s 225 x = t 225 x := e10
    have e11' : ∀ x, x < w → s 231 x = t 231 x ∧ s 232 x = t 232 x := e11
    have e12' : ∀ c' x, ¬ (222 ≤ c' ∧ c' ≤ 225) → ¬ (231 ≤ c' ∧ c' ≤ 232) → ¬ (c' = 121 ∧ (x = 158 ∨ x = 161 ∨ x = 170)) → s c' x = t c' x := e12
    obtain ⟨w1, w2, w3, w4, w5, w6⟩ := WF_r h hc hk
    obtain ⟨m1, m2, m3⟩ := hR.2 c (p 0 c + k) hc (by omega) w1
    have fi := h.2.2.2.2 _ w2
    have cs := rbk_s (p := p) (c := c) (u := u) (k := k)
    have gs := rgk_s (p := p) (c := c) (g := g) (k := k)
    have ns := rnk_s (p := p) (c := c) (k := k)
    have cm := rbk_m (p := p) (c := c) (u := u) (show k + 1 ≤ npC p c by omega)
    have gm := rgk_m (p := p) (c := c) (g := g) (show k + 1 ≤ npC p c by omega)
    have c0 := rbk_m (p := p) (c := c) (u := u) (Nat.zero_le k)
    have g0 := rgk_m (p := p) (c := c) (g := g) (Nat.zero_le k)
    have u0 : rbk p c u 0 = u := rfl
    have g00 : rgk p c g 0 = g := rfl
    have rl := rn_le h (u := u) hc (show k + 1 ≤ npC p c by omega)
    obtain ⟨r, hr⟩ : ∃ r, r = p 0 c + k := ⟨_, rfl⟩
    obtain ⟨q, hq⟩ : ∃ q, q = rbk p c u k := ⟨_, rfl⟩
    obtain ⟨i, hi⟩ : ∃ i, i = p 1 r := ⟨_, rfl⟩
    -- the new part
    have NP : ∃ t1, m_newPart (i : Int) s = some ((q : Int), t1) ∧ t1 121 158 = ((q + p 4 i : Nat) : Int) ∧ t1 121 161 = ((rgk p c g (k + 1) : Nat) : Int) ∧ t1 121 170 = ((w + rnk p c (k + 1) : Nat) : Int) ∧ (i < 2 → GTr p i q (rgk p c g k) t1) ∧ (2 ≤ i → (t1 231 (w + rnk p c k) = ((i - 2 : Nat) : Int) ∧ t1 232 (w + rnk p c k) = (q : Int)) ∧ ∀ x, q ≤ x → x < q + p 4 i → t1 223 x = 0) ∧ (∀ x, q ≤ x → x < q + p 4 i → t1 222 x = -1) ∧ (∀ x, ¬ (q ≤ x ∧ x < q + p 4 i) → t1 222 x = s 222 x ∧ t1 223 x = s 223 x) ∧ (∀ x, ¬ (rgk p c g k ≤ x ∧ x < rgk p c g (k + 1)) → t1 224 x = s 224 x ∧ t1 225 x = s 225 x) ∧ (∀ x, x < w + rnk p c k → t1 231 x = s 231 x ∧ t1 232 x = s 232 x) ∧ ∀ c' x, ¬ (222 ≤ c' ∧ c' ≤ 225) → ¬ (231 ≤ c' ∧ c' ≤ 232) → ¬ (c' = 121 ∧ (x = 158 ∨ x = 161 ∨ x = 170)) → t1 c' x = s c' x := by
      rw [← hr, ← hi] at gs ns cs
      rw [← hr, ← hi] at w2 fi
      by_cases ig : i < 2
      · rw [if_pos ig] at gs ns
        obtain ⟨t1, a1, a2, a3, a4, a5, a6, a7, a8⟩ := r_gate' h (t := s) (u := q) (g := rgk p c g k) ig (by rw [hq]; exact e2') e3' (by omega) (by omega)
        refine ⟨t1, a1, a2, by rw [gs]; exact a3, by rw [ns, Nat.add_zero, a8 121 170 (by omega) (by omega)]; exact e4', fun _ => a4, fun y => by omega, a5, a6, fun x hx => a7 x (by omega), fun x _ => ⟨a8 231 x (by omega) (by omega), a8 232 x (by omega) (by omega)⟩, fun c' x y1 y2 y3 => a8 c' x y1 (by omega)⟩
      · rw [if_neg ig] at gs ns
        have e2 : 2 + (i - 2) = i := by omega
        have ob := hO s e1' (i - 2) (by omega)
        rw [e2] at ob
        obtain ⟨t1, a1, a2, a3, a4, a5, a6, a7, a8⟩ := r_comp (p := p) (t := s) (c := i - 2) (u := q) (w := w + rnk p c k) (by omega) (by rw [e2]; exact ob) (by rw [hq]; exact e2') e4' (by rw [e2]; omega) (by omega)
        rw [e2] at a1 a2 a5 a6
        refine ⟨t1, a1, a2, by rw [gs, Nat.add_zero, a8 121 161 (by omega) (by omega) (by omega)]; exact e3', by rw [ns]; exact a3, fun y => absurd y ig, fun _ => ⟨a4, fun x x1 x2 => (a5 x x1 x2).2⟩, fun x x1 x2 => (a5 x x1 x2).1, a6, fun x _ => ⟨a8 224 x (by omega) (by omega) (by omega), a8 225 x (by omega) (by omega) (by omega)⟩, fun x hx => a7 x (by omega), fun c' x y1 y2 y3 => a8 c' x (by omega) y2 (by omega)⟩
    obtain ⟨t1, a1, a2, a3, a4, a5, a6, a7, a8, a9, a10, a11⟩ := NP
    have S1 : STr t0 t1 := STr_of e1' (fun c' x y1 y2 => a11 c' x (by omega) (by omega) (by omega))
    obtain ⟨t2, b1, b2, b3, b4, b5⟩ := r_jls h hph hC hR (b := b) (u := u) hc hk S1 (o := OWp p c k) (fun j j1 j2 => by
      have pj := ph_in hph h hc j1 j2
      rw [(a8 _ (by omega)).1]
      exact e6' j j1 j2) hb (by omega) (fun j hj => by
      rw [← hr, ← hi] at hj fi
      rw [← hq]
      exact a7 _ (by omega) (by omega))
    rw [← hr] at b1 b3 b4 b5 cs gs ns w1 w2 w3 w4 w5 w6 fi m1 m2 m3
    rw [← hq] at b1 b4 b5 cs c0
    rw [← hi] at b4 b5 cs gs ns w2 w3 fi m1
    refine ⟨((r : Int) + 1, t2), ?_, by show (r : Int) + 1 = ((p 0 c + (k + 1) : Nat) : Int); omega, ?_, ⟨?_, ?_, ?_⟩, ?_, ?_, ?_, ?_, ?_, ?_, ?_, ?_⟩
    · show m_build_71b (c : Int) (b : Int) ((p 0 c + k : Nat) : Int) s = _
      rw [← hr]
      unfold m_build_71b
      rw [gd_pos (by omega), gr (by omega), show ((c : Int) + 1).toNat = c + 1 by omega, e1' 201 _ (by omega) (by omega), e201, gr (by omega), if_neg (by omega), gd_pos (by omega), Int.toNat_natCast, e1' 216 _ (by omega) (by omega), m1, a1, bq, gd_pos (by omega), S1 203 _ (by omega) (by omega), m2]
      unfold m_build_106
      rw [b1, bn]
    · exact STr_of S1 (fun c' x y1 y2 => b2 c' x (by omega))
    · show t2 121 158 = _
      rw [b2 121 158 (by omega), a2, cs]
    · show t2 121 161 = _
      rw [b2 121 161 (by omega), a3]
    · show t2 121 170 = _
      rw [b2 121 170 (by omega), a4]
    · intro k' hk' y
      show t2 231 _ = _ ∧ t2 232 _ = _
      rw [b2 231 _ (by omega), b2 232 _ (by omega)]
      by_cases z : k' = k
      · rw [z, ← hr, ← hi] at y
        rw [z, ← hr, ← hi, ← hq]
        exact (a6 y).1
      · have nm := rnk_m (p := p) (c := c) (show k' + 1 ≤ k by omega)
        have ns' := rnk_s (p := p) (c := c) (k := k')
        rw [if_neg (by omega)] at ns'
        obtain ⟨y1, y2⟩ := a10 (w + rnk p c k') (by omega)
        rw [y1, y2]
        exact e5' k' (by omega) y
    · intro j j1 j2
      show t2 222 (b + ph c j) = _
      rw [OWp_s, ← hr]
      exact b3 j j1 j2
    · intro k' hk'
      show PFr p ph c b u g k' t2
      by_cases z : k' = k
      · rw [z]
        unfold PFr
        rw [← hr, ← hi, ← hq]
        refine ⟨b4, fun y => ?_, fun y => ⟨fun j j1 j2 => ?_, fun j j1 => ?_⟩⟩
        · obtain ⟨y1, y2, y3, y4⟩ := a5 y
          exact ⟨by rw [b2 224 _ (by omega)]; exact y1, by rw [b2 225 _ (by omega)]; exact y2, fun j hj => by rw [b2 223 _ (by omega)]; exact y3 j hj, by rw [b2 223 _ (by omega)]; exact y4⟩
        · rw [b5 _ (by omega) (by omega)]
          exact a7 _ (by omega) (by omega)
        · rw [b2 223 _ (by omega)]
          exact (a6 y).2 _ (by omega) (by omega)
      · have cm' := rbk_m (p := p) (c := c) (u := u) (show k' + 1 ≤ k by omega)
        have gm' := rgk_m (p := p) (c := c) (g := g) (show k' + 1 ≤ k by omega)
        have cm0 := rbk_m (p := p) (c := c) (u := u) (Nat.zero_le k')
        refine PFr_of h hc (by omega) (e7' k' (by omega)) (fun x x1 x2 => ?_) (fun x x1 x2 => ?_)
        · obtain ⟨y1, y2⟩ := a8 x (by omega)
          exact ⟨by rw [b5 x (by omega) (by omega), y1], by rw [b2 223 x (by omega), y2]⟩
        · obtain ⟨y1, y2⟩ := a9 x (by omega)
          exact ⟨by rw [b2 224 x (by omega), y1], by rw [b2 225 x (by omega), y2]⟩
    · intro x x1 x2
      show t2 222 x = _
      rw [cs] at x2
      rw [b5 x (by omega) (by omega), (a8 x (by omega)).1]
      exact e8' x x1 (by omega)
    · intro x x2
      show t2 223 x = _
      rw [cs] at x2
      rw [b2 223 x (by omega), (a8 x (by omega)).2]
      exact e9' x (by omega)
    · intro x x1
      show t2 224 x = _ ∧ t2 225 x = _
      have gm2 := rgk_m (p := p) (c := c) (g := g) (show k ≤ k + 1 by omega)
      obtain ⟨y1, y2⟩ := a9 x (by omega)
      obtain ⟨y3, y4⟩ := e10' x (by omega)
      exact ⟨by rw [b2 224 x (by omega), y1, y3], by rw [b2 225 x (by omega), y2, y4]⟩
    · intro x x1
      show t2 231 x = _ ∧ t2 232 x = _
      obtain ⟨y1, y2⟩ := a10 x (by omega)
      obtain ⟨y3, y4⟩ := e11' x x1
      exact ⟨by rw [b2 231 x (by omega), y1, y3], by rw [b2 232 x (by omega), y2, y4]⟩
    · intro c' x y1 y2 y3
      show t2 c' x = _
      rw [b2 c' x (by omega), a11 c' x y1 y2 y3]
      exact e12' c' x y1 y2 y3) (by
    rintro ⟨v, s⟩ ⟨e, e1, e2, e5⟩
    have e' : v = ((p 0 c + npC p c : Nat) : Int) := e
    subst e'
    have e1' : STr t0 s := e1
    refine ⟨s, ?_, e1, e2, e5⟩
    show m_build_71b (c : Int) (b : Int) ((p 0 c + npC p c : Nat) : Int) s = _
    unfold m_build_71b
    rw [gd_pos (by omega), gr (by omega), show ((c : Int) + 1).toNat = c + 1 by omega, e1' 201 _ (by omega) (by omega), e201, gr (by omega), if_pos (by omega)]) (npC p c) 0 (((p 0 c : Nat) : Int), t) (by omega) ⟨rfl, hS, ⟨h158, h161, h170⟩, fun k' hk' => absurd hk' (Nat.not_lt_zero k'), fun j j1 j2 => by
      have pj := ph_in hph h hc j1 j2
      exact hf _ pj.1 pj.2, fun k' hk' => absurd hk' (Nat.not_lt_zero k'), fun _ _ _ => rfl, fun _ _ => rfl, fun _ _ => ⟨rfl, rfl⟩, fun _ _ => ⟨rfl, rfl⟩, fun _ _ _ _ _ => rfl⟩
  obtain ⟨t', l1, l2, ⟨l3, l4, l5⟩, l6⟩ := L
  refine ⟨t', ?_, l2, l3, l4, l5, l6⟩
  unfold m_build_71
  rw [l1]
  rfl
end CKy
