/-! chips: bits of both are led back to the same -/
section CLc
variable (p ph : Nat → Nat → Nat) (G : Nat → Nat → Prop) (m nin : Nat) (wd : Nat → Nat) (s t : iS)
def SGm (z b : Int) : Prop := (z = 0 ∧ (b = -1 ∨ ∃ x : Nat, b = (x : Int) ∧ sW wd 0 nin ≤ x ∧ x < m ∧ t 223 x = 0)) ∨ (z = 1 ∧ b = -2) ∨ (∃ k i, k < nin ∧ i < wd k ∧ z = ((2 + 16 * k + i : Nat) : Int) ∧ b = ((sW wd 0 k + i : Nat) : Int)) ∨ ∃ x y, G x y ∧ z = ((194 + x : Nat) : Int) ∧ ∃ i q, i < 2 ∧ GTr p i q y t ∧ b = ((q + p 5 i : Nat) : Int)
/-- class bit x and reference bit x' are led back to the same, in at most K steps -/
def TRz (K : Nat) (x x' : Nat) : Prop := ∃ m1 m2 z b, m1 ≤ K ∧ TRc s z m1 (x : Int) ∧ TRr t b m2 (x' : Int) ∧ SGm p G m nin wd t z b
def GPr (K x y : Nat) : Prop := ∃ i q q', i < 2 ∧ GTc i q x s ∧ GTr p i q' y t ∧ q' + p 5 i < m ∧ ∀ j, j < p 5 i → TRz p G m nin wd s t K (q + j) (q' + j)
end CLc
section CLd
variable {p ph : Nat → Nat → Nat} {G : Nat → Nat → Prop} {m nin : Nat} {wd : Nat → Nat} {s t : iS}
theorem OWl_rg (h : WFp p) {c k : Nat} (hc : c < p 10 0) (hk : k < npC p c) {o : Nat → Option (Nat × Nat)} {j k' i : Nat} (ho : o j = some (k', i) → k' < npC p c ∧ p 5 (p 1 (p 0 c + k')) ≤ i ∧ i < p 14 (p 1 (p 0 c + k'))) : ∀ M, M ≤ p 3 (p 0 c + k) - p 2 (p 0 c + k) → OWl p k (p 0 c + k) o M j = some (k', i) → k' < npC p c ∧ p 5 (p 1 (p 0 c + k')) ≤ i ∧ i < p 14 (p 1 (p 0 c + k'))
  | 0, _, e => ho e
  | M + 1, hM, e => by
    have es : OWl p k (p 0 c + k) o (M + 1) j = if p 8 (p 2 (p 0 c + k) + M) = 1 ∧ p 9 (p 2 (p 0 c + k) + M) - 2 ≤ j ∧ j < p 9 (p 2 (p 0 c + k) + M) - 2 + p 6 (p 2 (p 0 c + k) + M) then some (k, p 7 (p 2 (p 0 c + k) + M) + (j - (p 9 (p 2 (p 0 c + k) + M) - 2))) else OWl p k (p 0 c + k) o M j := rfl
    rw [es] at e
    by_cases q : p 8 (p 2 (p 0 c + k) + M) = 1 ∧ p 9 (p 2 (p 0 c + k) + M) - 2 ≤ j ∧ j < p 9 (p 2 (p 0 c + k) + M) - 2 + p 6 (p 2 (p 0 c + k) + M)
    · rw [if_pos q] at e
      injection e with e
      injection e with e1 e2
      subst e1
      have w := (WF_r h hc hk).2.2.2.2.2 (p 2 (p 0 c + k) + M) (by omega) (by omega)
      rcases w.2 with ⟨z, -⟩ | ⟨z, z1, z2, z3, z4, z5⟩
      · omega
      · exact ⟨hk, by omega, by omega⟩
    · rw [if_neg q] at e
      exact OWl_rg h hc hk ho M (by omega) e
theorem OWp_rg (h : WFp p) {c : Nat} (hc : c < p 10 0) {j k' i : Nat} : ∀ K, K ≤ npC p c → OWp p c K j = some (k', i) → k' < npC p c ∧ p 5 (p 1 (p 0 c + k')) ≤ i ∧ i < p 14 (p 1 (p 0 c + k'))
  | 0, _, e => by cases e
  | K + 1, hK, e => by
    rw [OWp_s] at e
    exact OWl_rg h hc (by omega) (fun q => OWp_rg h hc K (by omega) q) _ (Nat.le_refl _) e
theorem IWf_rg (h : WFp p) {c k : Nat} (hc : c < p 10 0) (hk : k < npC p c) {j : Nat} : ∀ M, M ≤ p 3 (p 0 c + k) - p 2 (p 0 c + k) → -2 ≤ IWf p (p 0 c + k) M j ∧ IWf p (p 0 c + k) M j < (p 4 (2 + c) : Int)
  | 0, _ => by show -2 ≤ (-1 : Int) ∧ (-1 : Int) < _; omega
  | M + 1, hM => by
    have es : IWf p (p 0 c + k) (M + 1) j = if p 8 (p 2 (p 0 c + k) + M) = 0 ∧ p 7 (p 2 (p 0 c + k) + M) ≤ j ∧ j < p 7 (p 2 (p 0 c + k) + M) + p 6 (p 2 (p 0 c + k) + M) then (if p 9 (p 2 (p 0 c + k) + M) < 2 then (p 9 (p 2 (p 0 c + k) + M) : Int) - 2 else ((p 9 (p 2 (p 0 c + k) + M) - 2 + (j - p 7 (p 2 (p 0 c + k) + M)) : Nat) : Int)) else IWf p (p 0 c + k) M j := rfl
    rw [es]
    by_cases q : p 8 (p 2 (p 0 c + k) + M) = 0 ∧ p 7 (p 2 (p 0 c + k) + M) ≤ j ∧ j < p 7 (p 2 (p 0 c + k) + M) + p 6 (p 2 (p 0 c + k) + M)
    · rw [if_pos q]
      have w := (WF_r h hc hk).2.2.2.2.2 (p 2 (p 0 c + k) + M) (by omega) (by omega)
      rcases w.2 with ⟨z, z1, z2⟩ | ⟨z, -⟩
      · by_cases y : p 9 (p 2 (p 0 c + k) + M) < 2
        · rw [if_pos y]; omega
        · rw [if_neg y]; omega
      · omega
    · rw [if_neg q]
      exact IWf_rg h hc hk M (by omega)
theorem TRz_m {K K' x x' : Nat} (h : TRz p G m nin wd s t K x x') (hk : K ≤ K') : TRz p G m nin wd s t K' x x' := by
  obtain ⟨m1, m2, z, b, a1, a2, a3, a4⟩ := h
  exact ⟨m1, m2, z, b, by omega, a2, a3, a4⟩
/-- one step further -/
theorem TRz_n {K x x' y y' : Nat} (h : TRz p G m nin wd s t K y y') (hx : x < 40000) (hx' : x' < 40000) (h1 : s 111 x = (y : Int)) (h2 : t 223 x' = 0) (h3 : t 222 x' = (y' : Int)) (hy : y' < 40000) : TRz p G m nin wd s t (K + 1) x x' := by
  obtain ⟨m1, m2, z, b, a1, a2, a3, a4⟩ := h
  refine ⟨m1 + 1, m2 + 1, z, b, by omega, ⟨by omega, ?_⟩, ⟨by omega, ⟨?_, ?_⟩, ?_⟩, a4⟩
  · rw [Int.toNat_natCast, h1]; exact a2
  · rw [Int.toNat_natCast]; exact h2
  · rw [Int.toNat_natCast, h3]; omega
  · rw [Int.toNat_natCast, h3]; exact a3
theorem TRz_0 {x x' : Nat} (hx : x < 40000) (hx' : x' < 40000) (h1 : s 111 x = -1) (h2 : t 223 x' = 0) (h3 : t 222 x' = -1) (hW : sW wd 0 nin ≤ x') (hm : x' < m) : TRz p G m nin wd s t 1 x x' := by
  refine ⟨1, 0, 0, (x' : Int), by omega, ⟨by omega, ?_⟩, ⟨rfl, by omega, Or.inr (Or.inr ?_)⟩, Or.inl ⟨rfl, Or.inr ⟨x', rfl, hW, hm, h2⟩⟩⟩
  · rw [Int.toNat_natCast, h1]
    exact ⟨by omega, by omega, by omega⟩
  · rw [Int.toNat_natCast]
    exact ⟨h2, h3⟩
theorem TRz_1 {x x' : Nat} (hx : x < 40000) (hx' : x' < 40000) (h1 : s 111 x = -2) (h2 : t 223 x' = 0) (h3 : t 222 x' = -2) : TRz p G m nin wd s t 1 x x' := by
  refine ⟨1, 1, 1, -2, by omega, ⟨by omega, ?_⟩, ⟨by omega, ?_, ?_⟩, Or.inr (Or.inl ⟨rfl, rfl⟩)⟩
  · rw [Int.toNat_natCast, h1]
    exact ⟨by omega, by omega, by omega⟩
  · rw [Int.toNat_natCast, h3]
    exact ⟨h2, by omega, by omega, by omega⟩
  · rw [Int.toNat_natCast, h3]
    exact ⟨rfl, by omega, Or.inl (by omega)⟩
/-- the output of a gate -/
theorem TRz_g {i q q' x y : Nat} (hi : i < 2) (h : WFp p) (hG : G x y) (hx : x < 1500) (hy : y < 1500) (h1 : GTc i q x s) (h2 : GTr p i q' y t) (hq : q + p 5 i < 40000) (hq' : q' + p 5 i < 40000) : TRz p G m nin wd s t 1 (q + p 5 i) (q' + p 5 i) := by
  obtain ⟨-, -, a3⟩ := h1
  have h20 := h2
  obtain ⟨-, -, -, b4⟩ := h2
  obtain ⟨z1, z2, z3⟩ := WFg h hi
  have e : (if i = 0 then q + 2 else q + 1) = q + p 5 i := by rcases z3 with ⟨y1, y2, y3⟩ | ⟨y1, y2, y3⟩ <;> rw [y3, y1] <;> rfl
  rw [e] at a3
  refine ⟨1, 0, ((194 + x : Nat) : Int), ((q' + p 5 i : Nat) : Int), by omega, ⟨by omega, ?_⟩, ⟨rfl, by omega, Or.inr (Or.inl ?_)⟩, Or.inr (Or.inr (Or.inr ⟨x, y, hG, rfl, i, q', hi, h20, rfl⟩))⟩
  · rw [Int.toNat_natCast, a3]
    exact ⟨by omega, by omega, by omega⟩
  · rw [Int.toNat_natCast, b4]
    exact ⟨by omega, by omega, by omega⟩
theorem t_down (h : WFp p) (hph : PHw p ph) : ∀ (f c b u g b' u' g' : Nat), c < p 10 0 → p 13 (2 + c) ≤ f → WCt p f c b u g s → WRt p ph f c b' u' g' t → (b + p 4 (2 + c) ≤ u ∧ u + p 11 (2 + c) ≤ 40000) → (b' + p 4 (2 + c) ≤ u' ∧ u' + p 11 (2 + c) ≤ m) → m ≤ 40000 → (g + p 12 (2 + c) ≤ 1500 ∧ g' + p 12 (2 + c) ≤ 1500) → sW wd 0 nin ≤ b' + p 5 (2 + c) → (∀ x y, GMr p f c g g' x y → G x y) → ∀ j, p 5 (2 + c) ≤ j → j < p 4 (2 + c) → TRz p G m nin wd s t (f + 1) (b + j) (b' + ph c j)
  | 0, c, _, _, _, _, _, _, hc, hf, _, _, _, _, _, _, _, _, _, _, _ => by
    have := (h.2.1 c hc).2.2.1
    omega
  | f + 1, c, b, u, g, b', u', g', hc, hf, hC, hR, hu, hu', hm, hg, hW, hG, j, j1, j2 => by
    obtain ⟨a1, a2⟩ := hC
    obtain ⟨r1, r2, r3⟩ := hR
    have pj := ph_in hph h hc j1 j2
    have e1 := a1 j j1 j2
    have e2 := r1 j j1 j2
    have e3 := r2 (ph c j) pj.2
    cases o : OWp p c (npC p c) j with
    | none =>
      rw [o] at e1 e2
      exact TRz_m (TRz_0 (by omega) (by omega) e1 e3 e2 (by omega) (by omega)) (by omega)
    | some ki =>
      obtain ⟨k, i⟩ := ki
      obtain ⟨k1, k2, k3⟩ := OWp_rg h hc (npC p c) (Nat.le_refl _) o
      rw [o] at e1 e2
      have e1' : s 111 (b + j) = ((cbk p c u k + i : Nat) : Int) := e1
      have e2' : t 222 (b' + ph c j) = ((rbk p c u' k + i : Nat) : Int) := e2
      obtain ⟨w1, w2, w3, w4, w5, w6⟩ := WF_r h hc k1
      have fi := h.2.2.2.2 _ w2
      have ci := cbk_in h (u := u) hc k1
      have gi := cgk_in h (g := g) hc k1
      have ri := rbk_in h (u := u') hc k1
      have rg := rgk_in h (g := g') hc k1
      obtain ⟨x1, x2, x3⟩ := a2 k k1
      obtain ⟨y1, y2, y3⟩ := r3 k k1
      have sub : TRz p G m nin wd s t (f + 1) (cbk p c u k + i) (rbk p c u' k + i) := by
        by_cases q : p 1 (p 0 c + k) < 2
        · rw [if_pos q] at rg
          obtain ⟨z1, z2, z3⟩ := WFg h q
          have ei : i = p 5 (p 1 (p 0 c + k)) := by rcases z3 with ⟨v1, v2, v3⟩ | ⟨v1, v2, v3⟩ <;> omega
          rw [ei]
          exact TRz_m (TRz_g q h (hG _ _ ⟨k, k1, Or.inl ⟨q, rfl, rfl⟩⟩) (by omega) (by omega) (x2 q) (y2 q) (by omega) (by omega)) (by omega)
        · have e4 : 2 + (p 1 (p 0 c + k) - 2) = p 1 (p 0 c + k) := by omega
          rw [if_neg q, if_neg q] at rg
          have rn := rbk_m (p := p) (c := c) (u := u') (show 0 ≤ npC p c by omega)
          have e0 : rbk p c u' 0 = u' := rfl
          have fc := (h.2.2.2.2 (2 + c) (by omega))
          have D := t_down h hph f (p 1 (p 0 c + k) - 2) (cbk p c u k) (cbk p c u k + p 4 (p 1 (p 0 c + k))) (cgk p c g k) (rbk p c u' k) (rbk p c u' (npC p c) + rsb p c (k + 1)) (rgk p c g' (npC p c) + rsg p c (k + 1)) (by omega) (by rw [e4]; omega) (x3 (by omega)) (y3 (by omega)) (by rw [e4]; omega) (by rw [e4]; omega) hm (by rw [e4]; omega) (by rw [e4]; omega) (fun x y q2 => hG x y ⟨k, k1, Or.inr ⟨by omega, q2⟩⟩) i (by rw [e4]; exact k2) (by rw [e4]; omega)
          have pi := (hph (p 1 (p 0 c + k) - 2) (by omega)).2.2.1 i (by rw [e4]; exact k3)
          rw [pi] at D
          exact D
      exact TRz_n sub (by omega) (by omega) e1' e3 e2' (by omega)
theorem t_up (h : WFp p) (hph : PHw p ph) {K : Nat} (hK : 100 ≤ K) : ∀ (f c b u g b' u' g' L : Nat), c < p 10 0 → p 13 (2 + c) ≤ f → WCt p f c b u g s → WRt p ph f c b' u' g' t → (b + p 4 (2 + c) ≤ u ∧ u + p 11 (2 + c) ≤ 40000) → (b' + p 4 (2 + c) ≤ u' ∧ u' + p 11 (2 + c) ≤ m) → m ≤ 40000 → (g + p 12 (2 + c) ≤ 1500 ∧ g' + p 12 (2 + c) ≤ 1500) → sW wd 0 nin ≤ b' + p 5 (2 + c) → (∀ x y, GMr p f c g g' x y → G x y) → L + f ≤ 60 → 2 * f ≤ 50 → (∀ j, j < p 5 (2 + c) → TRz p G m nin wd s t L (b + j) (b' + j)) → ∀ x y, GMr p f c g g' x y → GPr p G m nin wd s t K x y
  | 0, c, _, _, _, _, _, _, _, hc, hf, _, _, _, _, _, _, _, _, _, _, _, _, _, _ => by
    have := (h.2.1 c hc).2.2.1
    omega
  | f + 1, c, b, u, g, b', u', g', L, hc, hf, hC, hR, hu, hu', hm, hg, hW, hG, hL, hf2, hin, x, y, hM => by
    have hC0 := hC
    have hR0 := hR
    obtain ⟨a1, a2⟩ := hC
    obtain ⟨r1, r2, r3⟩ := hR
    obtain ⟨k, k1, hM⟩ := hM
    obtain ⟨w1, w2, w3, w4, w5, w6⟩ := WF_r h hc k1
    have fi := h.2.2.2.2 _ w2
    have ci := cbk_in h (u := u) hc k1
    have gi := cgk_in h (g := g) hc k1
    have ri := rbk_in h (u := u') hc k1
    have rg := rgk_in h (g := g') hc k1
    have rn := rbk_m (p := p) (c := c) (u := u') (show 0 ≤ npC p c by omega)
    have e0 : rbk p c u' 0 = u' := rfl
    have fc := (h.2.2.2.2 (2 + c) (by omega))
    obtain ⟨x1, x2, x3⟩ := a2 k k1
    obtain ⟨y1, y2, y3⟩ := r3 k k1
    -- the IN bits of part k
    have z223 : ∀ j, j < p 5 (p 1 (p 0 c + k)) → t 223 (rbk p c u' k + j) = 0 := by
      intro j hj
      by_cases q : p 1 (p 0 c + k) < 2
      · exact (y2 q).2.2.1 j hj
      · have e4 : 2 + (p 1 (p 0 c + k) - 2) = p 1 (p 0 c + k) := by omega
        have hw := y3 (by omega)
        cases f with
        | zero => exact hw.elim
        | succ f =>
          obtain ⟨-, v2, -⟩ := hw
          exact v2 j (by rw [e4]; omega)
    have inb : ∀ j, j < p 5 (p 1 (p 0 c + k)) → TRz p G m nin wd s t (max L (f + 2) + 1) (cbk p c u k + j) (rbk p c u' k + j) := by
      intro j hj
      have v1 := x1 j hj
      have v2 := y1 j hj
      have v3 := z223 j hj
      have rr := IWf_rg h hc k1 (j := j) _ (Nat.le_refl _)
      have rr' : -2 ≤ IWa p (p 0 c + k) j ∧ IWa p (p 0 c + k) j < (p 4 (2 + c) : Int) := rr
      obtain ⟨v, hv⟩ : ∃ v, v = IWa p (p 0 c + k) j := ⟨_, rfl⟩
      rw [← hv] at v1 v2 rr'
      unfold cIW at v1
      unfold rIW at v2
      by_cases c1 : v < 0
      · rw [if_pos c1] at v1 v2
        by_cases c2 : v = -1
        · rw [c2] at v1 v2
          exact TRz_m (TRz_0 (by omega) (by omega) v1 v3 v2 (by omega) (by omega)) (by omega)
        · have c3 : v = -2 := by omega
          rw [c3] at v1 v2
          exact TRz_m (TRz_1 (by omega) (by omega) v1 v3 v2) (by omega)
      · rw [if_neg c1] at v1 v2
        obtain ⟨n, hn⟩ : ∃ n : Nat, v = (n : Int) := ⟨v.toNat, by omega⟩
        rw [hn] at v1 v2
        rw [Int.toNat_natCast] at v2
        by_cases c4 : n < p 5 (2 + c)
        · have pn := (hph c hc).2.2.1 n (by omega)
          rw [pn] at v2
          exact TRz_m (TRz_n (hin n c4) (by omega) (by omega) (by rw [v1]; rfl) v3 v2 (by omega)) (by omega)
        · have D := t_down h hph (f + 1) c b u g b' u' g' hc hf hC0 hR0 hu hu' hm hg hW hG n (by omega) (by omega)
          have pl := (hph c hc).1 n (by omega)
          exact TRz_m (TRz_n D (by omega) (by omega) (by rw [v1]; rfl) v3 v2 (by omega)) (by omega)
    rcases hM with ⟨q, q1, q2⟩ | ⟨q, q1⟩
    · rw [if_pos q] at rg
      subst q1 q2
      exact ⟨p 1 (p 0 c + k), cbk p c u k, rbk p c u' k, q, x2 q, y2 q, by omega, fun j hj => TRz_m (inb j hj) (by omega)⟩
    · have e4 : 2 + (p 1 (p 0 c + k) - 2) = p 1 (p 0 c + k) := by omega
      rw [if_neg (by omega), if_neg (by omega)] at rg
      exact t_up h hph hK f (p 1 (p 0 c + k) - 2) (cbk p c u k) (cbk p c u k + p 4 (p 1 (p 0 c + k))) (cgk p c g k) (rbk p c u' k) (rbk p c u' (npC p c) + rsb p c (k + 1)) (rgk p c g' (npC p c) + rsg p c (k + 1)) (max L (f + 2) + 1) (by omega) (by rw [e4]; omega) (x3 q) (y3 q) (by rw [e4]; omega) (by rw [e4]; omega) hm (by rw [e4]; omega) (by rw [e4]; omega) (fun x y z => hG x y ⟨k, k1, Or.inr ⟨q, z⟩⟩) (by omega) (by omega) (by rw [e4]; exact inb) x y q1
end CLd
