/-! chips: the class wires all that is below a chip -/
section CKv
variable {p : Nat → Nat → Nat}
theorem OWp_s {c k j : Nat} : OWp p c (k + 1) j = OWl p k (p 0 c + k) (OWp p c k) (p 3 (p 0 c + k) - p 2 (p 0 c + k)) j := rfl
/-- part k of chip c is wired -/
def PFc (p : Nat → Nat → Nat) (f c b u g k : Nat) (s : iS) : Prop := (∀ j, j < p 5 (p 1 (p 0 c + k)) → s 111 (cbk p c u k + j) = cIW b (IWa p (p 0 c + k) j)) ∧ (p 1 (p 0 c + k) < 2 → GTc (p 1 (p 0 c + k)) (cbk p c u k) (cgk p c g k) s) ∧ (2 ≤ p 1 (p 0 c + k) → WCt p f (p 1 (p 0 c + k) - 2) (cbk p c u k) (cbk p c u k + p 4 (p 1 (p 0 c + k))) (cgk p c g k) s)
theorem WFg (h : WFp p) {i : Nat} (hi : i < 2) : p 11 i = 0 ∧ p 12 i = 1 ∧ (i = 0 ∧ p 4 i = 3 ∧ p 5 i = 2 ∨ i = 1 ∧ p 4 i = 2 ∧ p 5 i = 1) := by
  obtain ⟨a1, a2, a3, a4, a5, a6, a7, a8⟩ := h.2.2.2.1
  have : i = 0 ∨ i = 1 := by omega
  rcases this with e | e <;> rw [e]
  · exact ⟨a5, a7, Or.inl ⟨rfl, a1, a2⟩⟩
  · exact ⟨a6, a8, Or.inr ⟨rfl, a3, a4⟩⟩
theorem PFc_of (h : WFp p) {f c b u g k : Nat} {s s' : iS} (hc : c < p 10 0) (hk : k < npC p c) (hw : PFc p f c b u g k s) (h1 : ∀ x, cbk p c u k ≤ x → x < cbk p c u (k + 1) → s' 111 x = s 111 x) (h2 : ∀ x, cgk p c g k ≤ x → x < cgk p c g (k + 1) → s' 113 x = s 113 x ∧ s' 114 x = s 114 x) : PFc p f c b u g k s' := by
  obtain ⟨b1, b2, b3⟩ := hw
  obtain ⟨w1, w2, w3, w4, w5, w6⟩ := WF_r h hc hk
  have fi := h.2.2.2.2 _ w2
  rw [cbk_s] at h1
  rw [cgk_s] at h2
  refine ⟨fun j hj => by rw [h1 _ (by omega) (by omega)]; exact b1 j hj, fun q => ?_, fun q => ?_⟩
  · obtain ⟨d1, d2, d3⟩ := b2 q
    obtain ⟨z1, z2, z3⟩ := WFg h q
    have hg := h2 (cgk p c g k) (by omega) (by omega)
    refine ⟨by rw [hg.1]; exact d1, by rw [hg.2]; exact d2, ?_⟩
    rw [h1 _ ?_ ?_]
    · exact d3
    · split <;> omega
    · split <;> omega
  · have e2 : 2 + (p 1 (p 0 c + k) - 2) = p 1 (p 0 c + k) := by omega
    refine WCt_of h f (p 1 (p 0 c + k) - 2) _ _ _ (by omega) (b3 q) (fun x hx => h1 x ?_ ?_) (fun x x1 x2 => h2 x (by omega) ?_)
    · rw [e2] at hx; omega
    · rw [e2] at hx; omega
    · rw [e2] at x2; omega
theorem c_put (h : WFp p) : ∀ (f c : Nat), c < p 10 0 → p 13 (2 + c) ≤ f → ∀ (dep b u g : Nat) (s : iS), dep + p 13 (2 + c) ≤ 16 → PLC p s → s 108 15 = (u : Int) → s 108 14 = (g : Int) → u + p 11 (2 + c) ≤ 40000 → g + p 12 (2 + c) ≤ 1500 → b + p 4 (2 + c) ≤ u → (∀ j, p 5 (2 + c) ≤ j → j < p 4 (2 + c) → s 111 (b + j) = -1) → (∀ x, u ≤ x → x < 40000 → s 111 x = -1) → ∃ s', brdP f 0 ((2 + c : Nat) : Int) (b : Int) (dep : Int) s = some (0, s') ∧ s' 108 15 = ((u + p 11 (2 + c) : Nat) : Int) ∧ s' 108 14 = ((g + p 12 (2 + c) : Nat) : Int) ∧ WCt p f c b u g s' ∧ (∀ c' x, c' ≠ 111 → c' ≠ 113 → c' ≠ 114 → ¬ (c' = 108 ∧ (x = 14 ∨ x = 15)) → s' c' x = s c' x) ∧ (∀ x, ¬ (b + p 5 (2 + c) ≤ x ∧ x < b + p 4 (2 + c)) → ¬ (u ≤ x ∧ x < u + p 11 (2 + c)) → s' 111 x = s 111 x) ∧ ∀ x, ¬ (g ≤ x ∧ x < g + p 12 (2 + c)) → s' 113 x = s 113 x ∧ s' 114 x = s 114 x
  | 0, c, hc, hf, _, _, _, _, _, _, _, _, _, _, _, _, _, _ => by
    have := (h.2.1 c hc).2.2.1
    omega
  | f + 1, c, hc, hf, dep, b, u, g, s, hd, hP, h15, h14, hu, hg, hb, hf1, hf2 => by
    have wc := h.2.1 c hc
    have c16 := h.1.2
    have e78 : s 78 (2 + c) = (p 0 c : Int) := hP.1 c (by omega)
    have e78' : s 78 (2 + c + 1) = (p 0 (c + 1) : Int) := by rw [show 2 + c + 1 = 2 + (c + 1) by omega]; exact hP.1 (c + 1) (by omega)
    have np : p 0 c + npC p c = p 0 (c + 1) := by unfold npC; omega
    have L := lpG (f := fun l : Int × iS => brd_putParts_18b (brdP f) ((2 + c : Nat) : Int) (b : Int) (dep : Int) (l.1) (l.2)) (M := npC p c) (I := fun k l => l.1 = ((p 0 c + k : Nat) : Int) ∧ (∀ c' x, c' ≠ 111 → c' ≠ 113 → c' ≠ 114 → ¬ (c' = 108 ∧ (x = 14 ∨ x = 15)) → l.2 c' x = s c' x) ∧ (l.2 108 15 = ((cbk p c u k : Nat) : Int) ∧ l.2 108 14 = ((cgk p c g k : Nat) : Int)) ∧ (∀ j, p 5 (2 + c) ≤ j → j < p 4 (2 + c) → l.2 111 (b + j) = cOW p c u (OWp p c k j)) ∧ (∀ k', k' < k → PFc p f c b u g k' l.2) ∧ (∀ x, ¬ (b + p 5 (2 + c) ≤ x ∧ x < b + p 4 (2 + c)) → ¬ (u ≤ x ∧ x < cbk p c u k) → l.2 111 x = s 111 x) ∧ ∀ x, ¬ (g ≤ x ∧ x < cgk p c g k) → l.2 113 x = s 113 x ∧ l.2 114 x = s 114 x) (J := fun e => (∀ c' x, c' ≠ 111 → c' ≠ 113 → c' ≠ 114 → ¬ (c' = 108 ∧ (x = 14 ∨ x = 15)) → e c' x = s c' x) ∧ (e 108 15 = ((cbk p c u (npC p c) : Nat) : Int) ∧ e 108 14 = ((cgk p c g (npC p c) : Nat) : Int)) ∧ (∀ j, p 5 (2 + c) ≤ j → j < p 4 (2 + c) → e 111 (b + j) = cOW p c u (OWp p c (npC p c) j)) ∧ (∀ k', k' < npC p c → PFc p f c b u g k' e) ∧ (∀ x, ¬ (b + p 5 (2 + c) ≤ x ∧ x < b + p 4 (2 + c)) → ¬ (u ≤ x ∧ x < cbk p c u (npC p c)) → e 111 x = s 111 x) ∧ ∀ x, ¬ (g ≤ x ∧ x < cgk p c g (npC p c)) → e 113 x = s 113 x ∧ e 114 x = s 114 x) (by
      rintro k ⟨v, t⟩ hk ⟨e, e1, ⟨e2, e3⟩, e4, e5, e6, e7⟩
      have e' : v = ((p 0 c + k : Nat) : Int) := e
      subst e'
      have e1' : ∀ c' x, c' ≠ 111 → c' ≠ 113 → c' ≠ 114 → ¬ (c' = 108 ∧ (x = 14 ∨ x = 15)) → t c' x = s c' x := e1
      have e2' : t 108 15 = ((cbk p c u k : Nat) : Int) := e2
      have e3' : t 108 14 = ((cgk p c g k : Nat) : Int) := e3
      have e4' : ∀ j, p 5 (2 + c) ≤ j → j < p 4 (2 + c) → t 111 (b + j) = cOW p c u (OWp p c k j) := e4
      have e5' : ∀ k', k' < k → PFc p f c b u g k' t := e5
      have e6' : ∀ x, ¬ (b + p 5 (2 + c) ≤ x ∧ x < b + p 4 (2 + c)) → ¬ (u ≤ x ∧ x < cbk p c u k) → t 111 x = s 111 x := e6
      have e7' : ∀ x, ¬ (g ≤ x ∧ x < cgk p c g k) → t 113 x = s 113 x ∧ t 114 x = s 114 x := e7
      obtain ⟨w1, w2, w3, w4, w5, w6⟩ := WF_r h hc hk
      have ci := cbk_in h (u := u) hc hk
      have gi := cgk_in h (g := g) hc hk
      have fi := h.2.2.2.2 _ w2
      obtain ⟨m1, m2, m3, m4⟩ := hP.2.2 c (p 0 c + k) hc (by omega) w1
      have m0 := hP.2.1 _ w2
      have cs := cbk_s (p := p) (c := c) (u := u) (k := k)
      have gs := cgk_s (p := p) (c := c) (g := g) (k := k)
      obtain ⟨r, hr⟩ : ∃ r, r = p 0 c + k := ⟨_, rfl⟩
      obtain ⟨q, hq⟩ : ∃ q, q = cbk p c u k := ⟨_, rfl⟩
      obtain ⟨i, hi⟩ : ∃ i, i = p 1 r := ⟨_, rfl⟩
      obtain ⟨t1, ht1⟩ : ∃ t1, t1 = up t 108 15 ((q : Int) + p 4 i) := ⟨_, rfl⟩
      have n1 : ∀ c' x, ¬ (c' = 108 ∧ x = 15) → t1 c' x = t c' x := fun c' x z => by rw [ht1, up_ne z]
      have P1 : PLC p t1 := PLC_of hP (fun c' x z => by rw [n1 c' x (by omega), e1' c' x (by omega) (by omega) (by omega) (by omega)])
      have fr : ∀ x, q ≤ x → x < 40000 → t 111 x = -1 := fun x x1 x2 => by rw [e6' x (by omega) (by omega)]; exact hf2 x (by omega) x2
      obtain ⟨t2, a1, a2, a3, a4, a5⟩ := c_jls (F := brdP f) (s := t1) (b := b) (u := u) (v1 := ((2 + c : Nat) : Int)) (v3 := (dep : Int)) h hc hk P1 (o := OWp p c k) (fun j j1 j2 => by rw [n1 111 _ (by omega)]; exact e4' j j1 j2) hb (by omega) (fun j hj => by rw [n1 111 _ (by omega)]; exact fr _ (by omega) (by omega))
      rw [← hr] at a1 a3 a4 a5 cs gs w1 w2 w3 w4 w5 w6 ci gi fi m0 m1 m2 m3 m4
      rw [← hq] at a1 a4 a5 cs ci
      rw [← hi] at a1 a4 a5 cs gs w2 w3 ci gi fi m0 m1
      have ks : ∀ K, brd_putParts_18b (brdP f) ((2 + c : Nat) : Int) (b : Int) (dep : Int) ((p 0 c + k : Nat) : Int) t = K ↔ brd_putParts_134 (brdP f) ((2 + c : Nat) : Int) (b : Int) (dep : Int) (r : Int) (i : Int) (q : Int) t2 = K := by
        intro K
        have : brd_putParts_18b (brdP f) ((2 + c : Nat) : Int) (b : Int) (dep : Int) ((p 0 c + k : Nat) : Int) t = brd_putParts_134 (brdP f) ((2 + c : Nat) : Int) (b : Int) (dep : Int) (r : Int) (i : Int) (q : Int) t2 := by
          unfold brd_putParts_18b
          rw [← hr, gd_pos (by omega), gr (by omega), show (((2 + c : Nat) : Int) + 1).toNat = 2 + c + 1 by omega, e1' 78 _ (by omega) (by omega) (by omega) (by omega), e78', gr (by omega), if_neg (by omega), gd_pos (by omega), Int.toNat_natCast, e1' 94 _ (by omega) (by omega) (by omega) (by omega), m1, gd_pos (by omega), Int.toNat_natCast, e1' 93 _ (by omega) (by omega) (by omega) (by omega), m0, e2', ← hq, lt_eq, ← ht1, gd_pos (by omega), n1 84 _ (by omega), e1' 84 _ (by omega) (by omega) (by omega) (by omega), m2]
          unfold brd_putParts_83
          rw [a1, bn]
        rw [this]
      -- what stands behind the links
      have k2 : ∀ c' x, c' ≠ 111 → c' ≠ 113 → c' ≠ 114 → ¬ (c' = 108 ∧ (x = 14 ∨ x = 15)) → t2 c' x = s c' x := fun c' x z1 z2 z3 z4 => by rw [a2 c' x z1, n1 c' x (by omega)]; exact e1' c' x z1 z2 z3 z4
      have t2u : t2 108 15 = ((q + p 4 i : Nat) : Int) := by rw [a2 108 15 (by omega), ht1, up_same]; rfl
      have t2g : t2 108 14 = ((cgk p c g k : Nat) : Int) := by rw [a2 108 14 (by omega), n1 108 14 (by omega)]; exact e3'
      have t2r : ∀ x, t2 113 x = t 113 x ∧ t2 114 x = t 114 x := fun x => ⟨by rw [a2 113 x (by omega), n1 113 x (by omega)], by rw [a2 114 x (by omega), n1 114 x (by omega)]⟩
      have t2f : ∀ x, q + p 5 i ≤ x → x < 40000 → t2 111 x = -1 := fun x x1 x2 => by rw [a5 x (by omega) (by omega), n1 111 x (by omega)]; exact fr x (by omega) x2
      by_cases ig : i < 2
      · obtain ⟨z1, z2, z3⟩ := WFg h ig
        obtain ⟨t3, d1, d2, d3, d4, d5, d6⟩ := c_gate (s := t2) (q := q) ig t2g (by omega) (by omega)
        have dq : (if i = 0 then q + 2 else q + 1) = q + p 5 i := by rcases z3 with ⟨y1, y2, y3⟩ | ⟨y1, y2, y3⟩ <;> rw [y3, y1] <;> rfl
        rw [dq] at d5
        refine ⟨((r : Int) + 1, t3), (ks _).mpr ?_, by show (r : Int) + 1 = ((p 0 c + (k + 1) : Nat) : Int); omega, ?_, ⟨?_, ?_⟩, ?_, ?_, ?_, ?_⟩
        · unfold brd_putParts_134
          rw [gr (by omega), if_neg (by omega), d1, bq]
        · intro c' x y1 y2 y3 y4
          show t3 c' x = _
          rw [d4 c' x y1 y2 y3 (by omega)]
          exact k2 c' x y1 y2 y3 y4
        · show t3 108 15 = _
          rw [d4 108 15 (by omega) (by omega) (by omega) (by omega), t2u, cs, z1]
          rfl
        · show t3 108 14 = _
          rw [d3, gs, z2]
        · intro j j1 j2
          show t3 111 (b + j) = _
          rw [d5 _ (by omega), OWp_s, ← hr]
          exact a3 j j1 j2
        · intro k' hk'
          show PFc p f c b u g k' t3
          by_cases y : k' = k
          · rw [y]
            unfold PFc
            rw [← hr, ← hi, ← hq]
            exact ⟨fun j hj => by rw [d5 _ (by omega)]; exact a4 j hj, fun _ => d2, fun y => by omega⟩
          · have cm := cbk_m (p := p) (c := c) (u := u) (show k' + 1 ≤ k by omega)
            have gm := cgk_m (p := p) (c := c) (g := g) (show k' + 1 ≤ k by omega)
            have cm0 := cbk_m (p := p) (c := c) (u := u) (Nat.zero_le k')
            have e0 : cbk p c u 0 = u := rfl
            refine PFc_of h hc (by omega) (e5' k' (by omega)) (fun x x1 x2 => ?_) (fun x x1 x2 => ?_)
            · rw [d5 x (by omega), a5 x (by omega) (by omega), n1 111 x (by omega)]
            · obtain ⟨y1, y2⟩ := d6 x (by omega)
              obtain ⟨y3, y4⟩ := t2r x
              exact ⟨by rw [y1, y3], by rw [y2, y4]⟩
        · intro x x1 x2
          show t3 111 x = _
          rw [cs, z1] at x2
          rw [d5 x (by omega), a5 x (by omega) (by omega), n1 111 x (by omega)]
          exact e6' x x1 (by omega)
        · intro x x1
          rw [gs, z2] at x1
          obtain ⟨y1, y2⟩ := d6 x (by omega)
          obtain ⟨y3, y4⟩ := t2r x
          obtain ⟨y5, y6⟩ := e7' x (by omega)
          exact ⟨by show t3 113 x = _; rw [y1, y3, y5], by show t3 114 x = _; rw [y2, y4, y6]⟩
      · have e2 : 2 + (i - 2) = i := by omega
        obtain ⟨t3, d1, d2, d3, d4, d5, d6, d7⟩ := c_put h f (i - 2) (by omega) (by rw [e2]; omega) (dep + 1) q (q + p 4 i) (cgk p c g k) t2 (by rw [e2]; omega) (PLC_of P1 (fun c' x z => a2 c' x (by omega))) t2u t2g (by rw [e2]; omega) (by rw [e2]; omega) (by rw [e2]; omega) (fun j j1 j2 => by rw [e2] at j1 j2; exact t2f _ (by omega) (by omega)) (fun x x1 x2 => t2f x (by omega) x2)
        rw [e2] at d1 d2 d3 d6 d7
        refine ⟨((r : Int) + 1, t3), (ks _).mpr ?_, by show (r : Int) + 1 = ((p 0 c + (k + 1) : Nat) : Int); omega, ?_, ⟨?_, ?_⟩, ?_, ?_, ?_, ?_⟩
        · unfold brd_putParts_134
          rw [gr (by omega), if_pos (by omega), show (dep : Int) + 1 = ((dep + 1 : Nat) : Int) by omega, d1, bq]
        · intro c' x y1 y2 y3 y4
          show t3 c' x = _
          rw [d5 c' x y1 y2 y3 y4]
          exact k2 c' x y1 y2 y3 y4
        · show t3 108 15 = _
          rw [d2, cs]
          omega
        · show t3 108 14 = _
          rw [d3, gs]
        · intro j j1 j2
          show t3 111 (b + j) = _
          rw [d6 _ (by omega) (by omega), OWp_s, ← hr]
          exact a3 j j1 j2
        · intro k' hk'
          show PFc p f c b u g k' t3
          by_cases y : k' = k
          · rw [y]
            unfold PFc
            rw [← hr, ← hi, ← hq]
            exact ⟨fun j hj => by rw [d6 _ (by omega) (by omega)]; exact a4 j hj, fun y => by omega, fun _ => d4⟩
          · have cm := cbk_m (p := p) (c := c) (u := u) (show k' + 1 ≤ k by omega)
            have gm := cgk_m (p := p) (c := c) (g := g) (show k' + 1 ≤ k by omega)
            have cm0 := cbk_m (p := p) (c := c) (u := u) (Nat.zero_le k')
            have e0 : cbk p c u 0 = u := rfl
            refine PFc_of h hc (by omega) (e5' k' (by omega)) (fun x x1 x2 => ?_) (fun x x1 x2 => ?_)
            · rw [d6 x (by omega) (by omega), a5 x (by omega) (by omega), n1 111 x (by omega)]
            · obtain ⟨y1, y2⟩ := d7 x (by omega)
              obtain ⟨y3, y4⟩ := t2r x
              exact ⟨by rw [y1, y3], by rw [y2, y4]⟩
        · intro x x1 x2
          show t3 111 x = _
          rw [cs] at x2
          rw [d6 x (by omega) (by omega), a5 x (by omega) (by omega), n1 111 x (by omega)]
          exact e6' x x1 (by omega)
        · intro x x1
          rw [gs] at x1
          obtain ⟨y1, y2⟩ := d7 x (by omega)
          obtain ⟨y3, y4⟩ := t2r x
          obtain ⟨y5, y6⟩ := e7' x (by omega)
          exact ⟨by show t3 113 x = _; rw [y1, y3, y5], by show t3 114 x = _; rw [y2, y4, y6]⟩) (by
      rintro ⟨v, t⟩ ⟨e, e1, e2, e4, e5, e6, e7⟩
      have e' : v = ((p 0 c + npC p c : Nat) : Int) := e
      subst e'
      have e1' : ∀ c' x, c' ≠ 111 → c' ≠ 113 → c' ≠ 114 → ¬ (c' = 108 ∧ (x = 14 ∨ x = 15)) → t c' x = s c' x := e1
      refine ⟨t, ?_, e1, e2, e4, e5, e6, e7⟩
      show brd_putParts_18b (brdP f) ((2 + c : Nat) : Int) (b : Int) (dep : Int) ((p 0 c + npC p c : Nat) : Int) t = _
      unfold brd_putParts_18b
      rw [gd_pos (by omega), gr (by omega), show (((2 + c : Nat) : Int) + 1).toNat = 2 + c + 1 by omega, e1' 78 _ (by omega) (by omega) (by omega) (by omega), e78', gr (by omega), if_pos (by omega)]) (npC p c) 0 (((p 0 c : Nat) : Int), s) (by omega) ⟨rfl, fun _ _ _ _ _ _ => rfl, ⟨h15, h14⟩, hf1, fun k' hk' => absurd hk' (Nat.not_lt_zero k'), fun _ _ _ => rfl, fun _ _ => ⟨rfl, rfl⟩⟩
    obtain ⟨s', l1, l2, ⟨l3, l3'⟩, l4, l5, l6, l7⟩ := L
    rw [cbk_e h hc] at l3 l6
    rw [cgk_e h hc] at l3' l7
    refine ⟨s', ?_, l3, l3', ⟨l4, l5⟩, l2, l6, l7⟩
    show (if 0 = 0 then brd_putParts (brdP f) ((2 + c : Nat) : Int) (b : Int) (dep : Int) s else none) = _
    rw [if_pos rfl]
    unfold brd_putParts
    rw [gr (by omega), if_pos (by omega), gd_pos (by omega), Int.toNat_natCast, e78]
    unfold brd_putParts_18
    rw [l1, bn]
end CKv
