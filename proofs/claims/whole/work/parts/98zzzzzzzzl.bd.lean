/-! chips: rings, in the reference -/
section CLl
variable {p : Nat → Nat → Nat} {t : iS}
theorem r_rings (h : WF0 p) (h122 : t 121 122 = (p 10 0 : Int)) (h201 : ∀ c, c ≤ p 10 0 → t 201 c = (p 0 c : Int)) (h216 : ∀ c r, c < p 10 0 → p 0 c ≤ r → r < p 0 (c + 1) → t 216 r = (p 1 r : Int)) {tk : Nat → Nat} {P : Nat → Nat} {N : Nat} (h195 : ∀ c, c < p 10 0 → t 195 c = (tk c : Int) ∧ tk c < N) {Z : List Nat} (hZ : RBc P N Z t) (hN : ∀ (u : iS) (Y : List Nat) (j : Nat), (∀ c k, c ≠ 219 → ¬ (c = 121 ∧ (k = 69 ∨ k = 70)) → u c k = t c k) → RBc P N Y u → j < N → ∃ u', m_note 6 (j : Int) u = some (0, u') ∧ RBc P N (Y ++ [16 * j + 6]) u' ∧ ∀ c k, ¬ (c = 121 ∧ (k = 69 ∨ k = 70)) → u' c k = u c k) : ∃ t', m_checkRing t = some (0, t') ∧ RBc P N (Z ++ ngS (wSt (wPt p) (p 10 0)) tk (p 10 0)) t' ∧ ∀ c k, c ≠ 219 → ¬ (c = 121 ∧ (k = 69 ∨ k = 70)) → t' c k = t c k := by
  have c16 := h.1.2
  obtain ⟨n, hn⟩ : ∃ n, n = p 10 0 := ⟨_, rfl⟩
  rw [← hn] at h122 h201 h216 h195 c16 ⊢
  -- nothing is within anything
  have L0 := lpG (f := fun l : Int × iS => m_checkRing_2b (l.1) (l.2)) (M := 256) (I := fun k l => l.1 = (k : Int) ∧ (∀ x, x < k → l.2 219 x = 0) ∧ ∀ c x, c ≠ 219 → l.2 c x = t c x) (J := fun e => (∀ x, x < 256 → e 219 x = 0) ∧ ∀ c x, c ≠ 219 → e c x = t c x) (by
    rintro k ⟨v, u⟩ hk ⟨e, e1, e2⟩
    have e' : v = (k : Int) := e
    subst e'
    have e1' : ∀ x, x < k → u 219 x = 0 := e1
    have e2' : ∀ c x, c ≠ 219 → u c x = t c x := e2
    refine ⟨((k : Int) + 1, up u 219 k 0), ?_, by show (k : Int) + 1 = ((k + 1 : Nat) : Int); omega, fun x hx => ?_, fun c x hc => ?_⟩
    · show m_checkRing_2b (k : Int) u = _
      unfold m_checkRing_2b
      rw [gr (by omega), if_neg (by omega), gd_pos (by omega), Int.toNat_natCast, lt_eq]
    · show up u 219 k 0 219 x = 0
      by_cases q : x = k
      · rw [q, up_same]
      · rw [up_ne (by omega)]; exact e1' x (by omega)
    · show up u 219 k 0 c x = _
      rw [up_ne (by omega)]; exact e2' c x hc) (by
    rintro ⟨v, u⟩ ⟨e, e1, e2⟩
    have e' : v = ((256 : Nat) : Int) := e
    subst e'
    refine ⟨u, ?_, e1, e2⟩
    show m_checkRing_2b ((256 : Nat) : Int) u = _
    unfold m_checkRing_2b
    rw [gr (by omega), if_pos (by omega)]) 256 0 ((0 : Int), t) (by omega) ⟨rfl, fun x hx => absurd hx (Nat.not_lt_zero x), fun _ _ _ => rfl⟩
  obtain ⟨t1, a1, a2, a3⟩ := L0
  -- parts
  have L1 := lpG (f := fun l : Int × iS => m_checkRing_24b (l.1) (l.2)) (M := n) (I := fun c l => l.1 = (c : Int) ∧ (∀ a b, a < n → b < n → l.2 219 (16 * a + b) = if a < c ∧ wPt p a b = true then 1 else 0) ∧ ∀ c' x, c' ≠ 219 → l.2 c' x = t c' x) (J := fun e => (∀ a b, a < n → b < n → e 219 (16 * a + b) = if wPt p a b = true then 1 else 0) ∧ ∀ c' x, c' ≠ 219 → e c' x = t c' x) (by
    rintro c ⟨v, u⟩ hc ⟨e, e1, e2⟩
    have e' : v = (c : Int) := e
    subst e'
    have e1' : ∀ a b, a < n → b < n → u 219 (16 * a + b) = if a < c ∧ wPt p a b = true then 1 else 0 := e1
    have e2' : ∀ c' x, c' ≠ 219 → u c' x = t c' x := e2
    have wc := h.2.1 c (by omega)
    have np : p 0 c + npC p c = p 0 (c + 1) := by unfold npC; omega
    have L2 := lpG (f := fun l : Int × iS => m_checkRing_39b (c : Int) (l.1) (l.2)) (M := npC p c) (I := fun k l => l.1 = ((p 0 c + k : Nat) : Int) ∧ (∀ a b, a < n → b < n → l.2 219 (16 * a + b) = if (a < c ∧ wPt p a b = true) ∨ (a = c ∧ wPn p k c b = true) then 1 else 0) ∧ ∀ c' x, c' ≠ 219 → l.2 c' x = t c' x) (J := fun e => (∀ a b, a < n → b < n → e 219 (16 * a + b) = if (a < c ∧ wPt p a b = true) ∨ (a = c ∧ wPt p c b = true) then 1 else 0) ∧ ∀ c' x, c' ≠ 219 → e c' x = t c' x) (by
      rintro k ⟨v, q⟩ hk ⟨d, d1, d2⟩
      have d' : v = ((p 0 c + k : Nat) : Int) := d
      subst d'
      have d1' : ∀ a b, a < n → b < n → q 219 (16 * a + b) = if (a < c ∧ wPt p a b = true) ∨ (a = c ∧ wPn p k c b = true) then 1 else 0 := d1
      have d2' : ∀ c' x, c' ≠ 219 → q c' x = t c' x := d2
      have wr := WF0_r h (c := c) (k := k) (by omega) hk
      have e216 : q 216 (p 0 c + k) = (p 1 (p 0 c + k) : Int) := by rw [d2' 216 _ (by omega)]; exact h216 c _ hc (by omega) wr.1
      have e201 : q 201 (c + 1) = (p 0 (c + 1) : Int) := by rw [d2' 201 _ (by omega)]; exact h201 (c + 1) (by omega)
      obtain ⟨i, hi⟩ : ∃ i, i = p 1 (p 0 c + k) := ⟨_, rfl⟩
      have st : m_checkRing_39b (c : Int) ((p 0 c + k : Nat) : Int) q = if i < 2 then some (.inl (((p 0 c + k : Nat) : Int) + 1, q)) else some (.inl (((p 0 c + k : Nat) : Int) + 1, up q 219 (16 * c + (i - 2)) 1)) := by
        have := wr.2
        unfold m_checkRing_39b
        rw [gd_pos (by omega), gr (by omega), show ((c : Int) + 1).toNat = c + 1 by omega, e201, gr (by omega), if_neg (by omega), gd_pos (by omega), Int.toNat_natCast, e216, ← hi, gr (by omega)]
        by_cases z : i < 2
        · rw [if_pos (by omega), if_pos z]
        · rw [if_neg (by omega), if_neg z, gd_pos (by omega), lt_eq, show (16 * (c : Int) + (i : Int) - 2).toNat = 16 * c + (i - 2) by omega]
      by_cases z : i < 2
      · rw [if_pos z] at st
        refine ⟨_, st, by show ((p 0 c + k : Nat) : Int) + 1 = ((p 0 c + (k + 1) : Nat) : Int); omega, fun a b ha hb => ?_, d2⟩
        show q 219 _ = _
        have ne : (p 1 (p 0 c + k) == 2 + b) = false := by rw [← hi]; simp; omega
        rw [d1' a b ha hb, wPn_s, ne, Bool.or_false]
      · rw [if_neg z] at st
        refine ⟨_, st, by show ((p 0 c + k : Nat) : Int) + 1 = ((p 0 c + (k + 1) : Nat) : Int); omega, fun a b ha hb => ?_, fun c' x hc' => ?_⟩
        · show up q 219 (16 * c + (i - 2)) 1 219 (16 * a + b) = _
          rw [wPn_s, ← hi]
          by_cases y : a = c ∧ b = i - 2
          · rw [y.1, y.2, up_same, if_pos (Or.inr ⟨rfl, by rw [show (i == 2 + (i - 2)) = true by simp; omega]; simp⟩)]
          · rw [up_ne (by omega), d1' a b ha hb]
            by_cases y1 : a = c
            · have ne : (i == 2 + b) = false := by simp; omega
              rw [ne, Bool.or_false]
            · have f1 : ((a < c ∧ wPt p a b = true) ∨ (a = c ∧ wPn p k c b = true)) ↔ (a < c ∧ wPt p a b = true) := ⟨fun q => q.elim id (fun r => absurd r.1 y1), Or.inl⟩
              have f2 : ((a < c ∧ wPt p a b = true) ∨ (a = c ∧ (wPn p k c b || (i == 2 + b)) = true)) ↔ (a < c ∧ wPt p a b = true) := ⟨fun q => q.elim id (fun r => absurd r.1 y1), Or.inl⟩
              by_cases y2 : a < c ∧ wPt p a b = true
              · rw [if_pos (f1.mpr y2), if_pos (f2.mpr y2)]
              · rw [if_neg (fun q => y2 (f1.mp q)), if_neg (fun q => y2 (f2.mp q))]
        · show up q 219 _ _ c' x = _
          rw [up_ne (by omega)]
          exact d2' c' x hc') (by
      rintro ⟨v, q⟩ ⟨d, d1, d2⟩
      have d' : v = ((p 0 c + npC p c : Nat) : Int) := d
      subst d'
      have d2' : ∀ c' x, c' ≠ 219 → q c' x = t c' x := d2
      have e201 : q 201 (c + 1) = (p 0 (c + 1) : Int) := by rw [d2' 201 _ (by omega)]; exact h201 (c + 1) (by omega)
      refine ⟨q, ?_, d1, d2⟩
      show m_checkRing_39b (c : Int) ((p 0 c + npC p c : Nat) : Int) q = _
      unfold m_checkRing_39b
      rw [gd_pos (by omega), gr (by omega), show ((c : Int) + 1).toNat = c + 1 by omega, e201, gr (by omega), if_pos (by omega)]) (npC p c) 0 (((p 0 c : Nat) : Int), u) (by omega) ⟨rfl, fun a b ha hb => by
      show u 219 _ = _
      rw [e1' a b ha hb]
      have f2 : ((a < c ∧ wPt p a b = true) ∨ (a = c ∧ wPn p 0 c b = true)) ↔ (a < c ∧ wPt p a b = true) := ⟨fun q => q.elim id (fun r => absurd r.2 (by show ¬ false = true; decide)), Or.inl⟩
      by_cases y2 : a < c ∧ wPt p a b = true
      · rw [if_pos y2, if_pos (f2.mpr y2)]
      · rw [if_neg y2, if_neg (fun q => y2 (f2.mp q))], e2'⟩
    obtain ⟨q, f1, f2, f3⟩ := L2
    refine ⟨((c : Int) + 1, q), ?_, by show (c : Int) + 1 = ((c + 1 : Nat) : Int); omega, fun a b ha hb => ?_, f3⟩
    · show m_checkRing_24b (c : Int) u = _
      unfold m_checkRing_24b
      rw [gr (by omega), e2' 121 122 (by omega), h122, gr (by omega), if_neg (by omega), gd_pos (by omega), Int.toNat_natCast, e2' 201 _ (by omega), h201 c (by omega)]
      unfold m_checkRing_39
      rw [f1, bn]
    · show q 219 _ = _
      rw [f2 a b ha hb]
      by_cases y : a = c
      · rw [y]
        by_cases y2 : wPt p c b = true
        · rw [if_pos (Or.inr ⟨rfl, y2⟩), if_pos ⟨by omega, y2⟩]
        · rw [if_neg (fun z => z.elim (fun r => y2 r.2) (fun r => y2 r.2)), if_neg (fun z => y2 z.2)]
      · by_cases y2 : a < c ∧ wPt p a b = true
        · rw [if_pos (Or.inl y2), if_pos ⟨by omega, y2.2⟩]
        · rw [if_neg (fun z => z.elim y2 (fun r => y r.1)), if_neg (fun z => y2 ⟨by omega, z.2⟩)]) (by
    rintro ⟨v, u⟩ ⟨e, e1, e2⟩
    have e' : v = (n : Int) := e
    subst e'
    have e2' : ∀ c' x, c' ≠ 219 → u c' x = t c' x := e2
    refine ⟨u, ?_, fun a b ha hb => ?_, e2⟩
    · show m_checkRing_24b (n : Int) u = _
      unfold m_checkRing_24b
      rw [gr (by omega), e2' 121 122 (by omega), h122, gr (by omega), if_pos (by omega)]
    · have := e1 a b ha hb
      show u 219 _ = _
      rw [show u 219 (16 * a + b) = _ from this]
      by_cases y : wPt p a b = true
      · rw [if_pos ⟨ha, y⟩, if_pos y]
      · rw [if_neg (fun z => y z.2), if_neg y]) n 0 ((0 : Int), t1) (by omega) ⟨rfl, fun a b ha hb => by
    show t1 219 _ = _
    rw [a2 _ (by omega), if_neg (fun z => absurd z.1 (Nat.not_lt_zero a))], a3⟩
  obtain ⟨t2, b1, b2, b3⟩ := L1
  obtain ⟨V, hV⟩ : ∃ V : Nat → Nat → Nat → Int, V = fun k a b => if wSt (wPt p) k a b = true then 1 else 0 := ⟨_, rfl⟩
  have V01 : ∀ k a b, V k a b = 0 ∨ V k a b = 1 := fun k a b => by rw [hV]; show (if _ then (1 : Int) else 0) = 0 ∨ (if _ then (1 : Int) else 0) = 1; split <;> simp
  have Vs : ∀ k a b, V (k + 1) a b = if V k a b = 0 then (if V k a k = 0 then 0 else if V k k b = 0 then 0 else 1) else 1 := fun k a b => by
    rw [hV]
    show (if wSt (wPt p) (k + 1) a b = true then (1 : Int) else 0) = if (if wSt (wPt p) k a b = true then (1 : Int) else 0) = 0 then (if (if wSt (wPt p) k a k = true then (1 : Int) else 0) = 0 then 0 else if (if wSt (wPt p) k k b = true then (1 : Int) else 0) = 0 then 0 else 1) else 1
    rw [wSt_s]
    cases wSt (wPt p) k a b <;> cases wSt (wPt p) k a k <;> cases wSt (wPt p) k k b <;> decide
  have Vr : ∀ k b, V (k + 1) k b = V k k b := fun k b => by rw [hV]; show (if wSt (wPt p) (k + 1) k b = true then (1 : Int) else 0) = if wSt (wPt p) k k b = true then 1 else 0; rw [wSt_row]
  have Vc : ∀ k a, V (k + 1) a k = V k a k := fun k a => by rw [hV]; show (if wSt (wPt p) (k + 1) a k = true then (1 : Int) else 0) = if wSt (wPt p) k a k = true then 1 else 0; rw [wSt_col]
  -- chips within chips
  have L2 := lpG (f := fun l : Int × iS => m_checkRing_94b (l.1) (l.2)) (M := n) (I := fun k l => l.1 = (k : Int) ∧ (∀ a b, a < n → b < n → l.2 219 (16 * a + b) = V k a b) ∧ ∀ c' x, c' ≠ 219 → l.2 c' x = t c' x) (J := fun e => (∀ a b, a < n → b < n → e 219 (16 * a + b) = V n a b) ∧ ∀ c' x, c' ≠ 219 → e c' x = t c' x) (by
    rintro k ⟨v, u⟩ hk ⟨e, e1, e2⟩
    have e' : v = (k : Int) := e
    subst e'
    have e1' : ∀ a b, a < n → b < n → u 219 (16 * a + b) = V k a b := e1
    have e2' : ∀ c' x, c' ≠ 219 → u c' x = t c' x := e2
    have L3 := lpG (f := fun l : Int × iS => m_checkRing_104b (k : Int) (l.1) (l.2)) (M := n) (I := fun x l => l.1 = (x : Int) ∧ (∀ a b, a < n → b < n → l.2 219 (16 * a + b) = if a < x then V (k + 1) a b else V k a b) ∧ ∀ c' x, c' ≠ 219 → l.2 c' x = t c' x) (J := fun e => (∀ a b, a < n → b < n → e 219 (16 * a + b) = V (k + 1) a b) ∧ ∀ c' x, c' ≠ 219 → e c' x = t c' x) (by
      rintro x ⟨v, q⟩ hx ⟨d, d1, d2⟩
      have d' : v = (x : Int) := d
      subst d'
      have d1' : ∀ a b, a < n → b < n → q 219 (16 * a + b) = if a < x then V (k + 1) a b else V k a b := d1
      have d2' : ∀ c' x, c' ≠ 219 → q c' x = t c' x := d2
      have L4 := lpG (f := fun l : Int × iS => m_checkRing_114b (k : Int) (x : Int) (l.1) (l.2)) (M := n) (I := fun y l => l.1 = (y : Int) ∧ (∀ a b, a < n → b < n → l.2 219 (16 * a + b) = if a < x ∨ a = x ∧ b < y then V (k + 1) a b else V k a b) ∧ ∀ c' x, c' ≠ 219 → l.2 c' x = t c' x) (J := fun e => (∀ a b, a < n → b < n → e 219 (16 * a + b) = if a < x ∨ a = x ∧ b < n then V (k + 1) a b else V k a b) ∧ ∀ c' x, c' ≠ 219 → e c' x = t c' x) (by
        rintro y ⟨v, r⟩ hy ⟨g, g1, g2⟩
        have g' : v = (y : Int) := g
        subst g'
        have g1' : ∀ a b, a < n → b < n → r 219 (16 * a + b) = if a < x ∨ a = x ∧ b < y then V (k + 1) a b else V k a b := g1
        have g2' : ∀ c' x, c' ≠ 219 → r c' x = t c' x := g2
        have v1 : r 219 (16 * x + y) = V k x y := by rw [g1' x y hx hy, if_neg (by omega)]
        have v2 : r 219 (16 * x + k) = V k x k := by
          rw [g1' x k hx hk]
          by_cases z : k < y
          · rw [if_pos (Or.inr ⟨rfl, z⟩), Vc]
          · rw [if_neg (by omega)]
        have v3 : r 219 (16 * k + y) = V k k y := by
          rw [g1' k y hk hy]
          by_cases z : k < x ∨ k = x ∧ y < y
          · rw [if_pos z, Vr]
          · rw [if_neg z]
        have w1 := V01 k x y
        have w2 := V01 k x k
        have w3 := V01 k k y
        have f179 : ∀ w : Int, (w = 0 ∨ w = 1) → m_checkRing_179 (k : Int) (x : Int) (y : Int) w (16 * (x : Int) + (y : Int)) r = some (.inl ((y : Int) + 1, up r 219 (16 * x + y) w)) := fun w hw => by
          unfold m_checkRing_179
          rw [gd_pos (by omega), gd_pos hw, lt_eq, show (16 * (x : Int) + (y : Int)).toNat = 16 * x + y by omega]
        have st : m_checkRing_114b (k : Int) (x : Int) (y : Int) r = some (.inl ((y : Int) + 1, up r 219 (16 * x + y) (V (k + 1) x y))) := by
          unfold m_checkRing_114b m_checkRing_178 m_checkRing_174
          rw [gr (by omega), g2' 121 122 (by omega), h122, gr (by omega), if_neg (by omega), gd_pos (by omega), show (16 * (x : Int) + (y : Int)).toNat = 16 * x + y by omega, v1, gr (by omega), f179 0 (Or.inl rfl), f179 1 (Or.inr rfl), Vs]
          by_cases z1 : V k x y = 0
          · rw [if_pos z1, if_pos z1, gd_pos (by omega), show (16 * (x : Int) + (k : Int)).toNat = 16 * x + k by omega, v2, gr (by omega)]
            by_cases z2 : V k x k = 0
            · rw [if_pos z2, if_pos z2]
            · rw [if_neg z2, if_neg z2, gd_pos (by omega), show (16 * (k : Int) + (y : Int)).toNat = 16 * k + y by omega, v3, gr (by omega)]
              by_cases z3 : V k k y = 0
              · rw [if_pos z3, if_pos z3]
              · rw [if_neg z3, if_neg z3]
          · rw [if_neg z1, if_neg z1]
        refine ⟨_, st, by show (y : Int) + 1 = ((y + 1 : Nat) : Int); omega, fun a b ha hb => ?_, fun c' z hc' => ?_⟩
        · show up r 219 (16 * x + y) _ 219 (16 * a + b) = _
          by_cases z : a = x ∧ b = y
          · rw [z.1, z.2, up_same, if_pos (Or.inr ⟨rfl, by omega⟩)]
          · rw [up_ne (by omega), g1' a b ha hb]
            by_cases z2 : a < x ∨ a = x ∧ b < y
            · rw [if_pos z2, if_pos (by omega)]
            · rw [if_neg z2, if_neg (by omega)]
        · show up r 219 _ _ c' z = _
          rw [up_ne (by omega)]
          exact g2' c' z hc') (by
        rintro ⟨v, r⟩ ⟨g, g1, g2⟩
        have g' : v = (n : Int) := g
        subst g'
        have g2' : ∀ c' x, c' ≠ 219 → r c' x = t c' x := g2
        refine ⟨r, ?_, g1, g2⟩
        show m_checkRing_114b (k : Int) (x : Int) (n : Int) r = _
        unfold m_checkRing_114b
        rw [gr (by omega), g2' 121 122 (by omega), h122, gr (by omega), if_pos (by omega)]) n 0 ((0 : Int), q) (by omega) ⟨rfl, fun a b ha hb => by
        show q 219 _ = _
        rw [d1' a b ha hb]
        by_cases z : a < x
        · rw [if_pos z, if_pos (Or.inl z)]
        · rw [if_neg z, if_neg (by omega)], d2'⟩
      obtain ⟨r, f1, f2, f3⟩ := L4
      refine ⟨((x : Int) + 1, r), ?_, by show (x : Int) + 1 = ((x + 1 : Nat) : Int); omega, fun a b ha hb => ?_, f3⟩
      · show m_checkRing_104b (k : Int) (x : Int) q = _
        unfold m_checkRing_104b
        rw [gr (by omega), d2' 121 122 (by omega), h122, gr (by omega), if_neg (by omega)]
        unfold m_checkRing_114
        rw [show lp (L := Int × iS) (E := iS) (fun l => m_checkRing_114b (k : Int) (x : Int) (l.1) (l.2)) (0, q) = some r from f1, bn]
      · show r 219 _ = _
        rw [f2 a b ha hb]
        by_cases z : a < x + 1
        · rw [if_pos z, if_pos (by omega)]
        · rw [if_neg z, if_neg (by omega)]) (by
      rintro ⟨v, q⟩ ⟨d, d1, d2⟩
      have d' : v = (n : Int) := d
      subst d'
      have d2' : ∀ c' x, c' ≠ 219 → q c' x = t c' x := d2
      refine ⟨q, ?_, fun a b ha hb => by have := d1 a b ha hb; rw [if_pos ha] at this; exact this, d2⟩
      show m_checkRing_104b (k : Int) (n : Int) q = _
      unfold m_checkRing_104b
      rw [gr (by omega), d2' 121 122 (by omega), h122, gr (by omega), if_pos (by omega)]) n 0 ((0 : Int), u) (by omega) ⟨rfl, fun a b ha hb => by
      show u 219 _ = _
      rw [e1' a b ha hb, if_neg (Nat.not_lt_zero a)], e2'⟩
    obtain ⟨q, f1, f2, f3⟩ := L3
    refine ⟨((k : Int) + 1, q), ?_, by show (k : Int) + 1 = ((k + 1 : Nat) : Int); omega, f2, f3⟩
    show m_checkRing_94b (k : Int) u = _
    unfold m_checkRing_94b
    rw [gr (by omega), e2' 121 122 (by omega), h122, gr (by omega), if_neg (by omega)]
    unfold m_checkRing_104
    rw [show lp (L := Int × iS) (E := iS) (fun l => m_checkRing_104b (k : Int) (l.1) (l.2)) (0, u) = some q from f1, bn]) (by
    rintro ⟨v, u⟩ ⟨e, e1, e2⟩
    have e' : v = (n : Int) := e
    subst e'
    have e2' : ∀ c' x, c' ≠ 219 → u c' x = t c' x := e2
    refine ⟨u, ?_, e1, e2⟩
    show m_checkRing_94b (n : Int) u = _
    unfold m_checkRing_94b
    rw [gr (by omega), e2' 121 122 (by omega), h122, gr (by omega), if_pos (by omega)]) n 0 ((0 : Int), t2) (by omega) ⟨rfl, fun a b ha hb => by rw [hV]; exact b2 a b ha hb, b3⟩
  obtain ⟨t3, c1, c2, c3⟩ := L2
  -- notes
  have L3 := lpG (f := fun l : Int × iS => m_checkRing_200b (l.1) (l.2)) (M := n) (I := fun x l => l.1 = (x : Int) ∧ RBc P N (Z ++ ngS (wSt (wPt p) n) tk x) l.2 ∧ ∀ c k, ¬ (c = 121 ∧ (k = 69 ∨ k = 70)) → l.2 c k = t3 c k) (J := fun e => RBc P N (Z ++ ngS (wSt (wPt p) n) tk n) e ∧ ∀ c k, ¬ (c = 121 ∧ (k = 69 ∨ k = 70)) → e c k = t3 c k) (by
    rintro x ⟨v, u⟩ hx ⟨e, e1, e2⟩
    have e' : v = (x : Int) := e
    subst e'
    have e1' : RBc P N (Z ++ ngS (wSt (wPt p) n) tk x) u := e1
    have e2' : ∀ c k, ¬ (c = 121 ∧ (k = 69 ∨ k = 70)) → u c k = t3 c k := e2
    have vv : u 219 (17 * x) = V n x x := by rw [e2' 219 _ (by omega), show 17 * x = 16 * x + x by omega]; exact c2 x x hx hx
    have w := V01 n x x
    obtain ⟨k1, k2⟩ := h195 x hx
    have st : m_checkRing_200b (x : Int) u = if V n x x = 0 then some (.inl ((x : Int) + 1, u)) else bd (m_note 6 (tk x : Int) u) (fun _ s8 => some (.inl ((x : Int) + 1, s8))) := by
      unfold m_checkRing_200b
      rw [gr (by omega), e2' 121 122 (by omega), c3 121 122 (by omega), h122, gr (by omega), if_neg (by omega), gd_pos (by omega), show (17 * (x : Int)).toNat = 17 * x by omega, vv, gr (by omega), gd_pos (by omega), Int.toNat_natCast, e2' 195 x (by omega), c3 195 x (by omega), k1]
    have ns : ngS (wSt (wPt p) n) tk (x + 1) = ngS (wSt (wPt p) n) tk x ++ (if wSt (wPt p) n x x = true then [16 * tk x + 6] else []) := rfl
    by_cases z : wSt (wPt p) n x x = true
    · have v1 : V n x x = 1 := by rw [hV]; exact if_pos z
      rw [if_neg (by omega)] at st
      obtain ⟨u', d1, d2, d3⟩ := hN u _ (tk x) (fun c k q1 q2 => by rw [e2' c k q2]; exact c3 c k q1) e1' k2
      rw [d1, bq] at st
      refine ⟨_, st, by show (x : Int) + 1 = ((x + 1 : Nat) : Int); omega, ?_, fun c k q => by show u' c k = _; rw [d3 c k q]; exact e2' c k q⟩
      rw [ns, if_pos z, ← List.append_assoc]
      exact d2
    · have v1 : V n x x = 0 := by rw [hV]; exact if_neg z
      rw [if_pos v1] at st
      refine ⟨_, st, by show (x : Int) + 1 = ((x + 1 : Nat) : Int); omega, ?_, e2⟩
      rw [ns, if_neg z, List.append_nil]
      exact e1') (by
    rintro ⟨v, u⟩ ⟨e, e1, e2⟩
    have e' : v = (n : Int) := e
    subst e'
    have e2' : ∀ c k, ¬ (c = 121 ∧ (k = 69 ∨ k = 70)) → u c k = t3 c k := e2
    refine ⟨u, ?_, e1, e2⟩
    show m_checkRing_200b (n : Int) u = _
    unfold m_checkRing_200b
    rw [gr (by omega), e2' 121 122 (by omega), c3 121 122 (by omega), h122, gr (by omega), if_pos (by omega)]) n 0 ((0 : Int), t3) (by omega) ⟨rfl, by
    show RBc P N (Z ++ []) t3
    rw [List.append_nil]
    have k1 := c3 121 69 (by omega)
    have k2 := c3 121 70 (by omega)
    unfold RBc at hZ ⊢
    rw [k1, k2]
    exact hZ, fun _ _ _ => rfl⟩
  obtain ⟨t4, d1, d2, d3⟩ := L3
  refine ⟨t4, ?_, d2, fun c k q1 q2 => by rw [d3 c k q2]; exact c3 c k q1⟩
  unfold m_checkRing m_checkRing_2
  rw [show lp (L := Int × iS) (E := iS) (fun l => m_checkRing_2b (l.1) (l.2)) (0, t) = some t1 from a1, bn]
  unfold m_checkRing_22 m_checkRing_24
  rw [show lp (L := Int × iS) (E := iS) (fun l => m_checkRing_24b (l.1) (l.2)) (0, t1) = some t2 from b1, bn]
  unfold m_checkRing_92 m_checkRing_94
  rw [show lp (L := Int × iS) (E := iS) (fun l => m_checkRing_94b (l.1) (l.2)) (0, t2) = some t3 from c1, bn]
  unfold m_checkRing_198 m_checkRing_200
  rw [show lp (L := Int × iS) (E := iS) (fun l => m_checkRing_200b (l.1) (l.2)) (0, t3) = some t4 from d1, bn]
end CLl
