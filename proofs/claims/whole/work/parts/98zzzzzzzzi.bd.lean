/-! chips: the reference counts gates and bits -/
section CLh
variable {p : Nat → Nat → Nat} {t t0 : iS}
def HBo (p : Nat → Nat → Nat) (t0 : iS) : Prop := ∀ u : iS, (∀ c k, c < 220 → u c k = t0 c k) → ∀ c, c < p 10 0 → ∀ v1 : Int, m_countAll_12b v1 (c : Int) u = m_countAll_127 v1 (c : Int) 0 (p 4 (2 + c) : Int) (p 0 c : Int) u
def CNr (p : Nat → Nat → Nat) (r x : Nat) (t : iS) : Prop := ∀ c, c < p 10 0 → (0 ≤ t 220 c ∧ t 220 c ≤ 1000000) ∧ (0 ≤ t 221 c ∧ t 221 c ≤ 1000000) ∧ (p 13 (2 + c) ≤ r ∨ (c < x ∧ p 13 (2 + c) ≤ r + 1) → t 220 c = (capN (p 12 (2 + c)) : Int) ∧ t 221 c = (capN (p 4 (2 + c) + p 11 (2 + c)) : Int))
theorem cap_if {v : Nat} : capN v = if v ≤ 1000000 then v else 1000000 := by
  unfold capN
  split <;> omega
theorem r_cnt1 (h : WFp p) (hR : PLR p t0) (hB : HBo p t0) (h13 : p 13 0 = 0 ∧ p 13 1 = 0) (h4 : ∀ i, i < 2 + p 10 0 → p 4 i ≤ 100000) {r x : Nat} (hx : x < p 10 0) {v1 : Int} (hS : ∀ c k, c < 220 → t c k = t0 c k) (hC : CNr p r x t) : ∃ t', m_countAll_12b v1 (x : Int) t = some (.inl ((x : Int) + 1, t')) ∧ CNr p r (x + 1) t' ∧ ∀ c k, ¬ ((c = 220 ∨ c = 221) ∧ k = x) → t' c k = t c k := by
  have c16 := h.1.2
  obtain ⟨A, hA⟩ : ∃ A : Nat → Nat, A = fun i => if i < 2 then 1 else (t 220 (i - 2)).toNat := ⟨_, rfl⟩
  obtain ⟨B, hB'⟩ : ∃ B : Nat → Nat, B = fun i => if i < 2 then p 4 i else (t 221 (i - 2)).toNat := ⟨_, rfl⟩
  have wc := h.2.1 x hx
  obtain ⟨a, ha⟩ : ∃ a, a = p 0 x := ⟨_, rfl⟩
  obtain ⟨n, hn⟩ : ∃ n, n = npC p x := ⟨_, rfl⟩
  have np : a + n = p 0 (x + 1) := by rw [ha, hn]; unfold npC; omega
  have e201 : t 201 (x + 1) = ((a + n : Nat) : Int) := by rw [hS 201 _ (by omega), hR.1 (x + 1) (by omega), np]
  have hr2 : ∀ k, k < n → t 216 (a + k) = (p 1 (a + k) : Int) ∧ p 1 (a + k) < 2 + p 10 0 ∧ p 13 (p 1 (a + k)) < p 13 (2 + x) := fun k hk => by
    obtain ⟨w1, w2, w3, -⟩ := WF_r h hx (show k < npC p x by omega)
    rw [← ha] at w1 w2 w3
    exact ⟨by rw [hS 216 _ (by omega)]; exact (hR.2 x _ hx (by omega) w1).1, w2, w3⟩
  have hg4 : p 4 0 = 3 ∧ p 4 1 = 2 := ⟨h.2.2.2.1.1, h.2.2.2.1.2.2.1⟩
  have ab : ∀ i, i < 2 + p 10 0 → A i ≤ 1000000 ∧ B i ≤ 1000000 := fun i hi => by
    rw [hA, hB']
    show (if i < 2 then 1 else (t 220 (i - 2)).toNat) ≤ 1000000 ∧ (if i < 2 then p 4 i else (t 221 (i - 2)).toNat) ≤ 1000000
    have p4 := h4 i hi
    by_cases c : i < 2
    · rw [if_pos c, if_pos c]; omega
    · rw [if_neg c, if_neg c]
      have := hC (i - 2) (by omega)
      omega
  have sb : ∀ k, k ≤ n → sW (fun r => A (p 1 r)) a k ≤ 1000000 * k ∧ sW (fun r => B (p 1 r)) a k ≤ 1000000 * k := by
    intro k
    induction k with
    | zero => intro _; exact ⟨Nat.le_refl _, Nat.le_refl _⟩
    | succ k ih =>
      intro hk
      have := ih (by omega)
      have := ab _ (hr2 k (by omega)).2.1
      rw [sW_s, sW_s]
      omega
  have p4 := h4 (2 + x) (by omega)
  have L := lpG (f := fun l : Int × Int × Int × iS => m_countAll_127b v1 (x : Int) (l.1) (l.2.1) (l.2.2.1) (l.2.2.2)) (M := n) (I := fun k l => l = (((sW (fun r => A (p 1 r)) a k : Nat) : Int), ((p 4 (2 + x) + sW (fun r => B (p 1 r)) a k : Nat) : Int), ((a + k : Nat) : Int), t)) (J := fun e => e = (((sW (fun r => A (p 1 r)) a n : Nat) : Int), ((p 4 (2 + x) + sW (fun r => B (p 1 r)) a n : Nat) : Int), t)) (by
    rintro k l hk rfl
    obtain ⟨q1, q2, q3⟩ := hr2 k hk
    refine ⟨_, ?_, rfl⟩
    show m_countAll_127b v1 (x : Int) ((sW (fun r => A (p 1 r)) a k : Nat) : Int) ((p 4 (2 + x) + sW (fun r => B (p 1 r)) a k : Nat) : Int) ((a + k : Nat) : Int) t = _
    have goal : ∀ g b : Int, g = (A (p 1 (a + k)) : Int) → b = (B (p 1 (a + k)) : Int) → (some (.inl (((sW (fun r => A (p 1 r)) a k : Nat) : Int) + g, ((p 4 (2 + x) + sW (fun r => B (p 1 r)) a k : Nat) : Int) + b, ((a + k : Nat) : Int) + 1, t)) : Option ((Int × Int × Int × iS) ⊕ (Int × Int × iS))) = some (.inl (((sW (fun r => A (p 1 r)) a (k + 1) : Nat) : Int), ((p 4 (2 + x) + sW (fun r => B (p 1 r)) a (k + 1) : Nat) : Int), ((a + (k + 1) : Nat) : Int), t)) := by
      intro g b hg hb
      rw [sW_s, sW_s, hg, hb, show ((sW (fun r => A (p 1 r)) a k + A (p 1 (a + k)) : Nat) : Int) = ((sW (fun r => A (p 1 r)) a k : Nat) : Int) + (A (p 1 (a + k)) : Int) by omega, show ((p 4 (2 + x) + (sW (fun r => B (p 1 r)) a k + B (p 1 (a + k))) : Nat) : Int) = ((p 4 (2 + x) + sW (fun r => B (p 1 r)) a k : Nat) : Int) + (B (p 1 (a + k)) : Int) by omega, show ((a + (k + 1) : Nat) : Int) = ((a + k : Nat) : Int) + 1 by omega]
    have Ai : A (p 1 (a + k)) = if p 1 (a + k) < 2 then 1 else (t 220 (p 1 (a + k) - 2)).toNat := by rw [hA]
    have Bi : B (p 1 (a + k)) = if p 1 (a + k) < 2 then p 4 (p 1 (a + k)) else (t 221 (p 1 (a + k) - 2)).toNat := by rw [hB']
    unfold m_countAll_127b
    rw [gd_pos (by omega), gr (by omega), show ((x : Int) + 1).toNat = x + 1 by omega, e201, gr (by omega), if_neg (by omega), gd_pos (by omega), Int.toNat_natCast, q1, gr (by omega)]
    by_cases c : p 1 (a + k) < 2
    · rw [if_pos c] at Ai Bi
      rw [if_pos (by omega)]
      unfold m_countAll_169
      rw [gr (by omega), if_pos (by omega)]
      by_cases c0 : p 1 (a + k) = 0
      · rw [c0] at Bi
        rw [if_pos (by omega)]
        exact goal 1 3 (by omega) (by rw [c0]; omega)
      · have c1 : p 1 (a + k) = 1 := by omega
        rw [c1] at Bi
        rw [if_neg (by omega)]
        exact goal 1 2 (by omega) (by rw [c1]; omega)
    · rw [if_neg c] at Ai Bi
      have cc := hC (p 1 (a + k) - 2) (by omega)
      rw [if_neg (by omega), gd_pos (by omega), show ((p 1 (a + k) : Int) - 2).toNat = p 1 (a + k) - 2 by omega]
      unfold m_countAll_169
      rw [gr (by omega), if_neg (by omega), gd_pos (by omega), show ((p 1 (a + k) : Int) - 2).toNat = p 1 (a + k) - 2 by omega]
      exact goal _ _ (by omega) (by omega)) (by
    rintro l rfl
    refine ⟨_, ?_, rfl⟩
    show m_countAll_127b v1 (x : Int) ((sW (fun r => A (p 1 r)) a n : Nat) : Int) ((p 4 (2 + x) + sW (fun r => B (p 1 r)) a n : Nat) : Int) ((a + n : Nat) : Int) t = _
    unfold m_countAll_127b
    rw [gd_pos (by omega), gr (by omega), show ((x : Int) + 1).toNat = x + 1 by omega, e201, gr (by omega), if_pos (by omega)]) n 0 ((0 : Int), (p 4 (2 + x) : Int), (a : Int), t) (by omega) rfl
  obtain ⟨e, l1, l2⟩ := L
  have sbn := sb n (Nat.le_refl _)
  obtain ⟨vg, hvg⟩ : ∃ vg, vg = sW (fun r => A (p 1 r)) a n := ⟨_, rfl⟩
  obtain ⟨vb, hvb⟩ : ∃ vb, vb = p 4 (2 + x) + sW (fun r => B (p 1 r)) a n := ⟨_, rfl⟩
  rw [← hvg, ← hvb] at l2
  rw [← hvg] at sbn
  have f257 : ∀ (u : iS), (if l_cmp (vb : Int) 1000000 ≤ 0 then m_countAll_257 v1 (x : Int) (vb : Int) (x : Int) u else m_countAll_257 v1 (x : Int) 1000000 (x : Int) u) = some (.inl ((x : Int) + 1, up u 221 x (capN vb : Int))) := fun u => by
    have cm := l_cm (x := (vb : Int)) (y := 1000000) (by omega) (by omega)
    have f : ∀ w : Int, m_countAll_257 v1 (x : Int) w (x : Int) u = some (.inl ((x : Int) + 1, up u 221 x w)) := fun w => by
      unfold m_countAll_257
      rw [gd_pos (by omega), Int.toNat_natCast, lt_eq]
    rw [f, f, cap_if]
    by_cases q : vb ≤ 1000000
    · rw [if_pos (cm.2.mpr (by omega)), if_pos q]
    · rw [if_neg (fun z => q (by have := cm.2.mp z; omega)), if_neg q]
      simp
  have f234 : ∀ w : Int, m_countAll_234 v1 (x : Int) (vb : Int) w (x : Int) t = some (.inl ((x : Int) + 1, up (up t 220 x w) 221 x (capN vb : Int))) := fun w => by
    have cm := l_cm (x := (vb : Int)) (y := 1000000) (by omega) (by omega)
    unfold m_countAll_234
    rw [gd_pos (by omega), Int.toNat_natCast, lt_eq, gr (by omega), f257]
  refine ⟨up (up t 220 x (capN vg : Int)) 221 x (capN vb : Int), ?_, ?_, fun c k c1 => by rw [up_ne (by omega), up_ne (by omega)]⟩
  · rw [hB t hS x hx v1]
    unfold m_countAll_127
    rw [show (0 : Int) = ((0 : Nat) : Int) from rfl, ← ha]
    have l1' : lp (L := Int × Int × Int × iS) (E := Int × Int × iS) (fun l => m_countAll_127b v1 (x : Int) (l.1) (l.2.1) (l.2.2.1) (l.2.2.2)) (((0 : Nat) : Int), (p 4 (2 + x) : Int), (a : Int), t) = some e := l1
    rw [l1', l2, bn]
    show m_countAll_214 v1 (x : Int) (vg : Int) (vb : Int) t = _
    have cm := l_cm (x := (vg : Int)) (y := 1000000) (by omega) (by omega)
    unfold m_countAll_214
    rw [gr (by omega), f234, f234, cap_if (v := vg)]
    by_cases q : vg ≤ 1000000
    · rw [if_pos (cm.2.mpr (by omega)), if_pos q]
    · rw [if_neg (fun z => q (by have := cm.2.mp z; omega)), if_neg q]
      simp
  · intro i hi
    obtain ⟨k1, k2, k3⟩ := hC i hi
    by_cases q : i = x
    · rw [q, up_ne (by omega), up_same, up_same]
      have gb : capN vg ≤ 1000000 := by unfold capN; omega
      have bb : capN vb ≤ 1000000 := by unfold capN; omega
      refine ⟨by omega, by omega, fun z => ?_⟩
      have c1 : capN 1 = 1 := by decide
      have fA : sW (fun r => A (p 1 r)) a n = sW (fun r => capN (p 12 (p 1 r))) a n := sW_cg n (fun k hk => by
        obtain ⟨q1, q2, q3⟩ := hr2 k hk
        show A (p 1 (a + k)) = capN (p 12 (p 1 (a + k)))
        rw [hA]
        show (if p 1 (a + k) < 2 then 1 else (t 220 (p 1 (a + k) - 2)).toNat) = _
        by_cases c : p 1 (a + k) < 2
        · rw [if_pos c, (WFg h c).2.1, c1]
        · rw [if_neg c]
          have e2 : 2 + (p 1 (a + k) - 2) = p 1 (a + k) := by omega
          have := ((hC (p 1 (a + k) - 2) (by omega)).2.2 (Or.inl (by rw [e2]; omega))).1
          rw [e2] at this
          omega)
      have fB : sW (fun r => B (p 1 r)) a n = sW (fun r => capN (p 4 (p 1 r) + p 11 (p 1 r))) a n := sW_cg n (fun k hk => by
        obtain ⟨q1, q2, q3⟩ := hr2 k hk
        show B (p 1 (a + k)) = capN (p 4 (p 1 (a + k)) + p 11 (p 1 (a + k)))
        rw [hB']
        show (if p 1 (a + k) < 2 then p 4 (p 1 (a + k)) else (t 221 (p 1 (a + k) - 2)).toNat) = _
        by_cases c : p 1 (a + k) < 2
        · have := h4 (p 1 (a + k)) (by omega)
          rw [if_pos c, (WFg h c).1, cap_if, if_pos (by omega)]
          rfl
        · rw [if_neg c]
          have e2 : 2 + (p 1 (a + k) - 2) = p 1 (a + k) := by omega
          have := ((hC (p 1 (a + k) - 2) (by omega)).2.2 (Or.inl (by rw [e2]; omega))).2
          rw [e2] at this
          omega)
      have e1 := cap_s (f := fun r => p 12 (p 1 r)) (a := a) (m := n) (o := 0)
      have e2 := cap_s (f := fun r => p 4 (p 1 r) + p 11 (p 1 r)) (a := a) (m := n) (o := p 4 (2 + x))
      rw [Nat.zero_add, Nat.zero_add] at e1
      rw [hvg, hvb, fA, fB, e1, e2, wc.2.2.2.2.1, wc.2.2.2.2.2, ← ha, ← hn]
      exact ⟨rfl, rfl⟩
    · rw [up_ne (by omega), up_ne (by omega), up_ne (by omega), up_ne (by omega)]
      exact ⟨k1, k2, fun z => k3 (by omega)⟩
theorem r_count (h : WFp p) (hR : PLR p t) (hB : HBo p t) (h122 : t 121 122 = (p 10 0 : Int)) (h13 : p 13 0 = 0 ∧ p 13 1 = 0) (hk : ∀ c, c < p 10 0 → p 13 (2 + c) ≤ p 10 0) (h4 : ∀ i, i < 2 + p 10 0 → p 4 i ≤ 100000) (h0 : ∀ c, c < 16 → (0 ≤ t 220 c ∧ t 220 c ≤ 1000000) ∧ 0 ≤ t 221 c ∧ t 221 c ≤ 1000000) : ∃ t', m_countAll t = some (0, t') ∧ (∀ c, c < p 10 0 → t' 220 c = (capN (p 12 (2 + c)) : Int) ∧ t' 221 c = (capN (p 4 (2 + c) + p 11 (2 + c)) : Int)) ∧ (∀ c, c < 16 → (0 ≤ t' 220 c ∧ t' 220 c ≤ 1000000) ∧ 0 ≤ t' 221 c ∧ t' 221 c ≤ 1000000) ∧ ∀ c k, ¬ ((c = 220 ∨ c = 221) ∧ k < p 10 0) → t' c k = t c k := by
  have c16 := h.1.2
  have L := lpG (f := fun l : Int × iS => m_countAll_2b (l.1) (l.2)) (M := p 10 0) (I := fun r l => l.1 = (r : Int) ∧ CNr p r 0 l.2 ∧ ∀ c k, ¬ ((c = 220 ∨ c = 221) ∧ k < p 10 0) → l.2 c k = t c k) (J := fun e => CNr p (p 10 0) 0 e ∧ ∀ c k, ¬ ((c = 220 ∨ c = 221) ∧ k < p 10 0) → e c k = t c k) (by
    rintro r ⟨v, u⟩ hr ⟨e, e1, e2⟩
    have e' : v = (r : Int) := e
    subst e'
    have e1' : CNr p r 0 u := e1
    have e2' : ∀ c k, ¬ ((c = 220 ∨ c = 221) ∧ k < p 10 0) → u c k = t c k := e2
    have L2 := lpG (f := fun l : Int × iS => m_countAll_12b (r : Int) (l.1) (l.2)) (M := p 10 0) (I := fun x l => l.1 = (x : Int) ∧ CNr p r x l.2 ∧ ∀ c k, ¬ ((c = 220 ∨ c = 221) ∧ k < p 10 0) → l.2 c k = t c k) (J := fun e => CNr p r (p 10 0) e ∧ ∀ c k, ¬ ((c = 220 ∨ c = 221) ∧ k < p 10 0) → e c k = t c k) (by
      rintro x ⟨w, q⟩ hx ⟨d, d1, d2⟩
      have d' : w = (x : Int) := d
      subst d'
      have d2' : ∀ c k, ¬ ((c = 220 ∨ c = 221) ∧ k < p 10 0) → q c k = t c k := d2
      have d1' : CNr p r x q := d1
      -- rows beyond the chips stay
      obtain ⟨q', a1, a2, a3⟩ := r_cnt1 (t := q) (v1 := (r : Int)) h hR hB h13 h4 hx (fun c k z => d2' c k (by omega)) d1'
      refine ⟨_, a1, by show (x : Int) + 1 = ((x + 1 : Nat) : Int); omega, a2, ?_⟩
      intro c k z
      show q' c k = _
      rw [a3 c k (by omega)]
      exact d2' c k z) (by
      rintro ⟨w, q⟩ ⟨d, d1, d2⟩
      have d' : w = ((p 10 0 : Nat) : Int) := d
      subst d'
      have d2' : ∀ c k, ¬ ((c = 220 ∨ c = 221) ∧ k < p 10 0) → q c k = t c k := d2
      refine ⟨q, ?_, d1, d2⟩
      show m_countAll_12b (r : Int) ((p 10 0 : Nat) : Int) q = _
      unfold m_countAll_12b
      rw [gr (by omega), d2' 121 122 (by omega), h122, gr (by omega), if_pos (by omega)]) (p 10 0) 0 ((0 : Int), u) (by omega) ⟨rfl, e1', e2'⟩
    obtain ⟨q, f1, f2, f3⟩ := L2
    refine ⟨((r : Int) + 1, q), ?_, by show (r : Int) + 1 = ((r + 1 : Nat) : Int); omega, ?_, f3⟩
    · show m_countAll_2b (r : Int) u = _
      unfold m_countAll_2b
      rw [gr (by omega), e2' 121 122 (by omega), h122, gr (by omega), if_neg (by omega)]
      unfold m_countAll_12
      rw [show lp (L := Int × iS) (E := iS) (fun l => m_countAll_12b (r : Int) (l.1) (l.2)) (0, u) = some q from f1, bn]
    · intro i hi
      obtain ⟨k1, k2, k3⟩ := f2 i hi
      exact ⟨k1, k2, fun z => k3 (by omega)⟩) (by
    rintro ⟨v, u⟩ ⟨e, e1, e2⟩
    have e' : v = ((p 10 0 : Nat) : Int) := e
    subst e'
    have e2' : ∀ c k, ¬ ((c = 220 ∨ c = 221) ∧ k < p 10 0) → u c k = t c k := e2
    refine ⟨u, ?_, e1, e2⟩
    show m_countAll_2b ((p 10 0 : Nat) : Int) u = _
    unfold m_countAll_2b
    rw [gr (by omega), e2' 121 122 (by omega), h122, gr (by omega), if_pos (by omega)]) (p 10 0) 0 ((0 : Int), t) (by omega) ⟨rfl, fun c hc => by
    obtain ⟨y1, y2⟩ := h0 c (by omega)
    have := (h.2.1 c hc).2.2.1
    exact ⟨y1, y2, fun z => by omega⟩, fun _ _ _ => rfl⟩
  obtain ⟨t', l1, l2, l3⟩ := L
  refine ⟨t', ?_, fun c hc => (l2 c hc).2.2 (Or.inl (hk c hc)), fun c hc => ?_, l3⟩
  · unfold m_countAll m_countAll_2
    rw [show lp (L := Int × iS) (E := iS) (fun l => m_countAll_2b (l.1) (l.2)) (0, t) = some t' from l1, bn]
  · by_cases q : c < p 10 0
    · exact ⟨(l2 c q).1, (l2 c q).2.1⟩
    · rw [l3 220 c (by omega), l3 221 c (by omega)]
      exact h0 c hc
end CLh
