/-! chips: rings, in the class -/
/-- the shape of a plan -/
def WF0 (p : Nat → Nat → Nat) : Prop := (1 ≤ p 10 0 ∧ p 10 0 ≤ 16) ∧ (∀ c, c < p 10 0 → p 0 c ≤ p 0 (c + 1) ∧ p 0 (c + 1) ≤ 384) ∧ ∀ c r, c < p 10 0 → p 0 c ≤ r → r < p 0 (c + 1) → p 1 r < 2 + p 10 0
theorem WF0_r {p : Nat → Nat → Nat} (h : WF0 p) {c k : Nat} (hc : c < p 10 0) (hk : k < npC p c) : p 0 c + k < p 0 (c + 1) ∧ p 1 (p 0 c + k) < 2 + p 10 0 := by
  unfold npC at hk
  exact ⟨by omega, h.2.2 c (p 0 c + k) hc (by omega) (by omega)⟩
section CLj
variable (p : Nat → Nat → Nat)
/-- is chip b a part of chip a, among the first n parts -/
def wPn (n a b : Nat) : Bool := (List.range n).any (fun k => p 1 (p 0 a + k) == 2 + b)
def wPt (a b : Nat) : Bool := wPn p (npC p a) a b
def RwI (w : Nat → Nat → Bool) (i : Nat) (s : iS) : Prop := ∃ m : Nat, m < 262144 ∧ s 107 i = (m : Int) ∧ (i < 2 → m = 0) ∧ (2 ≤ i → ∀ b, b < p 10 0 → m.testBit (2 + b) = w (i - 2) b)
/-- notes of rings -/
def ngS (w : Nat → Nat → Bool) (tk : Nat → Nat) : Nat → List Nat
  | 0 => []
  | c + 1 => ngS w tk c ++ (if w c c = true then [16 * tk c + 6] else [])
end CLj
section CLk
variable {p : Nat → Nat → Nat} {s : iS}
theorem wPn_s {n a b : Nat} : wPn p (n + 1) a b = (wPn p n a b || (p 1 (p 0 a + n) == 2 + b)) := by
  unfold wPn
  rw [List.range_succ, List.any_append]
  simp
theorem RwI_of {w : Nat → Nat → Bool} {i : Nat} {s' : iS} (h : RwI p w i s) (e : s' 107 i = s 107 i) : RwI p w i s' := by
  obtain ⟨m, a1, a2, a3⟩ := h
  exact ⟨m, a1, by rw [e]; exact a2, a3⟩
theorem RwI_w {w w' : Nat → Nat → Bool} {i : Nat} (h : RwI p w i s) (e : 2 ≤ i → ∀ b, b < p 10 0 → w' (i - 2) b = w (i - 2) b) : RwI p w' i s := by
  obtain ⟨m, a1, a2, a3, a4⟩ := h
  exact ⟨m, a1, a2, a3, fun q b hb => by rw [e q b hb]; exact a4 q b hb⟩
theorem c_rings (h : WF0 p) (h72 : s 72 2 = ((2 + p 10 0 : Nat) : Int)) (h78 : ∀ c, c ≤ p 10 0 → s 78 (2 + c) = (p 0 c : Int)) (h780 : s 78 0 = 0 ∧ s 78 1 = 0 ∧ p 0 0 = 0) (h94 : ∀ c r, c < p 10 0 → p 0 c ≤ r → r < p 0 (c + 1) → s 94 r = (p 1 r : Int)) {tk : Nat → Nat} (h75 : ∀ c, c < p 10 0 → s 75 (2 + c) = (tk c : Int) ∧ tk c < 2001) {Z : List Nat} (hZ : BLc Z s) : ∃ s', cck_findRings s = some (0, s') ∧ BLc (Z ++ ngS (wSt (wPt p) (p 10 0)) tk (p 10 0)) s' ∧ ∀ c k, c ≠ 107 → ¬ (c = 2 ∧ (k = 13 ∨ k = 14)) → s' c k = s c k := by
  have c16 := h.1.2
  obtain ⟨n, hn⟩ : ∃ n, n = p 10 0 := ⟨_, rfl⟩
  rw [← hn] at h72 h78 h94 h75 c16 ⊢
  -- parts
  have L1 := lpG (f := fun l : Int × iS => cck_findRings_13b ((2 + n : Nat) : Int) (l.1) (l.2)) (M := 2 + n) (I := fun x l => l.1 = (x : Int) ∧ (∀ i, i < x → RwI p (wPt p) i l.2) ∧ ∀ c k, c ≠ 107 → l.2 c k = s c k) (J := fun e => (∀ i, i < 2 + n → RwI p (wPt p) i e) ∧ ∀ c k, c ≠ 107 → e c k = s c k) (by
    rintro x ⟨v, u⟩ hx ⟨e, e1, e2⟩
    have e' : v = (x : Int) := e
    subst e'
    have e1' : ∀ i, i < x → RwI p (wPt p) i u := e1
    have e2' : ∀ c k, c ≠ 107 → u c k = s c k := e2
    obtain ⟨u1, hu1⟩ : ∃ u1, u1 = up u 107 x 0 := ⟨_, rfl⟩
    have n1 : ∀ c k, ¬ (c = 107 ∧ k = x) → u1 c k = u c k := fun c k q => by rw [hu1, up_ne q]
    obtain ⟨a, m, ha, he, hr1, hr2⟩ : ∃ a m : Nat, s 78 x = (a : Int) ∧ s 78 (x + 1) = ((a + m : Nat) : Int) ∧ a + m ≤ 384 ∧ (x < 2 ∧ m = 0 ∨ 2 ≤ x ∧ a = p 0 (x - 2) ∧ m = npC p (x - 2)) := by
      by_cases cc : x < 2
      · have e : s 78 x = 0 ∧ s 78 (x + 1) = 0 := by
          have : x = 0 ∨ x = 1 := by omega
          rcases this with q | q <;> rw [q]
          · exact ⟨h780.1, h780.2.1⟩
          · exact ⟨h780.2.1, by have := h78 0 (by omega); rw [h780.2.2] at this; exact this⟩
        exact ⟨0, 0, by rw [e.1]; rfl, by rw [e.2]; rfl, by omega, Or.inl ⟨cc, rfl⟩⟩
      · obtain ⟨c, rfl⟩ : ∃ c, x = 2 + c := ⟨x - 2, by omega⟩
        have wc := h.2.1 c (by omega)
        refine ⟨p 0 c, npC p c, h78 c (by omega), ?_, by unfold npC; omega, Or.inr ⟨by omega, by rw [show 2 + c - 2 = c by omega], by rw [show 2 + c - 2 = c by omega]⟩⟩
        rw [show 2 + c + 1 = 2 + (c + 1) by omega, h78 (c + 1) (by omega)]
        unfold npC
        omega
    have L2 := lpG (f := fun l : Int × iS => cck_findRings_35b ((2 + n : Nat) : Int) (x : Int) (l.1) (l.2)) (M := m) (I := fun k l => l.1 = ((a + k : Nat) : Int) ∧ (∃ w : Nat, w < 262144 ∧ l.2 107 x = (w : Int) ∧ (k = 0 → w = 0) ∧ (2 ≤ x → ∀ b, b < n → w.testBit (2 + b) = wPn p k (x - 2) b)) ∧ ∀ c y, ¬ (c = 107 ∧ y = x) → l.2 c y = u c y) (J := fun e => (∃ w : Nat, w < 262144 ∧ e 107 x = (w : Int) ∧ (m = 0 → w = 0) ∧ (2 ≤ x → ∀ b, b < n → w.testBit (2 + b) = wPn p m (x - 2) b)) ∧ ∀ c y, ¬ (c = 107 ∧ y = x) → e c y = u c y) (by
      rintro k ⟨v, q⟩ hk ⟨d, ⟨w, d1, d2, d3, d4⟩, d5⟩
      have d' : v = ((a + k : Nat) : Int) := d
      subst d'
      have d2' : q 107 x = (w : Int) := d2
      have d5' : ∀ c y, ¬ (c = 107 ∧ y = x) → q c y = u c y := d5
      rcases hr2 with ⟨z1, z2⟩ | ⟨z1, z2, z3⟩
      · omega
      have wr := WF0_r h (c := x - 2) (k := k) (by omega) (by omega)
      rw [← z2] at wr
      have p1 : p 1 (a + k) < 18 := by have := wr.2; omega
      have e94 : q 94 (a + k) = (p 1 (a + k) : Int) := by rw [d5' 94 _ (by omega), e2' 94 _ (by omega)]; exact h94 (x - 2) (a + k) (by omega) (by omega) wr.1
      have po : 2 ^ p 1 (a + k) < 2 ^ 18 := Nat.pow_lt_pow_right (by omega) p1
      have p18 : (2 : Nat) ^ 18 = 262144 := by decide
      have hor : w ||| 2 ^ p 1 (a + k) < 262144 := by rw [← p18]; exact Nat.or_lt_two_pow (by omega) po
      refine ⟨(((a + k : Nat) : Int) + 1, up q 107 x ((w ||| 2 ^ p 1 (a + k) : Nat) : Int)), ?_, by show ((a + k : Nat) : Int) + 1 = ((a + (k + 1) : Nat) : Int); omega, ⟨w ||| 2 ^ p 1 (a + k), hor, up_same .., fun z => by omega, fun y b hb => ?_⟩, ?_⟩
      · show cck_findRings_35b ((2 + n : Nat) : Int) (x : Int) ((a + k : Nat) : Int) q = _
        unfold cck_findRings_35b
        rw [gd_pos (by omega), gr (by omega), show ((x : Int) + 1).toNat = x + 1 by omega, d5' 78 _ (by omega), e2' 78 _ (by omega), he, gr (by omega), if_neg (by omega), gd_pos (by omega), gd_pos (by omega), Int.toNat_natCast, Int.toNat_natCast, d2', e94, i_shl1 (by omega), Int.toNat_natCast, i_or_nat (by omega) ⟨Int.natCast_nonneg _, Int.ofNat_lt.mpr (show 2 ^ p 1 (a + k) < 2147483648 by rw [p18] at po; generalize 2 ^ p 1 (a + k) = e at po; omega)⟩, Int.toNat_natCast, Int.toNat_natCast, lt_eq]
      · rw [Nat.testBit_or, d4 y b hb, Nat.testBit_two_pow, wPn_s, ← z2]
        rfl
      · intro c y z
        show up q 107 x _ c y = _
        rw [up_ne z]
        exact d5' c y z) (by
      rintro ⟨v, q⟩ ⟨d, d1, d5⟩
      have d' : v = ((a + m : Nat) : Int) := d
      subst d'
      have d5' : ∀ c y, ¬ (c = 107 ∧ y = x) → q c y = u c y := d5
      refine ⟨q, ?_, d1, d5⟩
      show cck_findRings_35b ((2 + n : Nat) : Int) (x : Int) ((a + m : Nat) : Int) q = _
      unfold cck_findRings_35b
      rw [gd_pos (by omega), gr (by omega), show ((x : Int) + 1).toNat = x + 1 by omega, d5' 78 _ (by omega), e2' 78 _ (by omega), he, gr (by omega), if_pos (by omega)]) m 0 ((a : Int), u1) (by omega) ⟨rfl, ⟨0, by omega, by rw [hu1]; exact up_same .., fun _ => rfl, fun _ b _ => by rw [Nat.zero_testBit]; rfl⟩, n1⟩
    obtain ⟨q, f1, ⟨w, f2, f3, f4, f5⟩, f6⟩ := L2
    refine ⟨((x : Int) + 1, q), ?_, by show (x : Int) + 1 = ((x + 1 : Nat) : Int); omega, fun i hi => ?_, fun c k hc => ?_⟩
    · show cck_findRings_13b ((2 + n : Nat) : Int) (x : Int) u = _
      unfold cck_findRings_13b
      rw [gr (by omega), gr (by omega), if_neg (by omega), gd_pos (by omega), Int.toNat_natCast, lt_eq, ← hu1, gd_pos (by omega), n1 78 _ (by omega), e2' 78 _ (by omega), ha]
      unfold cck_findRings_35
      rw [f1, bn]
    · show RwI p (wPt p) i q
      by_cases z : i = x
      · rw [z]
        refine ⟨w, f2, f3, fun y => ?_, fun y b hb => ?_⟩
        · rcases hr2 with ⟨z1, z2⟩ | ⟨z1, z2, z3⟩
          · exact f4 z2
          · omega
        · rcases hr2 with ⟨z1, z2⟩ | ⟨z1, z2, z3⟩
          · omega
          · rw [f5 y b (by omega), z3]
            rfl
      · exact RwI_of (e1' i (by omega)) (f6 107 i (by omega))
    · show q c k = _
      rw [f6 c k (by omega)]
      exact e2' c k hc) (by
    rintro ⟨v, u⟩ ⟨e, e1, e2⟩
    have e' : v = ((2 + n : Nat) : Int) := e
    subst e'
    refine ⟨u, ?_, e1, e2⟩
    show cck_findRings_13b ((2 + n : Nat) : Int) ((2 + n : Nat) : Int) u = _
    unfold cck_findRings_13b
    rw [gr (by omega), gr (by omega), if_pos (by omega)]) (2 + n) 0 ((0 : Int), s) (by omega) ⟨rfl, fun i hi => absurd hi (Nat.not_lt_zero i), fun _ _ _ => rfl⟩
  obtain ⟨s1, l1, l2, l3⟩ := L1
  -- chips within chips
  have L2 := lpG (f := fun l : Int × iS => cck_findRings_81b ((2 + n : Nat) : Int) (l.1) (l.2)) (M := 2 + n) (I := fun k l => l.1 = (k : Int) ∧ (∀ i, i < 2 + n → RwI p (wSt (wPt p) (k - 2)) i l.2) ∧ ∀ c y, c ≠ 107 → l.2 c y = s c y) (J := fun e => (∀ i, i < 2 + n → RwI p (wSt (wPt p) n) i e) ∧ ∀ c y, c ≠ 107 → e c y = s c y) (by
    rintro k ⟨v, u⟩ hk ⟨e, e1, e2⟩
    have e' : v = (k : Int) := e
    subst e'
    have e1' : ∀ i, i < 2 + n → RwI p (wSt (wPt p) (k - 2)) i u := e1
    have e2' : ∀ c y, c ≠ 107 → u c y = s c y := e2
    have L3 := lpG (f := fun l : Int × iS => cck_findRings_88b ((2 + n : Nat) : Int) (k : Int) (l.1) (l.2)) (M := 2 + n) (I := fun x l => l.1 = (x : Int) ∧ (∀ i, i < x → RwI p (wSt (wPt p) (k + 1 - 2)) i l.2) ∧ (∀ i, x ≤ i → i < 2 + n → RwI p (wSt (wPt p) (k - 2)) i l.2) ∧ ∀ c y, c ≠ 107 → l.2 c y = s c y) (J := fun e => (∀ i, i < 2 + n → RwI p (wSt (wPt p) (k + 1 - 2)) i e) ∧ ∀ c y, c ≠ 107 → e c y = s c y) (by
      rintro x ⟨v, q⟩ hx ⟨d, d1, d2, d3⟩
      have d' : v = (x : Int) := d
      subst d'
      have d1' : ∀ i, i < x → RwI p (wSt (wPt p) (k + 1 - 2)) i q := d1
      have d2' : ∀ i, x ≤ i → i < 2 + n → RwI p (wSt (wPt p) (k - 2)) i q := d2
      have d3' : ∀ c y, c ≠ 107 → q c y = s c y := d3
      obtain ⟨m, m1, m2, m3, m4⟩ := d2' x (Nat.le_refl _) hx
      -- row k
      obtain ⟨g, g1, g2, g3, g4⟩ : RwI p (wSt (wPt p) (k - 2)) k q := by
        by_cases z : k < x
        · refine RwI_w (d1' k z) (fun y b _ => ?_)
          rw [show k + 1 - 2 = k - 2 + 1 by omega, wSt_row]
        · exact d2' k (by omega) hk
      have hor : m ||| g < 262144 := by
        have p18 : (2 : Nat) ^ 18 = 262144 := by decide
        rw [← p18]
        exact Nat.or_lt_two_pow (by omega) (by omega)
      have bt := bit_at (m := m) (k := k) (by omega) (by omega)
      have st : cck_findRings_88b ((2 + n : Nat) : Int) (k : Int) (x : Int) q = if m.testBit k = true then some (.inl ((x : Int) + 1, up q 107 x ((m ||| g : Nat) : Int))) else some (.inl ((x : Int) + 1, q)) := by
        unfold cck_findRings_88b
        rw [gr (by omega), gr (by omega), if_neg (by omega), gd_pos (by omega), Int.toNat_natCast, m2, bt]
        by_cases z : m.testBit k = true
        · rw [if_pos z, gr (by omega), if_neg (by omega), gd_pos (by omega), Int.toNat_natCast, g2, i_or_nat (by omega) (by omega), Int.toNat_natCast, Int.toNat_natCast, lt_eq, if_pos z]
        · rw [if_neg z, gr (by omega), if_pos rfl, if_neg z]
      -- what the row is then
      have fin : ∀ q' : iS, (∀ c y, ¬ (c = 107 ∧ y = x) → q' c y = q c y) → RwI p (wSt (wPt p) (k + 1 - 2)) x q' → ∃ l', (some (.inl ((x : Int) + 1, q')) : Option ((Int × iS) ⊕ iS)) = some (.inl l') ∧ (l'.1 = ((x + 1 : Nat) : Int) ∧ (∀ i, i < x + 1 → RwI p (wSt (wPt p) (k + 1 - 2)) i l'.2) ∧ (∀ i, x + 1 ≤ i → i < 2 + n → RwI p (wSt (wPt p) (k - 2)) i l'.2) ∧ ∀ c y, c ≠ 107 → l'.2 c y = s c y) := by
        intro q' hq hr
        refine ⟨_, rfl, by show (x : Int) + 1 = ((x + 1 : Nat) : Int); omega, fun i hi => ?_, fun i i1 i2 => RwI_of (d2' i (by omega) i2) (hq 107 i (by omega)), fun c y hc => by show q' c y = _; rw [hq c y (by omega)]; exact d3' c y hc⟩
        by_cases z : i = x
        · rw [z]; exact hr
        · exact RwI_of (d1' i (by omega)) (hq 107 i (by omega))
      show ∃ l', cck_findRings_88b ((2 + n : Nat) : Int) (k : Int) (x : Int) q = some (.inl l') ∧ _
      rw [st]
      by_cases z : m.testBit k = true
      · rw [if_pos z]
        refine fin _ (fun c y w => up_ne w) ⟨m ||| g, hor, up_same .., fun y => ?_, fun y b hb => ?_⟩
        · rw [m3 y, Nat.zero_testBit] at z
          cases z
        · rw [Nat.testBit_or, m4 y b hb]
          by_cases k2 : k < 2
          · rw [g3 k2, Nat.zero_testBit, Bool.or_false, show k + 1 - 2 = k - 2 by omega]
          · rw [g4 (by omega) b hb, show k + 1 - 2 = k - 2 + 1 by omega, wSt_s]
            have zz := m4 y (k - 2) (by omega)
            rw [show 2 + (k - 2) = k by omega, z] at zz
            rw [← zz, Bool.true_and]
      · rw [if_neg z]
        refine fin q (fun _ _ _ => rfl) ⟨m, m1, m2, m3, fun y b hb => ?_⟩
        rw [m4 y b hb]
        by_cases k2 : k < 2
        · rw [show k + 1 - 2 = k - 2 by omega]
        · rw [show k + 1 - 2 = k - 2 + 1 by omega, wSt_s]
          have zz := m4 y (k - 2) (by omega)
          rw [show 2 + (k - 2) = k by omega] at zz
          have : wSt (wPt p) (k - 2) (x - 2) (k - 2) = false := by
            rw [← zz]
            cases hq : m.testBit k with
            | true => exact absurd hq z
            | false => rfl
          rw [this, Bool.false_and, Bool.or_false]) (by
      rintro ⟨v, q⟩ ⟨d, d1, d2, d3⟩
      have d' : v = ((2 + n : Nat) : Int) := d
      subst d'
      refine ⟨q, ?_, d1, d3⟩
      show cck_findRings_88b ((2 + n : Nat) : Int) (k : Int) ((2 + n : Nat) : Int) q = _
      unfold cck_findRings_88b
      rw [gr (by omega), gr (by omega), if_pos (by omega)]) (2 + n) 0 ((0 : Int), u) (by omega) ⟨rfl, fun i hi => absurd hi (Nat.not_lt_zero i), fun i _ hi => e1' i hi, e2'⟩
    obtain ⟨q, f1, f2, f3⟩ := L3
    refine ⟨((k : Int) + 1, q), ?_, by show (k : Int) + 1 = ((k + 1 : Nat) : Int); omega, f2, f3⟩
    show cck_findRings_81b ((2 + n : Nat) : Int) (k : Int) u = _
    unfold cck_findRings_81b
    rw [gr (by omega), gr (by omega), if_neg (by omega)]
    unfold cck_findRings_88
    rw [show lp (L := Int × iS) (E := iS) (fun l => cck_findRings_88b ((2 + n : Nat) : Int) (k : Int) (l.1) (l.2)) (0, u) = some q from f1, bn]) (by
    rintro ⟨v, u⟩ ⟨e, e1, e2⟩
    have e' : v = ((2 + n : Nat) : Int) := e
    subst e'
    refine ⟨u, ?_, fun i hi => by have := e1 i hi; rw [show 2 + n - 2 = n by omega] at this; exact this, e2⟩
    show cck_findRings_81b ((2 + n : Nat) : Int) ((2 + n : Nat) : Int) u = _
    unfold cck_findRings_81b
    rw [gr (by omega), gr (by omega), if_pos (by omega)]) (2 + n) 0 ((0 : Int), s1) (by omega) ⟨rfl, l2, l3⟩
  obtain ⟨s2, m1, m2, m3⟩ := L2
  -- notes
  have L3 := lpG (f := fun l : Int × iS => cck_findRings_135b ((2 + n : Nat) : Int) (l.1) (l.2)) (M := 2 + n) (I := fun x l => l.1 = (x : Int) ∧ BLc (Z ++ ngS (wSt (wPt p) n) tk (x - 2)) l.2 ∧ ∀ c k, ¬ (c = 2 ∧ (k = 13 ∨ k = 14)) → l.2 c k = s2 c k) (J := fun e => BLc (Z ++ ngS (wSt (wPt p) n) tk n) e ∧ ∀ c k, ¬ (c = 2 ∧ (k = 13 ∨ k = 14)) → e c k = s2 c k) (by
    rintro x ⟨v, u⟩ hx ⟨e, e1, e2⟩
    have e' : v = (x : Int) := e
    subst e'
    have e1' : BLc (Z ++ ngS (wSt (wPt p) n) tk (x - 2)) u := e1
    have e2' : ∀ c k, ¬ (c = 2 ∧ (k = 13 ∨ k = 14)) → u c k = s2 c k := e2
    obtain ⟨m, r1, r2, r3, r4⟩ := m2 x hx
    have bt := bit_at (m := m) (k := x) (by omega) (by omega)
    have st : cck_findRings_135b ((2 + n : Nat) : Int) (x : Int) u = if m.testBit x = true then bd (tok_blame 6 (s 75 x) u) (fun _ s7 => some (.inl ((x : Int) + 1, s7))) else some (.inl ((x : Int) + 1, u)) := by
      unfold cck_findRings_135b
      rw [gr (by omega), gr (by omega), if_neg (by omega), gd_pos (by omega), Int.toNat_natCast, e2' 107 x (by omega), r2, bt, e2' 75 x (by omega), m3 75 x (by omega)]
      by_cases z : m.testBit x = true
      · rw [if_pos z, gr (by omega), if_neg (by omega), if_pos z]
      · rw [if_neg z, gr (by omega), if_pos rfl, if_neg z]
    by_cases x2 : x < 2
    · have z : ¬ m.testBit x = true := by rw [r3 x2, Nat.zero_testBit]; decide
      rw [if_neg z] at st
      exact ⟨_, st, by show (x : Int) + 1 = ((x + 1 : Nat) : Int); omega, by rw [show x + 1 - 2 = x - 2 by omega]; exact e1', e2⟩
    · have tb := r4 (by omega) (x - 2) (by omega)
      rw [show 2 + (x - 2) = x by omega] at tb
      have ns : ngS (wSt (wPt p) n) tk (x + 1 - 2) = ngS (wSt (wPt p) n) tk (x - 2) ++ (if wSt (wPt p) n (x - 2) (x - 2) = true then [16 * tk (x - 2) + 6] else []) := by rw [show x + 1 - 2 = x - 2 + 1 by omega]; rfl
      obtain ⟨t1, t2⟩ := h75 (x - 2) (by omega)
      rw [show 2 + (x - 2) = x by omega] at t1
      by_cases z : m.testBit x = true
      · rw [if_pos z, t1] at st
        obtain ⟨u', b1, b2, b3⟩ := bl_add (f := 6) e1' (by omega) t2
        have b1' : tok_blame 6 (tk (x - 2) : Int) u = some (0, u') := b1
        rw [b1', bq] at st
        refine ⟨_, st, by show (x : Int) + 1 = ((x + 1 : Nat) : Int); omega, ?_, fun c k q => by show u' c k = _; rw [b3 c k q]; exact e2' c k q⟩
        rw [ns, if_pos (by rw [← tb]; exact z), ← List.append_assoc]
        exact b2
      · rw [if_neg z] at st
        refine ⟨_, st, by show (x : Int) + 1 = ((x + 1 : Nat) : Int); omega, ?_, e2⟩
        rw [ns, if_neg (by rw [← tb]; exact z), List.append_nil]
        exact e1') (by
    rintro ⟨v, u⟩ ⟨e, e1, e2⟩
    have e' : v = ((2 + n : Nat) : Int) := e
    subst e'
    refine ⟨u, ?_, by rw [show 2 + n - 2 = n by omega] at e1; exact e1, e2⟩
    show cck_findRings_135b ((2 + n : Nat) : Int) ((2 + n : Nat) : Int) u = _
    unfold cck_findRings_135b
    rw [gr (by omega), gr (by omega), if_pos (by omega)]) (2 + n) 0 ((0 : Int), s2) (by omega) ⟨rfl, by
    show BLc (Z ++ []) s2
    rw [List.append_nil]
    have k1 := m3 2 13 (by omega)
    have k2 := m3 2 14 (by omega)
    unfold BLc at hZ ⊢
    rw [k1, k2]
    exact hZ, fun _ _ _ => rfl⟩
  obtain ⟨s3, f1, f2, f3⟩ := L3
  refine ⟨s3, ?_, f2, fun c k c1 c2 => by rw [f3 c k c2]; exact m3 c k c1⟩
  unfold cck_findRings cck_findRings_13
  rw [h72, show lp (L := Int × iS) (E := iS) (fun l => cck_findRings_13b ((2 + n : Nat) : Int) (l.1) (l.2)) (0, s) = some s1 from l1, bn]
  unfold cck_findRings_79 cck_findRings_81
  rw [show lp (L := Int × iS) (E := iS) (fun l => cck_findRings_81b ((2 + n : Nat) : Int) (l.1) (l.2)) (0, s1) = some s2 from m1, bn]
  unfold cck_findRings_133 cck_findRings_135
  rw [show lp (L := Int × iS) (E := iS) (fun l => cck_findRings_135b ((2 + n : Nat) : Int) (l.1) (l.2)) (0, s2) = some s3 from f1, bn]
end CLk
