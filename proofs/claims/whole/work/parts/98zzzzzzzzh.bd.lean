/-! chips: gates and bits are counted -/
theorem l_cm {x y : Int} (hx : -1000000000000 ≤ x ∧ x < 1000000000000) (hy : -1000000000000 ≤ y ∧ y < 1000000000000) : (-1 ≤ l_cmp x y ∧ l_cmp x y ≤ 1) ∧ (l_cmp x y ≤ 0 ↔ x ≤ y) := by
  have ex : (Int64.ofInt x).toInt = x := Int64.toInt_ofInt_of_le (by omega) (by omega)
  have ey : (Int64.ofInt y).toInt = y := Int64.toInt_ofInt_of_le (by omega) (by omega)
  unfold l_cmp lg_cmp
  split
  · rename_i h
    rw [gt_iff_lt, Int64.lt_iff_toInt_lt, ex, ey] at h
    exact ⟨by decide, fun q => absurd q (by decide), fun q => by omega⟩
  · split
    · rename_i h
      have := congrArg Int64.toInt h
      rw [ex, ey] at this
      exact ⟨by decide, fun _ => by omega, fun _ => by decide⟩
    · rename_i h1 h2
      rw [gt_iff_lt, Int64.lt_iff_toInt_lt, ex, ey] at h1
      exact ⟨by decide, fun _ => by omega, fun _ => by decide⟩
def capN (x : Nat) : Nat := min x 1000000
theorem sW_cg {f g : Nat → Nat} {a : Nat} : ∀ m, (∀ i, i < m → f (a + i) = g (a + i)) → sW f a m = sW g a m
  | 0, _ => rfl
  | m + 1, h => by
    rw [sW_s, sW_s, sW_cg m (fun i hi => h i (by omega)), h m (by omega)]
theorem cap_sum {f : Nat → Nat} {a : Nat} : ∀ m, sW (fun r => capN (f r)) a m ≤ sW f a m ∧ (sW (fun r => capN (f r)) a m = sW f a m ∨ 1000000 ≤ sW (fun r => capN (f r)) a m)
  | 0 => ⟨Nat.le_refl _, Or.inl rfl⟩
  | m + 1 => by
    obtain ⟨h1, h2⟩ := cap_sum (f := f) (a := a) m
    rw [sW_s, sW_s]
    have e : capN (f (a + m)) = min (f (a + m)) 1000000 := rfl
    refine ⟨by rw [e]; omega, ?_⟩
    rw [e]
    omega
theorem cap_s {f : Nat → Nat} {a m o : Nat} : capN (o + sW (fun r => capN (f r)) a m) = capN (o + sW f a m) := by
  have := cap_sum (f := f) (a := a) m
  unfold capN at this ⊢
  omega
theorem min_cap {v : Nat} {u : iS} (hv : v ≤ 400000000) : mth_min (v : Int) 1000000 u = some ((capN v : Int), u) := by
  unfold mth_min
  rw [gr (by omega), gr (by omega)]
  have e : capN v = if 1000000 < v then 1000000 else v := by
    unfold capN
    split <;> omega
  rw [e]
  by_cases q : 1000000 < v
  · rw [if_pos q, if_pos (show (1000000 : Int) < (v : Int) by omega)]
    simp
  · rw [if_neg q, if_neg (show ¬ (1000000 : Int) < (v : Int) by omega)]
section CLg
variable {p : Nat → Nat → Nat} {s t t0 : iS}
/-- behind so many rounds, and chips of the next one -/
def CNi (p : Nat → Nat → Nat) (r x : Nat) (s : iS) : Prop := ∀ i, i < 2 + p 10 0 → (0 ≤ s 109 i ∧ s 109 i ≤ 1000000) ∧ (0 ≤ s 110 i ∧ s 110 i ≤ 1000000) ∧ (p 13 i < r ∨ (i < x ∧ p 13 i ≤ r) → s 109 i = (capN (p 12 i) : Int) ∧ s 110 i = (capN (p 4 i + p 11 i) : Int))
/-- the class: a chip's gates and bits -/
theorem c_cnt1 (h : WFp p) (hP : PLC p s) (h72 : s 72 2 = ((2 + p 10 0 : Nat) : Int)) (h78 : s 78 0 = 0 ∧ s 78 1 = 0 ∧ p 0 0 = 0) (h13 : p 13 0 = 0 ∧ p 13 1 = 0) (h4 : ∀ i, i < 2 + p 10 0 → p 4 i ≤ 100000) {r x : Nat} (hx : x < 2 + p 10 0) {v1 : Int} (hC : CNi p r x s) : ∃ s', brd_countGatesAndBits_26b v1 (x : Int) s = some (.inl ((x : Int) + 1, s')) ∧ CNi p r (x + 1) s' ∧ ∀ c k, c ≠ 109 → c ≠ 110 → s' c k = s c k := by
  have c16 := h.1.2
  obtain ⟨A, hA⟩ : ∃ A : Nat → Nat, A = fun i => (s 109 i).toNat := ⟨_, rfl⟩
  obtain ⟨B, hB⟩ : ∃ B : Nat → Nat, B = fun i => (s 110 i).toNat := ⟨_, rfl⟩
  -- where the parts begin and end
  obtain ⟨a, n, ha, he, hr⟩ : ∃ a n : Nat, s 78 x = (a : Int) ∧ s 78 (x + 1) = ((a + n : Nat) : Int) ∧ (a + n ≤ 384 ∧ (∀ k, k < n → s 94 (a + k) = (p 1 (a + k) : Int) ∧ p 1 (a + k) < 2 + p 10 0 ∧ p 13 (p 1 (a + k)) < p 13 x) ∧ p 12 x = (if x < 2 then 1 else 0) + sW (fun r => p 12 (p 1 r)) a n ∧ p 11 x = sW (fun r => p 4 (p 1 r) + p 11 (p 1 r)) a n) := by
    by_cases cc : x < 2
    · have e : s 78 x = 0 ∧ s 78 (x + 1) = 0 := by
        have : x = 0 ∨ x = 1 := by omega
        rcases this with q | q <;> rw [q]
        · exact ⟨h78.1, h78.2.1⟩
        · exact ⟨h78.2.1, by have := hP.1 0 (by omega); rw [h78.2.2] at this; exact this⟩
      obtain ⟨z1, z2, -⟩ := WFg h cc
      exact ⟨0, 0, by rw [e.1]; rfl, by rw [e.2]; rfl, by omega, fun k hk => absurd hk (Nat.not_lt_zero k), by rw [if_pos cc, z2]; rfl, z1⟩
    · obtain ⟨c, rfl⟩ : ∃ c, x = 2 + c := ⟨x - 2, by omega⟩
      have wc := h.2.1 c (by omega)
      refine ⟨p 0 c, npC p c, hP.1 c (by omega), ?_, by unfold npC; omega, fun k hk => ?_, by rw [if_neg (by omega), Nat.zero_add]; exact wc.2.2.2.2.2, wc.2.2.2.2.1⟩
      · rw [show 2 + c + 1 = 2 + (c + 1) by omega, hP.1 (c + 1) (by omega)]
        unfold npC
        omega
      · obtain ⟨w1, w2, w3, -⟩ := WF_r h (show c < p 10 0 by omega) hk
        exact ⟨(hP.2.2 c _ (by omega) (by omega) w1).1, w2, w3⟩
  obtain ⟨hr1, hr2, hr3, hr4⟩ := hr
  obtain ⟨o, ho⟩ : ∃ o : Nat, o = if x < 2 then 1 else 0 := ⟨_, rfl⟩
  have ob : o ≤ 1 := by rw [ho]; split <;> omega
  have ab : ∀ i, i < 2 + p 10 0 → A i ≤ 1000000 ∧ s 109 i = (A i : Int) ∧ B i ≤ 1000000 ∧ s 110 i = (B i : Int) := fun i hi => by
    have := hC i hi
    rw [hA, hB]
    show (s 109 i).toNat ≤ 1000000 ∧ s 109 i = ((s 109 i).toNat : Int) ∧ (s 110 i).toNat ≤ 1000000 ∧ s 110 i = ((s 110 i).toNat : Int)
    omega
  have sb : ∀ k, k ≤ n → sW (fun r => A (p 1 r)) a k ≤ 1000000 * k ∧ sW (fun r => B (p 1 r)) a k ≤ 1000000 * k := by
    intro k
    induction k with
    | zero => intro _; exact ⟨Nat.le_refl _, Nat.le_refl _⟩
    | succ k ih =>
      intro hk
      have := ih (by omega)
      have := ab _ (hr2 k (by omega)).2.1
      rw [sW_s, sW_s]
      omega
  have p4 := h4 x hx
  have L := lpG (f := fun l : Int × Int × Int × iS => brd_countGatesAndBits_73b v1 (x : Int) (l.1) (l.2.1) (l.2.2.1) (l.2.2.2)) (M := n) (I := fun k l => l = (((o + sW (fun r => A (p 1 r)) a k : Nat) : Int), ((p 4 x + sW (fun r => B (p 1 r)) a k : Nat) : Int), ((a + k : Nat) : Int), s)) (J := fun e => e = (((o + sW (fun r => A (p 1 r)) a n : Nat) : Int), ((p 4 x + sW (fun r => B (p 1 r)) a n : Nat) : Int), s)) (by
    rintro k l hk rfl
    obtain ⟨q1, q2, q3⟩ := hr2 k hk
    obtain ⟨q4, q5, q6, q7⟩ := ab _ q2
    refine ⟨_, ?_, rfl⟩
    show brd_countGatesAndBits_73b v1 (x : Int) ((o + sW (fun r => A (p 1 r)) a k : Nat) : Int) ((p 4 x + sW (fun r => B (p 1 r)) a k : Nat) : Int) ((a + k : Nat) : Int) s = _
    unfold brd_countGatesAndBits_73b
    rw [gd_pos (by omega), gr (by omega), show ((x : Int) + 1).toNat = x + 1 by omega, he, gr (by omega), if_neg (by omega), gd_pos (by omega), Int.toNat_natCast, q1, gd_pos (by omega), Int.toNat_natCast, q5, q7, sW_s, sW_s]
    rw [show ((o + (sW (fun r => A (p 1 r)) a k + A (p 1 (a + k))) : Nat) : Int) = ((o + sW (fun r => A (p 1 r)) a k : Nat) : Int) + (A (p 1 (a + k)) : Int) by omega, show ((p 4 x + (sW (fun r => B (p 1 r)) a k + B (p 1 (a + k))) : Nat) : Int) = ((p 4 x + sW (fun r => B (p 1 r)) a k : Nat) : Int) + (B (p 1 (a + k)) : Int) by omega, show ((a + (k + 1) : Nat) : Int) = ((a + k : Nat) : Int) + 1 by omega]) (by
    rintro l rfl
    refine ⟨_, ?_, rfl⟩
    show brd_countGatesAndBits_73b v1 (x : Int) ((o + sW (fun r => A (p 1 r)) a n : Nat) : Int) ((p 4 x + sW (fun r => B (p 1 r)) a n : Nat) : Int) ((a + n : Nat) : Int) s = _
    unfold brd_countGatesAndBits_73b
    rw [gd_pos (by omega), gr (by omega), show ((x : Int) + 1).toNat = x + 1 by omega, he, gr (by omega), if_pos (by omega)]) n 0 ((o : Int), (p 4 x : Int), (a : Int), s) (by omega) rfl
  obtain ⟨e, l1, l2⟩ := L
  have sbn := sb n (Nat.le_refl _)
  obtain ⟨g1, hg1⟩ : ∃ g1, g1 = capN (o + sW (fun r => A (p 1 r)) a n) := ⟨_, rfl⟩
  obtain ⟨b1, hb1⟩ : ∃ b1, b1 = capN (p 4 x + sW (fun r => B (p 1 r)) a n) := ⟨_, rfl⟩
  have mn := fun (v : Nat) (u : iS) (hv : v ≤ 400000000) => min_cap (u := u) hv
  refine ⟨up (up s 109 x (g1 : Int)) 110 x (b1 : Int), ?_, ?_, fun c k c1 c2 => by rw [up_ne (by omega), up_ne (by omega)]⟩
  · have f133 : brd_countGatesAndBits_133 v1 (x : Int) ((o + sW (fun r => A (p 1 r)) a n : Nat) : Int) ((p 4 x + sW (fun r => B (p 1 r)) a n : Nat) : Int) s = some (.inl ((x : Int) + 1, up (up s 109 x (g1 : Int)) 110 x (b1 : Int))) := by
      unfold brd_countGatesAndBits_133
      rw [mn _ _ (by omega), bq, gd_pos (by omega), Int.toNat_natCast, ← hg1, lt_eq, mn _ _ (by omega), bq, ← hb1, lt_eq]
    have f73 : brd_countGatesAndBits_73 v1 (x : Int) (o : Int) (p 4 x : Int) (a : Int) s = some (.inl ((x : Int) + 1, up (up s 109 x (g1 : Int)) 110 x (b1 : Int))) := by
      unfold brd_countGatesAndBits_73
      rw [l1, l2, bn, ← f133]
    have f50 : brd_countGatesAndBits_50 v1 (x : Int) (o : Int) s = some (.inl ((x : Int) + 1, up (up s 109 x (g1 : Int)) 110 x (b1 : Int))) := by
      unfold brd_countGatesAndBits_50
      rw [gd_pos (by omega), gd_pos (by omega), Int.toNat_natCast, hP.2.1 x hx, ha]
      exact f73
    unfold brd_countGatesAndBits_26b
    rw [gr (by omega), h72, gr (by omega), if_neg (by omega)]
    by_cases c : x < 2
    · rw [if_neg (by omega), ← f50, ho, if_pos c]
      rfl
    · rw [if_pos (by omega), ← f50, ho, if_neg c]
      rfl
  · intro i hi
    obtain ⟨k1, k2, k3⟩ := hC i hi
    by_cases q : i = x
    · rw [q, up_ne (by omega), up_same, up_same]
      have gb : g1 ≤ 1000000 := by rw [hg1]; unfold capN; omega
      have bb : b1 ≤ 1000000 := by rw [hb1]; unfold capN; omega
      refine ⟨by omega, by omega, fun z => ?_⟩
      have fA : sW (fun r => A (p 1 r)) a n = sW (fun r => capN (p 12 (p 1 r))) a n := sW_cg n (fun k hk => by
        obtain ⟨q1, q2, q3⟩ := hr2 k hk
        have := ((hC _ q2).2.2 (Or.inl (by omega))).1
        rw [(ab _ q2).2.1] at this
        show A (p 1 (a + k)) = capN (p 12 (p 1 (a + k)))
        omega)
      have fB : sW (fun r => B (p 1 r)) a n = sW (fun r => capN (p 4 (p 1 r) + p 11 (p 1 r))) a n := sW_cg n (fun k hk => by
        obtain ⟨q1, q2, q3⟩ := hr2 k hk
        have := ((hC _ q2).2.2 (Or.inl (by omega))).2
        rw [(ab _ q2).2.2.2] at this
        show B (p 1 (a + k)) = capN (p 4 (p 1 (a + k)) + p 11 (p 1 (a + k)))
        omega)
      have e1 := cap_s (f := fun r => p 12 (p 1 r)) (a := a) (m := n) (o := o)
      have e2 := cap_s (f := fun r => p 4 (p 1 r) + p 11 (p 1 r)) (a := a) (m := n) (o := p 4 x)
      rw [hg1, hb1, fA, fB, e1, e2, hr3, hr4, ← ho]
      exact ⟨rfl, rfl⟩
    · rw [up_ne (by omega), up_ne (by omega), up_ne (by omega), up_ne (by omega)]
      exact ⟨k1, k2, fun z => k3 (by omega)⟩
theorem c_count (h : WFp p) (hP : PLC p s) (h72 : s 72 2 = ((2 + p 10 0 : Nat) : Int)) (h78 : s 78 0 = 0 ∧ s 78 1 = 0 ∧ p 0 0 = 0) (h13 : p 13 0 = 0 ∧ p 13 1 = 0) (h4 : ∀ i, i < 2 + p 10 0 → p 4 i ≤ 100000) : ∃ s', brd_countGatesAndBits s = some (0, s') ∧ (∀ i, i < 2 + p 10 0 → s' 109 i = (capN (p 12 i) : Int) ∧ s' 110 i = (capN (p 4 i + p 11 i) : Int)) ∧ ∀ c k, c ≠ 109 → c ≠ 110 → s' c k = s c k := by
  have c16 := h.1.2
  obtain ⟨s2, hs2⟩ : ∃ s2, s2 = sr (sr s 109 (fun i => if i < 18 then 0 else s 109 i)) 110 (fun i => if i < 18 then 0 else sr s 109 (fun i => if i < 18 then 0 else s 109 i) 110 i) := ⟨_, rfl⟩
  have n2 : ∀ c k, c ≠ 109 → c ≠ 110 → s2 c k = s c k := fun c k c1 c2 => by rw [hs2, sr_ne c2, sr_ne c1]
  have z2 : ∀ i, i < 18 → s2 109 i = 0 ∧ s2 110 i = 0 := fun i hi => by rw [hs2, sr_ne (by omega), sr_at, sr_at, if_pos hi, if_pos hi]; exact ⟨rfl, rfl⟩
  have L := lpG (f := fun l : Int × iS => brd_countGatesAndBits_18b (l.1) (l.2)) (M := 17) (I := fun r l => l.1 = (r : Int) ∧ CNi p r 0 l.2 ∧ ∀ c k, c ≠ 109 → c ≠ 110 → l.2 c k = s c k) (J := fun e => CNi p 17 0 e ∧ ∀ c k, c ≠ 109 → c ≠ 110 → e c k = s c k) (by
    rintro r ⟨v, u⟩ hr ⟨e, e1, e2⟩
    have e' : v = (r : Int) := e
    subst e'
    have e1' : CNi p r 0 u := e1
    have e2' : ∀ c k, c ≠ 109 → c ≠ 110 → u c k = s c k := e2
    have L2 := lpG (f := fun l : Int × iS => brd_countGatesAndBits_26b (r : Int) (l.1) (l.2)) (M := 2 + p 10 0) (I := fun x l => l.1 = (x : Int) ∧ CNi p r x l.2 ∧ ∀ c k, c ≠ 109 → c ≠ 110 → l.2 c k = s c k) (J := fun e => CNi p r (2 + p 10 0) e ∧ ∀ c k, c ≠ 109 → c ≠ 110 → e c k = s c k) (by
      rintro x ⟨w, q⟩ hx ⟨d, d1, d2⟩
      have d' : w = (x : Int) := d
      subst d'
      have d2' : ∀ c k, c ≠ 109 → c ≠ 110 → q c k = s c k := d2
      obtain ⟨q', a1, a2, a3⟩ := c_cnt1 (s := q) (v1 := (r : Int)) h (PLC_of hP (fun c k z => d2' c k (by omega) (by omega))) (by rw [d2' 72 2 (by omega) (by omega)]; exact h72) (by rw [d2' 78 0 (by omega) (by omega), d2' 78 1 (by omega) (by omega)]; exact h78) h13 h4 hx d1
      exact ⟨_, a1, by show (x : Int) + 1 = ((x + 1 : Nat) : Int); omega, a2, fun c k c1 c2 => by show q' c k = _; rw [a3 c k c1 c2]; exact d2' c k c1 c2⟩) (by
      rintro ⟨w, q⟩ ⟨d, d1, d2⟩
      have d' : w = ((2 + p 10 0 : Nat) : Int) := d
      subst d'
      have d2' : ∀ c k, c ≠ 109 → c ≠ 110 → q c k = s c k := d2
      refine ⟨q, ?_, d1, d2⟩
      show brd_countGatesAndBits_26b (r : Int) ((2 + p 10 0 : Nat) : Int) q = _
      unfold brd_countGatesAndBits_26b
      rw [gr (by omega), d2' 72 2 (by omega) (by omega), h72, gr (by omega), if_pos (by omega)]) (2 + p 10 0) 0 ((0 : Int), u) (by omega) ⟨rfl, e1', e2'⟩
    obtain ⟨q, f1, f2, f3⟩ := L2
    refine ⟨((r : Int) + 1, q), ?_, by show (r : Int) + 1 = ((r + 1 : Nat) : Int); omega, ?_, f3⟩
    · show brd_countGatesAndBits_18b (r : Int) u = _
      unfold brd_countGatesAndBits_18b
      rw [gr (by omega), if_neg (by omega)]
      unfold brd_countGatesAndBits_26
      rw [show lp (L := Int × iS) (E := iS) (fun l => brd_countGatesAndBits_26b (r : Int) (l.1) (l.2)) (0, u) = some q from f1, bn]
    · intro i hi
      obtain ⟨k1, k2, k3⟩ := f2 i hi
      exact ⟨k1, k2, fun z => k3 (by omega)⟩) (by
    rintro ⟨v, u⟩ ⟨e, e1, e2⟩
    have e' : v = ((17 : Nat) : Int) := e
    subst e'
    refine ⟨u, ?_, e1, e2⟩
    show brd_countGatesAndBits_18b ((17 : Nat) : Int) u = _
    unfold brd_countGatesAndBits_18b
    rw [gr (by omega), if_pos (by omega)]) 17 0 ((0 : Int), s2) (by omega) ⟨rfl, fun i hi => by
    obtain ⟨y1, y2⟩ := z2 i (by omega)
    show (0 ≤ s2 109 i ∧ s2 109 i ≤ 1000000) ∧ (0 ≤ s2 110 i ∧ s2 110 i ≤ 1000000) ∧ _
    rw [y1, y2]
    exact ⟨by omega, by omega, fun z => by omega⟩, n2⟩
  obtain ⟨s', l1, l2, l3⟩ := L
  refine ⟨s', ?_, fun i hi => ?_, l3⟩
  · unfold brd_countGatesAndBits
    rw [fill_ok (by omega), bq, fill_ok (by omega), bq, ← hs2]
    unfold brd_countGatesAndBits_18
    rw [show lp (L := Int × iS) (E := iS) (fun l => brd_countGatesAndBits_18b (l.1) (l.2)) (0, s2) = some s' from l1, bn]
  · refine (l2 i hi).2.2 (Or.inl ?_)
    by_cases c : i < 2
    · have : i = 0 ∨ i = 1 := by omega
      rcases this with q | q <;> rw [q]
      · omega
      · omega
    · have := (h.2.1 (i - 2) (by omega)).2.2.2.1
      rw [show 2 + (i - 2) = i by omega] at this
      omega
end CLg
