/-! chips: the class wires the board; the reference builds it -/
section CLe
variable {p ph : Nat → Nat → Nat} {s t s' t' t0 : iS} {nin nout : Nat} {wd : Nat → Nat} {c pf : Nat}
theorem sm_fst {a b : Int} {s s' : iS} (h : some (a, s) = some (b, s')) : a = b := (Prod.mk.inj (Option.some.inj h)).1
theorem TRc_of {z : Int} (h : s' 111 = s 111) : ∀ (m : Nat) (x : Int), TRc s z m x → TRc s' z m x
  | 0, _, e => e
  | m + 1, x, e => by
    obtain ⟨e1, e2⟩ := e
    refine ⟨e1, ?_⟩
    rw [h]
    exact TRc_of h m _ e2
/-- the IN pins of the board -/
theorem c_pins1 (h76 : s 76 (2 + c) = (pf : Int)) (h91 : ∀ k, k < nin → s 91 (pf + k) = (wd k : Int)) (h92 : ∀ k, k < nin → s 92 (pf + k) = ((sW wd 0 k : Nat) : Int)) (hw : ∀ k, k < nin → 1 ≤ wd k ∧ wd k ≤ 16) (hn : nin ≤ 12 ∧ pf + nin ≤ 197) (hc : c < 16) {K : iS → Option (Int × iS)} (hK : ∀ u, brd_wire_114 ((2 + c : Nat) : Int) ((pf : Int) + nin) u = K u) : ∃ s', brd_wire_46 ((2 + c : Nat) : Int) ((pf : Int) + nin) (pf : Int) s = K s' ∧ (∀ c' x, c' ≠ 111 → s' c' x = s c' x) ∧ (∀ k i, k < nin → i < wd k → s' 111 (sW wd 0 k + i) = -1 - ((2 + 16 * k + i : Nat) : Int)) ∧ ∀ x, sW wd 0 nin ≤ x → s' 111 x = s 111 x := by
  have L := lpG (f := fun l : Int × iS => brd_wire_46b ((2 + c : Nat) : Int) ((pf : Int) + nin) (l.1) (l.2)) (M := nin) (I := fun k l => l.1 = (pf : Int) + k ∧ (∀ c' x, c' ≠ 111 → l.2 c' x = s c' x) ∧ (∀ k' i, k' < k → i < wd k' → l.2 111 (sW wd 0 k' + i) = -1 - ((2 + 16 * k' + i : Nat) : Int)) ∧ ∀ x, sW wd 0 k ≤ x → l.2 111 x = s 111 x) (J := fun e => (∀ c' x, c' ≠ 111 → e c' x = s c' x) ∧ (∀ k' i, k' < nin → i < wd k' → e 111 (sW wd 0 k' + i) = -1 - ((2 + 16 * k' + i : Nat) : Int)) ∧ ∀ x, sW wd 0 nin ≤ x → e 111 x = s 111 x) (by
    rintro k ⟨v, u⟩ hk ⟨e, e1, e2, e3⟩
    have e' : v = (pf : Int) + k := e
    subst e'
    have e1' : ∀ c' x, c' ≠ 111 → u c' x = s c' x := e1
    have e2' : ∀ k' i, k' < k → i < wd k' → u 111 (sW wd 0 k' + i) = -1 - ((2 + 16 * k' + i : Nat) : Int) := e2
    have e3' : ∀ x, sW wd 0 k ≤ x → u 111 x = s 111 x := e3
    have ww := hw k hk
    have sl : sW wd 0 k ≤ 16 * k := by
      have go : ∀ k, k ≤ nin → sW wd 0 k ≤ 16 * k := by
        intro k
        induction k with
        | zero => intro _; exact Nat.le_refl _
        | succ k ih =>
          intro hk
          have := ih (by omega)
          have := (hw k (by omega)).2
          rw [sW_s, Nat.zero_add]
          omega
      exact go k (by omega)
    have L2 := lpG (f := fun l : Int × iS => brd_wire_54b ((2 + c : Nat) : Int) ((pf : Int) + nin) ((pf : Int) + k) (l.1) (l.2)) (M := wd k) (I := fun i l => l.1 = (i : Int) ∧ (∀ c' x, c' ≠ 111 → l.2 c' x = u c' x) ∧ (∀ j, j < i → l.2 111 (sW wd 0 k + j) = -1 - ((2 + 16 * k + j : Nat) : Int)) ∧ ∀ x, ¬ (sW wd 0 k ≤ x ∧ x < sW wd 0 k + i) → l.2 111 x = u 111 x) (J := fun e => (∀ c' x, c' ≠ 111 → e c' x = u c' x) ∧ (∀ j, j < wd k → e 111 (sW wd 0 k + j) = -1 - ((2 + 16 * k + j : Nat) : Int)) ∧ ∀ x, ¬ (sW wd 0 k ≤ x ∧ x < sW wd 0 k + wd k) → e 111 x = u 111 x) (by
      rintro i ⟨v, r⟩ hi ⟨d, d1, d2, d3⟩
      have d' : v = (i : Int) := d
      subst d'
      have d1' : ∀ c' x, c' ≠ 111 → r c' x = u c' x := d1
      have d2' : ∀ j, j < i → r 111 (sW wd 0 k + j) = -1 - ((2 + 16 * k + j : Nat) : Int) := d2
      have d3' : ∀ x, ¬ (sW wd 0 k ≤ x ∧ x < sW wd 0 k + i) → r 111 x = u 111 x := d3
      refine ⟨((i : Int) + 1, up r 111 (sW wd 0 k + i) (-1 - ((2 + 16 * k + i : Nat) : Int))), ?_, by show (i : Int) + 1 = ((i + 1 : Nat) : Int); omega, ?_, ?_, ?_⟩
      · show brd_wire_54b ((2 + c : Nat) : Int) ((pf : Int) + nin) ((pf : Int) + k) (i : Int) r = _
        unfold brd_wire_54b brd_slotOf brd_give brd_join
        rw [gd_pos (by omega), gr (by omega), show ((pf : Int) + k).toNat = pf + k by omega, d1' 91 _ (by omega), e1' 91 _ (by omega), h91 k hk, gr (by omega), if_neg (by omega), gd_pos (by omega), Int.toNat_natCast, d1' 76 _ (by omega), e1' 76 _ (by omega), h76, bq, d1' 92 _ (by omega), e1' 92 _ (by omega), h92 k hk, gr (by omega), if_neg (by omega), if_neg (by omega), gd_pos (by omega), lt_eq, bq, bq, show (((sW wd 0 k : Nat) : Int) + (i : Int)).toNat = sW wd 0 k + i by omega, show -1 - (2 + (16 * ((pf : Int) + k - pf) + (i : Int))) = -1 - ((2 + 16 * k + i : Nat) : Int) by omega]
      · intro c' x hc'
        show up r 111 _ _ c' x = _
        rw [up_ne (by omega)]
        exact d1' c' x hc'
      · intro j hj
        show up r 111 _ _ 111 _ = _
        by_cases q : j = i
        · rw [q, up_same]
        · rw [up_ne (by omega)]
          exact d2' j (by omega)
      · intro x hx
        show up r 111 _ _ 111 x = _
        rw [up_ne (by omega)]
        exact d3' x (by omega)) (by
      rintro ⟨v, r⟩ ⟨d, d1, d2, d3⟩
      have d' : v = (wd k : Int) := d
      subst d'
      have d1' : ∀ c' x, c' ≠ 111 → r c' x = u c' x := d1
      refine ⟨r, ?_, d1, d2, d3⟩
      show brd_wire_54b ((2 + c : Nat) : Int) ((pf : Int) + nin) ((pf : Int) + k) (wd k : Int) r = _
      unfold brd_wire_54b
      rw [gd_pos (by omega), gr (by omega), show ((pf : Int) + k).toNat = pf + k by omega, d1' 91 _ (by omega), e1' 91 _ (by omega), h91 k hk, gr (by omega), if_pos (by omega)]) (wd k) 0 ((0 : Int), u) (by omega) ⟨rfl, fun _ _ _ => rfl, fun j hj => absurd hj (Nat.not_lt_zero j), fun _ _ => rfl⟩
    obtain ⟨r, f1, f2, f3, f4⟩ := L2
    refine ⟨((pf : Int) + k + 1, r), ?_, by show (pf : Int) + k + 1 = (pf : Int) + ((k + 1 : Nat) : Int); omega, ?_, ?_, ?_⟩
    · show brd_wire_46b ((2 + c : Nat) : Int) ((pf : Int) + nin) ((pf : Int) + k) u = _
      unfold brd_wire_46b
      rw [gr (by omega), gr (by omega), if_neg (by omega)]
      unfold brd_wire_54
      rw [show lp (L := Int × iS) (E := iS) (fun l => brd_wire_54b ((2 + c : Nat) : Int) ((pf : Int) + nin) ((pf : Int) + k) (l.1) (l.2)) (0, u) = some r from f1, bn]
    · intro c' x hc'
      show r c' x = _
      rw [f2 c' x hc']
      exact e1' c' x hc'
    · intro k' i hk' hi
      show r 111 _ = _
      by_cases q : k' = k
      · rw [q] at hi ⊢
        exact f3 i hi
      · have := sW_lt (f := wd) (a := 0) (show k' < k by omega) (by rw [Nat.zero_add]; exact hi)
        rw [f4 _ (by omega)]
        exact e2' k' i (by omega) hi
    · intro x hx
      show r 111 x = _
      rw [sW_s, Nat.zero_add] at hx
      rw [f4 x (by omega)]
      exact e3' x (by omega)) (by
    rintro ⟨v, u⟩ ⟨e, e1, e2, e3⟩
    have e' : v = (pf : Int) + nin := e
    subst e'
    refine ⟨u, ?_, e1, e2, e3⟩
    show brd_wire_46b ((2 + c : Nat) : Int) ((pf : Int) + nin) ((pf : Int) + nin) u = _
    unfold brd_wire_46b
    rw [gr (by omega), gr (by omega), if_pos (by omega)]) nin 0 ((pf : Int), s) (by omega) ⟨by show (pf : Int) = (pf : Int) + ((0 : Nat) : Int); omega, fun _ _ _ => rfl, fun k' i hk' => absurd hk' (Nat.not_lt_zero k'), fun _ _ => rfl⟩
  obtain ⟨r, l1, l2, l3, l4⟩ := L
  refine ⟨r, ?_, l2, l3, l4⟩
  unfold brd_wire_46
  rw [l1, bn]
  exact hK r
/-- the class leads the inputs of the gates back -/
theorem c_trs {n : Nat} (hn : n ≤ 1500) (h14 : s 108 14 = (n : Int)) {v1 v2 : Int} (hg : ∀ x, x < n → (∃ z m, m ≤ 1000 ∧ TRc s z m (s 113 x)) ∧ (s 114 x = -1 ∨ 0 ≤ s 114 x ∧ s 114 x < 40000 ∧ ∃ z m, m ≤ 1000 ∧ TRc s z m (s 114 x))) : ∃ s', brd_wire_123 v1 v2 0 s = brd_wire_183 v1 v2 s' ∧ (∀ x, x < n → (∀ z m, m ≤ 1000 → TRc s z m (s 113 x) → s' 113 x = z) ∧ (s 114 x = -1 → s' 114 x = -1) ∧ (s 114 x ≠ -1 → ∀ z m, m ≤ 1000 → TRc s z m (s 114 x) → s' 114 x = z)) ∧ ∀ c' x, c' ≠ 113 → c' ≠ 114 → s' c' x = s c' x := by
  have L := lpG (f := fun l : Int × iS => brd_wire_123b v1 v2 (l.1) (l.2)) (M := n) (I := fun x l => l.1 = (x : Int) ∧ (∀ y, y < x → (∀ z m, m ≤ 1000 → TRc s z m (s 113 y) → l.2 113 y = z) ∧ (s 114 y = -1 → l.2 114 y = -1) ∧ (s 114 y ≠ -1 → ∀ z m, m ≤ 1000 → TRc s z m (s 114 y) → l.2 114 y = z)) ∧ (∀ y, x ≤ y → l.2 113 y = s 113 y ∧ l.2 114 y = s 114 y) ∧ ∀ c' y, c' ≠ 113 → c' ≠ 114 → l.2 c' y = s c' y) (J := fun e => (∀ y, y < n → (∀ z m, m ≤ 1000 → TRc s z m (s 113 y) → e 113 y = z) ∧ (s 114 y = -1 → e 114 y = -1) ∧ (s 114 y ≠ -1 → ∀ z m, m ≤ 1000 → TRc s z m (s 114 y) → e 114 y = z)) ∧ ∀ c' y, c' ≠ 113 → c' ≠ 114 → e c' y = s c' y) (by
    rintro x ⟨v, u⟩ hx ⟨e, e1, e2, e3⟩
    have e' : v = (x : Int) := e
    subst e'
    have e1' : ∀ y, y < x → (∀ z m, m ≤ 1000 → TRc s z m (s 113 y) → u 113 y = z) ∧ (s 114 y = -1 → u 114 y = -1) ∧ (s 114 y ≠ -1 → ∀ z m, m ≤ 1000 → TRc s z m (s 114 y) → u 114 y = z) := e1
    have e2' : ∀ y, x ≤ y → u 113 y = s 113 y ∧ u 114 y = s 114 y := e2
    have e3' : ∀ c' y, c' ≠ 113 → c' ≠ 114 → u c' y = s c' y := e3
    have u14 : u 108 14 = (n : Int) := by rw [e3' 108 14 (by omega) (by omega)]; exact h14
    have u111 : u 111 = s 111 := funext fun k => e3' 111 k (by omega) (by omega)
    obtain ⟨⟨z1, m1, q1, q2⟩, g2⟩ := hg x hx
    obtain ⟨x3, x4⟩ := e2' x (Nat.le_refl _)
    have tr : ∀ (r : iS) (z : Int) (m : Nat) (y : Int), r 111 = s 111 → m ≤ 1000 → TRc s z m y → brd_traceBack y r = some (z, r) := fun r z m y hr hm ht => by
      unfold brd_traceBack
      exact c_trc m y 0 (TRc_of hr m y ht) (by omega) (by omega)
    have u2 : (up u 113 x z1) 111 = s 111 := by rw [up_cell (by omega)]; exact u111
    obtain ⟨z2, hz2, hz3⟩ : ∃ z2, brd_wire_123b v1 v2 (x : Int) u = some (.inl ((x : Int) + 1, up (up u 113 x z1) 114 x z2)) ∧ (s 114 x = -1 → z2 = -1) ∧ (s 114 x ≠ -1 → ∀ z m, m ≤ 1000 → TRc s z m (s 114 x) → z2 = z) := by
      have st : brd_wire_123b v1 v2 (x : Int) u = gd (rg (s 114 x)) (if s 114 x = (-1) then brd_wire_176 v1 v2 (x : Int) (-1) (x : Int) (up u 113 x z1) else bd (brd_traceBack (s 114 x) (up u 113 x z1)) (fun r9 s9 => brd_wire_176 v1 v2 (x : Int) r9 (x : Int) s9)) := by
        unfold brd_wire_123b
        rw [gr (by omega), u14, gr (by omega), if_neg (by omega), gd_pos (by omega), Int.toNat_natCast, x3, tr u z1 m1 _ u111 q1 q2, bq, lt_eq, show up u 113 x z1 114 x = s 114 x by rw [up_ne (by omega)]; exact x4]
      have fin : ∀ w : Int, brd_wire_176 v1 v2 (x : Int) w (x : Int) (up u 113 x z1) = some (.inl ((x : Int) + 1, up (up u 113 x z1) 114 x w)) := fun w => by
        unfold brd_wire_176
        rw [gd_pos (by omega), Int.toNat_natCast, lt_eq]
      rw [st]
      rcases g2 with c | ⟨c1, c2, z2, m2, c3, c4⟩
      · refine ⟨-1, ?_, fun _ => rfl, fun q => absurd c q⟩
        rw [c, gr (by omega), if_pos rfl, fin]
      · refine ⟨z2, ?_, fun q => by omega, fun _ z m hm ht => ?_⟩
        · rw [gr (by omega), if_neg (by omega), tr _ z2 m2 _ u2 c3 c4, bq, fin]
        · have a := tr s z m _ rfl hm ht
          have b := tr s z2 m2 _ rfl c3 c4
          rw [a] at b
          exact (sm_fst b).symm
    refine ⟨_, hz2, by show (x : Int) + 1 = ((x + 1 : Nat) : Int); omega, ?_, ?_, ?_⟩
    · intro y hy
      show (∀ z m, m ≤ 1000 → TRc s z m (s 113 y) → up (up u 113 x z1) 114 x z2 113 y = z) ∧ (s 114 y = -1 → up (up u 113 x z1) 114 x z2 114 y = -1) ∧ (s 114 y ≠ -1 → ∀ z m, m ≤ 1000 → TRc s z m (s 114 y) → up (up u 113 x z1) 114 x z2 114 y = z)
      by_cases q : y = x
      · rw [q, up_ne (by omega), up_same, up_same]
        refine ⟨fun z m hm ht => ?_, hz3⟩
        have a := tr s z m _ rfl hm ht
        have b := tr s z1 m1 _ rfl q1 q2
        rw [a] at b
        exact (sm_fst b).symm
      · rw [up_ne (by omega), up_ne (by omega), up_ne (by omega), up_ne (by omega)]
        exact e1' y (by omega)
    · intro y hy
      show up (up u 113 x z1) 114 x z2 113 y = _ ∧ up (up u 113 x z1) 114 x z2 114 y = _
      rw [up_ne (by omega), up_ne (by omega), up_ne (by omega), up_ne (by omega)]
      exact e2' y (by omega)
    · intro c' y c1 c2
      show up (up u 113 x z1) 114 x z2 c' y = _
      rw [up_ne (by omega), up_ne (by omega)]
      exact e3' c' y c1 c2) (by
    rintro ⟨v, u⟩ ⟨e, e1, e2, e3⟩
    have e' : v = (n : Int) := e
    subst e'
    have e3' : ∀ c' y, c' ≠ 113 → c' ≠ 114 → u c' y = s c' y := e3
    refine ⟨u, ?_, e1, e3⟩
    show brd_wire_123b v1 v2 (n : Int) u = _
    unfold brd_wire_123b
    rw [gr (by omega), e3' 108 14 (by omega) (by omega), h14, gr (by omega), if_pos (by omega)]) n 0 ((0 : Int), s) (by omega) ⟨rfl, fun y hy => absurd hy (Nat.not_lt_zero y), fun _ _ => ⟨rfl, rfl⟩, fun _ _ _ _ => rfl⟩
  obtain ⟨s', l1, l2, l3⟩ := L
  refine ⟨s', ?_, l2, l3⟩
  unfold brd_wire_123
  rw [show lp (L := Int × iS) (E := iS) (fun l => brd_wire_123b v1 v2 (l.1) (l.2)) (0, s) = some s' from l1, bn]
/-- the OUT pins of the board -/
theorem c_outs (h76 : s 76 (2 + c + 1) = (pf : Int) + nin + nout) (h91 : ∀ k, k < nin + nout → s 91 (pf + k) = (wd k : Int)) (h92 : ∀ k, k < nin + nout → s 92 (pf + k) = ((sW wd 0 k : Nat) : Int)) (hw : ∀ k, k < nin + nout → 1 ≤ wd k ∧ wd k ≤ 16) (hn : nin + nout ≤ 12 ∧ pf + nin + nout ≤ 197) (hc : c < 16) (ht : ∀ k i, k < nout → i < wd (nin + k) → ∃ z m, m ≤ 1000 ∧ TRc s z m ((sW wd 0 (nin + k) + i : Nat) : Int)) : ∃ s', brd_wire_183 ((2 + c : Nat) : Int) ((pf : Int) + nin) s = some (0, s') ∧ (∀ c' x, c' ≠ 115 → s' c' x = s c' x) ∧ ∀ k i, k < nout → i < wd (nin + k) → ∀ z m, m ≤ 1000 → TRc s z m ((sW wd 0 (nin + k) + i : Nat) : Int) → s' 115 (16 * k + i) = z := by
  have tr : ∀ (r : iS) (z : Int) (m : Nat) (y : Int), r 111 = s 111 → m ≤ 1000 → TRc s z m y → brd_traceBack y r = some (z, r) := fun r z m y hr hm ht => by
    unfold brd_traceBack
    exact c_trc m y 0 (TRc_of hr m y ht) (by omega) (by omega)
  have uni : ∀ z z' m m' y, m ≤ 1000 → m' ≤ 1000 → TRc s z m y → TRc s z' m' y → z = z' := fun z z' m m' y h1 h2 h3 h4 => by
    have a := tr s z m y rfl h1 h3
    have b := tr s z' m' y rfl h2 h4
    rw [a] at b
    exact sm_fst b
  have L := lpG (f := fun l : Int × iS => brd_wire_185b ((2 + c : Nat) : Int) ((pf : Int) + nin) (l.1) (l.2)) (M := nout) (I := fun k l => l.1 = (pf : Int) + nin + k ∧ (∀ c' x, c' ≠ 115 → l.2 c' x = s c' x) ∧ ∀ k' i, k' < k → i < wd (nin + k') → ∀ z m, m ≤ 1000 → TRc s z m ((sW wd 0 (nin + k') + i : Nat) : Int) → l.2 115 (16 * k' + i) = z) (J := fun e => (∀ c' x, c' ≠ 115 → e c' x = s c' x) ∧ ∀ k' i, k' < nout → i < wd (nin + k') → ∀ z m, m ≤ 1000 → TRc s z m ((sW wd 0 (nin + k') + i : Nat) : Int) → e 115 (16 * k' + i) = z) (by
    rintro k ⟨v, u⟩ hk ⟨e, e1, e2⟩
    have e' : v = (pf : Int) + nin + k := e
    subst e'
    have e1' : ∀ c' x, c' ≠ 115 → u c' x = s c' x := e1
    have e2' : ∀ k' i, k' < k → i < wd (nin + k') → ∀ z m, m ≤ 1000 → TRc s z m ((sW wd 0 (nin + k') + i : Nat) : Int) → u 115 (16 * k' + i) = z := e2
    have ww := hw (nin + k) (by omega)
    have L2 := lpG (f := fun l : Int × iS => brd_wire_203b ((2 + c : Nat) : Int) ((pf : Int) + nin) ((pf : Int) + nin + k) (l.1) (l.2)) (M := wd (nin + k)) (I := fun i l => l.1 = (i : Int) ∧ (∀ c' x, ¬ (c' = 115 ∧ 16 * k ≤ x ∧ x < 16 * k + 16) → l.2 c' x = u c' x) ∧ ∀ j, j < i → ∀ z m, m ≤ 1000 → TRc s z m ((sW wd 0 (nin + k) + j : Nat) : Int) → l.2 115 (16 * k + j) = z) (J := fun e => (∀ c' x, ¬ (c' = 115 ∧ 16 * k ≤ x ∧ x < 16 * k + 16) → e c' x = u c' x) ∧ ∀ j, j < wd (nin + k) → ∀ z m, m ≤ 1000 → TRc s z m ((sW wd 0 (nin + k) + j : Nat) : Int) → e 115 (16 * k + j) = z) (by
      rintro i ⟨v, r⟩ hi ⟨d, d1, d2⟩
      have d' : v = (i : Int) := d
      subst d'
      have d1' : ∀ c' x, ¬ (c' = 115 ∧ 16 * k ≤ x ∧ x < 16 * k + 16) → r c' x = u c' x := d1
      have d2' : ∀ j, j < i → ∀ z m, m ≤ 1000 → TRc s z m ((sW wd 0 (nin + k) + j : Nat) : Int) → r 115 (16 * k + j) = z := d2
      have g : ∀ c' x, c' ≠ 115 → r c' x = s c' x := fun c' x hc' => by rw [d1' c' x (by omega)]; exact e1' c' x hc'
      obtain ⟨z, m, hm, hz⟩ := ht k i hk hi
      refine ⟨((i : Int) + 1, up r 115 (16 * k + i) z), ?_, by show (i : Int) + 1 = ((i + 1 : Nat) : Int); omega, ?_, ?_⟩
      · show brd_wire_203b ((2 + c : Nat) : Int) ((pf : Int) + nin) ((pf : Int) + nin + k) (i : Int) r = _
        unfold brd_wire_203b brd_slotOf
        rw [gd_pos (by omega), gr (by omega), show ((pf : Int) + nin + k).toNat = pf + (nin + k) by omega, g 91 _ (by omega), h91 _ (by omega), gr (by omega), if_neg (by omega), bq, g 92 _ (by omega), h92 _ (by omega), show (((sW wd 0 (nin + k) : Nat) : Int) + (i : Int)) = ((sW wd 0 (nin + k) + i : Nat) : Int) by omega, tr r z m _ (funext fun x => g 111 x (by omega)) hm hz, bq, gd_pos (by omega), lt_eq, show (16 * ((pf : Int) + nin + k - ((pf : Int) + nin)) + (i : Int)).toNat = 16 * k + i by omega]
      · intro c' x hx
        show up r 115 _ _ c' x = _
        rw [up_ne (by omega)]
        exact d1' c' x hx
      · intro j hj z' m' hm' hz'
        show up r 115 _ _ 115 _ = _
        by_cases q : j = i
        · rw [q] at hz' ⊢
          rw [up_same]
          exact uni _ _ _ _ _ hm hm' hz hz'
        · rw [up_ne (by omega)]
          exact d2' j (by omega) z' m' hm' hz') (by
      rintro ⟨v, r⟩ ⟨d, d1, d2⟩
      have d' : v = (wd (nin + k) : Int) := d
      subst d'
      have d1' : ∀ c' x, ¬ (c' = 115 ∧ 16 * k ≤ x ∧ x < 16 * k + 16) → r c' x = u c' x := d1
      refine ⟨r, ?_, d1, d2⟩
      show brd_wire_203b ((2 + c : Nat) : Int) ((pf : Int) + nin) ((pf : Int) + nin + k) (wd (nin + k) : Int) r = _
      unfold brd_wire_203b
      rw [gd_pos (by omega), gr (by omega), show ((pf : Int) + nin + k).toNat = pf + (nin + k) by omega, d1' 91 _ (by omega), e1' 91 _ (by omega), h91 _ (by omega), gr (by omega), if_pos (by omega)]) (wd (nin + k)) 0 ((0 : Int), u) (by omega) ⟨rfl, fun _ _ _ => rfl, fun j hj => absurd hj (Nat.not_lt_zero j)⟩
    obtain ⟨r, f1, f2, f3⟩ := L2
    refine ⟨((pf : Int) + nin + k + 1, r), ?_, by show (pf : Int) + nin + k + 1 = (pf : Int) + nin + ((k + 1 : Nat) : Int); omega, ?_, ?_⟩
    · show brd_wire_185b ((2 + c : Nat) : Int) ((pf : Int) + nin) ((pf : Int) + nin + k) u = _
      unfold brd_wire_185b
      rw [gd_pos (by omega), gr (by omega), show (((2 + c : Nat) : Int) + 1).toNat = 2 + c + 1 by omega, e1' 76 _ (by omega), h76, gr (by omega), if_neg (by omega)]
      unfold brd_wire_203
      rw [show lp (L := Int × iS) (E := iS) (fun l => brd_wire_203b ((2 + c : Nat) : Int) ((pf : Int) + nin) ((pf : Int) + nin + k) (l.1) (l.2)) (0, u) = some r from f1, bn]
    · intro c' x hc'
      show r c' x = _
      rw [f2 c' x (by omega)]
      exact e1' c' x hc'
    · intro k' i hk' hi z m hm hz
      show r 115 _ = _
      by_cases q : k' = k
      · rw [q] at hi hz ⊢
        exact f3 i hi z m hm hz
      · have := hw (nin + k') (by omega)
        rw [f2 115 _ (by omega)]
        exact e2' k' i (by omega) hi z m hm hz) (by
    rintro ⟨v, u⟩ ⟨e, e1, e2⟩
    have e' : v = (pf : Int) + nin + nout := e
    subst e'
    have e1' : ∀ c' x, c' ≠ 115 → u c' x = s c' x := e1
    refine ⟨u, ?_, e1, e2⟩
    show brd_wire_185b ((2 + c : Nat) : Int) ((pf : Int) + nin) ((pf : Int) + nin + nout) u = _
    unfold brd_wire_185b
    rw [gd_pos (by omega), gr (by omega), show (((2 + c : Nat) : Int) + 1).toNat = 2 + c + 1 by omega, e1' 76 _ (by omega), h76, gr (by omega), if_pos (by omega)]) nout 0 ((pf : Int) + nin, s) (by omega) ⟨by show (pf : Int) + nin = (pf : Int) + nin + ((0 : Nat) : Int); omega, fun _ _ _ => rfl, fun k' i hk' => absurd hk' (Nat.not_lt_zero k')⟩
  obtain ⟨r, l1, l2, l3⟩ := L
  refine ⟨r, ?_, l2, l3⟩
  unfold brd_wire_183 brd_wire_185
  rw [l1, bn]
end CLe
