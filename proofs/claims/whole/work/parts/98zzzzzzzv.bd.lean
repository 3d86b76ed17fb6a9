/-! chips: tick and gates of both -/
section CKq
variable {n m nin nout : Nat} {g d ob wd : Nat → Nat} {lc pf pf' : Nat} {O O' : List Nat} {s t s' t' : iS} {T T' : Nat}
theorem tick_ok (h : QBd T s t) (hT : T < 1000000) : ∃ r s' t', x_tick s = some (r, s') ∧ m_tick t = some (r, t') ∧ rg r ∧ QBd (T + 1) s' t' := by
  rcases h with ⟨a1, a2, a3, a4⟩ | ⟨n, m, nin, nout, g, d, ob, wd, lc, pf, pf', O, O', hB⟩
  · refine ⟨-1, s, t, ?_, ?_, ⟨by omega, by omega⟩, Or.inl ⟨a1, a2, a3, a4⟩⟩
    · unfold x_tick brd_clock
      rw [a1, gr (by omega), if_pos rfl, bq]
    · unfold m_tick
      rw [a2, gr (by omega), if_pos rfl]
  · have hB0 := hB
    obtain ⟨b1, b2, b3, b4, b5, ⟨b6, b6'⟩, b7, b8, b9⟩ := hB
    have b10 := b1
    obtain ⟨⟨c1, c2, c3⟩, ⟨c4, c5⟩, ⟨c6, c7, c8, c9⟩, cg, cx⟩ := b1
    have v01 := b4.2.2.2.2
    have dff : ∀ x, x < n → s 114 x = -1 → t 224 (g x) = 1 ∧ t 225 (g x) + 1 = (ob x : Int) := fun x hx e => by
      rcases (cx x hx).1 with ⟨q1, q2, q3⟩ | ⟨q1, q2, q3⟩
      · have := (SG_rg b10 q3).1
        omega
      · exact ⟨q1, q2⟩
    have dff' : ∀ y, y < n → t 224 y ≠ 0 → s 114 (d y) = -1 ∧ d y < n ∧ g (d y) = y ∧ t 225 y + 1 = (ob (d y) : Int) ∧ t 223 (ob (d y)) = (y : Int) + 1 ∧ ob (d y) < m := fun y hy e => by
      obtain ⟨-, -, g3, g4⟩ := cg y hy
      obtain ⟨q, ⟨o1, o2, o3⟩, -⟩ := cx (d y) g3
      rw [g4] at q o3
      rcases q with ⟨q1, q2, q3⟩ | ⟨q1, q2, q3⟩
      · exact absurd q1 e
      · exact ⟨q3, g3, g4, q2, o3, o1⟩
    have hA : ∀ x, x < n → (0 ≤ s 113 x ∧ s 113 x < 1694) ∧ -1 ≤ s 114 x ∧ s 114 x < 1694 := fun x hx => by
      obtain ⟨q, -, o4⟩ := cx x hx
      refine ⟨(SG_rg b10 o4).1, ?_⟩
      rcases q with ⟨q1, q2, q3⟩ | ⟨q1, q2, q3⟩
      · have := (SG_rg b10 q3).1
        omega
      · omega
    have val : ∀ x, x < n → s 112 (s 113 x).toNat = rvl t (t 228 (g x)) := fun x hx => SG_val b10 b4 (fun _ _ _ => trivial) (cx x hx).2.2
    have val' : ∀ y, y < n → rvl t (t 228 y) = 0 ∨ rvl t (t 228 y) = 1 := fun y hy => by
      obtain ⟨-, -, g3, g4⟩ := cg y hy
      have := val (d y) g3
      rw [g4] at this
      rw [← this]
      have r := (hA (d y) g3).1
      exact v01 _ (by omega)
    have ov : ∀ x, x < n → s 112 (194 + x) = t 230 (ob x) := fun x hx => b4.2.2.2.1 x hx trivial
    obtain ⟨s1, d1, d2, d3, d4⟩ := c_tick c1 c3 b6 hA v01
    obtain ⟨t1, e1, e2, e3, e4⟩ := r_tick (n := n) c2 c3 b6' (fun y hy => by
      obtain ⟨-, -, g3, g4⟩ := cg y hy
      obtain ⟨q, ⟨o1, o2, o3⟩, o4⟩ := cx (d y) g3
      rw [g4] at q o2 o4
      refine ⟨(SG_rg b10 o4).2, ?_, o2, ?_⟩
      · rcases q with ⟨q1, -, -⟩ | ⟨q1, -, -⟩
        · exact Or.inl q1
        · exact Or.inr q1
      · rcases q with ⟨q1, q2, -⟩ | ⟨q1, q2, -⟩ <;> omega) (fun y hy e => by
      obtain ⟨-, f1, -, f3, -, -⟩ := dff' y hy e
      rw [f3, Int.toNat_natCast, ← ov _ f1]
      have := v01 (194 + d y) (by omega)
      exact ⟨by omega, by omega⟩) (fun y hy => by
      have := val' y hy
      exact ⟨by omega, by omega⟩) (fun x y hx hy ex ey e => by
      obtain ⟨-, -, -, f3, f4, -⟩ := dff' x hx ex
      obtain ⟨-, -, -, h3, h4, -⟩ := dff' y hy ey
      have : ob (d x) = ob (d y) := by omega
      rw [this] at f4
      omega)
    have cnt : isum (chR' t) (List.range n) = isum (chC s) (List.range n) := by
      rw [← isum_p (rng_p cg)]
      refine isum_m (fun x hx => ?_)
      have hx := List.mem_range.mp hx
      unfold chR' chC
      by_cases q : s 114 x = -1
      · obtain ⟨q1, q2⟩ := dff x hx q
        rw [q1, q2, Int.toNat_natCast, ← ov x hx, ← val x hx]
        by_cases z : s 112 (194 + x) = s 112 (s 113 x).toNat
        · rw [if_neg (fun y => y.2 z), if_neg (fun y => y.2 z)]
        · rw [if_pos ⟨by omega, z⟩, if_pos ⟨q, z⟩]
      · have q0 : t 224 (g x) = 0 := by
          rcases (cx x hx).1 with ⟨q1, q2, q3⟩ | ⟨q1, q2, q3⟩
          · exact q1
          · exact absurd q3 q
        rw [if_neg (fun y => y.1 q0), if_neg (fun y => q y.1)]
    obtain ⟨s2, hs2⟩ : ∃ s2, s2 = up s1 108 17 (s1 108 17 + 1) := ⟨_, rfl⟩
    obtain ⟨t2, ht2⟩ : ∃ t2, t2 = up t1 121 173 (t1 121 173 + 1) := ⟨_, rfl⟩
    have notP : ∀ k : Nat, t 223 k = 0 → ∀ x, x < n → t 224 x ≠ 0 → k ≠ (t 225 x + 1).toNat := fun k hk x hx ex q => by
      obtain ⟨-, -, -, f3, f4, -⟩ := dff' x hx ex
      have : k = ob (d x) := by omega
      rw [this] at hk
      omega
    have hv : VAL n m nin ob wd (fun x => s 114 x = -1) s2 t2 := by
      obtain ⟨⟨v1, v2⟩, v3, v4, v5, v6⟩ := b4
      have s112 : ∀ k, s2 112 k = s1 112 k := fun k => by rw [hs2, up_ne (by omega)]
      have t230 : ∀ k, t2 230 k = t1 230 k := fun k => by rw [ht2, up_ne (by omega)]
      refine ⟨⟨by rw [s112, d3 0 (fun x _ _ => by omega)]; exact v1, by rw [s112, d3 1 (fun x _ _ => by omega)]; exact v2⟩, ?_, ?_, ?_, ?_⟩
      · intro k i k1 i1
        have wk := c7 k k1
        have l := sW_lt (f := wd) (a := 0) k1 (by rw [Nat.zero_add]; exact i1)
        rw [s112, t230, d3 _ (fun x _ _ => by omega), e3 _ (notP _ (c9 _ l))]
        exact v3 k i k1 i1
      · intro x x1 x2 x3
        have x3' : t 223 x = 0 := by rw [← x3, ht2, up_ne (by omega), e4 223 x (by omega) (by omega)]
        rw [t230, e3 _ (notP _ x3')]
        exact v4 x x1 x2 x3'
      · intro x hx q
        obtain ⟨q1, q2⟩ := dff x hx q
        have := e2 (g x) (cg x hx).1 (by omega)
        rw [q2, Int.toNat_natCast] at this
        rw [s112, t230, d2 x hx q, this]
        exact val x hx
      · intro k hk
        rw [s112]
        by_cases q : ∃ x, x < n ∧ s 114 x = -1 ∧ k = 194 + x
        · obtain ⟨x, x1, x2, x3⟩ := q
          rw [x3, d2 x x1 x2]
          have := (hA x x1).1
          exact v6 _ (by omega)
        · rw [d3 k (fun x x1 x2 x3 => q ⟨x, x1, x2, x3⟩)]
          exact v6 k hk
    obtain ⟨s', t', f1, f2, f3⟩ := settle_br (T' := T + 1) hB0 (s1 := s2) (t1 := t2) (fun c k k1 k2 k3 => by rw [hs2, up_ne (by omega)]; exact d4 c k k1 k2) (fun c k k1 k2 k3 => by rw [ht2, up_ne (by omega)]; exact e4 c k k1 k2) hv (by
      rw [hs2, ht2, up_same, up_same, d4 108 17 (by omega) (by omega), e4 121 173 (by omega) (by omega)]
      omega)
    have bd' := isum_b (f := chC s) (fun x => by unfold chC; split <;> omega) (List.range n)
    rw [List.length_range] at bd'
    refine ⟨isum (chC s) (List.range n), s', t', ?_, ?_, ⟨by omega, by omega⟩, Or.inr ⟨n, m, nin, nout, g, d, ob, wd, lc, pf, pf', O, O', f3⟩⟩
    · unfold x_tick
      rw [d1]
      unfold brd_clock_106
      rw [lt_eq, ← hs2, f1, bq, bq]
    · rw [e1]
      unfold m_tick_116
      rw [lt_eq, ← ht2, f2, bq, cnt]
theorem take_s {O : List Nat} {i : Nat} (hi : i < O.length) : O.take (i + 1) = O.take i ++ [O.getD i 0] := by
  rw [List.take_succ, List.getD_eq_getElem?_getD, List.getElem?_eq_getElem hi]
  rfl
def imax (f : Nat → Int) : List Nat → Int
  | [] => 0
  | a :: l => max (f a) (imax f l)
theorem imax_p {f : Nat → Int} {l1 l2 : List Nat} (h : l1.Perm l2) : imax f l1 = imax f l2 := by
  induction h with
  | nil => rfl
  | cons a _ ih => exact congrArg (max (f a)) ih
  | swap a b l =>
    show max (f b) (max (f a) (imax f l)) = max (f a) (max (f b) (imax f l))
    omega
  | trans _ _ h1 h2 => exact h1.trans h2
theorem imax_m {f f' : Nat → Int} {g : Nat → Nat} : ∀ {l : List Nat}, (∀ x ∈ l, f' (g x) = f x) → imax f' (l.map g) = imax f l
  | [], _ => rfl
  | a :: l, h => by
    show max (f' (g a)) (imax f' (l.map g)) = max (f a) (imax f l)
    rw [h a List.mem_cons_self, imax_m (fun x hx => h x (List.mem_cons_of_mem _ hx))]
theorem imax_s {f : Nat → Int} : ∀ {l : List Nat} {a : Nat}, 0 ≤ f a → imax f (l ++ [a]) = max (imax f l) (f a)
  | [], a, h => by show max (f a) 0 = max 0 (f a); omega
  | b :: l, a, h => by
    show max (f b) (imax f (l ++ [a])) = max (max (f b) (imax f l)) (f a)
    rw [imax_s h]
    omega
theorem imax_b {f : Nat → Int} {B : Int} (hB : 0 ≤ B) : ∀ l : List Nat, (∀ x ∈ l, f x ≤ B) → 0 ≤ imax f l ∧ imax f l ≤ B
  | [], _ => by show 0 ≤ (0 : Int) ∧ (0 : Int) ≤ B; omega
  | a :: l, h => by
    have := imax_b hB l (fun x hx => h x (List.mem_cons_of_mem _ hx))
    have := h a List.mem_cons_self
    show 0 ≤ max (f a) (imax f l) ∧ max (f a) (imax f l) ≤ B
    omega
theorem isum_c {f : Nat → Int} : ∀ l : List Nat, (∀ x ∈ l, 0 ≤ f x ∧ f x ≤ 1) → 0 ≤ isum f l ∧ isum f l ≤ (l.length : Int)
  | [], _ => by show 0 ≤ (0 : Int) ∧ (0 : Int) ≤ ((0 : Nat) : Int); omega
  | a :: l, h => by
    have := isum_c l (fun x hx => h x (List.mem_cons_of_mem _ hx))
    have := h a List.mem_cons_self
    show 0 ≤ f a + isum f l ∧ f a + isum f l ≤ ((l.length + 1 : Nat) : Int)
    omega
theorem take_m {O : List Nat} {i x : Nat} (h : x ∈ O.take i) : x ∈ O := List.mem_of_mem_take h
theorem c_long (h16 : s 108 16 = (O.length : Int)) (hn : O.length ≤ 1500) (h116 : ∀ i, i < O.length → s 116 i = ((O.getD i 0 : Nat) : Int)) (hO : ∀ x ∈ O, x < 1500) (hl : ∀ x ∈ O, 1 ≤ s 117 x ∧ s 117 x ≤ 1502) : brd_longestChain s = some (imax (s 117) O, s) := by
  have L := lpG (f := fun l : Int × Int × iS => brd_longestChain_4b (l.1) (l.2.1) (l.2.2)) (M := O.length) (I := fun i l => l = (imax (s 117) (O.take i), (i : Int), s)) (J := fun e => e = (imax (s 117) O, s)) (by
    rintro i l hi rfl
    refine ⟨_, ?_, rfl⟩
    have m := gd_memN hi
    have b := imax_b (f := s 117) (B := 1502) (by omega) (O.take i) (fun x hx => (hl x (take_m hx)).2)
    have q := hl _ m
    show brd_longestChain_4b (imax (s 117) (O.take i)) (i : Int) s = _
    unfold brd_longestChain_4b
    rw [gr (by omega), h16, gr (by omega), if_neg (by omega), gd_pos (by omega), Int.toNat_natCast, h116 i hi, gd_pos (by have := hO _ m; omega), Int.toNat_natCast]
    unfold mth_max
    rw [gr (by omega), gr (by omega), take_s hi, imax_s (by omega)]
    by_cases c : imax (s 117) (O.take i) < s 117 (O.getD i 0)
    · rw [if_pos c, bq, show max (imax (s 117) (O.take i)) (s 117 (O.getD i 0)) = s 117 (O.getD i 0) by omega]
      rfl
    · rw [if_neg c, bq, show max (imax (s 117) (O.take i)) (s 117 (O.getD i 0)) = imax (s 117) (O.take i) by omega]
      rfl) (by
    rintro l rfl
    refine ⟨_, ?_, rfl⟩
    show brd_longestChain_4b (imax (s 117) (O.take O.length)) (O.length : Int) s = _
    unfold brd_longestChain_4b
    rw [gr (by omega), h16, gr (by omega), if_pos (by omega), List.take_length]) O.length 0 ((0 : Int), (0 : Int), s) (by omega) rfl
  obtain ⟨e, l1, l2⟩ := L
  unfold brd_longestChain brd_longestChain_4
  rw [l1, l2]
  rfl
theorem c_ones (h16 : s 108 16 = (O.length : Int)) (hn : O.length ≤ 1500) (h116 : ∀ i, i < O.length → s 116 i = ((O.getD i 0 : Nat) : Int)) (hO : ∀ x ∈ O, x < 1500) : brd_givingOne s = some (isum (fun x => s 112 (194 + x)) O, s) := by
  have L := lpG (f := fun l : Int × Int × iS => brd_givingOne_4b (l.1) (l.2.1) (l.2.2)) (M := O.length) (I := fun i l => l = (isum (fun x => s 112 (194 + x)) (O.take i), (i : Int), s)) (J := fun e => e = (isum (fun x => s 112 (194 + x)) O, s)) (by
    rintro i l hi rfl
    refine ⟨_, ?_, rfl⟩
    have m := hO _ (gd_memN hi)
    show brd_givingOne_4b (isum (fun x => s 112 (194 + x)) (O.take i)) (i : Int) s = _
    unfold brd_givingOne_4b
    rw [gr (by omega), h16, gr (by omega), if_neg (by omega), gd_pos (by omega), Int.toNat_natCast, h116 i hi, gd_pos (by omega), show (194 + ((O.getD i 0 : Nat) : Int)).toNat = 194 + O.getD i 0 by omega, take_s hi, isum_s]
    rfl) (by
    rintro l rfl
    refine ⟨_, ?_, rfl⟩
    show brd_givingOne_4b (isum (fun x => s 112 (194 + x)) (O.take O.length)) (O.length : Int) s = _
    unfold brd_givingOne_4b
    rw [gr (by omega), h16, gr (by omega), if_pos (by omega), List.take_length]) O.length 0 ((0 : Int), (0 : Int), s) (by omega) rfl
  obtain ⟨e, l1, l2⟩ := L
  unfold brd_givingOne brd_givingOne_4
  rw [l1, l2]
  rfl
theorem r_gts {v1 : Int} (h16 : t 121 166 = (O.length : Int)) (hn : O.length ≤ 1500) (h116 : ∀ i, i < O.length → t 227 i = ((O.getD i 0 : Nat) : Int)) (hO : ∀ x ∈ O, x < 1500 ∧ 0 ≤ t 225 x ∧ t 225 x + 2 < 40000) (hl : ∀ x ∈ O, 1 ≤ t 226 x ∧ t 226 x ≤ 1502) : m_gates_26 v1 0 0 0 t = m_gates_90 v1 (isum (fun x => t 230 (t 225 x + 2).toNat) O) (imax (t 226) O) t := by
  have L := lpG (f := fun l : Int × Int × Int × iS => m_gates_26b v1 (l.1) (l.2.1) (l.2.2.1) (l.2.2.2)) (M := O.length) (I := fun i l => l = (isum (fun x => t 230 (t 225 x + 2).toNat) (O.take i), imax (t 226) (O.take i), (i : Int), t)) (J := fun e => e = (isum (fun x => t 230 (t 225 x + 2).toNat) O, imax (t 226) O, t)) (by
    rintro i l hi rfl
    refine ⟨_, ?_, rfl⟩
    have m := gd_memN hi
    have b := imax_b (f := t 226) (B := 1502) (by omega) (O.take i) (fun x hx => (hl x (take_m hx)).2)
    have q := hl _ m
    have o := hO _ m
    show m_gates_26b v1 (isum (fun x => t 230 (t 225 x + 2).toNat) (O.take i)) (imax (t 226) (O.take i)) (i : Int) t = _
    unfold m_gates_26b
    rw [gr (by omega), h16, gr (by omega), if_neg (by omega), gd_pos (by omega), Int.toNat_natCast, h116 i hi, gd_pos (by omega), Int.toNat_natCast, gd_pos (by omega), gr (by omega), gr (by omega), take_s hi, isum_s, imax_s (by omega)]
    by_cases c : t 226 (O.getD i 0) ≤ imax (t 226) (O.take i)
    · rw [if_pos c, show max (imax (t 226) (O.take i)) (t 226 (O.getD i 0)) = imax (t 226) (O.take i) by omega]
      rfl
    · rw [if_neg c, show max (imax (t 226) (O.take i)) (t 226 (O.getD i 0)) = t 226 (O.getD i 0) by omega]
      rfl) (by
    rintro l rfl
    refine ⟨_, ?_, rfl⟩
    show m_gates_26b v1 (isum (fun x => t 230 (t 225 x + 2).toNat) (O.take O.length)) (imax (t 226) (O.take O.length)) (O.length : Int) t = _
    unfold m_gates_26b
    rw [gr (by omega), h16, gr (by omega), if_pos (by omega), List.take_length]) O.length 0 ((0 : Int), (0 : Int), (0 : Int), t) (by omega) rfl
  obtain ⟨e, l1, l2⟩ := L
  unfold m_gates_26
  rw [l1, l2]
  rfl
/-- the numbers of IN and OUT pins -/
theorem r_cnt (hp : PNs nin nout wd lc pf pf' s t) {o : Int} (ho : o = 0 ∨ o = 1) : m_countPins o t = some (if o = 0 then (nin : Int) else nout, t) := by
  obtain ⟨⟨-, -, p0, p1⟩, -, ⟨p2, p3⟩, ⟨q1, q2, q3, q4, q5⟩, p4⟩ := hp
  have L := lpG (f := fun l : Int × Int × iS => m_countPins_12b o (l.1) (l.2.1) (l.2.2)) (M := nin + nout) (I := fun k l => l = (if o = 0 then (if k < nin then (k : Int) else nin) else (if k < nin then 0 else (k : Int) - nin), (pf' : Int) + k, t)) (J := fun e => e = (if o = 0 then (nin : Int) else nout, t)) (by
    rintro k l hk rfl
    refine ⟨_, ?_, rfl⟩
    show m_countPins_12b o _ ((pf' : Int) + k) t = _
    have w := (p4 k hk).2.2.2
    unfold m_countPins_12b
    rw [p0, gd_pos (by omega), gr (by omega), show ((lc : Int) + 1).toNat = lc + 1 by omega, p3, gr (by omega), if_neg (by omega), gd_pos (by omega), show ((pf' : Int) + k).toNat = pf' + k by omega, w, gr (by split <;> omega), gr (by omega), show (pf' : Int) + ((k + 1 : Nat) : Int) = (pf' : Int) + k + 1 by omega]
    rcases ho with e | e <;> subst e
    · by_cases c : k < nin
      · rw [if_pos c, if_pos rfl, if_pos rfl, if_pos c, if_pos rfl]
        by_cases c2 : k + 1 < nin
        · rw [if_pos c2]; rfl
        · rw [if_neg c2, show (k : Int) + 1 = nin by omega]
      · rw [if_neg c, if_neg (by omega), if_pos rfl, if_neg c, if_pos rfl, if_neg (by omega)]
    · by_cases c : k < nin
      · rw [if_pos c, if_neg (show ¬ (0 : Int) = 1 by omega), if_neg (show ¬ (1 : Int) = 0 by omega), if_pos c, if_neg (show ¬ (1 : Int) = 0 by omega)]
        by_cases c2 : k + 1 < nin
        · rw [if_pos c2]
        · rw [if_neg c2, show ((k + 1 : Nat) : Int) - nin = 0 by omega]
      · rw [if_neg c, if_pos rfl, if_neg (show ¬ (1 : Int) = 0 by omega), if_neg c, if_neg (show ¬ (1 : Int) = 0 by omega), if_neg (by omega), show ((k + 1 : Nat) : Int) - nin = (k : Int) - nin + 1 by omega]) (by
    rintro l rfl
    refine ⟨_, ?_, rfl⟩
    show m_countPins_12b o _ ((pf' : Int) + ((nin + nout : Nat) : Int)) t = _
    unfold m_countPins_12b
    rw [p0, gd_pos (by omega), gr (by omega), show ((lc : Int) + 1).toNat = lc + 1 by omega, p3, gr (by omega), if_pos (by omega)]
    rw [if_neg (show ¬ nin + nout < nin by omega), if_neg (show ¬ nin + nout < nin by omega), show ((nin + nout : Nat) : Int) - nin = nout by omega]) (nin + nout) 0 ((0 : Int), (pf' : Int), t) (by omega) (by
    show _ = (if o = 0 then (if 0 < nin then ((0 : Nat) : Int) else nin) else (if 0 < nin then 0 else ((0 : Nat) : Int) - nin), (pf' : Int) + ((0 : Nat) : Int), t)
    rw [if_pos (show 0 < nin by omega), if_pos (show 0 < nin by omega), show (pf' : Int) + ((0 : Nat) : Int) = pf' by omega]
    rcases ho with e | e
    · rw [if_pos e]; rfl
    · rw [if_neg (by omega)])
  obtain ⟨e, l1, l2⟩ := L
  unfold m_countPins
  rw [p0, gd_pos (by omega), Int.toNat_natCast, p2]
  unfold m_countPins_12
  rw [l1, l2]
  rfl
theorem gates_ok (h : QBd T s t) (hT : T < 1000000) {v : Int} (hv : rg v) : ∃ r s' t', x_gates v s = some (r, s') ∧ m_gates v t = some (r, t') ∧ rg r ∧ QBd T s' t' := by
  have hv1 := hv.1
  have hv2 := hv.2
  have h0 := h
  rcases h with ⟨a1, a2, a3, a4⟩ | ⟨n, m, nin, nout, g, d, ob, wd, lc, pf, pf', O, O', hB⟩
  · refine ⟨-1, s, t, ?_, ?_, ⟨by omega, by omega⟩, Or.inl ⟨a1, a2, a3, a4⟩⟩
    · unfold x_gates brd_measure
      rw [a1, gr (by omega), if_pos rfl, bq]
    · unfold m_gates
      rw [a2, gr (by omega), if_pos rfl]
  · obtain ⟨b1, b2, b3, b4, b5, ⟨b6, b6'⟩, b7, b8, b9⟩ := hB
    have b10 := b1
    obtain ⟨⟨c1, c2, c3⟩, ⟨c4, c5⟩, ⟨c6, c7, c8, c9⟩, cg, cx⟩ := b1
    obtain ⟨⟨o1, o2⟩, ⟨o3, o4⟩, o5, o6, o7, o8, o9, o10⟩ := b3
    obtain ⟨i1, i2, i3⟩ := BRg_pins b2
    have k0 := r_cnt b2 (o := 0) (Or.inl rfl)
    have k1 := r_cnt b2 (o := 1) (Or.inr rfl)
    rw [if_pos rfl] at k0
    rw [if_neg (by omega)] at k1
    have hO : ∀ x ∈ O, x < n ∧ s 114 x ≠ -1 := o5.2.1
    have hO' : ∀ x ∈ O', x < n ∧ t 224 x = 0 := o6.2.1
    have lO : O.length ≤ n := by
      have := nodup_len O (List.range n) o5.1 (fun x hx => List.mem_range.mpr (hO x hx).1)
      rw [List.length_range] at this
      exact this
    have nand : ∀ x, x < n → s 114 x ≠ -1 → t 224 (g x) = 0 ∧ t 225 (g x) + 2 = (ob x : Int) := fun x hx e => by
      rcases (cx x hx).1 with ⟨q1, q2, q3⟩ | ⟨q1, q2, q3⟩
      · exact ⟨q1, q2⟩
      · exact absurd q3 e
    have SE := SRT_eq (g := g) (d := d) o5 o6 cg (fun x hx => by
      show s 114 x ≠ -1 ↔ t 224 (g x) = 0
      constructor
      · exact fun e => (nand x hx e).1
      · intro e q
        rcases (cx x hx).1 with ⟨q1, q2, q3⟩ | ⟨q1, q2, q3⟩
        · have := (SG_rg b10 q3).1
          omega
        · omega) (fun x hx e => by
      refine ⟨SG_gv b10 (cx x hx).2.2, ?_⟩
      rcases (cx x hx).1 with ⟨q1, q2, q3⟩ | ⟨q1, q2, q3⟩
      · exact SG_gv b10 q3
      · exact absurd q3 e) (fun x y hx e q => by
      rcases q with q | q
      · exact (cgv_lt q).1
      · exact (cgv_lt q).1)
    obtain ⟨pm, lv⟩ := SE
    have eLen : O'.length = O.length := by
      have := pm.length_eq
      rw [List.length_map] at this
      exact this.symm
    have eMax : imax (t 226) O' = imax (s 117) O := by
      rw [← imax_p pm]
      exact imax_m lv
    have eSum : isum (fun x => t 230 (t 225 x + 2).toNat) O' = isum (fun x => s 112 (194 + x)) O := by
      rw [← isum_p pm]
      refine isum_m (fun x hx => ?_)
      obtain ⟨x1, x2⟩ := hO x hx
      show t 230 (t 225 (g x) + 2).toNat = s 112 (194 + x)
      rw [(nand x x1 x2).2, Int.toNat_natCast]
      exact (b4.2.2.2.1 x x1 trivial).symm
    have cl := c_long o1 (by omega) o2 (fun x hx => by have := (hO x hx).1; omega) o9
    have co := c_ones o1 (by omega) o2 (fun x hx => by have := (hO x hx).1; omega)
    have rt : ∀ v1, m_gates_26 v1 0 0 0 t = m_gates_90 v1 (isum (fun x => s 112 (194 + x)) O) (imax (s 117) O) t := fun v1 => by
      rw [r_gts (v1 := v1) o3 (by omega) o4 (fun x hx => by
        obtain ⟨x1, x2⟩ := hO' x hx
        obtain ⟨-, q1, -, q2, q3, -⟩ := BS_nd b10 x1 x2
        exact ⟨by omega, q3, by omega⟩) o10, eMax, eSum]
    have bM := imax_b (f := s 117) (B := 1502) (by omega) O (fun x hx => (o9 x hx).2)
    have bS := isum_c (f := fun x => s 112 (194 + x)) O (fun x hx => by
      have := (hO x hx).1
      have := b4.2.2.2.2 (194 + x) (by omega)
      show 0 ≤ s 112 (194 + x) ∧ s 112 (194 + x) ≤ 1
      omega)
    obtain ⟨⟨p1, p2, p3, p4⟩, -, -, ⟨u1, u2, u3, u4, u5⟩, -⟩ := b2
    have cM : x_gates v s = some (if v = 0 then (O.length : Int) else if v = 1 then (n : Int) - O.length else if v = 2 then (nin : Int) else if v = 3 then (nout : Int) else if v = 4 then (lc : Int) + 1 else if v = 5 then imax (s 117) O else if v = 6 then s 108 17 else if v = 7 then isum (fun x => s 112 (194 + x)) O else -1, s) := by
      unfold x_gates brd_measure
      rw [b6, gr (by omega), if_neg (by omega), gr (by omega)]
      by_cases e0 : v = 0
      · rw [if_pos e0, if_pos e0, bq, o1]
      rw [if_neg e0, if_neg e0]
      by_cases e1 : v = 1
      · rw [if_pos e1, if_pos e1, bq, o1, c1]
      rw [if_neg e1, if_neg e1]
      by_cases e2 : v = 2
      · rw [if_pos e2, if_pos e2, i1, bq, bq]
      rw [if_neg e2, if_neg e2]
      by_cases e3 : v = 3
      · rw [if_pos e3, if_pos e3, i2, bq, bq]
      rw [if_neg e3, if_neg e3]
      by_cases e4 : v = 4
      · rw [if_pos e4, if_pos e4, bq, p1, show (lc : Int) + 3 - 2 = lc + 1 by omega]
      rw [if_neg e4, if_neg e4]
      by_cases e5 : v = 5
      · rw [if_pos e5, if_pos e5, cl, bq, bq]
      rw [if_neg e5, if_neg e5]
      by_cases e6 : v = 6
      · rw [if_pos e6, if_pos e6, bq]
      rw [if_neg e6, if_neg e6]
      by_cases e7 : v = 7
      · rw [if_pos e7, if_pos e7, co, bq, bq]
      rw [if_neg e7, if_neg e7, bq]
    have rM : m_gates v t = some (if v = 0 then (O.length : Int) else if v = 1 then (n : Int) - O.length else if v = 2 then (nin : Int) else if v = 3 then (nout : Int) else if v = 4 then (lc : Int) + 1 else if v = 5 then imax (s 117) O else if v = 6 then s 108 17 else if v = 7 then isum (fun x => s 112 (194 + x)) O else -1, t) := by
      unfold m_gates
      rw [b6', gr (by omega), if_neg (by omega), gr (by omega)]
      by_cases en : v < 0
      · rw [if_pos en, if_neg (by omega), if_neg (by omega), if_neg (by omega), if_neg (by omega), if_neg (by omega), if_neg (by omega), if_neg (by omega), if_neg (by omega)]
      rw [if_neg en]
      by_cases e8 : v ≤ 7
      · rw [if_pos e8, rt]
        unfold m_gates_90
        rw [gr (by omega)]
        by_cases e0 : v = 0
        · rw [if_pos e0, if_pos e0, o3, eLen]
        rw [if_neg e0, if_neg e0]
        by_cases e1 : v = 1
        · rw [if_pos e1, if_pos e1, o3, c2, eLen]
        rw [if_neg e1, if_neg e1]
        by_cases e2 : v = 2
        · rw [if_pos e2, if_pos e2, k0, bq]
        rw [if_neg e2, if_neg e2]
        by_cases e3 : v = 3
        · rw [if_pos e3, if_pos e3, k1, bq]
        rw [if_neg e3, if_neg e3]
        by_cases e4 : v = 4
        · rw [if_pos e4, if_pos e4, p2]
        rw [if_neg e4, if_neg e4]
        by_cases e5 : v = 5
        · rw [if_pos e5, if_pos e5]
        rw [if_neg e5, if_neg e5]
        by_cases e6 : v = 6
        · rw [if_pos e6, if_pos e6, b7]
        rw [if_neg e6, if_neg e6, if_pos (by omega)]
      · rw [if_neg e8, if_neg (by omega), if_neg (by omega), if_neg (by omega), if_neg (by omega), if_neg (by omega), if_neg (by omega), if_neg (by omega), if_neg (by omega)]
    refine ⟨_, s, t, cM, rM, ?_, h0⟩
    repeat' split
    all_goals exact ⟨by omega, by omega⟩
end CKq
