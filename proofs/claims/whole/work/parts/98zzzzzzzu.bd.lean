/-! chips: tick -/
section CKp
variable {n m nin nout : Nat} {g d ob wd : Nat → Nat} {lc pf pf' : Nat} {O O' : List Nat} {s t s' t' : iS} {T T' : Nat}
def isum (f : Nat → Int) : List Nat → Int
  | [] => 0
  | a :: l => f a + isum f l
theorem isum_p {f : Nat → Int} {l1 l2 : List Nat} (h : l1.Perm l2) : isum f l1 = isum f l2 := by
  induction h with
  | nil => rfl
  | cons a _ ih => exact congrArg (f a + ·) ih
  | swap a b l =>
    show f b + (f a + isum f l) = f a + (f b + isum f l)
    omega
  | trans _ _ h1 h2 => exact h1.trans h2
theorem isum_m {f f' : Nat → Int} {g : Nat → Nat} : ∀ {l : List Nat}, (∀ x ∈ l, f' (g x) = f x) → isum f' (l.map g) = isum f l
  | [], _ => rfl
  | a :: l, h => by
    show f' (g a) + isum f' (l.map g) = f a + isum f l
    rw [h a List.mem_cons_self, isum_m (fun x hx => h x (List.mem_cons_of_mem _ hx))]
theorem isum_s {f : Nat → Int} : ∀ {l : List Nat} {a : Nat}, isum f (l ++ [a]) = isum f l + f a
  | [], a => by show f a + 0 = 0 + f a; omega
  | b :: l, a => by
    show f b + isum f (l ++ [a]) = f b + isum f l + f a
    rw [isum_s]
    omega
theorem isum_r {f : Nat → Int} {x : Nat} : isum f (List.range (x + 1)) = isum f (List.range x) + f x := by
  rw [List.range_succ, isum_s]
theorem rng_p (hg : ∀ x, x < n → g x < n ∧ d (g x) = x ∧ d x < n ∧ g (d x) = x) : ((List.range n).map g).Perm (List.range n) := by
  refine pm_of _ _ ?_ List.nodup_range ?_
  · have : ∀ l : List Nat, l.Nodup → (∀ x ∈ l, x < n) → (l.map g).Nodup := by
      intro l
      induction l with
      | nil => intro _ _; exact List.nodup_nil
      | cons a l ih =>
        intro q1 q2
        obtain ⟨n1, n2⟩ := List.nodup_cons.mp q1
        rw [List.map_cons, List.nodup_cons]
        refine ⟨?_, ih n2 (fun x hx => q2 x (List.mem_cons_of_mem _ hx))⟩
        intro z
        obtain ⟨y, y1, y2⟩ := List.mem_map.mp z
        have e := (hg y (q2 y (List.mem_cons_of_mem _ y1))).2.1
        rw [y2, (hg a (q2 a List.mem_cons_self)).2.1] at e
        exact n1 (e ▸ y1)
    exact this _ List.nodup_range (fun x hx => List.mem_range.mp hx)
  · intro x
    rw [List.mem_map, List.mem_range]
    constructor
    · rintro ⟨y, y1, y2⟩
      rw [← y2]
      exact (hg y (List.mem_range.mp y1)).1
    · intro hx
      obtain ⟨-, -, h3, h4⟩ := hg x hx
      exact ⟨d x, List.mem_range.mpr h3, h4⟩
theorem isum_b {f : Nat → Int} (h : ∀ x, 0 ≤ f x ∧ f x ≤ 1) : ∀ l, 0 ≤ isum f l ∧ isum f l ≤ (l.length : Int)
  | [] => by show 0 ≤ (0 : Int) ∧ (0 : Int) ≤ ((0 : Nat) : Int); omega
  | a :: l => by
    have := isum_b h l
    have := h a
    show 0 ≤ f a + isum f l ∧ f a + isum f l ≤ ((l.length + 1 : Nat) : Int)
    omega
/-- does Dff x change -/
def chC (s : iS) (x : Nat) : Int := if s 114 x = -1 ∧ s 112 (194 + x) ≠ s 112 (s 113 x).toNat then 1 else 0
def chR' (t : iS) (y : Nat) : Int := if t 224 y ≠ 0 ∧ t 230 (t 225 y + 1).toNat ≠ rvl t (t 228 y) then 1 else 0
theorem c_tick (h14 : s 108 14 = (n : Int)) (hn : n ≤ 1500) (h18 : s 108 18 = 1) (hA : ∀ x, x < n → (0 ≤ s 113 x ∧ s 113 x < 1694) ∧ -1 ≤ s 114 x ∧ s 114 x < 1694) (h01 : ∀ k, k < 1694 → s 112 k = 0 ∨ s 112 k = 1) : ∃ s1, brd_clock s = brd_clock_106 (isum (chC s) (List.range n)) s1 ∧ (∀ x, x < n → s 114 x = -1 → s1 112 (194 + x) = s 112 (s 113 x).toNat) ∧ (∀ k, (∀ x, x < n → s 114 x = -1 → k ≠ 194 + x) → s1 112 k = s 112 k) ∧ ∀ c k, c ≠ 112 → c ≠ 118 → s1 c k = s c k := by
  have L := lpG (f := fun l : Int × iS => brd_clock_11b (l.1) (l.2)) (M := n) (I := fun x l => l.1 = (x : Int) ∧ (∀ y, y < x → l.2 118 y = s 112 (s 113 y).toNat) ∧ ∀ c k, c ≠ 118 → l.2 c k = s c k) (J := fun e => (∀ y, y < n → e 118 y = s 112 (s 113 y).toNat) ∧ ∀ c k, c ≠ 118 → e c k = s c k) (by
    rintro x ⟨v, u⟩ hx ⟨e, e1, e2⟩
    have e' : v = (x : Int) := e
    subst e'
    have e1' : ∀ y, y < x → u 118 y = s 112 (s 113 y).toNat := e1
    have e2' : ∀ c k, c ≠ 118 → u c k = s c k := e2
    have r := (hA x hx).1
    refine ⟨((x : Int) + 1, up u 118 x (s 112 (s 113 x).toNat)), ?_, by show (x : Int) + 1 = ((x + 1 : Nat) : Int); omega, ?_, ?_⟩
    · show brd_clock_11b (x : Int) u = _
      unfold brd_clock_11b
      rw [gr (by omega), e2' 108 14 (by omega), h14, gr (by omega), if_neg (by omega), gd_pos (by omega), Int.toNat_natCast, e2' 113 x (by omega), gd_pos (by omega), e2' 112 _ (by omega), lt_eq]
    · intro y hy
      show up u 118 x _ 118 y = _
      by_cases q : y = x
      · rw [q, up_same]
      · rw [up_ne (by omega)]; exact e1' y (by omega)
    · intro c k hc
      show up u 118 x _ c k = _
      rw [up_ne (by omega)]; exact e2' c k hc) (by
    rintro ⟨v, u⟩ ⟨e, e1, e2⟩
    have e' : v = (n : Int) := e
    subst e'
    have e2' : ∀ c k, c ≠ 118 → u c k = s c k := e2
    refine ⟨u, ?_, e1, e2⟩
    show brd_clock_11b (n : Int) u = _
    unfold brd_clock_11b
    rw [gr (by omega), e2' 108 14 (by omega), h14, gr (by omega), if_pos (by omega)]) n 0 ((0 : Int), s) (by omega) ⟨rfl, fun y hy => absurd hy (Nat.not_lt_zero y), fun _ _ _ => rfl⟩
  obtain ⟨s2, l1, l2, l3⟩ := L
  have cb : ∀ x, 0 ≤ chC s x ∧ chC s x ≤ 1 := fun x => by unfold chC; split <;> omega
  have R := lpG (f := fun l : Int × Int × iS => brd_clock_46b (l.1) (l.2.1) (l.2.2)) (M := n) (I := fun x l => l.1 = isum (chC s) (List.range x) ∧ l.2.1 = (x : Int) ∧ (∀ y, y < x → s 114 y = -1 → l.2.2 112 (194 + y) = s 112 (s 113 y).toNat) ∧ (∀ k, (∀ y, y < x → s 114 y = -1 → k ≠ 194 + y) → l.2.2 112 k = s 112 k) ∧ ∀ c k, c ≠ 112 → l.2.2 c k = s2 c k) (J := fun e => e.1 = isum (chC s) (List.range n) ∧ (∀ y, y < n → s 114 y = -1 → e.2 112 (194 + y) = s 112 (s 113 y).toNat) ∧ (∀ k, (∀ y, y < n → s 114 y = -1 → k ≠ 194 + y) → e.2 112 k = s 112 k) ∧ ∀ c k, c ≠ 112 → e.2 c k = s2 c k) (by
    rintro x ⟨v1, v2, u⟩ hx ⟨e0, e, e1, e2, e3⟩
    have e0' : v1 = isum (chC s) (List.range x) := e0
    have e' : v2 = (x : Int) := e
    subst e' e0'
    have e1' : ∀ y, y < x → s 114 y = -1 → u 112 (194 + y) = s 112 (s 113 y).toNat := e1
    have e2' : ∀ k, (∀ y, y < x → s 114 y = -1 → k ≠ 194 + y) → u 112 k = s 112 k := e2
    have e3' : ∀ c k, c ≠ 112 → u c k = s2 c k := e3
    have u14 : u 108 14 = (n : Int) := by rw [e3' 108 14 (by omega), l3 108 14 (by omega)]; exact h14
    have u114 : ∀ y, u 114 y = s 114 y := fun y => by rw [e3' 114 y (by omega), l3 114 y (by omega)]
    have u118 : u 118 x = s 112 (s 113 x).toNat := by rw [e3' 118 x (by omega)]; exact l2 x hx
    have u112 : u 112 (194 + x) = s 112 (194 + x) := e2' _ (fun y hy _ => by omega)
    have r1 := h01 (194 + x) (by omega)
    have r2 := h01 (s 113 x).toNat (by have := (hA x hx).1; omega)
    have st : brd_clock_46b (isum (chC s) (List.range x)) (x : Int) u = if s 114 x = -1 then (if s 112 (194 + x) = s 112 (s 113 x).toNat then some (.inl (isum (chC s) (List.range x), (x : Int) + 1, u)) else some (.inl (isum (chC s) (List.range x) + 1, (x : Int) + 1, up u 112 (194 + x) (s 112 (s 113 x).toNat)))) else some (.inl (isum (chC s) (List.range x), (x : Int) + 1, u)) := by
      unfold brd_clock_46b
      rw [gr (by omega), u14, gr (by omega), if_neg (by omega), c_isn u14 hn (fun y hy => by rw [u114]; exact (hA y hy).2) (by omega), bq, Int.toNat_natCast, u114]
      by_cases c : s 114 x = -1
      · rw [if_neg (fun q => q.2.2 c), gr (by omega), if_pos rfl, if_pos c, gd_pos (by omega), gd_pos (by omega), show (194 + (x : Int)).toNat = 194 + x by omega, u112, u118, gr (by omega), gr (by omega)]
        rfl
      · rw [if_pos ⟨by omega, by omega, c⟩, gr (by omega), if_neg (by omega), if_neg c]
    by_cases c : s 114 x = -1
    · rw [if_pos c] at st
      by_cases c2 : s 112 (194 + x) = s 112 (s 113 x).toNat
      · rw [if_pos c2] at st
        refine ⟨_, st, ?_, by show (x : Int) + 1 = ((x + 1 : Nat) : Int); omega, ?_, ?_, e3⟩
        · show isum (chC s) (List.range x) = isum (chC s) (List.range (x + 1))
          rw [isum_r, show chC s x = 0 from if_neg (fun q => q.2 c2)]
          omega
        · intro y hy y2
          by_cases q : y = x
          · rw [q]
            show u 112 _ = _
            rw [u112]; exact c2
          · exact e1' y (by omega) y2
        · intro k hk
          exact e2' k (fun y hy => hk y (by omega))
      · rw [if_neg c2] at st
        refine ⟨_, st, ?_, by show (x : Int) + 1 = ((x + 1 : Nat) : Int); omega, ?_, ?_, ?_⟩
        · show isum (chC s) (List.range x) + 1 = isum (chC s) (List.range (x + 1))
          rw [isum_r, show chC s x = 1 from if_pos ⟨c, c2⟩]
        · intro y hy y2
          show up u 112 (194 + x) _ 112 (194 + y) = _
          by_cases q : y = x
          · rw [q, up_same]
          · rw [up_ne (by omega)]; exact e1' y (by omega) y2
        · intro k hk
          show up u 112 (194 + x) _ 112 k = _
          rw [up_ne (fun q => hk x (by omega) c q.2)]
          exact e2' k (fun y hy => hk y (by omega))
        · intro c k hc
          show up u 112 (194 + x) _ c k = _
          rw [up_ne (by omega)]; exact e3' c k hc
    · rw [if_neg c] at st
      refine ⟨_, st, ?_, by show (x : Int) + 1 = ((x + 1 : Nat) : Int); omega, ?_, ?_, e3⟩
      · show isum (chC s) (List.range x) = isum (chC s) (List.range (x + 1))
        rw [isum_r, show chC s x = 0 from if_neg (fun q => c q.1)]
        omega
      · intro y hy y2
        by_cases q : y = x
        · exact absurd (q ▸ y2) c
        · exact e1' y (by omega) y2
      · intro k hk
        exact e2' k (fun y hy => hk y (by omega))) (by
    rintro ⟨v1, v2, u⟩ ⟨e0, e, e1, e2, e3⟩
    have e' : v2 = (n : Int) := e
    subst e'
    have e3' : ∀ c k, c ≠ 112 → u c k = s2 c k := e3
    refine ⟨(v1, u), ?_, e0, e1, e2, e3⟩
    show brd_clock_46b v1 (n : Int) u = _
    unfold brd_clock_46b
    rw [gr (by omega), e3' 108 14 (by omega), l3 108 14 (by omega), h14, gr (by omega), if_pos (by omega)]) n 0 ((0 : Int), (0 : Int), s2) (by omega) ⟨rfl, rfl, fun y hy => absurd hy (Nat.not_lt_zero y), fun k _ => l3 112 k (by omega), fun _ _ _ => rfl⟩
  obtain ⟨⟨v, s1⟩, m1, m2, m3, m4, m5⟩ := R
  have m2' : v = isum (chC s) (List.range n) := m2
  refine ⟨s1, ?_, m3, m4, fun c k c1 c2 => by
    have m5' : ∀ c k, c ≠ 112 → s1 c k = s2 c k := m5
    rw [m5' c k c1]; exact l3 c k c2⟩
  unfold brd_clock
  rw [h18, gr (by omega), if_neg (by omega)]
  unfold brd_clock_11
  rw [show lp (L := Int × iS) (E := iS) (fun l => brd_clock_11b (l.1) (l.2)) (0, s) = some s2 from l1, bn]
  unfold brd_clock_42 brd_clock_46
  rw [show lp (L := Int × Int × iS) (E := Int × iS) (fun l => brd_clock_46b (l.1) (l.2.1) (l.2.2)) (0, 0, s2) = some (v, s1) from m1, bn, ← m2']
theorem r_tick (h161 : t 121 161 = (n : Int)) (hn : n ≤ 1500) (h152 : t 121 152 = 1) (hA : ∀ x, x < n → (-2 ≤ t 228 x ∧ t 228 x < 40000) ∧ (t 224 x = 0 ∨ t 224 x = 1) ∧ (0 ≤ t 225 x ∧ t 225 x + 1 < 40000)) (h01 : ∀ x, x < n → t 224 x ≠ 0 → rg (t 230 (t 225 x + 1).toNat)) (hr : ∀ x, x < n → rg (rvl t (t 228 x))) (inj : ∀ x y, x < n → y < n → t 224 x ≠ 0 → t 224 y ≠ 0 → t 225 x + 1 = t 225 y + 1 → x = y) : ∃ t1, m_tick t = m_tick_116 (isum (chR' t) (List.range n)) t1 ∧ (∀ x, x < n → t 224 x ≠ 0 → t1 230 (t 225 x + 1).toNat = rvl t (t 228 x)) ∧ (∀ k, (∀ x, x < n → t 224 x ≠ 0 → k ≠ (t 225 x + 1).toNat) → t1 230 k = t 230 k) ∧ ∀ c k, c ≠ 230 → c ≠ 233 → t1 c k = t c k := by
  have L := lpG (f := fun l : Int × iS => m_tick_13b 0 (l.1) (l.2)) (M := n) (I := fun x l => l.1 = (x : Int) ∧ (∀ y, y < x → l.2 233 y = rvl t (t 228 y)) ∧ ∀ c k, c ≠ 233 → l.2 c k = t c k) (J := fun e => (∀ y, y < n → e 233 y = rvl t (t 228 y)) ∧ ∀ c k, c ≠ 233 → e c k = t c k) (by
    rintro x ⟨v, u⟩ hx ⟨e, e1, e2⟩
    have e' : v = (x : Int) := e
    subst e'
    have e1' : ∀ y, y < x → u 233 y = rvl t (t 228 y) := e1
    have e2' : ∀ c k, c ≠ 233 → u c k = t c k := e2
    have r := (hA x hx).1
    have ev : rvl u (t 228 x) = rvl t (t 228 x) := by unfold rvl; rw [e2' 230 _ (by omega)]
    refine ⟨((x : Int) + 1, up u 233 x (rvl t (t 228 x))), ?_, by show (x : Int) + 1 = ((x + 1 : Nat) : Int); omega, ?_, ?_⟩
    · show m_tick_13b 0 (x : Int) u = _
      unfold m_tick_13b
      rw [gr (by omega), e2' 121 161 (by omega), h161, gr (by omega), if_neg (by omega), gd_pos (by omega), Int.toNat_natCast, e2' 228 x (by omega), r_val r, bq, ev, lt_eq]
    · intro y hy
      show up u 233 x _ 233 y = _
      by_cases q : y = x
      · rw [q, up_same]
      · rw [up_ne (by omega)]; exact e1' y (by omega)
    · intro c k hc
      show up u 233 x _ c k = _
      rw [up_ne (by omega)]; exact e2' c k hc) (by
    rintro ⟨v, u⟩ ⟨e, e1, e2⟩
    have e' : v = (n : Int) := e
    subst e'
    have e2' : ∀ c k, c ≠ 233 → u c k = t c k := e2
    refine ⟨u, ?_, e1, e2⟩
    show m_tick_13b 0 (n : Int) u = _
    unfold m_tick_13b
    rw [gr (by omega), e2' 121 161 (by omega), h161, gr (by omega), if_pos (by omega)]) n 0 ((0 : Int), t) (by omega) ⟨rfl, fun y hy => absurd hy (Nat.not_lt_zero y), fun _ _ _ => rfl⟩
  obtain ⟨t2, l1, l2, l3⟩ := L
  have R := lpG (f := fun l : Int × Int × iS => m_tick_45b (l.1) (l.2.1) (l.2.2)) (M := n) (I := fun x l => l.1 = isum (chR' t) (List.range x) ∧ l.2.1 = (x : Int) ∧ (∀ y, y < x → t 224 y ≠ 0 → l.2.2 230 (t 225 y + 1).toNat = rvl t (t 228 y)) ∧ (∀ k, (∀ y, y < x → t 224 y ≠ 0 → k ≠ (t 225 y + 1).toNat) → l.2.2 230 k = t 230 k) ∧ ∀ c k, c ≠ 230 → l.2.2 c k = t2 c k) (J := fun e => e.1 = isum (chR' t) (List.range n) ∧ (∀ y, y < n → t 224 y ≠ 0 → e.2 230 (t 225 y + 1).toNat = rvl t (t 228 y)) ∧ (∀ k, (∀ y, y < n → t 224 y ≠ 0 → k ≠ (t 225 y + 1).toNat) → e.2 230 k = t 230 k) ∧ ∀ c k, c ≠ 230 → e.2 c k = t2 c k) (by
    rintro x ⟨v1, v2, u⟩ hx ⟨e0, e, e1, e2, e3⟩
    have e0' : v1 = isum (chR' t) (List.range x) := e0
    have e' : v2 = (x : Int) := e
    subst e' e0'
    have e1' : ∀ y, y < x → t 224 y ≠ 0 → u 230 (t 225 y + 1).toNat = rvl t (t 228 y) := e1
    have e2' : ∀ k, (∀ y, y < x → t 224 y ≠ 0 → k ≠ (t 225 y + 1).toNat) → u 230 k = t 230 k := e2
    have e3' : ∀ c k, c ≠ 230 → u c k = t2 c k := e3
    obtain ⟨a1, a2, a3⟩ := hA x hx
    have u161 : u 121 161 = (n : Int) := by rw [e3' 121 161 (by omega), l3 121 161 (by omega)]; exact h161
    have u224 : u 224 x = t 224 x := by rw [e3' 224 x (by omega), l3 224 x (by omega)]
    have u225 : u 225 x = t 225 x := by rw [e3' 225 x (by omega), l3 225 x (by omega)]
    have u233 : u 233 x = rvl t (t 228 x) := by rw [e3' 233 x (by omega)]; exact l2 x hx
    by_cases c : t 224 x = 0
    · refine ⟨(isum (chR' t) (List.range (x + 1)), (x : Int) + 1, u), ?_, rfl, by show (x : Int) + 1 = ((x + 1 : Nat) : Int); omega, ?_, ?_, e3⟩
      · show m_tick_45b (isum (chR' t) (List.range x)) (x : Int) u = _
        unfold m_tick_45b
        rw [gr (by omega), u161, gr (by omega), if_neg (by omega), gd_pos (by omega), Int.toNat_natCast, u224, gr (by omega), if_pos c, isum_r, show chR' t x = 0 from if_neg (fun q => q.1 c), Int.add_zero]
      · intro y hy y2
        by_cases q : y = x
        · exact absurd (q ▸ c) y2
        · exact e1' y (by omega) y2
      · intro k hk
        exact e2' k (fun y hy => hk y (by omega))
    · have u230 : u 230 (t 225 x + 1).toNat = t 230 (t 225 x + 1).toNat := e2' _ (fun y hy y2 q => by
        have b := (hA y (by omega)).2.2
        have := inj x y hx (by omega) c y2 (by omega)
        omega)
      refine ⟨(isum (chR' t) (List.range (x + 1)), (x : Int) + 1, up u 230 (t 225 x + 1).toNat (rvl t (t 228 x))), ?_, rfl, by show (x : Int) + 1 = ((x + 1 : Nat) : Int); omega, ?_, ?_, ?_⟩
      · show m_tick_45b (isum (chR' t) (List.range x)) (x : Int) u = _
        have f91 : ∀ v, m_tick_91 v (x : Int) u = some (.inl (v, (x : Int) + 1, up u 230 (t 225 x + 1).toNat (rvl t (t 228 x)))) := by
          intro v
          unfold m_tick_91
          rw [gd_pos (by omega), Int.toNat_natCast, u225, gd_pos (by omega), u233, lt_eq]
        unfold m_tick_45b
        rw [gr (by omega), u161, gr (by omega), if_neg (by omega), gd_pos (by omega), Int.toNat_natCast, u224, gr (by omega), if_neg c, u225, gd_pos (by omega), u230, gd_pos (h01 x hx c), u233, gd_pos (hr x hx), f91, f91, isum_r]
        by_cases c2 : t 230 (t 225 x + 1).toNat = rvl t (t 228 x)
        · rw [if_pos c2, show chR' t x = 0 from if_neg (fun q => q.2 c2), Int.add_zero]
        · rw [if_neg c2, show chR' t x = 1 from if_pos ⟨c, c2⟩]
      · intro y hy y2
        show up u 230 _ _ 230 _ = _
        by_cases q : y = x
        · rw [q, up_same]
        · have b := (hA y (by omega)).2.2
          rw [up_ne (fun z => q (inj y x (by omega) hx y2 c (by omega)))]
          exact e1' y (by omega) y2
      · intro k hk
        show up u 230 _ _ 230 k = _
        rw [up_ne (fun q => hk x (by omega) c q.2)]
        exact e2' k (fun y hy => hk y (by omega))
      · intro c k hc
        show up u 230 _ _ c k = _
        rw [up_ne (by omega)]; exact e3' c k hc) (by
    rintro ⟨v1, v2, u⟩ ⟨e0, e, e1, e2, e3⟩
    have e' : v2 = (n : Int) := e
    subst e'
    have e3' : ∀ c k, c ≠ 230 → u c k = t2 c k := e3
    refine ⟨(v1, u), ?_, e0, e1, e2, e3⟩
    show m_tick_45b v1 (n : Int) u = _
    unfold m_tick_45b
    rw [gr (by omega), e3' 121 161 (by omega), l3 121 161 (by omega), h161, gr (by omega), if_pos (by omega)]) n 0 ((0 : Int), (0 : Int), t2) (by omega) ⟨rfl, rfl, fun y hy => absurd hy (Nat.not_lt_zero y), fun k _ => l3 230 k (by omega), fun _ _ _ => rfl⟩
  obtain ⟨⟨v, t1⟩, m1, m2, m3, m4, m5⟩ := R
  have m2' : v = isum (chR' t) (List.range n) := m2
  refine ⟨t1, ?_, m3, m4, fun c k c1 c2 => by
    have m5' : ∀ c k, c ≠ 230 → t1 c k = t2 c k := m5
    rw [m5' c k c1]; exact l3 c k c2⟩
  unfold m_tick
  rw [h152, gr (by omega), if_neg (by omega)]
  unfold m_tick_13
  rw [show lp (L := Int × iS) (E := iS) (fun l => m_tick_13b 0 (l.1) (l.2)) (0, t) = some t2 from l1, bn]
  unfold m_tick_43 m_tick_45
  rw [show lp (L := Int × Int × iS) (E := Int × iS) (fun l => m_tick_45b (l.1) (l.2.1) (l.2.2)) (0, 0, t2) = some (v, t1) from m1, bn, ← m2']
end CKp
