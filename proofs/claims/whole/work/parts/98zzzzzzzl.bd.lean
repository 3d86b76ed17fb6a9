/-! chips: settling -/
theorem nd_inj : ∀ {O : List Nat} {i j : Nat}, O.Nodup → i < O.length → j < O.length → O.getD i 0 = O.getD j 0 → i = j
  | [], i, _, _, h, _, _ => absurd h (Nat.not_lt_zero i)
  | a :: l, i, j, h, hi, hj, e => by
    obtain ⟨n1, n2⟩ := List.nodup_cons.mp h
    rw [List.length_cons] at hi hj
    cases i with
    | zero =>
      cases j with
      | zero => rfl
      | succ j =>
        rw [List.getD_cons_zero, List.getD_cons_succ] at e
        exact absurd (e ▸ gd_memN (O := l) (i := j) (by omega)) n1
    | succ i =>
      cases j with
      | zero =>
        rw [List.getD_cons_zero, List.getD_cons_succ] at e
        exact absurd (e ▸ gd_memN (O := l) (i := i) (by omega)) n1
      | succ j =>
        rw [List.getD_cons_succ, List.getD_cons_succ] at e
        rw [nd_inj n2 (show i < l.length by omega) (by omega) e]
/-- gates are settled one after the other -/
def stN (O : List Nat) (ou a b : Nat → Int) (v : Int → Int) : Nat → Int → Int
  | 0 => v
  | i + 1 => fun x => if x = ou (O.getD i 0) then 1 - stN O ou a b v i (a (O.getD i 0)) * stN O ou a b v i (b (O.getD i 0)) else stN O ou a b v i x
section CKc
variable {O : List Nat} {ou a b : Nat → Int} {v : Int → Int}
theorem stN_s {i : Nat} {x : Int} : stN O ou a b v (i + 1) x = if x = ou (O.getD i 0) then 1 - stN O ou a b v i (a (O.getD i 0)) * stN O ou a b v i (b (O.getD i 0)) else stN O ou a b v i x := rfl
theorem stN_k {x : Int} {i : Nat} : ∀ k, (∀ j, i ≤ j → j < i + k → x ≠ ou (O.getD j 0)) → stN O ou a b v (i + k) x = stN O ou a b v i x
  | 0, _ => rfl
  | k + 1, h => by
    rw [← Nat.add_assoc, stN_s, if_neg (h (i + k) (by omega) (by omega))]
    exact stN_k k (fun j j1 j2 => h j j1 (by omega))
theorem stN_0 {x : Int} {m : Nat} (h : ∀ j, j < m → x ≠ ou (O.getD j 0)) : stN O ou a b v m x = v x := by
  have := stN_k (O := O) (ou := ou) (a := a) (b := b) (v := v) (x := x) (i := 0) m (fun j _ j2 => h j (by omega))
  rw [Nat.zero_add] at this
  exact this
theorem stN_fix {m : Nat} (hi : ∀ i j, i < j → j < m → ou (O.getD i 0) ≠ ou (O.getD j 0)) (hd : ∀ i j, i ≤ j → j < m → a (O.getD i 0) ≠ ou (O.getD j 0) ∧ b (O.getD i 0) ≠ ou (O.getD j 0)) {i : Nat} (h : i < m) : stN O ou a b v m (ou (O.getD i 0)) = 1 - stN O ou a b v m (a (O.getD i 0)) * stN O ou a b v m (b (O.getD i 0)) := by
  obtain ⟨k, rfl⟩ : ∃ k, m = i + 1 + k := ⟨m - (i + 1), by omega⟩
  rw [stN_k k (fun j j1 j2 => hi i j (by omega) j2), stN_s, if_pos rfl]
  have e : i + 1 + k = i + (1 + k) := by omega
  rw [e, stN_k (1 + k) (fun j j1 j2 => (hd i j j1 (by omega)).1), stN_k (1 + k) (fun j j1 j2 => (hd i j j1 (by omega)).2)]
theorem and01 {x y : Int} (hx : x = 0 ∨ x = 1) (hy : y = 0 ∨ y = 1) : i_and x y = x * y := by
  rcases hx with rfl | rfl <;> rcases hy with rfl | rfl <;> decide
theorem nd01 {x y : Int} (hx : x = 0 ∨ x = 1) (hy : y = 0 ∨ y = 1) : 1 - x * y = 0 ∨ 1 - x * y = 1 := by
  rcases hx with rfl | rfl <;> rcases hy with rfl | rfl <;> decide
theorem stN_01 {M : Int} (h : ∀ z, 0 ≤ z → z < M → v z = 0 ∨ v z = 1) (ha : ∀ x ∈ O, (0 ≤ a x ∧ a x < M) ∧ 0 ≤ b x ∧ b x < M) : ∀ i, i ≤ O.length → ∀ z, 0 ≤ z → z < M → stN O ou a b v i z = 0 ∨ stN O ou a b v i z = 1
  | 0, _, z, z1, z2 => h z z1 z2
  | i + 1, hi, z, z1, z2 => by
    have ih := stN_01 h ha i (by omega)
    rw [stN_s]
    obtain ⟨a1, b1⟩ := ha _ (gd_memN (show i < O.length by omega))
    split
    · exact nd01 (ih _ a1.1 a1.2) (ih _ b1.1 b1.2)
    · exact ih z z1 z2
end CKc
section CKd
variable {O : List Nat} {s t : iS}
theorem c_settle (h1 : s 108 16 = (O.length : Int)) (h2 : O.length ≤ 1500) (h3 : ∀ i, i < O.length → s 116 i = ((O.getD i 0 : Nat) : Int)) (h4 : ∀ x ∈ O, x < 1500 ∧ (0 ≤ s 113 x ∧ s 113 x < 1694) ∧ 0 ≤ s 114 x ∧ s 114 x < 1694) (h5 : ∀ k, k < 1694 → s 112 k = 0 ∨ s 112 k = 1) : ∃ s', brd_settle s = some (0, s') ∧ (∀ k, k < 1694 → s' 112 k = stN O (fun x => 194 + (x : Int)) (s 113) (s 114) (fun z => s 112 z.toNat) O.length (k : Int)) ∧ (∀ k, k < 1694 → s' 112 k = 0 ∨ s' 112 k = 1) ∧ ∀ c k, c ≠ 112 → s' c k = s c k := by
  obtain ⟨V, hV⟩ : ∃ V, V = stN O (fun x => 194 + (x : Int)) (s 113) (s 114) (fun z => s 112 z.toNat) := ⟨_, rfl⟩
  have v01 : ∀ i, i ≤ O.length → ∀ z : Int, 0 ≤ z → z < 1694 → V i z = 0 ∨ V i z = 1 := by
    rw [hV]
    exact stN_01 (M := 1694) (fun z z1 z2 => h5 z.toNat (by omega)) (fun x hx => ⟨(h4 x hx).2.1, (h4 x hx).2.2⟩)
  have L := lpG (f := fun l : Int × iS => brd_settle_2b (l.1) (l.2)) (M := O.length) (I := fun i l => l.1 = (i : Int) ∧ (∀ k, k < 1694 → l.2 112 k = V i (k : Int)) ∧ ∀ c k, c ≠ 112 → l.2 c k = s c k) (J := fun e => (∀ k, k < 1694 → e 112 k = V O.length (k : Int)) ∧ ∀ c k, c ≠ 112 → e c k = s c k) (by
    rintro i ⟨v, u⟩ hi ⟨e, hv, hu⟩
    have e' : v = (i : Int) := e
    subst e'
    have hv' : ∀ k, k < 1694 → u 112 k = V i (k : Int) := hv
    have hu' : ∀ c k, c ≠ 112 → u c k = s c k := hu
    obtain ⟨x, hx⟩ : ∃ x, x = O.getD i 0 := ⟨_, rfl⟩
    have hm : x ∈ O := hx ▸ gd_memN hi
    obtain ⟨x1, x2, x3⟩ := h4 x hm
    have e16 : u 108 16 = (O.length : Int) := by rw [hu' 108 16 (by omega), h1]
    have e116 : u 116 i = (x : Int) := by rw [hu' 116 i (by omega), h3 i hi, hx]
    have e113 : u 113 x = s 113 x := hu' 113 x (by omega)
    have e114 : u 114 x = s 114 x := hu' 114 x (by omega)
    have ea : u 112 (s 113 x).toNat = V i (s 113 x) := by rw [hv' _ (by omega), Int.toNat_of_nonneg x2.1]
    have eb : u 112 (s 114 x).toNat = V i (s 114 x) := by rw [hv' _ (by omega), Int.toNat_of_nonneg x3.1]
    refine ⟨((i : Int) + 1, up u 112 (194 + x) (1 - V i (s 113 x) * V i (s 114 x))), ?_, by show (i : Int) + 1 = ((i + 1 : Nat) : Int); omega, ?_, ?_⟩
    · show brd_settle_2b (i : Int) u = _
      unfold brd_settle_2b
      rw [gr (by omega), gr (by omega), if_neg (by omega), gd_pos (by omega), Int.toNat_natCast, e116, gd_pos (by omega), Int.toNat_natCast, e113, e114, gd_pos (by omega), gd_pos (by omega), gd_pos (by omega), ea, eb, and01 (v01 i (by omega) _ x2.1 x2.2) (v01 i (by omega) _ x3.1 x3.2)]
      show some (Sum.inl ((i : Int) + 1, up u 112 (194 + (x : Int)).toNat _)) = _
      rw [show (194 + (x : Int)).toNat = 194 + x by omega]
    · intro k hk
      show up u 112 (194 + x) _ 112 k = _
      have hs : V (i + 1) (k : Int) = if (k : Int) = 194 + ((O.getD i 0 : Nat) : Int) then 1 - V i (s 113 (O.getD i 0)) * V i (s 114 (O.getD i 0)) else V i (k : Int) := by rw [hV]; rfl
      rw [hs, ← hx]
      by_cases z : k = 194 + x
      · rw [z, up_same, if_pos (by omega)]
      · rw [up_ne (by omega), if_neg (by omega)]
        exact hv' k hk
    · intro c k hc
      show up u 112 (194 + x) _ c k = _
      rw [up_ne (by omega)]
      exact hu' c k hc) (by
    rintro ⟨v, u⟩ ⟨e, hv, hu⟩
    have e' : v = (O.length : Int) := e
    subst e'
    have hu' : ∀ c k, c ≠ 112 → u c k = s c k := hu
    have e16 : u 108 16 = (O.length : Int) := by rw [hu' 108 16 (by omega), h1]
    refine ⟨u, ?_, hv, hu⟩
    show brd_settle_2b (O.length : Int) u = _
    unfold brd_settle_2b
    rw [gr (by omega), gr (by omega), if_pos (by omega)]) O.length 0 ((0 : Int), s) (by omega) ⟨rfl, fun k hk => by rw [hV]; show s 112 k = s 112 ((k : Int)).toNat; rw [Int.toNat_natCast], fun _ _ _ => rfl⟩
  obtain ⟨s', l1, l2, l3⟩ := L
  refine ⟨s', ?_, by rw [← hV]; exact l2, fun k hk => by rw [l2 k hk]; exact v01 _ (Nat.le_refl _) _ (by omega) (by omega), l3⟩
  unfold brd_settle brd_settle_2
  rw [show lp (L := Int × iS) (E := iS) (fun l => brd_settle_2b (l.1) (l.2)) (0, s) = some s' from l1]
  rfl
/-- a bit's value -/
def rvl (t : iS) (z : Int) : Int := if z = -2 then 1 else if z < 0 then 0 else t 230 z.toNat
theorem r_val {z : Int} (h : -2 ≤ z ∧ z < 40000) : m_valueOf z t = some (rvl t z, t) := by
  unfold m_valueOf rvl
  rw [gr (by omega)]
  by_cases c1 : z = -2
  · rw [if_pos c1, if_pos c1]
  · rw [if_neg c1, if_neg c1]
    by_cases c2 : 0 ≤ z
    · rw [if_pos c2, if_neg (show ¬ z < 0 by omega), gd_pos (by omega)]
    · rw [if_neg c2, if_pos (show z < 0 by omega)]
theorem r_settle (h1 : t 121 166 = (O.length : Int)) (h2 : O.length ≤ 1500) (h3 : ∀ i, i < O.length → t 227 i = ((O.getD i 0 : Nat) : Int)) (h4 : ∀ x ∈ O, x < 1500 ∧ (-2 ≤ t 228 x ∧ t 228 x < 40000) ∧ (-2 ≤ t 229 x ∧ t 229 x < 40000) ∧ 0 ≤ t 225 x ∧ t 225 x + 2 < 40000) : ∃ t', m_settle t = some (0, t') ∧ (∀ z : Int, -2 ≤ z → z < 40000 → rvl t' z = stN O (fun x => t 225 x + 2) (t 228) (t 229) (rvl t) O.length z) ∧ ∀ c k, c ≠ 230 → t' c k = t c k := by
  obtain ⟨V, hV⟩ : ∃ V, V = stN O (fun x => t 225 x + 2) (t 228) (t 229) (rvl t) := ⟨_, rfl⟩
  have L := lpG (f := fun l : Int × iS => m_settle_2b (l.1) (l.2)) (M := O.length) (I := fun i l => l.1 = (i : Int) ∧ (∀ z : Int, -2 ≤ z → z < 40000 → rvl l.2 z = V i z) ∧ ∀ c k, c ≠ 230 → l.2 c k = t c k) (J := fun e => (∀ z : Int, -2 ≤ z → z < 40000 → rvl e z = V O.length z) ∧ ∀ c k, c ≠ 230 → e c k = t c k) (by
    rintro i ⟨v, u⟩ hi ⟨e, hv, hu⟩
    have e' : v = (i : Int) := e
    subst e'
    have hv' : ∀ z : Int, -2 ≤ z → z < 40000 → rvl u z = V i z := hv
    have hu' : ∀ c k, c ≠ 230 → u c k = t c k := hu
    obtain ⟨x, hx⟩ : ∃ x, x = O.getD i 0 := ⟨_, rfl⟩
    have hm : x ∈ O := hx ▸ gd_memN hi
    obtain ⟨x1, x2, x3, x4, x5⟩ := h4 x hm
    have e16 : u 121 166 = (O.length : Int) := by rw [hu' 121 166 (by omega), h1]
    have e116 : u 227 i = (x : Int) := by rw [hu' 227 i (by omega), h3 i hi, hx]
    have e113 : u 228 x = t 228 x := hu' 228 x (by omega)
    have e114 : u 229 x = t 229 x := hu' 229 x (by omega)
    have e115 : u 225 x = t 225 x := hu' 225 x (by omega)
    refine ⟨((i : Int) + 1, up u 230 (t 225 x + 2).toNat (1 - V i (t 228 x) * V i (t 229 x))), ?_, by show (i : Int) + 1 = ((i + 1 : Nat) : Int); omega, ?_, ?_⟩
    · show m_settle_2b (i : Int) u = _
      unfold m_settle_2b
      rw [gr (by omega), gr (by omega), if_neg (by omega), gd_pos (by omega), Int.toNat_natCast, e116, gd_pos (by omega), Int.toNat_natCast, e113, r_val x2, bq, e114, r_val x3, bq, e115, gd_pos (by omega), hv' _ x2.1 x2.2, hv' _ x3.1 x3.2]
      rfl
    · intro z z1 z2
      show rvl (up u 230 (t 225 x + 2).toNat _) z = _
      have hs : V (i + 1) z = if z = t 225 (O.getD i 0) + 2 then 1 - V i (t 228 (O.getD i 0)) * V i (t 229 (O.getD i 0)) else V i z := by rw [hV]; rfl
      rw [hs, ← hx, ← hv' z z1 z2]
      unfold rvl
      by_cases c1 : z = -2
      · rw [if_pos c1, if_neg (show ¬ z = t 225 x + 2 by omega), if_pos c1]
      · rw [if_neg c1]
        by_cases c2 : z < 0
        · rw [if_pos c2, if_neg (show ¬ z = t 225 x + 2 by omega), if_neg c1, if_pos c2]
        · rw [if_neg c2]
          by_cases c3 : z = t 225 x + 2
          · rw [if_pos c3, c3, up_same]
          · rw [if_neg c3, if_neg c1, if_neg c2, up_ne (by omega)]
    · intro c k hc
      show up u 230 _ _ c k = _
      rw [up_ne (by omega)]
      exact hu' c k hc) (by
    rintro ⟨v, u⟩ ⟨e, hv, hu⟩
    have e' : v = (O.length : Int) := e
    subst e'
    have hu' : ∀ c k, c ≠ 230 → u c k = t c k := hu
    have e16 : u 121 166 = (O.length : Int) := by rw [hu' 121 166 (by omega), h1]
    refine ⟨u, ?_, hv, hu⟩
    show m_settle_2b (O.length : Int) u = _
    unfold m_settle_2b
    rw [gr (by omega), gr (by omega), if_pos (by omega)]) O.length 0 ((0 : Int), t) (by omega) ⟨rfl, fun z _ _ => by rw [hV]; rfl, fun _ _ _ => rfl⟩
  obtain ⟨t', l1, l2, l3⟩ := L
  refine ⟨t', ?_, by rw [← hV]; exact l2, l3⟩
  unfold m_settle m_settle_2
  rw [show lp (L := Int × iS) (E := iS) (fun l => m_settle_2b (l.1) (l.2)) (0, t) = some t' from l1]
  rfl
end CKd
