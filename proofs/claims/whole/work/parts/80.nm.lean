/-! letters, digits; names out of the tape; the first of some names -/
theorem dig_ok {v : Int} (hv : rg v) (s : iS) : x_isDigit v s = some (if 48 ≤ v ∧ v ≤ 57 then 1 else 0, s) := by
  unfold x_isDigit
  rw [gd_pos hv]
  by_cases h1 : v < 48
  · rw [if_pos h1, if_neg (by omega)]
  · rw [if_neg h1]
    by_cases h2 : 57 < v
    · rw [if_pos h2, if_neg (by omega)]
    · rw [if_neg h2, if_pos (by omega)]
theorem mdig_ok {v : Int} (hv : rg v) (s : iS) : m_isDigit v s = some (if 48 ≤ v ∧ v ≤ 57 then 1 else 0, s) := by
  unfold m_isDigit
  rw [gd_pos hv]
  by_cases h1 : v < 48
  · rw [if_pos h1, if_neg (by omega)]
  · rw [if_neg h1]
    by_cases h2 : 57 < v
    · rw [if_pos h2, if_neg (by omega)]
    · rw [if_neg h2, if_pos (by omega)]
theorem let_ok {v : Int} (hv : rg v) (s : iS) : x_isLetter v s = some (if 97 ≤ v ∧ v ≤ 122 ∨ 65 ≤ v ∧ v ≤ 90 then 1 else 0, s) := by
  unfold x_isLetter x_isLetter_12
  rw [gd_pos hv, gd_pos hv]
  by_cases h1 : v < 97
  · rw [if_pos h1]
    by_cases h2 : v < 65
    · rw [if_pos h2, if_neg (by omega)]
    · rw [if_neg h2]
      by_cases h3 : 90 < v
      · rw [if_pos h3, if_neg (by omega)]
      · rw [if_neg h3, if_pos (by omega)]
  · rw [if_neg h1]
    by_cases h2 : v ≤ 122
    · rw [if_pos h2, if_pos (by omega)]
    · rw [if_neg h2, if_neg (by omega), if_pos (by omega), if_neg (by omega)]
theorem mlet_ok {v : Int} (hv : rg v) (s : iS) : m_isLetter v s = some (if 97 ≤ v ∧ v ≤ 122 ∨ 65 ≤ v ∧ v ≤ 90 then 1 else 0, s) := by
  unfold m_isLetter m_isLetter_12
  rw [gd_pos hv, gd_pos hv]
  by_cases h1 : v < 97
  · rw [if_pos h1]
    by_cases h2 : v < 65
    · rw [if_pos h2, if_neg (by omega)]
    · rw [if_neg h2]
      by_cases h3 : 90 < v
      · rw [if_pos h3, if_neg (by omega)]
      · rw [if_neg h3, if_pos (by omega)]
  · rw [if_neg h1]
    by_cases h2 : v ≤ 122
    · rw [if_pos h2, if_pos (by omega)]
    · rw [if_neg h2, if_neg (by omega), if_pos (by omega), if_neg (by omega)]
/-- half of the name from st to i on the tape -/
theorem half43_ok {st i : Nat} {s : iS} (hi : i ≤ 4000) (hs : st + 8 < 1000000) (hb : ∀ k, 0 ≤ s 1 k ∧ s 1 k < 256) : nam_half_43 (st : Int) (i : Int) s = some (nh (s 1) st i, s) := by
  unfold nam_half_43 nam_half_43_5
  have hg : ∀ k, 0 ≤ (if st + k < i then s 1 (st + k) else 0) ∧ (if st + k < i then s 1 (st + k) else 0) < 256 := by
    intro k
    split
    · exact hb _
    · omega
  obtain ⟨e, he, h1, h2⟩ : Wp (lp (L := Int × Int × iS) (E := Int × iS) (fun l => nam_half_43_5b (st : Int) (i : Int) (l.1) (l.2.1) (l.2.2)) (0, (st : Int), s)) (fun e => e.1 = pkv (fun k => if st + k < i then s 1 (st + k) else 0) 8 ∧ e.2 = s) := by
    refine wp_lp (fun l : Int × Int × iS => ∃ k : Nat, k ≤ 8 ∧ l.2.1 = ((st + k : Nat) : Int) ∧ l.1 = pkv (fun k => if st + k < i then s 1 (st + k) else 0) k ∧ l.2.2 = s) (fun l => ((st : Int) + 8 - l.2.1).toNat) ?_ ⟨0, by omega, rfl, by show (0 : Int) = sg 0; decide, rfl⟩
    rintro ⟨v, q, u⟩ ⟨k, i1, i2, i3, i4⟩
    simp only at i2 i3 i4
    subst i2 i4
    simp only [nam_half_43_5b, nam_half_43_43]
    rw [gd_pos (show rg ((st + k : Nat) : Int) from ⟨by omega, by omega⟩), gd_pos (show rg ((st : Int) + 8) from ⟨by omega, by omega⟩), wp_ite]
    refine ⟨fun c => wp_some.mpr ⟨?_, rfl⟩, fun c => ?_⟩
    · simp only
      rw [i3, show k = 8 by omega]
    · have hk : k < 8 := by omega
      have st8 := pk_step hg hk
      rw [← i3] at st8
      rw [if_neg (by omega), gd_pos (show rg (i : Int) from ⟨by omega, by omega⟩), wp_ite]
      refine ⟨fun c2 => wp_some.mpr ⟨⟨k + 1, by omega, by simp only; omega, ?_, rfl⟩, by simp only; omega⟩, fun c2 => ?_⟩
      · simp only
        rw [← st8, if_neg (by omega)]
      · have hb' := hb (st + k)
        rw [if_neg (by omega), gd_pos (by omega)]
        simp only [Int.toNat_natCast]
        rw [gd_pos (show rg (u 1 (st + k)) from ⟨by omega, by omega⟩)]
        refine wp_some.mpr ⟨⟨k + 1, by omega, by simp only; omega, ?_, rfl⟩, by simp only; omega⟩
        simp only
        rw [← st8, if_pos (by omega)]
  rw [he]
  obtain ⟨v, u⟩ := e
  simp only at h1 h2
  subst h1 h2
  show some (pkv _ 8, u) = _
  unfold pkv nh
  rw [pkn8]
/-- the first of i .. i + k - 1 that is one; -1 -/
def fst1 (P : Nat → Prop) [DecidablePred P] : Nat → Nat → Int
  | _, 0 => -1
  | i, k + 1 => if P i then (i : Int) else fst1 P (i + 1) k
theorem find19_ok {c a b N : Nat} {x y : Int} {s : iS} {e : Nat} (hx : lr x) (hy : lr y) (hN : N < 1000000) (he : e ≤ N) (hr : ∀ i, i < e → lr (s a i) ∧ lr (s b i)) : ∀ (k i : Nat), i + k = e → nam_find_19 c a b N x y (e : Int) (i : Int) s = some (fst1 (fun i => s a i = x ∧ s b i = y) i k, s)
  | 0, i, h => by
    unfold nam_find_19
    rw [lp_end (f := fun l : Int × iS => nam_find_19b c a b N x y (e : Int) (l.1) (l.2)) (l := ((i : Int), s)) (e := .inr s) (show nam_find_19b c a b N x y (e : Int) (i : Int) s = some (.inr (.inr s)) from by
      unfold nam_find_19b
      rw [gd_pos (show rg (i : Int) from ⟨by omega, by omega⟩), gd_pos (show rg (e : Int) from ⟨by omega, by omega⟩), if_pos (by omega)])]
    rfl
  | k + 1, i, h => by
    have hi := hr i (by omega)
    have go : ∀ (q : nam_find_19b c a b N x y (e : Int) (i : Int) s = some (.inl ((i : Int) + 1, s))), nam_find_19 c a b N x y (e : Int) (i : Int) s = nam_find_19 c a b N x y (e : Int) ((i + 1 : Nat) : Int) s := by
      intro q
      unfold nam_find_19
      rw [lp_next (f := fun l : Int × iS => nam_find_19b c a b N x y (e : Int) (l.1) (l.2)) (l := ((i : Int), s)) q]
      rfl
    have st : nam_find_19b c a b N x y (e : Int) (i : Int) s = if s a i = x ∧ s b i = y then some (.inr (.inl ((i : Int), s))) else some (.inl ((i : Int) + 1, s)) := by
      unfold nam_find_19b
      rw [gd_pos (show rg (i : Int) from ⟨by omega, by omega⟩), gd_pos (show rg (e : Int) from ⟨by omega, by omega⟩), if_neg (by omega), gd_pos (by omega)]
      simp only [Int.toNat_natCast]
      rw [gd_pos (show rg (l_cmp (s a i) x) from ⟨Int32.le_toInt _, Int32.toInt_lt _⟩), gd_pos (show rg (l_cmp (s b i) y) from ⟨Int32.le_toInt _, Int32.toInt_lt _⟩)]
      by_cases h1 : s a i = x
      · rw [if_pos ((l_cmp0 hi.1 hx).mpr h1)]
        by_cases h2 : s b i = y
        · rw [if_pos ((l_cmp0 hi.2 hy).mpr h2), if_pos ⟨h1, h2⟩]
        · rw [if_neg (fun q => h2 ((l_cmp0 hi.2 hy).mp q)), if_neg (fun q => h2 q.2)]
      · rw [if_neg (fun q => h1 ((l_cmp0 hi.1 hx).mp q)), if_neg (fun q => h1 q.1)]
    by_cases h0 : s a i = x ∧ s b i = y
    · rw [if_pos h0] at st
      unfold nam_find_19
      rw [lp_end (f := fun l : Int × iS => nam_find_19b c a b N x y (e : Int) (l.1) (l.2)) (l := ((i : Int), s)) st]
      simp only [fst1, if_pos h0]
      rfl
    · rw [if_neg h0] at st
      rw [go st, find19_ok hx hy hN he hr k (i + 1) (by omega)]
      simp only [fst1, if_neg h0]
/-- the first of the names from f to e - 1 -/
theorem find_ok {c a b N m : Nat} {x y : Int} {s : iS} {f e : Nat} (hx : lr x) (hy : lr y) (hN : N < 1000000) (hm : s c 2 = m) (hmN : m ≤ N) (hf : f < 1000000) (he : e < 1000000) (hr : ∀ i, i < m → lr (s a i) ∧ lr (s b i)) : nam_find c a b N x y (f : Int) (e : Int) s = some (fst1 (fun i => s a i = x ∧ s b i = y) f (min e m - f), s) := by
  unfold nam_find
  rw [hm, min_ok ⟨by omega, by omega⟩ ⟨by omega, by omega⟩, bd_some, max_ok (by decide) ⟨by omega, by omega⟩, bd_some]
  have e1 : (if (m : Int) < (e : Int) then (m : Int) else (e : Int)) = ((min e m : Nat) : Int) := by
    split <;> omega
  have e2 : (if (0 : Int) < (f : Int) then (f : Int) else 0) = (f : Int) := by
    split <;> omega
  rw [e1, e2]
  by_cases h : f ≤ min e m
  · exact find19_ok hx hy hN (by omega) (fun i hi => hr i (by omega)) (min e m - f) f (by omega)
  · unfold nam_find_19
    rw [lp_end (f := fun l : Int × iS => nam_find_19b c a b N x y ((min e m : Nat) : Int) (l.1) (l.2)) (l := ((f : Int), s)) (e := .inr s) (show nam_find_19b c a b N x y ((min e m : Nat) : Int) (f : Int) s = some (.inr (.inr s)) from by
      unfold nam_find_19b
      rw [gd_pos (show rg (f : Int) from ⟨by omega, by omega⟩), gd_pos (show rg ((min e m : Nat) : Int) from ⟨by omega, by omega⟩), if_pos (by omega)])]
    rw [show min e m - f = 0 by omega]
    rfl
/-- a row is filled -/
theorem fill_ok {a N : Nat} {v : Int} {s : iS} (hN : N < 1000000) : arr_fill a N v s = some (0, sr s a (fun i => if i < N then v else s a i)) := by
  unfold arr_fill arr_fill_5
  obtain ⟨e, he, h1⟩ : Wp (lp (L := Int × iS) (E := iS) (fun l => arr_fill_5b a N v (l.1) (N : Int) (l.2)) (0, s)) (fun e => e = sr s a (fun i => if i < N then v else s a i)) := by
    refine wp_lp (fun l : Int × iS => ∃ k : Nat, k ≤ N ∧ l.1 = (k : Int) ∧ l.2 = sr s a (fun i => if i < k then v else s a i)) (fun l => ((N : Int) - l.1).toNat) ?_ ⟨0, by omega, rfl, ?_⟩
    · rintro ⟨p, u⟩ ⟨k, i1, i2, i3⟩
      simp only at i2 i3
      subst i2 i3
      simp only [arr_fill_5b]
      rw [gd_pos (show rg (k : Int) from ⟨by omega, by omega⟩), gd_pos (show rg (N : Int) from ⟨by omega, by omega⟩), wp_ite]
      refine ⟨fun c => wp_some.mpr ?_, fun c => ?_⟩
      · rw [show k = N by omega]
        rfl
      · rw [gd_pos (by omega)]
        refine wp_some.mpr ⟨⟨k + 1, by omega, by simp only; omega, ?_⟩, by simp only; omega⟩
        simp only [Int.toNat_natCast]
        funext c' k'
        simp only [up_at, sr]
        by_cases h1 : c' = a
        · subst h1
          by_cases h2 : k' = k
          · subst h2
            rw [if_pos ⟨rfl, rfl⟩, if_pos rfl, if_pos (by omega)]
          · rw [if_neg (fun q => h2 q.2), if_pos rfl, if_pos rfl]
            by_cases h3 : k' < k
            · rw [if_pos h3, if_pos (by omega)]
            · rw [if_neg h3, if_neg (by omega)]
        · rw [if_neg (fun q => h1 q.1), if_neg h1, if_neg h1]
    · funext c' k'
      simp [sr]
      intro h
      rw [h]
  rw [he, h1]
  rfl
theorem keep_ok {c a b N m k : Nat} {s : iS} (hm : s c 2 = m) (hN : m < 1000000) (hk : k < 1000000) : nam_keep c a b N (k : Int) s = some (0, up s c 2 ((min m k : Nat) : Int)) := by
  unfold nam_keep
  rw [hm, min_ok ⟨by omega, by omega⟩ ⟨by omega, by omega⟩, bd_some]
  have e1 : (if (k : Int) < (m : Int) then (k : Int) else (m : Int)) = ((min m k : Nat) : Int) := by
    split <;> omega
  rw [e1, max_ok (by decide) ⟨by omega, by omega⟩, bd_some]
  have e2 : (if (0 : Int) < ((min m k : Nat) : Int) then ((min m k : Nat) : Int) else 0) = ((min m k : Nat) : Int) := by
    split <;> omega
  rw [e2]
  rfl
/-- the text is taken from the tape -/
theorem takes_ok {n : Int} {t : iS} (h0 : 0 ≤ n) (h1 : n ≤ t 121 1) (h2 : t 121 1 ≤ 4000) : ∃ t', m_takes n t = some (1, t') ∧ t' 121 1 = 0 ∧ t' 121 3 = n ∧ ∀ i : Nat, (i : Int) < n → t' 123 i = t 122 i := by
  unfold m_takes m_takes_21
  rw [gd_pos (show rg n from ⟨by omega, by omega⟩), if_neg (by omega), gd_pos (show rg (t 121 1) from ⟨by omega, by omega⟩), if_pos h1]
  simp only [lt_eq]
  obtain ⟨e, he, k1, k2⟩ : Wp (lp (L := Int × iS) (E := iS) (fun l => m_takes_21b n (l.1) (l.2)) (0, up t 121 3 n)) (fun e => (∀ i : Nat, (i : Int) < n → e 123 i = t 122 i) ∧ e 121 3 = n) := by
    refine wp_lp (fun l : Int × iS => (0 ≤ l.1 ∧ l.1 ≤ n) ∧ l.2 122 = t 122 ∧ l.2 121 3 = n ∧ ∀ i : Nat, (i : Int) < l.1 → l.2 123 i = t 122 i) (fun l => (n - l.1).toNat) ?_ ⟨⟨by show (0 : Int) ≤ 0; omega, by show (0 : Int) ≤ n; omega⟩, by show up t 121 3 n 122 = t 122; exact up_cell (by decide), by show up t 121 3 n 121 3 = n; exact up_same _ _ _ _, fun i hi => by simp only at hi; omega⟩
    rintro ⟨k, u⟩ ⟨i1, i2, i3, i4⟩
    simp only at i1 i2 i3 i4
    simp only [m_takes_21b]
    rw [gd_pos (show rg k from ⟨by omega, by omega⟩), gd_pos (show rg n from ⟨by omega, by omega⟩), wp_ite]
    refine ⟨fun c => wp_some.mpr ⟨fun i hi => i4 i (by omega), i3⟩, fun c => ?_⟩
    rw [gd_pos (by omega)]
    refine wp_some.mpr ⟨⟨⟨by simp only; omega, by simp only; omega⟩, ?_, ?_, fun i hi => ?_⟩, by simp only; omega⟩
    · simp only
      rw [up_cell (by decide), i2]
    · simp only
      rw [up_ne (by omega), i3]
    · simp only at hi ⊢
      rw [up_at]
      by_cases q : i = k.toNat
      · rw [if_pos ⟨rfl, q⟩, i2, q]
      · rw [if_neg (fun z => q z.2)]
        exact i4 i (by omega)
  rw [he]
  refine ⟨_, rfl, up_same _ _ _ _, ?_, fun i hi => ?_⟩
  · rw [up_ne (by omega), k2]
  · rw [up_cell (by decide)]
    exact k1 i hi
