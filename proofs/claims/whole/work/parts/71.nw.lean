/-! names out of words: Names.half of a String, add, addWords -/
def pkn (g : Nat → Int) : Nat → Int
  | 0 => 0
  | k + 1 => p8s (pkn g k) (g k)
theorem pkn8 (g : Nat → Int) : pkn g 8 = p8 g := by
  simp only [pkn, p8]
  have : p8s 0 (g 0) = g 0 := by unfold p8s; omega
  rw [this]
theorem pkn_rg {g : Nat → Int} (hg : ∀ i, 0 ≤ g i ∧ g i < 256) : ∀ k, 0 ≤ pkn g k ∧ pkn g k < 256 ^ k
  | 0 => by simp [pkn]
  | k + 1 => by
    have h1 := pkn_rg hg k
    have h2 := hg k
    simp only [pkn, p8s]
    have : (256 : Int) ^ (k + 1) = 256 ^ k * 256 := Int.pow_succ 256 k
    omega
/-- the value after k of the eight rounds -/
def pkv (g : Nat → Int) (k : Nat) : Int := sg (pkn g k)
theorem pk_step {g : Nat → Int} (hg : ∀ i, 0 ≤ g i ∧ g i < 256) {k : Nat} (hk : k < 8) : l_or (l_shl (pkv g k) 8) (g k) = pkv g (k + 1) := by
  have h1 := pkn_rg hg k
  have h2 : pkn g k < 72057594037927936 := by
    have : (256 : Int) ^ k ≤ 256 ^ 7 := by
      have : ∀ m : Fin 8, (256 : Int) ^ m.val ≤ 256 ^ 7 := by decide
      exact this ⟨k, hk⟩
    have h3 : (256 : Int) ^ 7 = 72057594037927936 := by decide
    omega
  unfold pkv
  rw [l_shl_sg, l_pack ⟨h1.1, h2⟩ (hg k)]
  rfl
/-- byte i of a String's n bytes -/
def sb (g : Nat → Int32) (i : Nat) : Int := i_c (i_and (g i).toInt 255)
theorem charAt_ok {n : Nat} {g : Nat → Int32} {i : Nat} (hi : i < n) (hn : n < 2147483648) (hb : 0 ≤ sb g i ∧ sb g i < 256) (s : iS) : str_charAt n g (i : Int) s = some (sb g i, s) := by
  unfold str_charAt sl1_charAt str_checkIndex jdk_internal_util_Preconditions_checkIndex
  rw [gd_pos (show rg (i : Int) from ⟨by omega, by omega⟩), if_neg (by omega), gd_pos (show rg (n : Int) from ⟨by omega, by omega⟩), if_pos (by omega), bd_some, bd_some, gd_pos (by omega), Int.toNat_natCast]
  unfold sb at hb
  rw [gd_pos (by omega), bd_some, gd_pos (by omega)]
  rfl
/-- the two halves of the word from st to i -/
def nh (f : Nat → Int) (st i : Nat) : Int := sg (p8 (fun k => if st + k < i then f (st + k) else 0))
theorem half_ok {n : Nat} {g : Nat → Int32} {st i : Nat} (hi : i ≤ n) (hs : st + 8 < 1000000) (hn : n < 1000000) (hb : ∀ i, i < n → 0 ≤ sb g i ∧ sb g i < 256) (s : iS) : nam_half n g (st : Int) (i : Int) s = some (nh (sb g) st i, s) := by
  unfold nam_half nam_half_5
  have hg : ∀ k, 0 ≤ (if st + k < i then sb g (st + k) else 0) ∧ (if st + k < i then sb g (st + k) else 0) < 256 := by
    intro k
    split
    · exact hb _ (by omega)
    · omega
  obtain ⟨e, he, h1, h2⟩ : Wp (lp (L := Int × Int × iS) (E := Int × iS) (fun l => nam_half_5b n g (st : Int) (i : Int) (l.1) (l.2.1) (l.2.2)) (0, (st : Int), s)) (fun e => e.1 = pkv (fun k => if st + k < i then sb g (st + k) else 0) 8 ∧ e.2 = s) := by
    refine wp_lp (fun l : Int × Int × iS => ∃ k : Nat, k ≤ 8 ∧ l.2.1 = ((st + k : Nat) : Int) ∧ l.1 = pkv (fun k => if st + k < i then sb g (st + k) else 0) k ∧ l.2.2 = s) (fun l => ((st : Int) + 8 - l.2.1).toNat) ?_ ⟨0, by omega, rfl, by show (0 : Int) = sg 0; decide, rfl⟩
    rintro ⟨v, q, u⟩ ⟨k, i1, i2, i3, i4⟩
    simp only at i2 i3 i4
    subst i2 i4
    simp only [nam_half_5b]
    rw [gd_pos (show rg ((st + k : Nat) : Int) from ⟨by omega, by omega⟩), gd_pos (show rg ((st : Int) + 8) from ⟨by omega, by omega⟩), wp_ite]
    refine ⟨fun c => wp_some.mpr ⟨?_, rfl⟩, fun c => ?_⟩
    · simp only
      rw [i3, show k = 8 by omega]
    · have hk : k < 8 := by omega
      have st8 := pk_step hg hk
      rw [← i3] at st8
      rw [gd_pos (show rg (i : Int) from ⟨by omega, by omega⟩), wp_ite]
      refine ⟨fun c2 => wp_some.mpr ⟨⟨k + 1, by omega, by simp only; omega, ?_, rfl⟩, by simp only; omega⟩, fun c2 => ?_⟩
      · simp only
        rw [← st8, if_neg (by omega)]
      · rw [charAt_ok (by omega) (by omega) (hb _ (by omega)), bd_some, gd_pos (show rg (sb g (st + k)) from ⟨by have := hb (st + k) (by omega); omega, by have := hb (st + k) (by omega); omega⟩)]
        refine wp_some.mpr ⟨⟨k + 1, by omega, by simp only; omega, ?_, rfl⟩, by simp only; omega⟩
        simp only
        rw [← st8, if_pos (by omega)]
  rw [he]
  obtain ⟨v, u⟩ := e
  simp only at h1 h2
  subst h1 h2
  show some (pkv _ 8, u) = _
  unfold pkv nh
  rw [pkn8]
/-- names with the words W added behind m -/
def addW (W : List (Int × Int)) (c a b m : Nat) (s : iS) : iS := fun c' k' => if c' = c ∧ k' = 2 then ((m + W.length : Nat) : Int) else if c' = a ∧ m ≤ k' ∧ k' < m + W.length then (W.getD (k' - m) (0, 0)).1 else if c' = b ∧ m ≤ k' ∧ k' < m + W.length then (W.getD (k' - m) (0, 0)).2 else s c' k'
theorem addW_nil {c a b m : Nat} {s : iS} (h : s c 2 = m) : addW [] c a b m s = s := by
  funext c' k'
  simp only [addW, List.length_nil]
  split
  · rename_i q; rw [q.1, q.2, h]; rfl
  · rw [if_neg (by omega), if_neg (by omega)]
theorem getD_ap {W V : List (Int × Int)} {i : Nat} {d : Int × Int} (h : i < W.length) : (W ++ V).getD i d = W.getD i d := by
  simp [List.getD_eq_getElem?_getD, List.getElem?_append_left h]
theorem addW_snoc {c a b m : Nat} {x y : Int} {W : List (Int × Int)} {s : iS} (hca : c ≠ a) (hcb : c ≠ b) (hab : a ≠ b) : up (up (up (addW W c a b m s) a (m + W.length) x) b (m + W.length) y) c 2 ((m + W.length + 1 : Nat) : Int) = addW (W ++ [(x, y)]) c a b m s := by
  funext c' k'
  have hl : (W ++ [(x, y)]).length = W.length + 1 := by simp
  by_cases h1 : c' = c ∧ k' = 2
  · rw [h1.1, h1.2, up_same]
    simp only [addW, hl, and_self, if_true]
    omega
  · rw [up_ne h1]
    have e0 : ∀ V, addW V c a b m s c' k' = if c' = a ∧ m ≤ k' ∧ k' < m + V.length then (V.getD (k' - m) (0, 0)).1 else if c' = b ∧ m ≤ k' ∧ k' < m + V.length then (V.getD (k' - m) (0, 0)).2 else s c' k' := fun V => if_neg h1
    rw [e0, hl]
    by_cases h2 : c' = a
    · rw [up_ne (fun q => hab (h2.symm.trans q.1))]
      by_cases h3 : k' = m + W.length
      · rw [h2, h3, up_same, if_pos (by omega), show m + W.length - m = W.length by omega]
        simp
      · rw [up_ne (fun q => h3 q.2), e0]
        by_cases h4 : m ≤ k' ∧ k' < m + W.length
        · rw [if_pos ⟨h2, h4⟩, if_pos (by omega), getD_ap (by omega)]
        · rw [if_neg (fun q => h4 q.2), if_neg (fun q => hab (h2.symm.trans q.1)), if_neg (by omega), if_neg (fun q => hab (h2.symm.trans q.1))]
    · rw [if_neg (fun q => h2 q.1)]
      by_cases h5 : c' = b
      · by_cases h3 : k' = m + W.length
        · rw [h5, h3, up_same, if_pos (by omega), show m + W.length - m = W.length by omega]
          simp
        · rw [up_ne (fun q => h3 q.2), up_ne (fun q => h2 q.1), e0, if_neg (fun q => h2 q.1)]
          by_cases h4 : m ≤ k' ∧ k' < m + W.length
          · rw [if_pos ⟨h5, h4⟩, if_pos (by omega), getD_ap (by omega)]
          · rw [if_neg (fun q => h4 q.2), if_neg (by omega)]
      · rw [up_ne (fun q => h5 q.1), up_ne (fun q => h2 q.1), e0, if_neg (fun q => h2 q.1), if_neg (fun q => h5 q.1), if_neg (fun q => h5 q.1)]
theorem addW_size {c a b m : Nat} {W : List (Int × Int)} {s : iS} : addW W c a b m s c 2 = ((m + W.length : Nat) : Int) := if_pos ⟨rfl, rfl⟩
theorem add_ok {c a b N m : Nat} {x y : Int} {s : iS} (h : s c 2 = m) (hm : m < N) (hN : N < 1000000) (hca : c ≠ a) (hcb : c ≠ b) : nam_add c a b N x y s = some (0, up (up (up s a m x) b m y) c 2 ((m + 1 : Nat) : Int)) := by
  unfold nam_add
  rw [h, gd_pos (show rg (m : Int) from ⟨by omega, by omega⟩), gd_pos (show rg (N : Int) from ⟨by omega, by omega⟩), if_neg (by omega), gd_pos (by omega)]
  simp only [lt_eq]
  rw [up_ne (fun q => hca q.1), h, gd_pos (by omega)]
  simp only [lt_eq, Int.toNat_natCast]
  rw [up_ne (fun q => hcb q.1), up_ne (fun q => hca q.1), h]
  rfl
/-- the words of a text of n bytes -/
def wl (n : Nat) (f : Nat → Int) : Nat → Nat → Nat → List (Int × Int)
  | 0, _, _ => []
  | k + 1, st, i => if i = n ∨ f i = 32 then (if st < i then (nh f st i, nh f (st + 8) i) :: wl n f k (i + 1) (i + 1) else wl n f k (i + 1) (i + 1)) else wl n f k st (i + 1)
