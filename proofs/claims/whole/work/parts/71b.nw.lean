/-! addWords (the kernel says: deep recursion; not yet mended) -/
theorem addWords_ok {c a b N n m : Nat} {g : Nat → Int32} {s : iS} {W : List (Int × Int)} (hW : wl n (sb g) (n + 1) 0 0 = W) (hn : n < 100000) (hN : N < 1000000) (hb : ∀ i, i < n → 0 ≤ sb g i ∧ sb g i < 256) (h : s c 2 = m) (hm : m + W.length ≤ N) (hca : c ≠ a) (hcb : c ≠ b) (hab : a ≠ b) : nam_addWords c a b N n g s = some (0, addW W c a b m s) := by
  have hs0 : i_shr (n : Int) 0 = n := by
    unfold i_shr
    have : (Int32.ofInt 0 &&& 31 : Int32) = 0 := by decide
    rw [this, Int32.shiftRight_zero, r_ti ⟨by omega, by omega⟩]
  unfold nam_addWords nam_addWords_4
  obtain ⟨e, he, h1⟩ : Wp (lp (L := Int × Int × iS) (E := iS) (fun l => nam_addWords_4b c a b N n g (l.1) (l.2.1) (l.2.2)) (0, 0, s)) (fun e => e = addW W c a b m s) := by
    refine wp_lp (fun l : Int × Int × iS => ∃ (k st i : Nat) (V : List (Int × Int)), l.1 = (st : Int) ∧ l.2.1 = (i : Int) ∧ i + k = n + 1 ∧ st ≤ i ∧ V ++ wl n (sb g) k st i = W ∧ l.2.2 = addW V c a b m s) (fun l => ((n : Int) + 1 - l.2.1).toNat) ?_ ⟨n + 1, 0, 0, [], rfl, rfl, by omega, by omega, by rw [List.nil_append]; exact hW, (addW_nil h).symm⟩
    rintro ⟨p, q, u⟩ ⟨k, st, i, V, i1, i2, i3, i4, i5, i6⟩
    simp only at i1 i2 i6
    subst i1 i2 i6
    show Wp (nam_addWords_4b c a b N n g (st : Int) (i : Int) (addW V c a b m s)) _
    unfold nam_addWords_4b str_length_v3
    rw [bd_some, gd_pos (show rg (i : Int) from ⟨by omega, by omega⟩), gd_pos (show rg (i_shr (n : Int) 0) from ⟨by omega, by omega⟩), wp_ite]
    refine ⟨fun c1 => wp_some.mpr ?_, fun c1 => ?_⟩
    · have : k = 0 := by omega
      subst this
      rw [← i5]
      simp [wl]
    obtain ⟨k, rfl⟩ : ∃ k', k = k' + 1 := ⟨k - 1, by omega⟩
    rw [bd_some, gd_pos (show rg (i_shr (n : Int) 0) from ⟨by omega, by omega⟩)]
    have word : (i = n ∨ sb g i = 32) → Wp (nam_addWords_30 c a b N n g (st : Int) (i : Int) (addW V c a b m s)) (fun r => r.elim (fun l' => (∃ (k st i : Nat) (V : List (Int × Int)), l'.1 = (st : Int) ∧ l'.2.1 = (i : Int) ∧ i + k = n + 1 ∧ st ≤ i ∧ V ++ wl n (sb g) k st i = W ∧ l'.2.2 = addW V c a b m s) ∧ ((n : Int) + 1 - l'.2.1).toNat < ((n : Int) + 1 - (i : Int)).toNat) (fun e => e = addW W c a b m s)) := by
      intro hw
      rw [wl, if_pos hw] at i5
      unfold nam_addWords_30 nam_addWords_54
      rw [gd_pos (show rg (i : Int) from ⟨by omega, by omega⟩), gd_pos (show rg (st : Int) from ⟨by omega, by omega⟩), wp_ite]
      refine ⟨fun c2 => ?_, fun c2 => ?_⟩
      · rw [if_neg (by omega)] at i5
        exact wp_some.mpr ⟨⟨k, i + 1, i + 1, V, by simp only; omega, by simp only; omega, by omega, by omega, i5, rfl⟩, by simp only; omega⟩
      · rw [if_pos (by omega)] at i5
        have lenV : V.length < W.length := by rw [← i5, List.length_append, List.length_cons]; omega
        rw [half_ok (by omega) (by omega) (by omega) hb, bd_some, show (st : Int) + 8 = ((st + 8 : Nat) : Int) by omega, half_ok (by omega) (by omega) (by omega) hb, bd_some, add_ok (m := m + V.length) addW_size (by omega) hN hca hcb, bd_some, addW_snoc hca hcb hab]
        refine wp_some.mpr ⟨⟨k, i + 1, i + 1, V ++ [(nh (sb g) st i, nh (sb g) (st + 8) i)], by simp only; omega, by simp only; omega, by omega, by omega, ?_, rfl⟩, by simp only; omega⟩
        rw [← i5]
        simp
    rw [wp_ite]
    refine ⟨fun c2 => word (Or.inl (by omega)), fun c2 => ?_⟩
    have hi : i < n := by omega
    rw [charAt_ok hi (by omega) (hb i hi), bd_some, gd_pos (show rg (sb g i) from ⟨by have := hb i hi; omega, by have := hb i hi; omega⟩), wp_ite]
    refine ⟨fun c3 => word (Or.inr c3), fun c3 => ?_⟩
    rw [wl, if_neg (by rintro (q | q); · omega
                       · exact c3 q)] at i5
    exact wp_some.mpr ⟨⟨k, st, i + 1, V, rfl, by simp only; omega, by omega, by omega, i5, rfl⟩, by simp only; omega⟩
  rw [he, h1]
  rfl
