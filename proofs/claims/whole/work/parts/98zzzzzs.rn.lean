/-! the reference enters a call: its loops -/
section ROf
variable {t t' : iS} {v1 v2 : Int} {d : Nat} {M : List Int}
/-- the cells of the call are cleared -/
theorem re_38 (hd : d < 40) : ∀ (n j : Nat) (t : iS), j + n = 24 → ∃ t', m_enter_38 v1 v2 (d : Int) (j : Int) t = m_enter_64 v1 v2 (d : Int) t' ∧ (∀ c k, ¬ (c = 179 ∧ 24 * d + j ≤ k ∧ k < 24 * d + 24) → t' c k = t c k) ∧ ∀ k, j ≤ k → k < 24 → t' 179 (24 * d + k) = 0
  | 0, j, t, h => by
    refine ⟨t, ?_, fun _ _ _ => rfl, fun k h1 h2 => by omega⟩
    unfold m_enter_38
    rw [lp_end (f := fun l : Int × iS => m_enter_38b v1 v2 (d : Int) (l.1) (l.2)) (e := t) (by
      show m_enter_38b v1 v2 (d : Int) (j : Int) t = _
      unfold m_enter_38b
      rw [gr (by omega), if_pos (by omega)])]
    rfl
  | n + 1, j, t, h => by
    obtain ⟨t', i1, i2, i3⟩ := re_38 hd n (j + 1) (up t 179 (24 * d + j) 0) (by omega)
    refine ⟨t', ?_, fun c k z => by rw [i2 c k (by omega), up_ne (by omega)], fun k h1 h2 => ?_⟩
    · rw [← i1]
      unfold m_enter_38
      rw [lp_next (f := fun l : Int × iS => m_enter_38b v1 v2 (d : Int) (l.1) (l.2)) (l' := (((j + 1 : Nat) : Int), up t 179 (24 * d + j) 0)) (by
        show m_enter_38b v1 v2 (d : Int) (j : Int) t = _
        unfold m_enter_38b
        rw [gr (by omega), if_neg (by omega), gd_pos (by omega), lt_eq, show (24 * (d : Int) + (j : Int)).toNat = 24 * d + j by omega, show (j : Int) + 1 = ((j + 1 : Nat) : Int) by omega])]
    · by_cases c : k = j
      · subst c
        rw [i2 179 _ (by omega), up_same]
      · exact i3 k (by omega) h2
/-- the values of the parameters -/
theorem re_69 (hd : d < 40) : ∀ (n : Nat) (B : List Int) (t : iS), B.length = n → n ≤ 12 → RTK t (M ++ B) → (M ++ B).length ≤ 15360 → ∃ t', m_enter_69 v1 (d : Int) ((n : Int) - 1) t = m_enter_96 v1 (d : Int) t' ∧ RTK t' M ∧ (∀ j, j < B.length → t' 179 (24 * d + j) = B.getD j 0) ∧ (∀ c k, ¬ (c = 179 ∧ 24 * d ≤ k ∧ k < 24 * d + n) → ¬ (c = 121 ∧ k = 87) → t' c k = t c k)
  | 0, B, t, hB, _, hR, _ => by
    have e : B = [] := List.length_eq_zero_iff.mp hB
    subst e
    rw [List.append_nil] at hR
    refine ⟨t, ?_, hR, fun j hj => by simp at hj, fun _ _ _ _ => rfl⟩
    unfold m_enter_69
    rw [lp_end (f := fun l : Int × iS => m_enter_69b v1 (d : Int) (l.1) (l.2)) (e := t) (by
      show m_enter_69b v1 (d : Int) (((0 : Nat) : Int) - 1) t = _
      unfold m_enter_69b
      rw [gr (by omega), if_pos (by omega)])]
    rfl
  | n + 1, B, t, hB, h12, hR, hl => by
    obtain ⟨B', y, e⟩ := snoc1 (L := B) (by omega)
    subst e
    rw [List.length_append, List.length_singleton] at hB
    rw [← List.append_assoc] at hR hl
    rw [List.length_append (bs := [y]), List.length_singleton] at hl
    obtain ⟨tp, p1, p2, p3⟩ := rpop_ex hR (by omega)
    obtain ⟨t', i1, i2, i3, i4⟩ := re_69 hd n B' (up tp 179 (24 * d + n) y) (by omega) (by omega) (RTK_of p2 (up_ne (by omega)) (funext fun k => up_ne (by omega))) (by omega)
    refine ⟨t', ?_, i2, fun j hj => ?_, fun c k z1 z2 => by rw [i4 c k (by omega) z2, up_ne (by omega), p3 c k z2]⟩
    · rw [← i1]
      unfold m_enter_69
      rw [lp_next (f := fun l : Int × iS => m_enter_69b v1 (d : Int) (l.1) (l.2)) (l' := ((n : Int) - 1, up tp 179 (24 * d + n) y)) (by
        show m_enter_69b v1 (d : Int) (((n + 1 : Nat) : Int) - 1) t = _
        unfold m_enter_69b
        rw [gr (by omega), if_neg (by omega), p1, bq, gd_pos (by omega), lt_eq, show (24 * (d : Int) + (((n + 1 : Nat) : Int) - 1)).toNat = 24 * d + n by omega, show ((n + 1 : Nat) : Int) - 1 + -1 = (n : Int) - 1 by omega])]
    · rw [List.length_append, List.length_singleton] at hj
      by_cases c : j < B'.length
      · rw [i3 j c, gdL c]
      · have c' : j = B'.length := by omega
        subst c'
        rw [show 24 * d + B'.length = 24 * d + n by omega, i4 179 _ (by omega) (by omega), up_same, gdR (Nat.le_refl _), Nat.sub_self]
        rfl
end ROf
