/-! one more variable, whole -/
section NMc
variable {s : iS}
theorem avF {v r : Int} {k m : Nat} (hv : v = 1 ∨ v = 2 ∨ v = 3 ∨ v = 4) (hk : s 33 2 = ((k + 1 : Nat) : Int)) (hk2 : k < 48) (hm : s 40 v.toNat = (m : Int)) (h13 : -2147483648 ≤ s 23 13 ∧ s 23 13 ≤ 2147483647) : ∃ s', scp_addVariable v r s = some (0, s') ∧ (∀ c k, ¬ (36 ≤ c ∧ c ≤ 39) → ¬ (c = 40 ∧ k = v.toNat) → ¬ (c = 23 ∧ k = 15 ∧ (v = 3 ∨ v = 4)) → s' c k = s c k) ∧ s' 40 v.toNat = (m : Int) + 1 ∧ (v = 3 ∨ v = 4 → s' 23 15 = s 33 2) := by
  have e1 : s 33 2 - 1 = (k : Int) := by omega
  have H : ∀ (x t0 : Int) (u : iS), x = (m : Int) → (∀ c k, ¬ (36 ≤ c ∧ c ≤ 39) → u c k = s c k) → ∃ s', scp_addVariable_67 v (k : Int) x t0 (k : Int) u = some (0, s') ∧ (∀ c k, ¬ (36 ≤ c ∧ c ≤ 39) → ¬ (c = 40 ∧ k = v.toNat) → ¬ (c = 23 ∧ k = 15 ∧ (v = 3 ∨ v = 4)) → s' c k = s c k) ∧ s' 40 v.toNat = (m : Int) + 1 ∧ (v = 3 ∨ v = 4 → s' 23 15 = s 33 2) := by
    intro x t0 u hx hu
    have fin : ∀ u2 : iS, (∀ c k, ¬ (36 ≤ c ∧ c ≤ 39) → u2 c k = s c k) → ∃ s', scp_addVariable_93 v x u2 = some (0, s') ∧ (∀ c k, ¬ (36 ≤ c ∧ c ≤ 39) → ¬ (c = 40 ∧ k = v.toNat) → ¬ (c = 23 ∧ k = 15 ∧ (v = 3 ∨ v = 4)) → s' c k = s c k) ∧ s' 40 v.toNat = (m : Int) + 1 ∧ (v = 3 ∨ v = 4 → s' 23 15 = s 33 2) := by
      intro u2 h2
      obtain ⟨s', a1, a2, a3, a4⟩ := av93 (s := u2) (v4 := x) hv
      exact ⟨s', a1, fun c k z1 z2 z3 => by rw [a2 c k z2 z3]; exact h2 c k z1, by rw [a3, hx], fun q => by rw [a4 q]; exact h2 33 2 (by omega)⟩
    have u38 : ∀ (y : Int) (u3 : iS), (∀ c k, ¬ (36 ≤ c ∧ c ≤ 39) → u3 c k = s c k) → ∀ c i, ¬ (36 ≤ c ∧ c ≤ 39) → up u3 38 k y c i = s c i := fun y u3 h3 c i z => by rw [up_ne (by omega)]; exact h3 c i z
    unfold scp_addVariable_67
    rw [gd_pos (by omega), lt_eq, Int.toNat_natCast, gr (by omega)]
    have q13 : up u 38 k t0 23 13 = s 23 13 := u38 t0 u hu 23 13 (by omega)
    by_cases c1 : v = 1
    · rw [if_pos c1, q13, gr h13]
      by_cases c2 : s 23 13 = 259
      · rw [if_pos c2, gd_pos (by omega), lt_eq]
        exact fin _ (u38 _ _ (u38 _ _ hu))
      · rw [if_neg c2]
        exact fin _ (u38 _ _ hu)
    · rw [if_neg c1]
      exact fin _ (u38 _ _ hu)
  unfold scp_addVariable
  rw [e1, gr (by omega), if_pos (by omega), gd_pos (by omega), gd_pos (by omega), Int.toNat_natCast, lt_eq, lt_eq, lt_eq, gr (by omega)]
  have hu : ∀ c i, ¬ (36 ≤ c ∧ c ≤ 39) → up (up (up s 36 k r) 37 k v) 39 k (s 40 v.toNat) c i = s c i := fun c i z => by rw [up_ne (by omega), up_ne (by omega), up_ne (by omega)]
  split
  · exact H _ _ _ hm hu
  · exact H _ _ _ hm hu
end NMc
