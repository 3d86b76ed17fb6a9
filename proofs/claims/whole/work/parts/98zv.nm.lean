/-! one more variable: the counters -/
section NMb
variable {s : iS}
theorem av93 {v v4 : Int} (hv : v = 1 ∨ v = 2 ∨ v = 3 ∨ v = 4) : ∃ s', scp_addVariable_93 v v4 s = some (0, s') ∧ (∀ c k, ¬ (c = 40 ∧ k = v.toNat) → ¬ (c = 23 ∧ k = 15 ∧ (v = 3 ∨ v = 4)) → s' c k = s c k) ∧ s' 40 v.toNat = v4 + 1 ∧ (v = 3 ∨ v = 4 → s' 23 15 = s 33 2) := by
  unfold scp_addVariable_93 scp_addVariable_113
  rw [gd_pos (by omega), lt_eq, gr (by omega)]
  by_cases c : v = 3 ∨ v = 4
  · have E : (if v = 3 then lt' (up (up s 40 v.toNat (v4 + 1)) 23 15 (up s 40 v.toNat (v4 + 1) 33 2)) (fun s1 => some ((0 : Int), s1)) else if v = 4 then lt' (up (up s 40 v.toNat (v4 + 1)) 23 15 (up s 40 v.toNat (v4 + 1) 33 2)) (fun s1 => some (0, s1)) else some (0, up s 40 v.toNat (v4 + 1))) = some (0, up (up s 40 v.toNat (v4 + 1)) 23 15 (up s 40 v.toNat (v4 + 1) 33 2)) := by
      by_cases c3 : v = 3
      · rw [if_pos c3, lt_eq]
      · rw [if_neg c3, if_pos (by omega), lt_eq]
    rw [E]
    exact ⟨_, rfl, fun c' k z1 z2 => by rw [up_ne (by omega), up_ne (by omega)], by rw [up_ne (by omega), up_same], fun _ => by rw [up_same, up_ne (by omega)]⟩
  · rw [if_neg (by omega), if_neg (by omega)]
    exact ⟨_, rfl, fun c' k z1 z2 => up_ne (by omega), up_same _ _ _ _, fun q => absurd q c⟩
end NMb
