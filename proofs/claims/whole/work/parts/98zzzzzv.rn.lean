/-! the reference enters a call: its frame -/
section ROj
variable {t t' : iS} {sb d cl : Nat} {o : Int}
theorem ren_119 (h88 : t 121 88 = (d : Int)) (h89 : 0 ≤ t 121 89 ∧ t 121 89 ≤ 40) (hd : d < 40) (hsb : sb < 61) (h131 : 0 ≤ t 131 sb ∧ t 131 sb ≤ 3) (h130 : t 130 sb = (cl : Int)) (hcl : cl < 13) (h129 : 0 ≤ t 129 cl ∧ t 129 cl ≤ 1000) : ∃ t', m_enter_119 (sb : Int) (d : Int) o (d : Int) t = (if t 131 sb = 1 then m_enter_235 (if 1 ≤ t 129 cl then t 129 cl else 1) (d : Int) t' else some (0, t')) ∧ t' 183 d = o ∧ t' 181 d = t 121 98 ∧ t' 184 d = t 121 95 ∧ t' 121 88 = ((d + 1 : Nat) : Int) ∧ t' 121 89 = (if ((d + 1 : Nat) : Int) ≤ t 121 89 then t 121 89 else ((d + 1 : Nat) : Int)) ∧ t' 121 98 = t 136 sb ∧ (∀ c k, ¬ (181 ≤ c ∧ c ≤ 184 ∧ k = d) → ¬ (c = 121 ∧ (k = 88 ∨ k = 89 ∨ k = 98)) → t' c k = t c k) := by
  obtain ⟨t7, h7⟩ : ∃ t7, t7 = up (up (up (up (up t 183 d o) 181 d (t 121 98)) 182 d (sb : Int)) 184 d (t 121 95)) 121 88 ((d + 1 : Nat) : Int) := ⟨_, rfl⟩
  have f7 : ∀ c k, ¬ (181 ≤ c ∧ c ≤ 184 ∧ k = d) → ¬ (c = 121 ∧ k = 88) → t7 c k = t c k := fun c k z1 z2 => by rw [h7, up_ne z2, up_ne (by omega), up_ne (by omega), up_ne (by omega), up_ne (by omega)]
  obtain ⟨t9, h9⟩ : ∃ t9, t9 = up (up t7 121 89 (if ((d + 1 : Nat) : Int) ≤ t 121 89 then t 121 89 else ((d + 1 : Nat) : Int))) 121 98 (t 136 sb) := ⟨_, rfl⟩
  have f9 : ∀ c k, ¬ (c = 121 ∧ (k = 89 ∨ k = 98)) → t9 c k = t7 c k := fun c k z => by rw [h9, up_ne (by omega), up_ne (by omega)]
  have E : ∀ z : Int, z = (if ((d + 1 : Nat) : Int) ≤ t 121 89 then t 121 89 else ((d + 1 : Nat) : Int)) → m_enter_180 (sb : Int) (d : Int) z t7 = (if t 131 sb = 1 then m_enter_235 (if 1 ≤ t 129 cl then t 129 cl else 1) (d : Int) t9 else some (0, t9)) := fun z hz => by
    have e9 : up (up t7 121 89 z) 121 98 (t 136 sb) = t9 := by rw [h9, hz]
    unfold m_enter_180
    rw [lt_eq, gd_pos (by omega), Int.toNat_natCast, up_ne (by omega), f7 136 sb (by omega) (by omega), lt_eq, e9, f9 131 sb (by omega), f7 131 sb (by omega) (by omega), gr (by omega)]
    by_cases c : t 131 sb = 1
    · rw [if_pos c, if_pos c, f9 130 sb (by omega), f7 130 sb (by omega) (by omega), h130, gd_pos (by omega), Int.toNat_natCast, f9 129 cl (by omega), f7 129 cl (by omega) (by omega), gr (by omega)]
      split <;> rfl
    · rw [if_neg c, if_neg c]
  have g88 : t7 121 88 = ((d + 1 : Nat) : Int) := by rw [h7, up_same]
  refine ⟨t9, ?_, by rw [f9 183 d (by omega), h7, up_ne (by omega), up_ne (by omega), up_ne (by omega), up_ne (by omega), up_same], by rw [f9 181 d (by omega), h7, up_ne (by omega), up_ne (by omega), up_ne (by omega), up_same], by rw [f9 184 d (by omega), h7, up_ne (by omega), up_same], by rw [f9 121 88 (by omega)]; exact g88, by rw [h9, up_ne (by omega), up_same], by rw [h9, up_same], fun c k z1 z2 => by rw [f9 c k (by omega), f7 c k z1 (by omega)]⟩
  unfold m_enter_119
  rw [gd_pos (by omega), Int.toNat_natCast, lt_eq, gd_pos (by omega), up_ne (show ¬ (121 = 183 ∧ 98 = d) by omega), lt_eq, lt_eq, up_ne (show ¬ (121 = 182 ∧ 95 = d) by omega), up_ne (show ¬ (121 = 181 ∧ 95 = d) by omega), up_ne (show ¬ (121 = 183 ∧ 95 = d) by omega), lt_eq, up_ne (show ¬ (121 = 184 ∧ 88 = d) by omega), up_ne (show ¬ (121 = 182 ∧ 88 = d) by omega), up_ne (show ¬ (121 = 181 ∧ 88 = d) by omega), up_ne (show ¬ (121 = 183 ∧ 88 = d) by omega), h88, show (d : Int) + 1 = ((d + 1 : Nat) : Int) by omega, lt_eq, ← h7, g88, f7 121 89 (by omega) (by omega), gr (by omega), gr (by omega)]
  by_cases c : ((d + 1 : Nat) : Int) ≤ t 121 89
  · rw [if_pos c]
    exact E _ (by rw [if_pos c])
  · rw [if_neg c]
    exact E _ (by rw [if_neg c])
end ROj
