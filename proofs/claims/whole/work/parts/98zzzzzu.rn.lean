/-! the reference enters a call: up to the object -/
section ROi
variable {t t' : iS} {M B : List Int} {sb d : Nat} {x y : Int}
theorem ren_96 (h6 : t 121 96 = x) (h7 : t 121 97 = y) (hx : 0 ≤ x ∧ x < y) (hy : y ≤ 5000) (h88 : t 121 88 = (d : Int)) (hd : d < 40) (hsb : sb < 61) (h134 : t 134 sb = (B.length : Int)) (hB : B.length ≤ 12) (hR : RTK t (M ++ B)) (hl : (M ++ B).length ≤ 15360) : ∃ t', m_enter (sb : Int) t = m_enter_96 (sb : Int) (d : Int) t' ∧ RTK t' M ∧ t' 121 96 = x + 1 ∧ (∀ j, j < B.length → t' 179 (24 * d + j) = B.getD j 0) ∧ (∀ j, B.length ≤ j → j < 24 → t' 179 (24 * d + j) = 0) ∧ (∀ c k, ¬ (c = 179 ∧ 24 * d ≤ k ∧ k < 24 * d + 24) → ¬ (c = 121 ∧ (k = 87 ∨ k = 96)) → t' c k = t c k) := by
  obtain ⟨ta, a1, a2, a3⟩ := re_38 (v1 := (sb : Int)) (v2 := (B.length : Int)) hd 24 0 (up t 121 96 (x + 1)) (by omega)
  obtain ⟨tb, b1, b2, b3, b4⟩ := re_69 (v1 := (sb : Int)) (M := M) hd B.length B ta rfl hB (RTK_of hR (by rw [a2 121 87 (by omega), up_ne (by omega)]) (funext fun k => by rw [a2 180 k (by omega), up_ne (by omega)])) hl
  refine ⟨tb, ?_, b2, by rw [b4 121 96 (by omega) (by omega), a2 121 96 (by omega), up_same], b3, fun j h1 h2 => by rw [b4 179 _ (by omega) (by omega)]; exact a3 j (by omega) h2, fun c k z1 z2 => by rw [b4 c k (by omega) (by omega), a2 c k (by omega), up_ne (by omega)]⟩
  rw [← b1]
  have e64 : m_enter_64 (sb : Int) (B.length : Int) (d : Int) ta = m_enter_69 (sb : Int) (d : Int) ((B.length : Int) - 1) ta := rfl
  rw [← e64]
  unfold m_enter
  rw [st_y h6 h7 hx hy, bq, gr (by omega), if_neg (by omega), up_ne (by omega), h88, gr (by omega), if_neg (by omega), gd_pos (by omega), up_ne (by omega), Int.toNat_natCast, h134]
  exact a1
end ROi
