/-! a call that cannot be entered -/
section ROk
variable {q t : iS} {v1 v2 x y : Int}
theorem ent_n (h15 : q 51 15 = q 51 16) (h16 : 0 ≤ q 51 16 ∧ q 51 16 ≤ 5000) : mac_enter v1 v2 q = some (0, up q 51 14 1) := by
  unfold mac_enter mac_spendStep
  rw [gr (by omega), gr (by omega), if_neg (by omega), lt_eq, bq, gr (by omega), if_pos rfl]
theorem ent_40 (h13 : q 51 13 = 40) (h16 : 0 ≤ q 51 16 ∧ q 51 16 < q 51 15 ∧ q 51 15 ≤ 5000) : mac_enter v1 v2 q = some (0, up (up q 51 16 (q 51 16 + 1)) 51 14 2) := by
  unfold mac_enter mac_spendStep
  rw [gr (by omega), gr (by omega), if_pos h16.2.1, lt_eq, bq, gr (by omega), if_neg (by omega), up_ne (by omega), h13, gr (by omega), if_neg (by omega), lt_eq]
theorem ren_n (h6 : t 121 96 = x) (h7 : t 121 97 = x) (hx : 0 ≤ x ∧ x ≤ 5000) : m_enter v1 t = some (0, up t 121 99 1) := by
  unfold m_enter
  rw [st_n h6 h7 hx, bq, gr (by omega), if_pos rfl]
theorem ren_40 (h6 : t 121 96 = x) (h7 : t 121 97 = y) (hx : 0 ≤ x ∧ x < y) (hy : y ≤ 5000) (h88 : t 121 88 = 40) : m_enter v1 t = some (0, up (up t 121 96 (x + 1)) 121 99 2) := by
  unfold m_enter
  rw [st_y h6 h7 hx hy, bq, gr (by omega), if_neg (by omega), up_ne (by omega), h88, gr (by omega), if_pos rfl, lt_eq]
end ROk
