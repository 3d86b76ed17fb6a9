/-! both machines: return -/
section ROa
variable {F : Nat → Int} {n N : Nat} {P : Nat → Nat} {s0 t0 : iS} {K : List Nat} {U : List urec} {W : List wrec} {Y : List Nat} {A : List (List itm)} {I C p w u i j k fu m : Nat} {tr t1 t2 t3 s s' t t' q qB sB s1 sa ta tb : iS} {r : itm} {f : frm} {g : List frm} {pv vv st st' L M : List Int} {ob v v' x y : Int}
/-- the class leaves a call; d: the calls below -/
theorem leave_ok {d : Nat} (h : STK q ((L ++ M) ++ [x])) (hl : ((L ++ M) ++ [x]).length ≤ 15360) (h8 : q 51 8 = (L.length : Int)) (h13 : q 51 13 = ((d + 1 : Nat) : Int)) (hd : d < 40) : ∃ s', mac_leave q = some (0, s') ∧ STK s' (L ++ [x]) ∧ (∀ c k, c ≠ 52 → c ≠ 51 → s' c k = q c k) ∧ (∀ k, k = 11 ∨ k = 12 ∨ k = 15 ∨ k = 16 ∨ k = 17 → s' 51 k = q 51 k) ∧ s' 51 13 = (d : Int) ∧ (s' 51 7 = q 53 (5 * d) ∧ s' 51 8 = q 53 (5 * d + 1) ∧ s' 51 9 = q 53 (5 * d + 2) ∧ s' 51 10 = q 53 (5 * d + 3) ∧ s' 51 18 = q 53 (5 * d + 4)) ∧ s' 51 14 = (if d = 0 then 0 else q 51 14) := by
  rw [List.length_append, List.length_singleton, List.length_append] at hl
  obtain ⟨s1, a1, a2, a3⟩ := pop_ex h (by rw [List.length_append]; omega)
  have e8 : s1 51 8 = (L.length : Int) := by rw [a3 51 8 (by omega) (by omega)]; exact h8
  have st2 : STK (up s1 51 6 (L.length : Int)) L := STK_cut (B := M) a2 rfl
  obtain ⟨s3, b1, b2, b3⟩ := push_ex (v := x) st2 (by omega)
  have f3 : ∀ c k, c ≠ 52 → ¬ (c = 51 ∧ k = 6) → s3 c k = q c k := fun c k z1 z2 => by rw [b3 c k z1 z2, up_ne z2, a3 c k z1 z2]
  have e13 : s3 51 13 = ((d + 1 : Nat) : Int) := by rw [f3 51 13 (by omega) (by omega)]; exact h13
  obtain ⟨s4, hs4⟩ : ∃ s4, s4 = up s3 51 13 (d : Int) := ⟨_, rfl⟩
  have f4 : ∀ c k, c ≠ 52 → ¬ (c = 51 ∧ (k = 6 ∨ k = 13)) → s4 c k = q c k := fun c k z1 z2 => by rw [hs4, up_ne (by omega)]; exact f3 c k z1 (by omega)
  have g13 : s4 51 13 = (d : Int) := by rw [hs4, up_same]
  have E : mac_leave q = mac_leave_35 s4 := by
    unfold mac_leave
    rw [a1, bq, lt_eq, e8, b1, bq, e13, gr (by omega), if_neg (by omega), lt_eq, hs4, show ((d + 1 : Nat) : Int) - 1 = (d : Int) by omega]
  obtain ⟨s5, hs5⟩ : ∃ s5, s5 = up (up (up (up (up s4 51 7 (q 53 (5 * d))) 51 8 (q 53 (5 * d + 1))) 51 9 (q 53 (5 * d + 2))) 51 10 (q 53 (5 * d + 3))) 51 18 (q 53 (5 * d + 4)) := ⟨_, rfl⟩
  have f5 : ∀ c k, ¬ (c = 51 ∧ (k = 7 ∨ k = 8 ∨ k = 9 ∨ k = 10 ∨ k = 18)) → s5 c k = s4 c k := fun c k z => by rw [hs5, up_ne (by omega), up_ne (by omega), up_ne (by omega), up_ne (by omega), up_ne (by omega)]
  have E35 : mac_leave_35 s4 = if d = 0 then some (0, up s5 51 14 0) else some (0, s5) := by
    unfold mac_leave_35
    rw [g13, gd_pos (by omega), show ((d : Int) * 5).toNat = 5 * d by omega, f4 53 _ (by omega) (by omega), lt_eq, gd_pos (by omega), show ((d : Int) * 5 + 1).toNat = 5 * d + 1 by omega, up_ne (show ¬ (53 = 51 ∧ 5 * d + 1 = 7) by omega), f4 53 _ (by omega) (by omega), lt_eq, gd_pos (by omega), show ((d : Int) * 5 + 2).toNat = 5 * d + 2 by omega, up_ne (show ¬ (53 = 51 ∧ 5 * d + 2 = 8) by omega), up_ne (show ¬ (53 = 51 ∧ 5 * d + 2 = 7) by omega), f4 53 _ (by omega) (by omega), lt_eq, gd_pos (by omega), show ((d : Int) * 5 + 3).toNat = 5 * d + 3 by omega, up_ne (show ¬ (53 = 51 ∧ 5 * d + 3 = 9) by omega), up_ne (show ¬ (53 = 51 ∧ 5 * d + 3 = 8) by omega), up_ne (show ¬ (53 = 51 ∧ 5 * d + 3 = 7) by omega), f4 53 _ (by omega) (by omega), lt_eq, gd_pos (by omega), show ((d : Int) * 5 + 4).toNat = 5 * d + 4 by omega, up_ne (show ¬ (53 = 51 ∧ 5 * d + 4 = 10) by omega), up_ne (show ¬ (53 = 51 ∧ 5 * d + 4 = 9) by omega), up_ne (show ¬ (53 = 51 ∧ 5 * d + 4 = 8) by omega), up_ne (show ¬ (53 = 51 ∧ 5 * d + 4 = 7) by omega), f4 53 _ (by omega) (by omega), lt_eq, ← hs5, f5 51 13 (by omega), g13, gr (by omega)]
    by_cases c : d = 0
    · rw [if_pos c, if_pos (by omega), lt_eq]
    · rw [if_neg c, if_neg (by omega)]
  have K : ∀ sx : iS, (∀ c k, ¬ (c = 51 ∧ k = 14) → sx c k = s5 c k) → STK sx (L ++ [x]) ∧ (∀ c k, c ≠ 52 → c ≠ 51 → sx c k = q c k) ∧ (∀ k, k = 11 ∨ k = 12 ∨ k = 15 ∨ k = 16 ∨ k = 17 → sx 51 k = q 51 k) ∧ sx 51 13 = (d : Int) ∧ (sx 51 7 = q 53 (5 * d) ∧ sx 51 8 = q 53 (5 * d + 1) ∧ sx 51 9 = q 53 (5 * d + 2) ∧ sx 51 10 = q 53 (5 * d + 3) ∧ sx 51 18 = q 53 (5 * d + 4)) := fun sx hx => by
    refine ⟨STK_of b2 (by rw [hx 51 6 (by omega), f5 51 6 (by omega), hs4, up_ne (by omega)]) (funext fun k => by rw [hx 52 k (by omega), f5 52 k (by omega), hs4, up_ne (by omega)]), fun c k z1 z2 => by rw [hx c k (by omega), f5 c k (by omega), f4 c k z1 (by omega)], fun k z => by rw [hx 51 k (by omega), f5 51 k (by omega), f4 51 k (by omega) (by omega)], by rw [hx 51 13 (by omega), f5 51 13 (by omega)]; exact g13, ?_, ?_, ?_, ?_, ?_⟩
    · rw [hx 51 7 (by omega), hs5, up_ne (by omega), up_ne (by omega), up_ne (by omega), up_ne (by omega), up_same]
    · rw [hx 51 8 (by omega), hs5, up_ne (by omega), up_ne (by omega), up_ne (by omega), up_same]
    · rw [hx 51 9 (by omega), hs5, up_ne (by omega), up_ne (by omega), up_same]
    · rw [hx 51 10 (by omega), hs5, up_ne (by omega), up_same]
    · rw [hx 51 18 (by omega), hs5, up_same]
  by_cases c : d = 0
  · obtain ⟨k1, k2, k3, k4, k5⟩ := K (up s5 51 14 0) (fun c k z => up_ne z)
    exact ⟨_, by rw [E, E35, if_pos c], k1, k2, k3, k4, k5, by rw [up_same, if_pos c]⟩
  · obtain ⟨k1, k2, k3, k4, k5⟩ := K s5 (fun c k z => rfl)
    exact ⟨_, by rw [E, E35, if_neg c], k1, k2, k3, k4, k5, by rw [if_neg c, f5 51 14 (by omega), f4 51 14 (by omega) (by omega)]⟩
/-- the reference leaves a call -/
theorem ret_ok {d : Nat} (h : RTK t (M ++ [x])) (hl : (M ++ [x]).length ≤ 15360) (hx : w16 x) (h88 : t 121 88 = ((d + 1 : Nat) : Int)) (hd : d < 40) : ∃ t', m_returns t = some (0, t') ∧ (∀ c k, c ≠ 180 → ¬ (c = 121 ∧ (k = 87 ∨ k = 88 ∨ k = 95 ∨ k = 98 ∨ k = 99)) → t' c k = t c k) ∧ t' 121 88 = (d : Int) ∧ t' 121 95 = t 184 d ∧ t' 121 98 = t 181 d ∧ (d = 0 → t' 121 99 = 0) ∧ (d ≠ 0 → t' 121 99 = t 121 99 ∧ RTK t' (M ++ [x])) := by
  rw [List.length_append, List.length_singleton] at hl
  obtain ⟨t1, a1, a2, a3⟩ := rpop_ex h (by omega)
  obtain ⟨t4, ht4⟩ : ∃ t4, t4 = up (up (up t1 121 88 (d : Int)) 121 95 (t 184 d)) 121 98 (t 181 d) := ⟨_, rfl⟩
  have f4 : ∀ c k, ¬ (c = 121 ∧ (k = 87 ∨ k = 88 ∨ k = 95 ∨ k = 98)) → t4 c k = t c k := fun c k z => by rw [ht4, up_ne (by omega), up_ne (by omega), up_ne (by omega), a3 c k (by omega)]
  have g88 : t4 121 88 = (d : Int) := by rw [ht4, up_ne (by omega), up_ne (by omega), up_same]
  have g95 : t4 121 95 = t 184 d := by rw [ht4, up_ne (by omega), up_same]
  have g98 : t4 121 98 = t 181 d := by rw [ht4, up_same]
  have E : m_returns t = if d = 0 then some (0, up t4 121 99 0) else bd (m_put x t4) (fun _ s9 => some (0, s9)) := by
    unfold m_returns
    rw [a1, bq, lt_eq, a3 121 88 (by omega), h88, show ((d + 1 : Nat) : Int) - 1 = (d : Int) by omega, up_same, gd_pos (by omega), Int.toNat_natCast, lt_eq, up_ne (show ¬ (121 = 121 ∧ 88 = 95) by omega), up_same, gd_pos (by omega), Int.toNat_natCast, lt_eq, up_ne (show ¬ (184 = 121 ∧ d = 88) by omega), up_ne (show ¬ (181 = 121 ∧ d = 95) by omega), up_ne (show ¬ (181 = 121 ∧ d = 88) by omega), a3 184 d (by omega), a3 181 d (by omega), ← ht4, g88, gr (by omega)]
    by_cases c : d = 0
    · rw [if_pos c, if_pos (by omega), lt_eq]
    · rw [if_neg c, if_neg (by omega)]
  by_cases c : d = 0
  · exact ⟨up t4 121 99 0, by rw [E, if_pos c], fun c k z1 z2 => by rw [up_ne (by omega), f4 c k (by omega)], by rw [up_ne (by omega)]; exact g88, by rw [up_ne (by omega)]; exact g95, by rw [up_ne (by omega)]; exact g98, fun _ => up_same _ _ _ _, fun z => absurd c z⟩
  · have r4 : RTK t4 M := RTK_of a2 (by rw [ht4, up_ne (by omega), up_ne (by omega), up_ne (by omega)]) (funext fun k => by rw [ht4, up_ne (by omega), up_ne (by omega), up_ne (by omega)])
    obtain ⟨t5, b1, b2, b3⟩ := rput_ex r4 (by omega) (i_s_id hx)
    exact ⟨t5, by rw [E, if_neg c, b1, bq], fun c k z1 z2 => by rw [b3 c k z1 (by omega), f4 c k (by omega)], by rw [b3 121 88 (by omega) (by omega)]; exact g88, by rw [b3 121 95 (by omega) (by omega)]; exact g95, by rw [b3 121 98 (by omega) (by omega)]; exact g98, fun z => absurd z c, fun _ => ⟨by rw [b3 121 99 (by omega) (by omega), f4 121 99 (by omega)], b2⟩⟩
end ROa
