/-! both machines: a call of the text's subs, its parts -/
section ROe
variable {F : Nat → Int} {n N : Nat} {P : Nat → Nat} {s0 t0 : iS} {K : List Nat} {U : List urec} {W : List wrec} {Y : List Nat} {A : List (List itm)} {I C p w u i j k fu m : Nat} {tr t1 t2 t3 s s' t t' q : iS} {v1 ow : Int} {sb d na b : Nat}
/-- how many subs stand ahead of a class -/
theorem cnt_le {c : Int} (hs : ∀ i k, i ≤ k → k < U.length → (U.getD i (0, 0, 0, 0)).1 ≤ (U.getD k (0, 0, 0, 0)).1) (hb : sb < U.length) (hc : (U.getD sb (0, 0, 0, 0)).1 = c) : U.countP (fun u => decide (u.1 < c)) ≤ sb := by
  have e : U = U.take sb ++ U.drop sb := (List.take_append_drop sb U).symm
  have z : (U.drop sb).countP (fun u => decide (u.1 < c)) = 0 := by
    rw [List.countP_eq_zero]
    intro x hx
    obtain ⟨j, hj, e1⟩ := List.getElem_of_mem hx
    rw [List.length_drop] at hj
    have e2 : U.getD (sb + j) (0, 0, 0, 0) = x := by
      rw [List.getD_eq_getElem?_getD, List.getElem?_eq_getElem (show sb + j < U.length by omega), ← e1, List.getElem_drop]
      rfl
    have := hs sb (sb + j) (by omega) (by omega)
    rw [e2, hc] at this
    simp only [decide_eq_true_eq]
    omega
  have l : (U.take sb).countP (fun u => decide (u.1 < c)) ≤ sb := Nat.le_trans List.countP_le_length (by rw [List.length_take]; omega)
  rw [e, List.countP_append, z]
  exact l
theorem nmb_txt (ho : 8 ≤ ow ∧ ow < 8 + (K.length : Int)) (hs : ∀ i k, i ≤ k → k < U.length → (U.getD i (0, 0, 0, 0)).1 ≤ (U.getD k (0, 0, 0, 0)).1) (hb : sb < U.length) (hc : (U.getD sb (0, 0, 0, 0)).1 = ow - 8) : 800 ≤ nmbT K U ow (40 + (sb : Int)) := by
  have c := cnt_le (U := U) hs hb hc
  unfold nmbT fsT
  rw [if_neg (by omega), if_neg (by omega)]
  by_cases q : ow.toNat < 9
  · rw [if_pos q, show ow.toNat = 8 by omega]
    have : sysFS.getD 8 0 = 40 := by decide
    omega
  · rw [if_neg q, show ((ow.toNat - 8 : Nat) : Int) = ow - 8 by omega]
    omega
theorem sbR_txt (ho : 8 ≤ ow) (hs : sbR F P t0 U ow j ≠ -1) : ∃ sb : Nat, sbR F P t0 U ow j = (sb : Int) ∧ sb < U.length ∧ (uAt U sb).1 = ow - 8 := by
  have e : sbR F P t0 U ow j = fst1 (fun i => (uAt U i).1 = ow - 8 ∧ nmT F P t0 (uAt U i).2.2.1 = nmT F P t0 j) 0 U.length := by
    unfold sbR
    rw [if_pos ho]
  have r1 := fst1_rg (P := fun i => (uAt U i).1 = ow - 8 ∧ nmT F P t0 (uAt U i).2.2.1 = nmT F P t0 j) U.length 0
  rw [← e] at r1
  rcases r1 with z | ⟨z1, z2, z3, -⟩
  · exact absurd z hs
  · exact ⟨(sbR F P t0 U ow j).toNat, by omega, by omega, z3⟩
/-- the class enters a call -/
theorem ent_ok (h13 : q 51 13 = (d : Int)) (hd : d < 40) (h16 : 0 ≤ q 51 16 ∧ q 51 16 < q 51 15 ∧ q 51 15 ≤ 5000) (h6 : q 51 6 = ((b + na : Nat) : Int)) (hb : b + na ≤ 16000) (h17 : 0 ≤ q 51 17 ∧ q 51 17 ≤ 40) : ∃ s', mac_enter v1 (na : Int) q = some (0, s') ∧ (∀ c k, c ≠ 51 → c ≠ 53 → s' c k = q c k) ∧ (∀ k, k ≠ 7 → k ≠ 8 → k ≠ 13 → k ≠ 16 → k ≠ 17 → s' 51 k = q 51 k) ∧ (∀ k, k < 5 * d → s' 53 k = q 53 k) ∧ (s' 53 (5 * d) = q 51 7 ∧ s' 53 (5 * d + 1) = q 51 8 ∧ s' 53 (5 * d + 2) = q 51 9 ∧ s' 53 (5 * d + 3) = q 51 10 ∧ s' 53 (5 * d + 4) = q 51 18) ∧ s' 51 13 = ((d + 1 : Nat) : Int) ∧ s' 51 17 = (if q 51 17 < ((d + 1 : Nat) : Int) then ((d + 1 : Nat) : Int) else q 51 17) ∧ s' 51 8 = (b : Int) ∧ s' 51 7 = v1 ∧ s' 51 16 = q 51 16 + 1 := by
  obtain ⟨s5, hs5⟩ : ∃ s5, s5 = up (up (up (up (up (up q 51 16 (q 51 16 + 1)) 53 (5 * d) (q 51 7)) 53 (5 * d + 1) (q 51 8)) 53 (5 * d + 2) (q 51 9)) 53 (5 * d + 3) (q 51 10)) 53 (5 * d + 4) (q 51 18) := ⟨_, rfl⟩
  have f5 : ∀ c k, ¬ (c = 51 ∧ k = 16) → ¬ (c = 53 ∧ 5 * d ≤ k ∧ k ≤ 5 * d + 4) → s5 c k = q c k := fun c k z1 z2 => by rw [hs5, up_ne (by omega), up_ne (by omega), up_ne (by omega), up_ne (by omega), up_ne (by omega), up_ne z1]
  obtain ⟨s6, hs6⟩ : ∃ s6, s6 = up (up s5 51 13 ((d + 1 : Nat) : Int)) 51 17 (if q 51 17 < ((d + 1 : Nat) : Int) then ((d + 1 : Nat) : Int) else q 51 17) := ⟨_, rfl⟩
  have f6 : ∀ c k, ¬ (c = 51 ∧ (k = 13 ∨ k = 17)) → s6 c k = s5 c k := fun c k z => by rw [hs6, up_ne (by omega), up_ne (by omega)]
  have E : mac_enter v1 (na : Int) q = some (0, up (up s6 51 8 (b : Int)) 51 7 v1) := by
    unfold mac_enter mac_spendStep
    rw [gr (by omega), gr (by omega), if_pos h16.2.1, lt_eq, bq, gr (by omega), if_neg (by omega), up_ne (show ¬ (51 = 51 ∧ 13 = 16) by omega), h13, gr (by omega), if_pos (by omega), gd_pos (by omega), show ((d : Int) * 5).toNat = 5 * d by omega, up_ne (show ¬ (51 = 51 ∧ 7 = 16) by omega), lt_eq, gd_pos (by omega), show ((d : Int) * 5 + 1).toNat = 5 * d + 1 by omega, up_ne (show ¬ (51 = 53 ∧ 8 = 5 * d) by omega), up_ne (show ¬ (51 = 51 ∧ 8 = 16) by omega), lt_eq, gd_pos (by omega), show ((d : Int) * 5 + 2).toNat = 5 * d + 2 by omega, up_ne (show ¬ (51 = 53 ∧ 9 = 5 * d + 1) by omega), up_ne (show ¬ (51 = 53 ∧ 9 = 5 * d) by omega), up_ne (show ¬ (51 = 51 ∧ 9 = 16) by omega), lt_eq, gd_pos (by omega), show ((d : Int) * 5 + 3).toNat = 5 * d + 3 by omega, up_ne (show ¬ (51 = 53 ∧ 10 = 5 * d + 2) by omega), up_ne (show ¬ (51 = 53 ∧ 10 = 5 * d + 1) by omega), up_ne (show ¬ (51 = 53 ∧ 10 = 5 * d) by omega), up_ne (show ¬ (51 = 51 ∧ 10 = 16) by omega), lt_eq, gd_pos (by omega), show ((d : Int) * 5 + 4).toNat = 5 * d + 4 by omega, up_ne (show ¬ (51 = 53 ∧ 18 = 5 * d + 3) by omega), up_ne (show ¬ (51 = 53 ∧ 18 = 5 * d + 2) by omega), up_ne (show ¬ (51 = 53 ∧ 18 = 5 * d + 1) by omega), up_ne (show ¬ (51 = 53 ∧ 18 = 5 * d) by omega), up_ne (show ¬ (51 = 51 ∧ 18 = 16) by omega), lt_eq, ← hs5, lt_eq, f5 51 13 (by omega) (by omega), h13, show (d : Int) + 1 = ((d + 1 : Nat) : Int) by omega, up_ne (show ¬ (51 = 51 ∧ 17 = 13) by omega), up_same, f5 51 17 (by omega) (by omega)]
    unfold mth_max
    rw [gr (by omega), gr (by omega)]
    have e2 : ∀ z : iS, z = s6 → bd (gd (rg 0) (gd (rg (z 51 6 - (na : Int))) (if 0 < z 51 6 - (na : Int) then some (z 51 6 - (na : Int), z) else some (0, z)))) (fun r19 s19 => lt' (up s19 51 8 r19) (fun s20 => lt' (up s20 51 7 v1) (fun s21 => some ((0 : Int), s21)))) = some ((0 : Int), up (up s6 51 8 (b : Int)) 51 7 v1) := fun z hz => by
      rw [hz]
      have g6 : s6 51 6 - (na : Int) = (b : Int) := by rw [f6 51 6 (by omega), f5 51 6 (by omega) (by omega), h6]; omega
      rw [g6, gr (by omega), gr (by omega)]
      by_cases c : 0 < (b : Int)
      · rw [if_pos c, bq, lt_eq, lt_eq]
      · rw [if_neg c, bq, lt_eq, lt_eq, show (0 : Int) = (b : Int) by omega]
    by_cases c : q 51 17 < ((d + 1 : Nat) : Int)
    · rw [if_pos c, bq, lt_eq]
      exact e2 _ (by rw [hs6, if_pos c])
    · rw [if_neg c, bq, lt_eq]
      exact e2 _ (by rw [hs6, if_neg c])
  have g53 : ∀ k, up (up s6 51 8 (b : Int)) 51 7 v1 53 k = s5 53 k := fun k => by rw [up_ne (by omega), up_ne (by omega), f6 53 k (by omega)]
  refine ⟨_, E, fun c k z1 z2 => by rw [up_ne (by omega), up_ne (by omega), f6 c k (by omega), f5 c k (by omega) (by omega)], fun k z1 z2 z3 z4 z5 => by rw [up_ne (by omega), up_ne (by omega), f6 51 k (by omega), f5 51 k (by omega) (by omega)], fun k hk => by rw [g53, f5 53 k (by omega) (by omega)], ⟨?_, ?_, ?_, ?_, ?_⟩, by rw [up_ne (by omega), up_ne (by omega), hs6, up_ne (by omega), up_same], by rw [up_ne (by omega), up_ne (by omega), hs6, up_same], by rw [up_ne (by omega), up_same], up_same _ _ _ _, by rw [up_ne (by omega), up_ne (by omega), f6 51 16 (by omega), hs5, up_ne (by omega), up_ne (by omega), up_ne (by omega), up_ne (by omega), up_ne (by omega), up_same]⟩
  · rw [g53, hs5, up_ne (by omega), up_ne (by omega), up_ne (by omega), up_ne (by omega), up_same]
  · rw [g53, hs5, up_ne (by omega), up_ne (by omega), up_ne (by omega), up_same]
  · rw [g53, hs5, up_ne (by omega), up_ne (by omega), up_same]
  · rw [g53, hs5, up_ne (by omega), up_same]
  · rw [g53, hs5, up_same]
end ROe
