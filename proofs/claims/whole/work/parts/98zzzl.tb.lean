/-! calls get their targets -/
section STl
variable {s : iS} {m : Nat}
def stl (s : iS) (m k : Nat) : Int := if k < m ∧ (s 15 k = 15 ∧ 800 ≤ s 16 k) ∧ (0 ≤ s 18 k ∧ s 18 k < 100) then s 20 (s 18 k).toNat else s 18 k
theorem settle_ok (hn : s 14 8 = (m : Int)) (hm : m ≤ 3000) (h : ∀ i, i < m → (-2147483648 ≤ s 15 i ∧ s 15 i ≤ 2147483647) ∧ (-2147483648 ≤ s 16 i ∧ s 16 i ≤ 2147483647) ∧ (s 15 i = 15 → -2147483648 ≤ s 18 i ∧ s 18 i ≤ 2147483647)) : ∃ s', prg_settleCalls s = some (0, s') ∧ (∀ c k, c ≠ 18 → s' c k = s c k) ∧ ∀ k, s' 18 k = stl s m k := by
  have B := lpN (f := prg_settleCalls_2b) (M := m) (I := fun i t' => (∀ c k, c ≠ 18 → t' c k = s c k) ∧ ∀ k, t' 18 k = stl s i k) (fun i t1 hi ⟨q1, q2⟩ => by
    obtain ⟨h1, h2, h3⟩ := h i hi
    have e0 : t1 18 i = s 18 i := by
      rw [q2 i]
      unfold stl
      rw [if_neg (fun z => by have := z.1; omega)]
    have keep : ¬ ((s 15 i = 15 ∧ 800 ≤ s 16 i) ∧ (0 ≤ s 18 i ∧ s 18 i < 100)) → ∀ k, t1 18 k = stl s (i + 1) k := fun c k => by
      rw [q2 k]
      unfold stl
      by_cases d : k = i
      · subst d
        rw [if_neg (fun z => c z.2), if_neg (fun z => c z.2)]
      · by_cases e : k < i ∧ (s 15 k = 15 ∧ 800 ≤ s 16 k) ∧ (0 ≤ s 18 k ∧ s 18 k < 100)
        · rw [if_pos e, if_pos ⟨by omega, e.2⟩]
        · rw [if_neg e, if_neg (fun z => e ⟨by have := z.1; omega, z.2⟩)]
    have e37 : prg_settleCalls_37 (i : Int) t1 = some (.inl ((i : Int) + 1, t1)) := by
      unfold prg_settleCalls_37 prg_settleCalls_38
      rw [gr (by omega), if_pos rfl]
    unfold prg_settleCalls_2b
    rw [gr (by omega), q1 14 8 (by omega), hn, gr (by omega), if_neg (by omega), gd_pos (by omega), Int.toNat_natCast, q1 15 i (by omega), q1 16 i (by omega), gr h1]
    by_cases c1 : s 15 i = 15
    · have h3' := h3 c1
      rw [if_pos c1, gr h2]
      by_cases c2 : s 16 i < 800
      · rw [if_pos c2, e37]
        exact ⟨t1, rfl, q1, keep (fun z => by have := z.1.2; omega)⟩
      · rw [if_neg c2]
        unfold prg_settleCalls_38
        rw [gr (by omega), if_neg (by omega), gd_pos (by omega), Int.toNat_natCast, e0, gr h3']
        by_cases c3 : s 18 i < 0
        · rw [if_pos c3]
          exact ⟨t1, rfl, q1, keep (fun z => by have := z.2.1; omega)⟩
        · rw [if_neg c3]
          by_cases c4 : 100 ≤ s 18 i
          · rw [if_pos c4]
            exact ⟨t1, rfl, q1, keep (fun z => by have := z.2.2; omega)⟩
          · rw [if_neg c4, gd_pos (by omega), lt_eq, q1 20 _ (by omega)]
            refine ⟨_, rfl, fun c k hc => by rw [up_ne (by omega)]; exact q1 c k hc, fun k => ?_⟩
            by_cases d : k = i
            · subst d
              rw [up_same]
              unfold stl
              rw [if_pos ⟨by omega, ⟨c1, by omega⟩, by omega, by omega⟩]
            · rw [up_ne (by omega), q2 k]
              unfold stl
              by_cases e : k < i ∧ (s 15 k = 15 ∧ 800 ≤ s 16 k) ∧ (0 ≤ s 18 k ∧ s 18 k < 100)
              · rw [if_pos e, if_pos ⟨by omega, e.2⟩]
              · rw [if_neg e, if_neg (fun z => e ⟨by have := z.1; omega, z.2⟩)]
    · rw [if_neg c1, e37]
      exact ⟨t1, rfl, q1, keep (fun z => c1 z.1.1)⟩) (fun t1 ⟨q1, q2⟩ => by
    unfold prg_settleCalls_2b
    rw [gr (by omega), q1 14 8 (by omega), hn, gr (by omega), if_pos (by omega)]) m 0 s (by omega) ⟨fun _ _ _ => rfl, fun k => by unfold stl; rw [if_neg (fun z => by have := z.1; omega)]⟩
  obtain ⟨s', b1, b2, b3⟩ := B
  refine ⟨s', ?_, b2, b3⟩
  unfold prg_settleCalls prg_settleCalls_2
  rw [show lp (L := Int × iS) (E := iS) (fun l => prg_settleCalls_2b (l.1) (l.2)) (0, s) = _ from b1]
  rfl
end STl
