/-! both note the same least thing -/
section NTd
variable {F : Nat → Int} {n N : Nat} {P : Nat → Nat} {s0 t0 t : iS} {j u k l : Nat} {K : List Nat} {U : List urec} {W : List wrec} {Y : List Nat} {A : List (List itm)} {ow o m obj : Int} {I C p w : Nat} {pf : Nat → Nat}
/-- the class's notes of an item, the reference has as early ones -/
theorem c2r (h : RG F n N P s0 t0 K U W Y t) (hAU : A.length = U.length) (hu : u < A.length) (hp : ∀ r ∈ W, r.2.1 = -1 → r.1 = (uAt U u).1 → r.2.2.2.2.1 < pf u) (hit : ITl s0 (pf u) p (A.getD u []))
    (him : ∀ i, i < (A.getD u []).length → stA A u + i < I ∧ IM t (stA A u + i) (u : Int) 0 C ((A.getD u []).getD i (0, 0, 0, 0)))
    (hci : ∀ r, r ∈ A.getD u [] → r.1 = 10 → ∃ c, c < C ∧ CI t c u r) {r : itm} (hr : r ∈ A.getD u []) (hk : k ∈ ntI F P s0 t0 K U (paF W) (wlF U W u) (wlFc U W u).length (clF U u) (soF U u) r) : ∃ k' ∈ rnT F P s0 t0 K U W t I C, k' ≤ k := by
  have hu' : u < U.length := by omega
  have so : soF U u = (uAt U u).2.1 := rfl
  have hU1 := h.2.2.2.2.1 _ (gd_mem (d := ((0, 0, 0, 0) : urec)) hu')
  have ecl : (8 : Int) + (clF U u : Int) = 8 + (uAt U u).1 := by unfold clF uAt; omega
  have hN := N1001 h.1.1
  have dirty : ∀ d, d < pf u → 16 * d + 3 ∈ rgM (gW F P t0) W → 16 * pf u ≤ k → ∃ k' ∈ rnT F P s0 t0 K U W t I C, k' ≤ k := fun d h1 h2 h3 => ⟨16 * d + 3, rnT_W h2, by omega⟩
  have row : ∀ r, r ∈ A.getD u [] → ∃ x, x < I ∧ t 148 x = (u : Int) ∧ t 144 x = r.1 ∧ (r.1 ≠ 9 → r.1 ≠ 10 → t 147 x = r.2.2.2) := fun r hr => by
    obtain ⟨i, hi, e⟩ := List.getElem_of_mem hr
    have e' : (A.getD u []).getD i (0, 0, 0, 0) = r := by
      rw [List.getD_eq_getElem?_getD, List.getElem?_eq_getElem hi]
      exact e
    obtain ⟨a1, ⟨a2, _⟩, a3, a4⟩ := him i hi
    rw [e'] at a3 a4
    refine ⟨stA A u + i, a1, a2, a3, fun q1 q2 => ?_⟩
    rcases a4 with ⟨q, _⟩ | ⟨_, _, _, _, q⟩
    · omega
    · exact q
  -- variables
  have vars : ∀ r, r ∈ A.getD u [] → (r.1 = 4 ∨ r.1 = 13) → k ∈ ntV F P t0 (wlF U W u) (wlFc U W u).length (soF U u) r.2.2.2.toNat → ∃ k' ∈ rnT F P s0 t0 K U W t I C, k' ≤ k := fun r hr hk4 hv => by
    obtain ⟨j, e1, e2, e3, e4⟩ := (hit.1 r hr).2.1 (by omega)
    rw [e1, Int.toNat_natCast] at hv
    rcases agr_or (u := u) (j := j) h hp with ag | ⟨d, d1, d2⟩
    · obtain ⟨x, x1, x2, x3, x4⟩ := row r hr
      rw [ntV_eq h ag] at hv
      refine ⟨k, rnT_I x1 ?_, Nat.le_refl _⟩
      unfold gI
      rw [x3, x2, x4 (by omega) (by omega), e1, Int.toNat_natCast, Int.toNat_natCast, if_neg (by omega), if_pos hk4]
      exact hv
    · exact dirty d d1 d2 (by have := ntV_ge hv; omega)
  obtain ⟨t1, t2, t3, t4, _⟩ := hit.1 r hr
  unfold ntI at hk
  by_cases c3 : r.1 = 3
  · rw [if_pos c3] at hk
    obtain ⟨x, x1, x2, x3, x4⟩ := row r hr
    refine ⟨k, rnT_I x1 ?_, Nat.le_refl _⟩
    unfold gI
    rw [x3, x2, x4 (by omega) (by omega), if_pos c3, Int.toNat_natCast, ← so]
    exact hk
  rw [if_neg c3] at hk
  by_cases c4 : r.1 = 4 ∨ r.1 = 13
  · rw [if_pos c4] at hk
    exact vars r hr c4 hk
  rw [if_neg c4] at hk
  by_cases c9 : r.1 = 9
  · rw [if_pos c9] at hk
    obtain ⟨⟨l, l1, l2, l3, l4⟩, f0, _, _⟩ := t3 (Or.inl c9)
    obtain ⟨m, hm⟩ := hit.2.1 r hr c9
    obtain ⟨c, hc, q1, q2, q3, q4, q5⟩ := hci _ hm rfl
    have gc : gC F P s0 t0 K U W t c = ntR F P s0 t0 K U W u r.2.1 l m := by
      unfold gC
      rw [q2, q3, q4, q5, Int.toNat_natCast]
      show ntR F P s0 t0 K U W u r.2.1 (r.2.2.1).toNat m = _
      rw [l1, Int.toNat_natCast]
    by_cases cf : r.2.1 = -1
    · rw [if_pos cf, so] at hk
      by_cases cs : (uAt U u).2.1 = 2
      · rw [if_pos cs, l1, Int.toNat_natCast] at hk
        have ek := List.mem_singleton.mp hk
        have ow8 : owR F P s0 t0 K U W u (-1) = 8 + (uAt U u).1 := by unfold owR; rw [if_pos rfl]
        have ob2 : obR F P t0 U W u (-1) = 2 := by unfold obR; rw [if_pos rfl]
        have hU0 : 0 ≤ (uAt U u).1 := hU1.1
        by_cases cb : sbR F P t0 U (8 + (uAt U u).1) l = -1
        · refine ⟨16 * l + 4, rnT_C hc ?_, by omega⟩
          rw [gc, cf]
          unfold ntR nt173
          rw [if_pos rfl, ow8, if_neg (by omega), if_pos cb]
          simp
        · refine ⟨k, rnT_C hc ?_, Nat.le_refl _⟩
          rw [gc, cf]
          unfold ntR nt173
          rw [if_pos rfl, ow8, if_neg (by omega), if_neg cb, ob2]
          refine List.mem_append_right _ (List.mem_append_right _ ?_)
          unfold nt259
          rw [if_pos ⟨rfl, cs⟩, ek]
          simp
      · rw [if_neg cs] at hk
        simp at hk
    · rw [if_neg cf] at hk
      rcases f0 with f0 | ⟨j, f1, f2, f3, f4⟩
      · exact absurd f0 cf
      rw [f1, Int.toNat_natCast] at hk
      rcases agr_or (u := u) (j := j) h hp with ag | ⟨d, d1, d2⟩
      · by_cases cv : fvW F P t0 (wlF U W u) (wlFc U W u).length j = -1
        · rw [if_pos cv] at hk
          simp at hk
        · rw [if_neg cv, ntV_eq h ag] at hk
          have rn : rvI F P t0 U W u j ≠ -1 := by
            rcases ag with z | z
            · exact absurd z.1 cv
            · exact z.2.1
          rw [if_neg rn, List.nil_append] at hk
          refine ⟨k, rnT_C hc ?_, Nat.le_refl _⟩
          rw [gc, f1]
          unfold ntR
          rw [if_neg (by omega), Int.toNat_natCast]
          exact List.mem_append_left _ hk
      · refine dirty d d1 d2 ?_
        split at hk
        · simp at hk
        · have := ntV_ge hk; omega
  rw [if_neg c9] at hk
  by_cases c10 : r.1 = 10
  · rw [if_pos c10] at hk
    obtain ⟨⟨l, l1, l2, l3, l4⟩, f0, _, m0⟩ := t3 (Or.inr c10)
    obtain ⟨mm, m1, m2⟩ := m0 c10
    obtain ⟨c, hc, q1, q2, q3, q4, q5⟩ := hci r hr c10
    have gc : gC F P s0 t0 K U W t c = ntR F P s0 t0 K U W u r.2.1 l (mm : Int) := by
      unfold gC
      rw [q2, q3, q4, q5, Int.toNat_natCast, l1, Int.toNat_natCast, m1]
    rw [l1, m1, Int.toNat_natCast, Int.toNat_natCast] at hk
    have ro := owR_rg (F := F) (P := P) (f := r.2.1) h hu'
    by_cases cf : r.2.1 = -1
    · rw [if_pos cf, ecl] at hk
      have ow8 : owR F P s0 t0 K U W u (-1) = 8 + (uAt U u).1 := by unfold owR; rw [if_pos rfl]
      have ob2 : obR F P t0 U W u (-1) = 2 := by unfold obR; rw [if_pos rfl]
      have hU0 : 0 ≤ (uAt U u).1 ∧ (uAt U u).1 < (K.length : Int) := hU1
      refine ⟨k, rnT_C hc ?_, Nat.le_refl _⟩
      rw [gc, cf]
      unfold ntR
      rw [if_pos rfl, ow8, if_neg (by omega), ob2, ntC_eq (obj := 1) h (by omega) rfl]
      exact List.mem_append_right _ (List.mem_append_left _ hk)
    · rw [if_neg cf] at hk
      rcases f0 with f0 | ⟨j, f1, f2, f3, f4⟩
      · exact absurd f0 cf
      rw [f1, Int.toNat_natCast] at hk
      rw [f1] at ro
      rcases agr_or (u := u) (j := j) h hp with ag | ⟨d, d1, d2⟩
      · refine ⟨k, rnT_C hc ?_, Nat.le_refl _⟩
        rw [gc, f1]
        unfold ntR
        rw [if_neg (show ¬ ((j : Int) = -1) by omega), Int.toNat_natCast]
        refine List.mem_append_right _ ?_
        rcases ag with ⟨a1, a2⟩ | ⟨a1, a2, a3⟩
        · have eo : owR F P s0 t0 K U W u (j : Int) = fcK F P t0 K j := by unfold owR; rw [if_neg (by omega), Int.toNat_natCast, if_pos a2]
          have eb : obR F P t0 U W u (j : Int) = 0 := by unfold obR; rw [if_neg (by omega), Int.toNat_natCast, if_pos a2]
          rw [eo] at ro
          rw [if_pos a1] at hk
          rw [eo, eb, if_pos a2]
          by_cases cc : fcK F P t0 K j = -1
          · rw [if_pos cc] at hk
            rw [if_pos cc]
            exact hk
          · rw [if_neg cc] at hk
            rw [if_neg cc, ntC_eq (obj := 0) h (by omega) rfl]
            exact List.mem_append_left _ hk
        · have eo : owR F P s0 t0 K U W u (j : Int) = tyT F P s0 t0 K (wGt W (rvI F P t0 U W u j).toNat) := by unfold owR; rw [if_neg (by omega), Int.toNat_natCast, if_neg a2]
          have eb : obR F P t0 U W u (j : Int) = 1 := by unfold obR; rw [if_neg (by omega), Int.toNat_natCast, if_neg a2]
          rw [if_neg a1, a3, ← eo] at hk
          rw [eb, if_neg a2]
          by_cases cc : owR F P s0 t0 K U W u (j : Int) = -1
          · rw [if_pos cc]
            unfold ntC fsbT at hk
            rw [cc, if_pos rfl, if_pos rfl] at hk
            exact hk
          · rw [if_neg cc, ntC_eq (obj := 1) h (by omega) rfl]
            exact List.mem_append_left _ hk
      · refine dirty d d1 d2 ?_
        split at hk
        · split at hk
          · have := List.mem_singleton.mp hk; omega
          · have := ntC_ge hk; omega
        · have := ntC_ge hk; omega
  rw [if_neg c10] at hk
  by_cases c11 : r.1 = 11 ∧ s0 9 r.2.2.2.toNat = 271
  · rw [if_pos c11] at hk
    obtain ⟨r', h1, h2, h3⟩ := hit.2.2.2 r hr c11.1 c11.2
    obtain ⟨j, ej, _⟩ := t4 (Or.inl c11.1)
    refine vars r' h1 h2 ?_
    rw [h3, ej, show ((j : Int) + 1).toNat = j + 1 by omega]
    rw [ej, Int.toNat_natCast] at hk
    exact hk
  · rw [if_neg c11] at hk
    simp at hk
end NTd
