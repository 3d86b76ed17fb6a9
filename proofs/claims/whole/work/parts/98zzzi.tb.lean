/-! both note the same least thing -/
section NTe
variable {F : Nat → Int} {n N : Nat} {P : Nat → Nat} {s0 t0 t : iS} {j u k l : Nat} {K : List Nat} {U : List urec} {W : List wrec} {Y : List Nat} {A : List (List itm)} {ow o m obj : Int} {I C p w : Nat} {pf : Nat → Nat} {L L' : List Nat}
theorem kMn_le_of : ∀ {L : List Nat}, k ∈ L → kMn L ≤ k
  | [], h => by simp at h
  | a :: L, h => by
    show min a (kMn L) ≤ k
    rcases List.mem_cons.mp h with z | z
    · omega
    · have := kMn_le_of z
      omega
theorem kMn_in : ∀ L : List Nat, kMn L = 100000 ∨ (kMn L ∈ L ∧ kMn L < 100000)
  | [] => Or.inl rfl
  | a :: L => by
    have e : kMn (a :: L) = min a (kMn L) := rfl
    rw [e]
    rcases kMn_in L with z | ⟨z1, z2⟩
    · by_cases c : a < 100000
      · right
        rw [show min a (kMn L) = a by omega]
        exact ⟨by simp, c⟩
      · left
        omega
    · right
      by_cases c : a ≤ kMn L
      · rw [show min a (kMn L) = a by omega]
        exact ⟨by simp, by omega⟩
      · rw [show min a (kMn L) = kMn L by omega]
        exact ⟨List.mem_cons_of_mem _ z1, z2⟩
theorem kMn_dom (h : ∀ k ∈ L, ∃ k' ∈ L', k' ≤ k) : kMn L' ≤ kMn L := by
  rcases kMn_in L with z | ⟨z1, z2⟩
  · rw [z]; exact kMn_le L'
  · obtain ⟨k', q1, q2⟩ := h _ z1
    have := kMn_le_of q1
    omega
/-- the reference's notes of an item, the class has as early ones -/
theorem r2cI (h : RG F n N P s0 t0 K U W Y t) (hAU : A.length = U.length) (hu : u < A.length) (hp : ∀ r ∈ W, r.2.1 = -1 → r.1 = (uAt U u).1 → r.2.2.2.2.1 < pf u) (hit : ITl s0 (pf u) p (A.getD u [])) {i : Nat} (hi : i < (A.getD u []).length)
    (him : IM t (stA A u + i) (u : Int) 0 C ((A.getD u []).getD i (0, 0, 0, 0))) (hk : k ∈ gI F P t0 U W t (stA A u + i)) : ∃ k', ntT F P s0 t0 K U W K U W Y A k' ∧ k' ≤ k := by
  have hr : (A.getD u []).getD i (0, 0, 0, 0) ∈ A.getD u [] := gd_mem hi
  generalize (A.getD u []).getD i (0, 0, 0, 0) = r at hr him
  have so : soF U u = (uAt U u).2.1 := rfl
  obtain ⟨⟨a1, _⟩, a2, a3⟩ := him
  obtain ⟨t1, t2, t3, t4⟩ := hit.1 r hr
  unfold gI at hk
  rw [a1, a2, Int.toNat_natCast] at hk
  by_cases c3 : r.1 = 3
  · rw [if_pos c3] at hk
    have e147 : t 147 (stA A u + i) = r.2.2.2 := by
      rcases a3 with ⟨q, _⟩ | ⟨_, _, _, _, q⟩
      · omega
      · exact q
    refine ⟨k, ntT_A hu hr ?_, Nat.le_refl _⟩
    unfold ntI
    rw [if_pos c3, so]
    rw [e147] at hk
    exact hk
  rw [if_neg c3] at hk
  by_cases c4 : r.1 = 4 ∨ r.1 = 13
  · have e147 : t 147 (stA A u + i) = r.2.2.2 := by
      rcases a3 with ⟨q, _⟩ | ⟨_, _, _, _, q⟩
      · omega
      · exact q
    obtain ⟨j, e1, e2, e3, e4⟩ := t2 (by omega)
    rw [if_pos c4, e147, e1, Int.toNat_natCast] at hk
    rcases agr_or (u := u) (j := j) h hp with ag | ⟨d, d1, d2⟩
    · refine ⟨k, ntT_A hu hr ?_, Nat.le_refl _⟩
      unfold ntI
      rw [if_neg c3, if_pos c4, e1, Int.toNat_natCast, ntV_eq h ag]
      exact hk
    · refine ⟨16 * d + 3, Or.inr (Or.inr (Or.inl d2)), ?_⟩
      rcases List.mem_append.mp hk with z | z
      · split at z
        · have := List.mem_singleton.mp z; omega
        · simp at z
      · have := vNt_ge z; omega
  · rw [if_neg c4] at hk
    simp at hk
/-- the reference's notes of a call, the class has as early ones -/
theorem r2cC (h : RG F n N P s0 t0 K U W Y t) (hAU : A.length = U.length) (hu : u < A.length) (hp : ∀ r ∈ W, r.2.1 = -1 → r.1 = (uAt U u).1 → r.2.2.2.2.1 < pf u) (hit : ITl s0 (pf u) p (A.getD u [])) {r : itm} (hr : r ∈ A.getD u []) {c : Nat} (hc : CI t c u r) (hk : k ∈ gC F P s0 t0 K U W t c) : ∃ k', ntT F P s0 t0 K U W K U W Y A k' ∧ k' ≤ k := by
  have hu' : u < U.length := by omega
  have so : soF U u = (uAt U u).2.1 := rfl
  have hU1 := h.2.2.2.2.1 _ (gd_mem (d := ((0, 0, 0, 0) : urec)) hu')
  have hU0 : 0 ≤ (uAt U u).1 ∧ (uAt U u).1 < (K.length : Int) := hU1
  have ecl : (8 : Int) + (clF U u : Int) = 8 + (uAt U u).1 := by unfold clF uAt; omega
  obtain ⟨c10, q2, q3, q4, q5⟩ := hc
  obtain ⟨t1, t2, t3, t4⟩ := hit.1 r hr
  obtain ⟨⟨l, l1, l2, l3, l4⟩, f0, _, m0⟩ := t3 (Or.inr c10)
  obtain ⟨mm, m1, m2⟩ := m0 c10
  have h9 := hit.2.2.1 r hr c10
  unfold gC at hk
  rw [q2, q3, q4, q5, Int.toNat_natCast, l1, Int.toNat_natCast, m1] at hk
  have ro := owR_rg (F := F) (P := P) (f := r.2.1) h hu'
  have n10 : ntI F P s0 t0 K U (paF W) (wlF U W u) (wlFc U W u).length (clF U u) (soF U u) r = (if r.2.1 = -1 then ntC F P t0 K U (paF W) (8 + (uAt U u).1) l 1 mm else if fvW F P t0 (wlF U W u) (wlFc U W u).length r.2.1.toNat = -1 then (if fcK F P t0 K r.2.1.toNat = -1 then [16 * r.2.1.toNat + 4] else ntC F P t0 K U (paF W) (fcK F P t0 K r.2.1.toNat) l 0 mm) else ntC F P t0 K U (paF W) (tyT F P s0 t0 K (wAt (wlF U W u) (fvW F P t0 (wlF U W u) (wlFc U W u).length r.2.1.toNat))) l 1 mm) := by
    unfold ntI
    rw [if_neg (by omega), if_neg (by omega), if_neg (by omega), if_pos c10, l1, m1, Int.toNat_natCast, Int.toNat_natCast, ecl]
  have n9 : ntI F P s0 t0 K U (paF W) (wlF U W u) (wlFc U W u).length (clF U u) (soF U u) (9, r.2.1, r.2.2.1, 0) = (if r.2.1 = -1 then (if (uAt U u).2.1 = 2 then [16 * l + 6] else []) else if fvW F P t0 (wlF U W u) (wlFc U W u).length r.2.1.toNat = -1 then [] else ntV F P t0 (wlF U W u) (wlFc U W u).length (soF U u) r.2.1.toNat) := by
    unfold ntI
    rw [if_neg (by simp), if_neg (by simp), if_pos rfl, l1, Int.toNat_natCast, so]
  unfold ntR at hk
  by_cases cf : r.2.1 = -1
  · have ow8 : owR F P s0 t0 K U W u (-1) = 8 + (uAt U u).1 := by unfold owR; rw [if_pos rfl]
    have ob2 : obR F P t0 U W u (-1) = 2 := by unfold obR; rw [if_pos rfl]
    rw [cf, if_pos rfl, List.nil_append, ow8, if_neg (by omega), ob2, ntC_eq (obj := 1) h (by omega) rfl] at hk
    rcases List.mem_append.mp hk with z | z
    · refine ⟨k, ntT_A hu hr ?_, Nat.le_refl _⟩
      rw [n10, if_pos cf]
      exact z
    · refine ⟨k, ntT_A hu h9 ?_, Nat.le_refl _⟩
      rw [n9, if_pos cf]
      split at z
      · simp at z
      · unfold nt259 at z
        by_cases cs : (uAt U u).2.1 = 2
        · rw [if_pos ⟨rfl, cs⟩] at z
          rw [if_pos cs]
          exact z
        · rw [if_neg (fun e => cs e.2)] at z
          simp at z
  · rcases f0 with f0 | ⟨j, f1, f2, f3, f4⟩
    · exact absurd f0 cf
    rw [f1] at ro
    rw [f1, if_neg (show ¬ ((j : Int) = -1) by omega), Int.toNat_natCast] at hk
    rcases agr_or (u := u) (j := j) h hp with ag | ⟨d, d1, d2⟩
    · rcases List.mem_append.mp hk with z | z
      · refine ⟨k, ntT_A hu h9 ?_, Nat.le_refl _⟩
        rw [n9, if_neg cf, f1, Int.toNat_natCast]
        have rn : rvI F P t0 U W u j ≠ -1 := fun e => by
          unfold vNt at z
          rw [if_pos e] at z
          simp at z
        have fn : fvW F P t0 (wlF U W u) (wlFc U W u).length j ≠ -1 := by
          rcases ag with q | q
          · exact absurd q.2 rn
          · exact q.1
        rw [if_neg fn, ntV_eq h ag]
        exact List.mem_append_right _ z
      · have done : k ∈ ntI F P s0 t0 K U (paF W) (wlF U W u) (wlFc U W u).length (clF U u) (soF U u) r → ∃ k', ntT F P s0 t0 K U W K U W Y A k' ∧ k' ≤ k := fun q => ⟨k, ntT_A hu hr q, Nat.le_refl _⟩
        rw [n10, if_neg cf, f1, Int.toNat_natCast] at done
        have no259 : ∀ o : Int, o ≠ 2 → nt259 U u o l = [] := fun o ho => by unfold nt259; rw [if_neg (fun e => ho e.1)]
        rcases ag with ⟨a1, a2⟩ | ⟨a1, a2, a3⟩
        · have eo : owR F P s0 t0 K U W u (j : Int) = fcK F P t0 K j := by unfold owR; rw [if_neg (by omega), Int.toNat_natCast, if_pos a2]
          have eb : obR F P t0 U W u (j : Int) = 0 := by unfold obR; rw [if_neg (by omega), Int.toNat_natCast, if_pos a2]
          rw [eo] at ro
          rw [if_pos a1] at done
          rw [eo, eb, if_pos a2] at z
          by_cases cc : fcK F P t0 K j = -1
          · rw [if_pos cc] at z done
            exact done z
          · rw [if_neg cc] at z done
            rw [ntC_eq (obj := 0) h (by omega) rfl, no259 0 (by omega)] at z
            refine done ?_
            rcases List.mem_append.mp z with y | y
            · exact y
            · split at y <;> simp at y
        · have eo : owR F P s0 t0 K U W u (j : Int) = tyT F P s0 t0 K (wGt W (rvI F P t0 U W u j).toNat) := by unfold owR; rw [if_neg (by omega), Int.toNat_natCast, if_neg a2]
          have eb : obR F P t0 U W u (j : Int) = 1 := by unfold obR; rw [if_neg (by omega), Int.toNat_natCast, if_neg a2]
          rw [if_neg a1, a3, ← eo] at done
          rw [eb, if_neg a2] at z
          by_cases cc : owR F P s0 t0 K U W u (j : Int) = -1
          · rw [if_pos cc] at z
            refine done ?_
            unfold ntC fsbT
            rw [cc, if_pos rfl, if_pos rfl]
            exact z
          · rw [if_neg cc, ntC_eq (obj := 1) h (by omega) rfl, no259 1 (by omega)] at z
            refine done ?_
            rcases List.mem_append.mp z with y | y
            · exact y
            · split at y <;> simp at y
    · refine ⟨16 * d + 3, Or.inr (Or.inr (Or.inl d2)), ?_⟩
      rcases List.mem_append.mp hk with z | z
      · have := vNt_ge z; omega
      · split at z
        · split at z
          · have := List.mem_singleton.mp z; omega
          · have := List.mem_singleton.mp z; omega
        · have := nt173_ge z; omega
theorem gT_in (hY : YOK s0 N Y K U W) (hk : k ∈ rnN F P s0 t0 K U W) : ∃ k', ntT F P s0 t0 K U W K U W Y A k' ∧ k' ≤ k := by
  have ty : ∀ y : Int, (y = -1 ∨ ∃ j : Nat, y = (j : Int) ∧ j < N ∧ (s0 9 j = 3 → j ∈ Y)) → k ∈ gT F P s0 t0 K y → ntT F P s0 t0 K U W K U W Y A k := fun y hy q => by
    unfold gT at q
    split at q
    · simp at q
    · split at q
      · rename_i c1 c2
        rcases hy with z | ⟨j, z1, z2, z3⟩
        · exact absurd z c1
        · rw [z1, Int.toNat_natCast] at q c2
          refine Or.inr (Or.inr (Or.inr (Or.inl ?_)))
          rw [List.mem_flatMap]
          exact ⟨j, z3 c2, q⟩
      · simp at q
  unfold rnN at hk
  refine ⟨k, ?_, Nat.le_refl _⟩
  rcases List.mem_append.mp hk with hk | hk
  · rcases List.mem_append.mp hk with hk | hk
    · exact Or.inl hk
    · rw [List.mem_flatMap] at hk
      obtain ⟨i, h1, h2⟩ := hk
      rcases List.mem_append.mp h2 with z | z
      · refine Or.inr (Or.inl ?_)
        unfold rgM
        rw [List.mem_flatMap]
        exact ⟨i, h1, z⟩
      · exact ty _ (hY.2.2.1 _ (gd_mem (List.mem_range.mp h1))).1 z
  · rw [List.mem_flatMap] at hk
    obtain ⟨i, h1, h2⟩ := hk
    rcases List.mem_append.mp h2 with z | z
    · refine Or.inr (Or.inr (Or.inl ?_))
      unfold rgM
      rw [List.mem_flatMap]
      exact ⟨i, h1, z⟩
    · exact ty _ (Or.inr (hY.2.1 _ (gd_mem (List.mem_range.mp h1))).1) z
/-- the least note is the same -/
theorem nt_min (h : RG F n N P s0 t0 K U W Y t) (hA : AOK s0 K U W A t I C p w) (hAU : A.length = U.length) (hL : ∀ k, k ∈ L ↔ ntT F P s0 t0 K U W K U W Y A k) : kMn L = kMn (rnT F P s0 t0 K U W t I C) := by
  obtain ⟨pf, a1, a2, a3, a4, a5, a6⟩ := AOK_it hA
  have hY := h.2.2.1
  refine Nat.le_antisymm (kMn_dom fun k hk => ?_) (kMn_dom fun k hk => ?_)
  · have : ∃ k', ntT F P s0 t0 K U W K U W Y A k' ∧ k' ≤ k := by
      unfold rnT at hk
      rcases List.mem_append.mp hk with hk | hk
      · rcases List.mem_append.mp hk with hk | hk
        · exact gT_in hY hk
        · rw [List.mem_flatMap] at hk
          obtain ⟨x, h1, h2⟩ := hk
          obtain ⟨u, i, b1, b2, b3⟩ := a3 x (List.mem_range.mp h1)
          rw [b3] at h2
          exact r2cI h hAU b1 (a1 u b1) (a2 u b1) b2 (a4 u i b1 b2).2 h2
      · rw [List.mem_flatMap] at hk
        obtain ⟨c, h1, h2⟩ := hk
        obtain ⟨u, r, b1, b2, b3⟩ := a5 c (List.mem_range.mp h1)
        exact r2cC h hAU b1 (a1 u b1) (a2 u b1) b2 b3 h2
    obtain ⟨k', q1, q2⟩ := this
    exact ⟨k', (hL k').mpr q1, q2⟩
  · rcases (hL k).mp hk with z | z | z | z | z
    · refine ⟨k, ?_, Nat.le_refl _⟩
      unfold rnT rnN
      exact List.mem_append_left _ (List.mem_append_left _ (List.mem_append_left _ (List.mem_append_left _ z)))
    · refine ⟨k, ?_, Nat.le_refl _⟩
      unfold rnT rnN
      refine List.mem_append_left _ (List.mem_append_left _ (List.mem_append_left _ (List.mem_append_right _ ?_)))
      unfold rgM at z
      rw [List.mem_flatMap] at z ⊢
      obtain ⟨i, q1, q2⟩ := z
      exact ⟨i, q1, List.mem_append_left _ q2⟩
    · exact ⟨k, rnT_W z, Nat.le_refl _⟩
    · rw [List.mem_flatMap] at z
      obtain ⟨j, q1, q2⟩ := z
      obtain ⟨y1, y2, y3⟩ := hY.1 j q1
      have gt : k ∈ gT F P s0 t0 K (j : Int) := by
        unfold gT
        rw [if_neg (by omega), Int.toNat_natCast, if_pos y2]
        exact q2
      refine ⟨k, ?_, Nat.le_refl _⟩
      unfold rnT rnN
      rcases y3 with ⟨e, m1, m2⟩ | ⟨e, m1, m2⟩
      · refine List.mem_append_left _ (List.mem_append_left _ (List.mem_append_right _ ?_))
        obtain ⟨i, hi, he⟩ := List.getElem_of_mem m1
        rw [List.mem_flatMap]
        refine ⟨i, List.mem_range.mpr hi, List.mem_append_right _ ?_⟩
        unfold wGt
        rw [List.getD_eq_getElem?_getD, List.getElem?_eq_getElem hi]
        show k ∈ gT F P s0 t0 K (W[i]).2.2.2.1
        rw [he, m2]
        exact gt
      · refine List.mem_append_left _ (List.mem_append_left _ (List.mem_append_left _ (List.mem_append_right _ ?_)))
        obtain ⟨i, hi, he⟩ := List.getElem_of_mem m1
        rw [List.mem_flatMap]
        refine ⟨i, List.mem_range.mpr hi, List.mem_append_right _ ?_⟩
        unfold uAt
        rw [List.getD_eq_getElem?_getD, List.getElem?_eq_getElem hi]
        show k ∈ gT F P s0 t0 K (U[i]).2.2.2
        rw [he, m2]
        exact gt
    · unfold rgM gA at z
      rw [List.mem_flatMap] at z
      obtain ⟨u, q1, q2⟩ := z
      rw [List.mem_flatMap] at q2
      obtain ⟨r, q3, q4⟩ := q2
      have hu := List.mem_range.mp q1
      exact c2r h hAU hu (a1 u hu) (a2 u hu) (fun i hi => a4 u i hu hi) (fun r hr h10 => a6 u r hu hr h10) q3 q4
end NTe
