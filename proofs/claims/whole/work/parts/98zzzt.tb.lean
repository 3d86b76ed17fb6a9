/-! where no note stands: names -/
section NNb
variable {F : Nat → Int} {n N : Nat} {P : Nat → Nat} {s0 t0 t : iS} {k j u : Nat} {K : List Nat} {U : List urec} {W : List wrec} {Y : List Nat} {I C : Nat} {pf : Nat → Nat}
theorem nn_key (h : kMn (rnT F P s0 t0 K U W t I C) = 100000) : ∀ k, k ∈ rnT F P s0 t0 K U W t I C → 100000 ≤ k := fun k hk => by
  have := kMn_le_of hk
  omega
theorem nn_K (hr : RG F n N P s0 t0 K U W Y t) (h : kMn (rnT F P s0 t0 K U W t I C) = 100000) {i : Nat} (hi : i < K.length) : fcK F P t0 K (K.getD i 0) = 8 + (i : Int) := by
  have hN := N1001 hr.1.1
  have k2 := (RG_K hr hi).2.1
  by_cases c : fcK F P t0 K (K.getD i 0) = 8 + (i : Int)
  · exact c
  · exfalso
    have := nn_key h (16 * K.getD i 0 + 3) (by
      unfold rnT rnN rgM
      refine List.mem_append_left _ (List.mem_append_left _ (List.mem_append_left _ (List.mem_append_left _ ?_)))
      rw [List.mem_flatMap]
      refine ⟨i, List.mem_range.mpr hi, ?_⟩
      unfold gK
      rw [if_neg c]
      simp)
    omega
theorem nn_U (hr : RG F n N P s0 t0 K U W Y t) (h : kMn (rnT F P s0 t0 K U W t I C) = 100000) {i : Nat} (hi : i < U.length) : fsbT F P t0 K U (8 + (uAt U i).1) (uAt U i).2.2.1 = 40 + (i : Int) := by
  have hN := N1001 hr.1.1
  have k2 : (uAt U i).2.2.1 < N := (RG_U hr hi).2.2.2.2.1
  by_cases c : fsbT F P t0 K U (8 + (uAt U i).1) (uAt U i).2.2.1 = 40 + (i : Int)
  · exact c
  · exfalso
    have := nn_key h (16 * (uAt U i).2.2.1 + 3) (by
      unfold rnT rnN
      refine List.mem_append_left _ (List.mem_append_left _ (List.mem_append_left _ (List.mem_append_right _ ?_)))
      rw [List.mem_flatMap]
      refine ⟨i, List.mem_range.mpr hi, List.mem_append_left _ ?_⟩
      unfold uAt at c ⊢
      unfold gU
      rw [if_neg c]
      simp)
    omega
theorem nn_agr (hr : RG F n N P s0 t0 K U W Y t) (h : kMn (rnT F P s0 t0 K U W t I C) = 100000) (hp : ∀ r ∈ W, r.2.1 = -1 → r.1 = (uAt U u).1 → r.2.2.2.2.1 < pf u) (hpf : pf u ≤ 1001) : Agr F P t0 U W u j := by
  rcases agr_or (u := u) (j := j) hr hp with z | ⟨d, d1, d2⟩
  · exact z
  · exfalso
    have := nn_key h (16 * d + 3) (rnT_W d2)
    omega
/-- an item that is a variable is found -/
theorem nn_var {x : Nat} (h : gI F P t0 U W t x = []) (hk : t 144 x = 4 ∨ t 144 x = 13) : rvI F P t0 U W (t 148 x).toNat (t 147 x).toNat ≠ -1 := fun c => by
  unfold gI at h
  rw [if_neg (by omega), if_pos hk, if_pos c] at h
  simp at h
/-- a call is found -/
theorem nn_call {c : Nat} (h : gC F P s0 t0 K U W t c = []) : owR F P s0 t0 K U W (t 156 c).toNat (t 149 c) ≠ -1 ∧ sbR F P t0 U (owR F P s0 t0 K U W (t 156 c).toNat (t 149 c)) (t 150 c).toNat ≠ -1 := by
  unfold gC ntR at h
  have h2 := (List.append_eq_nil_iff.mp h).2
  refine ⟨fun z => ?_, fun z => ?_⟩
  · rw [if_pos z] at h2
    split at h2 <;> simp at h2
  · by_cases c1 : owR F P s0 t0 K U W (t 156 c).toNat (t 149 c) = -1
    · rw [if_pos c1] at h2
      split at h2 <;> simp at h2
    · rw [if_neg c1] at h2
      unfold nt173 at h2
      rw [if_pos z] at h2
      simp at h2
end NNb
