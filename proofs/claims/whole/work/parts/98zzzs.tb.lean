/-! where no note stands -/
section NNa
variable {F : Nat → Int} {n N : Nat} {P : Nat → Nat} {s0 t0 t : iS} {k j q l : Nat} {K : List Nat} {U : List urec} {W : List wrec} {Y : List Nat} {I C : Nat} {v o ow m : Int}
theorem vNt_lt (h : k ∈ vNt U W q v j) (hj : j < N) : k < 16 * N := by
  unfold vNt at h
  split at h
  · simp at h
  · split at h
    · have := List.mem_singleton.mp h; omega
    · simp at h
theorem nt173_lt (h : k ∈ nt173 F P t0 U W q o ow l m) (hl : l < N) : k < 16 * N := by
  unfold nt173 at h
  split at h
  · have := List.mem_singleton.mp h; omega
  · rcases List.mem_append.mp h with z | z
    · by_cases c : isM U ow (sbR F P t0 U ow l) = (if o ≤ 0 then 0 else 1) ∧ mnR W ow (sbR F P t0 U ow l) = m
      · rw [if_pos c] at z; simp at z
      · rw [if_neg c] at z
        have := List.mem_singleton.mp z; omega
    · unfold nt259 at z
      split at z
      · have := List.mem_singleton.mp z; omega
      · simp at z
theorem gI_lt {x : Nat} (hx : IOK s0 N U t x) (h : k ∈ gI F P t0 U W t x) : k < 16 * N := by
  obtain ⟨_, _, a3, _⟩ := hx
  unfold gI at h
  by_cases c3 : t 144 x = 3
  · have := a3 (Or.inl c3)
    rw [if_pos c3] at h
    split at h
    · have := List.mem_singleton.mp h; omega
    · simp at h
  · rw [if_neg c3] at h
    by_cases c4 : t 144 x = 4 ∨ t 144 x = 13
    · have := a3 (Or.inr c4)
      rw [if_pos c4] at h
      rcases List.mem_append.mp h with z | z
      · split at z
        · have := List.mem_singleton.mp z; omega
        · simp at z
      · exact vNt_lt z (by omega)
    · rw [if_neg c4] at h
      simp at h
theorem gC_lt {c : Nat} (hc : COK s0 N U t c) (h : k ∈ gC F P s0 t0 K U W t c) : k < 16 * N := by
  obtain ⟨_, a2, a3, _⟩ := hc
  unfold gC ntR at h
  rcases List.mem_append.mp h with z | z
  · split at z
    · simp at z
    · rename_i c1
      rcases a2 with y | y
      · exact absurd y c1
      · exact vNt_lt z (by omega)
  · split at z
    · split at z
      · have := List.mem_singleton.mp z
        rcases a2 with y | y
        · rw [y] at this
          simp at this
          omega
        · omega
      · have := List.mem_singleton.mp z; omega
    · exact nt173_lt z (by omega)
/-- no note: nothing is noted of any item or call -/
theorem no_note (hN : N ≤ 1001) (hi : ∀ x, x < I → IOK s0 N U t x) (hc : ∀ c, c < C → COK s0 N U t c) (h : kMn (rnT F P s0 t0 K U W t I C) = 100000) : (∀ x, x < I → gI F P t0 U W t x = []) ∧ (∀ c, c < C → gC F P s0 t0 K U W t c = []) := by
  have key : ∀ k, k ∈ rnT F P s0 t0 K U W t I C → 100000 ≤ k := fun k hk => by
    have := kMn_le_of hk
    omega
  refine ⟨fun x hx => ?_, fun c hc' => ?_⟩
  · refine List.eq_nil_iff_forall_not_mem.mpr fun k hk => ?_
    have a := gI_lt (hi x hx) hk
    have b := key k (rnT_I hx hk)
    omega
  · refine List.eq_nil_iff_forall_not_mem.mpr fun k hk => ?_
    have a := gC_lt (hc c hc') hk
    have b := key k (rnT_C hc' hk)
    omega
end NNa
