/-! the numbers behind both constructors keep the relation -/
theorem z_1 (k : Nat) : st0 1 k = 0 := rfl
theorem z_122 (k : Nat) : st0 122 k = 0 := rfl
theorem z_123 (k : Nat) : st0 123 k = 0 := rfl
theorem z_45 (k : Nat) : st0 45 k = 0 := rfl
theorem z_175 (k : Nat) : st0 175 k = 0 := rfl
theorem z_70 (k : Nat) : st0 70 k = 0 := rfl
theorem z_194 (k : Nat) : st0 194 k = 0 := rfl
theorem z_220 (k : Nat) : st0 220 k = 0 := rfl
theorem z_221 (k : Nat) : st0 221 k = 0 := rfl
theorem q0_T : QT st0 := by
  refine ⟨by decide +kernel, by decide +kernel, by decide +kernel, fun i _ => ?_, fun i => ?_, fun i => ?_⟩
  · rw [z_1, z_122]
  · rw [z_1]; decide
  · rw [z_122]; decide
theorem q0_P : QP st0 := ⟨by decide +kernel, by unfold rg; decide +kernel⟩
theorem q0_O : QO st0 := by
  refine ⟨by decide +kernel, by decide +kernel, by decide +kernel, fun i h => ?_⟩
  have e : st0 48 3 = 0 := by decide +kernel
  rw [e] at h
  omega
theorem q0_K : QK st0 := by
  refine ⟨by decide +kernel, by decide +kernel, by decide +kernel, by unfold rg; decide +kernel, fun i h => ?_⟩
  have e : st0 48 5 = 0 := by decide +kernel
  rw [e] at h
  omega
theorem q0_M : QM st0 := by
  refine ⟨by decide +kernel, by unfold rg; decide +kernel, fun i _ => ?_, fun i _ => ?_, fun i => ?_⟩
  · rw [z_45, z_175]
  · rw [z_45, z_175]
  · rw [z_45]; decide
theorem q0_N : QN st0 := by
  refine ⟨by decide +kernel, by decide +kernel, ?_, by unfold rg; decide +kernel, by decide +kernel, by unfold rg; decide +kernel, by decide +kernel, by unfold rg; decide +kernel⟩
  have e : st0 44 3 = 0 := by decide +kernel
  have e' : st0 44 4 = 0 := by decide +kernel
  rw [e, e']
  rfl
theorem q0_C : QC st0 := by
  have e : st0 0 3 = 0 := by decide +kernel
  refine ⟨by decide +kernel, by decide +kernel, fun h => ?_⟩
  rw [e] at h
  exact absurd h (by decide)
theorem q0_W : QW st0 := by
  refine ⟨by decide +kernel, by decide +kernel, by decide +kernel, by decide +kernel, fun i h => ?_⟩
  have e : st0 55 8 = 0 := by decide +kernel
  rw [e] at h
  omega
theorem q0_R : QR (20000 * ((0 : Nat) : Int)) st0 := by
  refine ⟨by decide +kernel, by decide +kernel, by decide +kernel, by decide +kernel, by decide +kernel, by decide +kernel, by decide +kernel, by decide +kernel, fun i => ?_⟩
  rw [z_70, z_194]
  decide
theorem q0_E : QE st0 := ⟨⟨⟨by decide +kernel, by decide +kernel⟩, ⟨by decide +kernel, by decide +kernel⟩, ⟨by decide +kernel, by decide +kernel⟩⟩, ⟨0, by decide +kernel, by decide, by decide +kernel⟩⟩
theorem q0_L : QL st0 := by
  refine ⟨⟨⟨by decide +kernel, by decide +kernel, by decide +kernel, by decide +kernel⟩, by decide +kernel, by decide +kernel, by decide +kernel, by decide +kernel, by decide +kernel⟩, ⟨by decide +kernel, by decide +kernel, by decide +kernel, by decide +kernel⟩, ⟨⟨by decide +kernel, by decide +kernel⟩, ⟨by decide +kernel, by decide +kernel⟩⟩, ⟨by decide +kernel, by decide +kernel, by decide +kernel⟩⟩
theorem q0_G : QG st0 := by
  intro h
  have e : st0 0 3 = 0 := by decide +kernel
  rw [e] at h
  exact absurd h (by decide)
theorem q0_Y : QY st0 := by
  intro k
  rw [z_123]
  decide
theorem q0_Hc : QHc st0 := by
  refine ⟨⟨by decide +kernel, by decide +kernel, by decide +kernel, by decide +kernel, by decide +kernel, by decide +kernel, by decide +kernel, ⟨by decide +kernel, by decide +kernel, by decide +kernel, by decide +kernel, by decide +kernel, by decide +kernel⟩⟩, ⟨by decide +kernel, by decide +kernel, by decide +kernel, by decide +kernel⟩, by decide +kernel, by decide +kernel⟩
theorem q0_Hr : QHr st0 := by
  intro c _
  rw [z_220, z_221]
  decide
theorem q0_B : QB 0 st0 := Or.inl ⟨by decide +kernel, by decide +kernel, by decide +kernel, by decide +kernel⟩
theorem Q0 : QQ 0 st0 := ⟨q0_T, q0_P, q0_O, q0_K, q0_M, q0_N, q0_C, q0_W, q0_R, q0_E, q0_L, q0_G, q0_Y, q0_Hc, q0_Hr, q0_B⟩
