/-! the linker's code is as the abstract machine wants it -/
theorem kx_P : ∀ o, o < 22 → o ≠ 11 → plainName (tb_own o) = true := by decide +kernel
theorem kx_Mx : plainFor ⟨"java/lang/Math", "max", "(II)I"⟩ = true := by decide +kernel
theorem kx_Mn : plainFor ⟨"java/lang/Math", "min", "(II)I"⟩ = true := by decide +kernel
theorem kx_Ma : plainFor ⟨"java/lang/Math", "abs", "(I)I"⟩ = true := by decide +kernel
def ck_Pm (j : Nat) : Bool := match tb_mt j with
  | some (y, _, _, _) => if tb_o j = 11 then decide (y = ⟨"java/lang/Math", "max", "(II)I"⟩) || decide (y = ⟨"java/lang/Math", "min", "(II)I"⟩) || decide (y = ⟨"java/lang/Math", "abs", "(I)I"⟩) else decide (tb_o j < 22)
  | none => false
theorem kx_Pm : (List.range 485).all ck_Pm = true := by decide +kernel
