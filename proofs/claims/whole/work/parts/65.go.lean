/-! the processor -/
/-- two loops in step -/
theorem lpp {L1 E1 L2 E2 : Type} {f : L1 → Option (L1 ⊕ E1)} {g : L2 → Option (L2 ⊕ E2)} (I : L1 → L2 → Prop) (R : E1 → E2 → Prop) (m : L1 → Nat) (h : ∀ a b, I a b → (∃ a' b', f a = some (.inl a') ∧ g b = some (.inl b') ∧ I a' b' ∧ m a' < m a) ∨ (∃ x y, f a = some (.inr x) ∧ g b = some (.inr y) ∧ R x y)) {a : L1} {b : L2} (hI : I a b) : ∃ x y, lp f a = some x ∧ lp g b = some y ∧ R x y := by
  suffices H : ∀ n a b, m a < n → I a b → ∃ x y, lp f a = some x ∧ lp g b = some y ∧ R x y from H (m a + 1) a b (Nat.lt_succ_self _) hI
  intro n
  induction n with
  | zero => intro a b h1; omega
  | succ n ihn =>
    intro a b h1 h2
    rcases h a b h2 with ⟨a', b', e1, e2, e3, e4⟩ | ⟨x, y, e1, e2, e3⟩
    · rw [lp_next e1, lp_next e2]
      exact ihn a' b' (by omega) e3
    · exact ⟨x, y, lp_end e1, lp_end e2, e3⟩
def al1 (b t : Int) : Int := i_s (if i_and b 1 = 0 then t else i_xor t (-1))
def al2 (b x y : Int) : Int := al1 b (if i_and b 2 = 0 then i_and x y else x + y)
def al3 (b z n x : Int) : Int := if i_and b n = 0 then (if i_and b z = 0 then x else 0) else i_xor (if i_and b z = 0 then x else 0) (-1)
def alu (b x y : Int) : Int := al2 b (al3 b 32 16 x) (al3 b 8 4 y)
section ALU
variable {b x y t : Int} {s : iS}
theorem pro_c67 : pro_compute_67 b t s = some (al1 b t, s) := by
  unfold pro_compute_67 al1
  rw [gd_pos (i_and_rg _ _)]
  split <;> rfl
theorem pro_c50 : pro_compute_50 b x y s = some (al2 b x y, s) := by
  unfold pro_compute_50 al2
  rw [gd_pos (i_and_rg _ _), pro_c67, pro_c67]
  split <;> rfl
theorem pro_c : pro_compute b x y s = some (alu b x y, s) := by
  unfold pro_compute alu
  rw [gd_pos (i_and_rg _ _)]
  unfold pro_compute_12
  rw [gd_pos (i_and_rg _ _)]
  unfold pro_compute_25
  rw [gd_pos (i_and_rg _ _)]
  unfold pro_compute_38
  rw [gd_pos (i_and_rg _ _)]
  simp only [gd_pos (i_and_rg _ _), pro_c50, al3]
  by_cases h1 : i_and b 32 = 0 <;> by_cases h2 : i_and b 16 = 0 <;> by_cases h3 : i_and b 8 = 0 <;> by_cases h4 : i_and b 4 = 0 <;> simp [h1, h2, h3, h4]
theorem m_u76 : m_unit_76 b t s = some (al1 b t, s) := by
  unfold m_unit_76 al1
  rw [gd_pos (i_and_rg _ _)]
  split <;> rfl
theorem m_u57 : m_unit_57 b x y s = some (al2 b x y, s) := by
  unfold m_unit_57 al2
  rw [gd_pos (i_and_rg _ _), m_u76, m_u76]
  split <;> rfl
theorem m_u : m_unit b x y s = some (alu b x y, s) := by
  unfold m_unit alu
  rw [gd_pos (i_and_rg _ _)]
  unfold m_unit_12
  rw [gd_pos (i_and_rg _ _)]
  unfold m_unit_27
  rw [gd_pos (i_and_rg _ _)]
  unfold m_unit_40
  rw [gd_pos (i_and_rg _ _)]
  simp only [gd_pos (i_and_rg _ _), m_u57, al3]
  by_cases h1 : i_and b 32 = 0 <;> by_cases h2 : i_and b 16 = 0 <;> by_cases h3 : i_and b 8 = 0 <;> by_cases h4 : i_and b 4 = 0 <;> simp [h1, h2, h3, h4]
theorem al3_63 {z n : Int} (hz : i_and 63 z = z) (hn : i_and 63 n = n) : al3 (i_and b 63) z n x = al3 b z n x := by
  unfold al3
  rw [i_and_assoc, i_and_assoc, hz, hn]
theorem alu_63 : alu (i_and b 63) x y = alu b x y := by
  unfold alu al2 al1
  rw [al3_63 (by decide) (by decide), al3_63 (by decide) (by decide), i_and_assoc, i_and_assoc, show i_and 63 2 = 2 by decide, show i_and 63 1 = 1 by decide]
theorem alu_rg : -32768 ≤ alu b x y ∧ alu b x y < 32768 := i_s_rg _
end ALU
/-- one instruction -/
def wy (v : Int) : Int := if v ≤ 0 then (if v = 0 then 2 else 4) else 1
def cu (P : Prop) [Decidable P] (s : iS) (c k : Nat) (x : Int) : iS := if P then s else up s c k x
theorem cu_at {P : Prop} [Decidable P] {s : iS} {c k c' k' : Nat} {x : Int} : cu P s c k x c' k' = if c' = c ∧ k' = k ∧ ¬ P then x else s c' k' := by
  unfold cu
  by_cases h : P <;> simp [h, up_at]
/-- what an instruction leaves: a, d, next, store -/
def ni_v (w a d : Int) (st : Nat → Int) : Int := alu (i_shr w 6) d (if i_and w 4096 = 0 then a else st (i_and a 32767).toNat)
def ni_a (w a d : Int) (st : Nat → Int) : Int := if 57344 ≤ w then (if i_and w 32 = 0 then a else ni_v w a d st) else w
def ni_d (w a d : Int) (st : Nat → Int) : Int := if 57344 ≤ w then (if i_and w 16 = 0 then d else ni_v w a d st) else d
def ni_n (w a d n : Int) (st : Nat → Int) : Int := if 57344 ≤ w then (if i_and w (wy (ni_v w a d st)) = 0 then n + 1 else i_and a 32767) else n + 1
def ni_s (w a d : Int) (st : Nat → Int) : Nat → Int := if 57344 ≤ w then (if i_and w 8 = 0 then st else u1 st (i_and a 32767).toNat (ni_v w a d st)) else st
section NI
variable {w a v t : Int} {s : iS}
theorem pro_d119 : pro_doInstruction_119 w a t s = some (0, up s 55 11 (if i_and w t = 0 then s 55 11 + 1 else a)) := by
  unfold pro_doInstruction_119
  rw [gd_pos (i_and_rg _ _)]
  split <;> rfl
theorem pro_d102 (hv : rg v) : pro_doInstruction_102 w a v s = some (0, up s 55 11 (if i_and w (wy v) = 0 then s 55 11 + 1 else a)) := by
  unfold pro_doInstruction_102 wy
  rw [gd_pos hv, pro_d119, pro_d119, pro_d119]
  split
  · split <;> rfl
  · rfl
theorem pro_d90 (hv : rg v) : pro_doInstruction_90 w a v s = some (0, up (cu (i_and w 32 = 0) s 55 9 v) 55 11 (if i_and w (wy v) = 0 then s 55 11 + 1 else a)) := by
  unfold pro_doInstruction_90 cu
  rw [gd_pos (i_and_rg _ _)]
  simp only [lt_eq, pro_d102 hv]
  split
  · rfl
  · rw [up_ne (by omega)]
theorem pro_d78 (hv : rg v) : pro_doInstruction_78 w a v s = some (0, up (cu (i_and w 32 = 0) (cu (i_and w 16 = 0) s 55 10 v) 55 9 v) 55 11 (if i_and w (wy v) = 0 then s 55 11 + 1 else a)) := by
  unfold pro_doInstruction_78
  rw [gd_pos (i_and_rg _ _)]
  simp only [lt_eq, pro_d90 hv]
  by_cases h : i_and w 16 = 0
  · rw [if_pos h]
    have : cu (i_and w 16 = 0) s 55 10 v = s := if_pos h
    rw [this]
  · rw [if_neg h, up_ne (by omega)]
    have : cu (i_and w 16 = 0) s 55 10 v = up s 55 10 v := if_neg h
    rw [this]
theorem pro_d60 {x y b : Int} (ha : 0 ≤ a ∧ a < 32768) : pro_doInstruction_60 w a y x b s = some (0, up (cu (i_and w 32 = 0) (cu (i_and w 16 = 0) (cu (i_and w 8 = 0) s 70 a.toNat (alu b x y)) 55 10 (alu b x y)) 55 9 (alu b x y)) 55 11 (if i_and w (wy (alu b x y)) = 0 then s 55 11 + 1 else a)) := by
  have hv : rg (alu b x y) := ⟨by have := @alu_rg b x y; omega, by have := @alu_rg b x y; omega⟩
  unfold pro_doInstruction_60
  rw [pro_c, bd_some, gd_pos (i_and_rg _ _), gd_pos ha]
  simp only [lt_eq, pro_d78 hv]
  by_cases h : i_and w 8 = 0
  · rw [if_pos h]
    have : cu (i_and w 8 = 0) s 70 a.toNat (alu b x y) = s := if_pos h
    rw [this]
  · rw [if_neg h, up_ne (by omega)]
    have : cu (i_and w 8 = 0) s 70 a.toNat (alu b x y) = up s 70 a.toNat (alu b x y) := if_neg h
    rw [this]
theorem a15 (a : Int) : 0 ≤ i_and a 32767 ∧ i_and a 32767 < 32768 := by
  have := i_and_le a (m := 32767) (by decide)
  omega
theorem pro_do_ok (hw : rg w) : ∃ s', pro_doInstruction w s = some (0, s') ∧ s' 55 9 = ni_a w (s 55 9) (s 55 10) (s 70) ∧ s' 55 10 = ni_d w (s 55 9) (s 55 10) (s 70) ∧ s' 55 11 = ni_n w (s 55 9) (s 55 10) (s 55 11) (s 70) ∧ s' 70 = ni_s w (s 55 9) (s 55 10) (s 70) := by
  unfold pro_doInstruction ni_a ni_d ni_n ni_s
  rw [gd_pos hw]
  by_cases h : 57344 ≤ w
  · simp only [if_pos h]
    rw [gd_pos (i_and_rg _ _), gd_pos (a15 _), pro_d60 (a15 _), pro_d60 (a15 _)]
    have e : (if i_and w 4096 = 0 then some (0, up (cu (i_and w 32 = 0) (cu (i_and w 16 = 0) (cu (i_and w 8 = 0) s 70 (i_and (s 55 9) 32767).toNat (alu (i_shr w 6) (s 55 10) (s 55 9))) 55 10 (alu (i_shr w 6) (s 55 10) (s 55 9))) 55 9 (alu (i_shr w 6) (s 55 10) (s 55 9))) 55 11 (if i_and w (wy (alu (i_shr w 6) (s 55 10) (s 55 9))) = 0 then s 55 11 + 1 else i_and (s 55 9) 32767)) else some (0, up (cu (i_and w 32 = 0) (cu (i_and w 16 = 0) (cu (i_and w 8 = 0) s 70 (i_and (s 55 9) 32767).toNat (alu (i_shr w 6) (s 55 10) (s 70 (i_and (s 55 9) 32767).toNat))) 55 10 (alu (i_shr w 6) (s 55 10) (s 70 (i_and (s 55 9) 32767).toNat))) 55 9 (alu (i_shr w 6) (s 55 10) (s 70 (i_and (s 55 9) 32767).toNat))) 55 11 (if i_and w (wy (alu (i_shr w 6) (s 55 10) (s 70 (i_and (s 55 9) 32767).toNat))) = 0 then s 55 11 + 1 else i_and (s 55 9) 32767)))
        = some ((0 : Int), up (cu (i_and w 32 = 0) (cu (i_and w 16 = 0) (cu (i_and w 8 = 0) s 70 (i_and (s 55 9) 32767).toNat (ni_v w (s 55 9) (s 55 10) (s 70))) 55 10 (ni_v w (s 55 9) (s 55 10) (s 70))) 55 9 (ni_v w (s 55 9) (s 55 10) (s 70))) 55 11 (if i_and w (wy (ni_v w (s 55 9) (s 55 10) (s 70))) = 0 then s 55 11 + 1 else i_and (s 55 9) 32767)) := by
      unfold ni_v
      split <;> rfl
    rw [e]
    refine ⟨_, rfl, ?_, ?_, ?_, ?_⟩
    · by_cases h8 : i_and w 32 = 0 <;> simp [up_at, cu_at, h8]
    · by_cases h8 : i_and w 16 = 0 <;> simp [up_at, cu_at, h8]
    · exact up_same _ _ _ _
    · funext i
      by_cases h8 : i_and w 8 = 0 <;> simp [up_at, cu_at, h8, u1]
  · simp only [if_neg h, lt_eq]
    refine ⟨_, rfl, ?_, ?_, ?_, ?_⟩
    · simp [up_at]
    · simp [up_at]
    · simp [up_at]
    · funext i
      simp [up_at]
theorem m_o142 : m_oneCode_142 w a t s = some (0, cu (i_and w t = 0) s 121 120 a) := by
  unfold m_oneCode_142 cu
  rw [gd_pos (i_and_rg _ _)]
  simp only [lt_eq]
  split <;> rfl
theorem m_o125 (hv : rg v) : m_oneCode_125 w a v s = some (0, cu (i_and w (wy v) = 0) s 121 120 a) := by
  unfold m_oneCode_125
  rw [gd_pos hv, m_o142, m_o142, m_o142]
  by_cases h1 : v ≤ 0
  · by_cases h2 : v = 0
    · rw [if_pos h1, if_pos h2, show wy v = 2 by unfold wy; rw [if_pos h1, if_pos h2]]
    · rw [if_pos h1, if_neg h2, show wy v = 4 by unfold wy; rw [if_pos h1, if_neg h2]]
  · rw [if_neg h1, show wy v = 1 by unfold wy; rw [if_neg h1]]
theorem m_o113 (hv : rg v) : m_oneCode_113 w a v s = some (0, cu (i_and w (wy v) = 0) (cu (i_and w 16 = 0) s 121 119 v) 121 120 a) := by
  unfold m_oneCode_113
  rw [gd_pos (i_and_rg _ _)]
  simp only [lt_eq, m_o125 hv]
  by_cases h : i_and w 16 = 0
  · rw [if_pos h]
    have : cu (i_and w 16 = 0) s 121 119 v = s := if_pos h
    rw [this]
  · rw [if_neg h]
    have : cu (i_and w 16 = 0) s 121 119 v = up s 121 119 v := if_neg h
    rw [this]
theorem m_o101 (hv : rg v) : m_oneCode_101 w a v s = some (0, cu (i_and w (wy v) = 0) (cu (i_and w 16 = 0) (cu (i_and w 32 = 0) s 121 118 v) 121 119 v) 121 120 a) := by
  unfold m_oneCode_101
  rw [gd_pos (i_and_rg _ _)]
  simp only [lt_eq, m_o113 hv]
  by_cases h : i_and w 32 = 0
  · rw [if_pos h]
    have : cu (i_and w 32 = 0) s 121 118 v = s := if_pos h
    rw [this]
  · rw [if_neg h]
    have : cu (i_and w 32 = 0) s 121 118 v = up s 121 118 v := if_neg h
    rw [this]
theorem m_o83 {x y b : Int} (ha : 0 ≤ a ∧ a < 32768) : m_oneCode_83 w a y x b s = some (0, cu (i_and w (wy (alu b x y)) = 0) (cu (i_and w 16 = 0) (cu (i_and w 32 = 0) (cu (i_and w 8 = 0) s 194 a.toNat (alu b x y)) 121 118 (alu b x y)) 121 119 (alu b x y)) 121 120 a) := by
  have hv : rg (alu b x y) := ⟨by have := @alu_rg b x y; omega, by have := @alu_rg b x y; omega⟩
  unfold m_oneCode_83
  rw [m_u, bd_some, gd_pos (i_and_rg _ _), gd_pos ha]
  simp only [lt_eq, m_o101 hv]
  by_cases h : i_and w 8 = 0
  · rw [if_pos h]
    have : cu (i_and w 8 = 0) s 194 a.toNat (alu b x y) = s := if_pos h
    rw [this]
  · rw [if_neg h]
    have : cu (i_and w 8 = 0) s 194 a.toNat (alu b x y) = up s 194 a.toNat (alu b x y) := if_neg h
    rw [this]
end NI
