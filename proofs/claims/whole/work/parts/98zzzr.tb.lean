/-! how a load ends -/
section LDa
variable {F : Nat → Int} {n N : Nat} {P : Nat → Nat} {s0 t0 t t' s : iS} {K : List Nat} {U : List urec} {W : List wrec} {Y : List Nat} {L : List Nat}
/-- cells of the reference that the end of a load may change -/
def FL (t t' : iS) : Prop := ∀ c k, ¬ (c = 121 ∧ (k = 4 ∨ k = 69 ∨ k = 70 ∨ k = 71 ∨ k = 72 ∨ k = 74)) → t' c k = t c k
theorem ld86 (h : RG F n N P s0 t0 K U W Y t) (hb : RBc P N L t) :
    (kMn L < 100000 ∧ ∃ t', m_load_86 t = some (((kMn L % 16 : Nat) : Int), t') ∧ t' 121 4 = (P (kMn L / 16) : Int) ∧ FL t t' ∧ t' 121 71 = t 121 71) ∨
    (kMn L = 100000 ∧ mnI F P t0 K U W U.length = -1 ∧ ∃ t', m_load_86 t = some (7, t') ∧ t' 121 4 = t 121 3 ∧ FL t t' ∧ t' 121 71 = t 121 71) ∨
    (kMn L = 100000 ∧ mnI F P t0 K U W U.length ≠ -1 ∧ ∃ t', m_load_86 t = m_load_161 0 t' ∧ t' 121 4 = -1 ∧ t' 121 71 = 1 ∧ t' 121 72 = mnI F P t0 K U W U.length ∧ t' 121 74 = t 125 0 ∧ FL t t') := by
  have hU := h.2.1.2.2.2.2.2.1
  have rm := fst1_rg (P := fun i => isMn F P t0 K U W i = true) U.length 0
  change mnI F P t0 K U W U.length = -1 ∨ _ ≤ mnI F P t0 K U W U.length ∧ mnI F P t0 K U W U.length < _ ∧ _ at rm
  obtain ⟨t1, a1, a2, a3⟩ := main_ok h
  have e69 : t1 121 69 = t 121 69 := a2 121 69 (by omega)
  have e70 : t1 121 70 = t 121 70 := a2 121 70 (by omega)
  rcases hb with ⟨b1, b2⟩ | ⟨b1, b2, b3, b4, b5⟩
  · refine Or.inr ?_
    by_cases c : mnI F P t0 K U W U.length = -1
    · refine Or.inl ⟨b1, c, up (up (up t1 121 69 7) 121 70 (t 121 3)) 121 4 (t 121 3), ?_, up_same _ _ _ _, fun c k q => by rw [up_ne (by omega), up_ne (by omega), up_ne (by omega), a2 c k (by omega)], by rw [up_ne (by omega), up_ne (by omega), up_ne (by omega), a2 121 71 (by omega)]⟩
      unfold m_load_86
      rw [a1, bq, e69, b2, gr (by omega), if_pos rfl, a3, gr (by omega), if_pos c, lt_eq, lt_eq, up_ne (show ¬ (121 = 121 ∧ 3 = 69) by omega), a2 121 3 (by omega)]
      unfold m_load_119
      have z : up (up (up t1 121 69 7) 121 70 (t 121 3)) 121 4 (t 121 3) 121 69 = 7 := by rw [up_ne (by omega), up_ne (by omega), up_same]
      rw [lt_eq, up_same, z, gr (by omega), if_neg (by omega)]
    · refine Or.inr ⟨b1, c, up (up (up (up t1 121 4 (t 121 70)) 121 4 (-1)) 121 71 1) 121 74 (t 125 0), ?_, by rw [up_ne (by omega), up_ne (by omega), up_same], by rw [up_ne (by omega), up_same], by rw [up_ne (by omega), up_ne (by omega), up_ne (by omega), up_ne (by omega)]; exact a3, up_same _ _ _ _, fun c k q => by rw [up_ne (by omega), up_ne (by omega), up_ne (by omega), up_ne (by omega), a2 c k (by omega)]⟩
      unfold m_load_86
      rw [a1, bq, e69, b2, gr (by omega), if_pos rfl, a3, gr (by omega), if_neg c]
      unfold m_load_119
      have z : up t1 121 4 (t 121 70) 121 69 = 0 := by rw [up_ne (by omega), e69, b2]
      have z5 : up (up (up t1 121 4 (t 121 70)) 121 4 (-1)) 121 71 1 125 0 = t 125 0 := by rw [up_ne (by omega), up_ne (by omega), up_ne (by omega), a2 125 0 (by omega)]
      rw [lt_eq, e70, z, gr (by omega), if_pos (by omega), lt_eq, lt_eq, lt_eq, z5]
  · refine Or.inl ⟨b1, up t1 121 4 (t 121 70), ?_, by rw [up_same, b3], fun c k q => by rw [up_ne (by omega), a2 c k (by omega)], by rw [up_ne (by omega), a2 121 71 (by omega)]⟩
    unfold m_load_86
    rw [a1, bq, e69, b2, gr (by omega), if_neg (by omega)]
    unfold m_load_119
    have z : up t1 121 4 (t 121 70) 121 69 = ((kMn L % 16 : Nat) : Int) := by rw [up_ne (by omega), e69, b2]
    rw [lt_eq, e70, z, gr (by omega), if_neg (by omega)]
/-- the class's end -/
theorem x54_0 (h : TKR 0 F n N P s0 t0) (hs : SC s0 s) (h13 : s 2 13 = 0) (h14 : s 2 14 = -1) : x_load_54 s = some (0, up (up s 0 3 1) 0 2 (-1)) := by
  have h8 : s 2 8 = (N : Int) := by rw [hs.2.2.2.2.2.2.1]; exact h.2.2.2.1
  have hN := N1001 h
  have e1 : up s 0 3 1 2 14 = -1 := by rw [up_ne (by omega)]; exact h14
  have e2 : up (up s 0 3 1) 0 2 (-1) 2 13 = 0 := by rw [up_ne (by omega), up_ne (by omega)]; exact h13
  unfold x_load_54 x_load_70
  rw [h13, gr (by omega), if_pos rfl, gd_pos (Or.inr rfl), lt_eq, e1]
  unfold tok_placeOf
  rw [gr (by omega), if_pos (by omega), bq, lt_eq, e2]
theorem x54_f {f : Int} {u : Nat} (h : TKR 0 F n N P s0 t0) (hs : SC s0 s) (h13 : s 2 13 = f) (hf : 0 < f ∧ f < 100) (h14 : s 2 14 = (u : Int)) (hu : u < N) : x_load_54 s = some (f, up (up s 0 3 0) 0 2 (P u : Int)) := by
  have hN := N1001 h
  have e1 : up s 0 3 0 2 14 = (u : Int) := by rw [up_ne (by omega)]; exact h14
  have e2 : up (up s 0 3 0) 0 2 (P u : Int) 2 13 = f := by rw [up_ne (by omega), up_ne (by omega)]; exact h13
  unfold x_load_54 x_load_70
  rw [h13, gr (by omega), if_neg (by omega), gd_pos (Or.inl rfl), lt_eq, e1, cPo h (SC_up hs (by omega)) hu, bq, lt_eq, e2]
end LDa
