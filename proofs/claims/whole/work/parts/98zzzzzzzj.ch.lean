/-! chips: the check of both, up to the rings -/
section CJh
variable {F : Nat → Int} {n N : Nat} {P : Nat → Nat} {s0 t0 s t s' t' : iS} {C : List chR} {O E I : List Nat} {Q : List (Nat × Int)} {R L : List (Nat × Nat)}
theorem chk_chs (h : TKH F n N P s0 t0) (hs : KHS F P s0 t0 N C O Q R L E I) (hc : KC F P s0 t0 C O Q R L E s) (hr : KR s0 t0 C Q R L I t) (hb : BLc [] s) (hB : RBc P N [] t) (hw : KW s0 C Q R I 0 s) (hO : KO s0 C Q R I 0 s) (h99 : 0 ≤ s 99 2 ∧ s 99 2 ≤ 100) : ∃ s' t' A' B', cck_check s = cck_check_110 s' ∧ bd (m_checkPins t) (fun _ t1 => m_chips_58 0 t1) = m_chips_82 t' ∧ KC F P s0 t0 C O Q R L E s' ∧ KW s0 C Q R I Q.length s' ∧ (0 ≤ s' 99 2 ∧ s' 99 2 ≤ 100) ∧ BLc A' s' ∧ DOM A' B' ∧ RBc P N B' t' ∧ KR s0 t0 C Q R L I t' ∧ CKD F P s0 t0 C O Q R L E I C.length s' t' ∧ (A' = [] → LKA F P s0 t0 C O Q R L E I C.length s') ∧ (∀ c' k, ¬ (c' = 2 ∧ (k = 13 ∨ k = 14)) → ¬ (91 ≤ c' ∧ c' ≤ 106) → s' c' k = s c' k) ∧ (∀ c' k, ¬ (c' = 121 ∧ (k = 69 ∨ k = 70)) → ¬ (214 ≤ c' ∧ c' ≤ 218) → t' c' k = t c' k) ∧ KO s0 C Q R I 0 s' ∧ (∀ k ∈ A', k < 100000) := by
  have k0 : (hAt C Q R I 0).2.1 = 0 := by rw [KHS_0 hs]
  obtain ⟨s1, a1, a2, a3, a4, a5, a6⟩ := c_chips h.1 hs C.length 0 s (by omega) hc hb (by rw [k0]; exact hw) hO
  obtain ⟨t1, b1, b2, b3⟩ := r_chips h hs C.length 0 t (by omega) hr hB
  have hr1 : KR s0 t0 C Q R L I t1 := KR_of hr (fun c' k y => b3 c' k (by omega))
  obtain ⟨s', t', A', B', e1, e2, e3, e4, e5, e6, e7, e8, e9, e10, e11, e12, e13, e14, e15⟩ := chk_lp h hs C.length 0 s1 t1 _ _ (by omega) a2 a4 (fun i _ i2 => a5 (2 + i) (by omega)) (by rw [a6 99 2 (by omega) (by omega) (by omega) (by omega)]; exact h99) a3 (DOM_refl _) b2 hr1 (fun x hx => absurd hx (Nat.not_lt_zero x)) (fun _ x hx => absurd hx (Nat.not_lt_zero x)) (nCs_lt h hs C.length (Nat.le_refl _))
  refine ⟨s', t', A', B', ?_, ?_, e3, e4, e5, e6, e7, e8, e9, e10, e11, fun c' k q1 q2 => by rw [e12 c' k q1 (by omega), a6 c' k (by omega) (by omega) (by omega) q1], fun c' k q1 q2 => by rw [e13 c' k q1 q2, b3 c' k q1], fun i hi => by rw [e14 i (by omega)]; exact a5 i (by omega), e15⟩
  · rw [← e1]
    exact a1
  · rw [← e2]
    have b1' : m_checkPins t = some (0, t1) := b1
    rw [b1', bq]
    rfl
end CJh
