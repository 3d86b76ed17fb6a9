/-! the processor's words; its registers and store. B: a bound for what has been done -/
def RWv (sz sy : Int) (w : Nat → Int) (sz' sy' : Int) (w' : Nat → Int) : Prop := sz = sz' ∧ sy = sy' + 23 ∧ (0 ≤ sz ∧ sz ≤ 1500) ∧ (0 ≤ sy' ∧ sy' ≤ 100) ∧ (∀ i : Nat, (i : Int) < sz → w i = w' i ∧ (0 ≤ w i ∧ w i < 32768 ∨ 57344 ≤ w i ∧ w i < 65536))
def QW (s : iS) : Prop := RWv (s 55 8) (s 65 2) (s 69) (s 121 110) (s 121 112) (s 189)
def RRv (B a d nx dn : Int) (st : Nat → Int) (a' d' nx' dn' : Int) (st' : Nat → Int) : Prop := a = a' ∧ d = d' ∧ nx = nx' ∧ dn = dn' ∧ (-32768 ≤ a ∧ a < 32768) ∧ (-32768 ≤ d ∧ d < 32768) ∧ (0 ≤ nx ∧ nx < 32768) ∧ (0 ≤ dn ∧ dn ≤ B) ∧ (∀ i, st i = st' i ∧ -32768 ≤ st i ∧ st i < 32768)
def QR (B : Int) (s : iS) : Prop := RRv B (s 55 9) (s 55 10) (s 55 11) (s 55 12) (s 70) (s 121 118) (s 121 119) (s 121 120) (s 121 121) (s 194)
theorem QW_on : on [69, 189] [(55, 8), (65, 2), (121, 110), (121, 112)] QW := by
  intro s s' hD hE h
  unfold QW at h ⊢
  rw [hD 69 (by decide), hD 189 (by decide), hE (55, 8) (by decide), hE (65, 2) (by decide), hE (121, 110) (by decide), hE (121, 112) (by decide)]
  exact h
theorem QR_on (B : Int) : on [70, 194] [(55, 9), (55, 10), (55, 11), (55, 12), (121, 118), (121, 119), (121, 120), (121, 121)] (QR B) := by
  intro s s' hD hE h
  unfold QR at h ⊢
  rw [hD 70 (by decide), hD 194 (by decide), hE (55, 9) (by decide), hE (55, 10) (by decide), hE (55, 11) (by decide), hE (55, 12) (by decide), hE (121, 118) (by decide), hE (121, 119) (by decide), hE (121, 120) (by decide), hE (121, 121) (by decide)]
  exact h
theorem set_ok (B a v : Int) (ha : rg a) (s t : iS) (h : QR B (mx s t)) : ∃ r s' t', x_set a v s = some (r, s') ∧ m_set a v t = some (r, t') ∧ b01 r ∧ QR B (mx s' t') := by
  have h' : RRv B (s 55 9) (s 55 10) (s 55 11) (s 55 12) (s 70) (t 121 118) (t 121 119) (t 121 120) (t 121 121) (t 194) := h
  unfold x_set m_set pro_isAddress
  rw [gd_pos ha, gd_pos ha]
  by_cases h0 : a < 0
  · rw [if_pos h0, if_pos h0, bd_some, gd_pos (by decide), if_pos rfl]
    exact ⟨0, s, t, rfl, rfl, Or.inl rfl, h⟩
  · rw [if_neg h0, if_neg h0]
    by_cases h1 : 32768 ≤ a
    · rw [if_pos h1, if_neg (by omega), bd_some, gd_pos (by decide), if_pos rfl]
      exact ⟨0, s, t, rfl, rfl, Or.inl rfl, h⟩
    · rw [if_neg h1, if_pos (by omega), bd_some, gd_pos (by decide), if_neg (by decide), gd_pos (by omega), gd_pos (by omega)]
      refine ⟨1, up s 70 a.toNat (i_s v), up t 194 a.toNat (i_s v), rfl, rfl, Or.inr rfl, ?_⟩
      show RRv B (s 55 9) (s 55 10) (s 55 11) (s 55 12) (up s 70 a.toNat (i_s v) 70) (t 121 118) (t 121 119) (t 121 120) (t 121 121) (up t 194 a.toNat (i_s v) 194)
      obtain ⟨e1, e2, e3, e4, e5, e6, e7, e8, e9⟩ := h'
      refine ⟨e1, e2, e3, e4, e5, e6, e7, e8, fun i => ?_⟩
      simp only [up_at, true_and]
      split
      · exact ⟨rfl, i_s_rg v⟩
      · exact e9 i
theorem store_ok (B a : Int) (ha : rg a) (s t : iS) (h : QR B (mx s t)) : ∃ r s' t', x_store a s = some (r, s') ∧ m_store a t = some (r, t') ∧ rg r ∧ QR B (mx s' t') := by
  have h' : RRv B (s 55 9) (s 55 10) (s 55 11) (s 55 12) (s 70) (t 121 118) (t 121 119) (t 121 120) (t 121 121) (t 194) := h
  unfold x_store m_store pro_isAddress
  rw [gd_pos ha, gd_pos ha]
  by_cases h0 : a < 0
  · rw [if_pos h0, if_pos h0, bd_some, gd_pos (by decide), if_pos rfl]
    exact ⟨100000, s, t, rfl, rfl, by decide, h⟩
  · rw [if_neg h0, if_neg h0]
    by_cases h1 : 32768 ≤ a
    · rw [if_pos h1, if_neg (by omega), bd_some, gd_pos (by decide), if_pos rfl]
      exact ⟨100000, s, t, rfl, rfl, by decide, h⟩
    · rw [if_neg h1, if_pos (by omega), bd_some, gd_pos (by decide), if_neg (by decide), gd_pos (by omega), gd_pos (by omega)]
      have e9 := h'.2.2.2.2.2.2.2.2 a.toNat
      refine ⟨s 70 a.toNat, s, t, rfl, by rw [e9.1], ⟨by omega, by omega⟩, h⟩
theorem register_ok (B a : Int) (hB : B < 2147483648) (ha : rg a) (s t : iS) (h : QR B (mx s t)) (hw : QW (mx s t)) : ∃ r, x_register a s = some (r, s) ∧ m_register a t = some (r, t) ∧ rg r := by
  have h' : RRv B (s 55 9) (s 55 10) (s 55 11) (s 55 12) (s 70) (t 121 118) (t 121 119) (t 121 120) (t 121 121) (t 194) := h
  have hw' : RWv (s 55 8) (s 65 2) (s 69) (t 121 110) (t 121 112) (t 189) := hw
  obtain ⟨e1, e2, e3, e4, e5, e6, e7, e8, e9⟩ := h'
  obtain ⟨w1, w2, w3, w4, w5⟩ := hw'
  unfold x_register m_register pro_ownSymbols
  rw [gd_pos ha, gd_pos ha]
  simp only [bd_some]
  by_cases h0 : a = 0
  · rw [if_pos h0, if_pos h0, e1]
    exact ⟨_, rfl, rfl, by omega, by omega⟩
  rw [if_neg h0, if_neg h0]
  by_cases h1 : a = 1
  · rw [if_pos h1, if_pos h1, e2]
    exact ⟨_, rfl, rfl, by omega, by omega⟩
  rw [if_neg h1, if_neg h1]
  by_cases h2 : a = 2
  · rw [if_pos h2, if_pos h2, e3]
    exact ⟨_, rfl, rfl, by omega, by omega⟩
  rw [if_neg h2, if_neg h2]
  by_cases h3 : a = 3
  · rw [if_pos h3, if_pos h3, w1]
    exact ⟨_, rfl, rfl, by omega, by omega⟩
  rw [if_neg h3, if_neg h3]
  by_cases h4 : a = 4
  · rw [if_pos h4, if_pos h4, e4]
    exact ⟨_, rfl, rfl, by omega, by omega⟩
  rw [if_neg h4, if_neg h4]
  by_cases h5 : a = 5
  · rw [if_pos h5, if_pos h5, w2]
    exact ⟨t 121 112, by congr 2; omega, rfl, by omega, by omega⟩
  rw [if_neg h5, if_neg h5]
  exact ⟨0, rfl, rfl, by decide⟩
theorem code_ok (a : Int) (ha : rg a) (s t : iS) (hw : QW (mx s t)) : ∃ r, x_code a s = some (r, s) ∧ m_code a t = some (r, t) ∧ rg r := by
  have hw' : RWv (s 55 8) (s 65 2) (s 69) (t 121 110) (t 121 112) (t 189) := hw
  obtain ⟨w1, w2, w3, w4, w5⟩ := hw'
  unfold x_code m_code
  rw [gd_pos ha, gd_pos ha]
  by_cases h0 : a < 0
  · rw [if_pos h0, if_pos h0]
    exact ⟨-1, rfl, rfl, by decide⟩
  rw [if_neg h0, if_neg h0, gd_pos (show rg (s 55 8) from ⟨by omega, by omega⟩), ← w1, gd_pos (show rg (s 55 8) from ⟨by omega, by omega⟩)]
  by_cases h1 : s 55 8 ≤ a
  · rw [if_pos h1, if_neg (by omega)]
    exact ⟨-1, rfl, rfl, by decide⟩
  · rw [if_neg h1, if_pos (by omega), gd_pos (by omega), gd_pos (by omega)]
    have := w5 a.toNat (by omega)
    exact ⟨s 69 a.toNat, rfl, by rw [this.1], by omega, by omega⟩
