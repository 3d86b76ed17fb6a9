/-! go -/
theorem m_one_ok {s : iS} {w : Int} (hn : 0 ≤ s 121 120 ∧ s 121 120 < 2000) (ew : s 189 (s 121 120).toNat = w) (hw : 0 ≤ w ∧ w < 32768 ∨ 57344 ≤ w ∧ w < 65536) : ∃ s', m_oneCode s = some (0, s') ∧ s' 121 118 = ni_a w (s 121 118) (s 121 119) (s 194) ∧ s' 121 119 = ni_d w (s 121 118) (s 121 119) (s 194) ∧ s' 121 120 = ni_n w (s 121 118) (s 121 119) (s 121 120) (s 194) ∧ s' 121 121 = s 121 121 + 1 ∧ s' 194 = ni_s w (s 121 118) (s 121 119) (s 194) := by
  unfold m_oneCode ni_a ni_d ni_n ni_s
  rw [gd_pos hn, ew]
  have ha : up (up s 121 120 (s 121 120 + 1)) 121 121 (up s 121 120 (s 121 120 + 1) 121 121 + 1) 121 118 = s 121 118 := by simp [up_at]
  have hd : up (up s 121 120 (s 121 120 + 1)) 121 121 (up s 121 120 (s 121 120 + 1) 121 121 + 1) 121 119 = s 121 119 := by simp [up_at]
  have hs : up (up s 121 120 (s 121 120 + 1)) 121 121 (up s 121 120 (s 121 120 + 1) 121 121 + 1) 194 = s 194 := by funext i; simp [up_at]
  have hN : up (up s 121 120 (s 121 120 + 1)) 121 121 (up s 121 120 (s 121 120 + 1) 121 121 + 1) 121 120 = s 121 120 + 1 := by simp [up_at]
  have hD : up (up s 121 120 (s 121 120 + 1)) 121 121 (up s 121 120 (s 121 120 + 1) 121 121 + 1) 121 121 = s 121 121 + 1 := by simp [up_at]
  simp only [lt_eq]
  generalize up (up s 121 120 (s 121 120 + 1)) 121 121 (up s 121 120 (s 121 120 + 1) 121 121 + 1) = s3 at ha hd hs hN hD ⊢
  rw [gd_pos (show rg w from ⟨by omega, by omega⟩)]
  by_cases h : 57344 ≤ w
  · rw [if_pos (show (32768 : Int) ≤ w by omega)]
    simp only [if_pos h]
    rw [gd_pos (i_and_rg _ _), gd_pos (a15 _), m_o83 (a15 _), m_o83 (a15 _), alu_63, alu_63]
    have e : (if i_and w 4096 = 0 then some ((0 : Int), cu (i_and w (wy (alu (i_shr w 6) (s3 121 119) (s3 121 118))) = 0) (cu (i_and w 16 = 0) (cu (i_and w 32 = 0) (cu (i_and w 8 = 0) s3 194 (i_and (s3 121 118) 32767).toNat (alu (i_shr w 6) (s3 121 119) (s3 121 118))) 121 118 (alu (i_shr w 6) (s3 121 119) (s3 121 118))) 121 119 (alu (i_shr w 6) (s3 121 119) (s3 121 118))) 121 120 (i_and (s3 121 118) 32767)) else some (0, cu (i_and w (wy (alu (i_shr w 6) (s3 121 119) (s3 194 (i_and (s3 121 118) 32767).toNat))) = 0) (cu (i_and w 16 = 0) (cu (i_and w 32 = 0) (cu (i_and w 8 = 0) s3 194 (i_and (s3 121 118) 32767).toNat (alu (i_shr w 6) (s3 121 119) (s3 194 (i_and (s3 121 118) 32767).toNat))) 121 118 (alu (i_shr w 6) (s3 121 119) (s3 194 (i_and (s3 121 118) 32767).toNat))) 121 119 (alu (i_shr w 6) (s3 121 119) (s3 194 (i_and (s3 121 118) 32767).toNat))) 121 120 (i_and (s3 121 118) 32767)))
        = some ((0 : Int), cu (i_and w (wy (ni_v w (s3 121 118) (s3 121 119) (s3 194))) = 0) (cu (i_and w 16 = 0) (cu (i_and w 32 = 0) (cu (i_and w 8 = 0) s3 194 (i_and (s3 121 118) 32767).toNat (ni_v w (s3 121 118) (s3 121 119) (s3 194))) 121 118 (ni_v w (s3 121 118) (s3 121 119) (s3 194))) 121 119 (ni_v w (s3 121 118) (s3 121 119) (s3 194))) 121 120 (i_and (s3 121 118) 32767)) := by
      by_cases h4 : i_and w 4096 = 0
      · rw [if_pos h4, show ni_v w (s3 121 118) (s3 121 119) (s3 194) = alu (i_shr w 6) (s3 121 119) (s3 121 118) by unfold ni_v; rw [if_pos h4]]
      · rw [if_neg h4, show ni_v w (s3 121 118) (s3 121 119) (s3 194) = alu (i_shr w 6) (s3 121 119) (s3 194 (i_and (s3 121 118) 32767).toNat) by unfold ni_v; rw [if_neg h4]]
    rw [e]
    refine ⟨_, rfl, ?_, ?_, ?_, ?_, ?_⟩
    · by_cases h8 : i_and w 32 = 0 <;> simp [cu_at, ha, hd, hs, h8]
    · by_cases h8 : i_and w 16 = 0 <;> simp [cu_at, ha, hd, hs, h8]
    · by_cases h8 : i_and w (wy (ni_v w (s 121 118) (s 121 119) (s 194))) = 0 <;> simp [cu_at, ha, hd, hs, hN, h8]
    · simp [cu_at, hD]
    · funext i
      by_cases h8 : i_and w 8 = 0 <;> simp [cu_at, u1, ha, hd, hs, h8]
  · rw [if_neg (show ¬ (32768 : Int) ≤ w by omega)]
    simp only [if_neg h]
    refine ⟨_, rfl, ?_, ?_, ?_, ?_, ?_⟩
    · exact up_same _ _ _ _
    · simp [up_at, hd]
    · simp [up_at, hN]
    · simp [up_at, hD]
    · rw [up_cell (by decide), hs]
theorem ni_rg {w a d n : Int} {st : Nat → Int} (hw : 0 ≤ w ∧ w < 32768 ∨ 57344 ≤ w ∧ w < 65536) (ha : -32768 ≤ a ∧ a < 32768) (hd : -32768 ≤ d ∧ d < 32768) (hn : 0 ≤ n ∧ n < 1500) (hs : ∀ i, -32768 ≤ st i ∧ st i < 32768) : (-32768 ≤ ni_a w a d st ∧ ni_a w a d st < 32768) ∧ (-32768 ≤ ni_d w a d st ∧ ni_d w a d st < 32768) ∧ (0 ≤ ni_n w a d n st ∧ ni_n w a d n st < 32768) ∧ ∀ i, -32768 ≤ ni_s w a d st i ∧ ni_s w a d st i < 32768 := by
  have hv : -32768 ≤ ni_v w a d st ∧ ni_v w a d st < 32768 := alu_rg
  have h15 := a15 a
  refine ⟨?_, ?_, ?_, fun i => ?_⟩
  · unfold ni_a
    split
    · split <;> omega
    · omega
  · unfold ni_d
    split
    · split <;> omega
    · omega
  · unfold ni_n
    split
    · split <;> omega
    · omega
  · unfold ni_s
    split
    · split
      · exact hs i
      · unfold u1
        split
        · exact hv
        · exact hs i
    · exact hs i
theorem go_ok (B a : Int) (ha : rg a) (s t : iS) (h : QR B (mx s t)) (hw : QW (mx s t)) : ∃ r s' t', x_go a s = some (r, s') ∧ m_go_436 a t = some (r, t') ∧ rg r ∧ QR (B + 20000) (mx s' t') := by
  have h' : RRv B (s 55 9) (s 55 10) (s 55 11) (s 55 12) (s 70) (t 121 118) (t 121 119) (t 121 120) (t 121 121) (t 194) := h
  have hw' : RWv (s 55 8) (s 65 2) (s 69) (t 121 110) (t 121 112) (t 189) := hw
  obtain ⟨e1, e2, e3, e4, e5, e6, e7, e8, e9⟩ := h'
  obtain ⟨w1, w2, w3, w4, w5⟩ := hw'
  have triv : QR (B + 20000) (mx s t) := by
    show RRv (B + 20000) (s 55 9) (s 55 10) (s 55 11) (s 55 12) (s 70) (t 121 118) (t 121 119) (t 121 120) (t 121 121) (t 194)
    exact ⟨e1, e2, e3, e4, e5, e6, e7, ⟨e8.1, by omega⟩, e9⟩
  unfold x_go m_go_436
  rw [gd_pos ha, gd_pos ha]
  by_cases h0 : a < 0
  · rw [if_pos h0, if_pos h0]
    exact ⟨-1, s, t, rfl, rfl, by decide, triv⟩
  rw [if_neg h0, if_neg h0]
  by_cases h1 : 20000 < a
  · rw [if_pos h1, if_neg (by omega)]
    exact ⟨-1, s, t, rfl, rfl, by decide, triv⟩
  rw [if_neg h1, if_pos (by omega)]
  unfold pro_execute pro_execute_2 m_go_436_15
  let I : Int × iS → Int × iS → Prop := fun p q => p.1 = q.1 ∧ (0 ≤ p.1 ∧ p.1 ≤ a) ∧ md L_pro_doInstruction G_pro_doInstruction s p.2 ∧ md L_m_oneCode G_m_oneCode t q.2 ∧ p.2 55 9 = q.2 121 118 ∧ p.2 55 10 = q.2 121 119 ∧ p.2 55 11 = q.2 121 120 ∧ p.2 55 12 + p.1 = q.2 121 121 ∧ (-32768 ≤ p.2 55 9 ∧ p.2 55 9 < 32768) ∧ (-32768 ≤ p.2 55 10 ∧ p.2 55 10 < 32768) ∧ (0 ≤ p.2 55 11 ∧ p.2 55 11 < 32768) ∧ (∀ i, p.2 70 i = q.2 194 i ∧ -32768 ≤ p.2 70 i ∧ p.2 70 i < 32768)
  have hI : I (0, s) (0, t) := ⟨rfl, ⟨by omega, by omega⟩, md_refl, md_refl, e1, e2, e3, by show s 55 12 + 0 = t 121 121; omega, e5, e6, e7, e9⟩
  obtain ⟨x, y, hx, hy, hxy⟩ := lpp (f := fun l : Int × iS => pro_execute_2b a l.1 l.2) (g := fun l : Int × iS => m_go_436_15b a l.1 l.2) I I (fun p => (a - p.1).toNat) (by
    rintro ⟨p, u⟩ ⟨q, v⟩ ⟨i1, i2, i3, i4, i5, i6, i7, i8, i9, i10, i11, i12⟩
    simp only at i1 i2 i3 i4 i5 i6 i7 i8 i9 i10 i11 i12
    subst i1
    have z1 : u 55 8 = s 55 8 := i3 55 8 (by decide) (by decide)
    have z2 : v 121 110 = t 121 110 := i4 121 110 (by decide) (by decide)
    have z3 : u 69 = s 69 := md_row i3 (by decide) (by decide)
    have z4 : v 189 = t 189 := md_row i4 (by decide) (by decide)
    have z5 : u 55 12 = s 55 12 := i3 55 12 (by decide) (by decide)
    simp only [pro_execute_2b, m_go_436_15b]
    rw [gd_pos (show rg p from ⟨by omega, by omega⟩), gd_pos ha, gd_pos (show rg p from ⟨by omega, by omega⟩), gd_pos ha]
    by_cases c1 : a ≤ p
    · right
      refine ⟨(p, u), (p, v), ?_, ?_, rfl, i2, i3, i4, i5, i6, i7, i8, i9, i10, i11, i12⟩
      · rw [if_pos c1]
      · rw [if_pos c1]
    rw [if_neg c1, if_neg c1, gd_pos (show rg (u 55 11) from ⟨by omega, by omega⟩), if_neg (show ¬ u 55 11 < 0 by omega), gd_pos (show rg (u 55 8) from ⟨by omega, by omega⟩), gd_pos (show rg (v 121 120) from ⟨by omega, by omega⟩), gd_pos (show rg (v 121 110) from ⟨by omega, by omega⟩)]
    by_cases c2 : u 55 8 ≤ u 55 11
    · right
      refine ⟨(p, u), (p, v), ?_, ?_, rfl, i2, i3, i4, i5, i6, i7, i8, i9, i10, i11, i12⟩
      · rw [if_pos c2]
      · rw [if_pos (show v 121 110 ≤ v 121 120 by omega)]
    left
    rw [if_neg c2, if_neg (show ¬ v 121 110 ≤ v 121 120 by omega), gd_pos (show 0 ≤ u 55 11 ∧ u 55 11 < 1500 by omega)]
    obtain ⟨k1, k2⟩ := w5 (u 55 11).toNat (by omega)
    obtain ⟨u', hu, a1, a2, a3, a4⟩ := pro_do_ok (w := u 69 (u 55 11).toNat) (s := u) (by rw [z3]; exact ⟨by omega, by omega⟩)
    obtain ⟨v', hv, b1, b2, b3, b4, b5⟩ := m_one_ok (s := v) (w := u 69 (u 55 11).toNat) (by omega) (by rw [z4, ← i7, z3, k1]) (by rw [z3]; exact k2)
    have st : u 70 = v 194 := funext fun i => (i12 i).1
    have ng := ni_rg (w := u 69 (u 55 11).toNat) (a := u 55 9) (d := u 55 10) (n := u 55 11) (st := u 70) (by rw [z3]; exact k2) i9 i10 (by omega) (fun i => (i12 i).2)
    refine ⟨(p + 1, u'), (p + 1, v'), by rw [hu, bd_some], by rw [hv, bd_some], ⟨rfl, ⟨by show 0 ≤ p + 1; omega, by show p + 1 ≤ a; omega⟩, md_trans i3 (fpro_doInstruction _ _ (0, u') hu), md_trans i4 (fm_oneCode _ (0, v') hv), ?_, ?_, ?_, ?_, ?_, ?_, ?_, ?_⟩, ?_⟩
    · show u' 55 9 = v' 121 118
      rw [a1, b1, i5, i6, st]
    · show u' 55 10 = v' 121 119
      rw [a2, b2, i5, i6, st]
    · show u' 55 11 = v' 121 120
      rw [a3, b3, i5, i6, i7, st]
    · show u' 55 12 + (p + 1) = v' 121 121
      rw [b4, ← i8]
      have : u' 55 12 = u 55 12 := fpro_doInstruction _ _ (0, u') hu 55 12 (by decide) (by decide)
      omega
    · show -32768 ≤ u' 55 9 ∧ u' 55 9 < 32768
      rw [a1]; exact ng.1
    · show -32768 ≤ u' 55 10 ∧ u' 55 10 < 32768
      rw [a2]; exact ng.2.1
    · show 0 ≤ u' 55 11 ∧ u' 55 11 < 32768
      rw [a3]; exact ng.2.2.1
    · intro i
      show u' 70 i = v' 194 i ∧ -32768 ≤ u' 70 i ∧ u' 70 i < 32768
      rw [a4, b5, i5, i6, ← st]
      refine ⟨rfl, ?_⟩
      rw [← i5, ← i6]
      exact ng.2.2.2 i
    · show (a - (p + 1)).toNat < (a - p).toNat
      omega) hI
  obtain ⟨i1, i2, i3, i4, i5, i6, i7, i8, i9, i10, i11, i12⟩ := hxy
  rw [hx, hy]
  have z5 : x.2 55 12 = s 55 12 := i3 55 12 (by decide) (by decide)
  refine ⟨x.1, up x.2 55 12 (x.2 55 12 + x.1), y.2, rfl, by rw [i1]; rfl, ⟨by omega, by omega⟩, ?_⟩
  show RRv (B + 20000) (up x.2 55 12 (x.2 55 12 + x.1) 55 9) (up x.2 55 12 (x.2 55 12 + x.1) 55 10) (up x.2 55 12 (x.2 55 12 + x.1) 55 11) (up x.2 55 12 (x.2 55 12 + x.1) 55 12) (up x.2 55 12 (x.2 55 12 + x.1) 70) (y.2 121 118) (y.2 121 119) (y.2 121 120) (y.2 121 121) (y.2 194)
  rw [up_ne (by omega), up_ne (by omega), up_ne (by omega), up_same, up_cell (by decide)]
  exact ⟨i5, i6, i7, i8, i9, i10, i11, ⟨by omega, by omega⟩, i12⟩
