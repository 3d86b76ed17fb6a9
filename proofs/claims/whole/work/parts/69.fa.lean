/-! row, word, count, command, place, error -/
def sm (f : Nat → Int) : Nat → Int
  | 0 => 0
  | n + 1 => sm f n + f n
/-- the words of the memory, and the error -/
def RMv (er er' : Int) (w w' : Nat → Int) : Prop := er = er' ∧ rg er ∧ (∀ i : Nat, i < 12288 → w i = w' (2048 + i)) ∧ (∀ k : Nat, k < 128 → w (12288 + k) = w' (16384 + k)) ∧ (∀ i, -32768 ≤ w i ∧ w i < 32768)
def QM (s : iS) : Prop := RMv (s 44 6) (s 121 100) (s 45) (s 175)
theorem QM_on : on [45, 175] [(44, 6), (121, 100)] QM := by
  intro s s' hD hE h
  unfold QM at h ⊢
  rw [hD 45 (by decide), hD 175 (by decide), hE (44, 6) (by decide), hE (121, 100) (by decide)]
  exact h
theorem row_ok (y : Int) (hy : rg y) (s t : iS) (h : QM (mx s t)) : ∃ r, x_row y s = some (r, s) ∧ m_row y t = some (r, t) := by
  have h' : RMv (s 44 6) (t 121 100) (s 45) (t 175) := h
  obtain ⟨e1, e2, e3, e4, e5⟩ := h'
  unfold x_row mem_screenRow m_row
  rw [gd_pos hy, gd_pos hy]
  by_cases c0 : y < 0
  · rw [if_pos c0, if_pos c0]
    exact ⟨0, rfl, rfl⟩
  rw [if_neg c0, if_neg c0]
  by_cases c1 : y < 32
  · rw [if_pos c1, if_pos (by omega)]
    unfold mem_screenRow_17 m_row_17
    obtain ⟨x, z, hx, hz, r1, r2, r3⟩ := lpp (f := fun l : Int × Int × iS => mem_screenRow_17b y (l.1) (l.2.1) (l.2.2)) (g := fun l : Int × Int × iS => m_row_17b y (l.1) (l.2.1) (l.2.2)) (fun p q => p.1 = q.1 ∧ p.2.1 = q.2.1 ∧ (-1 ≤ p.2.1 ∧ p.2.1 ≤ 3) ∧ s = p.2.2 ∧ t = q.2.2) (fun x y => x.1 = y.1 ∧ s = x.2 ∧ t = y.2) (fun p => (p.2.1 + 1).toNat) (by
      rintro ⟨p, k, u⟩ ⟨p', k', v⟩ ⟨i1, i2, i3, i4, i5⟩
      simp only at i1 i2 i3 i4 i5
      subst i1 i2 i4 i5
      simp only [mem_screenRow_17b, m_row_17b]
      rw [gd_pos (show rg k from ⟨by omega, by omega⟩), gd_pos (show rg k from ⟨by omega, by omega⟩)]
      by_cases c : k < 0
      · right
        refine ⟨(p, s), (p, t), ?_, ?_, rfl, rfl, rfl⟩
        · rw [if_pos c]
        · rw [if_pos c]
      left
      have q := e4 (4 * y + k).toNat (by omega)
      have q2 : s 45 (12288 + 4 * y + k).toNat = t 175 (16384 + 4 * y + k).toNat := by rw [show (12288 + 4 * y + k).toNat = 12288 + (4 * y + k).toNat by omega, show (16384 + 4 * y + k).toNat = 16384 + (4 * y + k).toNat by omega, q]
      rw [if_neg c, if_neg c, gd_pos (show 0 ≤ 12288 + 4 * y + k ∧ 12288 + 4 * y + k < 12416 by omega), gd_pos (show 0 ≤ 16384 + 4 * y + k ∧ 16384 + 4 * y + k < 16512 by omega), gd_pos (i_and_rg _ _), gd_pos (i_and_rg _ _)]
      exact ⟨_, _, rfl, rfl, ⟨by simp only; rw [q2], rfl, ⟨by simp only; omega, by simp only; omega⟩, rfl, rfl⟩, by simp only; omega⟩) (a := (0, 3, s)) (b := (0, 3, t)) ⟨rfl, rfl, ⟨by show (-1 : Int) ≤ 3; omega, by show (3 : Int) ≤ 3; omega⟩, rfl, rfl⟩
    rw [hx, hz]
    obtain ⟨v, xs⟩ := x
    obtain ⟨v', ys⟩ := z
    simp only at r1 r2 r3
    subst r1 r2 r3
    exact ⟨v, rfl, rfl⟩
  · rw [if_neg c1, if_neg (by omega)]
    exact ⟨0, rfl, rfl⟩
theorem idx_ok {a : Int} (ha : rg a) (s : iS) : mem_indexOf a s = some (if 2048 ≤ a ∧ a < 14336 then a - 2048 else if 16384 ≤ a ∧ a < 16512 then a - 16384 + 12288 else -1, s) := by
  unfold mem_indexOf mem_indexOf_20
  rw [gd_pos ha, gd_pos ha]
  by_cases c0 : a < 2048
  · rw [if_pos c0, if_pos (by omega), if_neg (by omega), if_neg (by omega)]
  · rw [if_neg c0]
    by_cases c1 : 14336 ≤ a
    · rw [if_pos c1, if_neg (show ¬ (2048 ≤ a ∧ a < 14336) by omega)]
      by_cases c2 : a < 16384
      · rw [if_pos c2, if_neg (by omega)]
      · rw [if_neg c2]
        by_cases c3 : 16512 ≤ a
        · rw [if_pos c3, if_neg (by omega)]
        · rw [if_neg c3, if_pos (by omega)]
    · rw [if_neg c1, if_pos (by omega)]
theorem plc_ok {a : Int} (ha : rg a) (s : iS) : m_isPlace a s = some (if 2048 ≤ a ∧ a < 14336 ∨ 16384 ≤ a ∧ a < 16512 then 1 else 0, s) := by
  unfold m_isPlace m_isPlace_14
  rw [gd_pos ha, gd_pos ha]
  by_cases c0 : a < 2048
  · rw [if_pos c0, if_pos (by omega), if_neg (by omega)]
  · rw [if_neg c0]
    by_cases c1 : a ≤ 14335
    · rw [if_pos c1, if_pos (by omega)]
    · rw [if_neg c1]
      by_cases c2 : a < 16384
      · rw [if_pos c2, if_neg (by omega)]
      · rw [if_neg c2]
        by_cases c3 : 16511 < a
        · rw [if_pos c3, if_neg (by omega)]
        · rw [if_neg c3, if_pos (by omega)]
theorem word_ok (a : Int) (ha : rg a) (s t : iS) (h : QM (mx s t)) : ∃ r, x_word a s = some (r, s) ∧ m_word a t = some (r, t) ∧ rg r := by
  have h' : RMv (s 44 6) (t 121 100) (s 45) (t 175) := h
  obtain ⟨e1, e2, e3, e4, e5⟩ := h'
  unfold x_word mem_wordOr m_word
  rw [idx_ok ha, plc_ok ha, bd_some, bd_some]
  by_cases c0 : 2048 ≤ a ∧ a < 14336
  · rw [if_pos c0, if_pos (Or.inl c0), gd_pos (show rg (a - 2048) from ⟨by omega, by omega⟩), if_neg (by omega), gd_pos (by omega), bd_some, gd_pos (by decide), if_neg (by decide), gd_pos (by omega)]
    have q := e3 (a - 2048).toNat (by omega)
    rw [show 2048 + (a - 2048).toNat = a.toNat by omega] at q
    have q2 := e5 (a - 2048).toNat
    exact ⟨_, rfl, by rw [q], by omega, by omega⟩
  · rw [if_neg c0]
    by_cases c1 : 16384 ≤ a ∧ a < 16512
    · rw [if_pos c1, if_pos (Or.inr c1), gd_pos (show rg (a - 16384 + 12288) from ⟨by omega, by omega⟩), if_neg (by omega), gd_pos (by omega), bd_some, gd_pos (by decide), if_neg (by decide), gd_pos (by omega)]
      have q := e4 (a - 16384).toNat (by omega)
      rw [show 16384 + (a - 16384).toNat = a.toNat by omega, show 12288 + (a - 16384).toNat = (a - 16384 + 12288).toNat by omega] at q
      have q2 := e5 (a - 16384 + 12288).toNat
      exact ⟨_, rfl, by rw [q], by omega, by omega⟩
    · rw [if_neg c1, if_neg (show ¬ (2048 ≤ a ∧ a < 14336 ∨ 16384 ≤ a ∧ a < 16512) by omega)]
      exact ⟨100000, by rw [gd_pos (by decide), if_pos rfl]; rfl, by rw [gd_pos (by decide), if_pos rfl], by decide⟩
/-- how many blocks, and their words; the steps -/
def RNv (bl wb : Int) (bl' : Int) (mn' : Nat → Int) (st dp st' dp' : Int) : Prop := bl = bl' ∧ (0 ≤ bl ∧ bl ≤ 100) ∧ wb = sm mn' bl.toNat ∧ rg wb ∧ st = st' ∧ rg st ∧ dp = dp' ∧ rg dp
def QN (s : iS) : Prop := RNv (s 44 3) (s 44 4) (s 121 81) (s 177) (s 51 16) (s 51 17) (s 121 96) (s 121 89)
theorem QN_on : on [177] [(44, 3), (44, 4), (121, 81), (51, 16), (51, 17), (121, 96), (121, 89)] QN := by
  intro s s' hD hE h
  unfold QN at h ⊢
  rw [hD 177 (by decide), hE (44, 3) (by decide), hE (44, 4) (by decide), hE (121, 81) (by decide), hE (51, 16) (by decide), hE (51, 17) (by decide), hE (121, 96) (by decide), hE (121, 89) (by decide)]
  exact h
theorem m_count67_ok {t : iS} (h : 0 ≤ t 121 81 ∧ t 121 81 ≤ 100) : m_count_67 0 0 t = some (sm (t 177) (t 121 81).toNat, t) := by
  unfold m_count_67
  obtain ⟨e, he, h1, h2⟩ : Wp (lp (L := Int × Int × iS) (E := Int × iS) (fun l => m_count_67b (l.1) (l.2.1) (l.2.2)) (0, 0, t)) (fun e => e.1 = sm (t 177) (t 121 81).toNat ∧ e.2 = t) := by
    refine wp_lp (fun l : Int × Int × iS => (0 ≤ l.2.1 ∧ l.2.1 ≤ t 121 81) ∧ l.1 = sm (t 177) l.2.1.toNat ∧ l.2.2 = t) (fun l => (t 121 81 - l.2.1).toNat) ?_ ⟨⟨by simp only; omega, by simp only; omega⟩, rfl, rfl⟩
    rintro ⟨v, k, u⟩ ⟨i1, i2, i3⟩
    simp only at i1 i2 i3
    subst i3
    simp only [m_count_67b]
    rw [gd_pos (show rg k from ⟨by omega, by omega⟩), gd_pos (show rg (u 121 81) from ⟨by omega, by omega⟩), wp_ite]
    refine ⟨fun c => wp_some.mpr ⟨?_, rfl⟩, fun c => ?_⟩
    · simp only
      rw [i2, show k = u 121 81 by omega]
    · rw [gd_pos (by omega)]
      refine wp_some.mpr ⟨⟨⟨by simp only; omega, by simp only; omega⟩, ?_, rfl⟩, by simp only; omega⟩
      simp only
      rw [i2, show (k + 1).toNat = k.toNat + 1 by omega]
      rfl
  rw [he]
  obtain ⟨v, u⟩ := e
  simp only at h1 h2
  subst h1 h2
  rfl
/-- whether a program is there, and its commands -/
def RCv (ld sz ld' sz' : Int) (k f g k' f' g' : Nat → Int) : Prop := ld = ld' ∧ (ld = 0 ∨ ld = 1) ∧ (ld = 1 → sz = sz' ∧ (0 ≤ sz ∧ sz ≤ 3000) ∧ ∀ i : Nat, (i : Int) < sz → (k i = k' i ∧ rg (k i)) ∧ (f i = f' i ∧ rg (f i)) ∧ (g i = g' i ∧ rg (g i)))
def QC (s : iS) : Prop := RCv (s 0 3) (s 14 8) (s 121 71) (s 121 76) (s 15) (s 16) (s 17) (s 172) (s 173) (s 174)
theorem QC_on : on [15, 16, 17, 172, 173, 174] [(0, 3), (14, 8), (121, 71), (121, 76)] QC := by
  intro s s' hD hE h
  unfold QC at h ⊢
  rw [hD 15 (by decide), hD 16 (by decide), hD 17 (by decide), hD 172 (by decide), hD 173 (by decide), hD 174 (by decide), hE (0, 3) (by decide), hE (14, 8) (by decide), hE (121, 71) (by decide), hE (121, 76) (by decide)]
  exact h
theorem count_ok (a : Int) (ha : rg a) (s t : iS) (hT : QT (mx s t)) (hN : QN (mx s t)) (hO : QO (mx s t)) (hK : QK (mx s t)) (hC : QC (mx s t)) : ∃ r, x_count a s = some (r, s) ∧ m_count a t = some (r, t) ∧ rg r := by
  obtain ⟨t1, t2, t3, _⟩ := (show RTv (s 0 1) (t 121 1) (s 1) (t 122) from hT)
  obtain ⟨n1, n2, n3, n4, n5, n6, n7, n8⟩ := (show RNv (s 44 3) (s 44 4) (t 121 81) (t 177) (s 51 16) (s 51 17) (t 121 96) (t 121 89) from hN)
  obtain ⟨o1, o2, o3, _⟩ := (show ROv (s 48 3) (s 48 4) (t 121 106) (t 121 107) (s 49) (t 187) from hO)
  obtain ⟨k1, k2, k3, k4, _⟩ := (show RKv (s 48 5) (s 48 7) (t 121 102) (t 121 104) (s 50) (t 186) from hK)
  obtain ⟨c1, c2, _⟩ := (show RCv (s 0 3) (s 14 8) (t 121 71) (t 121 76) (s 15) (s 16) (s 17) (t 172) (t 173) (t 174) from hC)
  unfold x_count m_count lib_waitingOutput
  rw [gd_pos ha, gd_pos ha]
  simp only [bd_some]
  by_cases h0 : a = 0
  · rw [if_pos h0, if_pos h0, ← t1]
    exact ⟨_, rfl, rfl, by omega, by omega⟩
  rw [if_neg h0, if_neg h0]
  by_cases h1 : a = 1
  · rw [if_pos h1, if_pos h1, ← n5]
    exact ⟨_, rfl, rfl, n6⟩
  rw [if_neg h1, if_neg h1]
  by_cases h2 : a = 2
  · rw [if_pos h2, if_pos h2, ← n7]
    exact ⟨_, rfl, rfl, n8⟩
  rw [if_neg h2, if_neg h2]
  by_cases h3 : a = 3
  · rw [if_pos h3, if_pos h3, m_count67_ok (by omega), ← n1, ← n3]
    exact ⟨_, rfl, rfl, n4⟩
  rw [if_neg h3, if_neg h3]
  by_cases h4 : a = 4
  · rw [if_pos h4, if_pos h4, ← n1]
    exact ⟨_, rfl, rfl, by omega, by omega⟩
  rw [if_neg h4, if_neg h4]
  by_cases h5 : a = 5
  · rw [if_pos h5, if_pos h5, ← o1, ← o2]
    exact ⟨_, rfl, rfl, by omega, by omega⟩
  rw [if_neg h5, if_neg h5]
  by_cases h6 : a = 6
  · rw [if_pos h6, if_pos h6, ← k3]
    exact ⟨_, rfl, rfl, k4⟩
  rw [if_neg h6, if_neg h6]
  by_cases h7 : a = 7
  · rw [if_pos h7, if_pos h7]
    by_cases h8 : s 0 3 = 0
    · exact ⟨0, by rw [gd_pos (show rg (s 0 3) from ⟨by omega, by omega⟩), if_pos h8], by rw [gd_pos (show rg (t 121 71) from ⟨by omega, by omega⟩), if_pos (by omega)], by decide⟩
    · exact ⟨1, by rw [gd_pos (show rg (s 0 3) from ⟨by omega, by omega⟩), if_neg h8], by rw [gd_pos (show rg (t 121 71) from ⟨by omega, by omega⟩), if_neg (by omega)], by decide⟩
  rw [if_neg h7, if_neg h7]
  exact ⟨_, rfl, rfl, by decide⟩
theorem command_ok (a b : Int) (ha : rg a) (hb : rg b) (s t : iS) (hC : QC (mx s t)) : ∃ r, x_command a b s = some (r, s) ∧ m_command_369 a b t = some (r, t) ∧ rg r := by
  obtain ⟨c1, c2, c3⟩ := (show RCv (s 0 3) (s 14 8) (t 121 71) (t 121 76) (s 15) (s 16) (s 17) (t 172) (t 173) (t 174) from hC)
  have rgl : rg (s 0 3) := ⟨by omega, by omega⟩
  have rgt : rg (t 121 71) := ⟨by omega, by omega⟩
  by_cases h0 : s 0 3 = 0
  · exact ⟨-1, by unfold x_command; rw [gd_pos rgl, if_pos h0], by unfold m_command_369; rw [gd_pos rgt, if_pos (by omega)], by decide⟩
  obtain ⟨d1, d2, d3⟩ := c3 (by omega)
  have rs : rg (s 14 8) := ⟨by omega, by omega⟩
  have rt : rg (t 121 76) := ⟨by omega, by omega⟩
  have X : x_command a b s = bd (prg_numberOf a b s) (fun r3 s3 => some (r3, s3)) := by unfold x_command; rw [gd_pos rgl, if_neg h0]
  rw [X]
  unfold prg_numberOf
  by_cases h1 : a < 0
  · exact ⟨-1, by rw [gd_pos ha, if_pos h1]; rfl, by unfold m_command_369; rw [gd_pos rgt, if_neg (by omega), gd_pos ha, if_pos h1], by decide⟩
  by_cases h2 : a < s 14 8
  · obtain ⟨⟨p1, p2⟩, ⟨p3, p4⟩, ⟨p5, p6⟩⟩ := d3 a.toNat (by omega)
    by_cases b0 : b = 0
    · exact ⟨s 15 a.toNat, by rw [gd_pos ha, if_neg h1, gd_pos rs, if_pos h2, gd_pos hb, if_pos b0, gd_pos (by omega)]; rfl, by unfold m_command_369; rw [gd_pos rgt, if_neg (by omega), gd_pos ha, if_neg h1, gd_pos rt, if_neg (by omega), gd_pos hb, if_neg (by omega), if_pos (by omega), if_pos b0, gd_pos (by omega), p1], p2⟩
    by_cases b1 : b = 1
    · exact ⟨s 16 a.toNat, by rw [gd_pos ha, if_neg h1, gd_pos rs, if_pos h2, gd_pos hb, if_neg b0, if_pos b1, gd_pos (by omega)]; rfl, by unfold m_command_369; rw [gd_pos rgt, if_neg (by omega), gd_pos ha, if_neg h1, gd_pos rt, if_neg (by omega), gd_pos hb, if_neg (by omega), if_pos (by omega), if_neg b0, if_pos b1, gd_pos (by omega), p3], p4⟩
    by_cases b2 : b = 2
    · exact ⟨s 17 a.toNat, by rw [gd_pos ha, if_neg h1, gd_pos rs, if_pos h2, gd_pos hb, if_neg b0, if_neg b1, if_pos b2, gd_pos (by omega)]; rfl, by unfold m_command_369; rw [gd_pos rgt, if_neg (by omega), gd_pos ha, if_neg h1, gd_pos rt, if_neg (by omega), gd_pos hb, if_neg (by omega), if_pos (by omega), if_neg b0, if_neg b1, gd_pos (by omega), p5], p6⟩
    refine ⟨-1, by rw [gd_pos ha, if_neg h1, gd_pos rs, if_pos h2, gd_pos hb, if_neg b0, if_neg b1, if_neg b2]; rfl, ?_, by decide⟩
    unfold m_command_369
    rw [gd_pos rgt, if_neg (by omega), gd_pos ha, if_neg h1, gd_pos rt, if_neg (by omega), gd_pos hb]
    by_cases b3 : b < 0
    · rw [if_pos b3]
    · rw [if_neg b3, if_neg (by omega)]
  · exact ⟨-1, by rw [gd_pos ha, if_neg h1, gd_pos rs, if_neg h2]; rfl, by unfold m_command_369; rw [gd_pos rgt, if_neg (by omega), gd_pos ha, if_neg h1, gd_pos rt, if_pos (by omega)], by decide⟩
def QP (s : iS) : Prop := s 0 2 = s 121 4 ∧ rg (s 0 2)
theorem QP_on : on [] [(0, 2), (121, 4)] QP := by
  intro s s' hD hE h
  unfold QP at h ⊢
  rw [hE (0, 2) (by decide), hE (121, 4) (by decide)]
  exact h
theorem place_ok (s t : iS) (h : QP (mx s t)) : ∃ r, x_place s = some (r, s) ∧ m_place t = some (r, t) ∧ rg r := by
  have h' : s 0 2 = t 121 4 ∧ rg (s 0 2) := h
  unfold x_place m_place
  exact ⟨_, rfl, by rw [h'.1], h'.2⟩
theorem error_ok (s t : iS) (h : QM (mx s t)) : ∃ r, x_error s = some (r, s) ∧ m_error t = some (r, t) ∧ rg r := by
  obtain ⟨e1, e2, _⟩ := (show RMv (s 44 6) (t 121 100) (s 45) (t 175) from h)
  unfold x_error m_error
  exact ⟨_, rfl, by rw [e1], e2⟩
