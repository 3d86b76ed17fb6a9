/-! feed -/
def byt (v : Int) (k : Int) : Int := i_and (i_shr v (24 - 8 * k)) 255
def wrk (u : Nat → Int) (n k : Nat) (v : Int) : Nat → Int := fun i => if n ≤ i ∧ i < n + k then byt v ((i - n : Nat) : Int) else u i
theorem wrk_0 (u : Nat → Int) (n : Nat) (v : Int) : wrk u n 0 v = u := by
  funext i
  unfold wrk
  rw [if_neg (by omega)]
theorem wrk_s {u u' : Nat → Int} {n k : Nat} {v : Int} (h : u' = wrk u n k v) (i : Nat) : (if i = n + k then byt v (k : Int) else u' i) = wrk u n (k + 1) v i := by
  subst h
  unfold wrk
  by_cases h1 : i = n + k
  · rw [if_pos h1, if_pos (by omega), show i - n = k by omega]
  · rw [if_neg h1]
    by_cases h2 : n ≤ i ∧ i < n + k
    · rw [if_pos h2, if_pos (by omega)]
    · rw [if_neg h2, if_neg (by omega)]
theorem byt_rg (v k : Int) : 0 ≤ byt v k ∧ byt v k < 256 := by
  have := i_and_le (i_shr v (24 - 8 * k)) (m := 255) (by decide)
  unfold byt
  omega
theorem x_append_st {s : iS} {v k : Int} {m : Nat} (h1 : s 0 1 = m) (h2 : m < 4000) (h3 : 0 ≤ k ∧ k ≤ 24) : x_append_3b v k s = some (.inl (k + (-8), up (up s 1 m (i_and (i_shr v k) 255)) 0 1 ((m + 1 : Nat) : Int))) := by
  unfold x_append_3b
  rw [gd_pos (show rg k from ⟨by omega, by omega⟩), if_neg (by omega), h1, gd_pos (show rg (m : Int) from ⟨by omega, by omega⟩), if_neg (by omega), gd_pos (by omega)]
  simp only [lt_eq, Int.toNat_natCast]
  rw [up_ne (by omega), h1]
  rfl
theorem x_append_ok {s : iS} {n : Nat} (v : Int) (h : s 0 1 = n) (hn : n + 4 ≤ 4000) : ∃ s', x_append v s = some (0, s') ∧ s' 0 1 = ((n + 4 : Nat) : Int) ∧ s' 1 = wrk (s 1) n 4 v := by
  unfold x_append x_append_3
  obtain ⟨e, he, h1, h2⟩ : Wp (lp (L := Int × iS) (E := iS) (fun l => x_append_3b v (l.1) (l.2)) (24, s)) (fun e => e 0 1 = ((n + 4 : Nat) : Int) ∧ e 1 = wrk (s 1) n 4 v) := by
    refine wp_lp (fun l : Int × iS => ∃ k : Nat, k ≤ 4 ∧ l.1 = 24 - 8 * (k : Int) ∧ l.2 0 1 = ((n + k : Nat) : Int) ∧ l.2 1 = wrk (s 1) n k v) (fun l => (l.1 + 8).toNat) ?_ ⟨0, by omega, rfl, h, (wrk_0 _ _ _).symm⟩
    rintro ⟨p, u⟩ ⟨k, i1, i2, i3, i4⟩
    simp only at i2 i3 i4
    subst i2
    by_cases hk : k = 4
    · subst hk
      simp only [x_append_3b]
      rw [gd_pos (by omega), if_pos (by omega)]
      exact wp_some.mpr ⟨i3, i4⟩
    · simp only
      rw [x_append_st i3 (by omega) (by omega)]
      refine wp_some.mpr ⟨⟨k + 1, by omega, by simp only; omega, by simp only; exact up_same _ _ _ _, ?_⟩, by simp only; omega⟩
      simp only
      rw [up_cell (by decide)]
      funext i
      rw [← wrk_s i4 i, up_at]
      by_cases q : i = n + k
      · rw [if_pos ⟨rfl, q⟩, if_pos q]
        rfl
      · rw [if_neg (fun z => q z.2), if_neg q]
  rw [he]
  exact ⟨e, rfl, h1, h2⟩
theorem m_lay_st {s : iS} {v : Int} {k m : Nat} (h1 : s 121 1 = m) (h2 : m + k < 4000) (h3 : k < 4) : m_lay_2b v k s = some (.inl (((k + 1 : Nat) : Int), up s 122 (m + k) (byt v k))) := by
  unfold m_lay_2b
  rw [gd_pos (show rg (k : Int) from ⟨by omega, by omega⟩), if_neg (by omega), h1, gd_pos (by omega)]
  simp only [lt_eq]
  rw [show ((m : Int) + (k : Int)).toNat = m + k by omega]
  rfl
theorem m_lay_ok {s : iS} {n : Nat} (v : Int) (h : s 121 1 = n) (hn : n + 4 ≤ 4000) : ∃ s', m_lay v s = some (0, s') ∧ s' 121 1 = ((n + 4 : Nat) : Int) ∧ s' 122 = wrk (s 122) n 4 v := by
  unfold m_lay m_lay_2
  obtain ⟨e, he, h1, h2⟩ : Wp (lp (L := Int × iS) (E := iS) (fun l => m_lay_2b v (l.1) (l.2)) (0, s)) (fun e => e 121 1 = (n : Int) ∧ e 122 = wrk (s 122) n 4 v) := by
    refine wp_lp (fun l : Int × iS => ∃ k : Nat, k ≤ 4 ∧ l.1 = (k : Int) ∧ l.2 121 1 = (n : Int) ∧ l.2 122 = wrk (s 122) n k v) (fun l => (4 - l.1).toNat) ?_ ⟨0, by omega, rfl, h, (wrk_0 _ _ _).symm⟩
    rintro ⟨p, u⟩ ⟨k, i1, i2, i3, i4⟩
    simp only at i2 i3 i4
    subst i2
    by_cases hk : k = 4
    · subst hk
      simp only [m_lay_2b]
      rw [gd_pos (by decide), if_pos (by decide)]
      exact wp_some.mpr ⟨i3, i4⟩
    · simp only
      rw [m_lay_st i3 (by omega) (by omega)]
      refine wp_some.mpr ⟨⟨k + 1, by omega, rfl, ?_, ?_⟩, by simp only; omega⟩
      · simp only
        rw [up_ne (by omega), i3]
      · simp only
        funext i
        rw [← wrk_s i4 i, up_at]
        by_cases q : i = n + k
        · rw [if_pos ⟨rfl, q⟩, if_pos q]
        · rw [if_neg (fun z => q z.2), if_neg q]
  rw [he]
  refine ⟨_, rfl, ?_, ?_⟩
  · rw [up_same, h1]
    omega
  · rw [up_cell (by decide), h2]
/-- the tape -/
def RTv (a b : Int) (u v : Nat → Int) : Prop := a = b ∧ 0 ≤ a ∧ a ≤ 4000 ∧ (∀ i : Nat, (i : Int) < a → u i = v i) ∧ (∀ i, 0 ≤ u i ∧ u i < 256) ∧ (∀ i, 0 ≤ v i ∧ v i < 256)
def QT (s : iS) : Prop := RTv (s 0 1) (s 121 1) (s 1) (s 122)
theorem QT_on : on [1, 122] [(0, 1), (121, 1)] QT := by
  intro s s' hD hE h
  unfold QT at h ⊢
  rw [hD 1 (by decide), hD 122 (by decide), hE (0, 1) (by decide), hE (121, 1) (by decide)]
  exact h
theorem RTv_wr {n : Nat} {u v : Nat → Int} (w : Int) (h : RTv n n u v) (hn : n + 4 ≤ 4000) : RTv ((n + 4 : Nat) : Int) ((n + 4 : Nat) : Int) (wrk u n 4 w) (wrk v n 4 w) := by
  obtain ⟨_, _, _, h3, h4, h5⟩ := h
  refine ⟨rfl, by omega, by omega, fun i hi => ?_, fun i => ?_, fun i => ?_⟩
  · unfold wrk
    by_cases q : n ≤ i ∧ i < n + 4
    · rw [if_pos q, if_pos q]
    · rw [if_neg q, if_neg q]
      exact h3 i (by omega)
  · unfold wrk
    split
    · exact byt_rg _ _
    · exact h4 i
  · unfold wrk
    split
    · exact byt_rg _ _
    · exact h5 i
/-- the answers 0 and 1 -/
abbrev b01 (r : Int) : Prop := r = 0 ∨ r = 1
theorem feed_ok (a b c d e : Int) (s t : iS) (h : QT (mx s t)) : ∃ r s' t', x_feed a b c d e s = some (r, s') ∧ m_feed a b c d e t = some (r, t') ∧ b01 r ∧ QT (mx s' t') := by
  have h' : RTv (s 0 1) (t 121 1) (s 1) (t 122) := h
  obtain ⟨n, hn⟩ : ∃ n : Nat, s 0 1 = n := ⟨(s 0 1).toNat, by have := h'.2.1; omega⟩
  have ht : t 121 1 = n := by rw [← h'.1, hn]
  have hle : n ≤ 4000 := by have := h'.2.2.1; omega
  unfold x_feed m_feed
  by_cases hc : n + 20 ≤ 4000
  · obtain ⟨s1, e1, f1, g1⟩ := x_append_ok a hn (by omega)
    obtain ⟨s2, e2, f2, g2⟩ := x_append_ok b f1 (by omega)
    obtain ⟨s3, e3, f3, g3⟩ := x_append_ok c f2 (by omega)
    obtain ⟨s4, e4, f4, g4⟩ := x_append_ok d f3 (by omega)
    obtain ⟨s5, e5, f5, g5⟩ := x_append_ok e f4 (by omega)
    obtain ⟨t1, i1, j1, k1⟩ := m_lay_ok a ht (by omega)
    obtain ⟨t2, i2, j2, k2⟩ := m_lay_ok b j1 (by omega)
    obtain ⟨t3, i3, j3, k3⟩ := m_lay_ok c j2 (by omega)
    obtain ⟨t4, i4, j4, k4⟩ := m_lay_ok d j3 (by omega)
    obtain ⟨t5, i5, j5, k5⟩ := m_lay_ok e j4 (by omega)
    refine ⟨1, s5, t5, ?_, ?_, Or.inr rfl, ?_⟩
    · rw [gd_pos (show rg (s 0 1 + 20) from ⟨by omega, by omega⟩), if_pos (by omega), e1, bd_some, e2, bd_some, e3, bd_some, e4, bd_some, e5, bd_some]
    · rw [gd_pos (show rg (t 121 1 + 20) from ⟨by omega, by omega⟩), if_pos (by omega), i1, bd_some, i2, bd_some, i3, bd_some, i4, bd_some, i5, bd_some]
    · show RTv (s5 0 1) (t5 121 1) (s5 1) (t5 122)
      rw [hn, ht] at h'
      have q1 := RTv_wr a h' (by omega)
      rw [← g1, ← k1] at q1
      have q2 := RTv_wr b q1 (by omega)
      rw [← g2, ← k2] at q2
      have q3 := RTv_wr c q2 (by omega)
      rw [← g3, ← k3] at q3
      have q4 := RTv_wr d q3 (by omega)
      rw [← g4, ← k4] at q4
      have q5 := RTv_wr e q4 (by omega)
      rw [← g5, ← k5] at q5
      rw [f5, j5]
      exact q5
  · refine ⟨0, s, t, ?_, ?_, Or.inl rfl, h⟩
    · rw [gd_pos (show rg (s 0 1 + 20) from ⟨by omega, by omega⟩), if_neg (by omega)]
    · rw [gd_pos (show rg (t 121 1 + 20) from ⟨by omega, by omega⟩), if_neg (by omega)]
