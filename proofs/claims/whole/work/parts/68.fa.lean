/-! keys, fetch, row, word, count, command, place, error -/
theorem min_ok {a b : Int} (ha : rg a) (hb : rg b) (s : iS) : mth_min a b s = some (if b < a then b else a, s) := by
  unfold mth_min
  rw [gd_pos ha, gd_pos hb]
  split <;> rfl
theorem max_ok {a b : Int} (ha : rg a) (hb : rg b) (s : iS) : mth_max a b s = some (if a < b then b else a, s) := by
  unfold mth_max
  rw [gd_pos ha, gd_pos hb]
  split <;> rfl
/-- the keys -/
def RKv (kc kl kc' kl' : Int) (k k' : Nat → Int) : Prop := kc = kc' ∧ (0 ≤ kc ∧ kc ≤ 200) ∧ kl = kl' ∧ rg kl ∧ (∀ i : Nat, (i : Int) < kc → k i = k' i ∧ 0 ≤ k i ∧ k i < 256)
def QK (s : iS) : Prop := RKv (s 48 5) (s 48 7) (s 121 102) (s 121 104) (s 50) (s 186)
theorem QK_on : on [50, 186] [(48, 5), (48, 7), (121, 102), (121, 104)] QK := by
  intro s s' hD hE h
  unfold QK at h ⊢
  rw [hD 50 (by decide), hD 186 (by decide), hE (48, 5) (by decide), hE (48, 7) (by decide), hE (121, 102) (by decide), hE (121, 104) (by decide)]
  exact h
theorem x_keys_ok {a : Int} {s : iS} (h0 : 0 ≤ a ∧ a ≤ 200) (ht : a ≤ s 0 1 ∧ s 0 1 ≤ 4000) : ∃ s', x_keys a s = some (1, s') ∧ s' 0 1 = 0 ∧ s' 48 5 = a ∧ ∀ i : Nat, (i : Int) < a → s' 50 i = s 1 i := by
  unfold x_keys lib_takeKeys
  rw [gd_pos (show rg a from ⟨by omega, by omega⟩), if_neg (by omega), if_neg (by omega), gd_pos (show rg (s 0 1) from ⟨by omega, by omega⟩), if_pos ht.1]
  simp only [lt_eq]
  rw [min_ok (by decide) (by decide), bd_some, if_neg (by decide), min_ok ⟨by omega, by omega⟩ (by decide), bd_some, if_neg (by omega), max_ok (by decide) ⟨by omega, by omega⟩, bd_some]
  have e : (if (0 : Int) < a then a else 0) = a := by split <;> omega
  rw [e, up_same, gd_pos (by omega), bd_some]
  refine ⟨_, rfl, ?_, ?_, fun i hi => ?_⟩
  · simp [cpy, up_at]
  · simp [cpy, up_at]
  · have : i < a.toNat := by omega
    simp [cpy, up_at, this]
theorem m_keys_ok {a : Int} {t : iS} (h0 : 0 ≤ a ∧ a ≤ 200) (ht : a ≤ t 121 1 ∧ t 121 1 ≤ 4000) : ∃ t', m_keys a t = some (1, t') ∧ t' 121 1 = 0 ∧ t' 121 102 = a ∧ ∀ i : Nat, (i : Int) < a → t' 186 i = t 122 i := by
  unfold m_keys m_keys_23
  rw [gd_pos (show rg a from ⟨by omega, by omega⟩), if_neg (by omega), if_neg (by omega), gd_pos (show rg (t 121 1) from ⟨by omega, by omega⟩), if_pos ht.1]
  obtain ⟨e, he, h1⟩ : Wp (lp (L := Int × iS) (E := iS) (fun l => m_keys_23b a (l.1) (l.2)) (0, t)) (fun e => ∀ i : Nat, (i : Int) < a → e 186 i = t 122 i) := by
    refine wp_lp (fun l : Int × iS => (0 ≤ l.1 ∧ l.1 ≤ a) ∧ l.2 122 = t 122 ∧ ∀ i : Nat, (i : Int) < l.1 → l.2 186 i = t 122 i) (fun l => (a - l.1).toNat) ?_ ⟨⟨by omega, by omega⟩, rfl, fun i hi => by simp only at hi; omega⟩
    rintro ⟨k, u⟩ ⟨i1, i2, i3⟩
    simp only at i1 i2 i3
    simp only [m_keys_23b]
    rw [gd_pos (show rg k from ⟨by omega, by omega⟩), gd_pos (show rg a from ⟨by omega, by omega⟩), wp_ite]
    refine ⟨fun c => wp_some.mpr (fun i hi => i3 i (by omega)), fun c => ?_⟩
    rw [gd_pos (by omega), gd_pos (by omega)]
    refine wp_some.mpr ⟨⟨⟨by simp only; omega, by simp only; omega⟩, ?_, fun i hi => ?_⟩, by simp only; omega⟩
    · simp only
      rw [up_cell (by decide), i2]
    · simp only at hi ⊢
      rw [up_at]
      by_cases q : i = k.toNat
      · rw [if_pos ⟨rfl, q⟩, i2, q]
      · rw [if_neg (fun z => q z.2)]
        exact i3 i (by omega)
  rw [he]
  refine ⟨_, rfl, ?_, ?_, fun i hi => ?_⟩
  · simp [up_at]
  · simp [up_at]
  · rw [up_cell (by decide), up_cell (by decide)]
    exact h1 i hi
theorem keys_ok (a : Int) (ha : rg a) (s t : iS) (h : QT (mx s t)) (hk : QK (mx s t)) : ∃ r s' t', x_keys a s = some (r, s') ∧ m_keys a t = some (r, t') ∧ b01 r ∧ QT (mx s' t') ∧ QK (mx s' t') := by
  have h' : RTv (s 0 1) (t 121 1) (s 1) (t 122) := h
  have hk' : RKv (s 48 5) (s 48 7) (t 121 102) (t 121 104) (s 50) (t 186) := hk
  obtain ⟨e1, e2, e3, e4, e5, e6⟩ := h'
  obtain ⟨k1, k2, k3, k4, k5⟩ := hk'
  by_cases hc : 0 ≤ a ∧ a ≤ 200 ∧ a ≤ s 0 1
  · obtain ⟨s', x1, x2, x3, x4⟩ := x_keys_ok (s := s) (a := a) ⟨hc.1, hc.2.1⟩ ⟨hc.2.2, e3⟩
    obtain ⟨t', m1, m2, m3, m4⟩ := m_keys_ok (t := t) (a := a) ⟨hc.1, hc.2.1⟩ ⟨by omega, by omega⟩
    have fx := fx_keys a s _ x1
    have fm := fm_keys a t _ m1
    refine ⟨1, s', t', x1, m1, Or.inr rfl, ?_, ?_⟩
    · show RTv (s' 0 1) (t' 121 1) (s' 1) (t' 122)
      have y1 : s' 1 = s 1 := md_row fx (by decide) (by decide)
      have y2 : t' 122 = t 122 := md_row fm (by decide) (by decide)
      rw [x2, m2, y1, y2]
      exact ⟨rfl, by omega, by omega, fun i hi => by omega, e5, e6⟩
    · show RKv (s' 48 5) (s' 48 7) (t' 121 102) (t' 121 104) (s' 50) (t' 186)
      have y1 : s' 48 7 = s 48 7 := fx 48 7 (by decide) (by decide)
      have y2 : t' 121 104 = t 121 104 := fm 121 104 (by decide) (by decide)
      rw [x3, m3, y1, y2]
      refine ⟨rfl, ⟨hc.1, hc.2.1⟩, k3, k4, fun i hi => ?_⟩
      rw [x4 i hi, m4 i hi]
      exact ⟨e4 i (by omega), e5 i⟩
  · refine ⟨0, s, t, ?_, ?_, Or.inl rfl, h, hk⟩
    · unfold x_keys
      rw [gd_pos ha]
      by_cases c1 : a < 0
      · rw [if_pos c1]
      · rw [if_neg c1]
        by_cases c2 : 200 < a
        · rw [if_pos c2]
        · rw [if_neg c2, gd_pos (show rg (s 0 1) from ⟨by omega, by omega⟩), if_neg (by omega)]
    · unfold m_keys
      rw [gd_pos ha]
      by_cases c1 : a < 0
      · rw [if_pos c1]
      · rw [if_neg c1]
        by_cases c2 : 200 < a
        · rw [if_pos c2]
        · rw [if_neg c2, gd_pos (show rg (t 121 1) from ⟨by omega, by omega⟩), if_neg (by omega)]
/-- the output -/
def ROv (w tk w' tk' : Int) (o o' : Nat → Int) : Prop := w = w' ∧ tk = tk' ∧ (0 ≤ tk ∧ tk ≤ w ∧ w ≤ 3000) ∧ (∀ i : Nat, (i : Int) < w → o i = o' i ∧ 0 ≤ o i ∧ o i < 256)
def QO (s : iS) : Prop := ROv (s 48 3) (s 48 4) (s 121 106) (s 121 107) (s 49) (s 187)
theorem QO_on : on [49, 187] [(48, 3), (48, 4), (121, 106), (121, 107)] QO := by
  intro s s' hD hE h
  unfold QO at h ⊢
  rw [hD 49 (by decide), hD 187 (by decide), hE (48, 3) (by decide), hE (48, 4) (by decide), hE (121, 106) (by decide), hE (121, 107) (by decide)]
  exact h
theorem fetch_ok (s t : iS) (h : QO (mx s t)) : ∃ r s' t', x_fetch s = some (r, s') ∧ m_fetch t = some (r, t') ∧ True ∧ QO (mx s' t') := by
  have h' : ROv (s 48 3) (s 48 4) (t 121 106) (t 121 107) (s 49) (t 187) := h
  obtain ⟨e1, e2, e3, e4⟩ := h'
  unfold x_fetch lib_takeOutput lib_waitingOutput m_fetch
  rw [bd_some, min_ok (by decide) ⟨by omega, by omega⟩, bd_some, ← e1, ← e2, gd_pos (show rg (s 48 3 - s 48 4) from ⟨by omega, by omega⟩)]
  have en : ∃ n : Int, n = (if s 48 3 - s 48 4 < 7 then s 48 3 - s 48 4 else 7) := ⟨_, rfl⟩
  obtain ⟨n, en⟩ := en
  have hn : 0 ≤ n ∧ n ≤ 7 ∧ n ≤ s 48 3 - s 48 4 := by rw [en]; split <;> omega
  have em : (if s 48 3 - s 48 4 ≤ 7 then m_fetch_28 (s 48 3 - s 48 4) t else m_fetch_28 7 t) = m_fetch_28 n t := by
    rw [en]
    by_cases c : s 48 3 - s 48 4 < 7
    · rw [if_pos c, if_pos (by omega)]
    · rw [if_neg c]
      by_cases c2 : s 48 3 - s 48 4 ≤ 7
      · rw [if_pos c2, show s 48 3 - s 48 4 = 7 by omega]
      · rw [if_neg c2]
  rw [em, ← en, gd_pos (show rg n from ⟨by omega, by omega⟩)]
  unfold m_fetch_28 m_fetch_35
  rw [gd_pos (show rg n from ⟨by omega, by omega⟩)]
  have fin : ∀ v : Int, ∃ r s' t', some (v, up s 48 4 (s 48 4 + n)) = some (r, s') ∧ some (v, up t 121 107 (t 121 107 + n)) = some (r, t') ∧ True ∧ QO (mx s' t') := by
    intro v
    refine ⟨v, _, _, rfl, rfl, trivial, ?_⟩
    show ROv (up s 48 4 (s 48 4 + n) 48 3) (up s 48 4 (s 48 4 + n) 48 4) (up t 121 107 (t 121 107 + n) 121 106) (up t 121 107 (t 121 107 + n) 121 107) (up s 48 4 (s 48 4 + n) 49) (up t 121 107 (t 121 107 + n) 187)
    rw [up_ne (by omega), up_same, up_ne (by omega), up_same, up_cell (by decide), up_cell (by decide)]
    exact ⟨e1, by omega, by omega, e4⟩
  by_cases hp : 0 < n
  · rw [if_pos hp]
    unfold lib_takeOutput_22
    obtain ⟨x, y, hx, hy, r1, r2, r3⟩ := lpp (f := fun l : Int × Int × iS => lib_takeOutput_22b n (l.1) (l.2.1) (l.2.2)) (g := fun l : Int × Int × iS => m_fetch_35b n (l.1) (l.2.1) (l.2.2)) (fun p q => p.1 = q.1 ∧ p.2.1 = q.2.1 ∧ (0 ≤ p.2.1 ∧ p.2.1 ≤ 7) ∧ s = p.2.2 ∧ t = q.2.2) (fun x y => x.1 = y.1 ∧ s = x.2 ∧ t = y.2) (fun p => (7 - p.2.1).toNat) (by
      rintro ⟨p, k, u⟩ ⟨p', k', v⟩ ⟨i1, i2, i3, i4, i5⟩
      simp only at i1 i2 i3 i4 i5
      subst i1 i2 i4 i5
      simp only [lib_takeOutput_22b, m_fetch_35b]
      rw [gd_pos (show rg k from ⟨by omega, by omega⟩), gd_pos (show rg k from ⟨by omega, by omega⟩)]
      by_cases c : 7 ≤ k
      · right
        refine ⟨(p, s), (p, t), ?_, ?_, rfl, rfl, rfl⟩
        · rw [if_pos c]
        · rw [if_pos c]
      left
      rw [if_neg c, if_neg c, gd_pos (show rg n from ⟨by omega, by omega⟩), gd_pos (show rg n from ⟨by omega, by omega⟩)]
      by_cases c2 : n ≤ k
      · rw [if_pos c2, if_pos c2]
        exact ⟨_, _, rfl, rfl, ⟨rfl, rfl, ⟨by simp only; omega, by simp only; omega⟩, rfl, rfl⟩, by simp only; omega⟩
      · have q := e4 (s 48 4 + k).toNat (by omega)
        have q2 : t 187 (t 121 107 + k).toNat = s 49 (s 48 4 + k).toNat := by rw [q.1, e2]
        rw [if_neg c2, if_neg c2, gd_pos (show 0 ≤ s 48 4 + k ∧ s 48 4 + k < 3000 by omega), gd_pos (show 0 ≤ t 121 107 + k ∧ t 121 107 + k < 3000 by omega), gd_pos (show rg (s 49 (s 48 4 + k).toNat) from ⟨by omega, by omega⟩), gd_pos (show rg (t 187 (t 121 107 + k).toNat) from ⟨by omega, by omega⟩)]
        exact ⟨_, _, rfl, rfl, ⟨by simp only; rw [q2], rfl, ⟨by simp only; omega, by simp only; omega⟩, rfl, rfl⟩, by simp only; omega⟩) (a := (n, 0, s)) (b := (n, 0, t)) ⟨rfl, rfl, ⟨by show (0 : Int) ≤ 0; omega, by show (0 : Int) ≤ 7; omega⟩, rfl, rfl⟩
    rw [hx, hy]
    obtain ⟨v, xs⟩ := x
    obtain ⟨v', ys⟩ := y
    simp only at r1 r2 r3
    subst r1 r2 r3
    exact fin v
  · rw [if_neg hp]
    have n0 : n = 0 := by omega
    obtain ⟨e, he, h1, h2⟩ : Wp (lp (L := Int × Int × iS) (E := Int × iS) (fun l => m_fetch_35b n (l.1) (l.2.1) (l.2.2)) (n, 0, t)) (fun e => e.1 = 0 ∧ e.2 = t) := by
      refine wp_lp (fun l : Int × Int × iS => l.1 = 0 ∧ (0 ≤ l.2.1 ∧ l.2.1 ≤ 7) ∧ l.2.2 = t) (fun l => (7 - l.2.1).toNat) ?_ ⟨n0, ⟨by simp only; omega, by simp only; omega⟩, rfl⟩
      rintro ⟨v, k, u⟩ ⟨i1, i2, i3⟩
      simp only at i1 i2 i3
      subst i1 i3
      simp only [m_fetch_35b]
      rw [gd_pos (show rg k from ⟨by omega, by omega⟩), wp_ite]
      refine ⟨fun c => wp_some.mpr ⟨rfl, rfl⟩, fun c => ?_⟩
      rw [gd_pos (show rg n from ⟨by omega, by omega⟩), if_pos (by omega)]
      exact wp_some.mpr ⟨⟨by show l_or (l_shl 0 8) 0 = 0; decide, ⟨by simp only; omega, by simp only; omega⟩, rfl⟩, by simp only; omega⟩
    rw [he]
    obtain ⟨v, u⟩ := e
    simp only at h1 h2
    subst h1 h2
    obtain ⟨r, s', t', f1, f2, f3, f4⟩ := fin 0
    cases f1
    cases f2
    refine ⟨0, s, _, rfl, rfl, trivial, ?_⟩
    show ROv (s 48 3) (s 48 4) (up u 121 107 (u 121 107 + n) 121 106) (up u 121 107 (u 121 107 + n) 121 107) (s 49) (up u 121 107 (u 121 107 + n) 187)
    rw [up_ne (by omega), up_same, up_cell (by decide)]
    exact ⟨e1, by omega, e3, e4⟩
