/-! what the reference keeps of a text: bytes, places, lengths of strings -/
section CPa
variable {t t' : iS} {n I : Nat}
theorem cp171 (h3 : t 121 3 = (n : Int)) (hn : n ≤ 4000) : ∃ t', m_load_161 0 t = m_load_187 t' ∧ (∀ c k, c ≠ 171 → t' c k = t c k) ∧ ∀ k, t' 171 k = if k < n then t 123 k else t 171 k := by
  have B := lpN (f := m_load_161b) (M := n) (I := fun i t' => (∀ c k, c ≠ 171 → t' c k = t c k) ∧ ∀ k, t' 171 k = if k < i then t 123 k else t 171 k) (fun i t1 hi ⟨q1, q2⟩ => by
    unfold m_load_161b
    rw [gr (by omega), q1 121 3 (by omega), h3, gr (by omega), if_neg (by omega), gd_pos (by omega), lt_eq, Int.toNat_natCast, q1 123 i (by omega)]
    refine ⟨_, rfl, fun c k hc => by rw [up_ne (by omega)]; exact q1 c k hc, fun k => ?_⟩
    by_cases d : k = i
    · subst d
      rw [up_same, if_pos (by omega)]
    · rw [up_ne (by omega), q2 k]
      by_cases e : k < i
      · rw [if_pos e, if_pos (by omega)]
      · rw [if_neg e, if_neg (by omega)]) (fun t1 ⟨q1, q2⟩ => by
    unfold m_load_161b
    rw [gr (by omega), q1 121 3 (by omega), h3, gr (by omega), if_pos (by omega)]) n 0 t (by omega) ⟨fun _ _ _ => rfl, fun k => by rw [if_neg (by omega)]⟩
  obtain ⟨t', b1, b2, b3⟩ := B
  refine ⟨t', ?_, b2, b3⟩
  unfold m_load_161
  rw [show lp (L := Int × iS) (E := iS) (fun l => m_load_161b (l.1) (l.2)) (0, t) = _ from b1]
  rfl
theorem cp170 (h3 : t 121 33 = (I : Int)) (hn : I ≤ 5000) (h147 : ∀ k, k < I → 0 ≤ t 147 k ∧ t 147 k < 2002) : ∃ t', m_load_187 t = m_load_220 t' ∧ (∀ c k, c ≠ 170 → t' c k = t c k) ∧ ∀ k, t' 170 k = if k < I then t 125 (t 147 k).toNat else t 170 k := by
  have B := lpN (f := m_load_189b) (M := I) (I := fun i t' => (∀ c k, c ≠ 170 → t' c k = t c k) ∧ ∀ k, t' 170 k = if k < i then t 125 (t 147 k).toNat else t 170 k) (fun i t1 hi ⟨q1, q2⟩ => by
    unfold m_load_189b
    rw [gr (by omega), q1 121 33 (by omega), h3, gr (by omega), if_neg (by omega), gd_pos (by omega), Int.toNat_natCast, q1 147 i (by omega), gd_pos (h147 i hi), lt_eq, q1 125 _ (by omega)]
    refine ⟨_, rfl, fun c k hc => by rw [up_ne (by omega)]; exact q1 c k hc, fun k => ?_⟩
    by_cases d : k = i
    · subst d
      rw [up_same, if_pos (by omega)]
    · rw [up_ne (by omega), q2 k]
      by_cases e : k < i
      · rw [if_pos e, if_pos (by omega)]
      · rw [if_neg e, if_neg (by omega)]) (fun t1 ⟨q1, q2⟩ => by
    unfold m_load_189b
    rw [gr (by omega), q1 121 33 (by omega), h3, gr (by omega), if_pos (by omega)]) I 0 t (by omega) ⟨fun _ _ _ => rfl, fun k => by rw [if_neg (by omega)]⟩
  obtain ⟨t', b1, b2, b3⟩ := B
  refine ⟨t', ?_, b2, b3⟩
  unfold m_load_187 m_load_189
  rw [show lp (L := Int × iS) (E := iS) (fun l => m_load_189b (l.1) (l.2)) (0, t) = _ from b1]
  rfl
theorem cp146 (h3 : t 121 33 = (I : Int)) (hn : I ≤ 5000) (h147 : ∀ k, k < I → 0 ≤ t 147 k ∧ t 147 k < 2002) (h144 : ∀ k, k < I → -1000 ≤ t 144 k ∧ t 144 k ≤ 1000) : ∃ t', m_load_220 t = m_load_274 t' ∧ (∀ c k, c ≠ 146 → t' c k = t c k) ∧ ∀ k, t' 146 k = if k < I ∧ t 144 k = 1 then t 126 (t 147 k).toNat - 2 else t 146 k := by
  have B := lpN (f := m_load_222b) (M := I) (I := fun i t' => (∀ c k, c ≠ 146 → t' c k = t c k) ∧ ∀ k, t' 146 k = if k < i ∧ t 144 k = 1 then t 126 (t 147 k).toNat - 2 else t 146 k) (fun i t1 hi ⟨q1, q2⟩ => by
    have h4 := h144 i hi
    unfold m_load_222b m_load_267
    rw [gr (by omega), q1 121 33 (by omega), h3, gr (by omega), if_neg (by omega), gd_pos (by omega), Int.toNat_natCast, q1 144 i (by omega), gr (by omega), q1 147 i (by omega)]
    by_cases c : t 144 i = 1
    · rw [if_pos c, gd_pos (h147 i hi), gd_pos (by omega), lt_eq, q1 126 _ (by omega)]
      refine ⟨_, rfl, fun c k hc => by rw [up_ne (by omega)]; exact q1 c k hc, fun k => ?_⟩
      by_cases d : k = i
      · subst d
        rw [up_same, if_pos ⟨by omega, c⟩]
      · rw [up_ne (by omega), q2 k]
        by_cases e : k < i ∧ t 144 k = 1
        · rw [if_pos e, if_pos ⟨by omega, e.2⟩]
        · rw [if_neg e, if_neg (fun z => e ⟨by have := z.1; omega, z.2⟩)]
    · rw [if_neg c, gd_pos (by omega), lt_eq]
      refine ⟨_, rfl, fun c k hc => by rw [up_ne (by omega)]; exact q1 c k hc, fun k => ?_⟩
      by_cases d : k = i
      · subst d
        rw [up_same, if_neg (fun z => c z.2), q2 k, if_neg (fun z => c z.2)]
      · rw [up_ne (by omega), q2 k]
        by_cases e : k < i ∧ t 144 k = 1
        · rw [if_pos e, if_pos ⟨by omega, e.2⟩]
        · rw [if_neg e, if_neg (fun z => e ⟨by have := z.1; omega, z.2⟩)]) (fun t1 ⟨q1, q2⟩ => by
    unfold m_load_222b
    rw [gr (by omega), q1 121 33 (by omega), h3, gr (by omega), if_pos (by omega)]) I 0 t (by omega) ⟨fun _ _ _ => rfl, fun k => by rw [if_neg (fun z => by have := z.1; omega)]⟩
  obtain ⟨t', b1, b2, b3⟩ := B
  refine ⟨t', ?_, b2, b3⟩
  unfold m_load_220 m_load_222
  rw [show lp (L := Int × iS) (E := iS) (fun l => m_load_222b (l.1) (l.2)) (0, t) = _ from b1]
  rfl
/-- all three -/
theorem cps_ok (h3 : t 121 3 = (n : Int)) (hn : n ≤ 4000) (h33 : t 121 33 = (I : Int)) (hI : I ≤ 5000) (h147 : ∀ k, k < I → 0 ≤ t 147 k ∧ t 147 k < 2002) (h144 : ∀ k, k < I → -1000 ≤ t 144 k ∧ t 144 k ≤ 1000) : ∃ t', m_load_161 0 t = m_load_274 t' ∧ (∀ c k, c ≠ 171 → c ≠ 170 → c ≠ 146 → t' c k = t c k) ∧ (∀ k, t' 171 k = if k < n then t 123 k else t 171 k) ∧ (∀ k, t' 170 k = if k < I then t 125 (t 147 k).toNat else t 170 k) ∧ ∀ k, t' 146 k = if k < I ∧ t 144 k = 1 then t 126 (t 147 k).toNat - 2 else t 146 k := by
  obtain ⟨t1, a1, a2, a3⟩ := cp171 h3 hn
  obtain ⟨t2, b1, b2, b3⟩ := cp170 (t := t1) (I := I) (by rw [a2 121 33 (by omega)]; exact h33) hI (fun k hk => by rw [a2 147 k (by omega)]; exact h147 k hk)
  have f2 : ∀ c k, c ≠ 171 → c ≠ 170 → t2 c k = t c k := fun c k q1 q2 => (b2 c k q2).trans (a2 c k q1)
  obtain ⟨t3, c1, c2, c3⟩ := cp146 (t := t2) (I := I) (by rw [f2 121 33 (by omega) (by omega)]; exact h33) hI (fun k hk => by rw [f2 147 k (by omega) (by omega)]; exact h147 k hk) (fun k hk => by rw [f2 144 k (by omega) (by omega)]; exact h144 k hk)
  refine ⟨t3, by rw [a1, b1, c1], fun c k q1 q2 q3 => (c2 c k q3).trans (f2 c k q1 q2), fun k => ?_, fun k => ?_, fun k => ?_⟩
  · rw [c2 171 k (by omega), b2 171 k (by omega), a3 k]
  · rw [c2 170 k (by omega), b3 k, a2 147 k (by omega), a2 170 k (by omega), a2 125 _ (by omega)]
  · rw [c3 k, f2 144 k (by omega) (by omega), f2 147 k (by omega) (by omega), f2 146 k (by omega) (by omega), f2 126 _ (by omega) (by omega)]
end CPa
