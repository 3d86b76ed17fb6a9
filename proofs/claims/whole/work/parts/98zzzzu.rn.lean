/-! single commands of the class -/
section RNh
variable {s s' sB t t' : iS} {L M : List Int} {v x y : Int} {n m q : Nat}
/-- what a command leaves as it was -/
def FS (s s' : iS) : Prop := ∀ c k, c ≠ 52 → ¬ (c = 51 ∧ k = 6) → s' c k = s c k
theorem FS_refl : FS s s := fun _ _ _ _ => rfl
theorem FS_trans {s2 : iS} (h : FS s s') (h' : FS s' s2) : FS s s2 := fun c k a b => (h' c k a b).trans (h c k a b)
theorem push_ex (h : STK s L) (hl : L.length < 16384) : ∃ s', mac_push v s = some (0, s') ∧ STK s' (L ++ [v]) ∧ FS s s' := ⟨_, (push_ok h hl).1, (push_ok h hl).2, fun c k a b => cpu_ne a b⟩
theorem pop_ex (h : STK s (L ++ [v])) (hl : L.length < 16384) : ∃ s', mac_pop s = some (v, s') ∧ STK s' L ∧ FS s s' := ⟨_, (pop_ok h hl).1, (pop_ok h hl).2, fun c k a b => up_ne b⟩
/-- nothing failed -/
def nf (s : iS) : Prop := s 44 5 = 0 ∧ s 48 9 = 0
theorem nf_fs (h : nf s) (hf : FS s s') : nf s' := ⟨by rw [hf 44 5 (by omega) (by omega)]; exact h.1, by rw [hf 48 9 (by omega) (by omega)]; exact h.2⟩
/-- a constant, a pointer, the waiting value -/
theorem c_push {a b c : Int} (h : STK s L) (hl : L.length < 16384) (hn : nf s) (hv : mac_valueOf a b c s = some (v, s)) : ∃ s', mac_doCommand 0 a b c s = some (0, s') ∧ STK s' (L ++ [v]) ∧ FS s s' := by
  obtain ⟨s', e1, e2, e3⟩ := push_ex (v := v) h hl
  refine ⟨s', ?_, e2, e3⟩
  unfold mac_doCommand
  rw [gr (by omega), if_pos rfl, hv, bq, e1, bq, d258 (nf_fs hn e3).1 (nf_fs hn e3).2]
theorem v_con {b c : Int} : mac_valueOf 0 b c s = some (b, s) := by
  unfold mac_valueOf
  rw [gr (by omega), if_pos rfl]
theorem v_at {k : Nat} (h : STK s L) (hk : k < L.length) (hl : L.length ≤ 16384) : mac_at (k : Int) s = some (L.getD k 0, s) := by
  unfold mac_at
  rw [gr (by omega), if_neg (by omega), if_neg (by omega), gd_pos (by omega), Int.toNat_natCast, h.2 k hk]
theorem v_arg {b c : Int} {k : Nat} (h : STK s L) (hk : k < L.length) (hl : L.length ≤ 16384) (hb : s 51 8 + b = (k : Int)) : mac_valueOf 1 b c s = some (L.getD k 0, s) := by
  unfold mac_valueOf
  rw [gr (by omega), if_neg (by omega), if_pos rfl, hb, v_at h hk hl, bq]
theorem v_loc {b c : Int} {k : Nat} (h : STK s L) (hk : k < L.length) (hl : L.length ≤ 16384) (hb : s 51 9 + b = (k : Int)) : mac_valueOf 2 b c s = some (L.getD k 0, s) := by
  unfold mac_valueOf
  rw [gr (by omega), if_neg (by omega), if_neg (by omega), if_pos rfl, hb, v_at h hk hl, bq]
theorem v_sta {b : Int} {k : Nat} (hk : k < 12) : mac_valueOf 3 b (k : Int) s = some (s 54 k, s) := by
  unfold mac_valueOf
  rw [gr (by omega), if_neg (by omega), if_neg (by omega), if_neg (by omega), if_pos rfl, gr (by omega), if_neg (by omega), if_neg (by omega), gd_pos (by omega), Int.toNat_natCast]
theorem v_ptr {b c : Int} (hb : b = 0 ∨ b = 1) : mac_valueOf 6 b c s = some (if b = 0 then s 51 10 else s 51 11, s) := by
  unfold mac_valueOf
  rw [gr (by omega), if_neg (by omega), if_neg (by omega), if_neg (by omega), if_neg (by omega), if_neg (by omega), if_neg (by omega), if_pos rfl, gr (by omega)]
  split <;> rfl
theorem v_tmp {b c : Int} : mac_valueOf 7 b c s = some (s 51 12, s) := by
  unfold mac_valueOf
  rw [gr (by omega), if_neg (by omega), if_neg (by omega), if_neg (by omega), if_neg (by omega), if_neg (by omega), if_neg (by omega), if_neg (by omega)]
/-- two values to one -/
theorem c_two {k a b c : Int} (hk : k = 2 ∨ k = 3 ∨ k = 5 ∨ k = 6 ∨ k = 8 ∨ k = 9 ∨ k = 10) (h : STK s (L ++ [x, y])) (hl : L.length + 1 < 16384) (hn : nf s) (hx : w16 x) (hy : w16 y) : ∃ s', mac_doCommand k a b c s = some (0, s') ∧ STK s' (L ++ [if k = 2 then i_s (x + y) else if k = 3 then i_s (x - y) else if k = 5 then i_and x y else if k = 6 then i_or x y else if k = 8 then (if x = y then -1 else 0) else if k = 9 then (if y ≤ x then 0 else -1) else (if x ≤ y then 0 else -1)]) ∧ FS s s' := by
  have e0 : L ++ [x, y] = (L ++ [x]) ++ [y] := by simp
  rw [e0] at h
  obtain ⟨s1, a1, a2, a3⟩ := pop_ex h (by rw [List.length_append, List.length_singleton]; exact hl)
  obtain ⟨s2, b1, b2, b3⟩ := pop_ex a2 (by omega)
  have f2 := FS_trans a3 b3
  have go : ∀ z, ∃ s', mac_push z s2 = some (0, s') ∧ STK s' (L ++ [z]) ∧ FS s s' ∧ mac_doCommand_258 s' = some (0, s') := fun z => by
    obtain ⟨s', c1, c2, c3⟩ := push_ex (v := z) b2 (by omega)
    have f3 := FS_trans f2 c3
    exact ⟨s', c1, c2, f3, d258 (nf_fs hn f3).1 (nf_fs hn f3).2⟩
  rcases hk with q | q | q | q | q | q | q <;> subst q
  · obtain ⟨s', c1, c2, c3, c4⟩ := go (i_s (x + y))
    refine ⟨s', ?_, by simpa using c2, c3⟩
    unfold mac_doCommand mac_calculate
    simp only [Int.reduceEq, ↓reduceIte]
    rw [gr (by omega), a1, bq, gr (by omega), b1, bq, c1, bq, bq, c4]
  · obtain ⟨s', c1, c2, c3, c4⟩ := go (i_s (x - y))
    refine ⟨s', ?_, by simpa using c2, c3⟩
    unfold mac_doCommand mac_calculate
    simp only [Int.reduceEq, ↓reduceIte]
    rw [gr (by omega), a1, bq, gr (by omega), b1, bq, c1, bq, bq, c4]
  · obtain ⟨s', c1, c2, c3, c4⟩ := go (i_and x y)
    refine ⟨s', ?_, by simpa using c2, c3⟩
    unfold mac_doCommand mac_calculate
    simp only [Int.reduceEq, ↓reduceIte]
    rw [gr (by omega), a1, bq, gr (by omega), b1, bq, c1, bq, bq, c4]
  · obtain ⟨s', c1, c2, c3, c4⟩ := go (i_or x y)
    refine ⟨s', ?_, by simpa using c2, c3⟩
    unfold mac_doCommand mac_calculate
    simp only [Int.reduceEq, ↓reduceIte]
    rw [gr (by omega), a1, bq, gr (by omega), b1, bq, c1, bq, bq, c4]
  · obtain ⟨s', c1, c2, c3, c4⟩ := go (if x = y then -1 else 0)
    refine ⟨s', ?_, by simpa using c2, c3⟩
    unfold mac_doCommand mac_calculate mac_calculate_133
    simp only [Int.reduceEq, ↓reduceIte]
    rw [gr (by omega), a1, bq, gr (by omega), b1, bq, gr (by omega), gr (by omega)]
    by_cases z : x = y
    · rw [if_pos z] at c1
      rw [if_pos z, c1, bq, bq, c4]
    · rw [if_neg z] at c1
      rw [if_neg z, c1, bq, bq, c4]
  · obtain ⟨s', c1, c2, c3, c4⟩ := go (if y ≤ x then 0 else -1)
    refine ⟨s', ?_, by simpa using c2, c3⟩
    unfold mac_doCommand mac_calculate mac_calculate_150
    simp only [Int.reduceEq, ↓reduceIte]
    rw [gr (by omega), a1, bq, gr (by omega), b1, bq, gr (by omega), gr (by omega)]
    by_cases z : y ≤ x
    · rw [if_pos z] at c1
      rw [if_pos z, c1, bq, bq, c4]
    · rw [if_neg z] at c1
      rw [if_neg z, c1, bq, bq, c4]
  · obtain ⟨s', c1, c2, c3, c4⟩ := go (if x ≤ y then 0 else -1)
    refine ⟨s', ?_, by simpa using c2, c3⟩
    unfold mac_doCommand mac_calculate mac_calculate_167
    simp only [Int.reduceEq, ↓reduceIte]
    rw [gr (by omega), a1, bq, gr (by omega), b1, bq, gr (by omega), gr (by omega)]
    by_cases z : x ≤ y
    · rw [if_pos z] at c1
      rw [if_pos z, c1, bq, bq, c4]
    · rw [if_neg z] at c1
      rw [if_neg z, c1, bq, bq, c4]
/-- one value -/
theorem c_one {k a b c : Int} (hk : k = 4 ∨ k = 7) (h : STK s (L ++ [x])) (hl : L.length < 16384) (hn : nf s) (hx : w16 x) : ∃ s', mac_doCommand k a b c s = some (0, s') ∧ STK s' (L ++ [if k = 4 then i_s (-x) else i_xor x (-1)]) ∧ FS s s' := by
  obtain ⟨s1, a1, a2, a3⟩ := pop_ex h hl
  have go : ∀ z, ∃ s', mac_push z s1 = some (0, s') ∧ STK s' (L ++ [z]) ∧ FS s s' ∧ mac_doCommand_258 s' = some (0, s') := fun z => by
    obtain ⟨s', c1, c2, c3⟩ := push_ex (v := z) a2 (by omega)
    have f3 := FS_trans a3 c3
    exact ⟨s', c1, c2, f3, d258 (nf_fs hn f3).1 (nf_fs hn f3).2⟩
  rcases hk with q | q <;> subst q
  · obtain ⟨s', c1, c2, c3, c4⟩ := go (i_s (-x))
    refine ⟨s', ?_, by simpa using c2, c3⟩
    unfold mac_doCommand mac_calculate
    simp only [Int.reduceEq, ↓reduceIte]
    rw [gr (by omega), a1, bq, gr (by omega), c1, bq, bq, c4]
  · obtain ⟨s', c1, c2, c3, c4⟩ := go (i_xor x (-1))
    refine ⟨s', ?_, by simpa using c2, c3⟩
    unfold mac_doCommand mac_calculate
    simp only [Int.reduceEq, ↓reduceIte]
    rw [gr (by omega), a1, bq, gr (by omega), c1, bq, bq, c4]
/-- a value is taken -/
theorem c_pop {a b c : Int} {s2 : iS} (h : STK s (L ++ [x])) (hl : L.length < 16384) (ha : ∀ s1, STK s1 L → FS s s1 → ∃ s2, mac_assign a b c x s1 = some (0, s2) ∧ M.length = M.length ∧ nf s2) : ∃ s1 s2, STK s1 L ∧ FS s s1 ∧ mac_assign a b c x s1 = some (0, s2) ∧ mac_doCommand 1 a b c s = some (0, s2) := by
  obtain ⟨s1, a1, a2, a3⟩ := pop_ex h hl
  obtain ⟨s2, b1, _, b2⟩ := ha s1 a2 a3
  refine ⟨s1, s2, a2, a3, b1, ?_⟩
  unfold mac_doCommand
  simp only [Int.reduceEq, ↓reduceIte]
  rw [gr (by omega), a1, bq, b1, bq, d258 b2.1 b2.2]
theorem as_loc {a b c : Int} {k : Nat} (ha : a = 1 ∧ s 51 8 + b = (k : Int) ∨ a = 2 ∧ s 51 9 + b = (k : Int)) (hk : k < 16384) : mac_assign a b c x s = some (0, up s 52 k x) := by
  unfold mac_assign mac_putAt
  rcases ha with ⟨q, hb⟩ | ⟨q, hb⟩ <;> subst q
  · simp only [Int.reduceEq, ↓reduceIte]
    rw [gr (by omega), hb, gr (by omega), if_neg (by omega), if_neg (by omega), gd_pos (by omega), Int.toNat_natCast, lt_eq, bq]
  · simp only [Int.reduceEq, ↓reduceIte]
    rw [gr (by omega), hb, gr (by omega), if_neg (by omega), if_neg (by omega), gd_pos (by omega), Int.toNat_natCast, lt_eq, bq]
theorem as_sta {b : Int} {k : Nat} (hk : k < 12) : mac_assign 3 b (k : Int) x s = some (0, up s 54 k x) := by
  unfold mac_assign
  simp only [Int.reduceEq, ↓reduceIte]
  rw [gr (by omega), gr (by omega), if_neg (by omega), if_neg (by omega), gd_pos (by omega), Int.toNat_natCast, lt_eq]
theorem as_ptr {b c : Int} (hb : b = 0 ∨ b = 1) : mac_assign 6 b c x s = some (0, if b = 0 then up s 51 10 x else up s 51 11 x) := by
  unfold mac_assign
  simp only [Int.reduceEq, ↓reduceIte]
  rw [gr (by omega), gr (by omega)]
  split <;> rw [lt_eq]
theorem as_tmp {b c : Int} : mac_assign 7 b c x s = some (0, up s 51 12 x) := by
  unfold mac_assign
  simp only [Int.reduceEq, ↓reduceIte]
  rw [gr (by omega), lt_eq]
/-- a label, jumps -/
theorem c_lab {a b c : Int} (hn : nf s) : mac_doCommand 11 a b c s = some (0, s) := by
  unfold mac_doCommand
  simp only [Int.reduceEq, ↓reduceIte]
  rw [gr (by omega), d258 hn.1 hn.2]
theorem c_goto {a b c : Int} (hn : nf s) : mac_doCommand 12 a b c s = some (0, up s 51 7 c) := by
  unfold mac_doCommand
  simp only [Int.reduceEq, ↓reduceIte]
  rw [gr (by omega), lt_eq, d258 (by rw [up_ne (by omega)]; exact hn.1) (by rw [up_ne (by omega)]; exact hn.2)]
end RNh
