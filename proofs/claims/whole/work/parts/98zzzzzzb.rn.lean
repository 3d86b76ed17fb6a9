/-! run: beginnings and ends -/
section ROq
variable {s s' t t' : iS} {v a : Int} {n j : Nat}
/-- both loops end -/
theorem ex_end (h : 0 ≤ s 51 14 ∧ s 51 14 ≤ 3) (hv : 0 ≤ v ∧ v < 20000000) : mac_execute_77 v s = mac_execute_188 s := by
  unfold mac_execute_77
  rw [lp_end (f := fun l : Int × iS => mac_execute_77b (l.1) (l.2)) (e := s) (by
    show mac_execute_77b v s = _
    unfold mac_execute_77b
    rw [gr (by omega), if_neg (by omega), gr (by omega), if_neg (by omega)])]
  rfl
theorem rx_end (h : 0 ≤ t 121 99 ∧ t 121 99 ≤ 3) : m_run_141 t = m_run_156 t := by
  unfold m_run_141
  rw [lp_end (f := fun l : iS => m_run_141b l) (e := t) (by
    show m_run_141b t = _
    unfold m_run_141b
    rw [gr (by omega), if_neg (by omega)])]
  rfl
/-- the reference's words and statics are cleared -/
theorem ru_22 {M : Nat} (hM : M = 16512) : ∀ (n j : Nat) (t : iS), j + n = M → ∃ t', m_run_22 a (j : Int) t = m_run_42 a t' ∧ (∀ c k, ¬ (c = 175 ∧ j ≤ k ∧ k < M) → t' c k = t c k) ∧ ∀ k, j ≤ k → k < M → t' 175 k = 0 := by
  intro n
  induction n with
  | zero =>
    intro j t h
    refine ⟨t, ?_, fun _ _ _ => rfl, fun k h1 h2 => by omega⟩
    unfold m_run_22
    rw [lp_end (f := fun l : Int × iS => m_run_22b a (l.1) (l.2)) (e := t) (by
      show m_run_22b a (j : Int) t = _
      unfold m_run_22b
      rw [gr (by omega), if_pos (by omega)]), bn]
  | succ n ih =>
    intro j t h
    obtain ⟨t', i1, i2, i3⟩ := ih (j + 1) (up t 175 j 0) (by omega)
    refine ⟨t', ?_, fun c k z => by rw [i2 c k (by omega), up_ne (by omega)], fun k h1 h2 => ?_⟩
    · rw [← i1]
      unfold m_run_22
      rw [lp_next (f := fun l : Int × iS => m_run_22b a (l.1) (l.2)) (l' := (((j + 1 : Nat) : Int), up t 175 j 0)) (by
        show m_run_22b a (j : Int) t = _
        unfold m_run_22b
        rw [gr (by omega), if_neg (by omega), gd_pos (by omega), lt_eq, Int.toNat_natCast, show (j : Int) + 1 = ((j + 1 : Nat) : Int) by omega])]
    · by_cases c : k = j
      · subst c
        rw [i2 175 _ (by omega), up_same]
      · exact i3 k (by omega) h2
theorem ru_44 {M : Nat} (hM : M = 12) : ∀ (n j : Nat) (t : iS), j + n = M → ∃ t', m_run_44 a (j : Int) t = m_run_63 a t' ∧ (∀ c k, ¬ (c = 178 ∧ j ≤ k ∧ k < M) → t' c k = t c k) ∧ ∀ k, j ≤ k → k < M → t' 178 k = 0 := by
  intro n
  induction n with
  | zero =>
    intro j t h
    refine ⟨t, ?_, fun _ _ _ => rfl, fun k h1 h2 => by omega⟩
    unfold m_run_44
    rw [lp_end (f := fun l : Int × iS => m_run_44b a (l.1) (l.2)) (e := t) (by
      show m_run_44b a (j : Int) t = _
      unfold m_run_44b
      rw [gr (by omega), if_pos (by omega)]), bn]
  | succ n ih =>
    intro j t h
    obtain ⟨t', i1, i2, i3⟩ := ih (j + 1) (up t 178 j 0) (by omega)
    refine ⟨t', ?_, fun c k z => by rw [i2 c k (by omega), up_ne (by omega)], fun k h1 h2 => ?_⟩
    · rw [← i1]
      unfold m_run_44
      rw [lp_next (f := fun l : Int × iS => m_run_44b a (l.1) (l.2)) (l' := (((j + 1 : Nat) : Int), up t 178 j 0)) (by
        show m_run_44b a (j : Int) t = _
        unfold m_run_44b
        rw [gr (by omega), if_neg (by omega), gd_pos (by omega), lt_eq, Int.toNat_natCast, show (j : Int) + 1 = ((j + 1 : Nat) : Int) by omega])]
    · by_cases c : k = j
      · subst c
        rw [i2 178 _ (by omega), up_same]
      · exact i3 k (by omega) h2
/-- the reference begins -/
theorem ru_bg : ∃ t', m_run_22 a 0 t = bd (m_enter (t' 121 72) t') (fun _ z => m_run_141 z) ∧ (∀ c k, c ≠ 175 → c ≠ 178 → ¬ (c = 121 ∧ (k = 81 ∨ k = 87 ∨ k = 88 ∨ k = 89 ∨ k = 95 ∨ k = 96 ∨ k = 97 ∨ k = 98 ∨ k = 99 ∨ k = 100 ∨ k = 103 ∨ k = 106 ∨ k = 107 ∨ k = 108)) → t' c k = t c k) ∧ (∀ k, k < 16512 → t' 175 k = 0) ∧ (∀ k, k < 12 → t' 178 k = 0) ∧ (t' 121 81 = 0 ∧ t' 121 87 = 0 ∧ t' 121 88 = 0 ∧ t' 121 89 = 0 ∧ t' 121 95 = 0 ∧ t' 121 96 = 0 ∧ t' 121 97 = a) ∧ (t' 121 99 = -1 ∧ t' 121 100 = 0 ∧ t' 121 103 = 0 ∧ t' 121 106 = 0 ∧ t' 121 107 = 0 ∧ t' 121 108 = 1) := by
  obtain ⟨M, hM⟩ : ∃ M : Nat, M = 16512 := ⟨_, rfl⟩
  obtain ⟨M', hM'⟩ : ∃ M' : Nat, M' = 12 := ⟨_, rfl⟩
  obtain ⟨ta, a1, a2, a3⟩ := ru_22 (a := a) hM M 0 t (by omega)
  obtain ⟨tb, b1, b2, b3⟩ := ru_44 (a := a) hM' M' 0 ta (by omega)
  have e : m_run_22 a 0 t = m_run_63 a tb := by
    rw [← b1]
    have e42 : m_run_42 a ta = m_run_44 a ((0 : Nat) : Int) ta := by unfold m_run_42; rfl
    rw [← e42]
    exact a1
  have f : ∀ c k, c ≠ 175 → c ≠ 178 → tb c k = t c k := fun c k z1 z2 => by rw [b2 c k (by omega), a2 c k (by omega)]
  unfold m_run_63 at e
  rw [lt_eq, lt_eq, lt_eq, lt_eq, lt_eq, lt_eq, lt_eq, lt_eq, lt_eq, lt_eq, lt_eq, lt_eq, lt_eq, lt_eq] at e
  refine ⟨_, e, fun c k z1 z2 z3 => ?_, fun k hk => ?_, fun k hk => ?_, ⟨?_, ?_, ?_, ?_, ?_, ?_, ?_⟩, ⟨?_, ?_, ?_, ?_, ?_, ?_⟩⟩
  · rw [up_ne (by omega), up_ne (by omega), up_ne (by omega), up_ne (by omega), up_ne (by omega), up_ne (by omega), up_ne (by omega), up_ne (by omega), up_ne (by omega), up_ne (by omega), up_ne (by omega), up_ne (by omega), up_ne (by omega), up_ne (by omega), f c k z1 z2]
  · rw [up_ne (by omega), up_ne (by omega), up_ne (by omega), up_ne (by omega), up_ne (by omega), up_ne (by omega), up_ne (by omega), up_ne (by omega), up_ne (by omega), up_ne (by omega), up_ne (by omega), up_ne (by omega), up_ne (by omega), up_ne (by omega), b2 175 k (by omega), a3 k (by omega) (by omega)]
  · rw [up_ne (by omega), up_ne (by omega), up_ne (by omega), up_ne (by omega), up_ne (by omega), up_ne (by omega), up_ne (by omega), up_ne (by omega), up_ne (by omega), up_ne (by omega), up_ne (by omega), up_ne (by omega), up_ne (by omega), up_ne (by omega), b3 k (by omega) (by omega)]
  all_goals simp only [up, and_true, true_and, Nat.reduceEqDiff, ↓reduceIte, and_self, Nat.succ_ne_self, and_false, false_and, reduceCtorEq]
/-- the class begins -/
theorem ex_bg : ∃ s', mac_execute a s = bd (mac_enter (s 14 10) 0 s') (fun _ z => mac_execute_77 0 z) ∧ (∀ c k, c ≠ 44 → c ≠ 45 → c ≠ 48 → c ≠ 51 → c ≠ 54 → s' c k = s c k) ∧ (∀ i, s' 45 i = if i < 12416 then 0 else s 45 i) ∧ (∀ k, k < 12 → s' 54 k = 0) ∧ (s' 44 3 = 0 ∧ s' 44 4 = 0 ∧ s' 44 5 = 0 ∧ s' 44 6 = 0) ∧ (s' 48 3 = 0 ∧ s' 48 4 = 0 ∧ s' 48 5 = s 48 5 ∧ s' 48 6 = 0 ∧ s' 48 8 = 0 ∧ s' 48 9 = 0) ∧ (s' 51 6 = 0 ∧ s' 51 13 = 0 ∧ s' 51 14 = -1 ∧ s' 51 15 = a ∧ s' 51 16 = 0 ∧ s' 51 17 = 0 ∧ s' 51 18 = s 14 11) := by
  obtain ⟨s1, h1⟩ : ∃ s1, s1 = sr s 45 (fun i => if i < 12416 then 0 else s 45 i) := ⟨_, rfl⟩
  have f1 : ∀ c k, c ≠ 45 → s1 c k = s c k := fun c k z => by rw [h1, sr_ne z]
  have g1 : ∀ i, s1 45 i = if i < 12416 then 0 else s 45 i := fun i => by rw [h1, sr_at]
  obtain ⟨s2, h2⟩ : ∃ s2, s2 = up (up (up (up s1 44 3 0) 44 4 0) 44 5 0) 44 6 0 := ⟨_, rfl⟩
  obtain ⟨s3, h3⟩ : ∃ s3, s3 = up (up (up (up (up s2 48 3 0) 48 4 0) 48 6 0) 48 8 0) 48 9 0 := ⟨_, rfl⟩
  obtain ⟨s4, h4⟩ : ∃ s4, s4 = sr s3 54 (fun i => if i < 12 then 0 else s3 54 i) := ⟨_, rfl⟩
  have e1 : mem_clear s = some (0, s2) := by
    unfold mem_clear
    rw [fill_ok (by omega), ← h1, bq, lt_eq, lt_eq, lt_eq, lt_eq, ← h2]
  have e2 : lib_beginRun s2 = some (0, s3) := by
    unfold lib_beginRun
    rw [lt_eq, lt_eq, lt_eq, lt_eq, lt_eq, ← h3]
  have e3 : arr_fill 54 12 0 s3 = some (0, s4) := by rw [fill_ok (by omega), ← h4]
  obtain ⟨s5, h5⟩ : ∃ s5, s5 = up (up (up (up (up (up s4 51 6 0) 51 13 0) 51 16 0) 51 17 0) 51 15 a) 51 14 (-1) := ⟨_, rfl⟩
  have f2 : ∀ c k, c ≠ 44 → s2 c k = s1 c k := fun c k z => by rw [h2, up_ne (by omega), up_ne (by omega), up_ne (by omega), up_ne (by omega)]
  have f3 : ∀ c k, c ≠ 48 → s3 c k = s2 c k := fun c k z => by rw [h3, up_ne (by omega), up_ne (by omega), up_ne (by omega), up_ne (by omega), up_ne (by omega)]
  have f4 : ∀ c k, c ≠ 54 → s4 c k = s3 c k := fun c k z => by rw [h4, sr_ne z]
  have f5 : ∀ c k, c ≠ 51 → s5 c k = s4 c k := fun c k z => by rw [h5, up_ne (by omega), up_ne (by omega), up_ne (by omega), up_ne (by omega), up_ne (by omega), up_ne (by omega)]
  have e : mac_execute a s = bd (mac_enter (up s5 51 18 (s5 14 11) 14 10) 0 (up s5 51 18 (s5 14 11))) (fun _ z => mac_execute_77 0 z) := by
    unfold mac_execute
    rw [e1, bq, e2, bq, e3, bq, lt_eq, lt_eq, lt_eq, lt_eq, lt_eq, lt_eq, ← h5, lt_eq]
  have e14 : ∀ k, s5 14 k = s 14 k := fun k => by rw [f5 14 k (by omega), f4 14 k (by omega), f3 14 k (by omega), f2 14 k (by omega), f1 14 k (by omega)]
  rw [up_ne (by omega), e14, e14] at e
  refine ⟨up s5 51 18 (s 14 11), e, fun c k z1 z2 z3 z4 z5 => ?_, fun i => ?_, fun k hk => ?_, ⟨?_, ?_, ?_, ?_⟩, ⟨?_, ?_, ?_, ?_, ?_, ?_⟩, ⟨?_, ?_, ?_, ?_, ?_, ?_, up_same _ _ _ _⟩⟩
  · rw [up_ne (by omega), f5 c k z4, f4 c k z5, f3 c k z3, f2 c k z1, f1 c k z2]
  · rw [up_ne (by omega), f5 45 i (by omega), f4 45 i (by omega), f3 45 i (by omega), f2 45 i (by omega), g1]
  · rw [up_ne (by omega), f5 54 k (by omega), h4, sr_at, if_pos hk]
  all_goals rw [up_ne (by omega)]
  · rw [f5 44 _ (by omega), f4 44 _ (by omega), f3 44 _ (by omega), h2, up_ne (by omega), up_ne (by omega), up_ne (by omega), up_same]
  · rw [f5 44 _ (by omega), f4 44 _ (by omega), f3 44 _ (by omega), h2, up_ne (by omega), up_ne (by omega), up_same]
  · rw [f5 44 _ (by omega), f4 44 _ (by omega), f3 44 _ (by omega), h2, up_ne (by omega), up_same]
  · rw [f5 44 _ (by omega), f4 44 _ (by omega), f3 44 _ (by omega), h2, up_same]
  · rw [f5 48 _ (by omega), f4 48 _ (by omega), h3, up_ne (by omega), up_ne (by omega), up_ne (by omega), up_ne (by omega), up_same]
  · rw [f5 48 _ (by omega), f4 48 _ (by omega), h3, up_ne (by omega), up_ne (by omega), up_ne (by omega), up_same]
  · rw [f5 48 _ (by omega), f4 48 _ (by omega), h3, up_ne (by omega), up_ne (by omega), up_ne (by omega), up_ne (by omega), up_ne (by omega), f2 48 _ (by omega), f1 48 _ (by omega)]
  · rw [f5 48 _ (by omega), f4 48 _ (by omega), h3, up_ne (by omega), up_ne (by omega), up_same]
  · rw [f5 48 _ (by omega), f4 48 _ (by omega), h3, up_ne (by omega), up_same]
  · rw [f5 48 _ (by omega), f4 48 _ (by omega), h3, up_same]
  · rw [h5, up_ne (by omega), up_ne (by omega), up_ne (by omega), up_ne (by omega), up_ne (by omega), up_same]
  · rw [h5, up_ne (by omega), up_ne (by omega), up_ne (by omega), up_ne (by omega), up_same]
  · rw [h5, up_same]
  · rw [h5, up_ne (by omega), up_same]
  · rw [h5, up_ne (by omega), up_ne (by omega), up_ne (by omega), up_same]
  · rw [h5, up_ne (by omega), up_ne (by omega), up_same]
theorem sm_tk {D : List (Nat × Nat)} {f : Nat → Int} (h : ∀ i, i < D.length → f i = ((D.getD i (0, 0)).2 : Int)) : ∀ n, n ≤ D.length → sm f n = (sml (D.take n) : Int)
  | 0, _ => rfl
  | n + 1, hn => by
    have e : (D.getD n (0, 0)) = D[n]'(by omega) := by
      rw [List.getD_eq_getElem?_getD, List.getElem?_eq_getElem (by omega)]
      rfl
    show sm f n + f n = _
    rw [sm_tk h n (by omega), h n (by omega), List.take_succ_eq_append_getElem (by omega), e]
    unfold sml
    rw [List.map_append, List.sum_append]
    simp
theorem sm_sml {D : List (Nat × Nat)} {f : Nat → Int} (h : ∀ i, i < D.length → f i = ((D.getD i (0, 0)).2 : Int)) : sm f D.length = (sml D : Int) := by
  rw [sm_tk h D.length (Nat.le_refl _), List.take_length]
end ROq
