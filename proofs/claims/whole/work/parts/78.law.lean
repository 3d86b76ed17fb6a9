/-! the law, out of what holds of each method; printed by wip/whole/law.py -/
theorem l_cmp_self (x : Int) : l_cmp x x = 0 := by
  unfold l_cmp lg_cmp
  rw [if_neg (Int64.lt_irrefl), if_pos rfl]
  rfl
/-- both answer alike, and the relation goes on -/
def okI (x m : iS → Option (Int × iS)) (Q Q' : iS → Prop) : Prop := ∀ s, Q s → ∃ r s1 s2, x s = some (r, s1) ∧ m s1 = some (r, s2) ∧ rg r ∧ Q' s2
def okL (x m : iS → Option (Int × iS)) (Q Q' : iS → Prop) : Prop := ∀ s, Q s → ∃ r s1 s2, x s = some (r, s1) ∧ m s1 = some (r, s2) ∧ True ∧ Q' s2
theorem i32_rg (x : Int32) : rg x.toInt := ⟨Int32.le_toInt _, Int32.toInt_lt _⟩
def allOk (Q : Nat → iS → Prop) : Prop := ∀ n, n < 512 → (∀ s, Q n s → Q (n + 1) s) ∧ (∀ a b c d e : Int, rg a → rg b → rg c → rg d → rg e → okI (x_feed a b c d e) (m_feed a b c d e) (Q n) (Q (n + 1))) ∧ (∀ a : Int, rg a → okI (x_load a) (m_load a) (Q n) (Q (n + 1))) ∧ (∀ a : Int, rg a → okI (x_keys a) (m_keys a) (Q n) (Q (n + 1))) ∧ (∀ a : Int, rg a → okI (x_run a) (m_run a) (Q n) (Q (n + 1))) ∧ (okI (x_place) (m_place) (Q n) (Q (n + 1))) ∧ (okI (x_error) (m_error) (Q n) (Q (n + 1))) ∧ (okL (x_fetch) (m_fetch) (Q n) (Q (n + 1))) ∧ (∀ a : Int, rg a → okL (x_row a) (m_row a) (Q n) (Q (n + 1))) ∧ (∀ a : Int, rg a → okI (x_word a) (m_word a) (Q n) (Q (n + 1))) ∧ (∀ a : Int, rg a → okI (x_count a) (m_count a) (Q n) (Q (n + 1))) ∧ (∀ a b : Int, rg a → rg b → okI (x_command a b) (m_command_369 a b) (Q n) (Q (n + 1))) ∧ (∀ a : Int, rg a → okI (x_signs a) (m_signs a) (Q n) (Q (n + 1))) ∧ (∀ a : Int, rg a → okI (x_code a) (m_code a) (Q n) (Q (n + 1))) ∧ (∀ a : Int, rg a → okI (x_go a) (m_go_436 a) (Q n) (Q (n + 1))) ∧ (∀ a b : Int, rg a → rg b → okI (x_set a b) (m_set a b) (Q n) (Q (n + 1))) ∧ (∀ a : Int, rg a → okI (x_store a) (m_store a) (Q n) (Q (n + 1))) ∧ (∀ a : Int, rg a → okI (x_register a) (m_register a) (Q n) (Q (n + 1))) ∧ (∀ a : Int, rg a → okI (x_chips a) (m_chips a) (Q n) (Q (n + 1))) ∧ (∀ a b : Int, rg a → rg b → okI (x_drive a b) (m_drive a b) (Q n) (Q (n + 1))) ∧ (∀ a : Int, rg a → okI (x_pin a) (m_pin a) (Q n) (Q (n + 1))) ∧ (okI (x_tick) (m_tick) (Q n) (Q (n + 1))) ∧ (∀ a : Int, rg a → okI (x_gates a) (m_gates a) (Q n) (Q (n + 1)))
theorem law_ok {Q : Nat → iS → Prop} (h : allOk Q) {L : Nat} (hL : L ≤ 3072) (xs : Nat → Int32) {s : iS} (hs : Q 0 s) : ∃ s', law_16 L xs s = some (1, s') := by
  unfold law_16 law_18
  obtain ⟨e, he, s0, h1⟩ := wp_lp (f := fun l : Int × iS => law_18b L xs (l.1) (l.2)) (R := fun e => ∃ s0, e = (.inr (.inr (.inr (.inr (.inr (.inr (.inr (.inr (.inr (.inr (.inr (.inr (.inr (.inr (.inr (.inr (.inr (.inr (.inr (.inr (.inr (.inr s0))))))))))))))))))))))) (fun l : Int × iS => ∃ n : Nat, l.1 = ((6 * n : Nat) : Int) ∧ n ≤ 512 ∧ Q n l.2) (fun l => ((L : Int) + 6 - l.1).toNat) (by
    rintro ⟨p, u⟩ ⟨n, i1, i2, i3⟩
    simp only at i1 i3
    subst i1
    simp only [law_18b]
    rw [gd_pos (show rg ((6 * n : Nat) : Int) from ⟨by omega, by omega⟩), gd_pos (show rg ((L : Int) - 6) from ⟨by omega, by omega⟩), wp_ite]
    refine ⟨fun c => wp_some.mpr ⟨u, rfl⟩, fun c => ?_⟩
    have hn : n < 512 := by omega
    have nx : ∀ s', Q (n + 1) s' → (∃ n' : Nat, ((6 * n : Nat) : Int) + 6 = ((6 * n' : Nat) : Int) ∧ n' ≤ 512 ∧ Q n' s') ∧ ((L : Int) + 6 - (((6 * n : Nat) : Int) + 6)).toNat < ((L : Int) + 6 - ((6 * n : Nat) : Int)).toNat := fun s' q => ⟨⟨n + 1, by omega, by omega, q⟩, by omega⟩
    obtain ⟨h0, q0, q1, q2, q3, q4, q5, q6, q7, q8, q9, q10, q11, q12, q13, q14, q15, q16, q17, q18, q19, q20, q21⟩ := h n hn
    rw [gd_pos (by omega), gd_pos (i_and_rg _ _)]
    by_cases c0 : i_and ((xs (((6 * n : Nat) : Int)).toNat).toInt) 31 = 0
    · obtain ⟨r, s1, s2, e1, e2, e3, e4⟩ := q0 _ _ _ _ _ (i32_rg _) (i32_rg _) (i32_rg _) (i32_rg _) (i32_rg _) u i3
      rw [if_pos c0, gd_pos (by omega), gd_pos (by omega), gd_pos (by omega), gd_pos (by omega), gd_pos (by omega), e1, bd_some, e2, bd_some, gd_pos e3, gd_pos e3, if_pos rfl]
      exact wp_some.mpr (nx s2 e4)
    rw [if_neg c0]
    by_cases c1 : i_and ((xs (((6 * n : Nat) : Int)).toNat).toInt) 31 = 1
    · obtain ⟨r, s1, s2, e1, e2, e3, e4⟩ := q1 _ (i32_rg _) u i3
      rw [if_pos c1, gd_pos (by omega), e1, bd_some, e2, bd_some, gd_pos e3, gd_pos e3, if_pos rfl]
      exact wp_some.mpr (nx s2 e4)
    rw [if_neg c1]
    by_cases c2 : i_and ((xs (((6 * n : Nat) : Int)).toNat).toInt) 31 = 2
    · obtain ⟨r, s1, s2, e1, e2, e3, e4⟩ := q2 _ (i32_rg _) u i3
      rw [if_pos c2, gd_pos (by omega), e1, bd_some, e2, bd_some, gd_pos e3, gd_pos e3, if_pos rfl]
      exact wp_some.mpr (nx s2 e4)
    rw [if_neg c2]
    by_cases c3 : i_and ((xs (((6 * n : Nat) : Int)).toNat).toInt) 31 = 3
    · obtain ⟨r, s1, s2, e1, e2, e3, e4⟩ := q3 _ (i32_rg _) u i3
      rw [if_pos c3, gd_pos (by omega), e1, bd_some, e2, bd_some, gd_pos e3, gd_pos e3, if_pos rfl]
      exact wp_some.mpr (nx s2 e4)
    rw [if_neg c3]
    by_cases c4 : i_and ((xs (((6 * n : Nat) : Int)).toNat).toInt) 31 = 4
    · obtain ⟨r, s1, s2, e1, e2, e3, e4⟩ := q4  u i3
      rw [if_pos c4, e1, bd_some, e2, bd_some, gd_pos e3, gd_pos e3, if_pos rfl]
      exact wp_some.mpr (nx s2 e4)
    rw [if_neg c4]
    by_cases c5 : i_and ((xs (((6 * n : Nat) : Int)).toNat).toInt) 31 = 5
    · obtain ⟨r, s1, s2, e1, e2, e3, e4⟩ := q5  u i3
      rw [if_pos c5, e1, bd_some, e2, bd_some, gd_pos e3, gd_pos e3, if_pos rfl]
      exact wp_some.mpr (nx s2 e4)
    rw [if_neg c5]
    by_cases c6 : i_and ((xs (((6 * n : Nat) : Int)).toNat).toInt) 31 = 6
    · obtain ⟨r, s1, s2, e1, e2, e3, e4⟩ := q6  u i3
      rw [if_pos c6, e1, bd_some, e2, bd_some, l_cmp_self, gd_pos (by decide), if_pos rfl]
      exact wp_some.mpr (nx s2 e4)
    rw [if_neg c6]
    by_cases c7 : i_and ((xs (((6 * n : Nat) : Int)).toNat).toInt) 31 = 7
    · obtain ⟨r, s1, s2, e1, e2, e3, e4⟩ := q7 _ (i32_rg _) u i3
      rw [if_pos c7, gd_pos (by omega), e1, bd_some, e2, bd_some, l_cmp_self, gd_pos (by decide), if_pos rfl]
      exact wp_some.mpr (nx s2 e4)
    rw [if_neg c7]
    by_cases c8 : i_and ((xs (((6 * n : Nat) : Int)).toNat).toInt) 31 = 8
    · obtain ⟨r, s1, s2, e1, e2, e3, e4⟩ := q8 _ (i32_rg _) u i3
      rw [if_pos c8, gd_pos (by omega), e1, bd_some, e2, bd_some, gd_pos e3, gd_pos e3, if_pos rfl]
      exact wp_some.mpr (nx s2 e4)
    rw [if_neg c8]
    by_cases c9 : i_and ((xs (((6 * n : Nat) : Int)).toNat).toInt) 31 = 9
    · obtain ⟨r, s1, s2, e1, e2, e3, e4⟩ := q9 _ (i32_rg _) u i3
      rw [if_pos c9, gd_pos (by omega), e1, bd_some, e2, bd_some, gd_pos e3, gd_pos e3, if_pos rfl]
      exact wp_some.mpr (nx s2 e4)
    rw [if_neg c9]
    by_cases c10 : i_and ((xs (((6 * n : Nat) : Int)).toNat).toInt) 31 = 10
    · obtain ⟨r, s1, s2, e1, e2, e3, e4⟩ := q10 _ _ (i32_rg _) (i32_rg _) u i3
      rw [if_pos c10, gd_pos (by omega), gd_pos (by omega), e1, bd_some, e2, bd_some, gd_pos e3, gd_pos e3, if_pos rfl]
      exact wp_some.mpr (nx s2 e4)
    rw [if_neg c10]
    by_cases c11 : i_and ((xs (((6 * n : Nat) : Int)).toNat).toInt) 31 = 11
    · obtain ⟨r, s1, s2, e1, e2, e3, e4⟩ := q11 _ (i32_rg _) u i3
      rw [if_pos c11, gd_pos (by omega), e1, bd_some, e2, bd_some, gd_pos e3, gd_pos e3, if_pos rfl]
      exact wp_some.mpr (nx s2 e4)
    rw [if_neg c11]
    by_cases c12 : i_and ((xs (((6 * n : Nat) : Int)).toNat).toInt) 31 = 12
    · obtain ⟨r, s1, s2, e1, e2, e3, e4⟩ := q12 _ (i32_rg _) u i3
      rw [if_pos c12, gd_pos (by omega), e1, bd_some, e2, bd_some, gd_pos e3, gd_pos e3, if_pos rfl]
      exact wp_some.mpr (nx s2 e4)
    rw [if_neg c12]
    by_cases c13 : i_and ((xs (((6 * n : Nat) : Int)).toNat).toInt) 31 = 13
    · obtain ⟨r, s1, s2, e1, e2, e3, e4⟩ := q13 _ (i32_rg _) u i3
      rw [if_pos c13, gd_pos (by omega), e1, bd_some, e2, bd_some, gd_pos e3, gd_pos e3, if_pos rfl]
      exact wp_some.mpr (nx s2 e4)
    rw [if_neg c13]
    by_cases c14 : i_and ((xs (((6 * n : Nat) : Int)).toNat).toInt) 31 = 14
    · obtain ⟨r, s1, s2, e1, e2, e3, e4⟩ := q14 _ _ (i32_rg _) (i32_rg _) u i3
      rw [if_pos c14, gd_pos (by omega), gd_pos (by omega), e1, bd_some, e2, bd_some, gd_pos e3, gd_pos e3, if_pos rfl]
      exact wp_some.mpr (nx s2 e4)
    rw [if_neg c14]
    by_cases c15 : i_and ((xs (((6 * n : Nat) : Int)).toNat).toInt) 31 = 15
    · obtain ⟨r, s1, s2, e1, e2, e3, e4⟩ := q15 _ (i32_rg _) u i3
      rw [if_pos c15, gd_pos (by omega), e1, bd_some, e2, bd_some, gd_pos e3, gd_pos e3, if_pos rfl]
      exact wp_some.mpr (nx s2 e4)
    rw [if_neg c15]
    by_cases c16 : i_and ((xs (((6 * n : Nat) : Int)).toNat).toInt) 31 = 16
    · obtain ⟨r, s1, s2, e1, e2, e3, e4⟩ := q16 _ (i32_rg _) u i3
      rw [if_pos c16, gd_pos (by omega), e1, bd_some, e2, bd_some, gd_pos e3, gd_pos e3, if_pos rfl]
      exact wp_some.mpr (nx s2 e4)
    rw [if_neg c16]
    by_cases c17 : i_and ((xs (((6 * n : Nat) : Int)).toNat).toInt) 31 = 17
    · obtain ⟨r, s1, s2, e1, e2, e3, e4⟩ := q17 _ (i32_rg _) u i3
      rw [if_pos c17, gd_pos (by omega), e1, bd_some, e2, bd_some, gd_pos e3, gd_pos e3, if_pos rfl]
      exact wp_some.mpr (nx s2 e4)
    rw [if_neg c17]
    by_cases c18 : i_and ((xs (((6 * n : Nat) : Int)).toNat).toInt) 31 = 18
    · obtain ⟨r, s1, s2, e1, e2, e3, e4⟩ := q18 _ _ (i32_rg _) (i32_rg _) u i3
      rw [if_pos c18, gd_pos (by omega), gd_pos (by omega), e1, bd_some, e2, bd_some, gd_pos e3, gd_pos e3, if_pos rfl]
      exact wp_some.mpr (nx s2 e4)
    rw [if_neg c18]
    by_cases c19 : i_and ((xs (((6 * n : Nat) : Int)).toNat).toInt) 31 = 19
    · obtain ⟨r, s1, s2, e1, e2, e3, e4⟩ := q19 _ (i32_rg _) u i3
      rw [if_pos c19, gd_pos (by omega), e1, bd_some, e2, bd_some, gd_pos e3, gd_pos e3, if_pos rfl]
      exact wp_some.mpr (nx s2 e4)
    rw [if_neg c19]
    by_cases c20 : i_and ((xs (((6 * n : Nat) : Int)).toNat).toInt) 31 = 20
    · obtain ⟨r, s1, s2, e1, e2, e3, e4⟩ := q20  u i3
      rw [if_pos c20, e1, bd_some, e2, bd_some, gd_pos e3, gd_pos e3, if_pos rfl]
      exact wp_some.mpr (nx s2 e4)
    rw [if_neg c20]
    by_cases c21 : i_and ((xs (((6 * n : Nat) : Int)).toNat).toInt) 31 = 21
    · obtain ⟨r, s1, s2, e1, e2, e3, e4⟩ := q21 _ (i32_rg _) u i3
      rw [if_pos c21, gd_pos (by omega), e1, bd_some, e2, bd_some, gd_pos e3, gd_pos e3, if_pos rfl]
      exact wp_some.mpr (nx s2 e4)
    rw [if_neg c21]
    exact wp_some.mpr (nx u (h0 u i3))) (l := (0, s)) ⟨0, rfl, by omega, hs⟩
  rw [he, h1]
  exact ⟨s0, rfl⟩
