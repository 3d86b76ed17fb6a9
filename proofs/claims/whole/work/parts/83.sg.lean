/-! signs: what is read off the text, class and reference -/
abbrev bl (x : Int) : Prop := x = 32 ∨ x = 9 ∨ x = 13
abbrev dg (x : Int) : Prop := 48 ≤ x ∧ x ≤ 57
abbrev ly (x : Int) : Prop := 97 ≤ x ∧ x ≤ 122 ∨ 65 ≤ x ∧ x ≤ 90
abbrev sy (x : Int) : Prop := ly x ∨ dg x ∨ x = 95 ∨ x = 46 ∨ x = 36 ∨ x = 58
abbrev cmt (T : Nat → Int) (n j : Nat) : Prop := j + 1 < n ∧ T j = 47 ∧ T (j + 1) = 47
abbrev spt (T : Nat → Int) (n j : Nat) : Prop := bl (T j) ∨ T j = 10 ∨ cmt T n j
abbrev BY (f : Nat → Int) : Prop := ∀ k, 0 ≤ f k ∧ f k < 256
section CH
variable {v : Int} {s t : iS} {n i j : Nat}
theorem xdy (h : dg v) : x_isDigit v s = some (1, s) := by rw [dig_ok ⟨by omega, by omega⟩, if_pos h]
theorem xdn (hv : rg v) (h : ¬ dg v) : x_isDigit v s = some (0, s) := by rw [dig_ok hv, if_neg h]
theorem mdy (h : dg v) : m_isDigit v s = some (1, s) := by rw [mdig_ok ⟨by omega, by omega⟩, if_pos h]
theorem mdn (hv : rg v) (h : ¬ dg v) : m_isDigit v s = some (0, s) := by rw [mdig_ok hv, if_neg h]
theorem xly (h : ly v) : x_isLetter v s = some (1, s) := by rw [let_ok ⟨by omega, by omega⟩, if_pos h]
theorem xln (hv : rg v) (h : ¬ ly v) : x_isLetter v s = some (0, s) := by rw [let_ok hv, if_neg h]
theorem mly (h : ly v) : m_isLetter v s = some (1, s) := by rw [mlet_ok ⟨by omega, by omega⟩, if_pos h]
theorem mln (hv : rg v) (h : ¬ ly v) : m_isLetter v s = some (0, s) := by rw [mlet_ok hv, if_neg h]
theorem pby (h : bl v) : pro_isBlank v s = some (1, s) := by
  unfold pro_isBlank
  rcases h with h | h | h <;> subst h <;> rfl
theorem pbn (hv : rg v) (h : ¬ bl v) : pro_isBlank v s = some (0, s) := by
  unfold pro_isBlank
  rw [gd_pos hv, if_neg (by omega), if_neg (by omega), if_neg (by omega)]
theorem mby (h : bl v) : m_isBlank v s = some (1, s) := by
  unfold m_isBlank
  rcases h with h | h | h <;> subst h <;> rfl
theorem mbn (hv : rg v) (h : ¬ bl v) : m_isBlank v s = some (0, s) := by
  unfold m_isBlank
  rw [gd_pos hv, if_neg (by omega), if_neg (by omega), if_neg (by omega)]
theorem e1n (j : Nat) : ((j : Int) + 1).toNat = j + 1 := by omega
theorem sbl_ok (h13 : s 55 13 = n) (hn : n ≤ 4000) (hb : BY (s 1)) (hi : i ≤ n) : pro_skipBlanks (i : Int) s = some (((scn (fun j => ¬ bl (s 1 j)) i (n - i) : Nat) : Int), s) := by
  unfold pro_skipBlanks pro_skipBlanks_2
  rw [lp_sc1 (P := fun j => ¬ bl (s 1 j)) (fun j : Nat => ((j : Int), s)) (fun j : Nat => ((j : Int), s)) n (fun j hj => by
    have a := hb j
    simp only [pro_skipBlanks_2b, Int.toNat_natCast]
    rw [gr (by omega), gr (by omega), if_neg (by omega), gd_pos (by omega)]
    by_cases c : bl (s 1 j)
    · rw [pby c, bq, gr (by omega), if_neg (by omega), if_neg (fun q => q c)]
      rfl
    · rw [pbn ⟨by omega, by omega⟩ c, bq, gr (by omega), if_pos rfl, if_pos c]) (by
    simp only [pro_skipBlanks_2b]
    rw [gr (by omega), gr (by omega), if_pos (by omega)]) i hi]
  rfl
theorem pcy (h13 : s 55 13 = n) (hn : n ≤ 4000) (c : cmt (s 1) n j) : pro_isComment (j : Int) s = some (1, s) := by
  obtain ⟨c1, c2, c3⟩ := c
  unfold pro_isComment
  simp only [Int.toNat_natCast, e1n, c2, c3]
  rw [gr (by omega), gr (by omega), if_neg (by omega), gd_pos (by omega), gr (by omega), if_pos (by trivial), gd_pos (by omega), gr (by omega), if_pos (by trivial)]
theorem pcn (h13 : s 55 13 = n) (hn : n ≤ 4000) (hj : j < n) (hb : BY (s 1)) (c : ¬ cmt (s 1) n j) : pro_isComment (j : Int) s = some (0, s) := by
  have a := hb j
  have b := hb (j + 1)
  unfold pro_isComment
  simp only [Int.toNat_natCast, e1n]
  rw [gr (by omega), gr (by omega)]
  by_cases c1 : j + 1 < n
  · rw [if_neg (by omega), gd_pos (by omega), gr (by omega)]
    by_cases c2 : s 1 j = 47
    · rw [if_pos c2, gd_pos (by omega), gr (by omega), if_neg (fun q => c ⟨c1, c2, q⟩)]
    · rw [if_neg c2]
  · rw [if_pos (by omega)]
theorem ien_ok (h13 : s 55 13 = n) (hn : n ≤ 4000) (hb : BY (s 1)) (hi : i ≤ n) : pro_instructionEnd (i : Int) s = some (((scn (fun j => spt (s 1) n j) i (n - i) : Nat) : Int), s) := by
  unfold pro_instructionEnd pro_instructionEnd_2
  rw [lp_sc1 (P := fun j => spt (s 1) n j) (fun j : Nat => ((j : Int), s)) (fun j : Nat => ((j : Int), s)) n (fun j hj => by
    have a := hb j
    simp only [pro_instructionEnd_2b, Int.toNat_natCast]
    rw [gr (by omega), gr (by omega), if_neg (by omega), gd_pos (by omega)]
    by_cases c : bl (s 1 j)
    · rw [pby c, bq, gr (by omega), if_neg (by omega), if_pos (Or.inl c)]
    · rw [pbn ⟨by omega, by omega⟩ c, bq, gr (by omega), if_pos rfl, gr (by omega)]
      by_cases c2 : s 1 j = 10
      · rw [if_pos c2, if_pos (Or.inr (Or.inl c2))]
      · rw [if_neg c2]
        by_cases c3 : cmt (s 1) n j
        · rw [pcy h13 hn c3, bq, gr (by omega), if_neg (by omega), if_pos (Or.inr (Or.inr c3))]
        · rw [pcn h13 hn hj hb c3, bq, gr (by omega), if_pos rfl, if_neg (fun q => q.elim c (fun q => q.elim c2 c3))]
          rfl) (by
    simp only [pro_instructionEnd_2b]
    rw [gr (by omega), gr (by omega), if_pos (by omega)]) i hi]
  rfl
theorem rle_ok (h13 : s 55 13 = n) (hn : n ≤ 4000) (hb : BY (s 1)) (hi : i ≤ n) : pro_readLine_51 (i : Int) s = some (((scn (fun j => s 1 j = 10) i (n - i) + 1 : Nat) : Int), s) := by
  unfold pro_readLine_51
  rw [lp_sc1 (P := fun j => s 1 j = 10) (fun j : Nat => ((j : Int), s)) (fun j : Nat => ((j : Int), s)) n (fun j hj => by
    have a := hb j
    simp only [pro_readLine_51b, Int.toNat_natCast]
    rw [gr (by omega), gr (by omega), if_neg (by omega), gd_pos (by omega), gr (by omega)]
    rfl) (by
    simp only [pro_readLine_51b]
    rw [gr (by omega), gr (by omega), if_pos (by omega)]) i hi]
  rfl
/-- where a sign first stands -/
theorem pfi_ok {c : Int} {a k : Nat} (hc : rg c) (hn : a + k ≤ 4000) (hb : BY (s 1)) : pro_find c (a : Int) ((a + k : Nat) : Int) s = some (if scn (fun j => s 1 j = c) a k < a + k then ((scn (fun j => s 1 j = c) a k : Nat) : Int) else -1, s) := by
  unfold pro_find pro_find_3
  rw [lp_scn (P := fun j => s 1 j = c) (fun j : Nat => ((j : Int), s)) (fun j : Nat => Sum.inl ((j : Int), s)) (Sum.inr s) (a + k) (fun j hj => by
    have a := hb j
    simp only [pro_find_3b, Int.toNat_natCast]
    rw [gr (by omega), gr (by omega), if_neg (by omega), gd_pos (by omega), gr (by omega), gd_pos hc]
    rfl) (by
    simp only [pro_find_3b]
    rw [gr (by omega), gr (by omega), if_pos (by omega)]) k a rfl, bn]
  by_cases c1 : scn (fun j => s 1 j = c) a k < a + k
  · rw [if_pos c1, if_pos c1]
    rfl
  · rw [if_neg c1, if_neg c1]
    rfl
/-- a symbol -/
def isY (f : Nat → Int) (st n : Nat) : Prop := 1 ≤ n ∧ n ≤ 16 ∧ ¬ dg (f st) ∧ ∀ k, k < n → sy (f (st + k))
theorem isY_gw {f : Nat → Int} {st n : Nat} (h : isY f st n) : gw (bs f st n) := by
  refine ⟨by rw [bs_len]; exact h.2.1, by rw [bs_len]; exact h.1, fun x hx => ?_⟩
  obtain ⟨k, hk, rfl⟩ := bs_mem hx
  have := h.2.2.2 k hk
  unfold sy ly dg at this
  omega
theorem isY_eq {f g : Nat → Int} {st n : Nat} (h : ∀ k, k < n → f (st + k) = g (st + k)) : isY f st n → isY g st n := by
  rintro ⟨a, b, c, d⟩
  have h0 : f st = g st := h 0 (by omega)
  exact ⟨a, b, by rw [← h0]; exact c, fun k hk => by rw [← h k hk]; exact d k hk⟩
end CH
