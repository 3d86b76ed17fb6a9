/-! tokens: both read a text alike -/
theorem up_up {s : iS} {c k : Nat} {x y : Int} : up (up s c k x) c k y = up s c k y := by
  funext c' k'
  simp only [up_at]
  split <;> rfl
theorem up_id {s : iS} {c k : Nat} : up s c k (s c k) = s := by
  funext c' k'
  simp only [up_at]
  split
  · rename_i h; rw [h.1, h.2]
  · rfl
/-- byte i of a text of n bytes; -1 behind it -/
def cAt (F : Nat → Int) (n i : Nat) : Int := if i < n then F i else -1
/-- the text as the class sees it, and as the reference does -/
def tkC (F : Nat → Int) (n : Nat) (s : iS) : Prop := s 2 9 = (n : Int) ∧ n ≤ 4000 ∧ (∀ i, i < n → s 1 i = F i) ∧ BY (s 1) ∧ BY F
def tkR (F : Nat → Int) (n : Nat) (t : iS) : Prop := t 121 3 = (n : Int) ∧ n ≤ 4000 ∧ (∀ i, i < n → t 123 i = F i) ∧ BY (t 123) ∧ BY F
abbrev wb (x : Int) : Prop := ly x ∨ dg x ∨ x = 95
section TK1
variable {F : Nat → Int} {n k i j : Nat} {s t : iS} {x : Int}
theorem cAt_lt (h : i < n) : cAt F n i = F i := if_pos h
theorem cAt_ge (h : n ≤ i) : cAt F n i = -1 := if_neg (by omega)
theorem cAt_rg (hb : BY F) : -1 ≤ cAt F n i ∧ cAt F n i < 256 := by
  have := hb i
  unfold cAt
  split <;> omega
theorem tkC_of {s' : iS} (h9 : s' 2 9 = s 2 9) (h1 : s' 1 = s 1) (h : tkC F n s) : tkC F n s' := by
  unfold tkC at h ⊢
  rw [h9, h1]
  exact h
theorem tkR_of {t' : iS} (h3 : t' 121 3 = t 121 3) (h1 : t' 123 = t 123) (h : tkR F n t) : tkR F n t' := by
  unfold tkR at h ⊢
  rw [h3, h1]
  exact h
theorem tkC_up (h : tkC F n s) : tkC F n (up s 2 10 x) := tkC_of (up_ne (by omega)) (up_cell (by decide)) h
theorem tba (h : tkC F n s) (hi : i < 1000000) : tok_byteAt (i : Int) s = some (cAt F n i, s) := by
  obtain ⟨h1, h2, h3, _, _⟩ := h
  unfold tok_byteAt
  rw [gr (by omega), if_neg (by omega), gr (by omega)]
  by_cases c : i < n
  · rw [if_neg (by omega), gd_pos (by omega), Int.toNat_natCast, h3 i c, cAt_lt c]
  · rw [if_pos (by omega), cAt_ge (by omega)]
theorem tba1 (h : tkC F n s) (hi : i < 1000000) : tok_byteAt ((i : Int) + 1) s = some (cAt F n (i + 1), s) := by
  rw [show (i : Int) + 1 = ((i + 1 : Nat) : Int) by omega]
  by_cases c : i + 1 < 1000000
  · exact tba h c
  · obtain ⟨h1, h2, h3, _, _⟩ := h
    unfold tok_byteAt
    rw [gr (by omega), if_neg (by omega), gr (by omega), if_pos (by omega), cAt_ge (by omega)]
theorem mta (h : tkR F n t) (hi : i < 1000000) : m_at (i : Int) t = some (cAt F n i, t) := by
  obtain ⟨h1, h2, h3, _, _⟩ := h
  unfold m_at
  rw [gr (by omega), gr (by omega)]
  by_cases c : i < n
  · rw [if_neg (by omega), gd_pos (by omega), Int.toNat_natCast, h3 i c, cAt_lt c]
  · rw [if_pos (by omega), cAt_ge (by omega)]
theorem mta1 (h : tkR F n t) (hi : i + 1 < 1000000) : m_at ((i : Int) + 1) t = some (cAt F n (i + 1), t) := by
  rw [show (i : Int) + 1 = ((i + 1 : Nat) : Int) by omega]
  exact mta h hi
/-! blanks and comments -/
theorem skl_ok (h : tkC F n s) (hk : k ≤ n) : tok_skipLine (up s 2 10 (k : Int)) = some (0, up s 2 10 ((scn (fun j => F j = 10) k (n - k) : Nat) : Int)) := by
  have h2 := h.2.1
  unfold tok_skipLine
  rw [lp_sc1 (P := fun j => F j = 10) (fun j : Nat => up s 2 10 (j : Int)) (fun j : Nat => up s 2 10 (j : Int)) n (fun j hj => by
    have hx := tkC_up (x := (j : Int)) h
    have a := h.2.2.2.2 j
    have h9 := hx.1
    unfold tok_skipLine_0b
    rw [up_same, gr (by omega), gr (by omega), if_neg (by omega), tba hx (by omega), bq, cAt_lt hj, gr (by omega)]
    by_cases c : F j = 10
    · rw [if_pos c, if_pos c]
    · rw [if_neg c, if_neg c, lt_eq, up_same, up_up]
      rfl) (by
    have hx := tkC_up (x := (n : Int)) h
    have h9 := hx.1
    unfold tok_skipLine_0b
    rw [up_same, gr (by omega), gr (by omega), if_pos (by omega)]) k hk, bn]
theorem mkl_ok (h : tkR F n t) (hk : k ≤ n) : m_skip_66 (k : Int) t = some (.inl (((scn (fun j => F j = 10) k (n - k) : Nat) : Int), t)) := by
  obtain ⟨h1, h2, h3, _, h5⟩ := h
  unfold m_skip_66
  rw [lp_sc1 (P := fun j => F j = 10) (fun j : Nat => ((j : Int), t)) (fun j : Nat => ((j : Int), t)) n (fun j hj => by
    have a := h5 j
    simp only [m_skip_66b, Int.toNat_natCast, h3 j hj]
    rw [gr (by omega), gr (by omega), if_neg (by omega), gd_pos (by omega), gr (by omega)]
    rfl) (by
    simp only [m_skip_66b]
    rw [gr (by omega), gr (by omega), if_pos (by omega)]) k hk, bn]
abbrev cme (F : Nat → Int) (n j : Nat) : Prop := F j = 42 ∧ cAt F n (j + 1) = 47
theorem skc_ok (h : tkC F n s) (hk : k + 2 ≤ n) : tok_skipComment (up s 2 10 (k : Int)) = some (0, up s 2 10 (if scn (fun j => cme F n j) (k + 2) (n - (k + 2)) < n then ((scn (fun j => cme F n j) (k + 2) (n - (k + 2)) + 2 : Nat) : Int) else (k : Int))) := by
  have h2 := h.2.1
  have hx := tkC_up (x := (k : Int)) h
  have h9 := hx.1
  unfold tok_skipComment tok_skipComment_7
  rw [up_same, show (k : Int) + 2 = ((k + 2 : Nat) : Int) by omega, lp_scn (P := fun j => cme F n j) (fun j : Nat => ((j : Int), up s 2 10 (k : Int))) (fun j : Nat => Sum.inl ((j : Int), up s 2 10 (k : Int))) (Sum.inr (up s 2 10 (k : Int))) n (fun j hj => by
    have a := h.2.2.2.2 j
    have b := cAt_rg (n := n) (i := j + 1) h.2.2.2.2
    simp only [tok_skipComment_7b]
    rw [gr (by omega), gr (by omega), if_neg (by omega), tba hx (by omega), bq, cAt_lt hj, gr (by omega)]
    by_cases c : F j = 42
    · rw [if_pos c, tba1 hx (by omega), bq, gr (by omega)]
      by_cases c2 : cAt F n (j + 1) = 47
      · rw [if_pos c2, if_pos ⟨c, c2⟩]
      · rw [if_neg c2, if_neg (fun q => c2 q.2)]
        rfl
    · rw [if_neg c, if_neg (fun q => c q.1)]
      rfl) (by
    simp only [tok_skipComment_7b]
    rw [gr (by omega), gr (by omega), if_pos (by omega)]) (n - (k + 2)) (k + 2) (by omega), bn]
  by_cases c : scn (fun j => cme F n j) (k + 2) (n - (k + 2)) < n
  · rw [if_pos c, if_pos c]
    show tok_skipComment_37 _ _ = _
    unfold tok_skipComment_37
    rw [lt_eq, up_up]
    rfl
  · rw [if_neg c, if_neg c]
    rfl
theorem mkc_ok (h : tkR F n t) (hk : k + 2 ≤ n) : m_skip_115 (k : Int) ((k : Int) + 2) t = if scn (fun j => cme F n j) (k + 2) (n - (k + 2)) < n then some (.inl (((scn (fun j => cme F n j) (k + 2) (n - (k + 2)) + 2 : Nat) : Int), t)) else some (.inr (.inl ((k : Int), t))) := by
  have h' := h
  obtain ⟨h1, h2, h3, _, h5⟩ := h
  unfold m_skip_115
  rw [show (k : Int) + 2 = ((k + 2 : Nat) : Int) by omega, lp_sc1 (P := fun j => cme F n j) (fun j : Nat => ((j : Int), t)) (fun j : Nat => ((j : Int), t)) n (fun j hj => by
    have a := h5 j
    have b := cAt_rg (n := n) (i := j + 1) h5
    simp only [m_skip_115b, Int.toNat_natCast, h3 j hj]
    rw [gr (by omega), gr (by omega), if_neg (by omega), gd_pos (by omega), gr (by omega)]
    by_cases c : F j = 42
    · rw [if_pos c, mta1 h' (by omega), bq, gr (by omega)]
      by_cases c2 : cAt F n (j + 1) = 47
      · rw [if_pos c2, if_pos ⟨c, c2⟩]
      · rw [if_neg c2, if_neg (fun q => c2 q.2)]
        rfl
    · rw [if_neg c, if_neg (fun q => c q.1)]
      rfl) (by
    simp only [m_skip_115b]
    rw [gr (by omega), gr (by omega), if_pos (by omega)]) (k + 2) (by omega), bn]
  have q := scn_le (P := fun j => cme F n j) (n - (k + 2)) (k + 2)
  unfold m_skip_158
  simp only
  rw [gr (by omega), gr (by omega)]
  by_cases c : scn (fun j => cme F n j) (k + 2) (n - (k + 2)) < n
  · rw [if_pos (by omega), if_pos c]
    rfl
  · rw [if_neg (by omega), if_neg c]
theorem skb_nx {turn turn' : Int} {s s' : iS} (h : tok_skipBlanks_2b turn s = some (.inl (turn', s'))) : tok_skipBlanks_2 turn s = tok_skipBlanks_2 turn' s' := by
  unfold tok_skipBlanks_2
  rw [lp_next (f := fun l : Int × iS => tok_skipBlanks_2b (l.1) (l.2)) (l := (turn, s)) h]
theorem msk_nx {v v' : Int} {t t' : iS} (h : m_skip_2b v t = some (.inl (v', t'))) : m_skip_2 v t = m_skip_2 v' t' := by
  unfold m_skip_2
  rw [lp_next (f := fun l : Int × iS => m_skip_2b (l.1) (l.2)) (l := (v, t)) h]
/-- both skip alike -/
theorem skp_ok (hc : tkC F n s) (hr : tkR F n t) : ∀ (m k turn : Nat), k ≤ n → n - k ≤ m → turn + (n - k) ≤ n → ∃ k', k ≤ k' ∧ k' ≤ n ∧ (tok_skipBlanks_2 (turn : Int) (up s 2 10 (k : Int)) = some (1, up s 2 10 (k' : Int)) ∧ m_skip_2 (k : Int) t = some ((k' : Int), t) ∨ tok_skipBlanks_2 (turn : Int) (up s 2 10 (k : Int)) = some (0, up s 2 10 (k' : Int)) ∧ m_skip_2 (k : Int) t = some (-2 - (k' : Int), t)) := by
  intro m
  induction m with
  | zero =>
    intro k turn h1 h2 h3
    have hk : k = n := by omega
    subst hk
    have hx := tkC_up (x := (k : Int)) hc
    have h9 := hx.1
    have hn := hc.2.1
    refine ⟨k, Nat.le_refl _, Nat.le_refl _, Or.inl ⟨?_, ?_⟩⟩
    · unfold tok_skipBlanks_2
      rw [lp_end (f := fun l : Int × iS => tok_skipBlanks_2b (l.1) (l.2)) (l := ((turn : Int), up s 2 10 (k : Int))) (e := .inr (.inl (up s 2 10 (k : Int)))) (by
        show tok_skipBlanks_2b (turn : Int) (up s 2 10 (k : Int)) = _
        unfold tok_skipBlanks_2b tok_skipBlanks_86
        rw [gr (by omega), gr (by omega), if_neg (by omega), up_same, tba hx (by omega), bq, up_same, tba1 hx (by omega), bq, cAt_ge (by omega), gr (by omega), if_neg (by omega), if_neg (by omega), if_neg (by omega), if_neg (by omega), if_neg (by omega), gr (by omega), if_neg (by omega)])]
      rfl
    · unfold m_skip_2
      have h1' := hr.1
      rw [lp_end (f := fun l : Int × iS => m_skip_2b (l.1) (l.2)) (l := ((k : Int), t)) (e := .inr (.inr ((k : Int), t))) (by
        show m_skip_2b (k : Int) t = _
        unfold m_skip_2b
        rw [gr (by omega), gr (by omega), if_pos (by omega)])]
      rfl
  | succ m ih =>
    intro k turn h1 h2 h3
    by_cases hkn : k = n
    · exact ih k turn h1 (by omega) h3
    have hlt : k < n := by omega
    have hx := tkC_up (x := (k : Int)) hc
    have h9 := hx.1
    have hn := hc.2.1
    have h1' := hr.1
    have h3' := hr.2.2.1 k hlt
    have a := hc.2.2.2.2 k
    have b := cAt_rg (n := n) (i := k + 1) hc.2.2.2.2
    have C0 : tok_skipBlanks_2b (turn : Int) (up s 2 10 (k : Int)) = (if F k = 32 then tok_skipBlanks_54 (turn : Int) (up s 2 10 (k : Int)) else if F k = 10 then tok_skipBlanks_54 (turn : Int) (up s 2 10 (k : Int)) else if F k = 9 then tok_skipBlanks_54 (turn : Int) (up s 2 10 (k : Int)) else if F k = 13 then tok_skipBlanks_54 (turn : Int) (up s 2 10 (k : Int)) else if F k = 47 then gd (rg (cAt F n (k + 1))) (if cAt F n (k + 1) = 47 then bd (tok_skipLine (up s 2 10 (k : Int))) (fun _ s14 => some (.inl (((turn : Int) + 1), s14))) else tok_skipBlanks_86 (turn : Int) (F k) (cAt F n (k + 1)) (up s 2 10 (k : Int))) else tok_skipBlanks_86 (turn : Int) (F k) (cAt F n (k + 1)) (up s 2 10 (k : Int))) := by
      unfold tok_skipBlanks_2b
      rw [gr (by omega), gr (by omega), if_neg (by omega), up_same, tba hx (by omega), bq, up_same, tba1 hx (by omega), bq, cAt_lt hlt, gr (by omega)]
    have R0 : m_skip_2b (k : Int) t = (if F k = 9 then m_skip_41 (k : Int) t else if F k = 10 then m_skip_41 (k : Int) t else if F k = 13 then m_skip_41 (k : Int) t else if F k = 32 then m_skip_41 (k : Int) t else if F k = 47 then bd (m_at ((k : Int) + 1) t) (fun r11 s11 => gd (rg r11) (if r11 = 47 then m_skip_66 (k : Int) s11 else m_skip_92 (k : Int) (F k) s11)) else m_skip_92 (k : Int) (F k) t) := by
      unfold m_skip_2b
      simp only [Int.toNat_natCast]
      rw [gr (by omega), gr (by omega), if_neg (by omega), gd_pos (by omega), h3', gr (by omega)]
    by_cases cb : F k = 32 ∨ F k = 10 ∨ F k = 9 ∨ F k = 13
    · have e1 : tok_skipBlanks_2b (turn : Int) (up s 2 10 (k : Int)) = some (.inl (((turn + 1 : Nat) : Int), up s 2 10 ((k + 1 : Nat) : Int))) := by
        have e0 : tok_skipBlanks_54 (turn : Int) (up s 2 10 (k : Int)) = some (.inl (((turn + 1 : Nat) : Int), up s 2 10 ((k + 1 : Nat) : Int))) := by
          unfold tok_skipBlanks_54
          rw [lt_eq, up_same, up_up]
          rfl
        rw [C0]
        rcases cb with q | q | q | q
        · rw [if_pos q, e0]
        · rw [if_neg (by omega), if_pos q, e0]
        · rw [if_neg (by omega), if_neg (by omega), if_pos q, e0]
        · rw [if_neg (by omega), if_neg (by omega), if_neg (by omega), if_pos q, e0]
      have e2 : m_skip_2b (k : Int) t = some (.inl (((k + 1 : Nat) : Int), t)) := by
        have e0 : m_skip_41 (k : Int) t = some (.inl (((k + 1 : Nat) : Int), t)) := by
          unfold m_skip_41
          rfl
        rw [R0]
        rcases cb with q | q | q | q
        · rw [if_neg (by omega), if_neg (by omega), if_neg (by omega), if_pos q, e0]
        · rw [if_neg (by omega), if_pos q, e0]
        · rw [if_pos q, e0]
        · rw [if_neg (by omega), if_neg (by omega), if_pos q, e0]
      obtain ⟨k', g1, g2, g3⟩ := ih (k + 1) (turn + 1) (by omega) (by omega) (by omega)
      refine ⟨k', by omega, g2, ?_⟩
      rw [skb_nx e1, msk_nx e2]
      exact g3
    rw [if_neg (by omega), if_neg (by omega), if_neg (by omega), if_neg (by omega)] at C0 R0
    have out : tok_skipBlanks_2b (turn : Int) (up s 2 10 (k : Int)) = some (.inr (.inr (.inl (up s 2 10 (k : Int))))) → m_skip_2b (k : Int) t = some (.inr (.inr (.inl ((k : Int), t)))) → ∃ k', k ≤ k' ∧ k' ≤ n ∧ (tok_skipBlanks_2 (turn : Int) (up s 2 10 (k : Int)) = some (1, up s 2 10 (k' : Int)) ∧ m_skip_2 (k : Int) t = some ((k' : Int), t) ∨ tok_skipBlanks_2 (turn : Int) (up s 2 10 (k : Int)) = some (0, up s 2 10 (k' : Int)) ∧ m_skip_2 (k : Int) t = some (-2 - (k' : Int), t)) := by
      intro g1 g2
      refine ⟨k, Nat.le_refl _, h1, Or.inl ⟨?_, ?_⟩⟩
      · unfold tok_skipBlanks_2
        rw [lp_end (f := fun l : Int × iS => tok_skipBlanks_2b (l.1) (l.2)) (l := ((turn : Int), up s 2 10 (k : Int))) g1]
        rfl
      · unfold m_skip_2
        rw [lp_end (f := fun l : Int × iS => m_skip_2b (l.1) (l.2)) (l := ((k : Int), t)) g2]
        rfl
    by_cases c47 : F k = 47
    case neg =>
      rw [if_neg c47] at C0 R0
      refine out ?_ ?_
      · rw [C0]
        unfold tok_skipBlanks_86
        rw [gr (by omega), if_neg c47]
      · rw [R0]
        unfold m_skip_92
        rw [gr (by omega), if_neg c47]
    rw [if_pos c47] at C0 R0
    rw [gr (by omega)] at C0
    rw [mta1 hr (by omega), bq, gr (by omega)] at R0
    by_cases d47 : cAt F n (k + 1) = 47
    · rw [if_pos d47, skl_ok hc h1, bq] at C0
      rw [if_pos d47, mkl_ok hr h1] at R0
      have q := scn_le (P := fun j => F j = 10) (n - k) k
      have q1 : k < scn (fun j => F j = 10) k (n - k) := by
        rcases Nat.lt_or_ge k (scn (fun j => F j = 10) k (n - k)) with g | g
        · exact g
        · have ge : scn (fun j => F j = 10) k (n - k) = k := by omega
          have := scn_is (P := fun j => F j = 10) (n - k) k (by omega)
          rw [ge] at this
          omega
      obtain ⟨k', g1, g2, g3⟩ := ih (scn (fun j => F j = 10) k (n - k)) (turn + 1) (by omega) (by omega) (by omega)
      refine ⟨k', by omega, g2, ?_⟩
      rw [skb_nx C0, msk_nx R0]
      exact g3
    rw [if_neg d47] at C0 R0
    by_cases d42 : cAt F n (k + 1) = 42
    case neg =>
      refine out ?_ ?_
      · rw [C0]
        unfold tok_skipBlanks_86
        rw [gr (by omega), if_pos c47, gr (by omega), if_neg d42]
      · rw [R0]
        unfold m_skip_92
        rw [gr (by omega), if_pos c47, mta1 hr (by omega), bq, gr (by omega), if_neg d42]
    have hk2 : k + 2 ≤ n := by
      by_cases g : k + 1 < n
      · omega
      · rw [cAt_ge (by omega)] at d42; omega
    have q := scn_le (P := fun j => cme F n j) (n - (k + 2)) (k + 2)
    unfold tok_skipBlanks_86 at C0
    rw [gr (by omega), if_pos c47, gr (by omega), if_pos d42, skc_ok hc hk2, bq] at C0
    unfold m_skip_92 at R0
    rw [gr (by omega), if_pos c47, mta1 hr (by omega), bq, gr (by omega), if_pos d42, mkc_ok hr hk2] at R0
    by_cases ce : scn (fun j => cme F n j) (k + 2) (n - (k + 2)) < n
    · rw [if_pos ce] at C0 R0
      have q2 : scn (fun j => cme F n j) (k + 2) (n - (k + 2)) + 2 ≤ n := by
        have := (scn_is (P := fun j => cme F n j) (n - (k + 2)) (k + 2) (by omega)).2
        by_cases g : scn (fun j => cme F n j) (k + 2) (n - (k + 2)) + 1 < n
        · omega
        · rw [cAt_ge (by omega)] at this; omega
      rw [up_same, up_same, gr (by omega), gr (by omega), if_neg (by omega)] at C0
      obtain ⟨k', g1, g2, g3⟩ := ih (scn (fun j => cme F n j) (k + 2) (n - (k + 2)) + 2) (turn + 1) (by omega) (by omega) (by omega)
      refine ⟨k', by omega, g2, ?_⟩
      rw [skb_nx C0, msk_nx R0]
      exact g3
    · rw [if_neg ce] at C0 R0
      rw [up_same, gr (by omega), gr (by omega), if_pos rfl] at C0
      refine ⟨k, Nat.le_refl _, h1, Or.inr ⟨?_, ?_⟩⟩
      · unfold tok_skipBlanks_2
        rw [lp_end (f := fun l : Int × iS => tok_skipBlanks_2b (l.1) (l.2)) (l := ((turn : Int), up s 2 10 (k : Int))) C0]
        rfl
      · unfold m_skip_2
        rw [lp_end (f := fun l : Int × iS => m_skip_2b (l.1) (l.2)) (l := ((k : Int), t)) R0]
        rfl
end TK1
def tL : List (List Int) := [[99, 108, 97, 115, 115], [99, 111, 110, 115, 116, 114, 117, 99, 116, 111, 114], [102, 117, 110, 99, 116, 105, 111, 110], [109, 101, 116, 104, 111, 100], [102, 105, 101, 108, 100], [115, 116, 97, 116, 105, 99], [118, 97, 114], [105, 110, 116], [99, 104, 97, 114], [98, 111, 111, 108, 101, 97, 110], [118, 111, 105, 100], [116, 114, 117, 101], [102, 97, 108, 115, 101], [110, 117, 108, 108], [116, 104, 105, 115], [108, 101, 116], [100, 111], [105, 102], [101, 108, 115, 101], [119, 104, 105, 108, 101], [114, 101, 116, 117, 114, 110]]
def tH : List (List Int) := [[67, 72, 73, 80], [73, 78], [79, 85, 84], [80, 65, 82, 84, 83], [116, 114, 117, 101], [102, 97, 108, 115, 101]]
