/-! what both readers ask of a token -/
section PR
variable {ch : Int} {F : Nat → Int} {n N : Nat} {P : Nat → Nat} {s0 t0 s t : iS} {p j : Nat}
theorem tkK (h : TKR ch F n N P s0 t0) (hj : j < N) : t0 124 j = 0 ∧ s0 9 j = 0 ∨ t0 124 j = 6 ∧ s0 9 j = 1 ∨ t0 124 j = 7 ∧ s0 9 j = 2 ∨ t0 124 j = 1 ∧ s0 9 j = 3 ∨ t0 124 j = 2 ∧ s0 9 j = 4 ∨ t0 124 j = 3 ∧ s0 9 j = 5 ∨ t0 124 j = 4 ∧ s0 9 j = t0 127 j ∧ 33 ≤ t0 127 j ∧ t0 127 j ≤ 126 ∨ t0 124 j = 5 ∧ s0 9 j = t0 127 j + (if ch = 0 then 256 else 300) ∧ 0 ≤ t0 127 j ∧ t0 127 j < (if ch = 0 then 21 else 6) := by
  obtain ⟨h1, h2, _, _, _, _, _, _, h9⟩ := h
  by_cases c : j = N - 1
  · rw [c]
    rcases h9 with ⟨q1, q2, _⟩ | ⟨q1, q2⟩ | ⟨q1, q2⟩
    · exact Or.inl ⟨q2, q1⟩
    · exact Or.inr (Or.inl ⟨q2, q1⟩)
    · exact Or.inr (Or.inr (Or.inl ⟨q2, q1⟩))
  · obtain ⟨_, _, _, g⟩ := h1.1 j (by omega)
    rcases g with ⟨q1, q2, _⟩ | ⟨q1, q2, _⟩ | ⟨q1, q2, _⟩ | ⟨q1, q2, q3, q4⟩ | ⟨q1, q2, q3, q4⟩
    · exact Or.inr (Or.inr (Or.inr (Or.inl ⟨q1, q2⟩)))
    · exact Or.inr (Or.inr (Or.inr (Or.inr (Or.inl ⟨q1, q2⟩))))
    · exact Or.inr (Or.inr (Or.inr (Or.inr (Or.inr (Or.inl ⟨q1, q2⟩)))))
    · exact Or.inr (Or.inr (Or.inr (Or.inr (Or.inr (Or.inr (Or.inl ⟨q1, q2, q3, q4⟩))))))
    · exact Or.inr (Or.inr (Or.inr (Or.inr (Or.inr (Or.inr (Or.inr ⟨q1, q2, q3, q4⟩))))))
theorem tkP (h : TKR ch F n N P s0 t0) (hj : j < N) : s0 10 j = (P j : Int) ∧ t0 125 j = (P j : Int) ∧ P j ≤ n := by
  obtain ⟨h1, h2, _, _, h5, h6, h7, _, _⟩ := h
  by_cases c : j = N - 1
  · rw [c]
    exact ⟨h5, h6, h7⟩
  · obtain ⟨a, b, d, g⟩ := h1.1 j (by omega)
    exact ⟨a, b, d⟩
theorem tkPm (h : TKR ch F n N P s0 t0) : ∀ {i j : Nat}, i < j → j < N → P i < P j := by
  intro i j hij hj
  obtain ⟨_, _, _, _, _, _, _, h8, _⟩ := h
  induction j with
  | zero => omega
  | succ j ih =>
    have := h8 j hj
    by_cases c : i = j
    · rw [c]; exact this
    · have := ih (by omega) (by omega)
      omega
/-- the bytes of a name -/
def nmT (F : Nat → Int) (P : Nat → Nat) (t0 : iS) (j : Nat) : List Int := bs F (P j) (t0 126 j).toNat
theorem tkN (h : TKR ch F n N P s0 t0) (hj : j < N) (hk : s0 9 j = 3) : gw (nmT F P t0 j) ∧ s0 12 j = wH (nmT F P t0 j) ∧ s0 13 j = wL (nmT F P t0 j) ∧ (∃ z : Nat, t0 126 j = (z : Int) ∧ 1 ≤ z ∧ z ≤ 16 ∧ P j + z ≤ n) ∧ (∀ i, i < (t0 126 j).toNat → wb (F (P j + i))) := by
  have h' := tkK h hj
  obtain ⟨h1, h2, _, _, _, _, _, _, h9⟩ := h
  by_cases c : j = N - 1
  · rw [c] at hk
    omega
  · obtain ⟨_, _, _, g⟩ := h1.1 j (by omega)
    rcases g with ⟨q1, q2, z, q3, q4, q5, q6, q7, q8, q9⟩ | ⟨q1, q2, _⟩ | ⟨q1, q2, _⟩ | ⟨q1, q2, q3, q4⟩ | ⟨q1, q2, q3, q4⟩
    · unfold nmT
      rw [q3, Int.toNat_natCast]
      exact ⟨wbw q4 q5 q7, q8, q9, ⟨z, rfl, q4, q5, q6⟩, q7⟩
    · omega
    · omega
    · omega
    · split at q2 <;> omega
/-- a number, a string -/
theorem tkV (h : TKR ch F n N P s0 t0) (hj : j < N) (hk : s0 9 j = 4) : t0 127 j = s0 11 j ∧ 0 ≤ s0 11 j ∧ s0 11 j ≤ 32767 := by
  have h' := tkK h hj
  obtain ⟨h1, h2, _, _, _, _, _, _, h9⟩ := h
  by_cases c : j = N - 1
  · rw [c] at hk
    omega
  · obtain ⟨_, _, _, g⟩ := h1.1 j (by omega)
    rcases g with ⟨q1, q2, z, q3, q4, q5, q6, q7, q8, q9⟩ | ⟨q1, q2, q3⟩ | ⟨q1, q2, _⟩ | ⟨q1, q2, q3, q4⟩ | ⟨q1, q2, q3, q4⟩
    · omega
    · exact q3
    · omega
    · omega
    · split at q2 <;> omega
theorem tkS (h : TKR ch F n N P s0 t0) (hj : j < N) (hk : s0 9 j = 5) : ∃ v : Nat, t0 127 j = (v : Int) ∧ s0 11 j = (v : Int) ∧ v ≤ 60 ∧ t0 126 j = (v : Int) + 2 ∧ P j + v + 2 ≤ n ∧ ∀ i, i < v → 32 ≤ F (P j + 1 + i) ∧ F (P j + 1 + i) ≤ 126 := by
  have h' := tkK h hj
  obtain ⟨h1, h2, _, _, _, _, _, _, h9⟩ := h
  by_cases c : j = N - 1
  · rw [c] at hk
    omega
  · obtain ⟨_, _, _, g⟩ := h1.1 j (by omega)
    rcases g with ⟨q1, q2, z, q3, q4, q5, q6, q7, q8, q9⟩ | ⟨q1, q2, q3⟩ | ⟨q1, q2, q3⟩ | ⟨q1, q2, q3, q4⟩ | ⟨q1, q2, q3, q4⟩
    · omega
    · omega
    · exact q3
    · omega
    · split at q2 <;> omega
/-- the rows of the tokens stand -/
def SC (s0 s : iS) : Prop := s 1 = s0 1 ∧ s 9 = s0 9 ∧ s 10 = s0 10 ∧ s 11 = s0 11 ∧ s 12 = s0 12 ∧ s 13 = s0 13 ∧ s 2 8 = s0 2 8 ∧ s 2 9 = s0 2 9 ∧ s 42 = s0 42 ∧ s 43 = s0 43
def SR (t0 t : iS) : Prop := t 123 = t0 123 ∧ t 124 = t0 124 ∧ t 125 = t0 125 ∧ t 126 = t0 126 ∧ t 127 = t0 127 ∧ t 121 3 = t0 121 3
theorem SC_md {L : List Nat} {G : List (Nat × Nat)} {s' : iS} (hL : chk [1, 9, 10, 11, 12, 13, 42, 43] [(2, 8), (2, 9)] L G = true) (hm : md L G s s') (h : SC s0 s) : SC s0 s' := by
  obtain ⟨a, b⟩ := chk_ok hL hm
  unfold SC at h ⊢
  rw [a 1 (by decide), a 9 (by decide), a 10 (by decide), a 11 (by decide), a 12 (by decide), a 13 (by decide), b (2, 8) (by decide), b (2, 9) (by decide), a 42 (by decide), a 43 (by decide)]
  exact h
theorem SR_md {L : List Nat} {G : List (Nat × Nat)} {t' : iS} (hL : chk [123, 124, 125, 126, 127] [(121, 3)] L G = true) (hm : md L G t t') (h : SR t0 t) : SR t0 t' := by
  obtain ⟨a, b⟩ := chk_ok hL hm
  unfold SR at h ⊢
  rw [a 123 (by decide), a 124 (by decide), a 125 (by decide), a 126 (by decide), a 127 (by decide), b (121, 3) (by decide)]
  exact h
/-! the reference -/
/-- the reading stops: fault f at token p -/
def flt (t : iS) (f : Int) (P : Nat → Nat) (p : Nat) : iS := up (up t 121 11 f) 121 12 (P p : Int)
theorem rS (h : TKR ch F n N P s0 t0) (hr : SR t0 t) (hp : t 121 10 = (p : Int)) (hN : p < N) {c : Int} (hc : 33 ≤ c ∧ c ≤ 126) : m_isSign c t = some (if s0 9 p = c then 1 else 0, t) := by
  have k := tkK h hN
  have hN2 : N ≤ 2001 := by
    have := h.2.2.1
    split at this <;> omega
  unfold m_isSign
  rw [hp, gd_pos (by omega), Int.toNat_natCast, hr.2.1, hr.2.2.2.2.1, gr (by omega)]
  by_cases c4 : t0 124 p = 4
  · rw [if_pos c4, gr (by omega), gr (by omega)]
    by_cases c1 : t0 127 p = c
    · rw [if_pos c1, if_pos (by omega)]
    · rw [if_neg c1, if_neg (by omega)]
  · rw [if_neg c4, if_neg]
    split at k <;> omega
theorem rW (h : TKR 0 F n N P s0 t0) (hr : SR t0 t) (hp : t 121 10 = (p : Int)) (hN : p < N) {w : Int} (hw : 0 ≤ w ∧ w < 21) : m_isWord w t = some (if s0 9 p = w + 256 then 1 else 0, t) := by
  have k := tkK h hN
  have hN2 := h.2.2.1
  rw [if_pos rfl] at k hN2
  unfold m_isWord
  rw [hp, gd_pos (by omega), Int.toNat_natCast, hr.2.1, hr.2.2.2.2.1, gr (by omega)]
  by_cases c4 : t0 124 p = 5
  · rw [if_pos c4, gr (by omega), gr (by omega)]
    by_cases c1 : t0 127 p = w
    · rw [if_pos c1, if_pos (by omega)]
    · rw [if_neg c1, if_neg (by omega)]
  · rw [if_neg c4, if_neg (by omega)]
theorem rWc (h : TKR 1 F n N P s0 t0) (hr : SR t0 t) (hp : t 121 10 = (p : Int)) (hN : p < N) {w : Int} (hw : 0 ≤ w ∧ w < 6) : m_isWord w t = some (if s0 9 p = w + 300 then 1 else 0, t) := by
  have k := tkK h hN
  have hN2 := h.2.2.1
  rw [if_neg (by decide)] at k hN2
  rw [if_neg (by decide)] at k
  unfold m_isWord
  rw [hp, gd_pos (by omega), Int.toNat_natCast, hr.2.1, hr.2.2.2.2.1, gr (by omega)]
  by_cases c4 : t0 124 p = 5
  · rw [if_pos c4, gr (by omega), gr (by omega)]
    by_cases c1 : t0 127 p = w
    · rw [if_pos c1, if_pos (by omega)]
    · rw [if_neg c1, if_neg (by omega)]
  · rw [if_neg c4, if_neg (by omega)]
theorem rGo (hf : t 121 11 = 0) (hp : t 121 10 = (p : Int)) : m_go t = some (0, up t 121 10 ((p + 1 : Nat) : Int)) := by
  unfold m_go m_go_21
  rw [gr (by omega), if_pos hf, lt_eq, hp]
  rfl
theorem rGoD (hf : 0 < t 121 11 ∧ t 121 11 < 100) : m_go t = some (0, t) := by
  unfold m_go m_go_21
  rw [gr (by omega), if_neg (by omega), lt_eq, up_id]
theorem rWr (hr : SR t0 t) (h : TKR ch F n N P s0 t0) (hf : t 121 11 = 0) (hN : p < N) {f : Int} : m_wrong f (p : Int) t = some (0, flt t f P p) := by
  have hN2 : N ≤ 2001 := by
    have := h.2.2.1
    split at this <;> omega
  unfold m_wrong flt
  rw [gr (by omega), if_pos (by omega), lt_eq, gd_pos (by omega), lt_eq, Int.toNat_natCast, up_cell (by decide), hr.2.2.1, (tkP h hN).2.1]
theorem rWrD (hf : 0 < t 121 11 ∧ t 121 11 < 100) {f v : Int} : m_wrong f v t = some (0, t) := by
  unfold m_wrong
  rw [gr (by omega), if_neg (by omega)]
theorem rSy (h : TKR ch F n N P s0 t0) (hr : SR t0 t) (hf : t 121 11 = 0) (hp : t 121 10 = (p : Int)) (hN : p < N) : m_syntax t = some (0, flt t (if s0 9 p = 2 then 2 else 1) P p) := by
  have k := tkK h hN
  have hN2 : N ≤ 2001 := by
    have := h.2.2.1
    split at this <;> omega
  unfold m_syntax m_syntax_20
  rw [hp, gd_pos (by omega), Int.toNat_natCast, hr.2.1, gr (by omega)]
  by_cases c : t0 124 p = 7
  · rw [if_pos c, rWr hr h hf hN, bq, if_pos (by omega)]
  · rw [if_neg c, rWr hr h hf hN, bq, if_neg]
    split at k <;> omega
theorem rSyD (h : TKR ch F n N P s0 t0) (hr : SR t0 t) (hf : 0 < t 121 11 ∧ t 121 11 < 100) (hp : t 121 10 = (p : Int)) (hN : p < N) : m_syntax t = some (0, t) := by
  have k := tkK h hN
  have hN2 : N ≤ 2001 := by
    have := h.2.2.1
    split at this <;> omega
  unfold m_syntax m_syntax_20
  rw [hp, gd_pos (by omega), Int.toNat_natCast, hr.2.1, gr (by omega), rWrD hf, rWrD hf]
  split <;> rw [bq]
theorem rNs (h : TKR ch F n N P s0 t0) (hr : SR t0 t) (hf : t 121 11 = 0) (hp : t 121 10 = (p : Int)) (hN : p < N) {c : Int} (hc : 33 ≤ c ∧ c ≤ 126) : m_needSign c t = some (0, if s0 9 p = c then up t 121 10 ((p + 1 : Nat) : Int) else flt t (if s0 9 p = 2 then 2 else 1) P p) := by
  unfold m_needSign
  rw [rS h hr hp hN hc, bq]
  by_cases q : s0 9 p = c
  · rw [if_pos q, gr (by omega), if_neg (by omega), rGo hf hp, bq, if_pos q]
  · rw [if_neg q, gr (by omega), if_pos rfl, rSy h hr hf hp hN, bq, if_neg q]
theorem rNsD (h : TKR ch F n N P s0 t0) (hr : SR t0 t) (hf : 0 < t 121 11 ∧ t 121 11 < 100) (hp : t 121 10 = (p : Int)) (hN : p < N) {c : Int} (hc : 33 ≤ c ∧ c ≤ 126) : m_needSign c t = some (0, t) := by
  unfold m_needSign
  rw [rS h hr hp hN hc, bq]
  by_cases q : s0 9 p = c
  · rw [if_pos q, gr (by omega), if_neg (by omega), rGoD hf, bq]
  · rw [if_neg q, gr (by omega), if_pos rfl, rSyD h hr hf hp hN, bq]
/-! the class -/
/-- the reading stops -/
def stp (s : iS) (f : Int) (p N : Nat) : iS := up (up (up s 2 13 f) 2 14 (p : Int)) 2 12 (N : Int)
theorem cK (h : TKR ch F n N P s0 t0) (hs : SC s0 s) (hp : s 2 12 = (p : Int)) (hN : p < N) : tok_kind s = some (s0 9 p, s) := by
  have h8 := h.2.2.2.1
  have hN2 : N ≤ 2001 := by
    have := h.2.2.1
    split at this <;> omega
  unfold tok_kind
  rw [hs.2.2.2.2.2.2.1, hs.2.1, hp, h8, gr (by omega), if_neg (by omega), gr (by omega), if_neg (by omega), gd_pos (by omega), Int.toNat_natCast]
theorem cKD (h : TKR ch F n N P s0 t0) (hs : SC s0 s) (hp : s 2 12 = (N : Int)) : tok_kind s = some (-1, s) := by
  have h8 := h.2.2.2.1
  have hN2 : N ≤ 2001 := by
    have := h.2.2.1
    split at this <;> omega
  unfold tok_kind
  rw [hs.2.2.2.2.2.2.1, hp, h8, gr (by omega), if_neg (by omega), gr (by omega), if_pos (by omega)]
theorem kRg (h : TKR ch F n N P s0 t0) (hN : p < N) : 0 ≤ s0 9 p ∧ s0 9 p < 400 := by
  have k := tkK h hN
  split at k <;> omega
theorem cSt (h : TKR ch F n N P s0 t0) (hs : SC s0 s) (hf : s 2 13 = 0) (hp : s 2 12 = (p : Int)) (hN : p < N) {f : Int} : tok_stop f s = some (0, stp s (if s0 9 p = 2 then 2 else f) p N) := by
  have h8 := h.2.2.2.1
  have hN2 : N ≤ 2001 := by
    have := h.2.2.1
    split at this <;> omega
  have k := kRg h hN
  have e8 : s 2 8 = (N : Int) := by rw [hs.2.2.2.2.2.2.1, h8]
  have fin : ∀ x : Int, tok_stop_54 x s = some (0, stp s x p N) := by
    intro x
    unfold tok_stop_54 tok_stop_65 stp
    rw [lt_eq, lt_eq, lt_eq, up_ne (by omega), hp, up_ne (by omega), up_ne (by omega), e8]
  unfold tok_stop tok_stop_42 tok_stop_43
  rw [hs.2.1, hp, e8, gr (by omega), if_pos hf, gr (by omega), if_neg (by omega), gr (by omega), if_neg (by omega), gd_pos (by omega), Int.toNat_natCast, gr (by omega)]
  by_cases c : s0 9 p = 2
  · rw [if_pos c, gr (by omega), if_neg (by omega), fin, if_pos c]
  · rw [if_neg c, gr (by omega), if_pos rfl, fin, if_neg c]
theorem cStD (h : TKR ch F n N P s0 t0) (hs : SC s0 s) (hf : 0 < s 2 13 ∧ s 2 13 < 100) (hp : s 2 12 = (N : Int)) {f : Int} : tok_stop f s = some (0, s) := by
  have e8 : s 2 8 = (N : Int) := by rw [hs.2.2.2.2.2.2.1, h.2.2.2.1]
  unfold tok_stop tok_stop_65
  rw [gr (by omega), if_neg (by omega), lt_eq, e8, ← hp, up_id]
theorem cEx (h : TKR ch F n N P s0 t0) (hs : SC s0 s) (hp : s 2 12 = (p : Int)) (hN : p < N) {c : Int} (hc : 0 ≤ c ∧ c < 400) (hk : s0 9 p = c) : tok_expect c s = some (0, up s 2 12 ((p + 1 : Nat) : Int)) := by
  unfold tok_expect
  rw [cK h hs hp hN, bq, gr (by omega), gr (by omega), if_pos hk, lt_eq, hp]
  rfl
theorem cEx0 (h : TKR ch F n N P s0 t0) (hs : SC s0 s) (hf : s 2 13 = 0) (hp : s 2 12 = (p : Int)) (hN : p < N) {c : Int} (hc : 0 ≤ c ∧ c < 400) (hk : ¬ s0 9 p = c) : tok_expect c s = some (0, stp s (if s0 9 p = 2 then 2 else 1) p N) := by
  have k := kRg h hN
  unfold tok_expect
  rw [cK h hs hp hN, bq, gr (by omega), gr (by omega), if_neg hk, cSt h hs hf hp hN, bq]
theorem cExD (h : TKR ch F n N P s0 t0) (hs : SC s0 s) (hf : 0 < s 2 13 ∧ s 2 13 < 100) (hp : s 2 12 = (N : Int)) {c : Int} (hc : 0 ≤ c ∧ c < 400) : tok_expect c s = some (0, s) := by
  unfold tok_expect
  rw [cKD h hs hp, bq, gr (by omega), gr (by omega), if_neg (by omega), cStD h hs hf hp, bq]
theorem cKo (h : TKR ch F n N P s0 t0) (hs : SC s0 s) (hN : p < N) : tok_kindOf (p : Int) s = some (s0 9 p, s) := by
  have h8 := h.2.2.2.1
  have hN2 : N ≤ 2001 := by
    have := h.2.2.1
    split at this <;> omega
  unfold tok_kindOf
  rw [hs.2.2.2.2.2.2.1, hs.2.1, h8, gr (by omega), if_neg (by omega), gr (by omega), if_neg (by omega), gd_pos (by omega), Int.toNat_natCast]
theorem cKoE (h : TKR ch F n N P s0 t0) (hs : SC s0 s) (hN : N ≤ p) (hp : p < 100000) : tok_kindOf (p : Int) s = some (-1, s) := by
  have h8 := h.2.2.2.1
  have hN2 : N ≤ 2001 := by
    have := h.2.2.1
    split at this <;> omega
  unfold tok_kindOf
  rw [hs.2.2.2.2.2.2.1, h8, gr (by omega), if_neg (by omega), gr (by omega), if_pos (by omega)]
theorem cVo (h : TKR ch F n N P s0 t0) (hs : SC s0 s) (hN : p < N) : tok_valueOf (p : Int) s = some (s0 11 p, s) := by
  have h8 := h.2.2.2.1
  have hN2 : N ≤ 2001 := by
    have := h.2.2.1
    split at this <;> omega
  unfold tok_valueOf
  rw [hs.2.2.2.2.2.2.1, hs.2.2.2.1, h8, gr (by omega), if_neg (by omega), gr (by omega), if_neg (by omega), gd_pos (by omega), Int.toNat_natCast]
theorem cPo (h : TKR ch F n N P s0 t0) (hs : SC s0 s) (hN : p < N) : tok_placeOf (p : Int) s = some ((P p : Int), s) := by
  have h8 := h.2.2.2.1
  have hN2 : N ≤ 2001 := by
    have := h.2.2.1
    split at this <;> omega
  unfold tok_placeOf
  rw [hs.2.2.2.2.2.2.1, hs.2.2.1, h8, gr (by omega), if_neg (by omega), gr (by omega), if_neg (by omega), gd_pos (by omega), Int.toNat_natCast, (tkP h hN).1]
/-- the first of some names that is the token's -/
theorem cFi {c a b M : Nat} {tab : List (List Int)} (h : TKR ch F n N P s0 t0) (hs : SC s0 s) (hN : j < N) (hk : s0 9 j = 3) (ht : TB c a b tab s) (hg : ∀ w ∈ tab, gw w) (hM : M < 1000000) (hm : tab.length ≤ M) {f e : Nat} (hf : f < 1000000) (he : e < 1000000) : tok_findIn c a b M (j : Int) (f : Int) (e : Int) s = some (fst1 (fun i => tab.getD i [] = nmT F P t0 j) f (min e tab.length - f), s) := by
  have h8 := h.2.2.2.1
  have hN2 : N ≤ 2001 := by
    have := h.2.2.1
    split at this <;> omega
  obtain ⟨w1, w2, w3, _⟩ := tkN h hN hk
  have hl := wH_lr w1.2.2
  unfold tok_findIn
  rw [hs.2.2.2.2.2.2.1, h8, gr (by omega), if_neg (by omega), gr (by omega), if_pos (by omega), ht.1, min_ok ⟨by omega, by omega⟩ ⟨by omega, by omega⟩, bq, max_ok (by decide) ⟨by omega, by omega⟩, bq]
  have e1 : (if (tab.length : Int) < (e : Int) then (tab.length : Int) else (e : Int)) = ((min e tab.length : Nat) : Int) := by
    split <;> omega
  have e2 : (if (0 : Int) < (f : Int) then (f : Int) else 0) = (f : Int) := by
    split <;> omega
  rw [e1, e2]
  have hst : ∀ i, i < min e tab.length → tok_findIn_32b c a b M (j : Int) ((min e tab.length : Nat) : Int) (i : Int) s = if tab.getD i [] = nmT F P t0 j then some (.inr (.inl ((i : Int), s))) else some (.inl (((i + 1 : Nat) : Int), s)) := by
    intro i hi
    obtain ⟨q1, q2⟩ := ht.2 i (by omega)
    have hj2 : tab.getD i [] = tab[i] := by rw [List.getD_eq_getElem?_getD, List.getElem?_eq_getElem (by omega)]; rfl
    have gi : gw (tab.getD i []) := by rw [hj2]; exact hg _ (List.getElem_mem _)
    have li := wH_lr gi.2.2
    have nl := nm_list (b := nmT F P t0 j) (w := tab.getD i []) w1 gi
    unfold tok_findIn_32b
    rw [gr (by omega), gr (by omega), if_neg (by omega), gd_pos (by omega), gd_pos (by omega), Int.toNat_natCast, Int.toNat_natCast, hs.2.2.2.2.1, hs.2.2.2.2.2.1, q1, q2, w2, w3, gd_pos (show rg (l_cmp _ _) from ⟨Int32.le_toInt _, Int32.toInt_lt _⟩), gd_pos (show rg (l_cmp _ _) from ⟨Int32.le_toInt _, Int32.toInt_lt _⟩)]
    by_cases h1 : wH (tab.getD i []) = wH (nmT F P t0 j)
    · rw [if_pos ((l_cmp0 li.1 hl.1).mpr h1)]
      by_cases h2 : wL (tab.getD i []) = wL (nmT F P t0 j)
      · rw [if_pos ((l_cmp0 li.2 hl.2).mpr h2), if_pos (nl.mp ⟨h1.symm, h2.symm⟩)]
      · rw [if_neg (fun q => h2 ((l_cmp0 li.2 hl.2).mp q)), if_neg (fun q => h2 (nl.mpr q).2.symm)]
        rfl
    · rw [if_neg (fun q => h1 ((l_cmp0 li.1 hl.1).mp q)), if_neg (fun q => h1 (nl.mpr q).1.symm)]
      rfl
  have hen : ∀ i, min e tab.length ≤ i → i < 1000000 → tok_findIn_32 c a b M (j : Int) ((min e tab.length : Nat) : Int) (i : Int) s = some (-1, s) := by
    intro i hi h2
    unfold tok_findIn_32
    rw [lp_end (f := fun l : Int × iS => tok_findIn_32b c a b M (j : Int) ((min e tab.length : Nat) : Int) (l.1) (l.2)) (l := ((i : Int), s)) (e := .inr s) (by
      show tok_findIn_32b c a b M (j : Int) ((min e tab.length : Nat) : Int) (i : Int) s = _
      unfold tok_findIn_32b
      rw [gr (by omega), gr (by omega), if_pos (by omega)])]
    rfl
  have go : ∀ (k i : Nat), i + k = min e tab.length → tok_findIn_32 c a b M (j : Int) ((min e tab.length : Nat) : Int) (i : Int) s = some (fst1 (fun i => tab.getD i [] = nmT F P t0 j) i k, s) := by
    intro k
    induction k with
    | zero =>
      intro i hi
      rw [hen i (by omega) (by omega)]
      rfl
    | succ k ih =>
      intro i hi
      have st := hst i (by omega)
      by_cases c0 : tab.getD i [] = nmT F P t0 j
      · rw [if_pos c0] at st
        unfold tok_findIn_32
        rw [lp_end (f := fun l : Int × iS => tok_findIn_32b c a b M (j : Int) ((min e tab.length : Nat) : Int) (l.1) (l.2)) (l := ((i : Int), s)) st]
        simp only [fst1, if_pos c0]
        rfl
      · rw [if_neg c0] at st
        have e3 : tok_findIn_32 c a b M (j : Int) ((min e tab.length : Nat) : Int) (i : Int) s = tok_findIn_32 c a b M (j : Int) ((min e tab.length : Nat) : Int) ((i + 1 : Nat) : Int) s := by
          unfold tok_findIn_32
          rw [lp_next (f := fun l : Int × iS => tok_findIn_32b c a b M (j : Int) ((min e tab.length : Nat) : Int) (l.1) (l.2)) (l := ((i : Int), s)) st]
        rw [e3, ih (i + 1) (by omega)]
        simp only [fst1, if_neg c0]
  by_cases hfe : f ≤ min e tab.length
  · exact go (min e tab.length - f) f (by omega)
  · rw [hen f (by omega) hf, show min e tab.length - f = 0 by omega]
    rfl
end PR
