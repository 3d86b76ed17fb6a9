/-! signs: how the relation goes on -/
theorem getD_lt {α : Type} {l r : List α} {i : Nat} {d : α} (h : i < l.length) : (l ++ r).getD i d = l.getD i d := by
  rw [List.getD_eq_getElem?_getD, List.getD_eq_getElem?_getD, List.getElem?_append_left h]
theorem getD_last {α : Type} {l : List α} {b d : α} : (l ++ [b]).getD l.length d = b := by
  rw [List.getD_eq_getElem?_getD, List.getElem?_append_right (Nat.le_refl _), Nat.sub_self]
  rfl
section RAN
variable {n m a k : Nat} {own : List (List Int)} {e : Int} {s t s' t' : iS}
theorem WR_mono {y : Nat} {x c q : Int} (h : WR y x c q) : WR (y + 1) x c q := by
  rcases h with h | ⟨j, h1, h2, h3⟩
  · exact Or.inl h
  · exact Or.inr ⟨j, by omega, h2, h3⟩
theorem WR_q {y : Nat} {x c q : Int} (h : WR y x c q) : -1 ≤ q ∧ q < (y : Int) := by
  rcases h with ⟨h, _⟩ | ⟨j, h1, h2, h3⟩ <;> omega
/-- a new symbol -/
theorem RA_new {b : List Int} (h : RA n own m (-1) s t) (hl : own.length ≠ 100) (hb : gw b) (eb : b = bs (t 123) a k) (hk : a + k ≤ n) : RA n (own ++ [b]) m (own.length : Int) (nsx s own.length b) (nsy t own.length a k) := by
  obtain ⟨h1, h2, h3, h4, h5, h6, h7, h8⟩ := h
  have htl : (tK ++ own).length = 23 + own.length := by rw [List.length_append, tK_len]
  have hL : (own ++ [b]).length = own.length + 1 := by rw [List.length_append]; rfl
  have x69 : nsx s own.length b 69 = s 69 := by unfold nsx; rw [up_cell (by decide), up_cell (by decide), up_cell (by decide), up_cell (by decide)]
  have t189 : nsy t own.length a k 189 = t 189 := by unfold nsy; rw [up_cell (by decide), up_cell (by decide), up_cell (by decide), up_cell (by decide)]
  have t193 : nsy t own.length a k 193 = t 193 := by unfold nsy; rw [up_cell (by decide), up_cell (by decide), up_cell (by decide), up_cell (by decide)]
  have t123 : nsy t own.length a k 123 = t 123 := by unfold nsy; rw [up_cell (by decide), up_cell (by decide), up_cell (by decide), up_cell (by decide)]
  have t190 : ∀ j, nsy t own.length a k 190 j = if j = own.length then (a : Int) else t 190 j := fun j => by simp [nsy, up_at]
  have t191 : ∀ j, nsy t own.length a k 191 j = if j = own.length then (k : Int) else t 191 j := fun j => by simp [nsy, up_at]
  have t192 : ∀ j, nsy t own.length a k 192 j = if j = own.length then -1 else t 192 j := fun j => by simp [nsy, up_at]
  have x68 : ∀ j, nsx s own.length b 68 j = if j = 23 + own.length then -1 else s 68 j := fun j => by simp [nsx, up_at]
  have x66 : ∀ j, nsx s own.length b 66 j = if j = 23 + own.length then wH b else s 66 j := fun j => by simp [nsx, up_at]
  have x67 : ∀ j, nsx s own.length b 67 j = if j = 23 + own.length then wL b else s 67 j := fun j => by simp [nsx, up_at]
  refine ⟨?_, ⟨by rw [hL]; have := h2.1; omega, ?_, fun w hw => ?_⟩, ⟨?_, fun i hi => ?_⟩, fun i hi => ?_, fun j hj => ?_, fun i hi => ?_, fun i hi j hj => ?_, fun j hj hne => ?_⟩
  · have e1 : nsx s own.length b 55 8 = s 55 8 := by simp [nsx, up_at]
    have e2 : nsy t own.length a k 121 110 = t 121 110 := by simp [nsy, up_at]
    rw [e1, e2]
    exact h1
  · rw [hL]
    unfold nsy
    rw [up_same]
    omega
  · rcases List.mem_append.mp hw with q | q
    · exact h2.2.2 w q
    · rw [List.mem_singleton.mp q]; exact hb
  · rw [← List.append_assoc, List.length_append, htl]
    unfold nsx
    rw [up_ne (by omega), up_same]
    rfl
  · rw [← List.append_assoc] at hi ⊢
    rw [List.length_append, htl] at hi
    have hi' : i < 23 + own.length + 1 := hi
    rw [x66, x67]
    by_cases c : i = 23 + own.length
    · rw [if_pos c, if_pos c]
      have : (tK ++ own ++ [b]).getD i [] = b := by rw [c, ← htl]; exact getD_last
      rw [this]
      exact ⟨rfl, rfl⟩
    · rw [if_neg c, if_neg c, getD_lt (by omega)]
      exact h3.2 i (by omega)
  · rw [x68, if_neg (by omega)]
    exact h4 i hi
  · rw [hL] at hj
    rw [t190, t191, t192, x68, t123]
    by_cases c : j = own.length
    · subst c
      rw [if_pos rfl, if_pos rfl, if_pos rfl, if_pos rfl, getD_last]
      exact ⟨⟨by omega, by omega, by omega⟩, by rw [Int.toNat_natCast, Int.toNat_natCast]; exact eb, rfl, by omega, by omega⟩
    · rw [if_neg c, if_neg c, if_neg c, if_neg (by omega), getD_lt (by omega)]
      exact h5 j (by omega)
  · rw [x69, t189, t193, hL]
    exact WR_mono (h6 i hi)
  · rw [t193] at hj ⊢
    have := WR_q (h6 i hi)
    rw [t192, if_neg (by omega)]
    exact h7 i hi j hj
  · rw [hL] at hj
    rw [t193, t192, if_neg (by omega)]
    exact h8 j (by omega) (by omega)
/-- one more word -/
theorem RA_word {x c q : Int} (h : RA n own m e s t) (hm : m < 1500) (hw : WR own.length x c q) (he : e = -1 ∨ e = q) (a1 : s' 55 8 = ((m + 1 : Nat) : Int)) (a2 : ∀ i, s' 69 i = if i = m then x else s 69 i) (a3 : s' 65 2 = s 65 2) (a4 : s' 66 = s 66) (a5 : s' 67 = s 67) (a6 : s' 68 = s 68) (b1 : t' 121 110 = ((m + 1 : Nat) : Int)) (b2 : t' 121 112 = t 121 112) (b3 : t' 123 = t 123) (b4 : t' 190 = t 190) (b5 : t' 191 = t 191) (b6 : t' 192 = t 192) (b7 : ∀ i, t' 189 i = if i = m then c else t 189 i) (b8 : ∀ i, t' 193 i = if i = m then q else t 193 i) : RA n own (m + 1) (-1) s' t' := by
  obtain ⟨h1, h2, h3, h4, h5, h6, h7, h8⟩ := h
  refine ⟨⟨a1, b1, by omega⟩, by rw [b2]; exact h2, ⟨by rw [a3]; exact h3.1, by rw [a4, a5]; exact h3.2⟩, by rw [a6]; exact h4, by rw [b3, a6, b4, b5, b6]; exact h5, fun i hi => ?_, fun i hi j hj => ?_, fun j hj _ => ?_⟩
  · rw [a2, b7, b8]
    by_cases g : i = m
    · rw [if_pos g, if_pos g, if_pos g]; exact hw
    · rw [if_neg g, if_neg g, if_neg g]; exact h6 i (by omega)
  · rw [b6]
    rw [b8] at hj
    by_cases g : i = m
    · rw [if_pos g] at hj
      have := WR_q hw
      rcases h8 j (by omega) (by omega) with z | ⟨i', z1, z2⟩
      · exact Or.inl z
      · exact Or.inr ⟨i', by omega, by rw [b8, if_neg (by omega)]; exact z2⟩
    · rw [if_neg g] at hj
      rcases h7 i (by omega) j hj with z | ⟨i', z1, z2⟩
      · exact Or.inl z
      · exact Or.inr ⟨i', z1, by rw [b8, if_neg (by omega)]; exact z2⟩
  · rw [b6]
    by_cases g : (j : Int) = q
    · exact Or.inr ⟨m, by omega, by rw [b8, if_pos rfl, g]⟩
    · rcases h8 j hj (by omega) with z | ⟨i', z1, z2⟩
      · exact Or.inl z
      · exact Or.inr ⟨i', by omega, by rw [b8, if_neg (by omega)]; exact z2⟩
/-- a value is told -/
theorem RA_val {y : Nat} (h : RA n own m e s t) (hy : y < own.length) (he : e = -1 ∨ e = (y : Int)) : RA n own m (-1) (up s 68 (23 + y) (m : Int)) (up t 192 y (m : Int)) := by
  obtain ⟨h1, h2, h3, h4, h5, h6, h7, h8⟩ := h
  have hm := h1.2.2
  have v : ∀ j, up t 192 y (m : Int) 192 j ≠ -1 ∨ up t 192 y (m : Int) 192 j = t 192 j := by
    intro j
    rw [up_at]
    by_cases g : j = y
    · rw [if_pos ⟨rfl, g⟩]; left; omega
    · rw [if_neg (fun z => g z.2)]; right; rfl
  refine ⟨?_, ?_, ⟨?_, ?_⟩, fun k hk => ?_, fun j hj => ?_, ?_, fun i hi j hj => ?_, fun j hj _ => ?_⟩
  · rw [up_cell (by decide), up_cell (by decide)]; exact h1
  · rw [up_cell (by decide)]; exact h2
  · rw [up_cell (by decide)]; exact h3.1
  · rw [up_cell (by decide), up_cell (by decide)]; exact h3.2
  · rw [up_ne (by omega)]; exact h4 k hk
  · rw [up_cell (by decide), up_cell (by decide), up_cell (by decide), up_at, up_at]
    obtain ⟨g1, g2, g3, g4⟩ := h5 j hj
    by_cases g : j = y
    · rw [if_pos ⟨rfl, by omega⟩, if_pos ⟨rfl, g⟩]
      exact ⟨g1, g2, rfl, by omega, by omega⟩
    · rw [if_neg (fun z => by omega), if_neg (fun z => g z.2)]
      exact ⟨g1, g2, g3, g4⟩
  · rw [up_cell (by decide), up_cell (by decide), up_cell (by decide)]; exact h6
  · rw [up_cell (show 193 ≠ 192 by decide)] at hj ⊢
    rcases v j with z | z
    · exact Or.inl z
    · rw [z]; exact h7 i hi j hj
  · rw [up_cell (show 193 ≠ 192 by decide)]
    by_cases g : j = y
    · left
      rw [up_at, if_pos ⟨rfl, g⟩]
      omega
    · rcases v j with z | z
      · exact Or.inl z
      · rw [z]; exact h8 j hj (by omega)
theorem RA_193 {v : Int} (h : RA n own m e s t) : RA n own m e s (up t 193 m v) := by
  obtain ⟨h1, h2, h3, h4, h5, h6, h7, h8⟩ := h
  have u : ∀ i, i < m → up t 193 m v 193 i = t 193 i := fun i hi => up_ne (by omega)
  refine ⟨?_, ?_, h3, h4, ?_, fun i hi => ?_, fun i hi j hj => ?_, fun j hj hne => ?_⟩
  · rw [up_cell (by decide)]; exact h1
  · rw [up_cell (by decide)]; exact h2
  · rw [up_cell (by decide), up_cell (by decide), up_cell (by decide), up_cell (by decide)]; exact h5
  · rw [u i hi, up_cell (by decide)]; exact h6 i hi
  · rw [u i hi] at hj
    rw [up_cell (by decide)]
    rcases h7 i hi j hj with z | ⟨i', z1, z2⟩
    · exact Or.inl z
    · exact Or.inr ⟨i', z1, by rw [u i' (by omega)]; exact z2⟩
  · rw [up_cell (by decide)]
    rcases h8 j hj hne with z | ⟨i', z1, z2⟩
    · exact Or.inl z
    · exact Or.inr ⟨i', z1, by rw [u i' z1]; exact z2⟩
/-- what one instruction leaves -/
def OUT (bad p : Int) (n : Nat) (s t : iS) : Prop := (bad = 0 ∧ s 55 14 = 0 ∧ s 55 15 = -1 ∧ ∃ own m, RA n own m (-1) s t) ∨ ((bad = 1 ∨ bad = 2 ∨ bad = 3) ∧ s 55 14 = bad ∧ s 55 15 = p ∧ RK s)
theorem RK_of (h : RK s) (a3 : s' 65 2 = s 65 2) (a4 : s' 66 = s 66) (a5 : s' 67 = s 67) (a6 : s' 68 = s 68) : RK s' := by
  obtain ⟨y, h1, h2, h3⟩ := h
  exact ⟨y, by rw [a3]; exact h1, h2, by rw [a4, a5, a6]; exact h3⟩
theorem RK_55 {k : Nat} {x : Int} (h : RK s) : RK (up s 55 k x) := RK_of h (by rw [up_cell (by decide)]) (up_cell (by decide)) (up_cell (by decide)) (up_cell (by decide))
theorem RK_69 {k : Nat} {x : Int} (h : RK s) : RK (up s 69 k x) := RK_of h (by rw [up_cell (by decide)]) (up_cell (by decide)) (up_cell (by decide)) (up_cell (by decide))
theorem pst0 {p c : Int} (h : s 55 14 = 0) : pro_stopAt p c s = some (0, up (up s 55 14 c) 55 15 p) := by
  unfold pro_stopAt
  rw [gr (by omega), if_pos h]
  rfl
theorem pst1 {p c : Int} (h : s 55 14 = 1 ∨ s 55 14 = 2 ∨ s 55 14 = 3) : pro_stopAt p c s = some (0, s) := by
  unfold pro_stopAt
  rw [gr (by omega), if_neg (by omega)]
theorem OUT_st {p c : Int} (h : RK s) (hc : c = 1 ∨ c = 2 ∨ c = 3) : OUT c p n (up (up s 55 14 c) 55 15 p) t := by
  refine Or.inr ⟨hc, ?_, up_same _ _ _ _, RK_55 (RK_55 h)⟩
  rw [up_ne (by omega), up_same]
/-- a word behind a fault -/
theorem pad_f {p w b : Int} (hm : s 55 8 = (m : Int)) (h1500 : m ≤ 1500) (hb : b = 1 ∨ b = 2 ∨ b = 3) (h14 : s 55 14 = b) (h15 : s 55 15 = p) (h : RK s) : ∃ s', pro_addWord p w s = some (0, s') ∧ s' 55 14 = b ∧ s' 55 15 = p ∧ RK s' := by
  unfold pro_addWord
  rw [gr (by omega)]
  by_cases c : m < 1500
  · rw [if_pos (by omega), gd_pos (by omega)]
    refine ⟨_, rfl, ?_, ?_, RK_55 (RK_69 h)⟩
    · rw [up_ne (by omega), up_cell (by decide)]; exact h14
    · rw [up_ne (by omega), up_cell (by decide)]; exact h15
  · rw [if_neg (by omega), pst1 (by omega), bq]
    exact ⟨s, rfl, h14, h15, h⟩
theorem pad_w {p w : Int} (hm : s 55 8 = (m : Int)) (h1500 : m < 1500) : pro_addWord p w s = some (0, up (up s 69 m w) 55 8 ((m + 1 : Nat) : Int)) := by
  unfold pro_addWord
  have e : (s 55 8).toNat = m := by omega
  rw [gr (by omega), if_pos (by omega), gd_pos (by omega)]
  simp only [lt_eq, e]
  have u : up s 69 m w 55 8 = (m : Int) := by rw [up_cell (by decide)]; exact hm
  rw [u]
  rfl
theorem pad_s {p w : Int} (hm : s 55 8 = 1500) (h0 : s 55 14 = 0) : pro_addWord p w s = some (0, up (up s 55 14 2) 55 15 p) := by
  unfold pro_addWord
  rw [gr (by omega), if_neg (by omega), pst0 h0, bq]
end RAN
