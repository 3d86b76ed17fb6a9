/-! the system's subs: blocks are made -/
/-- the first room for n words from a on -/
def ffA (n : Nat) : Nat → List (Nat × Nat) → Nat
  | a, [] => a
  | a, b :: r => if a + n ≤ b.1 then a else ffA n (b.1 + b.2) r
def ffI (n : Nat) : Nat → List (Nat × Nat) → Nat
  | _, [] => 0
  | a, b :: r => if a + n ≤ b.1 then 0 else ffI n (b.1 + b.2) r + 1
/-- does a block leave n words at a free -/
abbrev fre (n a : Nat) (b : Nat × Nat) : Prop := a + n ≤ b.1 ∨ b.1 + b.2 ≤ a
def fpa (n : Nat) : Nat → List (Nat × Nat) → Nat
  | a, [] => a
  | a, b :: r => if fre n a b then fpa n a r else fpa n (b.1 + b.2) r
def fpm (n : Nat) : Nat → List (Nat × Nat) → Bool
  | _, [] => false
  | a, b :: r => if fre n a b then fpm n a r else true
section LBb
variable {s s' t t' : iS} {n a x : Nat} {B D : List (Nat × Nat)}
theorem srt_le : ∀ (B : List (Nat × Nat)) (a : Nat), srt a B → a ≤ 14336
  | [], a, h => h
  | b :: r, a, h => by
    have := srt_le r _ h.2.2
    have := h.1
    omega
theorem srt_mem : ∀ (B : List (Nat × Nat)) (a : Nat), srt a B → ∀ b ∈ B, a ≤ b.1 ∧ 1 ≤ b.2 ∧ b.1 + b.2 ≤ 14336
  | [], a, h, b, hb => by simp at hb
  | c :: r, a, h, b, hb => by
    have q := srt_le r _ h.2.2
    rcases List.mem_cons.mp hb with z | z
    · rw [z]; exact ⟨h.1, h.2.1, q⟩
    · have := srt_mem r _ h.2.2 b z
      have := h.1
      omega
theorem ffA_ge : ∀ (B : List (Nat × Nat)) (a : Nat), srt a B → a ≤ ffA n a B
  | [], a, h => Nat.le_refl _
  | b :: r, a, h => by
    unfold ffA
    split
    · exact Nat.le_refl _
    · have := ffA_ge r _ h.2.2
      have := h.1
      omega
theorem ffA_le : ∀ (B : List (Nat × Nat)) (a : Nat), srt a B → ffA n a B ≤ 14336
  | [], a, h => h
  | b :: r, a, h => by
    unfold ffA
    split
    · exact srt_le _ _ h
    · exact ffA_le r _ h.2.2
theorem ffA_fre : ∀ (B : List (Nat × Nat)) (a : Nat), srt a B → ∀ b ∈ B, fre n (ffA n a B) b
  | [], a, h, b, hb => by simp at hb
  | c :: r, a, h, b, hb => by
    unfold ffA
    split
    · rename_i q
      rcases List.mem_cons.mp hb with z | z
      · rw [z]; exact Or.inl q
      · have := srt_mem r _ h.2.2 b z
        exact Or.inl (by omega)
    · rcases List.mem_cons.mp hb with z | z
      · have := ffA_ge (n := n) r _ h.2.2
        rw [z]; exact Or.inr this
      · exact ffA_fre r _ h.2.2 b z
theorem ffA_min : ∀ (B : List (Nat × Nat)) (a x : Nat), srt a B → a ≤ x → (∀ b ∈ B, fre n x b) → ffA n a B ≤ x
  | [], a, x, h, hx, hf => hx
  | c :: r, a, x, h, hx, hf => by
    unfold ffA
    split
    · exact hx
    · rename_i q
      have z := hf c List.mem_cons_self
      exact ffA_min r _ x h.2.2 (by unfold fre at z; omega) (fun b hb => hf b (List.mem_cons_of_mem _ hb))
theorem ffI_le : ∀ (B : List (Nat × Nat)) (a : Nat), ffI n a B ≤ B.length
  | [], a => Nat.le_refl _
  | c :: r, a => by
    unfold ffI
    split
    · exact Nat.zero_le _
    · have := ffI_le r (c.1 + c.2)
      rw [List.length_cons]
      omega
/-- room before a block is room in the heap -/
theorem ffI_lt : ∀ (B : List (Nat × Nat)) (a : Nat), srt a B → ffI n a B < B.length → ffA n a B + n ≤ 14336
  | [], a, h, hi => by simp [ffI] at hi
  | c :: r, a, h, hi => by
    unfold ffI at hi
    unfold ffA
    split
    · rename_i q
      have := srt_le _ _ h.2.2
      omega
    · rename_i q
      rw [if_neg q, List.length_cons] at hi
      exact ffI_lt r _ h.2.2 (by omega)
/-- the class finds it -/
theorem al42 : ∀ (k i a : Nat) (hn : n ≤ 32767), i + k = B.length → B.length ≤ 100 → s 44 3 = (B.length : Int) → (∀ j, j < B.length → s 46 j = ((B.getD j (0, 0)).1 : Int) ∧ s 47 j = ((B.getD j (0, 0)).1 : Int) + ((B.getD j (0, 0)).2 : Int)) → srt a (B.drop i) → mem_allocate_42 (n : Int) (a : Int) (i : Int) s = mem_allocate_75 (n : Int) (ffA n a (B.drop i) : Int) ((i + ffI n a (B.drop i) : Nat) : Int) s
  | 0, i, a, hn, hi, h100, h3, hB, hs => by
    have e : B.drop i = [] := List.drop_eq_nil_of_le (by omega)
    rw [e]
    have ha := srt_le _ _ hs
    unfold mem_allocate_42
    rw [lp_end (f := fun l : Int × Int × iS => mem_allocate_42b (n : Int) (l.1) (l.2.1) (l.2.2)) (l := ((a : Int), (i : Int), s)) (e := ((a : Int), (i : Int), s)) (by
      show mem_allocate_42b (n : Int) (a : Int) (i : Int) s = _
      unfold mem_allocate_42b
      rw [gr (by omega), h3, gr (by omega), if_pos (by omega)]), bn]
    rfl
  | k + 1, i, a, hn, hi, h100, h3, hB, hs => by
    have hl : i < B.length := by omega
    have e : B.drop i = B.getD i (0, 0) :: B.drop (i + 1) := by
      rw [List.drop_eq_getElem_cons hl, List.getD_eq_getElem?_getD, List.getElem?_eq_getElem hl]
      rfl
    rw [e] at hs
    have hr := srt_le _ _ hs.2.2
    obtain ⟨b1, b2⟩ := hB i hl
    have h1 := hs.1
    rw [e]
    by_cases c : a + n ≤ (B.getD i (0, 0)).1
    · unfold mem_allocate_42 ffA ffI
      rw [if_pos c, if_pos c, lp_end (f := fun l : Int × Int × iS => mem_allocate_42b (n : Int) (l.1) (l.2.1) (l.2.2)) (l := ((a : Int), (i : Int), s)) (e := ((a : Int), (i : Int), s)) (by
        show mem_allocate_42b (n : Int) (a : Int) (i : Int) s = _
        unfold mem_allocate_42b
        rw [gr (by omega), h3, gr (by omega), if_neg (by omega), gd_pos (by omega), Int.toNat_natCast, b1, gr (by omega), gr (by omega), if_pos (by omega)]), bn]
      rfl
    · have ih := al42 k (i + 1) ((B.getD i (0, 0)).1 + (B.getD i (0, 0)).2) hn (by omega) h100 h3 hB hs.2.2
      have st : mem_allocate_42 (n : Int) (a : Int) (i : Int) s = mem_allocate_42 (n : Int) (((B.getD i (0, 0)).1 + (B.getD i (0, 0)).2 : Nat) : Int) ((i + 1 : Nat) : Int) s := by
        unfold mem_allocate_42
        rw [lp_next (f := fun l : Int × Int × iS => mem_allocate_42b (n : Int) (l.1) (l.2.1) (l.2.2)) (l := ((a : Int), (i : Int), s)) (l' := ((((B.getD i (0, 0)).1 + (B.getD i (0, 0)).2 : Nat) : Int), ((i + 1 : Nat) : Int), s)) (by
          show mem_allocate_42b (n : Int) (a : Int) (i : Int) s = _
          unfold mem_allocate_42b
          rw [gr (by omega), h3, gr (by omega), if_neg (by omega), gd_pos (by omega), Int.toNat_natCast, b1, gr (by omega), gr (by omega), if_neg (by omega), b2]
          rfl)]
      have e1 : ffA n a (B.getD i (0, 0) :: B.drop (i + 1)) = ffA n ((B.getD i (0, 0)).1 + (B.getD i (0, 0)).2) (B.drop (i + 1)) := if_neg c
      have e2 : ffI n a (B.getD i (0, 0) :: B.drop (i + 1)) = ffI n ((B.getD i (0, 0)).1 + (B.getD i (0, 0)).2) (B.drop (i + 1)) + 1 := if_neg c
      rw [st, ih, e1, e2, show i + 1 + ffI n ((B.getD i (0, 0)).1 + (B.getD i (0, 0)).2) (B.drop (i + 1)) = i + (ffI n ((B.getD i (0, 0)).1 + (B.getD i (0, 0)).2) (B.drop (i + 1)) + 1) by omega]
/-- a pass of the reference -/
theorem fpa_ge : ∀ (D : List (Nat × Nat)) (a : Nat), a ≤ fpa n a D
  | [], a => Nat.le_refl _
  | b :: r, a => by
    unfold fpa
    split
    · exact fpa_ge r a
    · rename_i q
      have := fpa_ge r (b.1 + b.2)
      unfold fre at q
      omega
theorem fpa_le : ∀ (D : List (Nat × Nat)) (a : Nat), a ≤ x → (∀ b ∈ D, fre n x b) → fpa n a D ≤ x
  | [], a, h, _ => h
  | b :: r, a, h, hf => by
    unfold fpa
    have z := hf b List.mem_cons_self
    split
    · exact fpa_le r a h (fun c hc => hf c (List.mem_cons_of_mem _ hc))
    · rename_i q
      exact fpa_le r _ (by unfold fre at q z; omega) (fun c hc => hf c (List.mem_cons_of_mem _ hc))
theorem fpm_n : ∀ (D : List (Nat × Nat)) (a : Nat), fpm n a D = false → fpa n a D = a ∧ ∀ b ∈ D, fre n a b
  | [], a, _ => ⟨rfl, fun b hb => by simp at hb⟩
  | c :: r, a, h => by
    unfold fpm at h
    unfold fpa
    split at h
    · rename_i q
      obtain ⟨e1, e2⟩ := fpm_n r a h
      rw [if_pos q]
      refine ⟨e1, fun b hb => ?_⟩
      rcases List.mem_cons.mp hb with z | z
      · rw [z]; exact q
      · exact e2 b z
    · cases h
theorem fpm_y : ∀ (D : List (Nat × Nat)) (a : Nat), fpm n a D = true → a < fpa n a D
  | [], a, h => by simp [fpm] at h
  | c :: r, a, h => by
    unfold fpm at h
    unfold fpa
    split at h
    · rename_i q
      rw [if_pos q]
      exact fpm_y r a h
    · rename_i q
      rw [if_neg q]
      have := fpa_ge (n := n) r (c.1 + c.2)
      unfold fre at q
      omega
theorem fa15 (hn : n ≤ 32767) (h81 : t 121 81 = (D.length : Int)) (h100 : D.length ≤ 100) (hD : ∀ j, j < D.length → t 176 j = ((D.getD j (0, 0)).1 : Int) ∧ t 177 j = ((D.getD j (0, 0)).2 : Int)) (hb : ∀ b ∈ D, b.1 + b.2 ≤ 14336) : ∀ (k i a : Nat) (m : Int), i + k = D.length → a ≤ 14336 → m_freeAt_15 (n : Int) (a : Int) m (i : Int) t = some (.inl ((fpa n a (D.drop i) : Int), (if fpm n a (D.drop i) = true then 1 else m), t))
  | 0, i, a, m, hi, ha => by
    have e : D.drop i = [] := List.drop_eq_nil_of_le (by omega)
    rw [e]
    unfold m_freeAt_15
    rw [lp_end (f := fun l : Int × Int × Int × iS => m_freeAt_15b (n : Int) (l.1) (l.2.1) (l.2.2.1) (l.2.2.2)) (l := ((a : Int), m, (i : Int), t)) (e := ((a : Int), m, t)) (by
      show m_freeAt_15b (n : Int) (a : Int) m (i : Int) t = _
      unfold m_freeAt_15b
      rw [gr (by omega), h81, gr (by omega), if_pos (by omega)]), bn]
    rfl
  | k + 1, i, a, m, hi, ha => by
    have hl : i < D.length := by omega
    have e : D.drop i = D.getD i (0, 0) :: D.drop (i + 1) := by
      rw [List.drop_eq_getElem_cons hl, List.getD_eq_getElem?_getD, List.getElem?_eq_getElem hl]
      rfl
    have hm := hb _ (show D.getD i (0, 0) ∈ D by rw [List.getD_eq_getElem?_getD, List.getElem?_eq_getElem hl]; exact List.getElem_mem hl)
    obtain ⟨b1, b2⟩ := hD i hl
    rw [e]
    unfold fpa fpm
    have step : ∀ (a' : Nat) (m' : Int), m_freeAt_15b (n : Int) (a : Int) m (i : Int) t = some (.inl ((a' : Int), m', ((i + 1 : Nat) : Int), t)) → m_freeAt_15 (n : Int) (a : Int) m (i : Int) t = m_freeAt_15 (n : Int) (a' : Int) m' ((i + 1 : Nat) : Int) t := fun a' m' q => by
      unfold m_freeAt_15
      rw [lp_next (f := fun l : Int × Int × Int × iS => m_freeAt_15b (n : Int) (l.1) (l.2.1) (l.2.2.1) (l.2.2.2)) (l := ((a : Int), m, (i : Int), t)) (l' := ((a' : Int), m', ((i + 1 : Nat) : Int), t)) q]
    by_cases c1 : a + n ≤ (D.getD i (0, 0)).1
    · rw [if_pos (Or.inl c1), if_pos (Or.inl c1), step a m (by
        unfold m_freeAt_15b
        rw [gr (by omega), h81, gr (by omega), if_neg (by omega), gd_pos (by omega), Int.toNat_natCast, b1, gr (by omega), gr (by omega), if_pos (by omega)]
        rfl)]
      exact fa15 hn h81 h100 hD hb k (i + 1) a m (by omega) ha
    · by_cases c2 : (D.getD i (0, 0)).1 + (D.getD i (0, 0)).2 ≤ a
      · rw [if_pos (Or.inr c2), if_pos (Or.inr c2), step a m (by
          unfold m_freeAt_15b
          rw [gr (by omega), h81, gr (by omega), if_neg (by omega), gd_pos (by omega), Int.toNat_natCast, b1, gr (by omega), gr (by omega), if_neg (by omega), b2, gr (by omega), gr (by omega), if_neg (by omega)]
          rfl)]
        exact fa15 hn h81 h100 hD hb k (i + 1) a m (by omega) ha
      · have n1 : ¬ fre n a (D.getD i (0, 0)) := by unfold fre; omega
        rw [if_neg n1, if_neg n1, if_pos rfl, step ((D.getD i (0, 0)).1 + (D.getD i (0, 0)).2) 1 (by
          unfold m_freeAt_15b
          rw [gr (by omega), h81, gr (by omega), if_neg (by omega), gd_pos (by omega), Int.toNat_natCast, b1, gr (by omega), gr (by omega), if_neg (by omega), b2, gr (by omega), gr (by omega), if_pos (by omega)]
          rfl), fa15 hn h81 h100 hD hb k (i + 1) _ 1 (by omega) hm, ite_self]
theorem fa6 (hn : n ≤ 32767) (h81 : t 121 81 = (D.length : Int)) (h100 : D.length ≤ 100) (hD : ∀ j, j < D.length → t 176 j = ((D.getD j (0, 0)).1 : Int) ∧ t 177 j = ((D.getD j (0, 0)).2 : Int)) (hb : ∀ b ∈ D, b.1 + b.2 ≤ 14336) (hx : x ≤ 14336) (hf : ∀ b ∈ D, fre n x b) (hmin : ∀ y, 2048 ≤ y → (∀ b ∈ D, fre n y b) → x ≤ y) : ∀ (k a : Nat), x ≤ a + k → 2048 ≤ a → a ≤ x → m_freeAt_6 (n : Int) (a : Int) 1 t = m_freeAt_86 (n : Int) (x : Int) t := by
  have st : ∀ a : Nat, a ≤ x → m_freeAt_6 (n : Int) (a : Int) 1 t = m_freeAt_6 (n : Int) (fpa n a D : Int) (if fpm n a D = true then 1 else 0) t := fun a ha => by
    have q := fa15 (n := n) (t := t) (D := D) hn h81 h100 hD hb D.length 0 a 0 (by omega) (by omega)
    rw [List.drop_zero] at q
    unfold m_freeAt_6
    rw [lp_next (f := fun l : Int × Int × iS => m_freeAt_6b (n : Int) (l.1) (l.2.1) (l.2.2)) (l := ((a : Int), 1, t)) (l' := ((fpa n a D : Int), (if fpm n a D = true then 1 else 0), t)) (by
      show m_freeAt_6b (n : Int) (a : Int) 1 t = _
      unfold m_freeAt_6b
      rw [gr (by omega), if_neg (by omega)]
      exact q)]
  have en : ∀ a : Nat, m_freeAt_6 (n : Int) (a : Int) 0 t = m_freeAt_86 (n : Int) (a : Int) t := fun a => by
    unfold m_freeAt_6
    rw [lp_end (f := fun l : Int × Int × iS => m_freeAt_6b (n : Int) (l.1) (l.2.1) (l.2.2)) (l := ((a : Int), 0, t)) (e := ((a : Int), t)) (by
      show m_freeAt_6b (n : Int) (a : Int) 0 t = _
      unfold m_freeAt_6b
      rw [gr (by omega), if_pos rfl]), bn]
  intro k
  induction k with
  | zero =>
    intro a h1 h2 h3
    have ea : a = x := by omega
    rw [st a h3]
    cases hm : fpm n a D with
    | true =>
      have := fpm_y D a hm
      have := fpa_le (x := x) D a h3 hf
      omega
    | false =>
      rw [if_neg (by decide), en, (fpm_n D a hm).1, ea]
  | succ k ih =>
    intro a h1 h2 h3
    rw [st a h3]
    cases hm : fpm n a D with
    | true =>
      have q1 := fpm_y D a hm
      have q2 := fpa_le (x := x) D a h3 hf
      rw [if_pos rfl]
      exact ih _ (by omega) (by omega) q2
    | false =>
      obtain ⟨e1, e2⟩ := fpm_n D a hm
      have := hmin a h2 e2
      rw [if_neg (by decide), en, e1, show a = x by omega]
/-- blocks are moved on -/
theorem ib11 {i m : Nat} {v2 v3 : Int} (hm : m ≤ 99) : ∀ (k : Nat) (s : iS), i + k = m → ∃ s', mem_insertBlock_11 (i : Int) v2 v3 (m : Int) s = mem_insertBlock_55 (i : Int) v2 v3 s' ∧ (∀ c j, c ≠ 46 → c ≠ 47 → s' c j = s c j) ∧ ∀ j, (s' 46 j = if i < j ∧ j ≤ m then s 46 (j - 1) else s 46 j) ∧ (s' 47 j = if i < j ∧ j ≤ m then s 47 (j - 1) else s 47 j) := by
  intro k
  induction k generalizing m with
  | zero =>
    intro s h
    refine ⟨s, ?_, fun _ _ _ _ => rfl, fun j => ⟨by rw [if_neg (by omega)], by rw [if_neg (by omega)]⟩⟩
    unfold mem_insertBlock_11
    rw [lp_end (f := fun l : Int × iS => mem_insertBlock_11b (i : Int) v2 v3 (l.1) (l.2)) (l := ((m : Int), s)) (e := s) (by
      show mem_insertBlock_11b (i : Int) v2 v3 (m : Int) s = _
      unfold mem_insertBlock_11b
      rw [gr (by omega), gr (by omega), if_pos (by omega)]), bn]
  | succ k ih =>
    intro s h
    obtain ⟨m', rfl⟩ : ∃ m', m = m' + 1 := ⟨m - 1, by omega⟩
    obtain ⟨s', e1, e2, e3⟩ := ih (m := m') (by omega) (up (up s 46 (m' + 1) (s 46 m')) 47 (m' + 1) (s 47 m')) (by omega)
    refine ⟨s', ?_, fun c j h1 h2 => by rw [e2 c j h1 h2, up_ne (by omega), up_ne (by omega)], fun j => ?_⟩
    · rw [← e1]
      unfold mem_insertBlock_11
      rw [lp_next (f := fun l : Int × iS => mem_insertBlock_11b (i : Int) v2 v3 (l.1) (l.2)) (l := (((m' + 1 : Nat) : Int), s)) (l' := ((m' : Int), up (up s 46 (m' + 1) (s 46 m')) 47 (m' + 1) (s 47 m'))) (by
        show mem_insertBlock_11b (i : Int) v2 v3 ((m' + 1 : Nat) : Int) s = _
        unfold mem_insertBlock_11b
        rw [gr (by omega), gr (by omega), if_neg (by omega), gd_pos (by omega), gd_pos (by omega), lt_eq, lt_eq, up_ne (by omega), show (((m' + 1 : Nat) : Int) - 1).toNat = m' by omega, Int.toNat_natCast, show ((m' + 1 : Nat) : Int) + -1 = (m' : Int) by omega])]
    · obtain ⟨f1, f2⟩ := e3 j
      constructor
      · rw [f1]
        by_cases c : i < j ∧ j ≤ m'
        · rw [if_pos c, if_pos (by omega), up_ne (by omega), up_ne (by omega)]
        · rw [if_neg c]
          by_cases c2 : j = m' + 1
          · rw [if_pos (by omega), c2, up_ne (by omega), up_same]
            rfl
          · rw [if_neg (by omega), up_ne (by omega), up_ne (by omega)]
      · rw [f2]
        by_cases c : i < j ∧ j ≤ m'
        · rw [if_pos c, if_pos (by omega), up_ne (by omega), up_ne (by omega)]
        · rw [if_neg c]
          by_cases c2 : j = m' + 1
          · rw [if_pos (by omega), c2, up_same]
            rfl
          · rw [if_neg (by omega), up_ne (by omega), up_ne (by omega)]
theorem srt_ins : ∀ (B : List (Nat × Nat)) (a : Nat), srt a B → 1 ≤ n → ffA n a B + n ≤ 14336 → srt a (B.take (ffI n a B) ++ (ffA n a B, n) :: B.drop (ffI n a B))
  | [], a, h, hn, hx => ⟨Nat.le_refl _, hn, hx⟩
  | b :: r, a, h, hn, hx => by
    unfold ffI ffA at *
    by_cases c : a + n ≤ b.1
    · rw [if_pos c, if_pos c]
      exact ⟨Nat.le_refl _, hn, c, h.2.1, h.2.2⟩
    · rw [if_neg c] at hx
      rw [if_neg c, if_neg c]
      exact ⟨h.1, h.2.1, srt_ins r _ h.2.2 hn hx⟩
end LBb
