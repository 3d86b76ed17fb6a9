/-! the system's subs: freeing a block -/
section LBd
variable {s s' t t' : iS} {n a x i : Nat} {B D : List (Nat × Nat)} {v : Int}
theorem srt_inj : ∀ (B : List (Nat × Nat)) (a : Nat), srt a B → ∀ i j, i < B.length → j < B.length → (B.getD i (0, 0)).1 = (B.getD j (0, 0)).1 → i = j
  | [], a, h, i, j, hi, _, _ => by simp at hi
  | b :: r, a, h, i, j, hi, hj, e => by
    have m : ∀ k, k < r.length → b.1 + b.2 ≤ (r.getD k (0, 0)).1 := fun k hk => (srt_mem r _ h.2.2 _ (by rw [List.getD_eq_getElem?_getD, List.getElem?_eq_getElem hk]; exact List.getElem_mem hk)).1
    rw [List.length_cons] at hi hj
    have hb := h.2.1
    cases i with
    | zero =>
      cases j with
      | zero => rfl
      | succ j =>
        rw [List.getD_cons_zero, List.getD_cons_succ] at e
        have := m j (by omega)
        omega
    | succ i =>
      cases j with
      | zero =>
        rw [List.getD_cons_zero, List.getD_cons_succ] at e
        have := m i (by omega)
        omega
      | succ j =>
        rw [List.getD_cons_succ, List.getD_cons_succ] at e
        rw [srt_inj r _ h.2.2 i j (by omega) (by omega) e]
/-- the class looks for it -/
theorem rl4 (hv : w16 v) {f : Int} (hf : -1 ≤ f ∧ f < 100) (h3 : s 44 3 = (B.length : Int)) (h100 : B.length ≤ 100) (hB : ∀ j, j < B.length → s 46 j = ((B.getD j (0, 0)).1 : Int)) (hb : ∀ j, j < B.length → (B.getD j (0, 0)).1 ≤ 14336) (hu : ∀ j, j < B.length → (((B.getD j (0, 0)).1 : Int) = v ↔ (j : Int) = f)) : ∀ (k j : Nat), j + k = B.length → mem_release_4 v (if f < (j : Int) then f else -1) (j : Int) s = mem_release_30 (if f < (B.length : Int) then f else -1) s
  | 0, j, hj => by
    have e : j = B.length := by omega
    subst e
    unfold mem_release_4
    rw [lp_end (f := fun l : Int × Int × iS => mem_release_4b v (l.1) (l.2.1) (l.2.2)) (l := ((if f < (B.length : Int) then f else -1), (B.length : Int), s)) (e := ((if f < (B.length : Int) then f else -1), s)) (by
      show mem_release_4b v _ (B.length : Int) s = _
      unfold mem_release_4b
      rw [gr (by omega), h3, gr (by omega), if_pos (by omega)]), bn]
  | k + 1, j, hj => by
    have st : mem_release_4 v (if f < (j : Int) then f else -1) (j : Int) s = mem_release_4 v (if f < ((j + 1 : Nat) : Int) then f else -1) ((j + 1 : Nat) : Int) s := by
      unfold mem_release_4
      rw [lp_next (f := fun l : Int × Int × iS => mem_release_4b v (l.1) (l.2.1) (l.2.2)) (l := ((if f < (j : Int) then f else -1), (j : Int), s)) (l' := ((if f < ((j + 1 : Nat) : Int) then f else -1), ((j + 1 : Nat) : Int), s)) (by
        show mem_release_4b v _ (j : Int) s = _
        unfold mem_release_4b
        have u := hu j (by omega)
        have hb' := hb j (by omega)
        rw [gr (by omega), h3, gr (by omega), if_neg (by omega), gd_pos (by omega), Int.toNat_natCast, hB j (by omega), gr (by omega), gr (by omega)]
        by_cases c : ((B.getD j (0, 0)).1 : Int) = v
        · rw [if_pos c, if_pos (show f < ((j + 1 : Nat) : Int) by have := u.mp c; omega), ← u.mp c]
          rfl
        · rw [if_neg c]
          have nf : (j : Int) ≠ f := fun q => c (u.mpr q)
          by_cases c2 : f < (j : Int)
          · rw [if_pos c2, if_pos (by omega)]
            rfl
          · rw [if_neg c2, if_neg (by omega)]
            rfl)]
    rw [st]
    exact rl4 hv hf h3 h100 hB hb hu k (j + 1) (by omega)
/-- blocks are moved back -/
theorem rl76 {m : Nat} (hm : m ≤ 99) : ∀ (k i : Nat) (s : iS), i + k = m → s 44 3 = (m : Int) → ∃ s', mem_release_76 (i : Int) s = some (0, s') ∧ (∀ c j, c ≠ 46 → c ≠ 47 → s' c j = s c j) ∧ ∀ j, (s' 46 j = if i ≤ j ∧ j < m then s 46 (j + 1) else s 46 j) ∧ (s' 47 j = if i ≤ j ∧ j < m then s 47 (j + 1) else s 47 j)
  | 0, i, s, hi, h3 => by
    refine ⟨s, ?_, fun _ _ _ _ => rfl, fun j => ⟨by rw [if_neg (by omega)], by rw [if_neg (by omega)]⟩⟩
    unfold mem_release_76
    rw [lp_end (f := fun l : Int × iS => mem_release_76b (l.1) (l.2)) (l := ((i : Int), s)) (e := s) (by
      show mem_release_76b (i : Int) s = _
      unfold mem_release_76b
      rw [gr (by omega), h3, gr (by omega), if_pos (by omega)]), bn]
  | k + 1, i, s, hi, h3 => by
    obtain ⟨s', e1, e2, e3⟩ := rl76 hm k (i + 1) (up (up s 46 i (s 46 (i + 1))) 47 i (s 47 (i + 1))) (by omega) (by rw [up_ne (by omega), up_ne (by omega)]; exact h3)
    refine ⟨s', ?_, fun c j h1 h2 => by rw [e2 c j h1 h2, up_ne (by omega), up_ne (by omega)], fun j => ?_⟩
    · rw [← e1]
      unfold mem_release_76
      rw [lp_next (f := fun l : Int × iS => mem_release_76b (l.1) (l.2)) (l := ((i : Int), s)) (l' := (((i + 1 : Nat) : Int), up (up s 46 i (s 46 (i + 1))) 47 i (s 47 (i + 1)))) (by
        show mem_release_76b (i : Int) s = _
        unfold mem_release_76b
        rw [gr (by omega), h3, gr (by omega), if_neg (by omega), gd_pos (by omega), gd_pos (by omega), lt_eq, lt_eq, up_ne (by omega), show ((i : Int) + 1).toNat = i + 1 by omega, Int.toNat_natCast]
        rfl)]
    · obtain ⟨f1, f2⟩ := e3 j
      constructor
      · rw [f1]
        by_cases c : i + 1 ≤ j ∧ j < m
        · rw [if_pos c, if_pos (by omega), up_ne (by omega), up_ne (by omega)]
        · rw [if_neg c]
          by_cases c2 : j = i
          · rw [if_pos (by omega), c2, up_ne (by omega), up_same]
          · rw [if_neg (by omega), up_ne (by omega), up_ne (by omega)]
      · rw [f2]
        by_cases c : i + 1 ≤ j ∧ j < m
        · rw [if_pos c, if_pos (by omega), up_ne (by omega), up_ne (by omega)]
        · rw [if_neg c]
          by_cases c2 : j = i
          · rw [if_pos (by omega), c2, up_same]
          · rw [if_neg (by omega), up_ne (by omega), up_ne (by omega)]
/-- the reference looks for it -/
theorem dr2 (hv : w16 v) (h81 : t 121 81 = (D.length : Int)) (h100 : D.length ≤ 100) (hD : ∀ j, j < D.length → t 176 j = ((D.getD j (0, 0)).1 : Int)) (hb : ∀ j, j < D.length → (D.getD j (0, 0)).1 ≤ 14336) : ∀ (k j : Nat), j + k = D.length → (∃ d, j ≤ d ∧ d < D.length ∧ ((D.getD d (0, 0)).1 : Int) = v ∧ m_drop_2 v (j : Int) t = m_drop_23 (d : Int) t) ∨ ((∀ d, j ≤ d → d < D.length → ((D.getD d (0, 0)).1 : Int) ≠ v) ∧ m_drop_2 v (j : Int) t = m_drop_70 t)
  | 0, j, hj => by
    refine Or.inr ⟨fun d h1 h2 => by omega, ?_⟩
    unfold m_drop_2
    rw [lp_end (f := fun l : Int × iS => m_drop_2b v (l.1) (l.2)) (l := ((j : Int), t)) (e := .inr t) (by
      show m_drop_2b v (j : Int) t = _
      unfold m_drop_2b
      rw [gr (by omega), h81, gr (by omega), if_pos (by omega)]), bn]
    rfl
  | k + 1, j, hj => by
    have hb' := hb j (by omega)
    by_cases c : ((D.getD j (0, 0)).1 : Int) = v
    · refine Or.inl ⟨j, Nat.le_refl _, by omega, c, ?_⟩
      unfold m_drop_2
      rw [lp_end (f := fun l : Int × iS => m_drop_2b v (l.1) (l.2)) (l := ((j : Int), t)) (e := .inl ((j : Int), t)) (by
        show m_drop_2b v (j : Int) t = _
        unfold m_drop_2b
        rw [gr (by omega), h81, gr (by omega), if_neg (by omega), gd_pos (by omega), Int.toNat_natCast, hD j (by omega), gr (by omega), gr (by omega), if_pos c]), bn]
      rfl
    · have st : m_drop_2 v (j : Int) t = m_drop_2 v ((j + 1 : Nat) : Int) t := by
        unfold m_drop_2
        rw [lp_next (f := fun l : Int × iS => m_drop_2b v (l.1) (l.2)) (l := ((j : Int), t)) (l' := (((j + 1 : Nat) : Int), t)) (by
          show m_drop_2b v (j : Int) t = _
          unfold m_drop_2b
          rw [gr (by omega), h81, gr (by omega), if_neg (by omega), gd_pos (by omega), Int.toNat_natCast, hD j (by omega), gr (by omega), gr (by omega), if_neg c]
          rfl)]
      rw [st]
      rcases dr2 hv h81 h100 hD hb k (j + 1) (by omega) with ⟨d, a1, a2, a3, a4⟩ | ⟨a1, a2⟩
      · exact Or.inl ⟨d, by omega, a2, a3, a4⟩
      · refine Or.inr ⟨fun d h1 h2 => ?_, a2⟩
        by_cases q : d = j
        · rw [q]; exact c
        · exact a1 d (by omega) h2
theorem gE1 {α : Type} {d : α} {B : List α} {i j : Nat} (hi : i < B.length) : (B.take i ++ B.drop (i + 1)).getD j d = if j < i then B.getD j d else B.getD (j + 1) d := by
  have lt : (B.take i).length = i := by rw [List.length_take]; omega
  by_cases c : j < i
  · rw [if_pos c, gdL (by omega), List.getD_eq_getElem?_getD, List.getD_eq_getElem?_getD, List.getElem?_take, if_pos c]
  · obtain ⟨k, rfl⟩ : ∃ k, j = i + k := ⟨j - i, by omega⟩
    rw [if_neg c, gdR (by omega), lt, List.getD_eq_getElem?_getD, List.getD_eq_getElem?_getD, List.getElem?_drop, show i + 1 + (i + k - i) = i + k + 1 by omega]
theorem spl {α : Type} {d : α} {B : List α} {i : Nat} (hi : i < B.length) : B = B.take i ++ B.getD i d :: B.drop (i + 1) := by
  conv => lhs; rw [← List.take_append_drop i B, List.drop_eq_getElem_cons hi]
  rw [List.getD_eq_getElem?_getD, List.getElem?_eq_getElem hi]
  rfl
theorem srt_del : ∀ (B : List (Nat × Nat)) (a i : Nat), srt a B → i < B.length → srt a (B.take i ++ B.drop (i + 1))
  | [], a, i, h, hi => by simp at hi
  | b :: r, a, 0, h, hi => by
    show srt a r
    cases r with
    | nil =>
      have := h.1
      have := h.2.2
      unfold srt at this ⊢
      omega
    | cons c q =>
      have h1 := h.1
      obtain ⟨h2, h3, h4⟩ := h.2.2
      exact ⟨by omega, h3, h4⟩
  | b :: r, a, i + 1, h, hi => ⟨h.1, h.2.1, srt_del r _ i h.2.2 (by rw [List.length_cons] at hi; omega)⟩
/-- the last in the place of another -/
def swp (D : List (Nat × Nat)) (d : Nat) : List (Nat × Nat) := (D.set d (D.getD (D.length - 1) (0, 0))).take (D.length - 1)
theorem swp_perm {d : Nat} (hd : d < D.length) : (D.getD d (0, 0) :: swp D d).Perm D := by
  have hl : D.length - 1 < D.length := by omega
  by_cases c : d = D.length - 1
  · have e : swp D d = D.take d := by
      unfold swp
      rw [← c]
      refine List.ext_getElem? fun j => ?_
      rw [List.getElem?_take, List.getElem?_take, List.getElem?_set]
      split
      · rw [if_neg (by omega)]
      · rfl
    have q := spl (d := ((0, 0) : Nat × Nat)) hd
    rw [List.drop_eq_nil_of_le (by omega)] at q
    rw [e]
    conv => rhs; rw [q]
    exact (List.perm_append_singleton _ _).symm
  · have q := spl (d := ((0, 0) : Nat × Nat)) hd
    -- what stands behind d
    have e : swp D d = D.take d ++ D.getD (D.length - 1) (0, 0) :: (D.drop (d + 1)).take (D.length - 1 - (d + 1)) := by
      unfold swp
      refine List.ext_getElem? fun j => ?_
      have lt : (D.take d).length = d := by rw [List.length_take]; omega
      rw [List.getElem?_take, List.getElem?_set]
      by_cases c1 : j < d
      · rw [if_pos (by omega), if_neg (by omega), List.getElem?_append_left (by omega), List.getElem?_take, if_pos c1]
      · rw [List.getElem?_append_right (by omega), lt]
        by_cases c2 : j = d
        · rw [if_pos (by omega), if_pos c2.symm, if_pos (by omega), c2, Nat.sub_self]
          rfl
        · obtain ⟨k, rfl⟩ : ∃ k, j = d + k + 1 := ⟨j - d - 1, by omega⟩
          rw [show d + k + 1 - d = k + 1 by omega, List.getElem?_cons_succ, List.getElem?_take, List.getElem?_drop, if_neg (show ¬ d = d + k + 1 by omega), show d + 1 + k = d + k + 1 by omega]
          by_cases c3 : d + k + 1 < D.length - 1
          · rw [if_pos c3, if_pos (by omega)]
          · rw [if_neg c3, if_neg (by omega)]
    have r : D.drop (d + 1) = (D.drop (d + 1)).take (D.length - 1 - (d + 1)) ++ [D.getD (D.length - 1) (0, 0)] := by
      refine List.ext_getElem? fun j => ?_
      have lt : ((D.drop (d + 1)).take (D.length - 1 - (d + 1))).length = D.length - 1 - (d + 1) := by rw [List.length_take, List.length_drop]; omega
      by_cases c1 : j < D.length - 1 - (d + 1)
      · rw [List.getElem?_append_left (by omega), List.getElem?_take, if_pos c1]
      · rw [List.getElem?_append_right (by omega), lt, List.getElem?_drop]
        by_cases c2 : j = D.length - 1 - (d + 1)
        · rw [c2, Nat.sub_self, show d + 1 + (D.length - 1 - (d + 1)) = D.length - 1 by omega, List.getD_eq_getElem?_getD, List.getElem?_eq_getElem hl]
          rfl
        · rw [List.getElem?_eq_none (by omega), List.getElem?_eq_none (by simp; omega)]
    rw [e]
    conv => rhs; rw [q, r]
    refine (List.Perm.cons _ (List.perm_middle)).trans ?_
    refine (List.Perm.trans ?_ List.perm_middle.symm)
    refine List.Perm.cons _ ?_
    rw [← List.append_assoc]
    exact (List.perm_append_singleton _ _).symm
theorem swp_len {d : Nat} (hd : d < D.length) : (swp D d).length = D.length - 1 := by
  unfold swp
  rw [List.length_take, List.length_set]
  omega
theorem swp_at {d j : Nat} (hj : j < D.length - 1) : (swp D d).getD j (0, 0) = if j = d then D.getD (D.length - 1) (0, 0) else D.getD j (0, 0) := by
  unfold swp
  rw [List.getD_eq_getElem?_getD, List.getElem?_take, if_pos hj, List.getElem?_set]
  by_cases c : j = d
  · rw [if_pos c.symm, if_pos (by omega), if_pos c]
    rfl
  · rw [if_neg (fun q => c q.symm), if_neg c, List.getD_eq_getElem?_getD]
theorem sml_perm (h : B.Perm D) : sml B = sml D := by
  unfold sml
  exact (h.map Prod.snd).sum_nat
theorem sml_del (hi : i < B.length) : sml (B.take i ++ B.drop (i + 1)) + (B.getD i (0, 0)).2 = sml B := by
  have q := spl (d := ((0, 0) : Nat × Nat)) hi
  unfold sml
  conv => rhs; rw [q]
  rw [List.map_append, List.map_append, List.sum_append, List.sum_append, List.map_cons, List.sum_cons]
  omega
/-- a block is freed -/
theorem rel_ok1 (h : LB s t) (hg : gO s t) (hv : w16 v) : Ov (fun r r' => r = 0 ∧ r' = 0) (mem_release v s) (m_drop v t) := by
  have h' := h
  obtain ⟨g1, ⟨B, D, hp, h3, h81, h100, hB, hD, hs, h4⟩, g3, g4, g5⟩ := h
  have hl := hp.length_eq
  have mB : ∀ j, j < B.length → B.getD j (0, 0) ∈ B := fun j hj => by rw [List.getD_eq_getElem?_getD, List.getElem?_eq_getElem hj]; exact List.getElem_mem hj
  have mD : ∀ j, j < D.length → D.getD j (0, 0) ∈ D := fun j hj => by rw [List.getD_eq_getElem?_getD, List.getElem?_eq_getElem hj]; exact List.getElem_mem hj
  have bB : ∀ j, j < B.length → 2048 ≤ (B.getD j (0, 0)).1 ∧ 1 ≤ (B.getD j (0, 0)).2 ∧ (B.getD j (0, 0)).1 + (B.getD j (0, 0)).2 ≤ 14336 := fun j hj => srt_mem B 2048 hs _ (mB j hj)
  have bD : ∀ j, j < D.length → (D.getD j (0, 0)).1 ≤ 14336 := fun j hj => by have := srt_mem B 2048 hs _ (hp.mem_iff.mpr (mD j hj)); omega
  have ix : ∀ {L : List (Nat × Nat)} {b : Nat × Nat}, b ∈ L → ∃ j, j < L.length ∧ L.getD j (0, 0) = b := fun {L b} hb => by
    obtain ⟨j, hj, e⟩ := List.getElem_of_mem hb
    exact ⟨j, hj, by rw [List.getD_eq_getElem?_getD, List.getElem?_eq_getElem hj]; exact e⟩
  unfold mem_release m_drop
  rcases dr2 hv h81 (by omega) (fun j hj => (hD j hj).1) bD D.length 0 (by omega) with ⟨d, _, d2, d3, d4⟩ | ⟨d1, d2⟩
  case inr =>
    have R := rl4 (s := s) (B := B) (f := -1) hv (by decide) h3 h100 (fun j hj => (hB j hj).1) (fun j hj => by have := bB j hj; omega) (fun j hj => by
      refine ⟨fun q => ?_, fun q => by omega⟩
      obtain ⟨d, e1, e2⟩ := ix (hp.mem_iff.mp (mB j hj))
      exact absurd (by rw [e2]; exact q) (d1 d (Nat.zero_le _) e1)) B.length 0 (by omega)
    simp only [ite_self] at R
    rw [show mem_release_4 v (-1) 0 s = _ from R, show m_drop_2 v 0 t = _ from d2]
    unfold mem_release_30 m_drop_70
    rw [gr (by omega), if_pos rfl]
    exact Ov_bd (V := fun _ _ => False) (fail_go h' hg (by decide)) (fun _ _ _ _ q _ _ => q.elim) (fun r hr => DCl_some hr) (fun _ _ => DRf_some (by decide))
  obtain ⟨i, i1, i2⟩ := ix (hp.mem_iff.mpr (mD d d2))
  have bi := bB i i1
  have R := rl4 (s := s) (B := B) (f := (i : Int)) hv (by omega) h3 h100 (fun j hj => (hB j hj).1) (fun j hj => by have := bB j hj; omega) (fun j hj => by
    refine ⟨fun q => ?_, fun q => ?_⟩
    · have := srt_inj B 2048 hs j i hj i1 (by rw [i2]; omega)
      omega
    · have : j = i := by omega
      rw [this, i2]; exact d3) B.length 0 (by omega)
  rw [if_neg (by omega), if_pos (by omega)] at R
  rw [show mem_release_4 v (-1) 0 s = _ from R, show m_drop_2 v 0 t = _ from d4]
  obtain ⟨b1, b2⟩ := hB i i1
  have q3 : up s 44 4 ((sml B : Int) - ((B.getD i (0, 0)).2 : Int)) 44 3 = (B.length : Int) := by rw [up_ne (by omega)]; exact h3
  obtain ⟨s1, e1, e2, e3⟩ := rl76 (m := B.length - 1) (by omega) (B.length - 1 - i) i (up (up s 44 4 ((sml B : Int) - ((B.getD i (0, 0)).2 : Int))) 44 3 ((B.length : Int) - 1)) (by omega) (by rw [up_same]; omega)
  have eC : mem_release_30 (i : Int) s = some (0, s1) := by
    unfold mem_release_30
    rw [gr (by omega), if_neg (by omega), gd_pos (by omega), Int.toNat_natCast, b1, b2, h4, lt_eq, show (sml B : Int) - (((B.getD i (0, 0)).1 : Int) + ((B.getD i (0, 0)).2 : Int) - ((B.getD i (0, 0)).1 : Int)) = (sml B : Int) - ((B.getD i (0, 0)).2 : Int) by omega, lt_eq, q3, e1]
  have hdl : D.length - 1 < D.length := by omega
  have r1 : up t 121 81 ((D.length : Int) - 1) 121 81 = ((D.length - 1 : Nat) : Int) := by rw [up_same]; omega
  have r2 : up (up t 121 81 ((D.length : Int) - 1)) 176 d (t 176 (D.length - 1)) 121 81 = ((D.length - 1 : Nat) : Int) := by rw [up_ne (by omega)]; exact r1
  have eR : m_drop_23 (d : Int) t = some (0, up (up (up t 121 81 ((D.length : Int) - 1)) 176 d (t 176 (D.length - 1))) 177 d (t 177 (D.length - 1))) := by
    unfold m_drop_23
    rw [h81, lt_eq, r1, gd_pos (by omega), gd_pos (by omega), Int.toNat_natCast, Int.toNat_natCast, up_ne (show ¬ (176 = 121 ∧ D.length - 1 = 81) by omega), lt_eq, r2, gd_pos (by omega), Int.toNat_natCast, up_ne (show ¬ (177 = 176 ∧ D.length - 1 = d) by omega), up_ne (show ¬ (177 = 121 ∧ D.length - 1 = 81) by omega), lt_eq]
  have fs : ∀ c k, c ≠ 46 → c ≠ 47 → ¬ (c = 44 ∧ (k = 3 ∨ k = 4)) → s1 c k = s c k := fun c k z1 z2 z3 => by rw [e2 c k z1 z2, up_ne (by omega), up_ne (by omega)]
  have ft : ∀ c k, c ≠ 176 → c ≠ 177 → ¬ (c = 121 ∧ k = 81) → up (up (up t 121 81 ((D.length : Int) - 1)) 176 d (t 176 (D.length - 1))) 177 d (t 177 (D.length - 1)) c k = t c k := fun c k z1 z2 z3 => by rw [up_ne (by omega), up_ne (by omega), up_ne (by omega)]
  refine Or.inl ⟨0, 0, s1, _, eC, eR, ⟨rfl, rfl⟩, ⟨MW_of g1 (funext fun k => fs 45 k (by omega) (by omega) (by omega)) (funext fun k => ft 175 k (by omega) (by omega) (by omega)) (fs 44 6 (by omega) (by omega) (by omega)) (ft 121 100 (by omega) (by omega) (by omega)), ?_, OU_of g3 (fs 48 3 (by omega) (by omega) (by omega)) (fs 48 4 (by omega) (by omega) (by omega)) (ft 121 106 (by omega) (by omega) (by omega)) (ft 121 107 (by omega) (by omega) (by omega)) (funext fun k => fs 49 k (by omega) (by omega) (by omega)) (funext fun k => ft 187 k (by omega) (by omega) (by omega)), KY_of g4 (fs 48 5 (by omega) (by omega) (by omega)) (fs 48 6 (by omega) (by omega) (by omega)) (ft 121 102 (by omega) (by omega) (by omega)) (ft 121 103 (by omega) (by omega) (by omega)) (funext fun k => fs 50 k (by omega) (by omega) (by omega)) (funext fun k => ft 186 k (by omega) (by omega) (by omega)), CO_of g5 (fs 48 8 (by omega) (by omega) (by omega)) (ft 121 108 (by omega) (by omega) (by omega))⟩, fs 44 5 (by omega) (by omega) (by omega) ▸ hg.1, ft 121 99 (by omega) (by omega) (by omega) ▸ hg.2⟩
  have lB : (B.take i ++ B.drop (i + 1)).length = B.length - 1 := by rw [List.length_append, List.length_take, List.length_drop]; omega
  refine ⟨B.take i ++ B.drop (i + 1), swp D d, ?_, ?_, ?_, by omega, fun j hj => ?_, fun j hj => ?_, srt_del B 2048 i hs i1, ?_⟩
  · have p1 : (B.getD i (0, 0) :: (B.take i ++ B.drop (i + 1))).Perm B := by
      conv => rhs; rw [spl (d := ((0, 0) : Nat × Nat)) i1]
      exact List.perm_middle.symm
    have p2 := swp_perm (D := D) d2
    rw [i2] at p1
    exact (List.perm_cons _).mp (p1.trans (hp.trans p2.symm))
  · rw [e2 44 3 (by omega) (by omega), up_same, lB]; omega
  · rw [up_ne (by omega), up_ne (by omega), up_same, swp_len d2]; omega
  · rw [lB] at hj
    rw [gE1 (d := ((0, 0) : Nat × Nat)) i1]
    obtain ⟨f1, f2⟩ := e3 j
    rw [f1, f2]
    by_cases c : j < i
    · rw [if_pos c, if_neg (by omega), if_neg (by omega), up_ne (by omega), up_ne (by omega), up_ne (by omega), up_ne (by omega)]
      exact hB j (by omega)
    · rw [if_neg c, if_pos (by omega), if_pos (by omega), up_ne (by omega), up_ne (by omega), up_ne (by omega), up_ne (by omega)]
      exact hB (j + 1) (by omega)
  · rw [swp_len d2] at hj
    rw [swp_at hj]
    by_cases c : j = d
    · rw [if_pos c, c, up_ne (by omega), up_same, up_same]
      exact hD _ hdl
    · rw [if_neg c, up_ne (by omega), up_ne (by omega), up_ne (by omega), up_ne (by omega), up_ne (by omega), up_ne (by omega)]
      exact hD j (by omega)
  · rw [e2 44 4 (by omega) (by omega), up_ne (by omega), up_same]
    have := sml_del i1
    omega
end LBd
