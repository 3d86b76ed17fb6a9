/-! the second reading: a body begins; a sub ends -/
/-- behind the last label of a number, from st on and ahead of i -/
def lbN (cs : List crec) (st : Nat) (lab : Int) : Nat → Int
  | 0 => -9
  | i + 1 => if st ≤ i ∧ (cs.getD i (0, 0, 0, 0, 0)).1 = 11 ∧ (cs.getD i (0, 0, 0, 0, 0)).2.1 = lab then ((i + 1 : Nat) : Int) else lbN cs st lab i
/-- the jumps of a sub get their targets -/
def rsv (st : Nat) (cs : List crec) : List crec := cs.mapIdx (fun i x => if st ≤ i ∧ (x.1 = 12 ∨ x.1 = 13) then (x.1, x.2.1, x.2.2.1, lbN cs st x.2.1 cs.length, x.2.2.2.2) else x)
section R2g
variable {cs : List crec} {pm : Int} {s s1 : iS} {st : Nat}
theorem rsv_len : (rsv st cs).length = cs.length := by unfold rsv; rw [List.length_mapIdx]
theorem rsv_at {i : Nat} (hi : i < cs.length) : (rsv st cs).getD i (0, 0, 0, 0, 0) = if st ≤ i ∧ ((cs.getD i (0, 0, 0, 0, 0)).1 = 12 ∨ (cs.getD i (0, 0, 0, 0, 0)).1 = 13) then ((cs.getD i (0, 0, 0, 0, 0)).1, (cs.getD i (0, 0, 0, 0, 0)).2.1, (cs.getD i (0, 0, 0, 0, 0)).2.2.1, lbN cs st (cs.getD i (0, 0, 0, 0, 0)).2.1 cs.length, (cs.getD i (0, 0, 0, 0, 0)).2.2.2.2) else cs.getD i (0, 0, 0, 0, 0) := by
  unfold rsv
  rw [List.getD_eq_getElem?_getD, List.getElem?_mapIdx, List.getD_eq_getElem?_getD, List.getElem?_eq_getElem hi]
  rfl
theorem lbN_rg (lab : Int) : ∀ i, lbN cs st lab i = -9 ∨ (0 < lbN cs st lab i ∧ lbN cs st lab i ≤ (i : Int))
  | 0 => Or.inl rfl
  | i + 1 => by
    unfold lbN
    split
    · right; omega
    · have := lbN_rg lab i
      omega
/-- the first loop of a sub's end: labels -/
theorem end13 (hs : EMc cs pm s) : ∀ (k i : Nat) (s1 : iS), i + k = min cs.length 3000 → st ≤ i → (∀ c' k', c' ≠ 21 → s1 c' k' = s c' k') → (∀ lab : Nat, lab < 1000 → lbN cs st (lab : Int) i ≠ -9 → s1 21 lab = lbN cs st (lab : Int) i) → ∃ s2, prg_endSub_13 (i : Int) s1 = prg_endSub_66 s2 ∧ (∀ c' k', c' ≠ 21 → s2 c' k' = s c' k') ∧ (∀ lab : Nat, lab < 1000 → lbN cs st (lab : Int) (min cs.length 3000) ≠ -9 → s2 21 lab = lbN cs st (lab : Int) (min cs.length 3000)) := by
  obtain ⟨h1, h2, h3, h4, h5, h6⟩ := hs
  intro k
  induction k with
  | zero =>
    intro i s1 hi hst f1 f3
    have e : i = min cs.length 3000 := by omega
    refine ⟨s1, ?_, f1, by rw [← e]; exact f3⟩
    unfold prg_endSub_13
    rw [lp_end (f := fun l : Int × iS => prg_endSub_13b (l.1) (l.2)) (l := ((i : Int), s1)) (e := s1) (by
      show prg_endSub_13b (i : Int) s1 = _
      unfold prg_endSub_13b
      rw [gr (by omega), f1 14 8 (by omega), h2, gr (by omega), if_pos (by omega)]), bn]
  | succ k ih =>
    intro i s1 hi hst f1 f3
    obtain ⟨a1, a2, a3⟩ := h3 i (by omega)
    have hm : cs.getD i (0, 0, 0, 0, 0) ∈ cs := by
      rw [List.getD_eq_getElem?_getD, List.getElem?_eq_getElem (by omega)]
      exact List.getElem_mem _
    obtain ⟨o1, o2, o3⟩ := h5 _ hm
    have nx : ∀ s2, prg_endSub_13b (i : Int) s1 = some (.inl (((i : Int) + 1), s2)) → (∀ c' k', c' ≠ 21 → s2 c' k' = s c' k') → (∀ lab : Nat, lab < 1000 → lbN cs st (lab : Int) (i + 1) ≠ -9 → s2 21 lab = lbN cs st (lab : Int) (i + 1)) → ∃ s2, prg_endSub_13 (i : Int) s1 = prg_endSub_66 s2 ∧ (∀ c' k', c' ≠ 21 → s2 c' k' = s c' k') ∧ (∀ lab : Nat, lab < 1000 → lbN cs st (lab : Int) (min cs.length 3000) ≠ -9 → s2 21 lab = lbN cs st (lab : Int) (min cs.length 3000)) := by
      intro s2 e q1 q3
      obtain ⟨s3, r1, r2⟩ := ih (i + 1) s2 (by omega) (by omega) q1 q3
      refine ⟨s3, ?_, r2⟩
      rw [← r1]
      unfold prg_endSub_13
      rw [lp_next (f := fun l : Int × iS => prg_endSub_13b (l.1) (l.2)) (l := ((i : Int), s1)) (l' := ((i : Int) + 1, s2)) e]
      rfl
    have E0 : prg_endSub_13b (i : Int) s1 = if (cs.getD i (0, 0, 0, 0, 0)).1 = 11 then (if 1000 ≤ (cs.getD i (0, 0, 0, 0, 0)).2.1 then some (.inl ((i : Int) + 1, s1)) else some (.inl ((i : Int) + 1, up s1 21 (cs.getD i (0, 0, 0, 0, 0)).2.1.toNat ((i : Int) + 1)))) else some (.inl ((i : Int) + 1, s1)) := by
      unfold prg_endSub_13b
      rw [gr (by omega), f1 14 8 (by omega), h2, gr (by omega), if_neg (by omega), gd_pos (by omega), Int.toNat_natCast, f1 15 i (by omega), a1, gr (by omega)]
      by_cases c1 : (cs.getD i (0, 0, 0, 0, 0)).1 = 11
      · rw [if_pos c1, if_pos c1, f1 16 i (by omega), a2, gr (by omega)]
        by_cases c2 : 1000 ≤ (cs.getD i (0, 0, 0, 0, 0)).2.1
        · rw [if_pos c2, if_pos c2]
        · have := o3 (by omega) (by omega)
          rw [if_neg c2, if_neg c2, gd_pos (by omega), lt_eq]
      · rw [if_neg c1, if_neg c1]
    have other : ∀ lab : Nat, ¬ ((cs.getD i (0, 0, 0, 0, 0)).1 = 11 ∧ (cs.getD i (0, 0, 0, 0, 0)).2.1 = (lab : Int)) → lbN cs st (lab : Int) (i + 1) = lbN cs st (lab : Int) i := fun lab q => by
      show (if st ≤ i ∧ (cs.getD i (0, 0, 0, 0, 0)).1 = 11 ∧ (cs.getD i (0, 0, 0, 0, 0)).2.1 = (lab : Int) then ((i + 1 : Nat) : Int) else lbN cs st (lab : Int) i) = _
      rw [if_neg (fun z => q z.2)]
    by_cases c1 : (cs.getD i (0, 0, 0, 0, 0)).1 = 11
    · rw [if_pos c1] at E0
      by_cases c2 : 1000 ≤ (cs.getD i (0, 0, 0, 0, 0)).2.1
      · rw [if_pos c2] at E0
        exact nx s1 E0 f1 (fun lab hl => by rw [other lab (by omega)]; exact f3 lab hl)
      · rw [if_neg c2] at E0
        have o3' := o3 (by omega) (by omega)
        refine nx _ E0 (fun c' k' q => by rw [up_ne (by omega)]; exact f1 c' k' q) (fun lab hl q => ?_)
        · by_cases z : (cs.getD i (0, 0, 0, 0, 0)).2.1 = (lab : Int)
          · rw [show (cs.getD i (0, 0, 0, 0, 0)).2.1.toNat = lab by omega, up_same]
            show _ = (if st ≤ i ∧ (cs.getD i (0, 0, 0, 0, 0)).1 = 11 ∧ (cs.getD i (0, 0, 0, 0, 0)).2.1 = (lab : Int) then ((i + 1 : Nat) : Int) else lbN cs st (lab : Int) i)
            rw [if_pos ⟨hst, c1, z⟩]
            rfl
          · rw [up_ne (by omega), other lab (fun w => z w.2)]
            rw [other lab (fun w => z w.2)] at q
            exact f3 lab hl q
    · rw [if_neg c1] at E0
      exact nx s1 E0 f1 (fun lab hl => by rw [other lab (fun w => c1 w.1)]; exact f3 lab hl)
/-- the second loop: jumps -/
theorem end71 (hs : EMc cs pm s) (hl1 : ∀ lab : Nat, lab < 1000 → lbN cs st (lab : Int) (min cs.length 3000) ≠ -9 → s1 21 lab = lbN cs st (lab : Int) (min cs.length 3000)) : ∀ (k i : Nat) (s2 : iS), i + k = min cs.length 3000 → st ≤ i → (∀ c' k', c' ≠ 21 → ¬ (c' = 18 ∧ st ≤ k' ∧ k' < i) → s2 c' k' = s c' k') → s2 21 = s1 21 → (∀ i', st ≤ i' → i' < i → s2 18 i' = if (cs.getD i' (0, 0, 0, 0, 0)).1 = 12 ∨ (cs.getD i' (0, 0, 0, 0, 0)).1 = 13 then s1 21 (cs.getD i' (0, 0, 0, 0, 0)).2.1.toNat else s 18 i') → ∃ s3, prg_endSub_71 (i : Int) s2 = some (0, s3) ∧ (∀ c' k', c' ≠ 21 → ¬ (c' = 18 ∧ st ≤ k' ∧ k' < min cs.length 3000) → s3 c' k' = s c' k') ∧ s3 21 = s1 21 ∧ (∀ i', st ≤ i' → i' < min cs.length 3000 → s3 18 i' = if (cs.getD i' (0, 0, 0, 0, 0)).1 = 12 ∨ (cs.getD i' (0, 0, 0, 0, 0)).1 = 13 then s1 21 (cs.getD i' (0, 0, 0, 0, 0)).2.1.toNat else s 18 i') := by
  obtain ⟨h1, h2, h3, h4, h5, h6⟩ := hs
  intro k
  induction k with
  | zero =>
    intro i s2 hi hst f1 f2 f4
    have e : i = min cs.length 3000 := by omega
    refine ⟨s2, ?_, by rw [← e]; exact f1, f2, by rw [← e]; exact f4⟩
    unfold prg_endSub_71
    rw [lp_end (f := fun l : Int × iS => prg_endSub_71b (l.1) (l.2)) (l := ((i : Int), s2)) (e := s2) (by
      show prg_endSub_71b (i : Int) s2 = _
      unfold prg_endSub_71b
      rw [gr (by omega), f1 14 8 (by omega) (by omega), h2, gr (by omega), if_pos (by omega)]), bn]
  | succ k ih =>
    intro i s2 hi hst f1 f2 f4
    obtain ⟨a1, a2, a3⟩ := h3 i (by omega)
    have hm : cs.getD i (0, 0, 0, 0, 0) ∈ cs := by
      rw [List.getD_eq_getElem?_getD, List.getElem?_eq_getElem (by omega)]
      exact List.getElem_mem _
    obtain ⟨o1, o2, o3⟩ := h5 _ hm
    have E0 : prg_endSub_71b (i : Int) s2 = if (cs.getD i (0, 0, 0, 0, 0)).1 = 12 ∨ (cs.getD i (0, 0, 0, 0, 0)).1 = 13 then some (.inl ((i : Int) + 1, up s2 18 i (s1 21 (cs.getD i (0, 0, 0, 0, 0)).2.1.toNat))) else some (.inl ((i : Int) + 1, s2)) := by
      have X : ((cs.getD i (0, 0, 0, 0, 0)).1 = 12 ∨ (cs.getD i (0, 0, 0, 0, 0)).1 = 13) → prg_endSub_101 (i : Int) s2 = some (.inl ((i : Int) + 1, up s2 18 i (s1 21 (cs.getD i (0, 0, 0, 0, 0)).2.1.toNat))) := fun c1 => by
        have b1 := (o3 (by omega) (by omega)).2
        have b2 := o3 (by omega) (by omega)
        unfold prg_endSub_101
        rw [gd_pos (by omega), Int.toNat_natCast, f1 16 i (by omega) (by omega), a2, gr (by omega), if_neg (by omega), gd_pos (by omega), lt_eq, f2]
      unfold prg_endSub_71b
      rw [gr (by omega), f1 14 8 (by omega) (by omega), h2, gr (by omega), if_neg (by omega), gd_pos (by omega), Int.toNat_natCast, f1 15 i (by omega) (by omega), a1, gr (by omega)]
      by_cases c1 : (cs.getD i (0, 0, 0, 0, 0)).1 = 12
      · rw [if_pos c1, if_pos (Or.inl c1)]; exact X (Or.inl c1)
      · rw [if_neg c1]
        by_cases c2 : (cs.getD i (0, 0, 0, 0, 0)).1 = 13
        · rw [if_pos c2, if_pos (Or.inr c2)]; exact X (Or.inr c2)
        · rw [if_neg c2, if_neg (by omega)]
    have nx : ∀ s3, prg_endSub_71b (i : Int) s2 = some (.inl ((i : Int) + 1, s3)) → prg_endSub_71 (i : Int) s2 = prg_endSub_71 ((i + 1 : Nat) : Int) s3 := fun s3 e => by
      unfold prg_endSub_71
      rw [lp_next (f := fun l : Int × iS => prg_endSub_71b (l.1) (l.2)) (l := ((i : Int), s2)) (l' := ((i : Int) + 1, s3)) e]
      rfl
    by_cases c1 : (cs.getD i (0, 0, 0, 0, 0)).1 = 12 ∨ (cs.getD i (0, 0, 0, 0, 0)).1 = 13
    · rw [if_pos c1] at E0
      have b1 := (o3 (by omega) (by omega)).2
      have b2 := o3 (by omega) (by omega)
      rw [nx _ E0]
      refine ih (i + 1) _ (by omega) (by omega) (fun c' k' q1 q2 => by rw [up_ne (by omega)]; exact f1 c' k' q1 (by omega)) (by rw [up_cell (by omega)]; exact f2) (fun i' q1 q2 => ?_)
      by_cases z : i' = i
      · rw [z, up_same, if_pos c1]
      · rw [up_ne (by omega)]; exact f4 i' q1 (by omega)
    · rw [if_neg c1] at E0
      rw [nx _ E0]
      refine ih (i + 1) _ (by omega) (by omega) (fun c' k' q1 q2 => f1 c' k' q1 (by omega)) f2 (fun i' q1 q2 => ?_)
      by_cases z : i' = i
      · rw [z, if_neg c1]; exact f1 18 i (by omega) (by omega)
      · exact f4 i' q1 (by omega)
/-- a sub ends -/
theorem end2 (hs : EMc cs pm s) (h9 : s 14 9 = ((min st 3000 : Nat) : Int)) (hst : st ≤ cs.length) : ∃ s', prg_endSub s = some (0, s') ∧ EMc (rsv st cs) pm s' ∧ (∀ c' k', c' ≠ 21 → c' ≠ 18 → s' c' k' = s c' k') := by
  have hs' := hs
  obtain ⟨h1, h2, h3, h4, h5, h6⟩ := hs
  obtain ⟨s1, e1, f1, f3⟩ := end13 (st := min st 3000) hs' (min cs.length 3000 - min st 3000) (min st 3000) s (by omega) (Nat.le_refl _) (fun _ _ _ => rfl) (fun lab hl q => by
    exfalso
    have key : ∀ i, i ≤ min st 3000 → lbN cs (min st 3000) (lab : Int) i = -9 := by
      intro i
      induction i with
      | zero => intro _; rfl
      | succ i ih =>
        intro hi
        show (if min st 3000 ≤ i ∧ _ then _ else lbN cs (min st 3000) (lab : Int) i) = -9
        rw [if_neg (fun z => by have := z.1; omega)]
        exact ih (by omega)
    exact q (key _ (Nat.le_refl _)))
  obtain ⟨s3, g1, g2, g3, g5⟩ := end71 (s1 := s1) (st := min st 3000) hs' f3 (min cs.length 3000 - min st 3000) (min st 3000) s1 (by omega) (Nat.le_refl _) (fun c' k' q1 q2 => f1 c' k' q1) rfl (fun i' q1 q2 => by omega)
  refine ⟨s3, ?_, ⟨by rw [g2 14 7 (by omega) (by omega)]; exact h1, by rw [g2 14 8 (by omega) (by omega), rsv_len]; exact h2, fun i hi => ?_, fun i hi => ?_, fun x hx => ?_, fun q => ?_⟩, fun c' k' q1 q2 => g2 c' k' q1 (by omega)⟩
  · unfold prg_endSub
    rw [h1, gr (by omega), if_neg (by omega), h9, e1]
    unfold prg_endSub_66
    rw [f1 14 9 (by omega), h9]
    exact g1
  · rw [rsv_len] at hi
    have := h3 i hi
    rw [rsv_at (by omega), g2 15 i (by omega) (by omega), g2 16 i (by omega) (by omega), g2 17 i (by omega) (by omega)]
    split <;> exact this
  · rw [rsv_len] at hi
    have := h4 i hi
    rw [rsv_at (by omega)]
    by_cases c2 : (cs.getD i (0, 0, 0, 0, 0)).1 = 12 ∨ (cs.getD i (0, 0, 0, 0, 0)).1 = 13
    · intro z
      have z' : (cs.getD i (0, 0, 0, 0, 0)).1 = 15 := by
        split at z <;> exact z
      omega
    · rw [if_neg (fun w => c2 w.2)]
      intro z
      by_cases c1 : min st 3000 ≤ i
      · have g5' := g5 i c1 hi
        rw [if_neg c2] at g5'
        rw [g5']
        exact this z
      · rw [g2 18 i (by omega) (by omega)]
        exact this z
  · obtain ⟨i, hi, e⟩ := List.getElem_of_mem hx
    have hi' : i < cs.length := by rw [rsv_len] at hi; exact hi
    have hm : cs.getD i (0, 0, 0, 0, 0) ∈ cs := by
      rw [List.getD_eq_getElem?_getD, List.getElem?_eq_getElem hi']
      exact List.getElem_mem _
    have ex : x = (rsv st cs).getD i (0, 0, 0, 0, 0) := by rw [List.getD_eq_getElem?_getD, List.getElem?_eq_getElem hi, ← e]; rfl
    rw [ex, rsv_at hi']
    have := h5 _ hm
    split <;> exact this
  · rw [rsv_len] at q
    obtain ⟨b1, b2⟩ := h6 q
    have m1 : min cs.length 3000 = cs.length := by omega
    have m2 : min st 3000 = st := by omega
    rw [m1, m2] at g5 g2
    rw [m1, m2] at f3
    refine ⟨by rw [g2 14 12 (by omega) (by omega)]; exact b1, fun i hi => ?_⟩
    rw [rsv_len] at hi
    obtain ⟨d1, d2⟩ := b2 i hi
    rw [rsv_at hi, g2 19 i (by omega) (by omega)]
    by_cases c1 : st ≤ i
    · have g5' := g5 i c1 hi
      by_cases c2 : (cs.getD i (0, 0, 0, 0, 0)).1 = 12 ∨ (cs.getD i (0, 0, 0, 0, 0)).1 = 13
      · rw [if_pos ⟨c1, c2⟩]
        rw [if_pos c2] at g5'
        refine ⟨fun z => ?_, d2⟩
        have hm : cs.getD i (0, 0, 0, 0, 0) ∈ cs := by
          rw [List.getD_eq_getElem?_getD, List.getElem?_eq_getElem hi]
          exact List.getElem_mem _
        have o3 := (h5 _ hm).2.2 (by omega) (by omega)
        have o4 := o3.2
        have o5 : (cs.getD i (0, 0, 0, 0, 0)).2.1 = (((cs.getD i (0, 0, 0, 0, 0)).2.1.toNat : Nat) : Int) := by omega
        rw [g5']
        show s1 21 _ = lbN cs st (cs.getD i (0, 0, 0, 0, 0)).2.1 cs.length
        rw [o5] at z ⊢
        rw [Int.toNat_natCast]
        exact f3 _ (by omega) z
      · rw [if_neg (fun w => c2 w.2)]
        rw [if_neg c2] at g5'
        exact ⟨fun z => by rw [g5']; exact d1 z, d2⟩
    · rw [if_neg (fun w => c1 w.1), g2 18 i (by omega) (by omega)]
      exact ⟨d1, d2⟩
end R2g
