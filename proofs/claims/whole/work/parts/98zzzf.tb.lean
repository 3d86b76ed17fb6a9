/-! both ways to find a variable agree, but for names told twice -/
section VCm
variable {F : Nat → Int} {n N : Nat} {P : Nat → Nat} {s0 t0 t : iS} {j u : Nat} {K : List Nat} {U : List urec} {W : List wrec} {Y : List Nat}
theorem fst1_lt {Q : Nat → Prop} [DecidablePred Q] : ∀ (k i y : Nat), i ≤ y → (y : Int) < fst1 Q i k → ¬ Q y
  | 0, i, y, _, h => by
    have : fst1 Q i 0 = -1 := rfl
    omega
  | k + 1, i, y, h1, h2 => by
    by_cases c : Q i
    · rw [fst1_y c] at h2
      omega
    · rw [fst1_n c] at h2
      by_cases d : y = i
      · rw [d]; exact c
      · exact fst1_lt k (i + 1) y (by omega) h2
theorem fdp {α : Type} {d : α} {pr : α → Bool} : ∀ L : List α, (fst1 (fun i => pr (L.getD i d) = true) 0 L.length = -1 ∧ L.find? pr = none) ∨ (0 ≤ fst1 (fun i => pr (L.getD i d) = true) 0 L.length ∧ fst1 (fun i => pr (L.getD i d) = true) 0 L.length < (L.length : Int) ∧ L.find? pr = some (L.getD (fst1 (fun i => pr (L.getD i d) = true) 0 L.length).toNat d))
  | [] => Or.inl ⟨rfl, rfl⟩
  | a :: L => by
    by_cases c : pr a = true
    · have e : fst1 (fun i => pr ((a :: L).getD i d) = true) 0 (L.length + 1) = ((0 : Nat) : Int) := fst1_y (Q := fun i => pr ((a :: L).getD i d) = true) c
      refine Or.inr ?_
      rw [List.length_cons, e, List.find?_cons_of_pos c]
      exact ⟨by omega, by omega, rfl⟩
    · have e : fst1 (fun i => pr ((a :: L).getD i d) = true) 0 (L.length + 1) = fst1 (fun i => pr ((a :: L).getD i d) = true) (1 + 0) L.length := fst1_n (Q := fun i => pr ((a :: L).getD i d) = true) c
      have e2 : fst1 (fun x => pr ((a :: L).getD (1 + x) d) = true) 0 L.length = fst1 (fun x => pr (L.getD x d) = true) 0 L.length := fst1_cg _ _ (fun x _ _ => by rw [Nat.add_comm 1 x]; rfl)
      rw [List.length_cons, e, fst1_sh, e2, List.find?_cons_of_neg c]
      rcases fdp (d := d) (pr := pr) L with ⟨q1, q2⟩ | ⟨q1, q2, q3⟩
      · rw [if_pos q1]
        exact Or.inl ⟨rfl, q2⟩
      · rw [if_neg (by omega)]
        refine Or.inr ⟨by omega, by omega, ?_⟩
        rw [q3, show (((1 : Nat) : Int) + fst1 (fun x => pr (L.getD x d) = true) 0 L.length).toNat = (fst1 (fun x => pr (L.getD x d) = true) 0 L.length).toNat + 1 by omega]
        rfl
/-- what the class finds -/
theorem fvW_find {Lc Lo : List wrec} : (fvW F P t0 (Lc ++ Lo) Lc.length j = -1 ∧ Lo.find? (fun r => decide (nmT F P t0 r.2.2.2.2.1 = nmT F P t0 j)) = none ∧ Lc.find? (fun r => decide (nmT F P t0 r.2.2.2.2.1 = nmT F P t0 j)) = none) ∨ (0 ≤ fvW F P t0 (Lc ++ Lo) Lc.length j ∧ (Lo.find? (fun r => decide (nmT F P t0 r.2.2.2.2.1 = nmT F P t0 j)) = some (wAt (Lc ++ Lo) (fvW F P t0 (Lc ++ Lo) Lc.length j)) ∨ Lo.find? (fun r => decide (nmT F P t0 r.2.2.2.2.1 = nmT F P t0 j)) = none ∧ Lc.find? (fun r => decide (nmT F P t0 r.2.2.2.2.1 = nmT F P t0 j)) = some (wAt (Lc ++ Lo) (fvW F P t0 (Lc ++ Lo) Lc.length j)))) := by
  have at' : ∀ i, i < (Lc ++ Lo).length → (vNs F P t0 (Lc ++ Lo)).getD i [] = nmT F P t0 ((Lc ++ Lo).getD i (0, 0, 0, 0, 0, 0, 0)).2.2.2.2.1 := fun i hi => by
    unfold vNs
    rw [List.getD_eq_getElem?_getD, List.getElem?_map, List.getD_eq_getElem?_getD, List.getElem?_eq_getElem hi]
    rfl
  have eo : fst1 (fun i => (vNs F P t0 (Lc ++ Lo)).getD i [] = nmT F P t0 j) Lc.length ((vNs F P t0 (Lc ++ Lo)).length - Lc.length) = if fst1 (fun i => decide (nmT F P t0 (Lo.getD i (0, 0, 0, 0, 0, 0, 0)).2.2.2.2.1 = nmT F P t0 j) = true) 0 Lo.length = -1 then -1 else (Lc.length : Int) + fst1 (fun i => decide (nmT F P t0 (Lo.getD i (0, 0, 0, 0, 0, 0, 0)).2.2.2.2.1 = nmT F P t0 j) = true) 0 Lo.length := by
    rw [show (vNs F P t0 (Lc ++ Lo)).length - Lc.length = Lo.length by unfold vNs; rw [List.length_map, List.length_append]; omega]
    have := fst1_sh (Q := fun i => (vNs F P t0 (Lc ++ Lo)).getD i [] = nmT F P t0 j) (d := Lc.length) Lo.length 0
    rw [Nat.add_zero] at this
    rw [this, fst1_cg (Q := fun x => (vNs F P t0 (Lc ++ Lo)).getD (Lc.length + x) [] = nmT F P t0 j) (Q' := fun i => decide (nmT F P t0 (Lo.getD i (0, 0, 0, 0, 0, 0, 0)).2.2.2.2.1 = nmT F P t0 j) = true) Lo.length 0 (fun x _ hx => by
      rw [at' (Lc.length + x) (by rw [List.length_append]; omega), gdR (by omega), show Lc.length + x - Lc.length = x by omega, decide_eq_true_eq])]
  have ec : fst1 (fun i => (vNs F P t0 (Lc ++ Lo)).getD i [] = nmT F P t0 j) 0 Lc.length = fst1 (fun i => decide (nmT F P t0 (Lc.getD i (0, 0, 0, 0, 0, 0, 0)).2.2.2.2.1 = nmT F P t0 j) = true) 0 Lc.length := fst1_cg _ _ (fun x _ hx => by
    rw [at' x (by rw [List.length_append]; omega), gdL (by omega), decide_eq_true_eq])
  unfold fvW fvT
  rw [eo, ec]
  have ro := fdp (d := ((0, 0, 0, 0, 0, 0, 0) : wrec)) (pr := fun r => decide (nmT F P t0 r.2.2.2.2.1 = nmT F P t0 j)) Lo
  have rc := fdp (d := ((0, 0, 0, 0, 0, 0, 0) : wrec)) (pr := fun r => decide (nmT F P t0 r.2.2.2.2.1 = nmT F P t0 j)) Lc
  generalize fst1 (fun i => decide (nmT F P t0 (Lo.getD i (0, 0, 0, 0, 0, 0, 0)).2.2.2.2.1 = nmT F P t0 j) = true) 0 Lo.length = xo at ro ⊢
  generalize fst1 (fun i => decide (nmT F P t0 (Lc.getD i (0, 0, 0, 0, 0, 0, 0)).2.2.2.2.1 = nmT F P t0 j) = true) 0 Lc.length = xc at rc ⊢
  rcases ro with ⟨q1, q2⟩ | ⟨q1, q2, q3⟩
  · rw [if_pos q1, if_pos rfl]
    rcases rc with ⟨r1, r2⟩ | ⟨r1, r2, r3⟩
    · exact Or.inl ⟨r1, q2, r2⟩
    · refine Or.inr ⟨r1, Or.inr ⟨q2, ?_⟩⟩
      rw [r3]
      unfold wAt
      rw [gdL (by omega)]
  · rw [if_neg (show ¬ (xo = -1) by omega), if_neg (by omega)]
    refine Or.inr ⟨by omega, Or.inl ?_⟩
    rw [q3]
    unfold wAt
    rw [gdR (by omega), show ((Lc.length : Int) + xo).toNat - Lc.length = xo.toNat by omega]
theorem find_st {α : Type} {p q : α → Bool} {l : List α} {r : α} (h : l.find? p = some r) (hq : q r = true) (hi : ∀ a, q a = true → p a = true) : l.find? q = some r := by
  rw [List.find?_eq_some_iff_append] at h ⊢
  obtain ⟨h1, as, bs, h2, h3⟩ := h
  refine ⟨hq, as, bs, h2, fun a ha => ?_⟩
  have := h3 a ha
  simp only [Bool.not_eq_true', Bool.not_eq_eq_eq_not, Bool.not_true] at this ⊢
  by_cases c : q a = true
  · rw [hi a c] at this; exact absurd this (by simp)
  · simpa using c
theorem find_no {α : Type} {p q : α → Bool} {l : List α} (h : l.find? p = none) (hi : ∀ a, q a = true → p a = true) : l.find? q = none := by
  rw [List.find?_eq_none] at h ⊢
  exact fun a ha hq => h a ha (hi a hq)
/-- predicates on the reference's side -/
def pOw (F : Nat → Int) (P : Nat → Nat) (t0 : iS) (u j : Nat) (r : wrec) : Bool := r.2.1 == (u : Int) && decide (nmT F P t0 r.2.2.2.2.1 = nmT F P t0 j)
def pCl (F : Nat → Int) (P : Nat → Nat) (t0 : iS) (U : List urec) (u j : Nat) (r : wrec) : Bool := (r.1 == (uAt U u).1 && r.2.1 == -1) && decide (nmT F P t0 r.2.2.2.2.1 = nmT F P t0 j)
def pCs (F : Nat → Int) (P : Nat → Nat) (t0 : iS) (U : List urec) (u j : Nat) (so : Int) (r : wrec) : Bool := pCl F P t0 U u j r && r.2.2.1 == so
theorem vOw_eq : vOw F P t0 W u j 0 W.length = fst1 (fun i => pOw F P t0 u j (W.getD i (0, 0, 0, 0, 0, 0, 0)) = true) 0 W.length := fst1_cg _ _ (fun x _ _ => by unfold pOw wGt; simp)
theorem vCl_eq {so : Int} : vCl F P t0 U W so u j 0 W.length = fst1 (fun i => pCs F P t0 U u j so (W.getD i (0, 0, 0, 0, 0, 0, 0)) = true) 0 W.length := fst1_cg _ _ (fun x _ _ => by
  unfold pCs pCl wGt
  simp only [Bool.and_eq_true, beq_iff_eq, decide_eq_true_eq]
  exact ⟨fun z => ⟨⟨⟨z.1.2.1, z.1.1⟩, z.2⟩, z.1.2.2⟩, fun z => ⟨⟨z.1.1.2, z.1.1.1, z.2⟩, z.1.2⟩⟩)
theorem var_cmp (h : RG F n N P s0 t0 K U W Y t) :
    ((fvW F P t0 (wlF U W u) (wlFc U W u).length j = -1 ∧ rvI F P t0 U W u j = -1) ∨ (fvW F P t0 (wlF U W u) (wlFc U W u).length j ≠ -1 ∧ rvI F P t0 U W u j ≠ -1 ∧ wAt (wlF U W u) (fvW F P t0 (wlF U W u) (wlFc U W u).length j) = wGt W (rvI F P t0 U W u j).toNat)) ∨
    (∃ i, i < W.length ∧ gW F P t0 W i = [16 * (wGt W i).2.2.2.2.1 + 3] ∧ (wGt W i).2.1 = -1 ∧ (wGt W i).1 = (uAt U u).1) := by
  have fo : (W.filter (fun r => r.2.1 == (u : Int))).find? (fun r => decide (nmT F P t0 r.2.2.2.2.1 = nmT F P t0 j)) = W.find? (pOw F P t0 u j) := by
    rw [List.find?_filter]
    refine congrArg (fun f => W.find? f) (funext fun r => ?_)
    unfold pOw
    rw [Bool.eq_iff_iff]
    simp
  have fc : (wlFc U W u).find? (fun r => decide (nmT F P t0 r.2.2.2.2.1 = nmT F P t0 j)) = W.find? (pCl F P t0 U u j) := by
    unfold wlFc
    rw [List.find?_filter]
    refine congrArg (fun f => W.find? f) (funext fun r => ?_)
    unfold pCl uAt
    rw [Bool.eq_iff_iff]
    simp
  have cl := fvW_find (F := F) (P := P) (t0 := t0) (j := j) (Lc := wlFc U W u) (Lo := W.filter (fun r => r.2.1 == (u : Int)))
  rw [fo, fc] at cl
  change (fvW F P t0 (wlF U W u) (wlFc U W u).length j = -1 ∧ _) ∨ (0 ≤ fvW F P t0 (wlF U W u) (wlFc U W u).length j ∧ (_ = some (wAt (wlF U W u) (fvW F P t0 (wlF U W u) (wlFc U W u).length j)) ∨ _ ∧ _ = some (wAt (wlF U W u) (fvW F P t0 (wlF U W u) (wlFc U W u).length j)))) at cl
  have d0 : wrec := (0, 0, 0, 0, 0, 0, 0)
  have ro := fdp (d := ((0, 0, 0, 0, 0, 0, 0) : wrec)) (pr := pOw F P t0 u j) W
  have r1 := fdp (d := ((0, 0, 0, 0, 0, 0, 0) : wrec)) (pr := pCs F P t0 U u j 1) W
  have r0 := fdp (d := ((0, 0, 0, 0, 0, 0, 0) : wrec)) (pr := pCs F P t0 U u j 0) W
  have ra := fdp (d := ((0, 0, 0, 0, 0, 0, 0) : wrec)) (pr := pCl F P t0 U u j) W
  have st : ∀ so a, pCs F P t0 U u j so a = true → pCl F P t0 U u j a = true := fun so a q => by
    unfold pCs at q
    rw [Bool.and_eq_true] at q
    exact q.1
  have mn : ∀ y : Nat, (y : Int) < fst1 (fun i => pCl F P t0 U u j (W.getD i (0, 0, 0, 0, 0, 0, 0)) = true) 0 W.length → ¬ (pCl F P t0 U u j (W.getD y (0, 0, 0, 0, 0, 0, 0)) = true) := fun y hy => fst1_lt (Q := fun i => pCl F P t0 U u j (W.getD i (0, 0, 0, 0, 0, 0, 0)) = true) _ _ y (by omega) hy
  unfold rvI
  rw [vOw_eq, vCl_eq, vCl_eq]
  generalize fst1 (fun i => pOw F P t0 u j (W.getD i (0, 0, 0, 0, 0, 0, 0)) = true) 0 W.length = xo at ro ⊢
  generalize fst1 (fun i => pCs F P t0 U u j 1 (W.getD i (0, 0, 0, 0, 0, 0, 0)) = true) 0 W.length = x1 at r1 ⊢
  generalize fst1 (fun i => pCs F P t0 U u j 0 (W.getD i (0, 0, 0, 0, 0, 0, 0)) = true) 0 W.length = x0 at r0 ⊢
  generalize fst1 (fun i => pCl F P t0 U u j (W.getD i (0, 0, 0, 0, 0, 0, 0)) = true) 0 W.length = xa at ra mn
  generalize fvW F P t0 (wlF U W u) (wlFc U W u).length j = fv at cl ⊢
  rcases ro with ⟨o1, o2⟩ | ⟨o1, o2, o3⟩
  · rw [if_pos o1]
    rcases ra with ⟨a1, a2⟩ | ⟨a1, a2, a3⟩
    · -- nothing
      have n1 := find_no (q := pCs F P t0 U u j 1) a2 (st 1)
      have n0 := find_no (q := pCs F P t0 U u j 0) a2 (st 0)
      have e1 : x1 = -1 := by
        rcases r1 with q | q
        · exact q.1
        · rw [n1] at q; exact absurd q.2.2 (by simp)
      have e0 : x0 = -1 := by
        rcases r0 with q | q
        · exact q.1
        · rw [n0] at q; exact absurd q.2.2 (by simp)
      rw [if_pos e1, e0]
      rcases cl with ⟨c1, _⟩ | ⟨c1, c2 | ⟨_, c2⟩⟩
      · exact Or.inl (Or.inl ⟨c1, rfl⟩)
      · rw [o2] at c2; exact absurd c2 (by simp)
      · rw [a2] at c2; exact absurd c2 (by simp)
    · rcases cl with ⟨_, _, c2⟩ | ⟨c1, c2 | ⟨_, c2⟩⟩
      · rw [a3] at c2; exact absurd c2 (by simp)
      · rw [o2] at c2; exact absurd c2 (by simp)
      · have ew : wAt (wlF U W u) fv = W.getD xa.toNat (0, 0, 0, 0, 0, 0, 0) := by
          rw [a3] at c2
          exact (Option.some.inj c2).symm
        have pa : pCl F P t0 U u j (W.getD xa.toNat (0, 0, 0, 0, 0, 0, 0)) = true := List.find?_some a3
        have pa' := pa
        unfold pCl at pa'
        simp only [Bool.and_eq_true, beq_iff_eq, decide_eq_true_eq] at pa'
        have so := (h.2.2.2.2.2.2 _ (gd_mem (d := ((0, 0, 0, 0, 0, 0, 0) : wrec)) (show xa.toNat < W.length by omega))).2.2.1 pa'.1.2
        by_cases c : (W.getD xa.toNat (0, 0, 0, 0, 0, 0, 0)).2.2.1 = 1
        · have f1 := find_st (q := pCs F P t0 U u j 1) a3 (by unfold pCs; rw [pa, c]; rfl) (st 1)
          rcases r1 with q | ⟨q1, q2, q3⟩
          · rw [f1] at q; exact absurd q.2 (by simp)
          · rw [if_neg (show ¬ (x1 = -1) by omega)]
            refine Or.inl (Or.inr ⟨by omega, by omega, ?_⟩)
            rw [ew]
            rw [f1] at q3
            exact Option.some.inj q3
        · have c0 : (W.getD xa.toNat (0, 0, 0, 0, 0, 0, 0)).2.2.1 = 0 := by omega
          rcases r1 with ⟨q1, q2⟩ | ⟨q1, q2, q3⟩
          · have f0 := find_st (q := pCs F P t0 U u j 0) a3 (by unfold pCs; rw [pa, c0]; rfl) (st 0)
            rw [if_pos q1]
            rcases r0 with z | ⟨z1, z2, z3⟩
            · rw [f0] at z; exact absurd z.2 (by simp)
            · refine Or.inl (Or.inr ⟨by omega, by omega, ?_⟩)
              rw [ew]
              rw [f0] at z3
              exact Option.some.inj z3
          · -- told twice
            refine Or.inr ⟨x1.toNat, by omega, ?_⟩
            have p1 : pCs F P t0 U u j 1 (W.getD x1.toNat (0, 0, 0, 0, 0, 0, 0)) = true := List.find?_some q3
            have p1' := st 1 _ p1
            have m := mn x1.toNat
            have le : xa ≤ x1 := by
              rcases Int.lt_or_le x1 xa with z | z
              · exact absurd p1' (m (by omega))
              · exact z
            have s1 : (W.getD x1.toNat (0, 0, 0, 0, 0, 0, 0)).2.2.1 = 1 := by
              unfold pCs at p1
              simp only [Bool.and_eq_true, beq_iff_eq] at p1
              exact p1.2
            have ne : xa ≠ x1 := fun z => by rw [z] at c; exact c s1
            unfold pCl at p1'
            simp only [Bool.and_eq_true, beq_iff_eq, decide_eq_true_eq] at p1'
            refine ⟨?_, p1'.1.2, p1'.1.1⟩
            unfold gW
            rw [if_pos]
            · rfl
            · refine ⟨W.getD xa.toNat (0, 0, 0, 0, 0, 0, 0), ?_, by rw [pa'.1.1, p1'.1.1], by rw [pa'.1.2, p1'.1.2], by rw [pa'.2, p1'.2]⟩
              rw [List.getD_eq_getElem?_getD, List.getElem?_eq_getElem (show xa.toNat < W.length by omega)]
              show W[xa.toNat] ∈ _
              rw [← List.getElem_take (j := x1.toNat) (h := by rw [List.length_take]; omega)]
              exact List.getElem_mem _
  · rw [if_neg (show ¬ (xo = -1) by omega)]
    rcases cl with ⟨_, c2, _⟩ | ⟨c1, c2 | ⟨c2, _⟩⟩
    · rw [o3] at c2; exact absurd c2 (by simp)
    · refine Or.inl (Or.inr ⟨by omega, by omega, ?_⟩)
      rw [o3] at c2
      exact (Option.some.inj c2).symm
    · rw [o3] at c2; exact absurd c2 (by simp)
end VCm
