/-! chips: orders of gates; a loop with an invariant -/
theorem lpG {L E : Type} {f : L → Option (L ⊕ E)} {M : Nat} {I : Nat → L → Prop} {J : E → Prop} (h1 : ∀ i l, i < M → I i l → ∃ l', f l = some (.inl l') ∧ I (i + 1) l') (h2 : ∀ l, I M l → ∃ e, f l = some (.inr e) ∧ J e) : ∀ (k i : Nat) (l : L), i + k = M → I i l → ∃ e, lp f l = some e ∧ J e
  | 0, i, l, e, h => by
    have : i = M := by omega
    subst this
    obtain ⟨e', a1, a2⟩ := h2 l h
    exact ⟨e', lp_end a1, a2⟩
  | k + 1, i, l, e, h => by
    obtain ⟨l', q1, q2⟩ := h1 i l (by omega) h
    rw [lp_next q1]
    exact lpG h1 h2 k (i + 1) l' (by omega) q2
theorem pm_of : ∀ (l1 l2 : List Nat), l1.Nodup → l2.Nodup → (∀ x, x ∈ l1 ↔ x ∈ l2) → l1.Perm l2
  | [], l2, _, _, h => by
    cases l2 with
    | nil => exact List.Perm.refl _
    | cons a l => exact absurd ((h a).mpr List.mem_cons_self) (by simp)
  | a :: l, l2, h1, h2, h => by
    obtain ⟨n1, n2⟩ := List.nodup_cons.mp h1
    have ha : a ∈ l2 := (h a).mp List.mem_cons_self
    have p := List.perm_cons_erase ha
    have p2 : (a :: l2.erase a).Nodup := p.nodup_iff.mp h2
    obtain ⟨m1, m2⟩ := List.nodup_cons.mp p2
    refine List.Perm.trans (List.Perm.cons a (pm_of l (l2.erase a) n2 m2 ?_)) p.symm
    intro x
    by_cases e : x = a
    · subst e
      exact ⟨fun z => absurd z n1, fun z => absurd z m1⟩
    · have q : x ∈ l2 ↔ x ∈ l2.erase a := by rw [List.mem_erase_of_ne e]
      rw [← q, ← h x]
      constructor
      · exact fun z => List.mem_cons_of_mem _ z
      · intro z
        rcases List.mem_cons.mp z with z | z
        · exact absurd z e
        · exact z
section CKa
variable (n : Nat) (nb : Nat → Prop) (ga gb : Nat → Option Nat)
def lvo (lv : Nat → Int) : Option Nat → Int
  | none => 0
  | some y => lv y
/-- O: gates, each behind those that it waits for; no more can come in -/
def SRT (O : List Nat) (lv : Nat → Int) : Prop := O.Nodup ∧ (∀ x ∈ O, x < n ∧ nb x) ∧ (∀ i, i < O.length → ∀ y, (ga (O.getD i 0) = some y ∨ gb (O.getD i 0) = some y) → ∃ j, j < i ∧ O.getD j 0 = y) ∧ (∀ x, x < n → nb x → (∀ y, (ga x = some y ∨ gb x = some y) → y ∈ O) → x ∈ O) ∧ (∀ x ∈ O, lv x = 1 + max (lvo lv (ga x)) (lvo lv (gb x)))
end CKa
section CKb
variable {n : Nat} {nb nb' : Nat → Prop} {ga gb ga' gb' : Nat → Option Nat} {O O' : List Nat} {lv lv' : Nat → Int} {g d : Nat → Nat}
theorem gd_memN {O : List Nat} {i : Nat} (hi : i < O.length) : O.getD i 0 ∈ O := by
  rw [List.getD_eq_getElem?_getD, List.getElem?_eq_getElem hi]
  exact List.getElem_mem hi
theorem mem_gdN {O : List Nat} {x : Nat} (h : x ∈ O) : ∃ i, i < O.length ∧ O.getD i 0 = x := by
  obtain ⟨i, hi, e⟩ := List.getElem_of_mem h
  exact ⟨i, hi, by rw [List.getD_eq_getElem?_getD, List.getElem?_eq_getElem hi]; exact e⟩
theorem SRT_sub (h : SRT n nb ga gb O lv) (h' : SRT n nb' ga' gb' O' lv') (hm : ∀ x, x < n → nb x → (g x < n ∧ nb' (g x)) ∧ ga' (g x) = (ga x).map g ∧ gb' (g x) = (gb x).map g) : ∀ m i, i < m → i < O.length → g (O.getD i 0) ∈ O' ∧ lv' (g (O.getD i 0)) = lv (O.getD i 0)
  | 0, i, hi, _ => absurd hi (Nat.not_lt_zero i)
  | m + 1, i, hi, hl => by
    have h0 := h
    have h0' := h'
    obtain ⟨-, a2, a3, -, a5⟩ := h
    obtain ⟨-, -, -, b4, b5⟩ := h'
    have hx := gd_memN hl
    obtain ⟨x1, x2⟩ := a2 _ hx
    obtain ⟨c1, c2, c3⟩ := hm _ x1 x2
    have ih : ∀ y, (ga (O.getD i 0) = some y ∨ gb (O.getD i 0) = some y) → g y ∈ O' ∧ lv' (g y) = lv y := by
      intro y hy
      obtain ⟨j, j1, j2⟩ := a3 i hl y hy
      rw [← j2]
      exact SRT_sub h0 h0' hm m j (by omega) (by omega)
    have hin : g (O.getD i 0) ∈ O' := by
      refine b4 _ c1.1 c1.2 ?_
      intro y' hy
      rw [c2, c3] at hy
      rcases hy with z | z
      · cases e : ga (O.getD i 0) with
        | none => rw [e] at z; cases z
        | some y =>
          rw [e] at z
          injection z with z
          rw [← z]
          exact (ih y (Or.inl e)).1
      · cases e : gb (O.getD i 0) with
        | none => rw [e] at z; cases z
        | some y =>
          rw [e] at z
          injection z with z
          rw [← z]
          exact (ih y (Or.inr e)).1
    refine ⟨hin, ?_⟩
    have la : lvo lv' (ga' (g (O.getD i 0))) = lvo lv (ga (O.getD i 0)) := by
      rw [c2]
      cases e : ga (O.getD i 0) with
      | none => rfl
      | some y => exact (ih y (Or.inl e)).2
    have lb : lvo lv' (gb' (g (O.getD i 0))) = lvo lv (gb (O.getD i 0)) := by
      rw [c3]
      cases e : gb (O.getD i 0) with
      | none => rfl
      | some y => exact (ih y (Or.inr e)).2
    rw [b5 _ hin, a5 _ hx, la, lb]
/-- two orders of gates that are the same but for their numbers -/
theorem SRT_eq (h : SRT n nb ga gb O lv) (h' : SRT n nb' ga' gb' O' lv') (hg : ∀ x, x < n → g x < n ∧ d (g x) = x ∧ d x < n ∧ g (d x) = x) (hn : ∀ x, x < n → (nb x ↔ nb' (g x))) (hm : ∀ x, x < n → nb x → ga' (g x) = (ga x).map g ∧ gb' (g x) = (gb x).map g) (hy : ∀ x y, x < n → nb x → ga x = some y ∨ gb x = some y → y < n) : (O.map g).Perm O' ∧ ∀ x ∈ O, lv' (g x) = lv x := by
  have A := SRT_sub h h' (g := g) (fun x x1 x2 => ⟨⟨(hg x x1).1, (hn x x1).mp x2⟩, hm x x1 x2⟩)
  have B := SRT_sub h' h (g := d) (fun x x1 x2 => by
    obtain ⟨-, -, e3, e4⟩ := hg x x1
    have nd : nb (d x) := (hn _ e3).mpr (by rw [e4]; exact x2)
    obtain ⟨m1, m2⟩ := hm (d x) e3 nd
    rw [e4] at m1 m2
    refine ⟨⟨e3, nd⟩, ?_, ?_⟩
    · rw [m1]
      cases e : ga (d x) with
      | none => rfl
      | some y => exact congrArg some (hg y (hy _ y e3 nd (Or.inl e))).2.1.symm
    · rw [m2]
      cases e : gb (d x) with
      | none => rfl
      | some y => exact congrArg some (hg y (hy _ y e3 nd (Or.inr e))).2.1.symm)
  have inj : ∀ x y, x < n → y < n → g x = g y → x = y := fun x y x1 y1 e => by
    have := (hg x x1).2.1
    rw [e, (hg y y1).2.1] at this
    exact this.symm
  refine ⟨pm_of _ _ ?_ h'.1 ?_, ?_⟩
  · have : ∀ l : List Nat, l.Nodup → (∀ x ∈ l, x < n) → (l.map g).Nodup := by
      intro l
      induction l with
      | nil => intro _ _; exact List.nodup_nil
      | cons a l ih =>
        intro q1 q2
        obtain ⟨n1, n2⟩ := List.nodup_cons.mp q1
        rw [List.map_cons, List.nodup_cons]
        refine ⟨?_, ih n2 (fun x hx => q2 x (List.mem_cons_of_mem _ hx))⟩
        intro z
        obtain ⟨y, y1, y2⟩ := List.mem_map.mp z
        have := inj y a (q2 y (List.mem_cons_of_mem _ y1)) (q2 a List.mem_cons_self) y2
        exact n1 (this ▸ y1)
    exact this O h.1 (fun x hx => (h.2.1 x hx).1)
  · intro x
    constructor
    · intro z
      obtain ⟨y, y1, y2⟩ := List.mem_map.mp z
      obtain ⟨i, i1, i2⟩ := mem_gdN y1
      rw [← y2, ← i2]
      exact (A _ i (Nat.lt_succ_self i) i1).1
    · intro z
      obtain ⟨i, i1, i2⟩ := mem_gdN z
      have b := (B _ i (Nat.lt_succ_self i) i1).1
      rw [i2] at b
      have := (hg x (h'.2.1 x z).1).2.2.2
      rw [← this]
      exact List.mem_map.mpr ⟨_, b, rfl⟩
  · intro x hx
    obtain ⟨i, i1, i2⟩ := mem_gdN hx
    rw [← i2]
    exact (A _ i (Nat.lt_succ_self i) i1).2
/-- all are in: by their number -/
theorem all_in {l1 l2 : List Nat} (h1 : l1.Nodup) (h2 : l2.Nodup) (h : ∀ x ∈ l1, x ∈ l2) : l1.length = l2.length ↔ ∀ x ∈ l2, x ∈ l1 := by
  constructor
  · intro e x hx
    by_cases z : x ∈ l1
    · exact z
    · have := nodup_len (x :: l1) l2 (List.nodup_cons.mpr ⟨z, h1⟩) (fun y hy => by
        rcases List.mem_cons.mp hy with q | q
        · rw [q]; exact hx
        · exact h y q)
      rw [List.length_cons] at this
      omega
  · intro e
    have a := nodup_len l1 l2 h1 h
    have b := nodup_len l2 l1 h2 e
    omega
end CKb
