/-! chips: both sides note the same of a link -/
theorem mem_if {p : Prop} [Decidable p] {x k : Nat} : k ∈ (if p then [x] else []) ↔ p ∧ k = x := by
  by_cases z : p
  · rw [if_pos z, List.mem_singleton]
    exact ⟨fun y => ⟨z, y⟩, fun y => y.2⟩
  · rw [if_neg z]
    exact ⟨fun y => (by cases y), fun y => absurd y.1 z⟩
section CIt
variable (F : Nat → Int) (P : Nat → Nat) (s0 t0 : iS) (N : Nat) (C : List chR) (O : List Nat) (Q : List (Nat × Int)) (R L : List (Nat × Nat)) (E I : List Nat)
/-- the table of a chip's inner names is whole -/
def PLE (c : Nat) (T : List tEn) : Prop := (∀ e ∈ T, ∃ r', PGv F P s0 t0 C O Q R L E I c r' e.2.1) ∧ ∀ r' l', PGv F P s0 t0 C O Q R L E I c r' l' → ∃ e ∈ T, nmT F P t0 e.1 = nmT F P t0 (lR L l') ∧ e.2.1 ≤ l'
end CIt
section CIu
variable {F : Nat → Int} {n N : Nat} {P : Nat → Nat} {s0 t0 s t s' t' : iS} {C : List chR} {O E I : List Nat} {Q : List (Nat × Int)} {R L : List (Nat × Nat)} {c b i j k q r l : Nat} {Z : List Nat} {T : List tEn} {out w : Int}
theorem gtR_ple (hs : KHS F P s0 t0 N C O Q R L E I) (hcl : c < C.length) : PLE F P s0 t0 C O Q R L E I c (gtR F P s0 t0 C O Q R L E I c b (hAt C Q R I c).2.2.1 [] ((hAt C Q R I (c + 1)).2.2.1 - (hAt C Q R I c).2.2.1)) := by
  have m := (KHS_m hs 1 c (by omega)).2.1
  have := gtR_plk (b := b) hs hcl ((hAt C Q R I (c + 1)).2.2.1 - (hAt C Q R I c).2.2.1) (by omega)
  exact ⟨fun e he => (this.1 e he).2, fun r' l' g => this.2 r' l' g (Or.inl (by have := g.1; omega))⟩
theorem DOM_R {mo : Nat → Int} (hT : TOK F P s0 t0 N C Q R L I c b T) (ho : out = 0 ∨ out = 1) (hg : out = 1 → s0 9 (lR L l) = 3 → kR F P t0 C Q R L I c l = -1 → ∃ e ∈ T, nmT F P t0 e.1 = nmT F P t0 (lR L l) ∧ e.2.1 ≤ l) : DOM (xR F P s0 t0 C O Q R L I c l T out w mo) (yR F P s0 t0 C O Q R L I c l T out w mo) := by
  unfold xR yR
  by_cases c3 : s0 9 (lR L l) = 3
  case neg =>
    rw [if_neg c3, if_neg c3]
    exact DOM_refl _
  rw [if_pos c3, if_pos c3]
  by_cases kk : kR F P t0 C Q R L I c l = -1
  case neg =>
    rw [if_neg kk, if_neg kk]
    by_cases oe : oR F P t0 C O Q R L I c l = out
    · rw [if_pos oe, if_pos oe]
      by_cases wm : wR F P s0 t0 C Q R L I c l = -1
      · rw [if_pos wm, if_pos wm]
        exact DOM_refl _
      · rw [if_neg wm, if_neg wm]
        exact DOM_mem (fun k => by rw [List.mem_append, List.mem_append]; exact Or.comm)
    · rw [if_neg oe, if_neg oe]
      exact DOM_refl _
  rw [if_pos kk, if_pos kk]
  obtain ⟨wn, wr⟩ := wOf_ne (F := F) (P := P) (t0 := t0) (nm := nmT F P t0 (lR L l)) T (fun e he => (hT.1 e he).2.2)
  by_cases fn : fnT F P t0 T (nmT F P t0 (lR L l)) = -1
  · have w0 := wn.mpr (fnT_no.mp fn)
    have o0 : out = 0 := by
      rcases ho with z | z
      · exact z
      · obtain ⟨e, e1, e2, -⟩ := hg z c3 kk
        exact absurd e2 (fnT_no.mp fn e e1)
    rw [if_pos fn, w0]
    refine ⟨fun k hk => ⟨k, ?_, Nat.le_refl k⟩, fun k hk => ⟨16 * lR L l + 4, List.mem_singleton.mpr rfl, ?_⟩⟩
    · simp only [List.mem_append, mem_if]
      exact Or.inr (Or.inr (Or.inl ⟨⟨o0, trivial⟩, List.mem_singleton.mp hk⟩))
    · simp only [List.mem_append, mem_if] at hk
      rcases hk with z | z | z | z
      · omega
      · omega
      · omega
      · omega
  rw [if_neg fn]
  obtain ⟨e, he⟩ : ∃ e, e = eR F P t0 L T l := ⟨_, rfl⟩
  obtain ⟨m, nm⟩ : e ∈ T ∧ nmT F P t0 e.1 = nmT F P t0 (lR L l) := by
    rcases fnT_rg (F := F) (P := P) (t0 := t0) (T := T) (nm := nmT F P t0 (lR L l)) with w | ⟨x, x1, x2, x3⟩
    · exact absurd w fn
    · have ex : e = T.getD x (0, 0, 0, 0) := by rw [he]; unfold eR; rw [x1, Int.toNat_natCast]
      rw [ex]
      refine ⟨?_, x3⟩
      rw [List.getD_eq_getElem?_getD, List.getElem?_eq_getElem x2]
      exact List.getElem_mem x2
  obtain ⟨i1, i2⟩ := ent_of T hT.2.1 m nm
  have we := (hT.1 e m).2.2
  have le : out = 1 → e.2.1 ≤ l := fun o => by
    obtain ⟨e', e1, e2, e3⟩ := hg o c3 kk
    have a := (ent_of T hT.2.1 e1 e2).1 (l + 1)
    rw [i1 (l + 1), if_pos (show e'.2.1 < l + 1 by omega)] at a
    by_cases y : e.2.1 < l + 1
    · omega
    · rw [if_neg y] at a
      omega
  rw [← he, i1, i2]
  have il : (if e.2.1 < l then (1 : Int) else 0) ≠ 0 ↔ e.2.1 < l := by
    by_cases y : e.2.1 < l
    · rw [if_pos y]; exact ⟨fun _ => y, fun _ => by omega⟩
    · rw [if_neg y]; exact ⟨fun z => absurd rfl z, fun z => absurd z y⟩
  apply DOM_mem
  intro k
  by_cases q : s0 9 (lR L l + 1) = 91
  · simp only [List.mem_append, mem_if, if_pos q, List.mem_singleton, il]
    constructor
    · rintro (⟨⟨z1, z2⟩, z3⟩ | z)
      · exact Or.inr (Or.inl ⟨⟨z1, by have := le z1; omega⟩, z3⟩)
      · exact Or.inl z
    · rintro (z | ⟨⟨z1, z2⟩, z3⟩ | ⟨⟨z1, z2⟩, z3⟩ | ⟨⟨z1, z2, z4, z5⟩, z3⟩)
      · exact Or.inr z
      · exact Or.inl ⟨⟨z1, by omega⟩, z3⟩
      · omega
      · exact absurd q z4
  · simp only [List.mem_append, mem_if, if_neg q, il]
    constructor
    · rintro (⟨⟨z1, z2⟩, z3⟩ | ⟨⟨z1, z2, z4, z5⟩, z3⟩)
      · exact Or.inr (Or.inl ⟨⟨z1, by have := le z1; omega⟩, z3⟩)
      · exact Or.inr (Or.inr (Or.inr ⟨⟨z1, by omega, q, z4, z5⟩, z3⟩))
    · rintro (z | ⟨⟨z1, z2⟩, z3⟩ | ⟨⟨z1, z2⟩, z3⟩ | ⟨⟨z1, z2, z4, z5, z6⟩, z3⟩)
      · cases z
      · exact Or.inl ⟨⟨z1, by omega⟩, z3⟩
      · omega
      · exact Or.inr ⟨⟨z1, by omega, z5, z6⟩, z3⟩
theorem DOM_K {mi mo : Nat → Int} (hT : TOK F P s0 t0 N C Q R L I c b T) (hg : gvT F P s0 t0 C O Q R L I c i l → ∃ e ∈ T, nmT F P t0 e.1 = nmT F P t0 (lR L l) ∧ e.2.1 ≤ l) : DOM (xK F P s0 t0 C O Q R L I c i l T mi mo) (yK F P s0 t0 C O Q R L I c i l T mi mo) := by
  unfold xK yK
  by_cases kk : kL F P t0 C Q R L I i l = -1
  · rw [if_pos kk, if_pos kk]
    exact DOM_refl _
  · rw [if_neg kk, if_neg kk]
    refine DOM_app (DOM_refl _) (DOM_R hT ?_ (fun o c3 k3 => hg ⟨kk, ?_, c3, k3⟩))
    · unfold oL
      split
      · exact Or.inr rfl
      · exact Or.inl rfl
    · unfold oL at o
      by_cases y : (ooI O i : Int) ≤ kL F P t0 C Q R L I i l
      · exact y
      · rw [if_neg y] at o
        omega
/-- behind a link -/
theorem IL_next (hs : KHS F P s0 t0 N C O Q R L E I) (hcl : c < C.length) (hrr : (hAt C Q R I c).2.2.1 ≤ r ∧ r < (hAt C Q R I (c + 1)).2.2.1) (hl : (R.getD r (0, 0)).2 ≤ l ∧ l < E.getD r 0) (hi : cix F P t0 C (R.getD r (0, 0)).1 = (i : Int)) (hT : TOK F P s0 t0 N C Q R L I c b T) (hp : PLE F P s0 t0 C O Q R L E I c T) (hIL : ILr F P t0 C Q R I c T l t) (h215 : ∀ x, (hAt C Q R I c).2.2.2 ≤ x → x < (hAt C Q R I (c + 1)).2.2.2 → t' 215 x = if gvT F P s0 t0 C O Q R L I c i l ∧ nmT F P t0 (I.getD x 0) = nmT F P t0 (lR L l) then 1 else t 215 x) : ILr F P t0 C Q R I c T (l + 1) t' := by
  have rq := (KHS_q hs (c := c + 1) (by omega)).2.1
  have it : (cix F P t0 C (R.getD r (0, 0)).1).toNat = i := by omega
  intro x x1 x2
  rw [h215 x x1 x2]
  by_cases z : gvT F P s0 t0 C O Q R L I c i l ∧ nmT F P t0 (I.getD x 0) = nmT F P t0 (lR L l)
  · obtain ⟨e, e1, e2, e3⟩ := hp.2 r l ⟨hrr, hl, by omega, by rw [it]; exact z.1⟩
    rw [if_pos z, (ent_of T hT.2.1 e1 (e2.trans z.2.symm)).1, if_pos (by omega)]
  · rw [if_neg z, hIL x x1 x2]
    apply ilT_eq
    intro e he en
    constructor
    · omega
    · intro y
      by_cases w : e.2.1 = l
      · exfalso
        obtain ⟨r', g⟩ := hp.1 e he
        have g1 := g.1
        have g2 := g.2.1
        rw [w] at g2
        have ru := LK_u hs (r := r) (r' := r') (by omega) (by omega) hl g2
        have g3 := g.2.2.2
        rw [w, ← ru, it] at g3
        have g4 := (hT.2.2.2 e he).2
        rw [w] at g4
        exact z ⟨g3, by rw [g4]; exact en.symm⟩
      · omega
/-- a part that is no chip -/
theorem IL_skip (hs : KHS F P s0 t0 N C O Q R L E I) (hcl : c < C.length) (hrr : (hAt C Q R I c).2.2.1 ≤ r ∧ r < (hAt C Q R I (c + 1)).2.2.1) (hi : cix F P t0 C (R.getD r (0, 0)).1 = -1) (hp : PLE F P s0 t0 C O Q R L E I c T) (hIL : ILr F P t0 C Q R I c T (R.getD r (0, 0)).2 t) : ILr F P t0 C Q R I c T (E.getD r 0) t := by
  have rq := (KHS_q hs (c := c + 1) (by omega)).2.1
  have le := (LK_e hs (r := r) (by omega)).1
  intro x x1 x2
  rw [hIL x x1 x2]
  apply ilT_eq
  intro e he en
  constructor
  · omega
  · intro y
    by_cases w : e.2.1 < (R.getD r (0, 0)).2
    · exact w
    · exfalso
      obtain ⟨r', g⟩ := hp.1 e he
      have g1 := g.1
      have ru := LK_u hs (r := r) (r' := r') (by omega) (by omega) ⟨by omega, y⟩ g.2.1
      have g3 := g.2.2.1
      rw [← ru] at g3
      exact g3 hi
theorem IL_start (hs : KHS F P s0 t0 N C O Q R L E I) (hcl : c < C.length) (hp : PLE F P s0 t0 C O Q R L E I c T) (h0 : ∀ x, (hAt C Q R I c).2.2.2 ≤ x → x < (hAt C Q R I (c + 1)).2.2.2 → t 215 x = 0) : ILr F P t0 C Q R I c T (R.getD (hAt C Q R I c).2.2.1 (0, 0)).2 t := by
  have rq := (KHS_q hs (c := c + 1) (by omega)).2.1
  intro x x1 x2
  rw [h0 x x1 x2, ilT_no]
  intro e he en y
  obtain ⟨r', g⟩ := hp.1 e he
  have g1 := g.1
  have g2 := g.2.1
  by_cases w : r' = (hAt C Q R I c).2.2.1
  · rw [w] at g2
    omega
  · have a := (LK_e hs (r := (hAt C Q R I c).2.2.1) (by omega)).1
    have b := LK_m hs (r' - (hAt C Q R I c).2.2.1 - 1) (hAt C Q R I c).2.2.1 (by omega)
    rw [show (hAt C Q R I c).2.2.1 + (r' - (hAt C Q R I c).2.2.1 - 1) + 1 = r' by omega] at b
    omega
end CIu
