/-! chips: links that give inner names; notes of both sides -/
def DOM (A B : List Nat) : Prop := (∀ k ∈ A, ∃ k' ∈ B, k' ≤ k) ∧ ∀ k ∈ B, ∃ k' ∈ A, k' ≤ k
theorem kMn_lem : ∀ (L : List Nat) (k : Nat), k ∈ L → kMn L ≤ k
  | [], k, h => by cases h
  | x :: L, k, h => by
    show min x (kMn L) ≤ k
    rcases List.mem_cons.mp h with z | z
    · omega
    · have := kMn_lem L k z; omega
theorem kMn_gel : ∀ (L : List Nat) (z : Nat), (∀ k ∈ L, z ≤ k) → z ≤ 100000 → z ≤ kMn L
  | [], z, _, hz => hz
  | x :: L, z, h, hz => by
    show z ≤ min x (kMn L)
    have a := h x List.mem_cons_self
    have b := kMn_gel L z (fun k hk => h k (List.mem_cons_of_mem _ hk)) hz
    omega
theorem kMn_DOM {A B : List Nat} (h : DOM A B) : kMn A = kMn B := by
  have a := kMn_gel B (kMn A) (fun k hk => by obtain ⟨k', z1, z2⟩ := h.2 k hk; have := kMn_lem A k' z1; omega) (kMn_le A)
  have b := kMn_gel A (kMn B) (fun k hk => by obtain ⟨k', z1, z2⟩ := h.1 k hk; have := kMn_lem B k' z1; omega) (kMn_le B)
  omega
theorem DOM_mem {A B : List Nat} (h : ∀ k, k ∈ A ↔ k ∈ B) : DOM A B := ⟨fun k hk => ⟨k, (h k).mp hk, Nat.le_refl k⟩, fun k hk => ⟨k, (h k).mpr hk, Nat.le_refl k⟩⟩
theorem DOM_refl (A : List Nat) : DOM A A := DOM_mem (fun _ => Iff.rfl)
theorem DOM_tr {A B D : List Nat} (h : DOM A B) (g : DOM B D) : DOM A D := ⟨fun k hk => by
  obtain ⟨x, x1, x2⟩ := h.1 k hk
  obtain ⟨y, y1, y2⟩ := g.1 x x1
  exact ⟨y, y1, by omega⟩, fun k hk => by
  obtain ⟨x, x1, x2⟩ := g.2 k hk
  obtain ⟨y, y1, y2⟩ := h.2 x x1
  exact ⟨y, y1, by omega⟩⟩
theorem DOM_app {A B A' B' : List Nat} (h : DOM A B) (g : DOM A' B') : DOM (A ++ A') (B ++ B') := ⟨fun k hk => by
  rcases List.mem_append.mp hk with z | z
  · obtain ⟨x, x1, x2⟩ := h.1 k z
    exact ⟨x, List.mem_append_left _ x1, x2⟩
  · obtain ⟨x, x1, x2⟩ := g.1 k z
    exact ⟨x, List.mem_append_right _ x1, x2⟩, fun k hk => by
  rcases List.mem_append.mp hk with z | z
  · obtain ⟨x, x1, x2⟩ := h.2 k z
    exact ⟨x, List.mem_append_left _ x1, x2⟩
  · obtain ⟨x, x1, x2⟩ := g.2 k z
    exact ⟨x, List.mem_append_right _ x1, x2⟩⟩
theorem DOM_nil {B : List Nat} (h : DOM [] B) : B = [] := by
  cases B with
  | nil => rfl
  | cons x B =>
    obtain ⟨k, k1, -⟩ := h.2 x List.mem_cons_self
    cases k1
section CIr
variable (F : Nat → Int) (P : Nat → Nat) (s0 t0 : iS) (N : Nat) (C : List chR) (O : List Nat) (Q : List (Nat × Int)) (R L : List (Nat × Nat)) (E I : List Nat)
/-- a link of a part that gives an inner name -/
def PGv (c r l : Nat) : Prop := ((hAt C Q R I c).2.2.1 ≤ r ∧ r < (hAt C Q R I (c + 1)).2.2.1) ∧ ((R.getD r (0, 0)).2 ≤ l ∧ l < E.getD r 0) ∧ cix F P t0 C (R.getD r (0, 0)).1 ≠ -1 ∧ gvT F P s0 t0 C O Q R L I c (cix F P t0 C (R.getD r (0, 0)).1).toNat l
def PLK (c r l : Nat) (T : List tEn) : Prop := (∀ e ∈ T, e.2.1 < l ∧ ∃ r', PGv F P s0 t0 C O Q R L E I c r' e.2.1) ∧ ∀ r' l', PGv F P s0 t0 C O Q R L E I c r' l' → (r' < r ∨ r' = r ∧ l' < l) → ∃ e ∈ T, nmT F P t0 e.1 = nmT F P t0 (lR L l') ∧ e.2.1 ≤ l'
end CIr
section CIs
variable {F : Nat → Int} {n N : Nat} {P : Nat → Nat} {s0 t0 s t s' t' : iS} {C : List chR} {O E I : List Nat} {Q : List (Nat × Int)} {R L : List (Nat × Nat)} {c b i j k q r l : Nat} {Z : List Nat} {T : List tEn} {out w : Int}
theorem LK_e (hs : KHS F P s0 t0 N C O Q R L E I) (hr : r < R.length) : (R.getD r (0, 0)).2 ≤ E.getD r 0 ∧ E.getD r 0 ≤ L.length := by
  obtain ⟨c, c1, c2, c3⟩ := KHS_part hs hr
  obtain ⟨-, -, -, -, p, -, -, -⟩ := KHS_c hs c1
  obtain ⟨-, fle, le, -⟩ := p r c2 c3
  exact ⟨by omega, by omega⟩
theorem LK_m (hs : KHS F P s0 t0 N C O Q R L E I) : ∀ m r, r + m + 1 < R.length → E.getD r 0 ≤ (R.getD (r + m + 1) (0, 0)).2
  | 0, r, h => by
    obtain ⟨e1, e2, e3, e4⟩ := hs.2.2.1
    have := e2 r h
    show _ ≤ (R.getD (r + 1) (0, 0)).2
    omega
  | m + 1, r, h => by
    obtain ⟨e1, e2, e3, e4⟩ := hs.2.2.1
    have a := LK_m hs m r (by omega)
    have b := (LK_e hs (r := r + m + 1) (by omega)).1
    have d := e2 (r + m + 1) (by omega)
    show _ ≤ (R.getD (r + m + 1 + 1) (0, 0)).2
    omega
theorem LK_u (hs : KHS F P s0 t0 N C O Q R L E I) {r' : Nat} (hr : r < R.length) (hr' : r' < R.length) (h1 : (R.getD r (0, 0)).2 ≤ l ∧ l < E.getD r 0) (h2 : (R.getD r' (0, 0)).2 ≤ l ∧ l < E.getD r' 0) : r = r' := by
  rcases Nat.lt_trichotomy r r' with z | z | z
  · have := LK_m hs (r' - r - 1) r (by omega)
    rw [show r + (r' - r - 1) + 1 = r' by omega] at this
    omega
  · exact z
  · have := LK_m hs (r - r' - 1) r' (by omega)
    rw [show r' + (r - r' - 1) + 1 = r by omega] at this
    omega
theorem gtT_plk (h : PLK F P s0 t0 C O Q R L E I c r l T) (hrr : (hAt C Q R I c).2.2.1 ≤ r ∧ r < (hAt C Q R I (c + 1)).2.2.1) (hl : (R.getD r (0, 0)).2 ≤ l ∧ l < E.getD r 0) (hi : cix F P t0 C (R.getD r (0, 0)).1 = (i : Int)) : PLK F P s0 t0 C O Q R L E I c r (l + 1) (gtT F P s0 t0 C O Q R L I c b i l T) := by
  have it : (cix F P t0 C (R.getD r (0, 0)).1).toNat = i := by omega
  obtain ⟨h1, h2⟩ := h
  unfold gtT
  by_cases z : gvT F P s0 t0 C O Q R L I c i l ∧ fnT F P t0 T (nmT F P t0 (lR L l)) = -1
  · rw [if_pos z]
    refine ⟨fun e he => ?_, fun r' l' g1 g2 => ?_⟩
    · rcases List.mem_append.mp he with y | y
      · exact ⟨by have := (h1 e y).1; omega, (h1 e y).2⟩
      · rw [List.mem_singleton.mp y]
        exact ⟨Nat.lt_succ_self l, r, hrr, hl, by omega, by rw [it]; exact z.1⟩
    · by_cases y : r' = r ∧ l' = l
      · refine ⟨_, List.mem_append_right _ (List.mem_singleton.mpr rfl), ?_, ?_⟩
        · rw [y.2]
        · rw [y.2]
          exact Nat.le_refl l
      · obtain ⟨e, e1, e2⟩ := h2 r' l' g1 (by omega)
        exact ⟨e, List.mem_append_left _ e1, e2⟩
  · rw [if_neg z]
    refine ⟨fun e he => ⟨by have := (h1 e he).1; omega, (h1 e he).2⟩, fun r' l' g1 g2 => ?_⟩
    by_cases y : r' = r ∧ l' = l
    · have g3 := g1.2.2.2
      rw [y.1, y.2, it] at g3
      have fn : ¬ fnT F P t0 T (nmT F P t0 (lR L l)) = -1 := fun w => z ⟨g3, w⟩
      rcases fnT_rg (F := F) (P := P) (t0 := t0) (T := T) (nm := nmT F P t0 (lR L l)) with w | ⟨x, -, x2, x3⟩
      · exact absurd w fn
      · have m : T.getD x (0, 0, 0, 0) ∈ T := by
          rw [List.getD_eq_getElem?_getD, List.getElem?_eq_getElem x2]
          exact List.getElem_mem x2
        refine ⟨_, m, by rw [y.2]; exact x3, ?_⟩
        have := (h1 _ m).1
        omega
    · exact h2 r' l' g1 (by omega)
theorem gtL_plk (h : PLK F P s0 t0 C O Q R L E I c r (R.getD r (0, 0)).2 T) (hrr : (hAt C Q R I c).2.2.1 ≤ r ∧ r < (hAt C Q R I (c + 1)).2.2.1) (hi : cix F P t0 C (R.getD r (0, 0)).1 = (i : Int)) : ∀ m, (R.getD r (0, 0)).2 + m ≤ E.getD r 0 → PLK F P s0 t0 C O Q R L E I c r ((R.getD r (0, 0)).2 + m) (gtL F P s0 t0 C O Q R L I c b i (R.getD r (0, 0)).2 T m)
  | 0, _ => h
  | m + 1, hm => gtT_plk (l := (R.getD r (0, 0)).2 + m) (gtL_plk h hrr hi m (by omega)) hrr ⟨by omega, by omega⟩ hi
/-- where the links of the next part begin -/
def LBp (R : List (Nat × Nat)) (E : List Nat) (a : Nat) : Nat → Nat
  | 0 => (R.getD a (0, 0)).2
  | m + 1 => E.getD (a + m) 0
theorem LB_at (hs : KHS F P s0 t0 N C O Q R L E I) {a m : Nat} (h : a + m < R.length) : LBp R E a m = (R.getD (a + m) (0, 0)).2 := by
  cases m with
  | zero => rfl
  | succ m =>
    obtain ⟨e1, e2, e3, e4⟩ := hs.2.2.1
    exact (e2 (a + m) (by omega)).symm
theorem gtR_plk (hs : KHS F P s0 t0 N C O Q R L E I) (hcl : c < C.length) : ∀ m, (hAt C Q R I c).2.2.1 + m ≤ (hAt C Q R I (c + 1)).2.2.1 → PLK F P s0 t0 C O Q R L E I c ((hAt C Q R I c).2.2.1 + m) (LBp R E (hAt C Q R I c).2.2.1 m) (gtR F P s0 t0 C O Q R L E I c b (hAt C Q R I c).2.2.1 [] m)
  | 0, _ => ⟨fun e he => (by cases he), fun r' l' g1 g2 => by
      exfalso
      have h1 := g1.1
      have h2 := g1.2.1
      rcases g2 with z | ⟨z1, z2⟩
      · omega
      · have z1' : r' = (hAt C Q R I c).2.2.1 := z1
        have z2' : l' < (R.getD (hAt C Q R I c).2.2.1 (0, 0)).2 := z2
        rw [z1'] at h2
        omega⟩
  | m + 1, hm => by
    have rq := (KHS_q hs (c := c + 1) (by omega)).2.1
    have ih := gtR_plk hs hcl m (by omega)
    generalize hT : gtR F P s0 t0 C O Q R L E I c b (hAt C Q R I c).2.2.1 [] m = T0 at ih
    generalize ha : (hAt C Q R I c).2.2.1 = a at *
    have en : gtR F P s0 t0 C O Q R L E I c b a [] (m + 1) = if cix F P t0 C (R.getD (a + m) (0, 0)).1 = -1 then T0 else gtL F P s0 t0 C O Q R L I c b (cix F P t0 C (R.getD (a + m) (0, 0)).1).toNat (R.getD (a + m) (0, 0)).2 T0 (E.getD (a + m) 0 - (R.getD (a + m) (0, 0)).2) := by rw [← hT]; rfl
    rw [LB_at hs (by omega)] at ih
    have le := (LK_e hs (r := a + m) (by omega)).1
    have up : ∀ T', PLK F P s0 t0 C O Q R L E I c (a + m) (E.getD (a + m) 0) T' → PLK F P s0 t0 C O Q R L E I c (a + (m + 1)) (LBp R E a (m + 1)) T' := fun T' g => ⟨g.1, fun r' l' g1 g2 => g.2 r' l' g1 (by
      have g3 := g1.1
      have g4 := g1.2.1
      rcases g2 with z | ⟨z1, z2⟩
      · by_cases y : r' = a + m
        · exact Or.inr ⟨y, by rw [y] at g4; exact g4.2⟩
        · exact Or.inl (by omega)
      · exfalso
        have z2' : l' < E.getD (a + m) 0 := z2
        have := LK_m hs 0 (a + m) (by omega)
        rw [z1] at g4
        have g5 : (R.getD (a + m + 0 + 1) (0, 0)).2 ≤ l' := g4.1
        omega)⟩
    apply up
    rw [en]
    rcases cix_rg (j := (R.getD (a + m) (0, 0)).1) hs with z | ⟨i, z1, z2⟩
    · rw [if_pos z]
      refine ⟨fun e he => ⟨by have := (ih.1 e he).1; omega, (ih.1 e he).2⟩, fun r' l' g1 g2 => ih.2 r' l' g1 ?_⟩
      rcases g2 with y | ⟨y1, y2⟩
      · exact Or.inl y
      · exfalso
        have := g1.2.2.1
        rw [y1] at this
        exact this z
    · rw [if_neg (by omega), z1, Int.toNat_natCast]
      have := gtL_plk (b := b) ih ⟨by omega, by omega⟩ z1 (E.getD (a + m) 0 - (R.getD (a + m) (0, 0)).2) (by omega)
      rw [show (R.getD (a + m) (0, 0)).2 + (E.getD (a + m) 0 - (R.getD (a + m) (0, 0)).2) = E.getD (a + m) 0 by omega] at this
      exact this
theorem ent_of {nm : List Int} {e : tEn} : ∀ (T : List tEn), (nmsT F P t0 T).Nodup → e ∈ T → nmT F P t0 e.1 = nm → (∀ l, ilT F P t0 T l nm = if e.2.1 < l then 1 else 0) ∧ wOf F P t0 T nm = e.2.2.1
  | [], _, he, _ => by cases he
  | x :: T, hn, he, hm => by
    have hn' : (nmT F P t0 x.1 :: nmsT F P t0 T).Nodup := hn
    rw [List.nodup_cons] at hn'
    have e1 : ∀ l, ilT F P t0 (x :: T) l nm = if nmT F P t0 x.1 = nm then (if x.2.1 < l then 1 else 0) else ilT F P t0 T l nm := fun _ => rfl
    have e2 : wOf F P t0 (x :: T) nm = if nmT F P t0 x.1 = nm then x.2.2.1 else wOf F P t0 T nm := rfl
    rcases List.mem_cons.mp he with z | z
    · subst z
      rw [e2, if_pos hm]
      exact ⟨fun l => by rw [e1, if_pos hm], rfl⟩
    · have ne : ¬ nmT F P t0 x.1 = nm := fun y => hn'.1 (by
        rw [y, ← hm]
        exact List.mem_map.mpr ⟨e, z, rfl⟩)
      obtain ⟨i1, i2⟩ := ent_of T hn'.2 z hm
      rw [e2, if_neg ne]
      exact ⟨fun l => by rw [e1, if_neg ne]; exact i1 l, i2⟩
theorem ilT_no {nm : List Int} : ∀ (T : List tEn), (∀ e ∈ T, nmT F P t0 e.1 = nm → ¬ e.2.1 < l) → ilT F P t0 T l nm = 0
  | [], _ => rfl
  | x :: T, h => by
    have e1 : ilT F P t0 (x :: T) l nm = if nmT F P t0 x.1 = nm then (if x.2.1 < l then 1 else 0) else ilT F P t0 T l nm := rfl
    rw [e1]
    by_cases y : nmT F P t0 x.1 = nm
    · rw [if_pos y, if_neg (h x List.mem_cons_self y)]
    · rw [if_neg y]
      exact ilT_no T (fun e he => h e (List.mem_cons_of_mem _ he))
theorem ilT_eq {nm : List Int} {l' : Nat} : ∀ (T : List tEn), (∀ e ∈ T, nmT F P t0 e.1 = nm → (e.2.1 < l ↔ e.2.1 < l')) → ilT F P t0 T l nm = ilT F P t0 T l' nm
  | [], _ => rfl
  | x :: T, h => by
    have e1 : ∀ l, ilT F P t0 (x :: T) l nm = if nmT F P t0 x.1 = nm then (if x.2.1 < l then 1 else 0) else ilT F P t0 T l nm := fun _ => rfl
    rw [e1, e1]
    by_cases y : nmT F P t0 x.1 = nm
    · rw [if_pos y, if_pos y]
      have := h x List.mem_cons_self y
      by_cases z : x.2.1 < l
      · rw [if_pos z, if_pos (this.mp z)]
      · rw [if_neg z, if_neg (fun w => z (this.mpr w))]
    · rw [if_neg y, if_neg y]
      exact ilT_eq T (fun e he => h e (List.mem_cons_of_mem _ he))
end CIs
