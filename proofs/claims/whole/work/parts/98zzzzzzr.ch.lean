/-! chips: parts are found, inner names gathered -/
abbrev tEn := Nat × Nat × Int × Nat
theorem nodup_len {α : Type} [DecidableEq α] : ∀ (l1 l2 : List α), l1.Nodup → (∀ x ∈ l1, x ∈ l2) → l1.length ≤ l2.length
  | [], _, _, _ => Nat.zero_le _
  | a :: l, l2, h, hs => by
    obtain ⟨h1, h2⟩ := List.nodup_cons.mp h
    have ha := hs a List.mem_cons_self
    have e := List.length_erase_of_mem ha
    have p := List.length_pos_of_mem ha
    have ih := nodup_len l (l2.erase a) h2 (fun x hx => by
      have ne : x ≠ a := fun z => h1 (z ▸ hx)
      exact (List.mem_erase_of_ne ne).mpr (hs x (List.mem_cons_of_mem _ hx)))
    rw [List.length_cons]
    omega
section CIg
variable (F : Nat → Int) (P : Nat → Nat) (s0 t0 : iS) (N : Nat) (C : List chR) (O : List Nat) (Q : List (Nat × Int)) (R L : List (Nat × Nat)) (E I : List Nat)
def nmsT (T : List tEn) : List (List Int) := T.map (fun e => nmT F P t0 e.1)
/-- the width that a name has so far; 0 if none -/
def wOf : List tEn → List Int → Int
  | [], _ => 0
  | e :: T, nm => if nmT F P t0 e.1 = nm then e.2.2.1 else wOf T nm
def fnT (T : List tEn) (nm : List Int) : Int := fst1 (fun i => (nmsT F P t0 T).getD i [] = nm) 0 T.length
def owT (b : Nat) (T : List tEn) : Nat := b + (T.map (fun e => e.2.2.1.toNat)).sum
def lL (l : Nat) : Nat := (L.getD l (0, 0)).1
def lR (l : Nat) : Nat := (L.getD l (0, 0)).2
/-- does link l of a part i of chip c give an inner name -/
abbrev gvT (c i l : Nat) : Prop := pfI F P t0 C Q R I i (lL L l) ≠ -1 ∧ (ooI O i : Int) ≤ pfI F P t0 C Q R I i (lL L l) ∧ s0 9 (lR L l) = 3 ∧ pfI F P t0 C Q R I (2 + c) (lR L l) = -1

noncomputable def gtT (c b i l : Nat) (T : List tEn) : List tEn := if gvT F P s0 t0 C O Q R L I c i l ∧ fnT F P t0 T (nmT F P t0 (lR L l)) = -1 then T ++ [(lR L l, l, rwB s0 (lL L l) (pwI s0 Q (pfI F P t0 C Q R I i (lL L l)).toNat), owT b T)] else T
noncomputable def gtL (c b i l : Nat) (T : List tEn) : Nat → List tEn
  | 0 => T
  | m + 1 => gtT F P s0 t0 C O Q R L I c b i (l + m) (gtL c b i l T m)
noncomputable def gtR (c b r : Nat) (T : List tEn) : Nat → List tEn
  | 0 => T
  | m + 1 => if cix F P t0 C (R.getD (r + m) (0, 0)).1 = -1 then gtR c b r T m else gtL F P s0 t0 C O Q R L I c b (cix F P t0 C (R.getD (r + m) (0, 0)).1).toNat (R.getD (r + m) (0, 0)).2 (gtR c b r T m) (E.getD (r + m) 0 - (R.getD (r + m) (0, 0)).2)
/-- the inner names of chip c that are given -/
def TOK (c b : Nat) (T : List tEn) : Prop := (∀ e ∈ T, ((e.1 < N ∧ s0 9 e.1 = 3) ∧ pfI F P t0 C Q R I (2 + c) e.1 = -1) ∧ (∃ x, (hAt C Q R I c).2.2.2 ≤ x ∧ x < (hAt C Q R I (c + 1)).2.2.2 ∧ nmT F P t0 (I.getD x 0) = nmT F P t0 e.1) ∧ (e.2.2.1 = -1 ∨ 1 ≤ e.2.2.1 ∧ e.2.2.1 ≤ 16)) ∧ (nmsT F P t0 T).Nodup ∧ (∀ i, i < T.length → (T.getD i (0, 0, 0, 0)).2.2.2 = owT b (T.take i)) ∧ ∀ e ∈ T, e.2.1 < L.length ∧ lR L e.2.1 = e.1
/-- the class's table, the reference's row -/
def IRc (c b : Nat) (T : List tEn) (s : iS) : Prop := TB 99 100 101 (nmsT F P t0 T) s ∧ (∀ i, i < T.length → s 104 i = ((T.getD i (0, 0, 0, 0)).2.1 : Nat) ∧ s 102 i = (T.getD i (0, 0, 0, 0)).2.2.1 ∧ s 103 i = ((T.getD i (0, 0, 0, 0)).2.2.2 : Nat)) ∧ s 93 (2 + c) = (owT b T : Int)
def IRr (c : Nat) (T : List tEn) (t : iS) : Prop := ∀ x, (hAt C Q R I c).2.2.2 ≤ x → x < (hAt C Q R I (c + 1)).2.2.2 → t 214 x = wOf F P t0 T (nmT F P t0 (I.getD x 0))
end CIg
section CIh
variable {F : Nat → Int} {n N : Nat} {P : Nat → Nat} {s0 t0 s t s' t' : iS} {C : List chR} {O E I : List Nat} {Q : List (Nat × Int)} {R L : List (Nat × Nat)} {c b i j k q r l : Nat} {Z : List Nat} {T : List tEn}
theorem nmsT_len : (nmsT F P t0 T).length = T.length := by unfold nmsT; rw [List.length_map]
theorem nmsT_at (hi : i < T.length) : (nmsT F P t0 T).getD i [] = nmT F P t0 (T.getD i (0, 0, 0, 0)).1 := by
  unfold nmsT
  rw [List.getD_eq_getElem?_getD, List.getElem?_map, List.getD_eq_getElem?_getD, List.getElem?_eq_getElem hi]
  rfl
theorem fnT_no {nm : List Int} : fnT F P t0 T nm = -1 ↔ ∀ e ∈ T, nmT F P t0 e.1 ≠ nm := by
  unfold fnT
  rw [fst1_no]
  constructor
  · intro z e he
    obtain ⟨i, hi, e1⟩ := List.getElem_of_mem he
    have := z i (Nat.zero_le _) (by omega)
    rw [nmsT_at hi, List.getD_eq_getElem?_getD, List.getElem?_eq_getElem hi] at this
    rw [← e1]
    exact this
  · intro z x _ hx
    rw [Nat.zero_add] at hx
    rw [nmsT_at hx]
    exact z _ (gd_mem hx)
theorem fnT_rg {nm : List Int} : fnT F P t0 T nm = -1 ∨ ∃ i : Nat, fnT F P t0 T nm = (i : Int) ∧ i < T.length ∧ nmT F P t0 (T.getD i (0, 0, 0, 0)).1 = nm := by
  rcases fst1_rg (P := fun i => (nmsT F P t0 T).getD i [] = nm) T.length 0 with z | ⟨z1, z2, z3⟩
  · exact Or.inl z
  · have z1' : ((0 : Nat) : Int) ≤ fnT F P t0 T nm := z1
    have z2' : fnT F P t0 T nm < ((0 + T.length : Nat) : Int) := z2
    have z3' : (nmsT F P t0 T).getD (fnT F P t0 T nm).toNat [] = nm := z3
    refine Or.inr ⟨(fnT F P t0 T nm).toNat, by omega, by omega, ?_⟩
    rw [nmsT_at (by omega)] at z3'
    exact z3'
theorem wOf_no {nm : List Int} : ∀ (T : List tEn), (∀ e ∈ T, nmT F P t0 e.1 ≠ nm) → wOf F P t0 T nm = 0
  | [], _ => rfl
  | e :: T, h => by
    show (if _ then _ else _) = _
    rw [if_neg (h e List.mem_cons_self)]
    exact wOf_no T (fun e he => h e (List.mem_cons_of_mem _ he))
theorem wOf_snoc {nm : List Int} {e : tEn} : ∀ (T : List tEn), wOf F P t0 (T ++ [e]) nm = if (∀ e ∈ T, nmT F P t0 e.1 ≠ nm) then (if nmT F P t0 e.1 = nm then e.2.2.1 else 0) else wOf F P t0 T nm
  | [] => by
    rw [if_pos (fun e he => by simp at he)]
    rfl
  | a :: T => by
    show (if nmT F P t0 a.1 = nm then a.2.2.1 else wOf F P t0 (T ++ [e]) nm) = _
    by_cases c : nmT F P t0 a.1 = nm
    · rw [if_pos c, if_neg (fun z => z a List.mem_cons_self c)]
      show _ = if nmT F P t0 a.1 = nm then a.2.2.1 else _
      rw [if_pos c]
    · rw [if_neg c, wOf_snoc T]
      by_cases d : ∀ e ∈ T, nmT F P t0 e.1 ≠ nm
      · rw [if_pos d, if_pos (fun x hx => by
          rcases List.mem_cons.mp hx with z | z
          · rw [z]; exact c
          · exact d x z)]
      · rw [if_neg d, if_neg (fun z => d (fun x hx => z x (List.mem_cons_of_mem _ hx)))]
        show _ = if nmT F P t0 a.1 = nm then a.2.2.1 else _
        rw [if_neg c]
theorem wOf_ne {nm : List Int} : ∀ (T : List tEn), (∀ e ∈ T, e.2.2.1 = -1 ∨ 1 ≤ e.2.2.1 ∧ e.2.2.1 ≤ 16) → (wOf F P t0 T nm = 0 ↔ ∀ e ∈ T, nmT F P t0 e.1 ≠ nm) ∧ (-1 ≤ wOf F P t0 T nm ∧ wOf F P t0 T nm ≤ 16)
  | [], _ => ⟨⟨fun _ e he => by simp at he, fun _ => rfl⟩, by show -1 ≤ (0 : Int) ∧ (0 : Int) ≤ 16; omega⟩
  | a :: T, h => by
    have ih := wOf_ne (nm := nm) T (fun e he => h e (List.mem_cons_of_mem _ he))
    have ha := h a List.mem_cons_self
    have ew : wOf F P t0 (a :: T) nm = if nmT F P t0 a.1 = nm then a.2.2.1 else wOf F P t0 T nm := rfl
    rw [ew]
    by_cases c : nmT F P t0 a.1 = nm
    · rw [if_pos c]
      exact ⟨⟨fun z => by omega, fun z => absurd c (z a List.mem_cons_self)⟩, by omega⟩
    · rw [if_neg c]
      refine ⟨⟨fun z e he => ?_, fun z => ih.1.mpr (fun e he => z e (List.mem_cons_of_mem _ he))⟩, ih.2⟩
      rcases List.mem_cons.mp he with y | y
      · rw [y]; exact c
      · exact ih.1.mp z e y
theorem owT_snoc {e : tEn} : owT b (T ++ [e]) = owT b T + e.2.2.1.toNat := by
  unfold owT
  rw [List.map_append, List.sum_append]
  simp
  omega
theorem owT_le (h : ∀ e ∈ T, e.2.2.1 = -1 ∨ 1 ≤ e.2.2.1 ∧ e.2.2.1 ≤ 16) : owT b T ≤ b + 16 * T.length := by
  unfold owT
  have : ∀ (T : List tEn), (∀ e ∈ T, e.2.2.1 = -1 ∨ 1 ≤ e.2.2.1 ∧ e.2.2.1 ≤ 16) → (T.map (fun e => e.2.2.1.toNat)).sum ≤ 16 * T.length := by
    intro T
    induction T with
    | nil => intro _; simp
    | cons a T ih =>
      intro h
      have := ih (fun e he => h e (List.mem_cons_of_mem _ he))
      have ha := h a List.mem_cons_self
      rw [List.map_cons, List.sum_cons, List.length_cons]
      omega
  have := this T h
  omega
/-- there is room for one name more -/
theorem TOK_len (hs : KHS F P s0 t0 N C O Q R L E I) (hc : c < C.length) (hT : TOK F P s0 t0 N C Q R L I c b T) : T.length ≤ 100 ∧ ∀ nm, fnT F P t0 T nm = -1 → (∃ x, (hAt C Q R I c).2.2.2 ≤ x ∧ x < (hAt C Q R I (c + 1)).2.2.2 ∧ nmT F P t0 (I.getD x 0) = nm) → T.length < 100 := by
  obtain ⟨-, -, -, -, -, ⟨i1, i2, i3⟩, -⟩ := KHS_c hs hc
  obtain ⟨J, hJ⟩ : ∃ J : List (List Int), J = (List.range' (hAt C Q R I c).2.2.2 ((hAt C Q R I (c + 1)).2.2.2 - (hAt C Q R I c).2.2.2)).map (fun x => nmT F P t0 (I.getD x 0)) := ⟨_, rfl⟩
  have lJ : J.length ≤ 100 := by
    rw [hJ, List.length_map, List.length_range']
    omega
  have mJ : ∀ x, (hAt C Q R I c).2.2.2 ≤ x → x < (hAt C Q R I (c + 1)).2.2.2 → nmT F P t0 (I.getD x 0) ∈ J := fun x h1 h2 => by
    rw [hJ]
    exact List.mem_map.mpr ⟨x, List.mem_range'_1.mpr ⟨h1, by omega⟩, rfl⟩
  have sub : ∀ w ∈ nmsT F P t0 T, w ∈ J := fun w hw => by
    obtain ⟨e, e1, e2⟩ := List.mem_map.mp hw
    obtain ⟨-, ⟨x, x1, x2, x3⟩, -⟩ := hT.1 e e1
    rw [← e2, ← x3]
    exact mJ x x1 x2
  have l1 := nodup_len _ _ hT.2.1 sub
  rw [nmsT_len] at l1
  refine ⟨by omega, fun nm hn ⟨x, x1, x2, x3⟩ => ?_⟩
  have nd : (nm :: nmsT F P t0 T).Nodup := List.nodup_cons.mpr ⟨fun z => by
    obtain ⟨e, e1, e2⟩ := List.mem_map.mp z
    exact fnT_no.mp hn e e1 e2, hT.2.1⟩
  have l2 := nodup_len (nm :: nmsT F P t0 T) J nd (fun w hw => by
    rcases List.mem_cons.mp hw with z | z
    · rw [z, ← x3]; exact mJ x x1 x2
    · exact sub w z)
  rw [List.length_cons, nmsT_len] at l2
  omega
/-- the right names of chip c that are no pins are inner names -/
theorem KHS_cv (hs : KHS F P s0 t0 N C O Q R L E I) (hc : c < C.length) (hr : (hAt C Q R I c).2.2.1 ≤ r ∧ r < (hAt C Q R I (c + 1)).2.2.1) (hl : (R.getD r (0, 0)).2 ≤ l ∧ l < E.getD r 0) (hk : s0 9 (lR L l) = 3) (hp : pfI F P t0 C Q R I (2 + c) (lR L l) = -1) : ∃ x, (hAt C Q R I c).2.2.2 ≤ x ∧ x < (hAt C Q R I (c + 1)).2.2.2 ∧ nmT F P t0 (I.getD x 0) = nmT F P t0 (lR L l) := by
  obtain ⟨-, -, -, -, p, -, -, -⟩ := KHS_c hs hc
  obtain ⟨-, -, -, g⟩ := p r hr.1 hr.2
  obtain ⟨-, g2⟩ := g l hl.1 hl.2
  have qe := (KHS_q hs (c := c + 1) (by omega)).1
  rcases g2 hk with ⟨k, k1, k2, k3⟩ | x
  · exfalso
    unfold pfI at hp
    rw [fst1_no] at hp
    obtain ⟨p1, p2⟩ := paI_c (Q := Q) (R := R) (I := I) hc
    rw [p1, p2] at hp
    have := hp (5 + k) (by omega) (by omega)
    rw [tabP_at (by omega)] at this
    exact this k3
  · exact x
theorem gtT_ok (hs : KHS F P s0 t0 N C O Q R L E I) (hc : c < C.length) (hr : (hAt C Q R I c).2.2.1 ≤ r ∧ r < (hAt C Q R I (c + 1)).2.2.1) (hl : (R.getD r (0, 0)).2 ≤ l ∧ l < E.getD r 0) (h : TKR 1 F n N P s0 t0) (hT : TOK F P s0 t0 N C Q R L I c b T) : TOK F P s0 t0 N C Q R L I c b (gtT F P s0 t0 C O Q R L I c b i l T) := by
  unfold gtT
  obtain ⟨-, -, -, -, p, -, -, -⟩ := KHS_c hs hc
  obtain ⟨-, -, le, g⟩ := p r hr.1 hr.2
  obtain ⟨lo, -⟩ := g l hl.1 hl.2
  by_cases z : gvT F P s0 t0 C O Q R L I c i l ∧ fnT F P t0 T (nmT F P t0 (lR L l)) = -1
  · rw [if_pos z]
    obtain ⟨⟨z1, z2, z3, z4⟩, z5⟩ := z
    obtain ⟨t1, t2, t3, t4⟩ := hT
    refine ⟨fun e he => ?_, ?_, fun x hx => ?_, fun e he => ?_⟩
    · rcases List.mem_append.mp he with y | y
      · exact t1 e y
      · rw [List.mem_singleton.mp y]
        refine ⟨⟨⟨by have := lo.2.2.2.1; show (L.getD l (0, 0)).2 < N; omega, z3⟩, z4⟩, KHS_cv hs hc hr hl z3 z4, ?_⟩
        have := (lo_rg h lo.2.2.1 (pwI_rg (s0 := s0) (Q := Q) (k := (pfI F P t0 C Q R I i (lL L l)).toNat))).2.2
        show rwB s0 (lL L l) _ = -1 ∨ _
        rcases this with y | y
        · exact Or.inl y
        · exact Or.inr ⟨y.1, y.2.1⟩
    · unfold nmsT at t2 ⊢
      rw [List.map_append, List.map_singleton]
      rw [List.nodup_append]
      refine ⟨t2, by simp, fun a ha b' hb' => ?_⟩
      rw [List.mem_singleton.mp hb']
      obtain ⟨e, e1, e2⟩ := List.mem_map.mp ha
      rw [← e2]
      exact fnT_no.mp z5 e e1
    · rw [List.length_append, List.length_singleton] at hx
      by_cases y : x < T.length
      · rw [gdL y, List.take_append_of_le_length (by omega)]
        exact t3 x y
      · have : x = T.length := by omega
        subst this
        rw [gd_end, List.take_left']
        rfl
    · rcases List.mem_append.mp he with y | y
      · exact t4 e y
      · rw [List.mem_singleton.mp y]
        exact ⟨by show l < L.length; omega, rfl⟩
  · rw [if_neg z]
    exact hT
end CIh
