/-! chips: places of inner names in both -/
section CMb
variable (F : Nat → Int) (P : Nat → Nat) (s0 t0 : iS) (C : List chR) (O : List Nat) (Q : List (Nat × Int)) (R L : List (Nat × Nat)) (E I : List Nat)
/-- the bits of chip c's pins; the places of the inner names: the class's, the reference's -/
def bCh (c : Nat) : Nat := ofI s0 C Q R I (2 + c) (paI C Q R I (2 + c + 1))
noncomputable def plM (c m : Nat) : Nat := owT (bCh s0 C Q R I c) ((tbI F P s0 t0 C O Q R L E I c).take m)
noncomputable def iwX (c x : Nat) : Nat := (wOf F P t0 (tbI F P s0 t0 C O Q R L E I c) (nmT F P t0 (I.getD x 0))).toNat
noncomputable def rpX (c x : Nat) : Nat := bCh s0 C Q R I c + sW (iwX F P s0 t0 C O Q R L E I c) (hAt C Q R I c).2.2.2 (x - (hAt C Q R I c).2.2.2)
noncomputable def xIn (c m : Nat) : Nat := (fst1 (fun x => nmT F P t0 (I.getD x 0) = nmT F P t0 ((tbI F P s0 t0 C O Q R L E I c).getD m (0, 0, 0, 0)).1) (hAt C Q R I c).2.2.2 ((hAt C Q R I (c + 1)).2.2.2 - (hAt C Q R I c).2.2.2)).toNat
noncomputable def phT (c j : Nat) : Nat := @dite _ (∃ m, m < (tbI F P s0 t0 C O Q R L E I c).length ∧ plM F P s0 t0 C O Q R L E I c m ≤ j ∧ j < plM F P s0 t0 C O Q R L E I c (m + 1)) (Classical.propDecidable _) (fun h => rpX F P s0 t0 C O Q R L E I c (xIn F P s0 t0 C O Q R L E I c h.choose) + (j - plM F P s0 t0 C O Q R L E I c h.choose)) (fun _ => j)
end CMb
section CMc
variable {F : Nat → Int} {n N : Nat} {P : Nat → Nat} {s0 t0 s t s' t' : iS} {C : List chR} {O E I : List Nat} {Q : List (Nat × Int)} {R L : List (Nat × Nat)} {c b i j k q r l m : Nat}
theorem tb_TOK (h : TKH F n N P s0 t0) (hs : KHS F P s0 t0 N C O Q R L E I) (hcl : c < C.length) : TOK F P s0 t0 N C Q R L I c (bCh s0 C Q R I c) (tbI F P s0 t0 C O Q R L E I c) := by
  have mm := (KHS_m hs 1 c (by omega)).2.1
  exact gtR_TOK h.1 hs hcl _ (by omega)
theorem plM_s {e : Nat} (hm : m < (tbI F P s0 t0 C O Q R L E I c).length) (he : e = ((tbI F P s0 t0 C O Q R L E I c).getD m (0, 0, 0, 0)).2.2.1.toNat) : plM F P s0 t0 C O Q R L E I c (m + 1) = plM F P s0 t0 C O Q R L E I c m + e := by
  unfold plM owT
  rw [List.take_succ, List.getElem?_eq_getElem hm, List.map_append, List.sum_append]
  have : (tbI F P s0 t0 C O Q R L E I c).getD m (0, 0, 0, 0) = (tbI F P s0 t0 C O Q R L E I c)[m] := by rw [List.getD_eq_getElem?_getD, List.getElem?_eq_getElem hm]; rfl
  rw [he, this]
  simp
  omega
theorem plM_0 : plM F P s0 t0 C O Q R L E I c 0 = bCh s0 C Q R I c := rfl
theorem plM_e : plM F P s0 t0 C O Q R L E I c (tbI F P s0 t0 C O Q R L E I c).length = owT (bCh s0 C Q R I c) (tbI F P s0 t0 C O Q R L E I c) := by
  unfold plM
  rw [List.take_length]
theorem plM_m : ∀ d m, m + d ≤ (tbI F P s0 t0 C O Q R L E I c).length → plM F P s0 t0 C O Q R L E I c m ≤ plM F P s0 t0 C O Q R L E I c (m + d)
  | 0, m, _ => Nat.le_refl _
  | d + 1, m, h => by
    have := plM_m d m (by omega)
    have e := plM_s (m := m + d) (F := F) (P := P) (s0 := s0) (t0 := t0) (C := C) (O := O) (Q := Q) (R := R) (L := L) (E := E) (I := I) (c := c) (by omega) rfl
    rw [← Nat.add_assoc]
    omega
/-- an inner name in both -/
theorem ent_f (h : TKH F n N P s0 t0) (hs : KHS F P s0 t0 N C O Q R L E I) (hL : LKA F P s0 t0 C O Q R L E I C.length s) (hcl : c < C.length) (hm : m < (tbI F P s0 t0 C O Q R L E I c).length) : ((hAt C Q R I c).2.2.2 ≤ xIn F P s0 t0 C O Q R L E I c m ∧ xIn F P s0 t0 C O Q R L E I c m < (hAt C Q R I (c + 1)).2.2.2 ∧ nmT F P t0 (I.getD (xIn F P s0 t0 C O Q R L E I c m) 0) = nmT F P t0 ((tbI F P s0 t0 C O Q R L E I c).getD m (0, 0, 0, 0)).1) ∧ ∃ w : Nat, ((tbI F P s0 t0 C O Q R L E I c).getD m (0, 0, 0, 0)).2.2.1 = (w : Int) ∧ (1 ≤ w ∧ w ≤ 16) ∧ ((tbI F P s0 t0 C O Q R L E I c).getD m (0, 0, 0, 0)).2.2.2 = plM F P s0 t0 C O Q R L E I c m ∧ plM F P s0 t0 C O Q R L E I c (m + 1) = plM F P s0 t0 C O Q R L E I c m + w ∧ rpX F P s0 t0 C O Q R L E I c (xIn F P s0 t0 C O Q R L E I c m + 1) = rpX F P s0 t0 C O Q R L E I c (xIn F P s0 t0 C O Q R L E I c m) + w ∧ ∃ r', ((hAt C Q R I c).2.2.1 ≤ r' ∧ r' < (hAt C Q R I (c + 1)).2.2.1) ∧ ((R.getD r' (0, 0)).2 ≤ ((tbI F P s0 t0 C O Q R L E I c).getD m (0, 0, 0, 0)).2.1 ∧ ((tbI F P s0 t0 C O Q R L E I c).getD m (0, 0, 0, 0)).2.1 < E.getD r' 0) ∧ (w : Int) = wLl F P s0 t0 C Q R L I (cix F P t0 C (R.getD r' (0, 0)).1).toNat ((tbI F P s0 t0 C O Q R L E I c).getD m (0, 0, 0, 0)).2.1 := by
  have hT := tb_TOK h hs hcl
  have hm0 := hm
  have mm := (KHS_m hs 1 c (by omega)).2.1
  have rq := (KHS_q hs (c := c + 1) (by omega)).2.1
  have im := (KHS_m hs 1 c (by omega)).2.2
  obtain ⟨e, he⟩ : ∃ e, e = (tbI F P s0 t0 C O Q R L E I c).getD m (0, 0, 0, 0) := ⟨_, rfl⟩
  have eT : e ∈ tbI F P s0 t0 C O Q R L E I c := he ▸ gd_mem hm
  obtain ⟨-, ⟨x0, q1, q2, q3⟩, -⟩ := hT.1 e eT
  have xr : (hAt C Q R I c).2.2.2 ≤ xIn F P s0 t0 C O Q R L E I c m ∧ xIn F P s0 t0 C O Q R L E I c m < (hAt C Q R I (c + 1)).2.2.2 ∧ nmT F P t0 (I.getD (xIn F P s0 t0 C O Q R L E I c m) 0) = nmT F P t0 e.1 := by
    unfold xIn
    rw [← he]
    rcases fst1_rg (P := fun x => nmT F P t0 (I.getD x 0) = nmT F P t0 e.1) ((hAt C Q R I (c + 1)).2.2.2 - (hAt C Q R I c).2.2.2) (hAt C Q R I c).2.2.2 with z | ⟨z1, z2, z3⟩
    · rw [fst1_no] at z
      exact absurd q3 (z x0 q1 (by omega))
    · exact ⟨by omega, by omega, z3⟩
  obtain ⟨r', g1, g2, g3, g4, g5⟩ := gtR_w hs _ (show (hAt C Q R I c).2.2.1 + ((hAt C Q R I (c + 1)).2.2.1 - (hAt C Q R I c).2.2.1) ≤ R.length by omega) e eT
  have rr : (hAt C Q R I c).2.2.1 ≤ r' ∧ r' < (hAt C Q R I (c + 1)).2.2.1 := by omega
  obtain ⟨ne, hl⟩ := hL c hcl r' rr.1 rr.2
  obtain ⟨-, mi, mo, hx⟩ := hl e.2.1 g1 g2
  have ir : (cix F P t0 C (R.getD r' (0, 0)).1).toNat < 2 + C.length := by
    rcases cix_rg (j := (R.getD r' (0, 0)).1) hs with z | ⟨i, z1, z2⟩
    · exact absurd z ne
    · omega
  obtain ⟨k, w, f1, f2, f3, f4, -⟩ := lnk_f h hs hcl rr ⟨g1, g2⟩ ir hx
  have ew : e.2.2.1 = (w : Int) := by rw [g5, f3]
  have pl : e.2.2.2 = plM F P s0 t0 C O Q R L E I c m := by rw [he]; exact hT.2.2.1 m hm
  have nm := (ent_of (F := F) (P := P) (t0 := t0) (nm := nmT F P t0 e.1) _ hT.2.1 eT rfl).2
  rw [← he]
  refine ⟨xr, w, ew, f4, pl, plM_s hm (by rw [← he, ew]; rfl), ?_, r', rr, ⟨g1, g2⟩, by rw [← ew, g5]⟩
  unfold rpX
  rw [show xIn F P s0 t0 C O Q R L E I c m + 1 - (hAt C Q R I c).2.2.2 = xIn F P s0 t0 C O Q R L E I c m - (hAt C Q R I c).2.2.2 + 1 by omega, sW_s, show (hAt C Q R I c).2.2.2 + (xIn F P s0 t0 C O Q R L E I c m - (hAt C Q R I c).2.2.2) = xIn F P s0 t0 C O Q R L E I c m by omega]
  have : iwX F P s0 t0 C O Q R L E I c (xIn F P s0 t0 C O Q R L E I c m) = w := by
    unfold iwX
    rw [xr.2.2, nm, ew]
    rfl
  omega
theorem rpX_m {x y : Nat} (h1 : (hAt C Q R I c).2.2.2 ≤ x) (h2 : x ≤ y) : rpX F P s0 t0 C O Q R L E I c x ≤ rpX F P s0 t0 C O Q R L E I c y := by
  unfold rpX
  have := sW_mono (f := iwX F P s0 t0 C O Q R L E I c) (a := (hAt C Q R I c).2.2.2) (y - x) (x - (hAt C Q R I c).2.2.2)
  rw [show x - (hAt C Q R I c).2.2.2 + (y - x) = y - (hAt C Q R I c).2.2.2 by omega] at this
  omega
theorem rpX_e (h : TKH F n N P s0 t0) (hs : KHS F P s0 t0 N C O Q R L E I) (hcl : c < C.length) : rpX F P s0 t0 C O Q R L E I c (hAt C Q R I (c + 1)).2.2.2 = owT (bCh s0 C Q R I c) (tbI F P s0 t0 C O Q R L E I c) := by
  have hT := tb_TOK h hs hcl
  have im := (KHS_m hs 1 c (by omega)).2.2
  obtain ⟨-, -, -, -, -, -, -, i5⟩ := KHS_c hs hcl
  unfold rpX owT
  rw [show sW (iwX F P s0 t0 C O Q R L E I c) (hAt C Q R I c).2.2.2 ((hAt C Q R I (c + 1)).2.2.2 - (hAt C Q R I c).2.2.2) = ((tbI F P s0 t0 C O Q R L E I c).map (fun e => e.2.2.1.toNat)).sum from wSum (F := F) (P := P) (t0 := t0) (nm := fun x => nmT F P t0 (I.getD x 0)) (fun x y x1 x2 x3 => i5 x y x1 x2 (by omega)) _ hT.2.1 (fun e he => by
    obtain ⟨-, ⟨x0, q1, q2, q3⟩, -⟩ := hT.1 e he
    exact ⟨x0, q1, by omega, q3⟩)]
/-- a place of an inner name -/
theorem phT_i (h : TKH F n N P s0 t0) (hs : KHS F P s0 t0 N C O Q R L E I) (hL : LKA F P s0 t0 C O Q R L E I C.length s) (hcl : c < C.length) (hm : m < (tbI F P s0 t0 C O Q R L E I c).length) (h1 : plM F P s0 t0 C O Q R L E I c m ≤ j) (h2 : j < plM F P s0 t0 C O Q R L E I c (m + 1)) : phT F P s0 t0 C O Q R L E I c j = rpX F P s0 t0 C O Q R L E I c (xIn F P s0 t0 C O Q R L E I c m) + (j - plM F P s0 t0 C O Q R L E I c m) := by
  have ex : ∃ m, m < (tbI F P s0 t0 C O Q R L E I c).length ∧ plM F P s0 t0 C O Q R L E I c m ≤ j ∧ j < plM F P s0 t0 C O Q R L E I c (m + 1) := ⟨m, hm, h1, h2⟩
  unfold phT
  rw [dif_pos ex]
  obtain ⟨c1, c2, c3⟩ := ex.choose_spec
  have e : ex.choose = m := by
    rcases Nat.lt_trichotomy ex.choose m with z | z | z
    · have := plM_m (F := F) (P := P) (s0 := s0) (t0 := t0) (C := C) (O := O) (Q := Q) (R := R) (L := L) (E := E) (I := I) (c := c) (m - (ex.choose + 1)) (ex.choose + 1) (by omega)
      rw [show ex.choose + 1 + (m - (ex.choose + 1)) = m by omega] at this
      omega
    · exact z
    · have := plM_m (F := F) (P := P) (s0 := s0) (t0 := t0) (C := C) (O := O) (Q := Q) (R := R) (L := L) (E := E) (I := I) (c := c) (ex.choose - (m + 1)) (m + 1) (by omega)
      rw [show m + 1 + (ex.choose - (m + 1)) = ex.choose by omega] at this
      omega
  rw [e]
theorem phT_p (hj : j < bCh s0 C Q R I c) : phT F P s0 t0 C O Q R L E I c j = j := by
  unfold phT
  rw [dif_neg]
  rintro ⟨m, m1, m2, m3⟩
  have := plM_m (F := F) (P := P) (s0 := s0) (t0 := t0) (C := C) (O := O) (Q := Q) (R := R) (L := L) (E := E) (I := I) (c := c) m 0 (by omega)
  rw [Nat.zero_add, plM_0] at this
  omega
/-- each place is of a pin or of an inner name -/
theorem pl_cs (hj : j < owT (bCh s0 C Q R I c) (tbI F P s0 t0 C O Q R L E I c)) (hb : bCh s0 C Q R I c ≤ j) : ∃ m, m < (tbI F P s0 t0 C O Q R L E I c).length ∧ plM F P s0 t0 C O Q R L E I c m ≤ j ∧ j < plM F P s0 t0 C O Q R L E I c (m + 1) := by
  rw [← plM_e] at hj
  exact find_k (F := fun m => plM F P s0 t0 C O Q R L E I c m) _ (by show plM F P s0 t0 C O Q R L E I c 0 ≤ j; rw [plM_0]; exact hb) hj
theorem phT_lt (h : TKH F n N P s0 t0) (hs : KHS F P s0 t0 N C O Q R L E I) (hL : LKA F P s0 t0 C O Q R L E I C.length s) (hcl : c < C.length) (hj : j < owT (bCh s0 C Q R I c) (tbI F P s0 t0 C O Q R L E I c)) : phT F P s0 t0 C O Q R L E I c j < owT (bCh s0 C Q R I c) (tbI F P s0 t0 C O Q R L E I c) ∧ (bCh s0 C Q R I c ≤ j → bCh s0 C Q R I c ≤ phT F P s0 t0 C O Q R L E I c j) := by
  by_cases z : j < bCh s0 C Q R I c
  · rw [phT_p z]
    exact ⟨hj, fun q => by omega⟩
  · obtain ⟨m, m1, m2, m3⟩ := pl_cs hj (by omega)
    obtain ⟨⟨x1, x2, x3⟩, w, e1, e2, e3, e4, e5, -⟩ := ent_f h hs hL hcl m1
    rw [phT_i h hs hL hcl m1 m2 m3]
    have a := rpX_m (F := F) (P := P) (s0 := s0) (t0 := t0) (O := O) (L := L) (E := E) (c := c) (C := C) (Q := Q) (R := R) (I := I) (x := xIn F P s0 t0 C O Q R L E I c m + 1) (y := (hAt C Q R I (c + 1)).2.2.2) (by omega) (by omega)
    rw [rpX_e h hs hcl] at a
    have b : bCh s0 C Q R I c ≤ rpX F P s0 t0 C O Q R L E I c (xIn F P s0 t0 C O Q R L E I c m) := by unfold rpX; omega
    omega
theorem phT_inj (h : TKH F n N P s0 t0) (hs : KHS F P s0 t0 N C O Q R L E I) (hL : LKA F P s0 t0 C O Q R L E I C.length s) (hcl : c < C.length) (hi : i < owT (bCh s0 C Q R I c) (tbI F P s0 t0 C O Q R L E I c)) (hj : j < owT (bCh s0 C Q R I c) (tbI F P s0 t0 C O Q R L E I c)) (e : phT F P s0 t0 C O Q R L E I c i = phT F P s0 t0 C O Q R L E I c j) : i = j := by
  have hT := tb_TOK h hs hcl
  by_cases z1 : i < bCh s0 C Q R I c
  · by_cases z2 : j < bCh s0 C Q R I c
    · rw [phT_p z1, phT_p z2] at e
      exact e
    · have := (phT_lt h hs hL hcl hj).2 (by omega)
      rw [phT_p z1] at e
      omega
  · by_cases z2 : j < bCh s0 C Q R I c
    · have := (phT_lt h hs hL hcl hi).2 (by omega)
      rw [phT_p z2] at e
      omega
    · obtain ⟨m, m1, m2, m3⟩ := pl_cs hi (by omega)
      obtain ⟨⟨x1, x2, x3⟩, w, e1, e2, e3, e4, e5, -⟩ := ent_f h hs hL hcl m1
      obtain ⟨m', m1', m2', m3'⟩ := pl_cs hj (by omega)
      obtain ⟨⟨x1', x2', x3'⟩, w', e1', e2', e3', e4', e5', -⟩ := ent_f h hs hL hcl m1'
      rw [phT_i h hs hL hcl m1 m2 m3, phT_i h hs hL hcl m1' m2' m3'] at e
      have xx : xIn F P s0 t0 C O Q R L E I c m = xIn F P s0 t0 C O Q R L E I c m' := by
        rcases Nat.lt_trichotomy (xIn F P s0 t0 C O Q R L E I c m) (xIn F P s0 t0 C O Q R L E I c m') with y | y | y
        · have := rpX_m (F := F) (P := P) (s0 := s0) (t0 := t0) (O := O) (L := L) (E := E) (c := c) (C := C) (Q := Q) (R := R) (I := I) (x := xIn F P s0 t0 C O Q R L E I c m + 1) (y := xIn F P s0 t0 C O Q R L E I c m') (by omega) (by omega)
          omega
        · exact y
        · have := rpX_m (F := F) (P := P) (s0 := s0) (t0 := t0) (O := O) (L := L) (E := E) (c := c) (C := C) (Q := Q) (R := R) (I := I) (x := xIn F P s0 t0 C O Q R L E I c m' + 1) (y := xIn F P s0 t0 C O Q R L E I c m) (by omega) (by omega)
          omega
      have nn : nmT F P t0 ((tbI F P s0 t0 C O Q R L E I c).getD m (0, 0, 0, 0)).1 = nmT F P t0 ((tbI F P s0 t0 C O Q R L E I c).getD m' (0, 0, 0, 0)).1 := by rw [← x3, ← x3', xx]
      have mm : m = m' := by
        have nd := hT.2.1
        have a := nmsT_at (F := F) (P := P) (t0 := t0) m1
        have b := nmsT_at (F := F) (P := P) (t0 := t0) m1'
        have l1 : m < (nmsT F P t0 (tbI F P s0 t0 C O Q R L E I c)).length := by rw [nmsT_len]; exact m1
        have l2 : m' < (nmsT F P t0 (tbI F P s0 t0 C O Q R L E I c)).length := by rw [nmsT_len]; exact m1'
        rw [List.getD_eq_getElem?_getD, List.getElem?_eq_getElem l1] at a
        rw [List.getD_eq_getElem?_getD, List.getElem?_eq_getElem l2] at b
        have a' : (nmsT F P t0 (tbI F P s0 t0 C O Q R L E I c))[m] = _ := a
        have b' : (nmsT F P t0 (tbI F P s0 t0 C O Q R L E I c))[m'] = _ := b
        have pw := List.pairwise_iff_getElem.mp nd
        rcases Nat.lt_trichotomy m m' with y | y | y
        · exact absurd (by rw [a', b', nn]) (pw m m' l1 l2 y)
        · exact y
        · exact absurd (by rw [a', b', nn]) (pw m' m l2 l1 y)
      subst mm
      omega
end CMc
