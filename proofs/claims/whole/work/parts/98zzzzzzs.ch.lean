/-! chips: inner names are gathered by both -/
section CIi
variable {F : Nat → Int} {n N : Nat} {P : Nat → Nat} {s0 t0 s t s' t' : iS} {C : List chR} {O E I : List Nat} {Q : List (Nat × Int)} {R L : List (Nat × Nat)} {c b i j k q r l : Nat} {Z : List Nat} {T : List tEn}
theorem IRc_of (h : IRc F P t0 c b T s) (hs : ∀ c' k, 99 ≤ c' ∧ c' ≤ 104 ∨ c' = 93 ∧ k = 2 + c → s' c' k = s c' k) : IRc F P t0 c b T s' := ⟨TB_of h.1 (funext fun k => hs 99 k (by omega)) (funext fun k => hs 100 k (by omega)) (funext fun k => hs 101 k (by omega)), fun i hi => by rw [hs 104 i (by omega), hs 102 i (by omega), hs 103 i (by omega)]; exact h.2.1 i hi, by rw [hs 93 _ (by omega)]; exact h.2.2⟩
theorem c_in (h : TKR 1 F n N P s0 t0) (hS : SC s0 s) (hT : ∀ e ∈ T, e.1 < N ∧ s0 9 e.1 = 3) (hl : T.length ≤ 100) (hi : TB 99 100 101 (nmsT F P t0 T) s) (hj : j < N ∧ s0 9 j = 3) : cck_findInner (j : Int) s = some (fnT F P t0 T (nmT F P t0 j), s) := by
  have gT : ∀ w ∈ nmsT F P t0 T, gw w := fun w hw => by
    obtain ⟨x, x1, x2⟩ := List.mem_map.mp hw
    rw [← x2]
    exact (tkN h (hT x x1).1 (hT x x1).2).1
  have fi := cFi (c := 99) (a := 100) (b := 101) (M := 100) (f := 0) (e := 100) h hS hj.1 hj.2 hi gT (by omega) (by rw [nmsT_len]; exact hl) (by omega) (by omega)
  rw [nmsT_len, show min 100 T.length - 0 = T.length by omega] at fi
  unfold cck_findInner
  have fi' : tok_findIn 99 100 101 100 (j : Int) 0 100 s = _ := fi
  rw [fi', bq]
  rfl
/-- the class: one link -/
theorem c_gat1 (h : TKR 1 F n N P s0 t0) (hs : KHS F P s0 t0 N C O Q R L E I) (hc : KC F P s0 t0 C O Q R L E s) (hw : KW s0 C Q R I Q.length s) (hcl : c < C.length) (hr : (hAt C Q R I c).2.2.1 ≤ r ∧ r < (hAt C Q R I (c + 1)).2.2.1) (hl : (R.getD r (0, 0)).2 ≤ l ∧ l < E.getD r 0) (hi : i < 2 + C.length) (hT : TOK F P s0 t0 N C Q R L I c b T) (hb : b ≤ 1000) (hI : IRc F P t0 c b T s) : ∃ s', cck_gatherFrom ((2 + c : Nat) : Int) (i : Int) (l : Int) s = some (0, s') ∧ IRc F P t0 c b (gtT F P s0 t0 C O Q R L I c b i l T) s' ∧ (∀ c' k, ¬ (99 ≤ c' ∧ c' ≤ 104) → ¬ (c' = 93 ∧ k = 2 + c) → s' c' k = s c' k) := by
  have hN := N2001 h
  have bd' := KHS_bd hs
  obtain ⟨-, -, -, -, p, -, -, -⟩ := KHS_c hs hcl
  obtain ⟨-, -, le, g⟩ := p r hr.1 hr.2
  obtain ⟨⟨lo1, lo2, lo3, lo4, lo5⟩, -⟩ := g l hl.1 hl.2
  obtain ⟨tl, tl2⟩ := TOK_len hs hcl hT
  have lx : l < L.length := by omega
  have e85 : s 85 l = (lL L l : Int) := (hc.2.1.2.2.2.2.2 l lx).1
  have e86 : s 86 l = (lR L l : Int) := (hc.2.1.2.2.2.2.2 l lx).2
  have lLd : (L.getD l (0, 0)).1 = lL L l := rfl
  have lRd : (L.getD l (0, 0)).2 = lR L l := rfl
  rw [lLd] at lo1 lo2 lo3
  rw [lRd] at lo4 lo5
  have no : gtT F P s0 t0 C O Q R L I c b i l T = T → ∀ x : Int, cck_gatherFrom_60 ((2 + c : Nat) : Int) (l : Int) x (lR L l : Int) s = some (0, s) ∧ IRc F P t0 c b (gtT F P s0 t0 C O Q R L I c b i l T) s := fun e x => by
    rw [e]
    refine ⟨?_, hI⟩
    unfold cck_gatherFrom_60 cck_gatherFrom_61
    rw [gr (by omega), if_pos rfl]
  unfold cck_gatherFrom
  rw [gd_pos (by omega), Int.toNat_natCast, e85, c_pin h hs hc ⟨lo1, lo2⟩ hi, bq, e86]
  rcases pfI_rg (j := lL L l) hs hi with z | ⟨k, z1, z2, z3, z4⟩
  · have nt : gtT F P s0 t0 C O Q R L I c b i l T = T := by unfold gtT; rw [if_neg (fun y => y.1.1 z)]
    rw [z, gr (by omega), if_pos rfl, (no nt (-1)).1]
    exact ⟨s, rfl, (no nt (-1)).2, fun _ _ _ _ => rfl⟩
  rw [z1, gr (by omega), if_neg (by omega), c_out hs hc hi (by omega), bq]
  by_cases co : k < ooI O i
  · have nt : gtT F P s0 t0 C O Q R L I c b i l T = T := by unfold gtT; rw [if_neg (fun y => by have := y.1.2.1; rw [z1] at this; omega)]
    rw [if_pos co, gr (by omega), if_pos rfl, (no nt _).1]
    exact ⟨s, rfl, (no nt 0).2, fun _ _ _ _ => rfl⟩
  have kr := kRg h (show lR L l < N by omega)
  rw [if_neg co, gr (by omega), if_neg (by omega), cKo h hc.1 (by omega), bq, gr (by omega)]
  by_cases c3 : s0 9 (lR L l) = 3
  case neg =>
    have nt : gtT F P s0 t0 C O Q R L I c b i l T = T := by unfold gtT; rw [if_neg (fun y => c3 y.1.2.2.1)]
    rw [if_neg c3, (no nt _).1]
    exact ⟨s, rfl, (no nt 0).2, fun _ _ _ _ => rfl⟩
  rw [if_pos c3]
  unfold cck_gatherFrom_61
  have e99 : s 99 2 = (T.length : Int) := by rw [hI.1.1, nmsT_len]
  rw [gr (by omega), if_neg (by omega), e99, gr (by omega)]
  have hT1 : ∀ e ∈ T, e.1 < N ∧ s0 9 e.1 = 3 := fun e he => (hT.1 e he).1.1
  -- a name that is new
  by_cases new : pfI F P t0 C Q R I (2 + c) (lR L l) = -1 ∧ fnT F P t0 T (nmT F P t0 (lR L l)) = -1
  case neg =>
    have nt : gtT F P s0 t0 C O Q R L I c b i l T = T := by unfold gtT; rw [if_neg (fun y => new ⟨y.1.2.2.2, y.2⟩)]
    rw [nt]
    by_cases f1 : (100 : Int) ≤ (T.length : Int)
    · rw [if_pos f1]
      exact ⟨s, rfl, hI, fun _ _ _ _ => rfl⟩
    · rw [if_neg f1, c_pin h hs hc ⟨by omega, c3⟩ (show 2 + c < 2 + C.length by omega), bq]
      rcases pfI_rg (j := lR L l) hs (show 2 + c < 2 + C.length by omega) with y | ⟨k', y1, y2, y3, y4⟩
      · rw [y, gr (by omega), if_pos rfl, c_in h hc.1 hT1 tl hI.1 ⟨by omega, c3⟩, bq]
        rcases fnT_rg (F := F) (P := P) (t0 := t0) (T := T) (nm := nmT F P t0 (lR L l)) with w | ⟨x, w1, w2, -⟩
        · exact absurd ⟨y, w⟩ new
        · rw [w1, gr (by omega), if_neg (by omega)]
          exact ⟨s, rfl, hI, fun _ _ _ _ => rfl⟩
      · rw [y1, gr (by omega), if_neg (by omega)]
        exact ⟨s, rfl, hI, fun _ _ _ _ => rfl⟩
  have t100 := tl2 _ new.2 (KHS_cv hs hcl hr hl c3 new.1)
  obtain ⟨wd, hwd⟩ : ∃ wd, wd = rwB s0 (lL L l) (pwI s0 Q k) := ⟨_, rfl⟩
  have ey : gtT F P s0 t0 C O Q R L I c b i l T = T ++ [(lR L l, l, wd, owT b T)] := by
    unfold gtT
    rw [if_pos ⟨⟨by rw [z1]; omega, by rw [z1]; omega, c3, new.1⟩, new.2⟩, z1, Int.toNat_natCast, hwd]
  rw [if_neg (by omega), c_pin h hs hc ⟨by omega, c3⟩ (show 2 + c < 2 + C.length by omega), bq, new.1, gr (by omega), if_pos rfl, c_in h hc.1 hT1 tl hI.1 ⟨by omega, c3⟩, bq, new.2, gr (by omega), if_pos rfl, gd_pos (by omega)]
  obtain ⟨ad1, ad2⟩ := cAdc (c := 99) (a := 100) (b' := 101) (M := 100) h hc.1 (show lR L l < N by omega) c3 hI.1 (by omega) (by rw [nmsT_len]; exact t100) ⟨by omega, by omega, by omega⟩
  rw [nmsT_len] at ad1 ad2
  obtain ⟨sa, hsa⟩ : ∃ sa, sa = nmad s 99 100 101 T.length (nmT F P t0 (lR L l)) := ⟨_, rfl⟩
  rw [← hsa] at ad1 ad2
  have fsa : ∀ c k, c ≠ 99 → c ≠ 100 → c ≠ 101 → sa c k = s c k := fun c k y1 y2 y3 => by rw [hsa, nmad_ne (by omega) (by omega) (by omega)]
  have ow := owT_le (b := b) (T := T) (fun e he => (hT.1 e he).2.2)
  have e93 : s 93 (2 + c) = (owT b T : Int) := hI.2.2
  obtain ⟨sb, hsb⟩ : ∃ sb, sb = up (up sa 104 T.length (l : Int)) 103 T.length (owT b T : Int) := ⟨_, rfl⟩
  have fsb : ∀ c k, ¬ (99 ≤ c ∧ c ≤ 104) → sb c k = s c k := fun c k y => by rw [hsb, up_ne (by omega), up_ne (by omega), fsa c k (by omega) (by omega) (by omega)]
  have hcb : KC F P s0 t0 C O Q R L E sb := KC_of hc (fun c k y => fsb c k (by omega))
  have w91 : sb 91 k = pwI s0 Q k := by
    rw [fsb 91 k (by omega)]
    have := paI_m hs hi
    exact hw.1 k (by omega)
  have pr := pwI_rg (s0 := s0) (Q := Q) (k := k)
  obtain ⟨lr1, lr2, lr3⟩ := lo_rg h lo3 pr
  rw [← hwd] at lr3
  obtain ⟨sc, hsc⟩ : ∃ sc, sc = up sb 102 T.length wd := ⟨_, rfl⟩
  have mx : mth_max 0 wd sc = some ((wd.toNat : Int), sc) := by
    have e : (if (0 : Int) < wd then wd else 0) = (wd.toNat : Int) := by split <;> omega
    rw [max_ok (by decide) ⟨by omega, by omega⟩, e]
  have sc93 : sc 93 (2 + c) = (owT b T : Int) := by rw [hsc, up_ne (by omega), fsb 93 _ (by omega)]; exact e93
  rw [ad1, bq, gd_pos (by omega), Int.toNat_natCast, Int.toNat_natCast, lt_eq, gd_pos (by omega), Int.toNat_natCast, up_ne (show ¬ (93 = 104 ∧ _) by omega), fsa 93 _ (by omega) (by omega) (by omega), e93, lt_eq, ← hsb, e85, c_low h hcb.1 lo3, bq, gd_pos (by omega), Int.toNat_natCast, w91, c_high h hcb.1 lo3, bq, w91, c_rw h lo3 pr, bq, ← hwd, lt_eq, ← hsc, show sc 102 T.length = wd by rw [hsc, up_same], mx, bq, lt_eq, sc93]
  rw [ey]
  refine ⟨_, rfl, ⟨?_, fun x hx => ?_, ?_⟩, fun c' k' y1 y2 => ?_⟩
  · unfold nmsT
    rw [List.map_append, List.map_singleton]
    exact TB_of ad2 (funext fun k' => by rw [up_ne (by omega), hsc, up_ne (by omega), hsb, up_ne (by omega), up_ne (by omega)]) (funext fun k' => by rw [up_ne (by omega), hsc, up_ne (by omega), hsb, up_ne (by omega), up_ne (by omega)]) (funext fun k' => by rw [up_ne (by omega), hsc, up_ne (by omega), hsb, up_ne (by omega), up_ne (by omega)])
  · rw [List.length_append, List.length_singleton] at hx
    by_cases y : x < T.length
    · rw [gdL y, up_ne (by omega), up_ne (by omega), up_ne (by omega), hsc, up_ne (by omega), up_ne (by omega), up_ne (by omega), hsb, up_ne (by omega), up_ne (by omega), up_ne (by omega), up_ne (by omega), up_ne (by omega), up_ne (by omega), fsa 104 x (by omega) (by omega) (by omega), fsa 102 x (by omega) (by omega) (by omega), fsa 103 x (by omega) (by omega) (by omega)]
      exact hI.2.1 x y
    · have : x = T.length := by omega
      subst this
      rw [gd_end, up_ne (by omega), up_ne (by omega), up_ne (by omega), hsc, up_ne (by omega), up_same, up_ne (by omega), hsb, up_ne (by omega), up_same, up_same]
      exact ⟨rfl, rfl, rfl⟩
  · rw [up_same, owT_snoc]
    show (owT b T : Int) + (wd.toNat : Int) = ((owT b T + wd.toNat : Nat) : Int)
    omega
  · rw [up_ne y2, hsc, up_ne (by omega), fsb c' k' y1]
/-- the class: the links of a part -/
theorem c_gatL (h : TKR 1 F n N P s0 t0) (hs : KHS F P s0 t0 N C O Q R L E I) (hcl : c < C.length) (hr : (hAt C Q R I c).2.2.1 ≤ r ∧ r < (hAt C Q R I (c + 1)).2.2.1) (hi : i < 2 + C.length) (hb : b ≤ 1000) {T0 : List tEn} : ∀ (m l : Nat) (s : iS), l + m = E.getD r 0 → (R.getD r (0, 0)).2 ≤ l → KC F P s0 t0 C O Q R L E s → KW s0 C Q R I Q.length s → s 94 r = (i : Int) → TOK F P s0 t0 N C Q R L I c b (gtL F P s0 t0 C O Q R L I c b i (R.getD r (0, 0)).2 T0 (l - (R.getD r (0, 0)).2)) → IRc F P t0 c b (gtL F P s0 t0 C O Q R L I c b i (R.getD r (0, 0)).2 T0 (l - (R.getD r (0, 0)).2)) s → ∃ s', cck_gatherInner_43 ((2 + c : Nat) : Int) (r : Int) (l : Int) s = some (.inl (((r + 1 : Nat) : Int), s')) ∧ TOK F P s0 t0 N C Q R L I c b (gtL F P s0 t0 C O Q R L I c b i (R.getD r (0, 0)).2 T0 (E.getD r 0 - (R.getD r (0, 0)).2)) ∧ IRc F P t0 c b (gtL F P s0 t0 C O Q R L I c b i (R.getD r (0, 0)).2 T0 (E.getD r 0 - (R.getD r (0, 0)).2)) s' ∧ (∀ c' k, ¬ (99 ≤ c' ∧ c' ≤ 104) → ¬ (c' = 93 ∧ k = 2 + c) → s' c' k = s c' k)
  | 0, l, s, hm, hl, hc, hw, h94, hT, hI => by
    have bd' := KHS_bd hs
    have e : l = E.getD r 0 := by omega
    have rq := (KHS_q hs (c := c + 1) (by omega)).2.1
    obtain ⟨-, -, -, -, p, -, -, -⟩ := KHS_c hs hcl
    obtain ⟨-, -, le, g⟩ := p r hr.1 hr.2
    have e84 : s 84 (r + 1) = (E.getD r 0 : Nat) := hc.2.2.2.1 r (by rw [hs.2.2.1.1]; omega)
    rw [e] at hT hI
    refine ⟨s, ?_, hT, hI, fun _ _ _ _ => rfl⟩
    unfold cck_gatherInner_43
    rw [lp_end (f := fun l : Int × iS => cck_gatherInner_43b ((2 + c : Nat) : Int) (r : Int) (l.1) (l.2)) (e := s) (by
      show cck_gatherInner_43b ((2 + c : Nat) : Int) (r : Int) (l : Int) s = _
      unfold cck_gatherInner_43b
      rw [gd_pos (by omega), gr (by omega), show ((r : Int) + 1).toNat = r + 1 by omega, e84, gr (by omega), if_pos (by omega)])]
    rfl
  | m + 1, l, s, hm, hl, hc, hw, h94, hT, hI => by
    have bd' := KHS_bd hs
    have rq := (KHS_q hs (c := c + 1) (by omega)).2.1
    obtain ⟨-, -, -, -, p, -, -, -⟩ := KHS_c hs hcl
    obtain ⟨-, -, le, g⟩ := p r hr.1 hr.2
    have e84 : s 84 (r + 1) = (E.getD r 0 : Nat) := hc.2.2.2.1 r (by rw [hs.2.2.1.1]; omega)
    obtain ⟨s1, a1, a2, a3⟩ := c_gat1 h hs hc hw hcl hr ⟨hl, by omega⟩ hi hT hb hI
    have en : gtL F P s0 t0 C O Q R L I c b i (R.getD r (0, 0)).2 T0 (l + 1 - (R.getD r (0, 0)).2) = gtT F P s0 t0 C O Q R L I c b i l (gtL F P s0 t0 C O Q R L I c b i (R.getD r (0, 0)).2 T0 (l - (R.getD r (0, 0)).2)) := by
      rw [show l + 1 - (R.getD r (0, 0)).2 = (l - (R.getD r (0, 0)).2) + 1 by omega]
      show gtT F P s0 t0 C O Q R L I c b i ((R.getD r (0, 0)).2 + (l - (R.getD r (0, 0)).2)) _ = _
      rw [show (R.getD r (0, 0)).2 + (l - (R.getD r (0, 0)).2) = l by omega]
    have hT1 := gtT_ok (i := i) hs hcl hr (l := l) ⟨hl, by omega⟩ h hT
    rw [← en] at a2 hT1
    obtain ⟨s', b1, b2, b3, b4⟩ := c_gatL h hs hcl hr hi hb (T0 := T0) m (l + 1) s1 (by omega) (by omega) (KC_of hc (fun c' k z => a3 c' k (by omega) (by omega))) (KW_of hw (fun c' k z _ => a3 c' k (by omega) (by omega))) (by rw [a3 94 r (by omega) (by omega)]; exact h94) hT1 a2
    refine ⟨s', ?_, b2, b3, fun c' k z1 z2 => by rw [b4 c' k z1 z2, a3 c' k z1 z2]⟩
    rw [← b1]
    unfold cck_gatherInner_43
    rw [lp_next (f := fun l : Int × iS => cck_gatherInner_43b ((2 + c : Nat) : Int) (r : Int) (l.1) (l.2)) (l' := (((l + 1 : Nat) : Int), s1)) (by
      show cck_gatherInner_43b ((2 + c : Nat) : Int) (r : Int) (l : Int) s = _
      unfold cck_gatherInner_43b
      rw [gd_pos (by omega), gr (by omega), show ((r : Int) + 1).toNat = r + 1 by omega, e84, gr (by omega), if_neg (by omega), gd_pos (by omega), Int.toNat_natCast, h94, gr (by omega), if_neg (by omega), a1, bq]
      rfl)]
/-- the class: a part that is no chip has no links -/
theorem c_gatN (hs : KHS F P s0 t0 N C O Q R L E I) (hcl : c < C.length) (hr : (hAt C Q R I c).2.2.1 ≤ r ∧ r < (hAt C Q R I (c + 1)).2.2.1) (hc : KC F P s0 t0 C O Q R L E s) (h94 : s 94 r = -1) : ∀ (m l : Nat), l + m = E.getD r 0 → cck_gatherInner_43 ((2 + c : Nat) : Int) (r : Int) (l : Int) s = some (.inl (((r + 1 : Nat) : Int), s)) := by
  have bd' := KHS_bd hs
  have rq := (KHS_q hs (c := c + 1) (by omega)).2.1
  obtain ⟨-, -, -, -, p, -, -, -⟩ := KHS_c hs hcl
  obtain ⟨-, -, le, g⟩ := p r hr.1 hr.2
  have e84 : s 84 (r + 1) = (E.getD r 0 : Nat) := hc.2.2.2.1 r (by rw [hs.2.2.1.1]; omega)
  intro m
  induction m with
  | zero =>
    intro l hl
    unfold cck_gatherInner_43
    rw [lp_end (f := fun l : Int × iS => cck_gatherInner_43b ((2 + c : Nat) : Int) (r : Int) (l.1) (l.2)) (e := s) (by
      show cck_gatherInner_43b ((2 + c : Nat) : Int) (r : Int) (l : Int) s = _
      unfold cck_gatherInner_43b
      rw [gd_pos (by omega), gr (by omega), show ((r : Int) + 1).toNat = r + 1 by omega, e84, gr (by omega), if_pos (by omega)])]
    rfl
  | succ m ih =>
    intro l hl
    rw [← ih (l + 1) (by omega)]
    unfold cck_gatherInner_43
    rw [lp_next (f := fun l : Int × iS => cck_gatherInner_43b ((2 + c : Nat) : Int) (r : Int) (l.1) (l.2)) (l' := (((l + 1 : Nat) : Int), s)) (by
      show cck_gatherInner_43b ((2 + c : Nat) : Int) (r : Int) (l : Int) s = _
      unfold cck_gatherInner_43b
      rw [gd_pos (by omega), gr (by omega), show ((r : Int) + 1).toNat = r + 1 by omega, e84, gr (by omega), if_neg (by omega), gd_pos (by omega), Int.toNat_natCast, h94, gr (by omega), if_pos rfl]
      rfl)]
/-- the class: all parts of a chip -/
theorem c_gatR (h : TKR 1 F n N P s0 t0) (hs : KHS F P s0 t0 N C O Q R L E I) (hcl : c < C.length) (hb : b ≤ 1000) {T0 : List tEn} : ∀ (m r : Nat) (s : iS), r + m = (hAt C Q R I (c + 1)).2.2.1 → (hAt C Q R I c).2.2.1 ≤ r → KC F P s0 t0 C O Q R L E s → KW s0 C Q R I Q.length s → (∀ r, (hAt C Q R I c).2.2.1 ≤ r → r < (hAt C Q R I (c + 1)).2.2.1 → s 94 r = cix F P t0 C (R.getD r (0, 0)).1) → TOK F P s0 t0 N C Q R L I c b (gtR F P s0 t0 C O Q R L E I c b (hAt C Q R I c).2.2.1 T0 (r - (hAt C Q R I c).2.2.1)) → IRc F P t0 c b (gtR F P s0 t0 C O Q R L E I c b (hAt C Q R I c).2.2.1 T0 (r - (hAt C Q R I c).2.2.1)) s → ∃ s', cck_gatherInner_18 ((2 + c : Nat) : Int) (r : Int) s = some (0, s') ∧ TOK F P s0 t0 N C Q R L I c b (gtR F P s0 t0 C O Q R L E I c b (hAt C Q R I c).2.2.1 T0 ((hAt C Q R I (c + 1)).2.2.1 - (hAt C Q R I c).2.2.1)) ∧ IRc F P t0 c b (gtR F P s0 t0 C O Q R L E I c b (hAt C Q R I c).2.2.1 T0 ((hAt C Q R I (c + 1)).2.2.1 - (hAt C Q R I c).2.2.1)) s' ∧ (∀ c' k, ¬ (99 ≤ c' ∧ c' ≤ 104) → ¬ (c' = 93 ∧ k = 2 + c) → s' c' k = s c' k)
  | 0, r, s, hm, hr, hc, hw, h94, hT, hI => by
    have bd' := KHS_bd hs
    have e : r = (hAt C Q R I (c + 1)).2.2.1 := by omega
    have rq := (KHS_q hs (c := c + 1) (by omega)).2.1
    have e78 := (KC_c (I := I) hc bd'.1 (c := c + 1) (by omega)).2
    rw [e] at hT hI
    refine ⟨s, ?_, hT, hI, fun _ _ _ _ => rfl⟩
    unfold cck_gatherInner_18
    rw [lp_end (f := fun l : Int × iS => cck_gatherInner_18b ((2 + c : Nat) : Int) (l.1) (l.2)) (e := s) (by
      show cck_gatherInner_18b ((2 + c : Nat) : Int) (r : Int) s = _
      unfold cck_gatherInner_18b
      rw [gd_pos (by omega), gr (by omega), show (((2 + c : Nat) : Int) + 1).toNat = 2 + (c + 1) by omega, e78, gr (by omega), if_pos (by omega)])]
    rfl
  | m + 1, r, s, hm, hr, hc, hw, h94, hT, hI => by
    have bd' := KHS_bd hs
    have rq := (KHS_q hs (c := c + 1) (by omega)).2.1
    have e78 := (KC_c (I := I) hc bd'.1 (c := c + 1) (by omega)).2
    have rr : (hAt C Q R I c).2.2.1 ≤ r ∧ r < (hAt C Q R I (c + 1)).2.2.1 := ⟨hr, by omega⟩
    obtain ⟨-, -, -, -, p, -, -, -⟩ := KHS_c hs hcl
    obtain ⟨-, fle, le, g⟩ := p r rr.1 rr.2
    have e84 : s 84 r = ((R.getD r (0, 0)).2 : Nat) := (hc.2.1.2.2.2.1.2 r (by omega)).2
    have en : gtR F P s0 t0 C O Q R L E I c b (hAt C Q R I c).2.2.1 T0 (r + 1 - (hAt C Q R I c).2.2.1) = if cix F P t0 C (R.getD r (0, 0)).1 = -1 then gtR F P s0 t0 C O Q R L E I c b (hAt C Q R I c).2.2.1 T0 (r - (hAt C Q R I c).2.2.1) else gtL F P s0 t0 C O Q R L I c b (cix F P t0 C (R.getD r (0, 0)).1).toNat (R.getD r (0, 0)).2 (gtR F P s0 t0 C O Q R L E I c b (hAt C Q R I c).2.2.1 T0 (r - (hAt C Q R I c).2.2.1)) (E.getD r 0 - (R.getD r (0, 0)).2) := by
      rw [show r + 1 - (hAt C Q R I c).2.2.1 = (r - (hAt C Q R I c).2.2.1) + 1 by omega]
      show (if cix F P t0 C (R.getD ((hAt C Q R I c).2.2.1 + (r - (hAt C Q R I c).2.2.1)) (0, 0)).1 = -1 then _ else _) = _
      rw [show (hAt C Q R I c).2.2.1 + (r - (hAt C Q R I c).2.2.1) = r by omega]
    obtain ⟨s1, a1, a2, a3, a4⟩ : ∃ s1, cck_gatherInner_43 ((2 + c : Nat) : Int) (r : Int) (((R.getD r (0, 0)).2 : Nat) : Int) s = some (.inl (((r + 1 : Nat) : Int), s1)) ∧ TOK F P s0 t0 N C Q R L I c b (gtR F P s0 t0 C O Q R L E I c b (hAt C Q R I c).2.2.1 T0 (r + 1 - (hAt C Q R I c).2.2.1)) ∧ IRc F P t0 c b (gtR F P s0 t0 C O Q R L E I c b (hAt C Q R I c).2.2.1 T0 (r + 1 - (hAt C Q R I c).2.2.1)) s1 ∧ (∀ c' k, ¬ (99 ≤ c' ∧ c' ≤ 104) → ¬ (c' = 93 ∧ k = 2 + c) → s1 c' k = s c' k) := by
      rw [en]
      rcases cix_rg (j := (R.getD r (0, 0)).1) hs with z | ⟨i, z1, z2⟩
      · rw [if_pos z]
        exact ⟨s, c_gatN hs hcl rr hc (by rw [h94 r rr.1 rr.2]; exact z) (E.getD r 0 - (R.getD r (0, 0)).2) _ (by omega), hT, hI, fun _ _ _ _ => rfl⟩
      · rw [if_neg (by omega), z1, Int.toNat_natCast]
        exact c_gatL h hs hcl rr z2 hb (E.getD r 0 - (R.getD r (0, 0)).2) (R.getD r (0, 0)).2 s (by omega) (Nat.le_refl _) hc hw (by rw [h94 r rr.1 rr.2]; exact z1) (by rw [Nat.sub_self]; exact hT) (by rw [Nat.sub_self]; exact hI)
    obtain ⟨s', b1, b2, b3, b4⟩ := c_gatR h hs hcl hb (T0 := T0) m (r + 1) s1 (by omega) (by omega) (KC_of hc (fun c' k z => a4 c' k (by omega) (by omega))) (KW_of hw (fun c' k z _ => a4 c' k (by omega) (by omega))) (fun x x1 x2 => by rw [a4 94 x (by omega) (by omega)]; exact h94 x x1 x2) a2 a3
    refine ⟨s', ?_, b2, b3, fun c' k z1 z2 => by rw [b4 c' k z1 z2, a4 c' k z1 z2]⟩
    rw [← b1]
    unfold cck_gatherInner_18
    rw [lp_next (f := fun l : Int × iS => cck_gatherInner_18b ((2 + c : Nat) : Int) (l.1) (l.2)) (l' := (((r + 1 : Nat) : Int), s1)) (by
      show cck_gatherInner_18b ((2 + c : Nat) : Int) (r : Int) s = _
      unfold cck_gatherInner_18b
      rw [gd_pos (by omega), gr (by omega), show (((2 + c : Nat) : Int) + 1).toNat = 2 + (c + 1) by omega, e78, gr (by omega), if_neg (by omega), gd_pos (by omega), Int.toNat_natCast, e84]
      exact a1)]
end CIi
