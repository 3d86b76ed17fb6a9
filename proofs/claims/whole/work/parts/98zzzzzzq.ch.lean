/-! chips: names told twice, widths: all of them, in both -/
section CIf
variable {F : Nat → Int} {n N : Nat} {P : Nat → Nat} {s0 t0 s t s' t' : iS} {C : List chR} {O E I : List Nat} {Q : List (Nat × Int)} {R L : List (Nat × Nat)} {c i j k q r l : Nat} {Z : List Nat}
/-- the class: the pins of a chip -/
theorem c_pins (h : TKR 1 F n N P s0 t0) (hs : KHS F P s0 t0 N C O Q R L E I) (hcl : c < C.length) : ∀ (m q : Nat) (s : iS), q + m = (hAt C Q R I (c + 1)).2.1 → (hAt C Q R I c).2.1 ≤ q → KC F P s0 t0 C O Q R L E s → BLc (Z ++ nPs F P s0 t0 C Q R I c (hAt C Q R I c).2.1 (q - (hAt C Q R I c).2.1)) s → KW s0 C Q R I q s → ∃ s', cck_checkPins_15 ((2 + c : Nat) : Int) (ofI s0 C Q R I (2 + c) (5 + q) : Int) ((5 + (hAt C Q R I c).2.1 : Nat) : Int) ((5 + q : Nat) : Int) s = some (0, s') ∧ BLc (Z ++ nPs F P s0 t0 C Q R I c (hAt C Q R I c).2.1 ((hAt C Q R I (c + 1)).2.1 - (hAt C Q R I c).2.1)) s' ∧ KW s0 C Q R I (hAt C Q R I (c + 1)).2.1 s' ∧ s' 93 (2 + c) = (ofI s0 C Q R I (2 + c) (paI C Q R I (2 + c + 1)) : Int) ∧ (∀ c' k, c' ≠ 91 → c' ≠ 92 → ¬ (c' = 93 ∧ k = 2 + c) → ¬ (c' = 2 ∧ (k = 13 ∨ k = 14)) → s' c' k = s c' k)
  | 0, q, s, hm, hq, hc, hb, hw => by
    have bd' := KHS_bd hs
    have e : q = (hAt C Q R I (c + 1)).2.1 := by omega
    have e76 : s 76 (2 + c + 1) = ((5 + (hAt C Q R I (c + 1)).2.1 : Nat) : Int) := by
      rw [show 2 + c + 1 = 2 + (c + 1) by omega, (KC_c (I := I) hc bd'.1 (c := c + 1) (by omega)).1]
      omega
    obtain ⟨p1, p2⟩ := paI_c (Q := Q) (R := R) (I := I) hcl
    have pm := paI_m hs (i := 2 + c) (by omega)
    rw [e] at hb hw
    refine ⟨up s 93 (2 + c) (ofI s0 C Q R I (2 + c) (5 + q) : Int), ?_, BLc_of hb (up_ne (by omega)) (up_ne (by omega)), KW_of hw (fun c k z _ => up_ne (by omega)), by rw [up_same, p2, e], fun c' k z1 z2 z3 z4 => up_ne z3⟩
    unfold cck_checkPins_15
    rw [lp_end (f := fun l : Int × Int × iS => cck_checkPins_15b ((2 + c : Nat) : Int) (l.1) ((5 + (hAt C Q R I c).2.1 : Nat) : Int) (l.2.1) (l.2.2)) (e := ((ofI s0 C Q R I (2 + c) (5 + q) : Int), s)) (by
      show cck_checkPins_15b ((2 + c : Nat) : Int) (ofI s0 C Q R I (2 + c) (5 + q) : Int) ((5 + (hAt C Q R I c).2.1 : Nat) : Int) ((5 + q : Nat) : Int) s = _
      unfold cck_checkPins_15b
      rw [gd_pos (by omega), gr (by omega), show (((2 + c : Nat) : Int) + 1).toNat = 2 + c + 1 by omega, e76, gr (by omega), if_pos (by omega)])]
    show cck_checkPins_185 ((2 + c : Nat) : Int) (ofI s0 C Q R I (2 + c) (5 + q) : Int) s = _
    unfold cck_checkPins_185
    rw [gd_pos (by omega), Int.toNat_natCast, lt_eq]
  | m + 1, q, s, hm, hq, hc, hb, hw => by
    obtain ⟨s1, a1, a2, a3, a4⟩ := c_pin1 h hs hc hb hcl ⟨hq, by omega⟩ hw
    have e : nPs F P s0 t0 C Q R I c (hAt C Q R I c).2.1 (q + 1 - (hAt C Q R I c).2.1) = nPs F P s0 t0 C Q R I c (hAt C Q R I c).2.1 (q - (hAt C Q R I c).2.1) ++ nPn F P s0 t0 C Q R I c q := by
      rw [show q + 1 - (hAt C Q R I c).2.1 = (q - (hAt C Q R I c).2.1) + 1 by omega]
      show _ ++ nPn F P s0 t0 C Q R I c ((hAt C Q R I c).2.1 + (q - (hAt C Q R I c).2.1)) = _
      rw [show (hAt C Q R I c).2.1 + (q - (hAt C Q R I c).2.1) = q by omega]
    rw [List.append_assoc, ← e] at a2
    obtain ⟨s', b1, b2, b3, b4, b5⟩ := c_pins h hs hcl m (q + 1) s1 (by omega) (by omega) (KC_of hc (fun c k z => a4 c k (by omega) (by omega))) a2 a3
    refine ⟨s', ?_, b2, b3, b4, fun c' k z1 z2 z3 z4 => by rw [b5 c' k z1 z2 z3 z4, a4 c' k (by omega) z4]⟩
    rw [← b1]
    unfold cck_checkPins_15
    rw [lp_next (f := fun l : Int × Int × iS => cck_checkPins_15b ((2 + c : Nat) : Int) (l.1) ((5 + (hAt C Q R I c).2.1 : Nat) : Int) (l.2.1) (l.2.2)) (l := ((ofI s0 C Q R I (2 + c) (5 + q) : Int), ((5 + q : Nat) : Int), s)) a1]
/-- the class: all chips -/
theorem c_chips (h : TKR 1 F n N P s0 t0) (hs : KHS F P s0 t0 N C O Q R L E I) : ∀ (m c : Nat) (s : iS), c + m = C.length → KC F P s0 t0 C O Q R L E s → BLc (nCs F P s0 t0 C Q R I c) s → KW s0 C Q R I (hAt C Q R I c).2.1 s → KO s0 C Q R I c s → ∃ s', cck_check_2 ((2 + c : Nat) : Int) s = cck_check_73 s' ∧ KC F P s0 t0 C O Q R L E s' ∧ BLc (nCs F P s0 t0 C Q R I C.length) s' ∧ KW s0 C Q R I Q.length s' ∧ KO s0 C Q R I C.length s' ∧ (∀ c' k, c' ≠ 91 → c' ≠ 92 → c' ≠ 93 → ¬ (c' = 2 ∧ (k = 13 ∨ k = 14)) → s' c' k = s c' k)
  | 0, c, s, hm, hc, hb, hw, ho => by
    have e : c = C.length := by omega
    have bd' := KHS_bd hs
    have e72 : s 72 2 = ((2 + C.length : Nat) : Int) := by rw [hc.2.1.1.1.1]; show ((tabC F P t0 C).length : Int) = _; rw [tabC_len]
    rw [e] at hb hw ho ⊢
    rw [hAt_end] at hw
    refine ⟨s, ?_, hc, hb, hw, ho, fun _ _ _ _ _ _ => rfl⟩
    unfold cck_check_2
    rw [lp_end (f := fun l : Int × iS => cck_check_2b (l.1) (l.2)) (e := s) (by
      show cck_check_2b ((2 + C.length : Nat) : Int) s = _
      unfold cck_check_2b
      rw [gr (by omega), e72, gr (by omega), if_pos (by omega)])]
    rfl
  | m + 1, c, s, hm, hc, hb, hw, ho => by
    have hcl : c < C.length := by omega
    have hN := N2001 h
    have bd' := KHS_bd hs
    have e72 : s 72 2 = ((2 + C.length : Nat) : Int) := by rw [hc.2.1.1.1.1]; show ((tabC F P t0 C).length : Int) = _; rw [tabC_len]
    have tk := (KHS_c hs hcl).1
    rw [hAt_lt hcl] at tk
    have e75 : s 75 (2 + c) = (((C.getD c (0, 0, 0, 0)).1 : Nat) : Int) := (hc.2.1.1.2 c hcl).1
    have fi := c_chip0 (i := 2 + c) h hs hc tk (by omega)
    obtain ⟨fx, hfx⟩ : ∃ fx, fx = fst1 (fun k => (tabC F P t0 C).getD k [] = nmT F P t0 (C.getD c (0, 0, 0, 0)).1) 0 (2 + c) := ⟨_, rfl⟩
    rw [← hfx] at fi
    have fxr : rg fx := by
      have := fst1_rg (P := fun k => (tabC F P t0 C).getD k [] = nmT F P t0 (C.getD c (0, 0, 0, 0)).1) (2 + c) 0
      rw [← hfx] at this
      exact ⟨by omega, by omega⟩
    obtain ⟨s1, a1, a2, a3⟩ : ∃ s1, (if fx = (-1) then cck_check_62 ((2 + c : Nat) : Int) s else bd (tok_blame 3 (s 75 (2 + c)) s) (fun _ s8 => cck_check_62 ((2 + c : Nat) : Int) s8)) = cck_check_62 ((2 + c : Nat) : Int) s1 ∧ BLc (nCs F P s0 t0 C Q R I c ++ nCh F P t0 C c) s1 ∧ (∀ c k, ¬ (c = 2 ∧ (k = 13 ∨ k = 14)) → s1 c k = s c k) := by
      unfold nCh
      rw [← hfx]
      by_cases z : fx = -1
      · exact ⟨s, by rw [if_pos z], by rw [if_pos z, List.append_nil]; exact hb, fun _ _ _ => rfl⟩
      · obtain ⟨s1, b1, b2, b3⟩ := bl_add (f := 3) (t := (C.getD c (0, 0, 0, 0)).1) hb (by omega) (by omega)
        exact ⟨s1, by rw [if_neg z, e75, show (3 : Int) = ((3 : Nat) : Int) from rfl, b1, bq], by rw [if_neg z]; exact b2, b3⟩
    have hc1 : KC F P s0 t0 C O Q R L E s1 := KC_of hc (fun c k z => a3 c k (by omega))
    have e76 : s1 76 (2 + c) = ((5 + (hAt C Q R I c).2.1 : Nat) : Int) := by
      rw [(KC_c (I := I) hc1 bd'.1 (c := c) (by omega)).1]
      omega
    have hq := (KHS_m hs 1 c (by omega)).1
    obtain ⟨p1, p2⟩ := paI_c (Q := Q) (R := R) (I := I) hcl
    obtain ⟨s2, b1, b2, b3, b4, b5⟩ := c_pins (Z := nCs F P s0 t0 C Q R I c ++ nCh F P t0 C c) h hs hcl ((hAt C Q R I (c + 1)).2.1 - (hAt C Q R I c).2.1) (hAt C Q R I c).2.1 s1 (by omega) (Nat.le_refl _) hc1 (by rw [Nat.sub_self]; show BLc (_ ++ []) s1; rw [List.append_nil]; exact a2) (KW_of hw (fun c k z _ => a3 c k (by omega)))
    have of0 : ofI s0 C Q R I (2 + c) (5 + (hAt C Q R I c).2.1) = 0 := by
      unfold ofI
      rw [p1, Nat.sub_self]
      rfl
    have e2 : cck_check_2b ((2 + c : Nat) : Int) s = some (.inl (((2 + (c + 1) : Nat) : Int), s2)) := by
      unfold cck_check_2b
      rw [gr (by omega), e72, gr (by omega), if_neg (by omega), gd_pos (by omega), Int.toNat_natCast, e75, fi, bq, gd_pos fxr]
      rw [a1]
      unfold cck_check_62 cck_checkPins
      rw [of0] at b1
      rw [gd_pos (by omega), Int.toNat_natCast, e76, show (0 : Int) = ((0 : Nat) : Int) from rfl, b1, bq, show ((2 + c : Nat) : Int) + 1 = ((2 + (c + 1) : Nat) : Int) by omega]
    have en : nCs F P s0 t0 C Q R I (c + 1) = (nCs F P s0 t0 C Q R I c ++ nCh F P t0 C c) ++ nPs F P s0 t0 C Q R I c (hAt C Q R I c).2.1 ((hAt C Q R I (c + 1)).2.1 - (hAt C Q R I c).2.1) := by
      rw [List.append_assoc]
      rfl
    rw [← en] at b2
    obtain ⟨s', d1, d2, d3, d4, d5, d6⟩ := c_chips h hs m (c + 1) s2 (by omega) (KC_of hc1 (fun c k z => b5 c k (by omega) (by omega) (by omega) (by omega))) b2 b3 (fun i hi => by
      by_cases z : i = 2 + c
      · rw [z]; exact b4
      · rw [b5 93 i (by omega) (by omega) (by omega) (by omega), a3 93 i (by omega)]
        exact ho i (by omega))
    refine ⟨s', ?_, d2, d3, d4, d5, fun c' k z1 z2 z3 z4 => by rw [d6 c' k z1 z2 z3 z4, b5 c' k z1 z2 (by omega) z4, a3 c' k z4]⟩
    rw [← d1]
    unfold cck_check_2
    rw [lp_next (f := fun l : Int × iS => cck_check_2b (l.1) (l.2)) (l := (((2 + c : Nat) : Int), s)) e2]
/-- the reference: has a name been told -/
theorem r_tw {f : Int → Int → iS → Option ((Int × Int × iS) ⊕ (Int × iS))} {G : Nat → Prop} [DecidablePred G] {e : Nat} (he : ∀ (x : Nat) (a : Int), (a = 0 ∨ a = 1) → x = e → f a (x : Int) t = some (.inr (a, t))) (h1 : ∀ x, x < e → f 1 (x : Int) t = some (.inl (1, ((x + 1 : Nat) : Int), t))) (d : Nat) : (∀ x, d ≤ x → x < e → f 0 (x : Int) t = some (.inl (if G x then 1 else 0, ((x + 1 : Nat) : Int), t))) → ∀ (m x : Nat), d ≤ x → x + m = e → lp (L := Int × Int × iS) (E := Int × iS) (fun l => f l.1 l.2.1 l.2.2) (1, (x : Int), t) = some (1, t) ∧ lp (L := Int × Int × iS) (E := Int × iS) (fun l => f l.1 l.2.1 l.2.2) (0, (x : Int), t) = some (if fst1 G x m = -1 then 0 else 1, t) := by
  intro h0 m
  induction m with
  | zero =>
    intro x _ hx
    exact ⟨lp_end (he x 1 (Or.inr rfl) (by omega)), lp_end (he x 0 (Or.inl rfl) (by omega))⟩
  | succ m ih =>
    intro x hd hx
    obtain ⟨i1, i2⟩ := ih (x + 1) (by omega) (by omega)
    refine ⟨by rw [lp_next (h1 x (by omega))]; exact i1, ?_⟩
    have := h0 x hd (by omega)
    by_cases c : G x
    · rw [if_pos c] at this
      rw [lp_next this, i1, fst1_y c, if_neg (by omega)]
    · rw [if_neg c] at this
      rw [lp_next this, i2, fst1_n c]
/-- the reference: one pin -/
theorem r_pin1 (h : TKH F n N P s0 t0) (hs : KHS F P s0 t0 N C O Q R L E I) (hr : KR s0 t0 C Q R L I t) (hb : RBc P N Z t) (hcl : c < C.length) (hq : (hAt C Q R I c).2.1 ≤ q ∧ q < (hAt C Q R I (c + 1)).2.1) : ∃ t', m_checkPins_94b (c : Int) (q : Int) t = some (.inl (((q + 1 : Nat) : Int), t')) ∧ RBc P N (Z ++ nPn F P s0 t0 C Q R I c q) t' ∧ (∀ c' k, ¬ (c' = 121 ∧ (k = 69 ∨ k = 70)) → t' c' k = t c' k) := by
  have hN := N2001 h.1
  have n4 := h.2.2.1
  have bd' := KHS_bd hs
  have qe := (KHS_q hs (c := c + 1) (by omega)).1
  have qQ : q < Q.length := by omega
  obtain ⟨⟨o1, o2, o3⟩, -⟩ := KHS_pq hs qQ
  have e1 := (KR_c hr (c := c) (by omega)).1
  have e2 := (KR_c hr (c := c + 1) (by omega)).1
  have e198 : ∀ x, x < Q.length → t 198 x = (((Q.getD x (0, 0)).1 : Nat) : Int) := fun x hx => (hr.2.1.2.1.2 x hx).1
  have e200 : t 200 q = nbP s0 (Q.getD q (0, 0)).1 := (hr.2.1.2.1.2 q qQ).2.2.2
  generalize hj : (Q.getD q (0, 0)).1 = j at *
  have rt := (r_tw (t := t) (f := m_checkPins_117b (c : Int) (q : Int)) (G := fun k => nmT F P t0 (Q.getD k (0, 0)).1 = nmT F P t0 j) (e := q) (fun x a ha hx => by
      unfold m_checkPins_117b
      rw [gr (by omega), gr (by omega), if_pos (by omega)]) (fun x hx => by
      unfold m_checkPins_117b
      rw [gr (by omega), gr (by omega), if_neg (by omega), gr (by omega), if_neg (by omega)]
      rfl) (hAt C Q R I c).2.1 (fun x hd hx => by
      have pk := (KHS_pq hs (k := x) (by omega)).1
      have lk := cH_like h hr.1 ⟨by have := pk.1; omega, pk.2.1⟩ (show j < N ∧ s0 9 j = 3 from ⟨by omega, o2⟩)
      unfold m_checkPins_117b
      rw [gr (by omega), gr (by omega), if_neg (by omega), gr (by omega), if_pos rfl, gd_pos (by omega), gd_pos (by omega), Int.toNat_natCast, Int.toNat_natCast, e198 x (by omega), e198 q qQ, hj, lk, bq]
      by_cases z : nmT F P t0 (Q.getD x (0, 0)).1 = nmT F P t0 j
      · rw [if_pos z, gr (by omega), if_neg (by omega)]
        rfl
      · rw [if_neg z, gr (by omega), if_pos rfl]
        rfl) (q - (hAt C Q R I c).2.1) (hAt C Q R I c).2.1 (Nat.le_refl _) (by omega)).2
  have ef : (fst1 (fun k => (tabP F P t0 Q).getD k [] = nmT F P t0 j) (5 + (hAt C Q R I c).2.1) (q - (hAt C Q R I c).2.1) = -1) ↔ fst1 (fun k => nmT F P t0 (Q.getD k (0, 0)).1 = nmT F P t0 j) (hAt C Q R I c).2.1 (q - (hAt C Q R I c).2.1) = -1 := by
    rw [fst1_sh]
    have cg := fst1_cg (Q := fun x => (tabP F P t0 Q).getD (5 + x) [] = nmT F P t0 j) (Q' := fun k => nmT F P t0 (Q.getD k (0, 0)).1 = nmT F P t0 j) (q - (hAt C Q R I c).2.1) (hAt C Q R I c).2.1 (fun x x1 x2 => by rw [tabP_at (by omega)])
    rw [cg]
    have rg0 := fst1_rg (P := fun k => nmT F P t0 (Q.getD k (0, 0)).1 = nmT F P t0 j) (q - (hAt C Q R I c).2.1) (hAt C Q R I c).2.1
    constructor
    · intro z
      split at z
      · assumption
      · omega
    · intro z
      rw [if_pos z]
  obtain ⟨fl, hfl⟩ : ∃ fl : Int, fl = (if fst1 (fun k => nmT F P t0 (Q.getD k (0, 0)).1 = nmT F P t0 j) (hAt C Q R I c).2.1 (q - (hAt C Q R I c).2.1) = -1 then 0 else 1) := ⟨_, rfl⟩
  rw [← hfl] at rt
  have flr : fl = 0 ∨ fl = 1 := by rw [hfl]; split <;> omega
  have E : m_checkPins_94b (c : Int) (q : Int) t = m_checkPins_161 (c : Int) (q : Int) fl t := by
    unfold m_checkPins_94b
    rw [gd_pos (by omega), gr (by omega), show ((c : Int) + 1).toNat = c + 1 by omega, e2, gr (by omega), if_neg (by omega), gd_pos (by omega), Int.toNat_natCast, e1]
    unfold m_checkPins_117
    rw [show lp (L := Int × Int × iS) (E := Int × iS) (fun l => m_checkPins_117b (c : Int) (q : Int) (l.1) (l.2.1) (l.2.2)) (0, (((hAt C Q R I c).2.1 : Nat) : Int), t) = _ from rt, bn]
  have en : nPn F P s0 t0 C Q R I c q = (if fl = 0 then [] else [16 * j + 3]) ++ (if 1 ≤ wdT s0 j ∧ wdT s0 j ≤ 16 then [] else [16 * (j + 2) + 5]) := by
    unfold nPn
    rw [hj]
    congr 1
    rw [hfl]
    by_cases z : fst1 (fun k => nmT F P t0 (Q.getD k (0, 0)).1 = nmT F P t0 j) (hAt C Q R I c).2.1 (q - (hAt C Q R I c).2.1) = -1
    · rw [if_pos (ef.mpr z), if_pos z, if_pos rfl]
    · rw [if_neg (fun y => z (ef.mp y)), if_neg z, if_neg (by omega)]
  obtain ⟨t1, a1, a2, a3⟩ : ∃ t1, m_checkPins_161 (c : Int) (q : Int) fl t = m_checkPins_177 (c : Int) (q : Int) t1 ∧ RBc P N (Z ++ (if fl = 0 then [] else [16 * j + 3])) t1 ∧ (∀ c' k, ¬ (c' = 121 ∧ (k = 69 ∨ k = 70)) → t1 c' k = t c' k) := by
    unfold m_checkPins_161
    rw [gr (by omega)]
    by_cases z : fl = 0
    · rw [if_pos z, if_pos z, List.append_nil]
      exact ⟨t, rfl, hb, fun _ _ _ => rfl⟩
    · obtain ⟨t1, b1, b2, b3⟩ := note_c (f := 3) (j := j) h.1 n4 hr.1 hb (by omega) (by omega)
      rw [if_neg z, if_neg z, gd_pos (by omega), Int.toNat_natCast, e198 q qQ, hj, show (3 : Int) = ((3 : Nat) : Int) from rfl, b1, bq]
      exact ⟨t1, rfl, b2, b3⟩
  have hr1 : KR s0 t0 C Q R L I t1 := KR_of hr (fun c k z => a3 c k (by omega))
  have f200 : t1 200 q = nbP s0 j := by rw [a3 200 q (by omega)]; exact e200
  rw [E, a1, en, ← List.append_assoc]
  generalize hZ1 : Z ++ (if fl = 0 then [] else [16 * j + 3]) = Z1 at *
  unfold m_checkPins_177 m_checkPins_218
  rw [gd_pos (by omega), Int.toNat_natCast, f200]
  by_cases z : s0 9 (j + 1) = 91
  · have nb : nbP s0 j = ((j + 2 : Nat) : Int) := by unfold nbP; rw [if_pos z]
    have wt : wdT s0 j = s0 11 (j + 2) := by unfold wdT; rw [if_pos z]
    have v := tkV h.1 (show j + 2 < N by have := o3 z; omega) (o3 z).2
    have j2 : j + 2 < N := by have := o3 z; omega
    obtain ⟨t2, b1, b2, b3⟩ := note_c (f := 5) (j := j + 2) h.1 n4 hr1.1 a2 (by omega) j2
    have e127 : t1 127 (j + 2) = wdT s0 j := by rw [hr1.1.2.2.2.2.1, v.1, wt]
    rw [nb, gr (by omega), if_neg (by omega), gd_pos (by omega), Int.toNat_natCast, e127, gr (by omega), show (5 : Int) = ((5 : Nat) : Int) from rfl, b1, bq, show (q : Int) + 1 = ((q + 1 : Nat) : Int) by omega]
    by_cases w1 : wdT s0 j < 1
    · rw [if_pos w1, if_neg (show ¬ (1 ≤ wdT s0 j ∧ wdT s0 j ≤ 16) by omega)]
      exact ⟨t2, gd_pos (by omega), b2, fun c' k y => by rw [b3 c' k y, a3 c' k y]⟩
    · rw [if_neg w1]
      by_cases w2 : wdT s0 j ≤ 16
      · rw [if_pos w2, if_pos (show 1 ≤ wdT s0 j ∧ wdT s0 j ≤ 16 by omega), List.append_nil]
        exact ⟨t1, rfl, a2, a3⟩
      · rw [if_neg w2, if_neg (show ¬ (1 ≤ wdT s0 j ∧ wdT s0 j ≤ 16) by omega)]
        exact ⟨t2, gd_pos (by omega), b2, fun c' k y => by rw [b3 c' k y, a3 c' k y]⟩
  · have nb : nbP s0 j = -1 := by unfold nbP; rw [if_neg z]
    have wt : wdT s0 j = 1 := by unfold wdT; rw [if_neg z]
    rw [nb, gr (by omega), if_pos rfl, wt, if_pos (by omega), List.append_nil, show (q : Int) + 1 = ((q + 1 : Nat) : Int) by omega]
    exact ⟨t1, rfl, a2, a3⟩
theorem r_pins (h : TKH F n N P s0 t0) (hs : KHS F P s0 t0 N C O Q R L E I) (hcl : c < C.length) : ∀ (m q : Nat) (t : iS), q + m = (hAt C Q R I (c + 1)).2.1 → (hAt C Q R I c).2.1 ≤ q → KR s0 t0 C Q R L I t → RBc P N (Z ++ nPs F P s0 t0 C Q R I c (hAt C Q R I c).2.1 (q - (hAt C Q R I c).2.1)) t → ∃ t', m_checkPins_94 (c : Int) (q : Int) t = some (.inl (((c + 1 : Nat) : Int), t')) ∧ RBc P N (Z ++ nPs F P s0 t0 C Q R I c (hAt C Q R I c).2.1 ((hAt C Q R I (c + 1)).2.1 - (hAt C Q R I c).2.1)) t' ∧ (∀ c' k, ¬ (c' = 121 ∧ (k = 69 ∨ k = 70)) → t' c' k = t c' k)
  | 0, q, t, hm, hq, hr, hb => by
    have bd' := KHS_bd hs
    have e : q = (hAt C Q R I (c + 1)).2.1 := by omega
    have e2 := (KR_c hr (c := c + 1) (by omega)).1
    have qe := (KHS_q hs (c := c + 1) (by omega)).1
    rw [e] at hb
    refine ⟨t, ?_, hb, fun _ _ _ => rfl⟩
    unfold m_checkPins_94
    rw [lp_end (f := fun l : Int × iS => m_checkPins_94b (c : Int) (l.1) (l.2)) (e := t) (by
      show m_checkPins_94b (c : Int) (q : Int) t = _
      unfold m_checkPins_94b
      rw [gd_pos (by omega), gr (by omega), show ((c : Int) + 1).toNat = c + 1 by omega, e2, gr (by omega), if_pos (by omega)])]
    rfl
  | m + 1, q, t, hm, hq, hr, hb => by
    obtain ⟨t1, a1, a2, a3⟩ := r_pin1 h hs hr hb hcl ⟨hq, by omega⟩
    have e : nPs F P s0 t0 C Q R I c (hAt C Q R I c).2.1 (q + 1 - (hAt C Q R I c).2.1) = nPs F P s0 t0 C Q R I c (hAt C Q R I c).2.1 (q - (hAt C Q R I c).2.1) ++ nPn F P s0 t0 C Q R I c q := by
      rw [show q + 1 - (hAt C Q R I c).2.1 = (q - (hAt C Q R I c).2.1) + 1 by omega]
      show _ ++ nPn F P s0 t0 C Q R I c ((hAt C Q R I c).2.1 + (q - (hAt C Q R I c).2.1)) = _
      rw [show (hAt C Q R I c).2.1 + (q - (hAt C Q R I c).2.1) = q by omega]
    rw [List.append_assoc, ← e] at a2
    obtain ⟨t', b1, b2, b3⟩ := r_pins h hs hcl m (q + 1) t1 (by omega) (by omega) (KR_of hr (fun c k z => a3 c k (by omega))) a2
    refine ⟨t', ?_, b2, fun c' k z => by rw [b3 c' k z, a3 c' k z]⟩
    rw [← b1]
    unfold m_checkPins_94
    rw [lp_next (f := fun l : Int × iS => m_checkPins_94b (c : Int) (l.1) (l.2)) (l := ((q : Int), t)) a1]
/-- the reference: all chips -/
theorem r_chips (h : TKH F n N P s0 t0) (hs : KHS F P s0 t0 N C O Q R L E I) : ∀ (m c : Nat) (t : iS), c + m = C.length → KR s0 t0 C Q R L I t → RBc P N (nCs F P s0 t0 C Q R I c) t → ∃ t', m_checkPins_2 (c : Int) t = some (0, t') ∧ RBc P N (nCs F P s0 t0 C Q R I C.length) t' ∧ (∀ c' k, ¬ (c' = 121 ∧ (k = 69 ∨ k = 70)) → t' c' k = t c' k)
  | 0, c, t, hm, hr, hb => by
    have bd' := KHS_bd hs
    have e : c = C.length := by omega
    rw [e] at hb ⊢
    refine ⟨t, ?_, hb, fun _ _ _ => rfl⟩
    unfold m_checkPins_2
    rw [lp_end (f := fun l : Int × iS => m_checkPins_2b (l.1) (l.2)) (e := t) (by
      show m_checkPins_2b (C.length : Int) t = _
      unfold m_checkPins_2b
      rw [gr (by omega), hr.2.1.1.1, gr (by omega), if_pos (by omega)])]
    rfl
  | m + 1, c, t, hm, hr, hb => by
    have hcl : c < C.length := by omega
    have hN := N2001 h.1
    have n4 := h.2.2.1
    have bd' := KHS_bd hs
    have tk := (KHS_c hs hcl).1
    rw [hAt_lt hcl] at tk
    have e195 : ∀ x, x < C.length → t 195 x = (((C.getD x (0, 0, 0, 0)).1 : Nat) : Int) := fun x hx => (hr.2.1.1.2 x hx).1
    have e1 := (KR_c hr (c := c) (by omega)).1
    generalize hj : (C.getD c (0, 0, 0, 0)).1 = j at *
    have rt := r_tw (t := t) (f := m_checkPins_32b (c : Int)) (G := fun k => nmT F P t0 (C.getD k (0, 0, 0, 0)).1 = nmT F P t0 j) (e := c) (fun x a ha hx => by
        unfold m_checkPins_32b
        rw [gr (by omega), gr (by omega), if_pos (by omega)]) (fun x hx => by
        unfold m_checkPins_32b
        rw [gr (by omega), gr (by omega), if_neg (by omega), gr (by omega), if_neg (by omega)]
        rfl) 0 (fun x hd hx => by
        have pk := (KHS_c hs (c := x) (by omega)).1
        rw [hAt_lt (by omega)] at pk
        have lk := cH_like h hr.1 pk tk
        unfold m_checkPins_32b
        rw [gr (by omega), gr (by omega), if_neg (by omega), gr (by omega), if_pos rfl, gd_pos (by omega), gd_pos (by omega), Int.toNat_natCast, Int.toNat_natCast, e195 x (by omega), e195 c hcl, hj, lk, bq]
        by_cases z : nmT F P t0 (C.getD x (0, 0, 0, 0)).1 = nmT F P t0 j
        · rw [if_pos z, gr (by omega), if_neg (by omega)]
          rfl
        · rw [if_neg z, gr (by omega), if_pos rfl]
          rfl) c 0 (Nat.le_refl _) (by omega)
    have g0 := fw_rg (b := nmT F P t0 j) cgN 0
    have gl : cgN.length = 2 := rfl
    -- told as a gate or as an earlier chip
    have ef : (fst1 (fun k => (tabC F P t0 C).getD k [] = nmT F P t0 j) 0 (2 + c) = -1) ↔ fw cgN (nmT F P t0 j) 0 = -1 ∧ fst1 (fun k => nmT F P t0 (C.getD k (0, 0, 0, 0)).1 = nmT F P t0 j) 0 c = -1 := by
      have f2 := fst_fw (P := fun k => (tabC F P t0 C).getD k [] = nmT F P t0 j) (b := nmT F P t0 j) cgN 0 (fun x hx => by
        rw [Nat.zero_add]
        unfold tabC
        rw [gdL hx])
      rw [gl] at f2
      rw [fst1_split, f2, Nat.zero_add]
      have sh := fst1_sh (Q := fun k => (tabC F P t0 C).getD k [] = nmT F P t0 j) (d := 2) c 0
      rw [Nat.add_zero] at sh
      have cg := fst1_cg (Q := fun x => (tabC F P t0 C).getD (2 + x) [] = nmT F P t0 j) (Q' := fun k => nmT F P t0 (C.getD k (0, 0, 0, 0)).1 = nmT F P t0 j) c 0 (fun x x1 x2 => by rw [tabC_at (by omega)])
      rw [sh, cg]
      have rg0 := fst1_rg (P := fun k => nmT F P t0 (C.getD k (0, 0, 0, 0)).1 = nmT F P t0 j) c 0
      constructor
      · intro z
        by_cases y : fw cgN (nmT F P t0 j) 0 = -1
        · rw [if_pos y] at z
          refine ⟨y, ?_⟩
          split at z
          · assumption
          · omega
        · rw [if_neg y] at z
          exact absurd z y
      · intro z
        rw [if_pos z.1, if_pos z.2]
    obtain ⟨fl, hfl⟩ : ∃ fl : Int, fl = (if fst1 (fun k => (tabC F P t0 C).getD k [] = nmT F P t0 j) 0 (2 + c) = -1 then 0 else 1) := ⟨_, rfl⟩
    have flr : fl = 0 ∨ fl = 1 := by rw [hfl]; split <;> omega
    have E : m_checkPins_2b (c : Int) t = m_checkPins_72 (c : Int) fl t := by
      unfold m_checkPins_2b
      rw [gr (by omega), hr.2.1.1.1, gr (by omega), if_neg (by omega), gd_pos (by omega), Int.toNat_natCast, e195 c hcl, hj, r_gate h hr.1 tk, bq, gr (by omega)]
      unfold m_checkPins_29 m_checkPins_32
      by_cases y : fw cgN (nmT F P t0 j) 0 = -1
      · rw [if_pos y, show lp (L := Int × Int × iS) (E := Int × iS) (fun l => m_checkPins_32b (c : Int) (l.1) (l.2.1) (l.2.2)) (0, 0, t) = _ from rt.2, bn]
        congr 1
        rw [hfl]
        by_cases w : fst1 (fun k => nmT F P t0 (C.getD k (0, 0, 0, 0)).1 = nmT F P t0 j) 0 c = -1
        · rw [if_pos w, if_pos (ef.mpr ⟨y, w⟩)]
        · rw [if_neg w, if_neg (fun q => w (ef.mp q).2)]
      · rw [if_neg y, show lp (L := Int × Int × iS) (E := Int × iS) (fun l => m_checkPins_32b (c : Int) (l.1) (l.2.1) (l.2.2)) (1, 0, t) = _ from rt.1, bn]
        congr 1
        rw [hfl, if_neg (fun q => y (ef.mp q).1)]
    have en : nCh F P t0 C c = if fl = 0 then [] else [16 * j + 3] := by
      unfold nCh
      rw [hj, hfl]
      by_cases z : fst1 (fun k => (tabC F P t0 C).getD k [] = nmT F P t0 j) 0 (2 + c) = -1
      · rw [if_pos z, if_pos z, if_pos rfl]
      · rw [if_neg z, if_neg z, if_neg (by omega)]
    obtain ⟨t1, a1, a2, a3⟩ : ∃ t1, m_checkPins_72 (c : Int) fl t = m_checkPins_87 (c : Int) t1 ∧ RBc P N (nCs F P s0 t0 C Q R I c ++ nCh F P t0 C c) t1 ∧ (∀ c' k, ¬ (c' = 121 ∧ (k = 69 ∨ k = 70)) → t1 c' k = t c' k) := by
      unfold m_checkPins_72
      rw [gr (by omega), en]
      by_cases z : fl = 0
      · rw [if_pos z, if_pos z, List.append_nil]
        exact ⟨t, rfl, hb, fun _ _ _ => rfl⟩
      · obtain ⟨t1, b1, b2, b3⟩ := note_c (f := 3) (j := j) h.1 n4 hr.1 hb (by omega) tk.1
        rw [if_neg z, if_neg z, gd_pos (by omega), Int.toNat_natCast, e195 c hcl, hj, show (3 : Int) = ((3 : Nat) : Int) from rfl, b1, bq]
        exact ⟨t1, rfl, b2, b3⟩
    have hr1 : KR s0 t0 C Q R L I t1 := KR_of hr (fun c k z => a3 c k (by omega))
    have e1' := (KR_c hr1 (c := c) (by omega)).1
    have hq := (KHS_m hs 1 c (by omega)).1
    obtain ⟨t2, b1, b2, b3⟩ := r_pins (Z := nCs F P s0 t0 C Q R I c ++ nCh F P t0 C c) h hs hcl ((hAt C Q R I (c + 1)).2.1 - (hAt C Q R I c).2.1) (hAt C Q R I c).2.1 t1 (by omega) (Nat.le_refl _) hr1 (by rw [Nat.sub_self]; show RBc P N (_ ++ []) t1; rw [List.append_nil]; exact a2)
    have en2 : nCs F P s0 t0 C Q R I (c + 1) = (nCs F P s0 t0 C Q R I c ++ nCh F P t0 C c) ++ nPs F P s0 t0 C Q R I c (hAt C Q R I c).2.1 ((hAt C Q R I (c + 1)).2.1 - (hAt C Q R I c).2.1) := by
      rw [List.append_assoc]
      rfl
    rw [← en2] at b2
    obtain ⟨t', d1, d2, d3⟩ := r_chips h hs m (c + 1) t2 (by omega) (KR_of hr1 (fun c k z => b3 c k (by omega))) b2
    refine ⟨t', ?_, d2, fun c' k z => by rw [d3 c' k z, b3 c' k z, a3 c' k z]⟩
    rw [← d1]
    unfold m_checkPins_2
    rw [lp_next (f := fun l : Int × iS => m_checkPins_2b (l.1) (l.2)) (l := ((c : Int), t)) (l' := (((c + 1 : Nat) : Int), t2)) (by
      show m_checkPins_2b (c : Int) t = _
      rw [E, a1]
      unfold m_checkPins_87
      rw [gd_pos (by omega), Int.toNat_natCast, e1']
      exact b1)]
end CIf
