/-! chips: the reference finds parts and inner names -/
section CIj
variable {F : Nat → Int} {n N : Nat} {P : Nat → Nat} {s0 t0 s t s' t' : iS} {C : List chR} {O E I : List Nat} {Q : List (Nat × Int)} {R L : List (Nat × Nat)} {c b i j k q r l : Nat} {Z : List Nat} {T : List tEn}
theorem KR_e (hs : KHS F P s0 t0 N C O Q R L E I) (hr : KR s0 t0 C Q R L I t) (h : r < R.length) : t 203 r = ((R.getD r (0, 0)).2 : Nat) ∧ t 203 (r + 1) = (E.getD r 0 : Nat) := by
  refine ⟨(hr.2.1.2.2.1.2 r h).2, ?_⟩
  obtain ⟨e1, e2, e3, e4⟩ := hs.2.2.1
  by_cases z : r + 1 < R.length
  · rw [(hr.2.1.2.2.1.2 (r + 1) z).2, e2 r z]
  · have : r + 1 = R.length := by omega
    rw [this, hr.2.2.2.2.2, ← e4 (by omega), show R.length - 1 = r by omega]
/-- the reference looks an inner name up -/
theorem r_in (h : TKH F n N P s0 t0) (hs : KHS F P s0 t0 N C O Q R L E I) (hr : KR s0 t0 C Q R L I t) (hc : c < C.length) (hj : j < N ∧ s0 9 j = 3) : m_innerOf (c : Int) (j : Int) t = some (fst1 (fun x => nmT F P t0 (I.getD x 0) = nmT F P t0 j) (hAt C Q R I c).2.2.2 ((hAt C Q R I (c + 1)).2.2.2 - (hAt C Q R I c).2.2.2), t) := by
  have bd' := KHS_bd hs
  have e1 := (KR_c hr (c := c) (by omega)).2.2
  have e2 := (KR_c hr (c := c + 1) (by omega)).2.2
  have q := (KHS_q hs (c := c + 1) (by omega)).2.2
  obtain ⟨-, -, -, -, -, ⟨i1, i2, i3⟩, i4, -⟩ := KHS_c hs hc
  exact r_innerOf (qk := fun k => I.getD k 0) h hr.1 e1 e2 (by omega) (by omega) (by omega) (fun k k1 k2 => ⟨hr.2.1.2.2.2.2.2 k (by omega), (i4 k k1 k2).1.1, (i4 k k1 k2).1.2⟩) hj
theorem inx_pin (hs : KHS F P s0 t0 N C O Q R L E I) (hc : c < C.length) (hp : pfI F P t0 C Q R I (2 + c) j ≠ -1) : fst1 (fun x => nmT F P t0 (I.getD x 0) = nmT F P t0 j) (hAt C Q R I c).2.2.2 ((hAt C Q R I (c + 1)).2.2.2 - (hAt C Q R I c).2.2.2) = -1 := by
  obtain ⟨-, ⟨-, -, qe, -⟩, -, -, -, ⟨i1, i2, i3⟩, i4, -⟩ := KHS_c hs hc
  obtain ⟨p1, p2⟩ := paI_c (Q := Q) (R := R) (I := I) hc
  rw [fst1_no]
  intro x x1 x2 z
  apply hp
  unfold pfI
  rw [fst1_no, p1, p2]
  intro k k1 k2 y
  have := (i4 x x1 (by omega)).2 (k - 5) (by omega) (by omega)
  rw [show k = 5 + (k - 5) by omega, tabP_at (by omega)] at y
  exact this (y.trans z.symm)
/-- the reference: one link -/
theorem r_gat1 (h : TKH F n N P s0 t0) (hs : KHS F P s0 t0 N C O Q R L E I) (hr : KR s0 t0 C Q R L I t) (hcl : c < C.length) (hrr : (hAt C Q R I c).2.2.1 ≤ r ∧ r < (hAt C Q R I (c + 1)).2.2.1) (hl : (R.getD r (0, 0)).2 ≤ l ∧ l < E.getD r 0) (hi : i < 2 + C.length) (h216 : t 216 r = (i : Int)) (hT : TOK F P s0 t0 N C Q R L I c b T) (hI : IRr F P t0 C Q R I c T t) : ∃ t', m_findInner_81b (c : Int) (r : Int) (l : Int) t = some (.inl (((l + 1 : Nat) : Int), t')) ∧ IRr F P t0 C Q R I c (gtT F P s0 t0 C O Q R L I c b i l T) t' ∧ (∀ c' k, c' ≠ 214 → t' c' k = t c' k) ∧ (∀ k, ¬ ((hAt C Q R I c).2.2.2 ≤ k ∧ k < (hAt C Q R I (c + 1)).2.2.2) → t' 214 k = t 214 k) := by
  have hN := N2001 h.1
  have bd' := KHS_bd hs
  have rq := (KHS_q hs (c := c + 1) (by omega)).2.1
  obtain ⟨-, ⟨-, -, qe, -⟩, -, -, p, ⟨i1, i2, i3⟩, i4, i5⟩ := KHS_c hs hcl
  obtain ⟨-, -, le, g⟩ := p r hrr.1 hrr.2
  obtain ⟨⟨lo1, lo2, lo3, lo4, lo5⟩, -⟩ := g l hl.1 hl.2
  have lx : l < L.length := by omega
  obtain ⟨⟨r1, r2, r3, r4⟩, r5, -, -⟩ := hr.2.1.2.2.2.1.2 l lx
  have lLd : (L.getD l (0, 0)).1 = lL L l := rfl
  have lRd : (L.getD l (0, 0)).2 = lR L l := rfl
  rw [lLd] at lo1 lo2 lo3 r1 r2 r3 r4
  rw [lRd] at lo4 lo5 r5
  obtain ⟨-, e203⟩ := KR_e hs hr (r := r) (by omega)
  have kd := kd1 h.1 (show lR L l < N by omega)
  have nop : gtT F P s0 t0 C O Q R L I c b i l T = T → IRr F P t0 C Q R I c (gtT F P s0 t0 C O Q R L I c b i l T) t := fun e => by rw [e]; exact hI
  have sv : (l : Int) + 1 = ((l + 1 : Nat) : Int) := by omega
  unfold m_findInner_81b
  rw [gd_pos (by omega), gr (by omega), show ((r : Int) + 1).toNat = r + 1 by omega, e203, gr (by omega), if_neg (by omega), gd_pos (by omega), Int.toNat_natCast, h216, gr (by omega), if_neg (by omega), gd_pos (by omega), Int.toNat_natCast, r1, r_pin h hs hr ⟨lo1, lo2⟩ hi, bq, r5, gd_pos (by omega), Int.toNat_natCast, hr.1.2.1, gr (by omega)]
  unfold m_findInner_151
  rcases pfI_rg (j := lL L l) hs hi with z | ⟨k, z1, z2, z3, z4⟩
  · -- no pin
    have nt : gtT F P s0 t0 C O Q R L I c b i l T = T := by unfold gtT; rw [if_neg (fun y => y.1.1 z)]
    rw [z, if_pos rfl, sv]
    refine ⟨t, ?_, nop nt, fun _ _ _ => rfl, fun _ _ => rfl⟩
    by_cases c1 : t0 124 (lR L l) = 1
    · rw [if_pos c1, r_in h hs hr hcl ⟨by omega, kd.1.mp c1⟩, bq, gr (by omega), if_pos rfl]
    · rw [if_neg c1, gr (by omega), if_pos rfl]
  have pm := paI_m hs hi
  obtain ⟨ro, rw'⟩ := r_out hs hr hi ⟨z2, z3⟩
  rw [z1, if_neg (show ¬ (k : Int) = -1 by omega)]
  by_cases c3 : s0 9 (lR L l) = 3
  case neg =>
    have nt : gtT F P s0 t0 C O Q R L I c b i l T = T := by unfold gtT; rw [if_neg (fun y => c3 y.1.2.2.1)]
    rw [if_neg (fun y => c3 (kd.1.mp y)), gr (by omega), if_neg (by omega), gr (by omega), if_pos rfl, sv]
    exact ⟨t, rfl, nop nt, fun _ _ _ => rfl, fun _ _ => rfl⟩
  rw [if_pos (kd.1.mpr c3), r_in h hs hr hcl ⟨by omega, c3⟩, bq]
  obtain ⟨fx, hfx⟩ : ∃ fx, fx = fst1 (fun x => nmT F P t0 (I.getD x 0) = nmT F P t0 (lR L l)) (hAt C Q R I c).2.2.2 ((hAt C Q R I (c + 1)).2.2.2 - (hAt C Q R I c).2.2.2) := ⟨_, rfl⟩
  have fr := fst1_rg (P := fun x => nmT F P t0 (I.getD x 0) = nmT F P t0 (lR L l)) ((hAt C Q R I (c + 1)).2.2.2 - (hAt C Q R I c).2.2.2) (hAt C Q R I c).2.2.2
  rw [← hfx] at fr ⊢
  by_cases pp : pfI F P t0 C Q R I (2 + c) (lR L l) = -1
  case neg =>
    have nt : gtT F P s0 t0 C O Q R L I c b i l T = T := by unfold gtT; rw [if_neg (fun y => pp y.1.2.2.2)]
    have := inx_pin hs hcl pp
    rw [← hfx] at this
    rw [this, gr (by omega), if_neg (by omega), gr (by omega), if_pos rfl, sv]
    exact ⟨t, rfl, nop nt, fun _ _ _ => rfl, fun _ _ => rfl⟩
  obtain ⟨y, y1, y2, y3⟩ := KHS_cv hs hcl hrr hl c3 pp
  have fx0 : fx ≠ -1 := fun z => by
    rw [hfx, fst1_no] at z
    exact z y y1 (by omega) y3
  obtain ⟨x, hx, x1, x2, x3⟩ : ∃ x : Nat, fx = (x : Int) ∧ (hAt C Q R I c).2.2.2 ≤ x ∧ x < (hAt C Q R I (c + 1)).2.2.2 ∧ nmT F P t0 (I.getD x 0) = nmT F P t0 (lR L l) := by
    rcases fr with z | ⟨z5, z6, z7⟩
    · exact absurd z fx0
    · exact ⟨fx.toNat, by omega, by omega, by omega, z7⟩
  rw [hx, gr (by omega), if_neg (by omega), gr (by omega), if_neg (by omega), gd_pos (by omega), Int.toNat_natCast, h216, ro, bq]
  by_cases co : k < ooI O i
  · have nt : gtT F P s0 t0 C O Q R L I c b i l T = T := by unfold gtT; rw [if_neg (fun y => by have := y.1.2.1; rw [z1] at this; omega)]
    rw [if_pos co, gr (by omega), if_pos rfl, sv]
    exact ⟨t, rfl, nop nt, fun _ _ _ => rfl, fun _ _ => rfl⟩
  have e214 : t 214 x = wOf F P t0 T (nmT F P t0 (lR L l)) := by rw [hI x x1 x2, x3]
  obtain ⟨wn, wr⟩ := wOf_ne (F := F) (P := P) (t0 := t0) (nm := nmT F P t0 (lR L l)) T (fun e he => (hT.1 e he).2.2)
  rw [if_neg co, gr (by omega), if_neg (by omega), gd_pos (by omega), Int.toNat_natCast, e214, gr (by omega)]
  by_cases w0 : wOf F P t0 T (nmT F P t0 (lR L l)) = 0
  case neg =>
    have nt : gtT F P s0 t0 C O Q R L I c b i l T = T := by unfold gtT; rw [if_neg (fun y => w0 (wn.mpr (fnT_no.mp y.2)))]
    rw [if_neg w0, sv]
    exact ⟨t, rfl, nop nt, fun _ _ _ => rfl, fun _ _ => rfl⟩
  have fn := fnT_no.mpr (wn.mp w0)
  obtain ⟨wd, hwd⟩ : ∃ wd, wd = rwB s0 (lL L l) (pwI s0 Q k) := ⟨_, rfl⟩
  have ey : gtT F P s0 t0 C O Q R L I c b i l T = T ++ [(lR L l, l, wd, owT b T)] := by
    unfold gtT
    rw [if_pos ⟨⟨by rw [z1]; omega, by rw [z1]; omega, c3, pp⟩, fn⟩, z1, Int.toNat_natCast, hwd]
  have pr := pwI_rg (s0 := s0) (Q := Q) (k := k)
  obtain ⟨rf1, rf2⟩ := r_fit (t := t) h.1 lo3 pr
  rw [← hwd] at rf1 rf2
  have fin : IRr F P t0 C Q R I c (gtT F P s0 t0 C O Q R L I c b i l T) (up t 214 x wd) := fun u u1 u2 => by
    rw [ey, wOf_snoc]
    by_cases ux : u = x
    · rw [ux, up_same, x3, if_pos (wn.mp w0), if_pos rfl]
    · rw [up_ne (by omega), hI u u1 u2]
      have dn : nmT F P t0 (I.getD u 0) ≠ nmT F P t0 (lR L l) := fun z => by
        rcases Nat.lt_trichotomy u x with w | w | w
        · exact i5 u x u1 w x2 (z.trans x3.symm)
        · exact ux w
        · exact i5 x u x1 w u2 (x3.trans z.symm)
      by_cases q1 : ∀ e ∈ T, nmT F P t0 e.1 ≠ nmT F P t0 (I.getD u 0)
      · rw [if_pos q1, if_neg (fun z => dn z.symm)]
        exact wOf_no T q1
      · rw [if_neg q1]
  have e268 : m_findInner_268 (c : Int) (r : Int) (l : Int) wd (x : Int) t = some (.inl (((l + 1 : Nat) : Int), up t 214 x wd)) := by
    unfold m_findInner_268
    rw [gd_pos (by omega), Int.toNat_natCast, lt_eq, sv]
  rw [if_pos w0, h216, rw', bq, gd_pos (by omega), Int.toNat_natCast, r2, r3, r4, rf1, bq]
  refine ⟨up t 214 x wd, ?_, fin, fun c' k' z => up_ne (by omega), fun k' z => up_ne (by omega)⟩
  by_cases wm : wd = -1
  · rw [if_pos wm, gr (by omega), if_pos rfl]
    rw [wm] at e268 ⊢
    exact e268
  · rw [if_neg wm, gr (by omega), if_neg (by omega), r2, r3, r4, rf2 wm, bq]
    exact e268
/-- the reference: the links of a part -/
theorem r_gatL (h : TKH F n N P s0 t0) (hs : KHS F P s0 t0 N C O Q R L E I) (hcl : c < C.length) (hrr : (hAt C Q R I c).2.2.1 ≤ r ∧ r < (hAt C Q R I (c + 1)).2.2.1) (hi : i < 2 + C.length) {T0 : List tEn} : ∀ (m l : Nat) (t : iS), l + m = E.getD r 0 → (R.getD r (0, 0)).2 ≤ l → KR s0 t0 C Q R L I t → t 216 r = (i : Int) → TOK F P s0 t0 N C Q R L I c b (gtL F P s0 t0 C O Q R L I c b i (R.getD r (0, 0)).2 T0 (l - (R.getD r (0, 0)).2)) → IRr F P t0 C Q R I c (gtL F P s0 t0 C O Q R L I c b i (R.getD r (0, 0)).2 T0 (l - (R.getD r (0, 0)).2)) t → ∃ t', m_findInner_81 (c : Int) (r : Int) (l : Int) t = some (.inl (((r + 1 : Nat) : Int), t')) ∧ IRr F P t0 C Q R I c (gtL F P s0 t0 C O Q R L I c b i (R.getD r (0, 0)).2 T0 (E.getD r 0 - (R.getD r (0, 0)).2)) t' ∧ (∀ c' k, c' ≠ 214 → t' c' k = t c' k) ∧ (∀ k, ¬ ((hAt C Q R I c).2.2.2 ≤ k ∧ k < (hAt C Q R I (c + 1)).2.2.2) → t' 214 k = t 214 k)
  | 0, l, t, hm, hl, hr, h216, hT, hI => by
    have bd' := KHS_bd hs
    have e : l = E.getD r 0 := by omega
    have rq := (KHS_q hs (c := c + 1) (by omega)).2.1
    obtain ⟨-, -, -, -, p, -, -, -⟩ := KHS_c hs hcl
    obtain ⟨-, -, le, g⟩ := p r hrr.1 hrr.2
    obtain ⟨-, e203⟩ := KR_e hs hr (r := r) (by omega)
    rw [e] at hI
    refine ⟨t, ?_, hI, fun _ _ _ => rfl, fun _ _ => rfl⟩
    unfold m_findInner_81
    rw [lp_end (f := fun l : Int × iS => m_findInner_81b (c : Int) (r : Int) (l.1) (l.2)) (e := t) (by
      show m_findInner_81b (c : Int) (r : Int) (l : Int) t = _
      unfold m_findInner_81b
      rw [gd_pos (by omega), gr (by omega), show ((r : Int) + 1).toNat = r + 1 by omega, e203, gr (by omega), if_pos (by omega)])]
    rfl
  | m + 1, l, t, hm, hl, hr, h216, hT, hI => by
    obtain ⟨t1, a1, a2, a3, a4⟩ := r_gat1 h hs hr hcl hrr ⟨hl, by omega⟩ hi h216 hT hI
    have en : gtL F P s0 t0 C O Q R L I c b i (R.getD r (0, 0)).2 T0 (l + 1 - (R.getD r (0, 0)).2) = gtT F P s0 t0 C O Q R L I c b i l (gtL F P s0 t0 C O Q R L I c b i (R.getD r (0, 0)).2 T0 (l - (R.getD r (0, 0)).2)) := by
      rw [show l + 1 - (R.getD r (0, 0)).2 = (l - (R.getD r (0, 0)).2) + 1 by omega]
      show gtT F P s0 t0 C O Q R L I c b i ((R.getD r (0, 0)).2 + (l - (R.getD r (0, 0)).2)) _ = _
      rw [show (R.getD r (0, 0)).2 + (l - (R.getD r (0, 0)).2) = l by omega]
    have hT1 := gtT_ok (i := i) hs hcl hrr (l := l) ⟨hl, by omega⟩ h.1 hT
    rw [← en] at a2 hT1
    obtain ⟨t', b1, b3, b4, b5⟩ := r_gatL h hs hcl hrr hi (T0 := T0) m (l + 1) t1 (by omega) (by omega) (KR_of hr (fun c' k z => a3 c' k (by omega))) (by rw [a3 216 r (by omega)]; exact h216) hT1 a2
    refine ⟨t', ?_, b3, fun c' k z1 => by rw [b4 c' k z1, a3 c' k z1], fun k z => by rw [b5 k z, a4 k z]⟩
    rw [← b1]
    unfold m_findInner_81
    rw [lp_next (f := fun l : Int × iS => m_findInner_81b (c : Int) (r : Int) (l.1) (l.2)) (l' := (((l + 1 : Nat) : Int), t1)) (by
      show m_findInner_81b (c : Int) (r : Int) (l : Int) t = _
      exact a1)]
/-- the reference: all parts of a chip -/
theorem r_gatR (h : TKH F n N P s0 t0) (hs : KHS F P s0 t0 N C O Q R L E I) (hcl : c < C.length) {T0 : List tEn} (hTT : ∀ m, m ≤ (hAt C Q R I (c + 1)).2.2.1 - (hAt C Q R I c).2.2.1 → TOK F P s0 t0 N C Q R L I c b (gtR F P s0 t0 C O Q R L E I c b (hAt C Q R I c).2.2.1 T0 m)) : ∀ (m r : Nat) (t : iS), r + m = (hAt C Q R I (c + 1)).2.2.1 → (hAt C Q R I c).2.2.1 ≤ r → KR s0 t0 C Q R L I t → (∀ x, (hAt C Q R I c).2.2.1 ≤ x → x < r → t 216 x = cix F P t0 C (R.getD x (0, 0)).1) → IRr F P t0 C Q R I c (gtR F P s0 t0 C O Q R L E I c b (hAt C Q R I c).2.2.1 T0 (r - (hAt C Q R I c).2.2.1)) t → ∃ t', m_findInner_46 (c : Int) (r : Int) t = some (0, t') ∧ (∀ x, (hAt C Q R I c).2.2.1 ≤ x → x < (hAt C Q R I (c + 1)).2.2.1 → t' 216 x = cix F P t0 C (R.getD x (0, 0)).1) ∧ IRr F P t0 C Q R I c (gtR F P s0 t0 C O Q R L E I c b (hAt C Q R I c).2.2.1 T0 ((hAt C Q R I (c + 1)).2.2.1 - (hAt C Q R I c).2.2.1)) t' ∧ (∀ c' k, c' ≠ 214 → c' ≠ 216 → t' c' k = t c' k) ∧ (∀ k, ¬ ((hAt C Q R I c).2.2.2 ≤ k ∧ k < (hAt C Q R I (c + 1)).2.2.2) → t' 214 k = t 214 k) ∧ (∀ k, ¬ (r ≤ k ∧ k < (hAt C Q R I (c + 1)).2.2.1) → t' 216 k = t 216 k)
  | 0, r, t, hm, hr', hr, h216, hI => by
    have bd' := KHS_bd hs
    have e : r = (hAt C Q R I (c + 1)).2.2.1 := by omega
    have rq := (KHS_q hs (c := c + 1) (by omega)).2.1
    have e201 := (KR_c hr (c := c + 1) (by omega)).2.1
    rw [e] at hI
    refine ⟨t, ?_, fun x x1 x2 => h216 x x1 (by omega), hI, fun _ _ _ _ => rfl, fun _ _ => rfl, fun _ _ => rfl⟩
    unfold m_findInner_46
    rw [lp_end (f := fun l : Int × iS => m_findInner_46b (c : Int) (l.1) (l.2)) (e := t) (by
      show m_findInner_46b (c : Int) (r : Int) t = _
      unfold m_findInner_46b
      rw [gd_pos (by omega), gr (by omega), show ((c : Int) + 1).toNat = c + 1 by omega, e201, gr (by omega), if_pos (by omega)])]
    rfl
  | m + 1, r, t, hm, hr', hr, h216, hI => by
    have bd' := KHS_bd hs
    have rq := (KHS_q hs (c := c + 1) (by omega)).2.1
    have e201 := (KR_c hr (c := c + 1) (by omega)).2.1
    have rr : (hAt C Q R I c).2.2.1 ≤ r ∧ r < (hAt C Q R I (c + 1)).2.2.1 := ⟨hr', by omega⟩
    obtain ⟨-, -, -, -, p, -, -, -⟩ := KHS_c hs hcl
    obtain ⟨ptk, fle, le, g⟩ := p r rr.1 rr.2
    have e202 : t 202 r = (((R.getD r (0, 0)).1 : Nat) : Int) := (hr.2.1.2.2.1.2 r (by omega)).1
    obtain ⟨ta, hta⟩ : ∃ ta, ta = up t 216 r (cix F P t0 C (R.getD r (0, 0)).1) := ⟨_, rfl⟩
    have fta : ∀ c' k, ¬ (c' = 216 ∧ k = r) → ta c' k = t c' k := fun c' k z => by rw [hta, up_ne z]
    have hra : KR s0 t0 C Q R L I ta := KR_of hr (fun c' k z => fta c' k (by omega))
    obtain ⟨e203a, e203b⟩ := KR_e hs hra (r := r) (by omega)
    have hIa : IRr F P t0 C Q R I c (gtR F P s0 t0 C O Q R L E I c b (hAt C Q R I c).2.2.1 T0 (r - (hAt C Q R I c).2.2.1)) ta := fun x x1 x2 => by rw [fta 214 x (by omega)]; exact hI x x1 x2
    have ta216 : ta 216 r = cix F P t0 C (R.getD r (0, 0)).1 := by rw [hta, up_same]
    have en : gtR F P s0 t0 C O Q R L E I c b (hAt C Q R I c).2.2.1 T0 (r + 1 - (hAt C Q R I c).2.2.1) = if cix F P t0 C (R.getD r (0, 0)).1 = -1 then gtR F P s0 t0 C O Q R L E I c b (hAt C Q R I c).2.2.1 T0 (r - (hAt C Q R I c).2.2.1) else gtL F P s0 t0 C O Q R L I c b (cix F P t0 C (R.getD r (0, 0)).1).toNat (R.getD r (0, 0)).2 (gtR F P s0 t0 C O Q R L E I c b (hAt C Q R I c).2.2.1 T0 (r - (hAt C Q R I c).2.2.1)) (E.getD r 0 - (R.getD r (0, 0)).2) := by
      rw [show r + 1 - (hAt C Q R I c).2.2.1 = (r - (hAt C Q R I c).2.2.1) + 1 by omega]
      show (if cix F P t0 C (R.getD ((hAt C Q R I c).2.2.1 + (r - (hAt C Q R I c).2.2.1)) (0, 0)).1 = -1 then _ else _) = _
      rw [show (hAt C Q R I c).2.2.1 + (r - (hAt C Q R I c).2.2.1) = r by omega]
    obtain ⟨t1, a1, a2, a3, a4⟩ : ∃ t1, m_findInner_81 (c : Int) (r : Int) (((R.getD r (0, 0)).2 : Nat) : Int) ta = some (.inl (((r + 1 : Nat) : Int), t1)) ∧ IRr F P t0 C Q R I c (gtR F P s0 t0 C O Q R L E I c b (hAt C Q R I c).2.2.1 T0 (r + 1 - (hAt C Q R I c).2.2.1)) t1 ∧ (∀ c' k, c' ≠ 214 → t1 c' k = ta c' k) ∧ (∀ k, ¬ ((hAt C Q R I c).2.2.2 ≤ k ∧ k < (hAt C Q R I (c + 1)).2.2.2) → t1 214 k = ta 214 k) := by
      rw [en]
      rcases cix_rg (j := (R.getD r (0, 0)).1) hs with z | ⟨i, z1, z2⟩
      · rw [if_pos z]
        refine ⟨ta, ?_, hIa, fun _ _ _ => rfl, fun _ _ => rfl⟩
        unfold m_findInner_81
        rw [lp_end (f := fun l : Int × iS => m_findInner_81b (c : Int) (r : Int) (l.1) (l.2)) (e := ta) (by
          show m_findInner_81b (c : Int) (r : Int) (((R.getD r (0, 0)).2 : Nat) : Int) ta = _
          unfold m_findInner_81b
          rw [gd_pos (by omega), gr (by omega), show ((r : Int) + 1).toNat = r + 1 by omega, e203b, gr (by omega)]
          by_cases y : ((E.getD r 0 : Nat) : Int) ≤ (((R.getD r (0, 0)).2 : Nat) : Int)
          · rw [if_pos y]
          · rw [if_neg y, gd_pos (by omega), Int.toNat_natCast, ta216, z, gr (by omega), if_pos rfl])]
        rfl
      · rw [if_neg (by omega), z1, Int.toNat_natCast]
        exact r_gatL (b := b) h hs hcl rr z2 (E.getD r 0 - (R.getD r (0, 0)).2) (R.getD r (0, 0)).2 ta (by omega) (Nat.le_refl _) hra (by rw [ta216]; exact z1) (by rw [Nat.sub_self]; exact hTT _ (by omega)) (by rw [Nat.sub_self]; exact hIa)
    obtain ⟨t', b1, b2, b3, b4, b5, b6⟩ := r_gatR h hs hcl hTT m (r + 1) t1 (by omega) (by omega) (KR_of hra (fun c' k z => a3 c' k (by omega))) (fun x x1 x2 => by
      rw [a3 216 x (by omega)]
      by_cases y : x = r
      · rw [y]; exact ta216
      · rw [fta 216 x (by omega)]; exact h216 x x1 (by omega)) a2
    refine ⟨t', ?_, b2, b3, fun c' k z1 z2 => by rw [b4 c' k z1 z2, a3 c' k z1, fta c' k (by omega)], fun k z => by rw [b5 k z, a4 k z, fta 214 k (by omega)], fun k z => by rw [b6 k (by omega), a3 216 k (by omega), fta 216 k (by omega)]⟩
    rw [← b1]
    unfold m_findInner_46
    rw [lp_next (f := fun l : Int × iS => m_findInner_46b (c : Int) (l.1) (l.2)) (l' := (((r + 1 : Nat) : Int), t1)) (by
      show m_findInner_46b (c : Int) (r : Int) t = _
      unfold m_findInner_46b
      rw [gd_pos (by omega), gr (by omega), show ((c : Int) + 1).toNat = c + 1 by omega, e201, gr (by omega), if_neg (by omega), gd_pos (by omega), Int.toNat_natCast, e202, r_chip h hs hr ptk, bq, lt_eq, ← hta, gd_pos (by omega), e203a]
      exact a1)]
end CIj
