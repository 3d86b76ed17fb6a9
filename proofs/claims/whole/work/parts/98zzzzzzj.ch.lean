/-! chips: all parts of a chip; a chip -/
section CHh
variable {F : Nat → Int} {n N : Nat} {P : Nat → Nat} {s0 t0 s t s' t' : iS} {p q j : Nat} {C : List chR} {O I J E : List Nat} {Q : List (Nat × Int)} {R L : List (Nat × Nat)} {c0 : chR} {f : Int}
/-- a part with its links -/
def PRT (F : Nat → Int) (P : Nat → Nat) (s0 t0 : iS) (N fp fe fi fj : Nat) (Q : List (Nat × Int)) (R L : List (Nat × Nat)) (E I : List Nat) (r : Nat) : Prop := ((R.getD r (0, 0)).1 < N ∧ s0 9 (R.getD r (0, 0)).1 = 3) ∧ (R.getD r (0, 0)).2 ≤ E.getD r 0 ∧ E.getD r 0 ≤ L.length ∧ ∀ l, (R.getD r (0, 0)).2 ≤ l → l < E.getD r 0 → lOK s0 N (L.getD l (0, 0)) ∧ (s0 9 (L.getD l (0, 0)).2 = 3 → (∃ k, fp ≤ k ∧ k < fe ∧ nmT F P t0 (Q.getD k (0, 0)).1 = nmT F P t0 (L.getD l (0, 0)).2) ∨ (∃ x, fi ≤ x ∧ x < fj ∧ nmT F P t0 (I.getD x 0) = nmT F P t0 (L.getD l (0, 0)).2))
theorem PRT_app {fp fe fi fj r : Nat} {qs : List (Nat × Int)} {rs ls : List (Nat × Nat)} {es is : List Nat} (h : PRT F P s0 t0 N fp fe fi fj Q R L E I r) (hr : r < R.length) (hE : r < E.length) (hq : fe ≤ Q.length) (hi : fj ≤ I.length) {fj' : Nat} (hj : fj ≤ fj') : PRT F P s0 t0 N fp fe fi fj' (Q ++ qs) (R ++ rs) (L ++ ls) (E ++ es) (I ++ is) r := by
  obtain ⟨h1, h2, h3, h4⟩ := h
  unfold PRT
  rw [gdL hr, gdL hE]
  refine ⟨h1, h2, by rw [List.length_append]; omega, fun l l1 l2 => ?_⟩
  rw [gdL (by omega)]
  obtain ⟨g1, g2⟩ := h4 l l1 l2
  refine ⟨g1, fun z => ?_⟩
  rcases g2 z with ⟨k, k1, k2, k3⟩ | ⟨x, x1, x2, x3⟩
  · exact Or.inl ⟨k, k1, k2, by rw [gdL (by omega)]; exact k3⟩
  · exact Or.inr ⟨x, x1, by omega, by rw [gdL (by omega)]; exact x3⟩
/-- the parts of a chip -/
theorem h_parts (hH : TKH F n N P s0 t0) (hc : c0.2.1 ≤ Q.length ∧ c0.2.2.2 = I.length) (hQ : ∀ x ∈ Q, x.1 < N ∧ s0 9 x.1 = 3) (h384 : c0.2.2.1 + 24 ≤ 384) : ∀ (k p : Nat) (R L : List (Nat × Nat)) (J E : List Nat) (s t : iS) (j : Nat), N - p ≤ k → RLv F P s0 t0 N (C ++ [c0]) O Q R L I J p s t → bdL (C ++ [c0]) Q R L J → 4 * L.length ≤ p → I.length + J.length ≤ L.length → JOK F P s0 t0 N c0.2.1 Q J → c0.2.2.1 ≤ R.length ∧ R.length ≤ c0.2.2.1 + 24 → ECH R E L → PcE E s → 2 * j ≤ p → ∃ s' t', crd_readChip_123 ((C.length + 2 : Nat) : Int) (j : Int) s = some (0, s') ∧ m_chip_175 t = some (0, t') ∧ ((∃ rs ls js es p', RLv F P s0 t0 N (C ++ [c0]) O Q (R ++ rs) (L ++ ls) I (J ++ js) p' s' t' ∧ p < p' ∧ (R ++ rs).length ≤ c0.2.2.1 + 24 ∧ 4 * (L ++ ls).length ≤ p' ∧ (J ++ js).length ≤ 100 ∧ (L ++ ls).length ≤ 500 ∧ I.length + (J ++ js).length ≤ (L ++ ls).length ∧ JOK F P s0 t0 N c0.2.1 Q (J ++ js) ∧ ECH (R ++ rs) (E ++ es) (L ++ ls) ∧ PcE (E ++ es) s' ∧ s' 78 (C.length + 3) = ((R ++ rs).length : Int) ∧ (∀ k, s' 76 k = s 76 k) ∧ ∀ r, R.length ≤ r → r < (R ++ rs).length → PRT F P s0 t0 N c0.2.1 Q.length 0 (J ++ js).length Q (R ++ rs) (L ++ ls) (E ++ es) (J ++ js) r) ∨ RDd P s0 t0 N s' t')
  | 0, p, R, L, J, E, s, t, j, hk, hl, hb, h4, hI, hJ, hr, hE, pE, hj => by
    have := hl.1.2.2.2.2.1
    omega
  | k + 1, p, R, L, J, E, s, t, j, hk, hl, hb, h4, hI, hJ, hr, hE, pE, hj => by
    have h := hH.1
    have hN := N2001 h
    obtain ⟨a1, a2, a3, a4, a5, a6, a7⟩ := hl.1
    have kk := kRg h a5
    have ll : (C ++ [c0]).length = C.length + 1 := by rw [List.length_append]; rfl
    have C16 : C.length + 1 ≤ 16 := by have := hb.1; omega
    have sz := RLv_sz hl hb
    by_cases c3 : s0 9 p = 3
    · obtain ⟨s1, t1, g1, g2, g3⟩ := h_part hH hc hQ hl hb h4 hI hJ hr h384 hE pE c3
      have ec : crd_readChip_123 ((C.length + 2 : Nat) : Int) (j : Int) s = crd_readChip_123 ((C.length + 2 : Nat) : Int) ((j + 1 : Nat) : Int) s1 := by
        unfold crd_readChip_123
        rw [lp_next (f := fun l : Int × iS => crd_readChip_123b ((C.length + 2 : Nat) : Int) (l.1) (l.2)) (l' := (((j + 1 : Nat) : Int), s1)) (by
          show crd_readChip_123b ((C.length + 2 : Nat) : Int) (j : Int) s = _
          unfold crd_readChip_123b
          rw [gr (by omega), if_neg (by omega), cK h a1 a3 a5, bq, gr (by omega), if_pos c3, g1, bq, show (j : Int) + 1 = ((j + 1 : Nat) : Int) by omega])]
      have er : m_chip_175 t = m_chip_175 t1 := by
        unfold m_chip_175
        rw [lp_next (f := fun l : iS => m_chip_175b l) (l' := t1) (by
          show m_chip_175b t = _
          unfold m_chip_175b
          rw [a7, gr (by omega), if_pos rfl, rS h a2 a4 a5 (by omega), bq, if_neg (by omega), gr (by omega), if_pos rfl, g2, bq])]
      rw [ec, er]
      rcases g3 with ⟨ls, js, p1, y1, y2, y3, y4, y5, y6, y7, y8, y9, y10, y11, y12⟩ | ⟨f, u, y1, y2, y3, y4, y5, y6⟩
      case inr =>
        obtain ⟨s2, x1, x2⟩ := dC123 (v := C.length + 2) (y := ((j + 1 : Nat) : Int)) h ⟨y3, y4, y1⟩ (by omega) ⟨by omega, by omega⟩
        rw [x1, e175 h ⟨y5, y6, y1⟩]
        exact ⟨_, _, rfl, rfl, Or.inr ⟨f, u, y1, y2, x2.1, x2.2.1, y5, y6⟩⟩
      have lR : (R ++ [(p, L.length)]).length = R.length + 1 := by rw [List.length_append]; rfl
      obtain ⟨s', t', i1, i2, i3⟩ := h_parts hH hc hQ h384 k p1 (R ++ [(p, L.length)]) (L ++ ls) (J ++ js) (E ++ [(L ++ ls).length]) s1 t1 (j + 1) (by omega) y1 ⟨hb.1, hb.2.1, by rw [lR]; omega, y7, y6⟩ y4 y8 y9 (by rw [lR]; omega) y10 y11 (by omega)
      refine ⟨s', t', i1, i2, ?_⟩
      rcases i3 with ⟨rs, ls', js', es, p', z1, z2, z3, z4, z5, z6, z7, z8, z9, z10, z11, z76, z12⟩ | z
      case inr => exact Or.inr z
      have eR : (R ++ [(p, L.length)]) ++ rs = R ++ ((p, L.length) :: rs) := by rw [List.append_assoc]; rfl
      have eL : (L ++ ls) ++ ls' = L ++ (ls ++ ls') := List.append_assoc _ _ _
      have eJ : (J ++ js) ++ js' = J ++ (js ++ js') := List.append_assoc _ _ _
      have eE : (E ++ [(L ++ ls).length]) ++ es = E ++ ((L ++ ls).length :: es) := by rw [List.append_assoc]; rfl
      refine Or.inl ⟨(p, L.length) :: rs, ls ++ ls', js ++ js', (L ++ ls).length :: es, p', ?_⟩
      rw [← eR, ← eL, ← eJ, ← eE]
      have f76 : ∀ k, s1 76 k = s 76 k := fun k => (show md L_crd_readPart G_crd_readPart s s1 from fcrd_readPart _ _ _ g1) 76 k (by simp [L_crd_readPart]) (by simp [G_crd_readPart])
      refine ⟨z1, by omega, z3, z4, z5, z6, z7, z8, z9, z10, z11, fun k => by rw [z76, f76], fun r r1 r2 => ?_⟩
      by_cases c : R.length + 1 ≤ r
      · exact z12 r (by rw [lR]; exact c) r2
      · have : r = R.length := by omega
        subst this
        have el := hE.1
        have b0 : PRT F P s0 t0 N c0.2.1 Q.length 0 (J ++ js).length Q (R ++ [(p, L.length)]) (L ++ ls) (E ++ [(L ++ ls).length]) (J ++ js) R.length := by
          unfold PRT
          rw [gd_end, ← el, gd_end]
          refine ⟨⟨a5, c3⟩, by rw [List.length_append]; exact Nat.le_add_right _ _, Nat.le_refl _, fun l l1 l2 => ?_⟩
          have l1' : L.length ≤ l := l1
          have m : (L ++ ls).getD l (0, 0) ∈ ls := by
            rw [gdR l1']
            rw [List.length_append] at l2
            exact gd_mem (by omega)
          obtain ⟨x1, x2⟩ := y5 _ m
          refine ⟨x1, fun w => ?_⟩
          rcases x2 w with w1 | ⟨x, w1, w2⟩
          · exact Or.inl w1
          · obtain ⟨i, hi, e⟩ := List.getElem_of_mem w1
            refine Or.inr ⟨i, by omega, hi, ?_⟩
            rw [List.getD_eq_getElem?_getD, List.getElem?_eq_getElem hi]
            show nmT F P t0 (J ++ js)[i] = _
            rw [e]; exact w2
        have := PRT_app (qs := []) (rs := rs) (ls := ls') (es := es) (is := js') (fj' := ((J ++ js) ++ js').length) b0 (by rw [lR]; omega) (by rw [List.length_append, List.length_singleton, el]; omega) (Nat.le_refl _) (Nat.le_refl _) (by rw [List.length_append (as := J ++ js)]; omega)
        rw [List.append_nil] at this
        exact this
    · -- no part more
      obtain ⟨s1, hs1⟩ : ∃ s1, s1 = up s 78 (C.length + 3) (R.length : Int) := ⟨_, rfl⟩
      have fs1 : ∀ c k, ¬ (c = 78 ∧ k = C.length + 3) → s1 c k = s c k := fun c k y => by rw [hs1, up_ne y]
      have rl1 : RLv F P s0 t0 N (C ++ [c0]) O Q R L I J p s1 t := by
        obtain ⟨-, ⟨h2, h3, h4⟩, ⟨h5, h6⟩, ⟨h7, h8⟩, ⟨h9, h10⟩, ⟨h11, h12⟩, h13⟩ := id hl
        exact ⟨LVh_of hl.1 (fun c k y => fs1 c k (by omega)) (fun _ _ _ => rfl), ⟨PcC_of h2 (fun c k y => fs1 c k (by omega)), h3, PcO_of h4 (fun k y => fs1 77 k (by omega))⟩, ⟨PcP_of h5 (fun c k y => fs1 c k (by omega)), h6⟩, ⟨PcR_of h7 (fun c k y => fs1 c k (by omega)), h8⟩, ⟨PcL_of h9 (fun c k y => fs1 c k (by omega)), h10⟩, ⟨PcI_of h11 (fun c k y => fs1 c k (by omega)), h12⟩, STc_of h13 (fun c k y => fs1 c k (by omega))⟩
      have ec : crd_readChip_123 ((C.length + 2 : Nat) : Int) (j : Int) s = bd (tok_expect 125 s1) (fun _ s3 => some (0, s3)) := by
        have e13 : s 71 13 = (R.length : Int) := hl.2.2.2.1.1.1
        unfold crd_readChip_123
        rw [lp_end (f := fun l : Int × iS => crd_readChip_123b ((C.length + 2 : Nat) : Int) (l.1) (l.2)) (e := s) (by
          show crd_readChip_123b ((C.length + 2 : Nat) : Int) (j : Int) s = _
          unfold crd_readChip_123b
          rw [gr (by omega), if_neg (by omega), cK h a1 a3 a5, bq, gr (by omega), if_neg c3])]
        show crd_readChip_152 ((C.length + 2 : Nat) : Int) s = _
        unfold crd_readChip_152
        rw [gd_pos (by omega), show (((C.length + 2 : Nat) : Int) + 1).toNat = C.length + 3 by omega, e13, lt_eq, ← hs1]
      have sz1 := RLv_sz rl1 hb
      rcases bSg h rl1.1 (c := 125) (by omega) with ⟨m1, m2, m3, m4⟩ | ⟨f, m1, m2, m3, m5⟩
      · have er : m_chip_175 t = bd (m_needSign 125 t) (fun _ s1 => some (0, s1)) := by
          unfold m_chip_175
          rw [lp_end (f := fun l : iS => m_chip_175b l) (e := t) (by
            show m_chip_175b t = _
            unfold m_chip_175b
            rw [a7, gr (by omega), if_pos rfl, rS h a2 a4 a5 (by omega), bq, if_pos m1, gr (by omega), if_neg (by omega)])]
          rfl
        rw [ec, er, m2, bq, m3, bq]
        refine ⟨_, _, rfl, rfl, Or.inl ⟨[], [], [], [], p + 1, ?_⟩⟩
        rw [List.append_nil, List.append_nil, List.append_nil, List.append_nil]
        refine ⟨RLv_nx rl1 m4.2.2.2.2.1, by omega, hr.2, by omega, hb.2.2.2.2, hb.2.2.2.1, hI, hJ, hE, fun r hr' => by rw [up_ne (by omega), fs1 84 _ (by omega)]; exact pE r hr', by rw [up_ne (by omega), hs1, up_same], fun k => by rw [up_ne (by omega), fs1 76 k (by omega)], fun r r1 r2 => by omega⟩
      · have ff : flt t f P p = flt t (if s0 9 p = 2 then 2 else 1) P p := by
          have := rNs h a2 a7 a4 a5 (c := 125) (by omega)
          rw [if_neg m5, m3] at this
          exact (Prod.mk.inj (Option.some.inj this)).2
        have dr : rDd N P t0 f p (flt t f P p) := ⟨DRh_fl a2 a4 a5, SZr_fl sz.2, m1⟩
        have er : m_chip_175 t = some (0, flt t f P p) := by
          have e1 : m_chip_175 t = m_chip_175 (flt t f P p) := by
            unfold m_chip_175
            rw [lp_next (f := fun l : iS => m_chip_175b l) (l' := flt t f P p) (by
              show m_chip_175b t = _
              unfold m_chip_175b m_part
              rw [a7, gr (by omega), if_pos rfl, rS h a2 a4 a5 (by omega), bq, if_neg m5, gr (by omega), if_pos rfl, a4, gd_pos (by omega), Int.toNat_natCast, a2.2.1, gr (by have := (kd1 h a5).2.1; omega), if_neg (fun z => c3 ((kd1 h a5).1.mp z)), rSy h a2 a7 a4 a5, bq, bq, ← ff])]
          rw [e1, e175 h dr]
        rw [ec, er, m2, bq]
        exact ⟨_, _, rfl, rfl, Or.inr (RDd_st rl1.1 sz1 m1)⟩
/-- a chip that is read; e: what comes behind it -/
def CHI (F : Nat → Int) (P : Nat → Nat) (s0 t0 : iS) (N : Nat) (Q : List (Nat × Int)) (R L : List (Nat × Nat)) (E I : List Nat) (c : chR) (o : Nat) (e : chR) : Prop :=
  (c.1 < N ∧ s0 9 c.1 = 3) ∧ (c.2.1 < o ∧ o < e.2.1 ∧ e.2.1 ≤ Q.length ∧ e.2.1 ≤ c.2.1 + 12) ∧ (∀ k, c.2.1 ≤ k → k < e.2.1 → pOK s0 N (Q.getD k (0, 0)).1 ∧ (Q.getD k (0, 0)).2 = if k < o then 0 else 1) ∧ (c.2.2.1 ≤ e.2.2.1 ∧ e.2.2.1 ≤ R.length ∧ e.2.2.1 ≤ c.2.2.1 + 24) ∧ (∀ r, c.2.2.1 ≤ r → r < e.2.2.1 → PRT F P s0 t0 N c.2.1 e.2.1 c.2.2.2 e.2.2.2 Q R L E I r) ∧ (c.2.2.2 ≤ e.2.2.2 ∧ e.2.2.2 ≤ I.length ∧ e.2.2.2 ≤ c.2.2.2 + 100) ∧ (∀ x, c.2.2.2 ≤ x → x < e.2.2.2 → (I.getD x 0 < N ∧ s0 9 (I.getD x 0) = 3) ∧ ∀ k, c.2.1 ≤ k → k < e.2.1 → nmT F P t0 (Q.getD k (0, 0)).1 ≠ nmT F P t0 (I.getD x 0)) ∧ ∀ x y, c.2.2.2 ≤ x → x < y → y < e.2.2.2 → nmT F P t0 (I.getD x 0) ≠ nmT F P t0 (I.getD y 0)
theorem CHI_app {c e : chR} {o : Nat} {qs : List (Nat × Int)} {rs ls : List (Nat × Nat)} {es is : List Nat} (h : CHI F P s0 t0 N Q R L E I c o e) (hE : E.length = R.length) : CHI F P s0 t0 N (Q ++ qs) (R ++ rs) (L ++ ls) (E ++ es) (I ++ is) c o e := by
  obtain ⟨h1, ⟨h2, h3, h4, h5⟩, h6, ⟨h7, h8, h9⟩, h10, ⟨h11, h12, h13⟩, h14, h15⟩ := h
  refine ⟨h1, ⟨h2, h3, by rw [List.length_append]; omega, h5⟩, fun k k1 k2 => ?_, ⟨h7, by rw [List.length_append]; omega, h9⟩, fun r r1 r2 => PRT_app (h10 r r1 r2) (by omega) (by omega) h4 h12 (Nat.le_refl _), ⟨h11, by rw [List.length_append]; omega, h13⟩, fun x x1 x2 => ?_, fun x y x1 x2 x3 => ?_⟩
  · rw [gdL (by omega)]
    exact h6 k k1 k2
  · rw [gdL (by omega)]
    obtain ⟨y1, y2⟩ := h14 x x1 x2
    exact ⟨y1, fun k k1 k2 => by rw [gdL (by omega)]; exact y2 k k1 k2⟩
  · rw [gdL (by omega), gdL (by omega)]
    exact h15 x y x1 x2 x3
end CHh
