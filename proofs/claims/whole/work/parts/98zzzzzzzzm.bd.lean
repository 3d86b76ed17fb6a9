/-! chips: what a link says that has no note; sums of widths -/
theorem sW_one {f g : Nat → Nat} {a x v : Nat} : ∀ n, a ≤ x → x < a + n → f x = 0 → g x = v → (∀ y, a ≤ y → y < a + n → y ≠ x → g y = f y) → sW g a n = sW f a n + v
  | 0, h1, h2, _, _, _ => by omega
  | n + 1, h1, h2, h3, h4, h5 => by
    rw [sW_s, sW_s]
    by_cases e : x = a + n
    · have : sW g a n = sW f a n := sW_cg n (fun i hi => h5 (a + i) (by omega) (by omega) (by omega))
      rw [this, ← e, h3, h4]
      omega
    · have := sW_one n h1 (by omega) h3 h4 (fun y y1 y2 y3 => h5 y y1 (by omega) y3)
      have := h5 (a + n) (by omega) (by omega) (fun q => e q.symm)
      omega
theorem sW_z {f : Nat → Nat} {a : Nat} : ∀ n, (∀ i, i < n → f (a + i) = 0) → sW f a n = 0
  | 0, _ => rfl
  | n + 1, h => by rw [sW_s, sW_z n (fun i hi => h i (by omega)), h n (by omega)]
section CMa
variable {F : Nat → Int} {n N : Nat} {P : Nat → Nat} {s0 t0 s t s' t' : iS} {C : List chR} {O E I : List Nat} {Q : List (Nat × Int)} {R L : List (Nat × Nat)} {c b i j k q r l : Nat} {Z : List Nat} {T : List tEn} {out w : Int}
theorem wSum {nm : Nat → List Int} {a m : Nat} (hd : ∀ x y, a ≤ x → x < y → y < a + m → nm x ≠ nm y) : ∀ T : List tEn, (nmsT F P t0 T).Nodup → (∀ e ∈ T, ∃ x, a ≤ x ∧ x < a + m ∧ nm x = nmT F P t0 e.1) → sW (fun x => (wOf F P t0 T (nm x)).toNat) a m = (T.map (fun e => e.2.2.1.toNat)).sum
  | [], _, _ => sW_z m (fun i _ => rfl)
  | e :: T, h1, h2 => by
    have h1' : (nmT F P t0 e.1 :: nmsT F P t0 T).Nodup := h1
    obtain ⟨d1, d2⟩ := List.nodup_cons.mp h1'
    have ih := wSum hd T d2 (fun e' he => h2 e' (List.mem_cons_of_mem _ he))
    obtain ⟨x, x1, x2, x3⟩ := h2 e List.mem_cons_self
    have no : ∀ e' ∈ T, nmT F P t0 e'.1 ≠ nmT F P t0 e.1 := fun e' he q => d1 (by rw [← q]; exact List.mem_map.mpr ⟨e', he, rfl⟩)
    have st := sW_one (f := fun x => (wOf F P t0 T (nm x)).toNat) (g := fun x => (wOf F P t0 (e :: T) (nm x)).toNat) (a := a) (x := x) (v := e.2.2.1.toNat) m x1 x2 (by
      show (wOf F P t0 T (nm x)).toNat = 0
      rw [x3, wOf_no T no]
      rfl) (by
      show (if nmT F P t0 e.1 = nm x then e.2.2.1 else wOf F P t0 T (nm x)).toNat = _
      rw [if_pos x3.symm]) (fun y y1 y2 y3 => by
      show (if nmT F P t0 e.1 = nm y then e.2.2.1 else wOf F P t0 T (nm y)).toNat = (wOf F P t0 T (nm y)).toNat
      rw [if_neg (fun q => ?_)]
      rcases Nat.lt_or_gt_of_ne y3 with z | z
      · exact hd y x y1 z x2 (by rw [← q, x3])
      · exact hd x y x1 z y2 (by rw [← q, x3]))
    rw [st, ih, List.map_cons, List.sum_cons]
    omega
/-- a link without a note -/
theorem lnk_f (h : TKH F n N P s0 t0) (hs : KHS F P s0 t0 N C O Q R L E I) (hcl : c < C.length) (hrr : (hAt C Q R I c).2.2.1 ≤ r ∧ r < (hAt C Q R I (c + 1)).2.2.1) (hl : (R.getD r (0, 0)).2 ≤ l ∧ l < E.getD r 0) (hi : i < 2 + C.length) {mi mo : Nat → Int} (hx : xK F P s0 t0 C O Q R L I c i l T mi mo = []) : ∃ k w : Nat, kL F P t0 C Q R L I i l = (k : Int) ∧ (paI C Q R I i ≤ k ∧ k < paI C Q R I (i + 1) ∧ k < 197) ∧ wLl F P s0 t0 C Q R L I i l = (w : Int) ∧ (1 ≤ w ∧ w ≤ 16) ∧ (0 ≤ loB s0 (lL L l) ∧ loB s0 (lL L l) + w ≤ pwI s0 Q k) ∧ ((s0 9 (lR L l) = 3 ∧ ∃ k' : Nat, kR F P t0 C Q R L I c l = (k' : Int) ∧ paI C Q R I (2 + c) ≤ k' ∧ k' < paI C Q R I (2 + c + 1) ∧ (ooI O (2 + c) ≤ k' ↔ ooI O i ≤ k) ∧ 0 ≤ loB s0 (lR L l) ∧ loB s0 (lR L l) + w ≤ pwI s0 Q k') ∨ (s0 9 (lR L l) = 3 ∧ kR F P t0 C Q R L I c l = -1 ∧ ∃ m : Nat, m < T.length ∧ fnT F P t0 T (nmT F P t0 (lR L l)) = (m : Int) ∧ nmT F P t0 (T.getD m (0, 0, 0, 0)).1 = nmT F P t0 (lR L l) ∧ (ooI O i ≤ k → (T.getD m (0, 0, 0, 0)).2.1 = l) ∧ (k < ooI O i → (T.getD m (0, 0, 0, 0)).2.2.1 = -1 ∨ (T.getD m (0, 0, 0, 0)).2.2.1 = (w : Int))) ∨ ((s0 9 (lR L l) = 304 ∨ s0 9 (lR L l) = 305) ∧ k < ooI O i)) := by
  obtain ⟨-, -, -, -, pp, -, -, -⟩ := KHS_c hs hcl
  obtain ⟨-, -, le, g⟩ := pp r hrr.1 hrr.2
  obtain ⟨⟨lo1, lo2, lo3, lo4, lo5⟩, -⟩ := g l hl.1 hl.2
  have lo3' : rOK s0 N (lL L l) := lo3
  unfold xK at hx
  by_cases c1 : kL F P t0 C Q R L I i l = -1
  · rw [if_pos c1] at hx
    cases hx
  rw [if_neg c1, List.append_eq_nil_iff] at hx
  obtain ⟨hx1, hx2⟩ := hx
  rcases pfI_rg (F := F) (P := P) (t0 := t0) (j := lL L l) hs hi with z | ⟨k, k1, k2, k3, k4⟩
  · exact absurd z c1
  have k1' : kL F P t0 C Q R L I i l = (k : Int) := k1
  unfold xL at hx1
  by_cases c2 : wLl F P s0 t0 C Q R L I i l = -1
  · rw [if_pos c2] at hx1
    cases hx1
  have wr := lo_rg h.1 lo3' (w := pwI s0 Q k) pwI_rg
  have we : wLl F P s0 t0 C Q R L I i l = rwB s0 (lL L l) (pwI s0 Q k) := by unfold wLl; rw [k1', Int.toNat_natCast]
  obtain ⟨w, hw⟩ : ∃ w : Nat, wLl F P s0 t0 C Q R L I i l = (w : Int) := ⟨(wLl F P s0 t0 C Q R L I i l).toNat, by rw [we] at c2 ⊢; omega⟩
  have oe : oL F P t0 C O Q R L I i l = if ooI O i ≤ k then 1 else 0 := by
    unfold oL
    rw [k1']
    by_cases y : ooI O i ≤ k
    · rw [if_pos y, if_pos (by omega)]
    · rw [if_neg y, if_neg (by omega)]
  refine ⟨k, w, k1', ⟨k2, k3, k4⟩, hw, by rw [← we] at wr; omega, by rw [← we, hw] at wr; omega, ?_⟩
  unfold xR at hx2
  by_cases c3 : s0 9 (lR L l) = 3
  · rw [if_pos c3] at hx2
    by_cases c4 : kR F P t0 C Q R L I c l = -1
    · right; left
      rw [if_pos c4] at hx2
      by_cases c5 : fnT F P t0 T (nmT F P t0 (lR L l)) = -1
      · rw [if_pos c5] at hx2
        cases hx2
      rw [if_neg c5, List.append_eq_nil_iff] at hx2
      obtain ⟨y1, y2⟩ := hx2
      rcases fnT_rg (F := F) (P := P) (t0 := t0) (T := T) (nm := nmT F P t0 (lR L l)) with z | ⟨m, m1, m2, m3⟩
      · exact absurd z c5
      have ee : eR F P t0 L T l = T.getD m (0, 0, 0, 0) := by unfold eR; rw [m1, Int.toNat_natCast]
      rw [ee] at y1 y2
      refine ⟨c3, c4, m, m2, m1, m3, fun y => ?_, fun y => ?_⟩
      · by_cases q : (T.getD m (0, 0, 0, 0)).2.1 = l
        · exact q
        · rw [if_pos ⟨by rw [oe, if_pos y], q⟩] at y1
          cases y1
      · by_cases c6 : s0 9 (lR L l + 1) = 91
        · rw [if_pos c6] at y2
          cases y2
        rw [if_neg c6] at y2
        by_cases q1 : (T.getD m (0, 0, 0, 0)).2.2.1 = -1
        · exact Or.inl q1
        · by_cases q2 : (T.getD m (0, 0, 0, 0)).2.2.1 = (w : Int)
          · exact Or.inr q2
          · rw [if_pos ⟨by rw [oe, if_neg (by omega)], q1, c2, by rw [hw]; exact q2⟩] at y2
            cases y2
    · left
      rw [if_neg c4] at hx2
      rcases pfI_rg (F := F) (P := P) (t0 := t0) (j := lR L l) hs (i := 2 + c) (by omega) with z | ⟨k', e1, e2, e3, e4⟩
      · exact absurd z c4
      have e1' : kR F P t0 C Q R L I c l = (k' : Int) := e1
      by_cases c5 : oR F P t0 C O Q R L I c l = oL F P t0 C O Q R L I i l
      · rw [if_pos c5] at hx2
        by_cases c6 : wR F P s0 t0 C Q R L I c l = -1
        · rw [if_pos c6] at hx2
          cases hx2
        rw [if_neg c6, List.append_eq_nil_iff] at hx2
        have rr : rOK s0 N (lR L l) := by
          rcases lo5 with q | q | q
          · exact q.2
          · have q' : s0 9 (lR L l) = 304 := q
            omega
          · have q' : s0 9 (lR L l) = 305 := q
            omega
        have wr' := lo_rg h.1 rr (w := pwI s0 Q k') pwI_rg
        have we' : wR F P s0 t0 C Q R L I c l = rwB s0 (lR L l) (pwI s0 Q k') := by unfold wR; rw [e1', Int.toNat_natCast]
        have ww : wR F P s0 t0 C Q R L I c l = (w : Int) := by
          by_cases q : wR F P s0 t0 C Q R L I c l = wLl F P s0 t0 C Q R L I i l
          · rw [q]; exact hw
          · have := hx2.2
            rw [if_pos ⟨c2, q⟩] at this
            cases this
        refine ⟨c3, k', e1', e2, e3, ?_, by omega, by rw [← we', ww] at wr'; omega⟩
        have oe' : oR F P t0 C O Q R L I c l = if ooI O (2 + c) ≤ k' then 1 else 0 := by
          unfold oR
          rw [e1']
          by_cases y : ooI O (2 + c) ≤ k'
          · rw [if_pos y, if_pos (by omega)]
          · rw [if_neg y, if_neg (by omega)]
        rw [oe, oe'] at c5
        by_cases y : ooI O (2 + c) ≤ k'
        · by_cases y' : ooI O i ≤ k
          · exact ⟨fun _ => y', fun _ => y⟩
          · rw [if_pos y, if_neg y'] at c5; omega
        · by_cases y' : ooI O i ≤ k
          · rw [if_neg y, if_pos y'] at c5; omega
          · exact ⟨fun q => absurd q y, fun q => absurd q y'⟩
      · rw [if_neg c5] at hx2
        cases hx2
  · right; right
    rw [if_neg c3] at hx2
    refine ⟨?_, ?_⟩
    · rcases lo5 with q | q | q
      · exact absurd q.1 c3
      · exact Or.inl q
      · exact Or.inr q
    · by_cases y : ooI O i ≤ k
      · rw [if_pos (by rw [oe, if_pos y])] at hx2
        cases hx2
      · omega
/-- whose link gives an inner name, how wide -/
theorem gtL_w {a m : Nat} {r' : Nat} (T : List tEn) (hT : ∀ e ∈ T, ∃ r', (R.getD r' (0, 0)).2 ≤ e.2.1 ∧ e.2.1 < E.getD r' 0 ∧ (a ≤ r' ∧ r' < a + m + 1) ∧ cix F P t0 C (R.getD r' (0, 0)).1 ≠ -1 ∧ e.2.2.1 = wLl F P s0 t0 C Q R L I (cix F P t0 C (R.getD r' (0, 0)).1).toNat e.2.1) (hr : r' = a + m) (hc : cix F P t0 C (R.getD r' (0, 0)).1 ≠ -1) : ∀ d, (R.getD r' (0, 0)).2 + d ≤ E.getD r' 0 → ∀ e ∈ gtL F P s0 t0 C O Q R L I c b (cix F P t0 C (R.getD r' (0, 0)).1).toNat (R.getD r' (0, 0)).2 T d, ∃ r', (R.getD r' (0, 0)).2 ≤ e.2.1 ∧ e.2.1 < E.getD r' 0 ∧ (a ≤ r' ∧ r' < a + m + 1) ∧ cix F P t0 C (R.getD r' (0, 0)).1 ≠ -1 ∧ e.2.2.1 = wLl F P s0 t0 C Q R L I (cix F P t0 C (R.getD r' (0, 0)).1).toNat e.2.1
  | 0, _, e, he => hT e he
  | d + 1, hd, e, he => by
    have ih := gtL_w T hT hr hc d (by omega)
    have es : gtL F P s0 t0 C O Q R L I c b (cix F P t0 C (R.getD r' (0, 0)).1).toNat (R.getD r' (0, 0)).2 T (d + 1) = gtT F P s0 t0 C O Q R L I c b (cix F P t0 C (R.getD r' (0, 0)).1).toNat ((R.getD r' (0, 0)).2 + d) (gtL F P s0 t0 C O Q R L I c b (cix F P t0 C (R.getD r' (0, 0)).1).toNat (R.getD r' (0, 0)).2 T d) := rfl
    rw [es] at he
    unfold gtT at he
    split at he
    · rcases List.mem_append.mp he with q | q
      · exact ih e q
      · have : e = (lR L ((R.getD r' (0, 0)).2 + d), (R.getD r' (0, 0)).2 + d, rwB s0 (lL L ((R.getD r' (0, 0)).2 + d)) (pwI s0 Q (pfI F P t0 C Q R I (cix F P t0 C (R.getD r' (0, 0)).1).toNat (lL L ((R.getD r' (0, 0)).2 + d))).toNat), owT b (gtL F P s0 t0 C O Q R L I c b (cix F P t0 C (R.getD r' (0, 0)).1).toNat (R.getD r' (0, 0)).2 T d)) := by simpa using q
        subst this
        exact ⟨r', by show _ ≤ (R.getD r' (0, 0)).2 + d; omega, by show (R.getD r' (0, 0)).2 + d < _; omega, by omega, hc, rfl⟩
    · exact ih e he
theorem gtR_w (hs : KHS F P s0 t0 N C O Q R L E I) {a : Nat} : ∀ m, a + m ≤ R.length → ∀ e ∈ gtR F P s0 t0 C O Q R L E I c b a [] m, ∃ r', (R.getD r' (0, 0)).2 ≤ e.2.1 ∧ e.2.1 < E.getD r' 0 ∧ (a ≤ r' ∧ r' < a + m) ∧ cix F P t0 C (R.getD r' (0, 0)).1 ≠ -1 ∧ e.2.2.1 = wLl F P s0 t0 C Q R L I (cix F P t0 C (R.getD r' (0, 0)).1).toNat e.2.1
  | 0, _, e, he => by cases he
  | m + 1, hm, e, he => by
    have ih : ∀ e ∈ gtR F P s0 t0 C O Q R L E I c b a [] m, _ := gtR_w hs m (by omega)
    have ih' : ∀ e ∈ gtR F P s0 t0 C O Q R L E I c b a [] m, ∃ r', (R.getD r' (0, 0)).2 ≤ e.2.1 ∧ e.2.1 < E.getD r' 0 ∧ (a ≤ r' ∧ r' < a + m + 1) ∧ cix F P t0 C (R.getD r' (0, 0)).1 ≠ -1 ∧ e.2.2.1 = wLl F P s0 t0 C Q R L I (cix F P t0 C (R.getD r' (0, 0)).1).toNat e.2.1 := fun e he => by
      obtain ⟨r', q1, q2, q3, q4⟩ := ih e he
      exact ⟨r', q1, q2, by omega, q4⟩
    have es : gtR F P s0 t0 C O Q R L E I c b a [] (m + 1) = if cix F P t0 C (R.getD (a + m) (0, 0)).1 = -1 then gtR F P s0 t0 C O Q R L E I c b a [] m else gtL F P s0 t0 C O Q R L I c b (cix F P t0 C (R.getD (a + m) (0, 0)).1).toNat (R.getD (a + m) (0, 0)).2 (gtR F P s0 t0 C O Q R L E I c b a [] m) (E.getD (a + m) 0 - (R.getD (a + m) (0, 0)).2) := rfl
    rw [es] at he
    by_cases q : cix F P t0 C (R.getD (a + m) (0, 0)).1 = -1
    · rw [if_pos q] at he
      exact ih' e he
    · rw [if_neg q] at he
      have le := (LK_e hs (r := a + m) (by omega)).1
      exact gtL_w _ ih' rfl q _ (by omega) e he
end CMa
