/-! chips: the plan of a text that is checked: the reference's side -/
section CMf
variable {F : Nat → Int} {n N : Nat} {P : Nat → Nat} {s0 t0 s t s' t' : iS} {C : List chR} {O E I : List Nat} {Q : List (Nat × Int)} {R L : List (Nat × Nat)} {c b i j k q r l m : Nat} {f : Nat → Nat → Nat}
/-- where a pin's bits begin -/
theorem r_ppl (hs : KHS F P s0 t0 N C O Q R L E I) (hr : KR s0 t0 C Q R L I t) (hcl : c < C.length) (h1 : paI C Q R I (2 + c) ≤ k) (h2 : k ≤ paI C Q R I (2 + c + 1)) : m_pinPlace (c : Int) ((k : Int) - 5) t = some ((ofI s0 C Q R I (2 + c) k : Int), t) := by
  have bd' := KHS_bd hs
  obtain ⟨p1, p2⟩ := paI_c (Q := Q) (R := R) (I := I) hcl
  have e196 := (KR_c hr (c := c) (by omega)).1
  have qq := (KHS_q hs (c := c + 1) (by omega)).1
  obtain ⟨a, ha⟩ : ∃ a, a = (hAt C Q R I c).2.1 := ⟨_, rfl⟩
  rw [← ha] at p1 e196
  have L := lpG (f := fun l : Int × Int × iS => m_pinPlace_10b ((k : Int) - 5) (l.1) (l.2.1) (l.2.2)) (M := k - 5 - a) (I := fun x l => l = (((sW (pwN s0 Q) (5 + a) x : Nat) : Int), ((a + x : Nat) : Int), t)) (J := fun e => e = (((sW (pwN s0 Q) (5 + a) (k - 5 - a) : Nat) : Int), t)) (by
    rintro x l hx rfl
    refine ⟨_, ?_, rfl⟩
    show m_pinPlace_10b ((k : Int) - 5) ((sW (pwN s0 Q) (5 + a) x : Nat) : Int) ((a + x : Nat) : Int) t = _
    have pw := (hr.2.1.2.1.2 (a + x) (by omega)).2.2.1
    have pv : pwN s0 Q (5 + a + x) = (wdP s0 (Q.getD (a + x) (0, 0)).1).toNat := by
      unfold pwN pwI
      rw [if_neg (by omega), show 5 + a + x - 5 = a + x by omega]
    have pr := wdP_rg (s0 := s0) (j := (Q.getD (a + x) (0, 0)).1)
    unfold m_pinPlace_10b
    rw [gr (by omega), gr (by omega), if_neg (by omega), gd_pos (by omega), Int.toNat_natCast, pw, sW_s, show ((sW (pwN s0 Q) (5 + a) x + pwN s0 Q (5 + a + x) : Nat) : Int) = ((sW (pwN s0 Q) (5 + a) x : Nat) : Int) + wdP s0 (Q.getD (a + x) (0, 0)).1 by omega, show ((a + (x + 1) : Nat) : Int) = ((a + x : Nat) : Int) + 1 by omega]) (by
    rintro l rfl
    refine ⟨_, ?_, rfl⟩
    show m_pinPlace_10b ((k : Int) - 5) ((sW (pwN s0 Q) (5 + a) (k - 5 - a) : Nat) : Int) ((a + (k - 5 - a) : Nat) : Int) t = _
    unfold m_pinPlace_10b
    rw [gr (by omega), gr (by omega), if_pos (by omega)]) (k - 5 - a) 0 ((0 : Int), (a : Int), t) (by omega) rfl
  obtain ⟨e, l1, l2⟩ := L
  unfold m_pinPlace
  rw [gd_pos (by omega), Int.toNat_natCast, e196]
  unfold m_pinPlace_10
  rw [l1, l2, bn]
  have : ofI s0 C Q R I (2 + c) k = sW (pwN s0 Q) (5 + a) (k - 5 - a) := by
    unfold ofI
    rw [p1, show k - (5 + a) = k - 5 - a by omega]
  rw [this]
/-- where an inner name's bits begin -/
theorem r_ipl (hs : KHS F P s0 t0 N C O Q R L E I) (hr : KR s0 t0 C Q R L I t) (hcl : c < C.length) (hI : IRr F P t0 C Q R I c (tbI F P s0 t0 C O Q R L E I c) t) (hT : TOK F P s0 t0 N C Q R L I c (bCh s0 C Q R I c) (tbI F P s0 t0 C O Q R L E I c)) {x : Nat} (h1 : (hAt C Q R I c).2.2.2 ≤ x) (h2 : x ≤ (hAt C Q R I (c + 1)).2.2.2) : m_innerPlace (c : Int) (x : Int) t = some ((rpX F P s0 t0 C O Q R L E I c x : Int), t) := by
  have bd' := KHS_bd hs
  have pm := paI_m hs (show 2 + c < 2 + C.length by omega)
  obtain ⟨p1, p2⟩ := paI_c (Q := Q) (R := R) (I := I) hcl
  have e196 := (KR_c hr (c := c + 1) (by omega)).1
  have e212 := (KR_c hr (c := c) (by omega)).2.2
  have ii := (KHS_q hs (c := c + 1) (by omega)).2.2
  have pp := r_ppl hs hr hcl (k := paI C Q R I (2 + c + 1)) (by omega) (Nat.le_refl _)
  obtain ⟨a, ha⟩ : ∃ a, a = (hAt C Q R I c).2.2.2 := ⟨_, rfl⟩
  rw [← ha] at e212 h1
  have L := lpG (f := fun l : Int × Int × iS => m_innerPlace_22b (x : Int) (l.1) (l.2.1) (l.2.2)) (M := x - a) (I := fun y l => l = (((bCh s0 C Q R I c + sW (iwX F P s0 t0 C O Q R L E I c) a y : Nat) : Int), ((a + y : Nat) : Int), t)) (J := fun e => e = (((bCh s0 C Q R I c + sW (iwX F P s0 t0 C O Q R L E I c) a (x - a) : Nat) : Int), t)) (by
    rintro y l hy rfl
    refine ⟨_, ?_, rfl⟩
    show m_innerPlace_22b (x : Int) ((bCh s0 C Q R I c + sW (iwX F P s0 t0 C O Q R L E I c) a y : Nat) : Int) ((a + y : Nat) : Int) t = _
    have e214 := hI (a + y) (by omega) (by omega)
    have wn := (wOf_ne (F := F) (P := P) (t0 := t0) (nm := nmT F P t0 (I.getD (a + y) 0)) _ (fun e he => (hT.1 e he).2.2)).2
    have iw : iwX F P s0 t0 C O Q R L E I c (a + y) = (wOf F P t0 (tbI F P s0 t0 C O Q R L E I c) (nmT F P t0 (I.getD (a + y) 0))).toNat := rfl
    unfold m_innerPlace_22b
    rw [gr (by omega), gr (by omega), if_neg (by omega), gd_pos (by omega), Int.toNat_natCast, e214, gr (by omega), sW_s, show ((a + (y + 1) : Nat) : Int) = ((a + y : Nat) : Int) + 1 by omega]
    by_cases z : wOf F P t0 (tbI F P s0 t0 C O Q R L E I c) (nmT F P t0 (I.getD (a + y) 0)) ≤ 0
    · rw [if_pos z, show ((bCh s0 C Q R I c + (sW (iwX F P s0 t0 C O Q R L E I c) a y + iwX F P s0 t0 C O Q R L E I c (a + y)) : Nat) : Int) = ((bCh s0 C Q R I c + sW (iwX F P s0 t0 C O Q R L E I c) a y : Nat) : Int) + 0 by omega]
    · rw [if_neg z, show ((bCh s0 C Q R I c + (sW (iwX F P s0 t0 C O Q R L E I c) a y + iwX F P s0 t0 C O Q R L E I c (a + y)) : Nat) : Int) = ((bCh s0 C Q R I c + sW (iwX F P s0 t0 C O Q R L E I c) a y : Nat) : Int) + wOf F P t0 (tbI F P s0 t0 C O Q R L E I c) (nmT F P t0 (I.getD (a + y) 0)) by omega]) (by
    rintro l rfl
    refine ⟨_, ?_, rfl⟩
    show m_innerPlace_22b (x : Int) ((bCh s0 C Q R I c + sW (iwX F P s0 t0 C O Q R L E I c) a (x - a) : Nat) : Int) ((a + (x - a) : Nat) : Int) t = _
    unfold m_innerPlace_22b
    rw [gr (by omega), gr (by omega), if_pos (by omega)]) (x - a) 0 (((bCh s0 C Q R I c : Nat) : Int), (a : Int), t) (by omega) rfl
  obtain ⟨e, l1, l2⟩ := L
  unfold m_innerPlace
  rw [gd_pos (by omega), show ((c : Int) + 1).toNat = c + 1 by omega, e196, show (((hAt C Q R I (c + 1)).2.1 : Nat) : Int) = ((paI C Q R I (2 + c + 1) : Nat) : Int) - 5 by omega, pp, bq, gd_pos (by omega), Int.toNat_natCast, e212]
  unfold m_innerPlace_22
  have l1' : lp (L := Int × Int × iS) (E := Int × iS) (fun l => m_innerPlace_22b (x : Int) (l.1) (l.2.1) (l.2.2)) ((ofI s0 C Q R I (2 + c) (paI C Q R I (2 + c + 1)) : Int), (a : Int), t) = some e := l1
  rw [l1', l2, bn]
  unfold rpX
  rw [← ha]
/-- the bits of a link -/
theorem r_cl {v3 v6 v10 o cst tv : Int} {le ri w : Nat} (hO : ∀ u : iS, (∀ c' x, c' ≠ 222 → u c' x = t c' x) → m_isOut v3 v6 u = some (o, u)) (ho : o = 0 ∨ o = 1) (hc : cst = 0 ∨ cst = 1) (hT : cst = 1 → ∀ u : iS, (∀ c' x, c' ≠ 222 → u c' x = t c' x) → m_isTrue v10 u = some (tv, u)) (h1 : o = 0 → le + w ≤ 40000) (h2 : o = 1 → ri + w ≤ 40000) (hw : w ≤ 16) : ∃ t', m_connect_201 v3 v6 (w : Int) (le : Int) v10 cst (ri : Int) 0 t = some (0, t') ∧ (∀ c' x, c' ≠ 222 → t' c' x = t c' x) ∧ (o = 0 → ∀ x, t' 222 x = if le ≤ x ∧ x < le + w then (if cst = 0 then ((ri + (x - le) : Nat) : Int) else tv) else t 222 x) ∧ (o = 1 → ∀ x, t' 222 x = if ri ≤ x ∧ x < ri + w then ((le + (x - ri) : Nat) : Int) else t 222 x) := by
  obtain ⟨D, hD⟩ : ∃ D : Nat, D = if o = 0 then le else ri := ⟨_, rfl⟩
  obtain ⟨V, hV⟩ : ∃ V : Nat → Int, V = fun j => if o = 0 then (if cst = 0 then ((ri + j : Nat) : Int) else tv) else ((le + j : Nat) : Int) := ⟨_, rfl⟩
  have dB : D + w ≤ 40000 := by
    rw [hD]
    rcases ho with e | e
    · rw [if_pos e]; exact h1 e
    · rw [if_neg (by omega)]; exact h2 e
  have L := lpG (f := fun x : Int × iS => m_connect_201b v3 v6 (w : Int) (le : Int) v10 cst (ri : Int) (x.1) (x.2)) (M := w) (I := fun i x => x.1 = (i : Int) ∧ (∀ c' y, c' ≠ 222 → x.2 c' y = t c' y) ∧ ∀ y, x.2 222 y = if D ≤ y ∧ y < D + i then V (y - D) else t 222 y) (J := fun e => (∀ c' y, c' ≠ 222 → e c' y = t c' y) ∧ ∀ y, e 222 y = if D ≤ y ∧ y < D + w then V (y - D) else t 222 y) (by
    rintro i ⟨v, u⟩ hi ⟨e, e1, e2⟩
    have e' : v = (i : Int) := e
    subst e'
    have e1' : ∀ c' y, c' ≠ 222 → u c' y = t c' y := e1
    have e2' : ∀ y, u 222 y = if D ≤ y ∧ y < D + i then V (y - D) else t 222 y := e2
    refine ⟨((i : Int) + 1, up u 222 (D + i) (V i)), ?_, by show (i : Int) + 1 = ((i + 1 : Nat) : Int); omega, fun c' y hc' => ?_, fun y => ?_⟩
    · show m_connect_201b v3 v6 (w : Int) (le : Int) v10 cst (ri : Int) (i : Int) u = _
      unfold m_connect_201b
      rw [gr (by omega), gr (by omega), if_neg (by omega), hO u e1', bq, gr (by omega)]
      rcases ho with z | z
      · have hD' : D = le := by rw [hD, if_pos z]
        rw [if_pos z]
        have f264 : ∀ w1 : Int, m_connect_264 v3 v6 (w : Int) (le : Int) v10 cst (ri : Int) (i : Int) w1 ((le : Int) + (i : Int)) u = some (.inl ((i : Int) + 1, up u 222 (D + i) w1)) := fun w1 => by
          unfold m_connect_264
          rw [gd_pos (by omega), lt_eq, show ((le : Int) + (i : Int)).toNat = D + i by omega]
        rcases hc with y | y
        · have : V i = (ri : Int) + (i : Int) := by rw [hV]; show (if o = 0 then (if cst = 0 then _ else _) else _) = _; rw [if_pos z, if_pos y]; omega
          rw [y, gr (by omega), if_pos rfl, ← y, f264, this]
        · have : V i = tv := by rw [hV]; show (if o = 0 then (if cst = 0 then _ else _) else _) = _; rw [if_pos z, if_neg (by omega)]
          rw [gr (by omega), if_neg (by omega), hT y u e1', bq, f264, this]
      · have hD' : D = ri := by rw [hD, if_neg (by omega)]
        have : V i = (le : Int) + (i : Int) := by rw [hV]; show (if o = 0 then _ else _) = _; rw [if_neg (by omega)]; omega
        rw [if_neg (by omega), gd_pos (by omega), lt_eq, show ((ri : Int) + (i : Int)).toNat = D + i by omega, this]
    · show up u 222 (D + i) _ c' y = _
      rw [up_ne (by omega)]
      exact e1' c' y hc'
    · show up u 222 (D + i) _ 222 y = _
      by_cases q1 : y = D + i
      · rw [q1, up_same, if_pos ⟨by omega, by omega⟩, show D + i - D = i by omega]
      · rw [up_ne (by omega), e2' y]
        by_cases q2 : D ≤ y ∧ y < D + i
        · rw [if_pos q2, if_pos ⟨q2.1, by omega⟩]
        · rw [if_neg q2, if_neg (by omega)]) (by
    rintro ⟨v, u⟩ ⟨e, e1, e2⟩
    have e' : v = (w : Int) := e
    subst e'
    refine ⟨u, ?_, e1, e2⟩
    show m_connect_201b v3 v6 (w : Int) (le : Int) v10 cst (ri : Int) (w : Int) u = _
    unfold m_connect_201b
    rw [gr (by omega), gr (by omega), if_pos (by omega)]) w 0 ((0 : Int), t) (by omega) ⟨rfl, fun _ _ _ => rfl, fun y => by rw [if_neg (by omega)]⟩
  obtain ⟨t', l1, l2, l3⟩ := L
  refine ⟨t', ?_, l2, fun e x => ?_, fun e x => ?_⟩
  · unfold m_connect_201
    rw [show lp (L := Int × iS) (E := iS) (fun x => m_connect_201b v3 v6 (w : Int) (le : Int) v10 cst (ri : Int) (x.1) (x.2)) (0, t) = some t' from l1, bn]
  · have hD' : D = le := by rw [hD, if_pos e]
    rw [l3 x, hD', hV]
    by_cases q1 : le ≤ x ∧ x < le + w
    · rw [if_pos q1, if_pos q1]
      show (if o = 0 then _ else _) = _
      rw [if_pos e]
    · rw [if_neg q1, if_neg q1]
  · have hD' : D = ri := by rw [hD, if_neg (by omega)]
    rw [l3 x, hD', hV]
    by_cases q1 : ri ≤ x ∧ x < ri + w
    · rw [if_pos q1, if_pos q1]
      show (if o = 0 then _ else _) = _
      rw [if_neg (by omega)]
    · rw [if_neg q1, if_neg q1]
end CMf
