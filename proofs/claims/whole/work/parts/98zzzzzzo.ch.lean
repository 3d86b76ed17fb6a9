/-! chips: what the reference asks of names -/
section CIc
variable {F : Nat → Int} {n N : Nat} {P : Nat → Nat} {s0 t0 s t s' t' : iS} {C : List chR} {O E I : List Nat} {Q : List (Nat × Int)} {R L : List (Nat × Nat)} {c i j k r l : Nat} {Z : List Nat}
theorem l_11 : bs (fun k => (ka_11 k).toInt) 0 9 = fl cgN := by decide
def gpN : List (List Int) := [[97], [98], [111, 117, 116], [105, 110]]
theorem l_12 : bs (fun k => (ka_12 k).toInt) 0 11 = fl gpN := by decide
theorem r_word {M : Nat} {g : Nat → Int32} {tab : List (List Int)} (h : TKH F n N P s0 t0) (hr : SR t0 t) (hj : j < N ∧ s0 9 j = 3) (hM : M < 1000000) (hl : bs (fun k => (g k).toInt) 0 M = fl tab) (hw : ∀ w ∈ tab, ∀ x ∈ w, x ≠ 32) : m_wordOf M g (t 125 j) (t 126 j) t = some (fw tab (nmT F P t0 j) 0, t) := by
  obtain ⟨z, a1, a2, a3, a4, a5, a6, a7, a8, a9, a10⟩ := cH_tk h hr hj.1 hj.2
  have b5 := h.2.2.2.2.2
  have e : bs (t 123) (P j) z = nmT F P t0 j := by
    rw [a1]
    exact bs_ext (fun i hi => (a10 i hi).1)
  rw [a2, a3, wordOf_ok tab hM hl hw (by omega) (fun k hk => ?_) (fun k => ?_), e]
  · have := (a10 k hk).2.1
    rw [(a10 k hk).1]
    intro e
    rw [e] at this
    exact absurd this (by decide)
  · rw [hr.1]
    exact h.2.2.2.2.1 k
theorem r_gate (h : TKH F n N P s0 t0) (hr : SR t0 t) (hj : j < N ∧ s0 9 j = 3) : m_gateOf (j : Int) t = some (fw cgN (nmT F P t0 j) 0, t) := by
  have hN := N2001 h.1
  have := hj.1
  unfold m_gateOf
  rw [gd_pos (by omega), Int.toNat_natCast, r_word h hr hj (by omega) l_11 (by decide), bq]
/-- the reference finds a chip -/
theorem r_chip (h : TKH F n N P s0 t0) (hs : KHS F P s0 t0 N C O Q R L E I) (hr : KR s0 t0 C Q R L I t) (hj : j < N ∧ s0 9 j = 3) : m_chipOf (j : Int) t = some (cix F P t0 C j, t) := by
  have b := KHS_bd hs
  have e122 : t 121 122 = (C.length : Int) := hr.2.1.1.1
  have g0 := fw_rg (b := nmT F P t0 j) cgN 0
  have gl : cgN.length = 2 := rfl
  have fin : ∀ (x : Int) (v : Nat), -1 ≤ x ∧ x < 1000 → x ≠ -1 ∨ C.length ≤ v → v ≤ 1000 → m_chipOf_8 (j : Int) x (v : Int) t = some (x, t) := fun x v hx hv hv2 => by
    unfold m_chipOf_8
    rw [lp_end (f := fun l : Int × Int × iS => m_chipOf_8b (j : Int) (l.1) (l.2.1) (l.2.2)) (e := (x, t)) (by
      show m_chipOf_8b (j : Int) x (v : Int) t = _
      unfold m_chipOf_8b
      rw [gr (by omega), e122, gr (by omega)]
      by_cases c : (C.length : Int) ≤ (v : Int)
      · rw [if_pos c]
      · rw [if_neg c, gr (by omega), if_neg (by omega)])]
    rfl
  have go : ∀ (k v : Nat), v + k = C.length → m_chipOf_8 (j : Int) (-1) (v : Int) t = some (if fst1 (fun c => nmT F P t0 (C.getD c (0, 0, 0, 0)).1 = nmT F P t0 j) v k = -1 then -1 else 2 + fst1 (fun c => nmT F P t0 (C.getD c (0, 0, 0, 0)).1 = nmT F P t0 j) v k, t) := by
    intro k
    induction k with
    | zero =>
      intro v hv
      rw [fin (-1) v (by omega) (Or.inr (by omega)) (by omega)]
      rfl
    | succ k ih =>
      intro v hv
      have q := (KHS_c hs (c := v) (by omega)).1
      rw [hAt_lt (by omega)] at q
      have lk := cH_like h hr.1 q hj
      have e195 : t 195 v = (((C.getD v (0, 0, 0, 0)).1 : Nat) : Int) := (hr.2.1.1.2 v (by omega)).1
      have st : m_chipOf_8b (j : Int) (-1) (v : Int) t = if nmT F P t0 (C.getD v (0, 0, 0, 0)).1 = nmT F P t0 j then some (.inl (2 + (v : Int), ((v + 1 : Nat) : Int), t)) else some (.inl (-1, ((v + 1 : Nat) : Int), t)) := by
        unfold m_chipOf_8b
        rw [gr (by omega), e122, gr (by omega), if_neg (by omega), gr (by omega), if_pos rfl, gd_pos (by omega), Int.toNat_natCast, e195, lk, bq]
        by_cases c : nmT F P t0 (C.getD v (0, 0, 0, 0)).1 = nmT F P t0 j
        · rw [if_pos c, if_pos c, gr (by omega), if_neg (by omega)]
          rfl
        · rw [if_neg c, if_neg c, gr (by omega), if_pos rfl]
          rfl
      by_cases c : nmT F P t0 (C.getD v (0, 0, 0, 0)).1 = nmT F P t0 j
      · rw [if_pos c] at st
        have e3 : m_chipOf_8 (j : Int) (-1) (v : Int) t = m_chipOf_8 (j : Int) (2 + (v : Int)) ((v + 1 : Nat) : Int) t := by
          unfold m_chipOf_8
          rw [lp_next (f := fun l : Int × Int × iS => m_chipOf_8b (j : Int) (l.1) (l.2.1) (l.2.2)) (l := ((-1 : Int), (v : Int), t)) st]
        rw [e3, fin (2 + (v : Int)) (v + 1) (by omega) (Or.inl (by omega)) (by omega), fst1_y (Q := fun c => nmT F P t0 (C.getD c (0, 0, 0, 0)).1 = nmT F P t0 j) c, if_neg (by omega)]
      · rw [if_neg c] at st
        have e3 : m_chipOf_8 (j : Int) (-1) (v : Int) t = m_chipOf_8 (j : Int) (-1) ((v + 1 : Nat) : Int) t := by
          unfold m_chipOf_8
          rw [lp_next (f := fun l : Int × Int × iS => m_chipOf_8b (j : Int) (l.1) (l.2.1) (l.2.2)) (l := ((-1 : Int), (v : Int), t)) st]
        rw [e3, ih (v + 1) (by omega), fst1_n (Q := fun c => nmT F P t0 (C.getD c (0, 0, 0, 0)).1 = nmT F P t0 j) c]
  unfold m_chipOf
  rw [r_gate h hr.1 hj, bq]
  unfold cix tabC
  rw [fw_ap]
  by_cases c : fw cgN (nmT F P t0 j) 0 = -1
  · rw [if_pos c, c]
    have e := fst_fw (P := fun c => nmT F P t0 (C.getD c (0, 0, 0, 0)).1 = nmT F P t0 j) (b := nmT F P t0 j) (C.map (fun c => nmT F P t0 c.1)) 0 (fun x hx => by
      rw [List.length_map] at hx
      rw [Nat.zero_add, List.getD_eq_getElem?_getD (l := C.map _), List.getElem?_map, List.getElem?_eq_getElem hx, List.getD_eq_getElem?_getD, List.getElem?_eq_getElem hx]
      exact Iff.rfl)
    rw [List.length_map] at e
    have := go C.length 0 (by omega)
    rw [e] at this
    rw [show (0 : Int) = ((0 : Nat) : Int) from rfl, this, gl, show 0 + 2 = 2 + 0 from rfl, fw_sh]
    rfl
  · rw [if_neg c]
    exact fin _ 0 (by omega) (Or.inl c) (by omega)
theorem cix_rg (hs : KHS F P s0 t0 N C O Q R L E I) : cix F P t0 C j = -1 ∨ ∃ i : Nat, cix F P t0 C j = (i : Int) ∧ i < 2 + C.length := by
  have := fw_rg (b := nmT F P t0 j) (tabC F P t0 C) 0
  rw [tabC_len] at this
  unfold cix
  rcases this with z | ⟨z1, z2⟩
  · exact Or.inl z
  · exact Or.inr ⟨(fw (tabC F P t0 C) (nmT F P t0 j) 0).toNat, by omega, by omega⟩
/-- the reference finds a pin of a part -/
theorem r_pin (h : TKH F n N P s0 t0) (hs : KHS F P s0 t0 N C O Q R L E I) (hr : KR s0 t0 C Q R L I t) (hj : j < N ∧ s0 9 j = 3) (hi : i < 2 + C.length) : m_pinOfPart (i : Int) (j : Int) t = some (if pfI F P t0 C Q R I i j = -1 then -1 else pfI F P t0 C Q R I i j - (bsI i : Int), t) := by
  have b := KHS_bd hs
  have hN := N2001 h.1
  have jN := hj.1
  unfold m_pinOfPart
  rw [gr (by omega)]
  have tp : ∀ k, k < 5 → (tabP F P t0 Q).getD k [] = cpN.getD k [] := fun k hk => by
    unfold tabP
    rw [gdL (by show k < 5; exact hk)]
  by_cases c : i ≤ 1
  · rw [if_pos (by omega), gd_pos (by omega), Int.toNat_natCast, r_word h hr.1 hj (by omega) l_12 (by decide), bq]
    generalize hnm : nmT F P t0 j = nm at *
    by_cases i0 : i = 0
    · subst i0
      rw [if_pos (by omega)]
      have e : pfI F P t0 C Q R I 0 j = if [97] = nm then 0 else if [98] = nm then 1 else if [111, 117, 116] = nm then 2 else -1 := by
        have q0 : paI C Q R I 0 = 0 := rfl
        have q1 : paI C Q R I (0 + 1) = 3 := rfl
        unfold pfI
        rw [q0, q1, hnm]
        have cg := fst1_cg (Q := fun k => (tabP F P t0 Q).getD k [] = nm) (Q' := fun k => cpN.getD k [] = nm) 3 0 (fun x _ x2 => by rw [tp x (by omega)])
        exact cg
      have e2 : fw gpN nm 0 = if [97] = nm then 0 else if [98] = nm then 1 else if [111, 117, 116] = nm then 2 else if [105, 110] = nm then 3 else -1 := rfl
      rw [e, e2]
      have b0 : bsI 0 = 0 := rfl
      rw [b0]
      by_cases q1 : [97] = nm
      · rw [if_pos q1, if_pos q1]; rfl
      · rw [if_neg q1, if_neg q1]
        by_cases q2 : [98] = nm
        · rw [if_pos q2, if_pos q2]; rfl
        · rw [if_neg q2, if_neg q2]
          by_cases q3 : [111, 117, 116] = nm
          · rw [if_pos q3, if_pos q3]; rfl
          · rw [if_neg q3, if_neg q3]
            by_cases q4 : [105, 110] = nm
            · rw [if_pos q4]; rfl
            · rw [if_neg q4]; rfl
    · have i1 : i = 1 := by omega
      subst i1
      rw [if_neg (by omega)]
      have z0 := KHS_0 hs
      have e : pfI F P t0 C Q R I 1 j = if [105, 110] = nm then 3 else if [111, 117, 116] = nm then 4 else -1 := by
        have q0 : paI C Q R I 1 = 3 := rfl
        have q1 : paI C Q R I (1 + 1) = 5 := by
          unfold paI
          rw [if_neg (by omega), if_neg (by omega)]
          show 5 + (hAt C Q R I 0).2.1 = 5
          rw [z0]
          rfl
        unfold pfI
        rw [q0, q1, hnm]
        have cg := fst1_cg (Q := fun k => (tabP F P t0 Q).getD k [] = nm) (Q' := fun k => cpN.getD k [] = nm) 2 3 (fun x _ x2 => by rw [tp x (by omega)])
        exact cg
      have e2 : fw gpN nm 0 = if [97] = nm then 0 else if [98] = nm then 1 else if [111, 117, 116] = nm then 2 else if [105, 110] = nm then 3 else -1 := rfl
      have b1 : bsI 1 = 3 := rfl
      rw [e, e2, b1]
      by_cases q4 : [105, 110] = nm
      · subst q4
        rfl
      · rw [if_neg q4, if_neg q4]
        by_cases q3 : [111, 117, 116] = nm
        · subst q3
          rfl
        · rw [if_neg q3, if_neg q3]
          by_cases q1 : [97] = nm
          · rw [if_pos q1]; rfl
          · rw [if_neg q1]
            by_cases q2 : [98] = nm
            · rw [if_pos q2]; rfl
            · rw [if_neg q2]; rfl
  · rw [if_neg (by omega)]
    have e1 := (KR_c hr (c := i - 2) (by omega)).1
    have e2 := (KR_c hr (c := i - 2 + 1) (by omega)).1
    have pm := paI_m hs hi
    have p1 : paI C Q R I i = 5 + (hAt C Q R I (i - 2)).2.1 := by unfold paI; rw [if_neg (by omega), if_neg (by omega)]
    have p2 : paI C Q R I (i + 1) = 5 + (hAt C Q R I (i - 2 + 1)).2.1 := by unfold paI; rw [if_neg (by omega), if_neg (by omega), show i + 1 - 2 = i - 2 + 1 by omega]
    have po := r_pinOf (j := j) (i := i - 2) (a := (hAt C Q R I (i - 2)).2.1) (b := (hAt C Q R I (i - 2 + 1)).2.1) (qk := fun k => (Q.getD k (0, 0)).1) h hr.1 e1 e2 (by omega) (by omega) (by omega) (fun k k1 k2 => by
      have kq : k < Q.length := by omega
      have q := (KHS_pq hs kq).1
      exact ⟨(hr.2.1.2.1.2 k kq).1, by have := q.1; omega, q.2.1⟩) hj
    rw [show (i : Int) - 2 = ((i - 2 : Nat) : Int) by omega, po, bq]
    have ef : pfI F P t0 C Q R I i j = if fst1 (fun k => nmT F P t0 (Q.getD k (0, 0)).1 = nmT F P t0 j) (hAt C Q R I (i - 2)).2.1 ((hAt C Q R I (i - 2 + 1)).2.1 - (hAt C Q R I (i - 2)).2.1) = -1 then -1 else 5 + fst1 (fun k => nmT F P t0 (Q.getD k (0, 0)).1 = nmT F P t0 j) (hAt C Q R I (i - 2)).2.1 ((hAt C Q R I (i - 2 + 1)).2.1 - (hAt C Q R I (i - 2)).2.1) := by
      unfold pfI
      rw [p1, p2, Nat.add_sub_add_left, fst1_sh]
      have cg := fst1_cg (Q := fun x => (tabP F P t0 Q).getD (5 + x) [] = nmT F P t0 j) (Q' := fun k => nmT F P t0 (Q.getD k (0, 0)).1 = nmT F P t0 j) ((hAt C Q R I (i - 2 + 1)).2.1 - (hAt C Q R I (i - 2)).2.1) (hAt C Q R I (i - 2)).2.1 (fun x x1 x2 => by rw [tabP_at (by omega)])
      rw [cg]
      rfl
    have bs5 : bsI i = 5 := by unfold bsI; rw [if_neg (by omega), if_neg (by omega)]
    rw [ef, bs5]
    have rg0 := fst1_rg (P := fun k => nmT F P t0 (Q.getD k (0, 0)).1 = nmT F P t0 j) ((hAt C Q R I (i - 2 + 1)).2.1 - (hAt C Q R I (i - 2)).2.1) (hAt C Q R I (i - 2)).2.1
    split
    · rename_i z; rw [z, if_pos rfl]
    · rename_i z
      rw [if_neg (by omega)]
      congr 2
      omega
/-- is a part's pin OUT; its width -/
theorem r_out (hs : KHS F P s0 t0 N C O Q R L E I) (hr : KR s0 t0 C Q R L I t) (hi : i < 2 + C.length) (hk : paI C Q R I i ≤ k ∧ k < paI C Q R I (i + 1)) : m_isOut (i : Int) ((k : Int) - (bsI i : Int)) t = some (if k < ooI O i then 0 else 1, t) ∧ m_widthOf (i : Int) ((k : Int) - (bsI i : Int)) t = some (pwI s0 Q k, t) := by
  have b := KHS_bd hs
  have pm := paI_m hs hi
  have z0 := KHS_0 hs
  unfold m_isOut m_widthOf
  by_cases i0 : i = 0
  · subst i0
    have e1 : paI C Q R I (0 + 1) = 3 := rfl
    have e2 : ooI O 0 = 2 := rfl
    have e3 : bsI 0 = 0 := rfl
    rw [e1] at hk
    rw [e2, e3, gr (by omega), if_pos (by omega), if_pos (by omega), gr (by omega), gr (by omega), if_pos (show ((0 : Nat) : Int) ≤ 1 by omega)]
    constructor
    · by_cases c : k < 2
      · rw [if_pos c, if_neg (by omega)]
      · rw [if_neg c, if_pos (by omega)]
    · unfold pwI
      rw [if_pos (by omega)]
  by_cases i1 : i = 1
  · subst i1
    have e0 : paI C Q R I 1 = 3 := rfl
    have e1 : paI C Q R I (1 + 1) = 5 := by
      unfold paI
      rw [if_neg (by omega), if_neg (by omega)]
      show 5 + (hAt C Q R I 0).2.1 = 5
      rw [z0]
      rfl
    have e2 : ooI O 1 = 4 := rfl
    have e3 : bsI 1 = 3 := rfl
    rw [e1, e0] at hk
    rw [e2, e3, gr (by omega), if_pos (by omega), if_neg (by omega), gr (by omega), gr (by omega), if_pos (show ((1 : Nat) : Int) ≤ 1 by omega)]
    constructor
    · by_cases c : k < 4
      · rw [if_pos c, if_neg (by omega)]
      · rw [if_neg c, if_pos (by omega)]
    · unfold pwI
      rw [if_pos (by omega)]
  have p1 : paI C Q R I i = 5 + (hAt C Q R I (i - 2)).2.1 := by unfold paI; rw [if_neg i0, if_neg i1]
  have p2 : paI C Q R I (i + 1) = 5 + (hAt C Q R I (i - 2 + 1)).2.1 := by unfold paI; rw [if_neg (by omega), if_neg (by omega), show i + 1 - 2 = i - 2 + 1 by omega]
  have p3 : ooI O i = 5 + O.getD (i - 2) 0 := by unfold ooI; rw [if_neg i0, if_neg i1]
  have p4 : bsI i = 5 := by unfold bsI; rw [if_neg i0, if_neg i1]
  have kq : k - 5 < Q.length := by omega
  obtain ⟨-, x2, x3, -⟩ := hr.2.1.2.1.2 (k - 5) kq
  obtain ⟨-, -, y, -⟩ := KHS_c hs (c := i - 2) (by omega)
  have y2 := (y (k - 5) (by omega) (by omega)).2
  rw [p4, p3, show ((k : Int) - ((5 : Nat) : Int)).toNat = k - 5 by omega]
  constructor
  · rw [gr (by omega), if_neg (by omega), gd_pos (by omega), x2, y2]
    by_cases c : k < 5 + O.getD (i - 2) 0
    · rw [if_pos c, if_pos (show k - 5 < O.getD (i - 2) 0 by omega), gd_pos (Or.inl rfl)]
    · rw [if_neg c, if_neg (show ¬ k - 5 < O.getD (i - 2) 0 by omega), gd_pos (Or.inr rfl)]
  · rw [gr (by omega), if_neg (by omega), gd_pos (by omega), x3]
    unfold pwI
    rw [if_neg (by omega)]
/-- a note in the reference -/
theorem note_c {f : Nat} (h : TKR 1 F n N P s0 t0) (hn : n ≤ 4000) (hr : SR t0 t) (hb : RBc P N Z t) (hf : 1 ≤ f ∧ f ≤ 7) (hj : j < N) : ∃ t', m_note (f : Int) (j : Int) t = some (0, t') ∧ RBc P N (Z ++ [16 * j + f]) t' ∧ (∀ c k, ¬ (c = 121 ∧ (k = 69 ∨ k = 70)) → t' c k = t c k) := by
  have hN := N2001 h
  have hP := fun i (hi : i < N) => (tkP h hi)
  have h125 : ∀ i, i < N → t 125 i = (P i : Int) := fun i hi => by rw [hr.2.2.1]; exact (hP i hi).2.1
  have n42 : ∃ t', m_note_42 (f : Int) (j : Int) t = some (0, t') ∧ t' 121 69 = (f : Int) ∧ t' 121 70 = (P j : Int) ∧ (∀ c k, ¬ (c = 121 ∧ (k = 69 ∨ k = 70)) → t' c k = t c k) := by
    refine ⟨up (up t 121 69 (f : Int)) 121 70 (P j : Int), ?_, by rw [up_ne (by omega), up_same], up_same _ _ _ _, fun c k q => by rw [up_ne (by omega), up_ne (by omega)]⟩
    unfold m_note_42
    rw [lt_eq, gd_pos (by omega), lt_eq, Int.toNat_natCast, up_ne (by omega), h125 j hj]
  have key : ∀ t', t' 121 69 = (f : Int) → t' 121 70 = (P j : Int) → 16 * j + f < kMn Z → RBc P N (Z ++ [16 * j + f]) t' := fun t' q1 q2 q3 => by
    have e : kMn (Z ++ [16 * j + f]) = 16 * j + f := by rw [kMn_app]; omega
    refine Or.inr ?_
    rw [e, show (16 * j + f) % 16 = f by omega, show (16 * j + f) / 16 = j by omega]
    exact ⟨by omega, q1, q2, by omega, hj⟩
  obtain ⟨t', e1, e2, e3, e4⟩ := n42
  unfold m_note
  rcases hb with ⟨b1, b2⟩ | ⟨b1, b2, b3, b4, b5⟩
  · rw [b2, gr (by omega), if_pos (by omega)]
    exact ⟨t', e1, key t' e2 e3 (by omega), e4⟩
  · have p1 := (hP (kMn Z / 16) b5).2.2
    have p2 := (hP j hj).2.2
    rw [b2, gr (by omega), if_neg (by omega), gd_pos (by omega), b3, gr (by omega), Int.toNat_natCast, h125 j hj, gr (by omega)]
    have keep : kMn Z ≤ 16 * j + f → RBc P N (Z ++ [16 * j + f]) t := fun q => by
      have e : kMn (Z ++ [16 * j + f]) = kMn Z := by rw [kMn_app]; omega
      unfold RBc
      rw [e]
      exact Or.inr ⟨b1, b2, b3, b4, b5⟩
    have mono : ∀ x y, x < N → y < N → (P x < P y ↔ x < y) := fun x y hx hy => by
      refine ⟨fun q => ?_, fun q => tkPm h q hy⟩
      rcases Nat.lt_trichotomy x y with c | c | c
      · exact c
      · rw [c] at q; omega
      · have := tkPm h c hx; omega
    have m1 := mono (kMn Z / 16) j b5 hj
    have m2 := mono j (kMn Z / 16) hj b5
    by_cases c : (P (kMn Z / 16) : Int) < (P j : Int)
    · rw [if_pos c]
      exact ⟨t, rfl, keep (by omega), fun _ _ _ => rfl⟩
    · rw [if_neg c]
      by_cases c2 : (P (kMn Z / 16) : Int) = (P j : Int)
      · rw [if_pos c2, gr (by omega)]
        have ej : kMn Z / 16 = j := by omega
        by_cases c3 : (f : Int) < ((kMn Z % 16 : Nat) : Int)
        · rw [if_pos c3]
          exact ⟨t', e1, key t' e2 e3 (by omega), e4⟩
        · rw [if_neg c3]
          exact ⟨t, rfl, keep (by omega), fun _ _ _ => rfl⟩
      · rw [if_neg c2]
        exact ⟨t', e1, key t' e2 e3 (by omega), e4⟩
end CIc
