/-! chips: what both ask of names, behind reading -/
section CIa
variable (F : Nat → Int) (P : Nat → Nat) (s0 t0 : iS) (N : Nat) (C : List chR) (O : List Nat) (Q : List (Nat × Int)) (R L : List (Nat × Nat)) (E I : List Nat)
/-- chip c, also the end behind the last one -/
def hAt (c : Nat) : chR := (C ++ [(0, Q.length, R.length, I.length)]).getD c (0, 0, 0, 0)
/-- the class's tables of names -/
def tabC : List (List Int) := cgN ++ C.map (fun c => nmT F P t0 c.1)
def tabP : List (List Int) := cpN ++ Q.map (fun q => nmT F P t0 q.1)
/-- which chip a name is: 0 Nand, 1 Dff, 2 .. the text's; -1 none -/
def cix (j : Nat) : Int := fw (tabC F P t0 C) (nmT F P t0 j) 0
/-- the pins of chip i: from, to, the first OUT one -/
def paI (i : Nat) : Nat := if i = 0 then 0 else if i = 1 then 3 else 5 + (hAt C Q R I (i - 2)).2.1
def ooI (i : Nat) : Nat := if i = 0 then 2 else if i = 1 then 4 else 5 + O.getD (i - 2) 0
def bsI (i : Nat) : Nat := if i = 0 then 0 else if i = 1 then 3 else 5
/-- the pin of chip i with a name -/
def pfI (i j : Nat) : Int := fst1 (fun k => (tabP F P t0 Q).getD k [] = nmT F P t0 j) (paI C Q R I i) (paI C Q R I (i + 1) - paI C Q R I i)
/-- a pin's width -/
def pwI (k : Nat) : Int := if k < 5 then 1 else wdP s0 (Q.getD (k - 5) (0, 0)).1
/-- the text, as the class and the reference have it -/
def KHS : Prop := (1 ≤ C.length ∧ BDa C O Q R L I []) ∧ CHS F P s0 t0 N C O Q R L E I ∧ ECH R E L ∧ (C.getD 0 (0, 0, 0, 0)).2 = (0, 0, 0)
def KC (s : iS) : Prop := SC s0 s ∧ (PcC F P t0 C s ∧ PcO O s ∧ PcP F P t0 Q s ∧ PcR R s ∧ PcL L s) ∧ STc s ∧ PcE E s ∧ PcZ C Q R s
def KR (t : iS) : Prop := SR t0 t ∧ (PrC C t ∧ PrP s0 Q t ∧ PrR R t ∧ PrL s0 L t ∧ PrI I t) ∧ t 196 C.length = (Q.length : Int) ∧ t 201 C.length = (R.length : Int) ∧ t 212 C.length = (I.length : Int) ∧ t 203 R.length = (L.length : Int)
end CIa
section CIb
variable {F : Nat → Int} {n N : Nat} {P : Nat → Nat} {s0 t0 s t s' t' : iS} {C : List chR} {O E I : List Nat} {Q : List (Nat × Int)} {R L : List (Nat × Nat)} {c i j k r l : Nat}
theorem KC_of (h : KC F P s0 t0 C O Q R L E s) (hs : ∀ c k, c < 14 ∧ ¬ (c = 2 ∧ (k = 12 ∨ k = 13 ∨ k = 14)) ∨ c = 42 ∨ c = 43 ∨ 71 ≤ c ∧ c ≤ 86 → s' c k = s c k) : KC F P s0 t0 C O Q R L E s' := by
  obtain ⟨⟨a1, a2, a3, a4, a5, a6, a7, a8, a9, a10⟩, ⟨h1, h2, h3, h4, h5⟩, h6, h7, h8⟩ := h
  have r : ∀ c, c < 14 ∧ c ≠ 2 ∨ c = 42 ∨ c = 43 → s' c = s c := fun c z => funext fun k => hs c k (by omega)
  refine ⟨⟨by rw [r 1 (by omega)]; exact a1, by rw [r 9 (by omega)]; exact a2, by rw [r 10 (by omega)]; exact a3, by rw [r 11 (by omega)]; exact a4, by rw [r 12 (by omega)]; exact a5, by rw [r 13 (by omega)]; exact a6, by rw [hs 2 8 (by omega)]; exact a7, by rw [hs 2 9 (by omega)]; exact a8, by rw [r 42 (by omega)]; exact a9, by rw [r 43 (by omega)]; exact a10⟩, ⟨PcC_of h1 (fun c k z => hs c k (by omega)), PcO_of h2 (fun k z => hs 77 k (by omega)), PcP_of h3 (fun c k z => hs c k (by omega)), PcR_of h4 (fun c k z => hs c k (by omega)), PcL_of h5 (fun c k z => hs c k (by omega))⟩, STc_of h6 (fun c k z => hs c k (by omega)), fun r hr => by rw [hs 84 _ (by omega)]; exact h7 r hr, fun z => by rw [hs 76 _ (by omega), hs 78 _ (by omega)]; exact h8 z⟩
theorem KR_of (h : KR s0 t0 C Q R L I t) (ht : ∀ c k, c = 121 ∧ (k = 3 ∨ k = 122 ∨ k = 125 ∨ k = 131 ∨ k = 134 ∨ k = 144) ∨ 122 < c ∧ c < 128 ∨ 195 ≤ c ∧ c ≤ 213 → t' c k = t c k) : KR s0 t0 C Q R L I t' := by
  obtain ⟨⟨b1, b2, b3, b4, b5, b6⟩, ⟨h1, h2, h3, h4, h5⟩, h6, h7, h8, h9⟩ := h
  have r' : ∀ c, 122 < c ∧ c < 128 → t' c = t c := fun c z => funext fun k => ht c k (by omega)
  exact ⟨⟨by rw [r' 123 (by omega)]; exact b1, by rw [r' 124 (by omega)]; exact b2, by rw [r' 125 (by omega)]; exact b3, by rw [r' 126 (by omega)]; exact b4, by rw [r' 127 (by omega)]; exact b5, by rw [ht 121 3 (by omega)]; exact b6⟩, ⟨PrC_of h1 (fun c k z => ht c k (by omega)), PrP_of h2 (fun c k z => ht c k (by omega)), PrR_of h3 (fun c k z => ht c k (by omega)), PrL_of h4 (fun c k z => ht c k (by omega)), PrI_of h5 (fun c k z => ht c k (by omega))⟩, by rw [ht 196 _ (by omega)]; exact h6, by rw [ht 201 _ (by omega)]; exact h7, by rw [ht 212 _ (by omega)]; exact h8, by rw [ht 203 _ (by omega)]; exact h9⟩
/-- both know where a chip's pins, parts and inner names begin -/
theorem hAt_lt (hc : c < C.length) : hAt C Q R I c = C.getD c (0, 0, 0, 0) := by
  unfold hAt
  rw [gdL hc]
theorem hAt_end : hAt C Q R I C.length = (0, Q.length, R.length, I.length) := by
  unfold hAt
  rw [gd_end]
theorem KC_c (h : KC F P s0 t0 C O Q R L E s) (h1 : 1 ≤ C.length) (hc : c ≤ C.length) : s 76 (2 + c) = 5 + ((hAt C Q R I c).2.1 : Int) ∧ s 78 (2 + c) = ((hAt C Q R I c).2.2.1 : Int) := by
  by_cases e : c < C.length
  · rw [hAt_lt e]
    exact (h.2.1.1.2 c e).2
  · have : c = C.length := by omega
    subst this
    rw [hAt_end]
    exact h.2.2.2.2 (by omega)
theorem KR_c (h : KR s0 t0 C Q R L I t) (hc : c ≤ C.length) : t 196 c = ((hAt C Q R I c).2.1 : Int) ∧ t 201 c = ((hAt C Q R I c).2.2.1 : Int) ∧ t 212 c = ((hAt C Q R I c).2.2.2 : Int) := by
  by_cases e : c < C.length
  · rw [hAt_lt e]
    exact (h.2.1.1.2 c e).2
  · have : c = C.length := by omega
    subst this
    rw [hAt_end]
    exact ⟨h.2.2.1, h.2.2.2.1, h.2.2.2.2.1⟩
/-- chip c, in short -/
theorem KHS_c (h : KHS F P s0 t0 N C O Q R L E I) (hc : c < C.length) : CHI F P s0 t0 N Q R L E I (hAt C Q R I c) (O.getD c 0) (hAt C Q R I (c + 1)) := by
  rw [hAt_lt hc]
  exact h.2.1 c hc
theorem KHS_0 (h : KHS F P s0 t0 N C O Q R L E I) : (hAt C Q R I 0).2 = (0, 0, 0) := by
  rw [hAt_lt (by have := h.1.1; omega)]
  exact h.2.2.2
/-- the pins of the chips lie one behind the other -/
theorem KHS_m (h : KHS F P s0 t0 N C O Q R L E I) : ∀ k c, c + k ≤ C.length → (hAt C Q R I c).2.1 ≤ (hAt C Q R I (c + k)).2.1 ∧ (hAt C Q R I c).2.2.1 ≤ (hAt C Q R I (c + k)).2.2.1 ∧ (hAt C Q R I c).2.2.2 ≤ (hAt C Q R I (c + k)).2.2.2
  | 0, c, _ => ⟨Nat.le_refl _, Nat.le_refl _, Nat.le_refl _⟩
  | k + 1, c, hk => by
    obtain ⟨a1, a2, a3⟩ := KHS_m h k c (by omega)
    obtain ⟨-, ⟨b1, b2, -⟩, -, ⟨b3, -⟩, -, ⟨b4, -⟩, -⟩ := KHS_c h (c := c + k) (by omega)
    rw [← Nat.add_assoc]
    exact ⟨by omega, by omega, by omega⟩
theorem KHS_q (h : KHS F P s0 t0 N C O Q R L E I) (hc : c ≤ C.length) : (hAt C Q R I c).2.1 ≤ Q.length ∧ (hAt C Q R I c).2.2.1 ≤ R.length ∧ (hAt C Q R I c).2.2.2 ≤ I.length := by
  have := KHS_m h (C.length - c) c (by omega)
  rw [show c + (C.length - c) = C.length by omega, hAt_end] at this
  exact this
/-- each pin belongs to a chip -/
theorem KHS_pin (h : KHS F P s0 t0 N C O Q R L E I) (hk : k < Q.length) : ∃ c, c < C.length ∧ (hAt C Q R I c).2.1 ≤ k ∧ k < (hAt C Q R I (c + 1)).2.1 := by
  have go : ∀ m, m ≤ C.length → k < (hAt C Q R I m).2.1 → ∃ c, c < m ∧ (hAt C Q R I c).2.1 ≤ k ∧ k < (hAt C Q R I (c + 1)).2.1 := by
    intro m
    induction m with
    | zero =>
      intro _ z
      rw [KHS_0 h] at z
      exact absurd z (Nat.not_lt_zero _)
    | succ m ih =>
      intro hm z
      by_cases q : k < (hAt C Q R I m).2.1
      · obtain ⟨c, c1, c2⟩ := ih (by omega) q
        exact ⟨c, by omega, c2⟩
      · exact ⟨m, by omega, by omega, z⟩
  exact go C.length (Nat.le_refl _) (by rw [hAt_end]; exact hk)
theorem KHS_part (h : KHS F P s0 t0 N C O Q R L E I) (hk : r < R.length) : ∃ c, c < C.length ∧ (hAt C Q R I c).2.2.1 ≤ r ∧ r < (hAt C Q R I (c + 1)).2.2.1 := by
  have go : ∀ m, m ≤ C.length → r < (hAt C Q R I m).2.2.1 → ∃ c, c < m ∧ (hAt C Q R I c).2.2.1 ≤ r ∧ r < (hAt C Q R I (c + 1)).2.2.1 := by
    intro m
    induction m with
    | zero =>
      intro _ z
      rw [KHS_0 h] at z
      exact absurd z (Nat.not_lt_zero _)
    | succ m ih =>
      intro hm z
      by_cases q : r < (hAt C Q R I m).2.2.1
      · obtain ⟨c, c1, c2⟩ := ih (by omega) q
        exact ⟨c, by omega, c2⟩
      · exact ⟨m, by omega, by omega, z⟩
  exact go C.length (Nat.le_refl _) (by rw [hAt_end]; exact hk)
theorem KHS_pq (h : KHS F P s0 t0 N C O Q R L E I) (hk : k < Q.length) : pOK s0 N (Q.getD k (0, 0)).1 ∧ ((Q.getD k (0, 0)).2 = 0 ∨ (Q.getD k (0, 0)).2 = 1) := by
  obtain ⟨c, c1, c2, c3⟩ := KHS_pin h hk
  obtain ⟨-, -, b, -⟩ := KHS_c h c1
  obtain ⟨b1, b2⟩ := b k c2 c3
  refine ⟨b1, ?_⟩
  rw [b2]
  split
  · exact Or.inl rfl
  · exact Or.inr rfl
theorem KHS_bd (h : KHS F P s0 t0 N C O Q R L E I) : 1 ≤ C.length ∧ C.length ≤ 16 ∧ Q.length ≤ 192 ∧ R.length ≤ 384 ∧ L.length ≤ 500 ∧ I.length ≤ 500 ∧ O.length = C.length := by
  obtain ⟨⟨h1, b1, b2, b3, b4, b5, b6, b7⟩, -⟩ := h
  have : ([] : List Nat).length = 0 := rfl
  exact ⟨h1, b1, by omega, by omega, by omega, by omega, b2⟩
/-- a pin's width is 1 .. 16 -/
theorem wdP_rg : 1 ≤ wdP s0 j ∧ wdP s0 j ≤ 16 := by
  unfold wdP
  split
  · omega
  · split <;> omega
theorem pwI_rg : 1 ≤ pwI s0 Q k ∧ pwI s0 Q k ≤ 16 := by
  unfold pwI
  split
  · omega
  · exact wdP_rg
theorem tabC_len : (tabC F P t0 C).length = 2 + C.length := by
  unfold tabC
  rw [List.length_append, List.length_map]
  rfl
theorem tabP_len : (tabP F P t0 Q).length = 5 + Q.length := by
  unfold tabP
  rw [List.length_append, List.length_map]
  rfl
theorem tabP_at (hk : k < Q.length) : (tabP F P t0 Q).getD (5 + k) [] = nmT F P t0 (Q.getD k (0, 0)).1 := by
  unfold tabP
  rw [gdR (by show 5 ≤ 5 + k; omega), show 5 + k - cpN.length = k from by show 5 + k - 5 = k; omega, List.getD_eq_getElem?_getD, List.getElem?_map, List.getD_eq_getElem?_getD, List.getElem?_eq_getElem hk]
  rfl
theorem tabC_at (hc : c < C.length) : (tabC F P t0 C).getD (2 + c) [] = nmT F P t0 (C.getD c (0, 0, 0, 0)).1 := by
  unfold tabC
  rw [gdR (by show 2 ≤ 2 + c; omega), show 2 + c - cgN.length = c from by show 2 + c - 2 = c; omega, List.getD_eq_getElem?_getD, List.getElem?_map, List.getD_eq_getElem?_getD, List.getElem?_eq_getElem hc]
  rfl
theorem gwl {w : List Int} {l : List (List Int)} (d : l.all (fun w => decide (w.length ≤ 16 ∧ 0 < w.length ∧ ∀ x ∈ w, 0 < x ∧ x < 256)) = true) (hw : w ∈ l) : gw w := by
  have z := of_decide_eq_true (List.all_eq_true.mp d w hw)
  exact z
theorem tabC_gw (h : TKR 1 F n N P s0 t0) (hs : KHS F P s0 t0 N C O Q R L E I) : ∀ w ∈ tabC F P t0 C, gw w := fun w hw => by
  rcases List.mem_append.mp hw with z | z
  · exact gwl (by decide) z
  · obtain ⟨x, x1, x2⟩ := List.mem_map.mp z
    obtain ⟨c, hc, e⟩ := List.getElem_of_mem x1
    have := (KHS_c hs hc).1
    rw [hAt_lt hc] at this
    have e2 : C.getD c (0, 0, 0, 0) = x := by rw [List.getD_eq_getElem?_getD, List.getElem?_eq_getElem hc]; exact e
    rw [e2] at this
    rw [← x2]
    exact (tkN h this.1 this.2).1
theorem tabP_gw (h : TKR 1 F n N P s0 t0) (hs : KHS F P s0 t0 N C O Q R L E I) : ∀ w ∈ tabP F P t0 Q, gw w := fun w hw => by
  rcases List.mem_append.mp hw with z | z
  · exact gwl (by decide) z
  · obtain ⟨x, x1, x2⟩ := List.mem_map.mp z
    obtain ⟨c, hc, e⟩ := List.getElem_of_mem x1
    have := (KHS_pq hs hc).1
    have e2 : Q.getD c (0, 0) = x := by rw [List.getD_eq_getElem?_getD, List.getElem?_eq_getElem hc]; exact e
    rw [e2] at this
    rw [← x2]
    exact (tkN h (by have := this.1; omega) this.2.1).1
/-- the class finds a chip -/
theorem c_chip (h : TKR 1 F n N P s0 t0) (hs : KHS F P s0 t0 N C O Q R L E I) (hc : KC F P s0 t0 C O Q R L E s) (hj : j < N ∧ s0 9 j = 3) : tok_findIn 72 73 74 18 (j : Int) 0 18 s = some (cix F P t0 C j, s) := by
  have b := KHS_bd hs
  have fi := cFi (c := 72) (a := 73) (b := 74) (M := 18) (f := 0) (e := 18) h hc.1 hj.1 hj.2 hc.2.1.1.1 (tabC_gw h hs) (by omega) (by show (tabC F P t0 C).length ≤ 18; rw [tabC_len]; omega) (by omega) (by omega)
  have e : fst1 (fun i => (tabC F P t0 C).getD i [] = nmT F P t0 j) 0 (tabC F P t0 C).length = cix F P t0 C j := fst_fw _ 0 (fun k _ => by rw [Nat.zero_add])
  rw [← e]
  have e2 : min 18 (cgN ++ C.map (fun c => nmT F P t0 c.1)).length - 0 = (tabC F P t0 C).length := by
    show min 18 (tabC F P t0 C).length - 0 = _
    rw [tabC_len]; omega
  rw [e2] at fi
  exact fi
/-- as far as chip i: for a name told twice -/
theorem c_chip0 (h : TKR 1 F n N P s0 t0) (hs : KHS F P s0 t0 N C O Q R L E I) (hc : KC F P s0 t0 C O Q R L E s) (hj : j < N ∧ s0 9 j = 3) (hi : i ≤ 2 + C.length) : tok_findIn 72 73 74 18 (j : Int) 0 (i : Int) s = some (fst1 (fun k => (tabC F P t0 C).getD k [] = nmT F P t0 j) 0 i, s) := by
  have b := KHS_bd hs
  have fi := cFi (c := 72) (a := 73) (b := 74) (M := 18) (f := 0) (e := i) h hc.1 hj.1 hj.2 hc.2.1.1.1 (tabC_gw h hs) (by omega) (by show (tabC F P t0 C).length ≤ 18; rw [tabC_len]; omega) (by omega) (by omega)
  have e2 : min i (cgN ++ C.map (fun c => nmT F P t0 c.1)).length - 0 = i := by
    show min i (tabC F P t0 C).length - 0 = _
    rw [tabC_len]; omega
  rw [e2] at fi
  exact fi
/-- the class finds a pin -/
theorem c_pin (h : TKR 1 F n N P s0 t0) (hs : KHS F P s0 t0 N C O Q R L E I) (hc : KC F P s0 t0 C O Q R L E s) (hj : j < N ∧ s0 9 j = 3) (hi : i < 2 + C.length) : cck_findPin (i : Int) (j : Int) s = some (pfI F P t0 C Q R I i j, s) := by
  have b := KHS_bd hs
  have z0 := KHS_0 hs
  have e76 : ∀ x, x ≤ 2 + C.length → s 76 x = ((paI C Q R I x : Nat) : Int) := fun x hx => by
    unfold paI
    by_cases x0 : x = 0
    · rw [if_pos x0, x0, hc.2.2.1.1]; rfl
    · rw [if_neg x0]
      by_cases x1 : x = 1
      · rw [if_pos x1, x1, hc.2.2.1.2.1]; rfl
      · rw [if_neg x1]
        have := (KC_c (I := I) hc b.1 (c := x - 2) (by omega)).1
        rw [show 2 + (x - 2) = x by omega] at this
        rw [this]
        omega
  have pq : ∀ x, x ≤ 2 + C.length → paI C Q R I x ≤ 5 + Q.length := fun x hx => by
    unfold paI
    split
    · omega
    · split
      · omega
      · have := (KHS_q hs (c := x - 2) (by omega)).1
        omega
  have fi := cFi (c := 79) (a := 80) (b := 81) (M := 197) (f := paI C Q R I i) (e := paI C Q R I (i + 1)) h hc.1 hj.1 hj.2 hc.2.1.2.2.1.1 (tabP_gw h hs) (by omega) (by show (tabP F P t0 Q).length ≤ 197; rw [tabP_len]; omega) (by have := pq i (by omega); omega) (by have := pq (i + 1) (by omega); omega)
  have e2 : min (paI C Q R I (i + 1)) (cpN ++ Q.map (fun q => nmT F P t0 q.1)).length = paI C Q R I (i + 1) := by
    show min _ (tabP F P t0 Q).length = _
    rw [tabP_len]
    have := pq (i + 1) (by omega)
    omega
  rw [e2] at fi
  unfold cck_findPin
  rw [gd_pos (by omega), gd_pos (by omega), Int.toNat_natCast, show ((i : Int) + 1).toNat = i + 1 by omega, e76 i (by omega), e76 (i + 1) (by omega), fi, bq]
  rfl
theorem paI_m (hs : KHS F P s0 t0 N C O Q R L E I) (hi : i < 2 + C.length) : paI C Q R I i < ooI O i ∧ ooI O i < paI C Q R I (i + 1) ∧ paI C Q R I (i + 1) ≤ 5 + Q.length ∧ bsI i ≤ paI C Q R I i ∧ paI C Q R I (i + 1) ≤ paI C Q R I i + 12 := by
  have z0 := KHS_0 hs
  by_cases i0 : i = 0
  · rw [i0]
    have e0 : paI C Q R I 0 = 0 := rfl
    have e1 : paI C Q R I (0 + 1) = 3 := rfl
    have e2 : ooI O 0 = 2 := rfl
    have e3 : bsI 0 = 0 := rfl
    rw [e0, e1, e2, e3]
    omega
  · by_cases i1 : i = 1
    · rw [i1]
      have e0 : paI C Q R I 1 = 3 := rfl
      have e1 : paI C Q R I (1 + 1) = 5 := by
        unfold paI
        rw [if_neg (by omega), if_neg (by omega)]
        show 5 + (hAt C Q R I 0).2.1 = 5
        rw [z0]
        rfl
      have e2 : ooI O 1 = 4 := rfl
      have e3 : bsI 1 = 3 := rfl
      rw [e0, e1, e2, e3]
      omega
    · have e1 : paI C Q R I i = 5 + (hAt C Q R I (i - 2)).2.1 := by unfold paI; rw [if_neg i0, if_neg i1]
      have e2 : paI C Q R I (i + 1) = 5 + (hAt C Q R I (i - 2 + 1)).2.1 := by unfold paI; rw [if_neg (by omega), if_neg (by omega), show i + 1 - 2 = i - 2 + 1 by omega]
      have e3 : ooI O i = 5 + O.getD (i - 2) 0 := by unfold ooI; rw [if_neg i0, if_neg i1]
      have e4 : bsI i = 5 := by unfold bsI; rw [if_neg i0, if_neg i1]
      rw [e1, e2, e3, e4]
      obtain ⟨-, ⟨b1, b2, b3, b4⟩, -⟩ := KHS_c hs (c := i - 2) (by omega)
      omega
theorem pfI_rg (hs : KHS F P s0 t0 N C O Q R L E I) (hi : i < 2 + C.length) : pfI F P t0 C Q R I i j = -1 ∨ ∃ k : Nat, pfI F P t0 C Q R I i j = (k : Int) ∧ paI C Q R I i ≤ k ∧ k < paI C Q R I (i + 1) ∧ k < 197 := by
  have pm := paI_m hs hi
  have b := KHS_bd hs
  rcases fst1_rg (P := fun k => (tabP F P t0 Q).getD k [] = nmT F P t0 j) (paI C Q R I (i + 1) - paI C Q R I i) (paI C Q R I i) with z | ⟨z1, z2, -⟩
  · exact Or.inl z
  · have z1' : ((paI C Q R I i : Nat) : Int) ≤ pfI F P t0 C Q R I i j := z1
    have z2' : pfI F P t0 C Q R I i j < ((paI C Q R I i + (paI C Q R I (i + 1) - paI C Q R I i) : Nat) : Int) := z2
    exact Or.inr ⟨(pfI F P t0 C Q R I i j).toNat, by omega, by omega, by omega, by omega⟩
/-- is a pin OUT -/
theorem c_out (hs : KHS F P s0 t0 N C O Q R L E I) (hc : KC F P s0 t0 C O Q R L E s) (hi : i < 2 + C.length) (hk : k < 1000) : cck_isOut (i : Int) (k : Int) s = some (if k < ooI O i then 0 else 1, s) := by
  have b := KHS_bd hs
  have pm := paI_m hs hi
  have e77 : s 77 i = ((ooI O i : Nat) : Int) := by
    unfold ooI
    by_cases x0 : i = 0
    · rw [if_pos x0, x0, hc.2.2.1.2.2.1]; rfl
    · rw [if_neg x0]
      by_cases x1 : i = 1
      · rw [if_pos x1, x1, hc.2.2.1.2.2.2.1]; rfl
      · rw [if_neg x1]
        have := hc.2.1.2.1 (i - 2) (by omega)
        rw [show 2 + (i - 2) = i by omega] at this
        rw [this]
        omega
  unfold cck_isOut
  rw [gd_pos (by omega), Int.toNat_natCast, gr (by omega), e77, gr (by omega)]
  by_cases c : k < ooI O i
  · rw [if_pos c, if_pos (by omega)]
  · rw [if_neg c, if_neg (by omega)]
/-- a range in the class -/
def loB (s0 : iS) (j : Nat) : Int := rgI s0 j
def hiB (s0 : iS) (j : Nat) (w : Int) : Int := if s0 9 (j + 1) = 91 then rgJ s0 j else w - 1
def rwB (s0 : iS) (j : Nat) (w : Int) : Int := if hiB s0 j w < loB s0 j then -1 else if w ≤ hiB s0 j w then -1 else hiB s0 j w - loB s0 j + 1
theorem c_low (h : TKR 1 F n N P s0 t0) (hs : SC s0 s) (hj : rOK s0 N j) : cck_lowBit (j : Int) s = some (loB s0 j, s) := by
  have hN := N2001 h
  have k := kRg h hj.1
  unfold cck_lowBit loB rgI
  rw [show (j : Int) + 1 = ((j + 1 : Nat) : Int) by omega, cKo h hs hj.1, bq, gr (by omega)]
  by_cases c : s0 9 (j + 1) = 91
  · have := hj.2 c
    rw [if_pos c, if_pos c, show (j : Int) + 2 = ((j + 2 : Nat) : Int) by omega, cVo h hs (by omega), bq]
  · rw [if_neg c, if_neg c]
theorem c_high (h : TKR 1 F n N P s0 t0) (hs : SC s0 s) (hj : rOK s0 N j) {w : Int} : cck_highBit (j : Int) w s = some (hiB s0 j w, s) := by
  have hN := N2001 h
  have k := kRg h hj.1
  unfold cck_highBit cck_highBit_47 hiB rgJ
  rw [show (j : Int) + 1 = ((j + 1 : Nat) : Int) by omega, cKo h hs hj.1, bq, gr (by omega)]
  by_cases c : s0 9 (j + 1) = 91
  · obtain ⟨q1, q2, q3⟩ := hj.2 c
    have k3 := kRg h q1
    rw [if_pos c, if_pos c, if_pos c, show (j : Int) + 3 = ((j + 3 : Nat) : Int) by omega, cKo h hs q1, bq, gr (by omega)]
    by_cases d : s0 9 (j + 3) = 46
    · have := q3 d
      rw [if_pos d, if_pos d, show (j : Int) + 4 = ((j + 4 : Nat) : Int) by omega, cVo h hs (by omega), bq]
    · rw [if_neg d, if_neg d, show (j : Int) + 2 = ((j + 2 : Nat) : Int) by omega, cVo h hs (by omega), bq]
  · rw [if_neg c, if_neg c]
theorem lo_rg (h : TKR 1 F n N P s0 t0) (hj : rOK s0 N j) {w : Int} (hw : 1 ≤ w ∧ w ≤ 16) : (0 ≤ loB s0 j ∧ loB s0 j ≤ 32767) ∧ (0 ≤ hiB s0 j w ∧ hiB s0 j w ≤ 32767) ∧ (rwB s0 j w = -1 ∨ 1 ≤ rwB s0 j w ∧ rwB s0 j w ≤ 16 ∧ loB s0 j + rwB s0 j w ≤ w) := by
  have a : (0 ≤ loB s0 j ∧ loB s0 j ≤ 32767) ∧ (0 ≤ hiB s0 j w ∧ hiB s0 j w ≤ 32767) := by
    unfold loB hiB rgI rgJ
    by_cases c : s0 9 (j + 1) = 91
    · obtain ⟨q1, q2, q3⟩ := hj.2 c
      have v2 := tkV h (by omega) q2
      rw [if_pos c, if_pos c, if_pos c]
      by_cases d : s0 9 (j + 3) = 46
      · have v4 := tkV h (by have := (q3 d).1; omega) (q3 d).2
        rw [if_pos d]
        omega
      · rw [if_neg d]
        omega
    · rw [if_neg c, if_neg c]
      omega
  refine ⟨a.1, a.2, ?_⟩
  unfold rwB
  split
  · exact Or.inl rfl
  · split
    · exact Or.inl rfl
    · omega
theorem c_rw (h : TKR 1 F n N P s0 t0) (hj : rOK s0 N j) {w : Int} (hw : 1 ≤ w ∧ w ≤ 16) : cck_rangeWidth (loB s0 j) (hiB s0 j w) w s = some (rwB s0 j w, s) := by
  obtain ⟨a1, a2, -⟩ := lo_rg h hj hw
  unfold cck_rangeWidth rwB
  rw [gr (by omega), gr (by omega)]
  by_cases c : hiB s0 j w < loB s0 j
  · rw [if_pos c, if_pos c]
  · rw [if_neg c, if_neg c, gr (by omega)]
    by_cases d : w ≤ hiB s0 j w
    · rw [if_pos d, if_pos d]
    · rw [if_neg d, if_neg d]
/-- a range in the reference -/
theorem r_fit (h : TKR 1 F n N P s0 t0) (hj : rOK s0 N j) {w : Int} (hw : 1 ≤ w ∧ w ≤ 16) : m_rangeFits (rgA s0 j) (rgI s0 j) (rgJ s0 j) w t = some (if rwB s0 j w = -1 then 0 else 1, t) ∧ (rwB s0 j w ≠ -1 → m_bitsOf (rgA s0 j) (rgI s0 j) (rgJ s0 j) w t = some (rwB s0 j w, t)) := by
  have hN := N2001 h
  have hj1 := hj.1
  obtain ⟨a1, a2, a3⟩ := lo_rg h hj hw
  unfold m_rangeFits m_bitsOf
  by_cases c : s0 9 (j + 1) = 91
  · have eA : rgA s0 j = ((j + 1 : Nat) : Int) := by unfold rgA; rw [if_pos c]
    have eh : hiB s0 j w = rgJ s0 j := by unfold hiB; rw [if_pos c]
    have el : loB s0 j = rgI s0 j := rfl
    have er : rwB s0 j w = if rgJ s0 j < rgI s0 j then -1 else if w ≤ rgJ s0 j then -1 else rgJ s0 j - rgI s0 j + 1 := by
      unfold rwB
      rw [eh, el]
    rw [eh] at a2
    rw [el] at a1
    rw [eA]
    constructor
    · rw [gr (by omega), if_neg (by omega), gr (by omega), gr (by omega)]
      by_cases d : rgJ s0 j < rgI s0 j
      · rw [er, if_pos d, if_pos d, if_pos rfl]
      · rw [if_neg d] at er ⊢
        rw [gr (by omega)]
        by_cases e : w ≤ rgJ s0 j
        · rw [er, if_pos e, if_pos e, if_pos rfl]
        · rw [if_neg e] at er ⊢
          rw [er, if_neg (by omega)]
    · intro z
      rw [gr (by omega), if_neg (by omega)]
      by_cases d : rgJ s0 j < rgI s0 j
      · rw [if_pos d] at er
        exact absurd er z
      · rw [if_neg d] at er
        by_cases e : w ≤ rgJ s0 j
        · rw [if_pos e] at er
          exact absurd er z
        · rw [if_neg e] at er
          rw [er]
  · have eA : rgA s0 j = -1 := by unfold rgA; rw [if_neg c]
    have er : rwB s0 j w = w := by
      unfold rwB hiB loB rgI
      rw [if_neg c, if_neg c, if_neg (by omega), if_neg (by omega)]
      omega
    rw [eA]
    constructor
    · rw [gr (by omega), if_pos rfl, er, if_neg (by omega)]
    · intro _
      rw [gr (by omega), if_pos rfl, er]
end CIb
