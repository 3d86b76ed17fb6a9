/-! chips: names told twice, widths -/
/-- a sum -/
def sW (f : Nat → Nat) (a : Nat) : Nat → Nat
  | 0 => 0
  | m + 1 => sW f a m + f (a + m)
theorem sW_s {f : Nat → Nat} {a m : Nat} : sW f a (m + 1) = sW f a m + f (a + m) := rfl
theorem sW_le {f : Nat → Nat} {a b : Nat} (h : ∀ x, f x ≤ b) : ∀ m, sW f a m ≤ b * m
  | 0 => Nat.zero_le _
  | m + 1 => by
    have := sW_le (a := a) h m
    have := h (a + m)
    rw [sW_s, Nat.mul_succ]
    omega
theorem sW_mono {f : Nat → Nat} {a : Nat} : ∀ k m, sW f a m ≤ sW f a (m + k)
  | 0, m => Nat.le_refl _
  | k + 1, m => by
    have := sW_mono (f := f) (a := a) k m
    rw [← Nat.add_assoc, sW_s]
    omega
theorem upup {s : iS} {c k : Nat} {x y : Int} : up (up s c k x) c k y = up s c k y := by
  funext c' k'
  by_cases z : c' = c ∧ k' = k
  · rw [z.1, z.2, up_same, up_same]
  · rw [up_ne z, up_ne z, up_ne z]
section CId
variable (F : Nat → Int) (P : Nat → Nat) (s0 t0 : iS) (C : List chR) (Q : List (Nat × Int)) (R : List (Nat × Nat)) (I : List Nat)
def pwN (k : Nat) : Nat := (pwI s0 Q k).toNat
/-- where a pin's bits begin in its chip -/
def ofI (i k : Nat) : Nat := sW (pwN s0 Q) (paI C Q R I i) (k - paI C Q R I i)
/-- notes of a chip's name, of a pin -/
def nCh (c : Nat) : List Nat := if fst1 (fun k => (tabC F P t0 C).getD k [] = nmT F P t0 (C.getD c (0, 0, 0, 0)).1) 0 (2 + c) = -1 then [] else [16 * (C.getD c (0, 0, 0, 0)).1 + 3]
def nPn (c q : Nat) : List Nat := (if fst1 (fun k => (tabP F P t0 Q).getD k [] = nmT F P t0 (Q.getD q (0, 0)).1) (5 + (hAt C Q R I c).2.1) (q - (hAt C Q R I c).2.1) = -1 then [] else [16 * (Q.getD q (0, 0)).1 + 3]) ++ (if 1 ≤ wdT s0 (Q.getD q (0, 0)).1 ∧ wdT s0 (Q.getD q (0, 0)).1 ≤ 16 then [] else [16 * ((Q.getD q (0, 0)).1 + 2) + 5])
def nPs (c a : Nat) : Nat → List Nat
  | 0 => []
  | m + 1 => nPs c a m ++ nPn F P s0 t0 C Q R I c (a + m)
def nCs : Nat → List Nat
  | 0 => []
  | c + 1 => nCs c ++ (nCh F P t0 C c ++ nPs F P s0 t0 C Q R I c (hAt C Q R I c).2.1 ((hAt C Q R I (c + 1)).2.1 - (hAt C Q R I c).2.1))
/-- the class's pins: widths and places -/
def KW (q : Nat) (s : iS) : Prop := (∀ k, k < 5 + q → s 91 k = pwI s0 Q k) ∧ ∀ i k, i < 2 + C.length → paI C Q R I i ≤ k → k < paI C Q R I (i + 1) → k < 5 + q → s 92 k = (ofI s0 C Q R I i k : Int)
/-- the bits of the chips' pins -/
def KO (c : Nat) (s : iS) : Prop := ∀ i, i < 2 + c → s 93 i = (ofI s0 C Q R I i (paI C Q R I (i + 1)) : Int)
end CId
section CIe
variable {F : Nat → Int} {n N : Nat} {P : Nat → Nat} {s0 t0 s t s' t' : iS} {C : List chR} {O E I : List Nat} {Q : List (Nat × Int)} {R L : List (Nat × Nat)} {c i j k q r l : Nat} {Z : List Nat}
theorem pwN_rg : 1 ≤ pwN s0 Q k ∧ pwN s0 Q k ≤ 16 ∧ (pwN s0 Q k : Int) = pwI s0 Q k := by
  have := pwI_rg (s0 := s0) (Q := Q) (k := k)
  unfold pwN
  omega
theorem KW_of (h : KW s0 C Q R I q s) (hs : ∀ c k, c = 91 ∨ c = 92 → k < 5 + q → s' c k = s c k) : KW s0 C Q R I q s' := ⟨fun k hk => by rw [hs 91 k (by omega) hk]; exact h.1 k hk, fun i k h1 h2 h3 h4 => by rw [hs 92 k (by omega) h4]; exact h.2 i k h1 h2 h3 h4⟩
theorem paI_c (hc : c < C.length) : paI C Q R I (2 + c) = 5 + (hAt C Q R I c).2.1 ∧ paI C Q R I (2 + c + 1) = 5 + (hAt C Q R I (c + 1)).2.1 := by
  unfold paI
  rw [if_neg (by omega), if_neg (by omega), if_neg (by omega), if_neg (by omega), show 2 + c - 2 = c by omega, show 2 + c + 1 - 2 = c + 1 by omega]
  exact ⟨rfl, rfl⟩
/-- the pins of the chips lie apart -/
theorem paI_lt (hs : KHS F P s0 t0 N C O Q R L E I) : ∀ m i, i + m ≤ 2 + C.length → paI C Q R I i ≤ paI C Q R I (i + m)
  | 0, i, _ => Nat.le_refl _
  | m + 1, i, hm => by
    have := paI_lt hs m i (by omega)
    have := paI_m hs (i := i + m) (by omega)
    rw [← Nat.add_assoc]
    omega
theorem paI_u (hs : KHS F P s0 t0 N C O Q R L E I) {i' : Nat} (h1 : i < 2 + C.length) (h2 : i' < 2 + C.length) (h3 : paI C Q R I i ≤ k ∧ k < paI C Q R I (i + 1)) (h4 : paI C Q R I i' ≤ k ∧ k < paI C Q R I (i' + 1)) : i = i' := by
  rcases Nat.lt_trichotomy i i' with z | z | z
  · have := paI_lt hs (i' - (i + 1)) (i + 1) (by omega)
    rw [show i + 1 + (i' - (i + 1)) = i' by omega] at this
    omega
  · exact z
  · have := paI_lt hs (i - (i' + 1)) (i' + 1) (by omega)
    rw [show i' + 1 + (i - (i' + 1)) = i by omega] at this
    omega
/-- the class: one pin -/
theorem c_pin1 (h : TKR 1 F n N P s0 t0) (hs : KHS F P s0 t0 N C O Q R L E I) (hc : KC F P s0 t0 C O Q R L E s) (hb : BLc Z s) (hcl : c < C.length) (hq : (hAt C Q R I c).2.1 ≤ q ∧ q < (hAt C Q R I (c + 1)).2.1) (hw : KW s0 C Q R I q s) : ∃ s', cck_checkPins_15b ((2 + c : Nat) : Int) (ofI s0 C Q R I (2 + c) (5 + q) : Int) ((5 + (hAt C Q R I c).2.1 : Nat) : Int) ((5 + q : Nat) : Int) s = some (.inl ((ofI s0 C Q R I (2 + c) (5 + (q + 1)) : Int), ((5 + (q + 1) : Nat) : Int), s')) ∧ BLc (Z ++ nPn F P s0 t0 C Q R I c q) s' ∧ KW s0 C Q R I (q + 1) s' ∧ (∀ c' k, ¬ ((c' = 91 ∨ c' = 92) ∧ k = 5 + q) → ¬ (c' = 2 ∧ (k = 13 ∨ k = 14)) → s' c' k = s c' k) := by
  have hN := N2001 h
  have bd' := KHS_bd hs
  obtain ⟨p1, p2⟩ := paI_c (Q := Q) (R := R) (I := I) hcl
  have pm := paI_m hs (i := 2 + c) (by omega)
  have qQ : q < Q.length := by omega
  obtain ⟨⟨o1, o2, o3⟩, -⟩ := KHS_pq hs qQ
  generalize hj : (Q.getD q (0, 0)).1 = j at *
  have e82 : s 82 (5 + q) = (j : Int) := by rw [hc.2.1.2.2.1.2 q qQ, hj]
  have e76 : s 76 (2 + c + 1) = ((5 + (hAt C Q R I (c + 1)).2.1 : Nat) : Int) := by
    rw [show 2 + c + 1 = 2 + (c + 1) by omega, (KC_c (I := I) hc bd'.1 (c := c + 1) (by omega)).1]
    omega
  have fi := cFi (c := 79) (a := 80) (b := 81) (M := 197) (f := 5 + (hAt C Q R I c).2.1) (e := 5 + q) h hc.1 (show j < N by omega) o2 hc.2.1.2.2.1.1 (tabP_gw h hs) (by omega) (by show (tabP F P t0 Q).length ≤ 197; rw [tabP_len]; omega) (by omega) (by omega)
  have e2 : min (5 + q) (cpN ++ Q.map (fun q => nmT F P t0 q.1)).length - (5 + (hAt C Q R I c).2.1) = q - (hAt C Q R I c).2.1 := by
    show min (5 + q) (tabP F P t0 Q).length - _ = _
    rw [tabP_len]; omega
  rw [e2] at fi
  obtain ⟨fx, hfx⟩ : ∃ fx, fx = fst1 (fun k => (tabP F P t0 Q).getD k [] = nmT F P t0 j) (5 + (hAt C Q R I c).2.1) (q - (hAt C Q R I c).2.1) := ⟨_, rfl⟩
  have fi' : tok_findIn 79 80 81 197 (j : Int) ((5 + (hAt C Q R I c).2.1 : Nat) : Int) ((5 + q : Nat) : Int) s = some (fx, s) := by rw [hfx]; exact fi
  have fxr : rg fx := by
    have := fst1_rg (P := fun k => (tabP F P t0 Q).getD k [] = nmT F P t0 j) (q - (hAt C Q R I c).2.1) (5 + (hAt C Q R I c).2.1)
    rw [← hfx] at this
    exact ⟨by omega, by omega⟩
  -- the first note
  obtain ⟨s1, a1, a2, a3⟩ : ∃ s1, (if fx = (-1) then cck_checkPins_76 ((2 + c : Nat) : Int) (ofI s0 C Q R I (2 + c) (5 + q) : Int) ((5 + (hAt C Q R I c).2.1 : Nat) : Int) ((5 + q : Nat) : Int) (j : Int) s else bd (tok_blame 3 (j : Int) s) (fun _ s9 => cck_checkPins_76 ((2 + c : Nat) : Int) (ofI s0 C Q R I (2 + c) (5 + q) : Int) ((5 + (hAt C Q R I c).2.1 : Nat) : Int) ((5 + q : Nat) : Int) (j : Int) s9)) = cck_checkPins_76 ((2 + c : Nat) : Int) (ofI s0 C Q R I (2 + c) (5 + q) : Int) ((5 + (hAt C Q R I c).2.1 : Nat) : Int) ((5 + q : Nat) : Int) (j : Int) s1 ∧ BLc (Z ++ (if fx = -1 then [] else [16 * j + 3])) s1 ∧ (∀ c k, ¬ (c = 2 ∧ (k = 13 ∨ k = 14)) → s1 c k = s c k) := by
    by_cases z : fx = -1
    · exact ⟨s, by rw [if_pos z], by rw [if_pos z, List.append_nil]; exact hb, fun _ _ _ => rfl⟩
    · obtain ⟨s1, b1, b2, b3⟩ := bl_add (f := 3) (t := j) hb (by omega) (by omega)
      exact ⟨s1, by rw [if_neg z, show (3 : Int) = ((3 : Nat) : Int) from rfl, b1, bq], by rw [if_neg z]; exact b2, b3⟩
  have hc1 : KC F P s0 t0 C O Q R L E s1 := KC_of hc (fun c k z => a3 c k (by omega))
  -- the width
  obtain ⟨s2, h2⟩ : ∃ s2, s2 = up s1 91 (5 + q) (wdT s0 j) := ⟨_, rfl⟩
  have f2 : ∀ c k, ¬ (c = 91 ∧ k = 5 + q) → s2 c k = s1 c k := fun c k z => by rw [h2, up_ne z]
  have hc2 : KC F P s0 t0 C O Q R L E s2 := KC_of hc1 (fun c k z => f2 c k (by omega))
  have kj := kRg h o1
  have e76' : cck_checkPins_76 ((2 + c : Nat) : Int) (ofI s0 C Q R I (2 + c) (5 + q) : Int) ((5 + (hAt C Q R I c).2.1 : Nat) : Int) ((5 + q : Nat) : Int) (j : Int) s1 = cck_checkPins_118 ((2 + c : Nat) : Int) (ofI s0 C Q R I (2 + c) (5 + q) : Int) ((5 + (hAt C Q R I c).2.1 : Nat) : Int) ((5 + q : Nat) : Int) (j : Int) s2 := by
    have hcu : SC s0 (up s1 91 (5 + q) 1) := (KC_of hc1 (s' := up s1 91 (5 + q) 1) (fun c k z => up_ne (by omega))).1
    unfold cck_checkPins_76
    rw [gd_pos (by omega), Int.toNat_natCast, lt_eq, show (j : Int) + 1 = ((j + 1 : Nat) : Int) by omega, cKo h hcu o1, bq, gr (by omega)]
    by_cases z : s0 9 (j + 1) = 91
    · have wt : wdT s0 j = s0 11 (j + 2) := by unfold wdT; rw [if_pos z]
      rw [if_pos z, show (j : Int) + 2 = ((j + 2 : Nat) : Int) by omega, cVo h hcu (by have := o3 z; omega), bq, lt_eq, h2, wt, upup]
    · have wt : wdT s0 j = 1 := by unfold wdT; rw [if_neg z]
      rw [if_neg z, h2, wt]
  have g91 : s2 91 (5 + q) = wdT s0 j := by rw [h2, up_same]
  have wtr : 0 ≤ wdT s0 j ∧ wdT s0 j ≤ 32767 := by
    unfold wdT
    by_cases z : s0 9 (j + 1) = 91
    · rw [if_pos z]
      have := o3 z
      have := tkV h (show j + 2 < N by omega) this.2
      omega
    · rw [if_neg z]; omega
  have pwe : pwI s0 Q (5 + q) = wdP s0 j := by
    unfold pwI
    rw [if_neg (by omega), show 5 + q - 5 = q by omega, hj]
  have pwr := pwN_rg (s0 := s0) (Q := Q) (k := 5 + q)
  have ofn : ofI s0 C Q R I (2 + c) (5 + (q + 1)) = ofI s0 C Q R I (2 + c) (5 + q) + pwN s0 Q (5 + q) := by
    unfold ofI
    rw [show 5 + (q + 1) - paI C Q R I (2 + c) = (5 + q - paI C Q R I (2 + c)) + 1 by omega, sW_s, show paI C Q R I (2 + c) + (5 + q - paI C Q R I (2 + c)) = 5 + q by omega]
  have fin : ∀ s3 : iS, s3 91 (5 + q) = wdP s0 j → (∀ c k, ¬ (c = 91 ∧ k = 5 + q) → ¬ (c = 2 ∧ (k = 13 ∨ k = 14)) → s3 c k = s c k) → ∃ s', cck_checkPins_161 ((2 + c : Nat) : Int) (ofI s0 C Q R I (2 + c) (5 + q) : Int) ((5 + (hAt C Q R I c).2.1 : Nat) : Int) ((5 + q : Nat) : Int) s3 = some (.inl ((ofI s0 C Q R I (2 + c) (5 + (q + 1)) : Int), ((5 + (q + 1) : Nat) : Int), s')) ∧ (s' 2 13 = s3 2 13 ∧ s' 2 14 = s3 2 14) ∧ KW s0 C Q R I (q + 1) s' ∧ (∀ c' k, ¬ ((c' = 91 ∨ c' = 92) ∧ k = 5 + q) → ¬ (c' = 2 ∧ (k = 13 ∨ k = 14)) → s' c' k = s c' k) := fun s3 y1 y2 => by
    refine ⟨up s3 92 (5 + q) (ofI s0 C Q R I (2 + c) (5 + q) : Int), ?_, ⟨up_ne (by omega), up_ne (by omega)⟩, ⟨fun k hk => ?_, fun i k i1 i2 i3 i4 => ?_⟩, fun c' k z1 z2 => by rw [up_ne (by omega), y2 c' k (by omega) z2]⟩
    · unfold cck_checkPins_161
      rw [gd_pos (by omega), Int.toNat_natCast, lt_eq, up_ne (by omega), y1, ofn, ← pwe, ← pwr.2.2, show ((5 + q : Nat) : Int) + 1 = ((5 + (q + 1) : Nat) : Int) by omega, show (ofI s0 C Q R I (2 + c) (5 + q) : Int) + (pwN s0 Q (5 + q) : Int) = ((ofI s0 C Q R I (2 + c) (5 + q) + pwN s0 Q (5 + q) : Nat) : Int) by omega]
    · rw [up_ne (by omega)]
      by_cases z : k = 5 + q
      · rw [z, y1, pwe]
      · rw [y2 91 k (by omega) (by omega)]
        exact hw.1 k (by omega)
    · by_cases z : k = 5 + q
      · rw [z, up_same]
        have : i = 2 + c := paI_u hs i1 (show 2 + c < 2 + C.length by omega) ⟨i2, i3⟩ (by omega)
        rw [this]
      · rw [up_ne (by omega), y2 92 k (by omega) (by omega)]
        exact hw.2 i k i1 i2 i3 (by omega)
  have f12 : ∀ c k, ¬ (c = 91 ∧ k = 5 + q) → ¬ (c = 2 ∧ (k = 13 ∨ k = 14)) → s2 c k = s c k := fun c k z1 z2 => by rw [f2 c k z1, a3 c k z2]
  have b2 : BLc (Z ++ (if fx = -1 then [] else [16 * j + 3])) s2 := BLc_of a2 (f2 2 13 (by omega)) (f2 2 14 (by omega))
  have e15 : cck_checkPins_15b ((2 + c : Nat) : Int) (ofI s0 C Q R I (2 + c) (5 + q) : Int) ((5 + (hAt C Q R I c).2.1 : Nat) : Int) ((5 + q : Nat) : Int) s = cck_checkPins_118 ((2 + c : Nat) : Int) (ofI s0 C Q R I (2 + c) (5 + q) : Int) ((5 + (hAt C Q R I c).2.1 : Nat) : Int) ((5 + q : Nat) : Int) (j : Int) s2 := by
    rw [← e76', ← a1]
    unfold cck_checkPins_15b
    rw [gd_pos (by omega), gr (by omega), show (((2 + c : Nat) : Int) + 1).toNat = 2 + c + 1 by omega, e76, gr (by omega), if_neg (by omega), gd_pos (by omega), Int.toNat_natCast, e82, fi', bq, gd_pos fxr]
  have en : nPn F P s0 t0 C Q R I c q = (if fx = -1 then [] else [16 * j + 3]) ++ (if 1 ≤ wdT s0 j ∧ wdT s0 j ≤ 16 then [] else [16 * (j + 2) + 5]) := by
    unfold nPn
    rw [hj, hfx]
  rw [e15, en, ← List.append_assoc]
  unfold cck_checkPins_118
  rw [gd_pos (by omega), Int.toNat_natCast, g91, gr (by omega)]
  have bad : ¬ (1 ≤ wdT s0 j ∧ wdT s0 j ≤ 16) → ∃ s', cck_checkPins_141 ((2 + c : Nat) : Int) (ofI s0 C Q R I (2 + c) (5 + q) : Int) ((5 + (hAt C Q R I c).2.1 : Nat) : Int) ((5 + q : Nat) : Int) (j : Int) s2 = some (.inl ((ofI s0 C Q R I (2 + c) (5 + (q + 1)) : Int), ((5 + (q + 1) : Nat) : Int), s')) ∧ BLc ((Z ++ (if fx = -1 then [] else [16 * j + 3])) ++ (if 1 ≤ wdT s0 j ∧ wdT s0 j ≤ 16 then [] else [16 * (j + 2) + 5])) s' ∧ KW s0 C Q R I (q + 1) s' ∧ (∀ c' k, ¬ ((c' = 91 ∨ c' = 92) ∧ k = 5 + q) → ¬ (c' = 2 ∧ (k = 13 ∨ k = 14)) → s' c' k = s c' k) := fun z => by
    have jb : s0 9 (j + 1) = 91 := by
      by_cases y : s0 9 (j + 1) = 91
      · exact y
      · exfalso
        apply z
        unfold wdT
        rw [if_neg y]
        omega
    obtain ⟨s3, y1, y2, y3⟩ := bl_add (f := 5) (t := j + 2) b2 (by omega) (by have := o3 jb; omega)
    obtain ⟨s', z1, z2, z3, z4⟩ := fin (up s3 91 (5 + q) 1) (by
      rw [up_same]
      unfold wdP
      by_cases w1 : wdT s0 j < 1
      · rw [if_pos w1]
      · rw [if_neg w1, if_neg (by omega)]) (fun c k w1 w2 => by rw [up_ne w1, y3 c k w2, f12 c k w1 w2])
    refine ⟨s', ?_, ?_, z3, z4⟩
    · unfold cck_checkPins_141
      rw [show (j : Int) + 2 = ((j + 2 : Nat) : Int) by omega, show (5 : Int) = ((5 : Nat) : Int) from rfl, y1, bq, gd_pos (by omega), Int.toNat_natCast, lt_eq]
      exact z1
    · rw [if_neg z]
      exact BLc_of y2 (by rw [z2.1, up_ne (by omega)]) (by rw [z2.2, up_ne (by omega)])
  by_cases w1 : wdT s0 j < 1
  · rw [if_pos w1]
    exact bad (by omega)
  · rw [if_neg w1]
    by_cases w2 : wdT s0 j ≤ 16
    · rw [if_pos w2]
      obtain ⟨s', z1, z2, z3, z4⟩ := fin s2 (by rw [g91]; unfold wdP; rw [if_neg w1, if_pos w2]) f12
      refine ⟨s', z1, ?_, z3, z4⟩
      rw [if_pos (show 1 ≤ wdT s0 j ∧ wdT s0 j ≤ 16 by omega), List.append_nil]
      exact BLc_of b2 z2.1 z2.2
    · rw [if_neg w2]
      exact bad (by omega)
end CIe
