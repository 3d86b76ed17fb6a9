/-! chips: the class checks one chip -/
section CJd
variable {F : Nat → Int} {n N : Nat} {P : Nat → Nat} {s0 t0 s t s' t' : iS} {C : List chR} {O E I : List Nat} {Q : List (Nat × Int)} {R L : List (Nat × Nat)} {c b i j k q r l : Nat} {Z : List Nat} {T : List tEn} {out w : Int}
theorem c_chp1 (h : TKR 1 F n N P s0 t0) (hs : KHS F P s0 t0 N C O Q R L E I) (hcl : c < C.length) (hc : KC F P s0 t0 C O Q R L E s) (hw : KW s0 C Q R I Q.length s) (hbl : BLc Z s) (eb : b = ofI s0 C Q R I (2 + c) (paI C Q R I (2 + c + 1))) (h93 : s 93 (2 + c) = (b : Int)) (h99 : 0 ≤ s 99 2 ∧ s 99 2 ≤ 100) {a z : Nat} (ha : a = (hAt C Q R I c).2.2.1) (hz : z = (hAt C Q R I (c + 1)).2.2.1) (eT : T = gtR F P s0 t0 C O Q R L E I c b a [] (z - a)) : ∃ s' mi mo, cck_check_75b ((2 + c : Nat) : Int) s = some (.inl (((2 + (c + 1) : Nat) : Int), s')) ∧ (∀ x, x < 12 → mi x = 0 ∧ mo x = 0) ∧ TOK F P s0 t0 N C Q R L I c b T ∧ BLc (Z ++ (fPs F P t0 C R a (z - a) ++ xPs F P s0 t0 C O Q R L E I c a T mi mo (z - a))) s' ∧ (xPs F P s0 t0 C O Q R L E I c a T mi mo (z - a) = [] → ∀ r' l', a ≤ r' → r' < z → cix F P t0 C (R.getD r' (0, 0)).1 ≠ -1 → (R.getD r' (0, 0)).2 ≤ l' → l' < E.getD r' 0 → LKC F P s0 t0 C Q R L I c (cix F P t0 C (R.getD r' (0, 0)).1).toNat l' T s') ∧ (∀ x, a ≤ x → x < z → s' 94 x = cix F P t0 C (R.getD x (0, 0)).1) ∧ s' 93 (2 + c) = (owT b T : Int) ∧ (0 ≤ s' 99 2 ∧ s' 99 2 ≤ 100) ∧ (∀ c' k, ¬ (c' = 2 ∧ (k = 13 ∨ k = 14)) → ¬ (c' = 94 ∧ a ≤ k ∧ k < z) → ¬ (95 ≤ c' ∧ c' ≤ 98 ∧ ∃ r', a ≤ r' ∧ r' < z ∧ (R.getD r' (0, 0)).2 ≤ k ∧ k < E.getD r' 0) → ¬ (99 ≤ c' ∧ c' ≤ 106) → ¬ (c' = 93 ∧ k = 2 + c) → s' c' k = s c' k) := by
  have bd' := KHS_bd hs
  have mm := (KHS_m hs 1 c (by omega)).2.1
  have pm := paI_m hs (show 2 + c < 2 + C.length by omega)
  have b1000 : b ≤ 1000 := by
    rw [eb]
    unfold ofI
    have := sW_le (f := pwN s0 Q) (a := paI C Q R I (2 + c)) (b := 16) (fun x => (pwN_rg (s0 := s0) (Q := Q) (k := x)).2.1) (paI C Q R I (2 + c + 1) - paI C Q R I (2 + c))
    omega
  have e72 : s 72 2 = ((2 + C.length : Nat) : Int) := by rw [hc.2.1.1.1.1]; show ((tabC F P t0 C).length : Int) = _; rw [tabC_len]
  have e78 := (KC_c (I := I) hc bd'.1 (c := c) (by omega)).2
  rw [← ha] at e78
  -- parts
  obtain ⟨s1, f1, f2, f3, f4⟩ := c_fps (Z := Z) h hs hcl ha hz (z - a) a s (by omega) (Nat.le_refl _) hc (by rw [Nat.sub_self, show fPs F P t0 C R a 0 = [] from rfl, List.append_nil]; exact hbl) (fun x x1 x2 => by omega)
  have hc1 : KC F P s0 t0 C O Q R L E s1 := KC_of hc (fun c' k y => f4 c' k (by omega) (by omega))
  have hw1 := KW_of hw (s' := s1) (fun c' k y _ => f4 c' k (by omega) (by omega))
  -- inner names
  obtain ⟨s2, g1, g2, g3, g4⟩ := c_gi (O := O) (b := b) h hs hcl hc1 hw1 b1000 (by rw [f4 93 _ (by omega) (by omega)]; exact h93) (by rw [f4 99 2 (by omega) (by omega)]; exact h99) (fun r r1 r2 => f3 r (by omega) (by omega))
  rw [← ha, ← hz, ← eT] at g2 g3
  have hc2 : KC F P s0 t0 C O Q R L E s2 := KC_of hc1 (fun c' k y => g4 c' k (by omega) (by omega))
  have hw2 := KW_of hw1 (s' := s2) (fun c' k y _ => g4 c' k (by omega) (by omega))
  have hb2 : BLc (Z ++ fPs F P t0 C R a (z - a)) s2 := BLc_of f2 (g4 2 13 (by omega) (by omega)) (g4 2 14 (by omega) (by omega))
  -- links
  obtain ⟨s3, hs3⟩ : ∃ s3, s3 = sr s2 106 (fun i => if i < 12 then 0 else s2 106 i) := ⟨_, rfl⟩
  have fs3 : ∀ c' k, c' ≠ 106 → s3 c' k = s2 c' k := fun c' k y => by rw [hs3, sr_ne y]
  obtain ⟨mi, hmi⟩ : ∃ mi : Nat → Int, mi = fun x => if x < 12 then 0 else s3 105 x := ⟨_, rfl⟩
  obtain ⟨mo, hmo⟩ : ∃ mo : Nat → Int, mo = fun x => if x < 12 then 0 else s2 106 x := ⟨_, rfl⟩
  have m0 : ∀ x, x < 12 → mi x = 0 ∧ mo x = 0 := fun x y => by rw [hmi, hmo]; exact ⟨if_pos y, if_pos y⟩
  have hc3 : KC F P s0 t0 C O Q R L E s3 := KC_of hc2 (fun c' k y => fs3 c' k (by omega))
  have e783 := (KC_c (I := I) hc3 bd'.1 (c := c) (by omega)).2
  rw [← ha] at e783
  obtain ⟨s4, d1, d2, d3, d4⟩ := c_prts (mi := mi) (mo := mo) (Z := Z ++ fPs F P t0 C R a (z - a)) h hs hcl g2 (fun x y => (m0 x y).1) ha hz (z - a) a s3 (by omega) (Nat.le_refl _) hc3 (KW_of hw2 (fun c' k y _ => fs3 c' k (by omega))) (fun x x1 x2 => by rw [fs3 94 x (by omega), g4 94 x (by omega) (by omega)]; exact f3 x x1 x2) (IRc_of g3 (fun c' k y => fs3 c' k (by omega))) (by rw [Nat.sub_self, show xPs F P s0 t0 C O Q R L E I c a T mi mo 0 = [] from rfl, List.append_nil]; exact BLc_of hb2 (fs3 2 13 (by omega)) (fs3 2 14 (by omega))) (fun x y => by rw [hmi]; exact (if_neg (by omega)).symm) (by rw [Nat.sub_self, hs3]; exact funext fun k => by rw [sr_at, show mPs F P s0 t0 C O Q R L E I c a mo 0 = mo from rfl, hmo]) (fun _ r' l' q1 q2 => by omega)
  have g4' : ∀ c' k, ¬ (c' = 2 ∧ (k = 13 ∨ k = 14)) → ¬ (c' = 94 ∧ a ≤ k ∧ k < z) → ¬ (99 ≤ c' ∧ c' ≤ 106) → ¬ (c' = 93 ∧ k = 2 + c) → s3 c' k = s c' k := fun c' k q1 q2 q3 q4 => by rw [fs3 c' k (by omega), g4 c' k (by omega) q4, f4 c' k q1 q2]
  have tl := (TOK_len hs hcl g2).1
  refine ⟨s4, mi, mo, ?_, m0, g2, by rw [← List.append_assoc]; exact d2, d3, fun x x1 x2 => ?_, ?_, ?_, fun c' k q1 q2 q3 q4 q5 => by rw [d4 c' k q1 q3 (by omega) (by omega), g4' c' k q1 q2 q4 q5]⟩
  · unfold cck_check_75b cck_findParts cck_checkParts
    rw [gr (by omega), e72, gr (by omega), if_neg (by omega), gd_pos (by omega), Int.toNat_natCast, e78, f1, bq, g1, bq, fill_ok (by omega), bq, ← hs3, gd_pos (by omega), e783, d1, bq, show ((2 + c : Nat) : Int) + 1 = ((2 + (c + 1) : Nat) : Int) by omega]
  · rw [d4 94 x (by omega) (fun u => by omega) (by omega) (by omega), fs3 94 x (by omega), g4 94 x (by omega) (by omega)]
    exact f3 x x1 x2
  · rw [d4 93 _ (by omega) (fun u => by omega) (by omega) (by omega), fs3 93 _ (by omega)]
    exact g3.2.2
  · rw [d4 99 2 (by omega) (fun u => by omega) (by omega) (by omega), fs3 99 2 (by omega), g3.1.1, nmsT_len]
    omega
end CJd
