/-! chips: the class checks the parts of a chip -/
section CIy
variable (F : Nat → Int) (P : Nat → Nat) (s0 t0 : iS) (N : Nat) (C : List chR) (O : List Nat) (Q : List (Nat × Int)) (R L : List (Nat × Nat)) (E I : List Nat)
/-- the bits of OUT pins behind m parts -/
noncomputable def mPs (c a : Nat) (mo : Nat → Int) : Nat → Nat → Int
  | 0 => mo
  | m + 1 => if cix F P t0 C (R.getD (a + m) (0, 0)).1 = -1 then mPs c a mo m else mKs F P s0 t0 C O Q R L I c (cix F P t0 C (R.getD (a + m) (0, 0)).1).toNat (R.getD (a + m) (0, 0)).2 (mPs c a mo m) (E.getD (a + m) 0 - (R.getD (a + m) (0, 0)).2)
noncomputable def xPs (c a : Nat) (T : List tEn) (mi mo : Nat → Int) : Nat → List Nat
  | 0 => []
  | m + 1 => xPs c a T mi mo m ++ (if cix F P t0 C (R.getD (a + m) (0, 0)).1 = -1 then [] else xKs F P s0 t0 C O Q R L I c (cix F P t0 C (R.getD (a + m) (0, 0)).1).toNat (R.getD (a + m) (0, 0)).2 T mi (mPs F P s0 t0 C O Q R L E I c a mo m) (E.getD (a + m) 0 - (R.getD (a + m) (0, 0)).2))
noncomputable def yPs (c a : Nat) (T : List tEn) (mi mo : Nat → Int) : Nat → List Nat
  | 0 => []
  | m + 1 => yPs c a T mi mo m ++ (if cix F P t0 C (R.getD (a + m) (0, 0)).1 = -1 then [16 * (R.getD (a + m) (0, 0)).1 + 4] else yKs F P s0 t0 C O Q R L I c (cix F P t0 C (R.getD (a + m) (0, 0)).1).toNat (R.getD (a + m) (0, 0)).2 T mi (mPs F P s0 t0 C O Q R L E I c a mo m) (E.getD (a + m) 0 - (R.getD (a + m) (0, 0)).2))
noncomputable def fPs (a : Nat) : Nat → List Nat
  | 0 => []
  | m + 1 => fPs a m ++ (if cix F P t0 C (R.getD (a + m) (0, 0)).1 = -1 then [16 * (R.getD (a + m) (0, 0)).1 + 4] else [])
end CIy
section CIz
variable {F : Nat → Int} {n N : Nat} {P : Nat → Nat} {s0 t0 s t s' t' : iS} {C : List chR} {O E I : List Nat} {Q : List (Nat × Int)} {R L : List (Nat × Nat)} {c b i j k q r l : Nat} {Z : List Nat} {T : List tEn} {out w : Int}
theorem DOM_Ps {mi mo : Nat → Int} (hs : KHS F P s0 t0 N C O Q R L E I) (hcl : c < C.length) (hT : TOK F P s0 t0 N C Q R L I c b T) (hp : PLE F P s0 t0 C O Q R L E I c T) : ∀ m, (hAt C Q R I c).2.2.1 + m ≤ (hAt C Q R I (c + 1)).2.2.1 → DOM (fPs F P t0 C R (hAt C Q R I c).2.2.1 m ++ xPs F P s0 t0 C O Q R L E I c (hAt C Q R I c).2.2.1 T mi mo m) (yPs F P s0 t0 C O Q R L E I c (hAt C Q R I c).2.2.1 T mi mo m)
  | 0, _ => DOM_refl _
  | m + 1, hm => by
    have rq := (KHS_q hs (c := c + 1) (by omega)).2.1
    have ih := DOM_Ps (mi := mi) (mo := mo) hs hcl hT hp m (by omega)
    have le := (LK_e hs (r := (hAt C Q R I c).2.2.1 + m) (by omega)).1
    show DOM ((_ ++ (if _ then _ else _)) ++ (_ ++ (if _ then _ else _))) (_ ++ (if _ then _ else _))
    rcases cix_rg (j := (R.getD ((hAt C Q R I c).2.2.1 + m) (0, 0)).1) hs with z | ⟨i, z1, z2⟩
    · rw [if_pos z, if_pos z, if_pos z, List.append_nil]
      refine DOM_tr (DOM_mem (fun k => ?_)) (DOM_app ih (DOM_refl [16 * (R.getD ((hAt C Q R I c).2.2.1 + m) (0, 0)).1 + 4]))
      simp only [List.mem_append]
      constructor
      · rintro ((y | y) | y)
        · exact Or.inl (Or.inl y)
        · exact Or.inr y
        · exact Or.inl (Or.inr y)
      · rintro ((y | y) | y)
        · exact Or.inl (Or.inl y)
        · exact Or.inr y
        · exact Or.inl (Or.inr y)
    · have ne : ¬ cix F P t0 C (R.getD ((hAt C Q R I c).2.2.1 + m) (0, 0)).1 = -1 := by omega
      rw [if_neg ne, if_neg ne, if_neg ne, List.append_nil, ← List.append_assoc]
      exact DOM_app ih (DOM_Ks hT hp ⟨by omega, by omega⟩ rfl (by omega) _ (by omega))
theorem mL_12 (hs : KHS F P s0 t0 N C O Q R L E I) (hi : i < 2 + C.length) {mi : Nat → Int} {x : Nat} (hx : 12 ≤ x) : mL F P s0 t0 C O Q R L I i l mi x = mi x := by
  unfold mL
  have pm := paI_m hs hi
  by_cases z : oL F P t0 C O Q R L I i l = 0 ∧ kL F P t0 C Q R L I i l ≠ -1 ∧ wLl F P s0 t0 C Q R L I i l ≠ -1
  · rw [if_pos z]
    rcases pfI_rg (j := lL L l) hs hi with y | ⟨k, y1, y2, y3, y4⟩
    · exact absurd y z.2.1
    · have ek : kL F P t0 C Q R L I i l = (k : Int) := y1
      rw [ek, Int.toNat_natCast]
      unfold mU
      rw [if_neg (by omega)]
  · rw [if_neg z]
theorem mLs_12 (hs : KHS F P s0 t0 N C O Q R L E I) (hi : i < 2 + C.length) {mi : Nat → Int} {x a : Nat} (hx : 12 ≤ x) : ∀ m, mLs F P s0 t0 C O Q R L I i a mi m x = mi x
  | 0 => rfl
  | m + 1 => (mL_12 hs hi hx).trans (mLs_12 hs hi hx m)
/-- the class: the parts of a chip -/
theorem c_prts (h : TKR 1 F n N P s0 t0) (hs : KHS F P s0 t0 N C O Q R L E I) (hcl : c < C.length) (hT : TOK F P s0 t0 N C Q R L I c b T) {mi mo : Nat → Int} (hmi : ∀ x, x < 12 → mi x = 0) {a z : Nat} (ha : a = (hAt C Q R I c).2.2.1) (hz : z = (hAt C Q R I (c + 1)).2.2.1) : ∀ (m r : Nat) (s : iS), r + m = z → a ≤ r → KC F P s0 t0 C O Q R L E s → KW s0 C Q R I Q.length s → (∀ x, a ≤ x → x < z → s 94 x = cix F P t0 C (R.getD x (0, 0)).1) → IRc F P t0 c b T s → BLc (Z ++ xPs F P s0 t0 C O Q R L E I c a T mi mo (r - a)) s → (∀ x, 12 ≤ x → s 105 x = mi x) → s 106 = mPs F P s0 t0 C O Q R L E I c a mo (r - a) → (xPs F P s0 t0 C O Q R L E I c a T mi mo (r - a) = [] → ∀ r' l', a ≤ r' → r' < r → cix F P t0 C (R.getD r' (0, 0)).1 ≠ -1 → (R.getD r' (0, 0)).2 ≤ l' → l' < E.getD r' 0 → LKC F P s0 t0 C Q R L I c (cix F P t0 C (R.getD r' (0, 0)).1).toNat l' T s) → ∃ s', cck_checkParts_18 ((2 + c : Nat) : Int) (r : Int) s = some (0, s') ∧ BLc (Z ++ xPs F P s0 t0 C O Q R L E I c a T mi mo (z - a)) s' ∧ (xPs F P s0 t0 C O Q R L E I c a T mi mo (z - a) = [] → ∀ r' l', a ≤ r' → r' < z → cix F P t0 C (R.getD r' (0, 0)).1 ≠ -1 → (R.getD r' (0, 0)).2 ≤ l' → l' < E.getD r' 0 → LKC F P s0 t0 C Q R L I c (cix F P t0 C (R.getD r' (0, 0)).1).toNat l' T s') ∧ (∀ c' k, ¬ (c' = 2 ∧ (k = 13 ∨ k = 14)) → ¬ (95 ≤ c' ∧ c' ≤ 98 ∧ ∃ r', r ≤ r' ∧ r' < z ∧ (R.getD r' (0, 0)).2 ≤ k ∧ k < E.getD r' 0) → c' ≠ 105 → c' ≠ 106 → s' c' k = s c' k)
  | 0, r, s, hm, hr, hc, hw, h94, hI, hb, h5, h6, hk => by
    have bd' := KHS_bd hs
    have e : r = z := by omega
    have rq := (KHS_q hs (c := c + 1) (by omega)).2.1
    have e78 := (KC_c (I := I) hc bd'.1 (c := c + 1) (by omega)).2
    rw [e] at hb hk
    refine ⟨s, ?_, hb, hk, fun _ _ _ _ _ _ => rfl⟩
    unfold cck_checkParts_18
    rw [lp_end (f := fun l : Int × iS => cck_checkParts_18b ((2 + c : Nat) : Int) (l.1) (l.2)) (e := s) (by
      show cck_checkParts_18b ((2 + c : Nat) : Int) (r : Int) s = _
      unfold cck_checkParts_18b
      rw [gd_pos (by omega), gr (by omega), show (((2 + c : Nat) : Int) + 1).toNat = 2 + (c + 1) by omega, e78, gr (by omega), if_pos (by omega)])]
    rfl
  | m + 1, r, s, hm, hr, hc, hw, h94, hI, hb, h5, h6, hk => by
    have bd' := KHS_bd hs
    have rq := (KHS_q hs (c := c + 1) (by omega)).2.1
    have e78 := (KC_c (I := I) hc bd'.1 (c := c + 1) (by omega)).2
    have rr : (hAt C Q R I c).2.2.1 ≤ r ∧ r < (hAt C Q R I (c + 1)).2.2.1 := ⟨by omega, by omega⟩
    obtain ⟨le1, le2⟩ := LK_e hs (r := r) (by omega)
    obtain ⟨sa, hsa⟩ : ∃ sa, sa = sr s 105 (fun i => if i < 12 then 0 else s 105 i) := ⟨_, rfl⟩
    have fsa : ∀ c' k, c' ≠ 105 → sa c' k = s c' k := fun c' k y => by rw [hsa, sr_ne y]
    have sa5 : sa 105 = mi := funext fun x => by
      rw [hsa, sr_at]
      by_cases y : x < 12
      · rw [if_pos y, hmi x y]
      · rw [if_neg y, h5 x (by omega)]
    have hca : KC F P s0 t0 C O Q R L E sa := KC_of hc (fun c' k y => fsa c' k (by omega))
    have ba : BLc (Z ++ xPs F P s0 t0 C O Q R L E I c a T mi mo (r - a)) sa := BLc_of hb (fsa 2 13 (by omega)) (fsa 2 14 (by omega))
    have e84 : sa 84 r = ((R.getD r (0, 0)).2 : Nat) := (hca.2.1.2.2.2.1.2 r (by omega)).2
    have ar : a + (r - a) = r := by omega
    have en : xPs F P s0 t0 C O Q R L E I c a T mi mo (r + 1 - a) = xPs F P s0 t0 C O Q R L E I c a T mi mo (r - a) ++ (if cix F P t0 C (R.getD r (0, 0)).1 = -1 then [] else xKs F P s0 t0 C O Q R L I c (cix F P t0 C (R.getD r (0, 0)).1).toNat (R.getD r (0, 0)).2 T mi (mPs F P s0 t0 C O Q R L E I c a mo (r - a)) (E.getD r 0 - (R.getD r (0, 0)).2)) := by
      rw [show r + 1 - a = (r - a) + 1 by omega]
      show _ ++ (if cix F P t0 C (R.getD (a + (r - a)) (0, 0)).1 = -1 then _ else _) = _
      rw [ar]
    have em : mPs F P s0 t0 C O Q R L E I c a mo (r + 1 - a) = if cix F P t0 C (R.getD r (0, 0)).1 = -1 then mPs F P s0 t0 C O Q R L E I c a mo (r - a) else mKs F P s0 t0 C O Q R L I c (cix F P t0 C (R.getD r (0, 0)).1).toNat (R.getD r (0, 0)).2 (mPs F P s0 t0 C O Q R L E I c a mo (r - a)) (E.getD r 0 - (R.getD r (0, 0)).2) := by
      rw [show r + 1 - a = (r - a) + 1 by omega]
      show (if cix F P t0 C (R.getD (a + (r - a)) (0, 0)).1 = -1 then _ else _) = _
      rw [ar]
    obtain ⟨s1, a1, a2, a3, a4, a5, a6⟩ : ∃ s1, cck_checkParts_51 ((2 + c : Nat) : Int) (r : Int) (((R.getD r (0, 0)).2 : Nat) : Int) sa = some (.inl (((r + 1 : Nat) : Int), s1)) ∧ BLc (Z ++ xPs F P s0 t0 C O Q R L E I c a T mi mo (r + 1 - a)) s1 ∧ s1 106 = mPs F P s0 t0 C O Q R L E I c a mo (r + 1 - a) ∧ (∀ x, 12 ≤ x → s1 105 x = mi x) ∧ (xPs F P s0 t0 C O Q R L E I c a T mi mo (r + 1 - a) = [] → cix F P t0 C (R.getD r (0, 0)).1 ≠ -1 → ∀ l', (R.getD r (0, 0)).2 ≤ l' → l' < E.getD r 0 → LKC F P s0 t0 C Q R L I c (cix F P t0 C (R.getD r (0, 0)).1).toNat l' T s1) ∧ (∀ c' k, ¬ (c' = 2 ∧ (k = 13 ∨ k = 14)) → ¬ (95 ≤ c' ∧ c' ≤ 98 ∧ (R.getD r (0, 0)).2 ≤ k ∧ k < E.getD r 0) → c' ≠ 105 → c' ≠ 106 → s1 c' k = s c' k) := by
      rw [en, em]
      rcases cix_rg (j := (R.getD r (0, 0)).1) hs with y | ⟨i, y1, y2⟩
      · rw [if_pos y, if_pos y, List.append_nil]
        exact ⟨sa, c_lkN hs hcl rr hca (by rw [fsa 94 r (by omega), h94 r hr (by omega)]; exact y) (E.getD r 0 - (R.getD r (0, 0)).2) _ (by omega), ba, by rw [← h6]; exact funext fun k => fsa 106 k (by omega), fun x hx => by rw [sa5], fun _ q => absurd y q, fun c' k q1 q2 q3 q4 => fsa c' k q3⟩
      · have ne : ¬ cix F P t0 C (R.getD r (0, 0)).1 = -1 := by omega
        rw [if_neg ne, if_neg ne, y1, Int.toNat_natCast]
        obtain ⟨s1, d1, d2, d3, d4, d5, d6⟩ := c_lks (i := i) (a := (R.getD r (0, 0)).2) (mi := mi) (mo := mPs F P s0 t0 C O Q R L E I c a mo (r - a)) (Z := Z ++ xPs F P s0 t0 C O Q R L E I c a T mi mo (r - a)) h hs hcl rr y2 hT rfl (E.getD r 0 - (R.getD r (0, 0)).2) (R.getD r (0, 0)).2 sa (by omega) (Nat.le_refl _) hca (KW_of hw (fun c' k q _ => fsa c' k (by omega))) (by rw [fsa 94 r (by omega), h94 r hr (by omega)]; exact y1) (IRc_of hI (fun c' k q => fsa c' k (by omega))) (by rw [Nat.sub_self]; exact (by rw [show xKs F P s0 t0 C O Q R L I c i (R.getD r (0, 0)).2 T mi (mPs F P s0 t0 C O Q R L E I c a mo (r - a)) 0 = [] from rfl, List.append_nil]; exact ba)) (by rw [Nat.sub_self]; exact sa5) (by rw [Nat.sub_self, ← h6]; exact funext fun k => fsa 106 k (by omega)) (fun _ l' q1 q2 => by omega)
        rw [List.append_assoc] at d2
        refine ⟨s1, d1, d2, d3, fun x hx => by rw [d4]; exact mLs_12 hs y2 hx _, fun q _ l' q1 q2 => ?_, fun c' k q1 q2 q3 q4 => by rw [d6 c' k q1 q2 q3 q4, fsa c' k q3]⟩
        rw [List.append_eq_nil_iff] at q
        exact d5 q.2 l' q1 q2
    obtain ⟨s', b1, b2, b3, b4⟩ := c_prts h hs hcl hT hmi ha hz m (r + 1) s1 (by omega) (by omega) (KC_of hc (fun c' k y => a6 c' k (by omega) (by omega) (by omega) (by omega))) (KW_of hw (fun c' k y _ => a6 c' k (by omega) (by omega) (by omega) (by omega))) (fun x x1 x2 => by rw [a6 94 x (by omega) (by omega) (by omega) (by omega)]; exact h94 x x1 x2) (IRc_of hI (fun c' k y => a6 c' k (by omega) (by omega) (by omega) (by omega))) a2 a4 a3 (fun q r' l' q1 q2 q3 q4 q5 => by
      by_cases y : r' = r
      · subst y
        exact a5 q q3 l' q4 q5
      · rw [en, List.append_eq_nil_iff] at q
        refine LKC_of (hk q.1 r' l' q1 (by omega) q3 q4 q5) (fun c' w => a6 c' l' (by omega) (fun u => ?_) (by omega) (by omega))
        have := LK_u hs (r := r) (r' := r') (l := l') (by omega) (by omega) ⟨u.2.2.1, u.2.2.2⟩ ⟨q4, q5⟩
        omega)
    refine ⟨s', ?_, b2, b3, fun c' k z1 z2 z3 z4 => by rw [b4 c' k z1 (fun u => z2 ⟨u.1, u.2.1, by obtain ⟨r', u1, u2⟩ := u.2.2; exact ⟨r', by omega, u2⟩⟩) z3 z4, a6 c' k z1 (fun u => z2 ⟨u.1, u.2.1, r, Nat.le_refl r, by omega, u.2.2⟩) z3 z4]⟩
    rw [← b1]
    unfold cck_checkParts_18
    rw [lp_next (f := fun l : Int × iS => cck_checkParts_18b ((2 + c : Nat) : Int) (l.1) (l.2)) (l' := (((r + 1 : Nat) : Int), s1)) (by
      show cck_checkParts_18b ((2 + c : Nat) : Int) (r : Int) s = _
      unfold cck_checkParts_18b
      rw [gd_pos (by omega), gr (by omega), show (((2 + c : Nat) : Int) + 1).toNat = 2 + (c + 1) by omega, e78, gr (by omega), if_neg (by omega), fill_ok (by omega), bq, ← hsa, gd_pos (by omega), Int.toNat_natCast, e84]
      exact a1)]
end CIz
