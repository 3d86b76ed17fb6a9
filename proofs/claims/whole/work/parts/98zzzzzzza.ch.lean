/-! chips: the class checks the links of a part -/
section CIv
variable (F : Nat → Int) (P : Nat → Nat) (s0 t0 : iS) (N : Nat) (C : List chR) (O : List Nat) (Q : List (Nat × Int)) (R L : List (Nat × Nat)) (E I : List Nat)
def mLs (i a : Nat) (mi : Nat → Int) : Nat → Nat → Int
  | 0 => mi
  | m + 1 => mL F P s0 t0 C O Q R L I i (a + m) (mLs i a mi m)
def mKs (c i a : Nat) (mo : Nat → Int) : Nat → Nat → Int
  | 0 => mo
  | m + 1 => mK F P s0 t0 C O Q R L I c i (a + m) (mKs c i a mo m)
/-- the notes of a part's links -/
def xKs (c i a : Nat) (T : List tEn) (mi mo : Nat → Int) : Nat → List Nat
  | 0 => []
  | m + 1 => xKs c i a T mi mo m ++ xK F P s0 t0 C O Q R L I c i (a + m) T (mLs F P s0 t0 C O Q R L I i a mi m) (mKs F P s0 t0 C O Q R L I c i a mo m)
def yKs (c i a : Nat) (T : List tEn) (mi mo : Nat → Int) : Nat → List Nat
  | 0 => []
  | m + 1 => yKs c i a T mi mo m ++ yK F P s0 t0 C O Q R L I c i (a + m) T (mLs F P s0 t0 C O Q R L I i a mi m) (mKs F P s0 t0 C O Q R L I c i a mo m)
end CIv
section CIw
variable {F : Nat → Int} {n N : Nat} {P : Nat → Nat} {s0 t0 s t s' t' : iS} {C : List chR} {O E I : List Nat} {Q : List (Nat × Int)} {R L : List (Nat × Nat)} {c b i j k q r l : Nat} {Z : List Nat} {T : List tEn} {out w : Int}
theorem LKC_of (h : LKC F P s0 t0 C Q R L I c i l T s) (hs : ∀ c', 95 ≤ c' ∧ c' ≤ 98 → s' c' l = s c' l) : LKC F P s0 t0 C Q R L I c i l T s' := by
  unfold LKC at h ⊢
  rw [hs 95 (by omega), hs 96 (by omega), hs 97 (by omega), hs 98 (by omega)]
  exact h
theorem DOM_Ks {mi mo : Nat → Int} {a : Nat} (hT : TOK F P s0 t0 N C Q R L I c b T) (hp : PLE F P s0 t0 C O Q R L E I c T) (hrr : (hAt C Q R I c).2.2.1 ≤ r ∧ r < (hAt C Q R I (c + 1)).2.2.1) (ha : a = (R.getD r (0, 0)).2) (hi : cix F P t0 C (R.getD r (0, 0)).1 = (i : Int)) : ∀ m, a + m ≤ E.getD r 0 → DOM (xKs F P s0 t0 C O Q R L I c i a T mi mo m) (yKs F P s0 t0 C O Q R L I c i a T mi mo m)
  | 0, _ => DOM_refl _
  | m + 1, hm => by
    have it : (cix F P t0 C (R.getD r (0, 0)).1).toNat = i := by omega
    exact DOM_app (DOM_Ks hT hp hrr ha hi m (by omega)) (DOM_K hT (fun g => hp.2 r (a + m) ⟨hrr, ⟨by omega, by omega⟩, by omega, by rw [it]; exact g⟩))
/-- the class: the links of a part -/
theorem c_lks (h : TKR 1 F n N P s0 t0) (hs : KHS F P s0 t0 N C O Q R L E I) (hcl : c < C.length) (hr : (hAt C Q R I c).2.2.1 ≤ r ∧ r < (hAt C Q R I (c + 1)).2.2.1) (hi : i < 2 + C.length) (hT : TOK F P s0 t0 N C Q R L I c b T) {a : Nat} (ha : a = (R.getD r (0, 0)).2) {mi mo : Nat → Int} : ∀ (m l : Nat) (s : iS), l + m = E.getD r 0 → a ≤ l → KC F P s0 t0 C O Q R L E s → KW s0 C Q R I Q.length s → s 94 r = (i : Int) → IRc F P t0 c b T s → BLc (Z ++ xKs F P s0 t0 C O Q R L I c i a T mi mo (l - a)) s → s 105 = mLs F P s0 t0 C O Q R L I i a mi (l - a) → s 106 = mKs F P s0 t0 C O Q R L I c i a mo (l - a) → (xKs F P s0 t0 C O Q R L I c i a T mi mo (l - a) = [] → ∀ l', a ≤ l' → l' < l → LKC F P s0 t0 C Q R L I c i l' T s) → ∃ s', cck_checkParts_51 ((2 + c : Nat) : Int) (r : Int) (l : Int) s = some (.inl (((r + 1 : Nat) : Int), s')) ∧ BLc (Z ++ xKs F P s0 t0 C O Q R L I c i a T mi mo (E.getD r 0 - a)) s' ∧ s' 106 = mKs F P s0 t0 C O Q R L I c i a mo (E.getD r 0 - a) ∧ s' 105 = mLs F P s0 t0 C O Q R L I i a mi (E.getD r 0 - a) ∧ (xKs F P s0 t0 C O Q R L I c i a T mi mo (E.getD r 0 - a) = [] → ∀ l', a ≤ l' → l' < E.getD r 0 → LKC F P s0 t0 C Q R L I c i l' T s') ∧ (∀ c' k, ¬ (c' = 2 ∧ (k = 13 ∨ k = 14)) → ¬ (95 ≤ c' ∧ c' ≤ 98 ∧ l ≤ k ∧ k < E.getD r 0) → c' ≠ 105 → c' ≠ 106 → s' c' k = s c' k)
  | 0, l, s, hm, hl, hc, hw, h94, hI, hb, h5, h6, hk => by
    have bd' := KHS_bd hs
    have e : l = E.getD r 0 := by omega
    have rq := (KHS_q hs (c := c + 1) (by omega)).2.1
    have le := (LK_e hs (r := r) (by omega)).2
    have e84 : s 84 (r + 1) = (E.getD r 0 : Nat) := hc.2.2.2.1 r (by rw [hs.2.2.1.1]; omega)
    rw [e] at hb h5 h6 hk
    refine ⟨s, ?_, hb, h6, h5, hk, fun _ _ _ _ _ _ => rfl⟩
    unfold cck_checkParts_51
    rw [lp_end (f := fun l : Int × iS => cck_checkParts_51b ((2 + c : Nat) : Int) (r : Int) (l.1) (l.2)) (e := s) (by
      show cck_checkParts_51b ((2 + c : Nat) : Int) (r : Int) (l : Int) s = _
      unfold cck_checkParts_51b
      rw [gd_pos (by omega), gr (by omega), show ((r : Int) + 1).toNat = r + 1 by omega, e84, gr (by omega), if_pos (by omega)])]
    rfl
  | m + 1, l, s, hm, hl, hc, hw, h94, hI, hb, h5, h6, hk => by
    have bd' := KHS_bd hs
    have rq := (KHS_q hs (c := c + 1) (by omega)).2.1
    have le := (LK_e hs (r := r) (by omega)).2
    have e84 : s 84 (r + 1) = (E.getD r 0 : Nat) := hc.2.2.2.1 r (by rw [hs.2.2.1.1]; omega)
    obtain ⟨s1, a1, a2, a3, a4, a5, a6⟩ := c_link (r := r) h hs hc hb hw hcl hr (l := l) ⟨by omega, by omega⟩ hi hT hI
    have al : a + (l - a) = l := by omega
    have en : xKs F P s0 t0 C O Q R L I c i a T mi mo (l + 1 - a) = xKs F P s0 t0 C O Q R L I c i a T mi mo (l - a) ++ xK F P s0 t0 C O Q R L I c i l T (s 105) (s 106) := by
      rw [show l + 1 - a = (l - a) + 1 by omega, h5, h6]
      show _ ++ xK F P s0 t0 C O Q R L I c i (a + (l - a)) T _ _ = _
      rw [al]
    have e5 : s1 105 = mLs F P s0 t0 C O Q R L I i a mi (l + 1 - a) := by
      rw [a3, h5, show l + 1 - a = (l - a) + 1 by omega]
      show _ = mL F P s0 t0 C O Q R L I i (a + (l - a)) _
      rw [al]
    have e6 : s1 106 = mKs F P s0 t0 C O Q R L I c i a mo (l + 1 - a) := by
      rw [a4, h6, show l + 1 - a = (l - a) + 1 by omega]
      show _ = mK F P s0 t0 C O Q R L I c i (a + (l - a)) _
      rw [al]
    rw [List.append_assoc, ← en] at a2
    obtain ⟨s', b1, b2, b3, b35, b4, b5⟩ := c_lks h hs hcl hr hi hT ha m (l + 1) s1 (by omega) (by omega) (KC_of hc (fun c' k z => a6 c' k (by omega) (by omega) (by omega) (by omega))) (KW_of hw (fun c' k z _ => a6 c' k (by omega) (by omega) (by omega) (by omega))) (by rw [a6 94 r (by omega) (by omega) (by omega) (by omega)]; exact h94) (IRc_of hI (fun c' k z => a6 c' k (by omega) (by omega) (by omega) (by omega))) a2 e5 e6 (fun z l' l1 l2 => by
      rw [en, List.append_eq_nil_iff] at z
      by_cases y : l' = l
      · rw [y]; exact a5 z.2
      · exact LKC_of (hk z.1 l' l1 (by omega)) (fun c' w => a6 c' l' (by omega) (by omega) (by omega) (by omega)))
    refine ⟨s', ?_, b2, b3, b35, b4, fun c' k z1 z2 z3 z4 => by rw [b5 c' k z1 (by omega) z3 z4, a6 c' k z1 (by omega) z3 z4]⟩
    rw [← b1]
    unfold cck_checkParts_51
    rw [lp_next (f := fun l : Int × iS => cck_checkParts_51b ((2 + c : Nat) : Int) (r : Int) (l.1) (l.2)) (l' := (((l + 1 : Nat) : Int), s1)) (by
      show cck_checkParts_51b ((2 + c : Nat) : Int) (r : Int) (l : Int) s = _
      unfold cck_checkParts_51b
      rw [gd_pos (by omega), gr (by omega), show ((r : Int) + 1).toNat = r + 1 by omega, e84, gr (by omega), if_neg (by omega), gd_pos (by omega), Int.toNat_natCast, h94, gr (by omega), if_neg (by omega), a1, bq]
      rfl)]
/-- the class: a part that is no chip -/
theorem c_lkN (hs : KHS F P s0 t0 N C O Q R L E I) (hcl : c < C.length) (hr : (hAt C Q R I c).2.2.1 ≤ r ∧ r < (hAt C Q R I (c + 1)).2.2.1) (hc : KC F P s0 t0 C O Q R L E s) (h94 : s 94 r = -1) : ∀ (m l : Nat), l + m = E.getD r 0 → cck_checkParts_51 ((2 + c : Nat) : Int) (r : Int) (l : Int) s = some (.inl (((r + 1 : Nat) : Int), s)) := by
  have bd' := KHS_bd hs
  have rq := (KHS_q hs (c := c + 1) (by omega)).2.1
  have le := (LK_e hs (r := r) (by omega)).2
  have e84 : s 84 (r + 1) = (E.getD r 0 : Nat) := hc.2.2.2.1 r (by rw [hs.2.2.1.1]; omega)
  intro m
  induction m with
  | zero =>
    intro l hl
    unfold cck_checkParts_51
    rw [lp_end (f := fun l : Int × iS => cck_checkParts_51b ((2 + c : Nat) : Int) (r : Int) (l.1) (l.2)) (e := s) (by
      show cck_checkParts_51b ((2 + c : Nat) : Int) (r : Int) (l : Int) s = _
      unfold cck_checkParts_51b
      rw [gd_pos (by omega), gr (by omega), show ((r : Int) + 1).toNat = r + 1 by omega, e84, gr (by omega), if_pos (by omega)])]
    rfl
  | succ m ih =>
    intro l hl
    rw [← ih (l + 1) (by omega)]
    unfold cck_checkParts_51
    rw [lp_next (f := fun l : Int × iS => cck_checkParts_51b ((2 + c : Nat) : Int) (r : Int) (l.1) (l.2)) (l' := (((l + 1 : Nat) : Int), s)) (by
      show cck_checkParts_51b ((2 + c : Nat) : Int) (r : Int) (l : Int) s = _
      unfold cck_checkParts_51b
      rw [gd_pos (by omega), gr (by omega), show ((r : Int) + 1).toNat = r + 1 by omega, e84, gr (by omega), if_neg (by omega), gd_pos (by omega), Int.toNat_natCast, h94, gr (by omega), if_pos rfl]
      rfl)]
end CIw
