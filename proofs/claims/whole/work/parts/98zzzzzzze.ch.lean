/-! chips: parts are found; rows are cleared -/
section CJb
variable {F : Nat → Int} {n N : Nat} {P : Nat → Nat} {s0 t0 s t s' t' : iS} {C : List chR} {O E I : List Nat} {Q : List (Nat × Int)} {R L : List (Nat × Nat)} {c b i j k q r l : Nat} {Z : List Nat} {T : List tEn} {out w : Int}
theorem c_fps (h : TKR 1 F n N P s0 t0) (hs : KHS F P s0 t0 N C O Q R L E I) (hcl : c < C.length) {a z : Nat} (ha : a = (hAt C Q R I c).2.2.1) (hz : z = (hAt C Q R I (c + 1)).2.2.1) : ∀ (m r : Nat) (s : iS), r + m = z → a ≤ r → KC F P s0 t0 C O Q R L E s → BLc (Z ++ fPs F P t0 C R a (r - a)) s → (∀ x, a ≤ x → x < r → s 94 x = cix F P t0 C (R.getD x (0, 0)).1) → ∃ s', cck_findParts_10 ((2 + c : Nat) : Int) (r : Int) s = some (0, s') ∧ BLc (Z ++ fPs F P t0 C R a (z - a)) s' ∧ (∀ x, a ≤ x → x < z → s' 94 x = cix F P t0 C (R.getD x (0, 0)).1) ∧ (∀ c' k, ¬ (c' = 2 ∧ (k = 13 ∨ k = 14)) → ¬ (c' = 94 ∧ r ≤ k ∧ k < z) → s' c' k = s c' k)
  | 0, r, s, hm, hr, hc, hb, h94 => by
    have bd' := KHS_bd hs
    have e : r = z := by omega
    have rq := (KHS_q hs (c := c + 1) (by omega)).2.1
    have e78 := (KC_c (I := I) hc bd'.1 (c := c + 1) (by omega)).2
    rw [e] at hb h94
    refine ⟨s, ?_, hb, h94, fun _ _ _ _ => rfl⟩
    unfold cck_findParts_10
    rw [lp_end (f := fun l : Int × iS => cck_findParts_10b ((2 + c : Nat) : Int) (l.1) (l.2)) (e := s) (by
      show cck_findParts_10b ((2 + c : Nat) : Int) (r : Int) s = _
      unfold cck_findParts_10b
      rw [gd_pos (by omega), gr (by omega), show (((2 + c : Nat) : Int) + 1).toNat = 2 + (c + 1) by omega, e78, gr (by omega), if_pos (by omega)])]
    rfl
  | m + 1, r, s, hm, hr, hc, hb, h94 => by
    have bd' := KHS_bd hs
    have hN := N2001 h
    have rq := (KHS_q hs (c := c + 1) (by omega)).2.1
    have e78 := (KC_c (I := I) hc bd'.1 (c := c + 1) (by omega)).2
    have rr : (hAt C Q R I c).2.2.1 ≤ r ∧ r < (hAt C Q R I (c + 1)).2.2.1 := ⟨by omega, by omega⟩
    obtain ⟨-, -, -, -, p, -, -, -⟩ := KHS_c hs hcl
    obtain ⟨ptk, -, -, -⟩ := p r rr.1 rr.2
    have e83 : s 83 r = (((R.getD r (0, 0)).1 : Nat) : Int) := (hc.2.1.2.2.2.1.2 r (by omega)).1
    have ar : a + (r - a) = r := by omega
    have en : fPs F P t0 C R a (r + 1 - a) = fPs F P t0 C R a (r - a) ++ (if cix F P t0 C (R.getD r (0, 0)).1 = -1 then [16 * (R.getD r (0, 0)).1 + 4] else []) := by
      rw [show r + 1 - a = (r - a) + 1 by omega]
      show _ ++ (if cix F P t0 C (R.getD (a + (r - a)) (0, 0)).1 = -1 then _ else _) = _
      rw [ar]
    obtain ⟨sa, hsa⟩ : ∃ sa, sa = up s 94 r (cix F P t0 C (R.getD r (0, 0)).1) := ⟨_, rfl⟩
    have fsa : ∀ c' k, ¬ (c' = 94 ∧ k = r) → sa c' k = s c' k := fun c' k y => by rw [hsa, up_ne y]
    have sa94 : sa 94 r = cix F P t0 C (R.getD r (0, 0)).1 := by rw [hsa, up_same]
    have ba : BLc (Z ++ fPs F P t0 C R a (r - a)) sa := BLc_of hb (fsa 2 13 (by omega)) (fsa 2 14 (by omega))
    have B : cck_findParts_10b ((2 + c : Nat) : Int) (r : Int) s = gd (rg (cix F P t0 C (R.getD r (0, 0)).1)) (if cix F P t0 C (R.getD r (0, 0)).1 = (-1) then bd (tok_blame 4 (((R.getD r (0, 0)).1 : Nat) : Int) sa) (fun _ s10 => some (.inl (((r : Int) + 1), s10))) else some (.inl (((r : Int) + 1), sa))) := by
      unfold cck_findParts_10b
      rw [gd_pos (by omega), gr (by omega), show (((2 + c : Nat) : Int) + 1).toNat = 2 + (c + 1) by omega, e78, gr (by omega), if_neg (by omega), gd_pos (by omega), Int.toNat_natCast, e83, c_chip h hs hc ptk, bq, lt_eq, ← hsa, sa94, fsa 83 r (by omega), e83]
    obtain ⟨s1, a1, a2, a3⟩ : ∃ s1, cck_findParts_10b ((2 + c : Nat) : Int) (r : Int) s = some (.inl (((r + 1 : Nat) : Int), s1)) ∧ BLc (Z ++ fPs F P t0 C R a (r + 1 - a)) s1 ∧ (∀ c' k, ¬ (c' = 2 ∧ (k = 13 ∨ k = 14)) → s1 c' k = sa c' k) := by
      rw [B, en, ← List.append_assoc]
      rcases cix_rg (j := (R.getD r (0, 0)).1) hs with y | ⟨i, y1, y2⟩
      · obtain ⟨s1, d1, d2, d3⟩ := bl_add (f := 4) (t := (R.getD r (0, 0)).1) ba (by omega) (by have := ptk.1; omega)
        have d1' : tok_blame 4 (((R.getD r (0, 0)).1 : Nat) : Int) sa = some (0, s1) := d1
        rw [if_pos y, y, gr (by omega), if_pos rfl, d1', bq]
        exact ⟨s1, rfl, d2, d3⟩
      · rw [if_neg (show ¬ cix F P t0 C (R.getD r (0, 0)).1 = -1 by omega), if_neg (show ¬ cix F P t0 C (R.getD r (0, 0)).1 = -1 by omega), y1, gr (by omega), List.append_nil]
        exact ⟨sa, rfl, ba, fun _ _ _ => rfl⟩
    obtain ⟨s', b1, b2, b3, b4⟩ := c_fps h hs hcl ha hz m (r + 1) s1 (by omega) (by omega) (KC_of hc (fun c' k y => by rw [a3 c' k (by omega), fsa c' k (by omega)])) a2 (fun x x1 x2 => by
      rw [a3 94 x (by omega)]
      by_cases y : x = r
      · rw [y]; exact sa94
      · rw [fsa 94 x (by omega)]; exact h94 x x1 (by omega))
    refine ⟨s', ?_, b2, b3, fun c' k z1 z2 => by rw [b4 c' k z1 (by omega), a3 c' k z1, fsa c' k (by omega)]⟩
    rw [← b1]
    unfold cck_findParts_10
    rw [lp_next (f := fun l : Int × iS => cck_findParts_10b ((2 + c : Nat) : Int) (l.1) (l.2)) (l' := (((r + 1 : Nat) : Int), s1)) (by
      show cck_findParts_10b ((2 + c : Nat) : Int) (r : Int) s = _
      exact a1)]
/-- the reference clears the rows of inner names -/
theorem r_fi7 (hs : KHS F P s0 t0 N C O Q R L E I) (hcl : c < C.length) : ∀ (m x : Nat) (t : iS), x + m = (hAt C Q R I (c + 1)).2.2.2 → KR s0 t0 C Q R L I t → ∃ t', m_findInner_7 (c : Int) (x : Int) t = m_findInner_39 (c : Int) t' ∧ (∀ k, x ≤ k → k < (hAt C Q R I (c + 1)).2.2.2 → t' 214 k = 0 ∧ t' 215 k = 0) ∧ (∀ c' k, ¬ ((c' = 214 ∨ c' = 215) ∧ x ≤ k ∧ k < (hAt C Q R I (c + 1)).2.2.2) → t' c' k = t c' k)
  | 0, x, t, hm, hr => by
    have bd' := KHS_bd hs
    have iq := (KHS_q hs (c := c + 1) (by omega)).2.2
    have e212 := (KR_c hr (c := c + 1) (by omega)).2.2
    refine ⟨t, ?_, fun k k1 k2 => by omega, fun _ _ _ => rfl⟩
    unfold m_findInner_7
    rw [lp_end (f := fun l : Int × iS => m_findInner_7b (c : Int) (l.1) (l.2)) (e := t) (by
      show m_findInner_7b (c : Int) (x : Int) t = _
      unfold m_findInner_7b
      rw [gd_pos (by omega), gr (by omega), show ((c : Int) + 1).toNat = c + 1 by omega, e212, gr (by omega), if_pos (by omega)])]
    rfl
  | m + 1, x, t, hm, hr => by
    have bd' := KHS_bd hs
    have iq := (KHS_q hs (c := c + 1) (by omega)).2.2
    have e212 := (KR_c hr (c := c + 1) (by omega)).2.2
    obtain ⟨t', b1, b2, b3⟩ := r_fi7 hs hcl m (x + 1) (up (up t 214 x 0) 215 x 0) (by omega) (KR_of hr (fun c' k z => by rw [up_ne (by omega), up_ne (by omega)]))
    refine ⟨t', ?_, fun k k1 k2 => ?_, fun c' k z => by rw [b3 c' k (by omega), up_ne (by omega), up_ne (by omega)]⟩
    · rw [← b1]
      unfold m_findInner_7
      rw [lp_next (f := fun l : Int × iS => m_findInner_7b (c : Int) (l.1) (l.2)) (l' := (((x + 1 : Nat) : Int), up (up t 214 x 0) 215 x 0)) (by
        show m_findInner_7b (c : Int) (x : Int) t = _
        unfold m_findInner_7b
        rw [gd_pos (by omega), gr (by omega), show ((c : Int) + 1).toNat = c + 1 by omega, e212, gr (by omega), if_neg (by omega), gd_pos (by omega), Int.toNat_natCast, lt_eq, lt_eq]
        rfl)]
    · by_cases y : k = x
      · rw [y, b3 214 x (by omega), b3 215 x (by omega), up_same, up_ne (by omega), up_same]
        exact ⟨rfl, rfl⟩
      · exact b2 k (by omega) k2
end CJb
