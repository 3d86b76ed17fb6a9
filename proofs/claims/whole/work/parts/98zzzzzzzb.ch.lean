/-! chips: the reference checks the links of a part -/
section CIx
variable {F : Nat → Int} {n N : Nat} {P : Nat → Nat} {s0 t0 s t s' t' : iS} {C : List chR} {O E I : List Nat} {Q : List (Nat × Int)} {R L : List (Nat × Nat)} {c b i j k q r l : Nat} {Z : List Nat} {T : List tEn} {out w : Int}
theorem r_lks (h : TKH F n N P s0 t0) (hs : KHS F P s0 t0 N C O Q R L E I) (hcl : c < C.length) (hrr : (hAt C Q R I c).2.2.1 ≤ r ∧ r < (hAt C Q R I (c + 1)).2.2.1) (hi : i < 2 + C.length) (hci : cix F P t0 C (R.getD r (0, 0)).1 = (i : Int)) (hT : TOK F P s0 t0 N C Q R L I c b T) (hp : PLE F P s0 t0 C O Q R L E I c T) {a : Nat} (ha : a = (R.getD r (0, 0)).2) {mi mo : Nat → Int} : ∀ (m l : Nat) (t : iS), l + m = E.getD r 0 → a ≤ l → KR s0 t0 C Q R L I t → RBc P N (Z ++ yKs F P s0 t0 C O Q R L I c i a T mi mo (l - a)) t → IRr F P t0 C Q R I c T t → ILr F P t0 C Q R I c T l t → MIr C Q R I i (mLs F P s0 t0 C O Q R L I i a mi (l - a)) t → MOr C Q R I c (mKs F P s0 t0 C O Q R L I c i a mo (l - a)) t → ∃ t', m_checkLinks_100 (c : Int) (r : Int) (i : Int) (l : Int) t = some (.inl (((r + 1 : Nat) : Int), t')) ∧ RBc P N (Z ++ yKs F P s0 t0 C O Q R L I c i a T mi mo (E.getD r 0 - a)) t' ∧ ILr F P t0 C Q R I c T (E.getD r 0) t' ∧ MOr C Q R I c (mKs F P s0 t0 C O Q R L I c i a mo (E.getD r 0 - a)) t' ∧ (∀ c' k, ¬ (c' = 121 ∧ (k = 69 ∨ k = 70)) → ¬ (c' = 215 ∧ (hAt C Q R I c).2.2.2 ≤ k ∧ k < (hAt C Q R I (c + 1)).2.2.2) → c' ≠ 217 → c' ≠ 218 → t' c' k = t c' k)
  | 0, l, t, hm, hl, hr, hb, hI, hIL, hmi, hmo => by
    have bd' := KHS_bd hs
    have e : l = E.getD r 0 := by omega
    have rq := (KHS_q hs (c := c + 1) (by omega)).2.1
    have le := (LK_e hs (r := r) (by omega)).2
    obtain ⟨-, e203⟩ := KR_e hs hr (r := r) (by omega)
    rw [e] at hb hIL hmo
    refine ⟨t, ?_, hb, hIL, hmo, fun _ _ _ _ _ _ => rfl⟩
    unfold m_checkLinks_100
    rw [lp_end (f := fun l : Int × iS => m_checkLinks_100b (c : Int) (r : Int) (i : Int) (l.1) (l.2)) (e := t) (by
      show m_checkLinks_100b (c : Int) (r : Int) (i : Int) (l : Int) t = _
      unfold m_checkLinks_100b
      rw [gd_pos (by omega), gr (by omega), show ((r : Int) + 1).toNat = r + 1 by omega, e203, gr (by omega), if_pos (by omega)])]
    rfl
  | m + 1, l, t, hm, hl, hr, hb, hI, hIL, hmi, hmo => by
    obtain ⟨t1, a1, a2, a3, a4, a5, a6⟩ := r_link (r := r) (l := l) h hs hr hb hcl hrr ⟨by omega, by omega⟩ hi hT hI hIL hmi hmo
    have al : a + (l - a) = l := by omega
    have en : yKs F P s0 t0 C O Q R L I c i a T mi mo (l + 1 - a) = yKs F P s0 t0 C O Q R L I c i a T mi mo (l - a) ++ yK F P s0 t0 C O Q R L I c i l T (mLs F P s0 t0 C O Q R L I i a mi (l - a)) (mKs F P s0 t0 C O Q R L I c i a mo (l - a)) := by
      rw [show l + 1 - a = (l - a) + 1 by omega]
      show _ ++ yK F P s0 t0 C O Q R L I c i (a + (l - a)) T _ _ = _
      rw [al]
    have e5 : mLs F P s0 t0 C O Q R L I i a mi (l + 1 - a) = mL F P s0 t0 C O Q R L I i l (mLs F P s0 t0 C O Q R L I i a mi (l - a)) := by
      rw [show l + 1 - a = (l - a) + 1 by omega]
      show mL F P s0 t0 C O Q R L I i (a + (l - a)) _ = _
      rw [al]
    have e6 : mKs F P s0 t0 C O Q R L I c i a mo (l + 1 - a) = mK F P s0 t0 C O Q R L I c i l (mKs F P s0 t0 C O Q R L I c i a mo (l - a)) := by
      rw [show l + 1 - a = (l - a) + 1 by omega]
      show mK F P s0 t0 C O Q R L I c i (a + (l - a)) _ = _
      rw [al]
    have il := IL_next hs hcl hrr (l := l) ⟨by omega, by omega⟩ hci hT hp hIL a5
    rw [List.append_assoc, ← en] at a2
    rw [← e5] at a3
    rw [← e6] at a4
    obtain ⟨t', b1, b2, b3, b4, b5⟩ := r_lks h hs hcl hrr hi hci hT hp ha m (l + 1) t1 (by omega) (by omega) (KR_of hr (fun c' k z => a6 c' k (by omega) (by omega) (by omega) (by omega))) a2 (fun x x1 x2 => by rw [a6 214 x (by omega) (by omega) (by omega) (by omega)]; exact hI x x1 x2) il a3 a4
    refine ⟨t', ?_, b2, b3, b4, fun c' k z1 z2 z3 z4 => by rw [b5 c' k z1 z2 z3 z4, a6 c' k z1 z2 z3 z4]⟩
    rw [← b1]
    unfold m_checkLinks_100
    rw [lp_next (f := fun l : Int × iS => m_checkLinks_100b (c : Int) (r : Int) (i : Int) (l.1) (l.2)) (l' := (((l + 1 : Nat) : Int), t1)) (by
      show m_checkLinks_100b (c : Int) (r : Int) (i : Int) (l : Int) t = _
      exact a1)]
/-- the reference clears a row of bits -/
theorem r_c217 {v1 v2 v3 : Int} : ∀ (m x : Nat) (t : iS), x + m = 200 → ∃ t', m_checkLinks_70 v1 v2 v3 (x : Int) t = m_checkLinks_92 v1 v2 v3 t' ∧ (∀ k, x ≤ k → k < 200 → t' 217 k = 0) ∧ (∀ c' k, ¬ (c' = 217 ∧ x ≤ k ∧ k < 200) → t' c' k = t c' k)
  | 0, x, t, hm => by
    refine ⟨t, ?_, fun k k1 k2 => by omega, fun _ _ _ => rfl⟩
    unfold m_checkLinks_70
    rw [lp_end (f := fun l : Int × iS => m_checkLinks_70b v1 v2 v3 (l.1) (l.2)) (e := t) (by
      show m_checkLinks_70b v1 v2 v3 (x : Int) t = _
      unfold m_checkLinks_70b
      rw [gr (by omega), if_pos (by omega)])]
    rfl
  | m + 1, x, t, hm => by
    obtain ⟨t', b1, b2, b3⟩ := r_c217 (v1 := v1) (v2 := v2) (v3 := v3) m (x + 1) (up t 217 x 0) (by omega)
    refine ⟨t', ?_, fun k k1 k2 => ?_, fun c' k z => by rw [b3 c' k (by omega), up_ne (by omega)]⟩
    · rw [← b1]
      unfold m_checkLinks_70
      rw [lp_next (f := fun l : Int × iS => m_checkLinks_70b v1 v2 v3 (l.1) (l.2)) (l' := (((x + 1 : Nat) : Int), up t 217 x 0)) (by
        show m_checkLinks_70b v1 v2 v3 (x : Int) t = _
        unfold m_checkLinks_70b
        rw [gr (by omega), if_neg (by omega), gd_pos (by omega), Int.toNat_natCast, lt_eq]
        rfl)]
    · by_cases y : k = x
      · rw [y, b3 217 x (by omega), up_same]
      · exact b2 k (by omega) k2
theorem r_c218 {v1 : Int} : ∀ (m x : Nat) (t : iS), x + m = 200 → ∃ t', m_checkLinks_2 v1 (x : Int) t = m_checkLinks_22 v1 t' ∧ (∀ k, x ≤ k → k < 200 → t' 218 k = 0) ∧ (∀ c' k, ¬ (c' = 218 ∧ x ≤ k ∧ k < 200) → t' c' k = t c' k)
  | 0, x, t, hm => by
    refine ⟨t, ?_, fun k k1 k2 => by omega, fun _ _ _ => rfl⟩
    unfold m_checkLinks_2
    rw [lp_end (f := fun l : Int × iS => m_checkLinks_2b v1 (l.1) (l.2)) (e := t) (by
      show m_checkLinks_2b v1 (x : Int) t = _
      unfold m_checkLinks_2b
      rw [gr (by omega), if_pos (by omega)])]
    rfl
  | m + 1, x, t, hm => by
    obtain ⟨t', b1, b2, b3⟩ := r_c218 (v1 := v1) m (x + 1) (up t 218 x 0) (by omega)
    refine ⟨t', ?_, fun k k1 k2 => ?_, fun c' k z => by rw [b3 c' k (by omega), up_ne (by omega)]⟩
    · rw [← b1]
      unfold m_checkLinks_2
      rw [lp_next (f := fun l : Int × iS => m_checkLinks_2b v1 (l.1) (l.2)) (l' := (((x + 1 : Nat) : Int), up t 218 x 0)) (by
        show m_checkLinks_2b v1 (x : Int) t = _
        unfold m_checkLinks_2b
        rw [gr (by omega), if_neg (by omega), gd_pos (by omega), Int.toNat_natCast, lt_eq]
        rfl)]
    · by_cases y : k = x
      · rw [y, b3 218 x (by omega), up_same]
      · exact b2 k (by omega) k2
end CIx
