/-! chips: all chips are checked -/
section CJf
variable (F : Nat → Int) (P : Nat → Nat) (s0 t0 : iS) (N : Nat) (C : List chR) (O : List Nat) (Q : List (Nat × Int)) (R L : List (Nat × Nat)) (E I : List Nat)
/-- the table of inner names of chip c -/
noncomputable def tbI (c : Nat) : List tEn := gtR F P s0 t0 C O Q R L E I c (ofI s0 C Q R I (2 + c) (paI C Q R I (2 + c + 1))) (hAt C Q R I c).2.2.1 [] ((hAt C Q R I (c + 1)).2.2.1 - (hAt C Q R I c).2.2.1)
def CKD (c : Nat) (s t : iS) : Prop := ∀ x, x < c → (∀ r, (hAt C Q R I x).2.2.1 ≤ r → r < (hAt C Q R I (x + 1)).2.2.1 → s 94 r = cix F P t0 C (R.getD r (0, 0)).1 ∧ t 216 r = cix F P t0 C (R.getD r (0, 0)).1) ∧ s 93 (2 + x) = (owT (ofI s0 C Q R I (2 + x) (paI C Q R I (2 + x + 1))) (tbI F P s0 t0 C O Q R L E I x) : Int) ∧ IRr F P t0 C Q R I x (tbI F P s0 t0 C O Q R L E I x) t
def LKA (c : Nat) (s : iS) : Prop := ∀ x, x < c → ∀ r, (hAt C Q R I x).2.2.1 ≤ r → r < (hAt C Q R I (x + 1)).2.2.1 → cix F P t0 C (R.getD r (0, 0)).1 ≠ -1 ∧ ∀ l, (R.getD r (0, 0)).2 ≤ l → l < E.getD r 0 → LKC F P s0 t0 C Q R L I x (cix F P t0 C (R.getD r (0, 0)).1).toNat l (tbI F P s0 t0 C O Q R L E I x) s ∧ ∃ mi mo, xK F P s0 t0 C O Q R L I x (cix F P t0 C (R.getD r (0, 0)).1).toNat l (tbI F P s0 t0 C O Q R L E I x) mi mo = []
end CJf
section CJg
variable {F : Nat → Int} {n N : Nat} {P : Nat → Nat} {s0 t0 s t s' t' : iS} {C : List chR} {O E I : List Nat} {Q : List (Nat × Int)} {R L : List (Nat × Nat)} {c b i j k q r l : Nat} {Z : List Nat} {T : List tEn} {out w : Int}
theorem fPs_nil {a : Nat} : ∀ m, fPs F P t0 C R a m = [] → ∀ x, a ≤ x → x < a + m → cix F P t0 C (R.getD x (0, 0)).1 ≠ -1
  | 0, _, x, x1, x2 => by omega
  | m + 1, h, x, x1, x2 => by
    have e : fPs F P t0 C R a (m + 1) = fPs F P t0 C R a m ++ (if cix F P t0 C (R.getD (a + m) (0, 0)).1 = -1 then [16 * (R.getD (a + m) (0, 0)).1 + 4] else []) := rfl
    rw [e, List.append_eq_nil_iff] at h
    by_cases y : x = a + m
    · rw [y]
      intro z
      rw [if_pos z] at h
      exact absurd h.2 (by simp)
    · exact fPs_nil m h.1 x x1 (by omega)
theorem xKs_nil {mi mo : Nat → Int} {a : Nat} : ∀ m, xKs F P s0 t0 C O Q R L I c i a T mi mo m = [] → ∀ l, a ≤ l → l < a + m → ∃ mi' mo', xK F P s0 t0 C O Q R L I c i l T mi' mo' = []
  | 0, _, l, l1, l2 => by omega
  | m + 1, h, l, l1, l2 => by
    have e : xKs F P s0 t0 C O Q R L I c i a T mi mo (m + 1) = xKs F P s0 t0 C O Q R L I c i a T mi mo m ++ xK F P s0 t0 C O Q R L I c i (a + m) T (mLs F P s0 t0 C O Q R L I i a mi m) (mKs F P s0 t0 C O Q R L I c i a mo m) := rfl
    rw [e, List.append_eq_nil_iff] at h
    by_cases y : l = a + m
    · rw [y]
      exact ⟨_, _, h.2⟩
    · exact xKs_nil m h.1 l l1 (by omega)
theorem xPs_nil {mi mo : Nat → Int} {a : Nat} : ∀ m, xPs F P s0 t0 C O Q R L E I c a T mi mo m = [] → ∀ r, a ≤ r → r < a + m → cix F P t0 C (R.getD r (0, 0)).1 ≠ -1 → ∀ l, (R.getD r (0, 0)).2 ≤ l → l < E.getD r 0 → ∃ mi' mo', xK F P s0 t0 C O Q R L I c (cix F P t0 C (R.getD r (0, 0)).1).toNat l T mi' mo' = []
  | 0, _, r, r1, r2, _, _, _, _ => by omega
  | m + 1, h, r, r1, r2, ne, l, l1, l2 => by
    have e : xPs F P s0 t0 C O Q R L E I c a T mi mo (m + 1) = xPs F P s0 t0 C O Q R L E I c a T mi mo m ++ (if cix F P t0 C (R.getD (a + m) (0, 0)).1 = -1 then [] else xKs F P s0 t0 C O Q R L I c (cix F P t0 C (R.getD (a + m) (0, 0)).1).toNat (R.getD (a + m) (0, 0)).2 T mi (mPs F P s0 t0 C O Q R L E I c a mo m) (E.getD (a + m) 0 - (R.getD (a + m) (0, 0)).2)) := rfl
    rw [e, List.append_eq_nil_iff] at h
    by_cases y : r = a + m
    · rw [← y, if_neg ne] at h
      exact xKs_nil _ h.2 l l1 (by omega)
    · exact xPs_nil m h.1 r r1 (by omega) ne l l1 l2
theorem part_lt (hs : KHS F P s0 t0 N C O Q R L E I) {x : Nat} (hx : x < c) (hc : c ≤ C.length) : (hAt C Q R I (x + 1)).2.2.1 ≤ (hAt C Q R I c).2.2.1 := by
  have := (KHS_m hs (c - (x + 1)) (x + 1) (by omega)).2.1
  rw [show x + 1 + (c - (x + 1)) = c by omega] at this
  exact this
theorem chk_lp (h : TKH F n N P s0 t0) (hs : KHS F P s0 t0 N C O Q R L E I) : ∀ (m c : Nat) (s t : iS) (A B : List Nat), c + m = C.length → KC F P s0 t0 C O Q R L E s → KW s0 C Q R I Q.length s → (∀ i, c ≤ i → i < C.length → s 93 (2 + i) = (ofI s0 C Q R I (2 + i) (paI C Q R I (2 + i + 1)) : Int)) → (0 ≤ s 99 2 ∧ s 99 2 ≤ 100) → BLc A s → DOM A B → RBc P N B t → KR s0 t0 C Q R L I t → CKD F P s0 t0 C O Q R L E I c s t → (A = [] → LKA F P s0 t0 C O Q R L E I c s) → ∃ s' t' A' B', cck_check_75 ((2 + c : Nat) : Int) s = cck_check_110 s' ∧ m_chips_58 (c : Int) t = m_chips_82 t' ∧ KC F P s0 t0 C O Q R L E s' ∧ KW s0 C Q R I Q.length s' ∧ (0 ≤ s' 99 2 ∧ s' 99 2 ≤ 100) ∧ BLc A' s' ∧ DOM A' B' ∧ RBc P N B' t' ∧ KR s0 t0 C Q R L I t' ∧ CKD F P s0 t0 C O Q R L E I C.length s' t' ∧ (A' = [] → LKA F P s0 t0 C O Q R L E I C.length s') ∧ (∀ c' k, ¬ (c' = 2 ∧ (k = 13 ∨ k = 14)) → ¬ (93 ≤ c' ∧ c' ≤ 106) → s' c' k = s c' k) ∧ (∀ c' k, ¬ (c' = 121 ∧ (k = 69 ∨ k = 70)) → ¬ (214 ≤ c' ∧ c' ≤ 218) → t' c' k = t c' k) ∧ (∀ i, i < 2 → s' 93 i = s 93 i)
  | 0, c, s, t, A, B, hm, hc, hw, h93, h99, hA, hD, hB, hr, hck, hl => by
    have bd' := KHS_bd hs
    have e : c = C.length := by omega
    have e72 : s 72 2 = ((2 + C.length : Nat) : Int) := by rw [hc.2.1.1.1.1]; show ((tabC F P t0 C).length : Int) = _; rw [tabC_len]
    have e122 : t 121 122 = (C.length : Int) := hr.2.1.1.1
    refine ⟨s, t, A, B, ?_, ?_, hc, hw, h99, hA, hD, hB, hr, by rw [← e]; exact hck, by rw [← e]; exact hl, fun _ _ _ _ => rfl, fun _ _ _ _ => rfl, fun _ _ => rfl⟩
    · unfold cck_check_75
      rw [lp_end (f := fun l : Int × iS => cck_check_75b (l.1) (l.2)) (e := s) (by
        show cck_check_75b ((2 + c : Nat) : Int) s = _
        unfold cck_check_75b
        rw [gr (by omega), e72, gr (by omega), if_pos (by omega)])]
      rfl
    · unfold m_chips_58
      rw [lp_end (f := fun l : Int × iS => m_chips_58b (l.1) (l.2)) (e := t) (by
        show m_chips_58b (c : Int) t = _
        unfold m_chips_58b
        rw [gr (by omega), e122, gr (by omega), if_pos (by omega)])]
      rfl
  | m + 1, c, s, t, A, B, hm, hc, hw, h93, h99, hA, hD, hB, hr, hck, hl => by
    have hcl : c < C.length := by omega
    have mm := (KHS_m hs 1 c (by omega)).2.1
    have rq := (KHS_q hs (c := c + 1) (by omega)).2.1
    obtain ⟨s1, mi, mo, a1, a2, a3, a4, a5, a6, a7, a8, a9⟩ := c_chp1 (O := O) (T := tbI F P s0 t0 C O Q R L E I c) h.1 hs hcl hc hw hA rfl (h93 c (Nat.le_refl _) hcl) h99 rfl rfl rfl
    obtain ⟨t1, b1, b2, b3, b4, b5⟩ := r_chp1 (O := O) (b := ofI s0 C Q R I (2 + c) (paI C Q R I (2 + c + 1))) (T := tbI F P s0 t0 C O Q R L E I c) h hs hcl hr hB rfl rfl rfl a2
    have hp : PLE F P s0 t0 C O Q R L E I c (tbI F P s0 t0 C O Q R L E I c) := gtR_ple hs hcl
    have dm := DOM_app hD (DOM_Ps (mi := mi) (mo := mo) hs hcl a3 hp ((hAt C Q R I (c + 1)).2.2.1 - (hAt C Q R I c).2.2.1) (by omega))
    have n9 : ∀ c' k, ¬ (c' = 2 ∧ (k = 13 ∨ k = 14)) → ¬ (93 ≤ c' ∧ c' ≤ 106) → s1 c' k = s c' k := fun c' k q1 q2 => a9 c' k q1 (by omega) (fun u => by omega) (by omega) (by omega)
    have n5 : ∀ c' k, ¬ (c' = 121 ∧ (k = 69 ∨ k = 70)) → ¬ (214 ≤ c' ∧ c' ≤ 218) → t1 c' k = t c' k := fun c' k q1 q2 => b5 c' k q1 (by omega) (by omega) (by omega) (by omega)
    obtain ⟨s', t', A', B', e1, e2, e3, e4, e5, e6, e7, e8, e9, e10, e11, e12, e13, e14⟩ := chk_lp h hs m (c + 1) s1 t1 _ _ (by omega) (KC_of hc (fun c' k y => n9 c' k (by omega) (by omega))) (KW_of hw (fun c' k y _ => n9 c' k (by omega) (by omega))) (fun i i1 i2 => by rw [a9 93 (2 + i) (by omega) (by omega) (fun u => by omega) (by omega) (by omega)]; exact h93 i (by omega) i2) a8 a4 dm b2 (KR_of hr (fun c' k y => n5 c' k (by omega) (by omega))) (fun x hx => by
      by_cases y : x = c
      · subst y
        exact ⟨fun r r1 r2 => ⟨a6 r r1 r2, b3 r r1 r2⟩, a7, b4⟩
      · obtain ⟨z1, z2, z3⟩ := hck x (by omega)
        have pl := part_lt hs (x := x) (c := c) (by omega) (by omega)
        refine ⟨fun r r1 r2 => ?_, ?_, fun k k1 k2 => ?_⟩
        · rw [a9 94 r (by omega) (by omega) (fun u => by omega) (by omega) (by omega), b5 216 r (by omega) (by omega) (by omega) (by omega) (by omega)]
          exact z1 r r1 r2
        · rw [a9 93 (2 + x) (by omega) (by omega) (fun u => by omega) (by omega) (by omega)]
          exact z2
        · have im := (KHS_m hs (c - (x + 1)) (x + 1) (by omega)).2.2
          rw [show x + 1 + (c - (x + 1)) = c by omega] at im
          rw [b5 214 k (by omega) (by omega) (by omega) (by omega) (by omega)]
          exact z3 k k1 k2) (fun y x hx r r1 r2 => by
      rw [List.append_eq_nil_iff, List.append_eq_nil_iff] at y
      obtain ⟨y1, y2, y3⟩ := y
      by_cases w : x = c
      · subst w
        have ne := fPs_nil _ y2 r r1 (by omega)
        exact ⟨ne, fun l l1 l2 => ⟨a5 y3 r l r1 r2 ne l1 l2, xPs_nil _ y3 r r1 (by omega) ne l l1 l2⟩⟩
      · obtain ⟨z1, z2⟩ := hl y1 x (by omega) r r1 r2
        have pl := part_lt hs (x := x) (c := c) (by omega) (by omega)
        refine ⟨z1, fun l l1 l2 => ⟨LKC_of (z2 l l1 l2).1 (fun c' q => a9 c' l (by omega) (by omega) (fun u => ?_) (by omega) (by omega)), (z2 l l1 l2).2⟩⟩
        obtain ⟨-, -, r', u1, u2, u3, u4⟩ := u
        have := LK_u hs (r := r) (r' := r') (l := l) (by omega) (by omega) ⟨l1, l2⟩ ⟨u3, u4⟩
        omega)
    refine ⟨s', t', A', B', ?_, ?_, e3, e4, e5, e6, e7, e8, e9, e10, e11, fun c' k q1 q2 => by rw [e12 c' k q1 q2, n9 c' k q1 q2], fun c' k q1 q2 => by rw [e13 c' k q1 q2, n5 c' k q1 q2], fun i hi => by rw [e14 i hi]; exact a9 93 i (by omega) (by omega) (fun u => by omega) (by omega) (by omega)⟩
    · rw [← e1]
      unfold cck_check_75
      rw [lp_next (f := fun l : Int × iS => cck_check_75b (l.1) (l.2)) (l' := (((2 + (c + 1) : Nat) : Int), s1)) (by
        show cck_check_75b ((2 + c : Nat) : Int) s = _
        exact a1)]
    · rw [← e2]
      unfold m_chips_58
      rw [lp_next (f := fun l : Int × iS => m_chips_58b (l.1) (l.2)) (l' := (((c + 1 : Nat) : Int), t1)) (by
        show m_chips_58b (c : Int) t = _
        exact b1)]
end CJg
