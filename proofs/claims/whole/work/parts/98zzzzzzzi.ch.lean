/-! chips: all chips are checked -/
section CJf
variable (F : Nat → Int) (P : Nat → Nat) (s0 t0 : iS) (N : Nat) (C : List chR) (O : List Nat) (Q : List (Nat × Int)) (R L : List (Nat × Nat)) (E I : List Nat)
/-- the table of inner names of chip c -/
noncomputable def tbI (c : Nat) : List tEn := gtR F P s0 t0 C O Q R L E I c (ofI s0 C Q R I (2 + c) (paI C Q R I (2 + c + 1))) (hAt C Q R I c).2.2.1 [] ((hAt C Q R I (c + 1)).2.2.1 - (hAt C Q R I c).2.2.1)
def CKD (c : Nat) (s t : iS) : Prop := ∀ x, x < c → (∀ r, (hAt C Q R I x).2.2.1 ≤ r → r < (hAt C Q R I (x + 1)).2.2.1 → s 94 r = cix F P t0 C (R.getD r (0, 0)).1 ∧ t 216 r = cix F P t0 C (R.getD r (0, 0)).1) ∧ s 93 (2 + x) = (owT (ofI s0 C Q R I (2 + x) (paI C Q R I (2 + x + 1))) (tbI F P s0 t0 C O Q R L E I x) : Int) ∧ IRr F P t0 C Q R I x (tbI F P s0 t0 C O Q R L E I x) t
def LKA (c : Nat) (s : iS) : Prop := ∀ x, x < c → ∀ r, (hAt C Q R I x).2.2.1 ≤ r → r < (hAt C Q R I (x + 1)).2.2.1 → cix F P t0 C (R.getD r (0, 0)).1 ≠ -1 ∧ ∀ l, (R.getD r (0, 0)).2 ≤ l → l < E.getD r 0 → LKC F P s0 t0 C Q R L I x (cix F P t0 C (R.getD r (0, 0)).1).toNat l (tbI F P s0 t0 C O Q R L E I x) s ∧ ∃ mi mo, xK F P s0 t0 C O Q R L I x (cix F P t0 C (R.getD r (0, 0)).1).toNat l (tbI F P s0 t0 C O Q R L E I x) mi mo = []
end CJf
section CJg
variable {F : Nat → Int} {n N : Nat} {P : Nat → Nat} {s0 t0 s t s' t' : iS} {C : List chR} {O E I : List Nat} {Q : List (Nat × Int)} {R L : List (Nat × Nat)} {c b i j k q r l : Nat} {Z : List Nat} {T : List tEn} {out w : Int}
theorem fPs_nil {a : Nat} : ∀ m, fPs F P t0 C R a m = [] → ∀ x, a ≤ x → x < a + m → cix F P t0 C (R.getD x (0, 0)).1 ≠ -1
  | 0, _, x, x1, x2 => by omega
  | m + 1, h, x, x1, x2 => by
    have e : fPs F P t0 C R a (m + 1) = fPs F P t0 C R a m ++ (if cix F P t0 C (R.getD (a + m) (0, 0)).1 = -1 then [16 * (R.getD (a + m) (0, 0)).1 + 4] else []) := rfl
    rw [e, List.append_eq_nil_iff] at h
    by_cases y : x = a + m
    · rw [y]
      intro z
      rw [if_pos z] at h
      exact absurd h.2 (by simp)
    · exact fPs_nil m h.1 x x1 (by omega)
theorem xKs_nil {mi mo : Nat → Int} {a : Nat} : ∀ m, xKs F P s0 t0 C O Q R L I c i a T mi mo m = [] → ∀ l, a ≤ l → l < a + m → ∃ mi' mo', xK F P s0 t0 C O Q R L I c i l T mi' mo' = []
  | 0, _, l, l1, l2 => by omega
  | m + 1, h, l, l1, l2 => by
    have e : xKs F P s0 t0 C O Q R L I c i a T mi mo (m + 1) = xKs F P s0 t0 C O Q R L I c i a T mi mo m ++ xK F P s0 t0 C O Q R L I c i (a + m) T (mLs F P s0 t0 C O Q R L I i a mi m) (mKs F P s0 t0 C O Q R L I c i a mo m) := rfl
    rw [e, List.append_eq_nil_iff] at h
    by_cases y : l = a + m
    · rw [y]
      exact ⟨_, _, h.2⟩
    · exact xKs_nil m h.1 l l1 (by omega)
theorem xPs_nil {mi mo : Nat → Int} {a : Nat} : ∀ m, xPs F P s0 t0 C O Q R L E I c a T mi mo m = [] → ∀ r, a ≤ r → r < a + m → cix F P t0 C (R.getD r (0, 0)).1 ≠ -1 → ∀ l, (R.getD r (0, 0)).2 ≤ l → l < E.getD r 0 → ∃ mi' mo', xK F P s0 t0 C O Q R L I c (cix F P t0 C (R.getD r (0, 0)).1).toNat l T mi' mo' = []
  | 0, _, r, r1, r2, _, _, _, _ => by omega
  | m + 1, h, r, r1, r2, ne, l, l1, l2 => by
    have e : xPs F P s0 t0 C O Q R L E I c a T mi mo (m + 1) = xPs F P s0 t0 C O Q R L E I c a T mi mo m ++ (if cix F P t0 C (R.getD (a + m) (0, 0)).1 = -1 then [] else xKs F P s0 t0 C O Q R L I c (cix F P t0 C (R.getD (a + m) (0, 0)).1).toNat (R.getD (a + m) (0, 0)).2 T mi (mPs F P s0 t0 C O Q R L E I c a mo m) (E.getD (a + m) 0 - (R.getD (a + m) (0, 0)).2)) := rfl
    rw [e, List.append_eq_nil_iff] at h
    by_cases y : r = a + m
    · rw [← y, if_neg ne] at h
      exact xKs_nil _ h.2 l l1 (by omega)
    · exact xPs_nil m h.1 r r1 (by omega) ne l l1 l2
theorem part_lt (hs : KHS F P s0 t0 N C O Q R L E I) {x : Nat} (hx : x < c) (hc : c ≤ C.length) : (hAt C Q R I (x + 1)).2.2.1 ≤ (hAt C Q R I c).2.2.1 := by
  have := (KHS_m hs (c - (x + 1)) (x + 1) (by omega)).2.1
  rw [show x + 1 + (c - (x + 1)) = c by omega] at this
  exact this
theorem sg_lt {a k : Nat} {p : Prop} [Decidable p] (h : k ∈ (if p then [a] else [])) (ha : a < 100000) : k < 100000 := by
  split at h
  · have : k = a := by simpa using h
    omega
  · cases h
theorem s1_lt {a k : Nat} (h : k ∈ [a]) (ha : a < 100000) : k < 100000 := by
  have : k = a := by simpa using h
  omega
theorem xK_lt {mi mo : Nat → Int} (hl : lL L l + 1 < 2002) (hr : lR L l + 1 < 2002) : ∀ k ∈ xK F P s0 t0 C O Q R L I c i l T mi mo, k < 100000 := by
  intro k hk
  unfold xK at hk
  split at hk
  · exact s1_lt hk (by omega)
  · rcases List.mem_append.mp hk with q | q
    · unfold xL at q
      split at q
      · exact s1_lt q (by omega)
      · exact sg_lt q (by omega)
    · unfold xR at q
      split at q
      · split at q
        · split at q
          · exact s1_lt q (by omega)
          · rcases List.mem_append.mp q with q | q
            · exact sg_lt q (by omega)
            · split at q
              · exact s1_lt q (by omega)
              · exact sg_lt q (by omega)
        · split at q
          · split at q
            · exact s1_lt q (by omega)
            · rcases List.mem_append.mp q with q | q
              · exact sg_lt q (by omega)
              · exact sg_lt q (by omega)
          · exact s1_lt q (by omega)
      · exact sg_lt q (by omega)
theorem xKs_lt {mi mo : Nat → Int} {a : Nat} : ∀ m, (∀ l, a ≤ l → l < a + m → lL L l + 1 < 2002 ∧ lR L l + 1 < 2002) → ∀ k ∈ xKs F P s0 t0 C O Q R L I c i a T mi mo m, k < 100000
  | 0, _, k, hk => by cases hk
  | m + 1, h, k, hk => by
    have e : xKs F P s0 t0 C O Q R L I c i a T mi mo (m + 1) = xKs F P s0 t0 C O Q R L I c i a T mi mo m ++ xK F P s0 t0 C O Q R L I c i (a + m) T (mLs F P s0 t0 C O Q R L I i a mi m) (mKs F P s0 t0 C O Q R L I c i a mo m) := rfl
    rw [e] at hk
    rcases List.mem_append.mp hk with q | q
    · exact xKs_lt m (fun l l1 l2 => h l l1 (by omega)) k q
    · obtain ⟨h1, h2⟩ := h (a + m) (by omega) (by omega)
      exact xK_lt h1 h2 k q
theorem pt_tok (h : TKH F n N P s0 t0) (hs : KHS F P s0 t0 N C O Q R L E I) (hcl : c < C.length) (h1 : (hAt C Q R I c).2.2.1 ≤ r) (h2 : r < (hAt C Q R I (c + 1)).2.2.1) : (R.getD r (0, 0)).1 < 2001 ∧ (R.getD r (0, 0)).2 ≤ E.getD r 0 ∧ ∀ l, (R.getD r (0, 0)).2 ≤ l → l < E.getD r 0 → lL L l + 1 < 2002 ∧ lR L l + 1 < 2002 := by
  have hN := N2001 h.1
  obtain ⟨-, -, -, -, pp, -, -, -⟩ := KHS_c hs hcl
  obtain ⟨a1, a2, le, g⟩ := pp r h1 h2
  refine ⟨by omega, a2, fun l l1 l2 => ?_⟩
  obtain ⟨⟨lo1, lo2, lo3, lo4, lo5⟩, -⟩ := g l l1 l2
  have e1 : (L.getD l (0, 0)).1 = lL L l := rfl
  have e2 : (L.getD l (0, 0)).2 = lR L l := rfl
  rw [e1] at lo1
  rw [e2] at lo4
  omega
theorem xPs_lt (h : TKH F n N P s0 t0) (hs : KHS F P s0 t0 N C O Q R L E I) (hcl : c < C.length) {mi mo : Nat → Int} : ∀ m, (hAt C Q R I c).2.2.1 + m ≤ (hAt C Q R I (c + 1)).2.2.1 → ∀ k, k ∈ fPs F P t0 C R (hAt C Q R I c).2.2.1 m ∨ k ∈ xPs F P s0 t0 C O Q R L E I c (hAt C Q R I c).2.2.1 T mi mo m → k < 100000
  | 0, _, k, hk => by rcases hk with hk | hk <;> cases hk
  | m + 1, hm, k, hk => by
    have ih : ∀ k, k ∈ fPs F P t0 C R (hAt C Q R I c).2.2.1 m ∨ k ∈ xPs F P s0 t0 C O Q R L E I c (hAt C Q R I c).2.2.1 T mi mo m → k < 100000 := xPs_lt h hs hcl m (by omega)
    obtain ⟨p1, p2, p3⟩ := pt_tok h hs hcl (r := (hAt C Q R I c).2.2.1 + m) (by omega) (by omega)
    rcases hk with hk | hk
    · have e : fPs F P t0 C R (hAt C Q R I c).2.2.1 (m + 1) = fPs F P t0 C R (hAt C Q R I c).2.2.1 m ++ (if cix F P t0 C (R.getD ((hAt C Q R I c).2.2.1 + m) (0, 0)).1 = -1 then [16 * (R.getD ((hAt C Q R I c).2.2.1 + m) (0, 0)).1 + 4] else []) := rfl
      rw [e] at hk
      rcases List.mem_append.mp hk with q | q
      · exact ih k (Or.inl q)
      · exact sg_lt q (by omega)
    · have e : xPs F P s0 t0 C O Q R L E I c (hAt C Q R I c).2.2.1 T mi mo (m + 1) = xPs F P s0 t0 C O Q R L E I c (hAt C Q R I c).2.2.1 T mi mo m ++ (if cix F P t0 C (R.getD ((hAt C Q R I c).2.2.1 + m) (0, 0)).1 = -1 then [] else xKs F P s0 t0 C O Q R L I c (cix F P t0 C (R.getD ((hAt C Q R I c).2.2.1 + m) (0, 0)).1).toNat (R.getD ((hAt C Q R I c).2.2.1 + m) (0, 0)).2 T mi (mPs F P s0 t0 C O Q R L E I c (hAt C Q R I c).2.2.1 mo m) (E.getD ((hAt C Q R I c).2.2.1 + m) 0 - (R.getD ((hAt C Q R I c).2.2.1 + m) (0, 0)).2)) := rfl
      rw [e] at hk
      rcases List.mem_append.mp hk with q | q
      · exact ih k (Or.inr q)
      · split at q
        · cases q
        · exact xKs_lt _ (fun l l1 l2 => p3 l l1 (by omega)) k q
theorem nPs_lt (h : TKH F n N P s0 t0) (hs : KHS F P s0 t0 N C O Q R L E I) {a : Nat} : ∀ m, a + m ≤ Q.length → ∀ k ∈ nPs F P s0 t0 C Q R I c a m, k < 100000
  | 0, _, k, hk => by cases hk
  | m + 1, hm, k, hk => by
    have hN := N2001 h.1
    have e : nPs F P s0 t0 C Q R I c a (m + 1) = nPs F P s0 t0 C Q R I c a m ++ nPn F P s0 t0 C Q R I c (a + m) := rfl
    rw [e] at hk
    rcases List.mem_append.mp hk with q | q
    · exact nPs_lt h hs m (by omega) k q
    · have pq := (KHS_pq hs (k := a + m) (by omega)).1.1
      unfold nPn at q
      rcases List.mem_append.mp q with q | q
      · split at q
        · cases q
        · exact s1_lt q (by omega)
      · split at q
        · cases q
        · exact s1_lt q (by omega)
theorem nCs_lt (h : TKH F n N P s0 t0) (hs : KHS F P s0 t0 N C O Q R L E I) : ∀ c, c ≤ C.length → ∀ k ∈ nCs F P s0 t0 C Q R I c, k < 100000
  | 0, _, k, hk => by cases hk
  | c + 1, hc, k, hk => by
    have hN := N2001 h.1
    have e : nCs F P s0 t0 C Q R I (c + 1) = nCs F P s0 t0 C Q R I c ++ (nCh F P t0 C c ++ nPs F P s0 t0 C Q R I c (hAt C Q R I c).2.1 ((hAt C Q R I (c + 1)).2.1 - (hAt C Q R I c).2.1)) := rfl
    rw [e] at hk
    rcases List.mem_append.mp hk with q | q
    · exact nCs_lt h hs c (by omega) k q
    · rcases List.mem_append.mp q with q | q
      · have cc := (KHS_c hs (show c < C.length by omega)).1.1
        rw [hAt_lt (by omega)] at cc
        unfold nCh at q
        split at q
        · cases q
        · exact s1_lt q (by omega)
      · have mm := (KHS_m hs 1 c (by omega)).1
        have qq := (KHS_q hs (c := c + 1) (by omega)).1
        exact nPs_lt h hs _ (by omega) k q
theorem chk_lp (h : TKH F n N P s0 t0) (hs : KHS F P s0 t0 N C O Q R L E I) : ∀ (m c : Nat) (s t : iS) (A B : List Nat), c + m = C.length → KC F P s0 t0 C O Q R L E s → KW s0 C Q R I Q.length s → (∀ i, c ≤ i → i < C.length → s 93 (2 + i) = (ofI s0 C Q R I (2 + i) (paI C Q R I (2 + i + 1)) : Int)) → (0 ≤ s 99 2 ∧ s 99 2 ≤ 100) → BLc A s → DOM A B → RBc P N B t → KR s0 t0 C Q R L I t → CKD F P s0 t0 C O Q R L E I c s t → (A = [] → LKA F P s0 t0 C O Q R L E I c s) → (∀ k ∈ A, k < 100000) → ∃ s' t' A' B', cck_check_75 ((2 + c : Nat) : Int) s = cck_check_110 s' ∧ m_chips_58 (c : Int) t = m_chips_82 t' ∧ KC F P s0 t0 C O Q R L E s' ∧ KW s0 C Q R I Q.length s' ∧ (0 ≤ s' 99 2 ∧ s' 99 2 ≤ 100) ∧ BLc A' s' ∧ DOM A' B' ∧ RBc P N B' t' ∧ KR s0 t0 C Q R L I t' ∧ CKD F P s0 t0 C O Q R L E I C.length s' t' ∧ (A' = [] → LKA F P s0 t0 C O Q R L E I C.length s') ∧ (∀ c' k, ¬ (c' = 2 ∧ (k = 13 ∨ k = 14)) → ¬ (93 ≤ c' ∧ c' ≤ 106) → s' c' k = s c' k) ∧ (∀ c' k, ¬ (c' = 121 ∧ (k = 69 ∨ k = 70)) → ¬ (214 ≤ c' ∧ c' ≤ 218) → t' c' k = t c' k) ∧ (∀ i, i < 2 → s' 93 i = s 93 i) ∧ (∀ k ∈ A', k < 100000)
  | 0, c, s, t, A, B, hm, hc, hw, h93, h99, hA, hD, hB, hr, hck, hl, hlt => by
    have bd' := KHS_bd hs
    have e : c = C.length := by omega
    have e72 : s 72 2 = ((2 + C.length : Nat) : Int) := by rw [hc.2.1.1.1.1]; show ((tabC F P t0 C).length : Int) = _; rw [tabC_len]
    have e122 : t 121 122 = (C.length : Int) := hr.2.1.1.1
    refine ⟨s, t, A, B, ?_, ?_, hc, hw, h99, hA, hD, hB, hr, by rw [← e]; exact hck, by rw [← e]; exact hl, fun _ _ _ _ => rfl, fun _ _ _ _ => rfl, fun _ _ => rfl, hlt⟩
    · unfold cck_check_75
      rw [lp_end (f := fun l : Int × iS => cck_check_75b (l.1) (l.2)) (e := s) (by
        show cck_check_75b ((2 + c : Nat) : Int) s = _
        unfold cck_check_75b
        rw [gr (by omega), e72, gr (by omega), if_pos (by omega)])]
      rfl
    · unfold m_chips_58
      rw [lp_end (f := fun l : Int × iS => m_chips_58b (l.1) (l.2)) (e := t) (by
        show m_chips_58b (c : Int) t = _
        unfold m_chips_58b
        rw [gr (by omega), e122, gr (by omega), if_pos (by omega)])]
      rfl
  | m + 1, c, s, t, A, B, hm, hc, hw, h93, h99, hA, hD, hB, hr, hck, hl, hlt => by
    have hcl : c < C.length := by omega
    have mm := (KHS_m hs 1 c (by omega)).2.1
    have rq := (KHS_q hs (c := c + 1) (by omega)).2.1
    obtain ⟨s1, mi, mo, a1, a2, a3, a4, a5, a6, a7, a8, a9⟩ := c_chp1 (O := O) (T := tbI F P s0 t0 C O Q R L E I c) h.1 hs hcl hc hw hA rfl (h93 c (Nat.le_refl _) hcl) h99 rfl rfl rfl
    obtain ⟨t1, b1, b2, b3, b4, b5⟩ := r_chp1 (O := O) (b := ofI s0 C Q R I (2 + c) (paI C Q R I (2 + c + 1))) (T := tbI F P s0 t0 C O Q R L E I c) h hs hcl hr hB rfl rfl rfl a2
    have hp : PLE F P s0 t0 C O Q R L E I c (tbI F P s0 t0 C O Q R L E I c) := gtR_ple hs hcl
    have dm := DOM_app hD (DOM_Ps (mi := mi) (mo := mo) hs hcl a3 hp ((hAt C Q R I (c + 1)).2.2.1 - (hAt C Q R I c).2.2.1) (by omega))
    have n9 : ∀ c' k, ¬ (c' = 2 ∧ (k = 13 ∨ k = 14)) → ¬ (93 ≤ c' ∧ c' ≤ 106) → s1 c' k = s c' k := fun c' k q1 q2 => a9 c' k q1 (by omega) (fun u => by omega) (by omega) (by omega)
    have n5 : ∀ c' k, ¬ (c' = 121 ∧ (k = 69 ∨ k = 70)) → ¬ (214 ≤ c' ∧ c' ≤ 218) → t1 c' k = t c' k := fun c' k q1 q2 => b5 c' k q1 (by omega) (by omega) (by omega) (by omega)
    obtain ⟨s', t', A', B', e1, e2, e3, e4, e5, e6, e7, e8, e9, e10, e11, e12, e13, e14, e15⟩ := chk_lp h hs m (c + 1) s1 t1 _ _ (by omega) (KC_of hc (fun c' k y => n9 c' k (by omega) (by omega))) (KW_of hw (fun c' k y _ => n9 c' k (by omega) (by omega))) (fun i i1 i2 => by rw [a9 93 (2 + i) (by omega) (by omega) (fun u => by omega) (by omega) (by omega)]; exact h93 i (by omega) i2) a8 a4 dm b2 (KR_of hr (fun c' k y => n5 c' k (by omega) (by omega))) (fun x hx => by
      by_cases y : x = c
      · subst y
        exact ⟨fun r r1 r2 => ⟨a6 r r1 r2, b3 r r1 r2⟩, a7, b4⟩
      · obtain ⟨z1, z2, z3⟩ := hck x (by omega)
        have pl := part_lt hs (x := x) (c := c) (by omega) (by omega)
        refine ⟨fun r r1 r2 => ?_, ?_, fun k k1 k2 => ?_⟩
        · rw [a9 94 r (by omega) (by omega) (fun u => by omega) (by omega) (by omega), b5 216 r (by omega) (by omega) (by omega) (by omega) (by omega)]
          exact z1 r r1 r2
        · rw [a9 93 (2 + x) (by omega) (by omega) (fun u => by omega) (by omega) (by omega)]
          exact z2
        · have im := (KHS_m hs (c - (x + 1)) (x + 1) (by omega)).2.2
          rw [show x + 1 + (c - (x + 1)) = c by omega] at im
          rw [b5 214 k (by omega) (by omega) (by omega) (by omega) (by omega)]
          exact z3 k k1 k2) (fun y x hx r r1 r2 => by
      rw [List.append_eq_nil_iff, List.append_eq_nil_iff] at y
      obtain ⟨y1, y2, y3⟩ := y
      by_cases w : x = c
      · subst w
        have ne := fPs_nil _ y2 r r1 (by omega)
        exact ⟨ne, fun l l1 l2 => ⟨a5 y3 r l r1 r2 ne l1 l2, xPs_nil _ y3 r r1 (by omega) ne l l1 l2⟩⟩
      · obtain ⟨z1, z2⟩ := hl y1 x (by omega) r r1 r2
        have pl := part_lt hs (x := x) (c := c) (by omega) (by omega)
        refine ⟨z1, fun l l1 l2 => ⟨LKC_of (z2 l l1 l2).1 (fun c' q => a9 c' l (by omega) (by omega) (fun u => ?_) (by omega) (by omega)), (z2 l l1 l2).2⟩⟩
        obtain ⟨-, -, r', u1, u2, u3, u4⟩ := u
        have := LK_u hs (r := r) (r' := r') (l := l) (by omega) (by omega) ⟨l1, l2⟩ ⟨u3, u4⟩
        omega) (fun k hk => by
      rcases List.mem_append.mp hk with q | q
      · exact hlt k q
      · exact xPs_lt h hs hcl _ (by omega) k (List.mem_append.mp q))
    refine ⟨s', t', A', B', ?_, ?_, e3, e4, e5, e6, e7, e8, e9, e10, e11, fun c' k q1 q2 => by rw [e12 c' k q1 q2, n9 c' k q1 q2], fun c' k q1 q2 => by rw [e13 c' k q1 q2, n5 c' k q1 q2], fun i hi => by rw [e14 i hi]; exact a9 93 i (by omega) (by omega) (fun u => by omega) (by omega) (by omega), e15⟩
    · rw [← e1]
      unfold cck_check_75
      rw [lp_next (f := fun l : Int × iS => cck_check_75b (l.1) (l.2)) (l' := (((2 + (c + 1) : Nat) : Int), s1)) (by
        show cck_check_75b ((2 + c : Nat) : Int) s = _
        exact a1)]
    · rw [← e2]
      unfold m_chips_58
      rw [lp_next (f := fun l : Int × iS => m_chips_58b (l.1) (l.2)) (l' := (((c + 1 : Nat) : Int), t1)) (by
        show m_chips_58b (c : Int) t = _
        exact b1)]
end CJg
