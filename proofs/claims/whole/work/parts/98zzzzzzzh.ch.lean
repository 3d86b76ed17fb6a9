/-! chips: the reference checks one chip -/
section CJe
variable {F : Nat → Int} {n N : Nat} {P : Nat → Nat} {s0 t0 s t s' t' : iS} {C : List chR} {O E I : List Nat} {Q : List (Nat × Int)} {R L : List (Nat × Nat)} {c b i j k q r l : Nat} {Z : List Nat} {T : List tEn} {out w : Int}
theorem gtL_TOK (h : TKR 1 F n N P s0 t0) (hs : KHS F P s0 t0 N C O Q R L E I) (hcl : c < C.length) (hr : (hAt C Q R I c).2.2.1 ≤ r ∧ r < (hAt C Q R I (c + 1)).2.2.1) (hT : TOK F P s0 t0 N C Q R L I c b T) : ∀ m, (R.getD r (0, 0)).2 + m ≤ E.getD r 0 → TOK F P s0 t0 N C Q R L I c b (gtL F P s0 t0 C O Q R L I c b i (R.getD r (0, 0)).2 T m)
  | 0, _ => hT
  | m + 1, hm => gtT_ok (l := (R.getD r (0, 0)).2 + m) hs hcl hr ⟨by omega, by omega⟩ h (gtL_TOK h hs hcl hr hT m (by omega))
theorem gtR_TOK (h : TKR 1 F n N P s0 t0) (hs : KHS F P s0 t0 N C O Q R L E I) (hcl : c < C.length) : ∀ m, (hAt C Q R I c).2.2.1 + m ≤ (hAt C Q R I (c + 1)).2.2.1 → TOK F P s0 t0 N C Q R L I c b (gtR F P s0 t0 C O Q R L E I c b (hAt C Q R I c).2.2.1 [] m)
  | 0, _ => TOK_nil
  | m + 1, hm => by
    have rq := (KHS_q hs (c := c + 1) (by omega)).2.1
    have ih := gtR_TOK h hs hcl m (by omega)
    have le := (LK_e hs (r := (hAt C Q R I c).2.2.1 + m) (by omega)).1
    show TOK F P s0 t0 N C Q R L I c b (if _ then _ else _)
    split
    · exact ih
    · exact gtL_TOK h hs hcl ⟨by omega, by omega⟩ ih _ (by omega)
theorem r_chp1 (h : TKH F n N P s0 t0) (hs : KHS F P s0 t0 N C O Q R L E I) (hcl : c < C.length) (hr : KR s0 t0 C Q R L I t) (hb : RBc P N Z t) {a z : Nat} (ha : a = (hAt C Q R I c).2.2.1) (hz : z = (hAt C Q R I (c + 1)).2.2.1) (eT : T = gtR F P s0 t0 C O Q R L E I c b a [] (z - a)) {mi mo : Nat → Int} (hm0 : ∀ x, x < 12 → mi x = 0 ∧ mo x = 0) : ∃ t', m_chips_58b (c : Int) t = some (.inl (((c + 1 : Nat) : Int), t')) ∧ RBc P N (Z ++ yPs F P s0 t0 C O Q R L E I c a T mi mo (z - a)) t' ∧ (∀ x, a ≤ x → x < z → t' 216 x = cix F P t0 C (R.getD x (0, 0)).1) ∧ IRr F P t0 C Q R I c T t' ∧ (∀ c' k, ¬ (c' = 121 ∧ (k = 69 ∨ k = 70)) → ¬ (214 ≤ c' ∧ c' ≤ 215 ∧ (hAt C Q R I c).2.2.2 ≤ k ∧ k < (hAt C Q R I (c + 1)).2.2.2) → ¬ (c' = 216 ∧ a ≤ k ∧ k < z) → c' ≠ 217 → c' ≠ 218 → t' c' k = t c' k) := by
  have bd' := KHS_bd hs
  have mm := (KHS_m hs 1 c (by omega)).2
  have qq := KHS_q hs (c := c + 1) (by omega)
  have e122 : t 121 122 = (C.length : Int) := hr.2.1.1.1
  have e212 := (KR_c hr (c := c) (by omega)).2.2
  have hT : TOK F P s0 t0 N C Q R L I c b T := by rw [eT, ha, hz]; exact gtR_TOK h.1 hs hcl _ (by omega)
  have hp : PLE F P s0 t0 C O Q R L E I c T := by rw [eT, ha, hz]; exact gtR_ple hs hcl
  -- inner names
  obtain ⟨t1, f1, f2, f3⟩ := r_fi7 hs hcl ((hAt C Q R I (c + 1)).2.2.2 - (hAt C Q R I c).2.2.2) (hAt C Q R I c).2.2.2 t (by omega) hr
  have hr1 : KR s0 t0 C Q R L I t1 := KR_of hr (fun c' k y => f3 c' k (by omega))
  have e201 := (KR_c hr1 (c := c) (by omega)).2.1
  obtain ⟨t2, g1, g2, g3, g4, g5, g6⟩ := r_gatR (O := O) (b := b) (T0 := []) h hs hcl (fun m hm => gtR_TOK h.1 hs hcl m (by omega)) (z - a) a t1 (by omega) (by omega) hr1 (fun x x1 x2 => by omega) (by rw [ha, Nat.sub_self]; exact fun x x1 x2 => (f2 x x1 x2).1)
  rw [← ha, ← hz, ← eT] at g3
  rw [← ha, ← hz] at g2
  have hr2 : KR s0 t0 C Q R L I t2 := KR_of hr1 (fun c' k y => g4 c' k (by omega) (by omega))
  -- links
  obtain ⟨t3, d1, d2, d3⟩ := r_c218 (v1 := (c : Int)) 200 0 t2 (by omega)
  have hr3 : KR s0 t0 C Q R L I t3 := KR_of hr2 (fun c' k y => d3 c' k (by omega))
  have e2013 := (KR_c hr3 (c := c) (by omega)).2.1
  have il0 : ∀ x, (hAt C Q R I c).2.2.2 ≤ x → x < (hAt C Q R I (c + 1)).2.2.2 → t3 215 x = 0 := fun x x1 x2 => by rw [d3 215 x (by omega), g4 215 x (by omega) (by omega)]; exact (f2 x x1 x2).2
  have il := IL_start hs hcl hp il0
  rw [← ha] at il
  have b3 : RBc P N Z t3 := by
    unfold RBc at hb ⊢
    rw [d3 121 69 (by omega), d3 121 70 (by omega), g4 121 69 (by omega) (by omega), g4 121 70 (by omega) (by omega), f3 121 69 (by omega), f3 121 70 (by omega)]
    exact hb
  have pm := paI_m hs (show 2 + c < 2 + C.length by omega)
  obtain ⟨p1, p2⟩ := paI_c (Q := Q) (R := R) (I := I) hcl
  obtain ⟨t4, u1, u2, u3⟩ := r_prts (mi := mi) (mo := mo) (Z := Z) h hs hcl hT hp (fun x y => (hm0 x y).1) ha hz (z - a) a t3 (by omega) (Nat.le_refl _) hr3 (fun x x1 x2 => by rw [d3 216 x (by omega)]; exact g2 x x1 x2) (fun x x1 x2 => by rw [d3 214 x (by omega)]; exact g3 x x1 x2) (fun _ => il) (by rw [Nat.sub_self, show yPs F P s0 t0 C O Q R L E I c a T mi mo 0 = [] from rfl, List.append_nil]; exact b3) (fun q q1 q2 => by rw [Nat.sub_self, d2 q (by omega) (by omega)]; exact ((hm0 _ (by omega)).2).symm)
  refine ⟨t4, ?_, u2, fun x x1 x2 => ?_, fun x x1 x2 => ?_, fun c' k q1 q2 q3 q4 q5 => ?_⟩
  · unfold m_chips_58b m_findInner m_checkLinks
    have F1 : m_findInner_39 (c : Int) t1 = some (0, t2) := by
      unfold m_findInner_39
      rw [gd_pos (by omega), Int.toNat_natCast, e201, ← ha]
      exact g1
    have F2 : m_checkLinks_22 (c : Int) t3 = some (0, t4) := by
      unfold m_checkLinks_22
      rw [gd_pos (by omega), Int.toNat_natCast, e2013, ← ha]
      exact u1
    have d1' : m_checkLinks_2 (c : Int) 0 t2 = m_checkLinks_22 (c : Int) t3 := d1
    rw [gr (by omega), e122, gr (by omega), if_neg (by omega), gd_pos (by omega), Int.toNat_natCast, e212, f1, F1, bq, d1', F2, bq, show (c : Int) + 1 = ((c + 1 : Nat) : Int) by omega]
  · rw [u3 216 x (by omega) (by omega) (by omega) (by omega), d3 216 x (by omega)]
    exact g2 x x1 x2
  · rw [u3 214 x (by omega) (by omega) (by omega) (by omega), d3 214 x (by omega)]
    exact g3 x x1 x2
  · rw [u3 c' k q1 (by omega) q4 q5, d3 c' k (by omega)]
    by_cases y1 : c' = 214
    · subst y1
      rw [g5 k (by omega), f3 214 k (by omega)]
    · by_cases y2 : c' = 216
      · subst y2
        rw [g6 k (by omega), f3 216 k (by omega)]
      · rw [g4 c' k y1 y2, f3 c' k (by omega)]
end CJe
