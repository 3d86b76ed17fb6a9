/-! chips: the reference checks the parts of a chip -/
section CJa
variable {F : Nat → Int} {n N : Nat} {P : Nat → Nat} {s0 t0 s t s' t' : iS} {C : List chR} {O E I : List Nat} {Q : List (Nat × Int)} {R L : List (Nat × Nat)} {c b i j k q r l : Nat} {Z : List Nat} {T : List tEn} {out w : Int}
/-- the reference: the parts of a chip -/
theorem r_prts (h : TKH F n N P s0 t0) (hs : KHS F P s0 t0 N C O Q R L E I) (hcl : c < C.length) (hT : TOK F P s0 t0 N C Q R L I c b T) (hp : PLE F P s0 t0 C O Q R L E I c T) {mi mo : Nat → Int} (hmi : ∀ x, x < 12 → mi x = 0) {a z : Nat} (ha : a = (hAt C Q R I c).2.2.1) (hz : z = (hAt C Q R I (c + 1)).2.2.1) : ∀ (m r : Nat) (t : iS), r + m = z → a ≤ r → KR s0 t0 C Q R L I t → (∀ x, a ≤ x → x < z → t 216 x = cix F P t0 C (R.getD x (0, 0)).1) → IRr F P t0 C Q R I c T t → (r < z → ILr F P t0 C Q R I c T (R.getD r (0, 0)).2 t) → RBc P N (Z ++ yPs F P s0 t0 C O Q R L E I c a T mi mo (r - a)) t → MOr C Q R I c (mPs F P s0 t0 C O Q R L E I c a mo (r - a)) t → ∃ t', m_checkLinks_29 (c : Int) (r : Int) t = some (0, t') ∧ RBc P N (Z ++ yPs F P s0 t0 C O Q R L E I c a T mi mo (z - a)) t' ∧ (∀ c' k, ¬ (c' = 121 ∧ (k = 69 ∨ k = 70)) → ¬ (c' = 215 ∧ (hAt C Q R I c).2.2.2 ≤ k ∧ k < (hAt C Q R I (c + 1)).2.2.2) → c' ≠ 217 → c' ≠ 218 → t' c' k = t c' k)
  | 0, r, t, hm, hr', hr, h216, hI, hIL, hb, hmo => by
    have bd' := KHS_bd hs
    have e : r = z := by omega
    have rq := (KHS_q hs (c := c + 1) (by omega)).2.1
    have e201 := (KR_c hr (c := c + 1) (by omega)).2.1
    rw [e] at hb
    refine ⟨t, ?_, hb, fun _ _ _ _ _ _ => rfl⟩
    unfold m_checkLinks_29
    rw [lp_end (f := fun l : Int × iS => m_checkLinks_29b (c : Int) (l.1) (l.2)) (e := t) (by
      show m_checkLinks_29b (c : Int) (r : Int) t = _
      unfold m_checkLinks_29b
      rw [gd_pos (by omega), gr (by omega), show ((c : Int) + 1).toNat = c + 1 by omega, e201, gr (by omega), if_pos (by omega)])]
    rfl
  | m + 1, r, t, hm, hr', hr, h216, hI, hIL, hb, hmo => by
    have bd' := KHS_bd hs
    have n4 := h.2.2.1
    have hN := N2001 h.1
    have rq := (KHS_q hs (c := c + 1) (by omega)).2.1
    have e201 := (KR_c hr (c := c + 1) (by omega)).2.1
    have rr : (hAt C Q R I c).2.2.1 ≤ r ∧ r < (hAt C Q R I (c + 1)).2.2.1 := ⟨by omega, by omega⟩
    obtain ⟨le1, le2⟩ := LK_e hs (r := r) (by omega)
    obtain ⟨-, -, -, -, p, -, -, -⟩ := KHS_c hs hcl
    obtain ⟨ptk, -, -, -⟩ := p r rr.1 rr.2
    have e202 : t 202 r = (((R.getD r (0, 0)).1 : Nat) : Int) := (hr.2.1.2.2.1.2 r (by omega)).1
    have il := hIL (by omega)
    have c216 := h216 r hr' (by omega)
    have ar : a + (r - a) = r := by omega
    have en : yPs F P s0 t0 C O Q R L E I c a T mi mo (r + 1 - a) = yPs F P s0 t0 C O Q R L E I c a T mi mo (r - a) ++ (if cix F P t0 C (R.getD r (0, 0)).1 = -1 then [16 * (R.getD r (0, 0)).1 + 4] else yKs F P s0 t0 C O Q R L I c (cix F P t0 C (R.getD r (0, 0)).1).toNat (R.getD r (0, 0)).2 T mi (mPs F P s0 t0 C O Q R L E I c a mo (r - a)) (E.getD r 0 - (R.getD r (0, 0)).2)) := by
      rw [show r + 1 - a = (r - a) + 1 by omega]
      show _ ++ (if cix F P t0 C (R.getD (a + (r - a)) (0, 0)).1 = -1 then _ else _) = _
      rw [ar]
    have em : mPs F P s0 t0 C O Q R L E I c a mo (r + 1 - a) = if cix F P t0 C (R.getD r (0, 0)).1 = -1 then mPs F P s0 t0 C O Q R L E I c a mo (r - a) else mKs F P s0 t0 C O Q R L I c (cix F P t0 C (R.getD r (0, 0)).1).toNat (R.getD r (0, 0)).2 (mPs F P s0 t0 C O Q R L E I c a mo (r - a)) (E.getD r 0 - (R.getD r (0, 0)).2) := by
      rw [show r + 1 - a = (r - a) + 1 by omega]
      show (if cix F P t0 C (R.getD (a + (r - a)) (0, 0)).1 = -1 then _ else _) = _
      rw [ar]
    obtain ⟨t1, a1, a2, a3, a4, a5⟩ : ∃ t1, m_checkLinks_29b (c : Int) (r : Int) t = some (.inl (((r + 1 : Nat) : Int), t1)) ∧ RBc P N (Z ++ yPs F P s0 t0 C O Q R L E I c a T mi mo (r + 1 - a)) t1 ∧ ILr F P t0 C Q R I c T (E.getD r 0) t1 ∧ MOr C Q R I c (mPs F P s0 t0 C O Q R L E I c a mo (r + 1 - a)) t1 ∧ (∀ c' k, ¬ (c' = 121 ∧ (k = 69 ∨ k = 70)) → ¬ (c' = 215 ∧ (hAt C Q R I c).2.2.2 ≤ k ∧ k < (hAt C Q R I (c + 1)).2.2.2) → c' ≠ 217 → c' ≠ 218 → t1 c' k = t c' k) := by
      rw [en, em]
      unfold m_checkLinks_29b
      rw [gd_pos (by omega), gr (by omega), show ((c : Int) + 1).toNat = c + 1 by omega, e201, gr (by omega), if_neg (by omega), gd_pos (by omega), Int.toNat_natCast, c216]
      rcases cix_rg (j := (R.getD r (0, 0)).1) hs with y | ⟨i, y1, y2⟩
      · obtain ⟨t1, d1, d2, d3⟩ := note_c (f := 4) (j := (R.getD r (0, 0)).1) h.1 n4 hr.1 hb (by omega) ptk.1
        have d1' : m_note 4 (((R.getD r (0, 0)).1 : Nat) : Int) t = some (0, t1) := d1
        rw [if_pos y, if_pos y, y, gr (by omega), if_pos rfl, e202, d1', bq, ← List.append_assoc]
        have sk := IL_skip hs hcl rr y hp il
        exact ⟨t1, rfl, d2, fun x x1 x2 => by rw [d3 215 x (by omega)]; exact sk x x1 x2, fun q q1 q2 => by rw [d3 218 q (by omega)]; exact hmo q q1 q2, fun c' k q1 q2 q3 q4 => d3 c' k q1⟩
      · have ne : ¬ cix F P t0 C (R.getD r (0, 0)).1 = -1 := by omega
        rw [if_neg ne, if_neg ne, y1, Int.toNat_natCast, gr (by omega), if_neg (by omega)]
        obtain ⟨ta, g1, g2, g3⟩ := r_c217 (v1 := (c : Int)) (v2 := (r : Int)) (v3 := (i : Int)) 200 0 t (by omega)
        have hra : KR s0 t0 C Q R L I ta := KR_of hr (fun c' k q => g3 c' k (by omega))
        have pm := paI_m hs y2
        have bb : RBc P N (Z ++ yPs F P s0 t0 C O Q R L E I c a T mi mo (r - a)) ta := by
          unfold RBc at hb ⊢
          rw [g3 121 69 (by omega), g3 121 70 (by omega)]
          exact hb
        obtain ⟨t1, d1, d2, d3, d4, d5⟩ := r_lks (i := i) (a := (R.getD r (0, 0)).2) (mi := mi) (mo := mPs F P s0 t0 C O Q R L E I c a mo (r - a)) (Z := Z ++ yPs F P s0 t0 C O Q R L E I c a T mi mo (r - a)) h hs hcl rr y2 y1 hT hp rfl (E.getD r 0 - (R.getD r (0, 0)).2) (R.getD r (0, 0)).2 ta (by omega) (Nat.le_refl _) hra (by rw [Nat.sub_self, show yKs F P s0 t0 C O Q R L I c i (R.getD r (0, 0)).2 T mi (mPs F P s0 t0 C O Q R L E I c a mo (r - a)) 0 = [] from rfl, List.append_nil]; exact bb) (fun x x1 x2 => by rw [g3 214 x (by omega)]; exact hI x x1 x2) (fun x x1 x2 => by rw [g3 215 x (by omega)]; exact il x x1 x2) (fun k k1 k2 => by rw [Nat.sub_self, g2 _ (by omega) (by omega)]; exact (hmi _ (by omega)).symm) (fun q q1 q2 => by rw [Nat.sub_self, g3 218 q (by omega)]; exact hmo q q1 q2)
        rw [List.append_assoc] at d2
        refine ⟨t1, ?_, d2, d3, d4, fun c' k q1 q2 q3 q4 => by rw [d5 c' k q1 q2 q3 q4, g3 c' k (by omega)]⟩
        have e203 := (KR_e hs hra (r := r) (by omega)).1
        rw [show (0 : Int) = ((0 : Nat) : Int) from rfl, g1]
        unfold m_checkLinks_92
        rw [gd_pos (by omega), Int.toNat_natCast, e203]
        exact d1
    obtain ⟨t', b1, b2, b3⟩ := r_prts h hs hcl hT hp hmi ha hz m (r + 1) t1 (by omega) (by omega) (KR_of hr (fun c' k y => a5 c' k (by omega) (by omega) (by omega) (by omega))) (fun x x1 x2 => by rw [a5 216 x (by omega) (by omega) (by omega) (by omega)]; exact h216 x x1 x2) (fun x x1 x2 => by rw [a5 214 x (by omega) (by omega) (by omega) (by omega)]; exact hI x x1 x2) (fun q => by
      obtain ⟨e1, e2, e3, e4⟩ := hs.2.2.1
      rw [e2 r (by omega)]
      exact a3) a2 a4
    refine ⟨t', ?_, b2, fun c' k z1 z2 z3 z4 => by rw [b3 c' k z1 z2 z3 z4, a5 c' k z1 z2 z3 z4]⟩
    rw [← b1]
    unfold m_checkLinks_29
    rw [lp_next (f := fun l : Int × iS => m_checkLinks_29b (c : Int) (l.1) (l.2)) (l' := (((r + 1 : Nat) : Int), t1)) (by
      show m_checkLinks_29b (c : Int) (r : Int) t = _
      exact a1)]
end CJa
