/-! expressions: a call -/
section EXe
variable {F : Nat → Int} {n N : Nat} {P : Nat → Nat} {s0 t0 : iS} {R : List itm → iS → Prop} {b q : Int} {fv : Nat → Int}
theorem LV_C {s t t' : iS} {p o w I C C' : Nat} (h : LV s0 t0 N q s t p o w I C) (hr : SR t0 t') (hs : ∀ k, k = 10 ∨ k = 11 ∨ k = 48 ∨ k = 49 ∨ k = 33 ∨ k = 17 → t' 121 k = t 121 k) (h39 : t' 121 39 = (C' : Int)) (hC : C' + 5 ≤ p) : LV s0 t0 N q s t' p o w I C' := by
  obtain ⟨h1, h2, h3, h4, h5, h6, h7, h8, h9, h10, h11, h12, h13, h14, h15, h16, h17⟩ := h
  exact ⟨h1, hr, h3, by rw [hs 10 (by omega)]; exact h4, h5, by rw [hs 11 (by omega)]; exact h6, h7, by rw [hs 48 (by omega)]; exact h8, h9, h10, by rw [hs 49 (by omega)]; exact h11, h12, by rw [hs 33 (by omega)]; exact h13, h39, h15, hC, by rw [hs 17 (by omega)]; exact h17⟩
/-- the class's close of a call -/
noncomputable def c185 (m p : Nat) (v2 v3 v4 r : Int) (s : iS) : Option (Int × iS) := gd (rg v2) (if v2 = 0 then trl_readCall_185 (trlE m) (p : Int) v2 v4 r (s 23 11) s else bd (trl_ownerOf v3 (p : Int) s) (fun r7 s7 => trl_readCall_185 (trlE m) (p : Int) v2 v4 r r7 s7))
theorem c134_eq {m p : Nat} {v2 v3 v4 : Int} {s : iS} : trl_readCall_134 (trlE m) (p : Int) v2 v3 v4 s = bd (trl_openSign 40 s) (fun _ s1 => bd (trlE m 5 0 0 0 s1) (fun r2 s2 => bd (tok_expect 41 s2) (fun _ s3 => lt' (up s3 22 5 ((s3 22 5) - 1)) (fun s4 => c185 m p v2 v3 v4 r2 s4)))) := by
  unfold trl_readCall_134 c185
  rfl
/-- items of a call: the object's, those of the values, the call's -/
theorem IMs_call {t : iS} {I C C2 : Nat} {fi la : Int} {a : Nat} {l : List itm} (h1 : IM t I q C C2 (9, fi, la, 0)) (h2 : IMs t (I + 1) q (C + 1) C2 l) (h3 : IM t (I + 1 + l.length) q C C2 (10, fi, la, (a : Int))) (h4 : t 145 (I + 1 + l.length) = (C : Int)) : IMs t I q C C2 ((9, fi, la, 0) :: l ++ [(10, fi, la, (a : Int))]) := by
  have hlen : ((9, fi, la, 0) :: l ++ [(10, fi, la, (a : Int))] : List itm).length = l.length + 2 := by simp
  have e : ∀ j, ((9, fi, la, 0) :: l ++ [(10, fi, la, (a : Int))] : List itm).getD (j + 1) (0, 0, 0, 0) = (l ++ [(10, fi, la, (a : Int))]).getD j (0, 0, 0, 0) := fun j => by
    rw [List.cons_append, List.getD_cons_succ]
  have e10 : ((9, fi, la, 0) :: l ++ [(10, fi, la, (a : Int))] : List itm).getD (l.length + 1) (0, 0, 0, 0) = (10, fi, la, (a : Int)) := by
    rw [e, List.getD_eq_getElem?_getD, List.getElem?_append_right (Nat.le_refl _), Nat.sub_self]
    rfl
  refine ⟨fun i hi => ?_, fun c z1 z2 => ?_⟩
  · rw [hlen] at hi
    by_cases c0 : i = 0
    · subst c0
      exact h1
    · obtain ⟨j, rfl⟩ : ∃ j, i = j + 1 := ⟨i - 1, by omega⟩
      by_cases c : j < l.length
      · rw [e, List.getD_eq_getElem?_getD, List.getElem?_append_left c, ← List.getD_eq_getElem?_getD, show I + (j + 1) = I + 1 + j by omega]
        exact IM_of (h2.1 j c) (fun _ _ _ => rfl) (fun _ _ _ _ _ _ => rfl) (by omega) (Nat.le_refl _)
      · have : j = l.length := by omega
        subst this
        rw [e10, show I + (l.length + 1) = I + 1 + l.length by omega]
        exact h3
  · rw [hlen]
    by_cases c0 : c = C
    · exact ⟨l.length + 1, by omega, by rw [e10], by rw [show I + (l.length + 1) = I + 1 + l.length by omega, c0]; exact h4⟩
    · obtain ⟨i, a1, a2, a3⟩ := h2.2 c (by omega) z2
      exact ⟨i + 1, by omega, by rw [e, List.getD_eq_getElem?_getD, List.getElem?_append_left a1, ← List.getD_eq_getElem?_getD]; exact a2, by rw [show I + (i + 1) = I + 1 + i by omega]; exact a3⟩
theorem IM_of9 {t t2 : iS} {k C C2 C3 : Nat} {fi la x : Int} (h : IM t k q C C2 (9, fi, la, x)) (h1 : ∀ c, 144 ≤ c → c ≤ 148 → t2 c k = t c k) (h2 : ∀ c j, 149 ≤ c → c ≤ 156 → c ≠ 151 → C ≤ j → j < C2 → t2 c j = t c j) (hC2 : C2 ≤ C3) : IM t2 k q C C3 (9, fi, la, x) := by
  obtain ⟨a1, a2, a3⟩ := h
  refine ⟨by rw [h1 148 (by omega) (by omega), h1 147 (by omega) (by omega)]; exact a1, by rw [h1 144 (by omega) (by omega)]; exact a2, ?_⟩
  rcases a3 with ⟨b1, c, b2, b3, b4, b5, b6, b7, b8⟩ | b0
  · exact Or.inl ⟨b1, c, b2, by omega, by rw [h1 145 (by omega) (by omega)]; exact b4, by rw [h2 149 c (by omega) (by omega) (by omega) b2 b3]; exact b5, by rw [h2 150 c (by omega) (by omega) (by omega) b2 b3]; exact b6, by rw [h2 156 c (by omega) (by omega) (by omega) b2 b3]; exact b7, fun g => by simp at g⟩
  · exact absurd rfl b0.1
theorem c_tail (h : TKR 0 F n N P s0 t0) (hR : RHE R b fv s0 N) {m : Nat} (hE : EXPR R b s0 t0 N P q m) {k o : Nat} (hk : k ≤ o) (hfu : 6 * (25 - o) + 1 ≤ m) (hm2 : 2 ≤ m) {s2 tb : iS} {p1 w I C p : Nat} {l : List itm} {fi la v2 v3 v4 : Int} (hL : LV s0 t0 N q s2 tb p1 o w I (C + 1)) (hl : R (l ++ [(9, fi, la, 0)]) s2) (t149 : tb 149 C = fi) (t150 : tb 150 C = la) (t151 : tb 151 C = 0) (t156 : tb 156 C = q) (t51 : tb 121 51 = ((k + 1 : Nat) : Int)) (hp : p < N) (hla : 0 ≤ la ∧ la < 2002) (hv2 : b01 v2) (hv3 : -1 ≤ v3 ∧ v3 < 48) (hC : ∀ lx s (a : Nat), R lx s → SC s0 s → a ≤ 1000 → ∃ s1, c185 (m + 1) p v2 v3 v4 (a : Int) s = some (0, s1) ∧ R (lx ++ [(10, fi, la, (a : Int))]) s1 ∧ MD s s1) : (∃ s' t1 t3 p' w' C' l', trl_readCall_134 (trlE (m + 1)) (p : Int) v2 v3 v4 s2 = some (0, s') ∧ m_beginCall_78 (p : Int) (C : Int) tb = some (0, t1) ∧ t1 121 11 = 0 ∧ eL t1 = eL t3 ∧ t3 121 61 = 0 ∧ t3 121 11 = 0 ∧ t3 121 51 = ((k + 1 : Nat) : Int) ∧ (p1 < p' ∧ (∃ (a p2 : Nat) (lx : List itm), l' = (9, fi, la, 0) :: lx ++ [(10, fi, la, (a : Int))] ∧ p' = p2 + 1 ∧ o < 25 ∧ GX s0 3 (o + 1) (p1 + 1) w p2 w' a lx)) ∧ LV s0 t0 N q s' t3 p' o w' (I + l'.length) C' ∧ l'.length ≤ p' - p1 ∧ C + 1 ≤ C' ∧ C' - C ≤ p' - p1 ∧ R (l ++ l') s' ∧ IMs t3 I q C C' l' ∧ PG tb t3 I C (k + 1)) ∨ (∃ t1 t', m_beginCall_78 (p : Int) (C : Int) tb = some (0, t1) ∧ (t1 121 11 = 0 ∨ 0 < t1 121 11 ∧ t1 121 11 < 100) ∧ eL t1 = some t' ∧ DEAD b s0 t0 N P tb t' (trl_readCall_134 (trlE (m + 1)) (p : Int) v2 v3 v4 s2)) := by
  have hN2 := N1001 h
  have hL' := hL
  obtain ⟨h1, h2, h3, h4, h5, h6, h7, h8, h9, h10, h11, h12, h13, h14, h15, h16, h17⟩ := hL
  have kr := kRg h h5
  have hC9 : C < 1000 := by omega
  obtain ⟨m', rfl⟩ : ∃ m', m = m' + 2 := ⟨m - 2, by omega⟩
  rw [r78_eq h6, c134_eq]
  -- the ( is wanting, or is one too many
  have bad : ∀ (f : Int) (tx : iS), (f = 1 ∨ f = 2) → m_openSign 40 tb = some (0, flt tx f P p1) → SR t0 tx → PG tb tx 0 0 0 → tx 121 10 = (p1 : Int) → tx 121 33 = (I : Int) → tx 121 51 = ((k + 1 : Nat) : Int) → (-100 ≤ tx 121 48 ∧ tx 121 48 ≤ 100) → (b = 0 → s2 2 13 = 0 → trl_openSign 40 s2 = some (0, stp s2 f p1 N)) → ∃ t1 t', bd (m_openSign 40 tb) (fun _ s3 => r78 p C s3) = some (0, t1) ∧ (t1 121 11 = 0 ∨ 0 < t1 121 11 ∧ t1 121 11 < 100) ∧ eL t1 = some t' ∧ DEAD b s0 t0 N P tb t' (bd (trl_openSign 40 s2) (fun _ s1 => bd (trlE (m' + 2 + 1) 5 0 0 0 s1) (fun r2 s2 => bd (tok_expect 41 s2) (fun _ s3 => lt' (up s3 22 5 ((s3 22 5) - 1)) (fun s4 => c185 (m' + 2 + 1) p v2 v3 v4 r2 s4))))) := by
    intro f tx hf e1 e2 e3 e4 e5 e6 e48 e7
    obtain ⟨t', g1, g2, g3, g4⟩ := r78_dead (u := p1) (k := k) (C := C) (p := p) (f := f) h ⟨hf, h5⟩ (flt_RD (M := 3050) e2 e4 h5 e5 (by omega) e48) (by rw [flt_ne (by omega)]; exact e6) (by omega) hC9
    rw [e1, bq]
    refine ⟨t', t', g1, Or.inr (by have := g3.2.2.1; omega), g2, f, p1, ⟨hf, h5⟩, g3, PG0_trans (PG0_trans e3 flt_PG) g4, fun hb => ?_⟩
    obtain ⟨z1, z2, z3⟩ := hR.2.1 _ s2 hl
    obtain ⟨z4, z5⟩ := z3 hb
    have zd := stp_CD (N := N) (p := p1) (f := f) h1 (by rw [z1, hb]) z5 z2
    rw [e7 hb z4, bq]
    obtain ⟨s', y1, y2⟩ := cz_134t (m := m') (v4 := v4) h ⟨hf, h5⟩ zd hv2 hv3 hp
    exact ⟨0, s', y1, y2⟩
  by_cases c40 : s0 9 p1 = 40
  case neg => exact Or.inr (bad _ tb (by split <;> omega) (rOpN h h2 h6 h4 h5 (by omega) c40) h2 PG_refl h4 h13 t51 (by omega) (fun hb z => cOpN h h1 z h3 h5 (by omega) c40))
  by_cases co : o = 25
  · exact Or.inr (bad 2 (up tb 121 48 26) (Or.inr rfl) (rOpF h h2 h6 h4 h5 h8 co (by omega) c40) (SR_up h2 (by omega)) (PG_up (by omega)) (by rw [up_ne (by omega)]; exact h4) (by rw [up_ne (by omega)]; exact h13) (by rw [up_ne (by omega)]; exact t51) (by rw [up_same]; omega) (fun hb z => cOpF h h1 z h3 h5 h7 co (by omega) c40))
  have hp1 := tkL h h5 (by omega)
  rw [rOp h h2 h6 h4 h5 h8 (by omega) (by omega) c40, bq, cOp h h1 h3 h5 h7 (by omega) (by omega) c40, bq]
  -- the item of the object
  have hLc := LV_open hL' hp1 (by omega)
  have hRc : R (l ++ [(9, fi, la, 0)]) (up (up s2 22 5 ((o + 1 : Nat) : Int)) 2 12 ((p1 + 1 : Nat) : Int)) := (hR.1 _ _ _ (hR.1 _ _ _ hl).2.1).1
  have Pc : PG tb (up (up tb 121 48 ((o + 1 : Nat) : Int)) 121 10 ((p1 + 1 : Nat) : Int)) I (C + 1) (k + 1) := PG_trans (PG_up (by omega)) (PG_up (by omega)) (Nat.le_refl _) (Nat.le_refl _) (Nat.le_refl _)
  have l51 : up (up tb 121 48 ((o + 1 : Nat) : Int)) 121 10 ((p1 + 1 : Nat) : Int) 121 51 = ((k + 1 : Nat) : Int) := by rw [up_ne (by omega), up_ne (by omega)]; exact t51
  have q17 : up (up tb 121 48 ((o + 1 : Nat) : Int)) 121 10 ((p1 + 1 : Nat) : Int) 121 17 = q + 1 := by rw [up_ne (by omega), up_ne (by omega)]; exact h17
  have qC : ∀ c, up (up tb 121 48 ((o + 1 : Nat) : Int)) 121 10 ((p1 + 1 : Nat) : Int) c C = tb c C ∨ c = 121 := fun c => by
    by_cases z : c = 121
    · exact Or.inr z
    · exact Or.inl (by rw [up_ne (by omega), up_ne (by omega)])
  generalize up (up tb 121 48 ((o + 1 : Nat) : Int)) 121 10 ((p1 + 1 : Nat) : Int) = tc at *
  generalize up (up s2 22 5 ((o + 1 : Nat) : Int)) 2 12 ((p1 + 1 : Nat) : Int) = s3 at *
  have hLc' := hLc
  obtain ⟨d1, d2, d3, d4, d5, d6, d7, d8, d9, d10, d11, d12, d13, d14, d15, d16, d17⟩ := hLc
  have hLd : LV s0 t0 N q s3 (up (psh (adt tc I 9 (C : Int) 0 (p : Int)) (k + 1) 3) 159 (k + 1) (C : Int)) (p1 + 1) (o + 1) w (I + 1) (C + 1) :=
    LV_r (LV_adt hLc' (by omega)) (SR_up (PG_SR (psh_PG (I := 0) (C := 0) (Nat.zero_le _)) (PG_SR (PG_adt (C := 0) (K := 0) (Nat.le_refl I)) d2)) (by omega)) (fun j hj => by rw [up_ne (by omega), psh_ne (by omega) (by omega)])
  have Pd : PG tc (up (psh (adt tc I 9 (C : Int) 0 (p : Int)) (k + 1) 3) 159 (k + 1) (C : Int)) I (C + 1) (k + 1) := PG_trans (PG_trans (PG_adt (Nat.le_refl _)) (psh_PG (Nat.le_refl _)) (Nat.le_refl _) (Nat.le_refl _) (Nat.le_refl _)) (PG_upr (by omega)) (Nat.le_refl _) (Nat.le_refl _) (Nat.le_refl _)
  have dI : IM (up (psh (adt tc I 9 (C : Int) 0 (p : Int)) (k + 1) 3) 159 (k + 1) (C : Int)) I q C (C + 1) (9, fi, la, 0) := by
    obtain ⟨e1, e2, e3, e4, e5⟩ := adt_at (t := tc) (I := I) (a := 9) (b := (C : Int)) (c := 0) (d := (p : Int))
    have ro : ∀ c, 144 ≤ c → c ≤ 148 → up (psh (adt tc I 9 (C : Int) 0 (p : Int)) (k + 1) 3) 159 (k + 1) (C : Int) c I = adt tc I 9 (C : Int) 0 (p : Int) c I := fun c z1 z2 => by rw [up_ne (by omega), psh_ne (by omega) (by omega)]
    have rc : ∀ c, 149 ≤ c → c ≤ 156 → up (psh (adt tc I 9 (C : Int) 0 (p : Int)) (k + 1) 3) 159 (k + 1) (C : Int) c C = tb c C := fun c z1 z2 => by
      rw [up_ne (by omega), psh_ne (by omega) (by omega), adt_ne (by omega) (by omega)]
      exact (qC c).resolve_right (by omega)
    refine ⟨by rw [ro 148 (by omega) (by omega), ro 147 (by omega) (by omega), e5, e4, q17]; omega, by rw [ro 144 (by omega) (by omega), e1], Or.inl ⟨Or.inl rfl, C, Nat.le_refl _, by omega, by rw [ro 145 (by omega) (by omega), e2], by rw [rc 149 (by omega) (by omega)]; exact t149, by rw [rc 150 (by omega) (by omega)]; exact t150, by rw [rc 156 (by omega) (by omega)]; exact t156, fun g => by simp at g⟩⟩
  have m1 : up (psh (adt tc I 9 (C : Int) 0 (p : Int)) (k + 1) 3) 159 (k + 1) (C : Int) 121 51 = ((k + 1 + 1 : Nat) : Int) := by rw [up_ne (by omega)]; exact psh_51
  have m2 : up (psh (adt tc I 9 (C : Int) 0 (p : Int)) (k + 1) 3) 159 (k + 1) (C : Int) 159 (k + 1) = (C : Int) := up_same _ _ _ _
  have m3 : up (psh (adt tc I 9 (C : Int) 0 (p : Int)) (k + 1) 3) 159 (k + 1) (C : Int) 157 (k + 1) = 3 := by rw [up_ne (by omega)]; exact psh_at.1
  have m4 : up (psh (adt tc I 9 (C : Int) 0 (p : Int)) (k + 1) 3) 159 (k + 1) (C : Int) 158 (k + 1) = 0 := by rw [up_ne (by omega)]; exact psh_at.2
  have m5 : up (psh (adt tc I 9 (C : Int) 0 (p : Int)) (k + 1) 3) 159 (k + 1) (C : Int) 151 C = 0 := by
    rw [up_ne (by omega), psh_ne (by omega) (by omega), adt_ne (by omega) (by omega), (qC 151).resolve_right (by omega)]; exact t151
  have m6 : up (psh (adt tc I 9 (C : Int) 0 (p : Int)) (k + 1) 3) 159 (k + 1) (C : Int) 150 C = la := by
    rw [up_ne (by omega), psh_ne (by omega) (by omega), adt_ne (by omega) (by omega), (qC 150).resolve_right (by omega)]; exact t150
  have Rq : r78 p C tc = bd (m_isSign 41 (up (psh (adt tc I 9 (C : Int) 0 (p : Int)) (k + 1) 3) 159 (k + 1) (C : Int))) (fun r8 s8 => gd (rg r8) (if r8 = 0 then m_beginCall_134 1 s8 else m_beginCall_134 0 s8)) := by
    unfold r78
    rw [mad_ok d13 (by omega), bq, psh_ok (k := k + 1) (by rw [adt_ne (by omega) (by omega)]; exact l51) (by omega), bq, psh_51, show ((k + 1 + 1 : Nat) : Int) - 1 = ((k + 1 : Nat) : Int) by omega, gd_pos (by omega), lt_eq, Int.toNat_natCast]
  rw [Rq]
  have Pe := PG_trans Pc Pd (Nat.le_refl _) (Nat.le_refl _) (Nat.le_refl _)
  generalize up (psh (adt tc I 9 (C : Int) 0 (p : Int)) (k + 1) 3) 159 (k + 1) (C : Int) = tf at *
  -- the closing of the call
  have close : ∀ (s4 ta t2 : iS) (p2 w2 C2 a : Nat) (lx : List itm), LV s0 t0 N q s4 t2 p2 (o + 1) w2 (I + 1 + lx.length) C2 → p1 + 1 ≤ p2 → lx.length ≤ p2 - (p1 + 1) → C + 1 ≤ C2 → C2 - (C + 1) ≤ p2 - (p1 + 1) → R (l ++ [(9, fi, la, 0)] ++ lx) s4 → IM t2 I q C C2 (9, fi, la, 0) → IMs t2 (I + 1) q (C + 1) C2 lx → PG tb t2 I C (k + 1) → t2 121 51 = ((k + 1 + 1 : Nat) : Int) → t2 121 61 = 0 → t2 159 (k + 1) = (C : Int) → t2 149 C = fi → t2 150 C = la → t2 151 C = (a : Int) → t2 156 C = q → a ≤ 1000 → GX s0 3 (o + 1) (p1 + 1) w p2 w2 a lx → (∃ s' t3 p' w' C' l', bd (tok_expect 41 s4) (fun _ s3 => lt' (up s3 22 5 ((s3 22 5) - 1)) (fun s4 => c185 (m' + 2 + 1) p v2 v3 v4 (a : Int) s4)) = some (0, s') ∧ m_closeCall t2 = some (0, t3) ∧ t3 121 61 = 0 ∧ t3 121 11 = 0 ∧ t3 121 51 = ((k + 1 : Nat) : Int) ∧ (p1 < p' ∧ (∃ (a p2 : Nat) (lx : List itm), l' = (9, fi, la, 0) :: lx ++ [(10, fi, la, (a : Int))] ∧ p' = p2 + 1 ∧ o < 25 ∧ GX s0 3 (o + 1) (p1 + 1) w p2 w' a lx)) ∧ LV s0 t0 N q s' t3 p' o w' (I + l'.length) C' ∧ l'.length ≤ p' - p1 ∧ C + 1 ≤ C' ∧ C' - C ≤ p' - p1 ∧ R (l ++ l') s' ∧ IMs t3 I q C C' l' ∧ PG tb t3 I C (k + 1)) ∨ (∃ t3, m_closeCall t2 = some (0, t3) ∧ eL t3 = some t3 ∧ DEAD b s0 t0 N P tb t3 (bd (tok_expect 41 s4) (fun _ s3 => lt' (up s3 22 5 ((s3 22 5) - 1)) (fun s4 => c185 (m' + 2 + 1) p v2 v3 v4 (a : Int) s4)))) := by
    intro s4 ta t2 p2 w2 C2 a lx g1 g2 g3 g4 g5 g6 g7 g8 g9 g10 g11 g12 g13 g14 g15 g16 g17 g18
    have g1' := g1
    obtain ⟨i1, i2, i3, i4, i5, i6, i7, i8, i9, i10, i11, i12, i13, i14, i15, i16, i17⟩ := g1
    obtain ⟨w1, w2'⟩ := cc_ok (k := k + 1) (C := C) h g1' g10 (by omega) g12 hC9
    by_cases c : s0 9 p2 = 41
    · have hp2 := tkL h i5 (by omega)
      have hLz := LV_close g1' hp2
      obtain ⟨s5, y1, y2, y3⟩ := hC (l ++ [(9, fi, la, 0)] ++ lx) (up (up s4 2 12 ((p2 + 1 : Nat) : Int)) 22 5 (o : Int)) a (hR.1 _ _ _ (hR.1 _ _ _ g6).1).2.1 hLz.1 g17
      refine Or.inl ⟨s5, _, p2 + 1, w2, C2, (9, fi, la, 0) :: lx ++ [(10, fi, la, (a : Int))], ?_, w1 c, ?_, ?_, ?_, ⟨by omega, a, p2, lx, rfl, rfl, by omega, g18⟩, ?_, ?_, g4, by omega, ?_, ?_, ?_⟩
      · rw [cEx h i1 i3 i5 (by omega) c, bq, lt_eq, up_ne (by omega), i7, show ((o + 1 : Nat) : Int) - 1 = (o : Int) by omega, y1]
      · rw [adt_ne (by omega) (by omega), up_ne (by omega), up_ne (by omega), up_ne (by omega)]; exact g11
      · rw [adt_ne (by omega) (by omega), up_ne (by omega), up_ne (by omega), up_ne (by omega)]; exact i6
      · rw [adt_ne (by omega) (by omega), up_same]
      · have := LV_adt (a := 10) (b' := (C : Int)) (c := 0) (d := t2 150 C) (LV_r (t' := up (up (up t2 121 10 ((p2 + 1 : Nat) : Int)) 121 48 (o : Int)) 121 51 ((k + 1 : Nat) : Int)) (LV_MD hLz y3) (SR_up hLz.2.1 (by omega)) (fun j hj => up_ne (by omega))) (by omega)
        have e : I + ((9, fi, la, 0) :: lx ++ [(10, fi, la, (a : Int))] : List itm).length = I + 1 + lx.length + 1 := by simp; omega
        rw [e]
        exact this
      · have e : ((9, fi, la, 0) :: lx ++ [(10, fi, la, (a : Int))] : List itm).length = lx.length + 2 := by simp
        rw [e]; omega
      · have e : l ++ ((9, fi, la, 0) :: lx ++ [(10, fi, la, (a : Int))]) = l ++ [(9, fi, la, 0)] ++ lx ++ [(10, fi, la, (a : Int))] := by simp
        rw [e]; exact y2
      · have Pz : PG t2 (adt (up (up (up t2 121 10 ((p2 + 1 : Nat) : Int)) 121 48 (o : Int)) 121 51 ((k + 1 : Nat) : Int)) (I + 1 + lx.length) 10 (C : Int) 0 (t2 150 C)) (I + 1 + lx.length) C2 0 := PG_trans (PG_trans (PG_trans (PG_up (by omega)) (PG_up (by omega)) (Nat.le_refl _) (Nat.le_refl _) (Nat.le_refl _)) (PG_up (by omega)) (Nat.le_refl _) (Nat.le_refl _) (Nat.le_refl _)) (PG_adt (Nat.le_refl _)) (Nat.le_refl _) (Nat.le_refl _) (Nat.le_refl _)
        refine IMs_call (IM_of g7 (fun c' z1 z2 => Pz.2.1 c' I z1 z2 (by omega)) (fun c' j' z1 z2 z3 z4 => Pz.2.2.1 c' j' z1 z2 z4) (Nat.le_refl _) (Nat.le_refl _)) (IMs_pg g8 Pz (Nat.le_refl _) (Nat.le_refl _)) ?_ (adt_at (t := up (up (up t2 121 10 ((p2 + 1 : Nat) : Int)) 121 48 (o : Int)) 121 51 ((k + 1 : Nat) : Int)) (I := I + 1 + lx.length) (a := 10) (b := (C : Int)) (c := 0) (d := t2 150 C)).2.1
        obtain ⟨e1, e2, e3, e4, e5⟩ := adt_at (t := up (up (up t2 121 10 ((p2 + 1 : Nat) : Int)) 121 48 (o : Int)) 121 51 ((k + 1 : Nat) : Int)) (I := I + 1 + lx.length) (a := 10) (b := (C : Int)) (c := 0) (d := t2 150 C)
        refine ⟨by rw [e5, e4, up_ne (by omega), up_ne (by omega), up_ne (by omega), i17, g14]; omega, by rw [e1], Or.inl ⟨Or.inr rfl, C, Nat.le_refl _, by omega, e2, ?_, ?_, ?_, fun _ => ?_⟩⟩
        · rw [Pz.2.2.1 149 C (by omega) (by omega) (by omega)]; exact g13
        · rw [Pz.2.2.1 150 C (by omega) (by omega) (by omega)]; exact g14
        · rw [Pz.2.2.1 156 C (by omega) (by omega) (by omega)]; exact g16
        · rw [Pz.2.2.1 151 C (by omega) (by omega) (by omega)]; exact g15
      · exact PG_trans g9 (PG_trans (PG_trans (PG_trans (PG_up (by omega)) (PG_up (by omega)) (Nat.le_refl _) (Nat.le_refl _) (Nat.le_refl _)) (PG_up (by omega)) (Nat.le_refl _) (Nat.le_refl _) (Nat.le_refl _)) (PG_adt (I := I) (C := C) (K := k + 1) (by omega)) (Nat.le_refl _) (Nat.le_refl _) (Nat.le_refl _)) (Nat.le_refl _) (Nat.le_refl _) (Nat.le_refl _)
    · obtain ⟨t3, z1, z2, z3⟩ := w2' c
      have hf : (if s0 9 p2 = 2 then (2 : Int) else 1) = 1 ∨ (if s0 9 p2 = 2 then (2 : Int) else 1) = 2 := by split <;> omega
      refine Or.inr ⟨t3, z1, eL_dead (by have := z2.2.2.1; omega), _, p2, ⟨hf, i5⟩, z2, PG0_trans (PG_mono g9 (Nat.zero_le _) (Nat.zero_le _) (Nat.zero_le _)) z3, fun hb => ?_⟩
      obtain ⟨x1, x2, x3⟩ := hR.2.1 _ s4 g6
      obtain ⟨x4, x5⟩ := x3 hb
      have zd := stp_CD (N := N) (p := p2) (f := if s0 9 p2 = 2 then 2 else 1) i1 (by rw [x1, hb]) x5 x2
      rw [cEx0 h i1 x4 i3 i5 (by omega) c, bq, lt_eq]
      unfold c185
      rw [cz_185 h (CD_up zd (Or.inl rfl)) hv2 hv3 hp]
      exact ⟨0, _, rfl, CD_up zd (Or.inl rfl)⟩
  rw [rS h hLd.2.1 hLd.2.2.2.1 hLd.2.2.2.2.1 (by omega), bq, trlE_5]
  unfold trl_readArguments m_beginCall_134
  rw [cK h d1 d3 d5, bq, gr (by have := kRg h d5; omega)]
  have PgC := PG_mono Pe (Nat.le_refl I) (Nat.le_succ C) (Nat.le_refl (k + 1))
  by_cases c41 : s0 9 (p1 + 1) = 41
  · -- no values
    rw [if_pos c41, if_pos c41, bq, gr (by omega), if_neg (by omega), gd_pos (by omega), lt_eq, up_same, gr (by omega), if_pos rfl]
    rcases close s3 tf (up tf 121 61 0) (p1 + 1) w (C + 1) 0 [] (LV_r hLd (SR_up hLd.2.1 (by omega)) (fun j hj => up_ne (by omega))) (Nat.le_refl _) (Nat.zero_le _) (Nat.le_refl _) (by omega) (by rw [List.append_nil]; exact hRc) (IM_of dI (fun c' z1 z2 => up_ne (by omega)) (fun c' j' z1 z2 z3 z4 => up_ne (by omega)) (Nat.le_refl _) (Nat.le_refl _)) IMs_nil (PG_trans PgC (PG_up (by omega)) (Nat.le_refl _) (Nat.le_refl _) (Nat.le_refl _)) (by rw [up_ne (by omega)]; exact m1) (up_same _ _ _ _) (by rw [up_ne (by omega)]; exact m2) (by
        obtain ⟨_, _, y | y⟩ := dI
        · obtain ⟨_, c', y1, y2, y3, y4, _⟩ := y
          have : c' = C := by omega
          rw [this] at y4
          rw [up_ne (by omega)]; exact y4
        · exact absurd rfl y.1) (by rw [up_ne (by omega)]; exact m6) (by rw [up_ne (by omega)]; exact m5) (by
        obtain ⟨_, _, y | y⟩ := dI
        · obtain ⟨_, c', y1, y2, y3, y4, y5, y6, _⟩ := y
          have : c' = C := by omega
          rw [this] at y6
          rw [up_ne (by omega)]; exact y6
        · exact absurd rfl y.1) (by omega) (.a0 _ _ _) with ⟨s', t3, p', w', C', l', y1, y2, y3, y4, y5, y6, y7, y8, y9, y10, y11, y12, y13⟩ | ⟨t3, y1, y2, y3⟩
    · rw [y2, bq]
      exact Or.inl ⟨s', t3, t3, p', w', C', l', y1, rfl, y4, rfl, y3, y4, y5, y6, y7, y8, y9, y10, y11, y12, y13⟩
    · rw [y1, bq]
      exact Or.inr ⟨t3, t3, rfl, by
        obtain ⟨f, u, z1, z2, _⟩ := y3
        have := z2.2.2.1
        exact Or.inr (by omega), y2, y3⟩
  -- values
  rw [if_neg c41, if_neg c41, gr (by omega), if_pos rfl, gd_pos (by omega), lt_eq, up_same, gr (by omega), if_neg (by omega)]
  rcases hE s3 (up tf 121 61 1) (p1 + 1) (o + 1) w (I + 1) (C + 1) (k + 1) (l ++ [(9, fi, la, 0)]) (LV_r hLd (SR_up hLd.2.1 (by omega)) (fun j hj => up_ne (by omega))) hRc (up_same _ _ _ _) (by rw [up_ne (by omega)]; exact m1) (by omega) (by rw [up_ne (by omega), m3]; omega) (by rw [up_ne (by omega), m3]; omega) (by rw [up_ne (by omega)]; exact m4) (by omega) with ⟨s4, t1, t2, p2, w2, C2, l2, e1, e2, e3, e4, e5, e6, e7, e8, e9, e10, e11, e12, e13, e14, e15⟩ | ⟨t', e1, f, u, e2, e3, e4, e5⟩
  case inr =>
    refine Or.inr ⟨_, t', rfl, Or.inl (by rw [up_ne (by omega)]; exact hLd.2.2.2.2.2.1), e1, f, u, e2, e3, PG0_trans (PG_mono (PG_trans PgC (PG_up (by omega)) (Nat.le_refl _) (Nat.le_refl _) (Nat.le_refl _)) (Nat.zero_le _) (Nat.zero_le _) (Nat.zero_le _)) e4, fun hb => ?_⟩
    obtain ⟨r, s', g1, g2⟩ := e5 hb
    rw [g1, bq, cz_22 h g2 (by omega), bq]
    obtain ⟨s'', y1, y2⟩ := cz_134u (m := m' + 2 + 1) (v4 := v4) (r := 1) h e2 g2 hv2 hv3 hp
    exact ⟨0, s'', y1, y2⟩
  obtain ⟨g1, g2, g3, g4, g5, g6, g7, g8⟩ := e15
  have g1' := g1
  obtain ⟨i1, i2, i3, i4, i5, i6, i7, i8, i9, i10, i11, i12, i13, i14, i15, i16, i17⟩ := g1
  have rC : ∀ c, 149 ≤ c → c ≤ 156 → t2 c C = tf c C := fun c z1 z2 => by rw [g8.2.2.1 c C z1 z2 (by omega), up_ne (by omega)]
  have P2 : PG tb t2 I C (k + 1) := PG_trans (PG_trans PgC (PG_up (by omega)) (Nat.le_refl _) (Nat.le_refl _) (Nat.le_refl _)) g8 (by omega) (by omega) (Nat.le_refl _)
  rw [e1, bq]
  rcases a_loop h hR hE (k := k + 1) (C := C) (o := o + 1) (by omega) hC9 (by omega) N s4 t1 t2 p2 w2 (I + 1 + l2.length) C2 1 0 (l ++ [(9, fi, la, 0)] ++ l2) (by omega) g1' g6 (by omega) e3 e4 e5 e6 e7 e8 e9 e11 (by rw [e12, up_ne (by omega)]; exact m3) (by rw [e13, up_ne (by omega)]; exact m2) e14 (by rw [rC 151 (by omega) (by omega), m5]; rfl) (by omega) (by omega) (by omega) with ⟨s5, t1', t2', p', w', C', v', l', j1, j2, j3, j4, j5, j6, j7, j8, j9, j10, j11, j12, j13, j14, j15, j16, j17, j18, j19, j20, j21, j22, j23⟩ | ⟨t', j1, f, u, k1, k2, k3, k4⟩
  case inr =>
    refine Or.inr ⟨_, t', rfl, Or.inl (by rw [up_ne (by omega)]; exact hLd.2.2.2.2.2.1), by rw [e2, j1], f, u, k1, k2, PG0_trans (PG_mono P2 (Nat.zero_le _) (Nat.zero_le _) (Nat.zero_le _)) k3, fun hb => ?_⟩
    obtain ⟨r, s', x1, x2⟩ := k4 hb
    rw [show ((1 : Nat) : Int) = 1 from rfl, show ((0 : Nat) : Int) = 0 from rfl] at x1
    rw [x1, bq]
    obtain ⟨s'', y1, y2⟩ := cz_134u (m := m' + 2 + 1) (v4 := v4) (r := r) h k1 x2 hv2 hv3 hp
    exact ⟨0, s'', y1, y2⟩
  rw [show ((1 : Nat) : Int) = 1 from rfl, show ((0 : Nat) : Int) = 0 from rfl] at j1
  rw [j1, bq]
  have j15' := j15
  obtain ⟨x1, x2, x3, x4, x5, x6, x7, x8, x9, x10, x11, x12, x13, x14, x15, x16, x17⟩ := j15
  have rC' : ∀ c, 149 ≤ c → c ≤ 156 → c ≠ 151 → t2' c C = tf c C := fun c z1 z2 z3 => by rw [j23.2.1 c z1 z2 z3, rC c z1 z2]
  -- the reference closes
  have B1 : m_behindTerm t1' = bd (m_closeCall (up t2' 151 C (v' : Int))) (fun _ s20 => some (0, s20)) := by
    rw [j7]
    unfold m_behindTerm_121
    rw [mop h x2 x4 x5, bq, if_neg j10, gr (by omega), if_pos rfl, gd_pos (by omega), Int.toNat_natCast, j23.2.2.1, e12, up_ne (by omega), m3, gr (by omega), if_neg (by omega), if_neg (by omega), if_neg (by omega), j23.2.2.2, e13, up_ne (by omega), m2, gd_pos (by omega), lt_eq, Int.toNat_natCast, j12, show (v' : Int) - 1 + 1 = (v' : Int) by omega, rS h (SR_up x2 (by omega)) (by rw [up_ne (by omega)]; exact x4) x5 (by omega), bq, if_neg j11, gr (by omega), if_pos rfl]
  have dIf : tf 149 C = fi ∧ tf 156 C = q := by
    obtain ⟨_, _, y | y⟩ := dI
    · obtain ⟨_, c', y1, y2, y3, y4, y5, y6, _⟩ := y
      have : c' = C := by omega
      rw [this] at y4 y6
      exact ⟨y4, y6⟩
    · exact absurd rfl y.1
  rcases close s5 t1' (up t2' 151 C (v' : Int)) p' w' C' v' (l2 ++ l') (by
      rw [List.length_append, ← Nat.add_assoc]
      exact LV_r j15' (SR_up x2 (by omega)) (fun j hj => up_ne (by omega))) (by omega) (by rw [List.length_append]; omega) (by omega) (by omega) (by rw [← List.append_assoc]; exact j20) (by
      refine IM_of9 dI (fun c' z1 z2 => ?_) (fun c' j' z1 z2 z5 z3 z4 => ?_) (by omega)
      · rw [up_ne (by omega), j23.1.2.1 c' I z1 z2 (by omega), g8.2.1 c' I z1 z2 (by omega), up_ne (by omega)]
      · have : j' = C := by omega
        rw [this, up_ne (by omega), rC' c' z1 z2 z5]) (by
      refine IMs_app (C1 := C2) (IMs_x g7 (fun c' k' z1 z2 z3 z4 => ?_) (fun c' k' z1 z2 z3 z4 => ?_)) (IMs_x j21 (fun c' k' z1 z2 z3 z4 => up_ne (by omega)) (fun c' k' z1 z2 z3 z4 => up_ne (by omega))) g4 j18
      · rw [up_ne (by omega)]; exact j23.1.2.1 c' k' z1 z2 z4
      · rw [up_ne (by omega)]; exact j22 c' k' z1 z2 (by omega) z4) (PG_trans (PG_trans P2 j23.1 (by omega) (Nat.le_refl _) (Nat.le_refl _)) (PG_upr (by omega)) (Nat.le_refl _) (Nat.le_refl _) (Nat.le_refl _)) (by rw [up_ne (by omega)]; exact j8) (by rw [up_ne (by omega)]; exact j9) (by rw [up_ne (by omega), j23.2.2.2, e13, up_ne (by omega)]; exact m2) (by rw [up_ne (by omega), rC' 149 (by omega) (by omega) (by omega)]; exact dIf.1) (by rw [up_ne (by omega), rC' 150 (by omega) (by omega) (by omega)]; exact m6) (up_same _ _ _ _) (by rw [up_ne (by omega), rC' 156 (by omega) (by omega) (by omega)]; exact dIf.2) (by omega) (j16.2 (p1 + 1) w l2 (.a1 _ _ _ _ _ _ e10.2)) with ⟨s', t3, p3, w3, C3, l3, y1, y2, y3, y4, y5, y6, y7, y8, y9, y10, y11, y12, y13⟩ | ⟨t3, y1, y2, y3⟩
  · rw [y2, bq] at B1
    exact Or.inl ⟨s', _, t3, p3, w3, C3, l3, y1, rfl, (by rw [up_ne (by omega)]; exact hLd.2.2.2.2.2.1), by rw [e2, j2, eL_bt j4 ⟨j5, j6⟩ j3 B1], y3, y4, y5, y6, y7, y8, y9, y10, y11, y12, y13⟩
  · rw [y1, bq] at B1
    exact Or.inr ⟨_, t3, rfl, Or.inl (by rw [up_ne (by omega)]; exact hLd.2.2.2.2.2.1), by rw [e2, j2, eL_bt j4 ⟨j5, j6⟩ j3 B1, y2], y3⟩
end EXe
