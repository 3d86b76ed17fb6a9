/-! expressions: a call from its ( on -/
section EXd
variable {F : Nat → Int} {n N : Nat} {P : Nat → Nat} {s0 t0 : iS} {R : List itm → iS → Prop} {b q : Int} {fv : Nat → Int}
theorem cz_134t {s : iS} {f : Int} {u p : Nat} (h : TKR 0 F n N P s0 t0) (hf : ft f u N) (hd : CD s0 N s f u) {m : Nat} {v2 v3 v4 : Int} (hv : b01 v2) (hv3 : -1 ≤ v3 ∧ v3 < 48) (hp : p < N) : ∃ s', bd (trlE (m + 3) 5 0 0 0 s) (fun r2 s2 => bd (tok_expect 41 s2) (fun _ s3 => lt' (up s3 22 5 ((s3 22 5) - 1)) (fun s4 => gd (rg v2) (if v2 = 0 then trl_readCall_185 (trlE (m + 3)) (p : Int) v2 v4 r2 (s4 23 11) s4 else bd (trl_ownerOf v3 (p : Int) s4) (fun r7 s7 => trl_readCall_185 (trlE (m + 3)) (p : Int) v2 v4 r2 r7 s7))))) = some (0, s') ∧ CD s0 N s' f u := by
  rw [cz_args h hf hd, bq, cz_ex h hf hd (by omega), bq, lt_eq, cz_185 h (CD_up hd (Or.inl rfl)) hv hv3 hp]
  exact ⟨_, rfl, CD_up hd (Or.inl rfl)⟩
theorem cz_134u {s : iS} {f : Int} {u p : Nat} (h : TKR 0 F n N P s0 t0) (hf : ft f u N) (hd : CD s0 N s f u) {m : Nat} {v2 v3 v4 r : Int} (hv : b01 v2) (hv3 : -1 ≤ v3 ∧ v3 < 48) (hp : p < N) : ∃ s', bd (tok_expect 41 s) (fun _ s3 => lt' (up s3 22 5 ((s3 22 5) - 1)) (fun s4 => gd (rg v2) (if v2 = 0 then trl_readCall_185 (trlE m) (p : Int) v2 v4 r (s4 23 11) s4 else bd (trl_ownerOf v3 (p : Int) s4) (fun r7 s7 => trl_readCall_185 (trlE m) (p : Int) v2 v4 r r7 s7)))) = some (0, s') ∧ CD s0 N s' f u := by
  rw [cz_ex h hf hd (by omega), bq, lt_eq, cz_185 h (CD_up hd (Or.inl rfl)) hv hv3 hp]
  exact ⟨_, rfl, CD_up hd (Or.inl rfl)⟩
theorem RD_up {t : iS} {f : Int} {u M : Nat} {k : Nat} {x : Int} (h : RD t0 N P t f u M) (hk : k = 50 ∨ k = 51 ∨ k = 61) : RD t0 N P (up t 121 k x) f u M := by
  obtain ⟨h1, ⟨p, h2, h3⟩, h4, h5, ⟨I, h6, h7⟩, h8⟩ := h
  exact ⟨SR_up h1 (by omega), ⟨p, h2, by rw [up_ne (by omega)]; exact h3⟩, by rw [up_ne (by omega)]; exact h4, by rw [up_ne (by omega)]; exact h5, ⟨I, by rw [up_ne (by omega)]; exact h6, h7⟩, by rw [up_ne (by omega)]; exact h8⟩
theorem RD_48 {t : iS} {f : Int} {u M : Nat} {x : Int} (h : RD t0 N P t f u M) (hx : -(100 + (M : Int)) ≤ x ∧ x ≤ 100 + (M : Int)) : RD t0 N P (up t 121 48 x) f u M := by
  obtain ⟨h1, ⟨p, h2, h3⟩, h4, h5, ⟨I, h6, h7⟩, h8⟩ := h
  exact ⟨SR_up h1 (by omega), ⟨p, h2, by rw [up_ne (by omega)]; exact h3⟩, by rw [up_ne (by omega)]; exact h4, by rw [up_ne (by omega)]; exact h5, ⟨I, by rw [up_ne (by omega)]; exact h6, h7⟩, by rw [up_same]; exact hx⟩
theorem RD_upr {t : iS} {f : Int} {u M : Nat} {c k : Nat} {x : Int} (h : RD t0 N P t f u M) (hc : c ≠ 121 ∧ ¬ (123 ≤ c ∧ c ≤ 127)) : RD t0 N P (up t c k x) f u M := by
  obtain ⟨h1, ⟨p, h2, h3⟩, h4, h5, ⟨I, h6, h7⟩, h8⟩ := h
  exact ⟨SR_up h1 (by omega), ⟨p, h2, by rw [up_ne (by omega)]; exact h3⟩, by rw [up_ne (by omega)]; exact h4, by rw [up_ne (by omega)]; exact h5, ⟨I, by rw [up_ne (by omega)]; exact h6, h7⟩, by rw [up_ne (by omega)]; exact h8⟩
theorem RD_mono {t : iS} {f : Int} {u M M' : Nat} (h : RD t0 N P t f u M) (hM : M ≤ M') : RD t0 N P t f u M' := by
  obtain ⟨h1, h2, h4, h5, ⟨I, h6, h7⟩, h8⟩ := h
  exact ⟨h1, h2, h4, h5, ⟨I, h6, by omega⟩, by omega⟩
theorem RD_add {t : iS} {f : Int} {u M : Nat} {a b' c d : Int} (h : RD t0 N P t f u M) (hM : M < 5000) : ∃ I : Nat, t 121 33 = (I : Int) ∧ m_add a b' c d t = some ((I : Int), adt t I a b' c d) ∧ RD t0 N P (adt t I a b' c d) f u (M + 1) ∧ PG t (adt t I a b' c d) 0 0 0 := by
  obtain ⟨h1, ⟨p, h2, h3⟩, h4, h5, ⟨I, h6, h7⟩, h8⟩ := h
  refine ⟨I, h6, mad_ok h6 (by omega), ⟨PG_SR (PG_adt (I := I) (C := 0) (K := 0) (Nat.le_refl _)) h1, ⟨p, h2, by rw [adt_ne (by omega) (by omega)]; exact h3⟩, by rw [adt_ne (by omega) (by omega)]; exact h4, by rw [adt_ne (by omega) (by omega)]; exact h5, ⟨I + 1, adt_33, by omega⟩, by rw [adt_ne (by omega) (by omega)]; omega⟩, PG_mono (PG_adt (I := I) (C := 0) (K := 0) (Nat.le_refl _)) (Nat.zero_le _) (Nat.le_refl _) (Nat.le_refl _)⟩
theorem RD_ns {t : iS} {f : Int} {u M : Nat} (h : TKR 0 F n N P s0 t0) (hf : ft f u N) (hd : RD t0 N P t f u M) {c : Int} (hc : 33 ≤ c ∧ c ≤ 126) : m_needSign c t = some (0, t) := by
  obtain ⟨h1, ⟨p, h2, h3⟩, h4, h5, _⟩ := hd
  exact rNsD h h1 (by omega) h3 h2 hc
theorem RD_cs {t : iS} {f : Int} {u M : Nat} (h : TKR 0 F n N P s0 t0) (hf : ft f u N) (hd : RD t0 N P t f u M) {c : Int} (hc : 33 ≤ c ∧ c ≤ 126) : m_closeSign c t = some (0, up t 121 48 (t 121 48 - 1)) := by
  unfold m_closeSign
  rw [RD_ns h hf hd hc, bq, lt_eq]
theorem PG0_trans {t t2 t3 : iS} (h : PG t t2 0 0 0) (h' : PG t2 t3 0 0 0) : PG t t3 0 0 0 := PG_trans h h' (Nat.le_refl _) (Nat.le_refl _) (Nat.le_refl _)
theorem cc_core {ta : iS} {k C : Nat} (hl : ta 121 51 = ((k + 1 : Nat) : Int)) (hk : k < 60) (hC : ta 159 k = (C : Int)) (hC2 : C < 1000) : (lt' (up ta 121 51 ((ta 121 51) - 1)) (fun s2 => gd (0 ≤ (s2 121 51) ∧ (s2 121 51) < 64) (gd (0 ≤ (s2 159 (s2 121 51).toNat) ∧ (s2 159 (s2 121 51).toNat) < 1000) (bd (m_add 10 (s2 159 (s2 121 51).toNat) 0 (s2 150 (s2 159 (s2 121 51).toNat).toNat) s2) (fun r5 s5 => some ((0 : Int), s5)))))) = bd (m_add 10 (C : Int) 0 (ta 150 C) (up ta 121 51 (k : Int))) (fun r5 s5 => some (0, s5)) := by
  have e1 : up ta 121 51 (k : Int) 159 k = (C : Int) := by rw [up_ne (by omega)]; exact hC
  have e2 : up ta 121 51 (k : Int) 150 C = ta 150 C := up_ne (by omega)
  rw [lt_eq, hl, show ((k + 1 : Nat) : Int) - 1 = (k : Int) by omega, up_same, gd_pos (by omega), Int.toNat_natCast, e1, gd_pos (by omega), Int.toNat_natCast, e2]
/-- the reference's closing of a call behind a fault -/
theorem cc_dead {t : iS} {f : Int} {u M k C : Nat} (h : TKR 0 F n N P s0 t0) (hf : ft f u N) (hd : RD t0 N P t f u M) (hM : M < 4000) (hl : t 121 51 = ((k + 1 : Nat) : Int)) (hk : k < 60) (hC : t 159 k = (C : Int)) (hC2 : C < 1000) : ∃ t', m_closeCall t = some (0, t') ∧ RD t0 N P t' f u (M + 2) ∧ PG t t' 0 0 0 := by
  unfold m_closeCall
  rw [RD_cs h hf hd (by omega), bq, cc_core (k := k) (C := C) (by rw [up_ne (by omega)]; exact hl) hk (by rw [up_ne (by omega)]; exact hC) hC2]
  obtain ⟨I, e1, e2, e3, e4⟩ := RD_add (a := 10) (b' := (C : Int)) (c := 0) (d := up t 121 48 (t 121 48 - 1) 150 C) (RD_up (x := (k : Int)) (RD_48 (x := t 121 48 - 1) (RD_mono (M' := M + 1) hd (by omega)) (by have := hd.2.2.2.2.2; omega)) (Or.inr (Or.inl rfl))) (by omega)
  rw [e2, bq]
  exact ⟨_, rfl, e3, PG0_trans (PG0_trans (PG_up (by omega)) (PG_up (by omega))) e4⟩
/-- the reference behind the ( of a call -/
noncomputable def r78 (p C : Nat) (s3 : iS) : Option (Int × iS) := bd (m_add 9 (C : Int) 0 (p : Int) s3) (fun r4 s4 => bd (m_push 3 s4) (fun _ s5 => gd (0 ≤ ((s5 121 51) - 1) ∧ ((s5 121 51) - 1) < 64) (lt' (up s5 159 ((s5 121 51) - 1).toNat (C : Int)) (fun s7 => bd (m_isSign 41 s7) (fun r8 s8 => gd (rg r8) (if r8 = 0 then m_beginCall_134 1 s8 else m_beginCall_134 0 s8))))))
theorem r78_eq {p C : Nat} {t : iS} (hf : t 121 11 = 0) : m_beginCall_78 (p : Int) (C : Int) t = bd (m_openSign 40 t) (fun _ s3 => r78 p C s3) := by
  unfold m_beginCall_78 r78
  rw [gr (by omega), if_pos (by omega)]
theorem r78_dead {t : iS} {f : Int} {u k C p : Nat} (h : TKR 0 F n N P s0 t0) (hf : ft f u N) (hd : RD t0 N P t f u 3050) (hl : t 121 51 = ((k + 1 : Nat) : Int)) (hk : k < 50) (hC2 : C < 1000) : ∃ t', r78 p C t = some (0, t') ∧ eL t' = some t' ∧ RD t0 N P t' f u 3100 ∧ PG t t' 0 0 0 := by
  unfold r78
  obtain ⟨I, e1, e2, e3, e4⟩ := RD_add (a := 9) (b' := (C : Int)) (c := 0) (d := (p : Int)) hd (by omega)
  have hl2 : adt t I 9 (C : Int) 0 (p : Int) 121 51 = ((k + 1 : Nat) : Int) := by rw [adt_ne (by omega) (by omega)]; exact hl
  rw [e2, bq, psh_ok hl2 (by omega), bq, psh_51, show ((k + 1 + 1 : Nat) : Int) - 1 = ((k + 1 : Nat) : Int) by omega, gd_pos (by omega), lt_eq, Int.toNat_natCast]
  have d5 : RD t0 N P (up (psh (adt t I 9 (C : Int) 0 (p : Int)) (k + 1) 3) 159 (k + 1) (C : Int)) f u 3051 := by
    unfold psh
    exact RD_upr (RD_up (RD_upr (RD_upr e3 (by omega)) (by omega)) (Or.inr (Or.inl rfl))) (by omega)
  have p5 : PG t (up (psh (adt t I 9 (C : Int) 0 (p : Int)) (k + 1) 3) 159 (k + 1) (C : Int)) 0 0 0 := PG0_trans (PG0_trans e4 (psh_PG (Nat.zero_le _))) (PG_upr (by omega))
  have l5 : up (psh (adt t I 9 (C : Int) 0 (p : Int)) (k + 1) 3) 159 (k + 1) (C : Int) 121 51 = ((k + 1 + 1 : Nat) : Int) := by rw [up_ne (by omega)]; exact psh_51
  have c5 : up (psh (adt t I 9 (C : Int) 0 (p : Int)) (k + 1) 3) 159 (k + 1) (C : Int) 159 (k + 1) = (C : Int) := up_same _ _ _ _
  generalize up (psh (adt t I 9 (C : Int) 0 (p : Int)) (k + 1) 3) 159 (k + 1) (C : Int) = t5 at *
  obtain ⟨p', q1, q2⟩ := d5.2.1
  have hff : ∀ x : iS, RD t0 N P x f u 3100 → eL x = some x := fun x hx => eL_dead (by have := hx.2.2.1; omega)
  rw [rS h d5.1 q2 q1 (by omega), bq]
  unfold m_beginCall_134
  by_cases c : s0 9 p' = 41
  · rw [if_pos c, gr (by omega), if_neg (by omega), gd_pos (by omega), lt_eq, up_same, gr (by omega), if_pos rfl]
    obtain ⟨t6, f1, f2, f3⟩ := cc_dead (k := k + 1) (C := C) h hf (RD_up (x := 0) d5 (Or.inr (Or.inr rfl))) (by omega) (by rw [up_ne (by omega)]; exact l5) (by omega) (by rw [up_ne (by omega)]; exact c5) hC2
    rw [f1, bq]
    exact ⟨t6, rfl, hff _ (RD_mono f2 (by omega)), RD_mono f2 (by omega), PG0_trans (PG0_trans p5 (PG_up (by omega))) f3⟩
  · rw [if_neg c, gr (by omega), if_pos rfl, gd_pos (by omega), lt_eq, up_same, gr (by omega), if_neg (by omega)]
    exact ⟨_, rfl, hff _ (RD_mono (RD_up d5 (Or.inr (Or.inr rfl))) (by omega)), RD_mono (RD_up d5 (Or.inr (Or.inr rfl))) (by omega), PG0_trans p5 (PG_up (by omega))⟩
/-- the reference closes a call -/
theorem cc_ok {t : iS} {p o w I C C2 k : Nat} {s : iS} (h : TKR 0 F n N P s0 t0) (hL : LV s0 t0 N q s t p (o + 1) w I C2) (hl : t 121 51 = ((k + 1 : Nat) : Int)) (hk : k < 60) (hC : t 159 k = (C : Int)) (hC2 : C < 1000) : (s0 9 p = 41 → m_closeCall t = some (0, adt (up (up (up t 121 10 ((p + 1 : Nat) : Int)) 121 48 (o : Int)) 121 51 (k : Int)) I 10 (C : Int) 0 (t 150 C))) ∧ (s0 9 p ≠ 41 → ∃ t', m_closeCall t = some (0, t') ∧ RD t0 N P t' (if s0 9 p = 2 then 2 else 1) p 3100 ∧ PG t t' 0 0 0) := by
  have hN2 := N1001 h
  obtain ⟨h1, h2, h3, h4, h5, h6, h7, h8, h9, h10, h11, h12, h13, h14, h15, h16, h17⟩ := hL
  refine ⟨fun c => ?_, fun c => ?_⟩
  · unfold m_closeCall m_closeSign
    have e2 : up (up t 121 10 ((p + 1 : Nat) : Int)) 121 48 (o : Int) 150 C = t 150 C := by rw [up_ne (by omega), up_ne (by omega)]
    rw [rNs h h2 h6 h4 h5 (by omega), if_pos c, bq, lt_eq, bq, up_ne (show ¬ (121 = 121 ∧ 48 = 10) by omega), h8, show ((o + 1 : Nat) : Int) - 1 = (o : Int) by omega, cc_core (k := k) (C := C) (by rw [up_ne (by omega), up_ne (by omega)]; exact hl) hk (by rw [up_ne (by omega), up_ne (by omega)]; exact hC) hC2, e2, mad_ok (I := I) (by rw [up_ne (by omega), up_ne (by omega), up_ne (by omega)]; exact h13) (by omega), bq]
  · unfold m_closeCall m_closeSign
    rw [rNs h h2 h6 h4 h5 (by omega), if_neg c, bq, lt_eq, bq, flt_ne (by omega), h8, cc_core (k := k) (C := C) (by rw [up_ne (by omega), flt_ne (by omega)]; exact hl) hk (by rw [up_ne (by omega), flt_ne (by omega)]; exact hC) hC2]
    obtain ⟨I', e1, e2, e3, e4⟩ := RD_add (a := 10) (b' := (C : Int)) (c := 0) (d := up (flt t (if s0 9 p = 2 then 2 else 1) P p) 121 48 (((o + 1 : Nat) : Int) - 1) 150 C) (RD_up (x := (k : Int)) (RD_48 (x := ((o + 1 : Nat) : Int) - 1) (flt_RD (f := if s0 9 p = 2 then 2 else 1) (M := 3050) h2 h4 h5 h13 (by omega) (by omega)) (by omega)) (Or.inr (Or.inl rfl))) (by omega)
    rw [e2, bq]
    exact ⟨_, rfl, RD_mono e3 (by omega), PG0_trans (PG0_trans (PG0_trans flt_PG (PG_up (by omega))) (PG_up (by omega))) e4⟩
end EXd
