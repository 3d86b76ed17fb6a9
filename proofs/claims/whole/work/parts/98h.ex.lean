/-! expressions: the class behind a fault; opening and closing -/
theorem fiD {c a b M : Nat} {s : iS} {j f e : Int} (h8 : 0 ≤ s 2 8 ∧ s 2 8 ≤ 2001) (hm : 0 ≤ s c 2 ∧ s c 2 ≤ (M : Int)) (hM : M < 1000000) (hj : -1 ≤ j ∧ j < 1000000) (hf : 0 ≤ f ∧ f < 1000000) (he : 0 ≤ e ∧ e < 1000000) : ∃ r, tok_findIn c a b M j f e s = some (r, s) ∧ (r = -1 ∨ f ≤ r ∧ r < e ∧ r < s c 2) := by
  unfold tok_findIn
  rw [gr (by omega)]
  by_cases c1 : j < 0
  · rw [if_pos c1]
    exact ⟨-1, rfl, Or.inl rfl⟩
  rw [if_neg c1, gr (by omega)]
  by_cases c2 : j < s 2 8
  case neg =>
    rw [if_neg c2]
    exact ⟨-1, rfl, Or.inl rfl⟩
  rw [if_pos c2, min_ok ⟨by omega, by omega⟩ ⟨by omega, by omega⟩, bq, max_ok (by decide) ⟨by omega, by omega⟩, bq]
  have e2 : (if (0 : Int) < f then f else 0) = f := by split <;> omega
  rw [e2]
  obtain ⟨E, hE1, hE2, hE3, hE4⟩ : ∃ E : Int, (if s c 2 < e then s c 2 else e) = E ∧ E ≤ e ∧ E ≤ s c 2 ∧ 0 ≤ E := by
    by_cases q : s c 2 < e
    · exact ⟨s c 2, by rw [if_pos q], by omega, by omega, by omega⟩
    · exact ⟨e, by rw [if_neg q], by omega, by omega, by omega⟩
  rw [hE1]
  unfold tok_findIn_32
  obtain ⟨x, hx, hx2⟩ : Wp (lp (L := Int × iS) (E := (Int × iS) ⊕ (iS)) (fun l => tok_findIn_32b c a b M j E (l.1) (l.2)) (f, s)) (fun x => (x = .inr s) ∨ ∃ r, x = .inl (r, s) ∧ f ≤ r ∧ r < E) := by
    refine wp_lp (fun l : Int × iS => f ≤ l.1 ∧ l.1 < 1000001 ∧ l.2 = s) (fun l => (1000001 - l.1).toNat) ?_ ⟨Int.le_refl _, by show f < 1000001; omega, rfl⟩
    rintro ⟨v, u⟩ ⟨i1, i2, i3⟩
    simp only at i1 i2 i3
    subst i3
    simp only [tok_findIn_32b]
    rw [gr (by omega), gr (by omega), wp_ite]
    refine ⟨fun g => wp_some.mpr (Or.inl rfl), fun g => ?_⟩
    rw [gd_pos (by omega), gd_pos (by omega), gd_pos (show rg (l_cmp _ _) from ⟨Int32.le_toInt _, Int32.toInt_lt _⟩), gd_pos (show rg (l_cmp _ _) from ⟨Int32.le_toInt _, Int32.toInt_lt _⟩), wp_ite]
    refine ⟨fun g1 => ?_, fun g1 => wp_some.mpr ⟨⟨by simp only; omega, by simp only; omega, rfl⟩, by simp only; omega⟩⟩
    rw [wp_ite]
    exact ⟨fun g2 => wp_some.mpr (Or.inr ⟨v, rfl, i1, by omega⟩), fun g2 => wp_some.mpr ⟨⟨by simp only; omega, by simp only; omega, rfl⟩, by simp only; omega⟩⟩
  rw [hx, bn]
  rcases hx2 with rfl | ⟨r, rfl, q1, q2⟩
  · exact ⟨-1, rfl, Or.inl rfl⟩
  · exact ⟨r, rfl, Or.inr ⟨q1, by omega, by omega⟩⟩
section CDs
variable {F : Nat → Int} {n N : Nat} {P : Nat → Nat} {s0 t0 s t : iS} {p u : Nat} {f : Int}
theorem fv_tot {j : Int} (h8 : 0 ≤ s 2 8 ∧ s 2 8 ≤ 2001) (hb : SBo s) (hj : -1 ≤ j ∧ j < 1000000) : ∃ v, trl_findVariable j s = some (v, s) ∧ -1 ≤ v ∧ v < 48 := by
  obtain ⟨b1, _, _, b4⟩ := hb
  unfold trl_findVariable
  obtain ⟨r, e1, e2⟩ := fiD (c := 33) (a := 34) (b := 35) (M := 48) (s := s) (j := j) (f := s 23 15) (e := 48) h8 b1 (by decide) hj ⟨by omega, by omega⟩ (by decide)
  rw [e1, bq, gr (by omega)]
  by_cases c : r = -1
  · rw [if_pos c]
    obtain ⟨r2, e3, e4⟩ := fiD (c := 33) (a := 34) (b := 35) (M := 48) (s := s) (j := j) (f := 0) (e := s 23 15) h8 b1 (by decide) hj (by decide) ⟨by omega, by omega⟩
    rw [e3, bq]
    exact ⟨r2, rfl, by omega, by omega⟩
  · rw [if_neg c]
    exact ⟨r, rfl, by omega, by omega⟩
theorem pad0 (h : s 14 7 = 0) {a b c : Int} : prg_add a b c s = some (0, s) := by
  unfold prg_add
  rw [gr (by omega), if_pos h]
theorem pai0 (h : s 14 7 = 0) {a : Int} : prg_aim a s = some (0, s) := by
  unfold prg_aim
  rw [gr (by omega), if_pos h]
theorem cv0 (h : s 22 4 = 0) {v j : Int} : trl_checkVariable v j s = some (0, s) := by
  unfold trl_checkVariable trl_checkVariable_24
  rw [gr (by omega), if_pos h, gr (by omega), if_pos h]
theorem at0 (h : s 22 4 = 0) {j : Int} : trl_askForThis j s = some (0, s) := by
  unfold trl_askForThis
  rw [gr (by omega), if_pos h]
theorem av0 (h : s 14 7 = 0) {k v : Int} (hv : -1 ≤ v ∧ v < 48) : trl_addVariable k v s = some (0, s) := by
  unfold trl_addVariable
  rw [gr (by omega)]
  by_cases c : v < 0
  · rw [if_pos c]
  · rw [if_neg c, if_neg (by omega), gd_pos (by omega), pad0 h, bq, pai0 h, bq]
theorem rc0 (h : s 22 4 = 0) {G : Nat → Int → Int → Int → iS → Option (Int × iS)} {a b c d e : Int} : trl_readCall_185 G a b c d e s = some (0, s) := by
  unfold trl_readCall_185
  rw [gr (by omega), if_pos h]
theorem ow0 (h : s 22 4 = 0) (h8 : 0 ≤ s 2 8 ∧ s 2 8 ≤ 2001) (hb : SBo s) {v j : Int} (hv : -1 ≤ v ∧ v < 48) (hj : -1 ≤ j ∧ j < 1000000) : ∃ r, trl_ownerOf v j s = some (r, s) := by
  obtain ⟨_, b2, _, _⟩ := hb
  unfold trl_ownerOf
  rw [gr (by omega)]
  by_cases c : v = -1
  · rw [if_pos c]
    obtain ⟨r, e1, _⟩ := fiD (c := 24) (a := 25) (b := 26) (M := 20) (s := s) (j := j) (f := 0) (e := 20) h8 b2 (by decide) hj (by decide) (by decide)
    rw [e1, bq, gr (by omega), if_pos h]
    exact ⟨r, rfl⟩
  · rw [if_neg c, gd_pos (by omega)]
    exact ⟨_, rfl⟩
theorem CD_up {k : Nat} {x : Int} (h : CD s0 N s f u) (hk : k = 5 ∨ k = 6 ∨ k = 7) : CD s0 N (up s 22 k x) f u := by
  obtain ⟨h1, h2, h3, h4, h5, h6, h7⟩ := h
  refine ⟨SC_up h1 (by omega), ?_, ?_, ?_, ?_, ?_, ?_⟩
  · rw [up_ne (by omega)]; exact h2
  · rw [up_ne (by omega)]; exact h3
  · rw [up_ne (by omega)]; exact h4
  · rw [up_ne (by omega)]; exact h5
  · rw [up_ne (by omega)]; exact h6
  · unfold SBo at h7 ⊢
    rw [up_ne (by omega), up_ne (by omega), up_ne (by omega), up_ne (by omega)]
    exact h7
theorem CD_8 (h : TKR 0 F n N P s0 t0) (hd : CD s0 N s f u) : 0 ≤ s 2 8 ∧ s 2 8 ≤ 2001 := by
  have := N1001 h
  rw [hd.1.2.2.2.2.2.2.1, h.2.2.2.1]
  omega
theorem cz_term (h : TKR 0 F n N P s0 t0) (hf : ft f u N) (hd : CD s0 N s f u) {m : Nat} {a b c : Int} : trlE (m + 1) 2 a b c s = some (0, s) := by
  obtain ⟨h1, h2, h3, _⟩ := hd
  rw [trlE_2]
  unfold trl_readTerm trl_readConstantTerm
  rw [cKD h h1 h2, bq, gr (by omega), if_neg (by omega), if_neg (by omega), if_neg (by omega), if_neg (by omega), if_neg (by omega), if_neg (by omega), cKD h h1 h2, bq, gr (by omega), if_neg (by omega), if_neg (by omega), if_neg (by omega), if_neg (by omega), cStD h h1 (by omega) h2, bq, bq]
theorem cz_expr (h : TKR 0 F n N P s0 t0) (hf : ft f u N) (hd : CD s0 N s f u) {m : Nat} {a b c : Int} : trlE (m + 2) 1 a b c s = some (0, s) := by
  rw [trlE_1]
  unfold trl_readExpression
  rw [cz_term h hf hd, bq]
  unfold trl_readExpression_6
  rw [lp_end (f := fun l : Int × iS => trl_readExpression_6b (trlE (m + 1)) (l.1) (l.2)) (l := (0, s)) (e := s) (by
    show trl_readExpression_6b (trlE (m + 1)) 0 s = _
    unfold trl_readExpression_6b
    rw [gr (by omega), if_neg (by omega), cKD h hd.1 hd.2.1, bq, cop (by omega), bq, if_neg (by decide), gr (by omega), if_pos rfl]), bn]
theorem cz_args (h : TKR 0 F n N P s0 t0) (hf : ft f u N) (hd : CD s0 N s f u) {m : Nat} {a b c : Int} : trlE (m + 3) 5 a b c s = some (1, s) := by
  rw [trlE_5]
  unfold trl_readArguments
  rw [cKD h hd.1 hd.2.1, bq, gr (by omega), if_neg (by omega), cz_expr h hf hd, bq]
  unfold trl_readArguments_22
  rw [lp_end (f := fun l : Int × Int × iS => trl_readArguments_22b (trlE (m + 2)) (l.1) (l.2.1) (l.2.2)) (l := (1, 0, s)) (e := (1, s)) (by
    show trl_readArguments_22b (trlE (m + 2)) 1 0 s = _
    unfold trl_readArguments_22b
    rw [gr (by omega), if_neg (by omega), cKD h hd.1 hd.2.1, bq, gr (by omega), if_neg (by omega)]), bn]
theorem cz_open (h : TKR 0 F n N P s0 t0) (hf : ft f u N) (hd : CD s0 N s f u) {c : Int} (hc : 0 ≤ c ∧ c < 400) : trl_openSign c s = some (0, s) := by
  obtain ⟨h1, h2, h3, _⟩ := hd
  unfold trl_openSign
  rw [cKD h h1 h2, bq, gr (by omega), gr (by omega), if_neg (by omega), cStD h h1 (by omega) h2, bq]
theorem cz_ex (h : TKR 0 F n N P s0 t0) (hf : ft f u N) (hd : CD s0 N s f u) {c : Int} (hc : 0 ≤ c ∧ c < 400) : tok_expect c s = some (0, s) := cExD h hd.1 (by have := hd.2.2.1; omega) hd.2.1 hc
/-- the end of a call behind a fault -/
theorem cz_185 (h : TKR 0 F n N P s0 t0) (hd : CD s0 N s f u) {m : Nat} {v2 v3 v4 r : Int} (hv : b01 v2) (hv3 : -1 ≤ v3 ∧ v3 < 48) (hp : p < N) : (gd (rg v2) (if v2 = 0 then trl_readCall_185 (trlE m) (p : Int) v2 v4 r (s 23 11) s else bd (trl_ownerOf v3 (p : Int) s) (fun r7 s7 => trl_readCall_185 (trlE m) (p : Int) v2 v4 r r7 s7))) = some (0, s) := by
  have hN := N1001 h
  rw [gr (by omega)]
  by_cases c : v2 = 0
  · rw [if_pos c, rc0 hd.2.2.2.2.1]
  · obtain ⟨x, e⟩ := ow0 (v := v3) (j := (p : Int)) hd.2.2.2.2.1 (CD_8 h hd) hd.2.2.2.2.2.2 hv3 ⟨by omega, by omega⟩
    rw [if_neg c, e, bq, rc0 hd.2.2.2.2.1]
theorem cz_134 (h : TKR 0 F n N P s0 t0) (hf : ft f u N) (hd : CD s0 N s f u) {m : Nat} {v2 v3 v4 : Int} (hv : b01 v2) (hv3 : -1 ≤ v3 ∧ v3 < 48) (hp : p < N) : ∃ s', trl_readCall_134 (trlE (m + 3)) (p : Int) v2 v3 v4 s = some (0, s') ∧ CD s0 N s' f u := by
  unfold trl_readCall_134
  rw [cz_open h hf hd (by omega), bq, cz_args h hf hd, bq, cz_ex h hf hd (by omega), bq, lt_eq, cz_185 h (CD_up hd (Or.inl rfl)) hv hv3 hp]
  exact ⟨_, rfl, CD_up hd (Or.inl rfl)⟩
theorem cz_92 (h : TKR 0 F n N P s0 t0) (hf : ft f u N) (hd : CD s0 N s f u) {m : Nat} {v2 v3 v4 : Int} (hv : b01 v2) (hv3 : -1 ≤ v3 ∧ v3 < 48) (hp : p < N) : ∃ s', trl_readCall_92 (trlE (m + 3)) (p : Int) v2 v3 v4 s = some (0, s') ∧ CD s0 N s' f u := by
  unfold trl_readCall_92
  rw [gr (by omega)]
  by_cases c : v3 = -1
  · rw [if_pos c, gr (by omega)]
    by_cases c2 : v2 = 0
    · rw [if_pos c2, at0 hd.2.2.2.2.1, bq, pad0 hd.2.2.2.2.2.1, bq]
      exact cz_134 h hf hd hv hv3 hp
    · rw [if_neg c2]
      exact cz_134 h hf hd hv hv3 hp
  · rw [if_neg c, cv0 hd.2.2.2.2.1, bq, av0 hd.2.2.2.2.2.1 hv3, bq]
    exact cz_134 h hf hd hv hv3 hp
theorem cz_64 (h : TKR 0 F n N P s0 t0) (hf : ft f u N) (hd : CD s0 N s f u) {m : Nat} {v2 : Int} (hv : b01 v2) (hp : p < N) : ∃ s', trl_readCall_64 (trlE (m + 3)) (p : Int) v2 s = some (0, s') ∧ CD s0 N s' f u := by
  have hN := N1001 h
  obtain ⟨v, e1, e2⟩ := fv_tot (j := (p : Int)) (CD_8 h hd) hd.2.2.2.2.2.2 ⟨by omega, by omega⟩
  unfold trl_readCall_64 trl_readCall_77 trl_readCall_87
  rw [gr (by omega), gr (by omega)]
  by_cases c : v2 = 0
  · rw [if_pos c, if_pos c]
    exact cz_92 h hf hd hv (by omega) hp
  · rw [if_neg c, e1, bq, if_neg c, gr (by omega), gr (by omega)]
    by_cases c2 : v = -1
    · rw [if_pos c2]
      exact cz_92 h hf hd hv e2 hp
    · rw [if_neg c2]
      exact cz_92 h hf hd hv e2 hp
end CDs
section OC
variable {F : Nat → Int} {n N : Nat} {P : Nat → Nat} {s0 t0 s t : iS} {p o : Nat} {q : Int}
/-! opening -/
theorem cOp (h : TKR 0 F n N P s0 t0) (hs : SC s0 s) (hp : s 2 12 = (p : Int)) (hN : p < N) (ho : s 22 5 = (o : Int)) (ho2 : o < 25) {c : Int} (hc : 33 ≤ c ∧ c ≤ 126) (hk : s0 9 p = c) : trl_openSign c s = some (0, up (up s 22 5 ((o + 1 : Nat) : Int)) 2 12 ((p + 1 : Nat) : Int)) := by
  unfold trl_openSign
  rw [cK h hs hp hN, bq, gr (by omega), gr (by omega), if_pos hk, gr (by omega), if_pos (by omega), lt_eq, lt_eq, up_ne (by omega), hp, ho]
  rfl
theorem cOpF (h : TKR 0 F n N P s0 t0) (hs : SC s0 s) (hf : s 2 13 = 0) (hp : s 2 12 = (p : Int)) (hN : p < N) (ho : s 22 5 = (o : Int)) (ho2 : o = 25) {c : Int} (hc : 33 ≤ c ∧ c ≤ 126) (hk : s0 9 p = c) : trl_openSign c s = some (0, stp s 2 p N) := by
  unfold trl_openSign
  rw [cK h hs hp hN, bq, gr (by omega), gr (by omega), if_pos hk, gr (by omega), if_neg (by omega), cSt h hs hf hp hN, bq, if_neg (by omega)]
theorem cOpN (h : TKR 0 F n N P s0 t0) (hs : SC s0 s) (hf : s 2 13 = 0) (hp : s 2 12 = (p : Int)) (hN : p < N) {c : Int} (hc : 33 ≤ c ∧ c ≤ 126) (hk : s0 9 p ≠ c) : trl_openSign c s = some (0, stp s (if s0 9 p = 2 then 2 else 1) p N) := by
  have k := kRg h hN
  unfold trl_openSign
  rw [cK h hs hp hN, bq, gr (by omega), gr (by omega), if_neg hk, cSt h hs hf hp hN, bq]
theorem rOp (h : TKR 0 F n N P s0 t0) (hr : SR t0 t) (hf : t 121 11 = 0) (hp : t 121 10 = (p : Int)) (hN : p < N) (ho : t 121 48 = (o : Int)) (ho2 : o < 25) {c : Int} (hc : 33 ≤ c ∧ c ≤ 126) (hk : s0 9 p = c) : m_openSign c t = some (0, up (up t 121 48 ((o + 1 : Nat) : Int)) 121 10 ((p + 1 : Nat) : Int)) := by
  unfold m_openSign m_open
  rw [rS h hr hp hN hc, bq, if_pos hk, gr (by omega), if_neg (by omega), lt_eq, up_same, ho, gr (by omega), if_pos (by omega), bq, rGo (p := p) (by rw [up_ne (by omega)]; exact hf) (by rw [up_ne (by omega)]; exact hp), bq]
  rfl
theorem rOpF (h : TKR 0 F n N P s0 t0) (hr : SR t0 t) (hf : t 121 11 = 0) (hp : t 121 10 = (p : Int)) (hN : p < N) (ho : t 121 48 = (o : Int)) (ho2 : o = 25) {c : Int} (hc : 33 ≤ c ∧ c ≤ 126) (hk : s0 9 p = c) : m_openSign c t = some (0, flt (up t 121 48 26) 2 P p) := by
  have e1 : up t 121 48 26 121 11 = 0 := by rw [up_ne (by omega)]; exact hf
  have e2 : up t 121 48 26 121 10 = (p : Int) := by rw [up_ne (by omega)]; exact hp
  unfold m_openSign m_open
  rw [rS h hr hp hN hc, bq, if_pos hk, gr (by omega), if_neg (by omega), lt_eq, up_same, ho, ho2, gr (by omega), if_neg (by omega)]
  rw [show ((25 : Nat) : Int) + 1 = 26 from rfl, e2, rWr (SR_up hr (by omega)) h e1 hN, bq, bq, rGoD, bq]
  unfold flt
  rw [up_ne (by omega), up_same]
  omega
theorem rOpN (h : TKR 0 F n N P s0 t0) (hr : SR t0 t) (hf : t 121 11 = 0) (hp : t 121 10 = (p : Int)) (hN : p < N) {c : Int} (hc : 33 ≤ c ∧ c ≤ 126) (hk : s0 9 p ≠ c) : m_openSign c t = some (0, flt t (if s0 9 p = 2 then 2 else 1) P p) := by
  unfold m_openSign
  rw [rS h hr hp hN hc, bq, if_neg hk, gr (by omega), if_pos rfl, rSy h hr hf hp hN, bq]
theorem flt_SR {f : Int} (hr : SR t0 t) : SR t0 (flt t f P p) := SR_up (SR_up hr (by omega)) (by omega)
theorem flt_PG {f : Int} {I C K : Nat} : PG t (flt t f P p) I C K := PG_trans (PG_up (by omega)) (PG_up (by omega)) (Nat.le_refl _) (Nat.le_refl _) (Nat.le_refl _)
theorem flt_ne {f : Int} {c k : Nat} (h : ¬ (c = 121 ∧ (k = 11 ∨ k = 12))) : flt t f P p c k = t c k := by
  unfold flt
  rw [up_ne (by omega), up_ne (by omega)]
theorem flt_11 {f : Int} : flt t f P p 121 11 = f := by
  unfold flt
  rw [up_ne (by omega), up_same]
theorem flt_12 {f : Int} : flt t f P p 121 12 = (P p : Int) := by
  unfold flt
  rw [up_same]
/-- the reference stops -/
theorem flt_RD {f : Int} {I M : Nat} (hr : SR t0 t) (hp : t 121 10 = (p : Int)) (hN : p < N) (hI : t 121 33 = (I : Int)) (hM : I ≤ M) (h48 : -100 ≤ t 121 48 ∧ t 121 48 ≤ 100) : RD t0 N P (flt t f P p) f p M := by
  refine ⟨flt_SR hr, ⟨p, hN, ?_⟩, flt_11, flt_12, ⟨I, ?_, hM⟩, ?_⟩
  · rw [flt_ne (by omega)]; exact hp
  · rw [flt_ne (by omega)]; exact hI
  · rw [flt_ne (by omega)]; omega
theorem stp_CD {f : Int} (hs : SC s0 s) (h4 : s 22 4 = 0) (h7 : s 14 7 = 0) (hb : SBo s) : CD s0 N (stp s f p N) f p := by
  unfold stp
  refine ⟨SC_up (SC_up (SC_up hs (by omega)) (by omega)) (by omega), ?_, ?_, ?_, ?_, ?_, ?_⟩
  · rw [up_same]
  · rw [up_ne (by omega), up_ne (by omega), up_same]
  · rw [up_ne (by omega), up_same]
  · rw [up_ne (by omega), up_ne (by omega), up_ne (by omega)]; exact h4
  · rw [up_ne (by omega), up_ne (by omega), up_ne (by omega)]; exact h7
  · unfold SBo at hb ⊢
    simp only [up_ne (show ¬ (33 = 2 ∧ 2 = 12) by omega), up_ne (show ¬ (33 = 2 ∧ 2 = 14) by omega), up_ne (show ¬ (33 = 2 ∧ 2 = 13) by omega), up_ne (show ¬ (24 = 2 ∧ 2 = 12) by omega), up_ne (show ¬ (24 = 2 ∧ 2 = 14) by omega), up_ne (show ¬ (24 = 2 ∧ 2 = 13) by omega), up_ne (show ¬ (27 = 2 ∧ 2 = 12) by omega), up_ne (show ¬ (27 = 2 ∧ 2 = 14) by omega), up_ne (show ¬ (27 = 2 ∧ 2 = 13) by omega), up_ne (show ¬ (23 = 2 ∧ 15 = 12) by omega), up_ne (show ¬ (23 = 2 ∧ 15 = 14) by omega), up_ne (show ¬ (23 = 2 ∧ 15 = 13) by omega)]
    exact hb
/-- a level is put down -/
def psh (t : iS) (k : Nat) (a : Int) : iS := up (up (up t 157 k a) 158 k 0) 121 51 ((k + 1 : Nat) : Int)
theorem psh_ok {k : Nat} {a : Int} (h : t 121 51 = (k : Int)) (hk : k < 64) : m_push a t = some (0, psh t k a) := by
  unfold m_push psh
  simp only [lt_eq]
  rw [gd_pos (by omega), h, Int.toNat_natCast]
  have e1 : up t 157 k a 121 51 = (k : Int) := by rw [up_ne (by omega), h]
  rw [e1, Int.toNat_natCast, gd_pos (by omega), up_ne (by omega), e1]
  rfl
theorem psh_PG {k : Nat} {a : Int} {I C K : Nat} (h : K ≤ k) : PG t (psh t k a) I C K := PG_trans (PG_trans (PG_upr (by omega)) (PG_upr (by omega)) (Nat.le_refl _) (Nat.le_refl _) (Nat.le_refl _)) (PG_up (by omega)) (Nat.le_refl _) (Nat.le_refl _) (Nat.le_refl _)
theorem psh_ne {k c j : Nat} {a : Int} (h : ¬ (c = 121 ∧ j = 51)) (h2 : ¬ ((c = 157 ∨ c = 158) ∧ j = k)) : psh t k a c j = t c j := by
  unfold psh
  rw [up_ne h, up_ne (by omega), up_ne (by omega)]
theorem psh_51 {k : Nat} {a : Int} : psh t k a 121 51 = ((k + 1 : Nat) : Int) := up_same _ _ _ _
theorem psh_at {k : Nat} {a : Int} : psh t k a 157 k = a ∧ psh t k a 158 k = 0 := by
  unfold psh
  refine ⟨?_, ?_⟩
  · rw [up_ne (by omega), up_ne (by omega), up_same]
  · rw [up_ne (by omega), up_same]
end OC
