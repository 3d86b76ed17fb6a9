/-! statements: what goes on behind a fault -/
def RHS (R : List itm → iS → Prop) (b : Int) (fv : Nat → Int) (s0 : iS) (N : Nat) (P : Nat → Nat) : Prop :=
  (b = 0 → ∀ l s x, R l s → R l (up s 14 12 x)) ∧
  (∀ l s (j : Nat), R l s → j < N → (s0 9 j = 272 ∨ s0 9 j = 273 ∨ s0 9 j = 275 ∨ s0 9 j = 276) → ∃ s1, prg_markNext (P j : Int) s = some (0, s1) ∧ R (l ++ [(11, 0, 0, (j : Int))]) s1 ∧ MD s s1) ∧
  (∀ l s (j : Nat), R l s → SC s0 s → j + 1 < N → s0 9 j = 271 → s0 9 (j + 1) = 3 → ∃ s1 s2, prg_markNext (P j : Int) s = some (0, s1) ∧ trl_findVariable ((j + 1 : Nat) : Int) (up s1 2 12 ((j + 1 : Nat) : Int)) = some (fv (j + 1), up s1 2 12 ((j + 1 : Nat) : Int)) ∧ trl_checkVariable (fv (j + 1)) ((j + 1 : Nat) : Int) (up s1 2 12 ((j + 1 : Nat) : Int)) = some (0, s2) ∧ R (l ++ [(11, 0, 0, (j : Int))]) s2 ∧ MD (up s 2 12 ((j + 1 : Nat) : Int)) s2) ∧
  (∀ l s (j : Nat), R l s → SC s0 s → (11, 0, 0, (j : Int)) ∈ l → j + 1 < N → s0 9 j = 271 → s0 9 (j + 1) = 3 → ∃ s1, trl_addVariable 0 (fv (j + 1)) s = some (0, s1) ∧ R (l ++ [(4, 0, 0, ((j + 1 : Nat) : Int))]) s1 ∧ MD s s1) ∧
  (∀ l s (j : Nat), R l s → SC s0 s → (11, 0, 0, (j : Int)) ∈ l → j + 1 < N → s0 9 j = 271 → s0 9 (j + 1) = 3 → ∃ s1, trl_addVariable 1 (fv (j + 1)) s = some (0, s1) ∧ R (l ++ [(13, 0, 0, ((j + 1 : Nat) : Int))]) s1 ∧ MD s s1) ∧
  (∀ l s j, R l s → ∃ s1 s2 s3 s4, prg_add 1 7 0 s = some (0, s1) ∧ prg_add 1 6 1 s1 = some (0, s2) ∧ prg_add 0 7 0 s2 = some (0, s3) ∧ prg_add 1 5 0 s3 = some (0, s4) ∧ R (l ++ [(14, 0, 0, j)]) s4 ∧ MD s s4) ∧
  (∀ l s j, R l s → ∃ s1, prg_add 1 7 0 s = some (0, s1) ∧ R (l ++ [(19, 0, 0, j)]) s1 ∧ MD s s1) ∧
  (∀ l s j, R l s → ∃ s1, prg_add 16 0 0 s = some (0, s1) ∧ R (l ++ [(18, 0, 0, j)]) s1 ∧ MD s s1) ∧
  (∀ l s j (lab : Nat), R l s → lab < 1000 → ∃ s1 s2 s3, prg_add 0 0 0 s = some (0, s1) ∧ prg_add 8 0 0 s1 = some (0, s2) ∧ prg_add 13 (lab : Int) 0 s2 = some (0, s3) ∧ R (l ++ [(15, 0, (lab : Int), j)]) s3 ∧ MD s s3) ∧
  (∀ l s x j (lab : Nat), R l s → lab < 1000 → ∃ s1, prg_add 12 (lab : Int) 0 s = some (0, s1) ∧ R (l ++ [(16, x, (lab : Int), j)]) s1 ∧ MD s s1) ∧
  (∀ l s j (lab : Nat), R l s → lab < 1000 → ∃ s1, prg_add 11 (lab : Int) 0 s = some (0, s1) ∧ R (l ++ [(20, (lab : Int), 0, j)]) s1 ∧ MD s s1) ∧
  (∀ l s (j : Nat), R l s → j < N → ∃ s1, prg_markNext (P j : Int) s = some (0, s1) ∧ R (l ++ [(17, 0, 0, (j : Int))]) s1 ∧ MD s s1) ∧
  (∀ l s j, R l s → R (l ++ [(12, 0, 0, j)]) s)
/-- the class goes on behind a fault -/
def CT (s0 : iS) (N : Nat) (k : iS → Option (Int × iS)) : Prop := ∀ s f u, ft f u N → CD s0 N s f u → ∃ r s', k s = some (r, s') ∧ CD s0 N s' f u
/-- the reference goes on behind a fault, with at most d items more -/
def RT (t0 : iS) (N : Nat) (P : Nat → Nat) (k : iS → Option (Int × iS)) (d : Nat) : Prop := ∀ t f u M, ft f u N → RD t0 N P t f u M → M + d < 4000 → ∃ r t', k t = some (r, t') ∧ RD t0 N P t' f u (M + d) ∧ PS t t' 0 0 0
/-- a dead pair: at most M items -/
def DM (M : Nat) (b : Int) (s0 t0 : iS) (N : Nat) (P : Nat → Nat) (t t1 : iS) (cl : Option (Int × iS)) : Prop := ∃ f u, ft f u N ∧ RD t0 N P t1 f u M ∧ PS t t1 0 0 0 ∧ (b = 0 → ∃ r s', cl = some (r, s') ∧ CD s0 N s' f u)
section STb
variable {F : Nat → Int} {n N : Nat} {P : Nat → Nat} {s0 t0 : iS} {R : List itm → iS → Prop} {b q : Int} {fv : Nat → Int}
theorem CT_some {v : Int} : CT s0 N (fun s => some (v, s)) := fun s f u _ h => ⟨v, s, rfl, h⟩
theorem CT_bd {k1 k2 : iS → Option (Int × iS)} (h1 : CT s0 N k1) (h2 : CT s0 N k2) : CT s0 N (fun s => bd (k1 s) (fun _ s' => k2 s')) := by
  intro s f u hf hd
  obtain ⟨r, s', e, hd'⟩ := h1 s f u hf hd
  obtain ⟨r2, s2, e2, hd2⟩ := h2 s' f u hf hd'
  exact ⟨r2, s2, by show bd (k1 s) _ = _; rw [e, bq, e2], hd2⟩
theorem CT_up5 {k2 : iS → Option (Int × iS)} (h2 : CT s0 N k2) : CT s0 N (fun s => lt' (up s 22 5 ((s 22 5) - 1)) k2) := by
  intro s f u hf hd
  exact h2 _ f u hf (CD_up hd (Or.inl rfl))
theorem CT_ex (h : TKR 0 F n N P s0 t0) {c : Int} (hc : 0 ≤ c ∧ c < 400) : CT s0 N (tok_expect c) := fun s f u hf hd => ⟨0, s, cz_ex h hf hd hc, hd⟩
theorem CT_op (h : TKR 0 F n N P s0 t0) {c : Int} (hc : 0 ≤ c ∧ c < 400) : CT s0 N (trl_openSign c) := fun s f u hf hd => ⟨0, s, cz_open h hf hd hc, hd⟩
theorem CT_xp (h : TKR 0 F n N P s0 t0) {m : Nat} : CT s0 N (trlE (m + 2) 1 0 0 0) := fun s f u hf hd => ⟨0, s, cz_expr (m := m) h hf hd, hd⟩
theorem CT_pa {a b c : Int} : CT s0 N (prg_add a b c) := fun s f u hf hd => ⟨0, s, pad0 hd.2.2.2.2.2.1, hd⟩
theorem CT_av {k v : Int} (hv : -1 ≤ v ∧ v < 48) : CT s0 N (trl_addVariable k v) := fun s f u hf hd => ⟨0, s, av0 hd.2.2.2.2.2.1 hv, hd⟩
theorem CT_mk {x : Int} : CT s0 N (prg_markNext x) := by
  intro s f u hf hd
  obtain ⟨h1, h2, h3, h4, h5, h6, h7⟩ := hd
  refine ⟨0, up s 14 12 x, by unfold prg_markNext; rw [lt_eq], SC_up h1 (by omega), ?_, ?_, ?_, ?_, ?_, ?_⟩
  · rw [up_ne (by omega)]; exact h2
  · rw [up_ne (by omega)]; exact h3
  · rw [up_ne (by omega)]; exact h4
  · rw [up_ne (by omega)]; exact h5
  · rw [up_ne (by omega)]; exact h6
  · unfold SBo at h7 ⊢
    rw [up_ne (by omega), up_ne (by omega), up_ne (by omega), up_ne (by omega)]
    exact h7
theorem RT_some {v : Int} : RT t0 N P (fun t => some (v, t)) 0 := fun t f u M _ h _ => ⟨v, t, rfl, h, PS_refl⟩
theorem RT_bd {k1 k2 : iS → Option (Int × iS)} {d1 d2 : Nat} (h1 : RT t0 N P k1 d1) (h2 : RT t0 N P k2 d2) : RT t0 N P (fun t => bd (k1 t) (fun _ t' => k2 t')) (d1 + d2) := by
  intro t f u M hf hd hM
  obtain ⟨r, t', e, hd', hp⟩ := h1 t f u M hf hd (by omega)
  obtain ⟨r2, t2, e2, hd2, hp2⟩ := h2 t' f u (M + d1) hf hd' (by omega)
  exact ⟨r2, t2, by show bd (k1 t) _ = _; rw [e, bq, e2], RD_mono hd2 (by omega), PS0_trans hp hp2⟩
theorem RT_ns (h : TKR 0 F n N P s0 t0) {c : Int} (hc : 33 ≤ c ∧ c ≤ 126) : RT t0 N P (m_needSign c) 0 := fun t f u M hf hd _ => ⟨0, t, RD_ns h hf hd hc, hd, PS_refl⟩
theorem RT_cs (h : TKR 0 F n N P s0 t0) {c : Int} (hc : 33 ≤ c ∧ c ≤ 126) : RT t0 N P (m_closeSign c) 1 := fun t f u M hf hd _ => ⟨0, _, RD_cs h hf hd hc, RD_48 (RD_mono hd (Nat.le_succ M)) (by have := hd.2.2.2.2.2; omega), PS_up (by omega)⟩
theorem RT_xp : RT t0 N P m_expression 0 := fun t f u M hf hd _ => ⟨0, t, xpD (by have := hd.2.2.1; omega), hd, PS_refl⟩
theorem RT_ad {a b c d : Int} : RT t0 N P (m_add a b c d) 1 := by
  intro t f u M hf hd hM
  obtain ⟨I, e1, e2, e3, e4⟩ := RD_add (a := a) (b' := b) (c := c) (d := d) hd (by omega)
  exact ⟨_, _, e2, e3, PS_PG (K := 0) e4⟩
theorem RT_go : RT t0 N P m_go 0 := fun t f u M hf hd _ => ⟨0, t, rGoD (by have := hd.2.2.1; omega), hd, PS_refl⟩
/-- a dead pair's class goes on -/
theorem DM_c {M : Nat} {t t1 : iS} {cl : Option (Int × iS)} {k : iS → Option (Int × iS)} (h : DM M b s0 t0 N P t t1 cl) (hk : CT s0 N k) : DM M b s0 t0 N P t t1 (bd cl (fun _ s => k s)) := by
  obtain ⟨f, u, h1, h2, h3, h4⟩ := h
  refine ⟨f, u, h1, h2, h3, fun hb => ?_⟩
  obtain ⟨r, s', e, hd⟩ := h4 hb
  obtain ⟨r2, s2, e2, hd2⟩ := hk s' f u h1 hd
  exact ⟨r2, s2, by rw [e, bq, e2], hd2⟩
/-- a dead pair's reference goes on -/
theorem DM_r {M d : Nat} {t t1 : iS} {cl : Option (Int × iS)} {k : iS → Option (Int × iS)} (h : DM M b s0 t0 N P t t1 cl) (hk : RT t0 N P k d) (hM : M + d < 4000) : ∃ r t2, k t1 = some (r, t2) ∧ DM (M + d) b s0 t0 N P t t2 cl := by
  obtain ⟨f, u, h1, h2, h3, h4⟩ := h
  obtain ⟨r, t2, e, e2, e3⟩ := hk t1 f u M h1 h2 hM
  exact ⟨r, t2, e, f, u, h1, e2, PS0_trans h3 e3, h4⟩
theorem DM_mono {M M' : Nat} {t t1 : iS} {cl : Option (Int × iS)} (h : DM M b s0 t0 N P t t1 cl) (hM : M ≤ M') : DM M' b s0 t0 N P t t1 cl := by
  obtain ⟨f, u, h1, h2, h3, h4⟩ := h
  exact ⟨f, u, h1, RD_mono h2 hM, h3, h4⟩
/-- the class's answer, otherwise written -/
theorem DM_eq {M : Nat} {t t1 : iS} {cl cl' : Option (Int × iS)} (h : DM M b s0 t0 N P t t1 cl) (e : b = 0 → cl' = cl) : DM M b s0 t0 N P t t1 cl' := by
  obtain ⟨f, u, h1, h2, h3, h4⟩ := h
  exact ⟨f, u, h1, h2, h3, fun hb => by rw [e hb]; exact h4 hb⟩
/-- a sign that must come -/
theorem g_need (h : TKR 0 F n N P s0 t0) (hR : RHE R b fv s0 N) {s1 t1 t : iS} {p I C B p1 o1 w1 C1 lb B1 : Nat} {l l1 : List itm} {c : Int} (g : GS R s0 t0 N q s1 t1 t p I C B l p1 o1 w1 C1 lb B1 l1) (hc : 33 ≤ c ∧ c ≤ 126) : (s0 9 p1 = c ∧ p1 + 1 < N ∧ tok_expect c s1 = some (0, up s1 2 12 ((p1 + 1 : Nat) : Int)) ∧ m_needSign c t1 = some (0, up t1 121 10 ((p1 + 1 : Nat) : Int))) ∨ (∃ t2, m_needSign c t1 = some (0, t2) ∧ DM 3010 b s0 t0 N P t t2 (tok_expect c s1)) := by
  have hN2 := N1001 h
  obtain ⟨a1, a2, a3, a4, a5, a6, a7, a8, a9, a10, a11⟩ := g
  have a1' := a1
  obtain ⟨h1, h2, h3, h4, h5, h6, h7, h8, h9, h10, h11, h12, h13, h14, h15, h16, h17⟩ := a1
  have N0 := rNs h h2 h6 h4 h5 hc
  by_cases k : s0 9 p1 = c
  · rw [if_pos k] at N0
    exact Or.inl ⟨k, tkL h h5 (by omega), cEx h h1 h3 h5 (by omega) k, N0⟩
  · rw [if_neg k] at N0
    have hf : (if s0 9 p1 = 2 then (2 : Int) else 1) = 1 ∨ (if s0 9 p1 = 2 then (2 : Int) else 1) = 2 := by split <;> omega
    refine Or.inr ⟨_, N0, _, p1, ⟨hf, h5⟩, flt_RD h2 h4 h5 h13 (by omega) (by omega), PS0_trans (PS_0 a11) (PS_PG (K := 0) flt_PG), fun hb => ?_⟩
    obtain ⟨y1, y2, y3⟩ := hR.2.1 _ s1 a9
    obtain ⟨y4, y5⟩ := y3 hb
    exact ⟨0, _, cEx0 h h1 y4 h3 h5 (by omega) k, stp_CD h1 (by rw [y1, hb]) y5 y2⟩
/-- a sign that opens -/
theorem g_open (h : TKR 0 F n N P s0 t0) (hR : RHE R b fv s0 N) {s1 t1 t : iS} {p I C B p1 o1 w1 C1 lb B1 : Nat} {l l1 : List itm} {c : Int} (g : GS R s0 t0 N q s1 t1 t p I C B l p1 o1 w1 C1 lb B1 l1) (hc : 33 ≤ c ∧ c ≤ 126) : (p1 + 1 < N ∧ o1 < 25 ∧ trl_openSign c s1 = some (0, up (up s1 22 5 ((o1 + 1 : Nat) : Int)) 2 12 ((p1 + 1 : Nat) : Int)) ∧ m_openSign c t1 = some (0, up (up t1 121 48 ((o1 + 1 : Nat) : Int)) 121 10 ((p1 + 1 : Nat) : Int))) ∨ (∃ t2, m_openSign c t1 = some (0, t2) ∧ DM 3010 b s0 t0 N P t t2 (trl_openSign c s1)) := by
  have hN2 := N1001 h
  obtain ⟨a1, a2, a3, a4, a5, a6, a7, a8, a9, a10, a11⟩ := g
  have a1' := a1
  obtain ⟨h1, h2, h3, h4, h5, h6, h7, h8, h9, h10, h11, h12, h13, h14, h15, h16, h17⟩ := a1
  by_cases k : s0 9 p1 = c
  · by_cases co : o1 = 25
    · refine Or.inr ⟨_, rOpF h h2 h6 h4 h5 h8 co hc k, 2, p1, ⟨Or.inr rfl, h5⟩, flt_RD (SR_up h2 (by omega)) (by rw [up_ne (by omega)]; exact h4) h5 (by rw [up_ne (by omega)]; exact h13) (by omega) (by rw [up_same]; omega), PS0_trans (PS_0 a11) (PS0_trans (PS_up (by omega)) (PS_PG (K := 0) flt_PG)), fun hb => ?_⟩
      obtain ⟨y1, y2, y3⟩ := hR.2.1 _ s1 a9
      obtain ⟨y4, y5⟩ := y3 hb
      exact ⟨0, _, cOpF h h1 y4 h3 h5 h7 co hc k, stp_CD h1 (by rw [y1, hb]) y5 y2⟩
    · exact Or.inl ⟨tkL h h5 (by omega), by omega, cOp h h1 h3 h5 h7 (by omega) hc k, rOp h h2 h6 h4 h5 h8 (by omega) hc k⟩
  · have hf : (if s0 9 p1 = 2 then (2 : Int) else 1) = 1 ∨ (if s0 9 p1 = 2 then (2 : Int) else 1) = 2 := by split <;> omega
    refine Or.inr ⟨_, rOpN h h2 h6 h4 h5 hc k, _, p1, ⟨hf, h5⟩, flt_RD h2 h4 h5 h13 (by omega) (by omega), PS0_trans (PS_0 a11) (PS_PG (K := 0) flt_PG), fun hb => ?_⟩
    obtain ⟨y1, y2, y3⟩ := hR.2.1 _ s1 a9
    obtain ⟨y4, y5⟩ := y3 hb
    exact ⟨0, _, cOpN h h1 y4 h3 h5 hc k, stp_CD h1 (by rw [y1, hb]) y5 y2⟩
/-- a sign that closes -/
theorem g_close (h : TKR 0 F n N P s0 t0) (hR : RHE R b fv s0 N) {s1 t1 t : iS} {p I C B p1 o1 w1 C1 lb B1 : Nat} {l l1 : List itm} {c : Int} (g : GS R s0 t0 N q s1 t1 t p I C B l p1 (o1 + 1) w1 C1 lb B1 l1) (hc : 33 ≤ c ∧ c ≤ 126) : (s0 9 p1 = c ∧ p1 + 1 < N ∧ (∀ G : iS → Option (Int × iS), bd (tok_expect c s1) (fun _ s10 => lt' (up s10 22 5 ((s10 22 5) - 1)) G) = G (up (up s1 2 12 ((p1 + 1 : Nat) : Int)) 22 5 (o1 : Int))) ∧ m_closeSign c t1 = some (0, up (up t1 121 10 ((p1 + 1 : Nat) : Int)) 121 48 (o1 : Int))) ∨ (∃ t2, m_closeSign c t1 = some (0, t2) ∧ ∀ G : iS → Option (Int × iS), CT s0 N G → DM 3020 b s0 t0 N P t t2 (bd (tok_expect c s1) (fun _ s10 => lt' (up s10 22 5 ((s10 22 5) - 1)) G))) := by
  have g' := g
  obtain ⟨a1, a2, a3, a4, a5, a6, a7, a8, a9, a10, a11⟩ := g
  have a1' := a1
  obtain ⟨h1, h2, h3, h4, h5, h6, h7, h8, h9, h10, h11, h12, h13, h14, h15, h16, h17⟩ := a1
  have C0 := cl_sign h a1' hc
  rcases g_need h hR g' hc with ⟨k, hp, e1, e2⟩ | ⟨t2, e1, e2⟩
  · rw [if_pos k] at C0
    exact Or.inl ⟨k, hp, fun G => cc_sign h a1' hc k, C0⟩
  · unfold m_closeSign at C0 ⊢
    rw [e1, bq, lt_eq] at C0 ⊢
    refine Or.inr ⟨_, rfl, fun G hG => ?_⟩
    have D1 := DM_c e2 (CT_up5 hG)
    obtain ⟨f, u, d1, d2, d3, d4⟩ := D1
    exact ⟨f, u, d1, RD_48 (RD_mono d2 (by omega)) (by have := d2.2.2.2.2.2; omega), PS0_trans d3 (PS_up (by omega)), d4⟩
end STb
