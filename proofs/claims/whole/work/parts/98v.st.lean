/-! statements: blocks -/
noncomputable def lS (v : Int) (t : iS) : Option iS := lp (L := Int × iS) (E := iS) (fun l => m_statements_7b (l.1) (l.2)) (v, t)
theorem stq (v : Int) (t : iS) : m_statements_7 v t = (lS v t).bind (fun e => some (0, e)) := by unfold m_statements_7 lS; rfl
abbrev stk (k : Int) : Prop := k = 271 ∨ k = 272 ∨ k = 273 ∨ k = 275 ∨ k = 276
section SL
variable {F : Nat → Int} {n N : Nat} {P : Nat → Nat} {s0 t0 t t' : iS} {r : Int} {p : Nat}
theorem lS_dead (hf : 0 < t 121 11 ∧ t 121 11 < 100) : lS 1 t = some t := by
  unfold lS
  refine lp_end ?_
  show m_statements_7b 1 t = _
  unfold m_statements_7b
  rw [gr (by omega), if_neg (by omega), gr (by omega), if_neg (by omega)]
theorem lS_0 : lS 0 t = some t := by
  unfold lS
  refine lp_end ?_
  show m_statements_7b 0 t = _
  unfold m_statements_7b
  rw [gr (by omega), if_pos rfl]
theorem lS_st (h : TKR 0 F n N P s0 t0) (hr : SR t0 t) (hf : t 121 11 = 0) (hp : t 121 10 = (p : Int)) (hN : p < N) (hk : s0 9 p ≠ 125) (hm : m_statement t = some (r, t')) : lS 1 t = lS 1 t' := by
  unfold lS
  refine lp_next ?_
  show m_statements_7b 1 t = _
  unfold m_statements_7b
  rw [gr (by omega), if_neg (by omega), gr (by omega), if_pos hf, rS h hr hp hN (by omega), bq, if_neg hk, gr (by omega), if_pos rfl, hm, bq]
theorem lS_cl (h : TKR 0 F n N P s0 t0) (hr : SR t0 t) (hf : t 121 11 = 0) (hp : t 121 10 = (p : Int)) (hN : p < N) (hk : s0 9 p = 125) {tc : iS} {B : Nat} (hc : m_closeSign 125 t = some (0, tc)) (hB : tc 121 55 = (B : Int)) (hB2 : B < 100) : (B = 0 → lS 1 t = some tc) ∧ (B ≠ 0 → ∀ r t', m_ends tc = some (r, t') → lS 1 t = lS 1 t') := by
  have e : m_statements_7b 1 t = gd (rg (tc 121 55)) (if (tc 121 55) = 0 then some (.inl (0, tc)) else bd (m_ends tc) (fun _ s11 => some (.inl (1, s11)))) := by
    unfold m_statements_7b
    rw [gr (by omega), if_neg (by omega), gr (by omega), if_pos hf, rS h hr hp hN (by omega), bq, if_pos hk, gr (by omega), if_neg (by omega), hc, bq]
  refine ⟨fun z => ?_, fun z r t' hm => ?_⟩
  · rw [gr (by omega), if_pos (by omega)] at e
    have : lS 1 t = lS 0 tc := by
      unfold lS
      exact lp_next (f := fun l : Int × iS => m_statements_7b (l.1) (l.2)) (l := (1, t)) e
    rw [this, lS_0]
  · rw [gr (by omega), if_neg (by omega), hm, bq] at e
    unfold lS
    exact lp_next (f := fun l : Int × iS => m_statements_7b (l.1) (l.2)) (l := (1, t)) e
end SL
theorem trlS_0 (n : Nat) (a b c : Int) (s : iS) : trlS (n + 1) 0 a b c s = trl_readStatements (trlS n) s := by rw [trlS, if_pos rfl]
theorem trlS_1 (n : Nat) (a b c : Int) (s : iS) : trlS (n + 1) 1 a b c s = trl_readIf (trlS n) s := by rw [trlS, if_neg (by decide), if_pos rfl]
theorem trlS_2 (n : Nat) (a b c : Int) (s : iS) : trlS (n + 1) 2 a b c s = trl_readBlock (trlS n) s := by rw [trlS, if_neg (by decide), if_neg (by decide), if_pos rfl]
theorem trlS_3 (n : Nat) (a b c : Int) (s : iS) : trlS (n + 1) 3 a b c s = trl_readWhile (trlS n) a s := by rw [trlS, if_neg (by decide), if_neg (by decide), if_neg (by decide), if_pos rfl]
/-- statements up to a token that begins none -/
def STM (R : List itm → iS → Prop) (b : Int) (s0 t0 : iS) (N : Nat) (P : Nat → Nat) (q : Int) (m : Nat) : Prop := ∀ (s t : iS) (p o w I C lb B : Nat) (l : List itm), LV s0 t0 N q s t p o w I C → R l s → s 22 7 = (lb : Int) → t 121 50 = (lb : Int) → t 121 55 = (B : Int) → 2 ≤ o → B ≤ o → lb + 2 ≤ p → 3 * (25 - o) + 4 ≤ m → (∃ s2 t2 p2 w2 C2 lb2 l2, trlS m 0 0 0 0 s = some (0, s2) ∧ lS 1 t = lS 1 t2 ∧ (¬ stk (s0 9 p2) ∧ GY s0 t2 1 o I p w lb p2 w2 lb2 l2) ∧ lb2 + 2 ≤ p2 ∧ GS R s0 t0 N q s2 t2 t p I C B l p2 o w2 C2 lb2 B l2) ∨ (∃ t2, lS 1 t = some t2 ∧ DM 3400 b s0 t0 N P t t2 (trlS m 0 0 0 0 s))
section STf
variable {F : Nat → Int} {n N : Nat} {P : Nat → Nat} {s0 t0 : iS} {R : List itm → iS → Prop} {b q : Int} {fv : Nat → Int}
theorem bS0 {v : Int} {s : iS} (hv : rg v) (h : ¬ stk v) : trl_beginsStatement v s = some (0, s) := by
  unfold trl_beginsStatement
  rw [gd_pos hv, if_neg (by omega), if_neg (by omega), if_neg (by omega), if_neg (by omega), if_neg (by omega)]
theorem bS1 {v : Int} {s : iS} (h : stk v) : trl_beginsStatement v s = some (1, s) := by
  unfold trl_beginsStatement
  rw [gr (by omega)]
  rcases h with h | h | h | h | h <;> subst h <;> rfl
theorem st2_nx {G : Nat → Int → Int → Int → iS → Option (Int × iS)} {v v' : Int} {s s' : iS} (h : trl_readStatements_2b G v s = some (.inl (v', s'))) : trl_readStatements_2 G v s = trl_readStatements_2 G v' s' := by
  unfold trl_readStatements_2
  rw [lp_next (f := fun l : Int × iS => trl_readStatements_2b G (l.1) (l.2)) (l := (v, s)) h]
theorem st2_en {G : Nat → Int → Int → Int → iS → Option (Int × iS)} {v : Int} {s s' : iS} (h : trl_readStatements_2b G v s = some (.inr s')) : trl_readStatements_2 G v s = some (0, s') := by
  unfold trl_readStatements_2
  rw [lp_end (f := fun l : Int × iS => trl_readStatements_2b G (l.1) (l.2)) (l := (v, s)) h, bn]
theorem cz_st {s : iS} {f : Int} {u : Nat} (h : TKR 0 F n N P s0 t0) (hd : CD s0 N s f u) {G : Nat → Int → Int → Int → iS → Option (Int × iS)} {v : Int} (hv : 0 ≤ v ∧ v < 100000) : trl_readStatements_2 G v s = some (0, s) := by
  refine st2_en ?_
  unfold trl_readStatements_2b
  rw [gr (by omega)]
  by_cases c : 1000 ≤ v
  · rw [if_pos c]
  · rw [if_neg c, cKD h hd.1 hd.2.1, bq, bS0 (by decide) (by decide), bq, gr (by omega), if_pos rfl]
theorem CT_st (h : TKR 0 F n N P s0 t0) {m : Nat} : CT s0 N (trlS (m + 1) 0 0 0 0) := fun s f u hf hd => ⟨0, s, by rw [trlS_0]; unfold trl_readStatements; exact cz_st h hd (by omega), hd⟩
theorem CT_bk (h : TKR 0 F n N P s0 t0) {m : Nat} : CT s0 N (trlS (m + 2) 2 0 0 0) := by
  intro s f u hf hd
  rw [trlS_2]
  unfold trl_readBlock
  exact CT_bd (CT_op (c := 123) h (by omega)) (CT_bd (CT_st h (m := m)) (CT_bd (CT_ex (c := 125) h (by omega)) (CT_up5 (CT_some (v := 0))))) s f u hf hd
/-- a block is put down -/
def blkp (t : iS) (B : Nat) (so lab hole fr : Int) : iS := up (up (up (up (up t 160 B so) 161 B lab) 162 B hole) 163 B fr) 121 55 ((B + 1 : Nat) : Int)
theorem blkp_ne {t : iS} {B c k : Nat} {so lab hole fr : Int} (h : ¬ (c = 121 ∧ k = 55)) (h2 : ¬ (160 ≤ c ∧ c ≤ 163 ∧ k = B)) : blkp t B so lab hole fr c k = t c k := by
  unfold blkp
  rw [up_ne h, up_ne (by omega), up_ne (by omega), up_ne (by omega), up_ne (by omega)]
theorem blkp_at {t : iS} {B : Nat} {so lab hole fr : Int} : blkp t B so lab hole fr 160 B = so ∧ blkp t B so lab hole fr 161 B = lab ∧ blkp t B so lab hole fr 162 B = hole ∧ blkp t B so lab hole fr 163 B = fr ∧ blkp t B so lab hole fr 121 55 = ((B + 1 : Nat) : Int) := by
  unfold blkp
  refine ⟨?_, ?_, ?_, ?_, up_same _ _ _ _⟩
  · rw [up_ne (by omega), up_ne (by omega), up_ne (by omega), up_ne (by omega), up_same]
  · rw [up_ne (by omega), up_ne (by omega), up_ne (by omega), up_same]
  · rw [up_ne (by omega), up_ne (by omega), up_same]
  · rw [up_ne (by omega), up_same]
theorem blkp_PS {t : iS} {B I C : Nat} {so lab hole fr : Int} : PS t (blkp t B so lab hole fr) I C B := by
  unfold blkp
  exact PS_trans (PS_trans (PS_trans (PS_trans (PS_upr (by omega)) (PS_upr (by omega)) (Nat.le_refl _) (Nat.le_refl _) (Nat.le_refl _)) (PS_upr (by omega)) (Nat.le_refl _) (Nat.le_refl _) (Nat.le_refl _)) (PS_upr (by omega)) (Nat.le_refl _) (Nat.le_refl _) (Nat.le_refl _)) (PS_up (by omega)) (Nat.le_refl _) (Nat.le_refl _) (Nat.le_refl _)
theorem blkp_ok {t : iS} {B : Nat} {so lab hole fr : Int} (hf : t 121 11 = 0) (hB : t 121 55 = (B : Int)) (hB2 : B < 64) : (gd (rg (t 121 11)) (if (t 121 11) ≤ 0 then gd (0 ≤ (t 121 55) ∧ (t 121 55) < 64) (lt' (up t 160 (t 121 55).toNat so) (fun s5 => gd (0 ≤ (s5 121 55) ∧ (s5 121 55) < 64) (lt' (up s5 161 (s5 121 55).toNat lab) (fun s7 => gd (0 ≤ (s7 121 55) ∧ (s7 121 55) < 64) (lt' (up s7 162 (s7 121 55).toNat hole) (fun s9 => gd (0 ≤ (s9 121 55) ∧ (s9 121 55) < 64) (lt' (up s9 163 (s9 121 55).toNat fr) (fun s11 => lt' (up s11 121 55 ((s11 121 55) + 1)) (fun s12 => some ((0 : Int), s12)))))))))) else some (0, t))) = some (0, blkp t B so lab hole fr) := by
  rw [hf, gr (by omega), if_pos (by omega)]
  simp only [lt_eq]
  rw [gd_pos (by omega), hB, Int.toNat_natCast]
  have e1 : up t 160 B so 121 55 = (B : Int) := by rw [up_ne (by omega), hB]
  rw [e1, Int.toNat_natCast, gd_pos (by omega)]
  have e2 : up (up t 160 B so) 161 B lab 121 55 = (B : Int) := by rw [up_ne (by omega), e1]
  rw [e2, Int.toNat_natCast, gd_pos (by omega)]
  have e3 : up (up (up t 160 B so) 161 B lab) 162 B hole 121 55 = (B : Int) := by rw [up_ne (by omega), e2]
  rw [e3, Int.toNat_natCast, gd_pos (by omega)]
  have e4 : up (up (up (up t 160 B so) 161 B lab) 162 B hole) 163 B fr 121 55 = (B : Int) := by rw [up_ne (by omega), e3]
  rw [e4]
  rfl
theorem mst_dead (h : TKR 0 F n N P s0 t0) {t : iS} {p : Nat} (hr : SR t0 t) (hf : t 121 11 = 0) (hp : t 121 10 = (p : Int)) (hN : p < N) (hk : ¬ stk (s0 9 p)) (h125 : s0 9 p ≠ 125) : lS 1 t = some (flt t (if s0 9 p = 2 then 2 else 1) P p) := by
  rw [lS_st h hr hf hp hN h125 (by rw [mst_no h hr hp hN hk, rSy h hr hf hp hN, bq])]
  exact lS_dead (by rw [flt_11]; split <;> omega)
/-- a block: from its { to behind its } -/
theorem blk_ok (h : TKR 0 F n N P s0 t0) (hR : RHE R b fv s0 N) {m : Nat} (hM : STM R b s0 t0 N P q m) {s1 t1 t : iS} {p I C B0 p1 o1 w1 C1 lb B : Nat} {l l1 : List itm} {so lab hole fr : Int} (g : GS R s0 t0 N q s1 t1 t p I C B0 l p1 o1 w1 C1 lb B l1) (ho : 2 ≤ o1) (hB : B ≤ o1) (hB0 : B0 ≤ B) (hlb : lb + 2 ≤ p1) (hfu : 3 * (25 - o1) + 1 ≤ m) (hm : 1 ≤ m) : (∃ s2 tb t2 p2 w2 C2 lb2 l2, trlS (m + 1) 2 0 0 0 s1 = some (0, s2) ∧ m_begins so lab hole fr t1 = some (0, tb) ∧ (∀ r t3, m_ends t2 = some (r, t3) → lS 1 tb = lS 1 t3) ∧ (p1 + 1 < p2 ∧ ∃ px, p2 = px + 1 ∧ GY s0 t2 1 (o1 + 1) (I + l1.length) (p1 + 1) w1 lb px w2 lb2 l2) ∧ lb2 + 2 ≤ p2 ∧ t2 160 B = so ∧ t2 161 B = lab ∧ t2 162 B = hole ∧ t2 163 B = fr ∧ PS t1 t2 (I + l1.length) C1 B ∧ GS R s0 t0 N q s2 t2 t p I C B0 l p2 o1 w2 C2 lb2 (B + 1) (l1 ++ l2) ∧ l2.length ≤ 3 * (p2 - 1 - p1)) ∨ (∃ tb t2, m_begins so lab hole fr t1 = some (0, tb) ∧ lS 1 tb = some t2 ∧ DM 3400 b s0 t0 N P t t2 (trlS (m + 1) 2 0 0 0 s1)) := by
  have hN2 := N1001 h
  rw [trlS_2]
  unfold trl_readBlock m_begins
  obtain ⟨m', rfl⟩ : ∃ m', m = m' + 1 := ⟨m - 1, by omega⟩
  have CTt : CT s0 N (fun s1 => bd (trlS (m' + 1) 0 0 0 0 s1) (fun _ s2 => bd (tok_expect 125 s2) (fun _ s3 => lt' (up s3 22 5 ((s3 22 5) - 1)) (fun s4 => some (0, s4))))) := CT_bd (CT_st h (m := m')) (CT_bd (CT_ex (c := 125) h (by omega)) (CT_up5 (CT_some (v := 0))))
  rcases g_open h hR g (c := 123) (by omega) with ⟨hp1, ho1, e1, e2⟩ | ⟨tx, e1, e2⟩
  case inr =>
    have D := DM_c e2 CTt
    obtain ⟨f, u, z1, z2, z3, z4⟩ := D
    have ff := z2.2.2.1
    rw [e1, bq, ff, gr (by omega), if_neg (by omega)]
    exact Or.inr ⟨tx, tx, rfl, lS_dead (by omega), f, u, z1, RD_mono z2 (by omega), z3, z4⟩
  have ga := GS_open hR g hp1 ho1
  rw [e1, bq, e2, bq]
  obtain ⟨a1, a2, a3, a4, a5, a6, a7, a8, a9, a10, a11⟩ := ga
  have Pa : PS t1 (up (up t1 121 48 ((o1 + 1 : Nat) : Int)) 121 10 ((p1 + 1 : Nat) : Int)) (I + l1.length) C1 B := PS_trans (PS_up (by omega)) (PS_up (by omega)) (Nat.le_refl _) (Nat.le_refl _) (Nat.le_refl _)
  generalize up (up t1 121 48 ((o1 + 1 : Nat) : Int)) 121 10 ((p1 + 1 : Nat) : Int) = ta at *
  generalize up (up s1 22 5 ((o1 + 1 : Nat) : Int)) 2 12 ((p1 + 1 : Nat) : Int) = sa at *
  rw [blkp_ok a1.2.2.2.2.2.1 a4 (by omega)]
  obtain ⟨b1, b2, b3, b4, b5⟩ := blkp_at (t := ta) (B := B) (so := so) (lab := lab) (hole := hole) (fr := fr)
  have Pb : PS ta (blkp ta B so lab hole fr) (I + l1.length) C1 B := blkp_PS
  have hb : LV s0 t0 N q sa (blkp ta B so lab hole fr) (p1 + 1) (o1 + 1) w1 (I + l1.length) C1 := LV_r a1 (PS_SR Pb a1.2.1) (fun j hj => blkp_ne (by omega) (by omega))
  have b50 : blkp ta B so lab hole fr 121 50 = (lb : Int) := by rw [blkp_ne (by omega) (by omega)]; exact a3
  generalize blkp ta B so lab hole fr = tb at *
  have Ptb := PS_trans Pa Pb (Nat.le_refl _) (Nat.le_refl _) (Nat.le_refl _)
  have Ptt := PS_trans a11 Pb (by omega) a7 (by omega)
  rcases hM sa tb (p1 + 1) (o1 + 1) w1 (I + l1.length) C1 lb (B + 1) (l ++ l1) hb a9 a2 b50 b5 (by omega) (by omega) (by omega) (by omega) with ⟨s2, t2, p2, w2, C2, lb2, l2, c1, c2, c3, c4, c5⟩ | ⟨t2, c1, c2⟩
  case inr =>
    have D := DM_c c2 (CT_bd (CT_ex (c := 125) h (by omega)) (CT_up5 (CT_some (v := 0))))
    obtain ⟨f, u, z1, z2, z3, z4⟩ := D
    exact Or.inr ⟨tb, t2, rfl, c1, f, u, z1, z2, PS0_trans (PS_0 Ptt) z3, z4⟩
  rw [c1, bq]
  have c5' := c5
  obtain ⟨d1, d2, d3, d4, d5, d6, d7, d8, d9, d10, d11⟩ := c5
  have d1' := d1
  obtain ⟨i1, i2, i3, i4, i5, i6, i7, i8, i9, i10, i11, i12, i13, i14, i15, i16, i17⟩ := d1
  rcases g_close h hR c5' (c := 125) (by omega) with ⟨k125, hp2, f1, f2⟩ | ⟨tx, f1, f2⟩
  · have gz := GS_close hR c5' hp2
    obtain ⟨j1, j2, j3, j4, j5, j6, j7, j8, j9, j10, j11⟩ := gz
    have gz' : GS R s0 t0 N q (up (up s2 2 12 ((p2 + 1 : Nat) : Int)) 22 5 (o1 : Int)) (up (up t2 121 10 ((p2 + 1 : Nat) : Int)) 121 48 (o1 : Int)) tb (p1 + 1) (I + l1.length) C1 (B + 1) (l ++ l1) (p2 + 1) o1 w2 C2 lb2 (B + 1) l2 := ⟨j1, j2, j3, j4, j5, j6, j7, j8, j9, j10, j11⟩
    have SC := (lS_cl h i2 i6 i4 i5 k125 f2 (B := B + 1) j4 (by omega)).2 (by omega)
    rw [f1 (fun s4 => some (0, s4))]
    refine Or.inl ⟨_, tb, _, p2 + 1, w2, C2, lb2, l2, rfl, rfl, fun r t3 hm => by rw [c2]; exact SC r t3 hm, ⟨by omega, p2, rfl, GY_t c3.2 (fun k z1 z2 => by rw [up_ne (by omega), up_ne (by omega)])⟩, by omega, by rw [j11.2.2.2 160 B (by omega) (by omega) (by omega)]; exact b1, by rw [j11.2.2.2 161 B (by omega) (by omega) (by omega)]; exact b2, by rw [j11.2.2.2 162 B (by omega) (by omega) (by omega)]; exact b3, by rw [j11.2.2.2 163 B (by omega) (by omega) (by omega)]; exact b4, PS_trans Ptb j11 (Nat.le_refl _) (Nat.le_refl _) (by omega), ?_, by omega⟩
    refine ⟨?_, j2, j3, j4, by omega, by rw [List.length_append]; omega, by omega, by omega, by rw [← List.append_assoc]; exact j9, ?_, PS_trans Ptt j11 (by omega) a7 (by omega)⟩
    · rw [List.length_append, ← Nat.add_assoc]; exact j1
    · exact IMs_app (C1 := C1) (IMs_ps (IMs_ps a10 Pb (Nat.le_refl _) (Nat.le_refl _)) j11 (Nat.le_refl _) (Nat.le_refl _)) j10 a7 j7
  · -- no } where one must be
    by_cases k125 : s0 9 p2 = 125
    · exfalso
      have := cl_sign h d1' (c := 125) (by omega)
      rw [if_pos k125, f1] at this
      obtain ⟨f, u, z1, z2, _⟩ := f2 (fun s4 => some (0, s4)) (CT_some (v := 0))
      have e := congrArg Prod.snd (Option.some.inj this)
      simp only at e
      have z3 := z2.2.2.1
      rw [e, up_ne (by omega), up_ne (by omega), i6] at z3
      omega
    · have E := mst_dead h i2 i6 i4 i5 c3.1 k125
      have hf : (if s0 9 p2 = 2 then (2 : Int) else 1) = 1 ∨ (if s0 9 p2 = 2 then (2 : Int) else 1) = 2 := by split <;> omega
      refine Or.inr ⟨tb, _, rfl, by rw [c2]; exact E, _, p2, ⟨hf, i5⟩, flt_RD i2 i4 i5 i13 (by omega) (by omega), PS0_trans (PS_0 Ptt) (PS0_trans (PS_0 d11) (PS_PG (K := 0) flt_PG)), fun hb => ?_⟩
      obtain ⟨y1, y2, y3⟩ := hR.2.1 _ s2 d9
      obtain ⟨y4, y5⟩ := y3 hb
      have zd := stp_CD (N := N) (p := p2) (f := if s0 9 p2 = 2 then 2 else 1) i1 (by rw [y1, hb]) y5 y2
      rw [cEx0 h i1 y4 i3 i5 (by omega) k125, bq, lt_eq]
      exact ⟨0, _, rfl, CD_up zd (Or.inl rfl)⟩
end STf
