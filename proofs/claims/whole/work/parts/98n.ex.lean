/-! expressions: a call from its name on -/
/-- a call: the class at its name, the reference behind it -/
def CALLS (R : List itm → iS → Prop) (b : Int) (s0 t0 : iS) (N : Nat) (P : Nat → Nat) (q : Int) (m : Nat) : Prop := ∀ (s ug : iS) (p o w I C k : Nat) (l : List itm), s 2 12 = (p : Int) → SC s0 s → LV s0 t0 N q (up s 2 12 ((p + 1 : Nat) : Int)) ug (p + 1) o w I C → R l s → s0 9 p = 3 → C + 5 ≤ p → ug 121 51 = ((k + 1 : Nat) : Int) → k ≤ o → 6 * (25 - o) + 3 ≤ m → 4 ≤ m → (∃ s' t1 t3 p' w' C' l', trlE m 4 0 0 0 s = some (0, s') ∧ m_beginCall (p : Int) ug = some (0, t1) ∧ t1 121 11 = 0 ∧ eL t1 = eL t3 ∧ t3 121 61 = 0 ∧ t3 121 11 = 0 ∧ t3 121 51 = ((k + 1 : Nat) : Int) ∧ (p + 1 < p' ∧ GX s0 2 o p w p' w' 0 l') ∧ GD R s0 t0 N q s' t3 ug (p + 1) I C (k + 1) l p' o w' C' l') ∨ (∃ t1 t', m_beginCall (p : Int) ug = some (0, t1) ∧ (t1 121 11 = 0 ∨ 0 < t1 121 11 ∧ t1 121 11 < 100) ∧ eL t1 = some t' ∧ DEAD b s0 t0 N P ug t' (trlE m 4 0 0 0 s))
section EXf
variable {F : Nat → Int} {n N : Nat} {P : Nat → Nat} {s0 t0 : iS} {R : List itm → iS → Prop} {b q : Int} {fv : Nat → Int}
/-- the rows of a call -/
def cal (t : iS) (C : Nat) (p : Int) : iS := up (up (up (up (up t 121 39 ((C + 1 : Nat) : Int)) 149 C (-1)) 150 C p) 151 C 0) 156 C (t 121 17 - 1)
theorem cal_ne {t : iS} {C c k : Nat} {p : Int} (h : ¬ (c = 121 ∧ k = 39)) (h2 : ¬ (149 ≤ c ∧ c ≤ 156 ∧ k = C)) : cal t C p c k = t c k := by
  unfold cal
  rw [up_ne (by omega), up_ne (by omega), up_ne (by omega), up_ne (by omega), up_ne h]
theorem cal_at {t : iS} {C : Nat} {p : Int} : cal t C p 149 C = -1 ∧ cal t C p 150 C = p ∧ cal t C p 151 C = 0 ∧ cal t C p 156 C = t 121 17 - 1 ∧ cal t C p 121 39 = ((C + 1 : Nat) : Int) := by
  unfold cal
  refine ⟨?_, ?_, ?_, ?_, ?_⟩
  · rw [up_ne (by omega), up_ne (by omega), up_ne (by omega), up_same]
  · rw [up_ne (by omega), up_ne (by omega), up_same]
  · rw [up_ne (by omega), up_same]
  · rw [up_same]
  · rw [up_ne (by omega), up_ne (by omega), up_ne (by omega), up_ne (by omega), up_same]
theorem cal_PG {t : iS} {C I K : Nat} {p : Int} : PG t (cal t C p) I C K := by
  unfold cal
  exact PG_trans (PG_trans (PG_trans (PG_trans (PG_up (by omega)) (PG_upr (by omega)) (Nat.le_refl _) (Nat.le_refl _) (Nat.le_refl _)) (PG_upr (by omega)) (Nat.le_refl _) (Nat.le_refl _) (Nat.le_refl _)) (PG_upr (by omega)) (Nat.le_refl _) (Nat.le_refl _) (Nat.le_refl _)) (PG_upr (by omega)) (Nat.le_refl _) (Nat.le_refl _) (Nat.le_refl _)
theorem bc_eq {t : iS} {C p : Nat} (hC : t 121 39 = (C : Int)) (hC2 : C < 1000) : m_beginCall (p : Int) t = bd (m_isSign 46 (cal t C (p : Int))) (fun r7 s7 => gd (rg r7) (if r7 = 0 then m_beginCall_78 (p : Int) (C : Int) s7 else bd (m_go s7) (fun _ s10 => lt' (up s10 149 C (p : Int)) (fun s11 => bd (m_needName s11) (fun r12 s12 => lt' (up s12 150 C r12) (fun s13 => m_beginCall_78 (p : Int) (C : Int) s13)))))) := by
  unfold m_beginCall cal
  simp only [lt_eq]
  rw [hC, gd_pos (by omega), Int.toNat_natCast]
  have e : up (up (up (up t 121 39 ((C : Int) + 1)) 149 C (-1)) 150 C (p : Int)) 151 C 0 121 17 = t 121 17 := by rw [up_ne (by omega), up_ne (by omega), up_ne (by omega), up_ne (by omega)]
  rw [e]
  rfl
theorem call_ok (h : TKR 0 F n N P s0 t0) (hR : RHE R b fv s0 N) {m : Nat} (hE : EXPR R b s0 t0 N P q m) : CALLS R b s0 t0 N P q (m + 2) := by
  have hN2 := N1001 h
  intro s ug p o w I C k l s12 sSC hL hl k3 hC5 l51 hko hfu hm5
  have hL' := hL
  obtain ⟨h1, h2, h3, h4, h5, h6, h7, h8, h9, h10, h11, h12, h13, h14, h15, h16, h17⟩ := hL
  have pN : p < N := by omega
  rw [bc_eq h14 (by omega), trlE_4]
  unfold trl_readCall
  rw [s12, show (p : Int) + 1 = ((p + 1 : Nat) : Int) by omega, cKo h sSC h5, bq]
  have kr := kRg h h5
  rw [gr (by omega), rS h (PG_SR (cal_PG (I := 0) (K := 0)) h2) (by rw [cal_ne (by omega) (by omega)]; exact h4) h5 (by omega), bq]
  obtain ⟨a1, a2, a3, a4, a5⟩ := cal_at (t := ug) (C := C) (p := (p : Int))
  have hLa : LV s0 t0 N q (up s 2 12 ((p + 1 : Nat) : Int)) (cal ug C (p : Int)) (p + 1) o w I (C + 1) := LV_C hL' (PG_SR (cal_PG (I := 0) (K := 0)) h2) (fun j hj => cal_ne (by omega) (by omega)) a5 (by omega)
  have e1 : tok_expect 3 s = some (0, up s 2 12 ((p + 1 : Nat) : Int)) := cEx h sSC s12 pN (by omega) k3
  have hl1 := (hR.1 l s ((p + 1 : Nat) : Int) hl).1
  have a51 : cal ug C (p : Int) 121 51 = ((k + 1 : Nat) : Int) := by rw [cal_ne (by omega) (by omega)]; exact l51
  have a17 : ug 121 17 - 1 = q := by omega
  have Pa : PG ug (cal ug C (p : Int)) I C (k + 1) := cal_PG
  have alen : ∀ {a b : Nat}, True → a = a := fun _ => rfl
  unfold trl_readCall_34
  by_cases c46 : s0 9 (p + 1) = 46
  case neg =>
    rw [if_neg c46, if_neg c46, e1, bq, gr (by omega), if_pos rfl, gr (by omega), if_pos rfl]
    unfold trl_readCall_64 trl_readCall_77 trl_readCall_87 trl_readCall_92
    rw [gr (by omega), if_pos rfl, gr (by omega), if_pos rfl, gr (by omega), if_pos rfl, gr (by omega), if_pos rfl]
    obtain ⟨s1, s2, f1, f2, f3, f4⟩ := hR.2.2.2.2.2.2.2.2.2.2.2.2.1 l (up s 2 12 ((p + 1 : Nat) : Int)) p hl1 h1 pN k3
    rw [f1, bq, f2, bq]
    rcases c_tail (v2 := 0) (v3 := -1) (v4 := 1) h hR hE hko (by omega) (by omega) (LV_MD hLa f4) f3 a1 a2 a3 (by rw [a4]; exact a17) a51 pN (by omega) (Or.inl rfl) (by omega) (fun lx s a z1 z2 z3 => by
      obtain ⟨s1, y1, y2, y3⟩ := hR.2.2.2.2.2.2.2.2.2.2.2.2.2.2.1 lx s p a (trlE (m + 1)) z1 z2 pN k3 z3
      exact ⟨s1, by unfold c185; rw [gr (by omega), if_pos rfl]; exact y1, y2, y3⟩) with ⟨s', t1, t3, p', w', C', l', j1, j2, jx, j3, j4, j5, j6, j7, j8, j9, j10, j11, j12, j13, j14⟩ | ⟨t1, t', j1, jx, j2, f, u, j3, j4, j5, j6⟩
    · exact Or.inl ⟨s', t1, t3, p', w', C', l', j1, j2, jx, j3, j4, j5, j6, ⟨by omega, by obtain ⟨_, a, p2, lx, q1, q2, q3, q4⟩ := j7; rw [q1, q2]; exact .cal o p w p2 w' a lx k3 q3 q4⟩, j8, by omega, by omega, by omega, by omega, j12, j13, PG_trans Pa j14 (Nat.le_refl _) (Nat.le_refl _) (Nat.le_refl _)⟩
    · exact Or.inr ⟨t1, t', j1, jx, j2, f, u, j3, j4, PG0_trans (PG_mono Pa (Nat.zero_le _) (Nat.zero_le _) (Nat.zero_le _)) j5, j6⟩
  -- with a .
  have hp2 := tkL h h5 (by omega)
  have kr2 := kRg h hp2
  rw [if_pos c46, if_pos c46, e1, bq, gr (by omega), if_neg (by omega), gr (by omega), if_neg (by omega), cEx h h1 h3 h5 (by omega) c46, bq, up_up]
  have fa : cal ug C (p : Int) 121 11 = 0 := by rw [cal_ne (by omega) (by omega)]; exact h6
  have f10 : cal ug C (p : Int) 121 10 = ((p + 1 : Nat) : Int) := by rw [cal_ne (by omega) (by omega)]; exact h4
  rw [rGo fa f10, bq, lt_eq]
  have hLb : LV s0 t0 N q (up s 2 12 ((p + 2 : Nat) : Int)) (up (up (cal ug C (p : Int)) 121 10 ((p + 1 + 1 : Nat) : Int)) 149 C (p : Int)) (p + 2) o w I (C + 1) := by
    have := LV_go hLa hp2
    rw [up_up] at this
    exact LV_r this (SR_up this.2.1 (by omega)) (fun j hj => up_ne (by omega))
  have hLb' := hLb
  obtain ⟨d1, d2, d3, d4, d5, d6, d7, d8, d9, d10, d11, d12, d13, d14, d15, d16, d17⟩ := hLb
  have hl2 := (hR.1 l s ((p + 2 : Nat) : Int) hl).1
  have Pb : PG ug (up (up (cal ug C (p : Int)) 121 10 ((p + 1 + 1 : Nat) : Int)) 149 C (p : Int)) I C (k + 1) := PG_trans (PG_trans Pa (PG_up (by omega)) (Nat.le_refl _) (Nat.le_refl _) (Nat.le_refl _)) (PG_upr (by omega)) (Nat.le_refl _) (Nat.le_refl _) (Nat.le_refl _)
  have b51 : up (up (cal ug C (p : Int)) 121 10 ((p + 1 + 1 : Nat) : Int)) 149 C (p : Int) 121 51 = ((k + 1 : Nat) : Int) := by rw [up_ne (by omega), up_ne (by omega)]; exact a51
  have b150 : ∀ c, 150 ≤ c → c ≤ 156 → up (up (cal ug C (p : Int)) 121 10 ((p + 1 + 1 : Nat) : Int)) 149 C (p : Int) c C = cal ug C (p : Int) c C := fun c z1 z2 => by rw [up_ne (by omega), up_ne (by omega)]
  have b149 : up (up (cal ug C (p : Int)) 121 10 ((p + 1 + 1 : Nat) : Int)) 149 C (p : Int) 149 C = (p : Int) := up_same _ _ _ _
  have k2 := tkK h d5
  rw [if_pos rfl] at k2
  rw [show p + 1 + 1 = p + 2 from rfl] at *
  generalize up (up (cal ug C (p : Int)) 121 10 ((p + 2 : Nat) : Int)) 149 C (p : Int) = tb at *
  unfold m_needName
  rw [d4, gd_pos (by omega), Int.toNat_natCast, d2.2.1, gr (by omega)]
  by_cases c3 : s0 9 (p + 2) = 3
  case neg =>
    -- no name behind the .
    rw [if_neg (by omega), rSy h d2 d6 d4 d5, bq]
    unfold m_needName_24
    have f11 : flt tb (if s0 9 (p + 2) = 2 then 2 else 1) P (p + 2) 121 11 = (if s0 9 (p + 2) = 2 then 2 else 1) := flt_11
    have hf : (if s0 9 (p + 2) = 2 then (2 : Int) else 1) = 1 ∨ (if s0 9 (p + 2) = 2 then (2 : Int) else 1) = 2 := by split <;> omega
    rw [f11, gr (by omega), if_neg (by omega), bq, lt_eq]
    have e78 : m_beginCall_78 (p : Int) (C : Int) (up (flt tb (if s0 9 (p + 2) = 2 then 2 else 1) P (p + 2)) 150 C 0) = some (0, up (flt tb (if s0 9 (p + 2) = 2 then 2 else 1) P (p + 2)) 150 C 0) := by
      unfold m_beginCall_78
      rw [up_ne (by omega), f11, gr (by omega), if_neg (by omega)]
    have RDx : RD t0 N P (up (flt tb (if s0 9 (p + 2) = 2 then 2 else 1) P (p + 2)) 150 C 0) (if s0 9 (p + 2) = 2 then 2 else 1) (p + 2) 3100 := RD_upr (flt_RD d2 d4 d5 d13 (by omega) (by omega)) (by omega)
    refine Or.inr ⟨_, _, e78, Or.inr (by rw [up_ne (by omega), f11]; omega), eL_dead (by rw [up_ne (by omega), f11]; omega), _, p + 2, ⟨hf, d5⟩, RDx, PG0_trans (PG_mono Pb (Nat.zero_le _) (Nat.zero_le _) (Nat.zero_le _)) (PG0_trans flt_PG (PG_upr (by omega))), fun hb => ?_⟩
    obtain ⟨z1, z2, z3⟩ := hR.2.1 _ _ hl2
    obtain ⟨z4, z5⟩ := z3 hb
    have zd := stp_CD (N := N) (p := p + 2) (f := if s0 9 (p + 2) = 2 then 2 else 1) d1 (by rw [z1, hb]) z5 z2
    rw [cEx0 h d1 z4 d3 d5 (by omega) c3, bq]
    obtain ⟨m', rfl⟩ : ∃ m', m = m' + 2 := ⟨m - 2, by omega⟩
    obtain ⟨s', y1, y2⟩ := cz_64 (m := m') (v2 := 1) h ⟨hf, d5⟩ zd (Or.inr rfl) pN
    exact ⟨0, s', y1, y2⟩
  have hp3 := tkL h d5 (by omega)
  rw [if_pos (by omega), rGo d6 d4, bq]
  unfold m_needName_24
  rw [up_ne (show ¬ (121 = 121 ∧ 11 = 10) by omega), d6, gr (by omega), if_pos rfl, up_same, show ((p + 2 + 1 : Nat) : Int) - 1 = ((p + 2 : Nat) : Int) by omega, bq, lt_eq, cEx h d1 d3 d5 (by omega) c3, bq, up_up]
  have hLc : LV s0 t0 N q (up s 2 12 ((p + 2 + 1 : Nat) : Int)) (up (up tb 121 10 ((p + 2 + 1 : Nat) : Int)) 150 C ((p + 2 : Nat) : Int)) (p + 3) o w I (C + 1) := by
    have := LV_go hLb' hp3
    rw [up_up] at this
    exact LV_r this (SR_up this.2.1 (by omega)) (fun j hj => up_ne (by omega))
  have hl3 := (hR.1 l s ((p + 2 + 1 : Nat) : Int) hl).1
  obtain ⟨v1, v2⟩ := hR.2.2.2.2.2.2.1 l _ p hl3 hLc.1 pN k3
  unfold trl_readCall_64 trl_readCall_77 trl_readCall_87 trl_readCall_92
  rw [gr (by omega), if_neg (by omega), v1, bq, gr (by omega), if_neg (by omega), gr (by omega)]
  have Pc : PG ug (up (up tb 121 10 ((p + 2 + 1 : Nat) : Int)) 150 C ((p + 2 : Nat) : Int)) I C (k + 1) := PG_trans (PG_trans Pb (PG_up (by omega)) (Nat.le_refl _) (Nat.le_refl _) (Nat.le_refl _)) (PG_upr (by omega)) (Nat.le_refl _) (Nat.le_refl _) (Nat.le_refl _)
  have c149 : up (up tb 121 10 ((p + 2 + 1 : Nat) : Int)) 150 C ((p + 2 : Nat) : Int) 149 C = (p : Int) := by rw [up_ne (by omega), up_ne (by omega)]; exact b149
  have c150 : up (up tb 121 10 ((p + 2 + 1 : Nat) : Int)) 150 C ((p + 2 : Nat) : Int) 150 C = ((p + 2 : Nat) : Int) := up_same _ _ _ _
  have c151 : up (up tb 121 10 ((p + 2 + 1 : Nat) : Int)) 150 C ((p + 2 : Nat) : Int) 151 C = 0 := by rw [up_ne (by omega), up_ne (by omega), b150 151 (by omega) (by omega)]; exact a3
  have c156 : up (up tb 121 10 ((p + 2 + 1 : Nat) : Int)) 150 C ((p + 2 : Nat) : Int) 156 C = q := by rw [up_ne (by omega), up_ne (by omega), b150 156 (by omega) (by omega), a4]; exact a17
  have c51 : up (up tb 121 10 ((p + 2 + 1 : Nat) : Int)) 150 C ((p + 2 : Nat) : Int) 121 51 = ((k + 1 : Nat) : Int) := by rw [up_ne (by omega), up_ne (by omega)]; exact b51
  obtain ⟨o1, o2⟩ := hR.2.2.2.2.2.2.2.2.2.2.2.2.2.1 l _ p hl3 hLc.1 d5 k3 c3
  by_cases cv : fv p = -1
  · rw [if_pos cv, gr (by omega), if_pos cv, gr (by omega), if_neg (by omega)]
    rcases c_tail (v2 := 1) (v3 := fv p) (v4 := 0) h hR hE hko (by omega) (by omega) hLc (o2 cv) c149 c150 c151 c156 c51 pN (by omega) (Or.inr rfl) v2 (fun lx s a z1 z2 z3 => by
      obtain ⟨s1, y1, y2, y3⟩ := hR.2.2.2.2.2.2.2.2.2.2.2.2.2.2.2 lx s p a (trlE (m + 1)) z1 z2 d5 k3 c3 z3
      rw [if_pos cv] at y1
      exact ⟨s1, by unfold c185; rw [gr (by omega), if_neg (by omega)]; exact y1, y2, y3⟩) with ⟨s', t1, t3, p', w', C', l', j1, j2, jx, j3, j4, j5, j6, j7, j8, j9, j10, j11, j12, j13, j14⟩ | ⟨t1, t', j1, jx, j2, f, u, j3, j4, j5, j6⟩
    · exact Or.inl ⟨s', t1, t3, p', w', C', l', j1, j2, jx, j3, j4, j5, j6, ⟨by omega, by obtain ⟨_, a, p2, lx, q1, q2, q3, q4⟩ := j7; rw [q1, q2]; exact .dot o p w p2 w' a lx k3 c3 q3 q4⟩, j8, by omega, by omega, by omega, by omega, j12, j13, PG_trans Pc j14 (Nat.le_refl _) (Nat.le_refl _) (Nat.le_refl _)⟩
    · exact Or.inr ⟨t1, t', j1, jx, j2, f, u, j3, j4, PG0_trans (PG_mono Pc (Nat.zero_le _) (Nat.zero_le _) (Nat.zero_le _)) j5, j6⟩
  · rw [if_neg cv, gr (by omega), if_neg cv]
    obtain ⟨s1, s2, f1, f2, f3, f4⟩ := o1 cv
    rw [f1, bq, f2, bq]
    rcases c_tail (v2 := 1) (v3 := fv p) (v4 := 1) h hR hE hko (by omega) (by omega) (LV_MD hLc f4) f3 c149 c150 c151 c156 c51 pN (by omega) (Or.inr rfl) v2 (fun lx s a z1 z2 z3 => by
      obtain ⟨s1, y1, y2, y3⟩ := hR.2.2.2.2.2.2.2.2.2.2.2.2.2.2.2 lx s p a (trlE (m + 1)) z1 z2 d5 k3 c3 z3
      rw [if_neg cv] at y1
      exact ⟨s1, by unfold c185; rw [gr (by omega), if_neg (by omega)]; exact y1, y2, y3⟩) with ⟨s', t1, t3, p', w', C', l', j1, j2, jx, j3, j4, j5, j6, j7, j8, j9, j10, j11, j12, j13, j14⟩ | ⟨t1, t', j1, jx, j2, f, u, j3, j4, j5, j6⟩
    · exact Or.inl ⟨s', t1, t3, p', w', C', l', j1, j2, jx, j3, j4, j5, j6, ⟨by omega, by obtain ⟨_, a, p2, lx, q1, q2, q3, q4⟩ := j7; rw [q1, q2]; exact .dot o p w p2 w' a lx k3 c3 q3 q4⟩, j8, by omega, by omega, by omega, by omega, j12, j13, PG_trans Pc j14 (Nat.le_refl _) (Nat.le_refl _) (Nat.le_refl _)⟩
    · exact Or.inr ⟨t1, t', j1, jx, j2, f, u, j3, j4, PG0_trans (PG_mono Pc (Nat.zero_le _) (Nat.zero_le _) (Nat.zero_le _)) j5, j6⟩
end EXf
