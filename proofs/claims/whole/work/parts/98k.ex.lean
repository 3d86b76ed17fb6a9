/-! expressions: calls -/
section EXc
variable {F : Nat → Int} {n N : Nat} {P : Nat → Nat} {s0 t0 : iS} {R : List itm → iS → Prop} {b q : Int} {fv : Nat → Int}
theorem IMs_x {t t2 : iS} {I C C2 : Nat} {l : List itm} (h : IMs t I q C C2 l) (h1 : ∀ c k, 144 ≤ c → c ≤ 148 → I ≤ k → k < I + l.length → t2 c k = t c k) (h2 : ∀ c k, 149 ≤ c → c ≤ 156 → C ≤ k → k < C2 → t2 c k = t c k) : IMs t2 I q C C2 l := by
  refine ⟨fun i hi => ?_, fun c z1 z2 => ?_⟩
  · exact IM_of (h.1 i hi) (fun c q1 q2 => h1 c _ q1 q2 (by omega) (by omega)) (fun c j q1 q2 q3 q4 => h2 c j q1 q2 q3 q4) (Nat.le_refl _) (Nat.le_refl _)
  · obtain ⟨i, a1, a2, a3⟩ := h.2 c z1 z2
    exact ⟨i, a1, a2, by rw [h1 145 _ (by omega) (by omega) (by omega) (by omega)]; exact a3⟩
theorem r22_nx {G : Nat → Int → Int → Int → iS → Option (Int × iS)} {v w v' w' : Int} {s s' : iS} (h : trl_readArguments_22b G v w s = some (.inl (v', w', s'))) : trl_readArguments_22 G v w s = trl_readArguments_22 G v' w' s' := by
  unfold trl_readArguments_22
  rw [lp_next (f := fun l : Int × Int × iS => trl_readArguments_22b G (l.1) (l.2.1) (l.2.2)) (l := (v, w, s)) h]
theorem r22_en {G : Nat → Int → Int → Int → iS → Option (Int × iS)} {v w v' : Int} {s s' : iS} (h : trl_readArguments_22b G v w s = some (.inr (v', s'))) : trl_readArguments_22 G v w s = some (v', s') := by
  unfold trl_readArguments_22
  rw [lp_end (f := fun l : Int × Int × iS => trl_readArguments_22b G (l.1) (l.2.1) (l.2.2)) (l := (v, w, s)) h, bn]
theorem cz_22 {s : iS} {f : Int} {u : Nat} (h : TKR 0 F n N P s0 t0) (hd : CD s0 N s f u) {G : Nat → Int → Int → Int → iS → Option (Int × iS)} {v w : Int} (hv : 0 ≤ w ∧ w < 100000) : trl_readArguments_22 G v w s = some (v, s) := by
  refine r22_en ?_
  unfold trl_readArguments_22b
  rw [gr (by omega)]
  by_cases c : 1000 ≤ w
  · rw [if_pos c]
  · rw [if_neg c, cKD h hd.1 hd.2.1, bq, gr (by omega), if_neg (by omega)]
/-- what stays while the values of call C are read -/
def PA (t t2 : iS) (I C k : Nat) : Prop := PG t t2 I C k ∧ (∀ c, 149 ≤ c → c ≤ 156 → c ≠ 151 → t2 c C = t c C) ∧ t2 157 k = t 157 k ∧ t2 159 k = t 159 k
theorem PA_trans {t t2 t3 : iS} {I I2 C k : Nat} (h : PA t t2 I C k) (h' : PA t2 t3 I2 C k) (hI : I ≤ I2) : PA t t3 I C k := ⟨PG_trans h.1 h'.1 hI (Nat.le_refl _) (Nat.le_refl _), fun c q1 q2 q3 => (h'.2.1 c q1 q2 q3).trans (h.2.1 c q1 q2 q3), h'.2.2.1.trans h.2.2.1, h'.2.2.2.trans h.2.2.2⟩
/-- the values of a call, from the second on -/
theorem a_loop (h : TKR 0 F n N P s0 t0) (hR : RHE R b fv s0 N) {m : Nat} (hE : EXPR R b s0 t0 N P q m) {k C o : Nat} (hk : k ≤ o) (hC : C < 1000) (hfu : 6 * (25 - o) + 7 ≤ m) : ∀ (d : Nat) (s t1 t2 : iS) (p w I C2 v turn : Nat) (l : List itm), N ≤ p + d → LV s0 t0 N q s t2 p o w I C2 → R l s → C < C2 → t1 121 61 = 0 → t1 121 11 = 0 → 0 < t1 121 51 → t1 121 51 < 100 → m_behindTerm t1 = m_behindTerm_121 (k : Int) t2 → t2 121 51 = ((k + 1 : Nat) : Int) → t2 121 61 = 0 → s0 9 p ∉ sO → t2 157 k = 3 → t2 159 k = (C : Int) → t2 158 k = 0 → t2 151 C = (v : Int) - 1 → 1 ≤ v → v ≤ p → turn < p → (∃ (s' t1' t2' : iS) (p' w' C' v' : Nat) (l' : List itm), trl_readArguments_22 (trlE m) (v : Int) (turn : Int) s = some ((v' : Int), s') ∧ eL t1 = eL t1' ∧ t1' 121 61 = 0 ∧ t1' 121 11 = 0 ∧ 0 < t1' 121 51 ∧ t1' 121 51 < 100 ∧ m_behindTerm t1' = m_behindTerm_121 (k : Int) t2' ∧ t2' 121 51 = ((k + 1 : Nat) : Int) ∧ t2' 121 61 = 0 ∧ s0 9 p' ∉ sO ∧ s0 9 p' ≠ 44 ∧ t2' 151 C = (v' : Int) - 1 ∧ 1 ≤ v' ∧ v' ≤ p' ∧ LV s0 t0 N q s' t2' p' o w' (I + l'.length) C' ∧ (p ≤ p' ∧ ∀ pp w0 l0, GX s0 3 o pp w0 p w v l0 → GX s0 3 o pp w0 p' w' v' (l0 ++ l')) ∧ l'.length ≤ p' - p ∧ C2 ≤ C' ∧ C' - C2 ≤ p' - p ∧ R (l ++ l') s' ∧ IMs t2' I q C2 C' l' ∧ (∀ c j, 149 ≤ c → c ≤ 156 → C < j → j < C2 → t2' c j = t2 c j) ∧ PA t2 t2' I C k) ∨ (∃ t', eL t1 = some t' ∧ DEAD b s0 t0 N P t2 t' (trl_readArguments_22 (trlE m) (v : Int) (turn : Int) s)) := by
  have hN2 := N1001 h
  intro d
  induction d with
  | zero =>
    intro s t1 t2 p w I C2 v turn l hd hL
    have := hL.2.2.2.2.1
    omega
  | succ d ih =>
    intro s t1 t2 p w I C2 v turn l hd hL hl hC2 a1 a2 a3 a4 a5 a6 a7 hno h157 h159 h158 h151 hv1 hvp htu
    have hL' := hL
    obtain ⟨h1, h2, h3, h4, h5, h6, h7, h8, h9, h10, h11, h12, h13, h14, h15, h16, h17⟩ := hL
    have kr := kRg h h5
    by_cases c : s0 9 p = 44
    case neg =>
      have C0 : trl_readArguments_22b (trlE m) (v : Int) (turn : Int) s = some (.inr ((v : Int), s)) := by
        unfold trl_readArguments_22b
        rw [gr (by omega), if_neg (by omega), cK h h1 h3 h5, bq, gr (by omega), if_neg c]
      exact Or.inl ⟨s, t1, t2, p, w, C2, v, [], r22_en C0, rfl, a1, a2, a3, a4, a5, a6, a7, hno, c, h151, hv1, hvp, hL', ⟨Nat.le_refl _, fun pp w0 l0 z => by rw [List.append_nil]; exact z⟩, Nat.zero_le _, Nat.le_refl _, by omega, by rw [List.append_nil]; exact hl, IMs_nil, fun _ _ _ _ _ _ => rfl, ⟨PG_refl, fun _ _ _ _ => rfl, rfl, rfl⟩⟩
    have hp1 := tkL h h5 (by omega)
    have C0 : trl_readArguments_22b (trlE m) (v : Int) (turn : Int) s = bd (trlE m 1 0 0 0 (up s 2 12 ((p + 1 : Nat) : Int))) (fun _ s7 => some (.inl (((v : Int) + 1), ((turn : Int) + 1), s7))) := by
      unfold trl_readArguments_22b
      rw [gr (by omega), if_neg (by omega), cK h h1 h3 h5, bq, gr (by omega), if_pos c, lt_eq, h3]
      rfl
    have R0 : m_behindTerm t1 = some (0, up (up (up t2 151 C (v : Int)) 121 10 ((p + 1 : Nat) : Int)) 121 61 1) := by
      rw [a5]
      unfold m_behindTerm_121
      rw [mop h h2 h4 h5, bq, if_neg hno, gr (by omega), if_pos rfl, gd_pos (by omega), Int.toNat_natCast, h157, gr (by omega), if_neg (by omega), if_neg (by omega), if_neg (by omega), h159, gd_pos (by omega), lt_eq, Int.toNat_natCast, h151, show (v : Int) - 1 + 1 = (v : Int) by omega, rS h (SR_up h2 (by omega)) (by rw [up_ne (by omega)]; exact h4) h5 (by omega), bq, if_pos c, gr (by omega), if_neg (by omega), rGo (p := p) (by rw [up_ne (by omega)]; exact h6) (by rw [up_ne (by omega)]; exact h4), bq, lt_eq]
    have E0 := eL_bt a2 ⟨a3, a4⟩ a1 R0
    have hL3 : LV s0 t0 N q (up s 2 12 ((p + 1 : Nat) : Int)) (up (up (up t2 151 C (v : Int)) 121 10 ((p + 1 : Nat) : Int)) 121 61 1) (p + 1) o w I C2 :=
      LV_r (LV_go (LV_r hL' (SR_up h2 (by omega)) (fun j hj => up_ne (by omega))) hp1) (SR_up (SR_up (SR_up h2 (by omega)) (by omega)) (by omega)) (fun j hj => up_ne (by omega))
    have P3 : PG t2 (up (up (up t2 151 C (v : Int)) 121 10 ((p + 1 : Nat) : Int)) 121 61 1) I C (k + 1) := PG_trans (PG_trans (PG_upr (by omega)) (PG_up (by omega)) (Nat.le_refl _) (Nat.le_refl _) (Nat.le_refl _)) (PG_up (by omega)) (Nat.le_refl _) (Nat.le_refl _) (Nat.le_refl _)
    have q157 : up (up (up t2 151 C (v : Int)) 121 10 ((p + 1 : Nat) : Int)) 121 61 1 157 k = t2 157 k := by rw [up_ne (by omega), up_ne (by omega), up_ne (by omega)]
    have q158 : up (up (up t2 151 C (v : Int)) 121 10 ((p + 1 : Nat) : Int)) 121 61 1 158 k = t2 158 k := by rw [up_ne (by omega), up_ne (by omega), up_ne (by omega)]
    have q159 : up (up (up t2 151 C (v : Int)) 121 10 ((p + 1 : Nat) : Int)) 121 61 1 159 k = t2 159 k := by rw [up_ne (by omega), up_ne (by omega), up_ne (by omega)]
    have q151 : up (up (up t2 151 C (v : Int)) 121 10 ((p + 1 : Nat) : Int)) 121 61 1 151 C = (v : Int) := by rw [up_ne (by omega), up_ne (by omega), up_same]
    rcases hE _ _ (p + 1) o w I C2 k l hL3 (hR.1 l s _ hl).1 (up_same _ _ _ _) (by rw [up_ne (by omega), up_ne (by omega), up_ne (by omega)]; exact a6) hk (by rw [q157]; omega) (by rw [q157]; omega) (by rw [q158]; exact h158) hfu with ⟨s', t1', t2', p', w', C', l', e1, e2, e3, e4, e5, e6, e7, e8, e9, e10, e11, e12, e13, e14, e15⟩ | ⟨t', e1, f, u, e2, e3, e4, e5⟩
    case inr =>
      refine Or.inr ⟨t', by rw [E0, e1], f, u, e2, e3, PG_trans (PG_mono P3 (Nat.zero_le _) (Nat.zero_le _) (Nat.zero_le _)) e4 (Nat.le_refl _) (Nat.le_refl _) (Nat.le_refl _), fun hb => ?_⟩
      obtain ⟨r, s', g1, g2⟩ := e5 hb
      rw [g1, bq] at C0
      exact ⟨_, s', by rw [r22_nx C0, cz_22 h g2 ⟨by omega, by omega⟩], g2⟩
    rw [e1, bq] at C0
    obtain ⟨g1, g2, g3, g4, g5, g6, g7, g8⟩ := e15
    have r151 : t2' 151 C = ((v + 1 : Nat) : Int) - 1 := by rw [g8.2.2.1 151 C (by omega) (by omega) hC2, q151]; omega
    rcases ih s' t1' t2' p' w' (I + l'.length) C' (v + 1) (turn + 1) (l ++ l') (by omega) g1 g6 (by omega) e3 e4 e5 e6 e7 e8 e9 e11 (by rw [e12, q157]; exact h157) (by rw [e13, q159]; exact h159) e14 r151 (by omega) (by omega) (by omega) with ⟨s4, t1'', t2'', p'', w'', C'', v'', l'', j1, j2, j3, j4, j5, j6, j7, j8, j9, j10, j11, j12, j13, j14, j15, j16, j17, j18, j19, j20, j21, j22, j23⟩ | ⟨t', j1, j2⟩
    · have PA3 : PA t2 t2' I C k := by
        refine ⟨PG_trans (PG_mono P3 (Nat.le_refl _) (Nat.le_refl _) (by omega)) g8 (Nat.le_refl _) (by omega) (Nat.le_refl _), fun c' z1 z2 z3 => ?_, by rw [e12, q157], by rw [e13, q159]⟩
        rw [g8.2.2.1 c' C z1 z2 hC2, up_ne (by omega), up_ne (by omega), up_ne (by omega)]
      refine Or.inl ⟨s4, t1'', t2'', p'', w'', C'', v'', l' ++ l'', by rw [r22_nx C0]; exact j1, by rw [E0, e2, j2], j3, j4, j5, j6, j7, j8, j9, j10, j11, j12, j13, j14, by rw [List.length_append, ← Nat.add_assoc]; exact j15, ⟨by omega, fun pp w0 l0 z => by rw [← List.append_assoc]; exact j16.2 pp w0 _ (by obtain ⟨v0, rfl⟩ : ∃ v0, v = v0 + 1 := ⟨v - 1, by omega⟩; exact .an o pp w0 p w p' w' v0 l0 l' z e10.2)⟩, by rw [List.length_append]; omega, by omega, by omega, by rw [← List.append_assoc]; exact j20, ?_, fun c' j' z1 z2 z3 z4 => ?_, PA_trans PA3 j23 (by omega)⟩
      · exact IMs_app (IMs_x g7 (fun c' k' z1 z2 z3 z4 => j23.1.2.1 c' k' z1 z2 z4) (fun c' k' z1 z2 z3 z4 => j22 c' k' z1 z2 (by omega) z4)) j21 g4 j18
      · rw [j22 c' j' z1 z2 z3 (by omega), g8.2.2.1 c' j' z1 z2 z4, up_ne (by omega), up_ne (by omega), up_ne (by omega)]
    · obtain ⟨f, u, k1, k2, k3, k4⟩ := j2
      refine Or.inr ⟨t', by rw [E0, e2, j1], f, u, k1, k2, PG_trans (PG_mono (PG_trans (PG_mono P3 (Nat.le_refl _) (Nat.le_refl _) (by omega)) g8 (Nat.le_refl _) (by omega) (Nat.le_refl k)) (Nat.zero_le _) (Nat.zero_le _) (Nat.zero_le _)) k3 (Nat.le_refl _) (Nat.le_refl _) (Nat.le_refl _), fun hb => ?_⟩
      rw [r22_nx C0]
      exact k4 hb
end EXc
