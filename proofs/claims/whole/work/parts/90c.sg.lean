/-! signs: a computation, the reference; both -/
section CQ
variable {n m a k p : Nat} {own : List (List Int)} {s t : iS}
theorem ka4_rg : ∀ i, i < 28 → 0 ≤ (ka_4 i).toInt ∧ (ka_4 i).toInt < 128 := by decide
theorem mc8 (hb : BY (t 123)) {L : Nat} (hL : p + L ≤ 4000) : m_computes (p : Int) (L : Int) t = m_computes_66 (p : Int) (L : Int) (fx (t 123) 61 p L) (fx (t 123) 59 p L) t := by
  unfold m_computes m_computes_8
  have E := lp_run (f := fun l : Int × Int × Int × iS => m_computes_8b (p : Int) (L : Int) (l.1) (l.2.1) (l.2.2.1) (l.2.2.2)) (fun i : Nat => (fx (t 123) 61 p i, fx (t 123) 59 p i, (i : Int), t)) (fx (t 123) 61 p L, fx (t 123) 59 p L, t) L (fun i hi => by
    have b := hb (p + i)
    have ea : ((p : Int) + (i : Int)).toNat = p + i := by omega
    have x1 := fx_sp (f := t 123) (c := 61) (a := p) i
    have x2 := fx_sp (f := t 123) (c := 59) (a := p) i
    simp only [m_computes_8b, m_computes_36, fx, ea]
    generalize fx (t 123) 61 p i = E at x1
    generalize fx (t 123) 59 p i = Q at x2
    have rE : oN E i := x1.imp (fun z => z.1) (fun ⟨e, z1, z2, _⟩ => ⟨e, z1, z2⟩)
    have rQ : oN Q i := x2.imp (fun z => z.1) (fun ⟨e, z1, z2, _⟩ => ⟨e, z1, z2⟩)
    clear x1 x2
    have rE' : -1 ≤ E ∧ E < 4000 := by have := oN_rg rE; omega
    have rQ' : -1 ≤ Q ∧ Q < 4000 := by have := oN_rg rQ; omega
    clear rE rQ
    by_cases c1 : t 123 (p + i) = 61 <;> by_cases c2 : t 123 (p + i) = 59 <;> by_cases c3 : E = -1 <;> by_cases c4 : Q = -1 <;> first | (exfalso; omega) | (simp (disch := omega) only [gr, gd_pos, if_pos, if_neg, if_true, if_false]; first | rfl | (rw [c3]; rfl) | (rw [c4]; rfl) | (rw [c3, c4]; rfl))) (by
    simp only [m_computes_8b]
    rw [gr (by omega), gr (by omega), if_pos (by omega)]) L 0 (by omega)
  have E' : lp (L := Int × Int × Int × iS) (E := Int × Int × iS) (fun l => m_computes_8b (p : Int) (L : Int) (l.1) (l.2.1) (l.2.2.1) (l.2.2.2)) (-1, -1, 0, t) = _ := E
  rw [E', bn]
theorem dst_ok (hb : BY (t 123)) {e : Nat} (he : p + e ≤ 4000) (hT : ∀ k, k < e → t 123 (p + k) ≠ 32) : m_destOf (p : Int) (e : Int) t = some (if cD (t 123) p (e : Int) = 0 then -1 else 8 * cD (t 123) p (e : Int), t) := by
  unfold m_destOf cD
  have e1 : (if (e : Int) = -1 then 0 else 1 + fw tD (bs (t 123) p (e : Int).toNat) 0) = 1 + fw tD (bs (t 123) p e) 0 := by rw [if_neg (by omega), Int.toNat_natCast]
  rw [wordOf_ok tD (by omega) l_9 (by decide) he hT hb, bq, e1]
  have fr := fw_rg (b := bs (t 123) p e) tD 0
  rw [tD_len] at fr
  rw [gr (by omega)]
  by_cases c : fw tD (bs (t 123) p e) 0 = -1
  · rw [if_pos (by omega), if_pos (by omega)]
  · rw [if_neg (by omega), gr (by omega)]
    by_cases c2 : e = 0
    · subst c2
      exact absurd (show fw tD (bs (t 123) p 0) 0 = -1 from rfl) c
    · rw [if_neg (by omega), if_neg (by omega)]
      congr 2
      omega
theorem mco_ok (hb : BY (t 123)) {L : Nat} (hL : p + L ≤ 4000) (hs : ∀ j, p ≤ j → j < p + L → t 123 j ≠ 32) {E Q : Int} (hE : E = fx (t 123) 61 p L) (hQ : Q = fx (t 123) 59 p L) : (cW (t 123) p L E Q → m_computes (p : Int) (L : Int) t = some (1, t)) ∧ (¬ cW (t 123) p L E Q → m_computes (p : Int) (L : Int) t = m_computes_195 (8 * cD (t 123) p E) (ka_4 (cC (t 123) p L E Q).toNat).toInt (cJ (t 123) p L Q) t) := by
  rw [mc8 hb hL, ← hE, ← hQ]
  have x1 := fx_sp (f := t 123) (c := 61) (a := p) L
  have x2 := fx_sp (f := t 123) (c := 59) (a := p) L
  rw [← hE] at x1
  rw [← hQ] at x2
  clear hE hQ
  have rE : oN E L := x1.imp (fun z => z.1) (fun ⟨e, z1, z2, _⟩ => ⟨e, z1, z2⟩)
  have rQ : oN Q L := x2.imp (fun z => z.1) (fun ⟨e, z1, z2, _⟩ => ⟨e, z1, z2⟩)
  clear x1 x2
  have dr := cD_rg (t 123) p E
  have jr := cJ_rg (t 123) p L Q
  have rE' : -1 ≤ E ∧ E < L := oN_rg rE
  have rQ' : -1 ≤ Q ∧ Q < L := oN_rg rQ
  -- the last place
  obtain ⟨la, la1, la2⟩ : ∃ la : Nat, la ≤ L ∧ la = (if Q = -1 then L else Q.toNat) := ⟨_, by split <;> omega, rfl⟩
  have hB : cB p L Q = p + la := by unfold cB; rw [la2]
  have s66 : m_computes_66 (p : Int) (L : Int) E Q t = m_computes_83 (p : Int) (L : Int) E Q (E + 1) (la : Int) t := by
    unfold m_computes_66
    rw [gr (by omega)]
    by_cases c : Q = -1
    · rw [if_pos c, la2, if_pos c]
    · rw [if_neg c, la2, if_neg c]
      congr 1
      omega
  obtain ⟨fi, fi1⟩ : ∃ fi : Nat, (fi : Int) = E + 1 := ⟨(E + 1).toNat, by omega⟩
  have hA : cA p E = p + fi := by unfold cA; omega
  have hC : cC (t 123) p L E Q = fw tC (bs (t 123) (p + fi) (la - fi)) 0 := by
    unfold cC
    rw [hA, hB, show p + la - (p + fi) = la - fi by omega]
  rw [s66]
  unfold m_computes_83
  rw [gr (by omega), gr (by omega)]
  by_cases c : la < fi
  · rw [if_neg (by omega)]
    refine ⟨fun _ => rfl, fun w => absurd (Or.inl ?_) w⟩
    rw [hC, show la - fi = 0 by omega]
    rfl
  rw [if_pos (by omega)]
  have fr := fw_rg (b := bs (t 123) (p + fi) (la - fi)) tC 0
  rw [tC_len] at fr
  -- the jump
  have s109 : ∀ D : Int, m_computes_109 (p : Int) (L : Int) Q (E + 1) (la : Int) D t = m_computes_157 (L : Int) Q D (cc (cC (t 123) p L E Q)) (cJ (t 123) p L Q) t := by
    intro D
    unfold m_computes_109
    rw [show (p : Int) + (E + 1) = ((p + fi : Nat) : Int) by omega, show (la : Int) - (E + 1) = ((la - fi : Nat) : Int) by omega, cof_ok hb (by omega), bq, ← hC, gr (by omega)]
    unfold cJ
    rcases rQ with rQ | ⟨q, q1, rQ⟩
    · rw [if_pos rQ, if_pos rQ]
    · have eq : (q : Int).toNat = q := by omega
      rw [if_neg (by omega), if_neg (by omega), rQ, eq, show (p : Int) + (q : Int) + 1 = ((p + q + 1 : Nat) : Int) by omega, show (L : Int) - (q : Int) - 1 = ((L - q - 1 : Nat) : Int) by omega, wordOf_ok tJ (by omega) l_10 (by decide) (by omega) (fun k hk => hs _ (by omega) (by omega)) hb, bq]
  -- the destination
  have s83 : gd (rg E) (if E = (-1) then m_computes_109 (p : Int) (L : Int) Q (E + 1) (la : Int) 0 t else bd (m_destOf (p : Int) E t) (fun r6 s6 => m_computes_109 (p : Int) (L : Int) Q (E + 1) (la : Int) r6 s6)) = m_computes_157 (L : Int) Q (if E ≠ -1 ∧ cD (t 123) p E = 0 then -1 else 8 * cD (t 123) p E) (cc (cC (t 123) p L E Q)) (cJ (t 123) p L Q) t := by
    rw [gr (by omega)]
    rcases rE with rE | ⟨e, e1, rE⟩
    · rw [if_pos rE, s109, if_neg (fun z => z.1 rE)]
      congr 1
      unfold cD
      rw [if_pos rE]
      rfl
    · rw [if_neg (by omega)]
      have := dst_ok (t := t) (p := p) hb (e := e) (by omega) (fun k hk => hs _ (by omega) (by omega))
      rw [← rE] at this
      rw [this, bq, s109]
      congr 1
      by_cases c3 : cD (t 123) p E = 0
      · rw [if_pos c3, if_pos ⟨by omega, c3⟩]
      · rw [if_neg c3, if_neg (fun z => c3 z.2)]
  rw [s83]
  unfold m_computes_157
  have q3 : Q ≠ -1 → cJ (t 123) p L Q ≠ 0 → (L : Int) - Q - 1 = 3 := by
    intro g1 g2
    unfold cJ at g2
    rw [if_neg g1] at g2
    have fj := fw_rg (b := bs (t 123) (p + Q.toNat + 1) (L - Q.toNat - 1)) tJ 0
    rw [tJ_len] at fj
    have g3 := fw_get (b := bs (t 123) (p + Q.toNat + 1) (L - Q.toNat - 1)) tJ 0 (fw tJ (bs (t 123) (p + Q.toNat + 1) (L - Q.toNat - 1)) 0).toNat (by omega)
    have hh : ∀ i, i < 7 → (tJ.getD i []).length = 3 := by decide
    have := hh (fw tJ (bs (t 123) (p + Q.toNat + 1) (L - Q.toNat - 1)) 0).toNat (by omega)
    rw [g3, bs_len] at this
    omega
  have k4 := ka4_rg (cC (t 123) p L E Q).toNat
  rw [← hC] at fr
  have hcc : cc (cC (t 123) p L E Q) = if cC (t 123) p L E Q = -1 then -1 else (ka_4 (cC (t 123) p L E Q).toNat).toInt := rfl
  rw [hcc]
  unfold cW
  generalize cC (t 123) p L E Q = C at fr k4
  generalize cD (t 123) p E = D at dr
  generalize cJ (t 123) p L Q = J at jr q3
  constructor
  · intro w
    by_cases c1 : E = -1 <;> by_cases c2 : D = 0 <;> by_cases c3 : Q = -1 <;> by_cases c4 : J = 0 <;> by_cases c5 : C = -1 <;> first | (exfalso; omega) | skip
    all_goals first | (simp (disch := omega) only [gr, gd_pos, if_pos, if_neg, if_true, if_false]; done) | (have k4 := k4 (by omega); simp (disch := omega) only [gr, gd_pos, if_pos, if_neg, if_true, if_false])
  · intro w
    have k4 := k4 (by omega)
    by_cases c1 : E = -1 <;> by_cases c2 : D = 0 <;> by_cases c3 : Q = -1 <;> by_cases c4 : J = 0 <;> first | (exfalso; omega) | skip
    all_goals simp (disch := omega) only [gr, gd_pos, if_pos, if_neg, if_true, if_false]
theorem com_ok (hS : BY (s 1)) (hT : BY (t 123)) (hn : n ≤ 4000) (ag : ∀ j, j < n → s 1 j = t 123 j) (hF : FT s) (h : RA n own m (-1) s t) (h0 : s 55 14 = 0) (h15 : s 55 15 = -1) {q : Nat} (hq : 1 ≤ q) (hk : p + q ≤ n) (hs : ∀ j, p ≤ j → j < p + q → ¬ spt (s 1) n j) : ∃ bad s' t', pro_readComputation (p : Int) ((p + q : Nat) : Int) s = some (0, s') ∧ m_computes (p : Int) (q : Int) t = some (bad, t') ∧ OUT bad (p : Int) n s' t' := by
  have RKs := RA_RK h
  obtain ⟨z1, z2, z3⟩ := h.1
  obtain ⟨E, Q, hE, hQ, p1, p2⟩ := prc_ok (s := s) (p := p) hS hF (L := q) (by omega)
  have ag' : ∀ j, j < q → s 1 (p + j) = t 123 (p + j) := fun j hj => ag _ (by omega)
  have hE' : E = fx (t 123) 61 p q := by rw [hE]; exact fx_eq q ag'
  have hQ' : Q = fx (t 123) 59 p q := by rw [hQ]; exact fx_eq q ag'
  obtain ⟨m1, m2⟩ := mco_ok (t := t) (p := p) hT (L := q) (by omega) (fun j j1 j2 z => hs j j1 j2 (Or.inl (Or.inl (by rw [ag j (by omega)]; exact z)))) hE' hQ'
  have x1 := fx_sp (f := s 1) (c := 61) (a := p) q
  have x2 := fx_sp (f := s 1) (c := 59) (a := p) q
  rw [← hE] at x1
  rw [← hQ] at x2
  have rE : -1 ≤ E ∧ E < q := by rcases x1 with ⟨h, _⟩ | ⟨e, h1, h2, _⟩ <;> omega
  have rQ : -1 ≤ Q ∧ Q < q := by rcases x2 with ⟨h, _⟩ | ⟨e, h1, h2, _⟩ <;> omega
  have dD : cD (s 1) p E = cD (t 123) p E := by
    unfold cD
    by_cases c : E = -1
    · rw [if_pos c, if_pos c]
    · rw [if_neg c, if_neg c, bs_ext (fun k hk => ag' k (by omega))]
  have dJ : cJ (s 1) p q Q = cJ (t 123) p q Q := by
    unfold cJ
    by_cases c : Q = -1
    · rw [if_pos c, if_pos c]
    · rw [if_neg c, if_neg c, bs_ext (f := s 1) (g := t 123) (st' := p + Q.toNat + 1) (fun k hk => ag _ (by omega))]
  have dC : cC (s 1) p q E Q = cC (t 123) p q E Q := by
    unfold cC
    rw [bs_ext (f := s 1) (g := t 123) (st' := cA p E) (fun k hk => ag _ (by
      unfold cA cB at hk
      unfold cA
      split at hk <;> omega))]
  have eW : cW (s 1) p q E Q ↔ cW (t 123) p q E Q := by
    unfold cW
    rw [dD, dJ, dC]
  by_cases w : cW (t 123) p q E Q
  · rw [p1 (eW.mpr w), m1 w, pst0 h0, bq]
    exact ⟨1, _, _, rfl, rfl, OUT_st RKs (by omega)⟩
  · rw [p2 (fun z => w (eW.mp z)), m2 w, dD, dJ, dC]
    have dr := cD_rg (t 123) p E
    have jr := cJ_rg (t 123) p q Q
    have fr : cC (t 123) p q E Q = -1 ∨ 0 ≤ cC (t 123) p q E Q ∧ cC (t 123) p q E Q < 28 := by
      have := fw_rg (b := bs (t 123) (cA p E) (cB p q Q - cA p E)) tC 0
      rw [tC_len] at this
      unfold cC
      omega
    have c0 : cC (t 123) p q E Q ≠ -1 := fun z => w (Or.inl z)
    have k4 := ka4_rg (cC (t 123) p q E Q).toNat (by omega)
    generalize (ka_4 (cC (t 123) p q E Q).toNat).toInt = X at k4
    generalize cD (t 123) p E = D at dr
    generalize cJ (t 123) p q Q = J at jr
    unfold m_computes_195
    rw [gr (by omega)]
    by_cases c2 : m = 1500
    · rw [pad_s (by omega) h0, bq, if_pos (by omega)]
      exact ⟨2, _, _, rfl, rfl, OUT_st RKs (by omega)⟩
    · have e0 : (t 121 110).toNat = m := by omega
      rw [pad_w z1 (by omega), bq, if_neg (by omega), gd_pos (by omega), lt_eq, e0]
      have u1 : up t 193 m (-1) 121 110 = (m : Int) := by rw [up_cell (by decide)]; exact z2
      have u2 : up (up t 193 m (-1)) 189 m (57344 + 64 * X + 8 * D + J) 121 110 = (m : Int) := by rw [up_cell (by decide)]; exact u1
      rw [u1, Int.toNat_natCast, gd_pos (by omega), lt_eq, u2, lt_eq]
      refine ⟨0, _, _, rfl, rfl, Or.inl ⟨rfl, ?_, ?_, own, m + 1, ?_⟩⟩
      · rw [up_ne (by omega), up_cell (by decide)]; exact h0
      · rw [up_ne (by omega), up_cell (by decide)]; exact h15
      · refine RA_word h (by omega) (x := 57344 + 64 * X + 8 * D + J) (c := 57344 + 64 * X + 8 * D + J) (q := -1) (Or.inl ⟨rfl, Or.inl ⟨rfl, Or.inr ⟨by omega, by omega⟩⟩⟩) (Or.inl rfl) (up_same _ _ _ _) (fun i => ?_) ?_ ?_ ?_ ?_ (up_same _ _ _ _) ?_ ?_ ?_ ?_ ?_ (fun i => ?_) (fun i => ?_)
        · rw [up_cell (by decide), up_at]; simp
        · simp [up_at]
        · rw [up_cell (by decide), up_cell (by decide)]
        · rw [up_cell (by decide), up_cell (by decide)]
        · rw [up_cell (by decide), up_cell (by decide)]
        · simp [up_at]
        · rw [up_cell (by decide), up_cell (by decide), up_cell (by decide)]
        · rw [up_cell (by decide), up_cell (by decide), up_cell (by decide)]
        · rw [up_cell (by decide), up_cell (by decide), up_cell (by decide)]
        · rw [up_cell (by decide), up_cell (by decide), up_cell (by decide)]
        · simp [up_at]
        · simp [up_at]
end CQ
