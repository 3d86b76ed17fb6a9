/-! signs: addresses and labels -/
section AD
variable {n m a k p : Nat} {own : List (List Int)} {e : Int} {s t : iS}
theorem mad_lp (hb : BY (t 123)) (hn : a + k ≤ 4000) : ∃ d v, m_address (a : Int) (k : Int) t = m_address_70 (a : Int) (k : Int) d v t ∧ (d = 1 ∧ isN (t 123) a k ∧ v = nv (t 123) a k ∨ d = 0 ∧ ¬ isN (t 123) a k) := by
  have : ∃ d0 : Int, (d0 = 1 ∧ 1 ≤ k ∧ k ≤ 5 ∨ d0 = 0 ∧ ¬ (1 ≤ k ∧ k ≤ 5)) ∧ m_address (a : Int) (k : Int) t = m_address_21 (a : Int) (k : Int) d0 0 0 t := by
    unfold m_address m_address_13 m_address_14
    rw [gr (by omega)]
    by_cases c1 : k = 0
    · exact ⟨0, Or.inr ⟨rfl, by omega⟩, by rw [if_pos (by omega)]⟩
    · by_cases c2 : 5 < k
      · exact ⟨0, Or.inr ⟨rfl, by omega⟩, by rw [if_neg (by omega), if_pos (by omega)]⟩
      · exact ⟨1, Or.inl ⟨rfl, by omega, by omega⟩, by rw [if_neg (by omega), if_neg (by omega)]⟩
  obtain ⟨d0, hd, e0⟩ := this
  obtain ⟨e, e1, e2, e3⟩ := mad21 hb hn d0 hd
  refine ⟨e.1, e.2.1, ?_, e3⟩
  rw [e0]
  unfold m_address_21
  rw [e1, bn, e2]
theorem mad172 {c : Int} (hm : t 121 110 = (m : Int)) (h : m < 1500) (hc : rg c) : m_address_172 c t = some (0, up (up t 189 m (if c = -1 then 0 else c)) 121 110 ((m + 1 : Nat) : Int)) := by
  have e : (t 121 110).toNat = m := by omega
  unfold m_address_172 m_address_192
  rw [gd_pos hc]
  have u : ∀ x : Int, up t 189 m x 121 110 = (m : Int) := fun x => by rw [up_cell (by decide)]; exact hm
  by_cases c1 : c = -1
  · rw [if_pos c1, if_pos c1, gd_pos (by omega)]
    simp only [lt_eq, e, u]
    rfl
  · rw [if_neg c1, if_neg c1, gd_pos (by omega)]
    simp only [lt_eq, e, u]
    rfl
/-- a symbol that is not known, taken by both -/
theorem sym_ok (hS : BY (s 1)) (hT : BY (t 123)) (hn : n ≤ 4000) (ag : ∀ j, j < n → s 1 j = t 123 j) (h : RA n own m (-1) s t) (hk : a + k ≤ n) (hY : isY (s 1) a k) (hf : fw tK (bs (s 1) a k) 0 = -1) (p : Int) : (pro_takeSymbol p (a : Int) ((a + k : Nat) : Int) s = bd (pro_stopAt p 2 s) (fun _ s11 => some (0, s11)) ∧ m_symbolOf (a : Int) (k : Int) t = some (-1, t)) ∨ ∃ (own' : List (List Int)) (y : Nat) (s' t' : iS), pro_takeSymbol p (a : Int) ((a + k : Nat) : Int) s = some (23 + (y : Int), s') ∧ m_symbolOf (a : Int) (k : Int) t = some ((y : Int), t') ∧ y < own'.length ∧ RA n own' m (y : Int) s' t' ∧ s' 55 = s 55 := by
  have eb : bs (s 1) a k = bs (t 123) a k := bs_ext (fun j hj => ag _ (by omega))
  have h1 := hY.1
  rw [pts_ok hS hn h hk hY p, mso_ok hT hn h hk h1, fwKO hf, ← eb]
  have fr := fw_rg (b := bs (s 1) a k) own 0
  have hl := h.2.1.1
  by_cases c : fw own (bs (s 1) a k) 0 = -1
  · rw [if_pos c, if_pos rfl, if_pos c]
    by_cases c2 : own.length = 100
    · rw [if_pos c2, if_pos c2]
      exact Or.inl ⟨rfl, rfl⟩
    · rw [if_neg c2, if_neg c2]
      refine Or.inr ⟨own ++ [bs (s 1) a k], own.length, _, _, rfl, rfl, by rw [List.length_append]; exact Nat.lt_succ_self _, RA_new h c2 (isY_gw hY) eb hk, ?_⟩
      unfold nsx
      rw [up_cell (by decide), up_cell (by decide), up_cell (by decide), up_cell (by decide)]
  · rw [if_neg c, if_neg (by omega), if_neg c]
    refine Or.inr ⟨own, (fw own (bs (s 1) a k) 0).toNat, s, t, ?_, ?_, by omega, RA_weak h _, rfl⟩
    · rw [show ((fw own (bs (s 1) a k) 0).toNat : Int) = fw own (bs (s 1) a k) 0 by omega]
    · rw [show ((fw own (bs (s 1) a k) 0).toNat : Int) = fw own (bs (s 1) a k) 0 by omega]
theorem kno_tk (h : RA n own m e s t) (hS : BY (s 1)) (hn : n ≤ 4000) (hk : a + k ≤ n) (hY : isY (s 1) a k) (hf : fw tK (bs (s 1) a k) 0 ≠ -1) (p : Int) : ∃ j : Nat, j < 23 ∧ pro_takeSymbol p (a : Int) ((a + k : Nat) : Int) s = some ((j : Int), s) ∧ kw (bs (s 1) a k) = kv j := by
  have fr := fw_rg (b := bs (s 1) a k) tK 0
  rw [tK_len] at fr
  refine ⟨(fw tK (bs (s 1) a k) 0).toNat, by omega, ?_, ?_⟩
  · rw [pts_ok hS hn h hk hY p, fwKK hf, if_neg hf, show ((fw tK (bs (s 1) a k) 0).toNat : Int) = fw tK (bs (s 1) a k) 0 by omega]
  · unfold kw
    rw [if_neg hf]
theorem adr_ok (hS : BY (s 1)) (hT : BY (t 123)) (hn : n ≤ 4000) (ag : ∀ j, j < n → s 1 j = t 123 j) (h : RA n own m (-1) s t) (h0 : s 55 14 = 0) (h15 : s 55 15 = -1) (hk : p + 1 + k ≤ n) : ∃ bad s' t', pro_readAddress (p : Int) ((p + 1 + k : Nat) : Int) s = some (0, s') ∧ m_address ((p : Int) + 1) (k : Int) t = some (bad, t') ∧ OUT bad (p : Int) n s' t' := by
  have RKs := RA_RK h
  have hz := h.1
  obtain ⟨z1, z2, z3⟩ := hz
  have ag' : ∀ j, j < k → s 1 (p + 1 + j) = t 123 (p + 1 + j) := fun j hj => ag _ (by omega)
  have eb : bs (s 1) (p + 1) k = bs (t 123) (p + 1) k := bs_ext ag'
  obtain ⟨d, v, ed, hd⟩ := mad_lp (t := t) (a := p + 1) (k := k) hT (by omega)
  unfold pro_readAddress
  rw [show (p : Int) + 1 = ((p + 1 : Nat) : Int) by omega, ed]
  by_cases hN : isN (s 1) (p + 1) k
  · have hN' := isN_eq ag' hN
    rcases hd with ⟨d1, _, d3⟩ | ⟨_, d2⟩
    case inr => exact absurd hN' d2
    have ev := nv_eq k ag'
    rw [← ev] at d3
    have r := nv_rg hN.2.1 hN.2.2
    rw [pnu_y hS (by omega) hN, bq]
    unfold m_address_70
    rw [d1, d3]
    by_cases c : nv (s 1) (p + 1) k ≤ 32767
    · rw [if_pos c, gr (by omega), if_neg (by omega), gr (by omega), if_neg (by omega), gr (by omega), if_neg (by omega)]
      unfold m_address_82 m_address_97
      rw [gr (by omega), if_neg (by omega), gr (by omega)]
      by_cases c2 : m = 1500
      · rw [pad_s (by omega) h0, bq, if_pos (by omega)]
        exact ⟨2, _, _, rfl, rfl, OUT_st RKs (by omega)⟩
      · rw [pad_w z1 (by omega), bq, if_neg (by omega), gd_pos (by omega), lt_eq, gr (by omega), if_neg (by omega)]
        have e0 : (t 121 110).toNat = m := by omega
        have z2' : up t 193 m (-1) 121 110 = (m : Int) := by rw [up_cell (by decide)]; exact z2
        unfold m_address_134
        rw [gr (by omega), if_neg (by omega), e0, mad172 z2' (by omega) ⟨by omega, by omega⟩, if_neg (by omega)]
        refine ⟨0, _, _, rfl, rfl, Or.inl ⟨rfl, ?_, ?_, own, m + 1, ?_⟩⟩
        · rw [up_ne (by omega), up_cell (by decide)]; exact h0
        · rw [up_ne (by omega), up_cell (by decide)]; exact h15
        · refine RA_word h (by omega) (x := nv (s 1) (p + 1) k) (c := nv (s 1) (p + 1) k) (q := -1) (Or.inl ⟨rfl, Or.inl ⟨rfl, Or.inl ⟨by omega, by omega⟩⟩⟩) (Or.inl rfl) (up_same _ _ _ _) (fun i => ?_) ?_ ?_ ?_ ?_ (up_same _ _ _ _) ?_ ?_ ?_ ?_ ?_ (fun i => ?_) (fun i => ?_)
          · rw [up_cell (by decide), up_at]; simp
          · simp [up_at]
          · rw [up_cell (by decide), up_cell (by decide)]
          · rw [up_cell (by decide), up_cell (by decide)]
          · rw [up_cell (by decide), up_cell (by decide)]
          · simp [up_at]
          · rw [up_cell (by decide), up_cell (by decide), up_cell (by decide)]
          · rw [up_cell (by decide), up_cell (by decide), up_cell (by decide)]
          · rw [up_cell (by decide), up_cell (by decide), up_cell (by decide)]
          · rw [up_cell (by decide), up_cell (by decide), up_cell (by decide)]
          · simp [up_at]
          · simp [up_at]
    · rw [if_neg c, gr (by omega), if_pos (by omega), pis_n hS (by omega) (fun q => q.2.2.1 (hN.2.2 0 (by have := hN.1; omega))), bq, gr (by omega), if_pos rfl, pst0 h0, bq, gr (by omega), if_neg (by omega), gr (by omega), if_pos (by omega)]
      exact ⟨1, _, _, rfl, rfl, OUT_st RKs (by omega)⟩
  · have hN' : ¬ isN (t 123) (p + 1) k := fun q => hN (isN_eq (fun j hj => (ag' j hj).symm) q)
    rcases hd with ⟨_, d2, _⟩ | ⟨d1, _⟩
    case inl => exact absurd d2 hN'
    rw [pnu_n hS (by omega) hN, bq, gr (by omega), if_pos (by omega)]
    unfold m_address_70 m_address_82
    rw [d1, gr (by omega), if_pos rfl, if_pos rfl]
    by_cases hY : isY (s 1) (p + 1) k
    case neg =>
      have hY' : ¬ isY (t 123) (p + 1) k := fun q => hY (isY_eq (fun j hj => (ag' j hj).symm) q)
      rw [pis_n hS (by omega) hY, bq, gr (by omega), if_pos rfl, pst0 h0, bq, gr (by omega), mis_n hT (by omega) hY', bq, gr (by omega), if_pos rfl]
      exact ⟨1, _, _, rfl, rfl, OUT_st RKs (by omega)⟩
    have hY' := isY_eq ag' hY
    rw [pis_y hS (by omega) hY, bq, gr (by omega), if_neg (by omega), gr (by omega), mis_y hT (by omega) hY', bq, gr (by omega), if_neg (by omega)]
    unfold m_address_97
    rw [gr (by omega)]
    by_cases c2 : m = 1500
    · rw [if_pos (by omega)]
      by_cases hf : fw tK (bs (s 1) (p + 1) k) 0 = -1
      · rcases sym_ok hS hT hn ag h hk hY hf (p : Int) with ⟨y1, _⟩ | ⟨own', y, s', t', y1, _, y3, y4, y5⟩
        · rw [y1, pst0 h0, bq, bq]
          obtain ⟨s', g1, g2, g3, g4⟩ := pad_f (m := m) (p := (p : Int)) (w := -1 - 0) (b := 2) (s := up (up s 55 14 2) 55 15 (p : Int)) (by rw [up_ne (by omega), up_ne (by omega)]; exact z1) z3 (by omega) (by rw [up_ne (by omega), up_same]) (up_same _ _ _ _) (RK_55 (RK_55 RKs))
          rw [g1, bq]
          exact ⟨2, _, _, rfl, rfl, Or.inr ⟨by omega, g2, g3, g4⟩⟩
        · have y55 : ∀ j, s' 55 j = s 55 j := fun j => by rw [y5]
          rw [y1, bq, pad_s (by rw [y55]; omega) (by rw [y55]; exact h0), bq]
          exact ⟨2, _, _, rfl, rfl, OUT_st (RA_RK y4) (by omega)⟩
      · obtain ⟨j, j1, j2, j3⟩ := kno_tk h hS hn hk hY hf (p : Int)
        rw [j2, bq, pad_s (by omega) h0, bq]
        exact ⟨2, _, _, rfl, rfl, OUT_st RKs (by omega)⟩
    · rw [if_neg (by omega), gd_pos (by omega), lt_eq, gr (by omega), if_pos rfl]
      have e0 : (t 121 110).toNat = m := by omega
      rw [e0]
      have T1 : up t 193 m (-1) 123 = t 123 := up_cell (by decide)
      have hT1 : BY (up t 193 m (-1) 123) := by rw [T1]; exact hT
      have z2' : up t 193 m (-1) 121 110 = (m : Int) := by rw [up_cell (by decide)]; exact z2
      have h' := RA_193 (v := -1) h
      rw [kno_ok hT1 (by omega) (by rw [T1]; exact hY'), bq, T1, ← eb]
      have kr := kw_rg (bs (s 1) (p + 1) k)
      unfold m_address_134
      rw [gr (by omega)]
      by_cases hf : fw tK (bs (s 1) (p + 1) k) 0 = -1
      · rw [if_pos (kr.2.2.mpr hf)]
        rcases sym_ok hS hT1 hn (by rw [T1]; exact ag) h' hk hY hf (p : Int) with ⟨y1, y2⟩ | ⟨own', y, s', t', y1, y2, y3, y4, y5⟩
        · rw [y1, pst0 h0, bq, bq, y2, bq, gd_pos (by omega), lt_eq]
          obtain ⟨s', g1, g2, g3, g4⟩ := pad_f (m := m) (p := (p : Int)) (w := -1 - 0) (b := 2) (s := up (up s 55 14 2) 55 15 (p : Int)) (by rw [up_ne (by omega), up_ne (by omega)]; exact z1) z3 (by omega) (by rw [up_ne (by omega), up_same]) (up_same _ _ _ _) (RK_55 (RK_55 RKs))
          rw [g1, bq]
          have v1 : up (up t 193 m (-1)) 193 m (-1) 121 110 = (m : Int) := by rw [up_cell (by decide)]; exact z2'
          rw [z2', Int.toNat_natCast, v1, Int.toNat_natCast, up_same]
          rw [gd_pos (by omega), gr (by omega), if_pos rfl]
          exact ⟨2, _, _, rfl, rfl, Or.inr ⟨by omega, g2, g3, g4⟩⟩
        · have y55 : ∀ j, s' 55 j = s 55 j := fun j => by rw [y5]
          obtain ⟨⟨w1, w2, w3⟩, ww⟩ := id y4
          rw [y1, bq, pad_w w1 (by omega), bq, y2, bq, gd_pos (by omega), lt_eq, z2', Int.toNat_natCast]
          have v1 : up t' 193 m (y : Int) 121 110 = (m : Int) := by rw [up_cell (by decide)]; exact w2
          have hl := ww.1.1
          rw [v1, Int.toNat_natCast, up_same, gd_pos (by omega), gr (by omega), if_neg (by omega), mad172 v1 (by omega) ⟨by omega, by omega⟩]
          refine ⟨0, _, _, rfl, rfl, Or.inl ⟨rfl, ?_, ?_, own', m + 1, ?_⟩⟩
          · rw [up_ne (by omega), up_cell (by decide), y55]; exact h0
          · rw [up_ne (by omega), up_cell (by decide), y55]; exact h15
          · refine RA_word y4 (by omega) (x := -1 - (23 + (y : Int))) (c := if kw (bs (s 1) (p + 1) k) = -1 then 0 else kw (bs (s 1) (p + 1) k)) (q := (y : Int)) (Or.inr ⟨y, y3, rfl, rfl⟩) (Or.inr rfl) (up_same _ _ _ _) (fun i => ?_) ?_ ?_ ?_ ?_ (up_same _ _ _ _) ?_ ?_ ?_ ?_ ?_ (fun i => ?_) (fun i => ?_)
            · rw [up_cell (by decide), up_at]; simp
            · simp [up_at]
            · rw [up_cell (by decide), up_cell (by decide)]
            · rw [up_cell (by decide), up_cell (by decide)]
            · rw [up_cell (by decide), up_cell (by decide)]
            · simp [up_at]
            · rw [up_cell (by decide), up_cell (by decide), up_cell (by decide)]
            · rw [up_cell (by decide), up_cell (by decide), up_cell (by decide)]
            · rw [up_cell (by decide), up_cell (by decide), up_cell (by decide)]
            · rw [up_cell (by decide), up_cell (by decide), up_cell (by decide)]
            · simp [up_at]
            · simp [up_at]
      · rw [if_neg (fun q => hf (kr.2.2.mp q))]
        obtain ⟨j, j1, j2, j3⟩ := kno_tk h hS hn hk hY hf (p : Int)
        rw [j2, bq, pad_w z1 (by omega), bq, mad172 z2' (by omega) ⟨by omega, by omega⟩, if_neg (fun q => hf (kr.2.2.mp q)), j3]
        refine ⟨0, _, _, rfl, rfl, Or.inl ⟨rfl, ?_, ?_, own, m + 1, ?_⟩⟩
        · rw [up_ne (by omega), up_cell (by decide)]; exact h0
        · rw [up_ne (by omega), up_cell (by decide)]; exact h15
        · refine RA_word h (by omega) (x := -1 - (j : Int)) (c := kv j) (q := -1) (Or.inl ⟨rfl, Or.inr ⟨j, j1, rfl, rfl⟩⟩) (Or.inl rfl) (up_same _ _ _ _) (fun i => ?_) ?_ ?_ ?_ ?_ (up_same _ _ _ _) ?_ ?_ ?_ ?_ ?_ (fun i => ?_) (fun i => ?_)
          · rw [up_cell (by decide), up_at]; simp
          · simp [up_at]
          · rw [up_cell (by decide), up_cell (by decide)]
          · rw [up_cell (by decide), up_cell (by decide)]
          · rw [up_cell (by decide), up_cell (by decide)]
          · simp [up_at]
          · rw [up_cell (by decide), up_cell (by decide), up_cell (by decide)]
          · rw [up_cell (by decide), up_cell (by decide), up_cell (by decide)]
          · rw [up_cell (by decide), up_cell (by decide), up_cell (by decide)]
          · rw [up_cell (by decide), up_cell (by decide), up_cell (by decide)]
          · simp [up_at]
          · simp [up_at]
end AD
