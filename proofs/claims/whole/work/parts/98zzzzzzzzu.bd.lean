/-! chips, from the call to the answer -/
theorem TKR_st {ch : Int} {F : Nat → Int} {n N : Nat} {P : Nat → Nat} {s s' t : iS} (h : TKR ch F n N P s t) (hs : ∀ c, 9 ≤ c → c ≤ 13 → s' c = s c) (h8 : s' 2 8 = s 2 8) : TKR ch F n N P s' t := by
  unfold TKR TKI at h ⊢
  rw [hs 9 (by omega) (by omega), hs 10 (by omega) (by omega), hs 11 (by omega) (by omega), hs 12 (by omega) (by omega), hs 13 (by omega) (by omega), h8]
  exact h
theorem chips_ok (a : Int) (ha : rg a) {T : Nat} (s t : iS) (hT : QT (mx s t)) (hP : QP (mx s t)) (hL : QL (mx s t)) (hc : QHc s) (hr : QHr t) (hb : QBd T s t) (hB : BY (t 123)) : ∃ r s' t', x_chips a s = some (r, s') ∧ m_chips a t = some (r, t') ∧ rg r ∧ QT (mx s' t') ∧ QP (mx s' t') ∧ QHc s' ∧ QHr t' ∧ QBd T s' t' ∧ BY (t' 123) := by
  have hT' : RTv (s 0 1) (t 121 1) (s 1) (t 122) := hT
  obtain ⟨T1, T2, T3, T4, T5, T6⟩ := hT'
  by_cases c : a < 0 ∨ t 121 1 < a
  · refine ⟨-1, s, t, ?_, ?_, by decide, hT, hP, hc, hr, hb, hB⟩
    · unfold x_chips
      rw [gd_pos ha]
      by_cases c1 : a < 0
      · rw [if_pos c1]
      · rw [if_neg c1, gr (by omega), if_neg (by omega)]
    · unfold m_chips
      rw [takes0 ha c ⟨by omega, by omega⟩, bq, gr (by omega), if_pos rfl]
  obtain ⟨n, rfl⟩ : ∃ n : Nat, a = (n : Int) := ⟨a.toNat, by omega⟩
  have hn : n ≤ 4000 := by omega
  have q174 : 0 ≤ t 121 174 ∧ t 121 174 < 16 := by
    rcases hb with ⟨-, -, a3, a4⟩ | ⟨n, m, nin, nout, g, d, ob, wd, lc, pf, pf', O, O', -, ⟨⟨-, -, a3, a4⟩, -⟩, -⟩
    · exact ⟨a3, a4⟩
    · omega
  generalize hs5 : up s 0 1 0 = s5
  have r5 : ∀ c k, ¬ (c = 0 ∧ k = 1) → s5 c k = s c k := fun c k q => by rw [← hs5, up_ne q]
  have s5_0 : s5 0 1 = 0 := by rw [← hs5, up_same]
  generalize ht5 : up (up (sr (up t 121 3 (n : Int)) 123 (fun j => if j < n then t 122 j else t 123 j)) 121 1 0) 121 152 0 = t5
  have t5_123 : t5 123 = fun j => if j < n then t 122 j else t 123 j := by
    rw [← ht5, up_cell (by decide), up_cell (by decide)]
    funext j
    rw [sr_at]
  have t5r : ∀ c, c ≠ 121 → c ≠ 123 → t5 c = t c := fun c c1 c2 => by rw [← ht5, up_cell c1, up_cell c1, sr_ne c2, up_cell c1]
  have t5_3 : t5 121 3 = (n : Int) := by rw [← ht5]; simp [up_at, sr]
  have t5_1 : t5 121 1 = 0 := by rw [← ht5]; simp [up_at]
  have t5_152 : t5 121 152 = 0 := by rw [← ht5, up_same]
  have t5_174 : t5 121 174 = t 121 174 := by rw [← ht5]; simp [up_at, sr]
  have BT : BY (t5 123) := by
    intro k
    rw [t5_123]
    simp only
    split
    · exact T6 k
    · exact hB k
  have hL0 : LSc s ∧ MNc s ∧ KWT s ∧ RSY t := hL
  have kw5 : KWT s5 := ⟨TBo (r5 3 2 (by omega)) (funext fun k => r5 4 k (by omega)) (funext fun k => r5 5 k (by omega)) hL0.2.2.1.1, TBo (r5 6 2 (by omega)) (funext fun k => r5 7 k (by omega)) (funext fun k => r5 8 k (by omega)) hL0.2.2.1.2⟩
  obtain ⟨N, P, s6, t6, e1, e2, e3, e4, e5⟩ := scan_ok (F := t5 123) (n := n) (ch := 1) (s := s5) (t := t5) (Or.inr rfl) hn (fun i hi => by
      rw [t5_123]
      show s5 1 i = if i < n then t 122 i else t 123 i
      rw [if_pos hi, r5 1 i (by omega)]
      exact T4 i (by omega)) (fun k => by rw [r5 1 k (by omega)]; exact T5 k) BT kw5 ⟨t5_3, hn, fun i hi => rfl, BT, BT⟩
  rw [if_neg (by decide)] at e2
  have m1 : md L_tok_scan G_tok_scan s5 s6 := ftok_scan _ _ _ _ e1
  have m2 : md L_m_tokenize G_m_tokenize t5 t6 := fm_tokenize _ _ _ _ e2
  obtain ⟨c1, c1'⟩ := chk_ok (D := [1, 71, 72, 73, 74, 76, 77, 78, 79, 80, 81, 87, 91, 92, 93]) (E := [(0, 1), (99, 2)]) rfl m1
  obtain ⟨c2, c2'⟩ := chk_ok (D := [122, 123, 220, 221]) (E := [(121, 1), (121, 3), (121, 152), (121, 174)]) rfl m2
  obtain ⟨s7, hs7⟩ : ∃ s7, s7 = up s6 108 18 0 := ⟨_, rfl⟩
  have r7 : ∀ c, c ≠ 108 → s7 c = s6 c := fun c hc' => by rw [hs7, up_cell hc']
  have hN3 : TKR 1 (t5 123) n N P s7 t6 := TKR_st e3 (fun c _ _ => r7 c (by omega)) (by rw [r7 2 (by omega)])
  have t6_123 : t6 123 = t5 123 := c2 123 (by decide)
  have hH : TKH (t5 123) n N P s7 t6 := ⟨hN3, (c2' (121, 3) (by decide)).trans t5_3, hn, fun i hi => by rw [t6_123], fun k => by rw [t6_123]; exact BT k, BT⟩
  have r67 : ∀ c ∈ [1, 71, 72, 73, 74, 76, 77, 78, 79, 80, 81, 87, 91, 92, 93], s7 c = s c := fun c hc' => by
    have q : ∀ x ∈ [1, 71, 72, 73, 74, 76, 77, 78, 79, 80, 81, 87, 91, 92, 93], x ≠ 108 ∧ x ≠ 0 := by decide
    have := q c hc'
    rw [r7 c this.1, c1 c hc']
    exact funext fun k => r5 c k (by omega)
  have sz7 : SZc s7 := SZc_of hc.1 (fun c k z => by
    have : c ∈ [1, 71, 72, 73, 74, 76, 77, 78, 79, 80, 81, 87, 91, 92, 93] := by
      have q : c = 71 ∨ c = 72 ∨ c = 73 ∨ c = 74 ∨ c = 76 ∨ c = 77 ∨ c = 78 ∨ c = 79 ∨ c = 80 ∨ c = 81 ∨ c = 87 := by omega
      rcases q with e | e | e | e | e | e | e | e | e | e | e <;> subst e <;> decide
    rw [r67 c this])
  have gr7 : GRo s7 := GRo_st hc.2.1 (fun c k z1 z2 => by
    have : c ∈ [1, 71, 72, 73, 74, 76, 77, 78, 79, 80, 81, 87, 91, 92, 93] := by
      have q : c = 91 ∨ c = 92 ∨ c = 93 := by omega
      rcases q with e | e | e <;> subst e <;> decide
    rw [r67 c this])
  have h99 : 0 ≤ s7 99 2 ∧ s7 99 2 ≤ 100 := by
    rw [r7 99 (by omega), show s6 99 2 = s5 99 2 from c1' (99, 2) (by decide), r5 99 2 (by omega)]
    exact hc.2.2
  have s7_1 : s7 1 = s 1 := r67 1 (by decide)
  have s7_01 : s7 0 1 = 0 := by rw [r7 0 (by omega), show s6 0 1 = s5 0 1 from c1' (0, 1) (by decide)]; exact s5_0
  have s7_18 : s7 108 18 = 0 := by rw [hs7, up_same]
  have t6_122 : t6 122 = t 122 := (c2 122 (by decide)).trans (t5r 122 (by decide) (by decide))
  have t6_1 : t6 121 1 = 0 := (c2' (121, 1) (by decide)).trans t5_1
  have t6_152 : t6 121 152 = 0 := (c2' (121, 152) (by decide)).trans t5_152
  have t6_174 : t6 121 174 = t 121 174 := (c2' (121, 174) (by decide)).trans t5_174
  have hr6 : QHr t6 := fun c hc' => by
    rw [c2 220 (by decide), c2 221 (by decide), t5r 220 (by decide) (by decide), t5r 221 (by decide) (by decide)]
    exact hr c hc'
  obtain ⟨s8, t8, f1, f2, f3⟩ := h_read hH sz7 e4
  have m3 : md L_crd_read G_crd_read s7 s8 := fcrd_read _ _ f1
  have m4 : md L_m_chipTexts G_m_chipTexts t6 t8 := fm_chipTexts _ _ f2
  obtain ⟨d1, d1'⟩ := chk_ok (D := [1, 91, 92, 93]) (E := [(0, 1), (99, 2), (108, 18)]) rfl m3
  obtain ⟨d2, d2'⟩ := chk_ok (D := [122, 123, 220, 221]) (E := [(121, 1), (121, 152), (121, 174)]) rfl m4
  have s8_01 : s8 0 1 = 0 := (d1' (0, 1) (by decide)).trans s7_01
  have s8_1 : s8 1 = s 1 := (d1 1 (by decide)).trans s7_1
  have s8_18 : s8 108 18 = 0 := (d1' (108, 18) (by decide)).trans s7_18
  have t8_122 : t8 122 = t 122 := (d2 122 (by decide)).trans t6_122
  have t8_123 : t8 123 = t5 123 := (d2 123 (by decide)).trans t6_123
  have t8_1 : t8 121 1 = 0 := (d2' (121, 1) (by decide)).trans t6_1
  have t8_152 : t8 121 152 = 0 := (d2' (121, 152) (by decide)).trans t6_152
  have t8_174 : t8 121 174 = t 121 174 := (d2' (121, 174) (by decide)).trans t6_174
  have hr8 : QHr t8 := fun c hc' => by
    rw [d2 220 (by decide), d2 221 (by decide)]
    exact hr6 c hc'
  have gr8 : GRo s8 := GRo_st gr7 (fun c k z1 z2 => by
    have q : c = 91 ∨ c = 92 ∨ c = 93 := by omega
    rcases q with e | e | e <;> subst e
    · rw [d1 91 (by decide)]
    · rw [d1 92 (by decide)]
    · rw [d1 93 (by decide)])
  have h998 : 0 ≤ s8 99 2 ∧ s8 99 2 ≤ 100 := by rw [show s8 99 2 = s7 99 2 from d1' (99, 2) (by decide)]; exact h99
  -- the end, in both
  have fin : ∀ sF tF : iS, sF 0 1 = 0 → sF 1 = s 1 → tF 121 1 = 0 → tF 122 = t 122 → QT (mx sF tF) := fun sF tF z1 z2 z3 z4 => by
    show RTv (sF 0 1) (tF 121 1) (sF 1) (tF 122)
    rw [z1, z2, z3, z4]
    exact ⟨rfl, by omega, by omega, fun i hi => by omega, T5, T6⟩
  have XC : x_chips (n : Int) s = gd (rg (s8 2 13)) (if (s8 2 13) = 0 then bd (cck_check s8) (fun _ s11 => x_chips_59 s11) else x_chips_59 s8) := by
    unfold x_chips
    rw [gr (by omega), if_neg (by omega), gr (by omega), if_pos (by omega), lt_eq, hs5, e1, bq]
    unfold brd_remove
    rw [lt_eq, bq, ← hs7, f1, bq]
  have MC : m_chips (n : Int) t = gd (rg (t8 121 11)) (if (t8 121 11) ≤ 0 then bd (m_checkPins (up (up t8 121 4 (t8 121 12)) 121 69 0)) (fun _ s11 => m_chips_58 0 s11) else some (t8 121 11, up t8 121 4 (t8 121 12))) := by
    unfold m_chips
    rw [takes2 (by omega) (by omega), bq, gr (by omega), if_neg (by omega), lt_eq, ht5, e2, bq, f2, bq, lt_eq, up_ne (show ¬ (121 = 121 ∧ 11 = 4) by omega), lt_eq]
  rcases f3 with ⟨C, O, Q, R, L, E, I, hD⟩ | ⟨f, q, q1, q2, ⟨z1, z2, z3, z4⟩, z5, ⟨y1, y2, y3, y4⟩⟩
  case inr =>
    -- a fault of the form
    have pu := (tkP hN3 q2).2.2
    refine ⟨f, up s8 0 2 (P q : Int), up t8 121 4 (P q : Int), ?_, ?_, ⟨by omega, by omega⟩, fin _ _ (by rw [up_ne (by omega)]; exact s8_01) (by rw [up_cell (by decide)]; exact s8_1) (by rw [up_ne (by omega)]; exact t8_1) (by rw [up_cell (by decide)]; exact t8_122), ?_, ⟨SZc_of z5 (fun c k z => up_ne (by omega)), GRo_st gr8 (fun c k _ _ => up_ne (by omega)), by rw [up_ne (by omega)]; exact h998⟩, ?_, Or.inl ⟨by rw [up_ne (by omega)]; exact s8_18, by rw [up_ne (by omega)]; exact t8_152, by rw [up_ne (by omega), t8_174]; exact q174.1, by rw [up_ne (by omega), t8_174]; exact q174.2⟩, ?_⟩
    · rw [XC, z3, gr (by omega), if_neg (by omega)]
      unfold x_chips_59
      rw [z3, gr (by omega), if_neg (by omega)]
      exact x97_f hN3 z1 z3 z4 q2
    · rw [MC, y2, gr (by omega), if_neg (by omega), y3]
    · show up s8 0 2 (P q : Int) 0 2 = up t8 121 4 (P q : Int) 121 4 ∧ rg (up s8 0 2 (P q : Int) 0 2)
      rw [up_same, up_same]
      exact ⟨rfl, by omega, by omega⟩
    · intro c hc'
      rw [up_ne (by omega), up_ne (by omega)]
      exact hr8 c hc'
    · rw [up_cell (by decide), t8_123]
      exact BT
  -- the form is right
  obtain ⟨hs, kc, kr⟩ := KHS_R hD
  have sz8 := SZc_R hD
  have hE : s7 9 (N - 1) = 0 := hD.2.2.2.2.2.2.2.2.2.2.2.2.2.1
  obtain ⟨⟨-, -, x13, x11, x14⟩, -⟩ := hD
  obtain ⟨t9, ht9⟩ : ∃ t9, t9 = up (up t8 121 4 (t8 121 12)) 121 69 0 := ⟨_, rfl⟩
  have f9 : ∀ c k, ¬ (c = 121 ∧ (k = 4 ∨ k = 69)) → t9 c k = t8 c k := fun c k z => by rw [ht9, up_ne (by omega), up_ne (by omega)]
  have kr9 : KR s7 t6 C Q R L I t9 := KR_of kr (fun c k z => f9 c k (by omega))
  have hA0 : BLc [] s8 := Or.inl ⟨rfl, x13, x14⟩
  have hB0 : RBc P N [] t9 := Or.inl ⟨rfl, by rw [ht9, up_same]⟩
  obtain ⟨kw0, ko0⟩ := GRo_KW gr8 hs
  obtain ⟨sA, tA, A, B, g1, g2, g3, g4, g5, g6, g7, g8, g9, g10, g11, g12, g13, g14, g15⟩ := chk_chs hH hs kc kr9 hA0 hB0 kw0 ko0 h998
  have XC' : x_chips (n : Int) s = bd (cck_check_110 sA) (fun _ s11 => x_chips_59 s11) := by rw [XC, x13, gr (by omega), if_pos rfl, g1]
  have MC' : m_chips (n : Int) t = m_chips_82 tA := by rw [MC, x11, gr (by omega), if_pos (by omega), ← ht9, g2]
  have grA : GRo sA := GRo_of hs g4 g14
  have szA : SZc sA := SZc_of sz8 (fun c k z => g12 c k (by omega) (by omega))
  have sA_18 : sA 108 18 = 0 := by rw [g12 108 18 (by omega) (by omega)]; exact s8_18
  have sA_01 : sA 0 1 = 0 := by rw [g12 0 1 (by omega) (by omega)]; exact s8_01
  have sA_1 : sA 1 = s 1 := by rw [← s8_1]; exact funext fun k => g12 1 k (by omega) (by omega)
  have fA : ∀ c k, ¬ (c = 121 ∧ (k = 4 ∨ k = 69 ∨ k = 70)) → ¬ (214 ≤ c ∧ c ≤ 218) → tA c k = t8 c k := fun c k z1 z2 => by rw [g13 c k (by omega) z2]; exact f9 c k (by omega)
  have tA_122 : tA 122 = t 122 := by rw [← t8_122]; exact funext fun k => fA 122 k (by omega) (by omega)
  have tA_123 : tA 123 = t5 123 := by rw [← t8_123]; exact funext fun k => fA 123 k (by omega) (by omega)
  have tA_1 : tA 121 1 = 0 := by rw [fA 121 1 (by omega) (by omega)]; exact t8_1
  have hrA : QHr tA := fun c hc' => by
    rw [fA 220 c (by omega) (by omega), fA 221 c (by omega) (by omega)]
    exact hr8 c hc'
  have hbA : sA 108 18 = 0 ∧ tA 121 152 = 0 ∧ 0 ≤ tA 121 174 ∧ tA 121 174 < 16 := ⟨sA_18, by rw [fA 121 152 (by omega) (by omega)]; exact t8_152, by rw [fA 121 174 (by omega) (by omega), t8_174]; exact q174.1, by rw [fA 121 174 (by omega) (by omega), t8_174]; exact q174.2⟩
  have up0 : ∀ {sF tF : iS}, QBd 0 sF tF → QBd T sF tF := by
    intro sF tF hq
    rcases hq with z | ⟨n, m, nin, nout, g, d, ob, wd, lc, pf, pf', O, O', h1, h2, h3, h4, h5, h6, h7, h8, h9⟩
    · exact Or.inl z
    · exact Or.inr ⟨n, m, nin, nout, g, d, ob, wd, lc, pf, pf', O, O', h1, h2, h3, h4, h5, h6, h7, h8, by omega⟩
  by_cases zz : kMn A = 100000
  · have A0 := kMn_z zz g15
    have B0 : B = [] := DOM_nil (by rw [A0] at g7; exact g7)
    rw [A0] at g6
    rw [B0] at g8
    obtain ⟨r, s', t', j1, j2, j3, j4, j5, j6, j7, j8, j9, j10⟩ := chk_end hH hs g3 g4 g14 g10 (g11 A0) g9 g6 g8 hbA hrA hE
    refine ⟨r, s', t', by rw [XC']; exact j1, by rw [MC']; exact j2, j3, fin _ _ (by rw [j10]; exact sA_01) ((funext fun k => j7 1 k (by omega) (by omega) (by omega)).trans sA_1) (by rw [j9]; exact tA_1) ((funext fun k => j8 122 k (by omega) (by omega)).trans tA_122), j4, ⟨SZc_of szA (fun c k z => j7 c k (by omega) (by omega) (by omega)), GRo_st grA (fun c k z1 z2 => j7 c k (by omega) (by omega) (by omega)), by rw [j7 99 2 (by omega) (by omega) (by omega)]; exact g5⟩, j6, up0 j5, ?_⟩
    rw [show t' 123 = tA 123 from funext fun k => j8 123 k (by omega) (by omega), tA_123]
    exact BT
  · have lt : kMn A < 100000 := by have := kMn_le A; omega
    obtain ⟨f, u, j1, j2, j3, j4, j5, j6, j7, j8⟩ := flt_ok hN3 g3.1 g6 g8 (kMn_DOM g7) lt
    have pu := (tkP hN3 j2).2.2
    refine ⟨f, _, _, ?_, ?_, j1, fin (up sA 0 2 (P u : Int)) (up tA 121 4 (P u : Int)) (by rw [up_ne (by omega)]; exact sA_01) (by rw [up_cell (by decide)]; exact sA_1) (by rw [up_ne (by omega)]; exact tA_1) (by rw [up_cell (by decide)]; exact tA_122), ?_, ⟨SZc_of szA (fun c k z => up_ne (by omega)), GRo_st grA (fun c k _ _ => up_ne (by omega)), by rw [up_ne (by omega)]; exact g5⟩, ?_, Or.inl ⟨by rw [up_ne (by omega)]; exact hbA.1, by rw [up_ne (by omega)]; exact hbA.2.1, by rw [up_ne (by omega)]; exact hbA.2.2.1, by rw [up_ne (by omega)]; exact hbA.2.2.2⟩, ?_⟩
    · rw [XC']
      unfold cck_check_110
      rw [gd_pos j7, if_neg j5, bq]
      exact j3
    · rw [MC']
      unfold m_chips_82
      rw [gd_pos j8, if_neg j6]
      exact j4
    · show up sA 0 2 (P u : Int) 0 2 = up tA 121 4 (P u : Int) 121 4 ∧ rg (up sA 0 2 (P u : Int) 0 2)
      rw [up_same, up_same]
      exact ⟨rfl, by omega, by omega⟩
    · intro c hc'
      rw [up_ne (by omega), up_ne (by omega)]
      exact hrA c hc'
    · rw [up_cell (by decide), tA_123]
      exact BT
