/-! load -/
/-- the fixed tables -/
def QL (s : iS) : Prop := LSc s ∧ MNc s ∧ KWT s ∧ RSY s
theorem QL_on : on [4, 5, 7, 8, 25, 26, 28, 29, 30, 31, 32, 42, 43, 164, 165, 166, 167, 168] [(3, 2), (6, 2), (23, 15), (24, 2), (27, 2), (33, 2), (40, 4)] QL := by
  intro s s' h1 h2 h
  have r : ∀ c, c ∈ [4, 5, 7, 8, 25, 26, 28, 29, 30, 31, 32, 42, 43, 164, 165, 166, 167, 168] → s' c = s c := h1
  have p1 := h2 (3, 2) (by decide)
  have p2 := h2 (6, 2) (by decide)
  have p3 := h2 (23, 15) (by decide)
  have p4 := h2 (24, 2) (by decide)
  have p5 := h2 (27, 2) (by decide)
  have p6 := h2 (33, 2) (by decide)
  have p7 := h2 (40, 4) (by decide)
  simp only at p1 p2 p3 p4 p5 p6 p7
  unfold QL LSc SYZ MNc KWT TB RSY at h ⊢
  rw [p1, p2, p3, p4, p5, p6, p7, r 4 (by decide), r 5 (by decide), r 7 (by decide), r 8 (by decide), r 25 (by decide), r 26 (by decide), r 28 (by decide), r 29 (by decide), r 30 (by decide), r 31 (by decide), r 32 (by decide), r 42 (by decide), r 43 (by decide), r 164 (by decide), r 165 (by decide), r 166 (by decide), r 167 (by decide), r 168 (by decide)]
  exact h
/-- a program is loaded: class's cells s, reference's cells t -/
def LDD (s t : iS) : Prop := ∃ (F : Nat → Int) (n N : Nat) (P : Nat → Nat) (s0 t0 : iS) (K : List Nat) (U : List urec) (W : List wrec) (Y : List Nat) (A : List (List itm)) (I C p w : Nat) (tr t1 t2 t3 : iS), RG F n N P s0 t0 K U W Y tr ∧ AOK s0 K U W A tr I C p w ∧ A.length = U.length ∧ (p + 1 = N ∧ I ≤ 3 * p ∧ (C = 0 ∨ C + 5 ≤ p) ∧ w ≤ 300) ∧ WOK s0 N K U W ∧ RZc F P s0 t0 K U W I C tr t1 ∧ FL t1 t2 ∧ CPs n I t2 t3 ∧ kMn (rnT F P s0 t0 K U W tr I C) = 100000 ∧ (0 ≤ mnI F P t0 K U W U.length ∧ mnI F P t0 K U W U.length < (U.length : Int)) ∧ CPG F P s0 t0 K U W A (mnI F P t0 K U W U.length) s ∧ s 14 11 = (P 0 : Int) ∧ (∀ c k, 128 ≤ c ∧ c ≤ 156 ∨ 169 ≤ c ∧ c ≤ 171 → t c k = t3 c k) ∧ t 121 72 = mnI F P t0 K U W U.length ∧ t 121 74 = (P 0 : Int)
def QG (s : iS) : Prop := s 0 3 = 1 → LDD s s
theorem getD_map' {α β : Type} (f : α → β) (l : List α) (i : Nat) (d : α) (e : β) (h : i < l.length) : (l.map f).getD i e = f (l.getD i d) := by
  rw [List.getD_eq_getElem?_getD, List.getD_eq_getElem?_getD, List.getElem?_map, List.getElem?_eq_getElem h]
  rfl
theorem c3r {x : crec} (h : -100000 ≤ (c4 x).2.2 ∧ (c4 x).2.2 ≤ 100000) : rg x.2.2.1 := by
  have h' : -100000 ≤ x.2.2.1 ∧ x.2.2.1 ≤ 100000 := h
  exact ⟨by omega, by omega⟩
theorem LSc_up {s : iS} {c k : Nat} {x : Int} (h : LSc s) (hc : c < 23) : LSc (up s c k x) := by
  obtain ⟨h1, h2, h3, h4, h5, h6⟩ := h
  unfold LSc
  rw [up_ne (by omega), up_ne (by omega), up_ne (by omega), up_ne (by omega), up_ne (by omega)]
  exact ⟨SYZ_of h1 (fun c' k' q => up_ne (by omega)), h2, h3, h4, h5, h6⟩
theorem load_ok (a : Int) (ha : rg a) (s t : iS) (hT : QT (mx s t)) (hP : QP (mx s t)) (hC : QC (mx s t)) (hL : QL (mx s t)) (hG : QG (mx s t)) (hB : BY (t 123)) : ∃ r s' t', x_load a s = some (r, s') ∧ m_load a t = some (r, t') ∧ rg r ∧ QT (mx s' t') ∧ QP (mx s' t') ∧ QC (mx s' t') ∧ QL (mx s' t') ∧ QG (mx s' t') ∧ BY (t' 123) := by
  have hT' : RTv (s 0 1) (t 121 1) (s 1) (t 122) := hT
  obtain ⟨T1, T2, T3, T4, T5, T6⟩ := hT'
  by_cases c : a < 0 ∨ t 121 1 < a
  · refine ⟨-1, s, t, ?_, ?_, by decide, hT, hP, hC, hL, hG, hB⟩
    · unfold x_load
      rw [gd_pos ha]
      by_cases c1 : a < 0
      · rw [if_pos c1]
      · rw [if_neg c1, gr (by omega), if_neg (by omega)]
    · unfold m_load
      rw [takes0 ha c ⟨by omega, by omega⟩, bq, gr (by omega), if_pos rfl]
  obtain ⟨n, rfl⟩ : ∃ n : Nat, a = (n : Int) := ⟨a.toNat, by omega⟩
  have hn : n ≤ 4000 := by omega
  -- the scan
  generalize hs5 : up s 0 1 0 = s5
  have r5 : ∀ c k, ¬ (c = 0 ∧ k = 1) → s5 c k = s c k := fun c k q => by rw [← hs5, up_ne q]
  have s5_0 : s5 0 1 = 0 := by rw [← hs5, up_same]
  generalize ht5 : up (up (up (sr (up t 121 3 (n : Int)) 123 (fun j => if j < n then t 122 j else t 123 j)) 121 1 0) 121 71 0) 121 76 0 = t5
  have t5_123 : t5 123 = fun j => if j < n then t 122 j else t 123 j := by
    rw [← ht5, up_cell (by decide), up_cell (by decide), up_cell (by decide)]
    funext j
    rw [sr_at]
  have t5r : ∀ c, c ≠ 121 → c ≠ 123 → t5 c = t c := fun c c1 c2 => by rw [← ht5, up_cell c1, up_cell c1, up_cell c1, sr_ne c2, up_cell c1]
  have t5_3 : t5 121 3 = (n : Int) := by rw [← ht5]; simp [up_at, sr]
  have t5_1 : t5 121 1 = 0 := by rw [← ht5]; simp [up_at]
  have t5_71 : t5 121 71 = 0 := by rw [← ht5]; simp [up_at]
  have BT : BY (t5 123) := by
    intro k
    rw [t5_123]
    simp only
    split
    · exact T6 k
    · exact hB k
  have d0 : ∀ c ∈ [4, 5, 7, 8, 25, 26, 28, 29, 30, 31, 32, 42, 43, 164, 165, 166, 167, 168], c ≠ 0 ∧ c ≠ 121 ∧ c ≠ 123 := by decide
  have d1 : ∀ q ∈ [(3, 2), (6, 2), (23, 15), (24, 2), (27, 2), (33, 2), (40, 4)], q.1 ≠ 0 ∧ q.1 < 121 := by decide
  have hL5 : QL (mx s5 t5) := QL_on (mx s t) (mx s5 t5) (fun c hc => by
      have h0 := d0 c hc
      unfold mx
      split
      · exact funext fun k => r5 c k (by omega)
      · exact t5r c h0.2.1 h0.2.2) (fun q hq => by
      have h0 := d1 q hq
      unfold mx
      rw [if_pos h0.2, if_pos h0.2]
      exact r5 _ _ (by omega)) hL
  have hL5' : LSc s5 ∧ MNc s5 ∧ KWT s5 ∧ RSY t5 := hL5
  obtain ⟨N, P, s6, t6, e1, e2, e3, e4, e5⟩ := scan_ok (F := t5 123) (n := n) (ch := 0) (s := s5) (t := t5) (Or.inl rfl) hn (fun i hi => by
      rw [t5_123]
      show s5 1 i = if i < n then t 122 i else t 123 i
      rw [if_pos hi, r5 1 i (by omega)]
      exact T4 i (by omega)) (fun k => by rw [r5 1 k (by omega)]; exact T5 k) BT hL5'.2.2.1 ⟨t5_3, hn, fun i hi => rfl, BT, BT⟩
  rw [if_pos rfl] at e2
  have m1 : md L_tok_scan G_tok_scan s5 s6 := ftok_scan _ _ _ _ e1
  have m2 : md L_m_tokenize G_m_tokenize t5 t6 := fm_tokenize _ _ _ _ e2
  have hL6 : QL (mx s6 t6) := pres QL_on rfl rfl m1 m2 hL5
  obtain ⟨l1, l2, l3, l4⟩ : LSc s6 ∧ MNc s6 ∧ KWT s6 ∧ RSY t6 := hL6
  obtain ⟨c1, c1'⟩ := chk_ok (D := [1]) (E := [(0, 1)]) rfl m1
  obtain ⟨c2, c2'⟩ := chk_ok (D := [122, 123]) (E := [(121, 1), (121, 3), (121, 71)]) rfl m2
  have s6_1 : s6 1 = s 1 := (c1 1 (by decide)).trans (funext fun k => r5 1 k (by omega))
  have s6_0 : s6 0 1 = 0 := (c1' (0, 1) (by decide)).trans s5_0
  have t6_122 : t6 122 = t 122 := (c2 122 (by decide)).trans (t5r 122 (by decide) (by decide))
  have t6_123 : t6 123 = t5 123 := c2 123 (by decide)
  have t6_1 : t6 121 1 = 0 := (c2' (121, 1) (by decide)).trans t5_1
  have t6_3 : t6 121 3 = (n : Int) := (c2' (121, 3) (by decide)).trans t5_3
  have t6_71 : t6 121 71 = 0 := (c2' (121, 71) (by decide)).trans t5_71
  have hFc : tkC (t5 123) n s6 := ⟨e5, hn, fun i hi => by
      rw [s6_1, t5_123]
      show s 1 i = if i < n then t 122 i else t 123 i
      rw [if_pos hi]
      exact T4 i (by omega), fun k => by rw [s6_1]; exact T5 k, BT⟩
  have hFr : tkR (t5 123) n t6 := ⟨t6_3, hn, fun i hi => by rw [t6_123], fun k => by rw [t6_123]; exact BT k, BT⟩
  have XL : x_load (n : Int) s = bd (trl_readText 0 s6) (fun _ s7 => gd (rg (s7 2 13)) (if (s7 2 13) = 0 then bd (trl_readText 1 s7) (fun _ s10 => x_load_54 s10) else x_load_54 s7)) := by
    unfold x_load
    rw [gr (by omega), if_neg (by omega), gr (by omega), if_pos (by omega), lt_eq, hs5, e1, bq]
  have ML : m_load (n : Int) t = bd (m_texts t6) (fun _ s7 => lt' (up s7 121 4 (s7 121 12)) (fun s8 => gd (rg (s8 121 11)) (if (s8 121 11) ≤ 0 then lt' (up s8 121 69 0) (fun s11 => bd (m_checkNames s11) (fun _ s12 => bd (m_checkItems s12) (fun _ s13 => m_load_67 0 s13))) else some ((s8 121 11), s8)))) := by
    unfold m_load
    rw [takes2 (by omega) (by omega), bq, gr (by omega), if_neg (by omega), lt_eq, lt_eq, ht5, e2, bq]
  have hN := N1001 e3
  have hN1 := e3.2.1
  -- what is kept, at the end
  have fin : ∀ sZ tF : iS, ∀ x y : Int, md L_trl_readText G_trl_readText s6 sZ → LSc sZ → tF 121 1 = 0 → tF 122 = t 122 → tF 123 = t5 123 → RSY tF → QT (mx (up (up sZ 0 3 x) 0 2 y) tF) ∧ QL (mx (up (up sZ 0 3 x) 0 2 y) tF) ∧ BY (tF 123) := by
    intro sZ tF x y hm hl f1 f2 f3 f4
    obtain ⟨k1, k2⟩ := chk_ok (D := [1, 4, 5, 7, 8, 42, 43]) (E := [(0, 1), (3, 2), (6, 2)]) rfl hm
    refine ⟨?_, ?_, ?_⟩
    · show RTv (up (up sZ 0 3 x) 0 2 y 0 1) (tF 121 1) (up (up sZ 0 3 x) 0 2 y 1) (tF 122)
      rw [up_ne (by omega), up_ne (by omega), up_cell (by decide), up_cell (by decide), show sZ 0 1 = s6 0 1 from k2 (0, 1) (by decide), s6_0, k1 1 (by decide), s6_1, f1, f2]
      exact ⟨rfl, by omega, by omega, fun i hi => by omega, T5, T6⟩
    · show LSc (up (up sZ 0 3 x) 0 2 y) ∧ MNc (up (up sZ 0 3 x) 0 2 y) ∧ KWT (up (up sZ 0 3 x) 0 2 y) ∧ RSY tF
      refine ⟨LSc_up (LSc_up hl (by omega)) (by omega), ?_, ?_, f4⟩
      · unfold MNc at l2 ⊢
        rw [up_cell (show 42 ≠ 0 by decide), up_cell (show 42 ≠ 0 by decide), up_cell (show 43 ≠ 0 by decide), up_cell (show 43 ≠ 0 by decide), k1 42 (by decide), k1 43 (by decide)]
        exact l2
      · refine ⟨TBo ?_ ?_ ?_ l3.1, TBo ?_ ?_ ?_ l3.2⟩
        · rw [up_ne (by omega), up_ne (by omega)]; exact k2 (3, 2) (by decide)
        · rw [up_cell (by decide), up_cell (by decide)]; exact k1 4 (by decide)
        · rw [up_cell (by decide), up_cell (by decide)]; exact k1 5 (by decide)
        · rw [up_ne (by omega), up_ne (by omega)]; exact k2 (6, 2) (by decide)
        · rw [up_cell (by decide), up_cell (by decide)]; exact k1 7 (by decide)
        · rw [up_cell (by decide), up_cell (by decide)]; exact k1 8 (by decide)
    · rw [f3]; exact BT
  rcases rd_ok e3 hFc l1 e4 with ⟨t7, f, u, s7, a1, a2, a3, a4, a5, a6⟩ | ⟨t7, s1, s2, p, g, K, U, W, Y, A, w, I, C, a1, a2, a3, a4, a5, a6, a7, a8, a9, a10, a11, a12, a13⟩
  · -- a fault of the form
    have m3 : md L_m_texts G_m_texts t6 t7 := fm_texts _ _ a1
    have m4 : md L_trl_readText G_trl_readText s6 s7 := ftrl_readText _ _ _ a2
    obtain ⟨j1, j2⟩ := chk_ok (D := [122]) (E := [(121, 1), (121, 71)]) rfl m3
    obtain ⟨b1, b2, b3, b4, b5, b6, b7⟩ := a5
    obtain ⟨o1, o2, o3, o4, o5⟩ := a4
    have hPu := tkP e3 a3.2
    have LS7 : LSc s7 := ⟨a6.1.2, ⟨a6.2.1, b7.2.1.2⟩, ⟨a6.2.2, b7.2.2.1.2⟩, b7.1, b7.2.2.2, a6.1.1.2.2⟩
    obtain ⟨z1, z2, z3⟩ := fin s7 (up t7 121 4 (t7 121 12)) 0 (P u : Int) m4 LS7 (by rw [up_ne (by omega), show t7 121 1 = t6 121 1 from j2 (121, 1) (by decide)]; exact t6_1) (by rw [up_cell (by decide), j1 122 (by decide)]; exact t6_122) (by rw [up_cell (by decide), o1.1]; exact t6_123) (RSY_row (RSY_md rfl m3 l4) (fun c q1 q2 => up_cell (by omega)))
    refine ⟨f, up (up s7 0 3 0) 0 2 (P u : Int), up t7 121 4 (t7 121 12), ?_, ?_, ⟨by omega, by omega⟩, z1, ?_, ?_, z2, ?_, z3⟩
    · rw [XL, a2, bq, b3, gr (by omega), if_neg (by omega), x54_f e3 b1 b3 (by omega) b4 a3.2]
    · rw [ML, a1, bq, lt_eq, up_ne (show ¬ (121 = 121 ∧ 11 = 4) by omega), o3, gr (by omega), if_neg (by omega)]
    · show up (up s7 0 3 0) 0 2 (P u : Int) 0 2 = up t7 121 4 (t7 121 12) 121 4 ∧ rg (up (up s7 0 3 0) 0 2 (P u : Int) 0 2)
      rw [up_same, up_same, o4]
      exact ⟨rfl, by omega, by omega⟩
    · show RCv (up (up s7 0 3 0) 0 2 (P u : Int) 0 3) (up (up s7 0 3 0) 0 2 (P u : Int) 14 8) (up t7 121 4 (t7 121 12) 121 71) (up t7 121 4 (t7 121 12) 121 76) (up (up s7 0 3 0) 0 2 (P u : Int) 15) (up (up s7 0 3 0) 0 2 (P u : Int) 16) (up (up s7 0 3 0) 0 2 (P u : Int) 17) (up t7 121 4 (t7 121 12) 172) (up t7 121 4 (t7 121 12) 173) (up t7 121 4 (t7 121 12) 174)
      have q1 : up (up s7 0 3 0) 0 2 (P u : Int) 0 3 = 0 := by rw [up_ne (by omega), up_same]
      have q2 : up t7 121 4 (t7 121 12) 121 71 = 0 := by rw [up_ne (by omega), show t7 121 71 = t6 121 71 from j2 (121, 71) (by decide)]; exact t6_71
      rw [q1, q2]
      exact ⟨rfl, Or.inl rfl, fun q => by omega⟩
    · intro q
      have q1 : up (up s7 0 3 0) 0 2 (P u : Int) 0 3 = 0 := by rw [up_ne (by omega), up_same]
      have q2 : up (up s7 0 3 0) 0 2 (P u : Int) 0 3 = 1 := q
      omega
  -- the form is right
  have m3 : md L_m_texts G_m_texts t6 t7 := fm_texts _ _ a1
  obtain ⟨j1, j2⟩ := chk_ok (D := [122]) (E := [(121, 1), (121, 71)]) rfl m3
  have hx7 := a7
  obtain ⟨x1, x2, x3, x4, x5, x6, x7, x8, x9, x10, x11, x12, x13, x14, x15, x16⟩ := a7
  have hp := tk_end e3 x5 a5
  have hw : WOK s6 N K U W := by
    obtain ⟨pa, n0, cs, pm, hS, _⟩ := a8
    exact hS.1.2.2.2.2.2.2.2.2.2
  have hUb : ∀ u ∈ U, 0 ≤ u.1 ∧ u.1 < (K.length : Int) := by
    obtain ⟨pa, n0, cs, pm, hS, _⟩ := a8
    intro u hu
    have := hS.2.2.1.2.2.2.2.2.1 u hu
    exact ⟨this.2.2.1, this.2.2.2.1⟩
  generalize ht9 : up (up t7 121 4 (t7 121 12)) 121 69 0 = t9
  have f9 : ∀ c k, ¬ (c = 121 ∧ (k = 4 ∨ k = 69)) → t9 c k = t7 c k := fun c k q => by rw [← ht9, up_ne (by omega), up_ne (by omega)]
  have hr7 : RG (t5 123) n N P s6 t6 K U W Y t7 := RG_of e3 hFr l4 a1 x2 a9 hw (by omega) a11 a12 hUb
  have hr9 : RG (t5 123) n N P s6 t6 K U W Y t9 := RG_row hr7 (fun c k q => f9 c k (by omega))
  have hA9 : AOK s6 K U W A t9 I C p w := AOK_r a12 (fun c k q => f9 c k (by omega))
  have hx9 : LXT s6 t6 N s2 t9 p 0 w I C := LXT_469 hx7 f9
  have t9_69 : t9 121 69 = 0 := by rw [← ht9, up_same]
  obtain ⟨sZ, y1, y2, y3, y4⟩ := cl_end e3 l2 hr9 hA9 a13 hx9 a8 a5
  have e1s : trl_readText 1 s1 = some (0, sZ) := by rw [a4]; exact y1
  have mZ : md L_trl_readText G_trl_readText s6 sZ := md_trans (show md L_trl_readText G_trl_readText s6 s1 from ftrl_readText _ _ _ a2) (show md L_trl_readText G_trl_readText s1 sZ from ftrl_readText _ _ _ e1s)
  have s1SC : SC s6 s1 := SC_md rfl (show md L_trl_readText G_trl_readText s6 s1 from ftrl_readText _ _ _ a2) SC_refl
  have XE : x_load (n : Int) s = x_load_54 sZ := by
    rw [XL, a2, bq, a3, gr (by omega), if_pos rfl, e1s, bq]
  have ME : m_load (n : Int) t = bd (m_checkNames t9) (fun _ s12 => bd (m_checkItems s12) (fun _ s13 => m_load_67 0 s13)) := by
    rw [ML, a1, bq, lt_eq, up_ne (show ¬ (121 = 121 ∧ 11 = 4) by omega), x6, gr (by omega), if_pos (by omega), lt_eq, ht9]
  have kp : ∀ tF, KPl t9 tF → tF 121 1 = 0 ∧ tF 122 = t 122 ∧ tF 123 = t5 123 ∧ RSY tF := fun tF hk => by
    refine ⟨?_, ?_, ?_, ?_⟩
    · rw [hk 121 1 (by omega), f9 121 1 (by omega), show t7 121 1 = t6 121 1 from j2 (121, 1) (by decide)]; exact t6_1
    · exact funext fun k => by rw [hk 122 k (by omega), f9 122 k (by omega), j1 122 (by decide), t6_122]
    · exact funext fun k => by rw [hk 123 k (by omega), f9 123 k (by omega), x2.1, t6_123]
    · exact RSY_row (RSY_md rfl m3 l4) (fun c q1 q2 => funext fun k => by rw [hk c k (by omega), f9 c k (by omega)])
  have t9_71 : t9 121 71 = 0 := by rw [f9 121 71 (by omega), show t7 121 71 = t6 121 71 from j2 (121, 71) (by decide)]; exact t6_71
  -- both tell a fault
  have flt2 : ∀ (f : Int) (u : Nat) (tF : iS), 0 < f ∧ f < 100 → sZ 2 13 = f → sZ 2 14 = (u : Int) → u < N → m_load (n : Int) t = some (f, tF) → tF 121 4 = (P u : Int) → KPl t9 tF → tF 121 71 = 0 → ∃ r s' t', x_load (n : Int) s = some (r, s') ∧ m_load (n : Int) t = some (r, t') ∧ rg r ∧ QT (mx s' t') ∧ QP (mx s' t') ∧ QC (mx s' t') ∧ QL (mx s' t') ∧ QG (mx s' t') ∧ BY (t' 123) := by
    intro f u tF hf g1 g2 hu g3 g4 g5 g6
    obtain ⟨k1, k2, k3, k4⟩ := kp tF g5
    obtain ⟨z1, z2, z3⟩ := fin sZ tF 0 (P u : Int) mZ y3 k1 k2 k3 k4
    have hPu := tkP e3 hu
    refine ⟨f, up (up sZ 0 3 0) 0 2 (P u : Int), tF, by rw [XE, x54_f e3 y2 g1 hf g2 hu], g3, ⟨by omega, by omega⟩, z1, ?_, ?_, z2, ?_, z3⟩
    · show up (up sZ 0 3 0) 0 2 (P u : Int) 0 2 = tF 121 4 ∧ rg (up (up sZ 0 3 0) 0 2 (P u : Int) 0 2)
      rw [up_same, g4]
      exact ⟨rfl, by omega, by omega⟩
    · show RCv (up (up sZ 0 3 0) 0 2 (P u : Int) 0 3) (up (up sZ 0 3 0) 0 2 (P u : Int) 14 8) (tF 121 71) (tF 121 76) (up (up sZ 0 3 0) 0 2 (P u : Int) 15) (up (up sZ 0 3 0) 0 2 (P u : Int) 16) (up (up sZ 0 3 0) 0 2 (P u : Int) 17) (tF 172) (tF 173) (tF 174)
      have q1 : up (up sZ 0 3 0) 0 2 (P u : Int) 0 3 = 0 := by rw [up_ne (by omega), up_same]
      rw [q1, g6]
      exact ⟨rfl, Or.inl rfl, fun q => by omega⟩
    · intro q
      have q1 : up (up sZ 0 3 0) 0 2 (P u : Int) 0 3 = 0 := by rw [up_ne (by omega), up_same]
      have q2 : up (up sZ 0 3 0) 0 2 (P u : Int) 0 3 = 1 := q
      omega
  have rf := rf_end hr9 hA9 a13 hp x15 x16 x12 (by rw [f9 121 33 (by omega)]; exact x13) (by rw [f9 121 39 (by omega)]; exact x14) t9_69
  rw [← ME] at rf
  rcases rf with ⟨k1, tF, g1, g2, g3, g4⟩ | ⟨k1, k2, tF, g1, g2, g3, g4⟩ | ⟨k1, k2, u1, u2, u3, tF, g1, g2, g3, g4, g5, g6, g7, g8, g9, g10, g11⟩
  · rcases y4 with ⟨_, q2, q3, q4, q5⟩ | ⟨q1, _⟩ | ⟨q1, _⟩
    · exact flt2 _ _ tF (by omega) q2 q3 q5 g1 g2 g3 (g4.trans t9_71)
    · omega
    · omega
  · rcases y4 with ⟨q1, _⟩ | ⟨_, _, q3, q4⟩ | ⟨_, q2, _⟩
    · omega
    · refine flt2 7 (N - 1) tF (by omega) q3 q4 (by omega) g1 ?_ g3 (g4.trans t9_71)
      rw [g2]
      have pl := e3.2.2.2.2.2.2.2.2
      rw [show N - 1 = p by omega] at pl ⊢
      omega
    · omega
  · rcases y4 with ⟨q1, _⟩ | ⟨_, q2, _⟩ | ⟨_, q2, q3, q4, q5⟩
    · omega
    · exact absurd q2 k2
    obtain ⟨n1, n2, n3, n4⟩ := kp tF g11
    obtain ⟨z1, z2, z3⟩ := fin sZ tF 1 (-1) mZ y3 n1 n2 n3 n4
    have q5' := q5
    obtain ⟨p1, p2, p3, p4⟩ := q5
    have sm := cmN_sm (K := K) (U := U) e3 BT (fun r hr => (hw.1 r hr).1.2.2.1) (by omega) (by omega) hA9 A.length (Nat.le_refl _)
    refine ⟨0, up (up sZ 0 3 1) 0 2 (-1), tF, by rw [XE, x54_0 e3 y2 q3 q4], g1, ⟨by decide, by decide⟩, z1, ?_, ?_, z2, ?_, z3⟩
    · show up (up sZ 0 3 1) 0 2 (-1) 0 2 = tF 121 4 ∧ rg (up (up sZ 0 3 1) 0 2 (-1) 0 2)
      rw [up_same, g7]
      exact ⟨rfl, by decide, by decide⟩
    · show RCv (up (up sZ 0 3 1) 0 2 (-1) 0 3) (up (up sZ 0 3 1) 0 2 (-1) 14 8) (tF 121 71) (tF 121 76) (up (up sZ 0 3 1) 0 2 (-1) 15) (up (up sZ 0 3 1) 0 2 (-1) 16) (up (up sZ 0 3 1) 0 2 (-1) 17) (tF 172) (tF 173) (tF 174)
      have w1 : up (up sZ 0 3 1) 0 2 (-1) 0 3 = 1 := by rw [up_ne (by omega), up_same]
      rw [w1, g8, up_ne (show ¬ (14 = 0 ∧ 8 = 2) by omega), up_ne (show ¬ (14 = 0 ∧ 8 = 3) by omega), up_cell (show 15 ≠ 0 by decide), up_cell (show 15 ≠ 0 by decide), up_cell (show 16 ≠ 0 by decide), up_cell (show 16 ≠ 0 by decide), up_cell (show 17 ≠ 0 by decide), up_cell (show 17 ≠ 0 by decide), p1, g6.1, List.length_map]
      refine ⟨rfl, Or.inr rfl, fun _ => ⟨rfl, ⟨by omega, by omega⟩, fun i hi => ?_⟩⟩
      have hi' : i < (cmN (t5 123) P s6 t6 K U W A A.length).length := by omega
      obtain ⟨v1, v2, v3, v4, v5, _⟩ := p3 i hi'
      obtain ⟨w2, w3, w4⟩ := g6.2 i (by rw [List.length_map]; exact hi')
      rw [getD_map' c4 _ i (0, 0, 0, 0, 0) (0, 0, 0) hi'] at w2 w3 w4
      have sm' := sm _ (List.mem_map.mpr ⟨_, gd_mem (d := ((0, 0, 0, 0, 0) : crec)) hi', rfl⟩)
      have o1 := v5.1
      have o2 := v5.2.1
      rw [v1, v2, v3, w2, w3, w4]
      exact ⟨⟨rfl, by omega, by omega⟩, ⟨rfl, by omega, by omega⟩, ⟨rfl, c3r sm'⟩⟩
    · intro _
      show LDD (mx (up (up sZ 0 3 1) 0 2 (-1)) tF) (mx (up (up sZ 0 3 1) 0 2 (-1)) tF)
      have cx : ∀ c k, 1 ≤ c → c < 121 → mx (up (up sZ 0 3 1) 0 2 (-1)) tF c k = sZ c k := fun c k q1 q2 => by rw [mx_c q2, up_ne (by omega), up_ne (by omega)]
      refine ⟨t5 123, n, N, P, s6, t6, K, U, W, Y, A, I, C, p, w, t9, u1, u2, u3, hr9, hA9, a13, ⟨hp, x15, x16, x12⟩, hw, g2, g3, g4, k1, q2, ?_, ?_, fun c k q => ?_, ?_, ?_⟩
      · unfold CPG
        refine ⟨by rw [cx 14 8 (by omega) (by omega)]; exact p1, p2, fun i hi => ?_, by rw [cx 14 10 (by omega) (by omega)]; exact p4⟩
        rw [cx 15 i (by omega) (by omega), cx 16 i (by omega) (by omega), cx 17 i (by omega) (by omega), cx 18 i (by omega) (by omega), cx 19 i (by omega) (by omega)]
        exact p3 i hi
      · rw [cx 14 11 (by omega) (by omega)]
        exact rtx_14 e3 s1SC e1s
      · rw [mx_r (by omega), g5 c k (by omega) (by omega) (by omega) (by omega)]
      · rw [mx_r (by omega)]; exact g9
      · rw [mx_r (by omega)]; exact g10
