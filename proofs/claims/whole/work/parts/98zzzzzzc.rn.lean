/-! run -/
section ROr
variable {fu : Nat} {s t s' t' : iS} {r : Int}
/-- what both answer behind their ends -/
theorem run_fin (h : FIN fu s t) (hfu : fu ≤ 5000) : ∃ (r : Int) (s' t' : iS), bd (mac_execute_188 s) (fun r6 s6 => gd (rg r6) (if r6 = 0 then x_run_45 r6 (-1) s6 else x_run_45 r6 (s6 51 18) s6)) = some (r, s') ∧ m_run_156 t = some (r, t') ∧ rg r ∧ QP (mx s' t') ∧ QO (mx s' t') ∧ QK (mx s' t') ∧ QM (mx s' t') ∧ QN (mx s' t') := by
  obtain ⟨⟨a1, a2, a3⟩, lb, b1, ⟨b2, b3⟩, b4, ⟨b5, b6⟩, b7⟩ := h
  obtain ⟨⟨w1, w2, w3, w4, w5⟩, ⟨B, D, p1, p2, p3, p4, p5, p6, p7, p8⟩, ⟨o1, o2, o3, o4⟩, ⟨k1, k2, k3, k4, k5⟩, -⟩ := lb
  have bl := p1.length_eq
  have bb := sml_bd B 2048 p7
  have fin : ∀ pl : Int, rg pl → ∀ (s' t' : iS), s' = up (up s 48 7 (s 48 5 - s 48 6)) 0 2 pl → t' = up (up t 121 4 pl) 121 104 (t 121 102 - t 121 103) → QP (mx s' t') ∧ QO (mx s' t') ∧ QK (mx s' t') ∧ QM (mx s' t') ∧ QN (mx s' t') := fun pl hpl s' t' hs ht => by
    have fs : ∀ c k, ¬ (c = 0 ∧ k = 2) → ¬ (c = 48 ∧ k = 7) → s' c k = s c k := fun c k z1 z2 => by rw [hs, up_ne z1, up_ne z2]
    have ft : ∀ c k, ¬ (c = 121 ∧ (k = 4 ∨ k = 104)) → t' c k = t c k := fun c k z => by rw [ht, up_ne (by omega), up_ne (by omega)]
    have e2 : s' 0 2 = pl := by rw [hs, up_same]
    have e7 : s' 48 7 = s 48 5 - s 48 6 := by rw [hs, up_ne (by omega), up_same]
    have e4 : t' 121 4 = pl := by rw [ht, up_ne (by omega), up_same]
    have e104 : t' 121 104 = t 121 102 - t 121 103 := by rw [ht, up_same]
    have rs : ∀ c, c ≠ 0 → c ≠ 48 → s' c = s c := fun c z1 z2 => funext fun k => fs c k (by omega) (by omega)
    have rt : ∀ c, c ≠ 121 → t' c = t c := fun c z => funext fun k => ft c k (by omega)
    refine ⟨?_, ?_, ?_, ?_, ?_⟩
    · show s' 0 2 = t' 121 4 ∧ rg (s' 0 2)
      rw [e2, e4]
      exact ⟨rfl, hpl⟩
    · show ROv (s' 48 3) (s' 48 4) (t' 121 106) (t' 121 107) (s' 49) (t' 187)
      rw [fs 48 3 (by omega) (by omega), fs 48 4 (by omega) (by omega), ft 121 106 (by omega), ft 121 107 (by omega), rs 49 (by omega) (by omega), rt 187 (by omega)]
      exact ⟨o1, o2, o3, o4⟩
    · show RKv (s' 48 5) (s' 48 7) (t' 121 102) (t' 121 104) (s' 50) (t' 186)
      rw [fs 48 5 (by omega) (by omega), e7, ft 121 102 (by omega), e104, rs 50 (by omega) (by omega), rt 186 (by omega)]
      exact ⟨k1, k2, by omega, ⟨by omega, by omega⟩, k5⟩
    · show RMv (s' 44 6) (t' 121 100) (s' 45) (t' 175)
      rw [fs 44 6 (by omega) (by omega), ft 121 100 (by omega), rs 45 (by omega) (by omega), rt 175 (by omega)]
      exact ⟨w4, w5, w1, w2, w3⟩
    · show RNv (s' 44 3) (s' 44 4) (t' 121 81) (t' 177) (s' 51 16) (s' 51 17) (t' 121 96) (t' 121 89)
      rw [fs 44 3 (by omega) (by omega), fs 44 4 (by omega) (by omega), ft 121 81 (by omega), rt 177 (by omega), fs 51 16 (by omega) (by omega), fs 51 17 (by omega) (by omega), ft 121 96 (by omega), ft 121 89 (by omega)]
      refine ⟨by omega, ⟨by omega, by omega⟩, ?_, ⟨by omega, by omega⟩, b1, ⟨by omega, by omega⟩, b4, ⟨by omega, by omega⟩⟩
      rw [p8, sml_perm p1, p2, Int.toNat_natCast, bl]
      exact (sm_sml (fun i hi => (p6 i hi).2)).symm
  have E : ∀ pl : Int, m_run_193 pl t = some (t 121 99, up (up t 121 4 pl) 121 104 (t 121 102 - t 121 103)) := fun pl => by
    unfold m_run_193
    rw [lt_eq, lt_eq, up_ne (show ¬ (121 = 121 ∧ 102 = 4) by omega), up_ne (show ¬ (121 = 121 ∧ 103 = 4) by omega), up_ne (show ¬ (121 = 121 ∧ 99 = 104) by omega), up_ne (show ¬ (121 = 121 ∧ 99 = 4) by omega)]
  have X : bd (mac_execute_188 s) (fun r6 s6 => gd (rg r6) (if r6 = 0 then x_run_45 r6 (-1) s6 else x_run_45 r6 (s6 51 18) s6)) = some (s 51 14, up (up s 48 7 (s 48 5 - s 48 6)) 0 2 (if s 51 14 = 0 then -1 else s 51 18)) := by
    unfold mac_execute_188 lib_endRun
    rw [lt_eq, bq, bq, up_ne (show ¬ (51 = 48 ∧ 14 = 7) by omega), gr (by omega)]
    unfold x_run_45
    by_cases c : s 51 14 = 0
    · rw [if_pos c, if_pos c, lt_eq]
    · rw [if_neg c, if_neg c, lt_eq, up_ne (show ¬ (51 = 48 ∧ 18 = 7) by omega)]
  refine ⟨s 51 14, _, _, X, ?_, ⟨by omega, by omega⟩, fin _ ?_ _ _ rfl rfl⟩
  · unfold m_run_156
    rw [gr (by omega)]
    by_cases c : s 51 14 = 0
    · rw [if_pos (by omega), if_pos c, E, a1]
    · obtain ⟨c1, c2, c3, c4, c5⟩ := b7 c
      rw [if_neg (by omega), if_neg c, gr (by omega), c3]
      by_cases d : t 121 95 ≤ 0
      · rw [if_pos d, if_pos d, E, a1]
      · rw [if_neg d, if_neg d, gd_pos (by omega), E, a1]
  · by_cases c : s 51 14 = 0
    · rw [if_pos c]; decide
    · obtain ⟨c1, c2, c3, c4, c5⟩ := b7 c
      rw [if_neg c]
      exact ⟨by omega, by omega⟩
theorem run_ok (a : Int) (ha : rg a) (s t : iS) (hP : QP (mx s t)) (hO : QO (mx s t)) (hK : QK (mx s t)) (hM : QM (mx s t)) (hN : QN (mx s t)) (hC : QC (mx s t)) (hL : QL (mx s t)) (hG : QG (mx s t)) : ∃ r s' t', x_run a s = some (r, s') ∧ m_run a t = some (r, t') ∧ rg r ∧ QP (mx s' t') ∧ QO (mx s' t') ∧ QK (mx s' t') ∧ QM (mx s' t') ∧ QN (mx s' t') := by
  obtain ⟨d1, d2, d3⟩ : s 0 3 = t 121 71 ∧ (s 0 3 = 0 ∨ s 0 3 = 1) ∧ (s 0 3 = 1 → s 14 8 = t 121 76 ∧ _) := hC
  have no : x_run a s = some (-1, s) → m_run a t = some (-1, t) → ∃ r s' t', x_run a s = some (r, s') ∧ m_run a t = some (r, t') ∧ rg r ∧ QP (mx s' t') ∧ QO (mx s' t') ∧ QK (mx s' t') ∧ QM (mx s' t') ∧ QN (mx s' t') := fun e1 e2 => ⟨-1, s, t, e1, e2, by decide, hP, hO, hK, hM, hN⟩
  clear d3
  by_cases c0 : s 0 3 = 0
  · refine no ?_ ?_
    · unfold x_run
      rw [gr (by omega), if_pos c0]
    · unfold m_run
      rw [gr (by omega), if_pos (by omega)]
  by_cases c1 : a < 0
  · refine no ?_ ?_
    · unfold x_run
      rw [gr (by omega), if_neg c0, gd_pos ha, if_pos c1]
    · unfold m_run
      rw [gr (by omega), if_neg (by omega), gd_pos ha, if_pos c1]
  by_cases c2 : a ≤ 5000
  case neg =>
    refine no ?_ ?_
    · unfold x_run
      rw [gr (by omega), if_neg c0, gd_pos ha, if_neg c1, if_neg c2]
    · unfold m_run
      rw [gr (by omega), if_neg (by omega), gd_pos ha, if_neg c1, if_neg c2]
  obtain ⟨fu, rfl⟩ : ∃ fu : Nat, a = (fu : Int) := ⟨a.toNat, by omega⟩
  have ex : x_run (fu : Int) s = bd (mac_execute (fu : Int) s) (fun r6 s6 => gd (rg r6) (if r6 = 0 then x_run_45 r6 (-1) s6 else x_run_45 r6 (s6 51 18) s6)) := by
    unfold x_run
    rw [gr (by omega), if_neg c0, gd_pos ha, if_neg c1, if_pos c2]
  have em : m_run (fu : Int) t = m_run_22 (fu : Int) 0 t := by
    unfold m_run
    rw [gr (by omega), if_neg (by omega), gd_pos ha, if_neg c1, if_pos c2]
  obtain ⟨F, n, N, P, s0, t0, K, U, W, Y, A, I, C, p, w, tr, t1, t2, t3, h1, h2, h3, h4, h5, h6, h7, h8, h9, ⟨h10, h10'⟩, h11, h12, h13, h14, h15⟩ := hG (show s 0 3 = 1 by omega)
  have hPg : PRG F n N P s0 t0 K U W Y A I C p w tr t1 t2 t3 := ⟨h1, h2, h3, h4, h5, h6, h7, h8, h9⟩
  have h12 : s 14 11 = (P 0 : Int) := h12
  have h13 : ∀ c k, 128 ≤ c ∧ c ≤ 156 ∨ 169 ≤ c ∧ c ≤ 171 → t c k = t3 c k := fun c k z => by
    have := h13 c k z
    rw [mx_r (by omega)] at this
    exact this
  have h14 : t 121 72 = mnI F P t0 K U W U.length := h14
  have h15 : t 121 74 = (P 0 : Int) := h15
  have h11 : CPG F P s0 t0 K U W A (mnI F P t0 K U W U.length) s := by
    obtain ⟨y1, y2, y3, y4⟩ := h11
    refine ⟨y1, y2, fun j hj => ?_, y4⟩
    have z := y3 j hj
    rw [mx_c (by omega), mx_c (by omega), mx_c (by omega), mx_c (by omega), mx_c (by omega)] at z
    exact z
  obtain ⟨sb, hsb⟩ : ∃ sb : Nat, mnI F P t0 K U W U.length = (sb : Int) := ⟨(mnI F P t0 K U W U.length).toNat, by omega⟩
  have hsA : sb < A.length := by omega
  have mn : soF U sb = 2 ∧ nwP (sb : Int) W = 0 := by
    rcases fst1_rg (P := fun i => isMn F P t0 K U W i = true) U.length 0 with z | ⟨-, -, z⟩
    · have z' : mnI F P t0 K U W U.length = -1 := z
      omega
    · have z' : isMn F P t0 K U W (mnI F P t0 K U W U.length).toNat = true := z
      rw [hsb, Int.toNat_natCast] at z'
      exact (of_decide_eq_true z').1
  have P0 := PRG_P hPg (j := 0) (by omega)
  obtain ⟨q, e1, e2, e3, e4, ⟨e5, e6, e7, e8⟩, ⟨e9, e10, e11, e12, e13, e14⟩, e15, e16, e17, e18, e19, e20, e21⟩ := ex_bg (s := s) (a := (fu : Int))
  obtain ⟨tq, f1, f2, f3, f4, ⟨f5, f6, f7, f8, f9, f10, f11⟩, f12, f13, f14, f15, f16, f17⟩ := ru_bg (t := t) (a := (fu : Int))
  have q1410 : s 14 10 = ((cmN F P s0 t0 K U W A sb).length : Int) := by
    have z := h11.2.2.2
    rw [hsb, Int.toNat_natCast] at z
    exact z
  have t72 : tq 121 72 = (sb : Int) := by rw [f2 121 72 (by omega) (by omega) (by omega), h14, hsb]
  have t74 : tq 121 74 = (P 0 : Int) := by rw [f2 121 74 (by omega) (by omega) (by omega)]; exact h15
  have q18 : q 51 18 = (P 0 : Int) := by rw [e21]; exact h12
  rw [q1410] at e1
  rw [t72] at f1
  have hK' : RKv (s 48 5) (s 48 7) (t 121 102) (t 121 104) (s 50) (t 186) := hK
  obtain ⟨k1, k2, -, -, k5⟩ := hK'
  have hM' : RMv (s 44 6) (t 121 100) (s 45) (t 175) := hM
  have lb : LB q tq := by
    refine ⟨⟨fun i hi => ?_, fun k hk => ?_, fun i => ?_, by rw [e8, f13], by rw [e8]; decide⟩, ⟨[], [], List.Perm.refl _, e5, f5, by simp, fun i hi => absurd hi (by simp), fun i hi => absurd hi (by simp), (by decide : 2048 ≤ 14336), e6⟩, ?_, ?_, Or.inl ⟨e13, f17⟩⟩
    · rw [e3, if_pos (by omega), f3 _ (by omega)]
    · rw [e3, if_pos (by omega), f3 _ (by omega)]
    · rw [e3]
      split
      · decide
      · exact hM'.2.2.2.2 i
    · show ROv (q 48 3) (q 48 4) (tq 121 106) (tq 121 107) (q 49) (tq 187)
      rw [e9, e10, f15, f16]
      exact ⟨rfl, rfl, by decide, fun i hi => by omega⟩
    · refine ⟨by rw [e11, f2 121 102 (by omega) (by omega) (by omega)]; exact k1, by rw [e11]; exact k2, by rw [e12, f14], by rw [e12, e11]; omega, fun i hi => ?_⟩
      rw [e11] at hi
      rw [e2 50 i (by omega) (by omega) (by omega) (by omega) (by omega), f2 186 i (by omega) (by omega) (by omega)]
      exact k5 i hi
  have go : gO q tq := ⟨e7, f12⟩
  -- from an end of both to the answer
  have done : ∀ (m : Nat) (s1 s2 ta tb : iS), mac_enter ((cmN F P s0 t0 K U W A sb).length : Int) 0 q = some (0, s1) → m_enter (sb : Int) tq = some (0, ta) → TN m s1 s2 → m_run_141 ta = m_run_141 tb → FIN fu s2 tb → m < 20000000 → ∃ r s' t', x_run (fu : Int) s = some (r, s') ∧ m_run (fu : Int) t = some (r, t') ∧ rg r ∧ QP (mx s' t') ∧ QO (mx s' t') ∧ QK (mx s' t') ∧ QM (mx s' t') ∧ QN (mx s' t') := fun m s1 s2 ta tb z1 z2 z3 z4 z5 z6 => by
    obtain ⟨r, s', t', y1, y2, y3⟩ := run_fin z5 (by omega)
    have x1 : mac_execute (fu : Int) s = mac_execute_188 s2 := by
      rw [e1, z1, bq, z3 0 (by omega) (by omega), ex_end z5.1.2 (by omega)]
    have x2 : m_run_22 (fu : Int) 0 t = m_run_156 tb := by
      have z9 := z5.1
      rw [f1, z2, bq, z4, rx_end (by omega)]
    exact ⟨r, s', t', by rw [ex, x1]; exact y1, by rw [em, x2]; exact y2, y3⟩
  by_cases c : fu = 0
  · -- no step at all
    have a1 := ent_n (q := q) (v1 := ((cmN F P s0 t0 K U W A sb).length : Int)) (v2 := 0) (by omega) (by omega)
    have a2 := ren_n (t := tq) (v1 := (sb : Int)) (x := 0) f10 (by omega) (by omega)
    refine done 0 _ (up q 51 14 1) _ (up tq 121 99 1) a1 a2 TN_0 rfl ⟨⟨by rw [up_same, up_same], by rw [up_same]; decide, by rw [up_same]; decide⟩, LB_of lb (fun c k z => up_ne (by omega)) (fun c k z => up_ne (by omega)), ?_, ⟨?_, ?_⟩, ?_, ⟨?_, ?_⟩, fun _ => ?_⟩ (by omega)
    · rw [up_ne (by omega), up_ne (by omega), e19, f10]
    · rw [up_ne (by omega)]; omega
    · rw [up_ne (by omega)]; omega
    · rw [up_ne (by omega), up_ne (by omega), e20, f8]
    · rw [up_ne (by omega)]; omega
    · rw [up_ne (by omega)]; omega
    · rw [up_ne (by omega), up_ne (by omega), up_ne (by omega), f9, if_pos (by omega), t74, q18]
      omega
  have o0 : ∀ x, obL U sb x = [] := fun x => by
    unfold obL
    rw [if_neg (by omega)]
  have hpg : PGM F P s0 t0 K U W A t3 q tq := by
    refine ⟨⟨mnI F P t0 K U W U.length, ?_⟩, fun c k z => by rw [f2 c k (by omega) (by omega) (by omega)]; exact h13 c k z, ?_⟩
    · obtain ⟨y1, y2, y3, y4⟩ := h11
      have eq : ∀ c k, 14 ≤ c → c ≤ 19 → q c k = s c k := fun c k z1 z2 => e2 c k (by omega) (by omega) (by omega) (by omega) (by omega)
      refine ⟨by rw [eq 14 8 (by omega) (by omega)]; exact y1, y2, fun j hj => ?_, by rw [eq 14 10 (by omega) (by omega)]; exact y4⟩
      rw [eq 15 j (by omega) (by omega), eq 16 j (by omega) (by omega), eq 17 j (by omega) (by omega), eq 18 j (by omega) (by omega), eq 19 j (by omega) (by omega)]
      exact y3 j hj
    · obtain ⟨y1, y2, y3⟩ := hL.2.2.2
      have et : ∀ c k, 164 ≤ c → c ≤ 168 → tq c k = mx s t c k := fun c k z1 z2 => by rw [mx_r (by omega)]; exact f2 c k (by omega) (by omega) (by omega)
      refine ⟨fun j hj => ?_, by rw [et 164 _ (by omega) (by omega)]; exact y2, fun j hj => ?_⟩
      · rw [et 165 _ (by omega) (by omega), et 164 _ (by omega) (by omega)]; exact y1 j hj
      · rw [et 166 _ (by omega) (by omega), et 167 _ (by omega) (by omega), et 168 _ (by omega) (by omega)]; exact y3 j hj
  obtain ⟨m, s1, s2, ta, a1, -, a3, a4, a5, -, a7, a8⟩ := ENT_ok (fu := fu) (G := []) (B := []) (o := 0) (na := 0) (q := q) (t := tq) hPg hsA hpg trivial (by rw [mn.2]; rfl) (fun x hx => by simp at hx) (by decide) (by rw [o0]; exact ⟨e15, fun k hk => absurd hk (by simp [csG])⟩) (by rw [o0]; exact ⟨f6, fun k hk => absurd hk (by simp [rsG])⟩) (by rw [o0]; simp [csG]) (by rw [o0]; simp [rsG]) (by rw [o0]; rfl) ⟨f9, fun k hk => absurd hk (by simp [wsG])⟩ ⟨⟨e16, f7⟩, by simp, by rw [e20, f8], by omega, by omega⟩ (fun k hk => by rw [e4 k hk, f4 k hk]; decide) ⟨lb, go, e14, e17⟩ ⟨e18, f11, by omega, by omega, by rw [e19, f10], by omega⟩ (fun f' g' e => by simp at e) (by rw [f9, if_pos (by omega), t74, q18]; omega)
  rcases a8 with ⟨f, b1, b2, b3⟩ | b1
  · have r1 : ((fu : Int) - ta 121 96) * 6000 + (rmI A [f] : Int) < ((30000000 + 4000 : Nat) : Int) := by omega
    obtain ⟨m', s', t', g1, g2, g3, g4, g5⟩ := RUNL hPg _ s2 ta f [] b1 r1
    exact done (m + m') s1 s' ta t' a1 a4 (TN_add a3 g1) g2 g3 (by omega)
  · exact done m s1 s2 ta ta a1 a4 a3 rfl b1 (by omega)
end ROr
