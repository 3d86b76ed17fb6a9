/-! the second reading of the text: a declaration, a class, a sub, its parameters -/
def paU (pa : Nat → Int) (k : Nat) (x : Int) (u : Nat) : Int := if u = k then x else pa u
section T2c
variable {F : Nat → Int} {n N : Nat} {P : Nat → Nat} {s0 t0 s s1 s' : iS} {g j : Nat} {Kf K : List Nat} {Uf U : List urec} {Wf W : List wrec} {Y : List Nat} {A : List (List itm)} {pa : Nat → Int} {n0 n1 : List Nat} {cs : List crec} {pm v r y : Int}
theorem or_rot {a b c d e x : Prop} : ((a ∨ b ∨ c ∨ d ∨ e) ∨ x) ↔ (a ∨ b ∨ (c ∨ x) ∨ d ∨ e) := by
  constructor
  · rintro ((q | q | q | q | q) | q)
    · exact Or.inl q
    · exact Or.inr (Or.inl q)
    · exact Or.inr (Or.inr (Or.inl (Or.inl q)))
    · exact Or.inr (Or.inr (Or.inr (Or.inl q)))
    · exact Or.inr (Or.inr (Or.inr (Or.inr q)))
    · exact Or.inr (Or.inr (Or.inl (Or.inr q)))
  · rintro (q | q | (q | q) | q | q)
    · exact Or.inl (Or.inl q)
    · exact Or.inl (Or.inr (Or.inl q))
    · exact Or.inl (Or.inr (Or.inr (Or.inl q)))
    · exact Or.inr q
    · exact Or.inl (Or.inr (Or.inr (Or.inr (Or.inl q))))
    · exact Or.inl (Or.inr (Or.inr (Or.inr (Or.inr q))))
theorem or_ra {a b c d e x : Prop} : ((a ∨ b ∨ c ∨ d ∨ e) ∨ x) ↔ ((a ∨ x) ∨ b ∨ c ∨ d ∨ e) := by
  constructor
  · rintro ((q | q) | q)
    · exact Or.inl (Or.inl q)
    · exact Or.inr q
    · exact Or.inl (Or.inr q)
  · rintro ((q | q) | q)
    · exact Or.inl (Or.inl q)
    · exact Or.inr q
    · exact Or.inl (Or.inr q)
theorem or_rb {a b c d e x : Prop} : ((a ∨ b ∨ c ∨ d ∨ e) ∨ x) ↔ (a ∨ (b ∨ x) ∨ c ∨ d ∨ e) := by
  constructor
  · rintro ((q | q | q) | q)
    · exact Or.inl q
    · exact Or.inr (Or.inl (Or.inl q))
    · exact Or.inr (Or.inr q)
    · exact Or.inr (Or.inl (Or.inr q))
  · rintro (q | (q | q) | q)
    · exact Or.inl (Or.inl q)
    · exact Or.inl (Or.inr (Or.inl q))
    · exact Or.inr q
    · exact Or.inl (Or.inr (Or.inr q))
theorem or_re {a b c d e x : Prop} : ((a ∨ b ∨ c ∨ d ∨ e) ∨ x) ↔ (a ∨ b ∨ c ∨ d ∨ (e ∨ x)) := by
  constructor
  · rintro ((q | q | q | q | q) | q)
    · exact Or.inl q
    · exact Or.inr (Or.inl q)
    · exact Or.inr (Or.inr (Or.inl q))
    · exact Or.inr (Or.inr (Or.inr (Or.inl q)))
    · exact Or.inr (Or.inr (Or.inr (Or.inr (Or.inl q))))
    · exact Or.inr (Or.inr (Or.inr (Or.inr (Or.inr q))))
  · rintro (q | q | q | q | (q | q))
    · exact Or.inl (Or.inl q)
    · exact Or.inl (Or.inr (Or.inl q))
    · exact Or.inl (Or.inr (Or.inr (Or.inl q)))
    · exact Or.inl (Or.inr (Or.inr (Or.inr (Or.inl q))))
    · exact Or.inl (Or.inr (Or.inr (Or.inr (Or.inr q))))
    · exact Or.inr q
theorem MX_tr {s2 : iS} (h1 : MX s0 s s1) (h2 : MX s0 s1 s2) : MX s0 s s2 := ⟨h2.1, h2.2.1.trans h1.2.1, h2.2.2.1.trans h1.2.2.1, h2.2.2.2.trans h1.2.2.2⟩
theorem av_nu {so : Int} (hv : v = 1 ∨ v = 2 ∨ v = 3 ∨ v = 4) (w14 : s 23 14 = (nwS W : Int) - (nwC ((K.length : Int) - 1) W : Int)) (h13 : v = 1 → s 23 13 = 256 + so) : avN s v (nwW v K U W) = nuT so (wNew v K U W y j) := by
  unfold avN nuT wNew
  rcases hv with c | c | c | c
  · have e := h13 c
    subst c
    by_cases z3 : so = 3
    · simp [e, z3]
    · have z4 : ¬ (256 + so = 259) := by omega
      simp [e, z3, z4]
  · subst c
    simp
  · subst c
    simp [nwW, w14]
    try omega
  · subst c
    simp
/-- a variable, second reading -/
theorem t2_decl (h : TKR 0 F n N P s0 t0) (hs : SC s0 s) (hj : j < N) (hk : s0 9 j = 3) (hp : s 2 12 = (j : Int)) (hT : T2 F P s0 t0 N Kf Uf Wf g K U W Y A s) (hv : g = 0 ∧ (v = 3 ∨ v = 4) ∨ g = 1 ∧ v = 1 ∨ g = 2 ∧ v = 2) (hy : TV2 F P s0 t0 Kf y r) (hn : nwW v K U W < 12) : ∃ s1, bd (scp_firstRival v s) (fun r7 s7 => gd (rg (s7 22 4)) (if (s7 22 4) = 0 then trl_declare_103 v r s7 else bd (tok_findIn 33 34 35 48 (s7 2 12) r7 48 s7) (fun r10 s10 => gd (rg r10) (if r10 = (-1) then trl_declare_103 v r s10 else bd (tok_blame 3 (s10 2 12) s10) (fun _ s13 => trl_declare_103 v r s13))))) = some (0, up s1 2 12 ((j + 1 : Nat) : Int)) ∧ T2 F P s0 t0 N Kf Uf Wf g K U (W ++ [wNew v K U W y j]) Y A s1 ∧ MX s0 s s1 := by
  have hN2 := N1001 h
  obtain ⟨pa, n0, cs, pm, hS, hM⟩ := hT
  have hK : K ≠ [] := hS.1.2.2.2.2.2.2.2.2.1 (by omega)
  have hU : g = 1 ∨ g = 2 → U ≠ [] := fun q => (hS.1.2.2.2.2.2.2.2.1 q).1
  have g0 : v = 1 → g ≠ 0 := fun q => by omega
  obtain ⟨x, z, e1, e2, e3, e4, e5⟩ := riv_ok (y := y) h hs hj hk hS.1 hv (fun q => (hS.2.2.2.2.1 q hK).2.2.2.2)
  have e : (if z = -1 then [] else [16 * j + 3]) = (if ∃ r ∈ W, r.1 = (wNew v K U W y j).1 ∧ r.2.1 = (wNew v K U W y j).2.1 ∧ nmT F P t0 r.2.2.2.2.1 = nmT F P t0 (wNew v K U W y j).2.2.2.2.1 then [16 * (wNew v K U W y j).2.2.2.2.1 + 3] else []) := by
    by_cases c : z = -1
    · rw [if_pos c, if_neg (e5.mp c)]
    · rw [if_neg c, if_pos (by
        by_cases c' : ∃ r ∈ W, r.1 = (wNew v K U W y j).1 ∧ r.2.1 = (wNew v K U W y j).2.1 ∧ nmT F P t0 r.2.2.2.2.1 = nmT F P t0 (wNew v K U W y j).2.2.2.2.1
        · exact c'
        · exact absurd (e5.mpr c') c)]
      rfl
  clear e5
  obtain ⟨sa, b1, b2, b3⟩ := bl_if (j := j) (f := 3) (c := z = -1) (G := trl_declare_103 v r) hS.2.2.2.2.2.1 (by omega) (by omega)
  have Sa := S2_bl hS b3 b2
  have hsa : SC s0 sa := MD_SC (MDn b3) hs
  obtain ⟨h1, h2, h3, h4, h5, h6, h7, h9⟩ := Sa
  obtain ⟨s1, d1, d2, d3, d4, d5, d6, d7, d8, d9⟩ := b_decl (r := r) (y := y) h hsa hj hk (by rw [b3 2 12 (by omega)]; exact hp) h1 hv hn (fun q => by
    obtain ⟨q1, q2, q3, _⟩ := h5 (g0 q) hK
    omega)
  refine ⟨s1, ?_, ⟨pa, _, cs, pm, ⟨d2, by rw [d3 22 4 (by omega) (by omega)]; exact h2, X2T_of h3 (fun c k q => d3 c k (by omega) (by omega)), fun _ => ⟨⟨(d2.2.2.2.2.2.2.1 hK).2, fun i hi => ?_⟩, ?_⟩, fun q1 q2 => ?_, BLc_of h6 (d3 2 13 (by omega) (by omega)) (d3 2 14 (by omega) (by omega)), EMc_of h7 (fun c k q => d3 c k (by omega) (by omega)), h9⟩, fun q => ?_⟩, MX_tr (MX_bl hs b3) (MX_of hsa (fun c k q => d3 c k (by omega) (by omega)))⟩
  · rw [e1, bq, hS.2.1, gr (by omega), if_neg (by omega), hp, e2, bq, gr (by omega), hp]
    rw [show ((3 : Nat) : Int) = 3 from rfl] at b1
    rw [b1, d1]
  · obtain ⟨x1, x2⟩ := (h4 hK).1
    rw [d9, List.length_append, List.length_singleton] at hi
    rw [d9]
    by_cases c : i < (wlG g K U W).length
    · rw [gd_app c, d4 36 i (by omega) (by omega) (by omega), d4 37 i (by omega) (by omega) (by omega), d4 38 i (by omega) (by omega) (by omega), d4 39 i (by omega) (by omega) (by omega)]
      exact x2 i c
    · have ei : i = (wlG g K U W).length := by omega
      rw [ei, gd_end, d5, d6, d7, d8]
      have w3 := (h4 hK).2
      refine ⟨hy, ?_, ?_, ?_, ?_, ?_⟩
      · unfold sgT wNew
        simp only
        rcases hv with ⟨_, c | c⟩ | ⟨_, c⟩ | ⟨_, c⟩ <;> rw [c] <;> rfl
      · exact av_nu (by omega) w3 (fun q => (h5 (g0 q) hK).2.1)
      · unfold wNew
        simp only
      · unfold wNew
        simp only
        omega
      · unfold wNew
        simp only
        omega
  · obtain ⟨n1, n2, n3, n4, n5⟩ := nw_add W (wNew v K U W y j)
    rw [n1, n2, d3 23 14 (by omega) (by omega), (h4 hK).2]
    have cl : (wNew v K U W y j).1 = (K.length : Int) - 1 := rfl
    by_cases c : (wNew v K U W y j).2.2.1 = 0
    · rw [if_pos c, if_pos ⟨c, cl⟩]
      omega
    · rw [if_neg c, if_neg (fun w => c w.1)]
      rfl
  · obtain ⟨x1, x2, x3, x4, x5⟩ := h5 q1 q2
    refine ⟨x1, by rw [d3 23 13 (by omega) (by omega)]; exact x2, x3, x4, fun r' hr' q' => ?_⟩
    rcases List.mem_append.mp hr' with w | w
    · exact x5 r' w q'
    · rw [List.mem_singleton.mp w]
      rfl
  · have q' := Pre_decl q hv hU
    obtain ⟨m1, m2, m3, m4⟩ := hM q'
    refine ⟨m1, fun k => ?_, m3, fun u u1 u2 => by rw [d3 20 _ (by omega) (by omega), b3 20 _ (by omega)]; exact m4 u u1 u2⟩
    rw [List.mem_append, m2]
    unfold ntT
    rw [gW_app, List.mem_append, or_rot]
    rw [e]
/-- a class's name, second reading -/
theorem t2_cls (h : TKR 0 F n N P s0 t0) (hs : SC s0 s) (hj : j < N) (hk : s0 9 j = 3) (hp : s 2 12 = (j : Int)) (hT : T2 F P s0 t0 N Kf Uf Wf g K U W Y A s) (hg : g = 0 ∨ g = 3) (hK : K.length < 12) : ∃ s1, trl_readClassName_55 s = some (0, up s1 2 12 ((j + 1 : Nat) : Int)) ∧ T2 F P s0 t0 N Kf Uf Wf 0 (K ++ [j]) U W Y A s1 ∧ MX s0 s s1 := by
  have hN2 := N1001 h
  obtain ⟨pa, n0, cs, pm, hS, hM⟩ := hT
  obtain ⟨h1, h2, h3, h4, h5, h6, h7, h9, h10⟩ := hS
  obtain ⟨sa, e1, c1, f1, f14⟩ := b_cls (j := j) h1 hK
  have X : X2T F P s0 t0 N Kf Uf pa sa := X2T_of h3 (fun c k q => f1 c k (by omega) (by omega) (by omega))
  have hsa : SC s0 sa := SC_of hs (fun c k q => f1 c k (by omega) (by omega) (by omega))
  obtain ⟨k1, k2, k3⟩ := fcK_ok h hsa hj hk X.1 X.2.2.2.2.1 X.2.2.2.2.2.2.1
  have hl := X.2.2.2.2.2.2.1
  have e11 : sa 23 11 = 8 + (K.length : Int) := by rw [c1.2.2.2.1, List.length_append, List.length_singleton]; omega
  have p12 : sa 2 12 = (j : Int) := by rw [f1 2 12 (by omega) (by omega) (by omega)]; exact hp
  have Ba : BLc n0 sa := BLc_of h6 (f1 2 13 (by omega) (by omega) (by omega)) (f1 2 14 (by omega) (by omega) (by omega))
  obtain ⟨sb, b1, b2, b3⟩ := bl_if (j := j) (f := 3) (c := fcK F P t0 Kf j = 8 + (K.length : Int)) (G := trl_readClassName_136) Ba (by omega) (by omega)
  have w0 : wlG 0 (K ++ [j]) U W = [] := by unfold wlG; rw [wlC_new h1.2.2.2.2.2.2.2.2.2]; rfl
  refine ⟨sb, ?_, ⟨pa, _, cs, pm, ⟨TXB_of c1 (fun c k a1 a2 _ _ _ => b3 c k (by omega)), by rw [b3 22 4 (by omega), f1 22 4 (by omega) (by omega) (by omega)]; exact h2, X2T_of X (fun c k q => b3 c k (by omega)), fun _ => ⟨⟨VS_of (c1.2.2.2.2.2.2.1 (by simp)).2 (fun c k q => b3 c k (by omega)), fun i hi => by rw [w0] at hi; simp at hi⟩, ?_⟩, fun q => absurd rfl q, b2, EMc_of h7 (fun c k q => by rw [b3 c k (by omega), f1 c k (by omega) (by omega) (by omega)]), fun _ => h9 hg, fun q => by omega⟩, fun q => ?_⟩, MX_tr (MX_of hs (fun c k q => f1 c k (by omega) (by omega) (by omega))) (MX_bl hsa b3)⟩
  · unfold trl_readClassName_55
    rw [e1, bq, f1 22 4 (by omega) (by omega) (by omega), h2, gr (by omega), if_neg (by omega)]
    unfold trl_findClass
    rw [p12, k1, bq, bq, gr (by omega), e11, gr (by omega), p12]
    rw [show ((3 : Nat) : Int) = 3 from rfl] at b1
    rw [b1]
    unfold trl_readClassName_136
    rw [lt_eq, b3 2 12 (by omega), p12]
    rfl
  · rw [b3 23 14 (by omega), f14, h1.2.2.2.2.2.1]
    have : nwC (((K ++ [j]).length : Int) - 1) W = 0 := by
      unfold nwC
      rw [List.countP_eq_zero]
      intro r hr
      have := (h1.2.2.2.2.2.2.2.2.2.1 r hr).1
      simp only [List.length_append, List.length_singleton, Bool.and_eq_true, beq_iff_eq]
      omega
    rw [this]
    omega
  · obtain ⟨m1, m2, m3, m4⟩ := hM (Pre_cls q)
    refine ⟨m1, fun k => ?_, m3, fun u u1 u2 => by rw [b3 20 _ (by omega), f1 20 _ (by omega) (by omega) (by omega)]; exact m4 u u1 u2⟩
    rw [List.mem_append, m2]
    unfold ntT
    rw [gK_app, List.mem_append, or_ra]
theorem soL_app (u : urec) : soL (U ++ [u]) = u.2.1 := by
  unfold soL
  rw [List.length_append, List.length_singleton, Nat.add_sub_cancel, gd_end]
/-- a sub's name, second reading -/
theorem t2_sub {so : Int} (h : TKR 0 F n N P s0 t0) (hs : SC s0 s) (hj : j < N) (hk : s0 9 j = 3) (hp : s 2 12 = (j : Int)) (hT : T2 F P s0 t0 N Kf Uf Wf g K U W Y A s) (hg : g = 0 ∨ g = 3) (hK : K ≠ []) (hso : so = 1 ∨ so = 2 ∨ so = 3) (hU : U.length < 60) : ∃ s1, trl_readSubName_55 (256 + so) s = some (0, up s1 2 12 ((j + 1 : Nat) : Int)) ∧ T2 F P s0 t0 N Kf Uf Wf 1 K (U ++ [((K.length : Int) - 1, so, j, y)]) W Y A s1 ∧ MX s0 s s1 := by
  have hN2 := N1001 h
  obtain ⟨pa, n0, cs, pm, hS, hM⟩ := hT
  obtain ⟨h1, h2, h3, h4, h5, h6, h7, h9, h10⟩ := hS
  have hK1 : 0 < K.length := List.length_pos_iff.mpr hK
  have hK2 : K.length ≤ 12 := h1.2.2.1.1
  obtain ⟨sa, e1, c1, f1, f13⟩ := b_sub (u := ((K.length : Int) - 1, so, j, y)) (so := so) h1 hg hK hU
  have X : X2T F P s0 t0 N Kf Uf pa sa := X2T_of h3 (fun c k q => f1 c k (by omega) (by omega) (by omega))
  have hsa : SC s0 sa := SC_of hs (fun c k q => f1 c k (by omega) (by omega) (by omega))
  have e11 : sa 23 11 = 7 + (K.length : Int) := c1.2.2.2.1
  have e12 : sa 23 12 = 40 + (U.length : Int) := by rw [c1.2.2.2.2.1, List.length_append, List.length_singleton]; omega
  have p12 : sa 2 12 = (j : Int) := by rw [f1 2 12 (by omega) (by omega) (by omega)]; exact hp
  have k1 := fsub_ok (ow := 7 + (K.length : Int)) h hsa hj hk X (by omega)
  have kr := fsbT_rg (F := F) (P := P) (t0 := t0) (Kf := Kf) (Uf := Uf) (ow := 7 + (K.length : Int)) (j := j)
  have hul := X.2.2.2.2.2.2.2
  have Ba : BLc n0 sa := BLc_of h6 (f1 2 13 (by omega) (by omega) (by omega)) (f1 2 14 (by omega) (by omega) (by omega))
  obtain ⟨sb, b1, b2, b3⟩ := bl_if (j := j) (f := 3) (c := fsbT F P t0 Kf Uf (7 + (K.length : Int)) j = 40 + (U.length : Int)) (G := trl_readSubName_144) Ba (by omega) (by omega)
  have w1 : wlG 1 K (U ++ [((K.length : Int) - 1, so, j, y)]) W = wlC K W := by unfold wlG; rw [wlU_new h1.2.2.2.2.2.2.2.2.2]; simp
  refine ⟨sb, ?_, ⟨pa, _, cs, pm, ⟨TXB_of c1 (fun c k a1 a2 _ _ _ => b3 c k (by omega)), by rw [b3 22 4 (by omega), f1 22 4 (by omega) (by omega) (by omega)]; exact h2, X2T_of X (fun c k q => b3 c k (by omega)), fun _ => ⟨⟨VS_of (c1.2.2.2.2.2.2.1 hK).2 (fun c k q => b3 c k (by omega)), fun i hi => ?_⟩, by rw [b3 23 14 (by omega), f1 23 14 (by omega) (by omega) (by omega)]; exact (h4 hK).2⟩, fun _ _ => ⟨by simp, by rw [b3 23 13 (by omega), f13, soL_app], by rw [soL_app]; exact hso, by rw [List.length_append, List.length_singleton, Nat.add_sub_cancel, gd_end], fun r hr q => ?_⟩, b2, EMc_of h7 (fun c k q => by rw [b3 c k (by omega), f1 c k (by omega) (by omega) (by omega)]), fun q => by omega, fun _ => by rw [List.length_append, List.length_singleton, h9 hg]⟩, fun q => ?_⟩, MX_tr (MX_of hs (fun c k q => f1 c k (by omega) (by omega) (by omega))) (MX_bl hsa b3)⟩
  · unfold trl_readSubName_55
    rw [e1, bq, f1 22 4 (by omega) (by omega) (by omega), h2, gr (by omega), if_neg (by omega), e11, p12, k1, bq, gr (by omega), e12, gr (by omega), p12]
    rw [show ((3 : Nat) : Int) = 3 from rfl] at b1
    rw [b1]
    unfold trl_readSubName_144
    rw [lt_eq, b3 2 12 (by omega), p12]
    rfl
  · rw [w1] at hi ⊢
    obtain ⟨x1, x2⟩ := (h4 hK).1
    have hle : (wlC K W).length ≤ (wlG g K U W).length := by unfold wlG; rw [List.length_append]; omega
    have x3 := x2 i (by omega)
    have eq : (wlG g K U W).getD i (0, 0, 0, 0, 0, 0, 0) = (wlC K W).getD i (0, 0, 0, 0, 0, 0, 0) := by unfold wlG; rw [gdL hi]
    rw [eq] at x3
    have hm : (wlC K W).getD i (0, 0, 0, 0, 0, 0, 0) ∈ wlC K W := by
      rw [List.getD_eq_getElem?_getD, List.getElem?_eq_getElem hi]
      exact List.getElem_mem _
    have hm2 : (wlC K W).getD i (0, 0, 0, 0, 0, 0, 0) ∈ W ∧ ((wlC K W).getD i (0, 0, 0, 0, 0, 0, 0)).2.1 = -1 := by
      generalize (wlC K W).getD i (0, 0, 0, 0, 0, 0, 0) = w at *
      unfold wlC at hm
      rw [List.mem_filter] at hm
      simp only [Bool.and_eq_true, beq_iff_eq] at hm
      exact ⟨hm.1, hm.2.2⟩
    have so2 := (h1.2.2.2.2.2.2.2.2.2.1 _ hm2.1).2.2.2.1 hm2.2
    have nu : ∀ a b, nuT a ((wlC K W).getD i (0, 0, 0, 0, 0, 0, 0)) = nuT b ((wlC K W).getD i (0, 0, 0, 0, 0, 0, 0)) := fun a b => by
      unfold nuT
      rw [if_neg (fun q => by have := q.1; omega), if_neg (fun q => by have := q.1; omega)]
    rw [b3 36 i (by omega), b3 37 i (by omega), b3 38 i (by omega), b3 39 i (by omega), f1 36 i (by omega) (by omega) (by omega), f1 37 i (by omega) (by omega) (by omega), f1 38 i (by omega) (by omega) (by omega), f1 39 i (by omega) (by omega) (by omega), nu _ (soL U)]
    exact x3
  · have := (h1.2.2.2.2.2.2.2.2.2.1 r hr).2.1
    rw [List.length_append, List.length_singleton] at q
    omega
  · obtain ⟨m1, m2, m3, m4⟩ := hM (Pre_sub q)
    refine ⟨m1, fun k => ?_, m3, fun u u1 u2 => by rw [b3 20 _ (by omega), f1 20 _ (by omega) (by omega) (by omega)]; exact m4 u u1 u2⟩
    rw [List.mem_append, m2]
    unfold ntT
    rw [gU_app, List.mem_append, or_rb]
    show _ ↔ _ ∨ (_ ∨ k ∈ (if fsbT F P t0 Kf Uf (8 + ((K.length : Int) - 1)) j = 40 + (U.length : Int) then [] else [16 * j + 3])) ∨ _
    rw [show 8 + ((K.length : Int) - 1) = 7 + (K.length : Int) by omega]
theorem paU_at {k : Nat} {x : Int} : paU pa k x k = x := if_pos rfl
theorem paU_ne {k u : Nat} {x : Int} (h : ¬ u = k) : paU pa k x u = pa u := if_neg h
/-- behind the parameters, second reading -/
theorem t2_tell (hs : SC s0 s) (hT : T2 F P s0 t0 N Kf Uf Wf 1 K U W Y A s) : ∃ s1, scp_tellParameters s = some (0, s1) ∧ T2 F P s0 t0 N Kf Uf Wf 2 K U W Y A s1 ∧ MX s0 s s1 := by
  obtain ⟨pa, n0, cs, pm, hS, hM⟩ := hT
  obtain ⟨h1, h2, h3, h4, h5, h6, h7, h9, h10⟩ := hS
  have h1' := h1
  obtain ⟨a1, ⟨a2, a2'⟩, a3, a4, a5, a6, a7, a8, a9, a10⟩ := h1
  obtain ⟨u1, u2, u3⟩ := a8 (Or.inl rfl)
  have hU1 : 0 < U.length := List.length_pos_iff.mpr u1
  have hp12 : nwP ((U.length : Int) - 1) W ≤ 12 := a10.2.2.2.1 _
  have e : (s 23 12).toNat = 39 + U.length := by omega
  refine ⟨up s 31 (39 + U.length) (s 40 1), ?_, ⟨paU pa (39 + U.length) (nwP ((U.length : Int) - 1) W : Int), n0, cs, pm, ⟨?_, by rw [up_ne (by omega)]; exact h2, ?_, fun q => ⟨X2V_of (h4 q).1 (fun c k z => up_ne (by omega)), by rw [up_ne (by omega)]; exact (h4 q).2⟩, fun q1 q2 => by rw [up_ne (by omega)]; exact h5 (by omega) q2, BLc_of h6 (up_ne (by omega)) (up_ne (by omega)), EMc_of h7 (fun c k q => up_ne (by omega)), fun q => by omega, fun _ => h10 (Or.inl rfl)⟩, fun q => ?_⟩, MX_of hs (fun c k q => up_ne (by omega))⟩
  · unfold scp_tellParameters
    rw [gr (by omega), if_neg (by omega), if_neg (by omega), gd_pos (by omega), lt_eq, e]
  · have b2 := TXB_of (s' := up s 31 (39 + U.length) (s 40 1)) h1' (fun c k z1 z2 z3 z4 z5 => up_ne (by omega))
    obtain ⟨c1, c2, c3, c4, c5, c6, c7, c8, c9, c10⟩ := b2
    exact ⟨c1, c2, c3, c4, c5, c6, c7, fun _ => c8 (Or.inl rfl), fun _ => c9 (by omega), c10⟩
  · obtain ⟨x1, x2, x3, x4, x5⟩ := h3
    refine ⟨TBo (up_ne (by omega)) (up_cell (by omega)) (up_cell (by omega)) x1, TBo (up_ne (by omega)) (up_cell (by omega)) (up_cell (by omega)) x2, fun k hk => by rw [up_ne (by omega)]; exact x3 k hk, fun u hu => ?_, x5⟩
    obtain ⟨y1, y2, y3, y4⟩ := x4 u hu
    by_cases z : u = 39 + U.length
    · rw [z, up_same, paU_at, up_ne (by omega), ← z]
      exact ⟨u2, y2, by omega, by omega⟩
    · rw [up_ne (by omega), paU_ne z, up_ne (by omega)]
      exact ⟨y1, y2, y3, y4⟩
  · obtain ⟨m1, m2, m3, m4⟩ := hM (Pre_21 q)
    refine ⟨fun u hu => ?_, m2, m3, fun u u1 u2 => by rw [up_ne (by omega)]; exact m4 u u1 u2⟩
    by_cases z : u = 39 + U.length
    · rw [z, paU_at, ← z]
      unfold paF
      rw [if_neg (by omega), show ((u - 40 : Nat) : Int) = (U.length : Int) - 1 by omega, Pre_P q (Or.inl rfl) u1]
    · rw [paU_ne z]; exact m1 u hu
end T2c
