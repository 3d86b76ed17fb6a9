/-! the first reading: a class, a sub, its parameters -/
section TXh
variable {F : Nat → Int} {n N : Nat} {P : Nat → Nat} {s0 t0 s s' : iS} {g g' j : Nat} {K : List Nat} {U : List urec} {W : List wrec} {v r y : Int}
theorem SC_of (h : SC s0 s) (hf : ∀ c k, c < 23 ∨ 40 < c → s' c k = s c k) : SC s0 s' := by
  obtain ⟨h1, h2, h3, h4, h5, h6, h7, h8, h9, h10⟩ := h
  exact ⟨(funext fun k => hf 1 k (by omega)).trans h1, (funext fun k => hf 9 k (by omega)).trans h2, (funext fun k => hf 10 k (by omega)).trans h3, (funext fun k => hf 11 k (by omega)).trans h4, (funext fun k => hf 12 k (by omega)).trans h5, (funext fun k => hf 13 k (by omega)).trans h6, (hf 2 8 (by omega)).trans h7, (hf 2 9 (by omega)).trans h8, (funext fun k => hf 42 k (by omega)).trans h9, (funext fun k => hf 43 k (by omega)).trans h10⟩
theorem MX_of (hs : SC s0 s) (hf : ∀ c k, c < 23 ∨ 40 < c → s' c k = s c k) : MX s0 s s' := ⟨SC_of hs hf, hf 2 12 (by omega), hf 22 5 (by omega), hf 22 6 (by omega)⟩
/-- a class's name, first reading -/
theorem t1_cls (h : TKR 0 F n N P s0 t0) (hs : SC s0 s) (hj : j < N) (hk : s0 9 j = 3) (hp : s 2 12 = (j : Int)) (hX : X1 F P s0 t0 N g K U W s) (hg : g = 0 ∨ g = 3) (h4 : s 22 4 = 0) (hK : K.length < 12) : ∃ s1, trl_readClassName_55 s = some (0, up s1 2 12 ((j + 1 : Nat) : Int)) ∧ X1 F P s0 t0 N 0 (K ++ [j]) U W s1 ∧ (∀ c k, c < 23 ∨ 40 < c → s1 c k = s c k) := by
  obtain ⟨hb, x1, x2, x3, x4, x5, x6, x7⟩ := hX
  obtain ⟨s1, e1, b1, f1, f14⟩ := b_cls (j := j) hb hK
  have x1' : TB 24 25 26 (sysCN ++ K.map (nmT F P t0)) s1 := TBo (f1 24 2 (by omega) (by omega) (by omega)) (funext fun k => f1 25 k (by omega) (by omega) (by omega)) (funext fun k => f1 26 k (by omega) (by omega) (by omega)) x1
  have hs1 : SC s0 s1 := SC_of hs (fun c k q => f1 c k (by omega) (by omega) (by omega))
  obtain ⟨d1, d2⟩ := cAd (M := 20) h hs1 hj hk x1' (by omega) (by rw [nmK_l]; omega) ⟨by omega, by omega, by omega⟩
  rw [nmK_l] at d1 d2
  have f2 : ∀ c k, ¬ (24 ≤ c ∧ c ≤ 26) → nmad s1 24 25 26 (8 + K.length) (nmT F P t0 j) c k = s1 c k := fun c k z => nmad_ne (by omega) (by omega) (by omega)
  have f2' : ∀ k, k < 8 → nmad s1 24 25 26 (8 + K.length) (nmT F P t0 j) 25 k = s1 25 k ∧ nmad s1 24 25 26 (8 + K.length) (nmT F P t0 j) 26 k = s1 26 k := fun k z => ⟨nmad_ne (by omega) (by omega) (by omega), nmad_ne (by omega) (by omega) (by omega)⟩
  generalize nmad s1 24 25 26 (8 + K.length) (nmT F P t0 j) = s9 at *
  have b1' := b1
  obtain ⟨a1, ⟨a2, a2'⟩, a3, a4, a5, a6, a7, a8, a9, a10⟩ := b1
  have l1 : (K ++ [j]).length = K.length + 1 := by simp
  have e11 : s9 23 11 = 8 + (K.length : Int) := by rw [f2 23 11 (by omega), a4, l1]; omega
  have e27 : s9 27 2 = 40 + (U.length : Int) := by rw [f2 27 2 (by omega), f1 27 2 (by omega) (by omega) (by omega), x2.1, nmU_l]; omega
  have e11' : up s9 30 (8 + K.length) (s9 27 2) 23 11 = 8 + (K.length : Int) := by rw [up_ne (by omega)]; exact e11
  have e27' : up s9 30 (8 + K.length) (s9 27 2) 27 2 = s9 27 2 := by rw [up_ne (by omega)]
  have fr : ∀ c k, ¬ (c = 30 ∧ (k = 8 + K.length ∨ k = 9 + K.length)) → up (up s9 30 (8 + K.length) (s9 27 2)) 30 (9 + K.length) (s9 27 2) c k = s9 c k := fun c k z => by rw [up_ne (by omega), up_ne (by omega)]
  refine ⟨up (up s9 30 (8 + K.length) (s9 27 2)) 30 (9 + K.length) (s9 27 2), ?_, ⟨?_, ?_⟩, fun c k q => by rw [fr c k (by omega), f2 c k (by omega), f1 c k (by omega) (by omega) (by omega)]⟩
  · unfold trl_readClassName_55
    rw [e1, bq, f1 22 4 (by omega) (by omega) (by omega), h4, gr (by omega), if_pos rfl, f1 2 12 (by omega) (by omega) (by omega), hp, show tok_addTo 24 25 26 20 (j : Int) s1 = _ from d1, bq]
    unfold scp_tellClass
    rw [e11, gr (by omega), if_neg (by omega), gd_pos (by omega), lt_eq, show (8 + (K.length : Int)).toNat = 8 + K.length by omega, e11', gd_pos (by omega), lt_eq, show (8 + (K.length : Int) + 1).toNat = 9 + K.length by omega, e27', bq]
    unfold trl_readClassName_136
    rw [lt_eq, fr 2 12 (by omega), f2 2 12 (by omega), f1 2 12 (by omega) (by omega) (by omega), hp]
    rfl
  · refine ⟨?_, ⟨?_, SYZ_of a2' (fun c k q => ?_)⟩, a3, by rw [fr 23 11 (by omega), f2 23 11 (by omega)]; exact a4, by rw [fr 23 12 (by omega), f2 23 12 (by omega)]; exact a5, by rw [fr 40 3 (by omega), f2 40 3 (by omega)]; exact a6, fun q => ⟨by rw [fr 40 4 (by omega), f2 40 4 (by omega)]; exact (a7 q).1, VS_of (a7 q).2 (fun c k z => by rw [fr c k (by omega), f2 c k (by omega)])⟩, fun q => by omega, a9, a10⟩
    · have z := d2.1
      rw [List.length_append, nmK_l, List.length_singleton] at z
      unfold SBo at a1 ⊢
      rw [fr 33 2 (by omega), fr 24 2 (by omega), fr 27 2 (by omega), fr 23 15 (by omega), z, f2 33 2 (by omega), f2 27 2 (by omega), f2 23 15 (by omega)]
      omega
    · unfold TD at a2 ⊢
      rw [fr 23 11 (by omega), fr 23 12 (by omega), fr 40 4 (by omega), f2 23 11 (by omega), f2 23 12 (by omega), f2 40 4 (by omega)]
      exact a2
    · by_cases z : c = 30
      · by_cases z2 : k = 8 + K.length
        · rw [z, z2, up_ne (by omega), up_same, e27]
          have z3 : K.length = 0 := by omega
          have z4 : U = [] := by
            cases hU : U with
            | nil => rfl
            | cons a l => exact absurd (x4 a (by rw [hU]; exact List.mem_cons_self)).2.2.2.1 (by have := (x4 a (by rw [hU]; exact List.mem_cons_self)).2.2.1; omega)
          have z5 := a2'.2.2.1 8 (by omega)
          rw [z3, z4, show (8 + 0 : Nat) = 8 from rfl, z5]
          rfl
        · rw [fr c k (by omega), f2 c k (by omega)]
      · rw [fr c k (by omega)]
        by_cases z3 : 24 ≤ c ∧ c ≤ 26
        · have : k < 8 := by omega
          rcases (show c = 25 ∨ c = 26 by omega) with z4 | z4
          · rw [z4]; exact (f2' k this).1
          · rw [z4]; exact (f2' k this).2
        · exact f2 c k z3
  · refine ⟨?_, TBo (by rw [fr 27 2 (by omega), f2 27 2 (by omega)]; exact f1 27 2 (by omega) (by omega) (by omega)) (funext fun k => by rw [fr 28 k (by omega), f2 28 k (by omega)]; exact f1 28 k (by omega) (by omega) (by omega)) (funext fun k => by rw [fr 29 k (by omega), f2 29 k (by omega)]; exact f1 29 k (by omega) (by omega) (by omega)) x2, fun i hi => ?_, fun u hu => ?_, fun k hk' => ?_, fun u hu => ?_, fun q => by omega⟩
    · rw [List.map_append, List.map_singleton, ← List.append_assoc]
      exact TBo (fr 24 2 (by omega)) (funext fun k => fr 25 k (by omega)) (funext fun k => fr 26 k (by omega)) d2
    · rcases List.mem_append.mp hi with q | q
      · exact x3 i q
      · rw [List.mem_singleton.mp q]
        exact ⟨hj, hk⟩
    · obtain ⟨c1, c2, c3, c4, c5⟩ := x4 u hu
      exact ⟨c1, c2, c3, by omega, c5⟩
    · have all : ∀ u ∈ U, u.1 < (K.length : Int) := fun u hu => (x4 u hu).2.2.2.1
      by_cases z1 : k = K.length + 1
      · rw [z1, show 8 + (K.length + 1) = 9 + K.length by omega, up_same, e27, cP_all (fun u hu => by have := all u hu; omega)]
      · by_cases z2 : k = K.length
        · rw [z2, up_ne (by omega), up_same, e27, cP_all all]
        · rw [fr 30 _ (by omega), f2 30 _ (by omega), f1 30 _ (by omega) (by omega) (by omega)]
          exact x5 k (by omega)
    · rw [fr 32 _ (by omega), fr 31 _ (by omega), f2 32 _ (by omega), f2 31 _ (by omega), f1 32 _ (by omega) (by omega) (by omega), f1 31 _ (by omega) (by omega) (by omega)]
      exact ⟨(x6 u hu).1, fun _ => (x6 u hu).2 (by omega)⟩
/-- a sub's name, first reading -/
theorem t1_sub {so : Int} (h : TKR 0 F n N P s0 t0) (hs : SC s0 s) (hj : j < N) (hk : s0 9 j = 3) (hp : s 2 12 = (j : Int)) (hX : X1 F P s0 t0 N g K U W s) (hg : g = 0 ∨ g = 3) (h4 : s 22 4 = 0) (hK : K ≠ []) (hso : so = 1 ∨ so = 2 ∨ so = 3) (hU : U.length < 60) : ∃ s1, trl_readSubName_55 (256 + so) s = some (0, up s1 2 12 ((j + 1 : Nat) : Int)) ∧ X1 F P s0 t0 N 1 K (U ++ [((K.length : Int) - 1, so, j, y)]) W s1 ∧ (∀ c k, c < 23 ∨ 40 < c → s1 c k = s c k) := by
  obtain ⟨hb, x1, x2, x3, x4, x5, x6, x7⟩ := hX
  have hK1 : 0 < K.length := List.length_pos_iff.mpr hK
  have hKl : K.length ≤ 12 := hb.2.2.1.1
  obtain ⟨s1, e1, b1, f1, f13⟩ := b_sub (u := ((K.length : Int) - 1, so, j, y)) (so := so) hb hg hK hU
  have x2' : TB 27 28 29 (sysSN ++ U.map (fun u => nmT F P t0 u.2.2.1)) s1 := TBo (f1 27 2 (by omega) (by omega) (by omega)) (funext fun k => f1 28 k (by omega) (by omega) (by omega)) (funext fun k => f1 29 k (by omega) (by omega) (by omega)) x2
  have hs1 : SC s0 s1 := SC_of hs (fun c k q => f1 c k (by omega) (by omega) (by omega))
  obtain ⟨d1, d2⟩ := cAd (M := 100) h hs1 hj hk x2' (by omega) (by rw [nmU_l]; omega) ⟨by omega, by omega, by omega⟩
  rw [nmU_l] at d1 d2
  have f2 : ∀ c k, ¬ (27 ≤ c ∧ c ≤ 29) → nmad s1 27 28 29 (40 + U.length) (nmT F P t0 j) c k = s1 c k := fun c k z => nmad_ne (by omega) (by omega) (by omega)
  have f2' : ∀ k, k < 40 → nmad s1 27 28 29 (40 + U.length) (nmT F P t0 j) 28 k = s1 28 k ∧ nmad s1 27 28 29 (40 + U.length) (nmT F P t0 j) 29 k = s1 29 k := fun k z => ⟨nmad_ne (by omega) (by omega) (by omega), nmad_ne (by omega) (by omega) (by omega)⟩
  generalize nmad s1 27 28 29 (40 + U.length) (nmT F P t0 j) = s9 at *
  obtain ⟨a1, ⟨a2, a2'⟩, a3, a4, a5, a6, a7, a8, a9, a10⟩ := b1
  have l1 : (U ++ [((K.length : Int) - 1, so, j, y)]).length = U.length + 1 := by simp
  have e11 : s9 23 11 = 7 + (K.length : Int) := by rw [f2 23 11 (by omega), a4]
  have e12 : s9 23 12 = 40 + (U.length : Int) := by rw [f2 23 12 (by omega), a5, l1]; omega
  have e13 : s9 23 13 = 256 + so := by rw [f2 23 13 (by omega), f13]
  have e27 : s9 27 2 = 41 + (U.length : Int) := by
    have z := d2.1
    rw [List.length_append, nmU_l, List.length_singleton] at z
    rw [z]
    omega
  have u12 : up s9 32 (40 + U.length) (s9 23 13) 23 12 = 40 + (U.length : Int) := by rw [up_ne (by omega)]; exact e12
  have u11 : up (up s9 32 (40 + U.length) (s9 23 13)) 31 (40 + U.length) 0 23 11 = 7 + (K.length : Int) := by rw [up_ne (by omega), up_ne (by omega)]; exact e11
  have u27 : up (up s9 32 (40 + U.length) (s9 23 13)) 31 (40 + U.length) 0 27 2 = s9 27 2 := by rw [up_ne (by omega), up_ne (by omega)]
  have fr : ∀ c k, ¬ (c = 32 ∧ k = 40 + U.length) → ¬ (c = 31 ∧ k = 40 + U.length) → ¬ (c = 30 ∧ k = 8 + K.length) → up (up (up s9 32 (40 + U.length) (s9 23 13)) 31 (40 + U.length) 0) 30 (8 + K.length) (s9 27 2) c k = s9 c k := fun c k z1 z2 z3 => by rw [up_ne (by omega), up_ne (by omega), up_ne (by omega)]
  have v30 : up (up (up s9 32 (40 + U.length) (s9 23 13)) 31 (40 + U.length) 0) 30 (8 + K.length) (s9 27 2) 30 (8 + K.length) = 41 + (U.length : Int) := by rw [up_same]; exact e27
  have v32 : up (up (up s9 32 (40 + U.length) (s9 23 13)) 31 (40 + U.length) 0) 30 (8 + K.length) (s9 27 2) 32 (40 + U.length) = 256 + so := by rw [up_ne (by omega), up_ne (by omega), up_same]; exact e13
  refine ⟨up (up (up s9 32 (40 + U.length) (s9 23 13)) 31 (40 + U.length) 0) 30 (8 + K.length) (s9 27 2), ?_, ⟨?_, ?_⟩, fun c k q => by rw [fr c k (by omega) (by omega) (by omega), f2 c k (by omega), f1 c k (by omega) (by omega) (by omega)]⟩
  · unfold trl_readSubName_55
    rw [e1, bq, f1 22 4 (by omega) (by omega) (by omega), h4, gr (by omega), if_pos rfl, f1 2 12 (by omega) (by omega) (by omega), hp, show tok_addTo 27 28 29 100 (j : Int) s1 = _ from d1, bq]
    unfold scp_tellSub
    rw [e12, gr (by omega), if_neg (by omega), e11, gr (by omega), if_neg (by omega), gd_pos (by omega), lt_eq, show (40 + (U.length : Int)).toNat = 40 + U.length by omega, u12, gd_pos (by omega), lt_eq, show (40 + (U.length : Int)).toNat = 40 + U.length by omega, u11, gd_pos (by omega), lt_eq, show (7 + (K.length : Int) + 1).toNat = 8 + K.length by omega, u27, bq]
    unfold trl_readSubName_144
    rw [lt_eq, fr 2 12 (by omega) (by omega) (by omega), f2 2 12 (by omega), f1 2 12 (by omega) (by omega) (by omega), hp]
    rfl
  · have frr : ∀ c k, ¬ (27 ≤ c ∧ c ≤ 32) → up (up (up s9 32 (40 + U.length) (s9 23 13)) 31 (40 + U.length) 0) 30 (8 + K.length) (s9 27 2) c k = s1 c k := fun c k z => by rw [fr c k (by omega) (by omega) (by omega), f2 c k (by omega)]
    refine ⟨?_, ⟨?_, SYZ_of a2' (fun c k q => ?_)⟩, a3, by rw [frr 23 11 (by omega)]; exact a4, by rw [frr 23 12 (by omega)]; exact a5, by rw [frr 40 3 (by omega)]; exact a6, fun q => ⟨by rw [frr 40 4 (by omega)]; exact (a7 q).1, VS_of (a7 q).2 (fun c k z => frr c k (by omega))⟩, fun q => ⟨(a8 q).1, by rw [frr 40 1 (by omega)]; exact (a8 q).2.1, by rw [frr 40 2 (by omega)]; exact (a8 q).2.2⟩, a9, a10⟩
    · unfold SBo at a1 ⊢
      rw [frr 33 2 (by omega), frr 24 2 (by omega), fr 27 2 (by omega) (by omega) (by omega), frr 23 15 (by omega), e27]
      omega
    · unfold TD at a2 ⊢
      rw [frr 23 11 (by omega), frr 23 12 (by omega), frr 40 4 (by omega)]
      exact a2
    · rw [fr c k (by omega) (by omega) (by omega)]
      by_cases z3 : 27 ≤ c ∧ c ≤ 29
      · have : k < 40 := by omega
        rcases (show c = 28 ∨ c = 29 by omega) with z4 | z4
        · rw [z4]; exact (f2' k this).1
        · rw [z4]; exact (f2' k this).2
      · exact f2 c k z3
  · refine ⟨TBo (by rw [fr 24 2 (by omega) (by omega) (by omega), f2 24 2 (by omega)]; exact f1 24 2 (by omega) (by omega) (by omega)) (funext fun k => by rw [fr 25 k (by omega) (by omega) (by omega), f2 25 k (by omega)]; exact f1 25 k (by omega) (by omega) (by omega)) (funext fun k => by rw [fr 26 k (by omega) (by omega) (by omega), f2 26 k (by omega)]; exact f1 26 k (by omega) (by omega) (by omega)) x1, ?_, x3, fun u hu => ?_, fun k hk' => ?_, fun u hu => ?_, fun q => by rw [fr 23 13 (by omega) (by omega) (by omega), e13]; omega⟩
    · rw [List.map_append, List.map_singleton, ← List.append_assoc]
      exact TBo (fr 27 2 (by omega) (by omega) (by omega)) (funext fun k => fr 28 k (by omega) (by omega) (by omega)) (funext fun k => fr 29 k (by omega) (by omega) (by omega)) d2
    · rcases List.mem_append.mp hu with q | q
      · exact x4 u q
      · rw [List.mem_singleton.mp q]
        exact ⟨hj, hk, by show 0 ≤ (K.length : Int) - 1; omega, by show (K.length : Int) - 1 < (K.length : Int); omega, hso⟩
    · rw [lp_pl1]
      by_cases z1 : k = K.length
      · rw [z1, v30, cP_all (fun u hu => (x4 u hu).2.2.2.1), if_pos (show (K.length : Int) - 1 < (K.length : Int) by omega)]
        omega
      · rw [fr 30 _ (by omega) (by omega) (by omega), f2 30 _ (by omega), f1 30 _ (by omega) (by omega) (by omega), if_neg (show ¬ (K.length : Int) - 1 < (k : Int) by omega), x5 k hk']
        omega
    · rw [l1] at hu ⊢
      by_cases z1 : u = U.length
      · rw [z1, v32, gd_end]
        exact ⟨rfl, fun q => absurd ⟨rfl, by omega⟩ q⟩
      · rw [fr 32 _ (by omega) (by omega) (by omega), fr 31 _ (by omega) (by omega) (by omega), f2 32 _ (by omega), f2 31 _ (by omega), f1 32 _ (by omega) (by omega) (by omega), f1 31 _ (by omega) (by omega) (by omega), gd_app (by omega)]
        exact ⟨(x6 u (by omega)).1, fun _ => (x6 u (by omega)).2 (by omega)⟩
/-- behind the parameters, first reading -/
theorem t1_tell (hX : X1 F P s0 t0 N 1 K U W s) : ∃ s1, scp_tellParameters s = some (0, s1) ∧ X1 F P s0 t0 N 2 K U W s1 ∧ (∀ c k, c < 23 ∨ 40 < c → s1 c k = s c k) := by
  obtain ⟨hb, x1, x2, x3, x4, x5, x6, x7⟩ := hX
  have hb' := hb
  obtain ⟨a1, ⟨a2, a2'⟩, a3, a4, a5, a6, a7, a8, a9, a10⟩ := hb
  obtain ⟨u1, u2, u3⟩ := a8 (Or.inl rfl)
  have hU1 : 0 < U.length := List.length_pos_iff.mpr u1
  have e : (s 23 12).toNat = 39 + U.length := by omega
  refine ⟨up s 31 (39 + U.length) (s 40 1), ?_, ⟨?_, ?_⟩, fun c k q => up_ne (by omega)⟩
  · unfold scp_tellParameters
    rw [gr (by omega), if_neg (by omega), if_neg (by omega), gd_pos (by omega), lt_eq, e]
  · have b2 := TXB_of (s' := up s 31 (39 + U.length) (s 40 1)) hb' (fun c k z1 z2 z3 z4 z5 => up_ne (by omega))
    obtain ⟨c1, c2, c3, c4, c5, c6, c7, c8, c9, c10⟩ := b2
    exact ⟨c1, c2, c3, c4, c5, c6, c7, fun _ => c8 (Or.inl rfl), fun _ => c9 (by omega), c10⟩
  · refine ⟨TBo (up_ne (by omega)) (up_cell (by omega)) (up_cell (by omega)) x1, TBo (up_ne (by omega)) (up_cell (by omega)) (up_cell (by omega)) x2, x3, x4, fun k hk => by rw [up_ne (by omega)]; exact x5 k hk, fun u hu => ⟨by rw [up_ne (by omega)]; exact (x6 u hu).1, fun _ => ?_⟩, fun _ => by rw [up_ne (by omega)]; exact x7 (Or.inl rfl)⟩
    by_cases z : u = U.length - 1
    · rw [show 40 + u = 39 + U.length by omega, up_same, u2, show (U.length : Int) - 1 = (u : Int) by omega]
    · rw [up_ne (by omega)]
      exact (x6 u hu).2 (by omega)
/-- a variable, first reading -/
theorem t1_decl (h : TKR 0 F n N P s0 t0) (hs : SC s0 s) (hj : j < N) (hk : s0 9 j = 3) (hp : s 2 12 = (j : Int)) (hX : X1 F P s0 t0 N g K U W s) (hv : g = 0 ∧ (v = 3 ∨ v = 4) ∨ g = 1 ∧ v = 1 ∨ g = 2 ∧ v = 2) (hn : nwW v K U W < 12) : ∃ s1, trl_declare_103 v r s = some (0, up s1 2 12 ((j + 1 : Nat) : Int)) ∧ X1 F P s0 t0 N g K U (W ++ [wNew v K U W y j]) s1 ∧ (∀ c k, c < 23 ∨ 40 < c → s1 c k = s c k) := by
  obtain ⟨hb, x1, x2, x3, x4, x5, x6, x7⟩ := hX
  have hU : g = 1 ∨ g = 2 → U ≠ [] := fun q => (hb.2.2.2.2.2.2.2.1 q).1
  obtain ⟨s1, e1, e2, e3, _⟩ := b_decl (r := r) (y := y) h hs hj hk hp hb hv hn (fun q => by have := x7 (Or.inl (by omega)); omega)
  refine ⟨s1, e1, ⟨e2, ?_⟩, fun c k q => e3 c k (by omega) (by omega)⟩
  have n4 := (nw_add W (wNew v K U W y j)).2.2.2.1
  refine ⟨TBo (e3 24 2 (by omega) (by omega)) (funext fun k => e3 25 k (by omega) (by omega)) (funext fun k => e3 26 k (by omega) (by omega)) x1, TBo (e3 27 2 (by omega) (by omega)) (funext fun k => e3 28 k (by omega) (by omega)) (funext fun k => e3 29 k (by omega) (by omega)) x2, x3, x4, fun k hk => by rw [e3 30 _ (by omega) (by omega)]; exact x5 k hk, fun u hu => ⟨by rw [e3 32 _ (by omega) (by omega)]; exact (x6 u hu).1, fun q => ?_⟩, fun q => by rw [e3 23 13 (by omega) (by omega)]; exact x7 q⟩
  rw [e3 31 _ (by omega) (by omega), n4, (x6 u hu).2 q, if_neg]
  · rfl
  · intro ⟨z1, z2⟩
    have c1 : v = 1 := by
      rcases hv with ⟨_, c | c⟩ | ⟨_, c⟩ | ⟨_, c⟩
      · simp [wNew, c] at z1
      · simp [wNew, c] at z1
      · exact c
      · simp [wNew, c] at z1
    have hU1 : 0 < U.length := List.length_pos_iff.mpr (hU (by omega))
    simp [wNew, c1] at z2
    exact q ⟨by omega, by omega⟩
end TXh
