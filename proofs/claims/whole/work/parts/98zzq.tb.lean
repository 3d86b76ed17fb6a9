/-! the readings of a text begin -/
/-- what the class keeps for reading texts -/
def LSc (s : iS) : Prop := SYZ s ∧ (8 ≤ s 24 2 ∧ s 24 2 ≤ 20) ∧ (40 ≤ s 27 2 ∧ s 27 2 ≤ 100) ∧ (0 ≤ s 33 2 ∧ s 33 2 ≤ 48) ∧ (0 ≤ s 23 15 ∧ s 23 15 ≤ 48) ∧ (0 ≤ s 40 4 ∧ s 40 4 < 1000000)
section RDa
variable {F : Nat → Int} {n N : Nat} {P : Nat → Nat} {s0 t0 s t : iS} {g : Nat} {K : List Nat} {U : List urec} {W : List wrec}
theorem SC_refl : SC s0 s0 := ⟨rfl, rfl, rfl, rfl, rfl, rfl, rfl, rfl, rfl, rfl⟩
theorem SR_refl : SR t0 t0 := ⟨rfl, rfl, rfl, rfl, rfl, rfl⟩
/-- the first reading begins -/
theorem rt0 (h : TKR 0 F n N P s0 t0) (hs : SC s0 s) (hl : LSc s) : ∃ s8, trl_readText 0 s = trl_readText_48 0 0 s8 ∧ T1 F P s0 t0 N 3 [] [] [] [] [] s8 ∧ SC s0 s8 ∧ s8 2 12 = 0 ∧ s8 22 5 = 0 ∧ s8 22 6 = 0 := by
  obtain ⟨l1, l2, l3, l4, l5, l6⟩ := hl
  obtain ⟨m, hm⟩ : ∃ m : Nat, s 24 2 = (m : Int) := ⟨(s 24 2).toNat, by omega⟩
  obtain ⟨m', hm'⟩ : ∃ m : Nat, s 27 2 = (m : Int) := ⟨(s 27 2).toNat, by omega⟩
  -- the text's counters
  have e0 : trl_readText 0 s = bd (scp_beginText 0 (up (up (up (up (up (up s 22 4 0) 22 5 0) 22 6 0) 2 12 0) 2 13 0) 2 14 (-1))) (fun _ s6 => bd (tok_placeOf 0 s6) (fun r7 s7 => bd (prg_begin 0 r7 s7) (fun _ s8 => trl_readText_48 0 0 s8))) := by
    unfold trl_readText tok_rewind
    rw [gd_pos (Or.inl rfl), lt_eq, lt_eq, lt_eq, lt_eq, lt_eq, lt_eq, bq]
  have fa : ∀ c k, ¬ (c = 22 ∧ (k = 4 ∨ k = 5 ∨ k = 6)) → ¬ (c = 2 ∧ (k = 12 ∨ k = 13 ∨ k = 14)) → up (up (up (up (up (up s 22 4 0) 22 5 0) 22 6 0) 2 12 0) 2 13 0) 2 14 (-1) c k = s c k := fun c k z1 z2 => by rw [up_ne (by omega), up_ne (by omega), up_ne (by omega), up_ne (by omega), up_ne (by omega), up_ne (by omega)]
  have v4 : up (up (up (up (up (up s 22 4 0) 22 5 0) 22 6 0) 2 12 0) 2 13 0) 2 14 (-1) 22 4 = 0 := by rw [up_ne (by omega), up_ne (by omega), up_ne (by omega), up_ne (by omega), up_ne (by omega), up_same]
  have v5 : up (up (up (up (up (up s 22 4 0) 22 5 0) 22 6 0) 2 12 0) 2 13 0) 2 14 (-1) 22 5 = 0 := by rw [up_ne (by omega), up_ne (by omega), up_ne (by omega), up_ne (by omega), up_same]
  have v6 : up (up (up (up (up (up s 22 4 0) 22 5 0) 22 6 0) 2 12 0) 2 13 0) 2 14 (-1) 22 6 = 0 := by rw [up_ne (by omega), up_ne (by omega), up_ne (by omega), up_same]
  have v12 : up (up (up (up (up (up s 22 4 0) 22 5 0) 22 6 0) 2 12 0) 2 13 0) 2 14 (-1) 2 12 = 0 := by rw [up_ne (by omega), up_ne (by omega), up_same]
  have v13 : up (up (up (up (up (up s 22 4 0) 22 5 0) 22 6 0) 2 12 0) 2 13 0) 2 14 (-1) 2 13 = 0 := by rw [up_ne (by omega), up_same]
  generalize up (up (up (up (up (up s 22 4 0) 22 5 0) 22 6 0) 2 12 0) 2 13 0) 2 14 (-1) = sa at *
  have hk1 := keep_ok (c := 24) (a := 25) (b := 26) (N := 20) (m := m) (k := 8) (s := sa) (by rw [fa 24 2 (by omega) (by omega)]; exact hm) (by omega) (by omega)
  have hk2 := keep_ok (c := 27) (a := 28) (b := 29) (N := 100) (m := m') (k := 40) (s := up sa 24 2 ((min m 8 : Nat) : Int)) (by rw [up_ne (by omega), fa 27 2 (by omega) (by omega)]; exact hm') (by omega) (by omega)
  have e1 : scp_beginText 0 sa = some (0, up (up (up (up (up sa 24 2 8) 27 2 40) 23 11 7) 23 12 39) 40 3 0) := by
    unfold scp_beginText scp_beginText_22
    rw [gr (by omega), if_pos rfl, show nam_keep 24 25 26 20 8 sa = _ from hk1, bq, show nam_keep 27 28 29 100 40 _ = _ from hk2, bq, lt_eq, lt_eq, lt_eq, show ((min m 8 : Nat) : Int) = 8 by omega, show ((min m' 40 : Nat) : Int) = 40 by omega]
  have fb : ∀ c k, ¬ (c = 24 ∧ k = 2) → ¬ (c = 27 ∧ k = 2) → ¬ (c = 23 ∧ (k = 11 ∨ k = 12)) → ¬ (c = 40 ∧ k = 3) → up (up (up (up (up sa 24 2 8) 27 2 40) 23 11 7) 23 12 39) 40 3 0 c k = sa c k := fun c k z1 z2 z3 z4 => by rw [up_ne (by omega), up_ne (by omega), up_ne (by omega), up_ne (by omega), up_ne (by omega)]
  have w24 : up (up (up (up (up sa 24 2 8) 27 2 40) 23 11 7) 23 12 39) 40 3 0 24 2 = 8 := by rw [up_ne (by omega), up_ne (by omega), up_ne (by omega), up_ne (by omega), up_same]
  have w27 : up (up (up (up (up sa 24 2 8) 27 2 40) 23 11 7) 23 12 39) 40 3 0 27 2 = 40 := by rw [up_ne (by omega), up_ne (by omega), up_ne (by omega), up_same]
  have w11 : up (up (up (up (up sa 24 2 8) 27 2 40) 23 11 7) 23 12 39) 40 3 0 23 11 = 7 := by rw [up_ne (by omega), up_ne (by omega), up_same]
  have w12 : up (up (up (up (up sa 24 2 8) 27 2 40) 23 11 7) 23 12 39) 40 3 0 23 12 = 39 := by rw [up_ne (by omega), up_same]
  have w3 : up (up (up (up (up sa 24 2 8) 27 2 40) 23 11 7) 23 12 39) 40 3 0 40 3 = 0 := up_same _ _ _ _
  generalize up (up (up (up (up sa 24 2 8) 27 2 40) 23 11 7) 23 12 39) 40 3 0 = sb at *
  have fs : ∀ c k, ¬ (c = 22 ∧ (k = 4 ∨ k = 5 ∨ k = 6)) → ¬ (c = 2 ∧ (k = 12 ∨ k = 13 ∨ k = 14)) → ¬ (c = 24 ∧ k = 2) → ¬ (c = 27 ∧ k = 2) → ¬ (c = 23 ∧ (k = 11 ∨ k = 12)) → ¬ (c = 40 ∧ k = 3) → sb c k = s c k := fun c k z1 z2 z3 z4 z5 z6 => by rw [fb c k z3 z4 z5 z6, fa c k z1 z2]
  have hsb : SC s0 sb := by
    obtain ⟨c1, c2, c3, c4, c5, c6, c7, c8, c9, c10⟩ := hs
    exact ⟨(funext fun k => fs 1 k (by omega) (by omega) (by omega) (by omega) (by omega) (by omega)).trans c1, (funext fun k => fs 9 k (by omega) (by omega) (by omega) (by omega) (by omega) (by omega)).trans c2, (funext fun k => fs 10 k (by omega) (by omega) (by omega) (by omega) (by omega) (by omega)).trans c3, (funext fun k => fs 11 k (by omega) (by omega) (by omega) (by omega) (by omega) (by omega)).trans c4, (funext fun k => fs 12 k (by omega) (by omega) (by omega) (by omega) (by omega) (by omega)).trans c5, (funext fun k => fs 13 k (by omega) (by omega) (by omega) (by omega) (by omega) (by omega)).trans c6, (fs 2 8 (by omega) (by omega) (by omega) (by omega) (by omega) (by omega)).trans c7, (fs 2 9 (by omega) (by omega) (by omega) (by omega) (by omega) (by omega)).trans c8, (funext fun k => fs 42 k (by omega) (by omega) (by omega) (by omega) (by omega) (by omega)).trans c9, (funext fun k => fs 43 k (by omega) (by omega) (by omega) (by omega) (by omega) (by omega)).trans c10⟩
  have pl : tok_placeOf 0 sb = some ((P 0 : Int), sb) := cPo h hsb (p := 0) (by have := h.2.1; omega)
  have e2 : prg_begin 0 (P 0 : Int) sb = some (0, up (up (up (up (up sb 14 7 0) 14 8 0) 14 10 0) 14 11 (P 0 : Int)) 14 12 (-1)) := by
    unfold prg_begin
    rw [gd_pos (Or.inl rfl), lt_eq, lt_eq, lt_eq, lt_eq, lt_eq]
  have fc : ∀ c k, c ≠ 14 → up (up (up (up (up sb 14 7 0) 14 8 0) 14 10 0) 14 11 (P 0 : Int)) 14 12 (-1) c k = sb c k := fun c k z => by rw [up_ne (by omega), up_ne (by omega), up_ne (by omega), up_ne (by omega), up_ne (by omega)]
  have x7 : up (up (up (up (up sb 14 7 0) 14 8 0) 14 10 0) 14 11 (P 0 : Int)) 14 12 (-1) 14 7 = 0 := by rw [up_ne (by omega), up_ne (by omega), up_ne (by omega), up_ne (by omega), up_same]
  refine ⟨up (up (up (up (up sb 14 7 0) 14 8 0) 14 10 0) 14 11 (P 0 : Int)) 14 12 (-1), by rw [e0, e1, bq, pl, bq, e2, bq], ?_, ?_, ?_, ?_, ?_⟩
  · generalize up (up (up (up (up sb 14 7 0) 14 8 0) 14 10 0) 14 11 (P 0 : Int)) 14 12 (-1) = s8 at *
    have sy : SYZ s8 := SYZ_of l1 (fun c k q => by rw [fc c k (by omega), fs c k (by omega) (by omega) (by omega) (by omega) (by omega) (by omega)])
    refine ⟨⟨⟨?_, ⟨?_, sy⟩, ⟨Nat.zero_le _, Nat.zero_le _⟩, ?_, ?_, ?_, fun q => absurd rfl q, fun q => by omega, fun q => absurd rfl q, ?_⟩, ?_⟩, ?_, x7, ?_⟩
    · unfold SBo
      rw [fc 33 2 (by omega), fc 24 2 (by omega), fc 27 2 (by omega), fc 23 15 (by omega), w24, w27, fs 33 2 (by omega) (by omega) (by omega) (by omega) (by omega) (by omega), fs 23 15 (by omega) (by omega) (by omega) (by omega) (by omega) (by omega)]
      omega
    · unfold TD
      rw [fc 23 11 (by omega), fc 23 12 (by omega), fc 40 4 (by omega), w11, w12, fs 40 4 (by omega) (by omega) (by omega) (by omega) (by omega) (by omega)]
      omega
    · rw [fc 23 11 (by omega), w11]; rfl
    · rw [fc 23 12 (by omega), w12]; rfl
    · rw [fc 40 3 (by omega), w3]; rfl
    · exact ⟨fun r hr => by simp at hr, by decide, fun x => by simp [nwF], fun x => by simp [nwP], fun x => by simp [nwV], fun r hr => by simp at hr⟩
    · refine ⟨⟨by rw [fc 24 2 (by omega), w24]; rfl, fun i hi => sy.1 i hi⟩, ⟨by rw [fc 27 2 (by omega), w27]; rfl, fun i hi => sy.2.1 i hi⟩, fun j hj => by simp at hj, fun u hu => by simp at hu, fun k hk => ?_, fun u hu => by simp at hu, fun q => by omega⟩
      have e : k = 0 := by simpa using hk
      rw [e]
      exact sy.2.2.1 8 (by omega)
    · rw [fc 22 4 (by omega), fb 22 4 (by omega) (by omega) (by omega) (by omega)]; exact v4
    · rw [fc 2 13 (by omega), fb 2 13 (by omega) (by omega) (by omega) (by omega)]; exact v13
  · obtain ⟨c1, c2, c3, c4, c5, c6, c7, c8, c9, c10⟩ := hsb
    exact ⟨(funext fun k => fc 1 k (by omega)).trans c1, (funext fun k => fc 9 k (by omega)).trans c2, (funext fun k => fc 10 k (by omega)).trans c3, (funext fun k => fc 11 k (by omega)).trans c4, (funext fun k => fc 12 k (by omega)).trans c5, (funext fun k => fc 13 k (by omega)).trans c6, (fc 2 8 (by omega)).trans c7, (fc 2 9 (by omega)).trans c8, (funext fun k => fc 42 k (by omega)).trans c9, (funext fun k => fc 43 k (by omega)).trans c10⟩
  · rw [fc 2 12 (by omega), fb 2 12 (by omega) (by omega) (by omega) (by omega)]; exact v12
  · rw [fc 22 5 (by omega), fb 22 5 (by omega) (by omega) (by omega) (by omega)]; exact v5
  · rw [fc 22 6 (by omega), fb 22 6 (by omega) (by omega) (by omega) (by omega)]; exact v6
/-- the second reading begins -/
theorem rt1 (h : TKR 0 F n N P s0 t0) (hs : SC s0 s) (hX : X1 F P s0 t0 N g K U W s) (hg : g = 0 ∨ g = 3) (hW : W.length ≤ 1000) : ∃ s8, trl_readText 1 s = trl_readText_48 1 0 s8 ∧ T2 F P s0 t0 N K U W 3 [] [] [] [] [] s8 ∧ SC s0 s8 ∧ s8 2 12 = 0 ∧ s8 22 5 = 0 ∧ s8 22 6 = 0 := by
  obtain ⟨⟨a1, ⟨a2, a2'⟩, a3, a4, a5, a6, a7, a8, a9, a10⟩, x1, x2, x3, x4, x5, x6, x7⟩ := hX
  have e0 : trl_readText 1 s = bd (scp_beginText 1 (up (up (up (up (up (up s 22 4 1) 22 5 0) 22 6 0) 2 12 0) 2 13 0) 2 14 (-1))) (fun _ s6 => bd (tok_placeOf 0 s6) (fun r7 s7 => bd (prg_begin 1 r7 s7) (fun _ s8 => trl_readText_48 1 0 s8))) := by
    unfold trl_readText tok_rewind
    rw [gd_pos (Or.inr rfl), lt_eq, lt_eq, lt_eq, lt_eq, lt_eq, lt_eq, bq]
  have fa : ∀ c k, ¬ (c = 22 ∧ (k = 4 ∨ k = 5 ∨ k = 6)) → ¬ (c = 2 ∧ (k = 12 ∨ k = 13 ∨ k = 14)) → up (up (up (up (up (up s 22 4 1) 22 5 0) 22 6 0) 2 12 0) 2 13 0) 2 14 (-1) c k = s c k := fun c k z1 z2 => by rw [up_ne (by omega), up_ne (by omega), up_ne (by omega), up_ne (by omega), up_ne (by omega), up_ne (by omega)]
  have v4 : up (up (up (up (up (up s 22 4 1) 22 5 0) 22 6 0) 2 12 0) 2 13 0) 2 14 (-1) 22 4 = 1 := by rw [up_ne (by omega), up_ne (by omega), up_ne (by omega), up_ne (by omega), up_ne (by omega), up_same]
  have v5 : up (up (up (up (up (up s 22 4 1) 22 5 0) 22 6 0) 2 12 0) 2 13 0) 2 14 (-1) 22 5 = 0 := by rw [up_ne (by omega), up_ne (by omega), up_ne (by omega), up_ne (by omega), up_same]
  have v6 : up (up (up (up (up (up s 22 4 1) 22 5 0) 22 6 0) 2 12 0) 2 13 0) 2 14 (-1) 22 6 = 0 := by rw [up_ne (by omega), up_ne (by omega), up_ne (by omega), up_same]
  have v12 : up (up (up (up (up (up s 22 4 1) 22 5 0) 22 6 0) 2 12 0) 2 13 0) 2 14 (-1) 2 12 = 0 := by rw [up_ne (by omega), up_ne (by omega), up_same]
  have v13 : up (up (up (up (up (up s 22 4 1) 22 5 0) 22 6 0) 2 12 0) 2 13 0) 2 14 (-1) 2 13 = 0 := by rw [up_ne (by omega), up_same]
  have v14 : up (up (up (up (up (up s 22 4 1) 22 5 0) 22 6 0) 2 12 0) 2 13 0) 2 14 (-1) 2 14 = -1 := up_same _ _ _ _
  generalize up (up (up (up (up (up s 22 4 1) 22 5 0) 22 6 0) 2 12 0) 2 13 0) 2 14 (-1) = sa at *
  have e1 : scp_beginText 1 sa = some (0, up (up (up sa 23 11 7) 23 12 39) 40 3 0) := by
    unfold scp_beginText scp_beginText_22
    rw [gr (by omega), if_neg (by omega), lt_eq, lt_eq, lt_eq]
  have fb : ∀ c k, ¬ (c = 23 ∧ (k = 11 ∨ k = 12)) → ¬ (c = 40 ∧ k = 3) → up (up (up sa 23 11 7) 23 12 39) 40 3 0 c k = sa c k := fun c k z3 z4 => by rw [up_ne (by omega), up_ne (by omega), up_ne (by omega)]
  have w11 : up (up (up sa 23 11 7) 23 12 39) 40 3 0 23 11 = 7 := by rw [up_ne (by omega), up_ne (by omega), up_same]
  have w12 : up (up (up sa 23 11 7) 23 12 39) 40 3 0 23 12 = 39 := by rw [up_ne (by omega), up_same]
  have w3 : up (up (up sa 23 11 7) 23 12 39) 40 3 0 40 3 = 0 := up_same _ _ _ _
  generalize up (up (up sa 23 11 7) 23 12 39) 40 3 0 = sb at *
  have fs : ∀ c k, ¬ (c = 22 ∧ (k = 4 ∨ k = 5 ∨ k = 6)) → ¬ (c = 2 ∧ (k = 12 ∨ k = 13 ∨ k = 14)) → ¬ (c = 23 ∧ (k = 11 ∨ k = 12)) → ¬ (c = 40 ∧ k = 3) → sb c k = s c k := fun c k z1 z2 z5 z6 => by rw [fb c k z5 z6, fa c k z1 z2]
  have hsb : SC s0 sb := by
    obtain ⟨c1, c2, c3, c4, c5, c6, c7, c8, c9, c10⟩ := hs
    exact ⟨(funext fun k => fs 1 k (by omega) (by omega) (by omega) (by omega)).trans c1, (funext fun k => fs 9 k (by omega) (by omega) (by omega) (by omega)).trans c2, (funext fun k => fs 10 k (by omega) (by omega) (by omega) (by omega)).trans c3, (funext fun k => fs 11 k (by omega) (by omega) (by omega) (by omega)).trans c4, (funext fun k => fs 12 k (by omega) (by omega) (by omega) (by omega)).trans c5, (funext fun k => fs 13 k (by omega) (by omega) (by omega) (by omega)).trans c6, (fs 2 8 (by omega) (by omega) (by omega) (by omega)).trans c7, (fs 2 9 (by omega) (by omega) (by omega) (by omega)).trans c8, (funext fun k => fs 42 k (by omega) (by omega) (by omega) (by omega)).trans c9, (funext fun k => fs 43 k (by omega) (by omega) (by omega) (by omega)).trans c10⟩
  have pl : tok_placeOf 0 sb = some ((P 0 : Int), sb) := cPo h hsb (p := 0) (by have := h.2.1; omega)
  have e2 : prg_begin 1 (P 0 : Int) sb = some (0, up (up (up (up (up sb 14 7 1) 14 8 0) 14 10 0) 14 11 (P 0 : Int)) 14 12 (-1)) := by
    unfold prg_begin
    rw [gd_pos (Or.inr rfl), lt_eq, lt_eq, lt_eq, lt_eq, lt_eq]
  have fc : ∀ c k, c ≠ 14 → up (up (up (up (up sb 14 7 1) 14 8 0) 14 10 0) 14 11 (P 0 : Int)) 14 12 (-1) c k = sb c k := fun c k z => by rw [up_ne (by omega), up_ne (by omega), up_ne (by omega), up_ne (by omega), up_ne (by omega)]
  have y7 : up (up (up (up (up sb 14 7 1) 14 8 0) 14 10 0) 14 11 (P 0 : Int)) 14 12 (-1) 14 7 = 1 := by rw [up_ne (by omega), up_ne (by omega), up_ne (by omega), up_ne (by omega), up_same]
  have y8 : up (up (up (up (up sb 14 7 1) 14 8 0) 14 10 0) 14 11 (P 0 : Int)) 14 12 (-1) 14 8 = 0 := by rw [up_ne (by omega), up_ne (by omega), up_ne (by omega), up_same]
  have y12 : up (up (up (up (up sb 14 7 1) 14 8 0) 14 10 0) 14 11 (P 0 : Int)) 14 12 (-1) 14 12 = -1 := up_same _ _ _ _
  refine ⟨up (up (up (up (up sb 14 7 1) 14 8 0) 14 10 0) 14 11 (P 0 : Int)) 14 12 (-1), by rw [e0, e1, bq, pl, bq, e2, bq], ?_, ?_, ?_, ?_, ?_⟩
  · generalize up (up (up (up (up sb 14 7 1) 14 8 0) 14 10 0) 14 11 (P 0 : Int)) 14 12 (-1) = s8 at *
    have fg : ∀ c k, 23 ≤ c ∧ c ≤ 40 → ¬ (c = 23 ∧ (k = 11 ∨ k = 12)) → ¬ (c = 40 ∧ k = 3) → s8 c k = s c k := fun c k q z1 z2 => by rw [fc c k (by omega), fs c k (by omega) (by omega) z1 z2]
    have sy : SYZ s8 := SYZ_of a2' (fun c k q => fg c k (by omega) (by omega) (by omega))
    have r31 : ∀ u, u < 40 + U.length → s8 31 u = paF W u ∧ s8 32 u = roT U u ∧ -1000 ≤ paF W u ∧ paF W u ≤ 1000 := by
      intro u hu
      unfold paF roT
      by_cases c : u < 40
      · rw [if_pos c, if_pos c]
        obtain ⟨q1, q2⟩ := sy.2.2.2 u c
        have : ∀ i : Fin 40, -1000 ≤ sysPA.getD i.val 0 ∧ sysPA.getD i.val 0 ≤ 1000 := by decide
        have := this ⟨u, c⟩
        exact ⟨q1, q2, this.1, this.2⟩
      · obtain ⟨v, rfl⟩ : ∃ v, u = 40 + v := ⟨u - 40, by omega⟩
        obtain ⟨q1, q2⟩ := x6 v (by omega)
        have q3 := q2 (by omega)
        have q4 : nwP (v : Int) W ≤ W.length := by unfold nwP; exact List.countP_le_length
        rw [if_neg c, if_neg c, show 40 + v - 40 = v by omega, fg 31 _ (by omega) (by omega) (by omega), fg 32 _ (by omega) (by omega) (by omega)]
        exact ⟨q3, q1, by omega, by omega⟩
    have r30 : ∀ k, k ≤ 8 + K.length → s8 30 k = fsT K U k := by
      intro k hk
      unfold fsT
      rw [if_neg (by omega)]
      by_cases c : k < 9
      · rw [if_pos c]; exact sy.2.2.1 k c
      · obtain ⟨v, rfl⟩ : ∃ v, k = 8 + v := ⟨k - 8, by omega⟩
        rw [if_neg c, show 8 + v - 8 = v by omega, fg 30 _ (by omega) (by omega) (by omega)]
        exact x5 v (by omega)
    refine ⟨paF W, [], [], -1, ⟨⟨SBo_of a1 (fun c k q => fg c k (by omega) (by omega) (by omega)), ⟨?_, sy⟩, ⟨Nat.zero_le _, Nat.zero_le _⟩, ?_, ?_, ?_, fun q => absurd rfl q, fun q => by omega, fun q => absurd rfl q, ⟨fun r hr => by simp at hr, by decide, fun x => by simp [nwF], fun x => by simp [nwP], fun x => by simp [nwV], fun r hr => by simp at hr⟩⟩, ?_, ⟨TBo (fg 24 2 (by omega) (by omega) (by omega)) (funext fun k => fg 25 k (by omega) (by omega) (by omega)) (funext fun k => fg 26 k (by omega) (by omega) (by omega)) x1, TBo (fg 27 2 (by omega) (by omega) (by omega)) (funext fun k => fg 28 k (by omega) (by omega) (by omega)) (funext fun k => fg 29 k (by omega) (by omega) (by omega)) x2, r30, r31, x3, x4, a3.1, a3.2⟩, fun q => absurd rfl q, fun _ q => absurd rfl q, Or.inl ⟨rfl, ?_, ?_⟩, ⟨y7, by rw [y8]; rfl, fun i hi => by simp at hi, fun i hi => by simp at hi, fun x hx => by simp at hx, fun _ => ⟨y12, fun i hi => by simp at hi⟩⟩, fun _ => rfl, fun q => by omega⟩, fun _ => ⟨fun _ _ => rfl, fun k => ?_, rfl, fun u hu => by simp at hu⟩⟩
    · unfold TD at a2 ⊢
      rw [fc 23 11 (by omega), fc 23 12 (by omega), w11, w12, fg 40 4 (by omega) (by omega) (by omega)]
      omega
    · rw [fc 23 11 (by omega), w11]; rfl
    · rw [fc 23 12 (by omega), w12]; rfl
    · rw [fc 40 3 (by omega), w3]; rfl
    · rw [fc 22 4 (by omega), fb 22 4 (by omega) (by omega)]; exact v4
    · rw [fc 2 13 (by omega), fb 2 13 (by omega) (by omega)]; exact v13
    · rw [fc 2 14 (by omega), fb 2 14 (by omega) (by omega)]; exact v14
    · unfold ntT rgM
      simp
  · obtain ⟨c1, c2, c3, c4, c5, c6, c7, c8, c9, c10⟩ := hsb
    exact ⟨(funext fun k => fc 1 k (by omega)).trans c1, (funext fun k => fc 9 k (by omega)).trans c2, (funext fun k => fc 10 k (by omega)).trans c3, (funext fun k => fc 11 k (by omega)).trans c4, (funext fun k => fc 12 k (by omega)).trans c5, (funext fun k => fc 13 k (by omega)).trans c6, (fc 2 8 (by omega)).trans c7, (fc 2 9 (by omega)).trans c8, (funext fun k => fc 42 k (by omega)).trans c9, (funext fun k => fc 43 k (by omega)).trans c10⟩
  · rw [fc 2 12 (by omega), fb 2 12 (by omega) (by omega)]; exact v12
  · rw [fc 22 5 (by omega), fb 22 5 (by omega) (by omega)]; exact v5
  · rw [fc 22 6 (by omega), fb 22 6 (by omega) (by omega)]; exact v6
end RDa
