/-! one more variable, with its rows; a class begins; a sub begins -/
section NMe
variable {s : iS}
/-- the number that a new variable gets -/
def avN (s : iS) (v : Int) (m : Nat) : Int := if v = 3 then (m : Int) - s 23 14 else if v = 1 ∧ s 23 13 = 259 then (m : Int) + 1 else (m : Int)
theorem avG {v r : Int} {k m : Nat} (hv : v = 1 ∨ v = 2 ∨ v = 3 ∨ v = 4) (hk : s 33 2 = ((k + 1 : Nat) : Int)) (hk2 : k < 48) (hm : s 40 v.toNat = (m : Int)) (h13 : v = 1 → -2147483648 ≤ s 23 13 ∧ s 23 13 ≤ 2147483647) : ∃ s', scp_addVariable v r s = some (0, s') ∧ (∀ c i, ¬ (36 ≤ c ∧ c ≤ 39 ∧ i = k) → ¬ (c = 40 ∧ i = v.toNat) → ¬ (c = 23 ∧ i = 15 ∧ (v = 3 ∨ v = 4)) → s' c i = s c i) ∧ s' 40 v.toNat = (m : Int) + 1 ∧ (v = 3 ∨ v = 4 → s' 23 15 = s 33 2) ∧ s' 36 k = r ∧ s' 37 k = v ∧ s' 39 k = (m : Int) ∧ s' 38 k = avN s v m := by
  have e1 : s 33 2 - 1 = (k : Int) := by omega
  have fin : ∀ u2 : iS, (∀ c i, ¬ (c = 38 ∧ i = k) → u2 c i = up (up (up s 36 k r) 37 k v) 39 k (m : Int) c i) → u2 38 k = avN s v m → ∃ s', scp_addVariable_93 v (m : Int) u2 = some (0, s') ∧ (∀ c i, ¬ (36 ≤ c ∧ c ≤ 39 ∧ i = k) → ¬ (c = 40 ∧ i = v.toNat) → ¬ (c = 23 ∧ i = 15 ∧ (v = 3 ∨ v = 4)) → s' c i = s c i) ∧ s' 40 v.toNat = (m : Int) + 1 ∧ (v = 3 ∨ v = 4 → s' 23 15 = s 33 2) ∧ s' 36 k = r ∧ s' 37 k = v ∧ s' 39 k = (m : Int) ∧ s' 38 k = avN s v m := by
    intro u2 h2 h3
    obtain ⟨s', a1, a2, a3, a4⟩ := av93 (s := u2) (v4 := (m : Int)) hv
    refine ⟨s', a1, fun c i z1 z2 z3 => ?_, a3, fun q => ?_, ?_, ?_, ?_, ?_⟩
    · rw [a2 c i z2 z3, h2 c i (by omega), up_ne (by omega), up_ne (by omega), up_ne (by omega)]
    · rw [a4 q, h2 33 2 (by omega), up_ne (by omega), up_ne (by omega), up_ne (by omega)]
    · rw [a2 36 k (by omega) (by omega), h2 36 k (by omega), up_ne (by omega), up_ne (by omega), up_same]
    · rw [a2 37 k (by omega) (by omega), h2 37 k (by omega), up_ne (by omega), up_same]
    · rw [a2 39 k (by omega) (by omega), h2 39 k (by omega), up_same]
    · rw [a2 38 k (by omega) (by omega), h3]
  have H : ∀ (t0 : Int), (v = 3 → t0 = (m : Int) - s 23 14) → (v ≠ 3 → t0 = (m : Int)) → ∃ s', scp_addVariable_67 v (k : Int) (m : Int) t0 (k : Int) (up (up (up s 36 k r) 37 k v) 39 k (m : Int)) = some (0, s') ∧ (∀ c i, ¬ (36 ≤ c ∧ c ≤ 39 ∧ i = k) → ¬ (c = 40 ∧ i = v.toNat) → ¬ (c = 23 ∧ i = 15 ∧ (v = 3 ∨ v = 4)) → s' c i = s c i) ∧ s' 40 v.toNat = (m : Int) + 1 ∧ (v = 3 ∨ v = 4 → s' 23 15 = s 33 2) ∧ s' 36 k = r ∧ s' 37 k = v ∧ s' 39 k = (m : Int) ∧ s' 38 k = avN s v m := by
    intro t0 t1 t2
    unfold scp_addVariable_67
    rw [gd_pos (by omega), lt_eq, Int.toNat_natCast, gr (by omega)]
    have q13 : up (up (up (up s 36 k r) 37 k v) 39 k (m : Int)) 38 k t0 23 13 = s 23 13 := by rw [up_ne (by omega), up_ne (by omega), up_ne (by omega), up_ne (by omega)]
    by_cases c1 : v = 1
    · rw [if_pos c1, q13, gr (h13 c1)]
      by_cases c2 : s 23 13 = 259
      · rw [if_pos c2, gd_pos (by omega), lt_eq]
        refine fin _ (fun c i z => by rw [up_ne (by omega), up_ne (by omega)]) ?_
        rw [up_same]
        unfold avN
        rw [if_neg (by omega), if_pos ⟨c1, c2⟩]
      · rw [if_neg c2]
        refine fin _ (fun c i z => by rw [up_ne (by omega)]) ?_
        rw [up_same, t2 (by omega)]
        unfold avN
        rw [if_neg (by omega), if_neg (fun z => c2 z.2)]
    · rw [if_neg c1]
      refine fin _ (fun c i z => by rw [up_ne (by omega)]) ?_
      rw [up_same]
      unfold avN
      by_cases c3 : v = 3
      · rw [if_pos c3, t1 c3]
      · rw [if_neg c3, if_neg (fun z => c1 z.1), t2 c3]
  unfold scp_addVariable
  rw [e1, gr (by omega), if_pos (by omega), gd_pos (by omega), gd_pos (by omega), Int.toNat_natCast, lt_eq, lt_eq, lt_eq, gr (by omega), hm]
  have q14 : up (up (up s 36 k r) 37 k v) 39 k (m : Int) 23 14 = s 23 14 := by rw [up_ne (by omega), up_ne (by omega), up_ne (by omega)]
  by_cases c3 : v = 3
  · rw [if_pos c3, q14]
    exact H _ (fun _ => rfl) (fun z => absurd c3 z)
  · rw [if_neg c3]
    exact H _ (fun z => absurd z c3) (fun _ => rfl)
end NMe
section TXf
variable {F : Nat → Int} {n N : Nat} {P : Nat → Nat} {s0 t0 s s' : iS} {g j : Nat} {K : List Nat} {U : List urec} {W : List wrec} {v r y : Int}
theorem TB_nil {c a b : Nat} (h : s c 2 = 0) : TB c a b [] s := ⟨by rw [h]; rfl, fun i hi => by simp at hi⟩
/-- a class begins -/
theorem b_cls (hb : TXB F P s0 t0 N g K U W s) (hK : K.length < 12) : ∃ s1, scp_beginClass s = some (0, s1) ∧ TXB F P s0 t0 N 0 (K ++ [j]) U W s1 ∧ (∀ c k, ¬ (c = 23 ∧ (k = 11 ∨ k = 14 ∨ k = 15)) → ¬ (c = 40 ∧ k = 4) → ¬ (c = 33 ∧ k = 2) → s1 c k = s c k) ∧ s1 23 14 = s 40 3 := by
  obtain ⟨a1, ⟨a2, a2'⟩, a3, a4, a5, a6, a7, a8, a9, a10⟩ := hb
  obtain ⟨m, hm⟩ : ∃ m : Nat, s 33 2 = (m : Int) := ⟨(s 33 2).toNat, by have := a1.1; omega⟩
  have hm2 : m < 1000000 := by have := a1.1; omega
  have fr : ∀ c k, ¬ (c = 23 ∧ (k = 11 ∨ k = 14 ∨ k = 15)) → ¬ (c = 40 ∧ k = 4) → ¬ (c = 33 ∧ k = 2) → up (up (up (up (up s 23 11 (s 23 11 + 1)) 40 4 0) 23 14 (s 40 3)) 23 15 0) 33 2 0 c k = s c k := fun c k z1 z2 z3 => by rw [up_ne (by omega), up_ne (by omega), up_ne (by omega), up_ne (by omega), up_ne (by omega)]
  have e11 : up (up (up (up (up s 23 11 (s 23 11 + 1)) 40 4 0) 23 14 (s 40 3)) 23 15 0) 33 2 0 23 11 = s 23 11 + 1 := by rw [up_ne (by omega), up_ne (by omega), up_ne (by omega), up_ne (by omega), up_same]
  have e4 : up (up (up (up (up s 23 11 (s 23 11 + 1)) 40 4 0) 23 14 (s 40 3)) 23 15 0) 33 2 0 40 4 = 0 := by rw [up_ne (by omega), up_ne (by omega), up_ne (by omega), up_same]
  have e14 : up (up (up (up (up s 23 11 (s 23 11 + 1)) 40 4 0) 23 14 (s 40 3)) 23 15 0) 33 2 0 23 14 = s 40 3 := by rw [up_ne (by omega), up_ne (by omega), up_same]
  have e15 : up (up (up (up (up s 23 11 (s 23 11 + 1)) 40 4 0) 23 14 (s 40 3)) 23 15 0) 33 2 0 23 15 = 0 := by rw [up_ne (by omega), up_same]
  have e33 : up (up (up (up (up s 23 11 (s 23 11 + 1)) 40 4 0) 23 14 (s 40 3)) 23 15 0) 33 2 0 33 2 = 0 := up_same _ _ _ _
  refine ⟨_, sbC hm hm2, ?_, fr, e14⟩
  generalize up (up (up (up (up s 23 11 (s 23 11 + 1)) 40 4 0) 23 14 (s 40 3)) 23 15 0) 33 2 0 = s1 at *
  have w0 : wlG 0 (K ++ [j]) U W = [] := by unfold wlG; rw [wlC_new a10]; rfl
  have f0 := nwF_new (j := j) a10
  refine ⟨?_, ⟨?_, SYZ_of a2' (fun c k q => fr c k (by omega) (by omega) (by omega))⟩, ⟨by simp; omega, a3.2⟩, ?_, ?_, ?_, fun _ => ⟨?_, ?_⟩, fun q => by omega, fun _ => by simp, ?_⟩
  · unfold SBo at a1 ⊢
    rw [e33, e15, fr 24 2 (by omega) (by omega) (by omega), fr 27 2 (by omega) (by omega) (by omega)]
    omega
  · unfold TD at a2 ⊢
    rw [e11, e4, fr 23 12 (by omega) (by omega) (by omega)]
    omega
  · rw [e11, a4, List.length_append, List.length_singleton]
    omega
  · rw [fr 23 12 (by omega) (by omega) (by omega)]; exact a5
  · rw [fr 40 3 (by omega) (by omega) (by omega)]; exact a6
  · rw [e4, f0]; rfl
  · rw [w0, wlC_new a10]
    exact ⟨TB_nil e33, fun w hw => by simp [vNs] at hw, by simp [vNs], by rw [e15]; rfl, by simp⟩
  · obtain ⟨b1, b2, b3, b4, b5⟩ := a10
    refine ⟨fun r hr => ?_, b2, b3, b4, b5⟩
    obtain ⟨c1, c2⟩ := b1 r hr
    exact ⟨by rw [List.length_append, List.length_singleton]; omega, c2⟩
/-- a sub begins -/
theorem b_sub {u : urec} {so : Int} (hb : TXB F P s0 t0 N g K U W s) (hg : g = 0 ∨ g = 3) (hK : K ≠ []) (hU : U.length < 60) : ∃ s1, scp_beginSub (256 + so) s = some (0, s1) ∧ TXB F P s0 t0 N 1 K (U ++ [u]) W s1 ∧ (∀ c k, ¬ (c = 23 ∧ (k = 12 ∨ k = 13)) → ¬ (c = 40 ∧ (k = 1 ∨ k = 2)) → ¬ (c = 33 ∧ k = 2) → s1 c k = s c k) ∧ s1 23 13 = 256 + so := by
  obtain ⟨a1, ⟨a2, a2'⟩, a3, a4, a5, a6, a7, a8, a9, a10⟩ := hb
  obtain ⟨v1, v2, v3, v4, v5⟩ := (a7 hK).2
  have v1' := v1.1
  have hl : (vNs F P t0 (wlG g K U W)).length < 1000000 := by omega
  have fr : ∀ c k, ¬ (c = 23 ∧ (k = 12 ∨ k = 13)) → ¬ (c = 40 ∧ (k = 1 ∨ k = 2)) → ¬ (c = 33 ∧ k = 2) → up (up (up (up (up s 23 12 (s 23 12 + 1)) 23 13 (256 + so)) 40 1 0) 40 2 0) 33 2 ((wlC K W).length : Int) c k = s c k := fun c k z1 z2 z3 => by rw [up_ne (by omega), up_ne (by omega), up_ne (by omega), up_ne (by omega), up_ne (by omega)]
  have e12 : up (up (up (up (up s 23 12 (s 23 12 + 1)) 23 13 (256 + so)) 40 1 0) 40 2 0) 33 2 ((wlC K W).length : Int) 23 12 = s 23 12 + 1 := by rw [up_ne (by omega), up_ne (by omega), up_ne (by omega), up_ne (by omega), up_same]
  have e13 : up (up (up (up (up s 23 12 (s 23 12 + 1)) 23 13 (256 + so)) 40 1 0) 40 2 0) 33 2 ((wlC K W).length : Int) 23 13 = 256 + so := by rw [up_ne (by omega), up_ne (by omega), up_ne (by omega), up_same]
  have e1 : up (up (up (up (up s 23 12 (s 23 12 + 1)) 23 13 (256 + so)) 40 1 0) 40 2 0) 33 2 ((wlC K W).length : Int) 40 1 = 0 := by rw [up_ne (by omega), up_ne (by omega), up_same]
  have e2 : up (up (up (up (up s 23 12 (s 23 12 + 1)) 23 13 (256 + so)) 40 1 0) 40 2 0) 33 2 ((wlC K W).length : Int) 40 2 = 0 := by rw [up_ne (by omega), up_same]
  have e33 : up (up (up (up (up s 23 12 (s 23 12 + 1)) 23 13 (256 + so)) 40 1 0) 40 2 0) 33 2 ((wlC K W).length : Int) 33 2 = ((wlC K W).length : Int) := up_same _ _ _ _
  refine ⟨_, sbS v1' hl v4 v5, ?_, fr, e13⟩
  generalize up (up (up (up (up s 23 12 (s 23 12 + 1)) 23 13 (256 + so)) 40 1 0) 40 2 0) 33 2 ((wlC K W).length : Int) = s1 at *
  have w1 : wlG 1 K (U ++ [u]) W = wlC K W := by unfold wlG; rw [wlU_new a10]; simp
  have hK1 : 0 < K.length := List.length_pos_iff.mpr hK
  have p0 := nwPV_new (u := u) a10
  have hle : (wlC K W).length ≤ (wlG g K U W).length := by unfold wlG; rw [List.length_append]; omega
  have hle' : (vNs F P t0 (wlC K W)).length = (wlC K W).length := by simp [vNs]
  have hle2 : (vNs F P t0 (wlG g K U W)).length = (wlG g K U W).length := by simp [vNs]
  have gdv : ∀ i, i < (wlC K W).length → (vNs F P t0 (wlC K W)).getD i [] = (vNs F P t0 (wlG g K U W)).getD i [] := fun i hi => by
    have : vNs F P t0 (wlG g K U W) = vNs F P t0 (wlC K W) ++ vNs F P t0 (if g = 0 then [] else wlU U W) := by unfold wlG vNs; rw [List.map_append]
    rw [this, List.getD_eq_getElem?_getD, List.getD_eq_getElem?_getD, List.getElem?_append_left (by omega)]
  refine ⟨?_, ⟨?_, SYZ_of a2' (fun c k q => fr c k (by omega) (by omega) (by omega))⟩, ⟨a3.1, by simp; omega⟩, ?_, ?_, ?_, fun _ => ⟨?_, ?_⟩, fun q => ⟨by simp, ?_, ?_⟩, fun _ => hK, ?_⟩
  · unfold SBo at a1 ⊢
    rw [e33, fr 24 2 (by omega) (by omega) (by omega), fr 27 2 (by omega) (by omega) (by omega), fr 23 15 (by omega) (by omega) (by omega)]
    omega
  · unfold TD at a2 ⊢
    rw [e12, fr 23 11 (by omega) (by omega) (by omega), fr 40 4 (by omega) (by omega) (by omega)]
    omega
  · rw [fr 23 11 (by omega) (by omega) (by omega)]; exact a4
  · rw [e12, a5, List.length_append, List.length_singleton]
    omega
  · rw [fr 40 3 (by omega) (by omega) (by omega)]; exact a6
  · rw [fr 40 4 (by omega) (by omega) (by omega)]; exact (a7 hK).1
  · rw [w1]
    refine ⟨⟨by rw [e33, hle'], fun i hi => ?_⟩, fun w hw => v2 w ?_, by omega, by rw [fr 23 15 (by omega) (by omega) (by omega)]; exact v4, by omega⟩
    · rw [hle'] at hi
      rw [fr 34 i (by omega) (by omega) (by omega), fr 35 i (by omega) (by omega) (by omega), gdv i hi]
      exact v1.2 i (by omega)
    · unfold wlG vNs at *
      rw [List.map_append]
      exact List.mem_append.mpr (Or.inl hw)
  · rw [e1, p0.1]; rfl
  · rw [e2, p0.2]; rfl
  · obtain ⟨b1, b2, b3, b4, b5⟩ := a10
    refine ⟨fun r hr => ?_, b2, b3, b4, b5⟩
    obtain ⟨c1, c2, c3⟩ := b1 r hr
    exact ⟨c1, by rw [List.length_append, List.length_singleton]; omega, c3⟩
/-- one more variable -/
theorem b_decl (h : TKR 0 F n N P s0 t0) (hs : SC s0 s) (hj : j < N) (hk : s0 9 j = 3) (hp : s 2 12 = (j : Int)) (hb : TXB F P s0 t0 N g K U W s) (hv : g = 0 ∧ (v = 3 ∨ v = 4) ∨ g = 1 ∧ v = 1 ∨ g = 2 ∧ v = 2) (hn : nwW v K U W < 12) (h13 : v = 1 → -2147483648 ≤ s 23 13 ∧ s 23 13 ≤ 2147483647) : ∃ s1, trl_declare_103 v r s = some (0, up s1 2 12 ((j + 1 : Nat) : Int)) ∧ TXB F P s0 t0 N g K U (W ++ [wNew v K U W y j]) s1 ∧ (∀ c k, ¬ (33 ≤ c ∧ c ≤ 40) → ¬ (c = 23 ∧ k = 15) → s1 c k = s c k) ∧ (∀ c k, 36 ≤ c → c ≤ 39 → k ≠ (wlG g K U W).length → s1 c k = s c k) ∧ s1 36 (wlG g K U W).length = r ∧ s1 37 (wlG g K U W).length = v ∧ s1 39 (wlG g K U W).length = (nwW v K U W : Int) ∧ s1 38 (wlG g K U W).length = avN s v (nwW v K U W) ∧ wlG g K U (W ++ [wNew v K U W y j]) = wlG g K U W ++ [wNew v K U W y j] := by
  obtain ⟨a1, ⟨a2, a2'⟩, a3, a4, a5, a6, a7, a8, a9, a10⟩ := hb
  have hK : K ≠ [] := a9 (by omega)
  have hK1 : 0 < K.length := List.length_pos_iff.mpr hK
  have hU : g = 1 ∨ g = 2 → U ≠ [] := fun q => (a8 q).1
  have hU1 : g = 1 ∨ g = 2 → 0 < U.length := fun q => List.length_pos_iff.mpr (hU q)
  obtain ⟨v1, v2, v3, v4, v5⟩ := (a7 hK).2
  have hvl : (vNs F P t0 (wlG g K U W)).length = (wlG g K U W).length := by simp [vNs]
  have a10' := a10
  obtain ⟨b1, b2, b3', b4', b5', b6'⟩ := a10
  have b3 := b3' ((K.length : Int) - 1)
  have b4 := b4' ((U.length : Int) - 1)
  have b5 := b5' ((U.length : Int) - 1)
  have l1 := wlC_len a10'
  have hv4 : v = 1 ∨ v = 2 ∨ v = 3 ∨ v = 4 := by omega
  have hnv : s 40 v.toNat = (nwW v K U W : Int) := by
    unfold nwW
    rcases hv with ⟨q, c | c⟩ | ⟨q, c⟩ | ⟨q, c⟩
    · rw [if_neg (by omega), if_neg (by omega), if_pos c, c]; exact a6
    · rw [if_neg (by omega), if_neg (by omega), if_neg (by omega), c]; exact (a7 hK).1
    · rw [if_pos c, c]; exact (a8 (Or.inl q)).2.1
    · rw [if_neg (by omega), if_pos c, c]; exact (a8 (Or.inr q)).2.2
  have W3 : v = 3 → nwW v K U W = nwS W := fun c => by unfold nwW; rw [if_neg (by omega), if_neg (by omega), if_pos c]
  have W4 : v = 4 → nwW v K U W = nwF ((K.length : Int) - 1) W := fun c => by unfold nwW; rw [if_neg (by omega), if_neg (by omega), if_neg (by omega)]
  have W1 : v = 1 → nwW v K U W = nwP ((U.length : Int) - 1) W := fun c => by unfold nwW; rw [if_pos c]
  have W2 : v = 2 → nwW v K U W = nwV ((U.length : Int) - 1) W := fun c => by unfold nwW; rw [if_neg (by omega), if_pos c]
  have len : (wlG g K U W).length < 48 := by
    unfold wlG
    rw [List.length_append]
    rcases hv with ⟨q, c⟩ | ⟨q, c⟩ | ⟨q, c⟩
    · rw [if_pos q, List.length_nil]
      omega
    · have l2 := wlU_len a10' (hU (Or.inl q))
      have := W1 c
      rw [if_neg (by omega)]
      omega
    · have l2 := wlU_len a10' (hU (Or.inr q))
      have := W2 c
      rw [if_neg (by omega)]
      omega
  obtain ⟨d1, d2⟩ := cAd (M := 48) h hs hj hk v1 (by omega) (by omega) ⟨by omega, by omega, by omega⟩
  rw [hvl] at d1 d2
  have f1 : ∀ c k, ¬ (33 ≤ c ∧ c ≤ 35) → nmad s 33 34 35 (wlG g K U W).length (nmT F P t0 j) c k = s c k := fun c k z => nmad_ne (by omega) (by omega) (by omega)
  have e33 : nmad s 33 34 35 (wlG g K U W).length (nmT F P t0 j) 33 2 = (((wlG g K U W).length + 1 : Nat) : Int) := by
    have := d2.1
    rw [List.length_append, hvl] at this
    exact this
  generalize nmad s 33 34 35 (wlG g K U W).length (nmT F P t0 j) = sa at *
  obtain ⟨s1, g1, g2, g3, g4, g5, g6, g7, g8⟩ := avG (s := sa) (v := v) (r := r) (k := (wlG g K U W).length) (m := nwW v K U W) hv4 e33 len (by rw [f1 40 _ (by omega)]; exact hnv) (fun q => by rw [f1 23 13 (by omega)]; exact h13 q)
  obtain ⟨n1, n2, n3, n4, n5⟩ := nw_add W (wNew v K U W y j)
  have cl : (wNew v K U W y j).1 = (K.length : Int) - 1 := rfl
  have nmj : (wNew v K U W y j).2.2.2.2.1 = j := rfl
  have S : v = 1 ∧ (wNew v K U W y j).2.2.1 = 2 ∧ (wNew v K U W y j).2.1 = (U.length : Int) - 1 ∨ v = 2 ∧ (wNew v K U W y j).2.2.1 = 3 ∧ (wNew v K U W y j).2.1 = (U.length : Int) - 1 ∨ v = 3 ∧ (wNew v K U W y j).2.2.1 = 0 ∧ (wNew v K U W y j).2.1 = -1 ∨ v = 4 ∧ (wNew v K U W y j).2.2.1 = 1 ∧ (wNew v K U W y j).2.1 = -1 := by
    rcases hv4 with h | h | h | h
    · exact Or.inl ⟨h, by simp [wNew, h], by simp [wNew, h]⟩
    · exact Or.inr (Or.inl ⟨h, by simp [wNew, h], by simp [wNew, h]⟩)
    · exact Or.inr (Or.inr (Or.inl ⟨h, by simp [wNew, h], by simp [wNew, h]⟩))
    · exact Or.inr (Or.inr (Or.inr ⟨h, by simp [wNew, h], by simp [wNew, h]⟩))
  have nuv : ∀ _ : Unit, v ≠ 3 → (wNew v K U W y j).2.2.2.2.2.1 = (nwW v K U W : Int) := fun _ c => by
    show (if v = 3 then (nwC ((K.length : Int) - 1) W : Int) else (nwW v K U W : Int)) = _
    rw [if_neg c]
  have nwCS : nwC ((K.length : Int) - 1) W ≤ nwS W := by
    unfold nwC nwS
    exact List.countP_mono_left (fun r _ q => by simp only [Bool.and_eq_true, beq_iff_eq] at q ⊢; exact q.1)
  have nub : (0 ≤ (wNew v K U W y j).2.2.2.2.2.1 ∧ (wNew v K U W y j).2.2.2.2.2.1 < 12) ∧ 0 ≤ (wNew v K U W y j).2.2.2.2.2.2 ∧ (wNew v K U W y j).2.2.2.2.2.2 < 12 := by
    show (0 ≤ (if v = 3 then (nwC ((K.length : Int) - 1) W : Int) else (nwW v K U W : Int)) ∧ (if v = 3 then (nwC ((K.length : Int) - 1) W : Int) else (nwW v K U W : Int)) < 12) ∧ 0 ≤ (nwW v K U W : Int) ∧ (nwW v K U W : Int) < 12
    by_cases c : v = 3
    · rw [if_pos c]
      have := W3 c
      omega
    · rw [if_neg c]
      omega
  generalize wNew v K U W y j = nr at *
  have EC : wlC K (W ++ [nr]) = if g = 0 then wlC K W ++ [nr] else wlC K W := by
    unfold wlC
    rw [List.filter_append]
    by_cases c : g = 0
    · rw [if_pos c, List.filter_cons, if_pos (by simp only [Bool.and_eq_true, beq_iff_eq]; omega), List.filter_nil]
    · have hU' := hU1 (by omega)
      rw [if_neg c, List.filter_cons, if_neg (by simp only [Bool.and_eq_true, beq_iff_eq]; omega), List.filter_nil, List.append_nil]
  have EG : wlG g K U (W ++ [nr]) = wlG g K U W ++ [nr] := by
    unfold wlG
    rw [EC]
    by_cases c : g = 0
    · rw [if_pos c, if_pos c, if_pos c, List.append_nil, List.append_nil]
    · have hU' := hU1 (by omega)
      have eu : wlU U (W ++ [nr]) = wlU U W ++ [nr] := by
        unfold wlU
        rw [List.filter_append, List.filter_cons, if_pos (by simp only [beq_iff_eq]; omega), List.filter_nil]
      rw [if_neg c, if_neg c, if_neg c, List.append_assoc, eu]
  have fr : ∀ c k, ¬ (33 ≤ c ∧ c ≤ 40) → ¬ (c = 23 ∧ k = 15) → s1 c k = s c k := fun c k z1 z2 => by rw [g2 c k (by omega) (by omega) (by omega)]; exact f1 c k (by omega)
  have u40 : ∀ k, k ≠ v.toNat → s1 40 k = s 40 k := fun k z => by rw [g2 40 k (by omega) (by omega) (by omega)]; exact f1 40 k (by omega)
  have u33 : s1 33 2 = (((wlG g K U W).length + 1 : Nat) : Int) := by rw [g2 33 2 (by omega) (by omega) (by omega)]; exact e33
  have uv : ∀ z : Nat, v.toNat = z → s1 40 z = (nwW v K U W : Int) + 1 := fun z q => by rw [← q]; exact g3
  have u15 : s1 23 15 = ((wlC K (W ++ [nr])).length : Int) := by
    rw [EC]
    by_cases c : g = 0
    · rw [if_pos c, List.length_append, List.length_singleton, g4 (by omega), e33]
      unfold wlG
      rw [if_pos c, List.append_nil]
    · rw [if_neg c, g2 23 15 (by omega) (by omega) (by omega), f1 23 15 (by omega)]
      exact v4
  refine ⟨s1, ?_, ?_, fr, fun c k q1 q2 q3 => by rw [g2 c k (by omega) (by omega) (by omega)]; exact f1 c k (by omega), g5, g6, g7, by rw [g8]; unfold avN; rw [f1 23 14 (by omega), f1 23 13 (by omega)], EG⟩
  · unfold trl_declare_103
    rw [hp, show tok_addTo 33 34 35 48 (j : Int) s = _ from d1, bq, g1, bq, lt_eq, g2 2 12 (by omega) (by omega) (by omega), f1 2 12 (by omega), hp]
    rfl
  · refine ⟨?_, ⟨?_, SYZ_of a2' (fun c k q => fr c k (by omega) (by omega))⟩, a3, ?_, ?_, ?_, fun _ => ⟨?_, ?_⟩, fun q => ⟨hU q, ?_, ?_⟩, a9, ?_⟩
    · have hcl : (wlC K (W ++ [nr])).length ≤ 48 := by
        have : (wlC K (W ++ [nr])).length ≤ (wlG g K U (W ++ [nr])).length := by unfold wlG; rw [List.length_append]; omega
        rw [EG, List.length_append, List.length_singleton] at this
        omega
      unfold SBo at a1 ⊢
      rw [u33, u15, fr 24 2 (by omega) (by omega), fr 27 2 (by omega) (by omega)]
      omega
    · unfold TD at a2 ⊢
      rw [fr 23 11 (by omega) (by omega), fr 23 12 (by omega) (by omega)]
      refine ⟨a2.1, a2.2.1, ?_⟩
      by_cases c : v = 4
      · rw [uv 4 (by omega)]
        omega
      · rw [u40 4 (by omega)]
        exact a2.2.2
    · rw [fr 23 11 (by omega) (by omega)]; exact a4
    · rw [fr 23 12 (by omega) (by omega)]; exact a5
    · rw [n1]
      by_cases c : v = 3
      · rw [uv 3 (by omega), W3 c, if_pos (by omega)]
        rfl
      · rw [u40 3 (by omega), if_neg (by omega)]
        exact a6
    · rw [n3, cl]
      by_cases c : v = 4
      · rw [uv 4 (by omega), W4 c, if_pos (by omega)]
        rfl
      · rw [u40 4 (by omega), if_neg (by omega)]
        exact (a7 hK).1
    · have ev : vNs F P t0 (wlG g K U W ++ [nr]) = vNs F P t0 (wlG g K U W) ++ [nmT F P t0 j] := by unfold vNs; rw [List.map_append, List.map_singleton, nmj]
      rw [EG, ev]
      refine ⟨TBo (g2 33 2 (by omega) (by omega) (by omega)) (funext fun k => g2 34 k (by omega) (by omega) (by omega)) (funext fun k => g2 35 k (by omega) (by omega) (by omega)) d2, fun w hw => ?_, ?_, u15, ?_⟩
      · rcases List.mem_append.mp hw with q | q
        · exact v2 w q
        · rw [List.mem_singleton.mp q]
          exact (tkN h hj hk).1
      · rw [List.length_append, List.length_singleton]
        omega
      · have : (wlC K (W ++ [nr])).length ≤ (wlG g K U (W ++ [nr])).length := by unfold wlG; rw [List.length_append]; omega
        rw [EG, List.length_append, List.length_singleton] at this
        rw [List.length_append, List.length_singleton, hvl]
        exact this
    · rw [n4]
      have hU' := hU1 q
      by_cases c : v = 1
      · rw [uv 1 (by omega), W1 c, if_pos (by omega)]
        rfl
      · rw [u40 1 (by omega), if_neg (by omega)]
        exact (a8 q).2.1
    · rw [n5]
      have hU' := hU1 q
      by_cases c : v = 2
      · rw [uv 2 (by omega), W2 c, if_pos (by omega)]
        rfl
      · rw [u40 2 (by omega), if_neg (by omega)]
        exact (a8 q).2.2
    · refine ⟨fun r' hr' => ?_, ?_, ?_, ?_, ?_, fun r' hr' => ?_⟩
      · rcases List.mem_append.mp hr' with q | q
        · exact b1 r' q
        · rw [List.mem_singleton.mp q, nmj]
          have hU' := hU1
          exact ⟨⟨by omega, by omega, nub⟩, by omega, by omega, by omega, by omega, hj, hk⟩
      · rw [n1]
        have := W3
        split <;> omega
      · intro x
        have := W4
        have q := b3' x
        unfold nwF at q ⊢
        rw [List.countP_append, List.countP_singleton]
        by_cases c : (nr.2.2.1 == 1 && nr.1 == x) = true
        · simp only [Bool.and_eq_true, beq_iff_eq] at c
          have e : x = (K.length : Int) - 1 := by omega
          subst e
          have z : nwW v K U W = nwF ((K.length : Int) - 1) W := W4 (by omega)
          unfold nwF at z
          split <;> omega
        · rw [if_neg c]
          omega
      · intro x
        have q := b4' x
        unfold nwP at q ⊢
        rw [List.countP_append, List.countP_singleton]
        by_cases c : (nr.2.2.1 == 2 && nr.2.1 == x) = true
        · simp only [Bool.and_eq_true, beq_iff_eq] at c
          have e : x = (U.length : Int) - 1 := by omega
          subst e
          have z : nwW v K U W = nwP ((U.length : Int) - 1) W := W1 (by omega)
          unfold nwP at z
          split <;> omega
        · rw [if_neg c]
          omega
      · intro x
        have q := b5' x
        unfold nwV at q ⊢
        rw [List.countP_append, List.countP_singleton]
        by_cases c : (nr.2.2.1 == 3 && nr.2.1 == x) = true
        · simp only [Bool.and_eq_true, beq_iff_eq] at c
          have e : x = (U.length : Int) - 1 := by omega
          subst e
          have z : nwW v K U W = nwV ((U.length : Int) - 1) W := W2 (by omega)
          unfold nwV at z
          split <;> omega
        · rw [if_neg c]
          omega
      · rw [n4, n5]
        rcases List.mem_append.mp hr' with q | q
        · have z := b6' r' q
          exact ⟨fun c => by have := z.1 c; split <;> omega, fun c => by have := z.2 c; split <;> omega⟩
        · rw [List.mem_singleton.mp q]
          refine ⟨fun c => ?_, fun c => ?_⟩
          · have c1 : v = 1 := by omega
            have e : nr.2.1 = (U.length : Int) - 1 := by omega
            rw [if_pos ⟨c, rfl⟩, nuv () (by omega), W1 c1, e]
            omega
          · have c1 : v = 2 := by omega
            have e : nr.2.1 = (U.length : Int) - 1 := by omega
            rw [if_pos ⟨c, rfl⟩, nuv () (by omega), W2 c1, e]
            omega
end TXf
