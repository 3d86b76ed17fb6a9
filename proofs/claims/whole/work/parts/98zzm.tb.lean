/-! the second reading of the text: types, declarations, names -/
section T2b
variable {F : Nat → Int} {n N : Nat} {P : Nat → Nat} {s0 t0 s s1 s' : iS} {g j : Nat} {Kf K : List Nat} {Uf U : List urec} {Wf W : List wrec} {Y : List Nat} {A : List (List itm)} {pa : Nat → Int} {n0 n1 : List Nat} {cs : List crec} {pm v r y : Int}
theorem fst1_no {Q : Nat → Prop} [DecidablePred Q] : ∀ k i, fst1 Q i k = -1 ↔ ∀ x, i ≤ x → x < i + k → ¬ Q x
  | 0, i => ⟨fun _ x h1 h2 => by omega, fun _ => rfl⟩
  | k + 1, i => by
    have ih := fst1_no (Q := Q) k (i + 1)
    unfold fst1
    by_cases c : Q i
    · rw [if_pos c]
      exact ⟨fun q => by omega, fun q => absurd c (q i (Nat.le_refl _) (by omega))⟩
    · rw [if_neg c, ih]
      refine ⟨fun q x h1 h2 => ?_, fun q x h1 h2 => q x (by omega) (by omega)⟩
      by_cases z : x = i
      · rw [z]; exact c
      · exact q x (by omega) (by omega)
theorem S2_of (h : S2 F P s0 t0 N Kf Uf pa n0 cs pm g K U W A s) (hf : ∀ c k, c = 2 ∧ (k = 13 ∨ k = 14) ∨ 14 ≤ c ∧ c ≤ 21 ∨ c = 22 ∧ k = 4 ∨ 23 ≤ c ∧ c ≤ 40 → s' c k = s c k) : S2 F P s0 t0 N Kf Uf pa n0 cs pm g K U W A s' := by
  obtain ⟨h1, h2, h3, h4, h5, h6, h7, h9⟩ := h
  exact ⟨TXB_of h1 (fun c k a1 a2 _ _ _ => hf c k (by omega)), by rw [hf 22 4 (by omega)]; exact h2, X2T_of h3 (fun c k q => hf c k (by omega)), fun q => ⟨X2V_of (h4 q).1 (fun c k z => hf c k (by omega)), by rw [hf 23 14 (by omega)]; exact (h4 q).2⟩, fun q1 q2 => by rw [hf 23 13 (by omega)]; exact h5 q1 q2, BLc_of h6 (hf 2 13 (by omega)) (hf 2 14 (by omega)), EMc_of h7 (fun c k q => hf c k (by omega)), h9⟩
theorem M2_of (h : M2 F P s0 t0 Kf Uf Wf pa n0 cs K U W Y A s) (hf : ∀ k, s' 20 k = s 20 k) : M2 F P s0 t0 Kf Uf Wf pa n0 cs K U W Y A s' := ⟨h.1, h.2.1, h.2.2.1, fun u h1 h2 => by rw [hf]; exact h.2.2.2 u h1 h2⟩
theorem S2_bl (h : S2 F P s0 t0 N Kf Uf pa n0 cs pm g K U W A s) (hf : ∀ c k, ¬ (c = 2 ∧ (k = 13 ∨ k = 14)) → s1 c k = s c k) (hb : BLc n1 s1) : S2 F P s0 t0 N Kf Uf pa n1 cs pm g K U W A s1 := by
  obtain ⟨h1, h2, h3, h4, h5, h6, h7, h9⟩ := h
  exact ⟨TXB_of h1 (fun c k a1 a2 _ _ _ => hf c k (by omega)), by rw [hf 22 4 (by omega)]; exact h2, X2T_of h3 (fun c k q => hf c k (by omega)), fun q => ⟨X2V_of (h4 q).1 (fun c k z => hf c k (by omega)), by rw [hf 23 14 (by omega)]; exact (h4 q).2⟩, fun q1 q2 => by rw [hf 23 13 (by omega)]; exact h5 q1 q2, hb, EMc_of h7 (fun c k q => hf c k (by omega)), h9⟩
theorem MX_bl (hs : SC s0 s) (hf : ∀ c k, ¬ (c = 2 ∧ (k = 13 ∨ k = 14)) → s1 c k = s c k) : MX s0 s s1 := ⟨MD_SC (MDn hf) hs, hf 2 12 (by omega), hf 22 5 (by omega), hf 22 6 (by omega)⟩
/-- one note, or none -/
theorem bl_if {f : Nat} {c : Prop} [Decidable c] (h : BLc n0 s) (hf : 1 ≤ f ∧ f ≤ 7) (hj : j < 2001) {G : iS → Option (Int × iS)} : ∃ s1, (if c then G s else bd (tok_blame (f : Int) (j : Int) s) (fun _ s8 => G s8)) = G s1 ∧ BLc (n0 ++ (if c then [] else [16 * j + f])) s1 ∧ (∀ c k, ¬ (c = 2 ∧ (k = 13 ∨ k = 14)) → s1 c k = s c k) := by
  by_cases q : c
  · rw [if_pos q, if_pos q, List.append_nil]
    exact ⟨s, rfl, h, fun _ _ _ => rfl⟩
  · obtain ⟨s1, b1, b2, b3⟩ := bl_add h hf hj
    rw [if_neg q, if_neg q, b1, bq]
    exact ⟨s1, rfl, b2, b3⟩
/-- a type -/
theorem t2_type (h : TKR 0 F n N P s0 t0) (hs : SC s0 s) (hj : j < N) (hk : s0 9 j = 3) (hp : s 2 12 = (j : Int)) (hT : T2 F P s0 t0 N Kf Uf Wf g K U W Y A s) : ∃ s1, (∀ G : Int → iS → Option (Int × iS), bd (trl_findClass (j : Int) s) (fun r8 s8 => gd (rg (s8 22 4)) (if (s8 22 4) = 0 then G r8 s8 else gd (rg r8) (if r8 = (-1) then bd (tok_blame 4 (s8 2 12) s8) (fun _ s13 => G r8 s13) else G r8 s8))) = G (fcK F P t0 Kf j) s1) ∧ T2 F P s0 t0 N Kf Uf Wf g K U W (Y ++ [j]) A s1 ∧ MX s0 s s1 := by
  have hN2 := N1001 h
  obtain ⟨pa, n0, cs, pm, hS, hM⟩ := hT
  obtain ⟨k1, k2, k3⟩ := fcK_ok h hs hj hk hS.2.2.1.1 hS.2.2.1.2.2.2.2.1 hS.2.2.1.2.2.2.2.2.2.1
  have hl := hS.2.2.1.2.2.2.2.2.2.1
  have E : ∀ G : Int → iS → Option (Int × iS), bd (trl_findClass (j : Int) s) (fun r8 s8 => gd (rg (s8 22 4)) (if (s8 22 4) = 0 then G r8 s8 else gd (rg r8) (if r8 = (-1) then bd (tok_blame 4 (s8 2 12) s8) (fun _ s13 => G r8 s13) else G r8 s8))) = if fcK F P t0 Kf j = -1 then bd (tok_blame 4 (j : Int) s) (fun _ s13 => G (fcK F P t0 Kf j) s13) else G (fcK F P t0 Kf j) s := fun G => by
    unfold trl_findClass
    rw [k1, bq, bq, hS.2.1, gr (by omega), if_neg (by omega), gr (by omega), hp]
  by_cases c : fcK F P t0 Kf j = -1
  · obtain ⟨s1, b1, b2, b3⟩ := bl_add (f := 4) (t := j) hS.2.2.2.2.2.1 (by omega) (by omega)
    rw [show ((4 : Nat) : Int) = 4 from rfl] at b1
    refine ⟨s1, fun G => by rw [E G, if_pos c, b1, bq], ⟨pa, _, cs, pm, S2_bl hS b3 b2, fun q => ?_⟩, MX_bl hs b3⟩
    obtain ⟨m1, m2, m3, m4⟩ := hM q
    refine ⟨m1, fun k => ?_, m3, fun u h1 h2 => by rw [b3 20 _ (by omega)]; exact m4 u h1 h2⟩
    rw [List.mem_append, m2]
    unfold ntT
    rw [List.flatMap_append, List.flatMap_singleton, List.mem_append]
    unfold gY
    rw [if_pos c]
    constructor
    · rintro ((a | a | a | a | a) | a)
      · exact Or.inl a
      · exact Or.inr (Or.inl a)
      · exact Or.inr (Or.inr (Or.inl a))
      · exact Or.inr (Or.inr (Or.inr (Or.inl (Or.inl a))))
      · exact Or.inr (Or.inr (Or.inr (Or.inr a)))
      · exact Or.inr (Or.inr (Or.inr (Or.inl (Or.inr a))))
    · rintro (a | a | a | (a | a) | a)
      · exact Or.inl (Or.inl a)
      · exact Or.inl (Or.inr (Or.inl a))
      · exact Or.inl (Or.inr (Or.inr (Or.inl a)))
      · exact Or.inl (Or.inr (Or.inr (Or.inr (Or.inl a))))
      · exact Or.inr a
      · exact Or.inl (Or.inr (Or.inr (Or.inr (Or.inr a))))
  · refine ⟨s, fun G => by rw [E G, if_neg c], ⟨pa, n0, cs, pm, hS, fun q => ?_⟩, ⟨hs, rfl, rfl, rfl⟩⟩
    obtain ⟨m1, m2, m3, m4⟩ := hM q
    refine ⟨m1, fun k => ?_, m3, m4⟩
    rw [m2]
    unfold ntT
    rw [List.flatMap_append, List.flatMap_singleton, List.mem_append]
    rw [show gY F P t0 Kf j = [] by unfold gY; rw [if_neg c]]
    simp only [List.not_mem_nil, or_false]
/-- the name of a variable that is there already -/
theorem riv_ok (h : TKR 0 F n N P s0 t0) (hs : SC s0 s) (hj : j < N) (hk : s0 9 j = 3) (hB : TXB F P s0 t0 N g K U W s) (hv : g = 0 ∧ (v = 3 ∨ v = 4) ∨ g = 1 ∧ v = 1 ∨ g = 2 ∧ v = 2) (hc : g ≠ 0 → ∀ r ∈ W, r.2.1 = (U.length : Int) - 1 → r.1 = (K.length : Int) - 1) : ∃ x z, scp_firstRival v s = some (x, s) ∧ tok_findIn 33 34 35 48 (j : Int) x 48 s = some (z, s) ∧ -1 ≤ z ∧ z < 48 ∧ (z = -1 ↔ ¬ ∃ r ∈ W, r.1 = (wNew v K U W y j).1 ∧ r.2.1 = (wNew v K U W y j).2.1 ∧ nmT F P t0 r.2.2.2.2.1 = nmT F P t0 (wNew v K U W y j).2.2.2.2.1) := by
  obtain ⟨a1, a2, a3, a4, a5, a6, a7, a8, a9, a10⟩ := hB
  have hK : K ≠ [] := a9 (by omega)
  obtain ⟨v1, v2, v3, v4, v5⟩ := (a7 hK).2
  have hvl : (vNs F P t0 (wlG g K U W)).length = (wlG g K U W).length := by simp [vNs]
  have hat : ∀ i, i < (wlG g K U W).length → (vNs F P t0 (wlG g K U W)).getD i [] = nmT F P t0 ((wlG g K U W).getD i (0, 0, 0, 0, 0, 0, 0)).2.2.2.2.1 := fun i hi => by
    unfold vNs
    rw [List.getD_eq_getElem?_getD, List.getElem?_map, List.getD_eq_getElem?_getD, List.getElem?_eq_getElem hi]
    rfl
  have nmj : (wNew v K U W y j).2.2.2.2.1 = j := rfl
  have fin : ∀ f : Nat, f ≤ (wlG g K U W).length → (∀ w, (∃ i, f ≤ i ∧ i < (wlG g K U W).length ∧ (wlG g K U W).getD i (0, 0, 0, 0, 0, 0, 0) = w) ↔ (w ∈ W ∧ w.1 = (wNew v K U W y j).1 ∧ w.2.1 = (wNew v K U W y j).2.1)) → ∃ z, tok_findIn 33 34 35 48 (j : Int) (f : Int) 48 s = some (z, s) ∧ -1 ≤ z ∧ z < 48 ∧ (z = -1 ↔ ¬ ∃ r ∈ W, r.1 = (wNew v K U W y j).1 ∧ r.2.1 = (wNew v K U W y j).2.1 ∧ nmT F P t0 r.2.2.2.2.1 = nmT F P t0 (wNew v K U W y j).2.2.2.2.1) := by
    intro f hf hw
    have e := cFi (c := 33) (a := 34) (b := 35) (M := 48) (f := f) (e := 48) h hs hj hk v1 v2 (by omega) v3 (by omega) (by omega)
    rw [show min 48 (vNs F P t0 (wlG g K U W)).length - f = (wlG g K U W).length - f by omega] at e
    have rgz := fst1_rg (P := fun i => (vNs F P t0 (wlG g K U W)).getD i [] = nmT F P t0 j) ((wlG g K U W).length - f) f
    have no := fst1_no (Q := fun i => (vNs F P t0 (wlG g K U W)).getD i [] = nmT F P t0 j) ((wlG g K U W).length - f) f
    refine ⟨_, e, by omega, by omega, ?_⟩
    rw [no, nmj]
    constructor
    · rintro q ⟨w, q1, q2, q3, q4⟩
      obtain ⟨i, i1, i2, i3⟩ := (hw w).mpr ⟨q1, q2, q3⟩
      exact q i i1 (by omega) (by rw [hat i i2, i3]; exact q4)
    · intro q i i1 i2 i3
      rw [hat i (by omega)] at i3
      obtain ⟨w1, w2, w3⟩ := (hw _).mp ⟨i, i1, by omega, rfl⟩
      exact q ⟨_, w1, w2, w3, i3⟩
  have mem : ∀ {l : List wrec} {w : wrec}, (∃ i, i < l.length ∧ l.getD i (0, 0, 0, 0, 0, 0, 0) = w) ↔ w ∈ l := fun {l w} => by
    constructor
    · rintro ⟨i, hi, e⟩
      rw [← e, List.getD_eq_getElem?_getD, List.getElem?_eq_getElem hi]
      exact List.getElem_mem _
    · intro hw
      obtain ⟨i, hi, e⟩ := List.getElem_of_mem hw
      exact ⟨i, hi, by rw [List.getD_eq_getElem?_getD, List.getElem?_eq_getElem hi, ← e]; rfl⟩
  have cl : (wNew v K U W y j).1 = (K.length : Int) - 1 := rfl
  unfold scp_firstRival
  rw [gr (by omega)]
  by_cases cg : g = 0
  · have cv : v = 3 ∨ v = 4 := by omega
    have sb : (wNew v K U W y j).2.1 = -1 := by unfold wNew; rw [if_neg (by omega)]
    obtain ⟨z, f1, f2⟩ := fin 0 (Nat.zero_le _) (fun w => by
      have e : wlG g K U W = wlC K W := by unfold wlG; rw [if_pos cg, List.append_nil]
      have m := mem (l := wlC K W) (w := w)
      rw [e, cl, sb]
      constructor
      · rintro ⟨i, _, i2, i3⟩
        have := m.mp ⟨i, i2, i3⟩
        unfold wlC at this
        rw [List.mem_filter] at this
        simp only [Bool.and_eq_true, beq_iff_eq] at this
        exact ⟨this.1, this.2.1, this.2.2⟩
      · rintro ⟨q1, q2, q3⟩
        obtain ⟨i, i1, i2⟩ := m.mpr (by unfold wlC; rw [List.mem_filter]; exact ⟨q1, by simp only [Bool.and_eq_true, beq_iff_eq]; exact ⟨q2, q3⟩⟩)
        exact ⟨i, Nat.zero_le _, i1, i2⟩)
    refine ⟨0, z, ?_, f1, f2⟩
    rcases cv with c | c
    · rw [if_pos c]
    · rw [if_neg (by omega), if_pos c]
  · have hU : U ≠ [] := (a8 (by omega)).1
    have hU1 : 0 < U.length := List.length_pos_iff.mpr hU
    have sb : (wNew v K U W y j).2.1 = (U.length : Int) - 1 := by unfold wNew; rw [if_pos (by omega)]
    have e : wlG g K U W = wlC K W ++ wlU U W := by unfold wlG; rw [if_neg cg]
    obtain ⟨z, f1, f2⟩ := fin (wlC K W).length (by rw [e, List.length_append]; omega) (fun w => by
      have m := mem (l := wlU U W) (w := w)
      rw [cl, sb, e, List.length_append]
      constructor
      · rintro ⟨i, i1, i2, i3⟩
        rw [gdR i1] at i3
        have := m.mp ⟨i - (wlC K W).length, by omega, i3⟩
        unfold wlU at this
        rw [List.mem_filter] at this
        simp only [beq_iff_eq] at this
        exact ⟨this.1, hc cg w this.1 this.2, this.2⟩
      · rintro ⟨q1, q2, q3⟩
        obtain ⟨i, i1, i2⟩ := m.mpr (by unfold wlU; rw [List.mem_filter]; exact ⟨q1, by simp only [beq_iff_eq]; exact q3⟩)
        exact ⟨(wlC K W).length + i, by omega, by omega, by rw [gdR (by omega), show (wlC K W).length + i - (wlC K W).length = i by omega]; exact i2⟩)
    refine ⟨s 23 15, z, ?_, by rw [v4]; exact f1, f2⟩
    rw [if_neg (by omega), if_neg (by omega)]
end T2b
