/-! the reference's commands of an item are the class's -/
section CMb
variable {F : Nat → Int} {n N : Nat} {P : Nat → Nat} {s0 t0 t t' t'' : iS} {j u k x : Nat} {K : List Nat} {U : List urec} {W : List wrec} {Y : List Nat} {l l' : List (Int × Int × Int)} {a b c v ow : Int} {r : itm}
theorem rvI_sub (h : rvI F P t0 U W u j = (x : Int)) : (wGt W x).2.2.1 = 2 → (wGt W x).2.1 = (u : Int) := by
  have r1 := fst1_rg (P := fun i => (wGt W i).2.1 = (u : Int) ∧ nmT F P t0 (wGt W i).2.2.2.2.1 = nmT F P t0 j) W.length 0
  have r2 := fun so => fst1_rg (P := fun i => ((wGt W i).2.1 = -1 ∧ (wGt W i).1 = (uAt U u).1 ∧ (wGt W i).2.2.1 = so) ∧ nmT F P t0 (wGt W i).2.2.2.2.1 = nmT F P t0 j) W.length 0
  change vOw F P t0 W u j 0 W.length = -1 ∨ _ ≤ vOw F P t0 W u j 0 W.length ∧ vOw F P t0 W u j 0 W.length < _ ∧ (wGt W (vOw F P t0 W u j 0 W.length).toNat).2.1 = (u : Int) ∧ _ at r1
  change ∀ so, vCl F P t0 U W so u j 0 W.length = -1 ∨ _ ≤ vCl F P t0 U W so u j 0 W.length ∧ vCl F P t0 U W so u j 0 W.length < _ ∧ ((wGt W (vCl F P t0 U W so u j 0 W.length).toNat).2.1 = -1 ∧ _ ∧ (wGt W (vCl F P t0 U W so u j 0 W.length).toNat).2.2.1 = so) ∧ _ at r2
  intro q
  unfold rvI at h
  split at h
  · split at h
    · rcases r2 0 with z | ⟨_, _, z, _⟩
      · omega
      · rw [h, Int.toNat_natCast] at z
        omega
    · rcases r2 1 with z | ⟨_, _, z, _⟩
      · omega
      · rw [h, Int.toNat_natCast] at z
        omega
  · rcases r1 with z | ⟨_, _, z, _⟩
    · omega
    · rw [h, Int.toNat_natCast] at z
      exact z
/-- the rows of an item behind the checks -/
def ITR (F : Nat → Int) (P : Nat → Nat) (s0 t0 : iS) (K : List Nat) (U : List urec) (W : List wrec) (u : Nat) (r : itm) (t : iS) (k : Nat) : Prop := t 144 k = r.1 ∧ (0 ≤ r.1 ∧ r.1 ≤ 20) ∧
  (r.1 = 0 → t 145 k = r.2.1 ∧ -1 ≤ r.2.1 ∧ r.2.1 ≤ 40000) ∧
  (r.1 = 1 → ∃ z q : Nat, t 146 k = (z : Int) ∧ t 170 k = (q : Int) ∧ q = P r.2.2.2.toNat ∧ s0 11 r.2.2.2.toNat = (z : Int) ∧ (z ≤ 60 ∧ q + z + 2 ≤ 4000) ∧ ∀ i, i < z → t 171 (q + 1 + i) = F (q + 1 + i)) ∧
  (r.1 = 4 ∨ r.1 = 13 → t 145 k = rvI F P t0 U W u r.2.2.2.toNat ∧ rvI F P t0 U W u r.2.2.2.toNat ≠ -1 ∧ Agr F P t0 U W u r.2.2.2.toNat) ∧
  (r.1 = 6 → t 145 k = r.2.1 ∧ -1000 ≤ r.2.1 ∧ r.2.1 ≤ 1000) ∧
  (r.1 = 9 ∨ r.1 = 10 → ∃ c : Nat, c < 1000 ∧ t 145 k = (c : Int) ∧ CR F P s0 t0 K U W u r.2.1 r.2.2.1.toNat c t ∧ (r.1 = 10 → t 151 c = r.2.2.2) ∧ (r.2.1 ≠ -1 → Agr F P t0 U W u r.2.1.toNat) ∧ (r.1 = 10 → owR F P s0 t0 K U W u r.2.1 ≠ -1 ∧ sbR F P t0 U (owR F P s0 t0 K U W u r.2.1) r.2.2.1.toNat ≠ -1)) ∧
  (r.1 = 15 ∨ r.1 = 16 → t 146 k = r.2.2.1) ∧ (r.1 = 20 → t 145 k = r.2.1)
theorem emV_eq (ha : Agr F P t0 U W u j) (hx : rvI F P t0 U W u j = (x : Int)) : (emV F P t0 (wlF U W u) (wlFc U W u).length (soF U u) v j).map c3 = [(v, sgT (wGt W x), nuT (soF U u) (wGt W x))] := by
  rcases ha with ⟨a1, a2⟩ | ⟨a1, a2, a3⟩
  · omega
  · unfold emV
    rw [if_neg a1, a3, hx, Int.toNat_natCast]
    rfl
/-- the number of a sub -/
theorem num_ok (h : RG F n N P s0 t0 K U W Y t) (h169 : ∀ i, i < U.length → t 169 i = (i : Int) - (U.countP (fun u => decide (u.1 < (uAt U i).1)) : Int)) (hw : 0 ≤ ow ∧ ow < 8 + (K.length : Int)) (hs : sbR F P t0 U ow j ≠ -1) : m_numberOf ow (sbR F P t0 U ow j) t = some (nmbT K U ow (fsbT F P t0 K U ow j), t) := by
  have hK := h.2.1.2.2.1
  have hU := h.2.1.2.2.2.2.2.1
  have r := sbR_rg (F := F) (P := P) (l := j) h hw.1
  obtain ⟨sb, es⟩ : ∃ sb : Nat, sbR F P t0 U ow j = (sb : Int) := ⟨(sbR F P t0 U ow j).toNat, by omega⟩
  unfold m_numberOf nmbT
  rw [sb_eq h hw, if_neg hs, es, gr (by omega), if_neg (show ¬ (ow < 0) by omega)]
  by_cases c : 8 ≤ ow
  · have hsb : sb < U.length := by omega
    have cl : (uAt U sb).1 = ow - 8 := by
      have q := fst1_rg (P := fun i => (uAt U i).1 = ow - 8 ∧ nmT F P t0 (uAt U i).2.2.1 = nmT F P t0 j) U.length 0
      have e : sbR F P t0 U ow j = fst1 (fun i => (uAt U i).1 = ow - 8 ∧ nmT F P t0 (uAt U i).2.2.1 = nmT F P t0 j) 0 U.length := by
        unfold sbR
        rw [if_pos c]
      rw [← e, es, Int.toNat_natCast] at q
      rcases q with z | ⟨_, _, z, _⟩
      · omega
      · exact z
    have e1 := fsT_own h (c := (ow - 8).toNat) (by omega)
    rw [show 8 + (ow - 8).toNat = ow.toNat by omega, show (((ow - 8).toNat : Nat) : Int) = ow - 8 by omega] at e1
    rw [if_pos c, if_pos c, gd_pos (by omega), Int.toNat_natCast, h169 sb hsb, cl, e1]
    refine congrArg some (Prod.ext ?_ rfl)
    show 100 * ow + ((sb : Int) - _) = 100 * ow + (40 + (sb : Int)) - (40 + _)
    omega
  · have hq := of_decide_eq_true (List.all_eq_true.mp sysFI_FS ow.toNat (List.mem_range.mpr (by omega)))
    have f1 : fsT K U ow.toNat = sysFS.getD ow.toNat 0 := by
      unfold fsT
      rw [if_neg (by omega), if_pos (by omega)]
    rw [if_neg c, if_neg c, gd_pos (by omega), (h.1.2.2.2.1 ow.toNat (by omega)).2, hq.1, f1]
    refine congrArg some (Prod.ext ?_ rfl)
    show 100 * ow + ((sb : Int) - _) = 100 * ow + (sb : Int) - _
    omega
theorem com_n : ∀ (xs l : List (Int × Int × Int)) (t : iS), RCm l t → l.length + xs.length < 12000 → ∃ t', (∀ g : iS → Option (Int × iS), xs.foldr (fun x (g : iS → Option (Int × iS)) => fun s => bd (m_com x.1 x.2.1 x.2.2 s) (fun _ s' => g s')) g t = g t') ∧ RCm (l ++ xs) t' ∧ FM t t'
  | [], l, t, h, _ => ⟨t, fun _ => rfl, by rw [List.append_nil]; exact h, FM_refl⟩
  | y :: ys, l, t, h, hl => by
    rw [List.length_cons] at hl
    obtain ⟨t', e1, e2, e3⟩ := com_n ys _ _ (cmT_RC (a := y.1) (b := y.2.1) (c := y.2.2) h) (by rw [List.length_append, List.length_singleton]; omega)
    refine ⟨t', fun g => ?_, by rw [List.append_assoc] at e2; exact e2, FM_trans cmT_FM e3⟩
    rw [List.foldr_cons]
    show bd (m_com y.1 y.2.1 y.2.2 t) _ = _
    rw [com_eq h (by omega)]
    exact e1 g
theorem comI_ok (h : RG F n N P s0 t0 K U W Y t) (h169 : ∀ i, i < U.length → t 169 i = (i : Int) - (U.countP (fun u => decide (u.1 < (uAt U i).1)) : Int)) (hc : RCm l t) (hl : l.length + 200 < 12000) (hk : k < 5000) (hu : u < U.length) (hr : ITR F P s0 t0 K U W u r t k) : ∃ t', m_comItem (k : Int) t = some (0, t') ∧ RCm (l ++ (emI F P s0 t0 K U (wlF U W u) (wlFc U W u).length (clF U u) (soF U u) r).map c3) t' ∧ FM t t' := by
  obtain ⟨r0, rr, q0, q1, q4, q6, q9, q15, q20⟩ := hr
  have hW := h.2.2.2.1
  have hK := h.2.1.2.2.1
  have hU1 : 0 ≤ (uAt U u).1 ∧ (uAt U u).1 < (K.length : Int) := h.2.2.2.2.1 _ (gd_mem (d := ((0, 0, 0, 0) : urec)) hu)
  have ecl : (8 : Int) + (clF U u : Int) = 8 + (uAt U u).1 := by
    have : clF U u = (uAt U u).1.toNat := rfl
    omega
  unfold m_comItem emI
  rw [gd_pos (by omega), Int.toNat_natCast, r0, gr (by omega)]
  have rd := fun j => rvI_rg (F := F) (P := P) (t0 := t0) (U := U) (W := W) (u := u) (j := j)
  have one : ∀ a b c : Int, ∃ t', bd (m_com a b c t) (fun _ s => some ((0 : Int), s)) = some (0, t') ∧ RCm (l ++ [(a, b, c)]) t' ∧ FM t t' := fun a b c => com_1 hc (by omega)
  by_cases c0 : r.1 = 0
  · obtain ⟨z1, z2, z3⟩ := q0 c0
    rw [if_pos c0, if_pos c0, z1, gr (by omega)]
    unfold m_comItem_124
    by_cases d : r.2.1 = -1
    · rw [if_neg (by omega), if_pos d, com_eq hc (by omega), gr (by omega), if_neg (by omega)]
      obtain ⟨t', e1, e2, e3⟩ := com_1 (a := 7) (b := 0) (c := 0) (cmT_RC (a := 0) (b := 0) (c := 0) hc) (by rw [List.length_append, List.length_singleton]; omega)
      exact ⟨t', e1, by rw [List.append_assoc] at e2; exact e2, FM_trans cmT_FM e3⟩
    · rw [if_pos (by omega), if_neg d, com_eq hc (by omega), gr (by omega), if_pos (by omega)]
      exact ⟨_, rfl, cmT_RC hc, cmT_FM⟩
  rw [if_neg c0, if_neg c0]
  by_cases c1 : r.1 = 1
  · obtain ⟨z, q, z1, z2, z3, z4, z5, z6⟩ := q1 c1
    rw [if_pos c1, if_pos c1, z1, com_eq hc (by omega), com_eq (cmT_RC hc) (by rw [List.length_append, List.length_singleton]; omega), z4, Int.toNat_natCast, ← z3]
    obtain ⟨t', e1, e2, e3⟩ := comStr (F := F) hk z1 z2 z5 z6 z 0 _ _ (by omega) (cmT_RC (a := 15) (b := 300) (c := 1) (cmT_RC (a := 0) (b := 0) (c := (z : Int)) hc)) (FM_trans cmT_FM cmT_FM) (by simp; omega)
    refine ⟨t', e1, ?_, e3⟩
    rw [List.append_assoc, List.append_assoc] at e2
    exact e2
  rw [if_neg c1, if_neg c1]
  by_cases c2 : r.1 = 2
  · rw [if_pos c2, if_neg (by omega), if_neg (by omega), if_neg (by omega), if_neg (by omega), if_neg (by omega), if_neg (by omega), if_neg (by omega), if_neg (by omega), if_neg (by omega), if_neg (by omega), if_neg (by omega), if_neg (by omega), if_neg (by omega), if_neg (by omega), if_neg (by omega), List.map_nil, List.append_nil]
    exact ⟨t, rfl, hc, FM_refl⟩
  rw [if_neg c2]
  by_cases c3' : r.1 = 3
  · rw [if_pos c3', if_pos c3']
    exact one 0 6 0
  rw [if_neg c3', if_neg c3']
  by_cases c4 : r.1 = 4
  · obtain ⟨z1, z2, z3⟩ := q4 (Or.inl c4)
    have rj := rd r.2.2.2.toNat
    obtain ⟨x, ex⟩ : ∃ x : Nat, rvI F P t0 U W u r.2.2.2.toNat = (x : Int) := ⟨(rvI F P t0 U W u r.2.2.2.toNat).toNat, by omega⟩
    obtain ⟨t', e1, e2, e3⟩ := comV_ok (v := 0) h hc (by omega) (x := x) (by omega) (rvI_sub ex) hu
    rw [if_pos c4, if_pos c4, z1, ex, emV_eq z3 ex]
    exact ⟨t', e1 _, e2, e3⟩
  rw [if_neg c4, if_neg c4]
  by_cases c5 : r.1 = 5
  · rw [if_pos c5, if_pos c5]
    obtain ⟨t', e1, e2, e3⟩ := com_n [(2, 0, 0), (1, 6, 1), (0, 5, 0)] l t hc (by simp; omega)
    exact ⟨t', e1 (fun s => some (0, s)), e2, e3⟩
  rw [if_neg c5, if_neg c5]
  by_cases c6 : r.1 = 6
  · obtain ⟨z1, z2, z3⟩ := q6 c6
    obtain ⟨t', e1, e2, e3⟩ := comS_ok (v := r.2.1) hc (by omega) (by omega)
    rw [if_pos c6, if_pos c6, z1, e1, bq]
    exact ⟨t', rfl, e2, e3⟩
  rw [if_neg c6, if_neg c6]
  by_cases c7 : r.1 = 7
  · rw [if_pos c7, if_pos c7]
    exact one 4 0 0
  rw [if_neg c7, if_neg c7]
  by_cases c8 : r.1 = 8
  · rw [if_pos c8, if_pos c8]
    exact one 7 0 0
  rw [if_neg c8, if_neg c8]
  by_cases c9 : r.1 = 9
  · obtain ⟨c, d1, d2, ⟨d3, d4, d5⟩, d6, d7, d8⟩ := q9 (Or.inl c9)
    rw [if_pos c9, if_pos c9, d2, gd_pos (by omega), Int.toNat_natCast, d3]
    by_cases cf : r.2.1 = -1
    · have ob : obR F P t0 U W u r.2.1 = 2 := by unfold obR; rw [if_pos cf]
      rw [ob, gr (by omega), if_neg (by omega), if_pos cf]
      unfold m_comItem_295
      rw [gd_pos (by omega), Int.toNat_natCast, d3, ob, gr (by omega), if_pos rfl]
      exact one 0 6 0
    · have ag := d7 cf
      rw [if_neg cf]
      by_cases cv : rvI F P t0 U W u r.2.1.toNat = -1
      · have ob : obR F P t0 U W u r.2.1 = 0 := by unfold obR; rw [if_neg cf, if_pos cv]
        have em : emV F P t0 (wlF U W u) (wlFc U W u).length (soF U u) 0 r.2.1.toNat = [] := by
          unfold emV
          rw [if_pos]
          rcases ag with z | z
          · exact z.1
          · exact absurd cv z.2.1
        rw [ob, gr (by omega), if_neg (by omega), em, List.map_nil, List.append_nil]
        unfold m_comItem_295
        rw [gd_pos (by omega), Int.toNat_natCast, d3, ob, gr (by omega), if_neg (by omega)]
        exact ⟨t, rfl, hc, FM_refl⟩
      · have ob : obR F P t0 U W u r.2.1 = 1 := by unfold obR; rw [if_neg cf, if_neg cv]
        have rj := rd r.2.1.toNat
        obtain ⟨x, ex⟩ : ∃ x : Nat, rvI F P t0 U W u r.2.1.toNat = (x : Int) := ⟨(rvI F P t0 U W u r.2.1.toNat).toNat, by omega⟩
        obtain ⟨t', e1, e2, e3⟩ := comV_ok (v := 0) h hc (by omega) (x := x) (by omega) (rvI_sub ex) hu
        rw [ob, gr (by omega), if_pos rfl, d4 cf, ex, emV_eq ag ex, e1]
        unfold m_comItem_295
        rw [gd_pos (by omega), Int.toNat_natCast, e3 152 c (by omega) (by omega) (by omega) (by omega), d3, ob, gr (by omega), if_neg (by omega)]
        exact ⟨t', rfl, e2, e3⟩
  rw [if_neg c9, if_neg c9]
  by_cases c10 : r.1 = 10
  · obtain ⟨c, d1, d2, ⟨d3, d4, d5⟩, d6, d7, d8⟩ := q9 (Or.inr c10)
    obtain ⟨o1, o2⟩ := d8 c10
    obtain ⟨d9, d10⟩ := d5 o1
    have ro := owR_rg (F := F) (P := P) (f := r.2.1) h hu
    have nm := num_ok (j := r.2.2.1.toNat) h h169 (ow := owR F P s0 t0 K U W u r.2.1) (by omega) o2
    rw [if_pos c10, if_pos c10, d2, gd_pos (by omega), Int.toNat_natCast, d9, d10, nm, bq, d3, d6 c10]
    unfold m_comItem_353
    have ob : obR F P t0 U W u r.2.1 = (if r.2.1 = -1 then 2 else if rvI F P t0 U W u r.2.1.toNat = -1 then 0 else 1) := rfl
    by_cases cf : r.2.1 = -1
    · have eo : owR F P s0 t0 K U W u r.2.1 = 8 + (uAt U u).1 := by unfold owR; rw [if_pos cf]
      rw [ob, if_pos cf, gr (by omega), if_neg (by omega), if_pos cf, eo, ecl]
      exact one _ _ _
    · have ag := d7 cf
      rw [ob, if_neg cf, if_neg cf]
      rcases ag with ⟨a1, a2⟩ | ⟨a1, a2, a3⟩
      · have eo : owR F P s0 t0 K U W u r.2.1 = fcK F P t0 K r.2.1.toNat := by unfold owR; rw [if_neg cf, if_pos a2]
        rw [eo] at o1
        rw [if_pos a2, gr (by omega), if_pos (by omega), if_pos a1, if_neg o1, eo]
        exact one _ _ _
      · have eo : owR F P s0 t0 K U W u r.2.1 = tyT F P s0 t0 K (wGt W (rvI F P t0 U W u r.2.1.toNat).toNat) := by unfold owR; rw [if_neg cf, if_neg a2]
        rw [if_neg a2, gr (by omega), if_neg (by omega), if_neg a1, a3, ← eo]
        exact one _ _ _
  rw [if_neg c10, if_neg c10]
  by_cases c11 : r.1 = 11
  · rw [if_pos c11, if_neg (by omega), if_neg (by omega), if_neg (by omega), if_neg (by omega), if_neg (by omega), if_neg (by omega), if_neg (by omega), List.map_nil, List.append_nil]
    exact ⟨t, rfl, hc, FM_refl⟩
  rw [if_neg c11]
  by_cases c12 : r.1 = 12
  · rw [if_pos c12, if_neg (by omega), if_neg (by omega), if_neg (by omega), if_neg (by omega), if_neg (by omega), if_neg (by omega), if_neg (by omega), List.map_nil, List.append_nil]
    exact ⟨t, rfl, hc, FM_refl⟩
  rw [if_neg c12]
  by_cases c13 : r.1 = 13
  · obtain ⟨z1, z2, z3⟩ := q4 (Or.inr c13)
    have rj := rd r.2.2.2.toNat
    obtain ⟨x, ex⟩ : ∃ x : Nat, rvI F P t0 U W u r.2.2.2.toNat = (x : Int) := ⟨(rvI F P t0 U W u r.2.2.2.toNat).toNat, by omega⟩
    obtain ⟨t', e1, e2, e3⟩ := comV_ok (v := 1) h hc (by omega) (x := x) (by omega) (rvI_sub ex) hu
    rw [if_pos c13, if_pos c13, z1, ex, emV_eq z3 ex]
    exact ⟨t', e1 _, e2, e3⟩
  rw [if_neg c13, if_neg c13]
  by_cases c14 : r.1 = 14
  · rw [if_pos c14, if_pos c14]
    obtain ⟨t', e1, e2, e3⟩ := com_n [(1, 7, 0), (1, 6, 1), (0, 7, 0), (1, 5, 0)] l t hc (by simp; omega)
    exact ⟨t', e1 (fun s => some (0, s)), e2, e3⟩
  rw [if_neg c14, if_neg c14]
  by_cases c15 : r.1 = 15
  · rw [if_pos c15, if_pos c15, com_eq hc (by omega), com_eq (cmT_RC hc) (by rw [List.length_append, List.length_singleton]; omega)]
    have f2 : FM t (cmT (cmT t l.length 0 0 0) (l ++ [((0 : Int), (0 : Int), (0 : Int))]).length 8 0 0) := FM_trans cmT_FM cmT_FM
    rw [f2 146 k (by omega) (by omega) (by omega) (by omega), q15 (Or.inl c15)]
    obtain ⟨t', e1, e2, e3⟩ := com_1 (a := 13) (b := r.2.2.1) (c := 0) (cmT_RC (a := 8) (b := 0) (c := 0) (cmT_RC (a := 0) (b := 0) (c := 0) hc)) (by simp; omega)
    refine ⟨t', e1, ?_, FM_trans f2 e3⟩
    rw [List.append_assoc, List.append_assoc] at e2
    exact e2
  rw [if_neg c15, if_neg c15]
  by_cases c16 : r.1 = 16
  · rw [if_pos c16, if_pos c16, q15 (Or.inr c16)]
    exact one 12 _ 0
  rw [if_neg c16, if_neg c16]
  by_cases c17 : r.1 = 17
  · rw [if_pos c17, if_neg (by omega), if_neg (by omega), if_neg (by omega), List.map_nil, List.append_nil]
    exact ⟨t, rfl, hc, FM_refl⟩
  rw [if_neg c17]
  by_cases c18 : r.1 = 18
  · rw [if_pos c18, if_pos c18]
    exact one 16 0 0
  rw [if_neg c18, if_neg c18]
  by_cases c19 : r.1 = 19
  · rw [if_pos c19, if_pos c19]
    exact one 1 7 0
  rw [if_neg c19, if_neg c19]
  by_cases c20 : r.1 = 20
  · rw [if_pos c20, if_pos c20, q20 c20]
    exact one 11 _ 0
  · omega
end CMb
