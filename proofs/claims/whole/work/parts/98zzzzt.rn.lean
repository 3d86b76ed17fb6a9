/-! a loaded program: what stands of its items -/
section RNg
variable {F : Nat → Int} {n N : Nat} {P : Nat → Nat} {s0 t0 : iS} {K : List Nat} {U : List urec} {W : List wrec} {Y : List Nat} {A : List (List itm)} {I C p w u i : Nat} {tr t1 t2 t3 t : iS} {l : List itm}
/-- the ghosts of a loaded program -/
def PRG (F : Nat → Int) (n N : Nat) (P : Nat → Nat) (s0 t0 : iS) (K : List Nat) (U : List urec) (W : List wrec) (Y : List Nat) (A : List (List itm)) (I C p w : Nat) (tr t1 t2 t3 : iS) : Prop := RG F n N P s0 t0 K U W Y tr ∧ AOK s0 K U W A tr I C p w ∧ A.length = U.length ∧ (p + 1 = N ∧ I ≤ 3 * p ∧ (C = 0 ∨ C + 5 ≤ p) ∧ w ≤ 300) ∧ WOK s0 N K U W ∧ RZc F P s0 t0 K U W I C tr t1 ∧ FL t1 t2 ∧ CPs n I t2 t3 ∧ kMn (rnT F P s0 t0 K U W tr I C) = 100000
/-- is an object put for a call; has an item commands -/
def obF (F : Nat → Int) (P : Nat → Nat) (t0 : iS) (U : List urec) (W : List wrec) (u : Nat) (f : Int) : Nat := if f = -1 then 1 else if rvI F P t0 U W u f.toNat = -1 then 0 else 1
def e0U (F : Nat → Int) (P : Nat → Nat) (s0 t0 : iS) (K : List Nat) (U : List urec) (W : List wrec) (u : Nat) (r : itm) : Bool := decide (emU F P s0 t0 K U W u r = [])
theorem obF_1 (x : Int) : obF F P t0 U W u x ≤ 1 := by
  unfold obF
  split
  · omega
  · split <;> omega
theorem nn_many {c : Nat} (h : gC F P s0 t0 K U W t c = []) : isM U (owR F P s0 t0 K U W (t 156 c).toNat (t 149 c)) (sbR F P t0 U (owR F P s0 t0 K U W (t 156 c).toNat (t 149 c)) (t 150 c).toNat) = (if obR F P t0 U W (t 156 c).toNat (t 149 c) ≤ 0 then 0 else 1) ∧ mnR W (owR F P s0 t0 K U W (t 156 c).toNat (t 149 c)) (sbR F P t0 U (owR F P s0 t0 K U W (t 156 c).toNat (t 149 c)) (t 150 c).toNat) = t 151 c := by
  obtain ⟨q1, q2⟩ := nn_call h
  unfold gC ntR at h
  rw [if_neg q1] at h
  have h2 := (List.append_eq_nil_iff.mp h).2
  unfold nt173 at h2
  rw [if_neg q2] at h2
  have h3 := (List.append_eq_nil_iff.mp h2).1
  by_cases z : isM U (owR F P s0 t0 K U W (t 156 c).toNat (t 149 c)) (sbR F P t0 U (owR F P s0 t0 K U W (t 156 c).toNat (t 149 c)) (t 150 c).toNat) = (if obR F P t0 U W (t 156 c).toNat (t 149 c) ≤ 0 then 0 else 1) ∧ mnR W (owR F P s0 t0 K U W (t 156 c).toNat (t 149 c)) (sbR F P t0 U (owR F P s0 t0 K U W (t 156 c).toNat (t 149 c)) (t 150 c).toNat) = t 151 c
  · exact z
  · rw [if_neg z] at h3
    simp at h3
/-- the items' rows behind a load -/
theorem PRG_it (h : PRG F n N P s0 t0 K U W Y A I C p w tr t1 t2 t3) (hu : u < A.length) (hi : i < (A.getD u []).length) : ITR F P s0 t0 K U W u ((A.getD u []).getD i (0, 0, 0, 0)) t3 (stA A u + i) := by
  obtain ⟨h1, h2, h3, ⟨h4, h5, h6, h7⟩, h8, h9, h10, h11, h12⟩ := h
  have hN := N1001 h1.1.1
  exact itr_all h1 h2 h3 (by omega) (by omega) h9 h10 h11 h12 u i hu hi
/-- a call's sub and its values -/
theorem PRG_call (h : PRG F n N P s0 t0 K U W Y A I C p w tr t1 t2 t3) (hu : u < A.length) (hi : i < (A.getD u []).length) {r : itm} (hr : (A.getD u []).getD i (0, 0, 0, 0) = r) (h10 : r.1 = 10) : isM U (owR F P s0 t0 K U W u r.2.1) (sbR F P t0 U (owR F P s0 t0 K U W u r.2.1) r.2.2.1.toNat) = (obF F P t0 U W u r.2.1 : Int) ∧ mnR W (owR F P s0 t0 K U W u r.2.1) (sbR F P t0 U (owR F P s0 t0 K U W u r.2.1) r.2.2.1.toNat) = r.2.2.2 := by
  obtain ⟨h1, h2, h3, ⟨h4, h5, h6, h7⟩, h8, h9, hf, h11, h12⟩ := h
  have hN := N1001 h1.1.1
  obtain ⟨pf, a1, a2, a3, a4, a5, a6⟩ := AOK_it h2
  obtain ⟨nn1, nn2⟩ := no_note hN (IOK_of h2 h3 (by omega)) (COK_of h2 h3 (by omega) hN) h12
  obtain ⟨b1, _, b4, b5⟩ := a4 u i hu hi
  rw [hr] at b4 b5
  rcases b5 with ⟨_, c, c1, c2, c3, c4, c5, c6, c7⟩ | ⟨_, q2, _⟩
  case inr => exact absurd h10 q2
  have q := nn_many (nn2 c c2)
  rw [c4, c5, c6, c7 h10, Int.toNat_natCast] at q
  refine ⟨?_, q.2⟩
  rw [q.1]
  unfold obR obF
  by_cases z : r.2.1 = -1
  · rw [if_pos z, if_pos z]; rfl
  · rw [if_neg z, if_neg z]
    by_cases z2 : rvI F P t0 U W u r.2.1.toNat = -1
    · rw [if_pos z2, if_pos z2]; rfl
    · rw [if_neg z2, if_neg z2]; rfl
theorem mnR_12 (h : WOK s0 N K U W) {ow sb : Int} : mnR W ow sb ≤ 12 ∧ 0 ≤ mnR W ow sb := by
  unfold mnR
  split
  · have := h.2.2.2.1 (sb.toNat : Int)
    omega
  · have d : (List.range 40).all (fun i => decide (sysMN.getD i 0 ≤ 12 ∧ 0 ≤ sysMN.getD i 0)) = true := by decide
    by_cases c : sb.toNat < 40
    · exact of_decide_eq_true (List.all_eq_true.mp d _ (List.mem_range.mpr c))
    · have l : sysMN.length = 40 := by decide
      rw [List.getD_eq_getElem?_getD, List.getElem?_eq_none (by omega)]
      decide
/-- which items have commands -/
theorem emU_ne (h : PRG F n N P s0 t0 K U W Y A I C p w tr t1 t2 t3) (hu : u < A.length) (hi : i < (A.getD u []).length) {r : itm} (hr : (A.getD u []).getD i (0, 0, 0, 0) = r) (h2 : r.1 ≠ 2) (h9 : r.1 ≠ 9) (h11 : r.1 ≠ 11) (h12 : r.1 ≠ 12) (h17 : r.1 ≠ 17) : emU F P s0 t0 K U W u r ≠ [] := by
  have it := PRG_it h hu hi
  rw [hr] at it
  obtain ⟨-, rr, -, -, q4, -, q9, -⟩ := it
  have ev : ∀ {kd : Int} {j : Nat}, Agr F P t0 U W u j → rvI F P t0 U W u j ≠ -1 → emV F P t0 (wlF U W u) (wlFc U W u).length (soF U u) kd j ≠ [] := fun {kd j} ha hv => by
    unfold emV
    rcases ha with ⟨_, z⟩ | ⟨z, _⟩
    · exact absurd z hv
    · rw [if_neg z]; simp
  unfold emU emI
  by_cases c0 : r.1 = 0
  · rw [if_pos c0]; split <;> simp
  rw [if_neg c0]
  by_cases c1 : r.1 = 1
  · rw [if_pos c1]; simp
  rw [if_neg c1]
  by_cases c3 : r.1 = 3
  · rw [if_pos c3]; simp
  rw [if_neg c3]
  by_cases c4 : r.1 = 4
  · rw [if_pos c4]
    obtain ⟨_, z1, z2⟩ := q4 (Or.inl c4)
    exact ev z2 z1
  rw [if_neg c4]
  by_cases c5 : r.1 = 5
  · rw [if_pos c5]; simp
  rw [if_neg c5]
  by_cases c6 : r.1 = 6
  · rw [if_pos c6]; simp
  rw [if_neg c6]
  by_cases c7 : r.1 = 7
  · rw [if_pos c7]; simp
  rw [if_neg c7]
  by_cases c8 : r.1 = 8
  · rw [if_pos c8]; simp
  rw [if_neg c8, if_neg h9]
  by_cases c10 : r.1 = 10
  · rw [if_pos c10]
    obtain ⟨c, _, _, _, _, z1, z2⟩ := q9 (Or.inr c10)
    by_cases z : r.2.1 = -1
    · rw [if_pos z]; simp
    · rw [if_neg z]
      rcases z1 z with ⟨y1, y2⟩ | ⟨y1, _⟩
      · have o := (z2 c10).1
        unfold owR at o
        rw [if_neg z, if_pos y2] at o
        rw [if_pos y1, if_neg o]
        simp
      · rw [if_neg y1]; simp
  rw [if_neg c10]
  by_cases c13 : r.1 = 13
  · rw [if_pos c13]
    obtain ⟨_, z1, z2⟩ := q4 (Or.inr c13)
    exact ev z2 z1
  rw [if_neg c13]
  by_cases c14 : r.1 = 14
  · rw [if_pos c14]; simp
  rw [if_neg c14]
  by_cases c15 : r.1 = 15
  · rw [if_pos c15]; simp
  rw [if_neg c15]
  by_cases c16 : r.1 = 16
  · rw [if_pos c16]; simp
  rw [if_neg c16]
  by_cases c18 : r.1 = 18
  · rw [if_pos c18]; simp
  rw [if_neg c18]
  by_cases c19 : r.1 = 19
  · rw [if_pos c19]; simp
  rw [if_neg c19]
  have c20 : r.1 = 20 := by clear q4 q9 ev h; omega
  rw [if_pos c20]
  simp
/-- no item is of kind 2 -/
theorem GX_2 {g o p w p' w' n : Nat} (h : GX s0 g o p w p' w' n l) : ∀ r ∈ l, r.1 ≠ 2 := by
  refine h (fun g o p w p' w' n l => ∀ r ∈ l, r.1 ≠ 2) ⟨?_, ?_, ?_, ?_, ?_, ?_, ?_, ?_, ?_, ?_, ?_, ?_, ?_, ?_, ?_⟩
  · intro o p w v _ r hr; rw [List.mem_singleton.mp hr]; simp
  · intro o p w k _ _ r hr; rw [List.mem_singleton.mp hr]; simp
  · intro o p w r hr; rw [List.mem_singleton.mp hr]; simp
  · intro o p w _ r hr; rw [List.mem_singleton.mp hr]; simp
  · intro o p w p' w' l _ ih; exact ih
  · intro o p w p' w' l a j _ ha ih r hr
    rcases List.mem_append.mp hr with z | z
    · exact ih r z
    · rw [List.mem_singleton.mp z]; show a ≠ 2; omega
  · intro o p w p' w' l j _ _ ih r hr
    simp at hr
    rcases hr with z | z | z
    · rw [z]; simp
    · exact ih r z
    · rw [z]; simp
  · intro o p w p' w' l ih; exact ih
  · intro o p w p' w' l ih; exact ih
  · intro o p w p1 w1 p2 w2 l1 l2 c j ih1 _ ih2 r hr
    simp at hr
    rcases hr with z | z | z
    · exact ih1 r z
    · exact ih2 r z
    · rw [z]; simp
  · intro o p w p' w' a l _ _ ih r hr
    simp at hr
    rcases hr with z | z | z
    · rw [z]; simp
    · exact ih r z
    · rw [z]; simp
  · intro o p w p' w' a l _ _ _ ih r hr
    simp at hr
    rcases hr with z | z | z
    · rw [z]; simp
    · exact ih r z
    · rw [z]; simp
  · intro o p w r hr; simp at hr
  · intro o p w p' w' l ih; exact ih
  · intro o p w p1 w1 p2 w2 a l1 l2 ih1 ih2 r hr
    rcases List.mem_append.mp hr with z | z
    · exact ih1 r z
    · exact ih2 r z
theorem GY_2 {g o I p w lb p' w' lb' : Nat} (h : GY s0 t g o I p w lb p' w' lb' l) : ∀ r ∈ l, r.1 ≠ 2 := by
  refine h (fun g o I p w lb p' w' lb' l => ∀ r ∈ l, r.1 ≠ 2) ⟨?_, ?_, ?_, ?_, ?_, ?_, ?_, ?_, ?_, ?_⟩
  · intro o I p w lb p' w' l j _ _ h3 r hr
    simp at hr
    rcases hr with z | z | z | z
    · rw [z]; simp
    · exact GX_2 h3 r z
    · rw [z]; simp
    · rw [z]; simp
  · intro o I p w lb p1 w1 p2 w2 l1 l2 j j1 j2 _ _ h3 h4 r hr
    simp at hr
    rcases hr with z | z | z | z | z | z | z
    · rw [z]; simp
    · rw [z]; simp
    · exact GX_2 h3 r z
    · rw [z]; simp
    · exact GX_2 h4 r z
    · rw [z]; simp
    · rw [z]; simp
  · intro o I p w lb p' w' l j1 j2 _ h2 r hr
    simp at hr
    rcases hr with z | z | z | z
    · rw [z]; simp
    · exact GX_2 h2 r z
    · rw [z]; simp
    · rw [z]; simp
  · intro o I p w lb j1 j2 _ r hr
    simp at hr
    rcases hr with z | z | z <;> rw [z] <;> simp
  · intro o I p w lb p' w' l j _ h2 r hr
    simp at hr
    rcases hr with z | z | z
    · rw [z]; simp
    · exact GX_2 h2 r z
    · rw [z]; simp
  · intro o I p w lb p1 w1 p2 w2 lb2 l1 l2 j0 j1 j2 _ h2 ih _ r hr
    simp at hr
    rcases hr with z | z | z | z | z | z
    · rw [z]; simp
    · exact GX_2 h2 r z
    · rw [z]; simp
    · exact ih r z
    · rw [z]; simp
    · rw [z]; simp
  · intro o I p w lb p1 w1 p2 w2 lb2 p3 w3 lb3 l1 l2 l3 j0 j1 j2 j3 j4 _ h2 ih1 ih2 _ _ r hr
    simp at hr
    rcases hr with z | z | z | z | z | z | z | z | z
    · rw [z]; simp
    · exact GX_2 h2 r z
    · rw [z]; simp
    · exact ih1 r z
    · rw [z]; simp
    · rw [z]; simp
    · exact ih2 r z
    · rw [z]; simp
    · rw [z]; simp
  · intro o I p w lb p1 w1 p2 w2 lb2 l1 l2 j0 j1 x j2 j3 j4 _ h2 ih _ _ r hr
    simp at hr
    rcases hr with z | z | z | z | z | z | z | z | z
    · rw [z]; simp
    · rw [z]; simp
    · rw [z]; simp
    · exact GX_2 h2 r z
    · rw [z]; simp
    · exact ih r z
    · rw [z]; simp
    · rw [z]; simp
    · rw [z]; simp
  · intro o I p w lb r hr; simp at hr
  · intro o I p w lb p1 w1 lb1 p2 w2 lb2 l1 l2 ih1 ih2 r hr
    rcases List.mem_append.mp hr with z | z
    · exact ih1 r z
    · exact ih2 r z
/-- the annotation of a sub -/
def aA (F : Nat → Int) (P : Nat → Nat) (s0 t0 : iS) (K : List Nat) (U : List urec) (W : List wrec) (A : List (List itm)) (u i : Nat) : aS := fdA P (obF F P t0 U W u) (e0U F P s0 t0 K U W u) (0, [], false, -1) ((A.getD u []).take i)
theorem PRG_an (h : PRG F n N P s0 t0 K U W Y A I C p w tr t1 t2 t3) (hu : u < A.length) : okA P (obF F P t0 U W u) (e0U F P s0 t0 K U W u) 360 (0, [], false, -1) (A.getD u []) ∧ (labs (A.getD u [])).Nodup ∧ JP P (obF F P t0 U W u) (e0U F P s0 t0 K U W u) tr (stA A u) (0, [], false, -1) (A.getD u []) ∧ (∀ r ∈ A.getD u [], r.1 ≠ 2) ∧ ∃ l j, A.getD u [] = l ++ [(0, 0, 0, j), (18, 1, 0, j)] := by
  have h' := h
  obtain ⟨h1, h2, h3, ⟨h4, h5, h6, h7⟩, h8, h9, hf, h11, h12⟩ := h
  obtain ⟨_, _, _, cs, pf, wf, _, _, _, _, _, g2⟩ := h2
  obtain ⟨_, _, _, _, _, l, j, pb, wb, pe, we, lb, b1, b2, b3, b4, b5, b6⟩ := g2 u hu
  have k2 : ∀ r ∈ A.getD u [], r.1 ≠ 2 := fun r hr => by
    rw [b1] at hr
    rcases List.mem_append.mp hr with z | z
    · exact GY_2 b6 r z
    · simp at z
      rcases z with z | z <;> rw [z] <;> simp
  have ev : ∀ r ∈ A.getD u [], EVa (e0U F P s0 t0 K U W u) r := fun r hr => by
    obtain ⟨i, hi, e⟩ := List.getElem_of_mem hr
    have e' : (A.getD u []).getD i (0, 0, 0, 0) = r := by
      rw [List.getD_eq_getElem?_getD, List.getElem?_eq_getElem hi]
      exact e
    refine ⟨fun q9 q11 q12 q17 => ?_, fun q10 => ?_⟩
    · unfold e0U
      exact decide_eq_false (emU_ne h' hu hi e' (k2 r hr) q9 q11 q12 q17)
    · have := (PRG_call h' hu hi e' q10).2
      have q := mnR_12 h8 (ow := owR F P s0 t0 K U W u r.2.1) (sb := sbR F P t0 U (owR F P s0 t0 K U W u r.2.1) r.2.2.1.toNat)
      omega
  rw [b1] at ev
  obtain ⟨y1, y2⟩ := GY_an (P := P) (ob := obF F P t0 U W u) (e0 := e0U F P s0 t0 K U W u) (H := 360) obF_1 (by decide) b6 (fun r hr => ev r (List.mem_append_left _ hr))
  obtain ⟨c1, ⟨fr', c2, c3⟩, c4⟩ := y2 [] false (by decide)
  have c5 := c3 (Or.inr rfl)
  subst c5
  have e00 := (ev (0, 0, 0, j) (by simp)).1 (by simp) (by simp) (by simp) (by simp)
  have n0 : nxA P (obF F P t0 U W u) (e0U F P s0 t0 K U W u) (0, [], false, -1) (0, 0, 0, j) = (1, [], false, -1) := by simp [nxA]
  refine ⟨?_, ?_, ?_, k2, l, j, b1⟩
  · rw [b1]
    refine (okA_app l _).mpr ⟨c1, ?_⟩
    rw [c2]
    refine ⟨by simp [rqA], ?_⟩
    rw [n0]
    exact okA_one (by simp [rqA])
  · rw [b1, labs_app]
    have z : labs [((0, 0, 0, j) : itm), (18, 1, 0, j)] = [] := by simp [labs]
    rw [z, List.append_nil]
    exact y1.2.1
  · rw [b1]
    refine JP_app c4 (JP_no (fun r hr => ?_))
    simp at hr
    rcases hr with z | z <;> rw [z] <;> simp
end RNg
