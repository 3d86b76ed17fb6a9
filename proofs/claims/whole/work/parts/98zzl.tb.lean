/-! the second reading of the text: what is told, what is put down -/
def paF (Wf : List wrec) (u : Nat) : Int := if u < 40 then sysPA.getD u 0 else (nwP ((u - 40 : Nat) : Int) Wf : Int)
def wlFc (Uf : List urec) (Wf : List wrec) (u : Nat) : List wrec := Wf.filter (fun r => r.1 == (Uf.getD u (0, 0, 0, 0)).1 && r.2.1 == -1)
def wlF (Uf : List urec) (Wf : List wrec) (u : Nat) : List wrec := wlFc Uf Wf u ++ Wf.filter (fun r => r.2.1 == (u : Int))
def soF (Uf : List urec) (u : Nat) : Int := (Uf.getD u (0, 0, 0, 0)).2.1
def clF (Uf : List urec) (u : Nat) : Nat := (Uf.getD u (0, 0, 0, 0)).1.toNat
/-- the first commands of a sub -/
def hdrU (Kf : List Nat) (Uf : List urec) (so ow sub : Int) (nv nf : Nat) : List crc := (14, nmbT Kf Uf ow sub, (nv : Int), 0) :: (if so = 3 then [(0, 1, 0, 0), (1, 6, 0, 0)] else if so = 1 then [(0, 0, if (1 : Int) < (nf : Int) then (nf : Int) else 1, 0), (15, 102, 1, 8), (1, 6, 0, 0)] else [])
/-- the commands behind one more sub -/
def cmU (F : Nat → Int) (P : Nat → Nat) (s0 t0 : iS) (Kf : List Nat) (Uf : List urec) (Wf : List wrec) (u : Nat) (l : List itm) (cs : List crec) : List crec := rsv cs.length (l.foldl (emS P (emI F P s0 t0 Kf Uf (wlF Uf Wf u) (wlFc Uf Wf u).length (clF Uf u) (soF Uf u))) (emA (cs, -1) (hdrU Kf Uf (soF Uf u) (8 + (clF Uf u : Int)) (40 + (u : Int)) (nwV (u : Int) Wf) (nwF (clF Uf u : Int) Wf)))).1
def cmN (F : Nat → Int) (P : Nat → Nat) (s0 t0 : iS) (Kf : List Nat) (Uf : List urec) (Wf : List wrec) (A : List (List itm)) : Nat → List crec
  | 0 => []
  | u + 1 => cmU F P s0 t0 Kf Uf Wf u (A.getD u []) (cmN F P s0 t0 Kf Uf Wf A u)
def gK (F : Nat → Int) (P : Nat → Nat) (t0 : iS) (Kf : List Nat) (K : List Nat) (i : Nat) : List Nat := if fcK F P t0 Kf (K.getD i 0) = 8 + (i : Int) then [] else [16 * K.getD i 0 + 3]
def gU (F : Nat → Int) (P : Nat → Nat) (t0 : iS) (Kf : List Nat) (Uf : List urec) (U : List urec) (i : Nat) : List Nat := if fsbT F P t0 Kf Uf (8 + (U.getD i (0, 0, 0, 0)).1) (U.getD i (0, 0, 0, 0)).2.2.1 = 40 + (i : Int) then [] else [16 * (U.getD i (0, 0, 0, 0)).2.2.1 + 3]
def gW (F : Nat → Int) (P : Nat → Nat) (t0 : iS) (W : List wrec) (i : Nat) : List Nat := if ∃ r ∈ W.take i, r.1 = (W.getD i (0, 0, 0, 0, 0, 0, 0)).1 ∧ r.2.1 = (W.getD i (0, 0, 0, 0, 0, 0, 0)).2.1 ∧ nmT F P t0 r.2.2.2.2.1 = nmT F P t0 (W.getD i (0, 0, 0, 0, 0, 0, 0)).2.2.2.2.1 then [16 * (W.getD i (0, 0, 0, 0, 0, 0, 0)).2.2.2.2.1 + 3] else []
def gY (F : Nat → Int) (P : Nat → Nat) (t0 : iS) (Kf : List Nat) (j : Nat) : List Nat := if fcK F P t0 Kf j = -1 then [16 * j + 4] else []
def gA (F : Nat → Int) (P : Nat → Nat) (s0 t0 : iS) (Kf : List Nat) (Uf : List urec) (Wf : List wrec) (A : List (List itm)) (u : Nat) : List Nat := (A.getD u []).flatMap (ntI F P s0 t0 Kf Uf (paF Wf) (wlF Uf Wf u) (wlFc Uf Wf u).length (clF Uf u) (soF Uf u))
def rgM {α : Type} (g : List α → Nat → List Nat) (l : List α) : List Nat := (List.range l.length).flatMap (g l)
/-- all that is told -/
def ntT (F : Nat → Int) (P : Nat → Nat) (s0 t0 : iS) (Kf : List Nat) (Uf : List urec) (Wf : List wrec) (K : List Nat) (U : List urec) (W : List wrec) (Y : List Nat) (A : List (List itm)) (k : Nat) : Prop := k ∈ rgM (gK F P t0 Kf) K ∨ k ∈ rgM (gU F P t0 Kf Uf) U ∨ k ∈ rgM (gW F P t0) W ∨ k ∈ Y.flatMap (gY F P t0 Kf) ∨ k ∈ rgM (gA F P s0 t0 Kf Uf Wf) A
/-- what has been read is a beginning of the text -/
def PreF (Kf : List Nat) (Uf : List urec) (Wf : List wrec) (g : Nat) (K : List Nat) (U : List urec) (W : List wrec) : Prop := (∃ K', Kf = K ++ K') ∧ (∃ U', Uf = U ++ U') ∧ ∃ W', Wf = W ++ W' ∧ ∀ r ∈ W', (r.2.1 = -1 → (K.length : Int) ≤ r.1 ∨ (r.1 = (K.length : Int) - 1 ∧ g = 0)) ∧ (r.2.1 ≠ -1 → r.2.2.1 ≠ 1 ∧ ((U.length : Int) ≤ r.2.1 ∨ (r.2.1 = (U.length : Int) - 1 ∧ (g = 1 ∨ g = 2 ∧ r.2.2.1 ≠ 2))))
def soL (U : List urec) : Int := (U.getD (U.length - 1) (0, 0, 0, 0)).2.1
/-- the second reading: what stands -/
def S2 (F : Nat → Int) (P : Nat → Nat) (s0 t0 : iS) (N : Nat) (Kf : List Nat) (Uf : List urec) (pa : Nat → Int) (n0 : List Nat) (cs : List crec) (pm : Int) (g : Nat) (K : List Nat) (U : List urec) (W : List wrec) (A : List (List itm)) (s : iS) : Prop :=
  TXB F P s0 t0 N g K U W s ∧ s 22 4 = 1 ∧ X2T F P s0 t0 N Kf Uf pa s ∧ (K ≠ [] → X2V F P s0 t0 Kf (wlG g K U W) (wlC K W).length (soL U) s ∧ s 23 14 = (nwS W : Int) - (nwC ((K.length : Int) - 1) W : Int)) ∧ (g ≠ 0 → K ≠ [] → U ≠ [] ∧ s 23 13 = 256 + soL U ∧ (soL U = 1 ∨ soL U = 2 ∨ soL U = 3) ∧ (U.getD (U.length - 1) (0, 0, 0, 0)).1 = (K.length : Int) - 1 ∧ ∀ r ∈ W, r.2.1 = (U.length : Int) - 1 → r.1 = (K.length : Int) - 1) ∧ BLc n0 s ∧ EMc cs pm s ∧ (g = 0 ∨ g = 3 → A.length = U.length) ∧ (g = 1 ∨ g = 2 → A.length + 1 = U.length)
/-- the second reading: what that is, if it is a beginning of the text -/
def M2 (F : Nat → Int) (P : Nat → Nat) (s0 t0 : iS) (Kf : List Nat) (Uf : List urec) (Wf : List wrec) (pa : Nat → Int) (n0 : List Nat) (cs : List crec) (K : List Nat) (U : List urec) (W : List wrec) (Y : List Nat) (A : List (List itm)) (s : iS) : Prop :=
  (∀ u, u < 40 + Uf.length → pa u = paF Wf u) ∧ (∀ k, k ∈ n0 ↔ ntT F P s0 t0 Kf Uf Wf K U W Y A k) ∧ cs = cmN F P s0 t0 Kf Uf Wf A A.length ∧ (∀ u, u < A.length → (cmN F P s0 t0 Kf Uf Wf A u).length ≤ 3000 → s 20 (40 + u) = ((cmN F P s0 t0 Kf Uf Wf A u).length : Int))
def T2 (F : Nat → Int) (P : Nat → Nat) (s0 t0 : iS) (N : Nat) (Kf : List Nat) (Uf : List urec) (Wf : List wrec) : TXP := fun g K U W Y A s => ∃ pa n0 cs pm, S2 F P s0 t0 N Kf Uf pa n0 cs pm g K U W A s ∧ (PreF Kf Uf Wf g K U W → M2 F P s0 t0 Kf Uf Wf pa n0 cs K U W Y A s)
def TV2 (F : Nat → Int) (P : Nat → Nat) (s0 t0 : iS) (Kf : List Nat) (y r : Int) : Prop := r = if s0 9 y.toNat = 3 then fcK F P t0 Kf y.toNat else -1
section T2a
variable {F : Nat → Int} {n N : Nat} {P : Nat → Nat} {s0 t0 s s1 s' : iS} {g j : Nat} {Kf K : List Nat} {Uf U : List urec} {Wf W : List wrec} {Y : List Nat} {A : List (List itm)} {pa : Nat → Int} {n0 : List Nat} {cs : List crec} {pm v r y : Int}
theorem fm_congr (f f' : Nat → List Nat) : ∀ k, (∀ i, i < k → f i = f' i) → (List.range k).flatMap f = (List.range k).flatMap f'
  | 0, _ => rfl
  | k + 1, h => by
    rw [List.range_succ, List.flatMap_append, List.flatMap_append, fm_congr f f' k (fun i hi => h i (by omega)), List.flatMap_singleton, List.flatMap_singleton, h k (by omega)]
theorem rgM_app {α : Type} (g : List α → Nat → List Nat) (l : List α) (a : α) (hg : ∀ i, i < l.length → g (l ++ [a]) i = g l i) : rgM g (l ++ [a]) = rgM g l ++ g (l ++ [a]) l.length := by
  unfold rgM
  rw [List.length_append, List.length_singleton, List.range_succ, List.flatMap_append, List.flatMap_singleton, fm_congr _ _ _ hg]
theorem gK_app (j : Nat) : rgM (gK F P t0 Kf) (K ++ [j]) = rgM (gK F P t0 Kf) K ++ (if fcK F P t0 Kf j = 8 + (K.length : Int) then [] else [16 * j + 3]) := by
  rw [rgM_app _ _ _ (fun i hi => by unfold gK; rw [gd_app hi])]
  unfold gK
  rw [gd_end]
theorem gU_app (u : urec) : rgM (gU F P t0 Kf Uf) (U ++ [u]) = rgM (gU F P t0 Kf Uf) U ++ (if fsbT F P t0 Kf Uf (8 + u.1) u.2.2.1 = 40 + (U.length : Int) then [] else [16 * u.2.2.1 + 3]) := by
  rw [rgM_app _ _ _ (fun i hi => by unfold gU; rw [gd_app hi])]
  unfold gU
  rw [gd_end]
theorem gW_app (w : wrec) : rgM (gW F P t0) (W ++ [w]) = rgM (gW F P t0) W ++ (if ∃ r ∈ W, r.1 = w.1 ∧ r.2.1 = w.2.1 ∧ nmT F P t0 r.2.2.2.2.1 = nmT F P t0 w.2.2.2.2.1 then [16 * w.2.2.2.2.1 + 3] else []) := by
  rw [rgM_app _ _ _ (fun i hi => by unfold gW; rw [gd_app hi, List.take_append_of_le_length (by omega)])]
  unfold gW
  rw [gd_end, List.take_append_of_le_length (Nat.le_refl _), List.take_length]
theorem gA_app (l : List itm) : rgM (gA F P s0 t0 Kf Uf Wf) (A ++ [l]) = rgM (gA F P s0 t0 Kf Uf Wf) A ++ l.flatMap (ntI F P s0 t0 Kf Uf (paF Wf) (wlF Uf Wf A.length) (wlFc Uf Wf A.length).length (clF Uf A.length) (soF Uf A.length)) := by
  rw [rgM_app _ _ _ (fun i hi => by unfold gA; rw [gd_app hi])]
  unfold gA
  rw [gd_end]
theorem cmN_app (l : List itm) : ∀ u, u ≤ A.length → cmN F P s0 t0 Kf Uf Wf (A ++ [l]) u = cmN F P s0 t0 Kf Uf Wf A u
  | 0, _ => rfl
  | u + 1, h => by
    show cmU F P s0 t0 Kf Uf Wf u ((A ++ [l]).getD u []) (cmN F P s0 t0 Kf Uf Wf (A ++ [l]) u) = cmU F P s0 t0 Kf Uf Wf u (A.getD u []) (cmN F P s0 t0 Kf Uf Wf A u)
    rw [cmN_app l u (by omega), gd_app (by omega)]
theorem Pre_decl (h : PreF Kf Uf Wf g K U (W ++ [wNew v K U W y j])) (hv : g = 0 ∧ (v = 3 ∨ v = 4) ∨ g = 1 ∧ v = 1 ∨ g = 2 ∧ v = 2) (hU : g = 1 ∨ g = 2 → U ≠ []) : PreF Kf Uf Wf g K U W := by
  obtain ⟨h1, h2, W', h3, h4⟩ := h
  refine ⟨h1, h2, wNew v K U W y j :: W', by rw [h3, List.append_assoc]; rfl, fun r hr => ?_⟩
  rcases List.mem_cons.mp hr with q | q
  · rw [q]
    rcases hv with ⟨c, c'⟩ | ⟨c, c'⟩ | ⟨c, c'⟩
    · have e : (wNew v K U W y j).2.1 = -1 := by unfold wNew; rw [if_neg (by omega)]
      exact ⟨fun _ => Or.inr ⟨rfl, c⟩, fun z => absurd e z⟩
    · have hU1 : 0 < U.length := List.length_pos_iff.mpr (hU (Or.inl c))
      have e : (wNew v K U W y j).2.1 = (U.length : Int) - 1 := by unfold wNew; rw [if_pos (Or.inl c')]
      have e2 : (wNew v K U W y j).2.2.1 = 2 := by unfold wNew; rw [if_pos c']
      exact ⟨fun z => by omega, fun _ => ⟨by omega, Or.inr ⟨e, Or.inl c⟩⟩⟩
    · have hU1 : 0 < U.length := List.length_pos_iff.mpr (hU (Or.inr c))
      have e : (wNew v K U W y j).2.1 = (U.length : Int) - 1 := by unfold wNew; rw [if_pos (Or.inr c')]
      have e2 : (wNew v K U W y j).2.2.1 = 3 := by unfold wNew; rw [if_neg (show ¬ v = 1 by omega), if_pos c']
      exact ⟨fun z => by omega, fun _ => ⟨by omega, Or.inr ⟨e, Or.inr ⟨c, by omega⟩⟩⟩⟩
  · exact h4 r q
theorem Pre_cls (h : PreF Kf Uf Wf 0 (K ++ [j]) U W) : PreF Kf Uf Wf g K U W := by
  obtain ⟨⟨K', h1⟩, h2, W', h3, h4⟩ := h
  refine ⟨⟨j :: K', by rw [h1, List.append_assoc]; rfl⟩, h2, W', h3, fun r hr => ?_⟩
  obtain ⟨a, b⟩ := h4 r hr
  rw [List.length_append, List.length_singleton] at a
  exact ⟨fun z => by have := a z; omega, fun z => by have := b z; omega⟩
theorem Pre_sub {u : urec} (h : PreF Kf Uf Wf 1 K (U ++ [u]) W) : PreF Kf Uf Wf g K U W := by
  obtain ⟨h1, ⟨U', h2⟩, W', h3, h4⟩ := h
  refine ⟨h1, ⟨u :: U', by rw [h2, List.append_assoc]; rfl⟩, W', h3, fun r hr => ?_⟩
  obtain ⟨a, b⟩ := h4 r hr
  rw [List.length_append, List.length_singleton] at b
  exact ⟨fun z => by have := a z; omega, fun z => by have := b z; omega⟩
theorem Pre_21 (h : PreF Kf Uf Wf 2 K U W) : PreF Kf Uf Wf 1 K U W := by
  obtain ⟨h1, h2, W', h3, h4⟩ := h
  exact ⟨h1, h2, W', h3, fun r hr => ⟨fun z => by have := (h4 r hr).1 z; omega, fun z => by have := (h4 r hr).2 z; omega⟩⟩
theorem Pre_32 (h : PreF Kf Uf Wf 3 K U W) : PreF Kf Uf Wf 2 K U W := by
  obtain ⟨h1, h2, W', h3, h4⟩ := h
  exact ⟨h1, h2, W', h3, fun r hr => ⟨fun z => by have := (h4 r hr).1 z; omega, fun z => by have := (h4 r hr).2 z; omega⟩⟩
theorem cP_nil {α : Type} {p : α → Bool} {l : List α} (h : ∀ r ∈ l, p r = false) : l.countP p = 0 ∧ l.filter p = [] := by
  constructor
  · rw [List.countP_eq_zero]; intro r hr; rw [h r hr]; decide
  · rw [List.filter_eq_nil_iff]; intro r hr; rw [h r hr]; decide
/-- what no later declaration changes -/
theorem Pre_P (h : PreF Kf Uf Wf g K U W) (hg : g = 2 ∨ g = 3) (hU : U ≠ []) : nwP ((U.length : Int) - 1) Wf = nwP ((U.length : Int) - 1) W := by
  obtain ⟨h1, h2, W', h3, h4⟩ := h
  have hU1 : 0 < U.length := List.length_pos_iff.mpr hU
  unfold nwP
  rw [h3, List.countP_append, (cP_nil (l := W') (fun r hr => ?_)).1, Nat.add_zero]
  have b := (h4 r hr).2
  simp only [Bool.and_eq_false_imp, beq_iff_eq, beq_eq_false_iff_ne]
  intro z1 z2
  have := b (by omega)
  omega
theorem Pre_3 (h : PreF Kf Uf Wf 3 K U W) (hU : U ≠ []) (hl : (U.getD (U.length - 1) (0, 0, 0, 0)).1 = (K.length : Int) - 1) (hK : K ≠ []) : wlF Uf Wf (U.length - 1) = wlG 2 K U W ∧ wlFc Uf Wf (U.length - 1) = wlC K W ∧ clF Uf (U.length - 1) = K.length - 1 ∧ soF Uf (U.length - 1) = soL U ∧ nwV ((U.length - 1 : Nat) : Int) Wf = nwV ((U.length : Int) - 1) W ∧ nwF (clF Uf (U.length - 1) : Int) Wf = nwF ((K.length : Int) - 1) W := by
  obtain ⟨h1, ⟨U', h2⟩, W', h3, h4⟩ := h
  have hU1 : 0 < U.length := List.length_pos_iff.mpr hU
  have hK1 : 0 < K.length := List.length_pos_iff.mpr hK
  have eU : Uf.getD (U.length - 1) (0, 0, 0, 0) = U.getD (U.length - 1) (0, 0, 0, 0) := by
    rw [h2, gdL (by omega)]
  have ec : wlFc Uf Wf (U.length - 1) = wlC K W := by
    unfold wlFc wlC
    rw [eU, hl, h3, List.filter_append, (cP_nil (l := W') (fun r hr => ?_)).2, List.append_nil]
    have a := (h4 r hr).1
    simp only [Bool.and_eq_false_imp, beq_iff_eq, beq_eq_false_iff_ne]
    intro z1 z2
    have := a z2
    omega
  have ek : clF Uf (U.length - 1) = K.length - 1 := by unfold clF; rw [eU, hl]; omega
  refine ⟨?_, ec, ek, by unfold soF soL; rw [eU], ?_, ?_⟩
  · unfold wlF wlG
    rw [ec, if_neg (by decide)]
    congr 1
    unfold wlU
    rw [h3, List.filter_append, show ((U.length - 1 : Nat) : Int) = (U.length : Int) - 1 by omega, (cP_nil (l := W') (fun r hr => ?_)).2, List.append_nil]
    have b := (h4 r hr).2
    simp only [beq_eq_false_iff_ne]
    intro z2
    have := b (by omega)
    omega
  · unfold nwV
    rw [h3, List.countP_append, show ((U.length - 1 : Nat) : Int) = (U.length : Int) - 1 by omega, (cP_nil (l := W') (fun r hr => ?_)).1, Nat.add_zero]
    have b := (h4 r hr).2
    simp only [Bool.and_eq_false_imp, beq_iff_eq, beq_eq_false_iff_ne]
    intro z1 z2
    have := b (by omega)
    omega
  · rw [ek, show ((K.length - 1 : Nat) : Int) = (K.length : Int) - 1 by omega]
    unfold nwF
    rw [h3, List.countP_append, (cP_nil (l := W') (fun r hr => ?_)).1, Nat.add_zero]
    have a := (h4 r hr).1
    have b := (h4 r hr).2
    simp only [Bool.and_eq_false_imp, beq_iff_eq, beq_eq_false_iff_ne]
    intro z1 z2
    by_cases z : r.2.1 = -1
    · have := a z
      omega
    · have := b z
      omega
end T2a
