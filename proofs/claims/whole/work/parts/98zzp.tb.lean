/-! how many commands a text gives -/
def wtI (em : itm → List crc) (r : itm) : Nat := if r.1 = 11 ∨ r.1 = 17 then 0 else (em r).length
def wtL (em : itm → List crc) (l : List itm) : Nat := (l.map (wtI em)).sum
/-- at most so many commands of an item -/
def emB (s0 : iS) (em : itm → List crc) : Prop := ∀ r : itm, (em r).length ≤ (if r.1 = 0 then 2 else if r.1 = 1 then 2 + 2 * (s0 11 r.2.2.2.toNat).toNat else if r.1 = 5 then 3 else if r.1 = 14 then 4 else if r.1 = 15 then 3 else if r.1 = 12 then 0 else 1)
section WT
variable {F : Nat → Int} {n N : Nat} {P : Nat → Nat} {s0 t0 t : iS} {em : itm → List crc} {Kf : List Nat} {Uf : List urec} {Wf wl : List wrec} {cv c : Nat} {so : Int} {A : List (List itm)}
theorem strC_len (p : Nat) : ∀ k i, (strC F p i k).length = 2 * k
  | 0, i => rfl
  | k + 1, i => by
    show (strC F p (i + 1) k).length + 1 + 1 = _
    rw [strC_len p k (i + 1)]
    omega
theorem emV_len {kd : Int} {j : Nat} : (emV F P t0 wl cv so kd j).length ≤ 1 := by
  unfold emV
  split
  · exact Nat.zero_le _
  · exact Nat.le_refl _
theorem emB_I : emB s0 (emI F P s0 t0 Kf Uf wl cv c so) := by
  intro r
  unfold emI
  by_cases c0 : r.1 = 0
  · rw [if_pos c0, if_pos c0]; split <;> simp
  rw [if_neg c0, if_neg c0]
  by_cases c1 : r.1 = 1
  · rw [if_pos c1, if_pos c1]
    simp only [List.length_cons, strC_len]
    omega
  rw [if_neg c1, if_neg c1]
  by_cases c3 : r.1 = 3
  · rw [if_pos c3, if_neg (by omega), if_neg (by omega), if_neg (by omega), if_neg (by omega)]; exact Nat.le_refl _
  rw [if_neg c3]
  by_cases c4 : r.1 = 4
  · rw [if_pos c4, if_neg (by omega), if_neg (by omega), if_neg (by omega), if_neg (by omega)]; exact emV_len
  rw [if_neg c4]
  by_cases c5 : r.1 = 5
  · rw [if_pos c5, if_pos c5]; exact Nat.le_refl _
  rw [if_neg c5, if_neg c5]
  by_cases c6 : r.1 = 6
  · rw [if_pos c6, if_neg (by omega), if_neg (by omega), if_neg (by omega)]; exact Nat.le_refl _
  rw [if_neg c6]
  by_cases c7 : r.1 = 7
  · rw [if_pos c7, if_neg (by omega), if_neg (by omega), if_neg (by omega)]; exact Nat.le_refl _
  rw [if_neg c7]
  by_cases c8 : r.1 = 8
  · rw [if_pos c8, if_neg (by omega), if_neg (by omega), if_neg (by omega)]; exact Nat.le_refl _
  rw [if_neg c8]
  by_cases c9 : r.1 = 9
  · rw [if_pos c9, if_neg (show ¬ r.1 = 14 by omega), if_neg (show ¬ r.1 = 15 by omega), if_neg (show ¬ r.1 = 12 by omega)]
    split
    · exact Nat.le_refl _
    · exact emV_len
  rw [if_neg c9]
  by_cases c10 : r.1 = 10
  · rw [if_pos c10, if_neg (show ¬ r.1 = 14 by omega), if_neg (show ¬ r.1 = 15 by omega), if_neg (show ¬ r.1 = 12 by omega)]
    split
    · exact Nat.le_refl _
    · split
      · split
        · exact Nat.zero_le _
        · exact Nat.le_refl _
      · exact Nat.le_refl _
  rw [if_neg c10]
  by_cases c13 : r.1 = 13
  · rw [if_pos c13, if_neg (by omega), if_neg (by omega), if_neg (by omega)]; exact emV_len
  rw [if_neg c13]
  by_cases c14 : r.1 = 14
  · rw [if_pos c14, if_pos c14]; exact Nat.le_refl _
  rw [if_neg c14, if_neg c14]
  by_cases c15 : r.1 = 15
  · rw [if_pos c15, if_pos c15]; exact Nat.le_refl _
  rw [if_neg c15, if_neg c15]
  by_cases c12 : r.1 = 12
  · rw [if_neg (by omega), if_neg (by omega), if_neg (by omega), if_neg (by omega)]; exact Nat.zero_le _
  rw [if_neg c12]
  repeat' split
  all_goals simp
theorem wtL_app (l1 l2 : List itm) : wtL em (l1 ++ l2) = wtL em l1 + wtL em l2 := by
  unfold wtL
  rw [List.map_append, List.sum_append]
theorem wtL_cons (r : itm) (l : List itm) : wtL em (r :: l) = wtI em r + wtL em l := by
  unfold wtL
  rw [List.map_cons, List.sum_cons]
theorem wtL_nil : wtL em [] = 0 := rfl
theorem wtk (he : emB s0 em) (k a b d : Int) (m : Nat) (hk : k = 0 ∧ m = 2 ∨ k = 5 ∧ m = 3 ∨ k = 14 ∧ m = 4 ∨ k = 15 ∧ m = 3 ∨ (k = 11 ∨ k = 12 ∨ k = 17) ∧ m = 0 ∨ (k = 3 ∨ k = 4 ∨ k = 6 ∨ k = 7 ∨ k = 8 ∨ k = 9 ∨ k = 10 ∨ k = 13 ∨ k = 16 ∨ k = 18 ∨ k = 19 ∨ k = 20) ∧ m = 1) : wtI em (k, a, b, d) ≤ m := by
  have h := he (k, a, b, d)
  unfold wtI
  show (if k = 11 ∨ k = 17 then 0 else (em (k, a, b, d)).length) ≤ m
  simp only at h
  split
  · omega
  · rename_i q
    rcases hk with ⟨z, z2⟩ | ⟨z, z2⟩ | ⟨z, z2⟩ | ⟨z, z2⟩ | ⟨z, z2⟩ | ⟨z, z2⟩
    · rw [if_pos z] at h; omega
    · rw [if_neg (by omega), if_neg (by omega), if_pos z] at h; omega
    · rw [if_neg (by omega), if_neg (by omega), if_neg (by omega), if_pos z] at h; omega
    · rw [if_neg (by omega), if_neg (by omega), if_neg (by omega), if_neg (by omega), if_pos z] at h; omega
    · rw [if_neg (by omega), if_neg (by omega), if_neg (by omega), if_neg (by omega), if_neg (by omega), if_pos (by omega)] at h; omega
    · rw [if_neg (by omega), if_neg (by omega), if_neg (by omega), if_neg (by omega), if_neg (by omega), if_neg (by omega)] at h; omega
/-- an expression's -/
theorem GX_wt (he : emB s0 em) {g o p w p' w' m : Nat} {l : List itm} (h : GX s0 g o p w p' w' m l) : p ≤ p' ∧ w ≤ w' ∧ wtL em l + 2 * p + 2 * w ≤ 2 * p' + 2 * w' := by
  refine h (fun g o p w p' w' m l => p ≤ p' ∧ w ≤ w' ∧ wtL em l + 2 * p + 2 * w ≤ 2 * p' + 2 * w') ⟨?_, ?_, ?_, ?_, ?_, ?_, ?_, ?_, ?_, ?_, ?_, ?_, ?_, ?_, ?_⟩
  · intro o p w v _
    have := wtk he 0 v 0 (p : Int) 2 (by omega)
    rw [wtL_cons, wtL_nil]
    omega
  · intro o p w k _ hk
    have := he (1, 0, 0, (p : Int))
    rw [if_neg (show ¬ (1 : Int) = 0 by decide), if_pos rfl] at this
    rw [wtL_cons, wtL_nil]
    have e : (s0 11 ((1 : Int), (0 : Int), (0 : Int), (p : Int)).2.2.2.toNat).toNat = k := by show (s0 11 (p : Int).toNat).toNat = k; rw [Int.toNat_natCast, hk, Int.toNat_natCast]
    rw [e] at this
    unfold wtI
    rw [if_neg (show ¬ ((1 : Int) = 11 ∨ (1 : Int) = 17) by decide)]
    omega
  · intro o p w
    have := wtk he 3 0 0 (p : Int) 1 (by omega)
    rw [wtL_cons, wtL_nil]
    omega
  · intro o p w _
    have := wtk he 4 0 0 (p : Int) 1 (by omega)
    rw [wtL_cons, wtL_nil]
    omega
  · intro o p w p' w' l _ ih
    omega
  · intro o p w p' w' l a j _ ha ih
    have := wtk he a 0 0 j 1 (by omega)
    rw [wtL_app, wtL_cons, wtL_nil]
    omega
  · intro o p w p' w' l j _ _ ih
    have a := wtk he 4 0 0 (p : Int) 1 (by omega)
    have b := wtk he 5 0 0 j 3 (by omega)
    rw [wtL_app, wtL_cons, wtL_cons, wtL_nil]
    omega
  · intro o p w p' w' l ih
    exact ih
  · intro o p w p' w' l ih
    exact ih
  · intro o p w p1 w1 p2 w2 l1 l2 c j ih1 _ ih2
    have a := wtk he 6 c 0 j 1 (by omega)
    rw [wtL_app, wtL_app, wtL_cons, wtL_nil]
    omega
  · intro o p w p' w' a l _ _ ih
    have x := wtk he 9 (-1) (p : Int) 0 1 (by omega)
    have y := wtk he 10 (-1) (p : Int) (a : Int) 1 (by omega)
    rw [wtL_app, wtL_cons, wtL_cons, wtL_nil]
    omega
  · intro o p w p' w' a l _ _ _ ih
    have x := wtk he 9 (p : Int) ((p + 2 : Nat) : Int) 0 1 (by omega)
    have y := wtk he 10 (p : Int) ((p + 2 : Nat) : Int) (a : Int) 1 (by omega)
    rw [wtL_app, wtL_cons, wtL_cons, wtL_nil]
    omega
  · intro o p w
    rw [wtL_nil]
    omega
  · intro o p w p' w' l ih
    exact ih
  · intro o p w p1 w1 p2 w2 a l1 l2 ih1 ih2
    rw [wtL_app]
    omega
/-- statements' -/
theorem GY_wt (he : emB s0 em) {g o I p w lb p' w' lb' : Nat} {l : List itm} (h : GY s0 t g o I p w lb p' w' lb' l) : p ≤ p' ∧ w ≤ w' ∧ wtL em l + 2 * p + 2 * w ≤ 2 * p' + 2 * w' := by
  have k11 := fun d : Int => wtk he 11 0 0 d 0 (by omega)
  have k12 := fun d : Int => wtk he 12 0 0 d 0 (by omega)
  refine h (fun g o I p w lb p' w' lb' l => p ≤ p' ∧ w ≤ w' ∧ wtL em l + 2 * p + 2 * w ≤ 2 * p' + 2 * w') ⟨?_, ?_, ?_, ?_, ?_, ?_, ?_, ?_, ?_, ?_⟩
  · intro o I p w lb p' w' l j _ _ h3
    have a := GX_wt he h3
    have b := wtk he 13 0 0 ((p + 1 : Nat) : Int) 1 (by omega)
    have c1 := k11 (p : Int)
    have c2 := k12 j
    simp only [wtL_app, wtL_cons, wtL_nil]
    omega
  · intro o I p w lb p1 w1 p2 w2 l1 l2 j j1 j2 _ _ h3 h4
    have a := GX_wt he h3
    have a' := GX_wt he h4
    have b := wtk he 4 0 0 ((p + 1 : Nat) : Int) 1 (by omega)
    have b2 := wtk he 6 43 0 j 1 (by omega)
    have b3 := wtk he 14 0 0 j1 4 (by omega)
    have c1 := k11 (p : Int)
    have c2 := k12 j2
    simp only [wtL_app, wtL_cons, wtL_nil]
    omega
  · intro o I p w lb p' w' l j1 j2 _ h2
    have a := GX_wt he h2
    have b := wtk he 19 0 0 j1 1 (by omega)
    have c1 := k11 (p : Int)
    have c2 := k12 j2
    simp only [wtL_app, wtL_cons, wtL_nil]
    omega
  · intro o I p w lb j1 j2 _
    have b := wtk he 0 0 0 j1 2 (by omega)
    have b2 := wtk he 18 0 0 j2 1 (by omega)
    have c1 := k11 (p : Int)
    simp only [wtL_app, wtL_cons, wtL_nil]
    omega
  · intro o I p w lb p' w' l j _ h2
    have a := GX_wt he h2
    have b := wtk he 18 0 0 j 1 (by omega)
    have c1 := k11 (p : Int)
    simp only [wtL_app, wtL_cons, wtL_nil]
    omega
  · intro o I p w lb p1 w1 p2 w2 lb2 l1 l2 j0 j1 j2 _ h2 ih _
    have a := GX_wt he h2
    have b := wtk he 15 0 (lb : Int) j0 3 (by omega)
    have b2 := wtk he 20 (lb : Int) 0 j1 1 (by omega)
    have c1 := k11 (p : Int)
    have c2 := k12 j2
    simp only [wtL_app, wtL_cons, wtL_nil]
    omega
  · intro o I p w lb p1 w1 p2 w2 lb2 p3 w3 lb3 l1 l2 l3 j0 j1 j2 j3 j4 _ h2 ih1 ih2 _ _
    have a := GX_wt he h2
    have b := wtk he 15 0 (lb : Int) j0 3 (by omega)
    have b2 := wtk he 16 0 ((lb + 1 : Nat) : Int) j1 1 (by omega)
    have b3 := wtk he 20 (lb : Int) 0 j2 1 (by omega)
    have b4 := wtk he 20 ((lb + 1 : Nat) : Int) 0 j3 1 (by omega)
    have c1 := k11 (p : Int)
    have c2 := k12 j4
    simp only [wtL_app, wtL_cons, wtL_nil]
    omega
  · intro o I p w lb p1 w1 p2 w2 lb2 l1 l2 j0 j1 x j2 j3 j4 _ h2 ih _ _
    have a := GX_wt he h2
    have b := wtk he 20 (lb : Int) 0 j0 1 (by omega)
    have b1 := wtk he 17 0 0 (p : Int) 0 (by omega)
    have b2 := wtk he 15 0 ((lb + 1 : Nat) : Int) j1 3 (by omega)
    have b3 := wtk he 16 x (lb : Int) j2 1 (by omega)
    have b4 := wtk he 20 ((lb + 1 : Nat) : Int) 0 j3 1 (by omega)
    have c1 := k11 (p : Int)
    have c2 := k12 j4
    simp only [wtL_app, wtL_cons, wtL_nil]
    omega
  · intro o I p w lb
    rw [wtL_nil]
    omega
  · intro o I p w lb p1 w1 lb1 p2 w2 lb2 l1 l2 ih1 ih2
    rw [wtL_app]
    omega
theorem emF_wt : ∀ (l : List itm) (a : List crec × Int), (l.foldl (emS P em) a).1.length = a.1.length + wtL em l := by
  intro l
  induction l with
  | nil => intro a; rfl
  | cons x l ih =>
    intro a
    show (l.foldl (emS P em) (emS P em a x)).1.length = _
    rw [ih, wtL_cons]
    have : (emS P em a x).1.length = a.1.length + wtI em x := by
      unfold emS wtI
      split
      · rfl
      · rw [emA_len]
    omega
/-- the commands of all subs -/
theorem cmN_len {K : List Nat} {U : List urec} {W : List wrec} {I C p w : Nat} (h : AOK s0 K U W A t I C p w) : (cmN F P s0 t0 Kf Uf Wf A A.length).length ≤ 2 * p + 2 * w ∧ ∀ i, i ≤ A.length → (cmN F P s0 t0 Kf Uf Wf A i).length ≤ (cmN F P s0 t0 Kf Uf Wf A A.length).length := by
  obtain ⟨h1, _, _, cs, pf, wf, _, c1, c2, c3, c4, h2⟩ := h
  have st : ∀ i, i < A.length → (cmN F P s0 t0 Kf Uf Wf A i).length ≤ (cmN F P s0 t0 Kf Uf Wf A (i + 1)).length ∧ (cmN F P s0 t0 Kf Uf Wf A (i + 1)).length + 2 * pf i + 2 * wf i ≤ (cmN F P s0 t0 Kf Uf Wf A i).length + 2 * pf (i + 1) + 2 * wf (i + 1) := by
    intro i hi
    obtain ⟨_, _, _, _, _, l, j, pb, wb, pe, we, lb, b1, b2, b3, b4, b5, b6⟩ := h2 i hi
    show _ ≤ (cmU F P s0 t0 Kf Uf Wf i (A.getD i []) (cmN F P s0 t0 Kf Uf Wf A i)).length ∧ (cmU F P s0 t0 Kf Uf Wf i (A.getD i []) (cmN F P s0 t0 Kf Uf Wf A i)).length + _ + _ ≤ _
    unfold cmU
    have hE := emB_I (F := F) (P := P) (s0 := s0) (t0 := t0) (Kf := Kf) (Uf := Uf) (wl := wlF Uf Wf i) (cv := (wlFc Uf Wf i).length) (c := clF Uf i) (so := soF Uf i)
    have g := GY_wt hE b6
    have q1 := wtk hE 0 0 0 j 2 (by omega)
    have q2 := wtk hE 18 1 0 j 1 (by omega)
    rw [rsv_len, emF_wt, emA_len, b1, wtL_app, wtL_cons, wtL_cons, wtL_nil]
    have hd : (hdrU Kf Uf (soF Uf i) (8 + (clF Uf i : Int)) (40 + (i : Int)) (nwV (i : Int) Wf) (nwF (clF Uf i : Int) Wf)).length ≤ 4 := by
      unfold hdrU
      split
      · simp
      · split <;> simp
    simp only
    omega
  have le : ∀ k, k ≤ A.length → (cmN F P s0 t0 Kf Uf Wf A k).length ≤ 2 * pf k + 2 * wf k := by
    intro k
    induction k with
    | zero => intro _; exact Nat.zero_le _
    | succ k ih =>
      intro hk
      have a := ih (by omega)
      have b := (st k (by omega)).2
      omega
  have mono : ∀ d i, i + d ≤ A.length → (cmN F P s0 t0 Kf Uf Wf A i).length ≤ (cmN F P s0 t0 Kf Uf Wf A (i + d)).length := by
    intro d
    induction d with
    | zero => intro i _; exact Nat.le_refl _
    | succ d ih =>
      intro i hi
      have a := ih i (by omega)
      have b := (st (i + d) (by omega)).1
      exact Nat.le_trans a b
  refine ⟨by have := le A.length (Nat.le_refl _); omega, fun i hi => ?_⟩
  have := mono (A.length - i) i (by omega)
  rw [show i + (A.length - i) = A.length by omega] at this
  exact this
end WT
