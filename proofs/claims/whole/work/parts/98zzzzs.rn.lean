/-! the layout of a program -/
section RNf
variable {F : Nat → Int} {P : Nat → Nat} {s0 t0 : iS} {K : List Nat} {U : List urec} {W : List wrec} {A : List (List itm)} {u i m k : Nat} {l : List itm}
def hdU (K : List Nat) (U : List urec) (W : List wrec) (u : Nat) : List crc := hdrU K U (soF U u) (8 + (clF U u : Int)) (40 + (u : Int)) (nwV (u : Int) W) (nwF (clF U u : Int) W)
/-- where the commands of item i of sub u begin -/
def cpo (F : Nat → Int) (P : Nat → Nat) (s0 t0 : iS) (K : List Nat) (U : List urec) (W : List wrec) (A : List (List itm)) (u i : Nat) : Nat := (cmN F P s0 t0 K U W A u).length + (hdU K U W u).length + (((A.getD u []).take i).flatMap (emU F P s0 t0 K U W u)).length
def blk (F : Nat → Int) (P : Nat → Nat) (s0 t0 : iS) (K : List Nat) (U : List urec) (W : List wrec) (A : List (List itm)) (u : Nat) : List crec := cmN F P s0 t0 K U W A u ++ emL (-1) (hdU K U W u) ++ cmM P (emU F P s0 t0 K U W u) (-1) (A.getD u [])
theorem cmN_blk : cmN F P s0 t0 K U W A (u + 1) = rsv (cmN F P s0 t0 K U W A u).length (blk F P s0 t0 K U W A u) := by
  show cmU F P s0 t0 K U W u (A.getD u []) (cmN F P s0 t0 K U W A u) = _
  unfold cmU
  rw [blk_eq]
  rfl
theorem emU_no {r : itm} (h : r.1 = 11 ∨ r.1 = 17) : emU F P s0 t0 K U W u r = [] := emI_no h
theorem blk_len : (blk F P s0 t0 K U W A u).length = (cmN F P s0 t0 K U W A u).length + (hdU K U W u).length + ((A.getD u []).flatMap (emU F P s0 t0 K U W u)).length := by
  unfold blk
  rw [List.length_append, List.length_append, emL_len, cmM_len (fun r hr => emU_no hr)]
theorem cmN_len1 : (cmN F P s0 t0 K U W A (u + 1)).length = (cmN F P s0 t0 K U W A u).length + (hdU K U W u).length + ((A.getD u []).flatMap (emU F P s0 t0 K U W u)).length := by
  rw [cmN_blk, rsv_len, blk_len]
theorem cmN_mono : ∀ v, u ≤ v → (cmN F P s0 t0 K U W A u).length ≤ (cmN F P s0 t0 K U W A v).length
  | 0, h => by rw [show u = 0 by omega]; exact Nat.le_refl _
  | v + 1, h => by
    by_cases c : u = v + 1
    · rw [c]; exact Nat.le_refl _
    · have := cmN_mono v (by omega)
      rw [cmN_len1]
      omega
theorem cmN_pre : ∀ v, u ≤ v → ∀ k, k < (cmN F P s0 t0 K U W A u).length → (cmN F P s0 t0 K U W A v).getD k (0, 0, 0, 0, 0) = (cmN F P s0 t0 K U W A u).getD k (0, 0, 0, 0, 0)
  | 0, h, k, hk => by rw [show u = 0 by omega]
  | v + 1, h, k, hk => by
    by_cases c : u = v + 1
    · rw [c]
    · have m1 := cmN_mono (F := F) (P := P) (s0 := s0) (t0 := t0) (K := K) (U := U) (W := W) (A := A) (u := u) v (by omega)
      rw [cmN_blk, rsv_at (by rw [blk_len]; omega), if_neg (fun q => by omega)]
      unfold blk
      rw [List.append_assoc, gdL (by omega)]
      exact cmN_pre v (by omega) k hk
theorem fm_take {em : itm → List crc} {i : Nat} (hi : i < l.length) : ((l.take (i + 1)).flatMap em).length = ((l.take i).flatMap em).length + (em (l.getD i (0, 0, 0, 0))).length := by
  rw [List.take_succ_eq_append_getElem hi, List.flatMap_append, List.length_append, List.flatMap_singleton, List.getD_eq_getElem?_getD, List.getElem?_eq_getElem hi]
  rfl
theorem cpo_s (hi : i < (A.getD u []).length) : cpo F P s0 t0 K U W A u (i + 1) = cpo F P s0 t0 K U W A u i + (emU F P s0 t0 K U W u ((A.getD u []).getD i (0, 0, 0, 0))).length := by
  unfold cpo
  rw [fm_take hi]
  omega
theorem cpo_end : cpo F P s0 t0 K U W A u (A.getD u []).length = (cmN F P s0 t0 K U W A (u + 1)).length := by
  unfold cpo
  rw [List.take_length, cmN_len1]
theorem fm_mono {em : itm → List crc} : ∀ (j i : Nat), i ≤ j → ((l.take i).flatMap em).length ≤ ((l.take j).flatMap em).length := fun j i h => by
  rw [show l.take i = (l.take j).take i by rw [List.take_take, Nat.min_eq_left h]]
  conv => rhs; rw [← List.take_append_drop i (l.take j), List.flatMap_append, List.length_append]
  omega
theorem cpo_le (hi : i ≤ (A.getD u []).length) : cpo F P s0 t0 K U W A u i ≤ (cmN F P s0 t0 K U W A (u + 1)).length := by
  rw [← cpo_end]
  unfold cpo
  have := fm_mono (l := A.getD u []) (em := emU F P s0 t0 K U W u) _ i hi
  omega
/-- the first commands of a sub -/
theorem hdU_k {x : crc} (h : x ∈ hdU K U W u) : x.1 = 14 ∨ x.1 = 0 ∨ x.1 = 1 ∨ x.1 = 15 := by
  unfold hdU hdrU at h
  rcases List.mem_cons.mp h with z | z
  · rw [z]; simp
  · split at z
    · simp at z
      rcases z with z | z <;> rw [z] <;> simp
    · split at z
      · simp at z
        rcases z with z | z | z <;> rw [z] <;> simp
      · simp at z
theorem cM_hd (hu : u < A.length) (hm : m < (hdU K U W u).length) : (cmN F P s0 t0 K U W A u).length + m < (cmN F P s0 t0 K U W A A.length).length ∧ (cmN F P s0 t0 K U W A A.length).getD ((cmN F P s0 t0 K U W A u).length + m) (0, 0, 0, 0, 0) = (((hdU K U W u).getD m (0, 0, 0, 0)).1, ((hdU K U W u).getD m (0, 0, 0, 0)).2.1, ((hdU K U W u).getD m (0, 0, 0, 0)).2.2.1, ((hdU K U W u).getD m (0, 0, 0, 0)).2.2.2, -1) := by
  have m1 := cmN_mono (F := F) (P := P) (s0 := s0) (t0 := t0) (K := K) (U := U) (W := W) (A := A) (u := u + 1) A.length (by omega)
  have l1 := cmN_len1 (F := F) (P := P) (s0 := s0) (t0 := t0) (K := K) (U := U) (W := W) (A := A) (u := u)
  refine ⟨by omega, ?_⟩
  have e : (blk F P s0 t0 K U W A u).getD ((cmN F P s0 t0 K U W A u).length + m) (0, 0, 0, 0, 0) = (((hdU K U W u).getD m (0, 0, 0, 0)).1, ((hdU K U W u).getD m (0, 0, 0, 0)).2.1, ((hdU K U W u).getD m (0, 0, 0, 0)).2.2.1, ((hdU K U W u).getD m (0, 0, 0, 0)).2.2.2, -1) := by
    unfold blk
    rw [gdL (by rw [List.length_append, emL_len]; omega), gdR (by omega), Nat.add_sub_cancel_left, emL_at _ _ _ hm, ite_self]
  have hk := hdU_k (gd_mem (d := ((0, 0, 0, 0) : crc)) hm)
  rw [cmN_pre (u := u + 1) A.length (by omega) _ (by omega), cmN_blk, rsv_at (by rw [blk_len]; omega), e, if_neg (fun q => by have := q.2; simp only at this; omega)]
theorem blk_at (hi : i < (A.getD u []).length) (hm : m < (emU F P s0 t0 K U W u ((A.getD u []).getD i (0, 0, 0, 0))).length) : (blk F P s0 t0 K U W A u).getD (cpo F P s0 t0 K U W A u i + m) (0, 0, 0, 0, 0) = (((emU F P s0 t0 K U W u ((A.getD u []).getD i (0, 0, 0, 0))).getD m (0, 0, 0, 0)).1, ((emU F P s0 t0 K U W u ((A.getD u []).getD i (0, 0, 0, 0))).getD m (0, 0, 0, 0)).2.1, ((emU F P s0 t0 K U W u ((A.getD u []).getD i (0, 0, 0, 0))).getD m (0, 0, 0, 0)).2.2.1, ((emU F P s0 t0 K U W u ((A.getD u []).getD i (0, 0, 0, 0))).getD m (0, 0, 0, 0)).2.2.2, if m = 0 then pmM P (emU F P s0 t0 K U W u) (-1) ((A.getD u []).take i) else -1) := by
  unfold blk cpo
  rw [gdR (by rw [List.length_append, emL_len]; omega), List.length_append, emL_len, show (cmN F P s0 t0 K U W A u).length + (hdU K U W u).length + (((A.getD u []).take i).flatMap (emU F P s0 t0 K U W u)).length + m - ((cmN F P s0 t0 K U W A u).length + (hdU K U W u).length) = (((A.getD u []).take i).flatMap (emU F P s0 t0 K U W u)).length + m by omega]
  exact cmM_at (fun r hr => emU_no hr) hi hm
/-- command m of item i of sub u -/
theorem cM_it (hu : u < A.length) (hi : i < (A.getD u []).length) (hm : m < (emU F P s0 t0 K U W u ((A.getD u []).getD i (0, 0, 0, 0))).length) {x : crc} (hx : (emU F P s0 t0 K U W u ((A.getD u []).getD i (0, 0, 0, 0))).getD m (0, 0, 0, 0) = x) : cpo F P s0 t0 K U W A u i + m < (cmN F P s0 t0 K U W A A.length).length ∧ (cmN F P s0 t0 K U W A A.length).getD (cpo F P s0 t0 K U W A u i + m) (0, 0, 0, 0, 0) = (x.1, x.2.1, x.2.2.1, if x.1 = 12 ∨ x.1 = 13 then lbN (blk F P s0 t0 K U W A u) (cmN F P s0 t0 K U W A u).length x.2.1 (blk F P s0 t0 K U W A u).length else x.2.2.2, if m = 0 then pmM P (emU F P s0 t0 K U W u) (-1) ((A.getD u []).take i) else -1) := by
  have m1 := cmN_mono (F := F) (P := P) (s0 := s0) (t0 := t0) (K := K) (U := U) (W := W) (A := A) (u := u + 1) A.length (by omega)
  have c1 := cpo_le (F := F) (P := P) (s0 := s0) (t0 := t0) (K := K) (U := U) (W := W) (A := A) (u := u) (i := i + 1) (by omega)
  rw [cpo_s hi] at c1
  refine ⟨by omega, ?_⟩
  have e := blk_at (F := F) (P := P) (s0 := s0) (t0 := t0) (K := K) (U := U) (W := W) hi hm
  rw [hx] at e
  have bl : cpo F P s0 t0 K U W A u i + m < (blk F P s0 t0 K U W A u).length := by rw [cmN_blk, rsv_len] at c1; omega
  have st : (cmN F P s0 t0 K U W A u).length ≤ cpo F P s0 t0 K U W A u i + m := by unfold cpo; omega
  rw [cmN_pre (u := u + 1) A.length (by omega) _ (by omega), cmN_blk, rsv_at bl, e]
  by_cases c : x.1 = 12 ∨ x.1 = 13
  · rw [if_pos ⟨st, c⟩, if_pos c]
  · rw [if_neg (fun q => c q.2), if_neg c]
/-- every command behind the first ones is of an item -/
theorem loc : ∀ (j : Nat), j ≤ (A.getD u []).length → ∀ k, (cmN F P s0 t0 K U W A u).length + (hdU K U W u).length ≤ k → k < cpo F P s0 t0 K U W A u j → ∃ i m, i < j ∧ m < (emU F P s0 t0 K U W u ((A.getD u []).getD i (0, 0, 0, 0))).length ∧ k = cpo F P s0 t0 K U W A u i + m
  | 0, _, k, h1, h2 => by
    unfold cpo at h2
    simp at h2
    omega
  | j + 1, hj, k, h1, h2 => by
    rw [cpo_s (by omega)] at h2
    by_cases c : k < cpo F P s0 t0 K U W A u j
    · obtain ⟨i, m, a1, a2, a3⟩ := loc j (by omega) k h1 c
      exact ⟨i, m, by omega, a2, a3⟩
    · exact ⟨j, k - cpo F P s0 t0 K U W A u j, by omega, by omega, by omega⟩
/-- labels come of labels alone -/
theorem emI_11 {wl : List wrec} {cv c : Nat} {so : Int} {r : itm} {x : crc} (hx : x ∈ emI F P s0 t0 K U wl cv c so r) (h11 : x.1 = 11) : r.1 = 20 ∧ x = (11, r.2.1, 0, 0) := by
  have ev : ∀ {kd : Int} {j : Nat}, kd ≠ 11 → ¬ x ∈ emV F P t0 wl cv so kd j := fun {kd j} hk h => by
    unfold emV at h
    split at h
    · simp at h
    · rw [List.mem_singleton] at h
      rw [h] at h11
      exact hk h11
  have sc : ∀ (q k i : Nat), ¬ x ∈ strC F q i k := fun q k => by
    induction k with
    | zero => intro i h; simp [strC] at h
    | succ k ih =>
      intro i h
      unfold strC at h
      rcases List.mem_cons.mp h with z | z
      · rw [z] at h11; simp at h11
      · rcases List.mem_cons.mp z with z | z
        · rw [z] at h11; simp at h11
        · exact ih _ z
  have one : ∀ {y : crc}, y.1 ≠ 11 → ¬ x ∈ [y] := fun hy h => by
    rw [List.mem_singleton] at h
    rw [h] at h11
    exact hy h11
  have two : ∀ {y : crc} {ys : List crc}, y.1 ≠ 11 → ¬ x ∈ ys → ¬ x ∈ y :: ys := fun hy hys h => by
    rcases List.mem_cons.mp h with z | z
    · rw [z] at h11; exact hy h11
    · exact hys z
  unfold emI at hx
  by_cases c0 : r.1 = 0
  · rw [if_pos c0] at hx
    split at hx
    · exact absurd hx (two (by decide) (one (by decide)))
    · exact absurd hx (one (by simp))
  rw [if_neg c0] at hx
  by_cases c1 : r.1 = 1
  · rw [if_pos c1] at hx
    exact absurd hx (two (by simp) (two (by simp) (sc _ _ _)))
  rw [if_neg c1] at hx
  by_cases c3 : r.1 = 3
  · rw [if_pos c3] at hx
    exact absurd hx (one (by decide))
  rw [if_neg c3] at hx
  by_cases c4 : r.1 = 4
  · rw [if_pos c4] at hx
    exact absurd hx (ev (by decide))
  rw [if_neg c4] at hx
  by_cases c5 : r.1 = 5
  · rw [if_pos c5] at hx
    exact absurd hx (two (by decide) (two (by decide) (one (by decide))))
  rw [if_neg c5] at hx
  by_cases c6 : r.1 = 6
  · rw [if_pos c6] at hx
    refine absurd hx (one ?_)
    unfold opC
    repeat' split
    all_goals decide
  rw [if_neg c6] at hx
  by_cases c7 : r.1 = 7
  · rw [if_pos c7] at hx
    exact absurd hx (one (by decide))
  rw [if_neg c7] at hx
  by_cases c8 : r.1 = 8
  · rw [if_pos c8] at hx
    exact absurd hx (one (by decide))
  rw [if_neg c8] at hx
  by_cases c9 : r.1 = 9
  · rw [if_pos c9] at hx
    split at hx
    · exact absurd hx (one (by decide))
    · exact absurd hx (ev (by decide))
  rw [if_neg c9] at hx
  by_cases c10 : r.1 = 10
  · rw [if_pos c10] at hx
    split at hx
    · exact absurd hx (one (by simp [cmC]))
    · split at hx
      · split at hx
        · simp at hx
        · exact absurd hx (one (by simp [cmC]))
      · exact absurd hx (one (by simp [cmC]))
  rw [if_neg c10] at hx
  by_cases c13 : r.1 = 13
  · rw [if_pos c13] at hx
    exact absurd hx (ev (by decide))
  rw [if_neg c13] at hx
  by_cases c14 : r.1 = 14
  · rw [if_pos c14] at hx
    exact absurd hx (two (by decide) (two (by decide) (two (by decide) (one (by decide)))))
  rw [if_neg c14] at hx
  by_cases c15 : r.1 = 15
  · rw [if_pos c15] at hx
    exact absurd hx (two (by decide) (two (by decide) (one (by simp))))
  rw [if_neg c15] at hx
  by_cases c16 : r.1 = 16
  · rw [if_pos c16] at hx
    exact absurd hx (one (by simp))
  rw [if_neg c16] at hx
  by_cases c18 : r.1 = 18
  · rw [if_pos c18] at hx
    exact absurd hx (one (by decide))
  rw [if_neg c18] at hx
  by_cases c19 : r.1 = 19
  · rw [if_pos c19] at hx
    exact absurd hx (one (by decide))
  rw [if_neg c19] at hx
  by_cases c20 : r.1 = 20
  · rw [if_pos c20, List.mem_singleton] at hx
    exact ⟨c20, hx⟩
  rw [if_neg c20] at hx
  simp at hx
theorem labs_inj : ∀ (l : List itm), (labs l).Nodup → ∀ i j, i < l.length → j < l.length → (l.getD i (0, 0, 0, 0)).1 = 20 → (l.getD j (0, 0, 0, 0)).1 = 20 → (l.getD i (0, 0, 0, 0)).2.1 = (l.getD j (0, 0, 0, 0)).2.1 → i = j
  | [], _, i, j, hi, _, _, _, _ => by simp at hi
  | r :: l, hn, i, j, hi, hj, h1, h2, h3 => by
    have mem : ∀ k, k < l.length → (l.getD k (0, 0, 0, 0)).1 = 20 → (l.getD k (0, 0, 0, 0)).2.1 ∈ labs l := fun k hk q => by
      unfold labs
      exact List.mem_map.mpr ⟨_, List.mem_filter.mpr ⟨gm hk, decide_eq_true q⟩, rfl⟩
    rw [List.length_cons] at hi hj
    have tl : (labs l).Nodup ∧ (r.1 = 20 → r.2.1 ∉ labs l) := by
      by_cases c : r.1 = 20
      · have e : labs (r :: l) = r.2.1 :: labs l := by simp [labs, c]
        rw [e, List.nodup_cons] at hn
        exact ⟨hn.2, fun _ => hn.1⟩
      · have e : labs (r :: l) = labs l := by simp [labs, c]
        rw [e] at hn
        exact ⟨hn, fun q => absurd q c⟩
    cases i with
    | zero =>
      cases j with
      | zero => rfl
      | succ j =>
        rw [List.getD_cons_zero] at h1 h3
        rw [List.getD_cons_succ] at h2 h3
        exact absurd (by rw [h3]; exact mem j (by omega) h2) (tl.2 h1)
    | succ i =>
      cases j with
      | zero =>
        rw [List.getD_cons_zero] at h2 h3
        rw [List.getD_cons_succ] at h1 h3
        exact absurd (by rw [← h3]; exact mem i (by omega) h1) (tl.2 h2)
      | succ j =>
        rw [List.getD_cons_succ] at h1 h2 h3
        rw [List.getD_cons_succ] at h3
        rw [labs_inj l tl.1 i j (by omega) (by omega) h1 h2 h3]
/-- a jump's target in the class -/
theorem lb_tg {j : Nat} (hn : (labs (A.getD u [])).Nodup) (hj : j < (A.getD u []).length) (h20 : ((A.getD u []).getD j (0, 0, 0, 0)).1 = 20) : lbN (blk F P s0 t0 K U W A u) (cmN F P s0 t0 K U W A u).length ((A.getD u []).getD j (0, 0, 0, 0)).2.1 (blk F P s0 t0 K U W A u).length = ((cpo F P s0 t0 K U W A u (j + 1) : Nat) : Int) := by
  have e20 : emU F P s0 t0 K U W u ((A.getD u []).getD j (0, 0, 0, 0)) = [(11, ((A.getD u []).getD j (0, 0, 0, 0)).2.1, 0, 0)] := by
    unfold emU emI
    rw [h20]
    simp
  have cs1 := cpo_s (F := F) (P := P) (s0 := s0) (t0 := t0) (K := K) (U := U) (W := W) (A := A) (u := u) hj
  rw [e20, List.length_singleton] at cs1
  have b1 := blk_at (F := F) (P := P) (s0 := s0) (t0 := t0) (K := K) (U := U) (W := W) (A := A) (u := u) (m := 0) hj (by rw [e20]; simp)
  rw [e20, Nat.add_zero] at b1
  have cl := cpo_le (F := F) (P := P) (s0 := s0) (t0 := t0) (K := K) (U := U) (W := W) (A := A) (u := u) (i := j + 1) (by omega)
  rw [cmN_blk, rsv_len] at cl
  rw [cs1]
  refine lbN_u (by unfold cpo; omega) (by rw [b1]; exact ⟨rfl, rfl⟩) _ (by omega) (fun k' z1 z2 q => ?_)
  have ce := cpo_end (F := F) (P := P) (s0 := s0) (t0 := t0) (K := K) (U := U) (W := W) (A := A) (u := u)
  rw [cmN_blk, rsv_len] at ce
  obtain ⟨i', m', a1, a2, a3⟩ := loc (F := F) (P := P) (s0 := s0) (t0 := t0) (K := K) (U := U) (W := W) (A := A) (u := u) _ (Nat.le_refl _) k' (Nat.le_trans (show (cmN F P s0 t0 K U W A u).length + (hdU K U W u).length ≤ cpo F P s0 t0 K U W A u j by unfold cpo; omega) (by omega)) (by omega)
  have b2 := blk_at (F := F) (P := P) (s0 := s0) (t0 := t0) (K := K) (U := U) (W := W) (A := A) (u := u) a1 a2
  rw [a3, b2] at q
  obtain ⟨q1, q2⟩ := q
  have hx : (emU F P s0 t0 K U W u ((A.getD u []).getD i' (0, 0, 0, 0))).getD m' (0, 0, 0, 0) ∈ emU F P s0 t0 K U W u ((A.getD u []).getD i' (0, 0, 0, 0)) := gd_mem a2
  obtain ⟨y1, y2⟩ := emI_11 hx q1
  have y3 : ((A.getD u []).getD i' (0, 0, 0, 0)).2.1 = ((A.getD u []).getD j (0, 0, 0, 0)).2.1 := by
    rw [← q2]
    show _ = ((emU F P s0 t0 K U W u ((A.getD u []).getD i' (0, 0, 0, 0))).getD m' (0, 0, 0, 0)).2.1
    rw [y2]
  have ei := labs_inj _ hn i' j a1 hj y1 h20 y3
  subst ei
  rw [e20] at a2
  simp at a2
  omega
end RNf
