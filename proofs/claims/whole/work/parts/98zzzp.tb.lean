/-! all commands of the reference are the class's: the loops -/
section CMd
variable {F : Nat → Int} {n N : Nat} {P : Nat → Nat} {s0 t0 t t' t'' : iS} {j u k x : Nat} {K : List Nat} {U : List urec} {W : List wrec} {Y : List Nat} {A : List (List itm)} {I C p w : Nat}
theorem drop_c {α : Type} {d : α} {l : List α} {i : Nat} (h : i < l.length) : l.drop i = l.getD i d :: l.drop (i + 1) := by
  rw [List.drop_eq_getElem_cons h, List.getD_eq_getElem?_getD, List.getElem?_eq_getElem h]
  rfl
/-- the items of a sub -/
theorem cmdI (h : RG F n N P s0 t0 K U W Y t) (h169 : ∀ i, i < U.length → t 169 i = (i : Int) - (U.countP (fun u => decide (u.1 < (uAt U i).1)) : Int)) (hu : u < U.length) {st e : Nat} {ls : List itm} (he : e = st + ls.length) (he2 : e ≤ 5000) (hr : ∀ i, i < ls.length → ITR F P s0 t0 K U W u (ls.getD i (0, 0, 0, 0)) t (st + i)) : ∀ (m i : Nat) (l : List (Int × Int × Int)) (t1 : iS), i + m = ls.length → RCm l t1 → FM t t1 → l.length + ((ls.drop i).flatMap (emU F P s0 t0 K U W u)).length ≤ 3000 → ∃ t', m_command_157 ((st + i : Nat) : Int) (u : Int) (e : Int) t1 = some (.inl ((e : Int), (u : Int) + 1, t')) ∧ RCm (l ++ ((ls.drop i).flatMap (emU F P s0 t0 K U W u)).map c3) t' ∧ FM t t'
  | 0, i, l, t1, hi, hc, hf, hl => by
    have st' : m_command_157b ((st + i : Nat) : Int) (u : Int) (e : Int) t1 = some (.inr ((e : Int), t1)) := by
      unfold m_command_157b
      rw [gr (by omega), gr (by omega), if_pos (by omega), show st + i = e by omega]
    refine ⟨t1, ?_, ?_, hf⟩
    · unfold m_command_157
      rw [lp_end (f := fun l : Int × iS => m_command_157b (l.1) (u : Int) (e : Int) (l.2)) (l := (((st + i : Nat) : Int), t1)) st']
      rfl
    · rw [List.drop_of_length_le (by omega), List.flatMap_nil, List.map_nil, List.append_nil]
      exact hc
  | m + 1, i, l, t1, hi, hc, hf, hl => by
    rw [drop_c (d := ((0, 0, 0, 0) : itm)) (show i < ls.length by omega), List.flatMap_cons, List.length_append] at hl
    obtain ⟨t2, e1, e2, e3⟩ := comI_ok (k := st + i) (u := u) (RG_fm h hf) (fun i hi => by rw [hf 169 i (by omega) (by omega) (by omega) (by omega)]; exact h169 i hi) hc (by omega) (by omega) hu (ITR_fm (hr i (by omega)) hf)
    have st' : m_command_157b ((st + i : Nat) : Int) (u : Int) (e : Int) t1 = some (.inl (((st + (i + 1) : Nat) : Int), t2)) := by
      unfold m_command_157b
      rw [gr (by omega), gr (by omega), if_neg (by omega), e1, bq, show ((st + i : Nat) : Int) + 1 = ((st + (i + 1) : Nat) : Int) by omega]
    have len : (l ++ (emU F P s0 t0 K U W u (ls.getD i (0, 0, 0, 0))).map c3).length = l.length + (emU F P s0 t0 K U W u (ls.getD i (0, 0, 0, 0))).length := by rw [List.length_append, List.length_map]
    obtain ⟨t3, f1, f2, f3⟩ := cmdI h h169 hu he he2 hr m (i + 1) (l ++ (emU F P s0 t0 K U W u (ls.getD i (0, 0, 0, 0))).map c3) t2 (by omega) e2 (FM_trans hf e3) (by rw [len]; omega)
    refine ⟨t3, ?_, ?_, f3⟩
    · rw [← f1]
      unfold m_command_157
      rw [lp_next (f := fun l : Int × iS => m_command_157b (l.1) (u : Int) (e : Int) (l.2)) (l := (((st + i : Nat) : Int), t1)) st']
    · rw [drop_c (d := ((0, 0, 0, 0) : itm)) (show i < ls.length by omega), List.flatMap_cons, List.map_append, ← List.append_assoc]
      exact f2
/-- the items of all subs are as the checks left them -/
def CMh (F : Nat → Int) (P : Nat → Nat) (s0 t0 : iS) (K : List Nat) (U : List urec) (W : List wrec) (A : List (List itm)) (I : Nat) (t : iS) : Prop := A.length = U.length ∧ I = stA A A.length ∧ I ≤ 5000 ∧ t 121 33 = (I : Int) ∧ (∀ u, u < A.length → t 136 u = (stA A u : Int)) ∧ (∀ u i, u < A.length → i < (A.getD u []).length → ITR F P s0 t0 K U W u ((A.getD u []).getD i (0, 0, 0, 0)) t (stA A u + i)) ∧ (∀ i, i < U.length → t 169 i = (i : Int) - (U.countP (fun u => decide (u.1 < (uAt U i).1)) : Int)) ∧ (∀ u, u ≤ A.length → (cmN F P s0 t0 K U W A u).length ≤ 3000)
/-- one sub -/
theorem cmdU (h : RG F n N P s0 t0 K U W Y t) (hm : CMh F P s0 t0 K U W A I t) (hu : u < U.length) {t1 : iS} (hc : RCm ((cmN F P s0 t0 K U W A u).map c4) t1) (hf : FM t t1) : ∃ t', m_command_9b ((stA A u : Nat) : Int) (u : Int) t1 = some (.inl (((stA A (u + 1) : Nat) : Int), (u : Int) + 1, t')) ∧ RCm ((cmN F P s0 t0 K U W A (u + 1)).map c4) t' ∧ FM t t' := by
  obtain ⟨m1, m2, m3, m4, m5, m6, m7, m8⟩ := hm
  have hK := h.2.1.2.2.1
  have hU := h.2.1.2.2.2.2.2.1
  have hW := h.2.2.2.1
  have huA : u < A.length := by omega
  have len0 := m8 u (by omega)
  have len1 := m8 (u + 1) (by omega)
  have lc := congrArg List.length (cmN_s (F := F) (P := P) (s0 := s0) (t0 := t0) (K := K) (U := U) (W := W) (A := A) (u := u))
  rw [List.length_map, List.length_append, List.length_append, List.length_map, List.length_map, List.length_map] at lc
  have g1 := RG_fm h hf
  obtain ⟨u1, u2, u3, u4, u5, u6, u7, u8, u9, u10, u11⟩ := RG_U g1 hu
  have u1' : t1 130 u = (uAt U u).1 := u1
  have u2' : t1 131 u = soF U u := u2
  have u7' : 0 ≤ (uAt U u).1 := u7
  have u8' : (uAt U u).1 < (K.length : Int) := u8
  have so : soF U u = 1 ∨ soF U u = 2 ∨ soF U u = 3 := u11
  have ecl : (clF U u : Int) = (uAt U u).1 := by
    have : clF U u = (uAt U u).1.toNat := rfl
    omega
  have stu := stA_s huA
  have stI : stA A (u + 1) ≤ I := by
    have mono : ∀ m v, v + m = A.length → stA A v ≤ I := by
      intro m
      induction m with
      | zero => intro v e; rw [show v = A.length by omega, m2]; exact Nat.le_refl _
      | succ m ih =>
        intro v e
        have := stA_s (A := A) (show v < A.length by omega)
        have := ih (v + 1) (by omega)
        omega
    exact mono (A.length - (u + 1)) (u + 1) (by omega)
  -- the number
  have num : m_numberOf (8 + (uAt U u).1) (u : Int) t1 = some (nmbT K U (8 + (clF U u : Int)) (40 + (u : Int)), t1) := by
    have e1 := fsT_own h (c := (uAt U u).1.toNat) (by omega)
    rw [Int.toNat_of_nonneg u7'] at e1
    unfold m_numberOf nmbT
    rw [gr (by omega), if_pos (by omega), gd_pos (by omega), Int.toNat_natCast, hf 169 u (by omega) (by omega) (by omega) (by omega), m7 u hu, ecl, if_neg (by omega), show ((8 : Int) + (uAt U u).1).toNat = 8 + (uAt U u).1.toNat by omega, e1]
    refine congrArg some (Prod.ext ?_ rfl)
    show 100 * (8 + (uAt U u).1) + ((u : Int) - _) = 100 * (8 + (uAt U u).1) + (40 + (u : Int)) - (40 + _)
    omega
  have nv : t1 135 u = (nwV (u : Int) W : Int) := (g1.2.1.2.2.2.2.2.2.2.2.2.2.2.2 u hu).2
  -- behind the header
  have tail : ∀ (hd : List crc) (t2 : iS), hdrU K U (soF U u) (8 + (clF U u : Int)) (40 + (u : Int)) (nwV (u : Int) W) (nwF (clF U u : Int) W) = hd → RCm ((cmN F P s0 t0 K U W A u).map c4 ++ hd.map c3) t2 → FM t t2 → ∃ t', m_command_131 ((stA A u : Nat) : Int) (u : Int) t2 = some (.inl (((stA A (u + 1) : Nat) : Int), (u : Int) + 1, t')) ∧ RCm ((cmN F P s0 t0 K U W A (u + 1)).map c4) t' ∧ FM t t' := fun hd t2 eh c2 f2 => by
    rw [eh] at lc
    obtain ⟨t', e1, e2, e3⟩ := cmdI (st := stA A u) (e := stA A (u + 1)) (ls := A.getD u []) h m7 hu stu (by omega) (fun i hi => m6 u i huA hi) (A.getD u []).length 0 _ t2 (by omega) c2 f2 (by rw [List.drop_zero, List.length_append, List.length_map, List.length_map]; omega)
    rw [Nat.add_zero] at e1
    rw [List.drop_zero] at e2
    refine ⟨t', ?_, by rw [cmN_s, eh]; exact e2, e3⟩
    unfold m_command_131 m_command_156
    rw [gr (by omega), f2 121 17 (by omega) (by omega) (by omega) (by omega), h.2.1.2.2.2.1, gr (by omega)]
    by_cases c : (U.length : Int) ≤ (u : Int) + 1
    · rw [if_pos c, f2 121 33 (by omega) (by omega) (by omega) (by omega), m4, show I = stA A (u + 1) by rw [m2, show A.length = u + 1 by omega]]
      exact e1
    · rw [if_neg c, gd_pos (by omega), show ((u : Int) + 1).toNat = u + 1 by omega, f2 136 (u + 1) (by omega) (by omega) (by omega) (by omega), m5 (u + 1) (by omega)]
      exact e1
  have len2 : ((cmN F P s0 t0 K U W A u).map c4).length ≤ 3000 := by rw [List.length_map]; exact len0
  unfold m_command_9b
  rw [gr (by omega), g1.2.1.2.2.2.1, gr (by omega), if_neg (by omega), gd_pos (by omega), Int.toNat_natCast, u1', num, bq, nv, com_eq hc (by omega)]
  have c1 : RCm ((cmN F P s0 t0 K U W A u).map c4 ++ [(14, nmbT K U (8 + (clF U u : Int)) (40 + (u : Int)), (nwV (u : Int) W : Int))]) (cmT t1 ((cmN F P s0 t0 K U W A u).map c4).length 14 (nmbT K U (8 + (clF U u : Int)) (40 + (u : Int))) (nwV (u : Int) W : Int)) := cmT_RC hc
  have f1 : FM t (cmT t1 ((cmN F P s0 t0 K U W A u).map c4).length 14 (nmbT K U (8 + (clF U u : Int)) (40 + (u : Int))) (nwV (u : Int) W : Int)) := FM_trans hf cmT_FM
  generalize cmT t1 ((cmN F P s0 t0 K U W A u).map c4).length 14 (nmbT K U (8 + (clF U u : Int)) (40 + (u : Int))) (nwV (u : Int) W : Int) = t2 at c1 f1 ⊢
  have r131 : ∀ t3, FM t t3 → t3 131 u = soF U u := fun t3 f3 => (RG_U (RG_fm h f3) hu).2.1
  have r130 : ∀ t3, FM t t3 → t3 130 u = (uAt U u).1 := fun t3 f3 => (RG_U (RG_fm h f3) hu).1
  have r129 : ∀ t3, FM t t3 → t3 129 (uAt U u).1.toNat = (nwF (uAt U u).1 W : Int) := fun t3 f3 => by
    have := (RG_fm h f3).2.1.2.2.2.2.2.2.2.2.2.2.2.1 (uAt U u).1.toNat (by omega)
    rw [Int.toNat_of_nonneg u7'] at this
    exact this
  have len3 : ((cmN F P s0 t0 K U W A u).map c4 ++ [((14 : Int), nmbT K U (8 + (clF U u : Int)) (40 + (u : Int)), (nwV (u : Int) W : Int))]).length ≤ 3001 := by rw [List.length_append, List.length_singleton]; omega
  rw [r131 t2 f1, gr (by omega)]
  by_cases s3 : soF U u = 3
  · have e2 := cmT_RC (a := 1) (b := 6) (c := 0) (cmT_RC (a := 0) (b := 1) (c := 0) c1)
    have f3 := FM_trans f1 (FM_trans (cmT_FM (t := t2) (m := ((cmN F P s0 t0 K U W A u).map c4 ++ [((14 : Int), nmbT K U (8 + (clF U u : Int)) (40 + (u : Int)), (nwV (u : Int) W : Int))]).length) (a := 0) (b := 1) (c := 0)) (cmT_FM (m := ((cmN F P s0 t0 K U W A u).map c4 ++ [((14 : Int), nmbT K U (8 + (clF U u : Int)) (40 + (u : Int)), (nwV (u : Int) W : Int))] ++ [((0 : Int), (1 : Int), (0 : Int))]).length) (a := 1) (b := 6) (c := 0)))
    rw [if_pos s3, com_eq c1 (by omega), com_eq (cmT_RC c1) (by rw [List.length_append, List.length_singleton]; omega)]
    generalize cmT (cmT t2 ((cmN F P s0 t0 K U W A u).map c4 ++ [((14 : Int), nmbT K U (8 + (clF U u : Int)) (40 + (u : Int)), (nwV (u : Int) W : Int))]).length 0 1 0) ((cmN F P s0 t0 K U W A u).map c4 ++ [((14 : Int), nmbT K U (8 + (clF U u : Int)) (40 + (u : Int)), (nwV (u : Int) W : Int))] ++ [((0 : Int), (1 : Int), (0 : Int))]).length 1 6 0 = t3 at e2 f3 ⊢
    unfold m_command_68
    rw [gd_pos (by omega), Int.toNat_natCast, r131 t3 f3, gr (by omega), if_neg (by omega)]
    refine tail _ t3 rfl ?_ f3
    unfold hdrU
    rw [if_pos s3]
    rw [List.append_assoc, List.append_assoc] at e2
    exact e2
  · rw [if_neg s3]
    unfold m_command_68
    rw [gd_pos (by omega), Int.toNat_natCast, r131 t2 f1, gr (by omega)]
    by_cases s1 : soF U u = 1
    · have nf : nwF (uAt U u).1 W ≤ W.length := List.countP_le_length
      rw [if_pos s1, r130 t2 f1, gd_pos (by omega), r129 t2 f1, gr (by omega)]
      have m111 : ∀ y : Int, y = (if (1 : Int) < (nwF (clF U u : Int) W : Int) then (nwF (clF U u : Int) W : Int) else 1) → ∃ t', m_command_111 ((stA A u : Nat) : Int) (u : Int) y 0 0 t2 = some (.inl (((stA A (u + 1) : Nat) : Int), (u : Int) + 1, t')) ∧ RCm ((cmN F P s0 t0 K U W A (u + 1)).map c4) t' ∧ FM t t' := fun y ey => by
        unfold m_command_111
        rw [com_eq c1 (by omega), com_eq (cmT_RC c1) (by rw [List.length_append, List.length_singleton]; omega), com_eq (cmT_RC (cmT_RC c1)) (by rw [List.length_append, List.length_append, List.length_singleton, List.length_singleton]; omega)]
        refine tail _ _ rfl ?_ (FM_trans f1 (FM_trans cmT_FM (FM_trans cmT_FM cmT_FM)))
        have e2 := cmT_RC (a := 1) (b := 6) (c := 0) (cmT_RC (a := 15) (b := 102) (c := 1) (cmT_RC (a := 0) (b := 0) (c := y) c1))
        unfold hdrU
        rw [if_neg s3, if_pos s1]
        rw [List.append_assoc, List.append_assoc, List.append_assoc] at e2
        rw [ey] at e2 ⊢
        exact e2
      by_cases c : (1 : Int) ≤ (nwF (uAt U u).1 W : Int)
      · rw [if_pos c]
        refine m111 _ ?_
        rw [ecl]
        split <;> omega
      · rw [if_neg c]
        refine m111 _ ?_
        rw [ecl, if_neg (by omega)]
    · rw [if_neg s1]
      refine tail _ t2 rfl ?_ f1
      unfold hdrU
      rw [if_neg s3, if_neg s1]
      exact c1
/-- all subs -/
theorem cmd_ok (h : RG F n N P s0 t0 K U W Y t) (hm : CMh F P s0 t0 K U W A I t) : ∃ t', m_command t = some (0, t') ∧ RCm ((cmN F P s0 t0 K U W A A.length).map c4) t' ∧ FM t t' := by
  have hU := h.2.1.2.2.2.2.2.1
  have hAU := hm.1
  have f0 : FM t (up t 121 76 0) := fun c k _ _ _ q => up_ne q
  have lo : ∀ (m u : Nat) (t1 : iS), u + m = U.length → RCm ((cmN F P s0 t0 K U W A u).map c4) t1 → FM t t1 → ∃ t', m_command_9 ((stA A u : Nat) : Int) (u : Int) t1 = some (0, t') ∧ RCm ((cmN F P s0 t0 K U W A A.length).map c4) t' ∧ FM t t' := by
    intro m
    induction m with
    | zero =>
      intro u t1 hu hc hf
      have st : m_command_9b ((stA A u : Nat) : Int) (u : Int) t1 = some (.inr t1) := by
        unfold m_command_9b
        rw [gr (by omega), hf 121 17 (by omega) (by omega) (by omega) (by omega), h.2.1.2.2.2.1, gr (by omega), if_pos (by omega)]
      refine ⟨t1, ?_, by rw [hAU, ← (show u = U.length by omega)]; exact hc, hf⟩
      unfold m_command_9
      rw [lp_end (f := fun l : Int × Int × iS => m_command_9b (l.1) (l.2.1) (l.2.2)) (l := (((stA A u : Nat) : Int), (u : Int), t1)) st]
      rfl
    | succ m ih =>
      intro u t1 hu hc hf
      obtain ⟨t2, e1, e2, e3⟩ := cmdU h hm (u := u) (by omega) hc hf
      obtain ⟨t3, d1, d2, d3⟩ := ih (u + 1) t2 (by omega) e2 e3
      refine ⟨t3, ?_, d2, d3⟩
      rw [← d1]
      unfold m_command_9
      rw [lp_next (f := fun l : Int × Int × iS => m_command_9b (l.1) (l.2.1) (l.2.2)) (l := (((stA A u : Nat) : Int), (u : Int), t1)) e1]
      rfl
  obtain ⟨t', e1, e2, e3⟩ := lo U.length 0 (up t 121 76 0) (by omega) ⟨up_same _ _ _ _, fun i hi => by simp [cmN] at hi⟩ f0
  refine ⟨t', ?_, e2, e3⟩
  unfold m_command
  rw [lt_eq]
  exact e1
end CMd
