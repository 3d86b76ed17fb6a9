/-! both machines: variables, values that are read -/
section RNp
variable {F : Nat → Int} {n N : Nat} {P : Nat → Nat} {s0 t0 : iS} {K : List Nat} {U : List urec} {W : List wrec} {Y : List Nat} {A : List (List itm)} {I C p w u i j k fu m : Nat} {tr t1 t2 t3 s s' t t' q qB sB s1 : iS} {r : itm} {x : crc} {f : frm} {g : List frm} {pv vv st st' L M : List Int} {ob v v' : Int}
/-- behind an effect its value is pushed -/
theorem EFF_tail {r r' : Int} (h : LB s t) (ho : gO s t ∧ r = i_s r' ∨ kO s t) (h9 : s 48 9 = 0) (hs : STK s L) (ht : RTK t M) (hL : L.length < 16384) (hM : M.length < 20000) : ∃ s' t', bd (mac_push r s) (fun _ s4 => mac_doCommand_258 s4) = some (0, s') ∧ m_put r' t = some (0, t') ∧ (∀ c k, c ≠ 52 → ¬ (c = 51 ∧ (k = 6 ∨ k = 14)) → s' c k = s c k) ∧ (∀ c k, c ≠ 180 → ¬ (c = 121 ∧ k = 87) → t' c k = t c k) ∧ LB s' t' ∧ (gO s' t' ∧ s' 51 14 = s 51 14 ∧ STK s' (L ++ [r]) ∧ RTK t' (M ++ [r]) ∧ w16 r ∨ s' 51 14 = 3 ∧ t' 121 99 = 3) := by
  obtain ⟨s4, a1, a2, a3⟩ := push_ex (v := r) hs hL
  obtain ⟨t4, b1, b2, b3⟩ := rput_ex (v := i_s r') (v' := r') ht hM rfl
  have lb : LB s4 t4 := LB_of h (fun c k z => a3 c k (by omega) (by omega)) (fun c k z => b3 c k (by omega) (by omega))
  rcases ho with ⟨g, e⟩ | g
  · refine ⟨s4, t4, ?_, b1, fun c k z1 z2 => a3 c k z1 (by omega), b3, lb, Or.inl ⟨⟨by rw [a3 44 5 (by omega) (by omega)]; exact g.1, by rw [b3 121 99 (by omega) (by omega)]; exact g.2⟩, a3 51 14 (by omega) (by omega), a2, by rw [e]; exact b2, by rw [e]; exact i_s_rg _⟩⟩
    rw [a1, bq, d258 (by rw [a3 44 5 (by omega) (by omega)]; exact g.1) (by rw [a3 48 9 (by omega) (by omega)]; exact h9)]
  · refine ⟨up s4 51 14 3, t4, ?_, b1, fun c k z1 z2 => by rw [up_ne (by omega)]; exact a3 c k z1 (by omega), b3, LB_of lb (fun c k z => up_ne (by omega)) (fun _ _ _ => rfl), Or.inr ⟨up_same _ _ _ _, by rw [b3 121 99 (by omega) (by omega)]; exact g.2⟩⟩
    rw [a1, bq, d258_f (by rw [a3 44 5 (by omega) (by omega)]; exact g.1)]
theorem rvI_own (h : rvI F P t0 U W u j = (k : Int)) : (wGt W k).2.2.1 = 2 ∨ (wGt W k).2.2.1 = 3 → (wGt W k).2.1 = (u : Int) := by
  have r1 := fst1_rg (P := fun i => (wGt W i).2.1 = (u : Int) ∧ nmT F P t0 (wGt W i).2.2.2.2.1 = nmT F P t0 j) W.length 0
  have r2 := fun so => fst1_rg (P := fun i => ((wGt W i).2.1 = -1 ∧ (wGt W i).1 = (uAt U u).1 ∧ (wGt W i).2.2.1 = so) ∧ nmT F P t0 (wGt W i).2.2.2.2.1 = nmT F P t0 j) W.length 0
  change vOw F P t0 W u j 0 W.length = -1 ∨ _ ≤ vOw F P t0 W u j 0 W.length ∧ vOw F P t0 W u j 0 W.length < _ ∧ (wGt W (vOw F P t0 W u j 0 W.length).toNat).2.1 = (u : Int) ∧ _ at r1
  change ∀ so, vCl F P t0 U W so u j 0 W.length = -1 ∨ _ ≤ vCl F P t0 U W so u j 0 W.length ∧ vCl F P t0 U W so u j 0 W.length < _ ∧ ((wGt W (vCl F P t0 U W so u j 0 W.length).toNat).2.1 = -1 ∧ _ ∧ (wGt W (vCl F P t0 U W so u j 0 W.length).toNat).2.2.1 = so) ∧ _ at r2
  intro q
  unfold rvI at h
  split at h
  · split at h
    · rcases r2 0 with z | ⟨_, _, z, _⟩
      · omega
      · rw [h, Int.toNat_natCast] at z
        omega
    · rcases r2 1 with z | ⟨_, _, z, _⟩
      · omega
      · rw [h, Int.toNat_natCast] at z
        omega
  · rcases r1 with z | ⟨_, _, z, _⟩
    · omega
    · rw [h, Int.toNat_natCast] at z
      exact z
/-- a variable's rows -/
theorem var_rows (hP : PRG F n N P s0 t0 K U W Y A I C p w tr t1 t2 t3) (hx : rvI F P t0 U W u j = (k : Int)) (he : ∀ c k, 128 ≤ c ∧ c ≤ 156 ∨ 169 ≤ c ∧ c ≤ 171 → t c k = t3 c k) : k < 1100 ∧ (t 139 k = (wGt W k).2.2.1 ∧ t 142 k = (wGt W k).2.2.2.2.2.1 ∧ t 143 k = (wGt W k).2.2.2.2.2.2) ∧ (0 ≤ (wGt W k).2.2.1 ∧ (wGt W k).2.2.1 ≤ 3) ∧ (0 ≤ (wGt W k).2.2.2.2.2.1 ∧ (wGt W k).2.2.2.2.2.1 < 12) ∧ (0 ≤ (wGt W k).2.2.2.2.2.2 ∧ (wGt W k).2.2.2.2.2.2 < 12) ∧ ((wGt W k).2.2.1 = 2 → (wGt W k).2.2.2.2.2.1 < (nwP (u : Int) W : Int)) ∧ ((wGt W k).2.2.1 = 3 → (wGt W k).2.2.2.2.2.1 < (nwV (u : Int) W : Int)) ∧ ((wGt W k).2.2.1 = 1 → (wGt W k).2.1 = -1) := by
  obtain ⟨h1, h2, h3, -, h8, h9, hf, h11, -⟩ := hP
  have own := rvI_own hx
  have kl : k < W.length := by
    rcases rvI_rg (F := F) (P := P) (t0 := t0) (U := U) (W := W) (u := u) (j := j) with z | z <;> omega
  obtain ⟨z1, -, -, -⟩ := h9
  obtain ⟨d1, -, -, -⟩ := h11
  have e : ∀ c, c = 139 ∨ c = 142 ∨ c = 143 → t c k = tr c k := fun c q => by
    rw [he c k (by omega), d1 c k (by omega) (by omega) (by omega), hf c k (by omega), z1 c k (by omega) (by omega) (by omega) (by omega)]
  have w11 := h1.2.2.2.1
  obtain ⟨-, -, a3, -, -, a6, a7⟩ := h1.2.1.2.2.2.2.2.2.2.1 k kl
  have m : wGt W k ∈ W := gd_mem (d := ((0, 0, 0, 0, 0, 0, 0) : wrec)) kl
  obtain ⟨⟨-, -, b3, b4⟩, -, b5, b6, b7, -⟩ := h8.1 _ m
  obtain ⟨c1, c2⟩ := h8.2.2.2.2.2 _ m
  refine ⟨by omega, ⟨by rw [e 139 (by omega)]; exact a3, by rw [e 142 (by omega)]; exact a6, by rw [e 143 (by omega)]; exact a7⟩, ?_, b3, b4, fun z => ?_, fun z => ?_, fun z => ?_⟩
  · by_cases q : (wGt W k).2.1 = -1
    · have := b6 q; omega
    · have := b7 q; omega
  · have := c1 z
    rw [own (Or.inl z)] at this
    exact this
  · have := c2 z
    rw [own (Or.inr z)] at this
    exact this
  · by_cases q : (wGt W k).2.1 = -1
    · exact q
    · have := b7 q; omega
theorem gdp {L A B C : List Int} {k : Nat} (h : k < B.length) : (L ++ (A ++ B ++ C)).getD (L.length + A.length + k) 0 = B.getD k 0 := by
  rw [List.getD_eq_getElem?_getD, List.getElem?_append_right (by omega), List.getElem?_append_left (by rw [List.length_append]; omega), List.getElem?_append_right (by omega), List.getD_eq_getElem?_getD]
  congr 2
  omega
theorem preF_l : (preF U (u, i, pv, vv, st, ob)).length = if soF U u = 3 then 1 else 0 := by
  unfold preF
  dsimp only
  split <;> rfl
/-- a variable that is no field -/
theorem var_go (hP : PRG F n N P s0 t0 K U W Y A I C p w tr t1 t2 t3) (h : SIM F P s0 t0 K U W A t3 fu s t (u, i, pv, vv, st, ob) g) (hx : rvI F P t0 U W u j = (k : Int)) (hk : (wGt W k).2.2.1 ≠ 1) : ∃ v, w16 v ∧ (∀ q : iS, (∀ c k, ¬ (c = 51 ∧ (k = 7 ∨ k = 16 ∨ k = 18)) → q c k = s c k) → mac_valueOf (sgT (wGt W k)) (nuT (soF U u) (wGt W k)) (wGt W k).2.2.2.2.2.2 q = some (v, q)) ∧ (∀ t' : iS, (∀ c k, ¬ (c = 121 ∧ k = 98) → t' c k = t c k) → m_variable (k : Int) t' = some (v, t')) := by
  obtain ⟨L1, L2⟩ := SIM_len hP h
  obtain ⟨⟨-, g2, -⟩, ⟨⟨-, ⟨b2, b2'⟩, ⟨b3, b3', -⟩, b4, b5, -⟩, -⟩, ⟨hs, -⟩, -, ⟨-, k2, k3, -⟩, ⟨m1, m2, -⟩, hst, -, -, -, -, -⟩ := h
  dsimp only at b2 b2' b3 b3' b4 b5 m2
  obtain ⟨v1, ⟨v2, v3, v4⟩, v5, v6, v7, v8, v9, -⟩ := var_rows hP hx g2
  generalize wGt W k = wr at *
  obtain ⟨nu, hnu⟩ : ∃ nu : Nat, wr.2.2.2.2.2.1 = (nu : Int) := ⟨wr.2.2.2.2.2.1.toNat, by omega⟩
  obtain ⟨pl, hpl⟩ : ∃ pl : Nat, wr.2.2.2.2.2.2 = (pl : Int) := ⟨wr.2.2.2.2.2.2.toNat, by omega⟩
  have hs' : ∀ q : iS, (∀ c k, ¬ (c = 51 ∧ (k = 7 ∨ k = 16 ∨ k = 18)) → q c k = s c k) → STK q (csG U ((u, i, pv, vv, st, ob) :: g)) := fun q hq => STK_of hs (hq 51 6 (by omega)) (funext fun k => hq 52 k (by omega))
  have pl2 := preF_l (U := U) (u := u) (i := i) (pv := pv) (vv := vv) (st := st) (ob := ob)
  have e88 : ∀ t' : iS, (∀ c k, ¬ (c = 121 ∧ k = 98) → t' c k = t c k) → t' 121 88 - 1 = (g.length : Int) := fun t' ht => by rw [ht 121 88 (by omega), k2]; omega
  by_cases c0 : wr.2.2.1 = 0
  · refine ⟨s 54 pl, (hst pl (by omega)).2, fun q hq => ?_, fun t' ht => ?_⟩
    · unfold sgT
      rw [if_pos c0, hpl, v_sta (by omega), hq 54 pl (by omega)]
    · unfold m_variable
      rw [gd_pos (by omega), Int.toNat_natCast, ht 139 k (by omega), v2, c0, gr (by omega), if_pos rfl, ht 143 k (by omega), v4, hpl, gd_pos (by omega), Int.toNat_natCast, ht 178 pl (by omega), (hst pl (by omega)).1]
  by_cases c2 : wr.2.2.1 = 2
  · have nl : nu < pv.length := by have := v8 c2; omega
    refine ⟨pv.getD nu 0, b3 _ (by rw [List.getD_eq_getElem?_getD, List.getElem?_eq_getElem nl]; exact List.getElem_mem nl), fun q hq => ?_, fun t' ht => ?_⟩
    · have e : (csG U ((u, i, pv, vv, st, ob) :: g)).getD ((csG U g).length + (preF U (u, i, pv, vv, st, ob)).length + nu) 0 = pv.getD nu 0 := by
        show (csG U g ++ (preF U (u, i, pv, vv, st, ob) ++ pv ++ vv ++ st)).getD _ 0 = _
        rw [List.append_assoc (preF U (u, i, pv, vv, st, ob) ++ pv)]
        exact gdp nl
      unfold sgT nuT
      rw [if_neg c0, if_neg hk, if_pos c2, ← e]
      refine v_arg (hs' q hq) ?_ (by omega) ?_
      · show _ < (csG U g ++ (preF U (u, i, pv, vv, st, ob) ++ pv ++ vv ++ st)).length
        simp only [List.length_append]
        omega
      · rw [hq 51 8 (by omega), m1, hnu, pl2]
        by_cases so : soF U u = 3
        · rw [if_pos ⟨c2, so⟩, if_pos so]; omega
        · rw [if_neg (fun z => so z.2), if_neg so]; omega
    · unfold m_variable
      have e := e88 t' ht
      rw [gd_pos (by omega), Int.toNat_natCast, ht 139 k (by omega), v2, gr (by omega), if_neg c0, if_neg hk, if_pos c2, ht 142 k (by omega), v3, hnu, e, gd_pos (by omega), show (24 * (g.length : Int) + (nu : Int)).toNat = 24 * g.length + nu by omega, ht 179 _ (by omega), b4 nu nl]
  · have c3 : wr.2.2.1 = 3 := by omega
    have nl : nu < vv.length := by have := v9 c3; omega
    refine ⟨vv.getD nu 0, b3' _ (by rw [List.getD_eq_getElem?_getD, List.getElem?_eq_getElem nl]; exact List.getElem_mem nl), fun q hq => ?_, fun t' ht => ?_⟩
    · have e : (csG U ((u, i, pv, vv, st, ob) :: g)).getD ((csG U g).length + (preF U (u, i, pv, vv, st, ob) ++ pv).length + nu) 0 = vv.getD nu 0 := by
        show (csG U g ++ (preF U (u, i, pv, vv, st, ob) ++ pv ++ vv ++ st)).getD _ 0 = _
        exact gdp nl
      unfold sgT nuT
      rw [if_neg c0, if_neg hk, if_neg c2, ← e]
      refine v_loc (hs' q hq) ?_ (by omega) ?_
      · show _ < (csG U g ++ (preF U (u, i, pv, vv, st, ob) ++ pv ++ vv ++ st)).length
        simp only [List.length_append]
        omega
      · rw [hq 51 9 (by omega), m2, hnu, if_neg (fun z => c2 z.1), List.length_append]
        omega
    · unfold m_variable
      have e := e88 t' ht
      rw [gd_pos (by omega), Int.toNat_natCast, ht 139 k (by omega), v2, gr (by omega), if_neg c0, if_neg hk, if_neg c2, ht 142 k (by omega), v3, hnu, e, gd_pos (by omega), show (24 * (g.length : Int) + 12 + (nu : Int)).toNat = 24 * g.length + 12 + nu by omega, ht 179 _ (by omega), b5 nu nl]
/-- a field: the address on both sides -/
theorem var_fd (hP : PRG F n N P s0 t0 K U W Y A I C p w tr t1 t2 t3) (h : SIM F P s0 t0 K U W A t3 fu s t (u, i, pv, vv, st, ob) g) (hx : rvI F P t0 U W u j = (k : Int)) (hk : (wGt W k).2.2.1 = 1) (so : soF U u ≠ 2) : sgT (wGt W k) = 4 ∧ s 51 10 + nuT (soF U u) (wGt W k) = ob + (wGt W k).2.2.2.2.2.1 ∧ ∀ t' : iS, (∀ c k, ¬ (c = 121 ∧ (k = 98 ∨ k = 87)) → t' c k = t c k) → m_variable (k : Int) t' = m_read (ob + (wGt W k).2.2.2.2.2.1) t' ∧ ∀ v : Int, m_setVariable (k : Int) v t' = bd (m_write (ob + (wGt W k).2.2.2.2.2.1) v t') (fun _ s8 => some (0, s8)) := by
  obtain ⟨⟨-, g2, -⟩, ⟨⟨-, ⟨b2, b2'⟩, ⟨b3, b3', -⟩, b4, b5, b6, -⟩, -⟩, ⟨hs, -⟩, -, ⟨-, k2, k3, -⟩, ⟨m1, m2, m3⟩, hst, -, -, -, -, -⟩ := h
  dsimp only at b2 b2' b3 b3' b4 b5 b6 m3
  obtain ⟨v1, ⟨v2, v3, v4⟩, v5, v6, v7, v8, v9, -⟩ := var_rows hP hx g2
  generalize wGt W k = wr at *
  refine ⟨?_, ?_, fun t' ht => ?_⟩
  · unfold sgT
    rw [if_neg (by omega), if_pos hk]
  · unfold nuT
    rw [m3 so, if_neg (by omega)]
    omega
  · have e : t' 121 88 - 1 = (g.length : Int) := by rw [ht 121 88 (by omega), k2]; omega
    constructor
    · unfold m_variable
      rw [gd_pos (by omega), Int.toNat_natCast, ht 139 k (by omega), v2, hk, gr (by omega), if_neg (by omega), if_pos rfl, e, gd_pos (by omega), Int.toNat_natCast, ht 183 _ (by omega), b6, ht 142 k (by omega), v3, bd_id]
    · intro v
      unfold m_setVariable
      rw [gd_pos (by omega), Int.toNat_natCast, ht 139 k (by omega), v2, hk, gr (by omega), if_neg (by omega), if_pos rfl, e, gd_pos (by omega), Int.toNat_natCast, ht 183 _ (by omega), b6, ht 142 k (by omega), v3]
end RNp
