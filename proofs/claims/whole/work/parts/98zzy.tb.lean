/-! the reference's checks: names of variables; all names -/
section RK7
variable {F : Nat → Int} {n N : Nat} {P : Nat → Nat} {s0 t0 t t' t'' : iS} {a b i j u : Nat} {K : List Nat} {U : List urec} {W : List wrec} {Y : List Nat} {ow y : Int} {L : List Nat}
def wFl (F : Nat → Int) (P : Nat → Nat) (t0 : iS) (W : List wrec) (i x k : Nat) : Int := fst1 (fun y => (wGt W y).2.1 = (wGt W i).2.1 ∧ (wGt W y).1 = (wGt W i).1 ∧ nmT F P t0 (wGt W y).2.2.2.2.1 = nmT F P t0 (wGt W i).2.2.2.2.1) x k
theorem cn229e {v1 v2 v3 : Int} (h : m_checkNames_229b v1 v2 v3 t = some (.inr (v2, t))) : m_checkNames_229 v1 v2 v3 t = m_checkNames_311 v1 v2 t := by
  unfold m_checkNames_229
  rw [lp_end (f := fun l : Int × Int × iS => m_checkNames_229b v1 (l.1) (l.2.1) (l.2.2)) (l := (v2, v3, t)) h]
  rfl
theorem cn229 (h : RG F n N P s0 t0 K U W Y t) (hi : i < W.length) : ∀ (k x : Nat) (v2 : Int), x + k = i → (v2 = 0 ∨ v2 = 1) → m_checkNames_229 (i : Int) v2 (x : Int) t = m_checkNames_311 (i : Int) (if v2 = 0 ∧ wFl F P t0 W i x k = -1 then 0 else 1) t
  | 0, x, v2, hx, hv => by
    have hW := h.2.2.2.1
    have st : m_checkNames_229b (i : Int) v2 (x : Int) t = some (.inr (v2, t)) := by
      unfold m_checkNames_229b
      rw [gr (by omega), gr (by omega), if_pos (by omega)]
    rw [cn229e st]
    rcases hv with c | c <;> subst c
    · rw [if_pos ⟨rfl, rfl⟩]
    · rw [if_neg (fun e => by have := e.1; omega)]
  | k + 1, x, v2, hx, hv => by
    have hW := h.2.2.2.1
    obtain ⟨⟨a1, a2, a3, a4, a5⟩, a6, a7, ⟨a8, a8'⟩, a9, a10, a11, a12, a13, a14⟩ := RG_W h (i := x) (by omega)
    obtain ⟨⟨b1, b2, b3, b4, b5⟩, b6, b7, ⟨b8, b8'⟩, b9, b10, b11, b12, b13, b14⟩ := RG_W h hi
    have e1 : wFl F P t0 W i x (k + 1) = if (wGt W x).2.1 = (wGt W i).2.1 ∧ (wGt W x).1 = (wGt W i).1 ∧ nmT F P t0 (wGt W x).2.2.2.2.1 = nmT F P t0 (wGt W i).2.2.2.2.1 then (x : Int) else wFl F P t0 W i (x + 1) k := fst1_if
    have st : m_checkNames_229b (i : Int) v2 (x : Int) t = some (.inl (if v2 = 0 ∧ ¬ ((wGt W x).2.1 = (wGt W i).2.1 ∧ (wGt W x).1 = (wGt W i).1 ∧ nmT F P t0 (wGt W x).2.2.2.2.1 = nmT F P t0 (wGt W i).2.2.2.2.1) then 0 else 1, ((x + 1 : Nat) : Int), t)) := by
      have z0 : ∀ (p : Prop) [Decidable p], ¬ p → m_checkNames_268 (i : Int) v2 (x : Int) t = some (.inl (if v2 = 0 ∧ ¬ p then 0 else 1, ((x + 1 : Nat) : Int), t)) := fun p _ hp => by
        unfold m_checkNames_268 m_checkNames_269
        rcases hv with c | c
        · subst c
          rw [gr (by omega), if_pos rfl, gr (by omega), if_pos rfl, if_pos ⟨rfl, hp⟩]
          rfl
        · subst c
          rw [gr (by omega), if_neg (by omega), if_neg (fun e => by have := e.1; omega)]
          rfl
      unfold m_checkNames_229b
      rw [gr (by omega), gr (by omega), if_neg (by omega), gd_pos (by omega), gd_pos (by omega), Int.toNat_natCast, Int.toNat_natCast, a2, b2, a1, b1, gr (by omega), gr (by omega)]
      change (if (wGt W x).2.1 = (wGt W i).2.1 then gd _ (gd _ (if (wGt W x).1 = (wGt W i).1 then _ else _)) else _) = _
      by_cases c1 : (wGt W x).2.1 = (wGt W i).2.1
      · rw [if_pos c1, gr (by omega), gr (by omega)]
        by_cases c2 : (wGt W x).1 = (wGt W i).1
        · rw [if_pos c2]
          unfold m_checkNames_269
          rcases hv with c | c
          · subst c
            rw [gr (by omega), if_pos rfl, gr (by omega), if_neg (by omega), gd_pos (by omega), gd_pos (by omega), Int.toNat_natCast, Int.toNat_natCast, a5, b5, like_ok h.1 ⟨a6, a7⟩ ⟨b6, b7⟩, bq]
            change gd _ (if (if nmT F P t0 (wGt W x).2.2.2.2.1 = nmT F P t0 (wGt W i).2.2.2.2.1 then (1 : Int) else 0) = 0 then _ else _) = _
            by_cases d : nmT F P t0 (wGt W x).2.2.2.2.1 = nmT F P t0 (wGt W i).2.2.2.2.1
            · rw [if_pos d, gr (by omega), if_neg (by omega), if_neg (fun e => e.2 ⟨c1, c2, d⟩)]
              rfl
            · rw [if_neg d, gr (by omega), if_pos rfl, if_pos ⟨rfl, fun e => d e.2.2⟩]
              rfl
          · subst c
            rw [gr (by omega), if_neg (by omega), if_neg (fun e => by have := e.1; omega)]
            rfl
        · rw [if_neg c2]
          exact z0 _ (fun e => c2 e.2.1)
      · rw [if_neg c1]
        exact z0 _ (fun e => c1 e.1)
    have nx : m_checkNames_229 (i : Int) v2 (x : Int) t = m_checkNames_229 (i : Int) (if v2 = 0 ∧ ¬ ((wGt W x).2.1 = (wGt W i).2.1 ∧ (wGt W x).1 = (wGt W i).1 ∧ nmT F P t0 (wGt W x).2.2.2.2.1 = nmT F P t0 (wGt W i).2.2.2.2.1) then 0 else 1) ((x + 1 : Nat) : Int) t := by
      unfold m_checkNames_229
      rw [lp_next (f := fun l : Int × Int × iS => m_checkNames_229b (i : Int) (l.1) (l.2.1) (l.2.2)) (l := (v2, (x : Int), t)) st]
    rw [nx, cn229 h hi k (x + 1) _ (by omega) (by split <;> omega), e1]
    by_cases d : (wGt W x).2.1 = (wGt W i).2.1 ∧ (wGt W x).1 = (wGt W i).1 ∧ nmT F P t0 (wGt W x).2.2.2.2.1 = nmT F P t0 (wGt W i).2.2.2.2.1
    · rw [if_neg (fun e => by
        have := e.1
        rw [if_neg (fun q => q.2 d)] at this
        omega), if_pos d, if_neg (fun e => by have := e.2; omega)]
    · rw [if_neg d]
      rcases hv with c | c
      · subst c
        rw [if_pos (show (0 : Int) = 0 ∧ ¬ ((wGt W x).2.1 = (wGt W i).2.1 ∧ (wGt W x).1 = (wGt W i).1 ∧ nmT F P t0 (wGt W x).2.2.2.2.1 = nmT F P t0 (wGt W i).2.2.2.2.1) from ⟨rfl, d⟩)]
      · subst c
        rw [if_neg (show ¬ ((1 : Int) = 0 ∧ ¬ ((wGt W x).2.1 = (wGt W i).2.1 ∧ (wGt W x).1 = (wGt W i).1 ∧ nmT F P t0 (wGt W x).2.2.2.2.1 = nmT F P t0 (wGt W i).2.2.2.2.1)) from fun e => by have := e.1; omega)]
theorem gW_eq (hi : i < W.length) : gW F P t0 W i = if wFl F P t0 W i 0 i = -1 then [] else [16 * (wGt W i).2.2.2.2.1 + 3] := by
  unfold gW wFl
  by_cases c : fst1 (fun y => (wGt W y).2.1 = (wGt W i).2.1 ∧ (wGt W y).1 = (wGt W i).1 ∧ nmT F P t0 (wGt W y).2.2.2.2.1 = nmT F P t0 (wGt W i).2.2.2.2.1) 0 i = -1
  · rw [if_pos c, if_neg]
    rintro ⟨r, hr, q1, q2, q3⟩
    obtain ⟨x, hx, e⟩ := List.getElem_of_mem hr
    rw [List.length_take] at hx
    rw [List.getElem_take] at e
    have e' : wGt W x = r := by
      unfold wGt
      rw [List.getD_eq_getElem?_getD, List.getElem?_eq_getElem (by omega), ← e]
      rfl
    refine (fst1_no _ _).mp c x (by omega) (by omega) ?_
    rw [e']
    exact ⟨q2, q1, q3⟩
  · rw [if_neg c, if_pos]
    · rfl
    · rcases fst1_rg (P := fun y => (wGt W y).2.1 = (wGt W i).2.1 ∧ (wGt W y).1 = (wGt W i).1 ∧ nmT F P t0 (wGt W y).2.2.2.2.1 = nmT F P t0 (wGt W i).2.2.2.2.1) i 0 with z | ⟨z1, z2, z3⟩
      · exact absurd z c
      · generalize fst1 (fun y => (wGt W y).2.1 = (wGt W i).2.1 ∧ (wGt W y).1 = (wGt W i).1 ∧ nmT F P t0 (wGt W y).2.2.2.2.1 = nmT F P t0 (wGt W i).2.2.2.2.1) 0 i = x at z1 z2 z3
        refine ⟨wGt W x.toNat, ?_, z3.2.1, z3.1, z3.2.2⟩
        unfold wGt
        rw [List.getD_eq_getElem?_getD, List.getElem?_eq_getElem (by omega)]
        show W[x.toNat] ∈ _
        rw [← List.getElem_take (j := i) (h := by rw [List.length_take]; omega)]
        exact List.getElem_mem _
theorem cn_W (h : RG F n N P s0 t0 K U W Y t) (hb : RBc P N L t) : ∃ t', lp (L := Int × iS) (E := iS) (fun l => m_checkNames_217b (l.1) (l.2)) (0, t) = some t' ∧ RBc P N (L ++ (List.range W.length).flatMap (fun i => gW F P t0 W i ++ gT F P s0 t0 K (wGt W i).2.2.2.1)) t' ∧ FN t t' ∧ RG F n N P s0 t0 K U W Y t' := by
  have hW := h.2.2.2.1
  have B := lpN (f := m_checkNames_217b) (M := W.length) (I := fun i t' => RBc P N (L ++ (List.range i).flatMap (fun i => gW F P t0 W i ++ gT F P s0 t0 K (wGt W i).2.2.2.1)) t' ∧ FN t t') (fun i t1 hi ⟨q1, q2⟩ => by
    have g := RG_fr h (FN_FR q2)
    obtain ⟨⟨b1, b2, b3, b4, b5⟩, b6, b7, ⟨b8, b8'⟩, b9, b10, b11, b12, b13, b14⟩ := RG_W g hi
    unfold m_checkNames_217b
    have E := cn229 g hi i 0 0 (by omega) (Or.inl rfl)
    rw [gr (by omega), g.2.1.2.2.2.2.2.2.1, gr (by omega), if_neg (by omega), show m_checkNames_229 (i : Int) 0 0 t1 = _ from E]
    have fin : ∀ (L' : List Nat) (t3 : iS), RBc P N L' t3 → FN t1 t3 → ∃ t4, m_checkNames_326 (i : Int) t3 = some (.inl ((i : Int) + 1, t4)) ∧ RBc P N (L' ++ gT F P s0 t0 K (wGt W i).2.2.2.1) t4 ∧ FN t t4 := fun L' t3 c1 c2 => by
      have g3 := RG_fr g (FN_FR c2)
      obtain ⟨t4, e1, e2, e3, e4⟩ := chkT_ok (y := (wGt W i).2.2.2.1) g3 c1 (by
        obtain ⟨⟨j, z, z2, _⟩, _⟩ := g3.2.2.1.2.1 _ (gd_mem (d := ((0, 0, 0, 0, 0, 0, 0) : wrec)) hi)
        exact Or.inr ⟨j, z, z2⟩)
      refine ⟨t4, ?_, e2, FN_trans q2 (FN_trans c2 e3)⟩
      unfold m_checkNames_326
      rw [gd_pos (by omega), Int.toNat_natCast, (RG_W g3 hi).1.2.2.2.1, show m_checkType (W.getD i (0, 0, 0, 0, 0, 0, 0)).2.2.2.1 t3 = _ from e1, bq]
    unfold m_checkNames_311
    rw [rg_s, gW_eq hi, ← List.append_assoc]
    by_cases c : wFl F P t0 W i 0 i = -1
    · rw [if_pos (show (0 : Int) = 0 ∧ wFl F P t0 W i 0 i = -1 from ⟨rfl, c⟩), if_pos c, gr (by omega), if_pos rfl, List.nil_append]
      exact fin _ t1 q1 FN_refl
    · rw [if_neg (show ¬ ((0 : Int) = 0 ∧ wFl F P t0 W i 0 i = -1) from fun e => c e.2), if_neg c, gr (by omega), if_neg (by omega), gd_pos (by omega), Int.toNat_natCast]
      obtain ⟨t3, e1, e2, e3⟩ := note_ok (f := 3) (j := (wGt W i).2.2.2.2.1) g.1 q1 (by omega) b6
      rw [b5, show m_note 3 ((W.getD i (0, 0, 0, 0, 0, 0, 0)).2.2.2.2.1 : Int) t1 = _ from e1, bq, ← List.append_assoc]
      exact fin _ t3 e2 e3) (fun t1 ⟨q1, q2⟩ => by
    have g := RG_fr h (FN_FR q2)
    unfold m_checkNames_217b
    rw [gr (by omega), g.2.1.2.2.2.2.2.2.1, gr (by omega), if_pos (by omega)]) W.length 0 t (by omega) ⟨by rw [List.range_zero, List.flatMap_nil, List.append_nil]; exact hb, FN_refl⟩
  obtain ⟨t', b1, b2, b3⟩ := B
  exact ⟨t', b1, b2, b3, RG_fr h (FN_FR b3)⟩
/-- what the reference notes of the names -/
def rnN (F : Nat → Int) (P : Nat → Nat) (s0 t0 : iS) (K : List Nat) (U : List urec) (W : List wrec) : List Nat := rgM (gK F P t0 K) K ++ (List.range U.length).flatMap (fun i => gU F P t0 K U U i ++ gT F P s0 t0 K (uAt U i).2.2.2) ++ (List.range W.length).flatMap (fun i => gW F P t0 W i ++ gT F P s0 t0 K (wGt W i).2.2.2.1)
theorem names_ok (h : RG F n N P s0 t0 K U W Y t) (h0 : t 121 69 = 0) : ∃ t', m_checkNames t = some (0, t') ∧ RBc P N (rnN F P s0 t0 K U W) t' ∧ FU t t' ∧ RG F n N P s0 t0 K U W Y t' ∧ ∀ i, i < U.length → t' 169 i = (i : Int) - (U.countP (fun u => decide (u.1 < (uAt U i).1)) : Int) := by
  obtain ⟨t1, a1, a2, a3, a4⟩ := cn_K (L := []) h (Or.inl ⟨rfl, h0⟩)
  obtain ⟨t2, b1, b2, b3, b4, b5⟩ := cn_U a4 a2
  obtain ⟨t3, c1, c2, c3, c4⟩ := cn_W b4 b2
  refine ⟨t3, ?_, c2, fun c k q1 q2 => (c3 c k q1).trans ((b3 c k q1 q2).trans (a3 c k q1)), c4, fun i hi => by rw [c3 169 i (by omega)]; exact b5 i hi⟩
  unfold m_checkNames m_checkNames_2
  rw [a1]
  show m_checkNames_93 t1 = _
  unfold m_checkNames_93 m_checkNames_95
  rw [b1]
  show m_checkNames_215 t2 = _
  unfold m_checkNames_215 m_checkNames_217
  rw [c1]
  rfl
end RK7
