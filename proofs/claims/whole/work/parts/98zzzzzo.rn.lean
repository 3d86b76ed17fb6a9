/-! both machines: return is done -/
section ROb
variable {F : Nat → Int} {n N : Nat} {P : Nat → Nat} {s0 t0 : iS} {K : List Nat} {U : List urec} {W : List wrec} {Y : List Nat} {A : List (List itm)} {I C p w u i j k fu m : Nat} {tr t1 t2 t3 s s' t t' q qB sB s1 sa ta tb : iS} {r : itm} {f : frm} {g : List frm} {pv vv st st' L M : List Int} {ob v v' x y : Int}
theorem I_18 (hP : PRG F n N P s0 t0 K U W Y A I C p w tr t1 t2 t3) (h : SIM F P s0 t0 K U W A t3 fu s t (u, i, pv, vv, st, ob) g) (hr : (A.getD u []).getD i (0, 0, 0, 0) = r) (hk : r.1 = 18) : STP F P s0 t0 K U W A t3 fu s t ((u, i, pv, vv, st, ob) :: g) := by
  obtain ⟨it, k5, e98, ⟨hu, hi⟩, rq, el, b3⟩ := SIM_k hP h hr
  obtain ⟨L1, L2⟩ := SIM_len hP h
  have h1 : st.length = 1 := by rw [el]; exact rq.2.2.2.1 (Or.inr hk)
  obtain ⟨x, est⟩ := List.length_eq_one_iff.mp h1
  have wx : w16 x := b3 x (by rw [est]; simp)
  have he : emU F P s0 t0 K U W u r = [(16, 0, 0, 0)] := by
    unfold emU emI
    rw [hk]
    simp only [Int.reduceEq, ↓reduceIte]
  obtain ⟨sB, m1, m2, m3, m4, m5⟩ := SIM_mk hP h
  obtain ⟨q1, q2⟩ := SIM_q h m4 (v := ((cpo F P s0 t0 K U W A u i + 1 : Nat) : Int))
  have h' := h
  obtain ⟨⟨⟨mm, g1⟩, g2, g3⟩, ⟨⟨-, -, -, -, -, b6, b7, b8⟩, g5⟩, ⟨g6, g7⟩, ⟨g8, g9⟩, ⟨k1, k2, k3, k4, k5', k6⟩, ⟨n1', n2', n3'⟩, hst, ⟨l1, l2, l3, l4⟩, ⟨n1, n2, n3, n4, n5, n6⟩, ⟨-, e7⟩, -, -⟩ := h'
  have e4 := fetch4 (m := 0) (x := (16, 0, 0, 0)) g1 hu hi hr (by rw [he]; simp) (by rw [he]; rfl) (by simp) (by simp) (by simp) (by simp)
  rw [Nat.add_zero] at e4
  have t96 : 0 ≤ t 121 96 := by split at n6 <;> omega
  have q1' : STK (up sB 51 7 ((cpo F P s0 t0 K U W A u i + 1 : Nat) : Int)) ((csG U g ++ (preF U (u, i, pv, vv, st, ob) ++ pv ++ vv)) ++ [x]) := by
    rw [est] at q1
    rw [est]
    rw [List.append_assoc]
    exact q1
  have ll : ((csG U g ++ (preF U (u, i, pv, vv, st, ob) ++ pv ++ vv)) ++ [x]).length ≤ 15360 := by
    have z : (csG U g ++ (preF U (u, i, pv, vv, st, ob) ++ pv ++ vv ++ st)).length ≤ 15360 := L1
    rw [est] at z
    rw [est, List.append_assoc]
    exact z
  obtain ⟨sl, v1, v2, v3, v4, v5, v6, v7⟩ := leave_ok (d := g.length) q1' ll (by rw [up_ne (by omega), m4 51 8 (by omega)]; exact n1') (by rw [up_ne (by omega), m4 51 13 (by omega)]; exact k1) (by omega)
  have fl : ∀ c k, c ≠ 52 → c ≠ 51 → sl c k = s c k := fun c k z1 z2 => by rw [v3 c k z1 z2, up_ne (by omega), m4 c k (by omega)]
  have f53 : ∀ k, up sB 51 7 ((cpo F P s0 t0 K U W A u i + 1 : Nat) : Int) 53 k = s 53 k := fun k => by rw [up_ne (by omega), m4 53 k (by omega)]
  rw [f53, f53, f53, f53, f53] at v6
  have s16 : sl 51 16 = t 121 96 := by rw [v4 16 (by omega), up_ne (by omega)]; exact m2
  have s17 : sl 51 17 = s 51 17 := by rw [v4 17 (by omega), up_ne (by omega), m4 51 17 (by omega)]
  have s15 : sl 51 15 = s 51 15 := by rw [v4 15 (by omega), up_ne (by omega), m4 51 15 (by omega)]
  have T : TN 1 s sl := by
    refine step0 h hr m1 (by rw [he]; simp) (x := (16, 0, 0, 0)) (by rw [he]; rfl) (rr := 0) ?_
    rw [e4]
    unfold mac_doCommand
    simp only [Int.reduceEq, ↓reduceIte]
    rw [gr (by omega), v1, bq, d258 (by rw [fl 44 5 (by omega) (by omega)]; exact l2.1) (by rw [fl 48 9 (by omega) (by omega)]; exact l3)]
  -- the reference
  have rt' : RTK (up t 121 98 (t 121 98 + 1)) (rsG g ++ [x]) := by
    have := RTK_98 (z := t 121 98 + 1) g7
    rw [show rsG ((u, i, pv, vv, st, ob) :: g) = rsG g ++ [x] by rw [← est]; rfl] at this
    exact this
  have ll2 : (rsG g ++ [x]).length ≤ 15360 := by
    have z : (rsG g ++ st).length ≤ 15360 := L2
    rw [est] at z
    exact z
  obtain ⟨tl, w1, w2, w3, w4, w5, w6, w7⟩ := ret_ok (d := g.length) rt' ll2 wx (by rw [up_ne (by omega)]; exact k2) (by omega)
  rw [up_ne (by omega)] at w4 w5
  have ft : ∀ c k, c ≠ 180 → ¬ (c = 121 ∧ (k = 87 ∨ k = 88 ∨ k = 95 ∨ k = 98 ∨ k = 99)) → tl c k = t c k := fun c k z1 z2 => by rw [w2 c k z1 z2, up_ne (by omega)]
  have R : m_doItem t = some (0, tl) := by
    unfold m_doItem
    rw [e98] at w1
    rw [lt_eq, e98, gd_pos (by omega), Int.toNat_natCast, up_ne (by omega), it.1, hk, gr (by omega)]
    simp only [Int.reduceEq, ↓reduceIte]
    unfold m_doStatementItem
    rw [gd_pos (by omega), Int.toNat_natCast, up_ne (by omega), it.1, hk, gr (by omega)]
    simp only [Int.reduceEq, ↓reduceIte]
    rw [w1, bq, bq]
  have lb : LB sl tl := LB_of l1 (fun c k z => fl c k (by omega) (by omega)) (fun c k z => ft c k (by omega) (by omega))
  have e96 := ft 121 96 (by omega) (by omega)
  have e1 := cpo_s (F := F) (P := P) (s0 := s0) (t0 := t0) (K := K) (U := U) (W := W) hi
  have e2 := cpo_le (F := F) (P := P) (s0 := s0) (t0 := t0) (K := K) (U := U) (W := W) (i := i + 1) (show i + 1 ≤ (A.getD u []).length by omega)
  rw [hr, he] at e1
  have e1' : cpo F P s0 t0 K U W A u (i + 1) = cpo F P s0 t0 K U W A u i + 1 := e1
  refine ⟨1, sl, tl, T, run_nx (r := 0) l2.2 R, ⟨by omega, by omega⟩, ?_⟩
  cases g with
  | nil =>
    refine Or.inr ⟨⟨⟨?_, ?_, ?_⟩, lb, by rw [s16, e96], ⟨by omega, by omega⟩, by rw [s17, ft 121 89 (by omega) (by omega)]; exact k4, ⟨by rw [s17]; exact k5', by rw [s17]; exact k6⟩, fun z => ?_⟩, ft 121 74 (by omega) (by omega), ?_⟩
    · rw [v7, if_pos List.length_nil, w6 rfl]
    · rw [v7, if_pos List.length_nil]; decide
    · rw [v7, if_pos List.length_nil]; decide
    · rw [v7, if_pos List.length_nil] at z; exact absurd rfl z
    · have : 0 ≤ (rmC F P s0 t0 K U W A [(u, i, pv, vv, st, ob)] : Int) := Int.natCast_nonneg _
      omega
  | cons f' g' =>
    obtain ⟨u', i', pv', vv', st1, ob1⟩ := f'
    obtain ⟨c1, c2, c3, c4, c5, ⟨cw, cws, c6, c6'⟩, c7, c8, c9⟩ := b8 _ g' rfl
    obtain ⟨⟨⟨p1, p1'⟩, p2, ⟨p3, p3', p3'', p3o⟩, p4, p5, p6, p7, p8⟩, p9⟩ := g5
    dsimp only at c1 c2 c3 c4 c5 c6 c7 c8 c9 p1 p1' p2 p3 p3' p3'' p4 p5 p6 p8
    have lg : ((u', i', pv', vv', st1, ob1) :: g').length = g'.length + 1 := rfl
    have ne : ((u', i', pv', vv', st1, ob1) :: g').length ≠ 0 := by omega
    obtain ⟨x99, xrt⟩ := w7 ne
    rw [if_neg ne] at v7
    have ewf : wsG F P s0 t0 K U W A ((u', i', pv', vv', st1 ++ [x], ob1) :: g') = wsG F P s0 t0 K U W A ((u', i', pv', vv', st1, ob1) :: g') := rfl
    refine Or.inl ⟨(u', i', pv', vv', st1 ++ [x], ob1), g', ⟨⟨⟨mm, ?_⟩, fun c k z => by rw [ft c k (by omega) (by omega)]; exact g2 c k z, ?_⟩, ⟨⟨⟨p1, p1'⟩, p2, ⟨p3, p3', ?_, p3o⟩, fun k hk => by rw [ft 179 _ (by omega) (by omega)]; exact p4 k hk, fun k hk => by rw [ft 179 _ (by omega) (by omega)]; exact p5 k hk, by rw [ft 183 _ (by omega) (by omega)]; exact p6, by rw [ft 184 _ (by omega) (by omega)]; exact p7, fun f2 g2' e => ?_⟩, GOK_of hP.2.2.2.2.1 g' p9 (fun k _ => fl 53 k (by omega) (by omega)) (fun k _ => ft 179 k (by omega) (by omega)) (fun k _ => ⟨ft 181 k (by omega) (by omega), ft 183 k (by omega) (by omega), ft 184 k (by omega) (by omega)⟩)⟩, ⟨?_, ?_⟩, ⟨?_, fun k hk => ?_⟩, ⟨by rw [v5, lg], by rw [w3, lg], by omega, by rw [s17, ft 121 89 (by omega) (by omega)]; exact k4, by rw [s17]; exact k5', by rw [s17]; exact k6⟩, ⟨by rw [v6.2.1]; exact c3, by rw [v6.2.2.1]; exact c4, fun z => by rw [v6.2.2.2.1]; exact c5 z⟩, fun k hk => by rw [fl 54 k (by omega) (by omega), ft 178 k (by omega) (by omega)]; exact hst k hk, ⟨lb, ⟨by rw [fl 44 5 (by omega) (by omega)]; exact l2.1, by rw [x99, up_ne (by omega)]; exact l2.2⟩, by rw [fl 48 9 (by omega) (by omega)]; exact l3, by rw [v7, up_ne (by omega), m4 51 14 (by omega)]; exact l4⟩, ⟨by rw [s15]; exact n1, by rw [ft 121 97 (by omega) (by omega)]; exact n2, n3, by omega, by omega, ?_⟩, ⟨by rw [w5]; exact c1, by rw [v6.1]; exact c2⟩, ?_, fun _ _ => ⟨cw, cws, c6, by rw [v6.2.2.2.2]; exact c6'⟩⟩, ?_, ?_⟩
    · obtain ⟨d1, d2, d3, d4⟩ := g1
      refine ⟨by rw [fl 14 8 (by omega) (by omega)]; exact d1, d2, fun j hj => ?_, by rw [fl 14 10 (by omega) (by omega)]; exact d4⟩
      rw [fl 15 j (by omega) (by omega), fl 16 j (by omega) (by omega), fl 17 j (by omega) (by omega), fl 18 j (by omega) (by omega), fl 19 j (by omega) (by omega)]
      exact d3 j hj
    · obtain ⟨d1, d2, d3⟩ := g3
      refine ⟨fun j hj => ?_, by rw [ft 164 _ (by omega) (by omega)]; exact d2, fun j hj => ?_⟩
      · rw [ft 165 _ (by omega) (by omega), ft 164 _ (by omega) (by omega)]; exact d1 j hj
      · rw [ft 166 _ (by omega) (by omega), ft 167 _ (by omega) (by omega), ft 168 _ (by omega) (by omega)]; exact d3 j hj
    · intro z hz
      rcases List.mem_append.mp hz with y | y
      · exact p3'' z y
      · rw [List.mem_singleton.mp y]; exact wx
    · obtain ⟨d1, d2, d3, d4, d5, d6, d7⟩ := p8 f2 g2' e
      rw [ft 181 _ (by omega) (by omega), fl 53 _ (by omega) (by omega), fl 53 _ (by omega) (by omega), fl 53 _ (by omega) (by omega), fl 53 _ (by omega) (by omega), fl 53 _ (by omega) (by omega)]
      exact ⟨d1, d2, d3, d4, d5, d6, d7⟩
    · have e : csG U ((u', i', pv', vv', st1 ++ [x], ob1) :: g') = csG U ((u', i', pv', vv', st1, ob1) :: g') ++ [x] := by
        show csG U g' ++ (preF U (u', i', pv', vv', st1 ++ [x], ob1) ++ pv' ++ vv' ++ (st1 ++ [x])) = _
        rw [L4]
        rfl
      rw [e]
      exact v2
    · have e : rsG ((u', i', pv', vv', st1 ++ [x], ob1) :: g') = rsG ((u', i', pv', vv', st1, ob1) :: g') ++ [x] := by
        show rsG g' ++ (st1 ++ [x]) = _
        rw [← List.append_assoc]
        rfl
      rw [e]
      exact xrt
    · rw [ewf, w4]; exact b7
    · rw [ewf] at hk ⊢
      have lw : (wsG F P s0 t0 K U W A ((u, i, pv, vv, st, ob) :: (u', i', pv', vv', st1, ob1) :: g')).length = (wsG F P s0 t0 K U W A ((u', i', pv', vv', st1, ob1) :: g')).length + (aA F P s0 t0 K U W A u i).2.1.reverse.length := by
        show (wsG F P s0 t0 K U W A ((u', i', pv', vv', st1, ob1) :: g') ++ (aA F P s0 t0 K U W A u i).2.1.reverse).length = _
        rw [List.length_append]
      rw [ft 185 k (by omega) (by omega), g9 k (by omega)]
      show (P ((wsG F P s0 t0 K U W A ((u', i', pv', vv', st1, ob1) :: g') ++ (aA F P s0 t0 K U W A u i).2.1.reverse).getD k 0) : Int) = _
      rw [List.getD_eq_getElem?_getD, List.getElem?_append_left hk, ← List.getD_eq_getElem?_getD]
    · show sl 51 16 + (if (aA F P s0 t0 K U W A u' i').2.2.2 = -1 then 0 else 1) = tl 121 96
      rw [if_pos c9]; omega
    · show (st1 ++ [x]).length = (aA F P s0 t0 K U W A u' i').1
      rw [List.length_append, List.length_singleton]; exact c7
    · rw [e96]
      show ((1 : Nat) : Int) + (((cmN F P s0 t0 K U W A (u' + 1)).length - cpo F P s0 t0 K U W A u' i' + rmC F P s0 t0 K U W A g' : Nat) : Int) ≤ (((cmN F P s0 t0 K U W A (u + 1)).length - cpo F P s0 t0 K U W A u i + ((cmN F P s0 t0 K U W A (u' + 1)).length - cpo F P s0 t0 K U W A u' i' + rmC F P s0 t0 K U W A g') : Nat) : Int) + _
      omega
    · rw [e96]
      show _ + (((A.getD u' []).length - i' + rmI A g' : Nat) : Int) < _ + (((A.getD u []).length - i + ((A.getD u' []).length - i' + rmI A g') : Nat) : Int)
      omega
end ROb
