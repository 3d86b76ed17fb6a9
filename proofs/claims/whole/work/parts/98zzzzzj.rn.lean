/-! both machines: statements begin and end, labels -/
section RNw
variable {F : Nat → Int} {n N : Nat} {P : Nat → Nat} {s0 t0 : iS} {K : List Nat} {U : List urec} {W : List wrec} {Y : List Nat} {A : List (List itm)} {I C p w u i j k fu m : Nat} {tr t1 t2 t3 s s' t t' q qB sB s1 sa ta : iS} {r : itm} {f : frm} {g : List frm} {pv vv st st' L M : List Int} {ob v v' x y : Int}
/-- the first command behind a mark that waits -/
theorem next_cmd (hP : PRG F n N P s0 t0 K U W Y A I C p w tr t1 t2 t3) (hu : u < A.length) : ∀ (d i : Nat), i + d = (A.getD u []).length → i < (A.getD u []).length → (aA F P s0 t0 K U W A u i).2.2.2 ≠ -1 → ∃ i', i' < (A.getD u []).length ∧ emU F P s0 t0 K U W u ((A.getD u []).getD i' (0, 0, 0, 0)) ≠ [] ∧ cpo F P s0 t0 K U W A u i' = cpo F P s0 t0 K U W A u i ∧ (aA F P s0 t0 K U W A u i').2.2.2 = (aA F P s0 t0 K U W A u i).2.2.2
  | 0, i, hd, hi, _ => absurd hi (by omega)
  | d + 1, i, hd, hi, hm => by
    by_cases e : emU F P s0 t0 K U W u ((A.getD u []).getD i (0, 0, 0, 0)) = []
    · have e0 : e0U F P s0 t0 K U W u ((A.getD u []).getD i (0, 0, 0, 0)) = true := by unfold e0U; rw [e]; rfl
      have ev := PRG_ev hP hu hi rfl e0
      have rq := (rq_at hP hu hi).2.2.2.2.2.2.2.2.2.1
      have k9 : ((A.getD u []).getD i (0, 0, 0, 0)).1 = 9 := by
        rcases ev with z | z | z | z
        · exact z
        · exact absurd (rq (Or.inl z)) hm
        · exact absurd (rq (Or.inr (Or.inl z))) hm
        · exact absurd (rq (Or.inr (Or.inr z))) hm
      have pm1 : (aA F P s0 t0 K U W A u (i + 1)).2.2.2 = (aA F P s0 t0 K U W A u i).2.2.2 := by
        rw [aA_s hi]
        unfold nxA
        dsimp only
        rw [if_neg (by omega), if_pos e0]
      have hi1 := i_next hP hu hi rfl (by omega)
      obtain ⟨i', a1, a2, a3, a4⟩ := next_cmd hP hu d (i + 1) (by omega) hi1 (by rw [pm1]; exact hm)
      refine ⟨i', a1, a2, ?_, by rw [a4, pm1]⟩
      rw [a3, cpo_s hi, e]
      rfl
    · exact ⟨i, hi, e, rfl, rfl⟩
/-- no fuel at a mark: the class's turn -/
theorem turn_x (hP : PRG F n N P s0 t0 K U W Y A I C p w tr t1 t2 t3) {mm : Int} (hG : CPG F P s0 t0 K U W A mm s) (hu : u < A.length) (hi : i < (A.getD u []).length) (hm : (aA F P s0 t0 K U W A u i).2.2.2 ≠ -1) (h14 : q 51 14 = -1) (h7 : q 51 7 = ((cpo F P s0 t0 K U W A u i : Nat) : Int)) (ce : ∀ c k, 14 ≤ c → c ≤ 19 → q c k = s c k) (h16 : 0 ≤ q 51 16 ∧ q 51 16 ≤ 5000) (h15 : q 51 15 = q 51 16) : TN 1 q (up (up q 51 18 (aA F P s0 t0 K U W A u i).2.2.2) 51 14 1) := by
  obtain ⟨i', a1, a2, a3, a4⟩ := next_cmd hP hu _ i (show i + ((A.getD u []).length - i) = _ by omega) hi hm
  obtain ⟨x1, x2⟩ := (aA_ws hP hu i (by omega))
  obtain ⟨-, w, ws, y1, y2⟩ := x2.resolve_left hm
  have pw := PRG_P hP (x1 w (by rw [y1]; exact List.mem_cons_self))
  obtain ⟨g1, g2, g3, g4⟩ := hG
  have l0 : 0 < (emU F P s0 t0 K U W u ((A.getD u []).getD i' (0, 0, 0, 0))).length := List.length_pos_iff.mpr a2
  obtain ⟨c1, c2⟩ := cM_it (F := F) (P := P) (s0 := s0) (t0 := t0) (K := K) (U := U) (W := W) hu a1 l0 rfl
  obtain ⟨e1, e2, e3, e4, e5, e6, e7⟩ := g3 _ c1
  rw [c2, if_pos rfl, ← aA_pm, Nat.add_zero, a3, a4] at e4
  rw [Nat.add_zero, a3] at c1
  exact turn0 h14 h7 ((ce 14 8 (by omega) (by omega)).trans g1) g2 c1 ((ce 19 _ (by omega) (by omega)).trans e4) (by rw [y2]; omega) h16 h15
/-- both machines where nothing but the item and the statements changes -/
theorem SIM_st {i' : Nat} {ws' : List Nat} (hW : WOK s0 N K U W) (h : SIM F P s0 t0 K U W A t3 fu s t (u, i, pv, vv, st, ob) g) (hi1 : i' < (A.getD u []).length) (hs : ∀ c k, ¬ (c = 51 ∧ (k = 7 ∨ k = 16 ∨ k = 18 ∨ k = 6)) → c ≠ 52 → s' c k = s c k) (hst0 : STK s' (csG U g ++ (preF U (u, i, pv, vv, st, ob) ++ pv ++ vv ++ st')))
    (ft : ∀ c k, c ≠ 185 → c ≠ 180 → ¬ (c = 121 ∧ (k = 4 ∨ k = 87 ∨ k = 95 ∨ k = 96 ∨ k = 98)) → ta c k = t c k) (hrt : RTK ta (rsG g ++ st')) (hw : ∀ x ∈ st', w16 x)
    (hws : (aA F P s0 t0 K U W A u i').2.1 = ws') (h95 : ta 121 95 = ((wsG F P s0 t0 K U W A g ++ ws'.reverse).length : Int) ∧ ∀ k, k < (wsG F P s0 t0 K U W A g ++ ws'.reverse).length → ta 185 k = (P ((wsG F P s0 t0 K U W A g ++ ws'.reverse).getD k 0) : Int))
    (h96 : 0 ≤ s' 51 16 ∧ ta 121 96 ≤ (fu : Int) ∧ s' 51 16 + (if (aA F P s0 t0 K U W A u i').2.2.2 = -1 then 0 else 1) = ta 121 96) (h98 : ta 121 98 = ((stA A u + i' : Nat) : Int)) (h7 : s' 51 7 = ((cpo F P s0 t0 K U W A u i' : Nat) : Int)) (hl : st'.length = (aA F P s0 t0 K U W A u i').1)
    (hf : (aA F P s0 t0 K U W A u i').2.2.1 = true → (aA F P s0 t0 K U W A u i').2.2.2 = -1 → ∃ w ws, (aA F P s0 t0 K U W A u i').2.1 = w :: ws ∧ s' 51 18 = (P w : Int)) : SIM F P s0 t0 K U W A t3 fu s' ta (u, i', pv, vv, st', ob) g := by
  obtain ⟨⟨⟨mm, g1⟩, g2, g3⟩, ⟨⟨⟨b1, b1'⟩, ⟨b2, b2'⟩, ⟨b3, b3', b3'', b3o⟩, b4, b5, b6, b7, b8⟩, g5⟩, ⟨g6, g7⟩, ⟨g8, g9⟩, ⟨k1, k2, k3, k4, k5, k6⟩, ⟨m1, m2, m3⟩, hst, ⟨l1, l2, l3, l4⟩, ⟨n1, n2, n3, n4, n5, n6⟩, ⟨e98, e7⟩, el, ef⟩ := h
  dsimp only at b1 b1' b2 b2' b3 b3' b3'' b4 b5 b6 e98 e7 el ef n6 m2 m3
  have ew : wsG F P s0 t0 K U W A ((u, i', pv, vv, st', ob) :: g) = wsG F P s0 t0 K U W A g ++ ws'.reverse := by
    show wsG F P s0 t0 K U W A g ++ (aA F P s0 t0 K U W A u i').2.1.reverse = _
    rw [hws]
  have fs : ∀ c k, c ≠ 52 → c ≠ 51 → s' c k = s c k := fun c k z1 z2 => hs c k (by omega) z1
  have f51 : ∀ k, k ≠ 7 → k ≠ 16 → k ≠ 18 → k ≠ 6 → s' 51 k = s 51 k := fun k z1 z2 z3 z4 => hs 51 k (by omega) (by omega)
  refine ⟨⟨⟨mm, ?_⟩, fun c k z => by rw [ft c k (by omega) (by omega) (by omega)]; exact g2 c k z, ?_⟩, ⟨⟨⟨b1, hi1⟩, ⟨b2, b2'⟩, ⟨b3, b3', hw, b3o⟩, fun k hk => by rw [ft 179 _ (by omega) (by omega) (by omega)]; exact b4 k hk, fun k hk => by rw [ft 179 _ (by omega) (by omega) (by omega)]; exact b5 k hk, by rw [ft 183 _ (by omega) (by omega) (by omega)]; exact b6, by rw [ft 184 _ (by omega) (by omega) (by omega)]; exact b7, fun f' g' e => ?_⟩, GOK_of hW g g5 (fun k _ => fs 53 k (by omega) (by omega)) (fun k _ => ft 179 k (by omega) (by omega) (by omega)) (fun k _ => ⟨ft 181 k (by omega) (by omega) (by omega), ft 183 k (by omega) (by omega) (by omega), ft 184 k (by omega) (by omega) (by omega)⟩)⟩, ⟨hst0, hrt⟩, by rw [ew]; exact h95, ⟨by rw [f51 13 (by omega) (by omega) (by omega) (by omega)]; exact k1, by rw [ft 121 88 (by omega) (by omega) (by omega)]; exact k2, k3, by rw [f51 17 (by omega) (by omega) (by omega) (by omega), ft 121 89 (by omega) (by omega) (by omega)]; exact k4, by rw [f51 17 (by omega) (by omega) (by omega) (by omega)]; exact k5, by rw [f51 17 (by omega) (by omega) (by omega) (by omega)]; exact k6⟩, ⟨by rw [f51 8 (by omega) (by omega) (by omega) (by omega)]; exact m1, by rw [f51 9 (by omega) (by omega) (by omega) (by omega)]; exact m2, fun z => by rw [f51 10 (by omega) (by omega) (by omega) (by omega)]; exact m3 z⟩, fun k hk => by rw [fs 54 k (by omega) (by omega), ft 178 k (by omega) (by omega) (by omega)]; exact hst k hk, ⟨LB_of l1 (fun c k z => fs c k (by omega) (by omega)) (fun c k z => ft c k (by omega) (by omega) (by omega)), ⟨by rw [fs 44 5 (by omega) (by omega)]; exact l2.1, by rw [ft 121 99 (by omega) (by omega) (by omega)]; exact l2.2⟩, by rw [fs 48 9 (by omega) (by omega)]; exact l3, by rw [f51 14 (by omega) (by omega) (by omega) (by omega)]; exact l4⟩, ⟨by rw [f51 15 (by omega) (by omega) (by omega) (by omega)]; exact n1, by rw [ft 121 97 (by omega) (by omega) (by omega)]; exact n2, n3, h96⟩, ⟨h98, h7⟩, hl, hf⟩
  · obtain ⟨c1, c2, c3, c4⟩ := g1
    refine ⟨by rw [fs 14 8 (by omega) (by omega)]; exact c1, c2, fun j hj => ?_, by rw [fs 14 10 (by omega) (by omega)]; exact c4⟩
    rw [fs 15 j (by omega) (by omega), fs 16 j (by omega) (by omega), fs 17 j (by omega) (by omega), fs 18 j (by omega) (by omega), fs 19 j (by omega) (by omega)]
    exact c3 j hj
  · obtain ⟨c1, c2, c3⟩ := g3
    refine ⟨fun j hj => ?_, by rw [ft 164 _ (by omega) (by omega) (by omega)]; exact c2, fun j hj => ?_⟩
    · rw [ft 165 _ (by omega) (by omega) (by omega), ft 164 _ (by omega) (by omega) (by omega)]; exact c1 j hj
    · rw [ft 166 _ (by omega) (by omega) (by omega), ft 167 _ (by omega) (by omega) (by omega), ft 168 _ (by omega) (by omega) (by omega)]; exact c3 j hj
  · obtain ⟨d1, d2, d3, d4, d5, d6, d7⟩ := b8 f' g' e
    rw [ft 181 _ (by omega) (by omega) (by omega), fs 53 _ (by omega) (by omega), fs 53 _ (by omega) (by omega), fs 53 _ (by omega) (by omega), fs 53 _ (by omega) (by omega), fs 53 _ (by omega) (by omega)]
    exact ⟨d1, d2, d3, d4, d5, d6, d7⟩
/-- a label -/
theorem I_20 (hP : PRG F n N P s0 t0 K U W Y A I C p w tr t1 t2 t3) (h : SIM F P s0 t0 K U W A t3 fu s t (u, i, pv, vv, st, ob) g) (hr : (A.getD u []).getD i (0, 0, 0, 0) = r) (hk : r.1 = 20) : STP F P s0 t0 K U W A t3 fu s t ((u, i, pv, vv, st, ob) :: g) := by
  obtain ⟨it, k5, e98, ⟨hu, hi⟩, rq, el, b3⟩ := SIM_k hP h hr
  obtain ⟨mm, g1⟩ := h.1.1
  have he : emU F P s0 t0 K U W u r = [(11, r.2.1, 0, 0)] := by
    unfold emU emI
    rw [hk]
    simp only [Int.reduceEq, ↓reduceIte]
  refine STP_stk (st' := st) hP h hr (by omega) b3 ?_ (fun sB m1 m2 m4 => ?_) ⟨up t 121 98 (t 121 98 + 1), ?_, RTK_98 h.2.2.1.2, fun c k z1 z2 => up_ne (by omega), up_same _ _ _ _⟩
  · unfold nxA
    dsimp only
    rw [if_neg (by omega), if_neg (by omega), if_neg (by omega), if_neg (by omega), if_neg (by omega), if_neg (by omega), el]
  · obtain ⟨q1, q2⟩ := SIM_q h m4 (v := ((cpo F P s0 t0 K U W A u i + 1 : Nat) : Int))
    refine ⟨up sB 51 7 ((cpo F P s0 t0 K U W A u i + 1 : Nat) : Int), ?_, q1, ?_⟩
    · rw [he]
      exact step0 h hr m1 (by rw [he]; simp) (x := (11, r.2.1, 0, 0)) (by rw [he]; rfl) (c_lab q2)
    · rw [he]
      exact CX_fs FS_refl
  · unfold m_doItem
    rw [lt_eq, e98, gd_pos (by omega), Int.toNat_natCast, up_ne (by omega), it.1, hk, gr (by omega)]
    simp only [Int.reduceEq, ↓reduceIte]
    unfold m_doStatementItem
    rw [gd_pos (by omega), Int.toNat_natCast, up_ne (by omega), it.1, hk, gr (by omega)]
    simp only [Int.reduceEq, ↓reduceIte]
    rw [bq]
end RNw
