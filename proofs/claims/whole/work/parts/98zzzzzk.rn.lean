/-! both machines: statements begin and end -/
section RNx
variable {F : Nat → Int} {n N : Nat} {P : Nat → Nat} {s0 t0 : iS} {K : List Nat} {U : List urec} {W : List wrec} {Y : List Nat} {A : List (List itm)} {I C p w u i j k fu m : Nat} {tr t1 t2 t3 s s' t t' q qB sB s1 sa ta : iS} {r : itm} {f : frm} {g : List frm} {pv vv st st' L M : List Int} {ob v v' x y : Int}
theorem emU_no3 (h : r.1 = 11 ∨ r.1 = 12 ∨ r.1 = 17) : emU F P s0 t0 K U W u r = [] := by
  unfold emU emI
  rcases h with h | h | h <;> rw [h] <;> simp only [Int.reduceEq, ↓reduceIte]
/-- the steps of the reference -/
theorem st_y (h6 : t 121 96 = x) (h7 : t 121 97 = y) (hx : 0 ≤ x ∧ x < y) (hy : y ≤ 5000) : m_step t = some (1, up t 121 96 (x + 1)) := by
  unfold m_step
  rw [h6, h7, gr (by omega), gr (by omega), if_neg (by omega), lt_eq]
theorem st_n (h6 : t 121 96 = x) (h7 : t 121 97 = x) (hx : 0 ≤ x ∧ x ≤ 5000) : m_step t = some (0, up t 121 99 1) := by
  unfold m_step
  rw [h6, h7, gr (by omega), gr (by omega), if_pos rfl, lt_eq]
/-- a statement ends -/
theorem I_12 (hP : PRG F n N P s0 t0 K U W Y A I C p w tr t1 t2 t3) (h : SIM F P s0 t0 K U W A t3 fu s t (u, i, pv, vv, st, ob) g) (hr : (A.getD u []).getD i (0, 0, 0, 0) = r) (hk : r.1 = 12) : STP F P s0 t0 K U W A t3 fu s t ((u, i, pv, vv, st, ob) :: g) := by
  obtain ⟨it, k5, e98, ⟨hu, hi⟩, rq, el, b3⟩ := SIM_k hP h hr
  have hi1 := i_next hP hu hi hr (by omega)
  have he := emU_no3 (F := F) (P := P) (s0 := s0) (t0 := t0) (K := K) (U := U) (W := W) (u := u) (r := r) (by omega)
  have ne := rq.2.2.2.2.2.2.1 hk
  have pm := rq.2.2.2.2.2.2.2.2.2.1 (by omega)
  have hc : cpo F P s0 t0 K U W A u (i + 1) = cpo F P s0 t0 K U W A u i := by rw [cpo_s hi, hr, he]; rfl
  have ha : aA F P s0 t0 K U W A u (i + 1) = ((aA F P s0 t0 K U W A u i).1, (aA F P s0 t0 K U W A u i).2.1.tail, false, -1) := by
    rw [aA_s hi, hr]
    simp [nxA, hk, pm]
  obtain ⟨w, ws, hw⟩ := List.exists_cons_of_ne_nil ne
  have h' := h
  obtain ⟨-, -, ⟨g6, g7⟩, ⟨g8, g9⟩, -, -, -, ⟨l1, l2, l3, l4⟩, ⟨n1, n2, n3, n4, n5, n6⟩, ⟨-, e7⟩, -, -⟩ := h'
  dsimp only at n6 e7
  rw [if_pos pm] at n6
  have ew : wsG F P s0 t0 K U W A ((u, i, pv, vv, st, ob) :: g) = (wsG F P s0 t0 K U W A g ++ ws.reverse) ++ [w] := by
    show wsG F P s0 t0 K U W A g ++ (aA F P s0 t0 K U W A u i).2.1.reverse = _
    rw [hw, List.reverse_cons, List.append_assoc]
  rw [ew, List.length_append, List.length_singleton] at g8 g9
  have R : m_doItem t = some (0, up (up t 121 98 (t 121 98 + 1)) 121 95 (t 121 95 - 1)) := by
    unfold m_doItem
    rw [lt_eq, e98, gd_pos (by omega), Int.toNat_natCast, up_ne (by omega), it.1, hk, gr (by omega)]
    simp only [Int.reduceEq, ↓reduceIte]
    unfold m_doStatementItem
    rw [gd_pos (by omega), Int.toNat_natCast, up_ne (by omega), it.1, hk, gr (by omega)]
    simp only [Int.reduceEq, ↓reduceIte]
    rw [lt_eq, bq, up_ne (by omega)]
  have S : SIM F P s0 t0 K U W A t3 fu s (up (up t 121 98 (t 121 98 + 1)) 121 95 (t 121 95 - 1)) (u, i + 1, pv, vv, st, ob) g := by
    refine SIM_st (ws' := ws) hP.2.2.2.2.1 h hi1 (fun _ _ _ _ => rfl) g6 (fun c k z1 z2 z3 => by rw [up_ne (by omega), up_ne (by omega)]) (RTK_of g7 (by rw [up_ne (by omega), up_ne (by omega)]) (funext fun k => by rw [up_ne (by omega), up_ne (by omega)])) b3 (by rw [ha, hw]; rfl) ⟨by rw [up_same, g8]; omega, fun k hk => ?_⟩ ⟨n4, by rw [up_ne (by omega), up_ne (by omega)]; exact n5, ?_⟩ (by rw [up_ne (by omega), up_same, e98]; omega) (by rw [hc]; exact e7) (by rw [ha]; exact el) (fun z => ?_)
    · rw [up_ne (by omega), up_ne (by omega), g9 k (by omega), gdL hk]
    · rw [ha, up_ne (by omega), up_ne (by omega)]; exact n6
    · rw [ha] at z; exact absurd (show false = true from z) (by decide)
  exact STP_mk (m := 0) h hr hi1 (by rw [he]; rfl) TN_0 (run_nx (r := 0) l2.2 R) (by rw [up_ne (by omega), up_ne (by omega)]) S ⟨Int.le_refl _, by omega⟩
/-- a statement begins -/
theorem I_11 (hP : PRG F n N P s0 t0 K U W Y A I C p w tr t1 t2 t3) (h : SIM F P s0 t0 K U W A t3 fu s t (u, i, pv, vv, st, ob) g) (hr : (A.getD u []).getD i (0, 0, 0, 0) = r) (hk : r.1 = 11) : STP F P s0 t0 K U W A t3 fu s t ((u, i, pv, vv, st, ob) :: g) := by
  obtain ⟨it, k5, e98, ⟨hu, hi⟩, rq, el, b3⟩ := SIM_k hP h hr
  have hi1 := i_next hP hu hi hr (by omega)
  have he := emU_no3 (F := F) (P := P) (s0 := s0) (t0 := t0) (K := K) (U := U) (W := W) (u := u) (r := r) (by omega)
  obtain ⟨e170, tN⟩ := PRG_11 hP hu hi hr (Or.inl hk)
  have pw := PRG_P hP tN
  have t170 : t 170 (stA A u + i) = (P r.2.2.2.toNat : Int) := by rw [h.1.2.1 170 _ (by omega)]; exact e170
  have pm := rq.2.2.2.2.2.2.2.2.2.1 (by omega)
  have hc : cpo F P s0 t0 K U W A u (i + 1) = cpo F P s0 t0 K U W A u i := by rw [cpo_s hi, hr, he]; rfl
  have ha : aA F P s0 t0 K U W A u (i + 1) = ((aA F P s0 t0 K U W A u i).1, r.2.2.2.toNat :: (aA F P s0 t0 K U W A u i).2.1, true, (P r.2.2.2.toNat : Int)) := by
    rw [aA_s hi, hr]
    simp [nxA, hk]
  have gw := G_ws hP _ h.2.1
  have h' := h
  obtain ⟨⟨⟨mm, g1⟩, -⟩, -, ⟨g6, g7⟩, ⟨g8, g9⟩, ⟨-, -, k3, k4, k5', k6⟩, -, -, ⟨l1, l2, l3, l4⟩, ⟨n1, n2, n3, n4, n5, n6⟩, ⟨-, e7⟩, -, -⟩ := h'
  dsimp only at n6 e7
  rw [if_pos pm] at n6
  have lg : ((u, i, pv, vv, st, ob) :: g).length = g.length + 1 := rfl
  have R0 : m_doItem t = bd (bd (m_step (up t 121 98 (t 121 98 + 1))) (fun r4 s4 => gd (rg r4) (if r4 = 0 then lt' (up s4 121 4 (s4 170 (stA A u + i))) (fun s7 => m_doStatementItem_73 ((stA A u + i : Nat) : Int) s7) else m_doStatementItem_73 ((stA A u + i : Nat) : Int) s4))) (fun _ s40 => some (0, s40)) := by
    unfold m_doItem
    rw [lt_eq, e98, gd_pos (by omega), Int.toNat_natCast, up_ne (by omega), it.1, hk, gr (by omega)]
    simp only [Int.reduceEq, ↓reduceIte]
    unfold m_doStatementItem
    rw [gd_pos (by omega), Int.toNat_natCast, up_ne (by omega), it.1, hk, gr (by omega)]
    simp only [Int.reduceEq, ↓reduceIte]
  have R73 : ∀ z : iS, z 121 95 = t 121 95 → z 170 (stA A u + i) = (P r.2.2.2.toNat : Int) → m_doStatementItem_73 ((stA A u + i : Nat) : Int) z = some (0, up (up z 185 (wsG F P s0 t0 K U W A ((u, i, pv, vv, st, ob) :: g)).length (P r.2.2.2.toNat : Int)) 121 95 (t 121 95 + 1)) := fun z z1 z2 => by
    unfold m_doStatementItem_73
    rw [gd_pos (by omega), z1, g8, gd_pos (by omega), Int.toNat_natCast, Int.toNat_natCast, z2, lt_eq, lt_eq, up_ne (by omega), z1, g8]
  have ew : wsG F P s0 t0 K U W A ((u, i, pv, vv, st, ob) :: g) ++ [r.2.2.2.toNat] = wsG F P s0 t0 K U W A g ++ (r.2.2.2.toNat :: (aA F P s0 t0 K U W A u i).2.1).reverse := by
    rw [List.reverse_cons, ← List.append_assoc]
    rfl
  by_cases c : t 121 96 = (fu : Int)
  · -- no fuel
    have sx := st_n (t := up t 121 98 (t 121 98 + 1)) (x := (fu : Int)) (by rw [up_ne (by omega)]; exact c) (by rw [up_ne (by omega)]; exact n2) (by omega)
    obtain ⟨ty, hty⟩ : ∃ ty, ty = up (up (up t 121 98 (t 121 98 + 1)) 121 99 1) 121 4 (P r.2.2.2.toNat : Int) := ⟨_, rfl⟩
    have fy : ∀ c k, ¬ (c = 121 ∧ (k = 98 ∨ k = 99 ∨ k = 4)) → ty c k = t c k := fun c k z => by rw [hty, up_ne (by omega), up_ne (by omega), up_ne (by omega)]
    have y99 : ty 121 99 = 1 := by rw [hty, up_ne (by omega), up_same]
    have R : m_doItem t = some (0, up (up ty 185 (wsG F P s0 t0 K U W A ((u, i, pv, vv, st, ob) :: g)).length (P r.2.2.2.toNat : Int)) 121 95 (t 121 95 + 1)) := by
      rw [R0, sx, bq, gr (by omega), if_pos rfl, lt_eq, up_ne (by omega), up_ne (by omega), t170, ← hty, R73 ty (fy 121 95 (by omega)) (by rw [fy 170 _ (by omega)]; exact t170), bq]
    have T := turn_x (q := s) hP g1 hu hi1 (by rw [ha]; show (P r.2.2.2.toNat : Int) ≠ -1; omega) l4 (by rw [hc]; exact e7) (fun _ _ _ _ => rfl) ⟨n4, by omega⟩ (by omega)
    rw [ha] at T
    refine ⟨1, _, _, T, run_nx (r := 0) l2.2 R, ⟨by rw [up_ne (by omega), up_ne (by omega), fy 121 96 (by omega)]; exact Int.le_refl _, by rw [up_ne (by omega), up_ne (by omega), fy 121 96 (by omega)]; exact n5⟩, Or.inr ⟨⟨⟨?_, ?_, ?_⟩, ?_, ?_, ⟨?_, ?_⟩, ?_, ⟨?_, ?_⟩, fun _ => ⟨?_, ?_, ?_, ?_, ?_⟩⟩, ?_, ?_⟩⟩
    · rw [up_same, up_ne (by omega), up_ne (by omega), y99]
    · rw [up_same]; decide
    · rw [up_same]; decide
    · exact LB_of l1 (fun c k z => by rw [up_ne (by omega), up_ne (by omega)]) (fun c k z => by rw [up_ne (by omega), up_ne (by omega), fy c k (by omega)])
    · rw [up_ne (by omega), up_ne (by omega), up_ne (by omega), up_ne (by omega), fy 121 96 (by omega)]; omega
    · rw [up_ne (by omega), up_ne (by omega)]; exact n4
    · rw [up_ne (by omega), up_ne (by omega)]; omega
    · rw [up_ne (by omega), up_ne (by omega), up_ne (by omega), up_ne (by omega), fy 121 89 (by omega)]; exact k4
    · rw [up_ne (by omega), up_ne (by omega)]; exact k5'
    · rw [up_ne (by omega), up_ne (by omega)]; exact k6
    · rw [up_same, g8]; omega
    · rw [up_same, g8]; omega
    · rw [up_ne (by omega), up_same, up_same, g8, if_neg (by omega), up_ne (by omega), show ((wsG F P s0 t0 K U W A ((u, i, pv, vv, st, ob) :: g)).length + 1 - 1 : Int).toNat = (wsG F P s0 t0 K U W A ((u, i, pv, vv, st, ob) :: g)).length by omega, up_same]
    · rw [up_ne (by omega), up_same]; show 0 ≤ (P r.2.2.2.toNat : Int); omega
    · rw [up_ne (by omega), up_same]; show (P r.2.2.2.toNat : Int) ≤ 100000; omega
    · rw [up_ne (by omega), up_ne (by omega), fy 121 74 (by omega)]
    · rw [up_ne (by omega), up_ne (by omega), fy 121 96 (by omega)]
      have : 0 ≤ (rmC F P s0 t0 K U W A ((u, i, pv, vv, st, ob) :: g) : Int) := Int.natCast_nonneg _
      omega
  · have sx := st_y (t := up t 121 98 (t 121 98 + 1)) (x := t 121 96) (y := (fu : Int)) (by rw [up_ne (by omega)]) (by rw [up_ne (by omega)]; exact n2) (by omega) (by omega)
    obtain ⟨ty, hty⟩ : ∃ ty, ty = up (up t 121 98 (t 121 98 + 1)) 121 96 (t 121 96 + 1) := ⟨_, rfl⟩
    have fy : ∀ c k, ¬ (c = 121 ∧ (k = 98 ∨ k = 96)) → ty c k = t c k := fun c k z => by rw [hty, up_ne (by omega), up_ne (by omega)]
    have y96 : ty 121 96 = t 121 96 + 1 := by rw [hty, up_same]
    have y98 : ty 121 98 = t 121 98 + 1 := by rw [hty, up_ne (by omega), up_same]
    have R : m_doItem t = some (0, up (up ty 185 (wsG F P s0 t0 K U W A ((u, i, pv, vv, st, ob) :: g)).length (P r.2.2.2.toNat : Int)) 121 95 (t 121 95 + 1)) := by
      rw [R0, sx, bq, gr (by omega), if_neg (by omega), ← hty, R73 ty (fy 121 95 (by omega)) (by rw [fy 170 _ (by omega)]; exact t170), bq]
    have S : SIM F P s0 t0 K U W A t3 fu s (up (up ty 185 (wsG F P s0 t0 K U W A ((u, i, pv, vv, st, ob) :: g)).length (P r.2.2.2.toNat : Int)) 121 95 (t 121 95 + 1)) (u, i + 1, pv, vv, st, ob) g := by
      refine SIM_st (ws' := r.2.2.2.toNat :: (aA F P s0 t0 K U W A u i).2.1) hP.2.2.2.2.1 h hi1 (fun _ _ _ _ => rfl) g6 (fun c k z1 z2 z3 => by rw [up_ne (by omega), up_ne (by omega), fy c k (by omega)]) (RTK_of g7 (by rw [up_ne (by omega), up_ne (by omega), fy 121 87 (by omega)]) (funext fun k => by rw [up_ne (by omega), up_ne (by omega), fy 180 k (by omega)])) b3 (by rw [ha]) ⟨?_, fun k hk => ?_⟩ ⟨n4, by rw [up_ne (by omega), up_ne (by omega), y96]; omega, ?_⟩ (by rw [up_ne (by omega), up_ne (by omega), y98, e98]; omega) (by rw [hc]; exact e7) (by rw [ha]; exact el) (fun _ z => ?_)
      · rw [up_same, g8, ← ew, List.length_append, List.length_singleton]; omega
      · rw [← ew] at hk ⊢
        rw [List.length_append, List.length_singleton] at hk
        rw [up_ne (by omega)]
        by_cases cz : k = (wsG F P s0 t0 K U W A ((u, i, pv, vv, st, ob) :: g)).length
        · subst cz
          rw [up_same, List.getD_eq_getElem?_getD, List.getElem?_append_right (Nat.le_refl _), Nat.sub_self]
          rfl
        · rw [up_ne (by omega), fy 185 k (by omega), g9 k (by omega), List.getD_eq_getElem?_getD, List.getD_eq_getElem?_getD, List.getElem?_append_left (by omega)]
      · rw [ha, up_ne (by omega), up_ne (by omega), y96]
        show s 51 16 + (if (P r.2.2.2.toNat : Int) = -1 then 0 else 1) = _
        rw [if_neg (by omega)]; omega
      · rw [ha] at z
        exact absurd z (by show (P r.2.2.2.toNat : Int) ≠ -1; omega)
    have z96 : up (up ty 185 (wsG F P s0 t0 K U W A ((u, i, pv, vv, st, ob) :: g)).length (P r.2.2.2.toNat : Int)) 121 95 (t 121 95 + 1) 121 96 = t 121 96 + 1 := by rw [up_ne (by omega), up_ne (by omega), y96]
    refine ⟨0, s, _, TN_0, run_nx (r := 0) l2.2 R, ⟨by omega, by omega⟩, Or.inl ⟨_, _, S, ?_, ?_⟩⟩
    · show ((0 : Nat) : Int) + (((cmN F P s0 t0 K U W A (u + 1)).length - cpo F P s0 t0 K U W A u (i + 1) + rmC F P s0 t0 K U W A g : Nat) : Int) ≤ (((cmN F P s0 t0 K U W A (u + 1)).length - cpo F P s0 t0 K U W A u i + rmC F P s0 t0 K U W A g : Nat) : Int) + _
      rw [hc, z96]
      omega
    · rw [z96]
      show _ + (((A.getD u []).length - (i + 1) + rmI A g : Nat) : Int) < _ + (((A.getD u []).length - i + rmI A g : Nat) : Int)
      omega
end RNx
