/-! signs: labels -/
section LB
variable {n m a k p : Nat} {own : List (List Int)} {e : Int} {s t : iS}
theorem lab_ok (hS : BY (s 1)) (hT : BY (t 123)) (hn : n ≤ 4000) (ag : ∀ j, j < n → s 1 j = t 123 j) (h : RA n own m (-1) s t) (h0 : s 55 14 = 0) (h15 : s 55 15 = -1) (hp : s 1 p = 40) {L : Nat} (hL : 1 ≤ L) (hk : p + L ≤ n) : ∃ bad s' t', pro_readLabel (p : Int) ((p + L : Nat) : Int) s = some (0, s') ∧ m_label (p : Int) (L : Int) t = some (bad, t') ∧ OUT bad (p : Int) n s' t' := by
  have RKs := RA_RK h
  obtain ⟨z1, z2, z3⟩ := h.1
  have stop : ∃ s', pro_readLabel_26 (p : Int) s = some (0, s') ∧ OUT 1 (p : Int) n s' t := by
    unfold pro_readLabel_26
    rw [pst0 h0, bq]
    exact ⟨_, rfl, OUT_st RKs (by omega)⟩
  obtain ⟨sf, sf1, sf2⟩ := stop
  unfold pro_readLabel m_label
  by_cases c1 : L = 1
  · subst c1
    have e1 : (((p + 1 : Nat) : Int) - 1).toNat = p := by omega
    simp only [e1]
    rw [gd_pos (by omega), hp, gr (by omega), if_neg (by omega), gr (by omega), if_pos (by omega), sf1]
    exact ⟨1, _, _, rfl, rfl, sf2⟩
  obtain ⟨k, rfl⟩ : ∃ k, L = k + 2 := ⟨L - 2, by omega⟩
  have e1 : (((p + (k + 2) : Nat) : Int) - 1).toNat = p + 1 + k := by omega
  have e2 : (((p : Int) + ((k + 2 : Nat) : Int)) - 1).toNat = p + 1 + k := by omega
  have e3 : ((p + (k + 2) : Nat) : Int) - 1 = ((p + 1 + k : Nat) : Int) := by omega
  have e4 : ((k + 2 : Nat) : Int) - 2 = (k : Int) := by omega
  have e5 : (p : Int) + 1 = ((p + 1 : Nat) : Int) := by omega
  simp only [e1, e2]
  have b := hS (p + 1 + k)
  have ag' : ∀ j, j < k → s 1 (p + 1 + j) = t 123 (p + 1 + j) := fun j hj => ag _ (by omega)
  have agk : s 1 (p + 1 + k) = t 123 (p + 1 + k) := ag _ (by omega)
  have eb : bs (s 1) (p + 1) k = bs (t 123) (p + 1) k := bs_ext ag'
  rw [gd_pos (by omega), gr (by omega), gr (by omega), ← agk]
  by_cases c2 : k = 0
  · subst c2
    rw [if_pos (show ((0 + 2 : Nat) : Int) < 3 by omega)]
    by_cases c3 : s 1 (p + 1 + 0) = 41
    · rw [if_pos c3, e3, e5, pis_n hS (by omega) (fun q => by have := q.1; omega), bq, gr (by omega), if_pos rfl, sf1]
      exact ⟨1, _, _, rfl, rfl, sf2⟩
    · rw [if_neg c3, sf1]
      exact ⟨1, _, _, rfl, rfl, sf2⟩
  rw [if_neg (show ¬ ((k + 2 : Nat) : Int) < 3 by omega), gd_pos (by omega), gr (by omega)]
  by_cases c3 : s 1 (p + 1 + k) = 41
  case neg =>
    rw [if_neg c3, if_neg c3, sf1]
    exact ⟨1, _, _, rfl, rfl, sf2⟩
  rw [if_pos c3, if_pos c3, e3, e4, e5]
  by_cases hY : isY (s 1) (p + 1) k
  case neg =>
    have hY' : ¬ isY (t 123) (p + 1) k := fun q => hY (isY_eq (fun j hj => (ag' j hj).symm) q)
    rw [pis_n hS (by omega) hY, bq, gr (by omega), if_pos rfl, mis_n hT (by omega) hY', bq, gr (by omega), if_pos rfl, sf1]
    exact ⟨1, _, _, rfl, rfl, sf2⟩
  have hY' := isY_eq ag' hY
  rw [pis_y hS (by omega) hY, bq, gr (by omega), if_neg (by omega), mis_y hT (by omega) hY', bq, gr (by omega), if_neg (by omega), kno_ok hT (by omega) hY', bq, ← eb]
  have kr := kw_rg (bs (s 1) (p + 1) k)
  rw [gr (by omega)]
  by_cases hf : fw tK (bs (s 1) (p + 1) k) 0 = -1
  · rw [if_pos (kr.2.2.mpr hf)]
    rcases sym_ok hS hT hn ag h (by omega) hY hf (p : Int) with ⟨y1, y2⟩ | ⟨own', y, s', t', y1, y2, y3, y4, y5⟩
    · have w : up (up s 55 14 2) 55 15 (p : Int) 68 (0 : Int).toNat = 0 := by
        rw [up_cell (by decide), up_cell (by decide)]
        exact h.2.2.2.1 0 (by omega)
      rw [y1, pst0 h0, bq, bq, gd_pos (by omega), w, gr (by omega), if_neg (by omega), pst1 (by rw [up_ne (by omega), up_same]; omega), bq, y2, bq, gr (by omega), if_pos rfl]
      exact ⟨2, _, _, rfl, rfl, OUT_st RKs (by omega)⟩
    · obtain ⟨⟨w1, w2, w3⟩, ww, _, _, wv, _⟩ := id y4
      have hl := ww.1
      obtain ⟨_, _, v3, v4, v5⟩ := wv y y3
      have y55 : ∀ j, s' 55 j = s 55 j := fun j => by rw [y5]
      have ey : (23 + (y : Int)).toNat = 23 + y := by omega
      rw [y1, bq, gd_pos (by omega), ey, v3, gr (by omega)]
      by_cases c4 : t' 192 y = -1
      · rw [if_pos c4, lt_eq, w1, y2, bq, gr (by omega), if_neg (by omega), gd_pos (by omega), Int.toNat_natCast, gr (by omega), if_pos c4, lt_eq, w2]
        refine ⟨0, _, _, rfl, rfl, Or.inl ⟨rfl, ?_, ?_, own', m, RA_val y4 y3 (Or.inr rfl)⟩⟩
        · rw [up_cell (by decide), y55]
          exact h0
        · rw [up_cell (by decide), y55]
          exact h15
      · rw [if_neg c4, pst0 (by rw [y55]; exact h0), bq, y2, bq, gr (by omega), if_neg (by omega), gd_pos (by omega), Int.toNat_natCast, gr (by omega), if_neg c4]
        exact ⟨3, _, _, rfl, rfl, OUT_st (RA_RK y4) (by omega)⟩
  · rw [if_neg (fun q => hf (kr.2.2.mp q))]
    obtain ⟨j, j1, j2, j3⟩ := kno_tk h hS hn (by omega) hY hf (p : Int)
    have w := h.2.2.2.1 j j1
    have wr := kv_rg j j1
    rw [j2, bq, gd_pos (by omega), Int.toNat_natCast, w, gr (by omega), if_neg (by omega), pst0 h0, bq]
    exact ⟨3, _, _, rfl, rfl, OUT_st RKs (by omega)⟩
end LB
