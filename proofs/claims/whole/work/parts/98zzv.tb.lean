/-! the reference's checks: which variable a name is; notes -/
section RK4
variable {F : Nat → Int} {n N : Nat} {P : Nat → Nat} {s0 t0 t : iS} {a b j u : Nat} {K : List Nat} {U : List urec} {W : List wrec} {Y : List Nat} {ow : Int} {L : List Nat}
def vOw (F : Nat → Int) (P : Nat → Nat) (t0 : iS) (W : List wrec) (u j : Nat) (i k : Nat) : Int := fst1 (fun i => (wGt W i).2.1 = (u : Int) ∧ nmT F P t0 (wGt W i).2.2.2.2.1 = nmT F P t0 j) i k
def vCl (F : Nat → Int) (P : Nat → Nat) (t0 : iS) (U : List urec) (W : List wrec) (so : Int) (u j : Nat) (i k : Nat) : Int := fst1 (fun i => ((wGt W i).2.1 = -1 ∧ (wGt W i).1 = (uAt U u).1 ∧ (wGt W i).2.2.1 = so) ∧ nmT F P t0 (wGt W i).2.2.2.2.1 = nmT F P t0 j) i k
/-- the variable of a name in a sub -/
def rvI (F : Nat → Int) (P : Nat → Nat) (t0 : iS) (U : List urec) (W : List wrec) (u j : Nat) : Int := if vOw F P t0 W u j 0 W.length = -1 then (if vCl F P t0 U W 1 u j 0 W.length = -1 then vCl F P t0 U W 0 u j 0 W.length else vCl F P t0 U W 1 u j 0 W.length) else vOw F P t0 W u j 0 W.length
theorem vo95 (h : RG F n N P s0 t0 K U W Y t) (hu : u < U.length) {i : Nat} (hi : i < W.length) {v2 v3 v4 v5 : Int} : m_variableOf_95 (u : Int) v2 v3 v4 v5 (i : Int) t = some (.inl (v3, v4, if (wGt W i).2.1 = -1 ∧ (wGt W i).1 = (uAt U u).1 ∧ (wGt W i).2.2.1 = 0 then (i : Int) else v5, (i : Int) + -1, t)) := by
  obtain ⟨⟨a1, a2, a3, a4, a5⟩, a6, a7, ⟨a8, a8'⟩, a9, a10, a11, a12, a13, a14⟩ := RG_W h hi
  obtain ⟨u1, u2, u3, u4, u5, u6, u7, u8, u9, u10, _⟩ := RG_U h hu
  have hW := h.2.2.2.1
  unfold m_variableOf_95 wGt uAt
  rw [gd_pos (by omega), Int.toNat_natCast, Int.toNat_natCast, a1, a2, a3, u1, gr (by omega)]
  by_cases c1 : (W.getD i (0, 0, 0, 0, 0, 0, 0)).2.1 = -1
  · rw [if_pos c1, gd_pos (by omega), gr (by omega), gr (by omega)]
    by_cases c2 : (W.getD i (0, 0, 0, 0, 0, 0, 0)).1 = (U.getD u (0, 0, 0, 0)).1
    · rw [if_pos c2, gr (by omega)]
      by_cases c3 : (W.getD i (0, 0, 0, 0, 0, 0, 0)).2.2.1 = 0
      · rw [if_pos c3, if_pos ⟨c1, c2, c3⟩]
      · rw [if_neg c3, if_neg (fun e => c3 e.2.2)]
    · rw [if_neg c2, if_neg (fun e => c2 e.2.1)]
  · rw [if_neg c1, if_neg (fun e => c1 e.1)]
theorem vo53 (h : RG F n N P s0 t0 K U W Y t) (hu : u < U.length) {i : Nat} (hi : i < W.length) {v2 v3 v4 v5 : Int} : m_variableOf_53 (u : Int) v2 v3 v4 v5 (i : Int) t = some (.inl (v3, if (wGt W i).2.1 = -1 ∧ (wGt W i).1 = (uAt U u).1 ∧ (wGt W i).2.2.1 = 1 then (i : Int) else v4, if (wGt W i).2.1 = -1 ∧ (wGt W i).1 = (uAt U u).1 ∧ (wGt W i).2.2.1 = 0 then (i : Int) else v5, (i : Int) + -1, t)) := by
  have E : ∀ v, m_variableOf_95 (u : Int) v2 v3 v v5 (i : Int) t = _ := fun v => vo95 h hu hi
  obtain ⟨⟨a1, a2, a3, a4, a5⟩, a6, a7, ⟨a8, a8'⟩, a9, a10, a11, a12, a13, a14⟩ := RG_W h hi
  obtain ⟨u1, u2, u3, u4, u5, u6, u7, u8, u9, u10, _⟩ := RG_U h hu
  have hW := h.2.2.2.1
  unfold m_variableOf_53
  rw [E, E, gd_pos (by omega), Int.toNat_natCast, Int.toNat_natCast, a1, a2, a3, u1, gr (by omega)]
  unfold wGt uAt
  by_cases c1 : (W.getD i (0, 0, 0, 0, 0, 0, 0)).2.1 = -1
  · rw [if_pos c1, gd_pos (by omega), gr (by omega), gr (by omega)]
    by_cases c2 : (W.getD i (0, 0, 0, 0, 0, 0, 0)).1 = (U.getD u (0, 0, 0, 0)).1
    · rw [if_pos c2, gr (by omega)]
      by_cases c3 : (W.getD i (0, 0, 0, 0, 0, 0, 0)).2.2.1 = 1
      · rw [if_pos c3, if_pos (show (W.getD i (0, 0, 0, 0, 0, 0, 0)).2.1 = -1 ∧ (W.getD i (0, 0, 0, 0, 0, 0, 0)).1 = (U.getD u (0, 0, 0, 0)).1 ∧ (W.getD i (0, 0, 0, 0, 0, 0, 0)).2.2.1 = 1 from ⟨c1, c2, c3⟩)]
      · rw [if_neg c3, if_neg (show ¬ ((W.getD i (0, 0, 0, 0, 0, 0, 0)).2.1 = -1 ∧ (W.getD i (0, 0, 0, 0, 0, 0, 0)).1 = (U.getD u (0, 0, 0, 0)).1 ∧ (W.getD i (0, 0, 0, 0, 0, 0, 0)).2.2.1 = 1) from fun e => c3 e.2.2)]
    · rw [if_neg c2, if_neg (show ¬ ((W.getD i (0, 0, 0, 0, 0, 0, 0)).2.1 = -1 ∧ (W.getD i (0, 0, 0, 0, 0, 0, 0)).1 = (U.getD u (0, 0, 0, 0)).1 ∧ (W.getD i (0, 0, 0, 0, 0, 0, 0)).2.2.1 = 1) from fun e => c2 e.2.1)]
  · rw [if_neg c1, if_neg (show ¬ ((W.getD i (0, 0, 0, 0, 0, 0, 0)).2.1 = -1 ∧ (W.getD i (0, 0, 0, 0, 0, 0, 0)).1 = (U.getD u (0, 0, 0, 0)).1 ∧ (W.getD i (0, 0, 0, 0, 0, 0, 0)).2.2.1 = 1) from fun e => c1 e.1)]
theorem fst1_if {Q : Nat → Prop} [DecidablePred Q] {i k : Nat} : fst1 Q i (k + 1) = if Q i then (i : Int) else fst1 Q (i + 1) k := rfl
theorem vo_ok (h : RG F n N P s0 t0 K U W Y t) (hj : j < N ∧ s0 9 j = 3) (hu : u < U.length) : ∀ i k : Nat, i + k = W.length → m_variableOf_16 (u : Int) (j : Int) (vOw F P t0 W u j i k) (vCl F P t0 U W 1 u j i k) (vCl F P t0 U W 0 u j i k) ((i : Int) - 1) t = some (rvI F P t0 U W u j, t)
  | 0, k, hi => by
    have e : k = W.length := by omega
    subst e
    have hW := h.2.2.2.1
    have r1 := fst1_rg (P := fun i => (wGt W i).2.1 = (u : Int) ∧ nmT F P t0 (wGt W i).2.2.2.2.1 = nmT F P t0 j) W.length 0
    have r2 := fst1_rg (P := fun i => ((wGt W i).2.1 = -1 ∧ (wGt W i).1 = (uAt U u).1 ∧ (wGt W i).2.2.1 = 1) ∧ nmT F P t0 (wGt W i).2.2.2.2.1 = nmT F P t0 j) W.length 0
    change vOw F P t0 W u j 0 W.length = -1 ∨ _ ≤ vOw F P t0 W u j 0 W.length ∧ vOw F P t0 W u j 0 W.length < _ ∧ _ at r1
    change vCl F P t0 U W 1 u j 0 W.length = -1 ∨ _ ≤ vCl F P t0 U W 1 u j 0 W.length ∧ vCl F P t0 U W 1 u j 0 W.length < _ ∧ _ at r2
    have st : ∀ a b c : Int, m_variableOf_16b (u : Int) (j : Int) a b c (((0 : Nat) : Int) - 1) t = some (.inr (a, b, c, t)) := fun a b c => by
      unfold m_variableOf_16b
      rw [gr (by omega), if_pos (by omega)]
    unfold m_variableOf_16
    rw [lp_end (f := fun l : Int × Int × Int × Int × iS => m_variableOf_16b (u : Int) (j : Int) (l.1) (l.2.1) (l.2.2.1) (l.2.2.2.1) (l.2.2.2.2)) (st _ _ _)]
    show m_variableOf_142 (vOw F P t0 W u j 0 W.length) (vCl F P t0 U W 1 u j 0 W.length) (vCl F P t0 U W 0 u j 0 W.length) t = _
    unfold m_variableOf_142 rvI
    rw [gr (by omega)]
    by_cases c1 : vOw F P t0 W u j 0 W.length = -1
    · rw [if_pos c1, if_pos c1, gr (by omega)]
      by_cases c2 : vCl F P t0 U W 1 u j 0 W.length = -1
      · rw [if_pos c2, if_pos c2]
      · rw [if_neg c2, if_neg c2]
    · rw [if_neg c1, if_neg c1]
  | i + 1, k, hi => by
    obtain ⟨⟨a1, a2, a3, a4, a5⟩, a6, a7, ⟨a8, a8'⟩, a9, a10, a11, a12, a13, a14⟩ := RG_W h (i := i) (by omega)
    have hW := h.2.2.2.1
    rw [← vo_ok h hj hu i (k + 1) (by omega)]
    have st : m_variableOf_16b (u : Int) (j : Int) (vOw F P t0 W u j (i + 1) k) (vCl F P t0 U W 1 u j (i + 1) k) (vCl F P t0 U W 0 u j (i + 1) k) (((i + 1 : Nat) : Int) - 1) t = some (.inl (vOw F P t0 W u j i (k + 1), vCl F P t0 U W 1 u j i (k + 1), vCl F P t0 U W 0 u j i (k + 1), (i : Int) - 1, t)) := by
      have e1 : vOw F P t0 W u j i (k + 1) = if (wGt W i).2.1 = (u : Int) ∧ nmT F P t0 (wGt W i).2.2.2.2.1 = nmT F P t0 j then (i : Int) else vOw F P t0 W u j (i + 1) k := fst1_if
      have e2 : ∀ so, vCl F P t0 U W so u j i (k + 1) = if ((wGt W i).2.1 = -1 ∧ (wGt W i).1 = (uAt U u).1 ∧ (wGt W i).2.2.1 = so) ∧ nmT F P t0 (wGt W i).2.2.2.2.1 = nmT F P t0 j then (i : Int) else vCl F P t0 U W so u j (i + 1) k := fun so => fst1_if
      rw [e1, e2, e2, show ((i + 1 : Nat) : Int) - 1 = (i : Int) by omega]
      unfold m_variableOf_16b
      rw [gr (by omega), if_neg (by omega), gd_pos (by omega), Int.toNat_natCast, a5, like_ok h.1 ⟨a6, a7⟩ hj, bq]
      change gd _ (if (if nmT F P t0 (wGt W i).2.2.2.2.1 = nmT F P t0 j then (1 : Int) else 0) = 0 then _ else _) = _
      by_cases c : nmT F P t0 (wGt W i).2.2.2.2.1 = nmT F P t0 j
      · rw [if_pos c, gr (by omega), if_neg (by omega), a2, gr (by omega), gr (by omega), vo53 h hu (by omega), vo53 h hu (by omega)]
        have f1 : ∀ so : Int, (if ((wGt W i).2.1 = -1 ∧ (wGt W i).1 = (uAt U u).1 ∧ (wGt W i).2.2.1 = so) ∧ nmT F P t0 (wGt W i).2.2.2.2.1 = nmT F P t0 j then (i : Int) else vCl F P t0 U W so u j (i + 1) k) = if (wGt W i).2.1 = -1 ∧ (wGt W i).1 = (uAt U u).1 ∧ (wGt W i).2.2.1 = so then (i : Int) else vCl F P t0 U W so u j (i + 1) k := fun so => by
          by_cases d : (wGt W i).2.1 = -1 ∧ (wGt W i).1 = (uAt U u).1 ∧ (wGt W i).2.2.1 = so
          · rw [if_pos d, if_pos ⟨d, c⟩]
          · rw [if_neg d, if_neg (fun e => d e.1)]
        rw [f1, f1, show (i : Int) + -1 = (i : Int) - 1 by omega]
        change (if (wGt W i).2.1 = (u : Int) then _ else _) = _
        by_cases d : (wGt W i).2.1 = (u : Int)
        · rw [if_pos d, if_pos (show (wGt W i).2.1 = (u : Int) ∧ nmT F P t0 (wGt W i).2.2.2.2.1 = nmT F P t0 j from ⟨d, c⟩)]
        · rw [if_neg d, if_neg (show ¬ ((wGt W i).2.1 = (u : Int) ∧ nmT F P t0 (wGt W i).2.2.2.2.1 = nmT F P t0 j) from fun e => d e.1)]
      · rw [if_neg c, gr (by omega), if_pos rfl, if_neg (fun e => c e.2), if_neg (fun e => c e.2), if_neg (fun e => c e.2)]
        rfl
    unfold m_variableOf_16
    rw [lp_next (f := fun l : Int × Int × Int × Int × iS => m_variableOf_16b (u : Int) (j : Int) (l.1) (l.2.1) (l.2.2.1) (l.2.2.2.1) (l.2.2.2.2)) st]
/-- which variable a name is -/
theorem var_ok (h : RG F n N P s0 t0 K U W Y t) (hj : j < N ∧ s0 9 j = 3) (hu : u < U.length) : m_variableOf (u : Int) (j : Int) t = some (rvI F P t0 U W u j, t) := by
  unfold m_variableOf
  rw [h.2.1.2.2.2.2.2.2.1]
  exact vo_ok h hj hu W.length 0 (by omega)
theorem rvI_rg : rvI F P t0 U W u j = -1 ∨ (0 ≤ rvI F P t0 U W u j ∧ rvI F P t0 U W u j < (W.length : Int)) := by
  have r1 := fst1_rg (P := fun i => (wGt W i).2.1 = (u : Int) ∧ nmT F P t0 (wGt W i).2.2.2.2.1 = nmT F P t0 j) W.length 0
  have r2 := fun so => fst1_rg (P := fun i => ((wGt W i).2.1 = -1 ∧ (wGt W i).1 = (uAt U u).1 ∧ (wGt W i).2.2.1 = so) ∧ nmT F P t0 (wGt W i).2.2.2.2.1 = nmT F P t0 j) W.length 0
  change vOw F P t0 W u j 0 W.length = -1 ∨ _ ≤ vOw F P t0 W u j 0 W.length ∧ vOw F P t0 W u j 0 W.length < _ ∧ _ at r1
  change ∀ so, vCl F P t0 U W so u j 0 W.length = -1 ∨ _ ≤ vCl F P t0 U W so u j 0 W.length ∧ vCl F P t0 U W so u j 0 W.length < _ ∧ _ at r2
  have q0 := r2 0
  have q1 := r2 1
  unfold rvI
  split
  · split <;> omega
  · omega
/-- the least note so far, as the reference keeps it -/
def RBc (P : Nat → Nat) (N : Nat) (L : List Nat) (t : iS) : Prop := (kMn L = 100000 ∧ t 121 69 = 0) ∨ (kMn L < 100000 ∧ t 121 69 = ((kMn L % 16 : Nat) : Int) ∧ t 121 70 = (P (kMn L / 16) : Int) ∧ 0 < kMn L % 16 ∧ kMn L / 16 < N)
theorem note_ok {f : Nat} (h : RQ F n N P s0 t0 t) (hb : RBc P N L t) (hf : 1 ≤ f ∧ f ≤ 7) (hj : j < N) : ∃ t', m_note (f : Int) (j : Int) t = some (0, t') ∧ RBc P N (L ++ [16 * j + f]) t' ∧ (∀ c k, ¬ (c = 121 ∧ (k = 69 ∨ k = 70)) → t' c k = t c k) := by
  have hN := N1001 h.1
  have hP := fun i (hi : i < N) => (tkP h.1 hi)
  have hn := h.2.1.2.1
  have h125 : ∀ i, i < N → t 125 i = (P i : Int) := fun i hi => by rw [h.2.2.1.2.2.1]; exact (hP i hi).2.1
  have n42 : ∃ t', m_note_42 (f : Int) (j : Int) t = some (0, t') ∧ t' 121 69 = (f : Int) ∧ t' 121 70 = (P j : Int) ∧ (∀ c k, ¬ (c = 121 ∧ (k = 69 ∨ k = 70)) → t' c k = t c k) := by
    refine ⟨up (up t 121 69 (f : Int)) 121 70 (P j : Int), ?_, by rw [up_ne (by omega), up_same], up_same _ _ _ _, fun c k q => by rw [up_ne (by omega), up_ne (by omega)]⟩
    unfold m_note_42
    rw [lt_eq, gd_pos (by omega), lt_eq, Int.toNat_natCast, up_ne (by omega), h125 j hj]
  have key : ∀ t', t' 121 69 = (f : Int) → t' 121 70 = (P j : Int) → 16 * j + f < kMn L → RBc P N (L ++ [16 * j + f]) t' := fun t' q1 q2 q3 => by
    have e : kMn (L ++ [16 * j + f]) = 16 * j + f := by rw [kMn_app]; omega
    refine Or.inr ?_
    rw [e, show (16 * j + f) % 16 = f by omega, show (16 * j + f) / 16 = j by omega]
    exact ⟨by omega, q1, q2, by omega, hj⟩
  obtain ⟨t', e1, e2, e3, e4⟩ := n42
  unfold m_note
  rcases hb with ⟨b1, b2⟩ | ⟨b1, b2, b3, b4, b5⟩
  · rw [b2, gr (by omega), if_pos (by omega)]
    exact ⟨t', e1, key t' e2 e3 (by omega), e4⟩
  · have p1 := (hP (kMn L / 16) b5).2.2
    have p2 := (hP j hj).2.2
    rw [b2, gr (by omega), if_neg (by omega), gd_pos (by omega), b3, gr (by omega), Int.toNat_natCast, h125 j hj, gr (by omega)]
    have keep : kMn L ≤ 16 * j + f → RBc P N (L ++ [16 * j + f]) t := fun q => by
      have e : kMn (L ++ [16 * j + f]) = kMn L := by rw [kMn_app]; omega
      unfold RBc
      rw [e]
      exact Or.inr ⟨b1, b2, b3, b4, b5⟩
    have mono : ∀ x y, x < N → y < N → (P x < P y ↔ x < y) := fun x y hx hy => by
      refine ⟨fun q => ?_, fun q => tkPm h.1 q hy⟩
      rcases Nat.lt_trichotomy x y with c | c | c
      · exact c
      · rw [c] at q; omega
      · have := tkPm h.1 c hx; omega
    have m1 := mono (kMn L / 16) j b5 hj
    have m2 := mono j (kMn L / 16) hj b5
    by_cases c : (P (kMn L / 16) : Int) < (P j : Int)
    · rw [if_pos c]
      exact ⟨t, rfl, keep (by omega), fun _ _ _ => rfl⟩
    · rw [if_neg c]
      by_cases c2 : (P (kMn L / 16) : Int) = (P j : Int)
      · rw [if_pos c2, gr (by omega)]
        have ej : kMn L / 16 = j := by omega
        by_cases c3 : (f : Int) < ((kMn L % 16 : Nat) : Int)
        · rw [if_pos c3]
          exact ⟨t', e1, key t' e2 e3 (by omega), e4⟩
        · rw [if_neg c3]
          exact ⟨t, rfl, keep (by omega), fun _ _ _ => rfl⟩
      · rw [if_neg c2]
        exact ⟨t', e1, key t' e2 e3 (by omega), e4⟩
end RK4
