/-! the reference's checks: main -/
section RKb
variable {F : Nat → Int} {n N : Nat} {P : Nat → Nat} {s0 t0 t t2 t' t'' : iS} {a b i j u q k c l : Nat} {K : List Nat} {U : List urec} {W : List wrec} {Y : List Nat} {L : List Nat}
theorem txt_ok {v2 v3 v4 v5 : Int} (h : RQ F n N P s0 t0 t) (hj : j < N ∧ s0 9 j = 3) (h2 : 0 ≤ v2 ∧ v2 < 256) (h3 : 0 ≤ v3 ∧ v3 < 256) (h4 : 0 ≤ v4 ∧ v4 < 256) (h5 : 0 ≤ v5 ∧ v5 < 256) : m_isText (j : Int) v2 v3 v4 v5 t = some (if nmT F P t0 j = [v2, v3, v4, v5] then 1 else 0, t) := by
  obtain ⟨z, a1, a2, a3, a4, a5, a6, a7, a8, a9, a10⟩ := RQ_tk h hj.1 hj.2
  unfold m_isText
  rw [gd_pos (by omega), Int.toNat_natCast, a2, a3, gr (by omega), a1]
  by_cases c : z = 4
  · subst c
    have c0 := a10 0 (by omega)
    have c1 := a10 1 (by omega)
    have c2 := a10 2 (by omega)
    have c3 := a10 3 (by omega)
    rw [Nat.add_zero] at c0
    have e : bs F (P j) 4 = [F (P j), F (P j + 1), F (P j + 2), F (P j + 3)] := rfl
    rw [e, if_pos (show (((4 : Nat) : Int)) = 4 from rfl), gd_pos (by omega), show ((P j : Int)).toNat = P j by omega, show ((P j : Int) + 1).toNat = P j + 1 by omega, show ((P j : Int) + 2).toNat = P j + 2 by omega, show ((P j : Int) + 3).toNat = P j + 3 by omega, c0.1, c1.1, c2.1, c3.1, gr (by omega), gr (by omega)]
    by_cases d0 : F (P j) = v2
    · rw [if_pos d0, gd_pos (by omega), gr (by omega), gr (by omega)]
      by_cases d1 : F (P j + 1) = v3
      · rw [if_pos d1, gd_pos (by omega), gr (by omega), gr (by omega)]
        by_cases d2 : F (P j + 2) = v4
        · rw [if_pos d2, gd_pos (by omega), gr (by omega), gr (by omega)]
          by_cases d3 : F (P j + 3) = v5
          · rw [if_pos d3, if_pos (by rw [d0, d1, d2, d3])]
          · rw [if_neg d3, if_neg (fun e => d3 (by simp at e; exact e.2.2.2))]
        · rw [if_neg d2, if_neg (fun e => d2 (by simp at e; exact e.2.2.1))]
      · rw [if_neg d1, if_neg (fun e => d1 (by simp at e; exact e.2.1))]
    · rw [if_neg d0, if_neg (fun e => d0 (by simp at e; exact e.1))]
  · rw [if_neg (by omega), if_neg (fun e => c (by
      have := congrArg List.length e
      rw [bs_len] at this
      exact this))]
/-- a sub that a text begins with -/
def isMn (F : Nat → Int) (P : Nat → Nat) (t0 : iS) (K : List Nat) (U : List urec) (W : List wrec) (i : Nat) : Bool := decide (((uAt U i).2.1 = 2 ∧ nwP (i : Int) W = 0) ∧ nmT F P t0 (uAt U i).2.2.1 = [109, 97, 105, 110] ∧ nmT F P t0 (K.getD (uAt U i).1.toNat 0) = [77, 97, 105, 110])

def mnI (F : Nat → Int) (P : Nat → Nat) (t0 : iS) (K : List Nat) (U : List urec) (W : List wrec) (k : Nat) : Int := fst1 (fun i => isMn F P t0 K U W i = true) 0 k
theorem main_ok (h : RG F n N P s0 t0 K U W Y t) : ∃ t', m_checkMain t = some (0, t') ∧ (∀ c k, ¬ (c = 121 ∧ k = 72) → t' c k = t c k) ∧ t' 121 72 = mnI F P t0 K U W U.length := by
  have hU := h.2.1.2.2.2.2.2.1
  have hW := h.2.2.2.1
  have hK := h.2.1.2.2.1
  have fr : ∀ t', (∀ c k, ¬ (c = 121 ∧ k = 72) → t' c k = t c k) → FR t t' := fun t' f c k a _ _ _ => f c k (by omega)
  have B := lpN (f := m_checkMain_7b) (M := U.length) (I := fun i t' => (∀ c k, ¬ (c = 121 ∧ k = 72) → t' c k = t c k) ∧ t' 121 72 = mnI F P t0 K U W i) (fun i t1 hi ⟨q1, q2⟩ => by
    have g := RG_fr h (fr t1 q1)
    obtain ⟨u1, u2, u3, u4, u5, u6, u7, u8, u9, u10, u11⟩ := RG_U g hi
    have p1 := (g.2.1.2.2.2.2.2.2.2.2.2.2.2.2 i hi).1
    have np : nwP (i : Int) W ≤ W.length := List.countP_le_length
    have hs : mnI F P t0 K U W (i + 1) = if mnI F P t0 K U W i = -1 then (if isMn F P t0 K U W i = true then (i : Int) else -1) else mnI F P t0 K U W i := by
      unfold mnI
      rw [fst1_split, Nat.zero_add]
      rfl
    have rm := fst1_rg (P := fun i => isMn F P t0 K U W i = true) i 0
    change mnI F P t0 K U W i = -1 ∨ _ ≤ mnI F P t0 K U W i ∧ mnI F P t0 K U W i < _ ∧ _ at rm
    have no : ¬ (isMn F P t0 K U W i = true) → ∃ t', m_checkMain_85 (i : Int) t1 = some (.inl ((i : Int) + 1, t')) ∧ (∀ c k, ¬ (c = 121 ∧ k = 72) → t' c k = t c k) ∧ t' 121 72 = mnI F P t0 K U W (i + 1) := fun c => by
      refine ⟨t1, ?_, q1, ?_⟩
      · unfold m_checkMain_85 m_checkMain_86
        rw [gr (by omega), if_pos rfl]
      · rw [hs, q2, if_neg c]
        split <;> omega
    unfold m_checkMain_7b
    rw [gr (by omega), g.2.1.2.2.2.1, gr (by omega), if_neg (by omega), gd_pos (by omega), Int.toNat_natCast, u2, gr (by omega)]
    by_cases c1 : (U.getD i (0, 0, 0, 0)).2.1 = 2
    · rw [if_pos c1, p1, gr (by omega)]
      by_cases c2 : (nwP (i : Int) W : Int) = 0
      · rw [if_pos c2, u3, txt_ok g.1 ⟨u5, u6⟩ (by omega) (by omega) (by omega) (by omega), bq]
        by_cases c3 : nmT F P t0 (U.getD i (0, 0, 0, 0)).2.2.1 = [109, 97, 105, 110]
        · obtain ⟨k1, k2, k3⟩ := RG_K g (i := (U.getD i (0, 0, 0, 0)).1.toNat) (by omega)
          rw [if_pos c3, gr (by omega), if_neg (by omega), u1, gd_pos (by omega), k1, txt_ok g.1 ⟨k2, k3⟩ (by omega) (by omega) (by omega) (by omega), bq]
          by_cases c4 : nmT F P t0 (K.getD (U.getD i (0, 0, 0, 0)).1.toNat 0) = [77, 97, 105, 110]
          · have hm : isMn F P t0 K U W i = true := decide_eq_true ⟨⟨c1, by omega⟩, c3, c4⟩
            rw [if_pos c4, gr (by omega), if_neg (by omega)]
            unfold m_checkMain_86
            rw [gr (by omega), if_neg (by omega), q2, gr (by omega)]
            by_cases c5 : mnI F P t0 K U W i = -1
            · rw [if_pos c5, lt_eq]
              refine ⟨_, rfl, fun c k a => by rw [up_ne a]; exact q1 c k a, ?_⟩
              rw [up_same, hs, if_pos c5, if_pos hm]
            · rw [if_neg c5]
              refine ⟨t1, rfl, q1, ?_⟩
              rw [q2, hs, if_neg c5]
          · rw [if_neg c4, gr (by omega), if_pos rfl]
            exact no (fun e => c4 (of_decide_eq_true e).2.2)
        · rw [if_neg c3, gr (by omega), if_pos rfl]
          exact no (fun e => c3 (of_decide_eq_true e).2.1)
      · rw [if_neg c2]
        exact no (fun e => c2 (by have := (of_decide_eq_true e).1.2; omega))
    · rw [if_neg c1]
      exact no (fun e => c1 (of_decide_eq_true e).1.1)) (fun t1 ⟨q1, q2⟩ => by
    have g := RG_fr h (fr t1 q1)
    unfold m_checkMain_7b
    rw [gr (by omega), g.2.1.2.2.2.1, gr (by omega), if_pos (by omega)]) U.length 0 (up t 121 72 (-1)) (by omega) ⟨fun c k a => up_ne a, up_same _ _ _ _⟩
  obtain ⟨t', b1, b2, b3⟩ := B
  refine ⟨t', ?_, b2, b3⟩
  unfold m_checkMain
  rw [lt_eq]
  unfold m_checkMain_7
  rw [show lp (L := Int × iS) (E := iS) (fun l => m_checkMain_7b (l.1) (l.2)) (0, up t 121 72 (-1)) = _ from b1]
  rfl
end RKb
