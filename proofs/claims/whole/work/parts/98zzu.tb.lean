/-! the reference's checks: which sub, which variable a name is; notes -/
section RK3
variable {F : Nat → Int} {n N : Nat} {P : Nat → Nat} {s0 t0 t : iS} {a b j u : Nat} {K : List Nat} {U : List urec} {W : List wrec} {Y : List Nat} {ow : Int} {L : List Nat}
def uAt (U : List urec) (i : Nat) : urec := U.getD i (0, 0, 0, 0)
def wGt (W : List wrec) (i : Nat) : wrec := W.getD i (0, 0, 0, 0, 0, 0, 0)
def sbR (F : Nat → Int) (P : Nat → Nat) (t0 : iS) (U : List urec) (ow : Int) (j : Nat) : Int := if 8 ≤ ow then fst1 (fun i => (uAt U i).1 = ow - 8 ∧ nmT F P t0 (uAt U i).2.2.1 = nmT F P t0 j) 0 U.length else fst1 (fun i => sysSN.getD i [] = nmT F P t0 j) (sysFS.getD ow.toNat 0).toNat ((sysFS.getD (ow.toNat + 1) 0).toNat - (sysFS.getD ow.toNat 0).toNat)
theorem so13 {o e : Nat} (h : RQ F n N P s0 t0 t) (hj : j < N ∧ s0 9 j = 3) (ho : o < 8) (he : t 164 (o + 1) = (e : Int)) (he2 : e ≤ 40) : ∀ k i : Nat, i + k = e → m_subOf_13 (o : Int) (j : Int) (i : Int) t = some (fst1 (fun x => sysSN.getD x [] = nmT F P t0 j) i k, t)
  | 0, i, hi => by
    have st : m_subOf_13b (o : Int) (j : Int) (i : Int) t = some (.inr (.inr t)) := by
      unfold m_subOf_13b
      rw [gd_pos (by omega), gr (by omega), show ((o : Int) + 1).toNat = o + 1 by omega, he, gr (by omega), if_pos (by omega)]
    unfold m_subOf_13
    rw [lp_end (f := fun l : Int × iS => m_subOf_13b (o : Int) (j : Int) (l.1) (l.2)) (l := ((i : Int), t)) st]
    rfl
  | k + 1, i, hi => by
    obtain ⟨y1, y2, y3⟩ := h.2.2.2.2.2 i (by omega)
    have sw := List.all_eq_true.mp sysW_s i (List.mem_range.mpr (by omega))
    rw [Bool.and_eq_true] at sw
    have st : m_subOf_13b (o : Int) (j : Int) (i : Int) t = if sysSN.getD i [] = nmT F P t0 j then some (.inr (.inl ((i : Int), t))) else some (.inl (((i + 1 : Nat) : Int), t)) := by
      unfold m_subOf_13b
      rw [gd_pos (by omega), gr (by omega), show ((o : Int) + 1).toNat = o + 1 by omega, he, gr (by omega), if_neg (by omega), gd_pos (by omega), Int.toNat_natCast, y1, isy_ok h hj ⟨sw.1, of_decide_eq_true sw.2⟩, bq]
      by_cases c : nmT F P t0 j = sysSN.getD i []
      · rw [if_pos c, gr (by omega), if_neg (by omega), if_pos c.symm]
      · rw [if_neg c, gr (by omega), if_pos rfl, if_neg (fun e => c e.symm)]
        rfl
    by_cases c : sysSN.getD i [] = nmT F P t0 j
    · rw [fst1_y (Q := fun x => sysSN.getD x [] = nmT F P t0 j) c]
      unfold m_subOf_13
      rw [lp_end (f := fun l : Int × iS => m_subOf_13b (o : Int) (j : Int) (l.1) (l.2)) (l := ((i : Int), t)) (st.trans (if_pos c))]
      rfl
    · rw [fst1_n (Q := fun x => sysSN.getD x [] = nmT F P t0 j) c, ← so13 h hj ho he he2 k (i + 1) (by omega)]
      unfold m_subOf_13
      rw [lp_next (f := fun l : Int × iS => m_subOf_13b (o : Int) (j : Int) (l.1) (l.2)) (l := ((i : Int), t)) (st.trans (if_neg c))]
theorem so51 (h : RG F n N P s0 t0 K U W Y t) (hj : j < N ∧ s0 9 j = 3) (ho : 8 ≤ ow ∧ ow < 100) : ∀ k i : Nat, i + k = U.length → m_subOf_51 ow (j : Int) (i : Int) t = some (fst1 (fun i => (uAt U i).1 = ow - 8 ∧ nmT F P t0 (uAt U i).2.2.1 = nmT F P t0 j) i k, t)
  | 0, i, hi => by
    have k1 := h.2.1.2.2.2.1
    have k2 := h.2.1.2.2.2.2.2.1
    have st : m_subOf_51b ow (j : Int) (i : Int) t = some (.inr (.inr t)) := by
      unfold m_subOf_51b
      rw [gr (by omega), k1, gr (by omega), if_pos (by omega)]
    unfold m_subOf_51
    rw [lp_end (f := fun l : Int × iS => m_subOf_51b ow (j : Int) (l.1) (l.2)) (l := ((i : Int), t)) st]
    rfl
  | k + 1, i, hi => by
    have k1 := h.2.1.2.2.2.1
    have k2 := h.2.1.2.2.2.2.2.1
    obtain ⟨u1, u2, u3, u4, u5, u6, u7, u8, u9, u10, _⟩ := RG_U h (i := i) (by omega)
    have st : m_subOf_51b ow (j : Int) (i : Int) t = if (uAt U i).1 = ow - 8 ∧ nmT F P t0 (uAt U i).2.2.1 = nmT F P t0 j then some (.inr (.inl ((i : Int), t))) else some (.inl (((i + 1 : Nat) : Int), t)) := by
      unfold m_subOf_51b uAt
      rw [gr (by omega), k1, gr (by omega), if_neg (by omega), gd_pos (by omega), Int.toNat_natCast, u1, gr (by omega), gr (by omega), u3]
      by_cases c : (U.getD i (0, 0, 0, 0)).1 = ow - 8
      · rw [if_pos c, like_ok h.1 ⟨u5, u6⟩ hj, bq]
        by_cases c2 : nmT F P t0 (U.getD i (0, 0, 0, 0)).2.2.1 = nmT F P t0 j
        · rw [if_pos c2, gr (by omega), if_neg (by omega), if_pos ⟨c, c2⟩]
        · rw [if_neg c2, gr (by omega), if_pos rfl, if_neg (fun e => c2 e.2)]
          rfl
      · rw [if_neg c, if_neg (fun e => c e.1)]
        rfl
    by_cases c : (uAt U i).1 = ow - 8 ∧ nmT F P t0 (uAt U i).2.2.1 = nmT F P t0 j
    · rw [fst1_y (Q := fun i => (uAt U i).1 = ow - 8 ∧ nmT F P t0 (uAt U i).2.2.1 = nmT F P t0 j) c]
      unfold m_subOf_51
      rw [lp_end (f := fun l : Int × iS => m_subOf_51b ow (j : Int) (l.1) (l.2)) (l := ((i : Int), t)) (st.trans (if_pos c))]
      rfl
    · rw [fst1_n (Q := fun i => (uAt U i).1 = ow - 8 ∧ nmT F P t0 (uAt U i).2.2.1 = nmT F P t0 j) c, ← so51 h hj ho k (i + 1) (by omega)]
      unfold m_subOf_51
      rw [lp_next (f := fun l : Int × iS => m_subOf_51b ow (j : Int) (l.1) (l.2)) (l := ((i : Int), t)) (st.trans (if_neg c))]
theorem sysFI_FS : (List.range 8).all (fun i => decide (sysFI.getD i 0 = sysFS.getD i 0 ∧ 0 ≤ sysFS.getD i 0 ∧ 0 ≤ sysFS.getD (i + 1) 0 ∧ sysFS.getD i 0 ≤ sysFS.getD (i + 1) 0 ∧ sysFS.getD (i + 1) 0 ≤ 40)) = true := by decide
/-- which sub a name is -/
theorem sub_ok (h : RG F n N P s0 t0 K U W Y t) (hj : j < N ∧ s0 9 j = 3) (ho : 0 ≤ ow ∧ ow < 100) : m_subOf ow (j : Int) t = some (sbR F P t0 U ow j, t) := by
  unfold m_subOf sbR
  rw [gr (by omega)]
  by_cases c : 8 ≤ ow
  · rw [if_pos c, if_pos c]
    exact so51 h hj ⟨c, ho.2⟩ U.length 0 (by omega)
  · have hq := of_decide_eq_true (List.all_eq_true.mp sysFI_FS ow.toNat (List.mem_range.mpr (by omega)))
    obtain ⟨q1, q2, q3, q4, q5⟩ := hq
    have y := (h.1.2.2.2.1 ow.toNat (by omega)).2
    have y8 : t 164 (ow.toNat + 1) = sysFS.getD (ow.toNat + 1) 0 := by
      by_cases d : ow.toNat + 1 < 8
      · rw [(h.1.2.2.2.1 (ow.toNat + 1) d).2]
        exact (of_decide_eq_true (List.all_eq_true.mp sysFI_FS (ow.toNat + 1) (List.mem_range.mpr d))).1
      · rw [show ow.toNat + 1 = 8 by omega, h.1.2.2.2.2.1]
        rfl
    rw [if_neg c, if_neg c, gd_pos (by omega), y, q1]
    have := so13 (n := n) h.1 hj (o := ow.toNat) (e := (sysFS.getD (ow.toNat + 1) 0).toNat) (by omega) (by rw [y8]; omega) (by omega) ((sysFS.getD (ow.toNat + 1) 0).toNat - (sysFS.getD ow.toNat 0).toNat) (sysFS.getD ow.toNat 0).toNat (by omega)
    rw [Int.toNat_of_nonneg q2, Int.toNat_of_nonneg ho.1] at this
    exact this
theorem cp_pre {α : Type} {d : α} {p : α → Bool} : ∀ (l : List α), (∀ i k, i ≤ k → k < l.length → p (l.getD k d) = true → p (l.getD i d) = true) → ∀ i, i < l.length → (p (l.getD i d) = true ↔ i < l.countP p)
  | [], _, i, hi => by simp at hi
  | a :: l, h, i, hi => by
    by_cases c : p a = true
    · rw [List.countP_cons_of_pos c]
      cases i with
      | zero => exact ⟨fun _ => by omega, fun _ => c⟩
      | succ i =>
        have := cp_pre (d := d) (p := p) l (fun i k h1 h2 h3 => h (i + 1) (k + 1) (by omega) (by rw [List.length_cons]; omega) h3) i (by rw [List.length_cons] at hi; omega)
        show p (l.getD i d) = true ↔ i + 1 < l.countP p + 1
        rw [this]
        omega
    · have z : (a :: l).countP p = 0 := by
        rw [List.countP_eq_zero]
        intro x hx hp
        obtain ⟨k, hk, e⟩ := List.getElem_of_mem hx
        refine c (h 0 k (by omega) hk ?_)
        rw [List.getD_eq_getElem?_getD, List.getElem?_eq_getElem hk]
        show p ((a :: l)[k]) = true
        rw [e]; exact hp
      rw [z]
      refine ⟨fun hp => absurd (h 0 i (by omega) hi hp) c, fun q => by omega⟩
theorem fsT_own (h : RG F n N P s0 t0 K U W Y t) {c : Nat} (hc : c ≤ K.length) : fsT K U (8 + c) = 40 + (U.countP (fun u => decide (u.1 < (c : Int))) : Int) := by
  unfold fsT
  rw [if_neg (by omega)]
  by_cases d : c = 0
  · subst d
    rw [if_pos (by omega)]
    have z : U.countP (fun u => decide (u.1 < ((0 : Nat) : Int))) = 0 := by
      rw [List.countP_eq_zero]
      intro x hx hp
      have := (h.2.2.2.2.1 x hx).1
      have := of_decide_eq_true hp
      omega
    rw [z]
    rfl
  · rw [if_neg (by omega), show 8 + c - 8 = c by omega]
theorem sn_u {i : Nat} (hi : i < U.length) : (sysSN ++ U.map (fun u => nmT F P t0 u.2.2.1)).getD (40 + i) [] = nmT F P t0 (uAt U i).2.2.1 := by
  unfold uAt
  rw [show 40 + i = sysSN.length + i from rfl, List.getD_eq_getElem?_getD, List.getElem?_append_right (by omega), show sysSN.length + i - sysSN.length = i by omega, List.getElem?_map, List.getD_eq_getElem?_getD, List.getElem?_eq_getElem hi]
  rfl
/-- both ways to find a sub agree -/
theorem sb_eq (h : RG F n N P s0 t0 K U W Y t) (ho : 0 ≤ ow ∧ ow < 8 + (K.length : Int)) : fsbT F P t0 K U ow j = if sbR F P t0 U ow j = -1 then -1 else if 8 ≤ ow then 40 + sbR F P t0 U ow j else sbR F P t0 U ow j := by
  have hK := h.2.1.2.2.1
  by_cases c : 8 ≤ ow
  · obtain ⟨c', ec⟩ : ∃ c' : Nat, ow = 8 + (c' : Int) := ⟨(ow - 8).toNat, by omega⟩
    have e1 := fsT_own h (c := c') (by omega)
    have e2 := fsT_own h (c := c' + 1) (by omega)
    have p1 := cp_pre (d := ((0, 0, 0, 0) : urec)) (p := fun u => decide (u.1 < (c' : Int))) U (fun i k q1 q2 q3 => decide_eq_true (by
      have := h.2.2.2.2.2.1 i k q1 q2
      have := of_decide_eq_true q3
      omega))
    have p2 := cp_pre (d := ((0, 0, 0, 0) : urec)) (p := fun u => decide (u.1 < ((c' + 1 : Nat) : Int))) U (fun i k q1 q2 q3 => decide_eq_true (by
      have := h.2.2.2.2.2.1 i k q1 q2
      have := of_decide_eq_true q3
      omega))
    have r1 : ∀ x, x < U.length → ((U.getD x (0, 0, 0, 0)).1 < (c' : Int) ↔ x < U.countP (fun u => decide (u.1 < (c' : Int)))) := fun x hx => ⟨fun z => (p1 x hx).mp (decide_eq_true z), fun z => of_decide_eq_true ((p1 x hx).mpr z)⟩
    have r2 : ∀ x, x < U.length → ((U.getD x (0, 0, 0, 0)).1 < ((c' + 1 : Nat) : Int) ↔ x < U.countP (fun u => decide (u.1 < ((c' + 1 : Nat) : Int)))) := fun x hx => ⟨fun z => (p2 x hx).mp (decide_eq_true z), fun z => of_decide_eq_true ((p2 x hx).mpr z)⟩
    have m1 : U.countP (fun u => decide (u.1 < ((c' + 1 : Nat) : Int))) ≤ U.length := List.countP_le_length
    have m2 : U.countP (fun u => decide (u.1 < (c' : Int))) ≤ U.countP (fun u => decide (u.1 < ((c' + 1 : Nat) : Int))) := List.countP_mono_left (fun u _ hu => decide_eq_true (by
      have := of_decide_eq_true hu
      omega))
    have ir : sbR F P t0 U ow j = fst1 (fun i => (sysSN ++ U.map (fun u => nmT F P t0 u.2.2.1)).getD (40 + i) [] = nmT F P t0 j) (U.countP (fun u => decide (u.1 < (c' : Int)))) (U.countP (fun u => decide (u.1 < ((c' + 1 : Nat) : Int))) - U.countP (fun u => decide (u.1 < (c' : Int)))) := by
      unfold sbR
      rw [if_pos c, fst1_in (a := U.countP (fun u => decide (u.1 < (c' : Int)))) (b := U.countP (fun u => decide (u.1 < ((c' + 1 : Nat) : Int))) - U.countP (fun u => decide (u.1 < (c' : Int)))) (fun x _ hx hq => by
        have q1 := r1 x (by omega)
        have q2 := r2 x (by omega)
        unfold uAt at hq
        omega) (by omega) (by omega)]
      refine fst1_cg _ _ (fun x h1 h2 => ?_)
      have q1 := r1 x (by omega)
      have q2 := r2 x (by omega)
      rw [sn_u (F := F) (P := P) (t0 := t0) (show x < U.length by omega)]
      refine ⟨fun z => z.2, fun z => ⟨?_, z⟩⟩
      unfold uAt
      omega
    unfold fsbT
    rw [if_neg (by omega), show ow.toNat = 8 + c' by omega, show 8 + c' + 1 = 8 + (c' + 1) by omega, e1, e2, show ((40 : Int) + ((U.countP (fun u => decide (u.1 < (c' : Int))) : Nat) : Int)).toNat = 40 + U.countP (fun u => decide (u.1 < (c' : Int))) by omega, show (40 + ((U.countP (fun u => decide (u.1 < ((c' + 1 : Nat) : Int))) : Nat) : Int)).toNat - (40 + U.countP (fun u => decide (u.1 < (c' : Int)))) = U.countP (fun u => decide (u.1 < ((c' + 1 : Nat) : Int))) - U.countP (fun u => decide (u.1 < (c' : Int))) by omega, fst1_sh, ← ir, if_pos c]
    rfl
  · have hq := of_decide_eq_true (List.all_eq_true.mp sysFI_FS ow.toNat (List.mem_range.mpr (by omega)))
    obtain ⟨q1, q2, q3, q4, q5⟩ := hq
    have f1 : fsT K U ow.toNat = sysFS.getD ow.toNat 0 := by
      unfold fsT
      rw [if_neg (by omega), if_pos (by omega)]
    have f2 : fsT K U (ow.toNat + 1) = sysFS.getD (ow.toNat + 1) 0 := by
      unfold fsT
      rw [if_neg (by omega), if_pos (by omega)]
    have e : fsbT F P t0 K U ow j = sbR F P t0 U ow j := by
      unfold fsbT sbR
      rw [if_neg (by omega), if_neg c, f1, f2]
      refine fst1_cg _ _ (fun x h1 h2 => ?_)
      rw [List.getD_eq_getElem?_getD, List.getElem?_append_left (show x < sysSN.length from by show x < 40; omega), List.getD_eq_getElem?_getD]
    rw [e, if_neg c]
    split
    · assumption
    · rfl
end RK3
