/-! what both note of a text -/
section NTc
variable {F : Nat → Int} {n N : Nat} {P : Nat → Nat} {s0 t0 t : iS} {j u k l : Nat} {K : List Nat} {U : List urec} {W : List wrec} {Y : List Nat} {A : List (List itm)} {ow o m obj : Int} {I C p w : Nat} {pf : Nat → Nat}
def Agr (F : Nat → Int) (P : Nat → Nat) (t0 : iS) (U : List urec) (W : List wrec) (u j : Nat) : Prop := (fvW F P t0 (wlF U W u) (wlFc U W u).length j = -1 ∧ rvI F P t0 U W u j = -1) ∨ (fvW F P t0 (wlF U W u) (wlFc U W u).length j ≠ -1 ∧ rvI F P t0 U W u j ≠ -1 ∧ wAt (wlF U W u) (fvW F P t0 (wlF U W u) (wlFc U W u).length j) = wGt W (rvI F P t0 U W u j).toNat)
theorem ntV_eq (h : RG F n N P s0 t0 K U W Y t) (ha : Agr F P t0 U W u j) : ntV F P t0 (wlF U W u) (wlFc U W u).length (soF U u) j = (if rvI F P t0 U W u j = -1 then [16 * j + 4] else []) ++ vNt U W u (rvI F P t0 U W u j) j := by
  unfold ntV vNt
  rcases ha with ⟨a1, a2⟩ | ⟨a1, a2, a3⟩
  · rw [if_pos a1, if_pos a2, if_pos a2, List.append_nil]
  · have rr := rvI_rg (F := F) (P := P) (t0 := t0) (U := U) (W := W) (u := u) (j := j)
    have hx : (rvI F P t0 U W u j).toNat < W.length := by omega
    have q := h.2.2.2.2.2.2 _ (gd_mem (d := ((0, 0, 0, 0, 0, 0, 0) : wrec)) hx)
    change -1 ≤ (wGt W (rvI F P t0 U W u j).toNat).2.1 ∧ _ ∧ ((wGt W (rvI F P t0 U W u j).toNat).2.1 = -1 → _) ∧ ((wGt W (rvI F P t0 U W u j).toNat).2.1 ≠ -1 → (wGt W (rvI F P t0 U W u j).toNat).2.2.1 = 2 ∨ (wGt W (rvI F P t0 U W u j).toNat).2.2.1 = 3) at q
    rw [if_neg a1, if_neg a2, if_neg a2, List.nil_append, a3]
    have e : sgT (wGt W (rvI F P t0 U W u j).toNat) = 4 ↔ ((wGt W (rvI F P t0 U W u j).toNat).2.1 = -1 ∧ (wGt W (rvI F P t0 U W u j).toNat).2.2.1 = 1) := by
      unfold sgT
      by_cases c : (wGt W (rvI F P t0 U W u j).toNat).2.2.1 = 1
      · rw [if_neg (by omega), if_pos c]
        refine ⟨fun _ => ⟨?_, c⟩, fun _ => rfl⟩
        by_cases d : (wGt W (rvI F P t0 U W u j).toNat).2.1 = -1
        · exact d
        · have := q.2.2.2 d; omega
      · refine ⟨fun z => ?_, fun z => absurd z.2 c⟩
        split at z
        · omega
        · split at z <;> omega
    rw [show soF U u = (uAt U u).2.1 from rfl]
    by_cases c : (uAt U u).2.1 = 2 ∧ sgT (wGt W (rvI F P t0 U W u j).toNat) = 4
    · rw [if_pos c, if_pos ⟨e.mp c.2, c.1⟩]
    · rw [if_neg c, if_neg (fun z => c ⟨z.2, e.mpr z.1⟩)]
theorem sysROME : (List.range 40).all (fun i => decide ((sysRO.getD i 0 = 259 ↔ sysME.getD i 0 = 1) ∧ sysPA.getD i 0 = sysMN.getD i 0)) = true := by decide
theorem ntC_eq {mm : Nat} (h : RG F n N P s0 t0 K U W Y t) (hw : 0 ≤ ow ∧ ow < 8 + (K.length : Int)) (ho : obj = if o ≤ 0 then 0 else 1) : nt173 F P t0 U W u o ow j (mm : Int) = ntC F P t0 K U (paF W) ow j obj mm ++ (if sbR F P t0 U ow j = -1 then [] else nt259 U u o j) := by
  have hU := h.2.1.2.2.2.2.2.1
  have r := sbR_rg (l := j) h hw.1
  unfold nt173 ntC
  rw [sb_eq h hw]
  by_cases c : sbR F P t0 U ow j = -1
  · rw [if_pos c, if_pos c, if_pos rfl, if_pos c, List.append_nil]
  · rw [if_neg c, if_neg c, if_neg c]
    obtain ⟨sb, es⟩ : ∃ sb : Nat, sbR F P t0 U ow j = (sb : Int) := ⟨(sbR F P t0 U ow j).toNat, by omega⟩
    rw [es]
    by_cases c8 : 8 ≤ ow
    · have hs : sb < U.length := by omega
      rw [if_pos c8, if_neg (show ¬ ((40 : Int) + (sb : Int) = -1) by omega), show ((40 : Int) + (sb : Int)).toNat = 40 + sb by omega]
      have e1 : roT U (40 + sb) = 259 ↔ isM U ow (sb : Int) = 1 := by
        unfold roT isM uAt
        rw [if_neg (by omega), if_pos c8, Int.toNat_natCast, show 40 + sb - 40 = sb by omega]
        split <;> omega
      have e1' : isM U ow (sb : Int) = 0 ∨ isM U ow (sb : Int) = 1 := by
        unfold isM
        rw [if_pos c8]
        split <;> omega
      have e2 : paF W (40 + sb) = mnR W ow (sb : Int) := by
        unfold paF mnR
        rw [if_neg (by omega), if_pos c8, Int.toNat_natCast, show 40 + sb - 40 = sb by omega]
      have e3 : (isM U ow (sb : Int) = (if o ≤ 0 then 0 else 1) ∧ mnR W ow (sb : Int) = (mm : Int)) ↔ ((roT U (40 + sb) = 259 ↔ obj = 1) ∧ paF W (40 + sb) = (mm : Int)) := by
        rw [e2, e1, ← ho]
        have : obj = 0 ∨ obj = 1 := by rw [ho]; split <;> omega
        omega
      by_cases d : isM U ow (sb : Int) = (if o ≤ 0 then 0 else 1) ∧ mnR W ow (sb : Int) = (mm : Int)
      · rw [if_pos d, if_pos (e3.mp d)]
      · rw [if_neg d, if_neg (fun z => d (e3.mpr z))]
    · have hs := of_decide_eq_true (List.all_eq_true.mp sysROME sb (List.mem_range.mpr (by omega)))
      have h01 := of_decide_eq_true (List.all_eq_true.mp sysME_01 sb (List.mem_range.mpr (by omega)))
      rw [if_neg c8, if_neg (show ¬ ((sb : Int) = -1) by omega), Int.toNat_natCast]
      have e1 : roT U sb = 259 ↔ isM U ow (sb : Int) = 1 := by
        unfold roT isM
        rw [if_pos (by omega), if_neg c8, Int.toNat_natCast]
        exact hs.1
      have e1' : isM U ow (sb : Int) = 0 ∨ isM U ow (sb : Int) = 1 := by
        unfold isM
        rw [if_neg c8, Int.toNat_natCast]
        exact h01.1
      have e2 : paF W sb = mnR W ow (sb : Int) := by
        unfold paF mnR
        rw [if_pos (by omega), if_neg c8, Int.toNat_natCast]
        exact hs.2
      have e3 : (isM U ow (sb : Int) = (if o ≤ 0 then 0 else 1) ∧ mnR W ow (sb : Int) = (mm : Int)) ↔ ((roT U sb = 259 ↔ obj = 1) ∧ paF W sb = (mm : Int)) := by
        rw [e2, e1, ← ho]
        have : obj = 0 ∨ obj = 1 := by rw [ho]; split <;> omega
        omega
      by_cases d : isM U ow (sb : Int) = (if o ≤ 0 then 0 else 1) ∧ mnR W ow (sb : Int) = (mm : Int)
      · rw [if_pos d, if_pos (e3.mp d)]
      · rw [if_neg d, if_neg (fun z => d (e3.mpr z))]
/-- notes are not before their token -/
theorem ntV_ge {wl : List wrec} {cv : Nat} {so : Int} (h : k ∈ ntV F P t0 wl cv so j) : 16 * j ≤ k := by
  unfold ntV at h
  split at h
  · rw [List.mem_singleton.mp h]; omega
  · split at h
    · rw [List.mem_singleton.mp h]; omega
    · simp at h
theorem ntC_ge {pa : Nat → Int} {mm : Nat} (h : k ∈ ntC F P t0 K U pa ow j obj mm) : 16 * j ≤ k := by
  unfold ntC at h
  split at h
  · rw [List.mem_singleton.mp h]; omega
  · split at h
    · simp at h
    · rw [List.mem_singleton.mp h]; omega
theorem vNt_ge {v : Int} (h : k ∈ vNt U W u v j) : 16 * j ≤ k := by
  unfold vNt at h
  split at h
  · simp at h
  · split at h
    · rw [List.mem_singleton.mp h]; omega
    · simp at h
theorem nt259_ge (h : k ∈ nt259 U u o j) : 16 * j ≤ k := by
  unfold nt259 at h
  split at h
  · rw [List.mem_singleton.mp h]; omega
  · simp at h
theorem nt173_ge (h : k ∈ nt173 F P t0 U W u o ow j m) : 16 * j ≤ k := by
  unfold nt173 at h
  split at h
  · rw [List.mem_singleton.mp h]; omega
  · rcases List.mem_append.mp h with z | z
    · by_cases c : isM U ow (sbR F P t0 U ow j) = (if o ≤ 0 then 0 else 1) ∧ mnR W ow (sbR F P t0 U ow j) = m
      · rw [if_pos c] at z; simp at z
      · rw [if_neg c] at z; rw [List.mem_singleton.mp z]; omega
    · exact nt259_ge z
/-- where a variable may be two, a note stands earlier -/
theorem agr_or (h : RG F n N P s0 t0 K U W Y t) (hp : ∀ r ∈ W, r.2.1 = -1 → r.1 = (uAt U u).1 → r.2.2.2.2.1 < pf u) : Agr F P t0 U W u j ∨ ∃ d, d < pf u ∧ 16 * d + 3 ∈ rgM (gW F P t0) W := by
  rcases var_cmp (u := u) (j := j) h with z | ⟨i, i1, i2, i3, i4⟩
  · exact Or.inl z
  · refine Or.inr ⟨(wGt W i).2.2.2.2.1, hp (wGt W i) (gd_mem i1) i3 i4, ?_⟩
    unfold rgM
    rw [List.mem_flatMap]
    exact ⟨i, List.mem_range.mpr i1, by rw [i2]; simp⟩
/-- what the reference notes of the text -/
def rnT (F : Nat → Int) (P : Nat → Nat) (s0 t0 : iS) (K : List Nat) (U : List urec) (W : List wrec) (t : iS) (I C : Nat) : List Nat := rnN F P s0 t0 K U W ++ (List.range I).flatMap (gI F P t0 U W t) ++ (List.range C).flatMap (gC F P s0 t0 K U W t)
theorem rnT_W (h : k ∈ rgM (gW F P t0) W) : k ∈ rnT F P s0 t0 K U W t I C := by
  unfold rnT rnN
  refine List.mem_append_left _ (List.mem_append_left _ (List.mem_append_right _ ?_))
  unfold rgM at h
  rw [List.mem_flatMap] at h ⊢
  obtain ⟨i, h1, h2⟩ := h
  exact ⟨i, h1, List.mem_append_left _ h2⟩
theorem rnT_I {x : Nat} (hx : x < I) (h : k ∈ gI F P t0 U W t x) : k ∈ rnT F P s0 t0 K U W t I C := by
  unfold rnT
  refine List.mem_append_left _ (List.mem_append_right _ ?_)
  rw [List.mem_flatMap]
  exact ⟨x, List.mem_range.mpr hx, h⟩
theorem rnT_C {x : Nat} (hx : x < C) (h : k ∈ gC F P s0 t0 K U W t x) : k ∈ rnT F P s0 t0 K U W t I C := by
  unfold rnT
  refine List.mem_append_right _ ?_
  rw [List.mem_flatMap]
  exact ⟨x, List.mem_range.mpr hx, h⟩
theorem ntT_A {r : itm} (hu : u < A.length) (hr : r ∈ A.getD u []) (h : k ∈ ntI F P s0 t0 K U (paF W) (wlF U W u) (wlFc U W u).length (clF U u) (soF U u) r) : ntT F P s0 t0 K U W K U W Y A k := by
  refine Or.inr (Or.inr (Or.inr (Or.inr ?_)))
  unfold rgM gA
  rw [List.mem_flatMap]
  refine ⟨u, List.mem_range.mpr hu, ?_⟩
  rw [List.mem_flatMap]
  exact ⟨r, hr, h⟩
end NTc
