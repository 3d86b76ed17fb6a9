/-! behind the reading: the text in the reference's rows; how large a note is; the commands' third column -/
section LDb
variable {F : Nat → Int} {n N : Nat} {P : Nat → Nat} {s0 t0 t t' : iS} {k u : Nat} {K : List Nat} {U : List urec} {W : List wrec} {Y : List Nat} {A : List (List itm)} {I C p w : Nat} {L : List Nat}
theorem RSY_row (h : RSY t) (hr : ∀ c, 164 ≤ c → c ≤ 168 → t' c = t c) : RSY t' := by
  unfold RSY at h ⊢
  rw [hr 164 (by omega) (by omega), hr 165 (by omega) (by omega), hr 166 (by omega) (by omega), hr 167 (by omega) (by omega), hr 168 (by omega) (by omega)]
  exact h
theorem RSY_md {Lx : List Nat} {G : List (Nat × Nat)} (hc : chk [164, 165, 166, 167, 168] [] Lx G = true) (hm : md Lx G t t') (h : RSY t) : RSY t' := by
  obtain ⟨a, _⟩ := chk_ok hc hm
  refine RSY_row h (fun c h1 h2 => a c ?_)
  simp only [List.mem_cons, List.not_mem_nil, or_false]
  omega
theorem RG_of (h : TKR 0 F n N P s0 t0) (hR : tkR F n t0) (hy : RSY t0) (e : m_texts t0 = some (0, t)) (hs : SR t0 t) (hx : RXT K U W t) (hw : WOK s0 N K U W) (hW : W.length ≤ 1100) (hY : YOK s0 N Y K U W) (hA : AOK s0 K U W A t I C p w) (hU : ∀ u ∈ U, 0 ≤ u.1 ∧ u.1 < (K.length : Int)) : RG F n N P s0 t0 K U W Y t := by
  refine ⟨⟨h, hR, hs, RSY_md rfl (show md L_m_texts G_m_texts t0 t from fm_texts t0 _ e) hy⟩, hx, hY, hW, hU, hA.2.2.1.2, fun r hr => ?_⟩
  obtain ⟨⟨b0, b1, _⟩, b2, b3, b4, b5, _⟩ := hw.1 r hr
  exact ⟨b3, b1, b4, b5⟩
/-- the end's token is the last -/
theorem tk_end {ch : Int} (h : TKR ch F n N P s0 t0) (hp : p < N) (h0 : s0 9 p = 0) : p + 1 = N := by
  by_cases c : p + 1 = N
  · exact c
  · have := TG_gt (h.1.1 p (by omega)).2.2.2
    omega
theorem rnT_lt (h : RG F n N P s0 t0 K U W Y t) (hA : AOK s0 K U W A t I C p w) (hAU : A.length = U.length) (hp : p + 1 = N) (h0 : s0 9 p = 0) (hk : k ∈ rnT F P s0 t0 K U W t I C) : k < 16 * p := by
  have hN := N1001 h.1.1
  have lt : ∀ j, j < N → s0 9 j = 3 → j < p := fun j h1 h2 => by
    by_cases c : j = p
    · rw [c, h0] at h2; omega
    · omega
  have ty : ∀ y : Int, (y = -1 ∨ ∃ j : Nat, y = (j : Int) ∧ j < N ∧ (s0 9 j = 3 → j ∈ Y)) → k ∈ gT F P s0 t0 K y → k < 16 * p := fun y hy q => by
    unfold gT at q
    split at q
    · simp at q
    · split at q
      · rename_i c1 c2
        rcases hy with z | ⟨j, z1, z2, z3⟩
        · exact absurd z c1
        · rw [z1, Int.toNat_natCast] at q c2
          have := lt j z2 c2
          unfold gY at q
          split at q
          · rw [List.mem_singleton] at q
            omega
          · simp at q
      · simp at q
  have hY := h.2.2.1
  unfold rnT at hk
  rcases List.mem_append.mp hk with hk | hk
  · rcases List.mem_append.mp hk with hk | hk
    · unfold rnN at hk
      rcases List.mem_append.mp hk with hk | hk
      · rcases List.mem_append.mp hk with hk | hk
        · unfold rgM at hk
          rw [List.mem_flatMap] at hk
          obtain ⟨i, h1, h2⟩ := hk
          have hi := List.mem_range.mp h1
          have := RG_K h hi
          have := lt _ this.2.1 this.2.2
          unfold gK at h2
          split at h2
          · simp at h2
          · rw [List.mem_singleton] at h2
            omega
        · rw [List.mem_flatMap] at hk
          obtain ⟨i, h1, h2⟩ := hk
          have hi := List.mem_range.mp h1
          rcases List.mem_append.mp h2 with z | z
          · have q := RG_U h hi
            have := lt _ q.2.2.2.2.1 q.2.2.2.2.2.1
            unfold gU at z
            split at z
            · simp at z
            · rw [List.mem_singleton] at z
              omega
          · exact ty _ (hY.2.2.1 _ (gd_mem hi)).1 z
      · rw [List.mem_flatMap] at hk
        obtain ⟨i, h1, h2⟩ := hk
        have hi := List.mem_range.mp h1
        rcases List.mem_append.mp h2 with z | z
        · have q := RG_W h hi
          have := lt _ q.2.1 q.2.2.1
          unfold gW at z
          split at z
          · rw [List.mem_singleton] at z
            omega
          · simp at z
        · exact ty _ (Or.inr (hY.2.1 _ (gd_mem hi)).1) z
    · rw [List.mem_flatMap] at hk
      obtain ⟨x, h1, h2⟩ := hk
      exact gI_lt (IOK_of hA hAU (Nat.le_refl _) x (List.mem_range.mp h1)) h2
  · rw [List.mem_flatMap] at hk
    obtain ⟨c, h1, h2⟩ := hk
    exact gC_lt (COK_of hA hAU (Nat.le_refl _) (by omega) c (List.mem_range.mp h1)) h2
/-- the third column -/
theorem wlF_mem {r : wrec} (h : r ∈ wlF U W u) : r ∈ W := by
  unfold wlF wlFc at h
  simp only [List.mem_append, List.mem_filter] at h
  rcases h with h | h
  · exact h.1
  · exact h.1
def smC (x : crc) : Prop := -100000 ≤ x.2.2.1 ∧ x.2.2.1 ≤ 100000
theorem emV_sm {cv : Nat} {so kd : Int} {j : Nat} (hw : ∀ r ∈ W, 0 ≤ r.2.2.2.2.2.1 ∧ r.2.2.2.2.2.1 < 12) : ∀ x ∈ emV F P t0 (wlF U W u) cv so kd j, smC x := by
  intro x hx
  unfold emV at hx
  split at hx
  · simp at hx
  · rw [List.mem_singleton] at hx
    rw [hx]
    show -100000 ≤ nuT so (wAt (wlF U W u) _) ∧ nuT so (wAt (wlF U W u) _) ≤ 100000
    unfold nuT
    have b : 0 ≤ (wAt (wlF U W u) (fvW F P t0 (wlF U W u) cv j)).2.2.2.2.2.1 ∧ (wAt (wlF U W u) (fvW F P t0 (wlF U W u) cv j)).2.2.2.2.2.1 < 12 := by
      unfold wAt
      by_cases c : (fvW F P t0 (wlF U W u) cv j).toNat < (wlF U W u).length
      · exact hw _ (wlF_mem (gd_mem c))
      · rw [List.getD_eq_getElem?_getD, List.getElem?_eq_none (by omega)]
        decide
    split <;> omega
theorem strC_sm (hF : BY F) {q : Nat} : ∀ k i, ∀ x ∈ strC F q i k, smC x
  | 0, i, x, hx => by simp [strC] at hx
  | k + 1, i, x, hx => by
    unfold strC at hx
    rcases List.mem_cons.mp hx with z | z
    · rw [z]
      have := hF (q + i)
      show -100000 ≤ F (q + i) ∧ F (q + i) ≤ 100000
      omega
    · rcases List.mem_cons.mp z with z | z
      · rw [z]
        exact ⟨by decide, by decide⟩
      · exact strC_sm hF k (i + 1) x z
theorem opC_sm {c : Int} : smC (opC c) := by
  unfold opC smC
  repeat' split
  all_goals exact ⟨by decide, by decide⟩
theorem emI_sm (h : TKR 0 F n N P s0 t0) (hF : BY F) (hw : ∀ r ∈ W, 0 ≤ r.2.2.2.2.2.1 ∧ r.2.2.2.2.2.1 < 12) {lo : Nat} {r : itm} (hp : p ≤ N) (hr : ITo s0 lo p r) {cv c : Nat} {so : Int} : ∀ x ∈ emI F P s0 t0 K U (wlF U W u) cv c so r, smC x := by
  have hN := N1001 h
  have one : ∀ {y x : crc}, smC y → x ∈ [y] → smC x := fun h1 h2 => by rw [List.mem_singleton.mp h2]; exact h1
  have ev : ∀ {x : crc} {kd : Int} {j : Nat}, x ∈ emV F P t0 (wlF U W u) cv so kd j → smC x := fun h => emV_sm hw _ h
  intro x hx
  unfold emI at hx
  by_cases c0 : r.1 = 0
  · rw [if_pos c0] at hx
    have b := hr.2.2.2.2.1 c0
    split at hx
    · simp only [List.mem_cons, List.not_mem_nil, or_false] at hx
      rcases hx with z | z <;> rw [z] <;> exact ⟨by decide, by decide⟩
    · refine one ?_ hx
      show -100000 ≤ r.2.1 ∧ r.2.1 ≤ 100000
      omega
  rw [if_neg c0] at hx
  by_cases c1 : r.1 = 1
  · rw [if_pos c1] at hx
    obtain ⟨j, j1, j2, j3, j4⟩ := hr.2.2.2.2.2.1 c1
    obtain ⟨v, v1, v2, v3, _⟩ := tkS h (show j < N by omega) j4
    rw [j1, Int.toNat_natCast, v2] at hx
    rcases List.mem_cons.mp hx with z | z
    · rw [z]
      show -100000 ≤ (v : Int) ∧ (v : Int) ≤ 100000
      omega
    · rcases List.mem_cons.mp z with z | z
      · rw [z]
        exact ⟨by decide, by decide⟩
      · exact strC_sm hF _ _ _ z
  rw [if_neg c1] at hx
  by_cases c3 : r.1 = 3
  · rw [if_pos c3] at hx
    exact one ⟨by decide, by decide⟩ hx
  rw [if_neg c3] at hx
  by_cases c4 : r.1 = 4
  · rw [if_pos c4] at hx
    exact ev hx
  rw [if_neg c4] at hx
  by_cases c5 : r.1 = 5
  · rw [if_pos c5] at hx
    simp only [List.mem_cons, List.not_mem_nil, or_false] at hx
    rcases hx with z | z | z <;> rw [z] <;> exact ⟨by decide, by decide⟩
  rw [if_neg c5] at hx
  by_cases c6 : r.1 = 6
  · rw [if_pos c6] at hx
    exact one opC_sm hx
  rw [if_neg c6] at hx
  by_cases c7 : r.1 = 7
  · rw [if_pos c7] at hx
    exact one ⟨by decide, by decide⟩ hx
  rw [if_neg c7] at hx
  by_cases c8 : r.1 = 8
  · rw [if_pos c8] at hx
    exact one ⟨by decide, by decide⟩ hx
  rw [if_neg c8] at hx
  by_cases c9 : r.1 = 9
  · rw [if_pos c9] at hx
    split at hx
    · exact one ⟨by decide, by decide⟩ hx
    · exact ev hx
  rw [if_neg c9] at hx
  by_cases c10 : r.1 = 10
  · rw [if_pos c10] at hx
    obtain ⟨_, _, _, m0⟩ := hr.2.2.1 (Or.inr c10)
    obtain ⟨m, m1, m2⟩ := m0 c10
    have cc : ∀ {ow : Int} {j : Nat} {z : Int} {x : crc}, 0 ≤ z ∧ z ≤ 1 → x ∈ [cmC F P t0 K U ow j (r.2.2.2 + z)] → smC x := fun h1 h2 => by
      refine one ?_ h2
      show -100000 ≤ r.2.2.2 + _ ∧ r.2.2.2 + _ ≤ 100000
      omega
    split at hx
    · exact cc (by decide) hx
    · split at hx
      · split at hx
        · simp at hx
        · exact cc (by decide) hx
      · exact cc (by decide) hx
  rw [if_neg c10] at hx
  by_cases c13 : r.1 = 13
  · rw [if_pos c13] at hx
    exact ev hx
  rw [if_neg c13] at hx
  by_cases c14 : r.1 = 14
  · rw [if_pos c14] at hx
    simp only [List.mem_cons, List.not_mem_nil, or_false] at hx
    rcases hx with z | z | z | z <;> rw [z] <;> exact ⟨by decide, by decide⟩
  rw [if_neg c14] at hx
  by_cases c15 : r.1 = 15
  · rw [if_pos c15] at hx
    simp only [List.mem_cons, List.not_mem_nil, or_false] at hx
    rcases hx with z | z | z <;> rw [z] <;> exact ⟨by show (-100000 : Int) ≤ 0; decide, by show (0 : Int) ≤ 100000; decide⟩
  rw [if_neg c15] at hx
  repeat' (split at hx)
  all_goals first | exact one ⟨by show (-100000 : Int) ≤ 0; decide, by show (0 : Int) ≤ 100000; decide⟩ hx | (simp at hx)
theorem cmN_sm (h : TKR 0 F n N P s0 t0) (hF : BY F) (hw : ∀ r ∈ W, 0 ≤ r.2.2.2.2.2.1 ∧ r.2.2.2.2.2.1 < 12) (hW : W.length ≤ 1100) (hp : p ≤ N) (hA : AOK s0 K U W A t I C p w) : ∀ m, m ≤ A.length → ∀ x ∈ (cmN F P s0 t0 K U W A m).map c4, -100000 ≤ x.2.2 ∧ x.2.2 ≤ 100000
  | 0, _, x, hx => by simp [cmN] at hx
  | m + 1, hm, x, hx => by
    obtain ⟨pf, a1, a2, _⟩ := AOK_it hA
    rw [cmN_s] at hx
    rcases List.mem_append.mp hx with z | z
    · rcases List.mem_append.mp z with z | z
      · exact cmN_sm h hF hw hW hp hA m (by omega) x z
      · obtain ⟨y, y1, y2⟩ := List.mem_map.mp z
        rw [← y2]
        have nv : nwV (m : Int) W ≤ W.length := List.countP_le_length
        have nf : nwF (clF U m : Int) W ≤ W.length := List.countP_le_length
        show -100000 ≤ y.2.2.1 ∧ y.2.2.1 ≤ 100000
        unfold hdrU at y1
        rcases List.mem_cons.mp y1 with z | z
        · rw [z]
          show -100000 ≤ (nwV (m : Int) W : Int) ∧ (nwV (m : Int) W : Int) ≤ 100000
          omega
        · split at z
          · simp only [List.mem_cons, List.not_mem_nil, or_false] at z
            rcases z with z | z <;> rw [z] <;> exact ⟨by decide, by decide⟩
          · split at z
            · simp only [List.mem_cons, List.not_mem_nil, or_false] at z
              rcases z with z | z | z
              · rw [z]
                show -100000 ≤ (if (1 : Int) < (nwF (clF U m : Int) W : Int) then (nwF (clF U m : Int) W : Int) else 1) ∧ (if (1 : Int) < (nwF (clF U m : Int) W : Int) then (nwF (clF U m : Int) W : Int) else 1) ≤ 100000
                split <;> omega
              · rw [z]; exact ⟨by decide, by decide⟩
              · rw [z]; exact ⟨by decide, by decide⟩
            · simp at z
    · obtain ⟨y, y1, y2⟩ := List.mem_map.mp z
      rw [← y2]
      rw [List.mem_flatMap] at y1
      obtain ⟨r, r1, r2⟩ := y1
      exact emI_sm h hF hw hp ((a2 m (by omega)).1 r r1) y r2
end LDb
