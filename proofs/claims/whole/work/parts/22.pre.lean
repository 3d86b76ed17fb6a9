/-- the constants' addresses: the script, the static arrays, the Strings, their bytes, the formatter; then what is made -/
def am_ad (b : Nat) (adA : Nat → Nat) (adS : Nat → Nat × Nat) (fm base : Nat) (i : Nat) : Nat :=
  if i = 0 then b else if i < 13 then adA (i - 1) else if i < 39 then (adS (i - 13)).1 else if i < 65 then (adS (i - 39)).2 else if i = 65 then fm else base + (i - 66)
theorem am_start {args : Array Value} {s : State} {b L : Nat} {xs : Nat → Int32} (hT : ∀ w ∈ tb_c.flatten, w.before args s = true) (hs : ∀ c ∈ nw_l, c.before args s = true) (hX : va_X b L xs s s.heap) (hbl : b < s.heap.size) :
    ∃ (v : Value) (b' : Nat → Nat), (v = .null ∨ v = .ref 65) ∧ b' 0 = b ∧ (∀ i, b' (tb_nK + i) = s.heap.size + i) ∧ am_G b' s.heap.size (tb_KT L xs) tb_KF tb_FN tb_KO (tb_SZ v) tb_SR tb_n s := by
  have hA : ∀ a : Nat, a < s.heap.size → ¬ (fun q => s.heap.size ≤ q) a := fun a ha h => Nat.not_le.mpr ha h
  have hA0 : ∀ k : Nat, ∃ t : Nat, ∀ z, tb_sa[k]? = some z → (Term.static z.1 z.2.1 z.2.2.1).eval args s none [] s = some (.ref t) ∧ va_T z.2.2.2.1 t z.2.2.2.2.length (fun j => .int (z.2.2.2.2.getD j 0)) (fun q => s.heap.size ≤ q) s s.heap := by
    intro k
    cases hz : tb_sa[k]? with
    | none => exact ⟨0, fun z h => by cases h⟩
    | some z =>
      obtain ⟨t, h1, h2⟩ := tb_sa_at hs hA hz
      exact ⟨t, fun z2 h => by cases h; exact ⟨h1, h2⟩⟩
  obtain ⟨adA, hadA⟩ := Classical.axiomOfChoice hA0
  have hS0 : ∀ k : Nat, ∃ q : Nat × Nat, ∀ z, tb_ss[k]? = some z → (Term.string z.1 z.2.1).eval args s none [] s = some (.ref q.1) ∧ va_O "java/lang/String" q.1 (fun q => s.heap.size ≤ q) s s.heap ∧ va_OF "java/lang/String" "coder" "B" (.int 0) q.1 (fun q => s.heap.size ≤ q) s s.heap ∧ va_OF "java/lang/String" "value" "[B" (.ref q.2) q.1 (fun q => s.heap.size ≤ q) s s.heap ∧ va_T .byte q.2 z.2.2.2.length (fun j => .int (z.2.2.2.getD j 0)) (fun q => s.heap.size ≤ q) s s.heap := by
    intro k
    cases hz : tb_ss[k]? with
    | none => exact ⟨(0, 0), fun z h => by cases h⟩
    | some z =>
      obtain ⟨q, h⟩ := tb_ss_at hs hA hz
      exact ⟨q, fun z2 h2 => by cases h2; exact h⟩
  obtain ⟨adS, hadS⟩ := Classical.axiomOfChoice hS0
  have hsz : ∀ r z, (tb_SZ .null)[r]? = some z → ck_sz r = true := fun r z hz => List.all_eq_true.mp kx_sz r (List.mem_range.mpr (by have := (List.getElem?_eq_some_iff.mp hz).1; rwa [tb_SZ_len] at this))
  obtain ⟨v, fm, hv, hfm⟩ : ∃ (v : Value) (fm : Nat), (v = .null ∨ v = .ref 65) ∧ va_Z "jdk/internal/util/Preconditions" "SIOOBE_FORMATTER" "Ljava/util/function/BiFunction;" (match v with | .ref _ => .ref fm | w => w) (fun q => s.heap.size ≤ q) s s.heap := by
    have h := hsz 1 _ tb_fm
    unfold ck_sz at h
    rw [tb_fm] at h
    split at h
    · rename_i z q e1 e2
      cases e1
      simp only [Bool.and_eq_true, decide_eq_true_eq] at h
      rcases va_Zqof (hT _ (tb_inw h.1.1)) (hT _ (tb_inw h.1.2)) (hs _ h.2) hA with h1 | ⟨t, h1⟩
      · exact ⟨.null, 0, Or.inl rfl, h1⟩
      · exact ⟨.ref 65, t, Or.inr rfl, h1⟩
    · cases h
  refine ⟨v, am_ad b adA adS fm s.heap.size, hv, rfl, fun i => ?_, ?_, ?_, ?_, ?_, ?_, ?_⟩
  · show am_ad b adA adS fm s.heap.size (66 + i) = _
    unfold am_ad
    rw [if_neg (by omega), if_neg (by omega), if_neg (by omega), if_neg (by omega), if_neg (by omega)]
    omega
  · intro a x hx hf
    unfold tb_KT at hx
    cases a with
    | zero =>
      rw [List.getElem?_cons_zero] at hx
      cases hx
      obtain ⟨scr, h1, h2, h3, h4, h5⟩ := hX
      exact ⟨scr, h1, h2, h3, Nat.le_of_eq h4.symm, by rw [h4], h5, hA _ hbl⟩
    | succ a =>
      rw [List.getElem?_cons_succ] at hx
      by_cases h12 : a < 12
      · rw [List.getElem?_append_left (by rw [List.length_map]; exact h12), List.getElem?_map, Option.map_eq_some_iff] at hx
        obtain ⟨z, hz, rfl⟩ := hx
        have := (hadA a z hz).2
        unfold am_ad
        rw [if_neg (by omega), if_pos (by omega)]
        exact this
      · rw [List.getElem?_append_right (by rw [List.length_map]; exact Nat.le_of_not_lt h12), List.length_map, show tb_sa.length = 12 from rfl] at hx
        by_cases h38 : a - 12 < 26
        · rw [List.getElem?_append_left (by rw [List.length_replicate]; exact h38)] at hx
          have := List.eq_of_mem_replicate (List.mem_of_getElem? hx)
          rw [this] at hf
          exact absurd rfl hf
        · rw [List.getElem?_append_right (by rw [List.length_replicate]; omega), List.length_replicate, List.getElem?_map, Option.map_eq_some_iff] at hx
          obtain ⟨z, hz, rfl⟩ := hx
          have hl : a - 12 - 26 < 26 := (List.getElem?_eq_some_iff.mp hz).1
          have := (hadS _ z hz).2.2.2.2
          unfold am_ad
          rw [if_neg (by omega), if_neg (by omega), if_neg (by omega), if_pos (by omega), show a + 1 - 39 = a - 12 - 26 by omega]
          exact this
  · intro a k fs w o h1 h2 h3
    unfold tb_KF at h1
    by_cases h13 : a < 13
    · rw [List.getElem?_append_left (by rw [List.length_replicate]; exact h13)] at h1
      rw [List.eq_of_mem_replicate (List.mem_of_getElem? h1)] at h2
      simp at h2
    · rw [List.getElem?_append_right (by rw [List.length_replicate]; omega), List.length_replicate] at h1
      have hl : a - 13 < 26 := (List.getElem?_eq_some_iff.mp h1).1
      have key : ∀ i, i < 26 → ([[Value.ref 39, .int 0], [.ref 40, .int 0], [.ref 41, .int 0], [.ref 42, .int 0], [.ref 43, .int 0], [.ref 44, .int 0], [.ref 45, .int 0], [.ref 46, .int 0], [.ref 47, .int 0], [.ref 48, .int 0], [.ref 49, .int 0], [.ref 50, .int 0], [.ref 51, .int 0], [.ref 52, .int 0], [.ref 53, .int 0], [.ref 54, .int 0], [.ref 55, .int 0], [.ref 56, .int 0], [.ref 57, .int 0], [.ref 58, .int 0], [.ref 59, .int 0], [.ref 60, .int 0], [.ref 61, .int 0], [.ref 62, .int 0], [.ref 63, .int 0], [.ref 64, .int 0]] : List (List Value))[i]? = some [.ref (39 + i), .int 0] := by decide
      rw [key _ hl] at h1
      cases h1
      obtain ⟨z, hz⟩ : ∃ z, tb_ss[a - 13]? = some z := ⟨_, List.getElem?_eq_getElem (show a - 13 < tb_ss.length from hl)⟩
      obtain ⟨-, -, e3, e4, -⟩ := hadS _ z hz
      have ea : am_ad b adA adS fm s.heap.size a = (adS (a - 13)).1 := by unfold am_ad; rw [if_neg (by omega), if_neg (by omega), if_pos (by omega)]
      have ev : am_ad b adA adS fm s.heap.size (39 + (a - 13)) = (adS (a - 13)).2 := by
        unfold am_ad
        rw [if_neg (by omega), if_neg (by omega), if_neg (by omega), if_pos (by omega), show 39 + (a - 13) - 39 = a - 13 by omega]
      match k, h2, h3 with
      | 0, h2, h3 =>
        cases h2
        cases h3
        rw [ea]
        show va_OF _ _ _ (.ref (am_ad b adA adS fm s.heap.size (39 + (a - 13)))) _ _ _ _
        rw [ev]
        exact e4
      | 1, h2, h3 =>
        cases h2
        cases h3
        rw [ea]
        exact e3
      | k + 2, h2, h3 => simp at h2
  · intro a C hC hn
    unfold tb_KO at hC
    by_cases h13 : a < 13
    · rw [List.getElem?_append_left (by rw [List.length_replicate]; exact h13)] at hC
      exact absurd (List.eq_of_mem_replicate (List.mem_of_getElem? hC)) hn
    · rw [List.getElem?_append_right (by rw [List.length_replicate]; omega), List.length_replicate] at hC
      have hl : a - 13 < 26 := by have := (List.getElem?_eq_some_iff.mp hC).1; rwa [List.length_replicate] at this
      have e := List.eq_of_mem_replicate (List.mem_of_getElem? hC)
      subst e
      obtain ⟨z, hz⟩ : ∃ z, tb_ss[a - 13]? = some z := ⟨_, List.getElem?_eq_getElem (show a - 13 < tb_ss.length from hl)⟩
      have ea : am_ad b adA adS fm s.heap.size a = (adS (a - 13)).1 := by unfold am_ad; rw [if_neg (by omega), if_neg (by omega), if_pos (by omega)]
      rw [ea]
      exact (hadS _ z hz).2.1
  · intro z hz
    obtain ⟨r, hr⟩ := List.getElem?_of_mem hz
    obtain ⟨z0, e0, e1, e2, e3⟩ := tb_SZ_at hr
    have e4 : z.2.2.2 = if z0.2.2.2 = .null then v else z0.2.2.2 := by
      have h1 : ((tb_SZ v).map (fun z => z.2.2.2))[r]? = some z.2.2.2 := by rw [List.getElem?_map, hr]; rfl
      rw [tb_SZ_v, List.getElem?_map, e0] at h1
      exact (Option.some.inj h1).symm
    have h := hsz r z0 e0
    unfold ck_sz at h
    rw [e0] at h
    split at h
    · rename_i z1 q f1 f2
      cases f1
      simp only [Bool.and_eq_true] at h
      rw [e1, e2, e3] at h
      obtain ⟨⟨w1, w2⟩, w3⟩ := h
      split at w3
      · rename_i x hx
        rw [e4, hx, if_neg (by intro q; cases q)]
        rw [decide_eq_true_eq] at w3
        exact va_Zof (hT _ (tb_inw w1)) (hT _ (tb_inw w2)) (va_eqt (hs _ w3)) hA
      · rename_i a hx
        rw [e4, hx, if_neg (by intro q; cases q)]
        split at w3
        · rename_i y hy
          simp only [Bool.and_eq_true, decide_eq_true_eq] at w3
          obtain ⟨⟨⟨g1, g2⟩, g3⟩, g4⟩ := w3
          have hl : a - 1 < 12 := (List.getElem?_eq_some_iff.mp hy).1
          have := (hadA _ y hy).1
          rw [g1, g2, g3] at this
          show va_Z _ _ _ (.ref (am_ad b adA adS fm s.heap.size a)) _ _ _
          have n1 : ¬ a = 0 := Nat.ne_of_gt g4
          have n2 : a < 13 := by
            have hl' : ∀ n : Nat, n - 1 < 12 → n < 13 := fun n hn => by omega
            exact hl' a hl
          unfold am_ad
          rw [if_neg n1, if_pos n2]
          exact va_Zref (hT _ (tb_inw w1)) (hT _ (tb_inw w2)) this hA
        · cases w3
      · rename_i hx
        have ez := tb_only r z0 e0 hx
        rw [e4, hx, if_pos rfl]
        rw [ez] at e1 e2 e3
        rw [← e1, ← e2, ← e3]
        rcases hv with rfl | rfl
        · exact hfm
        · exact hfm
      · cases w3
    · cases h
  · intro z hz
    obtain ⟨r, hr⟩ := List.getElem?_of_mem hz
    have hl : r < 26 := (List.getElem?_eq_some_iff.mp hr).1
    have h := List.all_eq_true.mp kx_sr r (List.mem_range.mpr hl)
    unfold ck_sr at h
    rw [hr] at h
    split at h
    · rename_i z1 q f1 f2
      cases f1
      have hr2 := hr
      rw [kx_sr2, List.getElem?_map, List.getElem?_zipIdx, Option.map_map, Option.map_eq_some_iff] at hr2
      obtain ⟨y, hy, e⟩ := hr2
      simp only [Function.comp] at e
      rw [← e] at h ⊢
      have ea : am_ad b adA adS fm s.heap.size (13 + (0 + r)) = (adS r).1 := by
        unfold am_ad
        rw [if_neg (by omega), if_neg (by omega), if_pos (by omega), show 13 + (0 + r) - 13 = r by omega]
      refine vk_R.of (A := args) (hT _ (tb_inw h)) ?_
      show (Term.string y.1 y.2.1).eval args s none [] s = some (.ref (am_ad b adA adS fm s.heap.size (13 + (0 + r))))
      rw [ea]
      exact (hadS r y hy).1
    · cases h
  · intro w hw
    obtain ⟨i, hi⟩ := List.getElem?_of_mem hw
    have h := List.all_eq_true.mp kx_n i (List.mem_range.mpr (List.getElem?_eq_some_iff.mp hi).1)
    unfold ck_n at h
    rw [hi] at h
    split at h
    · rename_i w1 q f1 f2
      cases f1
      exact va_Nw.of (am_nst_on (tb_nst w hw)) (hT _ (tb_inw h))
    · cases h
