/-! the linker, all told -/
theorem tb_xfacts : Cond.native arraycopyName ∈ tb_w ∧ Cond.static arraycopyName ∈ tb_w ∧ Cond.initialized "java/lang/System" ∈ tb_w ∧ Cond.instanceMethod objectInit ∈ tb_w ∧ Cond.code objectInit ⟨#[0xb1]⟩ 1 none ∈ tb_w ∧ Cond.arrayClass .int ∈ tb_w ∧ Cond.arrayClass .long ∈ tb_w ∧ Cond.arrayClass .boolean ∈ tb_w := by
  have h := kx_x
  unfold ck_x at h
  simp only [Bool.and_eq_true] at h
  obtain ⟨⟨⟨⟨⟨⟨⟨h1, h2⟩, h3⟩, h4⟩, h5⟩, h6⟩, h7⟩, h8⟩ := h
  exact ⟨tb_in h1, tb_in h2, tb_in h3, tb_in h4, tb_in h5, tb_in h6, tb_in h7, tb_in h8⟩
theorem tb_SZ_at {v : Value} {r : Nat} {z : String × String × String × Value} (h : (tb_SZ v)[r]? = some z) : ∃ z0, (tb_SZ .null)[r]? = some z0 ∧ z0.1 = z.1 ∧ z0.2.1 = z.2.1 ∧ z0.2.2.1 = z.2.2.1 := by
  have key : (tb_SZ v).map (fun z => (z.1, z.2.1, z.2.2.1)) = (tb_SZ .null).map (fun z => (z.1, z.2.1, z.2.2.1)) := rfl
  have h1 : ((tb_SZ v).map (fun z => (z.1, z.2.1, z.2.2.1)))[r]? = some (z.1, z.2.1, z.2.2.1) := by rw [List.getElem?_map, h]; rfl
  rw [key, List.getElem?_map, Option.map_eq_some_iff] at h1
  obtain ⟨z0, h2, h3⟩ := h1
  refine ⟨z0, h2, ?_, ?_, ?_⟩
  · exact congrArg (fun q => q.1) h3
  · exact congrArg (fun q => q.2.1) h3
  · exact congrArg (fun q => q.2.2) h3
theorem tb_F_facts {o ix ci k f : Nat} {pl : Nat × Nat} (h : tb_fd tb_LF o ix = some (ci, k, f, pl)) : ∃ C T N, tb_cl[ci]? = some (C, T, N) ∧ k < N ∧ (Cond.fieldLink (tb_own o) ix (T k).1 (T k).2.1 (T k).2.2.1 ∈ tb_w ∨ ∃ host, Cond.fieldLinkNest (tb_own o) ix (T k).1 (T k).2.1 (T k).2.2.1 host ∈ tb_n) ∧
    (f = 0 → (T k).2.2.2 = false) ∧ (f = 1 → (T k).2.2.2 = true ∧ (T k).1 = tb_own o ∧ Cond.fieldLink (tb_own o) ix (T k).1 (T k).2.1 (T k).2.2.1 ∈ tb_w) := by
  obtain ⟨g, h1, h2⟩ := tb_fd_in h
  have h3 := tb_all_at kx_F h1 h2
  unfold ck_F at h3
  split at h3
  · cases h3
  · rename_i C T N hc
    simp only [Bool.and_eq_true, decide_eq_true_eq] at h3
    obtain ⟨⟨h4, h5⟩, h6⟩ := h3
    refine ⟨C, T, N, hc, h4, tb_lk_ok h5, fun hf => ?_, fun hf => ?_⟩
    · rw [if_pos hf] at h6
      simpa using h6
    · rw [if_neg (by omega), if_pos hf] at h6
      simp only [Bool.and_eq_true, decide_eq_true_eq] at h6
      refine ⟨h6.1.1, h6.1.2, ?_⟩
      unfold tb_lk at h5
      rw [if_neg h6.2] at h5
      exact tb_in h5
theorem tb_res_ok (v : Value) {o : Nat} {init : Bool} {i : Instr} {x : am_I} (h : tb_res o init i = some x) : x.1 = i ∧ am_hok tb_cl tb_w tb_n (tb_own o) init tb_df tb_ft x ∧ am_kok tb_w tb_n (tb_own o) tb_FN (tb_SZ v) tb_SR tb_nK x ∧ am_xok tb_w (tb_own o) x ∧ am_iok tb_cl tb_w tb_n (tb_own o) tb_mt x := by
  obtain ⟨x1, x2, x3, x4, x5, x6, x7, x8⟩ := tb_xfacts
  cases i
  case getfield ix =>
    unfold tb_res at h
    simp only at h
    split at h
    · rename_i ci k f pl hF
      cases h
      obtain ⟨C, T, N, h1, h2, h3, -⟩ := tb_F_facts hF
      exact ⟨rfl, ⟨C, T, N, h1, h2, h3⟩, trivial, trivial, trivial⟩
    · split at h
      · rename_i k pl hK
        cases h
        obtain ⟨g, h1, h2⟩ := tb_fd_in hK
        have h3 := tb_all_at kx_K h1 h2
        unfold ck_K at h3
        split at h3
        · cases h3
        · rename_i f hf
          exact ⟨rfl, trivial, ⟨f, hf, tb_in h3⟩, trivial, trivial⟩
      · cases h
  case putfield ix =>
    unfold tb_res at h
    simp only at h
    split at h
    · rename_i ci k f pl hF
      split at h
      · rename_i hf
        cases h
        obtain ⟨C, T, N, h1, h2, h3, h4, h5⟩ := tb_F_facts hF
        refine ⟨rfl, ⟨C, T, N, h1, h2, (tb_cok _ _ _ _ h1).2.1 k h2, ?_⟩, trivial, trivial, trivial⟩
        rcases hf with hf | ⟨hf, hi⟩
        · exact Or.inl ⟨h4 hf, h3⟩
        · exact Or.inr ⟨(h5 hf).1, hi, (h5 hf).2⟩
      · cases h
    · cases h
  case getstatic ix =>
    unfold tb_res at h
    simp only at h
    split at h
    · rename_i r pl hZ
      cases h
      refine ⟨rfl, trivial, fun z hz => ?_, trivial, trivial⟩
      obtain ⟨g, h1, h2⟩ := tb_fd_in hZ
      have h3 := tb_all_at kx_Z h1 h2
      obtain ⟨z0, e0, e1, e2, e3⟩ := tb_SZ_at hz
      unfold ck_Z at h3
      simp only [e0] at h3
      rw [e1, e2, e3] at h3
      exact tb_lk_ok h3
    · cases h
  case new ix =>
    unfold tb_res at h
    simp only at h
    split at h
    · rename_i ci pl hN
      cases h
      obtain ⟨g, h1, h2⟩ := tb_fd_in hN
      have h3 := tb_all_at kx_N h1 h2
      unfold ck_N at h3
      split at h3
      · cases h3
      · rename_i C T N hc
        obtain ⟨f1, f2, f3, f4, f5, -⟩ := tb_cfacts hc
        exact ⟨rfl, ⟨C, T, N, hc, f3, fun k hk => ⟨(f4 k hk).1, (f4 k hk).2.1⟩, f5, tb_in h3, f1, f2⟩, trivial, trivial, trivial⟩
    · cases h
  case newarray a =>
    unfold tb_res at h
    cases h
    cases a
    all_goals first | exact ⟨rfl, x6, trivial, trivial, trivial⟩ | exact ⟨rfl, x7, trivial, trivial, trivial⟩ | exact ⟨rfl, x8, trivial, trivial, trivial⟩ | exact ⟨rfl, trivial, trivial, trivial, trivial⟩
  case ldc ix =>
    unfold tb_res at h
    simp only at h
    split at h
    · rename_i vv pl hC
      cases h
      obtain ⟨g, h1, h2⟩ := tb_fd_in hC
      exact ⟨rfl, trivial, tb_in (tb_all_at kx_C h1 h2), trivial, trivial⟩
    · split at h
      · rename_i r hR
        cases h
        obtain ⟨g, h1, h2⟩ := tb_fd_in hR
        have h3 := tb_all_at kx_R h1 h2
        refine ⟨rfl, trivial, fun z hz => ?_, trivial, trivial⟩
        unfold ck_R at h3
        simp only [hz, Bool.and_eq_true, decide_eq_true_eq] at h3
        exact h3
      · cases h
  case ldc_w ix =>
    unfold tb_res at h
    simp only at h
    split at h
    · rename_i vv pl hC
      cases h
      obtain ⟨g, h1, h2⟩ := tb_fd_in hC
      exact ⟨rfl, trivial, tb_in (tb_all_at kx_C h1 h2), trivial, trivial⟩
    · split at h
      · rename_i r hR
        cases h
        obtain ⟨g, h1, h2⟩ := tb_fd_in hR
        have h3 := tb_all_at kx_R h1 h2
        refine ⟨rfl, trivial, fun z hz => ?_, trivial, trivial⟩
        unfold ck_R at h3
        simp only [hz, Bool.and_eq_true, decide_eq_true_eq] at h3
        exact h3
      · cases h
  case ldc2_w ix =>
    unfold tb_res at h
    simp only at h
    split at h
    · rename_i vv pl hC
      cases h
      obtain ⟨g, h1, h2⟩ := tb_fd_in hC
      exact ⟨rfl, trivial, tb_in (tb_all_at kx_L h1 h2), trivial, trivial⟩
    · cases h
  case invokestatic ix =>
    unfold tb_res at h
    simp only at h
    split at h
    · rename_i j n r pl hM
      split at h
      · rename_i hr
        cases h
        obtain ⟨y, bytes, nL, ret, f1, f2, f3, f4, f5, -⟩ := tb_M_facts hM
        exact ⟨rfl, trivial, trivial, trivial, Or.inr ⟨y, bytes, nL, ret, f1, f2, f3, f5 hr, f4⟩⟩
      · cases h
    · split at h
      · rename_i r pl hX
        split at h
        · rename_i hr
          cases h
          obtain ⟨g, h1, h2⟩ := tb_fd_in hX
          have h3 := tb_all_at kx_X h1 h2
          unfold ck_X at h3
          rw [if_pos hr] at h3
          exact ⟨rfl, trivial, trivial, ⟨tb_in h3, x1, x2, x3⟩, Or.inl rfl⟩
        · cases h
      · cases h
  case invokespecial ix =>
    unfold tb_res at h
    simp only at h
    split at h
    · rename_i j n r pl hM
      split at h
      · rename_i hr
        cases h
        obtain ⟨y, bytes, nL, ret, f1, f2, f3, f4, -, f6, -⟩ := tb_M_facts hM
        obtain ⟨g1, g2, g3⟩ := f6 hr
        subst g3
        exact ⟨rfl, trivial, trivial, trivial, Or.inr ⟨y, bytes, nL, f1, f2, f3, g1, g2, f4⟩⟩
      · cases h
    · split at h
      · rename_i r pl hX
        split at h
        · rename_i hr
          cases h
          obtain ⟨g, h1, h2⟩ := tb_fd_in hX
          have h3 := tb_all_at kx_X h1 h2
          unfold ck_X at h3
          rw [if_neg (by simp only; omega)] at h3
          exact ⟨rfl, trivial, trivial, ⟨tb_in h3, x4, x5⟩, Or.inl rfl⟩
        · cases h
      · cases h
  case invokevirtual ix =>
    unfold tb_res at h
    simp only at h
    split at h
    · rename_i j n r pl hM
      split at h
      · rename_i hr
        cases h
        obtain ⟨y, bytes, nL, ret, f1, f2, f3, f4, -, -, f7⟩ := tb_M_facts hM
        obtain ⟨g1, g2, g3⟩ := f7 hr
        exact ⟨rfl, trivial, trivial, trivial, ⟨y, bytes, nL, ret, f1, f2, f3, g1, g2, f4, g3⟩⟩
      · cases h
    · cases h
  all_goals (simp only [tb_res, Option.some.injEq] at h; subst h; exact ⟨rfl, trivial, trivial, trivial, trivial⟩)
theorem tb_ok (v : Value) {base : Nat} {b : Nat → Nat} (hb : ∀ i, b (tb_nK + i) = base + i) : am_Ok tb_nK base b tb_cl tb_w tb_n tb_FN (tb_SZ v) tb_SR tb_df tb_ft tb_mt tb_co := by
  refine ⟨hb, tb_cok, tb_mok, tb_good, tb_nst, fun j pc x y bytes nL ret hco hmt => ?_⟩
  unfold tb_co at hco
  rw [hmt] at hco
  simp only at hco
  split at hco
  · rename_i i len hd
    split at hco
    · rename_i hl
      obtain ⟨h1, h2, h3, h4, h5⟩ := tb_res_ok v hco
      have ho : tb_own (tb_o j) = y.cls := by
        have hj : j < 485 := by
          unfold tb_mt at hmt
          split at hmt
          · cases hmt
          · rename_i q hq
            have := (List.getElem?_eq_some_iff.mp hq).1
            rwa [kx_len] at this
        have h1 := List.all_eq_true.mp kx_J j (List.mem_range.mpr hj)
        unfold ck_J at h1
        rw [hmt] at h1
        simp only [Bool.and_eq_true, decide_eq_true_eq] at h1
        exact h1.2
      rw [ho] at h2 h3 h4 h5
      refine ⟨⟨len, by rw [h1]; exact hd, fun q => ?_⟩, h2, h3, h4, h5⟩
      rw [h1] at q ⊢
      rcases hl with hl | hl
      · rw [hl] at q; cases q
      · exact hl
    · cases hco
  · cases hco
