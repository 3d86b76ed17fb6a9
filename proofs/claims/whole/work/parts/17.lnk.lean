/-! the linker's code is as the abstract machine wants it: am_Ok -/
theorem tb_cok1 {ci : Nat} {C : String} {T : u_T} {N : Nat} (hc : tb_cl[ci]? = some (C, T, N)) : ck_cl ci = true := by
  have hl : ci < 14 := (List.getElem?_eq_some_iff.mp hc).1
  by_cases h : ci = 13
  · subst h; exact kx_cl1
  · exact List.all_eq_true.mp kx_cl0 ci (List.mem_range.mpr (by omega))
theorem tb_cfacts {ci : Nat} {C : String} {T : u_T} {N : Nat} (hc : tb_cl[ci]? = some (C, T, N)) : Cond.instantiable C N ∈ tb_w ∧ Cond.initialized C ∈ tb_w ∧ (tb_df ci).length = N ∧ (∀ k, k < N → parseFieldDescriptor (T k).2.2.1 = some (tb_ft ci k) ∧ defaultValue (tb_ft ci k) = vp_V (tb_df ci) k ∧ u_lay C T k ∈ tb_w) ∧ (∀ v ∈ tb_df ci, ∀ b, am_v b v = v) ∧ ((List.range N).map (fun k => (T k).2.1)).Nodup := by
  have h := tb_cok1 hc
  unfold ck_cl at h
  rw [hc] at h
  split at h
  · rename_i C2 T2 N2 pi pn h1 h2
    cases h1
    simp only [Bool.and_eq_true, decide_eq_true_eq] at h
    obtain ⟨⟨⟨⟨⟨h1, h2⟩, h3⟩, h4⟩, h5⟩, h6⟩ := h
    refine ⟨tb_in h1, tb_in h2, h3, fun k hk => ?_, fun v hv b => ?_, h6⟩
    · have h7 := List.all_eq_true.mp h4 k (List.mem_range.mpr hk)
      simp only [Bool.and_eq_true, decide_eq_true_eq] at h7
      exact ⟨h7.1.1, h7.1.2, tb_in h7.2⟩
    · have h7 := List.all_eq_true.mp h5 v hv
      cases v <;> first | rfl | (simp at h7)
  · cases h
theorem tb_cok : am_cok tb_cl tb_w tb_ft := by
  intro ci C T N hc
  obtain ⟨-, -, -, h4, -, h6⟩ := tb_cfacts hc
  refine ⟨fun w hw => ?_, fun k hk => (h4 k hk).1, fun a ha b' hb' hne he => ?_⟩
  · obtain ⟨k, hk, rfl⟩ := List.mem_map.mp hw
    exact (h4 k (List.mem_range.mp hk)).2.2
  · have e := List.pairwise_iff_getElem.mp h6
    rcases Nat.lt_or_gt_of_ne hne with h | h
    · exact e a b' (by simpa using ha) (by simpa using hb') h (by simpa using he)
    · exact e b' a (by simpa using hb') (by simpa using ha) h (by simpa using he.symm)
theorem tb_mok : am_mok tb_w tb_mt := by
  intro j y bytes nL ret hj
  have hl : j < 485 := by
    unfold tb_mt at hj
    split at hj
    · cases hj
    · rename_i q hq
      have := (List.getElem?_eq_some_iff.mp hq).1
      rwa [kx_len] at this
  have h1 := List.all_eq_true.mp kx_J j (List.mem_range.mpr hl)
  have h2 := List.all_eq_true.mp kx_Pm j (List.mem_range.mpr hl)
  unfold ck_J at h1
  unfold ck_Pm at h2
  rw [hj] at h1 h2
  simp only [Bool.and_eq_true, decide_eq_true_eq] at h1
  obtain ⟨⟨⟨h3, h4⟩, h5⟩, h6⟩ := h1
  refine ⟨?_, ?_, ⟨h3, h4⟩, h5⟩
  · unfold tb_mt at hj
    split at hj
    · cases hj
    · exact tb_ex_in hj
  · simp only at h2
    split at h2
    · simp only [Bool.or_eq_true, decide_eq_true_eq] at h2
      rcases h2 with (h2 | h2) | h2
      · rw [h2]; exact kx_Mx
      · rw [h2]; exact kx_Mn
      · rw [h2]; exact kx_Ma
    · rename_i ho
      have := kx_P (tb_o j) (by simpa using h2) ho
      rw [h6] at this
      unfold plainFor
      rw [this]
      rfl
theorem tb_nst : ∀ w ∈ tb_n, am_nst w = true := by
  have : tb_n.all am_nst = true := by decide +kernel
  exact List.all_eq_true.mp this
theorem tb_M_at {o ix j n r : Nat} {pl : Nat × Nat} (h : tb_fd tb_LM o ix = some (j, n, r, pl)) : ck_M o (ix, j, n, r, pl) = true := by
  obtain ⟨g, h1, h2⟩ := tb_fd_in h
  refine List.all_eq_true.mp (kx_M o) _ ?_
  rw [List.getD_eq_getElem?_getD, h1]
  exact h2
theorem tb_M_facts {o ix j n r : Nat} {pl : Nat × Nat} (h : tb_fd tb_LM o ix = some (j, n, r, pl)) : ∃ y bytes nL ret, tb_mt j = some (y, bytes, nL, ret) ∧ am_np y n ∧ am_lk tb_w tb_n (tb_own o) ix y ∧ Cond.initialized y.cls ∈ tb_w ∧
    (r = 200 → Cond.static y ∈ tb_w) ∧ (r = 201 → Cond.instanceMethod y ∈ tb_w ∧ y.name = "<init>" ∧ ret = none) ∧ (r < 200 → Cond.instanceMethod y ∈ tb_w ∧ Cond.selects y.cls y y ∈ tb_w ∧ ((r = 99 ∧ y.cls = "java/lang/String") ∨ (r ≠ 99 ∧ ∃ T N, tb_cl[r]? = some (y.cls, T, N)))) := by
  have h1 := tb_M_at h
  unfold ck_M at h1
  split at h1
  · rename_i y bytes nL ret pc pk ps pi e1 e2
    simp only [Bool.and_eq_true, decide_eq_true_eq] at h1
    obtain ⟨⟨⟨h2, h3⟩, h4⟩, h5⟩ := h1
    refine ⟨y, bytes, nL, ret, e1, h3, tb_lk_ok h2, tb_in h4, fun hr => ?_, fun hr => ?_, fun hr => ?_⟩
    · rw [if_pos hr] at h5
      exact tb_in h5
    · rw [if_neg (by omega), if_pos hr] at h5
      simp only [Bool.and_eq_true, decide_eq_true_eq] at h5
      exact ⟨tb_in h5.1.1, h5.1.2, h5.2⟩
    · rw [if_neg (by omega), if_neg (by omega)] at h5
      simp only [Bool.and_eq_true] at h5
      refine ⟨tb_in h5.1.1, tb_in h5.1.2, ?_⟩
      have h6 := h5.2
      split at h6
      · rename_i hr9
        exact Or.inl ⟨hr9, by simpa using h6⟩
      · rename_i hr9
        split at h6
        · rename_i C T N hc
          rw [decide_eq_true_eq] at h6
          subst h6
          exact Or.inr ⟨hr9, T, N, hc⟩
        · cases h6
  · cases h1
