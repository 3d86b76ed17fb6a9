/-! fewer locals are enough: the listed ones alone, in the order wanted -/
def am_pk (lo : am_L) (ks : List Nat) : am_L := ks.filterMap (fun i => (am_ld lo i).map (fun v => (i, v)))
/-- what lo' tells, lo tells -/
def am_le (lo' lo : am_L) : Prop := (lo'.map (fun q => q.1)).Nodup ∧ ∀ i v, am_ld lo' i = some v → am_ld lo i = some v
theorem am_ld_mem {lo : am_L} {i : Nat} {v : Value} (h : am_ld lo i = some v) : (i, v) ∈ lo := by
  rw [am_ld, Option.map_eq_some_iff] at h
  obtain ⟨q, hq, rfl⟩ := h
  have h2 : q.1 = i := by simpa using List.find?_some hq
  subst h2
  exact List.mem_of_find?_eq_some hq
theorem am_ld_of {lo : am_L} (hn : (lo.map (fun q => q.1)).Nodup) {i : Nat} {v : Value} (h : (i, v) ∈ lo) : am_ld lo i = some v := by
  induction lo with
  | nil => cases h
  | cons a lo ih =>
    rw [List.map_cons, List.nodup_cons] at hn
    unfold am_ld
    rcases List.mem_cons.mp h with rfl | h
    · simp
    · have hne : (a.1 == i) = false := by
        rw [beq_eq_false_iff_ne]
        intro e
        exact hn.1 (by rw [e]; exact List.mem_map.mpr ⟨(i, v), h, rfl⟩)
      rw [List.find?_cons, hne]
      exact ih hn.2 h
theorem am_nodup_filter {lo : am_L} (f : Nat × Value → Bool) (hn : (lo.map (fun q => q.1)).Nodup) : ((lo.filter f).map (fun q => q.1)).Nodup := List.Nodup.sublist (List.Sublist.map _ List.filter_sublist) hn
theorem am_ld_cons (i : Nat) (v : Value) (lo : am_L) (k : Nat) : am_ld ((i, v) :: lo) k = if i = k then some v else am_ld lo k := by
  unfold am_ld
  rw [List.find?_cons]
  by_cases h : i = k
  · subst h; simp
  · have : (i == k) = false := by rw [beq_eq_false_iff_ne]; exact h
    rw [this, if_neg h]
/-- of a filtered list, if the first entry of the key stays -/
theorem am_ld_filter {lo : am_L} {f : Nat × Value → Bool} {k : Nat} {v : Value} (h : am_ld lo k = some v) (hf : f (k, v) = true) : am_ld (lo.filter f) k = some v := by
  induction lo with
  | nil => simp [am_ld] at h
  | cons a lo ih =>
    obtain ⟨i, u⟩ := a
    rw [am_ld_cons] at h
    by_cases hik : i = k
    · subst hik
      rw [if_pos rfl] at h
      cases h
      rw [List.filter_cons, if_pos hf, am_ld_cons, if_pos rfl]
    · rw [if_neg hik] at h
      rw [List.filter_cons]
      split
      · rw [am_ld_cons, if_neg hik]
        exact ih h
      · exact ih h
theorem am_le_st {lo' lo : am_L} {i : Nat} {v : Value} {f : Nat × Value → Bool} (hf : ∀ u, f (i, u) = false) (h : am_le lo' lo) : am_le ((i, v) :: lo'.filter f) ((i, v) :: lo.filter f) := by
  obtain ⟨hn, h2⟩ := h
  refine ⟨?_, fun k u hk => ?_⟩
  · rw [List.map_cons, List.nodup_cons]
    refine ⟨fun hm => ?_, am_nodup_filter f hn⟩
    obtain ⟨q, hq, e⟩ := List.mem_map.mp hm
    have h3 := (List.mem_filter.mp hq).2
    obtain ⟨a, b⟩ := q
    simp only at e
    subst e
    rw [hf] at h3
    cases h3
  · rw [am_ld_cons] at hk ⊢
    split
    · rename_i e
      rw [if_pos e] at hk
      exact hk
    · rename_i e
      rw [if_neg e] at hk
      have h3 := List.mem_filter.mp (am_ld_mem hk)
      exact am_ld_filter (h2 k u (am_ld_of hn h3.1)) h3.2
theorem am_mv_le {nL : Nat} {i : Instr} {lo' lo l1 : am_L} {st st1 : List Value} (h : am_le lo' lo) (h1 : am_mv nL i lo' st = some (l1, st1)) : ∃ l2, am_mv nL i lo st = some (l2, st1) ∧ am_le l1 l2 := by
  unfold am_mv at h1 ⊢
  split at h1
  all_goals first | (cases h1; done) | skip
  · split at h1
    · rename_i hx; cases h1; exact ⟨lo, by rw [h.2 _ _ hx], h⟩
    · cases h1
  · split at h1
    · rename_i hx; cases h1; exact ⟨lo, by rw [h.2 _ _ hx], h⟩
    · cases h1
  · split at h1
    · rename_i hx; cases h1; exact ⟨lo, by rw [h.2 _ _ hx], h⟩
    · cases h1
  · split at h1
    · rename_i hx; cases h1; exact ⟨lo, by rw [h.2 _ _ hx], h⟩
    · cases h1
  · split at h1
    · rename_i hx; cases h1; exact ⟨lo, by rw [h.2 _ _ hx], h⟩
    · rename_i hx; cases h1; exact ⟨lo, by rw [h.2 _ _ hx], h⟩
    · cases h1
  · split at h1
    · rename_i hx; cases h1; exact ⟨lo, by rw [h.2 _ _ hx], h⟩
    · rename_i hx; cases h1; exact ⟨lo, by rw [h.2 _ _ hx], h⟩
    · cases h1
  · split at h1
    · rename_i hn; cases h1; exact ⟨_, (by rw [if_pos hn]; rfl), am_le_st (fun u => by simp) h⟩
    · cases h1
  · split at h1
    · rename_i hn; cases h1; exact ⟨_, (by rw [if_pos hn]; rfl), am_le_st (fun u => by simp) h⟩
    · cases h1
  · split at h1
    · rename_i hn; cases h1; exact ⟨_, (by rw [if_pos hn]; rfl), am_le_st (fun u => by simp) h⟩
    · cases h1
  · split at h1
    · rename_i hn; cases h1; exact ⟨_, (by rw [if_pos hn]; rfl), am_le_st (fun u => by simp) h⟩
    · cases h1
  · split at h1
    · rename_i hn; cases h1; exact ⟨_, (by rw [if_pos hn]; rfl), am_le_st (fun u => by simp) h⟩
    · cases h1
  · split at h1
    · rename_i hn; cases h1; exact ⟨_, (by rw [if_pos hn]; rfl), am_le_st (fun u => by simp) h⟩
    · cases h1
  · split at h1
    · rename_i hx
      split at h1
      · rename_i hn
        cases h1
        exact ⟨_, (by rw [h.2 _ _ hx]; simp only; rw [if_pos hn]; rfl), am_le_st (fun u => by simp) h⟩
      · cases h1
    · cases h1
section AMLE
variable {nK : Nat} {KT : List (FieldType × Nat × (Nat → Int32))} {KF : List (List Value)} {KO : List String} {SZ : List (String × String × String × Value)} {SR : List (String × Nat × String × Nat)} {df : Nat → List Value} {ft : Nat → Nat → FieldType} {mt : am_T} {co : am_P}
theorem am_mv_xi {x : am_I} {st : List Value} (h : ∀ nL lo, am_mv nL x.1 lo st = none) (nL : Nat) (lo lo' : am_L) : am_mv nL x.1 lo st = am_mv nL x.1 lo' st := by rw [h, h]
theorem am_mv_oi {d : Nat} {x : am_I} {st st' : List Value} (h : am_oi d x st = some st') : ∀ nL lo, am_mv nL x.1 lo st = none := by
  unfold am_oi at h
  split at h
  · intro nL lo; rfl
  · cases h
theorem am_mv_cp {d : Nat} {x : am_I} {st : List Value} {h0 : List am_C} {r : List Value × List am_C} (h : am_cp nK KT d x st h0 = some r) : ∀ nL lo, am_mv nL x.1 lo st = none := by
  unfold am_cp at h
  split at h
  · intro nL lo; rfl
  · cases h
theorem am_one_le {d nL : Nat} {ret : Option FieldType} {x : am_I} {pc : Nat} {lo' lo : am_L} {st : List Value} {h : List am_C} (hle : am_le lo' lo) :
    (∀ {pc1 : Nat} {l1 : am_L} {st1 : List Value} {h1 : List am_C} {dc ds : Nat}, am_one nK KT KF SZ SR df ft d nL ret x pc lo' st h = some (.inl (pc1, l1, st1, h1, dc, ds)) → ∃ l2, am_one nK KT KF SZ SR df ft d nL ret x pc lo st h = some (.inl (pc1, l2, st1, h1, dc, ds)) ∧ am_le l1 l2) ∧
    (∀ {v : Option Value}, am_one nK KT KF SZ SR df ft d nL ret x pc lo' st h = some (.inr v) → am_one nK KT KF SZ SR df ft d nL ret x pc lo st h = some (.inr v)) := by
  cases e0 : am_op x.1 st with
  | some s2 =>
    unfold am_one
    rw [e0]
    refine ⟨fun h1 => ?_, fun h1 => ?_⟩
    · cases h1; exact ⟨lo, rfl, hle⟩
    · cases h1
  | none =>
    cases e1 : am_mv nL x.1 lo' st with
    | some q =>
      obtain ⟨l1, s1⟩ := q
      obtain ⟨l2, e2, e3⟩ := am_mv_le hle e1
      unfold am_one
      rw [e0, e1, e2]
      refine ⟨fun h1 => ?_, fun h1 => ?_⟩
      · cases h1; exact ⟨l2, rfl, e3⟩
      · cases h1
    | none =>
      have fin : (∀ nL lo, am_mv nL x.1 lo st = none) → (∀ {pc1 : Nat} {l1 : am_L} {st1 : List Value} {h1 : List am_C} {dc ds : Nat}, am_one nK KT KF SZ SR df ft d nL ret x pc lo' st h = some (.inl (pc1, l1, st1, h1, dc, ds)) → ∃ l2, am_one nK KT KF SZ SR df ft d nL ret x pc lo st h = some (.inl (pc1, l2, st1, h1, dc, ds)) ∧ am_le l1 l2) ∧
    (∀ {v : Option Value}, am_one nK KT KF SZ SR df ft d nL ret x pc lo' st h = some (.inr v) → am_one nK KT KF SZ SR df ft d nL ret x pc lo st h = some (.inr v)) := by
        intro hm
        refine ⟨fun {pc1 l1 st1 h1 dc ds} hh => ?_, fun {v} hh => ?_⟩
        · unfold am_one at hh ⊢
          rw [e0, hm] at hh
          rw [e0, hm]
          simp only at hh ⊢
          split at hh
          · split at hh
            · rename_i ho; cases hh; rw [if_pos ho]; exact ⟨lo, rfl, hle⟩
            · cases hh
          · split at hh
            · split at hh
              · rename_i ho; cases hh; rw [if_pos ho]; exact ⟨lo, rfl, hle⟩
              · cases hh
            · split at hh
              · cases hh; exact ⟨lo, rfl, hle⟩
              · split at hh
                · cases hh; exact ⟨lo, rfl, hle⟩
                · split at hh
                  · cases hh
                  · split at hh
                    · cases hh; exact ⟨lo, rfl, hle⟩
                    · split at hh
                      · cases hh; exact ⟨lo, rfl, hle⟩
                      · cases hh
        · unfold am_one at hh ⊢
          rw [e0, hm] at hh
          rw [e0, hm]
          simp only at hh ⊢
          split at hh
          · split at hh <;> cases hh
          · split at hh
            · split at hh <;> cases hh
            · split at hh
              · cases hh
              · split at hh
                · cases hh
                · split at hh
                  · exact hh
                  · split at hh
                    · cases hh
                    · split at hh
                      · cases hh
                      · cases hh
      have none_of : (¬ ∀ nL lo, am_mv nL x.1 lo st = none) → am_one nK KT KF SZ SR df ft d nL ret x pc lo' st h = none := by
        intro hn
        unfold am_one
        rw [e0, e1]
        simp only
        cases c1 : am_br x.1 st with
        | some q => exact absurd (am_op_br c1).2 hn
        | none =>
          cases c2 : am_sw x.1 st with
          | some q => exact absurd (am_op_sw c2).2.1 hn
          | none =>
            cases c3 : am_hp [] nK df ft x st h with
            | some q => exact absurd (am_op_hp c3).2.1 hn
            | none =>
              cases c4 : am_kc nK KT KF SZ SR x st with
              | some q => exact absurd (am_op_kc c4).2.1 hn
              | none =>
                cases c5 : am_rt ret x.1 st with
                | some q => exact absurd (am_op_rt c5).2.1 hn
                | none =>
                  cases c6 : am_oi d x st with
                  | some q => exact absurd (am_mv_oi c6) hn
                  | none =>
                    cases c7 : am_cp nK KT d x st h with
                    | some q => exact absurd (am_mv_cp c7) hn
                    | none => rfl
      by_cases hm : ∀ nL lo, am_mv nL x.1 lo st = none
      · exact fin hm
      · refine ⟨fun hh => ?_, fun hh => ?_⟩
        · rw [none_of hm] at hh; cases hh
        · rw [none_of hm] at hh; cases hh
theorem am_run_le : ∀ (n d j pc : Nat) (lo' lo : am_L) (st : List Value) (h : List am_C) (r : am_E), am_le lo' lo → am_run nK KT KF KO SZ SR df ft mt co n d j pc lo' st h = some r → am_run nK KT KF KO SZ SR df ft mt co n d j pc lo st h = some r
  | 0, _, _, _, _, _, _, _, _, _, hr => by rw [am_run] at hr; cases hr
  | n + 1, d, j, pc, lo', lo, st, h, r, hle, hr => by
    rw [am_run] at hr ⊢
    cases hm : mt j with
    | none => rw [hm] at hr; cases hr
    | some z =>
      obtain ⟨y, bytes, nL, ret⟩ := z
      rw [hm] at hr
      simp only at hr ⊢
      cases hc : co j pc with
      | none => rw [hc] at hr; cases hr
      | some x =>
        rw [hc] at hr
        simp only at hr ⊢
        obtain ⟨g1, g2⟩ := am_one_le (nK := nK) (KT := KT) (KF := KF) (SZ := SZ) (SR := SR) (df := df) (ft := ft) (d := d) (nL := nL) (ret := ret) (x := x) (pc := pc) (st := st) (h := h) hle
        cases h1 : am_one nK KT KF SZ SR df ft d nL ret x pc lo' st h with
        | some o =>
          rw [h1] at hr
          cases o with
          | inl q =>
            obtain ⟨pc1, l1, st1, h1', dc, ds⟩ := q
            obtain ⟨l2, e1, e2⟩ := g1 h1
            rw [e1]
            simp only at hr ⊢
            obtain ⟨r1, hr1, rfl⟩ := Option.map_eq_some_iff.mp hr
            rw [am_run_le n d j pc1 l1 l2 st1 h1' r1 e2 hr1]
            rfl
          | inr v =>
            rw [g2 h1]
            exact hr
        | none =>
          rw [h1] at hr
          simp only at hr
          cases h2 : am_iv nK KO h x st with
          | none => rw [h2] at hr; cases hr
          | some q =>
            obtain ⟨j', as, rest⟩ := q
            rw [am_iv_none h2]
            rw [h2] at hr
            simp only at hr ⊢
            cases d with
            | zero => cases hr
            | succ d0 =>
              simp only at hr ⊢
              cases hm' : mt j' with
              | none => rw [hm'] at hr; cases hr
              | some z' =>
                obtain ⟨y', bytes', nL', ret'⟩ := z'
                rw [hm'] at hr
                simp only at hr ⊢
                split at hr
                · rename_i hlen
                  rw [if_pos hlen]
                  cases h3 : am_run nK KT KF KO SZ SR df ft mt co n d0 j' 0 (lv_args 0 as) [] h with
                  | none => rw [h3] at hr; cases hr
                  | some r3 =>
                    obtain ⟨v, h', mc, ms⟩ := r3
                    rw [h3] at hr
                    simp only at hr ⊢
                    obtain ⟨r1, hr1, rfl⟩ := Option.map_eq_some_iff.mp hr
                    rw [am_run_le n (d0 + 1) j (pc + 3) lo' lo _ h' r1 hle hr1]
                    rfl
                · cases hr
end AMLE
theorem am_pk_le {lo : am_L} {ks : List Nat} (hk : ks.Nodup) : am_le (am_pk lo ks) lo := by
  have hn : ((am_pk lo ks).map (fun q => q.1)).Nodup := by
    induction ks with
    | nil => exact List.nodup_nil
    | cons i ks ih =>
      rw [List.nodup_cons] at hk
      unfold am_pk
      rw [List.filterMap_cons]
      cases h : am_ld lo i with
      | none => exact ih hk.2
      | some v =>
        show ((i, v) :: am_pk lo ks).map (fun q => q.1) |>.Nodup
        rw [List.map_cons, List.nodup_cons]
        refine ⟨fun hm => ?_, ih hk.2⟩
        obtain ⟨q, hq, e⟩ := List.mem_map.mp hm
        obtain ⟨a, ha, e2⟩ := List.mem_filterMap.mp hq
        rw [Option.map_eq_some_iff] at e2
        obtain ⟨u, -, e3⟩ := e2
        rw [← e3] at e
        simp only at e
        exact hk.1 (by rw [← e]; exact ha)
  refine ⟨hn, fun i v h => ?_⟩
  obtain ⟨a, ha, e2⟩ := List.mem_filterMap.mp (am_ld_mem h)
  rw [Option.map_eq_some_iff] at e2
  obtain ⟨u, e4, e3⟩ := e2
  cases e3
  exact e4
theorem ev_pk {w : ev_W} {d j pc : Nat} {lo lo' : am_L} {st : List Value} {h : List am_C} {r : am_E} (ks : List Nat) (hk : ks.Nodup) (hl : am_pk lo ks = lo') (k : ev w d j pc lo' st h r) : ev w d j pc lo st h r := by
  obtain ⟨n, hn⟩ := k
  exact ⟨n, am_run_le n d j pc lo' lo st h r (by rw [← hl]; exact am_pk_le hk) hn⟩
