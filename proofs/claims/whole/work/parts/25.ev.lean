/-! THE PURE MACHINE'S RUNS, WITHOUT COUNTING STEPS -/
section EV0
variable {nK : Nat} {KT : List (FieldType × Nat × (Nat → Int32))} {KF : List (List Value)} {KO : List String} {SZ : List (String × String × String × Value)} {SR : List (String × Nat × String × Nat)} {df : Nat → List Value} {ft : Nat → Nat → FieldType} {mt : am_T} {co : am_P}
theorem am_oi_mono {d d' : Nat} (hd : d ≤ d') {x : am_I} {st st' : List Value} (h : am_oi d x st = some st') : am_oi d' x st = some st' := by
  unfold am_oi at h ⊢
  split at h
  · split at h
    · cases h
    · rename_i hc
      rw [if_neg (fun q => hc (by rcases q with q | q; · exact Or.inl (by omega)
                                  · exact Or.inr q))]
      exact h
  · cases h
theorem am_cp_mono {d d' : Nat} (hd : d ≤ d') {x : am_I} {st : List Value} {h0 : List am_C} {r : List Value × List am_C} (h : am_cp nK KT d x st h0 = some r) : am_cp nK KT d' x st h0 = some r := by
  unfold am_cp at h ⊢
  split at h
  · split at h
    · cases h
    · rename_i hc
      rw [if_neg (fun q => hc (by rcases q with q | q | q
                                  · exact Or.inl q
                                  · exact Or.inr (Or.inl (by omega))
                                  · exact Or.inr (Or.inr q)))]
      exact h
  · cases h
/-- of a Object's constructor or an arraycopy nothing is said by the other words: more depth changes no step -/
theorem am_one_mono {d d' nL : Nat} (hd : d ≤ d') {ret : Option FieldType} {x : am_I} {pc : Nat} {lo : am_L} {st : List Value} {h : List am_C} {o : (Nat × am_L × List Value × List am_C × Nat × Nat) ⊕ Option Value} (h1 : am_one nK KT KF SZ SR df ft d nL ret x pc lo st h = some o) : am_one nK KT KF SZ SR df ft d' nL ret x pc lo st h = some o := by
  unfold am_one at h1 ⊢
  split at h1
  · exact h1
  · split at h1
    · exact h1
    · split at h1
      · exact h1
      · split at h1
        · exact h1
        · split at h1
          · exact h1
          · split at h1
            · exact h1
            · split at h1
              · exact h1
              · split at h1
                · rename_i st2 h2
                  rw [am_oi_mono hd h2]
                  exact h1
                · split at h1
                  · rename_i h3 st2 h4 h2
                    have e1 := am_cp_mono hd h2
                    cases e2 : am_oi d' x st with
                    | none => simp only [e1]; exact h1
                    | some s2 =>
                      exfalso
                      unfold am_oi at e2
                      unfold am_cp at h2
                      split at e2
                      · simp at h2
                      · cases e2
                  · cases h1
/-- an instruction that is a step is no call, at any depth -/
theorem am_iv_none {d nL : Nat} {ret : Option FieldType} {x : am_I} {pc : Nat} {lo : am_L} {st : List Value} {h : List am_C} {r : Nat × List Value × List Value} (h1 : am_iv nK KO h x st = some r) : am_one nK KT KF SZ SR df ft d nL ret x pc lo st h = none := by
  unfold am_iv at h1
  split at h1
  · rename_i st0 ix j n r0
    split at h1
    · cases h1
    · rename_i hc
      have hr : r0 ≠ 9 := fun q => hc (Or.inl q)
      unfold am_one
      simp only [am_op, am_mv, am_br, am_sw, am_hp, am_kc, am_oi]
      cases ret <;> simp [am_rt, am_cp, hr]
  · rename_i st0 ix j n ci
    unfold am_one
    simp only [am_op, am_mv, am_br, am_sw, am_hp, am_kc, am_oi, am_cp]
    cases ret <;> simp [am_rt]
  · rename_i st0 ix j n r0
    split at h1
    · split at h1
      · cases h1
      · rename_i hc
        have hr : r0 ≠ 9 := fun q => hc (Or.inl q)
        unfold am_one
        simp only [am_op, am_mv, am_br, am_sw, am_hp, am_kc, am_cp]
        cases ret <;> simp [am_rt, am_oi, hr]
    · cases h1
  · cases h1
theorem am_mono : ∀ (n n' d d' : Nat) (j pc : Nat) (lo : am_L) (st : List Value) (h : List am_C) (r : am_E), n ≤ n' → d ≤ d' → am_run nK KT KF KO SZ SR df ft mt co n d j pc lo st h = some r → am_run nK KT KF KO SZ SR df ft mt co n' d' j pc lo st h = some r
  | 0, _, _, _, _, _, _, _, _, _, _, _, hr => by rw [am_run] at hr; cases hr
  | n + 1, 0, _, _, _, _, _, _, _, _, hn, _, _ => absurd hn (by omega)
  | n + 1, n' + 1, d, d', j, pc, lo, st, h, r, hn, hd, hr => by
    have hn : n ≤ n' := by omega
    rw [am_run] at hr ⊢
    cases hm : mt j with
    | none => rw [hm] at hr; cases hr
    | some z =>
      obtain ⟨y, bytes, nL, ret⟩ := z
      rw [hm] at hr
      simp only at hr ⊢
      cases hc : co j pc with
      | none => rw [hc] at hr; cases hr
      | some x =>
        rw [hc] at hr
        simp only at hr ⊢
        cases h1 : am_one nK KT KF SZ SR df ft d nL ret x pc lo st h with
        | some o =>
          rw [h1] at hr
          rw [am_one_mono hd h1]
          cases o with
          | inl q =>
            simp only at hr ⊢
            obtain ⟨r1, hr1, rfl⟩ := Option.map_eq_some_iff.mp hr
            rw [am_mono n n' d d' _ _ _ _ _ r1 hn hd hr1]
            rfl
          | inr v => exact hr
        | none =>
          rw [h1] at hr
          simp only at hr
          cases h2 : am_iv nK KO h x st with
          | none => rw [h2] at hr; cases hr
          | some q =>
            obtain ⟨j', as, rest⟩ := q
            rw [am_iv_none h2]
            rw [h2] at hr
            simp only at hr ⊢
            cases d with
            | zero => cases hr
            | succ d0 =>
              obtain ⟨d1, rfl⟩ : ∃ d1, d' = d1 + 1 := ⟨d' - 1, by omega⟩
              simp only at hr ⊢
              cases hm' : mt j' with
              | none => rw [hm'] at hr; cases hr
              | some z' =>
                obtain ⟨y', bytes', nL', ret'⟩ := z'
                rw [hm'] at hr
                simp only at hr ⊢
                split at hr
                · rename_i hlen
                  rw [if_pos hlen]
                  cases h3 : am_run nK KT KF KO SZ SR df ft mt co n d0 j' 0 (lv_args 0 as) [] h with
                  | none => rw [h3] at hr; cases hr
                  | some r3 =>
                    obtain ⟨v, h', mc, ms⟩ := r3
                    rw [h3] at hr
                    rw [am_mono n n' d0 d1 _ _ _ _ _ _ hn (by omega) h3]
                    simp only at hr ⊢
                    obtain ⟨r1, hr1, rfl⟩ := Option.map_eq_some_iff.mp hr
                    rw [am_mono n n' (d0 + 1) (d1 + 1) _ _ _ _ _ r1 hn (by omega) hr1]
                    rfl
                · cases hr
end EV0
