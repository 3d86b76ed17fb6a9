/-! the machine over code that is written out: cc gives the linked instruction, cm the method's locals and type -/
/-- a run to an end, at some depth, in however many steps; w: the formatter, the script's length, the script -/
abbrev ev_W : Type := Value × Nat × (Nat → Int32)
def ev (w : ev_W) (d j pc : Nat) (lo : am_L) (st : List Value) (h : List am_C) (r : am_E) : Prop := ∃ n, aw_run w.1 w.2.1 w.2.2 n d j pc lo st h = some r
theorem ev_mono {w : ev_W} {d d' j pc : Nat} {lo : am_L} {st : List Value} {h : List am_C} {r : am_E} (hd : d ≤ d') (k : ev w d j pc lo st h r) : ev w d' j pc lo st h r := by
  obtain ⟨n, hn⟩ := k
  exact ⟨n, am_mono n n d d' j pc lo st h r (Nat.le_refl n) hd hn⟩
theorem ev_one {w : ev_W} {d j pc pc' : Nat} {lo lo' : am_L} {st st' : List Value} {h h' : List am_C} {r r' : am_E} {dc ds nL : Nat} {y : MethodName} {bytes : ByteArray} {ret : Option FieldType} {x : am_I} (hm : tb_mt j = some (y, bytes, nL, ret)) (hc : tb_co j pc = some x)
    (h1 : am_one tb_nK (tb_KT w.2.1 w.2.2) tb_KF (tb_SZ w.1) tb_SR tb_df tb_ft d nL ret x pc lo st h = some (.inl (pc', lo', st', h', dc, ds))) (hr : am_plus dc ds r' = r) (k : ev w d j pc' lo' st' h' r') : ev w d j pc lo st h r := by
  obtain ⟨n, hn⟩ := k
  refine ⟨n + 1, ?_⟩
  unfold aw_run at hn ⊢
  rw [am_run, hm]
  simp only
  rw [hc]
  simp only
  rw [h1]
  simp only
  rw [hn, ← hr]
  rfl
theorem ev_end {w : ev_W} {d j pc : Nat} {lo : am_L} {st : List Value} {h : List am_C} {nL : Nat} {y : MethodName} {bytes : ByteArray} {ret : Option FieldType} {x : am_I} {v : Option Value} (hm : tb_mt j = some (y, bytes, nL, ret)) (hc : tb_co j pc = some x)
    (h1 : am_one tb_nK (tb_KT w.2.1 w.2.2) tb_KF (tb_SZ w.1) tb_SR tb_df tb_ft d nL ret x pc lo st h = some (.inr v)) : ev w d j pc lo st h (v, h, 0, 0) := by
  refine ⟨1, ?_⟩
  unfold aw_run
  rw [am_run, hm]
  simp only
  rw [hc]
  simp only
  rw [h1]
theorem ev_call {w : ev_W} {d j pc j' : Nat} {lo : am_L} {st as rest : List Value} {h h' : List am_C} {r r' : am_E} {mc ms nL nL' : Nat} {y y' : MethodName} {bytes bytes' : ByteArray} {ret ret' : Option FieldType} {x : am_I} {v : Option Value} (hm : tb_mt j = some (y, bytes, nL, ret)) (hc : tb_co j pc = some x)
    (hi : am_iv tb_nK tb_KO h x st = some (j', as, rest)) (hm' : tb_mt j' = some (y', bytes', nL', ret')) (hl : (lg_sl as).length ≤ nL') (hr : am_plus mc ms r' = r) (k1 : ev w d j' 0 (lv_args 0 as) [] h (v, h', mc, ms)) (k2 : ev w (d + 1) j (pc + 3) lo (v.toList ++ rest) h' r') : ev w (d + 1) j pc lo st h r := by
  obtain ⟨n1, hn1⟩ := k1
  obtain ⟨n2, hn2⟩ := k2
  refine ⟨max n1 n2 + 1, ?_⟩
  unfold aw_run at hn1 hn2 ⊢
  have e1 := am_mono _ (max n1 n2) _ _ _ _ _ _ _ _ (Nat.le_max_left n1 n2) (Nat.le_refl _) hn1
  have e2 := am_mono _ (max n1 n2) _ _ _ _ _ _ _ _ (Nat.le_max_right n1 n2) (Nat.le_refl _) hn2
  rw [am_run, hm]
  simp only
  rw [hc]
  simp only
  rw [am_iv_none hi]
  simp only
  rw [hi]
  simp only
  rw [hm']
  simp only
  rw [if_pos hl, e1]
  simp only
  rw [e2, ← hr]
  rfl
/-- what is left, in these words -/
theorem am_Claim_of (H : ∀ (v : Value) (L : Nat) (xs : Nat → Int32), (v = .null ∨ v = .ref 65) → L ≤ 3072 → ∃ (d : Nat) (h' : List am_C) (mc ms : Nat), ev (v, L, xs) d tb_law 0 [(0, .ref 0)] [] [] (some (.int 1), h', mc, ms) ∧ mc ≤ 600000 ∧ ms ≤ 7302250 ∧ d ≤ 1312) : am_Claim := by
  intro v L xs hv hL
  obtain ⟨d, h', mc, ms, ⟨n, hn⟩, h1, h2, h3⟩ := H v L xs hv hL
  exact ⟨n, d, h', mc, ms, hn, h1, h2, h3⟩
