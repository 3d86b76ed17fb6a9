/-! one instruction at a time, goal first -/
def ev_M (j nL : Nat) (ret : Option FieldType) : Prop := ∃ y bytes, tb_mt j = some (y, bytes, nL, ret)
section EV1
variable {w : ev_W} {d j pc nL : Nat} {ret : Option FieldType} {lo lo' : am_L} {st st' : List Value} {h h' : List am_C} {r : am_E}
theorem am_plus0 (r : am_E) : am_plus 0 0 r = r := by
  obtain ⟨a, b, c, e⟩ := r
  simp [am_plus]
theorem ev_op (hm : ev_M j nL ret) {x : am_I} (hc : tb_co j pc = some x) (h1 : am_op x.1 st = some st') (k : ev w d j (pc + am_len x.1) lo st' h r) : ev w d j pc lo st h r := by
  obtain ⟨y, bytes, hm⟩ := hm
  refine ev_one hm hc ?_ (am_plus0 r) k
  unfold am_one
  rw [h1]
theorem am_op_mv {i : Instr} {nL : Nat} {lo : am_L} {st : List Value} {q : am_L × List Value} (h : am_mv nL i lo st = some q) : am_op i st = none := by
  unfold am_mv at h
  split at h <;> first | rfl | cases h
theorem ev_mv (hm : ev_M j nL ret) {x : am_I} (hc : tb_co j pc = some x) (h1 : am_mv nL x.1 lo st = some (lo', st')) (k : ev w d j (pc + am_len x.1) lo' st' h r) : ev w d j pc lo st h r := by
  obtain ⟨y, bytes, hm⟩ := hm
  refine ev_one hm hc ?_ (am_plus0 r) k
  unfold am_one
  rw [am_op_mv h1, h1]
theorem am_op_br {i : Instr} {st : List Value} {q : Bool × Int × List Value} (h : am_br i st = some q) : am_op i st = none ∧ ∀ nL lo, am_mv nL i lo st = none := by
  unfold am_br at h
  split at h <;> first | exact ⟨rfl, fun _ _ => rfl⟩ | cases h
theorem ev_br (hm : ev_M j nL ret) {x : am_I} (hc : tb_co j pc = some x) {P : Prop} [Decidable P] {off : Int} {tgt : Nat} (h1 : am_br x.1 st = some (decide P, off, st')) (ht : (pc : Int) + off = (tgt : Int)) (k1 : P → ev w d j tgt lo st' h r) (k2 : ¬ P → ev w d j (pc + am_len x.1) lo st' h r) : ev w d j pc lo st h r := by
  obtain ⟨y, bytes, hm⟩ := hm
  obtain ⟨e1, e2⟩ := am_op_br h1
  have e3 : ∀ (nL : Nat) (t : Bool), decide P = t → am_one tb_nK (tb_KT w.2.1 w.2.2) tb_KF (tb_SZ w.1) tb_SR tb_df tb_ft d nL ret x pc lo st h = some (.inl (if t then tgt else pc + am_len x.1, lo, st', h, 0, 0)) := by
    intro nL t e
    unfold am_one
    rw [e1, e2 nL lo]
    simp only
    rw [h1]
    simp only
    rw [ht, if_pos (Int.natCast_nonneg tgt), e, Int.toNat_natCast]
  by_cases hp : P
  · exact ev_one hm hc (e3 nL true (decide_eq_true hp)) (am_plus0 r) (k1 hp)
  · exact ev_one hm hc (e3 nL false (decide_eq_false hp)) (am_plus0 r) (k2 hp)
theorem ev_jump (hm : ev_M j nL ret) {x : am_I} (hc : tb_co j pc = some x) {off : Int} {tgt : Nat} (h1 : am_br x.1 st = some (true, off, st')) (ht : (pc : Int) + off = (tgt : Int)) (k : ev w d j tgt lo st' h r) : ev w d j pc lo st h r :=
  ev_br hm hc (P := True) (by rw [h1]; rfl) ht (fun _ => k) (fun q => absurd trivial q)
theorem am_op_sw {i : Instr} {st : List Value} {q : Int × List Value} (h : am_sw i st = some q) : am_op i st = none ∧ (∀ nL lo, am_mv nL i lo st = none) ∧ am_br i st = none := by
  unfold am_sw at h
  split at h <;> first | exact ⟨rfl, fun _ _ => rfl, rfl⟩ | cases h
theorem ev_sw (hm : ev_M j nL ret) {x : am_I} (hc : tb_co j pc = some x) {off : Int} {tgt : Nat} (h1 : am_sw x.1 st = some (off, st')) (ht : (pc : Int) + off = (tgt : Int)) (k : ev w d j tgt lo st' h r) : ev w d j pc lo st h r := by
  obtain ⟨y, bytes, hm⟩ := hm
  obtain ⟨e1, e2, e3⟩ := am_op_sw h1
  refine ev_one hm hc ?_ (am_plus0 r) k
  unfold am_one
  rw [e1, e2 nL lo, e3]
  simp only
  rw [h1]
  simp only
  rw [ht, if_pos (Int.natCast_nonneg tgt), Int.toNat_natCast]
theorem am_op_hp {K : List am_C} {nK : Nat} {df : Nat → List Value} {ft : Nat → Nat → FieldType} {x : am_I} {st : List Value} {h : List am_C} {q : List Value × List am_C × Nat × Nat} (h1 : am_hp K nK df ft x st h = some q) : am_op x.1 st = none ∧ (∀ nL lo, am_mv nL x.1 lo st = none) ∧ am_br x.1 st = none ∧ am_sw x.1 st = none := by
  unfold am_hp at h1
  split at h1 <;> first | exact ⟨rfl, fun _ _ => rfl, rfl, rfl⟩ | cases h1
theorem ev_hp (hm : ev_M j nL ret) {x : am_I} (hc : tb_co j pc = some x) {dc ds : Nat} {r' : am_E} (h1 : am_hp [] tb_nK tb_df tb_ft x st h = some (st', h', dc, ds)) (hr : am_plus dc ds r' = r) (k : ev w d j (pc + am_len x.1) lo st' h' r') : ev w d j pc lo st h r := by
  obtain ⟨y, bytes, hm⟩ := hm
  obtain ⟨e1, e2, e3, e4⟩ := am_op_hp h1
  refine ev_one hm hc ?_ hr k
  unfold am_one
  rw [e1, e2 nL lo, e3, e4]
  simp only
  rw [h1]
theorem am_op_rt {ret : Option FieldType} {i : Instr} {st : List Value} {v : Option Value} (h1 : am_rt ret i st = some v) : am_op i st = none ∧ (∀ nL lo, am_mv nL i lo st = none) ∧ am_br i st = none ∧ am_sw i st = none ∧ (∀ K nK df ft r1 r2 r3 h, am_hp K nK df ft (i, r1, r2, r3) st h = none) ∧ (∀ nK KT KF SZ SR r1 r2 r3, am_kc nK KT KF SZ SR (i, r1, r2, r3) st = none) := by
  unfold am_rt at h1
  split at h1 <;> first | exact ⟨rfl, fun _ _ => rfl, rfl, rfl, fun _ _ _ _ _ _ _ _ => rfl, fun _ _ _ _ _ _ _ _ => rfl⟩ | cases h1
theorem ev_rt (hm : ev_M j nL ret) {x : am_I} (hc : tb_co j pc = some x) {v : Option Value} (h1 : am_rt ret x.1 st = some v) : ev w d j pc lo st h (v, h, 0, 0) := by
  obtain ⟨y, bytes, hm⟩ := hm
  refine ev_end hm hc ?_
  obtain ⟨i, r1, r2, r3⟩ := x
  obtain ⟨e1, e2, e3, e4, e5, e6⟩ := am_op_rt h1
  simp only at h1
  unfold am_one
  simp only
  rw [e1, e2 nL lo, e3, e4, e5, e6]
  simp only
  rw [h1]
theorem am_op_kc {nK : Nat} {KT : List (FieldType × Nat × (Nat → Int32))} {KF : List (List Value)} {SZ : List (String × String × String × Value)} {SR : List (String × Nat × String × Nat)} {x : am_I} {st st' : List Value} (h1 : am_kc nK KT KF SZ SR x st = some st') : am_op x.1 st = none ∧ (∀ nL lo, am_mv nL x.1 lo st = none) ∧ am_br x.1 st = none ∧ am_sw x.1 st = none := by
  unfold am_kc at h1
  split at h1 <;> first | exact ⟨rfl, fun _ _ => rfl, rfl, rfl⟩ | cases h1
theorem ev_kc (hm : ev_M j nL ret) {x : am_I} (hc : tb_co j pc = some x) (h1 : am_kc tb_nK (tb_KT w.2.1 w.2.2) tb_KF (tb_SZ w.1) tb_SR x st = some st') (h2 : am_hp [] tb_nK tb_df tb_ft x st h = none) (k : ev w d j (pc + am_len x.1) lo st' h r) : ev w d j pc lo st h r := by
  obtain ⟨y, bytes, hm⟩ := hm
  obtain ⟨e1, e2, e3, e4⟩ := am_op_kc h1
  refine ev_one hm hc ?_ (am_plus0 r) k
  unfold am_one
  rw [e1, e2 nL lo, e3, e4]
  simp only
  rw [h2]
  simp only
  rw [h1]
theorem ev_iv (hm : ev_M j nL ret) {x : am_I} (hc : tb_co j pc = some x) {j' nL' : Nat} {ret' : Option FieldType} {as rest : List Value} {v : Option Value} {mc ms : Nat} {r' : am_E} (hi : am_iv tb_nK tb_KO h x st = some (j', as, rest)) (hm' : ev_M j' nL' ret') (hl : (lg_sl as).length ≤ nL') (hr : am_plus mc ms r' = r) (k1 : ev w d j' 0 (lv_args 0 as) [] h (v, h', mc, ms)) (k2 : ev w (d + 1) j (pc + 3) lo (v.toList ++ rest) h' r') : ev w (d + 1) j pc lo st h r := by
  obtain ⟨y, bytes, hm⟩ := hm
  obtain ⟨y', bytes', hm'⟩ := hm'
  exact ev_call hm hc hi hm' hl hr k1 k2
end EV1
