/-! Ew: calls by how many values they take, jumps that are known, arraycopy -/
section EY
variable {H : iS → List am_C} {w : ev_W} {d j pc nL : Nat} {ret : Option FieldType} {lo lo' : am_L} {st st' : List Value} {s : iS} {α : Type} {C : α → am_E → Prop} {o : Option α} {c k : Nat} {x y i : Int}
theorem e_ivi (pc' : Nat) (hm : ev_M j nL ret) {z : am_I} (hc : tb_co j pc = some z) {j' nL' : Nat} {ret' : Option FieldType} {as rest : List Value} {f : Option (Int × iS)} {g : Int → iS → Option α} (hd : 0 < d) (hi : am_iv tb_nK tb_KO (H s) z st = some (j', as, rest)) (hm' : ev_M j' nL' ret') (hl : (lg_sl as).length ≤ nL') (hn : pc + 3 = pc') (k1 : Ew H w (d - 1) j' 0 (lv_args 0 as) [] s (Ci H) f) (k2 : ∀ v s', Ew H w d j pc' lo (iv v :: rest) s' C (g v s')) : Ew H w d j pc lo st s C (bd f g) := e_iv (mk := mki) (D := (Ci H)) (fun _ _ => rfl) pc' hm hc hd hi hm' hl hn k1 k2
theorem e_ivl (pc' : Nat) (hm : ev_M j nL ret) {z : am_I} (hc : tb_co j pc = some z) {j' nL' : Nat} {ret' : Option FieldType} {as rest : List Value} {f : Option (Int × iS)} {g : Int → iS → Option α} (hd : 0 < d) (hi : am_iv tb_nK tb_KO (H s) z st = some (j', as, rest)) (hm' : ev_M j' nL' ret') (hl : (lg_sl as).length ≤ nL') (hn : pc + 3 = pc') (k1 : Ew H w (d - 1) j' 0 (lv_args 0 as) [] s (Cl H) f) (k2 : ∀ v s', Ew H w d j pc' lo (lv v :: rest) s' C (g v s')) : Ew H w d j pc lo st s C (bd f g) := e_iv (mk := mkl) (D := (Cl H)) (fun _ _ => rfl) pc' hm hc hd hi hm' hl hn k1 k2
theorem e_ivv (pc' : Nat) (hm : ev_M j nL ret) {z : am_I} (hc : tb_co j pc = some z) {j' nL' : Nat} {ret' : Option FieldType} {as rest : List Value} {f : Option (Int × iS)} {g : Int → iS → Option α} (hd : 0 < d) (hi : am_iv tb_nK tb_KO (H s) z st = some (j', as, rest)) (hm' : ev_M j' nL' ret') (hl : (lg_sl as).length ≤ nL') (hn : pc + 3 = pc') (k1 : Ew H w (d - 1) j' 0 (lv_args 0 as) [] s (Cv H) f) (k2 : ∀ v s', Ew H w d j pc' lo (rest) s' C (g v s')) : Ew H w d j pc lo st s C (bd f g) := e_iv (mk := mkv) (D := (Cv H)) (fun _ _ => rfl) pc' hm hc hd hi hm' hl hn k1 k2
theorem iv_s0 {ix j' : Nat} {h : List am_C} {rest : List Value} (h8 : Nat.ble (am_cat rest) 8 = true) : am_iv tb_nK tb_KO h (.invokestatic ix, j', 0, 0) (rest) = some (j', [], rest) := iv_s (as := []) rfl (Nat.le_of_ble_eq_true h8)
theorem iv_v0 {ix j' ci q : Nat} {fs : List (Option Nat)} {rest : List Value} (h9 : ci ≠ 99) (ht : Ho H q ci fs) (h8 : Nat.ble (am_cat rest) 8 = true) : am_iv tb_nK tb_KO (H s) (.invokevirtual ix, j', 0, ci) (.ref (tb_nK + q) :: rest) = some (j', .ref (tb_nK + q) :: [], rest) := iv_v (as := []) h9 ht rfl (Nat.le_of_ble_eq_true h8)
theorem iv_k0 {ix j' q : Nat} {h : List am_C} {rest : List Value} (ha : q < tb_nK) (ht : tb_KO[q]? = some "java/lang/String") (h8 : Nat.ble (am_cat rest) 8 = true) : am_iv tb_nK tb_KO h (.invokevirtual ix, j', 0, 99) (.ref q :: rest) = some (j', .ref q :: [], rest) := iv_k (as := []) ha ht rfl (Nat.le_of_ble_eq_true h8)
theorem iv_s1 {ix j' : Nat} {h : List am_C} {a : Value} {rest : List Value} (h8 : Nat.ble (am_cat rest) 8 = true) : am_iv tb_nK tb_KO h (.invokestatic ix, j', 1, 0) (a :: rest) = some (j', [a], rest) := iv_s (as := [a]) rfl (Nat.le_of_ble_eq_true h8)
theorem iv_v1 {ix j' ci q : Nat} {fs : List (Option Nat)} {a : Value} {rest : List Value} (h9 : ci ≠ 99) (ht : Ho H q ci fs) (h8 : Nat.ble (am_cat rest) 8 = true) : am_iv tb_nK tb_KO (H s) (.invokevirtual ix, j', 1, ci) (a :: .ref (tb_nK + q) :: rest) = some (j', .ref (tb_nK + q) :: [a], rest) := iv_v (as := [a]) h9 ht rfl (Nat.le_of_ble_eq_true h8)
theorem iv_k1 {ix j' q : Nat} {h : List am_C} {a : Value} {rest : List Value} (ha : q < tb_nK) (ht : tb_KO[q]? = some "java/lang/String") (h8 : Nat.ble (am_cat rest) 8 = true) : am_iv tb_nK tb_KO h (.invokevirtual ix, j', 1, 99) (a :: .ref q :: rest) = some (j', .ref q :: [a], rest) := iv_k (as := [a]) ha ht rfl (Nat.le_of_ble_eq_true h8)
theorem iv_s2 {ix j' : Nat} {h : List am_C} {a b : Value} {rest : List Value} (h8 : Nat.ble (am_cat rest) 8 = true) : am_iv tb_nK tb_KO h (.invokestatic ix, j', 2, 0) (b :: a :: rest) = some (j', [a, b], rest) := iv_s (as := [a, b]) rfl (Nat.le_of_ble_eq_true h8)
theorem iv_v2 {ix j' ci q : Nat} {fs : List (Option Nat)} {a b : Value} {rest : List Value} (h9 : ci ≠ 99) (ht : Ho H q ci fs) (h8 : Nat.ble (am_cat rest) 8 = true) : am_iv tb_nK tb_KO (H s) (.invokevirtual ix, j', 2, ci) (b :: a :: .ref (tb_nK + q) :: rest) = some (j', .ref (tb_nK + q) :: [a, b], rest) := iv_v (as := [a, b]) h9 ht rfl (Nat.le_of_ble_eq_true h8)
theorem iv_k2 {ix j' q : Nat} {h : List am_C} {a b : Value} {rest : List Value} (ha : q < tb_nK) (ht : tb_KO[q]? = some "java/lang/String") (h8 : Nat.ble (am_cat rest) 8 = true) : am_iv tb_nK tb_KO h (.invokevirtual ix, j', 2, 99) (b :: a :: .ref q :: rest) = some (j', .ref q :: [a, b], rest) := iv_k (as := [a, b]) ha ht rfl (Nat.le_of_ble_eq_true h8)
theorem iv_s3 {ix j' : Nat} {h : List am_C} {a b c : Value} {rest : List Value} (h8 : Nat.ble (am_cat rest) 8 = true) : am_iv tb_nK tb_KO h (.invokestatic ix, j', 3, 0) (c :: b :: a :: rest) = some (j', [a, b, c], rest) := iv_s (as := [a, b, c]) rfl (Nat.le_of_ble_eq_true h8)
theorem iv_v3 {ix j' ci q : Nat} {fs : List (Option Nat)} {a b c : Value} {rest : List Value} (h9 : ci ≠ 99) (ht : Ho H q ci fs) (h8 : Nat.ble (am_cat rest) 8 = true) : am_iv tb_nK tb_KO (H s) (.invokevirtual ix, j', 3, ci) (c :: b :: a :: .ref (tb_nK + q) :: rest) = some (j', .ref (tb_nK + q) :: [a, b, c], rest) := iv_v (as := [a, b, c]) h9 ht rfl (Nat.le_of_ble_eq_true h8)
theorem iv_k3 {ix j' q : Nat} {h : List am_C} {a b c : Value} {rest : List Value} (ha : q < tb_nK) (ht : tb_KO[q]? = some "java/lang/String") (h8 : Nat.ble (am_cat rest) 8 = true) : am_iv tb_nK tb_KO h (.invokevirtual ix, j', 3, 99) (c :: b :: a :: .ref q :: rest) = some (j', .ref q :: [a, b, c], rest) := iv_k (as := [a, b, c]) ha ht rfl (Nat.le_of_ble_eq_true h8)
theorem iv_s4 {ix j' : Nat} {h : List am_C} {a b c e : Value} {rest : List Value} (h8 : Nat.ble (am_cat rest) 8 = true) : am_iv tb_nK tb_KO h (.invokestatic ix, j', 4, 0) (e :: c :: b :: a :: rest) = some (j', [a, b, c, e], rest) := iv_s (as := [a, b, c, e]) rfl (Nat.le_of_ble_eq_true h8)
theorem iv_v4 {ix j' ci q : Nat} {fs : List (Option Nat)} {a b c e : Value} {rest : List Value} (h9 : ci ≠ 99) (ht : Ho H q ci fs) (h8 : Nat.ble (am_cat rest) 8 = true) : am_iv tb_nK tb_KO (H s) (.invokevirtual ix, j', 4, ci) (e :: c :: b :: a :: .ref (tb_nK + q) :: rest) = some (j', .ref (tb_nK + q) :: [a, b, c, e], rest) := iv_v (as := [a, b, c, e]) h9 ht rfl (Nat.le_of_ble_eq_true h8)
theorem iv_k4 {ix j' q : Nat} {h : List am_C} {a b c e : Value} {rest : List Value} (ha : q < tb_nK) (ht : tb_KO[q]? = some "java/lang/String") (h8 : Nat.ble (am_cat rest) 8 = true) : am_iv tb_nK tb_KO h (.invokevirtual ix, j', 4, 99) (e :: c :: b :: a :: .ref q :: rest) = some (j', .ref q :: [a, b, c, e], rest) := iv_k (as := [a, b, c, e]) ha ht rfl (Nat.le_of_ble_eq_true h8)
theorem iv_s5 {ix j' : Nat} {h : List am_C} {a b c e f : Value} {rest : List Value} (h8 : Nat.ble (am_cat rest) 8 = true) : am_iv tb_nK tb_KO h (.invokestatic ix, j', 5, 0) (f :: e :: c :: b :: a :: rest) = some (j', [a, b, c, e, f], rest) := iv_s (as := [a, b, c, e, f]) rfl (Nat.le_of_ble_eq_true h8)
theorem iv_v5 {ix j' ci q : Nat} {fs : List (Option Nat)} {a b c e f : Value} {rest : List Value} (h9 : ci ≠ 99) (ht : Ho H q ci fs) (h8 : Nat.ble (am_cat rest) 8 = true) : am_iv tb_nK tb_KO (H s) (.invokevirtual ix, j', 5, ci) (f :: e :: c :: b :: a :: .ref (tb_nK + q) :: rest) = some (j', .ref (tb_nK + q) :: [a, b, c, e, f], rest) := iv_v (as := [a, b, c, e, f]) h9 ht rfl (Nat.le_of_ble_eq_true h8)
theorem iv_k5 {ix j' q : Nat} {h : List am_C} {a b c e f : Value} {rest : List Value} (ha : q < tb_nK) (ht : tb_KO[q]? = some "java/lang/String") (h8 : Nat.ble (am_cat rest) 8 = true) : am_iv tb_nK tb_KO h (.invokevirtual ix, j', 5, 99) (f :: e :: c :: b :: a :: .ref q :: rest) = some (j', .ref q :: [a, b, c, e, f], rest) := iv_k (as := [a, b, c, e, f]) ha ht rfl (Nat.le_of_ble_eq_true h8)
theorem iv_s6 {ix j' : Nat} {h : List am_C} {a b c e f g : Value} {rest : List Value} (h8 : Nat.ble (am_cat rest) 8 = true) : am_iv tb_nK tb_KO h (.invokestatic ix, j', 6, 0) (g :: f :: e :: c :: b :: a :: rest) = some (j', [a, b, c, e, f, g], rest) := iv_s (as := [a, b, c, e, f, g]) rfl (Nat.le_of_ble_eq_true h8)
theorem iv_v6 {ix j' ci q : Nat} {fs : List (Option Nat)} {a b c e f g : Value} {rest : List Value} (h9 : ci ≠ 99) (ht : Ho H q ci fs) (h8 : Nat.ble (am_cat rest) 8 = true) : am_iv tb_nK tb_KO (H s) (.invokevirtual ix, j', 6, ci) (g :: f :: e :: c :: b :: a :: .ref (tb_nK + q) :: rest) = some (j', .ref (tb_nK + q) :: [a, b, c, e, f, g], rest) := iv_v (as := [a, b, c, e, f, g]) h9 ht rfl (Nat.le_of_ble_eq_true h8)
theorem iv_k6 {ix j' q : Nat} {h : List am_C} {a b c e f g : Value} {rest : List Value} (ha : q < tb_nK) (ht : tb_KO[q]? = some "java/lang/String") (h8 : Nat.ble (am_cat rest) 8 = true) : am_iv tb_nK tb_KO h (.invokevirtual ix, j', 6, 99) (g :: f :: e :: c :: b :: a :: .ref q :: rest) = some (j', .ref q :: [a, b, c, e, f, g], rest) := iv_k (as := [a, b, c, e, f, g]) ha ht rfl (Nat.le_of_ble_eq_true h8)
theorem e_jT (hm : ev_M j nL ret) (tgt : Nat) {z : am_I} (hc : tb_co j pc = some z) {off : Int} (h1 : am_br z.1 st = some (true, off, st')) (ht : (pc : Int) + off = (tgt : Int)) (k : Ew H w d j tgt lo st' s C o) : Ew H w d j pc lo st s C o :=
  fun q r h2 h3 => ev_jump hm hc h1 ht (k q r h2 h3)
theorem e_jF (pc' : Nat) (hm : ev_M j nL ret) {z : am_I} (hc : tb_co j pc = some z) {off : Int} (h1 : am_br z.1 st = some (false, off, st')) (h0 : decide (0 ≤ (pc : Int) + off) = true) (hn : pc + am_len z.1 = pc') (k : Ew H w d j pc' lo st' s C o) : Ew H w d j pc lo st s C o := by
  subst hn
  intro q r h2 h3
  have h4 := of_decide_eq_true h0
  obtain ⟨t, ht⟩ : ∃ t : Nat, (pc : Int) + off = (t : Int) := ⟨((pc : Int) + off).toNat, by omega⟩
  exact ev_br hm hc (P := False) (by rw [h1]; rfl) ht (fun h => h.elim) (fun _ => k q r h2 h3)
/-- part of a row is copied into another -/
def cpy (s : iS) (c0 c1 sp dp n : Nat) : iS := fun c' k' => if c' = c1 ∧ dp ≤ k' ∧ k' < dp + n then s c0 (sp + (k' - dp)) else s c' k'
theorem cpy_sr {s : iS} {c0 c1 sp dp n : Nat} : cpy s c0 c1 sp dp n = sr s c1 (fun k' => if dp ≤ k' ∧ k' < dp + n then s c0 (sp + (k' - dp)) else s c1 k') := by
  funext c' k'
  simp only [cpy, sr]
  by_cases h1 : c' = c1
  · subst h1
    by_cases h2 : dp ≤ k' ∧ k' < dp + n <;> simp [h2]
  · simp [h1]
theorem ha_cpy {n1 c0 c1 sp dp n : Nat} (h1 : Ha H c1 0 n1) : (H s).set c1 (.inl (0, n1, .inl (am_cpy (fun k => Int32.ofInt (s c0 k)) (fun k => Int32.ofInt (s c1 k)) sp dp n))) = H (cpy s c0 c1 sp dp n) := by
  rw [cpy_sr, ← h1.2]
  have : am_cpy (fun k => Int32.ofInt (s c0 k)) (fun k => Int32.ofInt (s c1 k)) sp dp n = fun k' => Int32.ofInt (if dp ≤ k' ∧ k' < dp + n then s c0 (sp + (k' - dp)) else s c1 k') := by
    funext k
    simp only [am_cpy, va_cpy]
    by_cases hk : dp ≤ k ∧ k < dp + n <;> simp [hk]
  rw [this]
  rfl
theorem e_cp (pc' : Nat) (hm : ev_M j nL ret) {ix c0 c1 n0 n1 : Nat} {sp dp n : Int} {f : iS → Option α} (hc : tb_co j pc = some (.invokestatic ix, 0, 0, 9)) (hd : 0 < d) (h8 : Nat.ble (am_cat st) 8 = true) (h0 : Ha H c0 0 n0) (h1 : Ha H c1 0 n1) (l0 : n0 < 2147483648) (l1 : n1 < 2147483648) (hg : 0 ≤ sp ∧ 0 ≤ dp ∧ 0 ≤ n ∧ sp + n ≤ (n0 : Int) ∧ dp + n ≤ (n1 : Int)) (hn : pc + 3 = pc') (k : ∀ s', Ew H w d j pc' lo st s' C (f s')) : Ew H w d j pc lo (iv n :: iv dp :: .ref (tb_nK + c1) :: iv sp :: .ref (tb_nK + c0) :: st) s C (lt' (cpy s c0 c1 sp.toNat dp.toNat n.toNat) f) := by
  subst hn
  intro q r h2 h3
  have hr : ∀ z : Int, 0 ≤ z → z < 2147483648 → (Int32.ofInt z).toNatClampNeg = z.toNat ∧ ¬ Int32.ofInt z < 0 := by
    intro z z0 z1
    refine ⟨Int32.toNatClampNeg_ofInt_of_le (by omega) (by omega), fun q => ?_⟩
    have := (r_lt (y := 0) ⟨by omega, by omega⟩ rg0).mp q
    omega
  obtain ⟨a1, a2⟩ := hr sp (by omega) (by omega)
  obtain ⟨b1, b2⟩ := hr dp (by omega) (by omega)
  obtain ⟨c1', c2⟩ := hr n (by omega) (by omega)
  obtain ⟨y, bytes, hm⟩ := hm
  refine ev_one hm hc (pc' := pc + 3) (lo' := lo) (st' := st) (h' := H (cpy s c0 c1 sp.toNat dp.toNat n.toNat)) ?_ (am_plus0 r) (k _ q r h2 h3)
  have e0 : (H s)[c0]? = some (.inl (0, n0, .inl (fun k => Int32.ofInt (s c0 k)))) := h0.1 s
  have e1 : (H s)[c1]? = some (.inl (0, n1, .inl (fun k => Int32.ofInt (s c1 k)))) := h1.1 s
  have E : am_cp tb_nK (tb_KT w.2.1 w.2.2) d (.invokestatic ix, 0, 0, 9) (iv n :: iv dp :: .ref (tb_nK + c1) :: iv sp :: .ref (tb_nK + c0) :: st) (H s) = some (st, H (cpy s c0 c1 sp.toNat dp.toNat n.toNat)) := by
    simp only [am_cp]
    have h9 : am_cat st ≤ 8 := Nat.le_of_ble_eq_true h8
    unfold am_cat at h9
    rw [if_neg (by rintro (q | q | q); · exact hp_nK c1 q
                   · omega
                   · omega)]
    simp only [am_src]
    rw [if_neg (hp_nK c0), hp_sub, hp_sub, e0, e1]
    simp only
    rw [if_neg (by rw [a1, b1, c1']; rintro (q | q | q | q | q)
                   · exact a2 q
                   · exact b2 q
                   · exact c2 q
                   · omega
                   · omega), a1, b1, c1', ha_cpy h1]
  unfold am_one
  have z1 : am_op (Instr.invokestatic ix) (iv n :: iv dp :: .ref (tb_nK + c1) :: iv sp :: .ref (tb_nK + c0) :: st) = none := rfl
  have z2 : am_mv nL (Instr.invokestatic ix) lo (iv n :: iv dp :: .ref (tb_nK + c1) :: iv sp :: .ref (tb_nK + c0) :: st) = none := rfl
  have z3 : am_br (Instr.invokestatic ix) (iv n :: iv dp :: .ref (tb_nK + c1) :: iv sp :: .ref (tb_nK + c0) :: st) = none := rfl
  have z4 : am_sw (Instr.invokestatic ix) (iv n :: iv dp :: .ref (tb_nK + c1) :: iv sp :: .ref (tb_nK + c0) :: st) = none := rfl
  have z5 : am_hp [] tb_nK tb_df tb_ft (Instr.invokestatic ix, 0, 0, 9) (iv n :: iv dp :: .ref (tb_nK + c1) :: iv sp :: .ref (tb_nK + c0) :: st) (H s) = none := rfl
  have z6 : am_kc tb_nK (tb_KT w.2.1 w.2.2) tb_KF (tb_SZ w.1) tb_SR (Instr.invokestatic ix, 0, 0, 9) (iv n :: iv dp :: .ref (tb_nK + c1) :: iv sp :: .ref (tb_nK + c0) :: st) = none := rfl
  have z7 : am_rt ret (Instr.invokestatic ix) (iv n :: iv dp :: .ref (tb_nK + c1) :: iv sp :: .ref (tb_nK + c0) :: st) = none := by
    unfold am_rt
    split <;> simp_all
  have z8 : am_oi d (Instr.invokestatic ix, 0, 0, 9) (iv n :: iv dp :: .ref (tb_nK + c1) :: iv sp :: .ref (tb_nK + c0) :: st) = none := rfl
  rw [z1, z2, z3, z4, z5, z6, z7, z8, E]
  rfl

/-- a call whose answer is known -/
theorem e_ivc (pc' : Nat) (hm : ev_M j nL ret) {z : am_I} (hc : tb_co j pc = some z) {j' nL' : Nat} {ret' : Option FieldType} {as rest : List Value} {f : Option (Int × iS)} (hd : 0 < d) (hi : am_iv tb_nK tb_KO (H s) z st = some (j', as, rest)) (hm' : ev_M j' nL' ret') (hl : (lg_sl as).length ≤ nL') (hn : pc + 3 = pc') (k1 : Ew H w (d - 1) j' 0 (lv_args 0 as) [] s (Ci H) f) (hf : f = some (x, s)) (k2 : Ew H w d j pc' lo (iv x :: rest) s C o) : Ew H w d j pc lo st s C o := by
  subst hf
  intro q r h1 h2
  subst hn
  obtain ⟨d, rfl⟩ : ∃ n, d = n + 1 := ⟨d - 1, by omega⟩
  exact ev_iv hm hc hi hm' hl (am_plus0 r) (k1 (x, s) _ rfl rfl) (k2 q r h1 h2)
end EY
