/-! Ew: cells, constants, calls, loops, ends -/
section EX
variable {H : iS → List am_C} {w : ev_W} {d j pc nL : Nat} {ret : Option FieldType} {lo lo' : am_L} {st st' : List Value} {s : iS} {α : Type} {C : α → am_E → Prop} {o : Option α} {c k : Nat} {x y i : Int}
theorem e_hp (pc' : Nat) (hm : ev_M j nL ret) {z : am_I} {s' : iS} (hc : tb_co j pc = some z) (h1 : am_hp [] tb_nK tb_df tb_ft z st (H s) = some (st', H s', 0, 0)) (hn : pc + am_len z.1 = pc') (k : Ew H w d j pc' lo st' s' C o) : Ew H w d j pc lo st s C o := by
  subst hn
  exact fun q r h2 h3 => ev_hp hm hc h1 (am_plus0 r) (k q r h2 h3)
theorem e_get (pc' : Nat) (hm : ev_M j nL ret) {ix ci : Nat} (hc : tb_co j pc = some (.getfield ix, ci, k, 0)) {fs : List (Option Nat)} (ht : Ho H c ci fs) (hf : fs[k]? = some none) (hn : pc + 3 = pc') (kk : Ew H w d j pc' lo (iv (s c k) :: st) s C o) : Ew H w d j pc lo (.ref (tb_nK + c) :: st) s C o := e_hp pc' hm hc (ho_get ht hf) hn kk
theorem e_getr (pc' : Nat) (hm : ev_M j nL ret) {ix ci a : Nat} (hc : tb_co j pc = some (.getfield ix, ci, k, 0)) {fs : List (Option Nat)} (ht : Ho H c ci fs) (hf : fs[k]? = some (some a)) (hn : pc + 3 = pc') (kk : Ew H w d j pc' lo (.ref (tb_nK + a) :: st) s C o) : Ew H w d j pc lo (.ref (tb_nK + c) :: st) s C o := e_hp pc' hm hc (ho_get ht hf) hn kk
theorem e_put (pc' : Nat) (hm : ev_M j nL ret) {ix ci : Nat} {f : iS → Option α} (hc : tb_co j pc = some (.putfield ix, ci, k, 0)) {fs : List (Option Nat)} (ht : Ho H c ci fs) (hf : fs[k]? = some none) (hx : am_fit (tb_ft ci k) (iv x) = true) (hn : pc + 3 = pc') (kk : ∀ s', Ew H w d j pc' lo st s' C (f s')) : Ew H w d j pc lo (iv x :: .ref (tb_nK + c) :: st) s C (lt' (up s c k x) f) := by
  refine e_hp pc' hm hc (s' := up s c k x) (st' := st) ?_ hn (kk _)
  exact ho_put ht hf hx
theorem fit_b {ty : FieldType} (h : ty = .boolean) (hx : x = 0 ∨ x = 1) : am_fit ty (iv x) = true := by
  subst h
  rcases hx with rfl | rfl <;> rfl
theorem e_alen (pc' : Nat) (hm : ev_M j nL ret) (hc : tb_co j pc = some (.arraylength, 0, 0, 0)) {t n : Nat} (ht : Ha H c t n) (h5 : t < 5) {N : Int} (hN : (n : Int) = N) (hn : pc + 1 = pc') (kk : Ew H w d j pc' lo (iv N :: st) s C o) : Ew H w d j pc lo (.ref (tb_nK + c) :: st) s C o := by
  subst hN
  refine e_hp pc' hm hc (s' := s) (st' := iv n :: st) ?_ hn kk
  rw [ha_len ht h5]
  simp only [iv, Int32.ofInt_eq_ofNat]
theorem e_ild (pc' : Nat) (hm : ev_M j nL ret) (hc : tb_co j pc = some (.iaload, 0, 0, 0)) {n : Nat} (ht : Ha H c 0 n) (hl : n < 2147483648) (hi : 0 ≤ i ∧ i < (n : Int)) (hn : pc + 1 = pc') (kk : Ew H w d j pc' lo (iv (s c i.toNat) :: st) s C o) : Ew H w d j pc lo (iv i :: .ref (tb_nK + c) :: st) s C o := by
  obtain ⟨e1, e2⟩ := r_nat hi hl
  refine e_hp pc' hm hc (s' := s) (st' := iv (s c i.toNat) :: st) ?_ hn kk
  rw [ha_ild ht e1, e2]
theorem e_zld (pc' : Nat) (hm : ev_M j nL ret) (hc : tb_co j pc = some (.baload, 0, 0, 0)) {n : Nat} (ht : Ha H c 4 n) (hl : n < 2147483648) (hi : 0 ≤ i ∧ i < (n : Int)) (hn : pc + 1 = pc') (kk : Ew H w d j pc' lo (iv (s c i.toNat) :: st) s C o) : Ew H w d j pc lo (iv i :: .ref (tb_nK + c) :: st) s C o := by
  obtain ⟨e1, e2⟩ := r_nat hi hl
  refine e_hp pc' hm hc (s' := s) (st' := iv (s c i.toNat) :: st) ?_ hn kk
  rw [ha_zld ht e1, e2]
theorem e_lld (pc' : Nat) (hm : ev_M j nL ret) (hc : tb_co j pc = some (.laload, 0, 0, 0)) {n : Nat} (ht : Ha H c 1 n) (hl : n < 2147483648) (hi : 0 ≤ i ∧ i < (n : Int)) (hn : pc + 1 = pc') (kk : Ew H w d j pc' lo (lv (s c i.toNat) :: st) s C o) : Ew H w d j pc lo (iv i :: .ref (tb_nK + c) :: st) s C o := by
  obtain ⟨e1, e2⟩ := r_nat hi hl
  refine e_hp pc' hm hc (s' := s) (st' := lv (s c i.toNat) :: st) ?_ hn kk
  rw [ha_lld ht e1, e2]
theorem e_ist (pc' : Nat) (hm : ev_M j nL ret) {f : iS → Option α} (hc : tb_co j pc = some (.iastore, 0, 0, 0)) {n : Nat} (ht : Ha H c 0 n) (hl : n < 2147483648) (hi : 0 ≤ i ∧ i < (n : Int)) (hn : pc + 1 = pc') (kk : ∀ s', Ew H w d j pc' lo st s' C (f s')) : Ew H w d j pc lo (iv x :: iv i :: .ref (tb_nK + c) :: st) s C (lt' (up s c i.toNat x) f) := by
  obtain ⟨e1, e2⟩ := r_nat hi hl
  refine e_hp pc' hm hc (s' := up s c i.toNat x) (st' := st) ?_ hn (kk _)
  rw [ha_ist ht e1, e2]
theorem e_zst (pc' : Nat) (hm : ev_M j nL ret) {f : iS → Option α} (hc : tb_co j pc = some (.bastore, 0, 0, 0)) {n : Nat} (ht : Ha H c 4 n) (hl : n < 2147483648) (hi : 0 ≤ i ∧ i < (n : Int)) (hx : x = 0 ∨ x = 1) (hn : pc + 1 = pc') (kk : ∀ s', Ew H w d j pc' lo st s' C (f s')) : Ew H w d j pc lo (iv x :: iv i :: .ref (tb_nK + c) :: st) s C (lt' (up s c i.toNat x) f) := by
  obtain ⟨e1, e2⟩ := r_nat hi hl
  refine e_hp pc' hm hc (s' := up s c i.toNat x) (st' := st) ?_ hn (kk _)
  have e3 : vp_nar .boolean (Int32.ofInt x) = Int32.ofInt x := by rcases hx with rfl | rfl <;> rfl
  rw [ha_zst ht e1 e3, e2]
theorem e_lst (pc' : Nat) (hm : ev_M j nL ret) {f : iS → Option α} (hc : tb_co j pc = some (.lastore, 0, 0, 0)) {n : Nat} (ht : Ha H c 1 n) (hl : n < 2147483648) (hi : 0 ≤ i ∧ i < (n : Int)) (hn : pc + 1 = pc') (kk : ∀ s', Ew H w d j pc' lo st s' C (f s')) : Ew H w d j pc lo (lv x :: iv i :: .ref (tb_nK + c) :: st) s C (lt' (up s c i.toNat x) f) := by
  obtain ⟨e1, e2⟩ := r_nat hi hl
  refine e_hp pc' hm hc (s' := up s c i.toNat x) (st' := st) ?_ hn (kk _)
  rw [ha_lst ht e1, e2]
/-! constants -/
theorem e_kc (pc' : Nat) (hm : ev_M j nL ret) {z : am_I} (hc : tb_co j pc = some z) (h1 : am_kc tb_nK (tb_KT w.2.1 w.2.2) tb_KF (tb_SZ w.1) tb_SR z st = some st') (h2 : am_hp [] tb_nK tb_df tb_ft z st (H s) = none) (hn : pc + am_len z.1 = pc') (k : Ew H w d j pc' lo st' s C o) : Ew H w d j pc lo st s C o := by
  subst hn
  exact fun q r h3 h4 => ev_kc hm hc h1 h2 (k q r h3 h4)
theorem e_ldc (pc' : Nat) (hm : ev_M j nL ret) {ix v : Nat} (hc : tb_co j pc = some (.ldc ix, v, 0, 0)) (hv : Int32.ofNat v = Int32.ofInt x) (hn : pc + 2 = pc') (k : Ew H w d j pc' lo (iv x :: st) s C o) : Ew H w d j pc lo st s C o := e_kc pc' hm hc (by simp only [am_kc, iv, hv]) rfl hn k
theorem e_ldcw (pc' : Nat) (hm : ev_M j nL ret) {ix v : Nat} (hc : tb_co j pc = some (.ldc_w ix, v, 0, 0)) (hv : Int32.ofNat v = Int32.ofInt x) (hn : pc + 3 = pc') (k : Ew H w d j pc' lo (iv x :: st) s C o) : Ew H w d j pc lo st s C o := e_kc pc' hm hc (by simp only [am_kc, iv, hv]) rfl hn k
theorem e_ldcl (pc' : Nat) (hm : ev_M j nL ret) {ix v : Nat} (hc : tb_co j pc = some (.ldc2_w ix, v, 0, 0)) (hv : Int64.ofNat v = Int64.ofInt x) (hn : pc + 3 = pc') (k : Ew H w d j pc' lo (lv x :: st) s C o) : Ew H w d j pc lo st s C o := e_kc pc' hm hc (by simp only [am_kc, lv, hv]) rfl hn k
theorem e_lcon (pc' : Nat) (hm : ev_M j nL ret) {n : Fin 2} (hc : tb_co j pc = some (.lconst n, 0, 0, 0)) (hv : Int64.ofNat (n : Nat) = Int64.ofInt x) (hn : pc + 1 = pc') (k : Ew H w d j pc' lo (lv x :: st) s C o) : Ew H w d j pc lo st s C o := e_op pc' hm hc (by simp only [am_op, lv, hv]) hn k
theorem e_bip (pc' : Nat) (hm : ev_M j nL ret) {n : Int} (hc : tb_co j pc = some (.bipush n, 0, 0, 0)) (h : -128 ≤ n ∧ n ≤ 127) (hn : pc + 2 = pc') (k : Ew H w d j pc' lo (iv n :: st) s C o) : Ew H w d j pc lo st s C o := by
  refine e_op pc' hm hc (st' := iv n :: st) ?_ hn k
  simp only [am_op, iv]
  have : (Int8.ofInt n).toInt32 = Int32.ofInt n := by
    rw [← Int32.toInt_inj, Int8.toInt_toInt32, Int8.toInt_ofInt_of_le h.1 (by omega), r_ti ⟨by omega, by omega⟩]
  rw [this]
theorem e_sip (pc' : Nat) (hm : ev_M j nL ret) {n : Int} (hc : tb_co j pc = some (.sipush n, 0, 0, 0)) (h : -32768 ≤ n ∧ n ≤ 32767) (hn : pc + 3 = pc') (k : Ew H w d j pc' lo (iv n :: st) s C o) : Ew H w d j pc lo st s C o := by
  refine e_op pc' hm hc (st' := iv n :: st) ?_ hn k
  simp only [am_op, iv]
  have : (Int16.ofInt n).toInt32 = Int32.ofInt n := by
    rw [← Int32.toInt_inj, Int16.toInt_toInt32, Int16.toInt_ofInt_of_le h.1 (by omega), r_ti ⟨by omega, by omega⟩]
  rw [this]
theorem e_gst (pc' : Nat) (hm : ev_M j nL ret) {ix r : Nat} {z : String × String × String × Value} (hc : tb_co j pc = some (.getstatic ix, r, 0, 0)) (hz : (tb_SZ w.1)[r]? = some z) (hn : pc + 3 = pc') (k : Ew H w d j pc' lo (z.2.2.2 :: st) s C o) : Ew H w d j pc lo st s C o := e_kc pc' hm hc (by simp only [am_kc, hz]) rfl hn k
theorem e_ldcs (pc' : Nat) (hm : ev_M j nL ret) {ix r : Nat} {z : String × Nat × String × Nat} (hc : tb_co j pc = some (.ldc ix, r, 0, 1)) (hz : tb_SR[r]? = some z) (hn : pc + 2 = pc') (k : Ew H w d j pc' lo (.ref z.2.2.2 :: st) s C o) : Ew H w d j pc lo st s C o := e_kc pc' hm hc (by simp only [am_kc, hz]) rfl hn k
theorem e_ldcsw (pc' : Nat) (hm : ev_M j nL ret) {ix r : Nat} {z : String × Nat × String × Nat} (hc : tb_co j pc = some (.ldc_w ix, r, 0, 1)) (hz : tb_SR[r]? = some z) (hn : pc + 3 = pc') (k : Ew H w d j pc' lo (.ref z.2.2.2 :: st) s C o) : Ew H w d j pc lo st s C o := e_kc pc' hm hc (by simp only [am_kc, hz]) rfl hn k
theorem e_getk (pc' : Nat) (hm : ev_M j nL ret) {ix a : Nat} {fs : List Value} {v : Value} (hc : tb_co j pc = some (.getfield ix, 0, k, 5)) (ha : a < tb_nK) (hf : tb_KF[a]? = some fs) (hv : fs[k]? = some v) (hn : pc + 3 = pc') (kk : Ew H w d j pc' lo (v :: st) s C o) : Ew H w d j pc lo (.ref a :: st) s C o := e_kc pc' hm hc (by simp only [am_kc]; rw [if_pos ha, hf]; simp only; rw [hv]) rfl hn kk
theorem am_hp_k {z : am_I} {a : Nat} {h : List am_C} (ha : a < tb_nK) (hz : z = (.iaload, 0, 0, 0) ∨ z = (.caload, 0, 0, 0) ∨ z = (.baload, 0, 0, 0)) (v : Int32) : am_hp [] tb_nK tb_df tb_ft z (.int v :: .ref a :: st) h = none := by
  rcases hz with rfl | rfl | rfl <;> (simp only [am_hp, am_at]; rw [if_pos ha]; rfl)
theorem e_alenk (pc' : Nat) (hm : ev_M j nL ret) (hc : tb_co j pc = some (.arraylength, 0, 0, 0)) {a n : Nat} {ty : FieldType} {g : Nat → Int32} (ha : a < tb_nK) (ht : (tb_KT w.2.1 w.2.2)[a]? = some (ty, n, g)) (hty : ty ≠ .float) {N : Int} (hN : (n : Int) = N) (hn : pc + 1 = pc') (kk : Ew H w d j pc' lo (iv N :: st) s C o) : Ew H w d j pc lo (.ref a :: st) s C o := by
  subst hN
  refine e_kc pc' hm hc (st' := iv n :: st) ?_ ?_ hn kk
  · simp only [am_kc]
    rw [if_pos ha, ht]
    simp only
    rw [if_neg hty]
    simp only [iv, Int32.ofInt_eq_ofNat]
  · simp only [am_hp, am_at]
    rw [if_pos ha]
    rfl
theorem e_cldk (pc' : Nat) (hm : ev_M j nL ret) (hc : tb_co j pc = some (.caload, 0, 0, 0)) {a n : Nat} {g : Nat → Int32} (ha : a < tb_nK) (ht : (tb_KT w.2.1 w.2.2)[a]? = some (.char, n, g)) (hl : n < 2147483648) (hi : 0 ≤ i ∧ i < (n : Int)) (hn : pc + 1 = pc') (kk : Ew H w d j pc' lo (iv (g i.toNat).toInt :: st) s C o) : Ew H w d j pc lo (iv i :: .ref a :: st) s C o := by
  obtain ⟨e1, e2⟩ := r_nat hi hl
  refine e_kc pc' hm hc (st' := iv (g i.toNat).toInt :: st) ?_ (am_hp_k ha (Or.inr (Or.inl rfl)) _) hn kk
  simp only [am_kc]
  rw [if_pos ha, ht]
  simp only
  rw [if_neg e1, e2]
  simp only [iv, Int32.ofInt_toInt]
theorem e_ildk (pc' : Nat) (hm : ev_M j nL ret) (hc : tb_co j pc = some (.iaload, 0, 0, 0)) {a n : Nat} {g : Nat → Int32} (ha : a < tb_nK) (ht : (tb_KT w.2.1 w.2.2)[a]? = some (.int, n, g)) (hl : n < 2147483648) (hi : 0 ≤ i ∧ i < (n : Int)) (hn : pc + 1 = pc') (kk : Ew H w d j pc' lo (iv (g i.toNat).toInt :: st) s C o) : Ew H w d j pc lo (iv i :: .ref a :: st) s C o := by
  obtain ⟨e1, e2⟩ := r_nat hi hl
  refine e_kc pc' hm hc (st' := iv (g i.toNat).toInt :: st) ?_ (am_hp_k ha (Or.inl rfl) _) hn kk
  simp only [am_kc]
  rw [if_pos ha, ht]
  simp only
  rw [if_neg e1, e2]
  simp only [iv, Int32.ofInt_toInt]
theorem e_bldk (pc' : Nat) (hm : ev_M j nL ret) (hc : tb_co j pc = some (.baload, 0, 0, 0)) {a n : Nat} {g : Nat → Int32} (ha : a < tb_nK) (ht : (tb_KT w.2.1 w.2.2)[a]? = some (.byte, n, g)) (hl : n < 2147483648) (hi : 0 ≤ i ∧ i < (n : Int)) (hn : pc + 1 = pc') (kk : Ew H w d j pc' lo (iv (g i.toNat).toInt :: st) s C o) : Ew H w d j pc lo (iv i :: .ref a :: st) s C o := by
  obtain ⟨e1, e2⟩ := r_nat hi hl
  refine e_kc pc' hm hc (st' := iv (g i.toNat).toInt :: st) ?_ (am_hp_k ha (Or.inr (Or.inr rfl)) _) hn kk
  simp only [am_kc]
  rw [if_pos ha, ht]
  simp only
  rw [if_neg e1, e2]
  simp only [iv, Int32.ofInt_toInt]
/-! ends -/
theorem e_reti (hm : ev_M j nL (some .int)) (hc : tb_co j pc = some (.ireturn, 0, 0, 0)) : Ew H w d j pc lo [iv x] s (Ci H) (some (x, s)) := by
  intro q r h1 h2
  cases h1
  cases h2
  exact ev_rt hm hc rfl
theorem e_retz (hm : ev_M j nL (some .boolean)) (hc : tb_co j pc = some (.ireturn, 0, 0, 0)) (hx : x = 0 ∨ x = 1) : Ew H w d j pc lo [iv x] s (Ci H) (some (x, s)) := by
  intro q r h1 h2
  cases h1
  cases h2
  refine ev_rt hm hc ?_
  rcases hx with rfl | rfl <;> rfl
theorem e_retl (hm : ev_M j nL (some .long)) (hc : tb_co j pc = some (.lreturn, 0, 0, 0)) : Ew H w d j pc lo [lv x] s (Cl H) (some (x, s)) := by
  intro q r h1 h2
  cases h1
  cases h2
  exact ev_rt hm hc rfl
theorem e_retv (hm : ev_M j nL none) (hc : tb_co j pc = some (.return_, 0, 0, 0)) : Ew H w d j pc lo [] s (Cv H) (some (0, s)) := by
  intro q r h1 h2
  cases h1
  cases h2
  exact ev_rt hm hc rfl
theorem e_out {a : α} (h : ∀ r, C a r → ev w d j pc lo st (H s) r) : Ew H w d j pc lo st s C (some a) := by
  intro q r h1 h2
  cases h1
  exact h r h2
/-! calls -/
theorem e_iv {mk : Int → Option Value} {D : Int × iS → am_E → Prop} (hD : ∀ v s', D (v, s') (mk v, H s', 0, 0)) (pc' : Nat) (hm : ev_M j nL ret) {z : am_I} (hc : tb_co j pc = some z) {j' nL' : Nat} {ret' : Option FieldType} {as rest : List Value} {f : Option (Int × iS)} {g : Int → iS → Option α} (hd : 0 < d) (hi : am_iv tb_nK tb_KO (H s) z st = some (j', as, rest)) (hm' : ev_M j' nL' ret') (hl : (lg_sl as).length ≤ nL') (hn : pc + 3 = pc') (k1 : Ew H w (d - 1) j' 0 (lv_args 0 as) [] s D f) (k2 : ∀ v s', Ew H w d j pc' lo ((mk v).toList ++ rest) s' C (g v s')) : Ew H w d j pc lo st s C (bd f g) := by
  intro q r h1 h2
  subst hn
  obtain ⟨d, rfl⟩ : ∃ n, d = n + 1 := ⟨d - 1, by omega⟩
  unfold bd at h1
  cases hf : f with
  | none => rw [hf] at h1; cases h1
  | some v =>
    rw [hf] at h1
    obtain ⟨v, s'⟩ := v
    exact ev_iv hm hc hi hm' hl (am_plus0 r) (k1 (v, s') _ hf (hD v s')) (k2 v s' q r h1 h2)
def mki (v : Int) : Option Value := some (iv v)
def mkl (v : Int) : Option Value := some (lv v)
def mkv (_ : Int) : Option Value := none
theorem iv_s {ix j' n : Nat} {as rest : List Value} {h : List am_C} (hl : as.length = n) (h8 : am_cat rest ≤ 8) : am_iv tb_nK tb_KO h (.invokestatic ix, j', n, 0) (as.reverse ++ rest) = some (j', as, rest) := by
  have e1 : (as.reverse ++ rest).drop n = rest := by rw [← hl, ← List.length_reverse, List.drop_left]
  have e2 : (as.reverse ++ rest).take n = as.reverse := by rw [← hl, ← List.length_reverse, List.take_left]
  simp only [am_iv]
  rw [e1, e2, List.reverse_reverse, if_neg]
  rintro (q | q | q)
  · cases q
  · rw [List.length_append, List.length_reverse, hl] at q; omega
  · omega
theorem iv_v {ix j' n ci a : Nat} {fs : List (Option Nat)} {as rest : List Value} (h9 : ci ≠ 99) (ht : Ho H a ci fs) (hl : as.length = n) (h8 : am_cat rest ≤ 8) : am_iv tb_nK tb_KO (H s) (.invokevirtual ix, j', n, ci) (as.reverse ++ .ref (tb_nK + a) :: rest) = some (j', .ref (tb_nK + a) :: as, rest) := by
  have e1 : (as.reverse ++ Value.ref (tb_nK + a) :: rest).drop n = .ref (tb_nK + a) :: rest := by rw [← hl, ← List.length_reverse, List.drop_left]
  have e2 : (as.reverse ++ Value.ref (tb_nK + a) :: rest).take n = as.reverse := by rw [← hl, ← List.length_reverse, List.take_left]
  simp only [am_iv]
  rw [e1, e2, List.reverse_reverse]
  simp only
  rw [if_neg (by omega), if_neg (hp_nK a), hp_sub, ht.1]
  simp [objc, h9]
theorem iv_k {ix j' n a : Nat} {h : List am_C} {as rest : List Value} (ha : a < tb_nK) (ht : tb_KO[a]? = some "java/lang/String") (hl : as.length = n) (h8 : am_cat rest ≤ 8) : am_iv tb_nK tb_KO h (.invokevirtual ix, j', n, 99) (as.reverse ++ .ref a :: rest) = some (j', .ref a :: as, rest) := by
  have e1 : (as.reverse ++ Value.ref a :: rest).drop n = .ref a :: rest := by rw [← hl, ← List.length_reverse, List.drop_left]
  have e2 : (as.reverse ++ Value.ref a :: rest).take n = as.reverse := by rw [← hl, ← List.length_reverse, List.take_left]
  simp only [am_iv]
  rw [e1, e2, List.reverse_reverse]
  simp only
  rw [if_neg (by omega), if_pos ha, if_pos ⟨trivial, ht⟩]
/-! loops: LO, LS: the locals and the heap of a round -/
theorem e_lp {L E : Type} {f : L → Option (L ⊕ E)} {g : E → Option α} {LO : L → am_L} {LS : L → iS} {CE : E → am_E → Prop} (hb : ∀ l, Ew H w d j pc (LO l) [] (LS l) (fun q r => q.elim (fun l => ev w d j pc (LO l) [] (H (LS l)) r) (fun e => CE e r)) (f l)) (hk : ∀ e q r, g e = some q → C q r → CE e r) (l : L) : Ew H w d j pc (LO l) [] (LS l) C ((lp f l).bind g) := by
  intro q r h1 h2
  cases hl : lp f l with
  | none => rw [hl] at h1; cases h1
  | some e =>
    rw [hl] at h1
    have h3 := hk e q r h1 h2
    obtain ⟨n, hn⟩ := lp_some.mp hl
    clear hl
    induction n generalizing l with
    | zero => cases hn
    | succ n ihn =>
      rw [lpn] at hn
      cases hf : f l with
      | none => rw [hf] at hn; cases hn
      | some o =>
        rw [hf] at hn
        refine hb l o r hf ?_
        cases o with
        | inl l' => exact ihn l' hn
        | inr e' => cases hn; exact h3
end EX
