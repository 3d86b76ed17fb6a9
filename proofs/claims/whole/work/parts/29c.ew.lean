/-! Ew: what a function of Ints tells of a piece of code, the machine does; a rule an instruction, goal first. H: the heap that numbers make -/
def Ew (H : iS → List am_C) (w : ev_W) (d j pc : Nat) (lo : am_L) (st : List Value) (s : iS) {α : Type} (C : α → am_E → Prop) (o : Option α) : Prop := ∀ x r, o = some x → C x r → ev w d j pc lo st (H s) r
/-- an end: with an int, with a long, without -/
def Ci (H : iS → List am_C) (q : Int × iS) (r : am_E) : Prop := r = (some (iv q.1), H q.2, 0, 0)
def Cl (H : iS → List am_C) (q : Int × iS) (r : am_E) : Prop := r = (some (lv q.1), H q.2, 0, 0)
def Cv (H : iS → List am_C) (q : Int × iS) (r : am_E) : Prop := r = (none, H q.2, 0, 0)
theorem ce_at {j : Nat} {l : List (Nat × am_I)} (h : ∀ q ∈ l, tb_co j q.1 = some q.2) (k : Nat) {pc : Nat} {x : am_I} (e : l[k]? = some (pc, x)) : tb_co j pc = some x := h (pc, x) (List.mem_of_getElem? e)
section EW
variable {H : iS → List am_C} {w : ev_W} {d j pc nL : Nat} {ret : Option FieldType} {lo lo' : am_L} {st st' : List Value} {s : iS} {α : Type} {C : α → am_E → Prop} {o : Option α} {c k : Nat} {x y i : Int}
theorem e_gd {P : Prop} [Decidable P] (h : P → Ew H w d j pc lo st s C o) : Ew H w d j pc lo st s C (gd P o) := by
  intro q r h1 h2
  unfold gd at h1
  split at h1
  · rename_i hp; exact h hp q r h1 h2
  · cases h1
theorem e_op (pc' : Nat) (hm : ev_M j nL ret) {z : am_I} (hc : tb_co j pc = some z) (h1 : am_op z.1 st = some st') (hn : pc + am_len z.1 = pc') (k : Ew H w d j pc' lo st' s C o) : Ew H w d j pc lo st s C o := by
  subst hn
  exact fun q r h2 h3 => ev_op hm hc h1 (k q r h2 h3)
theorem e_mv (pc' : Nat) (hm : ev_M j nL ret) {z : am_I} (hc : tb_co j pc = some z) (h1 : am_mv nL z.1 lo st = some (lo', st')) (hn : pc + am_len z.1 = pc') (k : Ew H w d j pc' lo' st' s C o) : Ew H w d j pc lo st s C o := by
  subst hn
  exact fun q r h2 h3 => ev_mv hm hc h1 (k q r h2 h3)
theorem e_iinc (pc' : Nat) (hm : ev_M j nL ret) {a : Nat} {n : Int} (hc : tb_co j pc = some (.iinc a n, 0, 0, 0)) (h1 : am_ld lo a = some (iv x)) (ha : a < nL) (hn : pc + 3 = pc') (k : Ew H w d j pc' (am_st1 lo a (iv (x + n))) st s C o) : Ew H w d j pc lo st s C o := by
  refine e_mv pc' hm hc (lo' := am_st1 lo a (iv (x + n))) (st' := st) ?_ hn k
  simp only [am_mv]
  rw [h1]
  simp only
  rw [if_pos ha]
  simp only [iv, Int32.ofInt_add]
theorem e_goto (hm : ev_M j nL ret) {off : Int} (tgt : Nat) (hc : tb_co j pc = some (.goto off, 0, 0, 0)) (ht : (pc : Int) + off = (tgt : Int)) (k : Ew H w d j tgt lo st s C o) : Ew H w d j pc lo st s C o :=
  fun q r h2 h3 => ev_jump hm hc rfl ht (k q r h2 h3)
theorem e_pk (ks : List Nat) (hk : decide ks.Nodup = true) (hl : am_pk lo ks = lo') (k : Ew H w d j pc lo' st s C o) : Ew H w d j pc lo st s C o :=
  fun q r h2 h3 => ev_pk ks (of_decide_eq_true hk) hl (k q r h2 h3)
theorem e_br {z : am_I} {P Q : Prop} [Decidable P] [Decidable Q] {A B : Option α} (tgt pc' : Nat) (hm : ev_M j nL ret) (hc : tb_co j pc = some z) {off : Int} (h1 : am_br z.1 st = some (decide P, off, st')) (hPQ : P ↔ Q) (ht : (pc : Int) + off = (tgt : Int)) (hn : pc + am_len z.1 = pc') (k1 : Q → Ew H w d j tgt lo st' s C A) (k2 : ¬ Q → Ew H w d j pc' lo st' s C B) : Ew H w d j pc lo st s C (if Q then A else B) := by
  subst hn
  intro q r h2 h3
  refine ev_br hm hc h1 ht (fun hp => ?_) (fun hp => ?_)
  · rw [if_pos (hPQ.mp hp)] at h2
    exact k1 (hPQ.mp hp) q r h2 h3
  · rw [if_neg (fun h => hp (hPQ.mpr h))] at h2
    exact k2 (fun h => hp (hPQ.mpr h)) q r h2 h3
theorem rg0 : rg 0 := ⟨by decide, by decide⟩
section BR
variable {A B : Option α} {off : Int}
theorem e_ifeq (tgt pc' : Nat) (hm : ev_M j nL ret) (ht : (pc : Int) + off = (tgt : Int)) (hn : pc + 3 = pc') (hc : tb_co j pc = some (.ifCond .eq off, 0, 0, 0)) (hx : rg x) (k1 : x = 0 → Ew H w d j tgt lo st s C A) (k2 : ¬ x = 0 → Ew H w d j pc' lo st s C B) : Ew H w d j pc lo (iv x :: st) s C (if x = 0 then A else B) := e_br tgt pc' hm hc rfl (r_eq hx rg0) ht hn k1 k2
theorem e_ifne (tgt pc' : Nat) (hm : ev_M j nL ret) (ht : (pc : Int) + off = (tgt : Int)) (hn : pc + 3 = pc') (hc : tb_co j pc = some (.ifCond .ne off, 0, 0, 0)) (hx : rg x) (k1 : ¬ x = 0 → Ew H w d j tgt lo st s C A) (k2 : x = 0 → Ew H w d j pc' lo st s C B) : Ew H w d j pc lo (iv x :: st) s C (if x = 0 then B else A) := by
  have := e_br (st := iv x :: st) (st' := st) (P := ¬ Int32.ofInt x = 0) (lo := lo) (s := s) (C := C) (H := H) (w := w) (d := d) (A := A) (B := B) tgt pc' hm hc rfl (not_congr (r_eq hx rg0)) ht hn k1 (fun h => k2 (Classical.not_not.mp h))
  rwa [ite_not] at this
theorem e_iflt (tgt pc' : Nat) (hm : ev_M j nL ret) (ht : (pc : Int) + off = (tgt : Int)) (hn : pc + 3 = pc') (hc : tb_co j pc = some (.ifCond .lt off, 0, 0, 0)) (hx : rg x) (k1 : x < 0 → Ew H w d j tgt lo st s C A) (k2 : ¬ x < 0 → Ew H w d j pc' lo st s C B) : Ew H w d j pc lo (iv x :: st) s C (if x < 0 then A else B) := e_br tgt pc' hm hc rfl (r_lt hx rg0) ht hn k1 k2
theorem e_ifge (tgt pc' : Nat) (hm : ev_M j nL ret) (ht : (pc : Int) + off = (tgt : Int)) (hn : pc + 3 = pc') (hc : tb_co j pc = some (.ifCond .ge off, 0, 0, 0)) (hx : rg x) (k1 : 0 ≤ x → Ew H w d j tgt lo st s C A) (k2 : ¬ 0 ≤ x → Ew H w d j pc' lo st s C B) : Ew H w d j pc lo (iv x :: st) s C (if 0 ≤ x then A else B) := e_br tgt pc' hm hc rfl (r_le rg0 hx) ht hn k1 k2
theorem e_ifgt (tgt pc' : Nat) (hm : ev_M j nL ret) (ht : (pc : Int) + off = (tgt : Int)) (hn : pc + 3 = pc') (hc : tb_co j pc = some (.ifCond .gt off, 0, 0, 0)) (hx : rg x) (k1 : 0 < x → Ew H w d j tgt lo st s C A) (k2 : ¬ 0 < x → Ew H w d j pc' lo st s C B) : Ew H w d j pc lo (iv x :: st) s C (if 0 < x then A else B) := e_br tgt pc' hm hc rfl (r_lt rg0 hx) ht hn k1 k2
theorem e_ifle (tgt pc' : Nat) (hm : ev_M j nL ret) (ht : (pc : Int) + off = (tgt : Int)) (hn : pc + 3 = pc') (hc : tb_co j pc = some (.ifCond .le off, 0, 0, 0)) (hx : rg x) (k1 : x ≤ 0 → Ew H w d j tgt lo st s C A) (k2 : ¬ x ≤ 0 → Ew H w d j pc' lo st s C B) : Ew H w d j pc lo (iv x :: st) s C (if x ≤ 0 then A else B) := e_br tgt pc' hm hc rfl (r_le hx rg0) ht hn k1 k2
theorem e_cmeq (tgt pc' : Nat) (hm : ev_M j nL ret) (ht : (pc : Int) + off = (tgt : Int)) (hn : pc + 3 = pc') (hc : tb_co j pc = some (.if_icmp .eq off, 0, 0, 0)) (hx : rg x) (hy : rg y) (k1 : x = y → Ew H w d j tgt lo st s C A) (k2 : ¬ x = y → Ew H w d j pc' lo st s C B) : Ew H w d j pc lo (iv y :: iv x :: st) s C (if x = y then A else B) := e_br tgt pc' hm hc rfl (r_eq hx hy) ht hn k1 k2
theorem e_cmne (tgt pc' : Nat) (hm : ev_M j nL ret) (ht : (pc : Int) + off = (tgt : Int)) (hn : pc + 3 = pc') (hc : tb_co j pc = some (.if_icmp .ne off, 0, 0, 0)) (hx : rg x) (hy : rg y) (k1 : ¬ x = y → Ew H w d j tgt lo st s C A) (k2 : x = y → Ew H w d j pc' lo st s C B) : Ew H w d j pc lo (iv y :: iv x :: st) s C (if x = y then B else A) := by
  have := e_br (st := iv y :: iv x :: st) (st' := st) (P := ¬ Int32.ofInt x = Int32.ofInt y) (lo := lo) (s := s) (C := C) (H := H) (w := w) (d := d) (A := A) (B := B) tgt pc' hm hc rfl (not_congr (r_eq hx hy)) ht hn k1 (fun h => k2 (Classical.not_not.mp h))
  rwa [ite_not] at this
theorem e_cmlt (tgt pc' : Nat) (hm : ev_M j nL ret) (ht : (pc : Int) + off = (tgt : Int)) (hn : pc + 3 = pc') (hc : tb_co j pc = some (.if_icmp .lt off, 0, 0, 0)) (hx : rg x) (hy : rg y) (k1 : x < y → Ew H w d j tgt lo st s C A) (k2 : ¬ x < y → Ew H w d j pc' lo st s C B) : Ew H w d j pc lo (iv y :: iv x :: st) s C (if x < y then A else B) := e_br tgt pc' hm hc rfl (r_lt hx hy) ht hn k1 k2
theorem e_cmge (tgt pc' : Nat) (hm : ev_M j nL ret) (ht : (pc : Int) + off = (tgt : Int)) (hn : pc + 3 = pc') (hc : tb_co j pc = some (.if_icmp .ge off, 0, 0, 0)) (hx : rg x) (hy : rg y) (k1 : y ≤ x → Ew H w d j tgt lo st s C A) (k2 : ¬ y ≤ x → Ew H w d j pc' lo st s C B) : Ew H w d j pc lo (iv y :: iv x :: st) s C (if y ≤ x then A else B) := e_br tgt pc' hm hc rfl (r_le hy hx) ht hn k1 k2
theorem e_cmgt (tgt pc' : Nat) (hm : ev_M j nL ret) (ht : (pc : Int) + off = (tgt : Int)) (hn : pc + 3 = pc') (hc : tb_co j pc = some (.if_icmp .gt off, 0, 0, 0)) (hx : rg x) (hy : rg y) (k1 : y < x → Ew H w d j tgt lo st s C A) (k2 : ¬ y < x → Ew H w d j pc' lo st s C B) : Ew H w d j pc lo (iv y :: iv x :: st) s C (if y < x then A else B) := e_br tgt pc' hm hc rfl (r_lt hy hx) ht hn k1 k2
theorem e_cmle (tgt pc' : Nat) (hm : ev_M j nL ret) (ht : (pc : Int) + off = (tgt : Int)) (hn : pc + 3 = pc') (hc : tb_co j pc = some (.if_icmp .le off, 0, 0, 0)) (hx : rg x) (hy : rg y) (k1 : x ≤ y → Ew H w d j tgt lo st s C A) (k2 : ¬ x ≤ y → Ew H w d j pc' lo st s C B) : Ew H w d j pc lo (iv y :: iv x :: st) s C (if x ≤ y then A else B) := e_br tgt pc' hm hc rfl (r_le hx hy) ht hn k1 k2
end BR
/-- a case of a switch, the cases behind it -/
theorem e_case (n : Int) {A B : Option α} (k1 : x = n → Ew H w d j pc lo st s C A) (k2 : ¬ x = n → Ew H w d j pc lo st s C B) : Ew H w d j pc lo st s C (if x = n then A else B) := by
  split
  · rename_i h; exact k1 h
  · rename_i h; exact k2 h
theorem e_sw (hm : ev_M j nL ret) {z : am_I} (tgt : Nat) (hc : tb_co j pc = some z) {off : Int} (h1 : am_sw z.1 st = some (off, st')) (ht : (pc : Int) + off = (tgt : Int)) (k : Ew H w d j tgt lo st' s C o) : Ew H w d j pc lo st s C o :=
  fun q r h2 h3 => ev_sw hm hc h1 ht (k q r h2 h3)
theorem sw_out {dflt lo hi : Int} {offs : Array Int} (hx : rg x) (h : x < lo ∨ hi < x) : am_sw (.tableswitch dflt lo hi offs) (iv x :: st) = some (dflt, st) := by
  simp only [am_sw]
  rw [r_ti hx, if_pos h]
theorem sw_in {dflt lo hi off : Int} {offs : Array Int} (hx : rg x) (h : ¬ (x < lo ∨ hi < x)) (ho : offs[(x - lo).toNat]? = some off) : am_sw (.tableswitch dflt lo hi offs) (iv x :: st) = some (off, st) := by
  simp only [am_sw]
  rw [r_ti hx, if_neg h, ho]
theorem sw_lk {dflt off : Int} {ps : Array (Int × Int)} (hx : rg x) (h : (ps.toList.zip (ps.toList.drop 1)).all (fun (a, next) => a.1 < next.1) = true) (ho : Op.lookupswitch.offset ps.toList dflt x = off) : am_sw (.lookupswitch dflt ps) (iv x :: st) = some (off, st) := by
  simp only [am_sw]
  rw [if_pos h, r_ti hx, ho]
theorem lk_step {a o : Int} {r : List (Int × Int)} {dflt off k : Int} (h : ¬ k = a) (ho : Op.lookupswitch.offset r dflt k = off) : Op.lookupswitch.offset ((a, o) :: r) dflt k = off := by
  rw [Op.lookupswitch.offset_cons, if_neg (fun e => h e.symm), ho]
/-! sums -/
section AR
theorem e_iadd (pc' : Nat) (hm : ev_M j nL ret) (hn : pc + 1 = pc') (hc : tb_co j pc = some (.iadd, 0, 0, 0)) (k : Ew H w d j pc' lo (iv (x + y) :: st) s C o) : Ew H w d j pc lo (iv y :: iv x :: st) s C o := e_op pc' hm hc (by simp only [am_op, iv, Int32.ofInt_add]) hn k
theorem e_isub (pc' : Nat) (hm : ev_M j nL ret) (hn : pc + 1 = pc') (hc : tb_co j pc = some (.isub, 0, 0, 0)) (k : Ew H w d j pc' lo (iv (x - y) :: st) s C o) : Ew H w d j pc lo (iv y :: iv x :: st) s C o := e_op pc' hm hc (by simp only [am_op, iv, Int32.ofInt_sub]) hn k
theorem e_imul (pc' : Nat) (hm : ev_M j nL ret) (hn : pc + 1 = pc') (hc : tb_co j pc = some (.imul, 0, 0, 0)) (k : Ew H w d j pc' lo (iv (x * y) :: st) s C o) : Ew H w d j pc lo (iv y :: iv x :: st) s C o := e_op pc' hm hc (by simp only [am_op, iv, Int32.ofInt_mul]) hn k
theorem e_ineg (pc' : Nat) (hm : ev_M j nL ret) (hn : pc + 1 = pc') (hc : tb_co j pc = some (.ineg, 0, 0, 0)) (k : Ew H w d j pc' lo (iv (-x) :: st) s C o) : Ew H w d j pc lo (iv x :: st) s C o := e_op pc' hm hc (by simp only [am_op, iv, Int32.ofInt_neg]) hn k
theorem e_idiv (pc' : Nat) (hm : ev_M j nL ret) (hn : pc + 1 = pc') (hc : tb_co j pc = some (.idiv, 0, 0, 0)) (hx : rg x) (hy : rg y) (h0 : ¬ y = 0) (k : Ew H w d j pc' lo (iv (x.tdiv y) :: st) s C o) : Ew H w d j pc lo (iv y :: iv x :: st) s C o := by
  refine e_op pc' hm hc (st' := iv (x.tdiv y) :: st) ?_ hn k
  have e0 : ¬ Int32.ofInt y = 0 := fun e => h0 ((r_eq hy rg0).mp e)
  simp only [am_op, iv]
  rw [if_neg e0, r_div hx hy]
theorem e_irem (pc' : Nat) (hm : ev_M j nL ret) (hn : pc + 1 = pc') (hc : tb_co j pc = some (.irem, 0, 0, 0)) (hx : rg x) (hy : rg y) (h0 : ¬ y = 0) (k : Ew H w d j pc' lo (iv (x.tmod y) :: st) s C o) : Ew H w d j pc lo (iv y :: iv x :: st) s C o := by
  refine e_op pc' hm hc (st' := iv (x.tmod y) :: st) ?_ hn k
  have e0 : ¬ Int32.ofInt y = 0 := fun e => h0 ((r_eq hy rg0).mp e)
  simp only [am_op, iv]
  rw [if_neg e0, r_div hx hy, Int.tmod_def, Int32.ofInt_sub, Int32.ofInt_mul, Int32.mul_comm]
theorem e_iand (pc' : Nat) (hm : ev_M j nL ret) (hn : pc + 1 = pc') (hc : tb_co j pc = some (.iand, 0, 0, 0)) (k : Ew H w d j pc' lo (iv (i_and x y) :: st) s C o) : Ew H w d j pc lo (iv y :: iv x :: st) s C o := e_op pc' hm hc (by simp only [am_op, iv, i_and, Int32.ofInt_toInt]) hn k
theorem e_ior (pc' : Nat) (hm : ev_M j nL ret) (hn : pc + 1 = pc') (hc : tb_co j pc = some (.ior, 0, 0, 0)) (k : Ew H w d j pc' lo (iv (i_or x y) :: st) s C o) : Ew H w d j pc lo (iv y :: iv x :: st) s C o := e_op pc' hm hc (by simp only [am_op, iv, i_or, Int32.ofInt_toInt]) hn k
theorem e_ixor (pc' : Nat) (hm : ev_M j nL ret) (hn : pc + 1 = pc') (hc : tb_co j pc = some (.ixor, 0, 0, 0)) (k : Ew H w d j pc' lo (iv (i_xor x y) :: st) s C o) : Ew H w d j pc lo (iv y :: iv x :: st) s C o := e_op pc' hm hc (by simp only [am_op, iv, i_xor, Int32.ofInt_toInt]) hn k
theorem e_ishl (pc' : Nat) (hm : ev_M j nL ret) (hn : pc + 1 = pc') (hc : tb_co j pc = some (.ishl, 0, 0, 0)) (k : Ew H w d j pc' lo (iv (i_shl x y) :: st) s C o) : Ew H w d j pc lo (iv y :: iv x :: st) s C o := e_op pc' hm hc (by simp only [am_op, iv, i_shl, Int32.ofInt_toInt]) hn k
theorem e_ishr (pc' : Nat) (hm : ev_M j nL ret) (hn : pc + 1 = pc') (hc : tb_co j pc = some (.ishr, 0, 0, 0)) (k : Ew H w d j pc' lo (iv (i_shr x y) :: st) s C o) : Ew H w d j pc lo (iv y :: iv x :: st) s C o := e_op pc' hm hc (by simp only [am_op, iv, i_shr, Int32.ofInt_toInt]) hn k
theorem e_iushr (pc' : Nat) (hm : ev_M j nL ret) (hn : pc + 1 = pc') (hc : tb_co j pc = some (.iushr, 0, 0, 0)) (k : Ew H w d j pc' lo (iv (i_ushr x y) :: st) s C o) : Ew H w d j pc lo (iv y :: iv x :: st) s C o := e_op pc' hm hc (by simp only [am_op, iv, i_ushr, Int32.ofInt_toInt]) hn k
theorem e_i2s (pc' : Nat) (hm : ev_M j nL ret) (hn : pc + 1 = pc') (hc : tb_co j pc = some (.i2s, 0, 0, 0)) (k : Ew H w d j pc' lo (iv (i_s x) :: st) s C o) : Ew H w d j pc lo (iv x :: st) s C o := e_op pc' hm hc (by simp only [am_op, iv, r_s]) hn k
theorem e_i2c (pc' : Nat) (hm : ev_M j nL ret) (hn : pc + 1 = pc') (hc : tb_co j pc = some (.i2c, 0, 0, 0)) (k : Ew H w d j pc' lo (iv (i_c x) :: st) s C o) : Ew H w d j pc lo (iv x :: st) s C o := e_op pc' hm hc (by simp only [am_op, iv, i_c, Int32.ofInt_toInt]) hn k
theorem e_i2b (pc' : Nat) (hm : ev_M j nL ret) (hn : pc + 1 = pc') (hc : tb_co j pc = some (.i2b, 0, 0, 0)) (k : Ew H w d j pc' lo (iv (i_b x) :: st) s C o) : Ew H w d j pc lo (iv x :: st) s C o := e_op pc' hm hc (by simp only [am_op, iv, i_b, Int32.ofInt_toInt]) hn k
theorem e_i2l (pc' : Nat) (hm : ev_M j nL ret) (hn : pc + 1 = pc') (hc : tb_co j pc = some (.i2l, 0, 0, 0)) (hx : rg x) (k : Ew H w d j pc' lo (lv x :: st) s C o) : Ew H w d j pc lo (iv x :: st) s C o := e_op pc' hm hc (by simp only [am_op, iv, lv]; rw [Int32.toInt64_ofInt hx.1 (Int.le_sub_one_of_lt hx.2)]) hn k
theorem e_l2i (pc' : Nat) (hm : ev_M j nL ret) (hn : pc + 1 = pc') (hc : tb_co j pc = some (.l2i, 0, 0, 0)) (k : Ew H w d j pc' lo (iv x :: st) s C o) : Ew H w d j pc lo (lv x :: st) s C o := e_op pc' hm hc (by simp only [am_op, iv, lv, Int64.toInt32_ofInt]) hn k
theorem e_ladd (pc' : Nat) (hm : ev_M j nL ret) (hn : pc + 1 = pc') (hc : tb_co j pc = some (.ladd, 0, 0, 0)) (k : Ew H w d j pc' lo (lv (x + y) :: st) s C o) : Ew H w d j pc lo (lv y :: lv x :: st) s C o := e_op pc' hm hc (by simp only [am_op, iv, lv, Int64.ofInt_add]) hn k
theorem e_lsub (pc' : Nat) (hm : ev_M j nL ret) (hn : pc + 1 = pc') (hc : tb_co j pc = some (.lsub, 0, 0, 0)) (k : Ew H w d j pc' lo (lv (x - y) :: st) s C o) : Ew H w d j pc lo (lv y :: lv x :: st) s C o := e_op pc' hm hc (by simp only [am_op, iv, lv, Int64.ofInt_sub]) hn k
theorem e_lor (pc' : Nat) (hm : ev_M j nL ret) (hn : pc + 1 = pc') (hc : tb_co j pc = some (.lor, 0, 0, 0)) (k : Ew H w d j pc' lo (lv (l_or x y) :: st) s C o) : Ew H w d j pc lo (lv y :: lv x :: st) s C o := e_op pc' hm hc (by simp only [am_op, iv, lv, l_or, Int64.ofInt_toInt]) hn k
theorem e_land (pc' : Nat) (hm : ev_M j nL ret) (hn : pc + 1 = pc') (hc : tb_co j pc = some (.land, 0, 0, 0)) (k : Ew H w d j pc' lo (lv (l_and x y) :: st) s C o) : Ew H w d j pc lo (lv y :: lv x :: st) s C o := e_op pc' hm hc (by simp only [am_op, iv, lv, l_and, Int64.ofInt_toInt]) hn k
theorem e_lshl (pc' : Nat) (hm : ev_M j nL ret) (hn : pc + 1 = pc') (hc : tb_co j pc = some (.lshl, 0, 0, 0)) (k : Ew H w d j pc' lo (lv (l_shl x y) :: st) s C o) : Ew H w d j pc lo (iv y :: lv x :: st) s C o := e_op pc' hm hc (by simp only [am_op, iv, lv, l_shl, Int64.ofInt_toInt]) hn k
theorem e_lcmp (pc' : Nat) (hm : ev_M j nL ret) (hn : pc + 1 = pc') (hc : tb_co j pc = some (.lcmp, 0, 0, 0)) (k : Ew H w d j pc' lo (iv (l_cmp x y) :: st) s C o) : Ew H w d j pc lo (lv y :: lv x :: st) s C o := e_op pc' hm hc (by simp only [am_op, iv, lv, l_cmp, Int32.ofInt_toInt]) hn k
end AR
end EW
