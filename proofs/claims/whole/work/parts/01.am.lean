/-! THE ABSTRACT MACHINE (am_): one deterministic pure machine over the decoded code, on a heap of numbered cells; what it does, the JVM does (am_sound, a later part). No row here speaks of the class or of the reference: their code comes in as a table. A reference of the abstract machine is a cell's number: below nK the constants, from nK on the cells that were made, in order. -/
abbrev am_C : Type := (Nat × vp_A) ⊕ (Nat × List Value)
abbrev am_L : Type := List (Nat × Value)
/-- an instruction, and what its operand was resolved to -/
abbrev am_I : Type := Instr × Nat × Nat × Nat
/-- a number as an address -/
def am_v (b : Nat → Nat) : Value → Value
  | .ref i => .ref (b i)
  | v => v
def am_q (b : Nat → Nat) (q : Nat × Value) : Nat × Value := (q.1, am_v b q.2)
def am_e (b : Nat → Nat) (cA : Nat → ClassId) : am_C → va_E
  | .inl (t, a) => .inl (cA t, a)
  | .inr (ci, fs) => .inr (ci, fs.map (am_v b))
/-- the cells of a heap as a world, from number n on -/
def am_w (b : Nat → Nat) (cA : Nat → ClassId) : Nat → List am_C → va_W
  | _, [] => []
  | n, c :: h => (b n, am_e b cA c) :: am_w b cA (n + 1) h
theorem am_w_get (b : Nat → Nat) (cA : Nat → ClassId) : ∀ (h : List am_C) (n i : Nat), (am_w b cA n h)[i]? = h[i]?.map (fun c => (b (n + i), am_e b cA c))
  | [], n, i => by simp [am_w]
  | c :: h, n, 0 => by simp [am_w]
  | c :: h, n, i + 1 => by
    rw [am_w, List.getElem?_cons_succ, List.getElem?_cons_succ, am_w_get b cA h (n + 1) i]
    rw [show n + 1 + i = n + (i + 1) by omega]
theorem am_w_set (b : Nat → Nat) (cA : Nat → ClassId) (c' : am_C) : ∀ (h : List am_C) (n i : Nat), (am_w b cA n h).set i (b (n + i), am_e b cA c') = am_w b cA n (h.set i c')
  | [], n, i => by simp [am_w]
  | c :: h, n, 0 => by simp [am_w]
  | c :: h, n, i + 1 => by
    rw [am_w, List.set_cons_succ, List.set_cons_succ, am_w, ← am_w_set b cA c' h (n + 1) i]
    rw [show n + 1 + i = n + (i + 1) by omega]
theorem am_w_app (b : Nat → Nat) (cA : Nat → ClassId) (c' : am_C) : ∀ (h : List am_C) (n : Nat), am_w b cA n (h ++ [c']) = am_w b cA n h ++ [(b (n + h.length), am_e b cA c')]
  | [], n => by simp [am_w]
  | c :: h, n => by
    rw [List.cons_append, am_w, am_w, am_w_app b cA c' h (n + 1), List.cons_append, List.length_cons]
    rw [show n + 1 + h.length = n + (h.length + 1) by omega]
theorem am_w_D {b : Nat → Nat} {cA : Nat → ClassId} {nK base : Nat} (hb : ∀ i, b (nK + i) = base + i) (h : List am_C) : va_D (fun q => base ≤ q) (am_w b cA nK h) := by
  refine ⟨fun i j p q hi hj hpq => ?_, fun k q hk => ?_⟩
  · rw [am_w_get] at hi hj
    obtain ⟨c1, -, rfl⟩ := Option.map_eq_some_iff.mp hi
    obtain ⟨c2, -, rfl⟩ := Option.map_eq_some_iff.mp hj
    simp only [hb] at hpq
    omega
  · rw [am_w_get] at hk
    obtain ⟨c1, -, rfl⟩ := Option.map_eq_some_iff.mp hk
    simp only [hb]
    omega
theorem am_v_cat (b : Nat → Nat) (v : Value) : (am_v b v).category = v.category := by cases v <;> rfl
/-! locals -/
def am_ld (l : am_L) (i : Nat) : Option Value := (l.find? (fun q => q.1 == i)).map (fun q => q.2)
def am_st1 (l : am_L) (i : Nat) (v : Value) : am_L := (i, v) :: l.filter (fun q => !(q.1 == i) && !(q.1 + 1 == i && q.2.category == 2))
def am_st2 (l : am_L) (i : Nat) (v : Value) : am_L := (i, v) :: l.filter (fun q => !(q.1 == i) && (!(q.1 == i + 1) && !(q.1 + 1 == i && q.2.category == 2)))
theorem am_st1_map (b : Nat → Nat) (l : am_L) (i : Nat) (v : Value) : (i, am_v b v) :: (l.map (am_q b)).filter (fun q => !(q.1 == i) && !(q.1 + 1 == i && q.2.category == 2)) = (am_st1 l i v).map (am_q b) := by
  rw [am_st1, List.map_cons, List.filter_map]
  congr 2
  refine List.filter_congr fun q _ => ?_
  simp only [Function.comp, am_q, am_v_cat]
theorem am_st2_map (b : Nat → Nat) (l : am_L) (i : Nat) (v : Value) : (i, am_v b v) :: (l.map (am_q b)).filter (fun q => !(q.1 == i) && (!(q.1 == i + 1) && !(q.1 + 1 == i && q.2.category == 2))) = (am_st2 l i v).map (am_q b) := by
  rw [am_st2, List.map_cons, List.filter_map]
  congr 2
  refine List.filter_congr fun q _ => ?_
  simp only [Function.comp, am_q, am_v_cat]
theorem am_ld_ok {b : Nat → Nat} {l : am_L} {i : Nat} {v : Value} {ls : Array Slot} {nL : Nat} (h : lv_has ls nL (l.map (am_q b))) (hl : am_ld l i = some v) : ls[i]? = some (.val (am_v b v)) := by
  rw [am_ld, Option.map_eq_some_iff] at hl
  obtain ⟨q, hq, rfl⟩ := hl
  have h1 := List.find?_some hq
  have h2 : q.1 = i := by simpa using h1
  subst h2
  exact h.2.2 (q.1, am_v b q.2) (List.mem_map.mpr ⟨q, List.mem_of_find?_eq_some hq, rfl⟩)
theorem am_ld_at {b : Nat → Nat} {l : am_L} {i : Nat} {v : Value} (hl : am_ld l i = some v) : ∃ k : Nat, (l.map (am_q b))[k]? = some (i, am_v b v) := by
  rw [am_ld, Option.map_eq_some_iff] at hl
  obtain ⟨q, hq, rfl⟩ := hl
  have h2 : q.1 = i := by simpa using List.find?_some hq
  obtain ⟨k, hk⟩ := List.getElem?_of_mem (List.mem_of_find?_eq_some hq)
  exact ⟨k, by rw [List.getElem?_map, hk, ← h2]; rfl⟩
/-! what an instruction does to the stack alone -/
def am_op : Instr → List Value → Option (List Value)
  | .iconst n, st => some (.int (Int32.ofInt n) :: st)
  | .bipush n, st => some (.int (Int8.ofInt n).toInt32 :: st)
  | .sipush n, st => some (.int (Int16.ofInt n).toInt32 :: st)
  | .lconst n, st => some (.long (Int64.ofNat (n : Nat)) :: st)
  | .aconst_null, st => some (.null :: st)
  | .iadd, .int y :: .int x :: st => some (.int (x + y) :: st)
  | .isub, .int y :: .int x :: st => some (.int (x - y) :: st)
  | .imul, .int y :: .int x :: st => some (.int (x * y) :: st)
  | .idiv, .int y :: .int x :: st => if y = 0 then none else some (.int (x / y) :: st)
  | .irem, .int y :: .int x :: st => if y = 0 then none else some (.int (x - x / y * y) :: st)
  | .ineg, .int x :: st => some (.int (-x) :: st)
  | .iand, .int y :: .int x :: st => some (.int (x &&& y) :: st)
  | .ior, .int y :: .int x :: st => some (.int (x ||| y) :: st)
  | .ixor, .int y :: .int x :: st => some (.int (x ^^^ y) :: st)
  | .ishl, .int y :: .int x :: st => some (.int (x <<< (y &&& 31)) :: st)
  | .ishr, .int y :: .int x :: st => some (.int (x >>> (y &&& 31)) :: st)
  | .iushr, .int y :: .int x :: st => some (.int (x.toUInt32 >>> (y.toUInt32 &&& Int32.toUInt32 31)).toInt32 :: st)
  | .ladd, .long y :: .long x :: st => some (.long (x + y) :: st)
  | .lsub, .long y :: .long x :: st => some (.long (x - y) :: st)
  | .land, .long y :: .long x :: st => some (.long (x &&& y) :: st)
  | .lor, .long y :: .long x :: st => some (.long (x ||| y) :: st)
  | .lxor, .long y :: .long x :: st => some (.long (x ^^^ y) :: st)
  | .lshl, .int y :: .long x :: st => some (.long (x <<< (y.toInt64 &&& 63)) :: st)
  | .lcmp, .long y :: .long x :: st => some (.int (lg_cmp x y) :: st)
  | .i2l, .int x :: st => some (.long x.toInt64 :: st)
  | .l2i, .long x :: st => some (.int x.toInt32 :: st)
  | .i2b, .int x :: st => some (.int x.toInt8.toInt32 :: st)
  | .i2s, .int x :: st => some (.int x.toInt16.toInt32 :: st)
  | .i2c, .int x :: st => some (.int (x.toUInt32 % 65536).toInt32 :: st)
  | .dup, v :: st => if v.category = 1 then some (v :: v :: st) else none
  | .pop, v :: st => if v.category = 1 then some st else none
  | .dup_x1, v :: w :: st => if v.category = 1 ∧ w.category = 1 then some (v :: w :: v :: st) else none
  | .dup2, v :: w :: st => if v.category = 1 ∧ w.category = 1 then some (v :: w :: v :: w :: st) else none
  | _, _ => none
/-- how many bytes such an instruction has -/
def am_len : Instr → Nat
  | .bipush _ => 2
  | .sipush _ => 3
  | .iload _ => 2
  | .lload _ => 2
  | .aload _ => 2
  | .istore _ => 2
  | .lstore _ => 2
  | .astore _ => 2
  | .iinc _ _ => 3
  | .ifCond _ _ => 3
  | .if_icmp _ _ => 3
  | .ifnull _ => 3
  | .ifnonnull _ => 3
  | .goto _ => 3
  | .getfield _ => 3
  | .putfield _ => 3
  | .getstatic _ => 3
  | .new _ => 3
  | .newarray _ => 2
  | .ldc _ => 2
  | .ldc_w _ => 3
  | .ldc2_w _ => 3
  | .checkcast _ => 3
  | .invokevirtual _ => 3
  | .invokestatic _ => 3
  | .invokespecial _ => 3
  | _ => 1
section AMOP
variable {p : Program} {l : Launch} {e : Env} {R : Room} {s : State} {m : MethodId} {args : Array Value} {below : List Frame} {meth : Method} {c : Code} {H : Heap} {locs : List Loc} {cells slots : Nat} {Q : State → Prop}
variable {cc : ByteArray} {pc : Nat} {ls : Array Slot}
theorem am_op_ok (hexec : p.tables.exec = Jvm.exec) (hb : c.code = cc) (b : Nat → Nat) {i : Instr} {st st' : List Value} (hdg : decode cc pc = .ok (i, am_len i)) (h : am_op i st = some st')
    (k : W p l e R s m args below meth c H locs cells slots Q (F0 m (pc + am_len i) ls (st'.map (am_v b)))) : W p l e R s m args below meth c H locs cells slots Q (F0 m pc ls (st.map (am_v b))) := by
  unfold am_op at h
  split at h
  · cases h; exact lv_iconst hexec hb hdg rfl k
  · cases h; exact lv_bipush hexec hb hdg rfl k
  · cases h; exact lv_sipush hexec hb hdg rfl k
  · cases h; exact lv_lconst hexec hb hdg rfl k
  · cases h; exact lv_null hexec hb hdg k
  · cases h; exact lv_iadd hexec hb hdg k
  · cases h; exact lv_isub hexec hb hdg k
  · cases h; exact lv_imul hexec hb hdg k
  · split at h
    · cases h
    · cases h; exact lv_idiv hexec hb hdg (by assumption) k
  · split at h
    · cases h
    · cases h; exact lv_irem hexec hb hdg (by assumption) k
  · cases h; exact lv_ineg hexec hb hdg k
  · cases h; exact lv_iand hexec hb hdg k
  · cases h; exact lv_ior hexec hb hdg k
  · cases h; exact lv_ixor hexec hb hdg k
  · cases h; exact lv_ishl hexec hb hdg k
  · cases h; exact lv_ishr hexec hb hdg k
  · cases h; exact lv_iushr hexec hb hdg rfl k
  · cases h; exact lv_ladd hexec hb hdg k
  · cases h; exact lv_lsub hexec hb hdg k
  · cases h; exact lv_land hexec hb hdg k
  · cases h; exact lv_lor hexec hb hdg k
  · cases h; exact lv_lxor hexec hb hdg k
  · cases h; exact lv_lshl hexec hb hdg rfl k
  · cases h; exact W.lcmp hexec hb hdg k
  · cases h; exact lv_i2l hexec hb hdg rfl k
  · cases h; exact lv_l2i hexec hb hdg rfl k
  · cases h; exact lv_i2b hexec hb hdg rfl k
  · cases h; exact lv_i2s hexec hb hdg rfl k
  · cases h; exact lv_i2c hexec hb hdg rfl k
  · split at h
    · cases h; exact lv_dup hexec hb hdg (by rw [am_v_cat]; assumption) k
    · cases h
  · split at h
    · cases h; exact lv_pop hexec hb hdg (by rw [am_v_cat]; assumption) k
    · cases h
  · split at h
    · rename_i hc
      cases h; exact lv_dup_x1 hexec hb hdg (by rw [am_v_cat]; exact hc.1) (by rw [am_v_cat]; exact hc.2) k
    · cases h
  · split at h
    · rename_i hc
      cases h; exact lv_dup2_11 hexec hb hdg (by rw [am_v_cat]; exact hc.1) (by rw [am_v_cat]; exact hc.2) k
    · cases h
  · cases h
end AMOP
