/-! the abstract machine: locals and jumps -/
def am_mv (nL : Nat) : Instr → am_L → List Value → Option (am_L × List Value)
  | .iload_n k, l, st => match am_ld l k with | some (.int x) => some (l, .int x :: st) | _ => none
  | .iload i, l, st => match am_ld l i with | some (.int x) => some (l, .int x :: st) | _ => none
  | .lload_n k, l, st => match am_ld l k with | some (.long x) => some (l, .long x :: st) | _ => none
  | .lload i, l, st => match am_ld l i with | some (.long x) => some (l, .long x :: st) | _ => none
  | .aload_n k, l, st => match am_ld l k with | some (.ref x) => some (l, .ref x :: st) | some .null => some (l, .null :: st) | _ => none
  | .aload i, l, st => match am_ld l i with | some (.ref x) => some (l, .ref x :: st) | some .null => some (l, .null :: st) | _ => none
  | .istore_n k, l, .int x :: st => if (k : Nat) < nL then some (am_st1 l k (.int x), st) else none
  | .istore i, l, .int x :: st => if i < nL then some (am_st1 l i (.int x), st) else none
  | .lstore_n k, l, .long x :: st => if (k : Nat) + 1 < nL then some (am_st2 l k (.long x), st) else none
  | .lstore i, l, .long x :: st => if i + 1 < nL then some (am_st2 l i (.long x), st) else none
  | .astore_n k, l, .ref x :: st => if (k : Nat) < nL then some (am_st1 l k (.ref x), st) else none
  | .astore i, l, .ref x :: st => if i < nL then some (am_st1 l i (.ref x), st) else none
  | .iinc i n, l, st => match am_ld l i with | some (.int x) => if i < nL then some (am_st1 l i (.int (x + Int32.ofInt n)), st) else none | _ => none
  | _, _, _ => none
/-- a jump: whether, by how much, what stays on the stack -/
def am_br : Instr → List Value → Option (Bool × Int × List Value)
  | .ifCond .eq off, .int x :: st => some (decide (x = 0), off, st)
  | .ifCond .ne off, .int x :: st => some (decide (¬ x = 0), off, st)
  | .ifCond .lt off, .int x :: st => some (decide (x < 0), off, st)
  | .ifCond .ge off, .int x :: st => some (decide (0 ≤ x), off, st)
  | .ifCond .gt off, .int x :: st => some (decide (0 < x), off, st)
  | .ifCond .le off, .int x :: st => some (decide (x ≤ 0), off, st)
  | .if_icmp .eq off, .int y :: .int x :: st => some (decide (x = y), off, st)
  | .if_icmp .ne off, .int y :: .int x :: st => some (decide (¬ x = y), off, st)
  | .if_icmp .lt off, .int y :: .int x :: st => some (decide (x < y), off, st)
  | .if_icmp .ge off, .int y :: .int x :: st => some (decide (y ≤ x), off, st)
  | .if_icmp .gt off, .int y :: .int x :: st => some (decide (y < x), off, st)
  | .if_icmp .le off, .int y :: .int x :: st => some (decide (x ≤ y), off, st)
  | .ifnull off, .ref _ :: st => some (false, off, st)
  | .ifnull off, .null :: st => some (true, off, st)
  | .ifnonnull off, .ref _ :: st => some (true, off, st)
  | .ifnonnull off, .null :: st => some (false, off, st)
  | .goto off, st => some (true, off, st)
  | _, _ => none
/-- a switch: by how much, what stays on the stack -/
def am_sw : Instr → List Value → Option (Int × List Value)
  | .tableswitch dflt lo hi offs, .int x :: st => if x.toInt < lo ∨ hi < x.toInt then some (dflt, st) else match offs[(x.toInt - lo).toNat]? with | some o => some (o, st) | none => none
  | .lookupswitch dflt ps, .int x :: st => if (ps.toList.zip (ps.toList.drop 1)).all (fun (a, next) => a.1 < next.1) = true then some (Op.lookupswitch.offset ps.toList dflt x.toInt, st) else none
  | _, _ => none
section AMMV
variable {p : Program} {l : Launch} {e : Env} {R : Room} {s : State} {m : MethodId} {args : Array Value} {below : List Frame} {meth : Method} {c : Code} {H : Heap} {locs : List Loc} {cells slots : Nat} {Q : State → Prop}
variable {cc : ByteArray} {pc : Nat} {ls : Array Slot}
theorem am_mv_ok (hexec : p.tables.exec = Jvm.exec) (hb : c.code = cc) (b : Nat → Nat) {i : Instr} {nL : Nat} {lo lo' : am_L} {st st' : List Value} (hl : lv_has ls nL (lo.map (am_q b))) (hdg : decode cc pc = .ok (i, am_len i)) (h : am_mv nL i lo st = some (lo', st'))
    (k : ∀ ls' : Array Slot, lv_has ls' nL (lo'.map (am_q b)) → W p l e R s m args below meth c H locs cells slots Q (F0 m (pc + am_len i) ls' (st'.map (am_v b)))) : W p l e R s m args below meth c H locs cells slots Q (F0 m pc ls (st.map (am_v b))) := by
  unfold am_mv at h
  split at h
  · split at h
    · rename_i hx; cases h; exact lv_iload_n hexec hb hdg rfl (am_ld_ok hl hx) (k ls hl)
    · cases h
  · split at h
    · rename_i hx; cases h; exact lv_iload hexec hb hdg (am_ld_ok hl hx) (k ls hl)
    · cases h
  · split at h
    · rename_i hx; cases h; exact lv_lload_n hexec hb hdg rfl (am_ld_ok hl hx) (k ls hl)
    · cases h
  · split at h
    · rename_i hx; cases h; exact lv_lload hexec hb hdg (am_ld_ok hl hx) (k ls hl)
    · cases h
  · split at h
    · rename_i hx; cases h; exact lv_aload_n hexec hb hdg rfl (am_ld_ok hl hx) (k ls hl)
    · rename_i hx; cases h; exact lv_aload_nN hexec hb hdg rfl (am_ld_ok hl hx) (k ls hl)
    · cases h
  · split at h
    · rename_i hx; cases h; exact lv_aload hexec hb hdg (am_ld_ok hl hx) (k ls hl)
    · rename_i hx; cases h; exact lv_aloadN hexec hb hdg (am_ld_ok hl hx) (k ls hl)
    · cases h
  · split at h
    · rename_i hn; cases h; exact lv_istore_n hexec hb hdg rfl hl hn (am_st1_map b lo _ (.int _)) k
    · cases h
  · split at h
    · rename_i hn; cases h; exact lv_istore hexec hb hdg hl hn (am_st1_map b lo _ (.int _)) k
    · cases h
  · split at h
    · rename_i hn; cases h; exact lv_lstore_n hexec hb hdg rfl hl hn (am_st2_map b lo _ (.long _)) k
    · cases h
  · split at h
    · rename_i hn; cases h; exact lv_lstore hexec hb hdg hl hn (am_st2_map b lo _ (.long _)) k
    · cases h
  · split at h
    · rename_i hn; cases h; exact lv_astore_n hexec hb hdg rfl hl hn (am_st1_map b lo _ (.ref _)) k
    · cases h
  · split at h
    · rename_i hn; cases h; exact lv_astore hexec hb hdg hl hn (am_st1_map b lo _ (.ref _)) k
    · cases h
  · split at h
    · rename_i hx
      split at h
      · rename_i hn
        cases h
        obtain ⟨kk, hk⟩ := am_ld_at (b := b) hx
        exact lv_iinc hexec hb hdg hl hk rfl hn (am_st1_map b lo _ (.int _)) k
      · cases h
    · cases h
  · cases h
theorem am_br_ok (hexec : p.tables.exec = Jvm.exec) (hb : c.code = cc) (b : Nat → Nat) {i : Instr} {st st' : List Value} {t : Bool} {off : Int} {tgt : Nat} (hdg : decode cc pc = .ok (i, am_len i)) (h : am_br i st = some (t, off, st')) (hT : (pc : Int) + off = (tgt : Int))
    (k1 : t = true → W p l e R s m args below meth c H locs cells slots Q (F0 m tgt ls (st'.map (am_v b)))) (k2 : t = false → W p l e R s m args below meth c H locs cells slots Q (F0 m (pc + am_len i) ls (st'.map (am_v b)))) : W p l e R s m args below meth c H locs cells slots Q (F0 m pc ls (st.map (am_v b))) := by
  have key : ∀ {P : Prop} [Decidable P] {A B : Prop}, (decide P = true → A) → (decide P = false → B) → (P → A) ∧ (¬ P → B) := fun f g => ⟨fun h => f (decide_eq_true h), fun h => g (decide_eq_false h)⟩
  unfold am_br at h
  split at h
  all_goals (first | cases h | skip)
  · exact lv_if_eq hexec hb hdg hT (key k1 k2).1 (key k1 k2).2
  · exact lv_if_ne hexec hb hdg hT (key k1 k2).1 (fun h => (key k1 k2).2 (fun q => q h))
  · exact lv_if_lt hexec hb hdg hT (key k1 k2).1 (key k1 k2).2
  · exact lv_if_ge hexec hb hdg hT (key k1 k2).1 (key k1 k2).2
  · exact lv_if_gt hexec hb hdg hT (key k1 k2).1 (key k1 k2).2
  · exact lv_if_le hexec hb hdg hT (key k1 k2).1 (key k1 k2).2
  · exact lv_icmp_eq hexec hb hdg hT (key k1 k2).1 (key k1 k2).2
  · exact lv_icmp_ne hexec hb hdg hT (key k1 k2).1 (fun h => (key k1 k2).2 (fun q => q h))
  · exact lv_icmp_lt hexec hb hdg hT (key k1 k2).1 (key k1 k2).2
  · exact lv_icmp_ge hexec hb hdg hT (key k1 k2).1 (key k1 k2).2
  · exact lv_icmp_gt hexec hb hdg hT (key k1 k2).1 (key k1 k2).2
  · exact lv_icmp_le hexec hb hdg hT (key k1 k2).1 (key k1 k2).2
  · exact lv_ifnull hexec hb hdg (k2 rfl)
  · exact lv_ifnullN hexec hb hdg hT (k1 rfl)
  · exact lv_ifnonnull hexec hb hdg hT (k1 rfl)
  · exact lv_ifnonnullN hexec hb hdg (k2 rfl)
  · exact lv_goto hexec hb hdg hT (k1 rfl)
theorem am_sw_ok (hexec : p.tables.exec = Jvm.exec) (hb : c.code = cc) (b : Nat → Nat) {i : Instr} {len : Nat} {st st' : List Value} {off : Int} {tgt : Nat} (hdg : decode cc pc = .ok (i, len)) (h : am_sw i st = some (off, st')) (ht : (pc : Int) + off = (tgt : Int))
    (k : W p l e R s m args below meth c H locs cells slots Q (F0 m tgt ls (st'.map (am_v b)))) : W p l e R s m args below meth c H locs cells slots Q (F0 m pc ls (st.map (am_v b))) := by
  unfold am_sw at h
  split at h
  · split at h
    · rename_i ho
      cases h
      exact lv_tableOut hexec hb hdg ho ht k
    · rename_i ho
      split at h
      · rename_i hoff
        cases h
        exact lv_tableIn hexec hb hdg (fun q => ho (Or.inl q)) (fun q => ho (Or.inr q)) hoff ht k
      · cases h
  · split at h
    · rename_i hp
      cases h
      exact lv_lookup hexec hb hdg hp rfl ht k
    · cases h
  · cases h
end AMMV
