/-! the linker: the abstract machine's code out of the class files' bytes and the tables' words -/
def tb_c : List (List Cond) := [k2_sels lw_privs, tables_1_1, tables_1_2, tables_1_3, tables_1_4, tables_1_5, tables_1_6, tables_1_7, tables_1_8, tables_1_9, tables_1_10, tables_1_11, tables_1_12, tables_1_13, tables_1_14, [Jvm.Cond.code x code maxLocals ret]]
/-- the words, those that stay true -/
def tb_w : List Cond := tb_c.flatten.filter goodWord
/-- the word stands at this place -/
def tb_has (q : Nat × Nat) (w : Cond) : Bool := decide ((tb_c.getD q.1 [])[q.2]? = some w) && goodWord w
theorem tb_in {q : Nat × Nat} {w : Cond} (h : tb_has q w = true) : w ∈ tb_w := by
  unfold tb_has at h
  rw [Bool.and_eq_true, decide_eq_true_eq] at h
  refine List.mem_filter.mpr ⟨List.mem_flatten.mpr ?_, h.2⟩
  have h1 := List.mem_of_getElem? h.1
  by_cases hq : q.1 < tb_c.length
  · refine ⟨tb_c[q.1], List.getElem_mem hq, ?_⟩
    rw [List.getD_eq_getElem?_getD, List.getElem?_eq_getElem hq] at h1
    exact h1
  · rw [List.getD_eq_getElem?_getD, List.getElem?_eq_none (Nat.le_of_not_lt hq)] at h1
    cases h1
theorem tb_good : ∀ w ∈ tb_w, (w.onTables && w.keeps) = true ∨ ∃ ty, w = .arrayClass ty := fun w hw => good_of_word (List.mem_filter.mp hw).2
/-- a link's word: among the words, or a nest mate's -/
def tb_lk (q : Nat × Nat) (w : Cond) (nw : String → Cond) : Bool := if q.1 = 100 then (match tb_n[q.2]? with
    | some (.fieldLinkNest a i r n d hst) => decide (Cond.fieldLinkNest a i r n d hst = nw hst)
    | some (.methodLinkNest a i y hst) => decide (Cond.methodLinkNest a i y hst = nw hst)
    | _ => false) else tb_has q w
theorem tb_lk_ok {q : Nat × Nat} {w : Cond} {nw : String → Cond} (h : tb_lk q w nw = true) : w ∈ tb_w ∨ ∃ hst, nw hst ∈ tb_n := by
  unfold tb_lk at h
  split at h
  · split at h
    · rename_i a i r n d hst hn
      rw [decide_eq_true_eq] at h
      exact Or.inr ⟨hst, by rw [← h]; exact List.mem_of_getElem? hn⟩
    · rename_i a i y hst hn
      rw [decide_eq_true_eq] at h
      exact Or.inr ⟨hst, by rw [← h]; exact List.mem_of_getElem? hn⟩
    · cases h
  · exact Or.inl (tb_in h)
def tb_own (o : Nat) : String := tb_on.getD o ""
def tb_fd {α : Type} (L : List (List (Nat × α))) (o ix : Nat) : Option α := ((L.getD o []).find? (fun q => q.1 == ix)).map (fun q => q.2)
theorem tb_fd_in {α : Type} {L : List (List (Nat × α))} {o ix : Nat} {a : α} (h : tb_fd L o ix = some a) : ∃ g, L[o]? = some g ∧ (ix, a) ∈ g := by
  unfold tb_fd at h
  rw [Option.map_eq_some_iff] at h
  obtain ⟨q, hq, rfl⟩ := h
  have h1 : q.1 = ix := by simpa using List.find?_some hq
  have h2 := List.mem_of_find?_eq_some hq
  subst h1
  rw [List.getD_eq_getElem?_getD] at h2
  cases hL : L[o]? with
  | none => rw [hL] at h2; cases h2
  | some g => rw [hL] at h2; exact ⟨g, rfl, h2⟩
/-- an instruction with its operand resolved -/
def tb_res (o : Nat) (init : Bool) : Instr → Option am_I
  | .getfield ix => match tb_fd tb_LF o ix with
    | some (ci, k, _, _) => some (.getfield ix, ci, k, 0)
    | none => match tb_fd tb_LK o ix with
      | some (k, _) => some (.getfield ix, 0, k, 5)
      | none => none
  | .putfield ix => match tb_fd tb_LF o ix with
    | some (ci, k, f, _) => if f = 0 ∨ (f = 1 ∧ init = true) then some (.putfield ix, ci, k, 0) else none
    | none => none
  | .getstatic ix => match tb_fd tb_LZ o ix with
    | some (r, _) => some (.getstatic ix, r, 0, 0)
    | none => none
  | .new ix => match tb_fd tb_LN o ix with
    | some (ci, _) => some (.new ix, ci, 0, 0)
    | none => none
  | .newarray a => some (.newarray a, 0, 0, 0)
  | .ldc ix => match tb_fd tb_LC o ix with
    | some (v, _) => some (.ldc ix, v, 0, 0)
    | none => match tb_fd tb_LR o ix with
      | some r => some (.ldc ix, r, 0, 1)
      | none => none
  | .ldc_w ix => match tb_fd tb_LC o ix with
    | some (v, _) => some (.ldc_w ix, v, 0, 0)
    | none => match tb_fd tb_LR o ix with
      | some r => some (.ldc_w ix, r, 0, 1)
      | none => none
  | .ldc2_w ix => match tb_fd tb_LL o ix with
    | some (v, _) => some (.ldc2_w ix, v, 0, 0)
    | none => none
  | .invokestatic ix => match tb_fd tb_LM o ix with
    | some (j, n, r, _) => if r = 200 then some (.invokestatic ix, j, n, 0) else none
    | none => match tb_fd tb_LX o ix with
      | some (r, _) => if r = 0 then some (.invokestatic ix, 0, 0, 9) else none
      | none => none
  | .invokespecial ix => match tb_fd tb_LM o ix with
    | some (j, n, r, _) => if r = 201 then some (.invokespecial ix, j, n, 0) else none
    | none => match tb_fd tb_LX o ix with
      | some (r, _) => if r = 1 then some (.invokespecial ix, 0, 0, 9) else none
      | none => none
  | .invokevirtual ix => match tb_fd tb_LM o ix with
    | some (j, n, r, _) => if r < 200 then some (.invokevirtual ix, j, n, r) else none
    | none => none
  | i => some (i, 0, 0, 0)
/-- a method as the word at this place tells it -/
def tb_ex (q : Nat × Nat) : Option (MethodName × ByteArray × Nat × Option FieldType) := match (tb_c.getD q.1 [])[q.2]? with
  | some (.code y bytes nL ret) => some (y, bytes, nL, ret)
  | _ => none
def tb_mt : am_T := fun j => match tb_p[j]? with
  | none => none
  | some q => tb_ex q.1
def tb_o (j : Nat) : Nat := match tb_m[j]? with
  | none => 99
  | some q => q.2.2.2.2
def tb_co : am_P := fun j pc => match tb_mt j with
  | none => none
  | some (y, bytes, _, _) => match decode bytes pc with
    | .ok (i, len) => if am_isw i = true ∨ len = am_len i then tb_res (tb_o j) (y.name == "<init>") i else none
    | _ => none
theorem tb_ex_in {q : Nat × Nat} {y : MethodName} {bytes : ByteArray} {nL : Nat} {ret : Option FieldType} (h : tb_ex q = some (y, bytes, nL, ret)) : Cond.code y bytes nL ret ∈ tb_w := by
  unfold tb_ex at h
  split at h
  · rename_i y2 b2 n2 r2 hq
    cases h
    refine List.mem_filter.mpr ⟨List.mem_flatten.mpr ?_, rfl⟩
    have h1 := List.mem_of_getElem? hq
    by_cases hl : q.1 < tb_c.length
    · refine ⟨tb_c[q.1], List.getElem_mem hl, ?_⟩
      rw [List.getD_eq_getElem?_getD, List.getElem?_eq_getElem hl] at h1
      exact h1
    · rw [List.getD_eq_getElem?_getD, List.getElem?_eq_none (Nat.le_of_not_lt hl)] at h1
      cases h1
  · cases h
/-! what must be so of each row of the tables: by program, decided -/
def tb_all {α : Type} (L : List (List α)) (ck : Nat → α → Bool) : Bool := (List.range L.length).all (fun o => (L.getD o []).all (ck o))
theorem tb_all_at {α : Type} {L : List (List α)} {ck : Nat → α → Bool} (h : tb_all L ck = true) {o : Nat} {g : List α} (hg : L[o]? = some g) {q : α} (hq : q ∈ g) : ck o q = true := by
  have h1 := List.all_eq_true.mp h o (List.mem_range.mpr (List.getElem?_eq_some_iff.mp hg).1)
  refine List.all_eq_true.mp h1 q ?_
  rw [List.getD_eq_getElem?_getD, hg]
  exact hq
def ck_F (o : Nat) (q : Nat × Nat × Nat × Nat × (Nat × Nat)) : Bool := match tb_cl[q.2.1]? with
  | none => false
  | some (_, T, N) => decide (q.2.2.1 < N) && tb_lk q.2.2.2.2 (.fieldLink (tb_own o) q.1 (T q.2.2.1).1 (T q.2.2.1).2.1 (T q.2.2.1).2.2.1) (fun hst => .fieldLinkNest (tb_own o) q.1 (T q.2.2.1).1 (T q.2.2.1).2.1 (T q.2.2.1).2.2.1 hst) &&
    (if q.2.2.2.1 = 0 then !(T q.2.2.1).2.2.2 else if q.2.2.2.1 = 1 then (T q.2.2.1).2.2.2 && decide ((T q.2.2.1).1 = tb_own o) && decide (q.2.2.2.2.1 ≠ 100) else true)
def ck_K (o : Nat) (q : Nat × Nat × (Nat × Nat)) : Bool := match tb_FN[q.2.1]? with
  | none => false
  | some f => tb_has q.2.2 (.fieldLink (tb_own o) q.1 f.1 f.2.1 f.2.2)
def ck_Z (o : Nat) (q : Nat × Nat × (Nat × Nat)) : Bool := match (tb_SZ .null)[q.2.1]? with
  | none => false
  | some z => tb_lk q.2.2 (.fieldLink (tb_own o) q.1 z.1 z.2.1 z.2.2.1) (fun hst => .fieldLinkNest (tb_own o) q.1 z.1 z.2.1 z.2.2.1 hst)
def ck_N (o : Nat) (q : Nat × Nat × (Nat × Nat)) : Bool := match tb_cl[q.2.1]? with
  | none => false
  | some (C, _, _) => tb_has q.2.2 (.classLink (tb_own o) q.1 C)
def ck_C (o : Nat) (q : Nat × Nat × (Nat × Nat)) : Bool := tb_has q.2.2 (.constant (tb_own o) q.1 (Int32.ofNat q.2.1))
def ck_L (o : Nat) (q : Nat × Nat × (Nat × Nat)) : Bool := tb_has q.2.2 (.constantLong (tb_own o) q.1 (Int64.ofNat q.2.1))
def ck_R (o : Nat) (q : Nat × Nat) : Bool := match tb_SR[q.2]? with
  | none => false
  | some z => decide (z.1 = tb_own o) && decide (z.2.1 = q.1)
def ck_X (o : Nat) (q : Nat × Nat × (Nat × Nat)) : Bool := if q.2.1 = 0 then tb_has q.2.2 (.methodLink (tb_own o) q.1 arraycopyName) else tb_has q.2.2 (.methodLink (tb_own o) q.1 objectInit)
def ck_M (o : Nat) (q : Nat × Nat × Nat × Nat × (Nat × Nat)) : Bool := match tb_mt q.2.1, tb_p[q.2.1]? with
  | some (y, _, _, ret), some (_, pk, ps, pi) => tb_lk q.2.2.2.2 (.methodLink (tb_own o) q.1 y) (fun hst => .methodLinkNest (tb_own o) q.1 y hst) && decide ((parseMethodDescriptor y.desc).map (fun d => d.parameters.length) = some q.2.2.1) && tb_has pi (.initialized y.cls) &&
    (if q.2.2.2.1 = 200 then tb_has pk (.static y) else if q.2.2.2.1 = 201 then tb_has pk (.instanceMethod y) && decide (y.name = "<init>") && decide (ret = none) else tb_has pk (.instanceMethod y) && tb_has ps (.selects y.cls y y) &&
      (if q.2.2.2.1 = 99 then decide (y.cls = "java/lang/String") else match tb_cl[q.2.2.2.1]? with | some (C, _, _) => decide (C = y.cls) | none => false))
  | _, _ => false
def ck_J (j : Nat) : Bool := match tb_mt j with
  | some (y, _, nL, _) => decide (y.cls ≠ "java/lang/invoke/MethodHandle") && decide (y.cls ≠ "java/lang/invoke/VarHandle") && decide (nL ≤ 40) && decide (tb_own (tb_o j) = y.cls)
  | _ => false
/-- the owners of whose methods none is run otherwise -/
def ck_P (o : Nat) : Bool := plainName (tb_own o)
def ck_cl (ci : Nat) : Bool := match tb_cl[ci]?, tb_ip[ci]? with
  | some (C, T, N), some (pi, pn) => tb_has pi (.instantiable C N) && tb_has pn (.initialized C) && decide ((tb_df ci).length = N) && (List.range N).all (fun k => decide (parseFieldDescriptor (T k).2.2.1 = some (tb_ft ci k)) && decide (defaultValue (tb_ft ci k) = vp_V (tb_df ci) k) && tb_has ((tb_fp.getD ci []).getD k (99, 0)) (u_lay C T k)) &&
    (tb_df ci).all (fun v => match v with | .ref _ => false | _ => true) && decide (((List.range N).map (fun k => (T k).2.1)).Nodup)
  | _, _ => false
def ck_x : Bool := tb_has tb_xp.1 (.native arraycopyName) && tb_has tb_xp.2.1 (.static arraycopyName) && tb_has tb_xp.2.2.1 (.initialized "java/lang/System") && tb_has tb_xp.2.2.2.1 (.instanceMethod objectInit) && tb_has tb_xp.2.2.2.2 (.code objectInit ⟨#[0xb1]⟩ 1 none) && tb_has tb_ap.1 (.arrayClass .int) && tb_has tb_ap.2.1 (.arrayClass .long) && tb_has tb_ap.2.2 (.arrayClass .boolean)
