/-! the constants' facts at the law's start -/
def tb_hasw (q : Nat × Nat) (w : Cond) : Bool := decide ((tb_c.getD q.1 [])[q.2]? = some w)
theorem tb_inw {q : Nat × Nat} {w : Cond} (h : tb_hasw q w = true) : w ∈ tb_c.flatten := by
  unfold tb_hasw at h
  rw [decide_eq_true_eq] at h
  refine List.mem_flatten.mpr ?_
  have h1 := List.mem_of_getElem? h
  by_cases hq : q.1 < tb_c.length
  · refine ⟨tb_c[q.1], List.getElem_mem hq, ?_⟩
    rw [List.getD_eq_getElem?_getD, List.getElem?_eq_getElem hq] at h1
    exact h1
  · rw [List.getD_eq_getElem?_getD, List.getElem?_eq_none (Nat.le_of_not_lt hq)] at h1
    cases h1
def ck_n (i : Nat) : Bool := match tb_n[i]?, tb_np[i]? with
  | some w, some q => tb_hasw q w
  | _, _ => false
theorem kx_n : (List.range tb_n.length).all ck_n = true := by decide +kernel
def ck_sr (r : Nat) : Bool := match tb_SR[r]?, tb_srp[r]? with
  | some z, some q => tb_hasw q (.stringRef z.1 z.2.1 z.2.2.1)
  | _, _ => false
theorem kx_sr : (List.range 26).all ck_sr = true := by decide +kernel
theorem kx_sr2 : tb_SR = (tb_ss.zipIdx).map (fun y => (y.1.1, y.1.2.1, y.1.2.2.1, 13 + y.2)) := by decide +kernel
def ck_sz (r : Nat) : Bool := match (tb_SZ .null)[r]?, tb_szp[r]? with
  | some z, some q => tb_hasw q.1 (.laysStatic z.1 z.2.1 z.2.2.1) && tb_hasw q.2 (.initialized z.1) && (match z.2.2.2 with
    | .int x => decide (Cond.eq (.static z.1 z.2.1 z.2.2.1) (.int x) ∈ nw_l)
    | .ref a => (match tb_sa[a - 1]? with
      | some y => decide (y.1 = z.1) && decide (y.2.1 = z.2.1) && decide (y.2.2.1 = z.2.2.1) && decide (1 ≤ a)
      | none => false)
    | .null => decide (Cond.isRef (.static z.1 z.2.1 z.2.2.1) ∈ nw_l)
    | _ => false)
  | _, _ => false
theorem kx_sz : (List.range 17).all ck_sz = true := by decide +kernel
theorem tb_SZ_v (v : Value) : (tb_SZ v).map (fun z => z.2.2.2) = (tb_SZ .null).map (fun z => if z.2.2.2 = .null then v else z.2.2.2) := by
  simp [tb_SZ]
theorem tb_SZ_len (v : Value) : (tb_SZ v).length = 17 := rfl
theorem tb_fm : (tb_SZ .null)[1]? = some ("jdk/internal/util/Preconditions", "SIOOBE_FORMATTER", "Ljava/util/function/BiFunction;", .null) := rfl
theorem tb_only : ∀ (r : Nat) (z : String × String × String × Value), (tb_SZ .null)[r]? = some z → z.2.2.2 = .null → z = ("jdk/internal/util/Preconditions", "SIOOBE_FORMATTER", "Ljava/util/function/BiFunction;", .null) := by
  intro r z hz hn
  have h1 : ∀ z ∈ tb_SZ .null, z.2.2.2 = .null → z = ("jdk/internal/util/Preconditions", "SIOOBE_FORMATTER", "Ljava/util/function/BiFunction;", .null) := by decide +kernel
  exact h1 z (List.mem_of_getElem? hz) hn
theorem tb_sa_at {args : Array Value} {s : State} (hs : ∀ c ∈ nw_l, c.before args s = true) {A : Nat → Prop} (hA : ∀ a : Nat, a < s.heap.size → ¬ A a) {k : Nat} {z : String × String × String × FieldType × List Int32} (hz : tb_sa[k]? = some z) :
    ∃ t : Nat, (Term.static z.1 z.2.1 z.2.2.1).eval args s none [] s = some (.ref t) ∧ va_T z.2.2.2.1 t z.2.2.2.2.length (fun j => .int (z.2.2.2.2.getD j 0)) A s s.heap := by
  have hk : k < 12 := (List.getElem?_eq_some_iff.mp hz).1
  have h : nw_sa k = true := by
    by_cases h6 : k < 6
    · exact List.all_eq_true.mp nx_sa0 k (List.mem_range.mpr h6)
    · refine List.all_eq_true.mp nx_sa1 k ?_
      have : ∀ k, k < 12 → ¬ k < 6 → k ∈ (List.range 12).drop 6 := by decide
      exact this k hk h6
  unfold nw_sa at h
  rw [hz] at h
  split at h
  · rename_i z2 p e1 e2
    cases e1
    simp only [Bool.and_eq_true, decide_eq_true_eq] at h
    exact nw_arr (nw_sub h.1) h.2 hs hA
  · cases h
theorem tb_ss_at {args : Array Value} {s : State} (hs : ∀ c ∈ nw_l, c.before args s = true) {A : Nat → Prop} (hA : ∀ a : Nat, a < s.heap.size → ¬ A a) {k : Nat} {z : String × Nat × String × List Int32} (hz : tb_ss[k]? = some z) :
    ∃ q : Nat × Nat, (Term.string z.1 z.2.1).eval args s none [] s = some (.ref q.1) ∧ va_O "java/lang/String" q.1 A s s.heap ∧ va_OF "java/lang/String" "coder" "B" (.int 0) q.1 A s s.heap ∧ va_OF "java/lang/String" "value" "[B" (.ref q.2) q.1 A s s.heap ∧ va_T .byte q.2 z.2.2.2.length (fun j => .int (z.2.2.2.getD j 0)) A s s.heap := by
  have hk : k < 26 := (List.getElem?_eq_some_iff.mp hz).1
  have h : nw_ss k = true := by
    by_cases h6 : k < 13
    · exact List.all_eq_true.mp nx_ss0 k (List.mem_range.mpr h6)
    · refine List.all_eq_true.mp nx_ss1 k ?_
      have : ∀ k, k < 26 → ¬ k < 13 → k ∈ (List.range 26).drop 13 := by decide
      exact this k hk h6
  unfold nw_ss at h
  rw [hz] at h
  split at h
  · rename_i z2 p e1 e2
    cases e1
    simp only [Bool.and_eq_true, decide_eq_true_eq] at h
    have hin := nw_sub h.1
    obtain ⟨a, c, cA, kA, q1, q2, q3, q4, q5, q6, -⟩ := Cond.exactly_spec (args := args) (first := s) (o := none) (s := s) (idx := []) (t := Term.string z.1 z.2.1) (cls := "java/lang/String") (hs _ (hin _ List.mem_cons_self))
    obtain ⟨t, ht, hT⟩ := nw_arr (fun w hw => hin w (List.mem_cons_of_mem _ (List.mem_cons_of_mem _ hw))) h.2 hs hA
    exact ⟨(a, t), q1, ⟨cA, q3, q5, by rw [q6]; exact q2, hA a (Array.getElem?_eq_some_iff.mp q3).1⟩, vk_OFof q1 (va_eqt (hs _ (hin _ (List.mem_cons_of_mem _ List.mem_cons_self)))) hA, vk_OFof q1 ht hA, hT⟩
  · cases h
