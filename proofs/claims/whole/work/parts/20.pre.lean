/-! the premises on constants -/
def nw_l : List Cond := flatC (Jvm.Cond.and given_1 narrow_1)
theorem nw_sub {p m : Nat} {l : List Cond} (h : (nw_l.drop p).take m = l) : ∀ w ∈ l, w ∈ nw_l := by
  intro w hw
  rw [← h] at hw
  exact List.mem_of_mem_drop (List.mem_of_mem_take hw)
/-- what is said of an array: its type, its length, its elements -/
def nw_rows (tm : Term) (ty : FieldType) (xs : List Int32) : List Cond := .arrayOf tm ty :: .eq (.length tm) (.int (Int32.ofNat xs.length)) :: (List.range xs.length).map (fun j => .eq (.elem tm (.int (Int32.ofNat j))) (.int (xs.getD j 0)))
theorem nw_arr {tm : Term} {ty : FieldType} {xs : List Int32} (hin : ∀ w ∈ nw_rows tm ty xs, w ∈ nw_l) (hN : xs.length < 2 ^ 31) {args : Array Value} {s : State} (hs : ∀ c ∈ nw_l, c.before args s = true) {A : Nat → Prop} (hA : ∀ a : Nat, a < s.heap.size → ¬ A a) :
    ∃ t : Nat, tm.eval args s none [] s = some (.ref t) ∧ va_T ty t xs.length (fun j => .int (xs.getD j 0)) A s s.heap := by
  refine va_Tof hN (hs _ (hin _ List.mem_cons_self)) (va_eqt (hs _ (hin _ (List.mem_cons_of_mem _ List.mem_cons_self)))) (fun j hj => va_eqt (hs _ (hin _ (List.mem_cons_of_mem _ (List.mem_cons_of_mem _ (List.mem_map.mpr ⟨j, List.mem_range.mpr hj, rfl⟩)))))) hA
def nw_sa (k : Nat) : Bool := match tb_sa[k]?, tb_sap[k]? with
  | some z, some p => decide ((nw_l.drop p).take (z.2.2.2.2.length + 2) = nw_rows (.static z.1 z.2.1 z.2.2.1) z.2.2.2.1 z.2.2.2.2) && decide (z.2.2.2.2.length < 2 ^ 31)
  | _, _ => false
def nw_ss (k : Nat) : Bool := match tb_ss[k]?, tb_ssp[k]? with
  | some z, some p => decide ((nw_l.drop p).take (z.2.2.2.length + 4) = .exactly (.string z.1 z.2.1) "java/lang/String" :: .eq (.field (.string z.1 z.2.1) "java/lang/String" "coder" "B") (.int 0) :: nw_rows (.field (.string z.1 z.2.1) "java/lang/String" "value" "[B") .byte z.2.2.2) && decide (z.2.2.2.length < 2 ^ 31)
  | _, _ => false
theorem nx_sa0 : (List.range 6).all nw_sa = true := by decide +kernel
theorem nx_sa1 : ((List.range 12).drop 6).all nw_sa = true := by decide +kernel
theorem nx_ss0 : (List.range 13).all nw_ss = true := by decide +kernel
theorem nx_ss1 : ((List.range 26).drop 13).all nw_ss = true := by decide +kernel
