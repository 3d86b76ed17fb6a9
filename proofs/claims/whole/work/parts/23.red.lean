/-! THE CLAIM OUT OF THE ABSTRACT MACHINE: what is left is a statement on a pure function -/
/-- the abstract machine with this claim's code and constants -/
def aw_run (v : Value) (L : Nat) (xs : Nat → Int32) : Nat → Nat → Nat → Nat → am_L → List Value → List am_C → Option am_E := am_run tb_nK (tb_KT L xs) tb_KF tb_KO (tb_SZ v) tb_SR tb_df tb_ft tb_mt tb_co
/-- WHAT IS LEFT: on every script of at most 3072 ints the law's code, run by the abstract machine from an empty heap, ends with 1, within the room -/
def am_Claim : Prop := ∀ (v : Value) (L : Nat) (xs : Nat → Int32), (v = .null ∨ v = .ref 65) → L ≤ 3072 → ∃ (n d : Nat) (h' : List am_C) (mc ms : Nat), aw_run v L xs n d tb_law 0 [(0, .ref 0)] [] [] = some (some (.int 1), h', mc, ms) ∧ mc ≤ 600000 ∧ ms ≤ 7302250 ∧ d ≤ 1312
def R_law : String := "TowerComputerLaw"
def lw_P (b : Addr) (xs : List Int32) (args : Array Value) (s : State) : Prop := args = #[.ref b] ∧ s.IntsAt b xs ∧ xs.length ≤ 3072 ∧ (Jvm.Cond.and given_1 narrow_1).before args s = true
def lw_Q (_ : Array Value) (s : State) (o : Outcome) (t : State) : Prop := o = .returned (some (.int 1)) ∧ Framed s o t [] 600000 7302250
theorem tb_law_m : tb_mt tb_law = some (x, code, 4, some .boolean) := by rfl
theorem tb_law_x : x.cls = "TowerComputerLaw" := rfl
