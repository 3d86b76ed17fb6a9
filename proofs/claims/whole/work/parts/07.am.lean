/-! the abstract machine: calls, and the machine itself -/
abbrev am_T : Type := Nat → Option (MethodName × ByteArray × Nat × Option FieldType)
abbrev am_P : Type := Nat → Nat → Option am_I
/-- the end's value, the heap, the cells and the slots that were made -/
abbrev am_E : Type := Option Value × List am_C × Nat × Nat
def am_plus (dc ds : Nat) (r : am_E) : am_E := (r.1, r.2.1, dc + r.2.2.1, ds + r.2.2.2)
def am_cat (st : List Value) : Nat := (st.map fun v => v.category).sum
theorem am_cat_v (b : Nat → Nat) (st : List Value) : ((st.map (am_v b)).map fun v => v.category).sum = am_cat st := by
  rw [am_cat, List.map_map, show ((fun v : Value => v.category) ∘ am_v b) = fun v => v.category from funext fun v => am_v_cat b v]
/-- a call: which method, its arguments, what stays on the stack -/
def am_iv (nK : Nat) (KO : List String) (h : List am_C) : am_I → List Value → Option (Nat × List Value × List Value)
  | (.invokestatic _, j, n, r), st => if r = 9 ∨ st.length < n ∨ 8 < am_cat (st.drop n) then none else some (j, (st.take n).reverse, st.drop n)
  | (.invokevirtual _, j, n, ci), st => match st.drop n with
    | .ref a :: rest => if 8 < am_cat rest then none else if a < nK then (if ci = 99 ∧ KO[a]? = some "java/lang/String" then some (j, .ref a :: (st.take n).reverse, rest) else none) else match h[a - nK]? with
      | some (.inr (cj, _)) => if cj = ci ∧ ci ≠ 99 then some (j, .ref a :: (st.take n).reverse, rest) else none
      | _ => none
    | _ => none
  | (.invokespecial _, j, n, r), st => match st.drop n with
    | .ref a :: rest => if r = 9 ∨ 8 < am_cat rest then none else some (j, .ref a :: (st.take n).reverse, rest)
    | _ => none
  | _, _ => none
def am_lk (Ts Ns : List Cond) (own : String) (ix : Nat) (y : MethodName) : Prop := Cond.methodLink own ix y ∈ Ts ∨ ∃ host, Cond.methodLinkNest own ix y host ∈ Ns
def am_np (y : MethodName) (n : Nat) : Prop := (parseMethodDescriptor y.desc).map (fun d => d.parameters.length) = some n
def am_iok (cl : List vw_C) (Ts Ns : List Cond) (own : String) (mt : am_T) : am_I → Prop
  | (.invokestatic ix, j, n, r) => r = 9 ∨ ∃ y bytes nL ret, mt j = some (y, bytes, nL, ret) ∧ am_np y n ∧ am_lk Ts Ns own ix y ∧ Cond.static y ∈ Ts ∧ Cond.initialized y.cls ∈ Ts
  | (.invokevirtual ix, j, n, ci) => ∃ y bytes nL ret, mt j = some (y, bytes, nL, ret) ∧ am_np y n ∧ am_lk Ts Ns own ix y ∧ Cond.instanceMethod y ∈ Ts ∧ Cond.selects y.cls y y ∈ Ts ∧ Cond.initialized y.cls ∈ Ts ∧ ((ci = 99 ∧ y.cls = "java/lang/String") ∨ (ci ≠ 99 ∧ ∃ T N, cl[ci]? = some (y.cls, T, N)))
  | (.invokespecial ix, j, n, r) => r = 9 ∨ ∃ y bytes nL, mt j = some (y, bytes, nL, none) ∧ am_np y n ∧ am_lk Ts Ns own ix y ∧ Cond.instanceMethod y ∈ Ts ∧ y.name = "<init>" ∧ Cond.initialized y.cls ∈ Ts
  | _ => True
/-- of a method: its code is among the words, nothing is run in its stead, it has few locals -/
def am_mok (Ts : List Cond) (mt : am_T) : Prop := ∀ j y bytes nL ret, mt j = some (y, bytes, nL, ret) → Cond.code y bytes nL ret ∈ Ts ∧ plainFor y = true ∧ (y.cls ≠ "java/lang/invoke/MethodHandle" ∧ y.cls ≠ "java/lang/invoke/VarHandle") ∧ nL ≤ 40
def am_isw : Instr → Bool
  | .tableswitch _ _ _ _ => true
  | .lookupswitch _ _ => true
  | _ => false
section AMRUN
variable (nK : Nat) (KT : List (FieldType × Nat × (Nat → Int32))) (KF : List (List Value)) (KO : List String) (SZ : List (String × String × String × Value)) (SR : List (String × Nat × String × Nat)) (df : Nat → List Value) (ft : Nat → Nat → FieldType) (mt : am_T) (co : am_P)
/-- one instruction that is no call: on to a place, or an end -/
def am_one (d nL : Nat) (ret : Option FieldType) (x : am_I) (pc : Nat) (lo : am_L) (st : List Value) (h : List am_C) : Option ((Nat × am_L × List Value × List am_C × Nat × Nat) ⊕ Option Value) :=
  match am_op x.1 st with
  | some st' => some (.inl (pc + am_len x.1, lo, st', h, 0, 0))
  | none => match am_mv nL x.1 lo st with
    | some (lo', st') => some (.inl (pc + am_len x.1, lo', st', h, 0, 0))
    | none => match am_br x.1 st with
      | some (t, off, st') => if 0 ≤ (pc : Int) + off then some (.inl (if t then ((pc : Int) + off).toNat else pc + am_len x.1, lo, st', h, 0, 0)) else none
      | none => match am_sw x.1 st with
        | some (off, st') => if 0 ≤ (pc : Int) + off then some (.inl (((pc : Int) + off).toNat, lo, st', h, 0, 0)) else none
        | none => match am_hp [] nK df ft x st h with
          | some (st', h', dc, ds) => some (.inl (pc + am_len x.1, lo, st', h', dc, ds))
          | none => match am_kc nK KT KF SZ SR x st with
            | some st' => some (.inl (pc + am_len x.1, lo, st', h, 0, 0))
            | none => match am_rt ret x.1 st with
              | some v => some (.inr v)
              | none => match am_oi d x st with
                | some st' => some (.inl (pc + am_len x.1, lo, st', h, 0, 0))
                | none => match am_cp nK KT d x st h with
                  | some (st', h') => some (.inl (pc + am_len x.1, lo, st', h', 0, 0))
                  | none => none
/-- the machine: n steps at most, d calls deep at most, method j at pc -/
def am_run : Nat → Nat → Nat → Nat → am_L → List Value → List am_C → Option am_E
  | 0, _, _, _, _, _, _ => none
  | n + 1, d, j, pc, lo, st, h => match mt j with
    | none => none
    | some (_, _, nL, ret) => match co j pc with
      | none => none
      | some x => match am_one nK KT KF SZ SR df ft d nL ret x pc lo st h with
        | some (.inl (pc', lo', st', h', dc, ds)) => (am_run n d j pc' lo' st' h').map (am_plus dc ds)
        | some (.inr v) => some (v, h, 0, 0)
        | none => match am_iv nK KO h x st with
          | none => none
          | some (j', as, rest) => match d with
            | 0 => none
            | d' + 1 => match mt j' with
              | none => none
              | some (_, _, nL', _) => if (lg_sl as).length ≤ nL' then match am_run n d' j' 0 (lv_args 0 as) [] h with
                | none => none
                | some (v, h', mc, ms) => (am_run n (d' + 1) j (pc + 3) lo (v.toList ++ rest) h').map (am_plus mc ms)
                else none
end AMRUN
theorem am_args (b : Nat → Nat) : ∀ (as : List Value) (i : Nat), lv_args i (as.map (am_v b)) = (lv_args i as).map (am_q b)
  | [], _ => rfl
  | v :: as, i => by
    rw [List.map_cons, lv_args, lv_args, List.map_cons, am_args b as, am_v_cat]
    rfl
theorem am_lg (b : Nat → Nat) (as : List Value) : (lg_sl (as.map (am_v b))).length = (lg_sl as).length := by
  induction as with
  | nil => rfl
  | cons v as ih =>
    simp only [lg_sl, List.map_cons, List.flatMap_cons, List.length_append, am_v_cat] at ih ⊢
    rw [ih]
    split <;> rfl
/-- how a method begins, and how it ends -/
def am_Pc (b : Nat → Nat) (base nK : Nat) (D : va_G) (cl : List vw_C) (cA : Nat → ClassId) (tys : List (ClassId × FieldType)) (G : State → Prop) (as : List Value) (h : List am_C) : Array Value → State → Prop := fun v U =>
  v = (as.map (am_v b)).toArray ∧ va_P D cl (am_w b cA nK h) U.heap ∧ U.heap.size = base + h.length ∧ va_K D cl tys U ∧ G U ∧ base ≤ U.heap.size
def am_Q (b : Nat → Nat) (base nK : Nat) (D : va_G) (cl : List vw_C) (cA : Nat → ClassId) (v : Option Value) (h' : List am_C) : Array Value → State → Outcome → State → Prop := fun _ st o t =>
  o = .returned (v.map (am_v b)) ∧ va_P D cl (am_w b cA nK h') t.heap ∧ t.heap.size = base + h'.length ∧ va_F (fun q => base ≤ q) st t
