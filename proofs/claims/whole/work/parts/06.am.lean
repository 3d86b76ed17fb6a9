/-! the abstract machine: System.arraycopy of ints, Object's constructor, ends -/
def am_cpy (f g : Nat → Int32) (sp dp n : Nat) : Nat → Int32 := va_cpy f g sp dp n
/-- where the ints of a row stand, in a constant or in a cell -/
def am_src (nK : Nat) (KT : List (FieldType × Nat × (Nat → Int32))) (h : List am_C) (a : Nat) : Option (Nat × (Nat → Int32)) :=
  if a < nK then match KT[a]? with
    | some (.int, n, f) => some (n, f)
    | _ => none
  else match h[a - nK]? with
    | some (.inl (0, n, .inl f)) => some (n, f)
    | _ => none
/-- arraycopy: stack and heap behind it -/
def am_cp (nK : Nat) (KT : List (FieldType × Nat × (Nat → Int32))) (d : Nat) : am_I → List Value → List am_C → Option (List Value × List am_C)
  | (.invokestatic _, _, _, 9), .int n :: .int dp :: .ref a1 :: .int sp :: .ref a0 :: st, h => if a1 < nK ∨ d = 0 ∨ 8 < (st.map fun v => v.category).sum then none else match am_src nK KT h a0 with
    | some (n0, f) => match h[a1 - nK]? with
      | some (.inl (0, n1, .inl g)) => if sp < 0 ∨ dp < 0 ∨ n < 0 ∨ n0 < sp.toNatClampNeg + n.toNatClampNeg ∨ n1 < dp.toNatClampNeg + n.toNatClampNeg then none else some (st, h.set (a1 - nK) (.inl (0, n1, .inl (am_cpy f g sp.toNatClampNeg dp.toNatClampNeg n.toNatClampNeg))))
      | _ => none
    | none => none
  | _, _, _ => none
/-- Object's constructor -/
def am_oi (d : Nat) : am_I → List Value → Option (List Value)
  | (.invokespecial _, _, _, 9), .ref _ :: st => if d = 0 ∨ 8 < (st.map fun v => v.category).sum then none else some st
  | _, _ => none
/-- an end, with its value -/
def am_rt : Option FieldType → Instr → List Value → Option (Option Value)
  | none, .return_, [] => some none
  | some .int, .ireturn, [.int x] => some (some (.int x))
  | some .boolean, .ireturn, [.int x] => if x = 0 ∨ x = 1 then some (some (.int x)) else none
  | some .char, .ireturn, [.int x] => if x.toUInt32.toUInt16.toUInt32.toInt32 = x then some (some (.int x)) else none
  | some .byte, .ireturn, [.int x] => if x.toInt8.toInt32 = x then some (some (.int x)) else none
  | some .long, .lreturn, [.long x] => some (some (.long x))
  | some (.array _), .areturn, [.ref a] => some (some (.ref a))
  | _, _, _ => none
def am_xok (Ts : List Cond) (own : String) : am_I → Prop
  | (.invokestatic ix, _, _, 9) => Cond.methodLink own ix arraycopyName ∈ Ts ∧ Cond.native arraycopyName ∈ Ts ∧ Cond.static arraycopyName ∈ Ts ∧ Cond.initialized "java/lang/System" ∈ Ts
  | (.invokespecial ix, _, _, 9) => Cond.methodLink own ix objectInit ∈ Ts ∧ Cond.instanceMethod objectInit ∈ Ts ∧ Cond.code objectInit ⟨#[0xb1]⟩ 1 none ∈ Ts
  | _ => True
theorem am_src_bytes : nativeFrameWords "java/lang/System" "arraycopy" 5 + 11 = 18 := by decide
section AMX
variable {p : Program} {l : Launch} {e : Env} {R : Room} {s : State} {m : MethodId} {args : Array Value} {below : List Frame} {meth : Method} {c : Code} {H : Heap} {locs : List Loc} {cells slots : Nat} {Q : State → Prop}
variable {cc : ByteArray} {pc : Nat} {ls : Array Slot} {D : va_G} {cl : List vw_C} {tys : List (ClassId × FieldType)} {Ts Ns : List Cond} {own : String} {h : List am_C} {nK base : Nat} {b : Nat → Nat} {cA : Nat → ClassId}
variable {KT : List (FieldType × Nat × (Nat → Int32))} {KF : List (List Value)} {FN : List (String × String × String)} {KO : List String} {SZ : List (String × String × String × Value)} {SR : List (String × Nat × String × Nat)}
/-- arraycopy of ints out of any row into a cell -/
theorem am_copy (hexec : p.tables.exec = Jvm.exec) (hb : c.code = cc) (hml : c.maxLocals = ls.size) {ix : Nat} (hown : s.vm.findClass own = some m.cls) (hlink : (Cond.methodLink own ix arraycopyName).before args s = true) (hnat : (Cond.native arraycopyName).before args s = true) (hstat : (Cond.static arraycopyName).before args s = true) (hini : (Cond.initialized "java/lang/System").before args s = true)
    {scr : Cell} {b0 n0 a : Nat} {f g : Nat → Int32} (hc0 : H[b0]? = some scr) (hs2 : s.isArrayOf scr .int) (hs3 : scr.vm ≠ .unknown) (hs4 : n0 ≤ scr.slots.size) (hs5 : ∀ j : Nat, j < n0 → scr.slots[j]? = some (.int (f j))) {c1 : ClassId} {n1 : Nat} (hc1 : H[a]? = some (vp_cell c1 (n1, .inl g))) (hA1 : ArrOfT s c1 .int)
    {sp dp n : Int32} {rest : List Value} (h1 : ¬ sp < 0) (h2 : ¬ dp < 0) (h3 : ¬ n < 0) (h4 : sp.toNatClampNeg + n.toNatClampNeg ≤ n0) (h5 : dp.toNatClampNeg + n.toNatClampNeg ≤ n1)
    (hframes : 1 ≤ R.frames) (hlocals : (rest.map fun v => v.category).sum + (nativeFrameWords "java/lang/System" "arraycopy" 5 + 11) ≤ R.locals) (hdg : decode cc pc = .ok (.invokestatic ix, 3))
    (kk : ∀ (H1 : Heap) (L : List Loc), (∀ q ∈ L, q.base = a) → H1[a]? = some (vp_cell c1 (n1, .inl (va_cpy f g sp.toNatClampNeg dp.toNatClampNeg n.toNatClampNeg))) → H1.size = H.size → (∀ q, q ≠ a → H1[q]? = H[q]?) → W p l e R s m args below meth c H1 (locs ++ L) cells slots Q (F0 m (pc + 3) ls rest)) : W p l e R s m args below meth c H locs cells slots Q (F0 m pc ls (.int n :: .int dp :: .ref a :: .int sp :: .ref b0 :: rest)) := by
  have nn : ∀ z : Int32, ¬ z < 0 → z.toInt = (z.toNatClampNeg : Int) := by
    intro z hz
    have hz0 : (0 : Int) ≤ z.toInt := by
      have := Int32.not_lt.mp hz
      simpa using Int32.le_iff_toInt_le.mp this
    show z.toInt = ((z.toInt.toNat : Nat) : Int)
    omega
  intro T hT X
  obtain ⟨hs6, k0, hk0, cm0, hkk0⟩ := hs2
  obtain ⟨-, k1, hk1, cm1, hkk1⟩ := hA1 n1 (fun j => .int (g j))
  obtain ⟨vm', X', step⟩ := X.arraycopy hexec hown hlink hnat hstat hini (src := b0) (dst := a) (cs := scr) (cd := vp_cell c1 (n1, .inl g)) (srcPos := sp) (destPos := dp) (n := n) (by rw [hT]; exact hc0) (by rw [hT]; exact hc1)
    hs6 (fun _ h => by cases h) hs3 (fun h => by cases h) hk0 hk1 hkk0 hkk1 (by simp [refKind]) h1 h2 h3
    (by rw [nn sp h1, nn n h3]; omega)
    (by rw [nn dp h2, nn n h3]; show ¬ _ > ((arrV c1 n1 (fun j => .int (g j))).slots.size : Int); rw [arrV_size]; omega)
    (fun vm₁ _ i hi => by
      have e : scr.slots.getD (sp.toNatClampNeg + i) .null = .int (f (sp.toNatClampNeg + i)) := by
        rw [Array.getD_eq_getD_getElem?, hs5 _ (by omega)]
        rfl
      refine ⟨?_, ?_⟩
      · rw [e]
        rfl
      · rw [e]
        exact trivial)
    (g := F0 m pc ls (.int n :: .int dp :: .ref a :: .int sp :: .ref b0 :: rest)) rfl (by rw [hml]) (rest := rest) rfl (by rw [hb]; exact hdg) hframes (by show 2 * 0 + _ + _ ≤ _; omega)
  have e1 : copied scr (vp_cell c1 (n1, .inl g)) sp dp n = vp_cell c1 (n1, .inl (va_cpy f g sp.toNatClampNeg dp.toNatClampNeg n.toNatClampNeg)) := va_copiedX (fun z => .int z) scr c1 f g hs5 h4
  rw [e1] at X' step
  have hl : a < H.size := (Array.getElem?_eq_some_iff.mp hc1).1
  have hheap : ((T.setVm vm').setCell a (vp_cell c1 (n1, .inl (va_cpy f g sp.toNatClampNeg dp.toNatClampNeg n.toNatClampNeg)))).heap = H.setIfInBounds a (vp_cell c1 (n1, .inl (va_cpy f g sp.toNatClampNeg dp.toNatClampNeg n.toNatClampNeg))) := by rw [← hT]; rfl
  obtain ⟨t, a1, b1⟩ := kk _ _ (fun q hq => by obtain ⟨z, -, hz⟩ := List.mem_map.mp hq; rw [← hz]) (show (H.setIfInBounds a _)[a]? = some _ by simp [Array.getElem?_setIfInBounds, hl]) (by simp) (fun q hq => by simp [Array.getElem?_setIfInBounds, Ne.symm hq]) _ hheap X'
  exact ⟨t, step t a1, b1⟩
theorem am_cp_ok (hexec : p.tables.exec = Jvm.exec) (hb : c.code = cc) (hml : c.maxLocals = ls.size) (hown : s.vm.findClass own = some m.cls) (hts : ∀ w ∈ Ts, w.before args s = true) (hK : va_K D cl tys s) (htys : ∀ t ty, am_ty[t]? = some ty → tys[t]? = some (cA t, ty)) (hbb : ∀ i, b (nK + i) = base + i)
    (hG : am_G b base KT KF FN KO SZ SR Ns s) (hP : va_P D cl (am_w b cA nK h) H) (hsz : H.size = base + h.length) (hS : va_S (fun q => base ≤ q) s.heap H locs) {x : am_I} (hok : am_xok Ts own x) (hdg : decode cc pc = .ok (x.1, am_len x.1)) {d : Nat} {st st' : List Value} {h' : List am_C} (hx : am_cp nK KT d x st h = some (st', h')) (hroom : d ≤ R.frames ∧ 64 * d ≤ R.locals)
    (k : ∀ (H' : Heap) (locs' : List Loc), va_P D cl (am_w b cA nK h') H' → H'.size = base + h'.length → va_S (fun q => base ≤ q) s.heap H' locs' → W p l e R s m args below meth c H' locs' cells slots Q (F0 m (pc + am_len x.1) ls (st'.map (am_v b)))) :
    W p l e R s m args below meth c H locs cells slots Q (F0 m pc ls (st.map (am_v b))) := by
  unfold am_cp at hx
  split at hx
  · rename_i h0 ix r1 r2 n dp a1 sp a0 st0
    split at hx
    · cases hx
    · rename_i hc
      split at hx
      · rename_i n0 f hsrc
        split at hx
        · rename_i n1 g hdst
          split at hx
          · cases hx
          · rename_i hi
            cases hx
            obtain ⟨w1, w2, w3, w4⟩ := hok
            have ha1 : nK + (a1 - nK) = a1 := Nat.add_sub_cancel' (Nat.le_of_not_lt fun q => hc (Or.inl q))
            have hd : d ≠ 0 := fun q => hc (Or.inr (Or.inl q))
            have hcat : ((st'.map (am_v b)).map fun v => v.category).sum ≤ 8 := by
              rw [List.map_map, show ((fun v : Value => v.category) ∘ am_v b) = fun v => v.category from funext fun v => am_v_cat b v]
              exact Nat.le_of_not_lt fun q => hc (Or.inr (Or.inr q))
            have e1 : va_at D cl (b (nK + (a1 - nK)), am_e b cA (.inl (0, n1, .inl g))) H := hP (a1 - nK) _ (by rw [am_w_get, hdst]; rfl)
            rw [ha1] at e1
            have src : ∃ scr : Cell, H[b a0]? = some scr ∧ s.isArrayOf scr .int ∧ scr.vm ≠ .unknown ∧ n0 ≤ scr.slots.size ∧ ∀ j : Nat, j < n0 → scr.slots[j]? = some (.int (f j)) := by
              unfold am_src at hsrc
              split at hsrc
              · split at hsrc
                · rename_i n2 f2 hT
                  cases hsrc
                  obtain ⟨scr, q1, q2, q3, q4, -, q6, q7⟩ := hG.1 _ _ hT (fun q => by cases q)
                  exact ⟨scr, by rw [hS.2.1 (b a0) (Array.getElem?_eq_some_iff.mp q1).1 q7]; exact q1, q2, q3, q4, q6⟩
                · cases hsrc
              · rename_i hk
                split at hsrc
                · rename_i n2 f2 hcell
                  cases hsrc
                  have ha0 : nK + (a0 - nK) = a0 := Nat.add_sub_cancel' (Nat.le_of_not_lt hk)
                  have e2 : va_at D cl (b (nK + (a0 - nK)), am_e b cA (.inl (0, n0, .inl f))) H := hP (a0 - nK) _ (by rw [am_w_get, hcell]; rfl)
                  rw [ha0] at e2
                  refine ⟨vp_cell (cA 0) (n0, .inl f), e2, ?_, ?_, ?_, ?_⟩
                  · exact (hK.2 0 _ (htys 0 .int rfl)).1 n0 (fun j => .int (f j))
                  · intro q
                    cases q
                  · show n0 ≤ (arrV _ _ _).slots.size
                    rw [arrV_size]
                    exact Nat.le_refl _
                  · intro j hj
                    show (arrV _ _ _).slots[_]? = _
                    rw [arrV_read _ _ hj]
                · cases hsrc
            obtain ⟨scr, s1, s2, s3, s4, s5⟩ := src
            refine am_copy hexec hb hml hown (hts _ w1) (hts _ w2) (hts _ w3) (hts _ w4) s1 s2 s3 s4 s5 e1 (hK.2 0 _ (htys 0 .int rfl)).1 (fun q => hi (Or.inl q)) (fun q => hi (Or.inr (Or.inl q))) (fun q => hi (Or.inr (Or.inr (Or.inl q)))) (by omega) (by omega) (by omega) (by rw [am_src_bytes]; omega) hdg fun H1 L hL g1 g2 g3 => ?_
            refine k H1 _ ?_ (by rw [g2, hsz, List.length_set]) ⟨by rw [g2]; exact hS.1, fun q q1 q2 => ?_, fun q hq => ?_⟩
            · rw [← am_w_set]
              refine hP.set (am_w_D hbb h) (e0 := am_e b cA (.inl (0, n1, .inl g))) (by rw [am_w_get, hdst]; rfl) ?_ (by rw [ha1]; exact g3)
              rw [ha1]
              exact g1
            · rw [g3 q (fun z => q2 (by rw [z, ← ha1, hbb]; omega))]
              exact hS.2.1 q q1 q2
            · rcases List.mem_append.mp hq with z | z
              · exact hS.2.2 q z
              · rw [hL q z, ← ha1, hbb]
                omega
        · cases hx
      · cases hx
  · cases hx
theorem am_oi_ok (hexec : p.tables.exec = Jvm.exec) (hb : c.code = cc) (hml : c.maxLocals = ls.size) (hown : s.vm.findClass own = some m.cls) (hts : ∀ w ∈ Ts, w.before args s = true) {x : am_I} (hok : am_xok Ts own x) (hdg : decode cc pc = .ok (x.1, am_len x.1)) {d : Nat} {st st' : List Value} (hx : am_oi d x st = some st') (hroom : d ≤ R.frames ∧ 64 * d ≤ R.locals)
    (k : W p l e R s m args below meth c H locs cells slots Q (F0 m (pc + am_len x.1) ls (st'.map (am_v b)))) :
    W p l e R s m args below meth c H locs cells slots Q (F0 m pc ls (st.map (am_v b))) := by
  unfold am_oi at hx
  split at hx
  · split at hx
    · cases hx
    · rename_i hc
      cases hx
      obtain ⟨w1, w2, w3⟩ := hok
      have hcat : ((st'.map (am_v b)).map fun v => v.category).sum ≤ 8 := by
        rw [List.map_map, show ((fun v : Value => v.category) ∘ am_v b) = fun v => v.category from funext fun v => am_v_cat b v]
        exact Nat.le_of_not_lt fun q => hc (Or.inr q)
      exact W.objInit hexec hb hown (hts _ w1) (hts _ w2) (hts _ w3) rfl hml.symm rfl hdg (by omega) (by show 2 * 0 + _ + 12 ≤ _; omega) k
  · cases hx
theorem am_rt_ok (hexec : p.tables.exec = Jvm.exec) (hb : c.code = cc) {ret : Option FieldType} (hr : meth.sig.returnType = ret) (hlocks : meth.locks = false) {Qc : Array Value → State → Outcome → State → Prop} {free : Addr → Prop} {i : Instr} (hdg : decode cc pc = .ok (i, am_len i)) {st : List Value} {v : Option Value} (hx : am_rt ret i st = some v)
    (hq : ∀ t : State, t.heap = H → s.WarmedH t.vm → Qc args s (.returned (v.map (am_v b))) t) (hf : ∀ q ∈ locs, free q.base) :
    W p l e R s m args below meth c H locs cells slots (MQ below Qc args s cells slots free) (F0 m pc ls (st.map (am_v b))) := by
  unfold am_rt at hx
  split at hx
  · cases hx
    exact W.vret hexec hb hr hq hf hdg
  · cases hx
    exact W.iret hexec hb hr hq hf hdg
  · split at hx
    · rename_i hz
      cases hx
      exact W.zret hexec hb hr (by rcases hz with rfl | rfl <;> rfl) hq hf hdg
    · cases hx
  · split at hx
    · rename_i hz
      cases hx
      exact W.zret hexec hb hr (by show Value.int _ = _; rw [hz]) hq hf hdg
    · cases hx
  · split at hx
    · rename_i hz
      cases hx
      exact W.zret hexec hb hr (by show Value.int _ = _; rw [hz]) hq hf hdg
    · cases hx
  · cases hx
    exact W.lret hexec hb hr hq hf hdg
  · cases hx
    exact W.aret hexec hb hr (Or.inr ⟨_, rfl⟩) (Or.inr ⟨_, rfl⟩) hq hf hdg
  · cases hx
end AMX
