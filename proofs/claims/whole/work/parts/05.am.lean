/-! the abstract machine: constants (static fields, String constants, their cells), arraycopy, ends -/
/-- the constants' facts at a state: KT arrays by number (type, length, contents; .float: none such), KF fields of constant objects, FN the fields' names, KO their classes, SZ statics, SR String constants -/
def am_G (b : Nat → Nat) (base : Nat) (KT : List (FieldType × Nat × (Nat → Int32))) (KF : List (List Value)) (FN : List (String × String × String)) (KO : List String) (SZ : List (String × String × String × Value)) (SR : List (String × Nat × String × Nat)) (Ns : List Cond) (U : State) : Prop :=
  (∀ (a : Nat) (x : FieldType × Nat × (Nat → Int32)), KT[a]? = some x → x.1 ≠ .float → va_T x.1 (b a) x.2.1 (fun j => .int (x.2.2 j)) (fun q => base ≤ q) U U.heap) ∧
  (∀ (a k : Nat) (fs : List Value) (v : Value) (o : String × String × String), KF[a]? = some fs → fs[k]? = some v → FN[k]? = some o → va_OF o.1 o.2.1 o.2.2 (am_v b v) (b a) (fun q => base ≤ q) U U.heap) ∧
  (∀ (a : Nat) (C : String), KO[a]? = some C → C ≠ "" → va_O C (b a) (fun q => base ≤ q) U U.heap) ∧
  (∀ z ∈ SZ, va_Z z.1 z.2.1 z.2.2.1 (am_v b z.2.2.2) (fun q => base ≤ q) U U.heap) ∧
  (∀ z ∈ SR, vk_R z.1 z.2.1 z.2.2.1 (b z.2.2.2) U) ∧
  (∀ w ∈ Ns, va_Nw w U)
/-- the words that a nest mate's link is -/
def am_nst : Cond → Bool
  | .fieldLinkNest _ _ _ _ _ _ => true
  | .methodLinkNest _ _ _ _ => true
  | _ => false
theorem am_nst_on {w : Cond} (h : am_nst w = true) : w.onTables = true := by
  unfold am_nst at h
  split at h
  · rfl
  · rfl
  · cases h
theorem am_nst_warm {w : Cond} (h : am_nst w = true) {s U : State} (hW : s.WarmedH U.vm) (hs : va_Nw w s) : va_Nw w U := by
  unfold am_nst at h
  split at h
  · exact va_Nw.warmF hW hs
  · exact va_Nw.warmM hW hs
  · cases h
section AMG
variable {b : Nat → Nat} {base : Nat} {KT : List (FieldType × Nat × (Nat → Int32))} {KF : List (List Value)} {FN : List (String × String × String)} {KO : List String} {SZ : List (String × String × String × Value)} {SR : List (String × Nat × String × Nat)} {Ns : List Cond}
theorem am_G.warm (hns : ∀ w ∈ Ns, am_nst w = true) {s U : State} (hW : s.WarmedH U.vm) (hq : ∀ q, q < s.heap.size → ¬ base ≤ q → U.heap[q]? = s.heap[q]?) (h : am_G b base KT KF FN KO SZ SR Ns s) : am_G b base KT KF FN KO SZ SR Ns U := by
  obtain ⟨h1, h2, h3, h4, h5, h6⟩ := h
  refine ⟨fun a x hx hp => ?_, fun a k fs v o e1 e2 e3 => ?_, fun a C hC hn => ?_, fun z hz => ?_, fun z hz => (h5 z hz).warm hW, fun w hw => am_nst_warm (hns w hw) hW (h6 w hw)⟩
  · exact va_T.moved hW.alike ((h1 a x hx hp).kept hq)
  · exact va_OF.moved hW.alike ((h2 a k fs v o e1 e2 e3).kept hq)
  · exact va_O.moved hW.alike ((h3 a C hC hn).kept hq)
  · exact va_Z.moved hW.alike ((h4 z hz).kept hq)
theorem am_G.calls (hns : ∀ w ∈ Ns, am_nst w = true) {U : State} {g : JFrame} {mk : MethodId} {a : Array Value} (h : am_G b base KT KF FN KO SZ SR Ns U) : am_G b base KT KF FN KO SZ SR Ns (U.calling g mk a) := by
  obtain ⟨h1, h2, h3, h4, h5, h6⟩ := h
  have hvm : U.vm.Alike (U.calling g mk a).vm := Vm.Alike.refl U.vm
  refine ⟨fun a x hx hp => ?_, fun a k fs v o e1 e2 e3 => ?_, fun a C hC hn => ?_, fun z hz => ?_, fun z hz => vk_R.same (u := U) rfl (h5 z hz), fun w hw => va_Nw.same (am_nst_on (hns w hw)) (u := U) rfl (h6 w hw)⟩
  · exact va_T.moved hvm (h1 a x hx hp)
  · exact va_OF.moved hvm (h2 a k fs v o e1 e2 e3)
  · exact va_O.moved hvm (h3 a C hC hn)
  · exact va_Z.moved hvm (h4 z hz)
end AMG
/-- what is read of constants -/
def am_kc (nK : Nat) (KT : List (FieldType × Nat × (Nat → Int32))) (KF : List (List Value)) (SZ : List (String × String × String × Value)) (SR : List (String × Nat × String × Nat)) : am_I → List Value → Option (List Value)
  | (.ldc _, v, _, 0), st => some (.int (Int32.ofNat v) :: st)
  | (.ldc_w _, v, _, 0), st => some (.int (Int32.ofNat v) :: st)
  | (.ldc2_w _, v, _, 0), st => some (.long (Int64.ofNat v) :: st)
  | (.ldc _, r, _, 1), st => match SR[r]? with | some z => some (.ref z.2.2.2 :: st) | none => none
  | (.ldc_w _, r, _, 1), st => match SR[r]? with | some z => some (.ref z.2.2.2 :: st) | none => none
  | (.getstatic _, r, _, _), st => match SZ[r]? with | some z => some (z.2.2.2 :: st) | none => none
  | (.getfield _, _, k, 5), .ref a :: st => if a < nK then match KF[a]? with
    | some fs => match fs[k]? with | some v => some (v :: st) | none => none
    | none => none else none
  | (.arraylength, _, _, _), .ref a :: st => if a < nK then match KT[a]? with
    | some (ty, n, _) => if ty = .float then none else some (.int (Int32.ofNat n) :: st)
    | none => none else none
  | (.iaload, _, _, _), .int i :: .ref a :: st => if a < nK then match KT[a]? with
    | some (.int, n, f) => if i < 0 ∨ n ≤ i.toNatClampNeg then none else some (.int (f i.toNatClampNeg) :: st)
    | _ => none else none
  | (.caload, _, _, _), .int i :: .ref a :: st => if a < nK then match KT[a]? with
    | some (.char, n, f) => if i < 0 ∨ n ≤ i.toNatClampNeg then none else some (.int (f i.toNatClampNeg) :: st)
    | _ => none else none
  | (.baload, _, _, _), .int i :: .ref a :: st => if a < nK then match KT[a]? with
    | some (.byte, n, f) => if i < 0 ∨ n ≤ i.toNatClampNeg then none else some (.int (f i.toNatClampNeg) :: st)
    | _ => none else none
  | _, _ => none
def am_kok (Ts Ns : List Cond) (own : String) (FN : List (String × String × String)) (SZ : List (String × String × String × Value)) (SR : List (String × Nat × String × Nat)) (nK : Nat) : am_I → Prop
  | (.ldc ix, v, _, 0) => Cond.constant own ix (Int32.ofNat v) ∈ Ts
  | (.ldc_w ix, v, _, 0) => Cond.constant own ix (Int32.ofNat v) ∈ Ts
  | (.ldc2_w ix, v, _, 0) => Cond.constantLong own ix (Int64.ofNat v) ∈ Ts
  | (.ldc ix, r, _, 1) => ∀ z, SR[r]? = some z → z.1 = own ∧ z.2.1 = ix
  | (.ldc_w ix, r, _, 1) => ∀ z, SR[r]? = some z → z.1 = own ∧ z.2.1 = ix
  | (.getstatic ix, r, _, _) => ∀ z, SZ[r]? = some z → Cond.fieldLink own ix z.1 z.2.1 z.2.2.1 ∈ Ts ∨ ∃ host, Cond.fieldLinkNest own ix z.1 z.2.1 z.2.2.1 host ∈ Ns
  | (.getfield ix, _, k, 5) => ∃ o, FN[k]? = some o ∧ Cond.fieldLink own ix o.1 o.2.1 o.2.2 ∈ Ts
  | _ => True
section AMK
variable {p : Program} {l : Launch} {e : Env} {R : Room} {s : State} {m : MethodId} {args : Array Value} {below : List Frame} {meth : Method} {c : Code} {H : Heap} {locs : List Loc} {cells slots : Nat} {Q : State → Prop}
variable {cc : ByteArray} {pc : Nat} {ls : Array Slot} {Ts Ns : List Cond} {own : String} {nK base : Nat} {b : Nat → Nat}
variable {KT : List (FieldType × Nat × (Nat → Int32))} {KF : List (List Value)} {FN : List (String × String × String)} {KO : List String} {SZ : List (String × String × String × Value)} {SR : List (String × Nat × String × Nat)}
/-- ldc_w of a text -/
theorem am_ldcSW (hexec : p.tables.exec = Jvm.exec) (hb : c.code = cc) {own tx : String} {index q : Nat} {rest : List Value} (hown : s.vm.findClass own = some m.cls) (hZ : vk_R own index tx q s) (hdg : decode cc pc = .ok (.ldc_w index, 3))
    (k : W p l e R s m args below meth c H locs cells slots Q (F0 m (pc + 3) ls (.ref q :: rest))) : W p l e R s m args below meth c H locs cells slots Q (F0 m pc ls rest) := by
  intro T hT X
  obtain ⟨t, a1, b1⟩ := k T hT X
  exact ⟨t, X.ldcStringW hexec hown (text := tx) (a := q) hZ.1 hZ.2 (g := F0 m pc ls rest) rfl (by rw [hb]; exact hdg) t a1, b1⟩
theorem am_kc_ok (hexec : p.tables.exec = Jvm.exec) (hb : c.code = cc) (hown : s.vm.findClass own = some m.cls) (hts : ∀ w ∈ Ts, w.before args s = true) (hG : am_G b base KT KF FN KO SZ SR Ns s) (hS : va_S (fun q => base ≤ q) s.heap H locs)
    {x : am_I} (hok : am_kok Ts Ns own FN SZ SR nK x) (hdg : decode cc pc = .ok (x.1, am_len x.1)) {st st' : List Value} (hx : am_kc nK KT KF SZ SR x st = some st')
    (k : W p l e R s m args below meth c H locs cells slots Q (F0 m (pc + am_len x.1) ls (st'.map (am_v b)))) :
    W p l e R s m args below meth c H locs cells slots Q (F0 m pc ls (st.map (am_v b))) := by
  obtain ⟨g1, g2, g3, g4, g5, g6⟩ := hG
  unfold am_kc at hx
  split at hx
  · cases hx
    exact lv_ldc hexec hb hown (hts _ hok) hdg k
  · cases hx
    exact lv_ldcw hexec hb hown (hts _ hok) hdg k
  · cases hx
    exact lv_ldc2 hexec hb hown (hts _ hok) hdg k
  · split at hx
    · rename_i z hz
      cases hx
      obtain ⟨e1, e2⟩ := hok z hz
      subst e1
      subst e2
      exact va_ldcS hexec hb hown (g5 z (List.mem_of_getElem? hz)) hdg k
    · cases hx
  · split at hx
    · rename_i z hz
      cases hx
      obtain ⟨e1, e2⟩ := hok z hz
      subst e1
      subst e2
      exact am_ldcSW hexec hb hown (g5 z (List.mem_of_getElem? hz)) hdg k
    · cases hx
  · split at hx
    · rename_i z hz
      cases hx
      rcases hok z hz with hl | ⟨host, hl⟩
      · exact va_gets hexec hb (g4 z (List.mem_of_getElem? hz)) hS hown (hts _ hl) (fun _ q => q) hdg k
      · exact va_getsN hexec hb (g4 z (List.mem_of_getElem? hz)) hS hown (va_Nw.use rfl (g6 _ hl)) (fun _ q => q) hdg k
    · cases hx
  · split at hx
    · split at hx
      · rename_i fs hfs
        split at hx
        · rename_i v hv
          cases hx
          obtain ⟨o, ho, hl⟩ := hok
          exact vk_getf hexec hb (g2 _ _ fs v o hfs hv ho) hS hown (hts _ hl) (fun _ q => q) hdg k
        · cases hx
      · cases hx
    · cases hx
  · split at hx
    · split at hx
      · rename_i ty n f hT
        split at hx
        · cases hx
        · rename_i hn
          cases hx
          exact va_tlen hexec hb (g1 _ _ hT hn) hS rfl hdg k
      · cases hx
    · cases hx
  · split at hx
    · split at hx
      · rename_i n f hT
        split at hx
        · cases hx
        · rename_i hi
          cases hx
          exact va_ti hexec hb (g1 _ _ hT (fun q => by cases q)) hS hi rfl hdg k
      · cases hx
    · cases hx
  · split at hx
    · split at hx
      · rename_i n f hT
        split at hx
        · cases hx
        · rename_i hi
          cases hx
          exact va_tc hexec hb (g1 _ _ hT (fun q => by cases q)) hS hi rfl hdg k
      · cases hx
    · cases hx
  · split at hx
    · split at hx
      · rename_i n f hT
        split at hx
        · cases hx
        · rename_i hi
          cases hx
          exact va_tb hexec hb (g1 _ _ hT (fun q => by cases q)) hS hi rfl hdg k
      · cases hx
    · cases hx
  · cases hx
end AMK
