/-! the abstract machine: cells -/
def am_at (K : List am_C) (nK : Nat) (h : List am_C) (a : Nat) : Option am_C := if a < nK then K[a]? else h[a - nK]?
def am_fit : FieldType → Value → Bool
  | .int, .int _ => true
  | .long, .long _ => true
  | .boolean, .int x => x == 0 || x == 1
  | .object _, .null => true
  | .object _, .ref _ => true
  | .array _, .null => true
  | .array _, .ref _ => true
  | _, _ => false
theorem am_fit_ok (b : Nat → Nat) {ty : FieldType} {v : Value} (h : am_fit ty v = true) : narrow ty (am_v b v) = am_v b v ∧ fits ty (am_v b v) = true := by
  unfold am_fit at h
  split at h
  · exact ⟨rfl, rfl⟩
  · exact ⟨rfl, rfl⟩
  · simp only [Bool.or_eq_true, beq_iff_eq] at h
    rcases h with rfl | rfl <;> exact ⟨rfl, rfl⟩
  · exact ⟨rfl, rfl⟩
  · exact ⟨rfl, rfl⟩
  · exact ⟨rfl, rfl⟩
  · exact ⟨rfl, rfl⟩
  · cases h
/-- the element types of arrays, by their tags -/
def am_ty : List FieldType := [.int, .long, .char, .byte, .boolean]
/-- stack, heap, cells and slots made -/
def am_hp (K : List am_C) (nK : Nat) (df : Nat → List Value) (ft : Nat → Nat → FieldType) : am_I → List Value → List am_C → Option (List Value × List am_C × Nat × Nat)
  | (.getfield _, ci, k, 0), .ref a :: st, h => if a < nK then none else match h[a - nK]? with
    | some (.inr (cj, fs)) => if cj = ci then match fs[k]? with | some v => some (v :: st, h, 0, 0) | none => none else none
    | _ => none
  | (.putfield _, ci, k, 0), v :: .ref a :: st, h => if a < nK then none else match h[a - nK]? with
    | some (.inr (cj, fs)) => if cj = ci ∧ k < fs.length ∧ am_fit (ft ci k) v = true then some (st, h.set (a - nK) (.inr (ci, fs.set k v)), 0, 0) else none
    | _ => none
  | (.new _, ci, _, _), st, h => some (.ref (nK + h.length) :: st, h ++ [.inr (ci, df ci)], 1, (df ci).length)
  | (.newarray .int, _, _, _), .int n :: st, h => if n < 0 ∨ 536870912 < n.toNatClampNeg * 4 then none else some (.ref (nK + h.length) :: st, h ++ [.inl (0, n.toNatClampNeg, .inl (fun _ => 0))], 1, n.toNatClampNeg)
  | (.newarray .long, _, _, _), .int n :: st, h => if n < 0 ∨ 536870912 < n.toNatClampNeg * 8 then none else some (.ref (nK + h.length) :: st, h ++ [.inl (1, n.toNatClampNeg, .inr (.inl (fun _ => 0)))], 1, n.toNatClampNeg)
  | (.newarray .boolean, _, _, _), .int n :: st, h => if n < 0 ∨ 536870912 < n.toNatClampNeg * 1 then none else some (.ref (nK + h.length) :: st, h ++ [.inl (4, n.toNatClampNeg, .inl (fun _ => 0))], 1, n.toNatClampNeg)
  | (.arraylength, _, _, _), .ref a :: st, h => match am_at K nK h a with
    | some (.inl (t, n, _)) => if t < 5 then some (.int (Int32.ofNat n) :: st, h, 0, 0) else none
    | _ => none
  | (.iaload, _, _, _), .int i :: .ref a :: st, h => match am_at K nK h a with
    | some (.inl (0, n, .inl f)) => if i < 0 ∨ n ≤ i.toNatClampNeg then none else some (.int (f i.toNatClampNeg) :: st, h, 0, 0)
    | _ => none
  | (.laload, _, _, _), .int i :: .ref a :: st, h => match am_at K nK h a with
    | some (.inl (1, n, .inr (.inl f))) => if i < 0 ∨ n ≤ i.toNatClampNeg then none else some (.long (f i.toNatClampNeg) :: st, h, 0, 0)
    | _ => none
  | (.caload, _, _, _), .int i :: .ref a :: st, h => match am_at K nK h a with
    | some (.inl (2, n, .inl f)) => if i < 0 ∨ n ≤ i.toNatClampNeg then none else some (.int (f i.toNatClampNeg) :: st, h, 0, 0)
    | _ => none
  | (.baload, _, _, _), .int i :: .ref a :: st, h => match am_at K nK h a with
    | some (.inl (4, n, .inl f)) => if i < 0 ∨ n ≤ i.toNatClampNeg then none else some (.int (f i.toNatClampNeg) :: st, h, 0, 0)
    | _ => none
  | (.iastore, _, _, _), .int x :: .int i :: .ref a :: st, h => if a < nK then none else match h[a - nK]? with
    | some (.inl (0, n, .inl f)) => if i < 0 ∨ n ≤ i.toNatClampNeg then none else some (st, h.set (a - nK) (.inl (0, n, .inl (upd f i.toNatClampNeg x))), 0, 0)
    | _ => none
  | (.lastore, _, _, _), .long x :: .int i :: .ref a :: st, h => if a < nK then none else match h[a - nK]? with
    | some (.inl (1, n, .inr (.inl f))) => if i < 0 ∨ n ≤ i.toNatClampNeg then none else some (st, h.set (a - nK) (.inl (1, n, .inr (.inl (vp_updL f i.toNatClampNeg x)))), 0, 0)
    | _ => none
  | (.bastore, _, _, _), .int x :: .int i :: .ref a :: st, h => if a < nK then none else match h[a - nK]? with
    | some (.inl (4, n, .inl f)) => if i < 0 ∨ n ≤ i.toNatClampNeg then none else some (st, h.set (a - nK) (.inl (4, n, .inl (upd f i.toNatClampNeg (vp_nar .boolean x)))), 0, 0)
    | _ => none
  | _, _, _ => none
/-- what must stand in the tables for such an instruction of a method of class own -/
def am_hok (cl : List vw_C) (Ts Ns : List Cond) (own : String) (init : Bool) (df : Nat → List Value) (ft : Nat → Nat → FieldType) : am_I → Prop
  | (.getfield ix, ci, k, 0) => ∃ (C : String) (T : u_T) (N : Nat), cl[ci]? = some (C, T, N) ∧ k < N ∧ (Cond.fieldLink own ix (T k).1 (T k).2.1 (T k).2.2.1 ∈ Ts ∨ ∃ host, Cond.fieldLinkNest own ix (T k).1 (T k).2.1 (T k).2.2.1 host ∈ Ns)
  | (.putfield ix, ci, k, 0) => ∃ (C : String) (T : u_T) (N : Nat), cl[ci]? = some (C, T, N) ∧ k < N ∧ parseFieldDescriptor (T k).2.2.1 = some (ft ci k) ∧
    (((T k).2.2.2 = false ∧ (Cond.fieldLink own ix (T k).1 (T k).2.1 (T k).2.2.1 ∈ Ts ∨ ∃ host, Cond.fieldLinkNest own ix (T k).1 (T k).2.1 (T k).2.2.1 host ∈ Ns)) ∨
     ((T k).2.2.2 = true ∧ init = true ∧ (T k).1 = own ∧ Cond.fieldLink own ix (T k).1 (T k).2.1 (T k).2.2.1 ∈ Ts))
  | (.new ix, ci, _, _) => ∃ (C : String) (T : u_T) (N : Nat), cl[ci]? = some (C, T, N) ∧ (df ci).length = N ∧ (∀ k, k < N → parseFieldDescriptor (T k).2.2.1 = some (ft ci k) ∧ defaultValue (ft ci k) = vp_V (df ci) k) ∧ (∀ v ∈ df ci, ∀ b, am_v b v = v) ∧ Cond.classLink own ix C ∈ Ts ∧ Cond.instantiable C N ∈ Ts ∧ Cond.initialized C ∈ Ts
  | (.newarray .int, _, _, _) => Cond.arrayClass .int ∈ Ts
  | (.newarray .long, _, _, _) => Cond.arrayClass .long ∈ Ts
  | (.newarray .boolean, _, _, _) => Cond.arrayClass .boolean ∈ Ts
  | _ => True
/-- a class's words are among the tables', its fields' types and names as they must be -/
def am_cok (cl : List vw_C) (Ts : List Cond) (ft : Nat → Nat → FieldType) : Prop := ∀ (ci : Nat) (C : String) (T : u_T) (N : Nat), cl[ci]? = some (C, T, N) → (∀ w ∈ u_ws C T N, w ∈ Ts) ∧ (∀ k, k < N → parseFieldDescriptor (T k).2.2.1 = some (ft ci k)) ∧ ∀ x, x < N → ∀ y, y < N → x ≠ y → (T x).2.1 ≠ (T y).2.1
section AMHP
variable {p : Program} {l : Launch} {e : Env} {R : Room} {s : State} {m : MethodId} {args : Array Value} {below : List Frame} {meth : Method} {c : Code} {H H0 : Heap} {locs : List Loc} {cells slots : Nat} {Q : State → Prop}
variable {cc : ByteArray} {pc : Nat} {ls : Array Slot} {D : va_G} {cl : List vw_C} {tys : List (ClassId × FieldType)} {Ts : List Cond} {own : String} {K h : List am_C} {nK base : Nat} {b : Nat → Nat} {cA : Nat → ClassId} {df : Nat → List Value} {ft : Nat → Nat → FieldType}
theorem am_at_ok (hPk : va_P D cl (am_w b cA 0 K) H) (hP : va_P D cl (am_w b cA nK h) H) {a : Nat} {x : am_C} (hx : am_at K nK h a = some x) : va_P D cl [(b a, am_e b cA x)] H := by
  have key : va_at D cl (b a, am_e b cA x) H := by
    unfold am_at at hx
    split at hx
    · have := hPk a (b (0 + a), am_e b cA x) (by rw [am_w_get, hx]; rfl)
      rwa [Nat.zero_add] at this
    · rename_i ha
      have := hP (a - nK) (b (nK + (a - nK)), am_e b cA x) (by rw [am_w_get, hx]; rfl)
      rwa [show nK + (a - nK) = a by omega] at this
  intro k q hk
  match k, hk with
  | 0, hk => cases hk; exact key
theorem am_kp (hPk0 : va_P D cl (am_w b cA 0 K) H0) (hKb : ∀ k, k < K.length → b k < base) (hS : va_S (fun q => base ≤ q) H0 H locs) : va_P D cl (am_w b cA 0 K) H := by
  refine hPk0.kept fun k q hk => hS.2.1 q.1 (hPk0 k q hk).lt ?_
  rw [am_w_get] at hk
  obtain ⟨x, hx, rfl⟩ := Option.map_eq_some_iff.mp hk
  have := hKb k (List.getElem?_eq_some_iff.mp hx).1
  simp only [Nat.zero_add]
  omega
/-- a field is written: by a plain link, by a nest mate's, or a final one by the constructor -/
theorem am_put (hexec : p.tables.exec = Jvm.exec) (hb : c.code = cc) {C : String} {T : u_T} {N ci ix : Nat} {ws : va_W} {A : Nat → Prop} {a : Nat} {rest : List Value} (hts : ∀ w ∈ Ts, w.before args s = true) (hin : ∀ w ∈ u_ws C T N, w ∈ Ts) (ty0 : Nat → FieldType) (hty : ∀ k, k < N → parseFieldDescriptor (T k).2.2.1 = some (ty0 k)) (hnm : ∀ x, x < N → ∀ y, y < N → x ≠ y → (T x).2.1 ≠ (T y).2.1) (hown : s.vm.findClass own = some m.cls) (hK : va_K D cl tys s) (hP : va_P D cl ws H) (hD : va_D A ws) (hS0 : va_S A H0 H locs) (q0 : Nat) {fs : List Value} (he : ws[q0]? = some (a, .inr (ci, fs))) (hc : cl[ci]? = some (C, T, N)) (k : Nat) (hk : k < N)
    (hlink : ((T k).2.2.2 = false ∧ ((Cond.fieldLink own ix (T k).1 (T k).2.1 (T k).2.2.1).before args s = true ∨ ∃ host, (Cond.fieldLinkNest own ix (T k).1 (T k).2.1 (T k).2.2.1 host).before args s = true)) ∨ ((T k).2.2.2 = true ∧ meth.name = "<init>" ∧ (T k).1 = own ∧ (Cond.fieldLink own ix (T k).1 (T k).2.1 (T k).2.2.1).before args s = true))
    {v : Value} (hn : narrow (ty0 k) v = v) (hfit : fits (ty0 k) v = true) (hl : k < fs.length) (hdg : decode cc pc = .ok (.putfield ix, 3))
    (kk : ∀ (H1 : Heap) (locs1 : List Loc), va_P D cl (ws.set q0 (a, .inr (ci, fs.set k v))) H1 → va_S A H0 H1 locs1 → H1.size = H.size → W p l e R s m args below meth c H1 locs1 cells slots Q (F0 m (pc + 3) ls rest)) : W p l e R s m args below meth c H locs cells slots Q (F0 m pc ls (v :: .ref a :: rest)) := by
  have hap := va_apart (own := own) hts hin ty0 hty hnm hK hc
  obtain ⟨r, h1, cell, q1, q2, q3, q4⟩ := hP q0 _ he
  have hr : r = (C, T, N) := Option.some.inj (h1.symm.trans hc)
  subst hr
  obtain ⟨hS, hfc, kC, hkC, hkind⟩ := hK.1 ci _ hc
  obtain ⟨cf, kf, fi, f, hi, hsl⟩ := hS k hk
  have hlay := hts _ (hin _ (u_in_lay hk))
  have hst := (u_facts hfc hkC (u_lays hts hin hk) hi).1
  have fin : ∀ H' : Heap, H'[a]? = some (cell.setSlot f.slot v) → H'.size = H.size → (∀ q, q ≠ a → H'[q]? = H[q]?) → W p l e R s m args below meth c H' (locs ++ [⟨a, f.slot⟩]) cells slots Q (F0 m (pc + 3) ls rest) := by
    intro H' e1 e2 e3
    rw [hsl] at e1 ⊢
    exact kk H' _ (hP.set hD he ⟨_, hc, t_OB.to (V := updV (vp_V fs) k v) ⟨_, e1, q2, q3, t_set q4 hap hk v⟩ (fun j _ => vp_updV_set hl v j)⟩ e3) (hS0.put e2 e3 (hD.2 q0 _ he)) e2
  unfold u_lay at hlay
  rcases hlink with ⟨hfin, h | ⟨host, h⟩⟩ | ⟨hfin, hini, hdecl, h⟩
  · rw [if_neg (by rw [hfin]; decide)] at hlay
    have h6 := u_store hfc hkC hkind hlay hi (hty k hk) hn hfit
    exact W.putK hexec hb (f := f) ⟨hown, h, ⟨_, _, _, hi⟩, hst⟩ (by rw [q2]; exact h6) q1 q3 (by rw [hsl]; exact k2_hasslot (q4 k hk)) rfl rfl hdg fin
  · rw [if_neg (by rw [hfin]; decide)] at hlay
    have h6 := u_store hfc hkC hkind hlay hi (hty k hk) hn hfit
    exact va_WputK hexec hb (f := f) hown h hi hst (by rw [q2]; exact h6) q1 q3 (by rw [hsl]; exact k2_hasslot (q4 k hk)) rfl rfl hdg fin
  · rw [if_pos hfin] at hlay
    have hcf : m.cls = cf := by
      obtain ⟨_, _, c', _, _, _, -, -, hf', -, -, -, hown2, -⟩ := Cond.laysFinal_spec hlay
      have e1 : c' = cf := by have := hi.symm.trans hf'; simp at this; exact this.1.symm
      rw [hdecl] at hown2
      rw [← e1]; exact Option.some.inj (hown.symm.trans hown2)
    have h6 := u_fits hfc hkC hkind (Or.inr hlay) hi (hty k hk) hn hfit
    exact W.putFinK hexec hb hown h hi hst hcf hini (by rw [q2]; exact h6) q1 q3 (by rw [hsl]; exact k2_hasslot (q4 k hk)) rfl rfl hdg fin
end AMHP
