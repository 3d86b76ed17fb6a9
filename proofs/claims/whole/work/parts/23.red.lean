/-! THE CLAIM OUT OF THE ABSTRACT MACHINE: what is left is a statement on a pure function -/
/-- the abstract machine with this claim's code and constants -/
def aw_run (v : Value) (L : Nat) (xs : Nat → Int32) : Nat → Nat → Nat → Nat → am_L → List Value → List am_C → Option am_E := am_run tb_nK (tb_KT L xs) tb_KF tb_KO (tb_SZ v) tb_SR tb_df tb_ft tb_mt tb_co
/-- WHAT IS LEFT: on every script of at most 3072 ints the law's code, run by the abstract machine from an empty heap, ends with 1, within the room -/
def am_Claim : Prop := ∀ (v : Value) (L : Nat) (xs : Nat → Int32), (v = .null ∨ v = .ref 65) → L ≤ 3072 → ∃ (n d : Nat) (h' : List am_C) (mc ms : Nat), aw_run v L xs n d tb_law 0 [(0, .ref 0)] [] [] = some (some (.int 1), h', mc, ms) ∧ mc ≤ 600000 ∧ ms ≤ 7302250 ∧ d ≤ 1312
def R_law : String := "TowerComputerLaw"
def lw_P (b : Addr) (xs : List Int32) (args : Array Value) (s : State) : Prop := args = #[.ref b] ∧ s.IntsAt b xs ∧ xs.length ≤ 3072 ∧ (Jvm.Cond.and given_1 narrow_1).before args s = true
def lw_Q (_ : Array Value) (s : State) (o : Outcome) (t : State) : Prop := o = .returned (some (.int 1)) ∧ Framed s o t [] 600000 7302250
theorem tb_law_m : tb_mt tb_law = some (x, code, 4, some .boolean) := by rfl
theorem tb_law_x : x.cls = "TowerComputerLaw" := rfl
theorem tb_KO_lt : ∀ (a : Nat) (C : String), tb_KO[a]? = some C → a < tb_nK := by
  intro a C h
  have := (List.getElem?_eq_some_iff.mp h).1
  rw [show tb_KO.length = 39 from rfl] at this
  show a < 66
  omega
theorem tb_flat : tb_c.flatten = lw_tbl ++ [Jvm.Cond.code x code maxLocals ret] := by
  simp only [tb_c, lw_tbl, tables_1, List.flatten_cons, List.flatten_nil, List.append_nil, List.append_assoc]
theorem kx_at : ∀ (t : Nat) (ty : FieldType), am_ty[t]? = some ty → Cond.arrayClass ty ∈ tb_c.flatten := by
  have h : ∀ ty ∈ am_ty, Cond.arrayClass ty ∈ tables_1 := by decide +kernel
  intro t ty ht
  rw [tb_flat]
  exact List.mem_append_left _ (List.mem_append_right _ (h ty (List.mem_of_getElem? ht)))
theorem am_known {args : Array Value} {s : State} (hT : ∀ w ∈ tb_c.flatten, w.before args s = true) : ∃ (D : va_G) (cA : Nat → ClassId) (tys : List (ClassId × FieldType)), va_K D tb_cl tys s ∧ ∀ t ty, am_ty[t]? = some ty → tys[t]? = some (cA t, ty) := by
  have hts : ∀ w ∈ tb_w, w.before args s = true := fun w hw => hT w (List.mem_filter.mp hw).1
  have h1 : ∀ ci : Nat, ∃ q : ClassId × (Nat → Nat), ∀ z, tb_cl[ci]? = some z → u_Kn s z.1 z.2.1 z.2.2 q.1 q.2 := by
    intro ci
    cases hz : tb_cl[ci]? with
    | none => exact ⟨(0, fun _ => 0), fun z h => by cases h⟩
    | some z =>
      obtain ⟨C, T, N⟩ := z
      obtain ⟨cC, iS, h⟩ := u_known (C := C) (T := T) (N := N) (n := N) hts (tb_cok ci C T N hz).1 (hts _ (tb_cfacts hz).1)
      exact ⟨(cC, iS), fun z2 h2 => by cases h2; exact h⟩
  obtain ⟨f, hf⟩ := Classical.axiomOfChoice h1
  have h2 : ∀ t : Nat, ∃ c : ClassId, ∀ ty, am_ty[t]? = some ty → ArrOfT s c ty ∧ va_RA s c ty := by
    intro t
    cases hz : am_ty[t]? with
    | none => exact ⟨0, fun z h => by cases h⟩
    | some ty =>
      obtain ⟨cB, kB, comp, hcB, hkB, hkind⟩ := Cond.arrayClass_spec (hT _ (kx_at t ty hz))
      refine ⟨cB, fun ty2 h => ?_⟩
      cases h
      refine ⟨fun n z => ⟨fun k h => (by cases h), kB, hkB, comp, hkind⟩, ?_⟩
      have hmem := List.mem_of_getElem? hz
      simp only [am_ty, List.mem_cons, List.not_mem_nil, or_false] at hmem
      rcases hmem with rfl | rfl | rfl | rfl | rfl <;> exact hcB
  obtain ⟨g, hg⟩ := Classical.axiomOfChoice h2
  refine ⟨(fun ci => (f ci).1, fun ci => (f ci).2), g, (am_ty.zipIdx).map (fun q => (g q.2, q.1)), ⟨fun ci z hz => hf ci z hz, fun k q hk => ?_⟩, fun t ty ht => ?_⟩
  · rw [List.getElem?_map, List.getElem?_zipIdx, Option.map_map, Option.map_eq_some_iff] at hk
    obtain ⟨ty, h3, h4⟩ := hk
    simp only [Function.comp, Nat.zero_add] at h4
    rw [← h4]
    exact hg k ty h3
  · rw [List.getElem?_map, List.getElem?_zipIdx, ht]
    simp
set_option maxHeartbeats 4000000 in
theorem lw_walk (HC : am_Claim) (l : Launch) (b : Addr) (xs : List Int32) : MetFree l x (headSpec (Jvm.Cond.code x code maxLocals ret :: tables_1) room_1) (lw_P b xs) (fun _ _ _ _ _ => True) lw_Q := by
  refine MetFree.of_bodyS (code := code) (maxLocals := maxLocals) (ret := ret) (by decide) ?_ ?_
  · intro args s m h hn
    obtain ⟨meth, c, h1, h2, h3, h4, h5, h6, -, -⟩ := Cond.code_spec hn (atoms_spec (ws := Jvm.Cond.code x code maxLocals ret :: tables_1) h _ List.mem_cons_self)
    exact ⟨meth, c, h1, h2, h3, h4, h5, h6⟩
  · intro p e s m args below meth c s₁ B hml0 hP _
    obtain ⟨rfl, hx, hbd, hgv⟩ := hP
    obtain ⟨scr, harrAt, hlist, hof, hsmall⟩ := hx
    obtain ⟨hcb, hkn, -, -⟩ := State.arrayAt?_spec harrAt
    have hown : s.vm.findClass R_law = some m.cls := findClass_of_methodNamed B.named
    have hts0 : ∀ c ∈ (Jvm.Cond.code x code maxLocals ret :: tables_1), c.before #[Value.ref b] s = true := atoms_spec (ws := Jvm.Cond.code x code maxLocals ret :: tables_1) B.pre
    have hts : ∀ w ∈ lw_tbl, w.before #[Value.ref b] s = true := k2_hts_sels lw_privs (fun w hw => hts0 w (List.mem_cons_of_mem _ hw)) lw_privs_ok
    have hml : c.maxLocals = 4 := B.maxLocals_eq (hts0 _ List.mem_cons_self)
    have X₀ : Stand p l e room_1 s m #[Value.ref b] below meth c s₁ [] 0 0 := Stand.of_body B
    have hh0 : s₁.heap = s.heap := by rw [B.state]; rfl
    have hsz : scr.slots.size = xs.length := by rw [← Array.length_toList, hlist, List.length_map]
    have hval : ∀ j : Nat, j < xs.length → scr.slots[j]? = some (.int (xs.getD j 0)) := fun j hj => by
      rw [← Array.getElem?_toList, hlist]
      simp [hj]
    have hbl : b < s.heap.size := (Array.getElem?_eq_some_iff.mp hcb).1
    have hX : va_X b xs.length (fun j => xs.getD j 0) s s.heap := ⟨scr, hcb, hof, hkn, hsz, hval⟩
    have hT : ∀ w ∈ tb_c.flatten, w.before #[Value.ref b] s = true := by
      intro w hw
      rw [tb_flat] at hw
      rcases List.mem_append.mp hw with h | h
      · exact hts w h
      · rw [List.mem_singleton.mp h]
        exact hts0 _ List.mem_cons_self
    obtain ⟨v, b', hv, hb0, hbb, hG⟩ := am_start hT (flat_of_before _ hgv) hX hbl
    obtain ⟨D, cA, tys, hK, htys⟩ := am_known hT
    obtain ⟨n, d, h', mc, ms, hrun, hmc, hms, hd⟩ := HC v xs.length (fun j => xs.getD j 0) hv hbd
    have hl := lv_entry ([.ref b]) (n := 4) (Nat.le_of_ble_eq_true rfl)
    have e0 : ([(0, Value.ref 0)] : am_L).map (am_q b') = [(0, .ref b)] := by rw [← hb0]; rfl
    have K : W p l e room_1 s m #[Value.ref b] below meth c s.heap [] 0 0 (MQ below (am_Q b' s.heap.size tb_nK D tb_cl cA (some (.int 1)) h') #[Value.ref b] s mc ms (fun q => s.heap.size ≤ q)) (entryFrame m ([Value.ref b] : List Value).toArray 4) := by
      rw [lg_entry_eq]
      generalize (lg_sl ([.ref b]) ++ List.replicate (4 - (lg_sl ([.ref b])).length) Slot.unset).toArray = ls at hl ⊢
      exact am_sound (tb_ok v hbb) htys tb_KO_lt n d tb_law 0 [(0, .ref 0)] [] [] _ hrun tb_law_m ⟨B.exec, B.bytes, B.returns, hml, hown, fun w hw => hT w (List.mem_filter.mp hw).1, B.notSynchronized, (name_of_methodNamed B.named B.method).1, hK, hG⟩ (by rw [e0]; exact hl) (fun k q hk => by simp [am_w] at hk) rfl va_S.rf ⟨by show d ≤ 2048; omega, by show 64 * d ≤ 84000; omega⟩ (Nat.zero_add _) (Nat.zero_add _) ⟨hmc, hms⟩
    obtain ⟨t, a1, o, b1, b2, ⟨b3, -⟩, L, hF, hL⟩ := K s₁ hh0 X₀
    exact ⟨t, o, a1, b1, b2, b3, hF.1, hF.2.1, hF.2.2.weaken (fun y hy hlt => absurd hlt (Nat.not_lt.mpr (hL y hy))) hmc hms⟩
