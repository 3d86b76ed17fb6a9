/-! what the abstract machine does, the JVM does -/
theorem am_nsw_op {i : Instr} {st st' : List Value} (h : am_op i st = some st') : am_isw i = false := by
  unfold am_op at h
  split at h <;> first | rfl | cases h
theorem am_nsw_mv {nL : Nat} {i : Instr} {lo : am_L} {st : List Value} {r : am_L × List Value} (h : am_mv nL i lo st = some r) : am_isw i = false := by
  unfold am_mv at h
  split at h <;> first | rfl | cases h
theorem am_nsw_br {i : Instr} {st : List Value} {r : Bool × Int × List Value} (h : am_br i st = some r) : am_isw i = false := by
  unfold am_br at h
  split at h <;> first | rfl | cases h
theorem am_nsw_hp {K : List am_C} {nK : Nat} {df : Nat → List Value} {ft : Nat → Nat → FieldType} {x : am_I} {st : List Value} {h0 : List am_C} {r : List Value × List am_C × Nat × Nat} (h : am_hp K nK df ft x st h0 = some r) : am_isw x.1 = false := by
  unfold am_hp at h
  split at h <;> first | rfl | cases h
theorem am_nsw_kc {nK : Nat} {KT : List (FieldType × Nat × (Nat → Int32))} {KF : List (List Value)} {SZ : List (String × String × String × Value)} {SR : List (String × Nat × String × Nat)} {x : am_I} {st st' : List Value} (h : am_kc nK KT KF SZ SR x st = some st') : am_isw x.1 = false := by
  unfold am_kc at h
  split at h <;> first | rfl | cases h
theorem am_nsw_rt {ret : Option FieldType} {i : Instr} {st : List Value} {v : Option Value} (h : am_rt ret i st = some v) : am_isw i = false := by
  unfold am_rt at h
  split at h <;> first | rfl | cases h
theorem am_nsw_oi {d : Nat} {x : am_I} {st st' : List Value} (h : am_oi d x st = some st') : am_isw x.1 = false := by
  unfold am_oi at h
  split at h <;> first | rfl | cases h
theorem am_nsw_cp {nK : Nat} {KT : List (FieldType × Nat × (Nat → Int32))} {d : Nat} {x : am_I} {st : List Value} {h0 : List am_C} {r : List Value × List am_C} (h : am_cp nK KT d x st h0 = some r) : am_isw x.1 = false := by
  unfold am_cp at h
  split at h <;> first | rfl | cases h
theorem am_nsw_iv {nK : Nat} {KO : List String} {x : am_I} {st : List Value} {h0 : List am_C} {r : Nat × List Value × List Value} (h : am_iv nK KO h0 x st = some r) : am_isw x.1 = false := by
  unfold am_iv at h
  split at h <;> first | rfl | cases h
/-- the tables and the code, as they must be -/
def am_Ok (nK base : Nat) (b : Nat → Nat) (cl : List vw_C) (Ts Ns : List Cond) (FN : List (String × String × String)) (SZ : List (String × String × String × Value)) (SR : List (String × Nat × String × Nat)) (df : Nat → List Value) (ft : Nat → Nat → FieldType) (mt : am_T) (co : am_P) : Prop :=
  (∀ i, b (nK + i) = base + i) ∧ am_cok cl Ts ft ∧ am_mok Ts mt ∧ (∀ w ∈ Ts, (w.onTables && w.keeps) = true ∨ ∃ ty, w = .arrayClass ty) ∧ (∀ w ∈ Ns, am_nst w = true) ∧
  ∀ j pc x y bytes nL ret, co j pc = some x → mt j = some (y, bytes, nL, ret) → (∃ len, decode bytes pc = .ok (x.1, len) ∧ (am_isw x.1 = false → len = am_len x.1)) ∧ am_hok cl Ts Ns y.cls (y.name == "<init>") df ft x ∧ am_kok Ts Ns y.cls FN SZ SR nK x ∧ am_xok Ts y.cls x ∧ am_iok cl Ts Ns y.cls mt x
section AMS
variable {l : Launch} {nK base : Nat} {b : Nat → Nat} {D : va_G} {cl : List vw_C} {tys : List (ClassId × FieldType)} {cA : Nat → ClassId} {Ts Ns : List Cond}
variable {KT : List (FieldType × Nat × (Nat → Int32))} {KF : List (List Value)} {FN : List (String × String × String)} {KO : List String} {SZ : List (String × String × String × Value)} {SR : List (String × Nat × String × Nat)} {df : Nat → List Value} {ft : Nat → Nat → FieldType} {mt : am_T} {co : am_P}
/-- what holds all through a method's walk -/
def am_Cx (l : Launch) (b : Nat → Nat) (base : Nat) (D : va_G) (cl : List vw_C) (tys : List (ClassId × FieldType)) (Ts : List Cond) (G : State → Prop) (y : MethodName) (bytes : ByteArray) (nL : Nat) (ret : Option FieldType) (p : Program) (s : State) (m : MethodId) (args : Array Value) (meth : Method) (c : Code) : Prop :=
  p.tables.exec = Jvm.exec ∧ c.code = bytes ∧ meth.sig.returnType = ret ∧ c.maxLocals = nL ∧ s.vm.findClass y.cls = some m.cls ∧ (∀ w ∈ Ts, w.before args s = true) ∧ meth.locks = false ∧ meth.name = y.name ∧ va_K D cl tys s ∧ G s
theorem am_one_ok (OK : am_Ok nK base b cl Ts Ns FN SZ SR df ft mt co) (htys : ∀ t ty, am_ty[t]? = some ty → tys[t]? = some (cA t, ty)) {j pc : Nat} {x : am_I} {y : MethodName} {bytes : ByteArray} {nL : Nat} {ret : Option FieldType} (hco : co j pc = some x) (hmt : mt j = some (y, bytes, nL, ret))
    {p : Program} {e : Env} {R : Room} {s : State} {m : MethodId} {args : Array Value} {below : List Frame} {meth : Method} {c : Code} {H : Heap} {locs : List Loc} {cells slots : Nat} {ls : Array Slot}
    (C : am_Cx l b base D cl tys Ts (am_G b base KT KF FN KO SZ SR Ns) y bytes nL ret p s m args meth c) {lo : am_L} {st : List Value} {h : List am_C} (hl : lv_has ls nL (lo.map (am_q b))) (hP : va_P D cl (am_w b cA nK h) H) (hsz : H.size = base + h.length) (hS : va_S (fun q => base ≤ q) s.heap H locs) {d : Nat} (hroom : d ≤ R.frames ∧ 64 * d ≤ R.locals) :
    (∀ {pc' : Nat} {lo' : am_L} {st' : List Value} {h' : List am_C} {dc ds : Nat} {Q : State → Prop}, am_one nK KT KF SZ SR df ft d nL ret x pc lo st h = some (.inl (pc', lo', st', h', dc, ds)) → cells + dc ≤ R.cells ∧ slots + ds ≤ R.slots →
      (∀ (ls' : Array Slot) (H' : Heap) (locs' : List Loc), lv_has ls' nL (lo'.map (am_q b)) → va_P D cl (am_w b cA nK h') H' → H'.size = base + h'.length → va_S (fun q => base ≤ q) s.heap H' locs' → W p l e R s m args below meth c H' locs' (cells + dc) (slots + ds) Q (F0 m pc' ls' (st'.map (am_v b)))) →
      W p l e R s m args below meth c H locs cells slots Q (F0 m pc ls (st.map (am_v b)))) ∧
    (∀ {v : Option Value} {Qc : Array Value → State → Outcome → State → Prop} {free : Addr → Prop}, am_one nK KT KF SZ SR df ft d nL ret x pc lo st h = some (.inr v) → (∀ t : State, t.heap = H → s.WarmedH t.vm → Qc args s (.returned (v.map (am_v b))) t) → (∀ q ∈ locs, free q.base) →
      W p l e R s m args below meth c H locs cells slots (MQ below Qc args s cells slots free) (F0 m pc ls (st.map (am_v b)))) := by
  obtain ⟨hx, hb, hr, hml, hown, hts, hlocks, hname, hK, hG⟩ := C
  obtain ⟨hbb, hcok, hmok, hgood, hnst, hall⟩ := OK
  obtain ⟨⟨len, hd0, hlen⟩, k1, k2, k3, k4⟩ := hall _ _ _ _ _ _ _ hco hmt
  have hdg : am_isw x.1 = false → decode bytes pc = .ok (x.1, am_len x.1) := fun q => by rw [← hlen q]; exact hd0
  have hml' : c.maxLocals = ls.size := by rw [hml]; exact hl.1.symm
  have hns : ∀ w ∈ Ns, w.before args s = true := fun w hw => va_Nw.use (am_nst_on (hnst w hw)) (hG.2.2.2.2.2 w hw)
  have hPk0 : va_P D cl (am_w b cA 0 []) s.heap := fun k q hk => by simp [am_w] at hk
  refine ⟨fun {pc' lo' st' h' dc ds Q} h1 hrm k => ?_, fun {v Qc free} h1 hq hf => ?_⟩
  · unfold am_one at h1
    split at h1
    · rename_i st2 h2
      cases h1
      exact am_op_ok hx hb b (hdg (am_nsw_op h2)) h2 (k ls H locs hl hP hsz hS)
    · split at h1
      · rename_i lo2 st2 h2
        cases h1
        exact am_mv_ok hx hb b hl (hdg (am_nsw_mv h2)) h2 (fun ls' hl' => k ls' H locs hl' hP hsz hS)
      · split at h1
        · rename_i t off st2 h2
          split at h1
          · rename_i ho
            cases h1
            have e1 : (pc : Int) + off = ((((pc : Int) + off).toNat : Nat) : Int) := (Int.toNat_of_nonneg ho).symm
            refine am_br_ok hx hb b (hdg (am_nsw_br h2)) h2 e1 (fun q => ?_) (fun q => ?_)
            · subst q
              exact k ls H locs hl hP hsz hS
            · subst q
              exact k ls H locs hl hP hsz hS
          · cases h1
        · split at h1
          · rename_i off st2 h2
            split at h1
            · rename_i ho
              cases h1
              exact am_sw_ok hx hb b hd0 h2 (Int.toNat_of_nonneg ho).symm (k ls H locs hl hP hsz hS)
            · cases h1
          · split at h1
            · rename_i st2 h2 dc2 ds2 h3
              cases h1
              exact am_hp_ok hx hb hown hts hns hcok hK htys hbb hPk0 (fun k hk => absurd hk (Nat.not_lt_zero k)) hP hsz hS (init := (y.name == "<init>")) (fun q => by rw [hname]; exact eq_of_beq q) k1 (hdg (am_nsw_hp h3)) h3 hrm (fun H' locs' e1 e2 e3 => k ls H' locs' hl e1 e2 e3)
            · split at h1
              · rename_i st2 h2
                cases h1
                exact am_kc_ok hx hb hown hts hG hS k2 (hdg (am_nsw_kc h2)) h2 (k ls H locs hl hP hsz hS)
              · split at h1
                · cases h1
                · split at h1
                  · rename_i st2 h2
                    cases h1
                    exact am_oi_ok hx hb hml' hown hts k3 (hdg (am_nsw_oi h2)) h2 hroom (k ls H locs hl hP hsz hS)
                  · split at h1
                    · rename_i st2 h2 h3
                      cases h1
                      exact am_cp_ok hx hb hml' hown hts hK htys hbb hG hP hsz hS k3 (hdg (am_nsw_cp h3)) h3 hroom (fun H' locs' e1 e2 e3 => k ls H' locs' hl e1 e2 e3)
                    · cases h1
  · unfold am_one at h1
    split at h1
    · cases h1
    · split at h1
      · cases h1
      · split at h1
        · split at h1 <;> cases h1
        · split at h1
          · split at h1 <;> cases h1
          · split at h1
            · cases h1
            · split at h1
              · cases h1
              · split at h1
                · rename_i v2 h2
                  cases h1
                  exact am_rt_ok hx hb hr hlocks (hdg (am_nsw_rt h2)) h2 hq hf
                · split at h1
                  · cases h1
                  · split at h1
                    · cases h1
                    · cases h1
end AMS
