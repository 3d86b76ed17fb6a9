/-! the abstract machine: what its cell instructions do, the JVM does -/
theorem am_ci (cA : ClassId) (n : Nat) (f : Nat → Int32) (k : Nat) (x : Int32) : (vp_cell cA (n, .inl f)).setSlot k (.int x) = vp_cell cA (n, .inl (upd f k x)) := by
  rw [vp_cell_i, vp_cell_i, arrV_store]
  congr 1
  funext q
  by_cases hq : q = k
  · subst hq
    simp [updV, upd]
  · simp [updV, upd, hq]
theorem am_cl (cA : ClassId) (n : Nat) (f : Nat → Int64) (k : Nat) (x : Int64) : (vp_cell cA (n, .inr (.inl f))).setSlot k (.long x) = vp_cell cA (n, .inr (.inl (vp_updL f k x))) := by
  rw [vp_cell_l, vp_cell_l, arrV_store]
  congr 1
  funext q
  by_cases hq : q = k
  · subst hq
    simp [updV, vp_updL]
  · simp [updV, vp_updL, hq]
theorem am_nz (x : Int32) : narrow .boolean (.int x) = .int (vp_nar .boolean x) := rfl
section AMHO
variable {p : Program} {l : Launch} {e : Env} {R : Room} {s : State} {m : MethodId} {args : Array Value} {below : List Frame} {meth : Method} {c : Code} {H H0 : Heap} {locs : List Loc} {cells slots : Nat} {Q : State → Prop}
variable {cc : ByteArray} {pc : Nat} {ls : Array Slot} {D : va_G} {cl : List vw_C} {tys : List (ClassId × FieldType)} {Ts Ns : List Cond} {own : String} {K h : List am_C} {nK base : Nat} {b : Nat → Nat} {cA : Nat → ClassId} {df : Nat → List Value} {ft : Nat → Nat → FieldType}
theorem am_upd (hbb : ∀ i, b (nK + i) = base + i) (hP : va_P D cl (am_w b cA nK h) H) (hS : va_S (fun q => base ≤ q) H0 H locs) {j i : Nat} {c0 c' : am_C} (hj : h[j]? = some c0) {H1 : Heap} (he : va_at D cl (b (nK + j), am_e b cA c') H1) (hz : H1.size = H.size) (ho : ∀ q, q ≠ b (nK + j) → H1[q]? = H[q]?) :
    va_P D cl (am_w b cA nK (h.set j c')) H1 ∧ va_S (fun q => base ≤ q) H0 H1 (locs ++ [⟨b (nK + j), i⟩]) := by
  refine ⟨?_, hS.put hz ho (by show base ≤ _; rw [hbb]; omega)⟩
  rw [← am_w_set]
  exact hP.set (am_w_D hbb h) (e0 := am_e b cA c0) (by rw [am_w_get, hj]; rfl) he ho
theorem am_push (hbb : ∀ i, b (nK + i) = base + i) (hP : va_P D cl (am_w b cA nK h) H) (hS : va_S (fun q => base ≤ q) H0 H locs) (hsz : H.size = base + h.length) {c' : am_C} {H1 : Heap} (he : va_at D cl (b (nK + h.length), am_e b cA c') H1) (hz : H1.size = H.size + 1) (ho : ∀ q, q < H.size → H1[q]? = H[q]?) :
    va_P D cl (am_w b cA nK (h ++ [c'])) H1 ∧ va_S (fun q => base ≤ q) H0 H1 locs ∧ H1.size = base + (h ++ [c']).length := by
  refine ⟨?_, ⟨Nat.le_trans hS.1 (by omega), fun x h1 h2 => (ho x (Nat.lt_of_lt_of_le h1 hS.1)).trans (hS.2.1 x h1 h2), hS.2.2⟩, by rw [hz, hsz, List.length_append]; simp; omega⟩
  rw [am_w_app]
  refine (hP.kept fun k x hx => ho x.1 (hP k x hx).lt).app fun k x hx => ?_
  have hz : k < 1 := (List.getElem?_eq_some_iff.mp hx).1
  rw [show k = 0 by omega] at hx
  cases hx
  exact he
theorem am_hp_ok (hexec : p.tables.exec = Jvm.exec) (hb : c.code = cc) (hown : s.vm.findClass own = some m.cls) (hts : ∀ w ∈ Ts, w.before args s = true) (hns : ∀ w ∈ Ns, w.before args s = true) (hcok : am_cok cl Ts ft) (hK : va_K D cl tys s) (htys : ∀ t ty, am_ty[t]? = some ty → tys[t]? = some (cA t, ty)) (hbb : ∀ i, b (nK + i) = base + i)
    (hPk0 : va_P D cl (am_w b cA 0 K) H0) (hKb : ∀ k, k < K.length → b k < base) (hP : va_P D cl (am_w b cA nK h) H) (hsz : H.size = base + h.length) (hS : va_S (fun q => base ≤ q) H0 H locs) {init : Bool} (hini : init = true → meth.name = "<init>")
    {x : am_I} (hok : am_hok cl Ts Ns own init df ft x) (hdg : decode cc pc = .ok (x.1, am_len x.1)) {st st' : List Value} {h' : List am_C} {dc ds : Nat} (hx : am_hp K nK df ft x st h = some (st', h', dc, ds)) (hroom : cells + dc ≤ R.cells ∧ slots + ds ≤ R.slots)
    (k : ∀ (H' : Heap) (locs' : List Loc), va_P D cl (am_w b cA nK h') H' → H'.size = base + h'.length → va_S (fun q => base ≤ q) H0 H' locs' → W p l e R s m args below meth c H' locs' (cells + dc) (slots + ds) Q (F0 m (pc + am_len x.1) ls (st'.map (am_v b)))) :
    W p l e R s m args below meth c H locs cells slots Q (F0 m pc ls (st.map (am_v b))) := by
  have hPk := am_kp hPk0 hKb hS
  have hat : ∀ {a : Nat} {x : am_C}, am_at K nK h a = some x → va_P D cl [(b a, am_e b cA x)] H := fun hx => am_at_ok hPk hP hx
  unfold am_hp at hx
  split at hx
  · -- getfield
    rename_i h0 ix ci fk a st0
    split at hx
    · cases hx
    · rename_i ha
      split at hx
      · rename_i cj fs hcell
        split at hx
        · rename_i hci
          subst hci
          split at hx
          · rename_i v hv
            cases hx
            obtain ⟨C, T, N, hc, hk, hl⟩ := hok
            have hw := (hcok _ _ _ _ hc).1
            have e1 : va_P D cl [(b a, am_e b cA (.inr (cj, fs)))] H := hat (by unfold am_at; rw [if_neg ha]; exact hcell)
            have hv' : (fs.map (am_v b))[fk]? = some (am_v b v) := by rw [List.getElem?_map, hv]; rfl
            rcases hl with hl | ⟨host, hl⟩
            · exact va_get hexec hb hts hw hown hK e1 0 rfl hc fk hk (hts _ hl) (fun _ q => q) hv' hdg (k H locs hP hsz hS)
            · exact va_getN hexec hb hts hw hown hK e1 0 rfl hc fk hk (hns _ hl) (fun _ q => q) hv' hdg (k H locs hP hsz hS)
          · cases hx
        · cases hx
      · cases hx
  · -- putfield
    rename_i h0 ix ci fk v a st0
    split at hx
    · cases hx
    · rename_i ha
      split at hx
      · rename_i cj fs hcell
        split at hx
        · rename_i hci
          obtain ⟨rfl, hlen, hfit⟩ := hci
          cases hx
          obtain ⟨C, T, N, hc, hk, hd, hl⟩ := hok
          obtain ⟨hw, hty, hnm⟩ := hcok _ _ _ _ hc
          obtain ⟨f1, f2⟩ := am_fit_ok b hfit
          have haa : nK + (a - nK) = a := Nat.add_sub_cancel' (Nat.le_of_not_lt ha)
          have he : (am_w b cA nK h)[a - nK]? = some (b a, .inr (cj, fs.map (am_v b))) := by rw [am_w_get, hcell, haa]; rfl
          refine am_put hexec hb hts hw (ft cj) hty hnm hown hK hP (am_w_D hbb h) hS (a - nK) he hc fk hk ?_ f1 f2 (by rw [List.length_map]; exact hlen) hdg fun H1 locs1 e1 e2 e3 => k H1 locs1 ?_ (by rw [e3, hsz, List.length_set]) e2
          · rcases hl with ⟨hf, hl | ⟨host, hl⟩⟩ | ⟨hf, hi, ho, hl⟩
            · exact Or.inl ⟨hf, Or.inl (hts _ hl)⟩
            · exact Or.inl ⟨hf, Or.inr ⟨host, hns _ hl⟩⟩
            · exact Or.inr ⟨hf, hini hi, ho, hts _ hl⟩
          · rw [← am_w_set, haa]
            show va_P D cl ((am_w b cA nK h).set (a - nK) (b a, .inr (cj, (fs.set fk v).map (am_v b)))) H1
            rw [List.map_set]
            exact e1
        · cases hx
      · cases hx
  · -- new
    rename_i st0 h0 ix ci r2 r3
    cases hx
    obtain ⟨C, T, N, hc, hN, hty, hv, hl1, hl2, hl3⟩ := hok
    obtain ⟨hw, -, -⟩ := hcok _ _ _ _ hc
    have hKn := hK.1 ci _ hc
    have hdf : (df ci).map (am_v b) = df ci := by
      rw [List.map_congr_left (g := id) (fun v h => hv v h b)]; simp
    refine W.newcK hexec hb hown (hts _ hl1) (hts _ hl2) (hts _ hl3) rfl hdg hroom.1 (by rw [← hN]; exact hroom.2) hKn.2.1 rfl fun H1 kC hkC e1 z1 o1 => ?_
    have hH : H.size = b (nK + h.length) := by rw [hbb]; exact hsz
    obtain ⟨g1, g2, g3⟩ := am_push (c' := .inr (ci, df ci)) hbb hP hS hsz (H1 := H1) (by
      rw [← hH]
      show va_at D cl (H.size, .inr (ci, (df ci).map (am_v b))) H1
      rw [hdf]
      exact ⟨_, hc, (u_born (ft ci) hts hw hKn hkC e1 (fun k hk => (hty k hk).1)).to (fun j hj => (hty j hj).2)⟩) z1 o1
    rw [hH, ← hN]
    exact k H1 locs g1 g3 g2
  · -- newarray int
    rename_i h0 r1 r2 r3 n st0
    have hok : Cond.arrayClass (newarray.typeOf .int) ∈ Ts := hok
    split at hx
    · cases hx
    · rename_i hn
      cases hx
      refine va_newaK hexec hb (hts _ hok) rfl hdg rfl (fun q => hn (Or.inl q)) rfl (by show _ * 4 ≤ _; omega) hroom.1 hroom.2 rfl fun H1 cA1 e1 z1 o1 hA1 hNm => ?_
      have hH : H.size = b (nK + h.length) := by rw [hbb]; exact hsz
      have hc : cA1 = cA 0 := Option.some.inj (hNm.symm.trans (hK.2 0 _ (htys 0 .int rfl)).2)
      subst hc
      obtain ⟨g1, g2, g3⟩ := am_push (c' := .inl (0, n.toNatClampNeg, .inl (fun _ => 0))) hbb hP hS hsz (H1 := H1) (by rw [← hH]; exact e1) z1 o1
      rw [hH]
      exact k H1 locs g1 g3 g2
  · -- newarray long
    rename_i h0 r1 r2 r3 n st0
    have hok : Cond.arrayClass (newarray.typeOf .long) ∈ Ts := hok
    split at hx
    · cases hx
    · rename_i hn
      cases hx
      refine va_newaK hexec hb (hts _ hok) rfl hdg rfl (fun q => hn (Or.inl q)) rfl (by show _ * 8 ≤ _; omega) hroom.1 hroom.2 rfl fun H1 cA1 e1 z1 o1 hA1 hNm => ?_
      have hH : H.size = b (nK + h.length) := by rw [hbb]; exact hsz
      have hc : cA1 = cA 1 := Option.some.inj (hNm.symm.trans (hK.2 1 _ (htys 1 .long rfl)).2)
      subst hc
      obtain ⟨g1, g2, g3⟩ := am_push (c' := .inl (1, n.toNatClampNeg, .inr (.inl (fun _ => 0)))) hbb hP hS hsz (H1 := H1) (by rw [← hH]; exact e1) z1 o1
      rw [hH]
      exact k H1 locs g1 g3 g2
  · -- newarray boolean
    rename_i h0 r1 r2 r3 n st0
    have hok : Cond.arrayClass (newarray.typeOf .boolean) ∈ Ts := hok
    split at hx
    · cases hx
    · rename_i hn
      cases hx
      refine va_newaK hexec hb (hts _ hok) rfl hdg rfl (fun q => hn (Or.inl q)) rfl (by show _ * 1 ≤ _; omega) hroom.1 hroom.2 rfl fun H1 cA1 e1 z1 o1 hA1 hNm => ?_
      have hH : H.size = b (nK + h.length) := by rw [hbb]; exact hsz
      have hc : cA1 = cA 4 := Option.some.inj (hNm.symm.trans (hK.2 4 _ (htys 4 .boolean rfl)).2)
      subst hc
      obtain ⟨g1, g2, g3⟩ := am_push (c' := .inl (4, n.toNatClampNeg, .inl (fun _ => 0))) hbb hP hS hsz (H1 := H1) (by rw [← hH]; exact e1) z1 o1
      rw [hH]
      exact k H1 locs g1 g3 g2
  · -- arraylength
    rename_i h0 r1 r2 r3 a st0
    split at hx
    · rename_i t n f hcell
      split at hx
      · rename_i ht
        cases hx
        have ht : t < am_ty.length := ht
        obtain ⟨ty, hty⟩ : ∃ ty, am_ty[t]? = some ty := ⟨am_ty[t], List.getElem?_eq_getElem ht⟩
        exact va_alen hexec hb hK (hat hcell) 0 t rfl (htys t ty hty) rfl hdg (k H locs hP hsz hS)
      · cases hx
    · cases hx
  · rename_i h0 r1 r2 r3 i a st0
    split at hx
    · rename_i n f hcell
      split at hx
      · cases hx
      · rename_i hi
        cases hx
        exact va_iald hexec hb hK (hat hcell) 0 0 rfl (htys 0 .int rfl) hi hdg (k H locs hP hsz hS)
    · cases hx
  · rename_i h0 r1 r2 r3 i a st0
    split at hx
    · rename_i n f hcell
      split at hx
      · cases hx
      · rename_i hi
        cases hx
        exact va_lald hexec hb hK (hat hcell) 0 1 rfl (htys 1 .long rfl) hi hdg (k H locs hP hsz hS)
    · cases hx
  · rename_i h0 r1 r2 r3 i a st0
    split at hx
    · rename_i n f hcell
      split at hx
      · cases hx
      · rename_i hi
        cases hx
        exact va_cald hexec hb hK (hat hcell) 0 2 rfl (htys 2 .char rfl) hi hdg (k H locs hP hsz hS)
    · cases hx
  · rename_i h0 r1 r2 r3 i a st0
    split at hx
    · rename_i n f hcell
      split at hx
      · cases hx
      · rename_i hi
        cases hx
        exact va_zald hexec hb hK (hat hcell) 0 4 rfl (htys 4 .boolean rfl) hi hdg (k H locs hP hsz hS)
    · cases hx
  · -- iastore
    rename_i h0 r1 r2 r3 xv i a st0
    split at hx
    · cases hx
    · rename_i ha
      split at hx
      · rename_i n f hcell
        split at hx
        · cases hx
        · rename_i hi
          cases hx
          have haa : nK + (a - nK) = a := Nat.add_sub_cancel' (Nat.le_of_not_lt ha)
          have e1 : va_P D cl [(b a, am_e b cA (.inl (0, n, .inl f)))] H := hat (by unfold am_at; rw [if_neg ha]; exact hcell)
          refine W.iast hexec hb (cell := vp_cell (cA 0) (n, .inl f)) (e1 0 _ rfl) ((hK.2 0 _ (htys 0 .int rfl)).1 n (fun j => .int (f j))) (fun q => by cases q) (by show ¬ (i < 0 ∨ (arrV _ _ _).slots.size ≤ _); rw [arrV_size]; exact hi) rfl rfl hdg fun H1 q1 z oq => ?_
          obtain ⟨g1, g2⟩ := am_upd (c' := .inl (0, n, .inl (upd f i.toNatClampNeg xv))) (i := i.toNatClampNeg) hbb hP hS hcell (H1 := H1) (by rw [haa]; show H1[b a]? = some (vp_cell _ _); rw [q1, am_ci]) z (by rw [haa]; exact oq)
          rw [haa] at g2
          exact k H1 _ g1 (by rw [z, hsz, List.length_set]) g2
      · cases hx
  · -- lastore
    rename_i h0 r1 r2 r3 xv i a st0
    split at hx
    · cases hx
    · rename_i ha
      split at hx
      · rename_i n f hcell
        split at hx
        · cases hx
        · rename_i hi
          cases hx
          have haa : nK + (a - nK) = a := Nat.add_sub_cancel' (Nat.le_of_not_lt ha)
          have e1 : va_P D cl [(b a, am_e b cA (.inl (1, n, .inr (.inl f))))] H := hat (by unfold am_at; rw [if_neg ha]; exact hcell)
          refine W.last hexec hb (cell := vp_cell (cA 1) (n, .inr (.inl f))) (e1 0 _ rfl) ((hK.2 1 _ (htys 1 .long rfl)).1 n (fun j => .long (f j))) (fun q => by cases q) (by show ¬ (i < 0 ∨ (arrV _ _ _).slots.size ≤ _); rw [arrV_size]; exact hi) rfl rfl hdg fun H1 q1 z oq => ?_
          obtain ⟨g1, g2⟩ := am_upd (c' := .inl (1, n, .inr (.inl (vp_updL f i.toNatClampNeg xv)))) (i := i.toNatClampNeg) hbb hP hS hcell (H1 := H1) (by rw [haa]; show H1[b a]? = some (vp_cell _ _); rw [q1, am_cl]) z (by rw [haa]; exact oq)
          rw [haa] at g2
          exact k H1 _ g1 (by rw [z, hsz, List.length_set]) g2
      · cases hx
  · -- bastore
    rename_i h0 r1 r2 r3 xv i a st0
    split at hx
    · cases hx
    · rename_i ha
      split at hx
      · rename_i n f hcell
        split at hx
        · cases hx
        · rename_i hi
          cases hx
          have haa : nK + (a - nK) = a := Nat.add_sub_cancel' (Nat.le_of_not_lt ha)
          have e1 : va_P D cl [(b a, am_e b cA (.inl (4, n, .inl f)))] H := hat (by unfold am_at; rw [if_neg ha]; exact hcell)
          refine W.zast hexec hb (cell := vp_cell (cA 4) (n, .inl f)) (e1 0 _ rfl) ((hK.2 4 _ (htys 4 .boolean rfl)).1 n (fun j => .int (f j))) (fun q => by cases q) (by show ¬ (i < 0 ∨ (arrV _ _ _).slots.size ≤ _); rw [arrV_size]; exact hi) rfl rfl hdg fun H1 q1 z oq => ?_
          obtain ⟨g1, g2⟩ := am_upd (c' := .inl (4, n, .inl (upd f i.toNatClampNeg (vp_nar .boolean xv)))) (i := i.toNatClampNeg) hbb hP hS hcell (H1 := H1) (by rw [haa]; show H1[b a]? = some (vp_cell _ _); rw [q1, am_nz, am_ci]) z (by rw [haa]; exact oq)
          rw [haa] at g2
          exact k H1 _ g1 (by rw [z, hsz, List.length_set]) g2
      · cases hx
  · cases hx
end AMHO
