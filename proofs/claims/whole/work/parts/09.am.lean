/-! calls: a callee's contract, by the machine's own run -/
section AMC
variable {l : Launch} {nK base : Nat} {b : Nat → Nat} {D : va_G} {cl : List vw_C} {tys : List (ClassId × FieldType)} {cA : Nat → ClassId} {Ts Ns : List Cond}
variable {KT : List (FieldType × Nat × (Nat → Int32))} {KF : List (List Value)} {FN : List (String × String × String)} {KO : List String} {SZ : List (String × String × String × Value)} {SR : List (String × Nat × String × Nat)} {df : Nat → List Value} {ft : Nat → Nat → FieldType} {mt : am_T} {co : am_P}
abbrev am_rm (d mc ms : Nat) : Room := { frames := d, cells := mc, slots := ms, locals := 64 * d }
theorem am_blind (hnst : ∀ w ∈ Ns, am_nst w = true) {as : List Value} {h : List am_C} : FrameBlind (am_Pc b base nK D cl cA tys (am_G b base KT KF FN KO SZ SR Ns) as h) := by
  intro a U g mk ⟨q1, q2, q3, q4, q5, q6⟩
  exact ⟨q1, q2, q3, va_K.moved (u := U) (U := U.calling g mk a) (Vm.Alike.refl U.vm) q4, q5.calls hnst, q6⟩
/-- behind a call -/
theorem am_after {p : Program} {e : Env} {R : Room} {s : State} {m : MethodId} {args : Array Value} {below : List Frame} {meth : Method} {c : Code} {H : Heap} {locs : List Loc} {cells slots mc ms pc : Nat} {ls : Array Slot} {Q : State → Prop} {st0 rest : List Value} {a : Array Value} {v : Option Value} {h' : List am_C}
    (hS : va_S (fun q => base ≤ q) s.heap H locs) (hr : va_Run p l e R s m args below meth c H locs cells slots mc ms (F0 m pc ls st0) rest (am_Q b base nK D cl cA v h' a) (fun q => base ≤ q))
    (k : ∀ (H' : Heap) (locs' : List Loc), va_P D cl (am_w b cA nK h') H' → H'.size = base + h'.length → va_S (fun q => base ≤ q) s.heap H' locs' → W p l e R s m args below meth c H' locs' (cells + mc) (slots + ms) Q (F0 m (pc + 3) ls ((v.map (am_v b)).toList ++ rest))) :
    W p l e R s m args below meth c H locs cells slots Q (F0 m pc ls st0) := by
  intro T hT X
  obtain ⟨v', st₀, t, T', L, h0, X', hL, e1, e2, ⟨q1, q2, q3, q4, q5⟩, st⟩ := hr T hT X
  cases q1
  rw [h0] at q4 q5
  obtain ⟨t2, a1, b1⟩ := k t.heap (locs ++ L) q2 q3 ⟨Nat.le_trans hS.1 q4, fun q z1 z2 => (q5 q (Nat.lt_of_lt_of_le z1 hS.1) z2).trans (hS.2.1 q z1 z2), fun q hq => by
    rcases List.mem_append.mp hq with z | z
    · exact hS.2.2 q z
    · exact hL q z⟩ T' e1 X'
  exact ⟨t2, st t2 a1, b1⟩
theorem am_call (OK : am_Ok nK base b cl Ts Ns FN SZ SR df ft mt co) (hKO : ∀ a C, KO[a]? = some C → a < nK) {j pc : Nat} {x : am_I} {y : MethodName} {bytes : ByteArray} {nL : Nat} {ret : Option FieldType} (hco : co j pc = some x) (hmt : mt j = some (y, bytes, nL, ret))
    {p : Program} {e : Env} {R : Room} {s : State} {m : MethodId} {args : Array Value} {below : List Frame} {meth : Method} {c : Code} {H : Heap} {locs : List Loc} {cells slots : Nat} {ls : Array Slot} {Q : State → Prop}
    (C : am_Cx l b base D cl tys Ts (am_G b base KT KF FN KO SZ SR Ns) y bytes nL ret p s m args meth c) {st : List Value} {h : List am_C} (hls : ls.size = nL) (hP : va_P D cl (am_w b cA nK h) H) (hsz : H.size = base + h.length) (hS : va_S (fun q => base ≤ q) s.heap H locs) {d : Nat} (hroom : d + 1 ≤ R.frames ∧ 64 * (d + 1) ≤ R.locals)
    {j' : Nat} {as rest : List Value} (hiv : am_iv nK KO h x st = some (j', as, rest)) {y' : MethodName} {bytes' : ByteArray} {nL' : Nat} {ret' : Option FieldType} (hmt' : mt j' = some (y', bytes', nL', ret')) {v : Option Value} {h' : List am_C} {mc ms : Nat} (hf : cells + mc ≤ R.cells ∧ slots + ms ≤ R.slots)
    (hM : Met l y' (Cond.code y' bytes' nL' ret' :: Ts) (am_rm d mc ms) (am_Pc b base nK D cl cA tys (am_G b base KT KF FN KO SZ SR Ns) as h) (am_Q b base nK D cl cA v h') mc ms (fun q => base ≤ q))
    (k : ∀ (H' : Heap) (locs' : List Loc), va_P D cl (am_w b cA nK h') H' → H'.size = base + h'.length → va_S (fun q => base ≤ q) s.heap H' locs' → W p l e R s m args below meth c H' locs' (cells + mc) (slots + ms) Q (F0 m (pc + 3) ls ((v.toList ++ rest).map (am_v b)))) :
    W p l e R s m args below meth c H locs cells slots Q (F0 m pc ls (st.map (am_v b))) := by
  obtain ⟨hx, hb, hr, hml, hown, hts, hlocks, hname, hK, hG⟩ := C
  obtain ⟨hbb, hcok, hmok, hgood, hnst, hall⟩ := OK
  obtain ⟨⟨len, hd0, hlen⟩, k1, k2, k3, k4⟩ := hall _ _ _ _ _ _ _ hco hmt
  have hlen := hlen (am_nsw_iv hiv)
  subst hlen
  obtain ⟨m1, m2, m3, m4⟩ := hmok _ _ _ _ _ hmt'
  have hgi : GoodIn Ts (Cond.code y' bytes' nL' ret' :: Ts) := fun w hw => by
    rcases List.mem_cons.mp hw with rfl | hw
    · exact ⟨m1, hgood _ m1⟩
    · exact ⟨hw, hgood _ hw⟩
  have hPre : ∀ U : State, U.heap = H → s.WarmedH U.vm → am_Pc b base nK D cl cA tys (am_G b base KT KF FN KO SZ SR Ns) as h (as.map (am_v b)).toArray U := fun U hU hW =>
    ⟨rfl, by rw [hU]; exact hP, by rw [hU]; exact hsz, va_K.moved hW.alike hK, hG.warm hnst hW (fun q q1 q2 => by rw [hU]; exact hS.2.1 q q1 q2), by rw [hU, hsz]; omega⟩
  have hbl : FrameBlind (am_Pc b base nK D cl cA tys (am_G b base KT KF FN KO SZ SR Ns) as h) := am_blind hnst
  have hR : (am_rm d mc ms).frames + 1 ≤ R.frames ∧ 8 + (nL' + 11) + (am_rm d mc ms).locals ≤ R.locals := ⟨hroom.1, by show 8 + (nL' + 11) + 64 * d ≤ R.locals; omega⟩
  have hcall : va_Run p l e R s m args below meth c H locs cells slots mc ms (F0 m pc ls (st.map (am_v b))) (rest.map (am_v b)) (am_Q b base nK D cl cA v h' (as.map (am_v b)).toArray) (fun q => base ≤ q) := by
    unfold am_iv at hiv
    split at hiv
    · rename_i st0 ix jj n r
      split at hiv
      · cases hiv
      · rename_i hc
        cases hiv
        rcases k4 with k4 | ⟨y2, by2, nL2, ret2, e1, e2, e3, e4, e5⟩
        · exact absurd (Or.inl k4) hc
        · cases hmt'.symm.trans e1
          have hstk : st.map (am_v b) = (((st.take n).reverse).map (am_v b)).reverse ++ (st.drop n).map (am_v b) := by
            rw [← List.map_reverse, List.reverse_reverse, ← List.map_append, List.take_append_drop]
          have hn : (((st.take n).reverse).map (am_v b)).length = n := by
            rw [List.length_map, List.length_reverse, List.length_take]
            exact Nat.min_eq_left (Nat.le_of_not_lt fun q => hc (Or.inr (Or.inl q)))
          have hcat := am_cat_v b (st.drop n)
          have hw8 : 2 * (F0 m pc ls (st.map (am_v b))).monitorRoom + (((st.drop n).map (am_v b)).map fun v => v.category).sum ≤ 8 := lv_room (by rw [hcat]; exact Nat.le_of_not_lt fun q => hc (Or.inr (Or.inr q)))
          rcases e3 with e3 | ⟨host, e3⟩
          · exact va_runS (Ts := Ts) (As := ((st.take n).reverse).map (am_v b)) ⟨hx, hb, hml, hown, hts⟩ hM ⟨callB_of n hts hgi rfl rfl rfl (hts _ e5) (hts _ e3) ⟨m3.1, m3.2, e2⟩ hR, hts _ e4⟩ ⟨hbl, hPre⟩ rfl hn hls hstk hw8 hd0 hf
          · exact va_runSN (Ts := Ts) (As := ((st.take n).reverse).map (am_v b)) ⟨hx, hb, hml, hown, hts⟩ hM ⟨va_cnB n hts hgi rfl rfl rfl (hG.2.2.2.2.2 _ e3) (hts _ e5) ⟨m3.1, m3.2, e2⟩ hR, hts _ e4, trivial⟩ ⟨hbl, hPre⟩ rfl hn hls hstk hw8 hd0 hf
    · rename_i st0 ix jj n ci
      split at hiv
      · rename_i a rs hdrop
        split at hiv
        · cases hiv
        · rename_i hc
          obtain ⟨y2, by2, nL2, ret2, e1, e2, e3, e4, e5, e6, e7⟩ := k4
          have key : j' = jj ∧ as = .ref a :: (st.take n).reverse ∧ rest = rs ∧ ∃ cell : Cell, H[b a]? = some cell ∧ cell.vm.isStatics = false ∧ s.vm.findClass y2.cls = some cell.cls := by
            split at hiv
            · split at hiv
              · rename_i hz
                cases hiv
                refine ⟨rfl, rfl, rfl, ?_⟩
                rcases e7 with ⟨-, e7⟩ | ⟨e7, -⟩
                · rw [e7]
                  obtain ⟨cell, z1, z2, z3, -⟩ := (hG.2.2.1 a _ hz.2 (by decide)).kept hS.2.1
                  exact ⟨cell, z1, z2, z3⟩
                · exact absurd hz.1 e7
              · cases hiv
            · rename_i ha
              split at hiv
              · rename_i cj fs hcell
                split at hiv
                · rename_i hz
                  obtain ⟨hz1, hz2⟩ := hz
                  subst hz1
                  cases hiv
                  refine ⟨rfl, rfl, rfl, ?_⟩
                  rcases e7 with ⟨e7, -⟩ | ⟨-, T, N, e7⟩
                  · exact absurd e7 hz2
                  · have haa : nK + (a - nK) = a := Nat.add_sub_cancel' (Nat.le_of_not_lt ha)
                    have he : (am_w b cA nK h)[a - nK]? = some (b a, .inr (cj, fs.map (am_v b))) := by rw [am_w_get, hcell, haa]; rfl
                    exact va_recv hK hP e7 he
                · cases hiv
              · cases hiv
          obtain ⟨rfl, rfl, rfl, hrecv⟩ := key
          cases hmt'.symm.trans e1
          have hstk : st.map (am_v b) = (((st.take n).reverse).map (am_v b)).reverse ++ Value.ref (b a) :: rest.map (am_v b) := by
            rw [← List.map_reverse, List.reverse_reverse, show Value.ref (b a) :: rest.map (am_v b) = (Value.ref a :: rest).map (am_v b) from rfl, ← hdrop, ← List.map_append, List.take_append_drop]
          have hn : (((st.take n).reverse).map (am_v b)).length = n := by
            rw [List.length_map, List.length_reverse, List.length_take]
            have : 0 < (st.drop n).length := by rw [hdrop]; simp
            rw [List.length_drop] at this
            omega
          have hcat := am_cat_v b rest
          have hw8 : 2 * (F0 m pc ls (st.map (am_v b))).monitorRoom + ((rest.map (am_v b)).map fun v => v.category).sum ≤ 8 := lv_room (by rw [hcat]; exact Nat.le_of_not_lt hc)
          rcases e3 with e3 | ⟨host, e3⟩
          · exact va_runV (C := y'.cls) (Ts := Ts) (As := ((st.take n).reverse).map (am_v b)) ⟨hx, hb, hml, hown, hts⟩ hM ⟨callB_of n hts hgi rfl rfl rfl (hts _ e6) (hts _ e3) ⟨m3.1, m3.2, e2⟩ hR, hts _ e4, hts _ e5⟩ ⟨hbl, hrecv, hPre⟩ rfl hn hls hstk hw8 hd0 hf
          · exact va_runVN (C := y'.cls) (Ts := Ts) (As := ((st.take n).reverse).map (am_v b)) ⟨hx, hb, hml, hown, hts⟩ hM ⟨va_cnB n hts hgi rfl rfl rfl (hG.2.2.2.2.2 _ e3) (hts _ e6) ⟨m3.1, m3.2, e2⟩ hR, hts _ e4, hts _ e5⟩ ⟨hbl, hrecv, hPre⟩ rfl hn hls hstk hw8 hd0 hf
      · cases hiv
    · rename_i st0 ix jj n r
      split at hiv
      · rename_i a rs hdrop
        split at hiv
        · cases hiv
        · rename_i hc
          cases hiv
          rcases k4 with k4 | ⟨y2, by2, nL2, e1, e2, e3, e4, e5, e6⟩
          · exact absurd (Or.inl k4) hc
          · cases hmt'.symm.trans e1
            have hstk : st.map (am_v b) = (((st.take n).reverse).map (am_v b)).reverse ++ Value.ref (b a) :: rest.map (am_v b) := by
              rw [← List.map_reverse, List.reverse_reverse, show Value.ref (b a) :: rest.map (am_v b) = (Value.ref a :: rest).map (am_v b) from rfl, ← hdrop, ← List.map_append, List.take_append_drop]
            have hn : (((st.take n).reverse).map (am_v b)).length = n := by
              rw [List.length_map, List.length_reverse, List.length_take]
              have : 0 < (st.drop n).length := by rw [hdrop]; simp
              rw [List.length_drop] at this
              omega
            have hcat := am_cat_v b rest
            have hw8 : 2 * (F0 m pc ls (st.map (am_v b))).monitorRoom + ((rest.map (am_v b)).map fun v => v.category).sum ≤ 8 := lv_room (by rw [hcat]; exact Nat.le_of_not_lt fun q => hc (Or.inr q))
            rcases e3 with e3 | ⟨host, e3⟩
            · exact va_runI (Ts := Ts) (As := ((st.take n).reverse).map (am_v b)) ⟨hx, hb, hml, hown, hts⟩ hM ⟨callB_of n hts hgi rfl rfl rfl (hts _ e6) (hts _ e3) ⟨m3.1, m3.2, e2⟩ hR, e5, hts _ e4⟩ ⟨hbl, hPre⟩ rfl hn hls hstk hw8 hd0 hf
            · exact va_runIN (Ts := Ts) (As := ((st.take n).reverse).map (am_v b)) ⟨hx, hb, hml, hown, hts⟩ hM ⟨va_cnB n hts hgi rfl rfl rfl (hG.2.2.2.2.2 _ e3) (hts _ e6) ⟨m3.1, m3.2, e2⟩ hR, e5, hts _ e4⟩ ⟨hbl, hPre⟩ rfl hn hls hstk hw8 hd0 hf
      · cases hiv
    · cases hiv
  refine am_after hS hcall fun H' locs' e1 e2 e3 => ?_
  have e4 := k H' locs' e1 e2 e3
  rw [List.map_append] at e4
  cases v <;> exact e4
end AMC
