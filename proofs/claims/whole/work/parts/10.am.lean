/-! THE ABSTRACT MACHINE IS SOUND -/
section AMSOUND
variable {l : Launch} {nK base : Nat} {b : Nat → Nat} {D : va_G} {cl : List vw_C} {tys : List (ClassId × FieldType)} {cA : Nat → ClassId} {Ts Ns : List Cond}
variable {KT : List (FieldType × Nat × (Nat → Int32))} {KF : List (List Value)} {FN : List (String × String × String)} {KO : List String} {SZ : List (String × String × String × Value)} {SR : List (String × Nat × String × Nat)} {df : Nat → List Value} {ft : Nat → Nat → FieldType} {mt : am_T} {co : am_P}
/-- a method at pc comes to the end that the abstract machine comes to -/
def am_Walk (l : Launch) (nK base : Nat) (b : Nat → Nat) (D : va_G) (cl : List vw_C) (tys : List (ClassId × FieldType)) (cA : Nat → ClassId) (Ts : List Cond) (G : State → Prop) (mt : am_T) (d j pc : Nat) (lo : am_L) (st : List Value) (h : List am_C) (r : am_E) : Prop :=
  ∀ {y : MethodName} {bytes : ByteArray} {nL : Nat} {ret : Option FieldType}, mt j = some (y, bytes, nL, ret) → ∀ {p : Program} {e : Env} {R : Room} {s : State} {m : MethodId} {args : Array Value} {below : List Frame} {meth : Method} {c : Code} {H : Heap} {locs : List Loc} {cells slots kc ks : Nat} {ls : Array Slot},
    am_Cx l b base D cl tys Ts G y bytes nL ret p s m args meth c → lv_has ls nL (lo.map (am_q b)) → va_P D cl (am_w b cA nK h) H → H.size = base + h.length → va_S (fun q => base ≤ q) s.heap H locs → d ≤ R.frames ∧ 64 * d ≤ R.locals → cells + r.2.2.1 = kc → slots + r.2.2.2 = ks → kc ≤ R.cells ∧ ks ≤ R.slots →
    W p l e R s m args below meth c H locs cells slots (MQ below (am_Q b base nK D cl cA r.1 r.2.1) args s kc ks (fun q => base ≤ q)) (F0 m pc ls (st.map (am_v b)))
theorem am_sound (OK : am_Ok nK base b cl Ts Ns FN SZ SR df ft mt co) (htys : ∀ t ty, am_ty[t]? = some ty → tys[t]? = some (cA t, ty)) (hKO : ∀ a C, KO[a]? = some C → a < nK) :
    ∀ (n d j pc : Nat) (lo : am_L) (st : List Value) (h : List am_C) (r : am_E), am_run nK KT KF KO SZ SR df ft mt co n d j pc lo st h = some r → am_Walk l nK base b D cl tys cA Ts (am_G b base KT KF FN KO SZ SR Ns) mt d j pc lo st h r := by
  intro n
  induction n with
  | zero => intro d j pc lo st h r hr; rw [am_run] at hr; cases hr
  | succ n ih =>
    intro d j pc lo st h r hr y bytes nL ret hmt p e R s m args below meth c H locs cells slots kc ks ls C hl hP hsz hS hroom hkc hks hfit
    rw [am_run] at hr
    rw [hmt] at hr
    simp only at hr
    split at hr
    · cases hr
    · rename_i x hco
      obtain ⟨one1, one2⟩ := am_one_ok (l := l) (D := D) (cA := cA) (e := e) (below := below) (cells := cells) (slots := slots) OK htys hco hmt C hl hP hsz hS hroom (st := st) (h := h)
      split at hr
      · rename_i pc' lo' st' h' dc ds h1
        obtain ⟨r1, hr1, rfl⟩ := Option.map_eq_some_iff.mp hr
        have a1 : cells + dc + r1.2.2.1 = kc := by rw [← hkc]; show _ = cells + (dc + r1.2.2.1); omega
        have a2 : slots + ds + r1.2.2.2 = ks := by rw [← hks]; show _ = slots + (ds + r1.2.2.2); omega
        exact one1 h1 (by omega) (fun ls' H' locs' q1 q2 q3 q4 => ih _ _ _ _ _ _ _ hr1 hmt C q1 q2 q3 q4 hroom a1 a2 hfit)
      · rename_i v h1
        cases hr
        have a1 : cells = kc := hkc
        have a2 : slots = ks := hks
        subst a1
        subst a2
        exact one2 h1 (fun t ht hW => ⟨rfl, by rw [ht]; exact hP, by rw [ht]; exact hsz, hS.F ht⟩) hS.2.2
      · rename_i h1
        split at hr
        · cases hr
        · rename_i j' as rest hiv
          split at hr
          · cases hr
          · rename_i d'
            split at hr
            · cases hr
            · rename_i y' bytes' nL' ret' hmt'
              split at hr
              · rename_i hlen
                split at hr
                · cases hr
                · rename_i v h' mc ms hrun
                  obtain ⟨r1, hr1, rfl⟩ := Option.map_eq_some_iff.mp hr
                  have a1 : cells + mc + r1.2.2.1 = kc := by rw [← hkc]; show _ = cells + (mc + r1.2.2.1); omega
                  have a2 : slots + ms + r1.2.2.2 = ks := by rw [← hks]; show _ = slots + (ms + r1.2.2.2); omega
                  have hM : Met l y' (Cond.code y' bytes' nL' ret' :: Ts) (am_rm d' mc ms) (am_Pc b base nK D cl cA tys (am_G b base KT KF FN KO SZ SR Ns) as h) (am_Q b base nK D cl cA v h') mc ms (fun q => base ≤ q) := by
                    refine va_MetF (cc := bytes') (maxL := nL') (ret := ret') (OK.2.2.1 _ _ _ _ _ hmt').2.1 rfl ?_
                    intro p2 e2 s2 m2 args2 below2 meth2 c2 s₁ B hml hv
                    obtain ⟨rfl, g1, g2, g3, g4, g5⟩ := hv
                    have hts2 := atoms_spec (ws := Cond.code y' bytes' nL' ret' :: Ts) B.pre
                    have hl2 := lv_entry (as.map (am_v b)) (n := nL') (by rw [am_lg]; exact hlen)
                    rw [lg_entry_eq]
                    generalize (lg_sl (as.map (am_v b)) ++ List.replicate (nL' - (lg_sl (as.map (am_v b))).length) Slot.unset).toArray = ls2 at hl2 ⊢
                    rw [am_args] at hl2
                    exact ih _ _ _ _ [] _ _ hrun hmt' ⟨B.exec, B.bytes, B.returns, hml, findClass_of_methodNamed B.named, fun w hw => hts2 w (List.mem_cons_of_mem _ hw), B.notSynchronized, (name_of_methodNamed B.named B.method).1, g3, g4⟩ hl2 g1 g2 va_S.rf ⟨Nat.le_refl _, Nat.le_refl _⟩ (Nat.zero_add _) (Nat.zero_add _) ⟨Nat.le_refl _, Nat.le_refl _⟩
                  exact am_call OK hKO hco hmt C hl.1 hP hsz hS hroom hiv hmt' (by omega) hM (fun H' locs' q1 q2 q3 => ih _ _ _ _ _ _ _ hr1 hmt C hl q1 q2 q3 hroom a1 a2 hfit)
              · cases hr
/-- a method's contract out of the abstract machine's run -/
theorem am_met (OK : am_Ok nK base b cl Ts Ns FN SZ SR df ft mt co) (htys : ∀ t ty, am_ty[t]? = some ty → tys[t]? = some (cA t, ty)) (hKO : ∀ a C, KO[a]? = some C → a < nK) {n d j : Nat} {as : List Value} {h h' : List am_C} {v : Option Value} {mc ms : Nat} (hrun : am_run nK KT KF KO SZ SR df ft mt co n d j 0 (lv_args 0 as) [] h = some (v, h', mc, ms))
    {y : MethodName} {bytes : ByteArray} {nL : Nat} {ret : Option FieldType} (hmt : mt j = some (y, bytes, nL, ret)) (hlen : (lg_sl as).length ≤ nL) :
    Met l y (Cond.code y bytes nL ret :: Ts) (am_rm d mc ms) (am_Pc b base nK D cl cA tys (am_G b base KT KF FN KO SZ SR Ns) as h) (am_Q b base nK D cl cA v h') mc ms (fun q => base ≤ q) := by
  refine va_MetF (cc := bytes) (maxL := nL) (ret := ret) (OK.2.2.1 _ _ _ _ _ hmt).2.1 rfl ?_
  intro p2 e2 s2 m2 args2 below2 meth2 c2 s₁ B hml hv
  obtain ⟨rfl, g1, g2, g3, g4, g5⟩ := hv
  have hts2 := atoms_spec (ws := Cond.code y bytes nL ret :: Ts) B.pre
  have hl2 := lv_entry (as.map (am_v b)) (n := nL) (by rw [am_lg]; exact hlen)
  rw [lg_entry_eq]
  generalize (lg_sl (as.map (am_v b)) ++ List.replicate (nL - (lg_sl (as.map (am_v b))).length) Slot.unset).toArray = ls2 at hl2 ⊢
  rw [am_args] at hl2
  exact am_sound OK htys hKO _ _ _ _ _ [] _ _ hrun hmt ⟨B.exec, B.bytes, B.returns, hml, findClass_of_methodNamed B.named, fun w hw => hts2 w (List.mem_cons_of_mem _ hw), B.notSynchronized, (name_of_methodNamed B.named B.method).1, g3, g4⟩ hl2 g1 g2 va_S.rf ⟨Nat.le_refl _, Nat.le_refl _⟩ (Nat.zero_add _) (Nat.zero_add _) ⟨Nat.le_refl _, Nat.le_refl _⟩
end AMSOUND
