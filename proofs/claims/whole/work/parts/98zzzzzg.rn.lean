/-! both machines: calls of the system -/
section RNt
variable {F : Nat → Int} {n N : Nat} {P : Nat → Nat} {s0 t0 : iS} {K : List Nat} {U : List urec} {W : List wrec} {Y : List Nat} {A : List (List itm)} {I C p w u i j fu m : Nat} {tr t1 t2 t3 s s' t t' q qB sB s1 sa ta : iS} {r : itm} {f : frm} {g : List frm} {pv vv st st' L M : List Int} {ob v v' x y : Int}
def sysCl : List Nat := [0, 0, 0, 0, 0, 0, 1, 1, 1, 1, 2, 2, 3, 3, 3, 3, 3, 3, 3, 3, 3, 3, 3, 3, 4, 4, 4, 4, 5, 5, 5, 6, 6, 6, 6, 6, 6, 7, 7, 7]
theorem sysCl_eq {k cl : Nat} (hk : k < 40) (hcl : cl < 8) (h1 : sysFI.getD cl 0 ≤ (k : Int)) (h2 : (k : Int) < sysFS.getD (cl + 1) 0) : cl = sysCl.getD k 0 := by
  have d : (List.range 40).all (fun k => (List.range 8).all (fun cl => decide (sysFI.getD cl 0 ≤ (k : Int) → (k : Int) < sysFS.getD (cl + 1) 0 → cl = sysCl.getD k 0))) = true := by decide
  exact of_decide_eq_true (List.all_eq_true.mp (List.all_eq_true.mp d k (List.mem_range.mpr hk)) cl (List.mem_range.mpr hcl)) h1 h2
/-- the subs of the system, all but halt -/
theorem pf_all {a : Nat → Int} {k cl : Nat} (h : LB s t) (hg : gO s t) (hk : k < 40) (h37 : k ≠ 37) (hcl : cl = sysCl.getD k 0) (ha : ∀ j : Nat, (j : Int) < sysMN.getD k 0 + sysME.getD k 0 → w16 (a j) ∧ t 188 j = a j) : PF s (lib_perform (k : Int) (a 0) (a 1) (a 2) (a 3) s) (m_systemCall (cl : Int) ((k : Int) - sysFI.getD cl 0) t) := by
  subst hcl
  rcases (show k = 0 ∨ k = 1 ∨ k = 2 ∨ k = 3 ∨ k = 4 ∨ k = 5 ∨ k = 6 ∨ k = 7 ∨ k = 8 ∨ k = 9 ∨ k = 10 ∨ k = 11 ∨ k = 12 ∨ k = 13 ∨ k = 14 ∨ k = 15 ∨ k = 16 ∨ k = 17 ∨ k = 18 ∨ k = 19 ∨ k = 20 ∨ k = 21 ∨ k = 22 ∨ k = 23 ∨ k = 24 ∨ k = 25 ∨ k = 26 ∨ k = 27 ∨ k = 28 ∨ k = 29 ∨ k = 30 ∨ k = 31 ∨ k = 32 ∨ k = 33 ∨ k = 34 ∨ k = 35 ∨ k = 36 ∨ k = 38 ∨ k = 39 by omega) with e | e | e | e | e | e | e | e | e | e | e | e | e | e | e | e | e | e | e | e | e | e | e | e | e | e | e | e | e | e | e | e | e | e | e | e | e | e | e <;> subst e
  · exact pf_0 h hg (ha 0 (by decide)).1 (ha 0 (by decide)).2
  · exact pf_1 h hg (ha 0 (by decide)).1 (ha 1 (by decide)).1 (ha 0 (by decide)).2 (ha 1 (by decide)).2
  · exact pf_2 h hg (ha 0 (by decide)).1 (ha 1 (by decide)).1 (ha 0 (by decide)).2 (ha 1 (by decide)).2
  · exact pf_3 h hg (ha 0 (by decide)).1 (ha 1 (by decide)).1 (ha 0 (by decide)).2 (ha 1 (by decide)).2
  · exact pf_4 h hg (ha 0 (by decide)).1 (ha 1 (by decide)).1 (ha 0 (by decide)).2 (ha 1 (by decide)).2
  · exact pf_5 h hg (ha 0 (by decide)).1 (ha 0 (by decide)).2
  · exact pf_6 h hg (ha 0 (by decide)).1 (ha 0 (by decide)).2
  · exact pf_7 h hg (ha 0 (by decide)).1 (ha 1 (by decide)).1 (ha 0 (by decide)).2 (ha 1 (by decide)).2
  · exact pf_8 h hg (ha 0 (by decide)).1 (ha 0 (by decide)).2
  · exact pf_9 h hg (ha 0 (by decide)).1 (ha 0 (by decide)).2
  · exact pf_10 h hg (ha 0 (by decide)).1 (ha 0 (by decide)).2
  · exact pf_11 h hg (ha 0 (by decide)).1 (ha 0 (by decide)).2
  · exact pf_12 h hg (ha 0 (by decide)).1 (ha 0 (by decide)).2
  · exact pf_13 h hg (ha 0 (by decide)).1 (ha 0 (by decide)).2
  · exact pf_14 h hg (ha 0 (by decide)).1 (ha 1 (by decide)).1 (ha 0 (by decide)).2 (ha 1 (by decide)).2
  · exact pf_15 h hg (ha 0 (by decide)).1 (ha 1 (by decide)).1 (ha 2 (by decide)).1 (ha 0 (by decide)).2 (ha 1 (by decide)).2 (ha 2 (by decide)).2
  · exact pf_16 h hg (ha 0 (by decide)).1 (ha 1 (by decide)).1 (ha 0 (by decide)).2 (ha 1 (by decide)).2
  · exact pf_17 h hg (ha 0 (by decide)).1 (ha 0 (by decide)).2
  · exact pf_18 h hg (ha 0 (by decide)).1 (ha 0 (by decide)).2
  · exact pf_19 h hg (ha 0 (by decide)).1 (ha 1 (by decide)).1 (ha 0 (by decide)).2 (ha 1 (by decide)).2
  · exact pf_20 h hg (ha 0 (by decide)).1 (ha 0 (by decide)).2
  · exact pf_21 h hg
  · exact pf_22 h hg
  · exact pf_23 h hg
  · exact pf_24 h hg (ha 0 (by decide)).1 (ha 0 (by decide)).2
  · exact pf_25 h hg (ha 0 (by decide)).1 (ha 0 (by decide)).2
  · exact pf_26 h hg (ha 0 (by decide)).1 (ha 0 (by decide)).2
  · exact pf_27 h hg
  · exact pf_28 h hg
  · exact pf_29 h hg
  · exact pf_30 h hg (ha 0 (by decide)).1 (ha 0 (by decide)).2
  · exact pf_31 h hg
  · exact pf_32 h hg (ha 0 (by decide)).1 (ha 0 (by decide)).2
  · exact pf_33 h hg (ha 0 (by decide)).1 (ha 1 (by decide)).1 (ha 0 (by decide)).2 (ha 1 (by decide)).2
  · exact pf_34 h hg (ha 0 (by decide)).1 (ha 1 (by decide)).1 (ha 2 (by decide)).1 (ha 3 (by decide)).1 (ha 0 (by decide)).2 (ha 1 (by decide)).2 (ha 2 (by decide)).2 (ha 3 (by decide)).2
  · exact pf_35 h hg (ha 0 (by decide)).1 (ha 1 (by decide)).1 (ha 2 (by decide)).1 (ha 3 (by decide)).1 (ha 0 (by decide)).2 (ha 1 (by decide)).2 (ha 2 (by decide)).2 (ha 3 (by decide)).2
  · exact pf_36 h hg (ha 0 (by decide)).1 (ha 1 (by decide)).1 (ha 2 (by decide)).1 (ha 0 (by decide)).2 (ha 1 (by decide)).2 (ha 2 (by decide)).2
  · exact pf_38 h hg (ha 0 (by decide)).1 (ha 0 (by decide)).2
  · exact pf_39 h hg (ha 0 (by decide)).1 (ha 0 (by decide)).2
/-- the values of a call, on the reference's side -/
theorem rc_55 {v2 v3 : Int} : ∀ (n : Nat) (B M : List Int) (t : iS), B.length = n → n ≤ 8 → RTK t (M ++ B) → (M ++ B).length ≤ 15360 → ∃ t', m_callItem_55 v2 v3 ((n : Int) - 1) t = m_callItem_77 v2 v3 t' ∧ RTK t' M ∧ (∀ j, j < B.length → t' 188 j = B.getD j 0) ∧ (∀ c k, c ≠ 188 → ¬ (c = 121 ∧ k = 87) → t' c k = t c k) ∧ (∀ j, B.length ≤ j → t' 188 j = t 188 j)
  | 0, B, M, t, hB, _, hR, _ => by
    have e : B = [] := List.length_eq_zero_iff.mp hB
    subst e
    rw [List.append_nil] at hR
    refine ⟨t, ?_, hR, fun j hj => by simp at hj, fun _ _ _ _ => rfl, fun _ _ => rfl⟩
    unfold m_callItem_55
    rw [lp_end (f := fun l : Int × iS => m_callItem_55b v2 v3 (l.1) (l.2)) (e := t) (by
      show m_callItem_55b v2 v3 (((0 : Nat) : Int) - 1) t = _
      unfold m_callItem_55b
      rw [gr (by omega), if_pos (by omega)])]
    rfl
  | n + 1, B, M, t, hB, h8, hR, hl => by
    obtain ⟨B', y, e⟩ := snoc1 (L := B) (by omega)
    subst e
    rw [List.length_append, List.length_singleton] at hB
    rw [← List.append_assoc] at hR hl
    rw [List.length_append (bs := [y]), List.length_singleton] at hl
    obtain ⟨tp, p1, p2, p3⟩ := rpop_ex hR (by omega)
    obtain ⟨t', i1, i2, i3, i4, i5⟩ := rc_55 (v2 := v2) (v3 := v3) n B' M (up tp 188 B'.length y) (by omega) (by omega) (RTK_of p2 (up_ne (by omega)) (funext fun k => up_ne (by omega))) (by omega)
    refine ⟨t', ?_, i2, fun j hj => ?_, fun c k z1 z2 => by rw [i4 c k z1 z2, up_ne (by omega), p3 c k z2], fun j hj => ?_⟩
    · rw [← i1]
      unfold m_callItem_55
      rw [lp_next (f := fun l : Int × iS => m_callItem_55b v2 v3 (l.1) (l.2)) (l' := ((n : Int) - 1, up tp 188 B'.length y)) (by
        show m_callItem_55b v2 v3 (((n + 1 : Nat) : Int) - 1) t = _
        unfold m_callItem_55b
        rw [gr (by omega), if_neg (by omega), p1, bq, gd_pos (by omega), lt_eq, show (((n + 1 : Nat) : Int) - 1).toNat = B'.length by omega, show ((n + 1 : Nat) : Int) - 1 + -1 = (n : Int) - 1 by omega])]
    · rw [List.length_append, List.length_singleton] at hj
      by_cases c : j < B'.length
      · rw [i3 j c, gdL c]
      · have c' : j = B'.length := by omega
        subst c'
        rw [i5 _ (Nat.le_refl _), up_same, gdR (Nat.le_refl _), Nat.sub_self]
        rfl
    · rw [List.length_append, List.length_singleton] at hj
      rw [i5 j (by omega), up_ne (by omega), p3 188 j (by omega)]
/-- * and / -/
theorem sg_ok (h : LB s t) (hg : gO s t) (hx : w16 x) (hy : w16 y) {c d z : Int} {n : Int} (hz : z = 42 ∧ n = 3 ∨ z = 47 ∧ n = 4) : PF s (lib_perform n x y c d s) (m_sign z x y t) := by
  rcases hz with ⟨z1, z2⟩ | ⟨z1, z2⟩ <;> subst z1 <;> subst z2
  · have e1 : lib_perform 3 x y c d s = some ((i_s (x * y)), s) := by
      unfold lib_perform
      rw [gr (by omega)]
      simp only [Int.reduceEq, ↓reduceIte, bd_id]
    have e2 : m_sign 42 x y t = some (x * y, t) := by
      unfold m_sign
      rw [gr (by omega)]
      simp only [Int.reduceEq, ↓reduceIte]
    exact PF_of e1 e2 (Ov_some h hg ⟨rfl, mul_r32 hx hy⟩) som9
  · have e1 : lib_perform 4 x y c d s = gd (rg y) (if y = 0 then mem_fail 3 s else gd (rg x) (gd (¬ y = 0) (some ((i_s (x.tdiv y)), s)))) := by
      unfold lib_perform
      rw [gr (by omega)]
      simp only [Int.reduceEq, ↓reduceIte, bd_id]
    have e2 : m_sign 47 x y t = gd (rg y) (if y = 0 then bd (m_err 3 t) (fun _ s9 => m_sign_97 x y s9) else m_sign_97 x y t) := by
      unfold m_sign
      rw [gr (by omega)]
      simp only [Int.reduceEq, ↓reduceIte]
    rw [gr (by omega)] at e1 e2
    by_cases c0 : y = 0
    · rw [if_pos c0] at e1 e2
      refine PF_of e1 e2 (fl_r h hg (by decide) (fun s t _ _ => ⟨0, ?_, by decide⟩)) fl9
      unfold m_sign_97
      rw [gr (by omega), if_pos c0]
    · rw [if_neg c0, gr (by omega), gd_pos c0] at e1
      rw [if_neg c0] at e2
      unfold m_sign_97 at e2
      rw [gr (by omega), if_neg c0, gr (by omega), gd_pos c0] at e2
      exact PF_of e1 e2 (Ov_some h hg ⟨rfl, tdiv_r32 hx⟩) som9
theorem I_6c (hP : PRG F n N P s0 t0 K U W Y A I C p w tr t1 t2 t3) (h : SIM F P s0 t0 K U W A t3 fu s t (u, i, pv, vv, st, ob) g) (hr : (A.getD u []).getD i (0, 0, 0, 0) = r) (hk : r.1 = 6) (h42 : r.2.1 = 42 ∨ r.2.1 = 47) : STP F P s0 t0 K U W A t3 fu s t ((u, i, pv, vv, st, ob) :: g) := by
  obtain ⟨it, k5, e98, ⟨hu, hi⟩, rq, el, b3⟩ := SIM_k hP h hr
  obtain ⟨L1, L2⟩ := SIM_len hP h
  obtain ⟨mm, g1⟩ := h.1.1
  have rt := h.2.2.1.2
  have e145 := (it.2.2.2.2.2.1 hk)
  have r1 : 2 ≤ st.length := by rw [el]; exact rq.1 (by omega)
  obtain ⟨M, x, y, est⟩ := snoc2 r1
  have wx : w16 x := b3 x (by rw [est]; simp)
  have wy : w16 y := b3 y (by rw [est]; simp)
  have L1' : (csG U g ++ (preF U (u, i, pv, vv, st, ob) ++ pv ++ vv ++ M)).length + 2 ≤ 15360 := by
    have : (csG U g ++ (preF U (u, i, pv, vv, st, ob) ++ pv ++ vv ++ st)).length ≤ 15360 := L1
    rw [est, L4, List.length_append] at this
    rw [est]
    exact this
  have L2' : (rsG g ++ M).length + 2 ≤ 15360 := by
    have : (rsG g ++ st).length ≤ 15360 := L2
    rw [est, ← List.append_assoc, List.length_append] at this
    exact this
  obtain ⟨k, hz, he⟩ : ∃ k : Int, (r.2.1 = 42 ∧ k = 3 ∨ r.2.1 = 47 ∧ k = 4) ∧ emU F P s0 t0 K U W u r = [(15, k, 2, k)] := by
    have e0 : emU F P s0 t0 K U W u r = [opC r.2.1] := by
      unfold emU emI
      rw [hk]
      simp only [Int.reduceEq, ↓reduceIte]
    rcases h42 with c | c
    · exact ⟨3, Or.inl ⟨c, rfl⟩, by rw [e0, c]; rfl⟩
    · exact ⟨4, Or.inr ⟨c, rfl⟩, by rw [e0, c]; rfl⟩
  have fr : (aA F P s0 t0 K U W A u i).2.2.1 = true := rq.2.2.2.2.2.2.2.2.1 (by omega)
  obtain ⟨sB, m1, m2, m3, m4, m5⟩ := SIM_mk hP h
  obtain ⟨q1, q2⟩ := SIM_q h m4 (v := ((cpo F P s0 t0 K U W A u i + 1 : Nat) : Int))
  rw [show csG U g ++ (preF U (u, i, pv, vv, st, ob) ++ pv ++ vv ++ st) = (csG U g ++ (preF U (u, i, pv, vv, st, ob) ++ pv ++ vv ++ M)) ++ [x, y] by rw [← L4, ← est]] at q1
  have e4 := fetch4 (m := 0) (x := (15, k, 2, k)) g1 hu hi hr (by rw [he]; simp) (by rw [he]; rfl) (by simp) (by simp) (by show k ≠ -9; omega) (by show ¬ ((15 : Int) = 15 ∧ 800 ≤ k); omega)
  rw [Nat.add_zero] at e4
  have rt' : RTK (up t 121 98 (t 121 98 + 1)) (((rsG g ++ M) ++ [x]) ++ [y]) := by
    have := RTK_98 (z := t 121 98 + 1) rt
    rw [show rsG ((u, i, pv, vv, st, ob) :: g) = ((rsG g ++ M) ++ [x]) ++ [y] by rw [List.append_assoc, List.append_assoc]; show rsG g ++ st = _; rw [est]; simp] at this
    exact this
  obtain ⟨tb, a1, a2, a3⟩ := rpop_ex rt' (by rw [List.length_append, List.length_singleton]; omega)
  obtain ⟨tc, b1, b2, b4⟩ := rpop_ex a2 (by omega)
  have ftc : ∀ c k, ¬ (c = 121 ∧ (k = 87 ∨ k = 98)) → tc c k = t c k := fun c k z => by rw [b4 c k (by omega), a3 c k (by omega), up_ne (by omega)]
  generalize hq : up sB 51 7 ((cpo F P s0 t0 K U W A u i + 1 : Nat) : Int) = q at *
  have fq : ∀ c k, ¬ (c = 51 ∧ k = 7) → q c k = sB c k := fun c k z => by rw [← hq, up_ne z]
  have q7 : q 51 7 = ((cpo F P s0 t0 K U W A u i + 1 : Nat) : Int) := by rw [← hq, up_same]
  obtain ⟨lb, go, l9⟩ := SIM_lb (s' := q) (t' := tc) h (fun c k z => by rw [fq c k (by omega), m4 c k (by omega)]) (fun c k z1 z2 => ftc c k z2)
  generalize hLL : csG U g ++ (preF U (u, i, pv, vv, st, ob) ++ pv ++ vv ++ M) = LL at *
  have vx : q 52 LL.length = x := STK_at (k := 0) q1 (by simp)
  have vy : q 52 (LL.length + 1) = y := STK_at (k := 1) q1 (by simp)
  obtain ⟨pf1, pf2⟩ := sg_ok (c := q 52 (LL.length + 2)) (d := q 52 (LL.length + 3)) lb go wx wy hz
  obtain ⟨rv, rv', sx, ta, o1, o2, o3, o4⟩ := Ov_un pf1 (fun r r' z => z.1)
  have cx := pe_cx o1
  have rx : LRx tc ta := fun c k z1 z2 z3 z4 z5 => (show md L_m_sign G_m_sign tc ta from fm_sign _ _ _ _ _ o2) c k (by simp [L_m_sign]) (by simp [G_m_sign]; omega)
  have cc := c_call (v2 := k) (kk := k) (rv := rv) (sa := sx) (B := [x, y]) q1 (by simp) (by rw [List.length_append]; exact L1') (by omega) (by rw [vx, vy]; exact o1) (cx 51 6 (by omega))
  refine I_eff (M := M) (sa := up sx 51 6 (LL.length : Int)) (ta := ta) (rv := rv) (rv' := rv') hP h hr (by omega) fr m2 m3 m4 m5 (by rw [he]; simp) (fun s' e => ?_) ?_ (LB_of o3 (fun c k z => up_ne (by omega)) (fun _ _ _ => rfl)) (by
    rcases o4 with ⟨z1, z2⟩ | z1
    · exact Or.inl ⟨⟨by rw [up_ne (by omega)]; exact z1.1, z1.2⟩, z2⟩
    · exact Or.inr ⟨by rw [up_ne (by omega)]; exact z1.1, z1.2⟩) (by rw [up_ne (by omega), pf2 _ _ o1]; exact l9) (fun c k z1 z2 z3 => by rw [up_ne (by omega), cx c k z1]; exact fq c k (by omega)) (by rw [up_ne (by omega), cx 51 7 (by omega), q7, he]; rfl) (fun c k z1 z2 z3 z4 z5 z6 z7 => by rw [rx c k z1 z2 z3 z4 (by omega), ftc c k (by omega)]) (by rw [rx 121 98 (by omega) (by omega) (by omega) (by omega) (by omega), b4 121 98 (by omega), a3 121 98 (by omega), up_same]) (by rw [hLL]; exact STK_cut q1 (funext fun k => cx 52 k (by omega))) (RTK_of b2 (rx 121 87 (by omega) (by omega) (by omega) (by omega) (by omega)) (funext fun k => rx 180 k (by omega) (by omega) (by omega) (by omega) (by omega))) (by rw [hLL]; omega) (by omega) (fun x hx => b3 x (by rw [est]; exact List.mem_append_left _ hx)) ?_
  · rw [he]
    refine step0 h hr m1 (by rw [he]; simp) (x := (15, k, 2, k)) (by rw [he]; rfl) (rr := 0) ?_
    rw [e4, hq]
    exact cc.trans e
  · unfold m_doItem
    rw [e98] at a1 a3
    rw [lt_eq, e98, gd_pos (by omega), Int.toNat_natCast, up_ne (by omega), it.1, hk, gr (by omega)]
    simp only [Int.reduceEq, ↓reduceIte]
    rw [a1, bq, b1, bq, a3 145 _ (by omega), up_ne (by omega), e145.1, o2, bq]
  · have : st.length = M.length + 2 := by rw [est, List.length_append]; rfl
    unfold nxA
    dsimp only
    rw [if_neg (by omega), if_pos (by omega), ← el]
    omega
end RNt
