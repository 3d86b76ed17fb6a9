/-! what the methods do, as functions, and that the machine does it; printed by wip/whole/dc.py -/
/-! lib_highestUnit -/
def L_lib_highestUnit : List Nat := []
def G_lib_highestUnit : List (Nat × Nat) := []
def lib_highestUnit_2C (H : iS → List am_C) (w : ev_W) (d : Nat) (v0 : Int) : (Int × iS) ⊕ (Int × iS) → am_E → Prop := fun q r => q.elim (fun l => ev w d 172 2 ((fun l => [(0, iv v0), (1, iv (l.1))]) l) [] (H ((fun l => l.2) l)) r) (fun e => (fun e r => ev w d 172 25 [(1, iv (e.1))] [] (H (e.2)) r) e r)
noncomputable def lib_highestUnit_2b (v0 : Int) (v1 : Int) (s : iS) : Option ((Int × iS) ⊕ (Int × iS)) := gd (rg v1) (if 10000 ≤ v1 then some (.inr (v1, s)) else gd (rg v0) (gd (¬ v1 = 0) (gd (rg (v0.tdiv v1)) (if (v0.tdiv v1) < 10 then some (.inr (v1, s)) else some (.inl ((v1 * 10), s))))))
theorem tlib_highestUnit_2b (H : iS → List am_C) (w : ev_W) (d : Nat) (hd : 0 ≤ d) (v0 : Int) (v1 : Int) (s : iS) : Ew H w d 172 2 [(0, iv v0), (1, iv v1)] [] s (lib_highestUnit_2C H w d v0) (lib_highestUnit_2b v0 v1 s) := by
  unfold lib_highestUnit_2b
  refine e_mv 3 em_172 (ce_at ce_172 2 rfl) rfl rfl ?_
  refine e_sip 6 em_172 (ce_at ce_172 3 rfl) (by decide) rfl ?_
  refine e_gd fun g1 => ?_
  refine e_cmge 25 9 em_172 rfl rfl (ce_at ce_172 4 rfl) g1 (by decide) (fun h2 => ?_) (fun h2 => ?_)
  · refine e_pk [1] rfl rfl ?_
    exact e_out (fun r h => h)
  · refine e_mv 10 em_172 (ce_at ce_172 5 rfl) rfl rfl ?_
    refine e_mv 11 em_172 (ce_at ce_172 6 rfl) rfl rfl ?_
    refine e_gd fun g3 => ?_
    refine e_gd fun g4 => ?_
    refine e_idiv 12 em_172 rfl (ce_at ce_172 7 rfl) g3 g1 g4 ?_
    refine e_bip 14 em_172 (ce_at ce_172 8 rfl) (by decide) rfl ?_
    refine e_gd fun g5 => ?_
    refine e_cmlt 25 17 em_172 rfl rfl (ce_at ce_172 9 rfl) g5 (by decide) (fun h6 => ?_) (fun h6 => ?_)
    · refine e_pk [1] rfl rfl ?_
      exact e_out (fun r h => h)
    · refine e_mv 18 em_172 (ce_at ce_172 10 rfl) rfl rfl ?_
      refine e_bip 20 em_172 (ce_at ce_172 11 rfl) (by decide) rfl ?_
      refine e_imul 21 em_172 rfl (ce_at ce_172 12 rfl) ?_
      refine e_mv 22 em_172 (ce_at ce_172 13 rfl) rfl rfl ?_
      refine e_goto em_172 2 (ce_at ce_172 14 rfl) rfl ?_
      refine e_pk [0, 1] rfl rfl ?_
      exact e_out (fun r h => h)
theorem flib_highestUnit_2b (v0 : Int) (v1 : Int) (s : iS) : Fm (fun r : (Int × iS) ⊕ (Int × iS) => r.elim (fun l => l.2) (fun e => e.2)) L_lib_highestUnit G_lib_highestUnit s (lib_highestUnit_2b v0 v1 s) := fm_gd (fm_if (fm_some md_refl) (fm_gd (fm_gd (fm_gd (fm_if (fm_some md_refl) (fm_some md_refl))))))
noncomputable def lib_highestUnit_2 (v0 : Int) (v1 : Int) (s : iS) : Option (Int × iS) := (lp (L := Int × iS) (E := Int × iS) (fun l => lib_highestUnit_2b v0 (l.1) (l.2)) (v1, s)).bind (fun e => some (e.1, e.2))
theorem tlib_highestUnit_2 (H : iS → List am_C) (w : ev_W) (d : Nat) (hd : 0 ≤ d) (v0 : Int) (v1 : Int) (s : iS) : Ew H w d 172 2 [(0, iv v0), (1, iv v1)] [] s (Ci H) (lib_highestUnit_2 v0 v1 s) := by
  unfold lib_highestUnit_2
  refine e_lp (L := Int × iS) (E := Int × iS) (LO := fun l => [(0, iv v0), (1, iv (l.1))]) (LS := fun l => l.2) (CE := fun e r => ev w d 172 25 [(1, iv (e.1))] [] (H (e.2)) r) (fun l => tlib_highestUnit_2b H w d hd _ _ _) ?_ (v1, s)
  intro e
  show Ew H w d 172 25 [(1, iv (e.1))] [] e.2 (Ci H) _
  refine e_mv 26 em_172 (ce_at ce_172 15 rfl) rfl rfl ?_
  exact e_reti em_172 (ce_at ce_172 16 rfl)
theorem flib_highestUnit_2 (v0 : Int) (v1 : Int) (s : iS) : Fm Prod.snd L_lib_highestUnit G_lib_highestUnit s (lib_highestUnit_2 v0 v1 s) := by
  unfold lib_highestUnit_2
  refine fm_lp (A := Int × iS) (E := Int × iS) (LS := fun l => l.2) (LE := fun e => e.2) ?_ ?_ (v1, s)
  · exact fun l => flib_highestUnit_2b _ _ _
  · exact (fun e => fm_some md_refl)
noncomputable def lib_highestUnit (v0 : Int) (s : iS) : Option (Int × iS) := lib_highestUnit_2 v0 1 s
theorem tlib_highestUnit (H : iS → List am_C) (w : ev_W) (d : Nat) (hd : 0 ≤ d) (v0 : Int) (s : iS) : Ew H w d 172 0 [(0, iv v0)] [] s (Ci H) (lib_highestUnit v0 s) := by
  unfold lib_highestUnit
  refine e_op 1 em_172 (ce_at ce_172 0 rfl) rfl rfl ?_
  refine e_mv 2 em_172 (ce_at ce_172 1 rfl) rfl rfl ?_
  refine e_pk [0, 1] rfl rfl ?_
  exact tlib_highestUnit_2 H w d hd _ _ _
theorem flib_highestUnit (v0 : Int) (s : iS) : Fm Prod.snd L_lib_highestUnit G_lib_highestUnit s (lib_highestUnit v0 s) := flib_highestUnit_2 _ _ _
/-! lib_setInt -/
def L_lib_setInt : List Nat := [45]
def G_lib_setInt : List (Nat × Nat) := [(44, 5), (44, 6)]
def lib_setInt_35C (w : ev_W) (d : Nat) (v1 : Int) (v3 : Int) : (Int × iS) ⊕ (iS) → am_E → Prop := fun q r => q.elim (fun l => ev w d 171 35 ((fun l => [(0, .ref (tb_nK + 48)), (1, iv v1), (3, iv v3), (4, iv (l.1))]) l) [] (hT ((fun l => l.2) l)) r) (fun e => (fun e r => ev w d 171 66 [] [] (hT (e)) r) e r)
noncomputable def lib_setInt_35b (v1 : Int) (v3 : Int) (v4 : Int) (s : iS) : Option ((Int × iS) ⊕ (iS)) := gd (rg v4) (if v4 ≤ 0 then some (.inr s) else gd (rg v3) (gd (¬ v4 = 0) (gd (rg (v3.tdiv v4)) (bd (lib_appendChar v1 (48 + ((v3.tdiv v4).tmod 10)) s) (fun r6 s6 => some (.inl ((v4.tdiv 10), s6)))))))
theorem tlib_setInt_35b (w : ev_W) (d : Nat) (hd : 3 ≤ d) (v1 : Int) (v3 : Int) (v4 : Int) (s : iS) : Ew hT w d 171 35 [(0, .ref (tb_nK + 48)), (1, iv v1), (3, iv v3), (4, iv v4)] [] s (lib_setInt_35C w d v1 v3) (lib_setInt_35b v1 v3 v4 s) := by
  unfold lib_setInt_35b
  refine e_mv 37 em_171 (ce_at ce_171 21 rfl) rfl rfl ?_
  refine e_gd fun g1 => ?_
  refine e_ifle 66 40 em_171 rfl rfl (ce_at ce_171 22 rfl) g1 (fun h2 => ?_) (fun h2 => ?_)
  · refine e_pk [] rfl rfl ?_
    exact e_out (fun r h => h)
  · refine e_mv 41 em_171 (ce_at ce_171 23 rfl) rfl rfl ?_
    refine e_mv 42 em_171 (ce_at ce_171 24 rfl) rfl rfl ?_
    refine e_bip 44 em_171 (ce_at ce_171 25 rfl) (by decide) rfl ?_
    refine e_mv 45 em_171 (ce_at ce_171 26 rfl) rfl rfl ?_
    refine e_mv 47 em_171 (ce_at ce_171 27 rfl) rfl rfl ?_
    refine e_gd fun g3 => ?_
    refine e_gd fun g4 => ?_
    refine e_idiv 48 em_171 rfl (ce_at ce_171 28 rfl) g3 g1 g4 ?_
    refine e_bip 50 em_171 (ce_at ce_171 29 rfl) (by decide) rfl ?_
    refine e_gd fun g5 => ?_
    refine e_irem 51 em_171 rfl (ce_at ce_171 30 rfl) g5 (by decide) (by decide) ?_
    refine e_iadd 52 em_171 rfl (ce_at ce_171 31 rfl) ?_
    refine e_ivi 55 em_171 (ce_at ce_171 32 rfl) (by omega) (iv_v2 (by decide) tq_48 rfl) em_168 (Nat.le_of_ble_eq_true rfl) rfl (tlib_appendChar w (d - 1) (by omega) _ _ _) (fun r6 s6 => ?_)
    refine e_op 56 em_171 (ce_at ce_171 33 rfl) rfl rfl ?_
    refine e_mv 58 em_171 (ce_at ce_171 34 rfl) rfl rfl ?_
    refine e_bip 60 em_171 (ce_at ce_171 35 rfl) (by decide) rfl ?_
    refine e_idiv 61 em_171 rfl (ce_at ce_171 36 rfl) g1 (by decide) (by decide) ?_
    refine e_mv 63 em_171 (ce_at ce_171 37 rfl) rfl rfl ?_
    refine e_goto em_171 35 (ce_at ce_171 38 rfl) rfl ?_
    refine e_pk [0, 1, 3, 4] rfl rfl ?_
    exact e_out (fun r h => h)
theorem flib_setInt_35b (v1 : Int) (v3 : Int) (v4 : Int) (s : iS) : Fm (fun r : (Int × iS) ⊕ (iS) => r.elim (fun l => l.2) (fun e => e)) L_lib_setInt G_lib_setInt s (lib_setInt_35b v1 v3 v4 s) := fm_gd (fm_if (fm_some md_refl) (fm_gd (fm_gd (fm_gd (fm_bd (fm_sub (flib_appendChar _ _ _) (mem_sub_L rfl) (mem_sub_F rfl)) (fun r6 s6 => fm_some md_refl))))))
noncomputable def lib_setInt_35 (v1 : Int) (v3 : Int) (v4 : Int) (s : iS) : Option (Int × iS) := (lp (L := Int × iS) (E := iS) (fun l => lib_setInt_35b v1 v3 (l.1) (l.2)) (v4, s)).bind (fun e => some (0, e))
theorem tlib_setInt_35 (w : ev_W) (d : Nat) (hd : 3 ≤ d) (v1 : Int) (v3 : Int) (v4 : Int) (s : iS) : Ew hT w d 171 35 [(0, .ref (tb_nK + 48)), (1, iv v1), (3, iv v3), (4, iv v4)] [] s (Ci hT) (lib_setInt_35 v1 v3 v4 s) := by
  unfold lib_setInt_35
  refine e_lp (L := Int × iS) (E := iS) (LO := fun l => [(0, .ref (tb_nK + 48)), (1, iv v1), (3, iv v3), (4, iv (l.1))]) (LS := fun l => l.2) (CE := fun e r => ev w d 171 66 [] [] (hT (e)) r) (fun l => tlib_setInt_35b w d hd _ _ _ _) ?_ (v4, s)
  intro e
  show Ew hT w d 171 66 [] [] e (Ci hT) _
  refine e_op 67 em_171 (ce_at ce_171 39 rfl) rfl rfl ?_
  exact e_reti em_171 (ce_at ce_171 40 rfl)
theorem flib_setInt_35 (v1 : Int) (v3 : Int) (v4 : Int) (s : iS) : Fm Prod.snd L_lib_setInt G_lib_setInt s (lib_setInt_35 v1 v3 v4 s) := by
  unfold lib_setInt_35
  refine fm_lp (A := Int × iS) (E := iS) (LS := fun l => l.2) (LE := fun e => e) ?_ ?_ (v4, s)
  · exact fun l => flib_setInt_35b _ _ _ _
  · exact (fun e => fm_some md_refl)
noncomputable def lib_setInt_24 (v1 : Int) (v2 : Int) (s : iS) : Option (Int × iS) := bd (mth_abs v2 s) (fun r1 s1 => bd (lib_highestUnit r1 s1) (fun r2 s2 => lib_setInt_35 v1 r1 r2 s2))
theorem tlib_setInt_24 (w : ev_W) (d : Nat) (hd : 3 ≤ d) (v1 : Int) (v2 : Int) (s : iS) : Ew hT w d 171 24 [(0, .ref (tb_nK + 48)), (1, iv v1), (2, iv v2)] [] s (Ci hT) (lib_setInt_24 v1 v2 s) := by
  unfold lib_setInt_24
  refine e_mv 25 em_171 (ce_at ce_171 15 rfl) rfl rfl ?_
  refine e_ivi 28 em_171 (ce_at ce_171 16 rfl) (by omega) (iv_s1 rfl) em_160 (Nat.le_of_ble_eq_true rfl) rfl (tmth_abs hT w (d - 1) (by omega) _ _) (fun r1 s1 => ?_)
  refine e_mv 29 em_171 (ce_at ce_171 17 rfl) rfl rfl ?_
  refine e_mv 30 em_171 (ce_at ce_171 18 rfl) rfl rfl ?_
  refine e_ivi 33 em_171 (ce_at ce_171 19 rfl) (by omega) (iv_s1 rfl) em_172 (Nat.le_of_ble_eq_true rfl) rfl (tlib_highestUnit hT w (d - 1) (by omega) _ _) (fun r2 s2 => ?_)
  refine e_mv 35 em_171 (ce_at ce_171 20 rfl) rfl rfl ?_
  refine e_pk [0, 1, 3, 4] rfl rfl ?_
  exact tlib_setInt_35 w d hd _ _ _ _
theorem flib_setInt_24 (v1 : Int) (v2 : Int) (s : iS) : Fm Prod.snd L_lib_setInt G_lib_setInt s (lib_setInt_24 v1 v2 s) := fm_bd (fm_sub (fmth_abs _ _) (mem_sub_L rfl) (mem_sub_F rfl)) (fun r1 s1 => fm_bd (fm_sub (flib_highestUnit _ _) (mem_sub_L rfl) (mem_sub_F rfl)) (fun r2 s2 => flib_setInt_35 _ _ _ _))
noncomputable def lib_setInt (v1 : Int) (v2 : Int) (s : iS) : Option (Int × iS) := bd (mem_write (v1 + 1) 0 s) (fun r1 s1 => gd (rg v2) (if 0 ≤ v2 then lib_setInt_24 v1 v2 s1 else bd (lib_appendChar v1 45 s1) (fun r4 s4 => lib_setInt_24 v1 v2 s4)))
theorem tlib_setInt (w : ev_W) (d : Nat) (hd : 3 ≤ d) (v1 : Int) (v2 : Int) (s : iS) : Ew hT w d 171 0 [(0, .ref (tb_nK + 48)), (1, iv v1), (2, iv v2)] [] s (Ci hT) (lib_setInt v1 v2 s) := by
  unfold lib_setInt
  refine e_mv 1 em_171 (ce_at ce_171 0 rfl) rfl rfl ?_
  refine e_getr 4 em_171 (ce_at ce_171 1 rfl) tq_48 rfl rfl ?_
  refine e_mv 5 em_171 (ce_at ce_171 2 rfl) rfl rfl ?_
  refine e_op 6 em_171 (ce_at ce_171 3 rfl) rfl rfl ?_
  refine e_iadd 7 em_171 rfl (ce_at ce_171 4 rfl) ?_
  refine e_op 8 em_171 (ce_at ce_171 5 rfl) rfl rfl ?_
  refine e_ivi 11 em_171 (ce_at ce_171 6 rfl) (by omega) (iv_v2 (by decide) tq_44 rfl) em_157 (Nat.le_of_ble_eq_true rfl) rfl (tmem_write w (d - 1) (by omega) _ _ _) (fun r1 s1 => ?_)
  refine e_op 12 em_171 (ce_at ce_171 7 rfl) rfl rfl ?_
  refine e_mv 13 em_171 (ce_at ce_171 8 rfl) rfl rfl ?_
  refine e_gd fun g2 => ?_
  refine e_ifge 24 16 em_171 rfl rfl (ce_at ce_171 9 rfl) g2 (fun h3 => ?_) (fun h3 => ?_)
  · refine e_pk [0, 1, 2] rfl rfl ?_
    exact tlib_setInt_24 w d hd _ _ _
  · refine e_mv 17 em_171 (ce_at ce_171 10 rfl) rfl rfl ?_
    refine e_mv 18 em_171 (ce_at ce_171 11 rfl) rfl rfl ?_
    refine e_bip 20 em_171 (ce_at ce_171 12 rfl) (by decide) rfl ?_
    refine e_ivi 23 em_171 (ce_at ce_171 13 rfl) (by omega) (iv_v2 (by decide) tq_48 rfl) em_168 (Nat.le_of_ble_eq_true rfl) rfl (tlib_appendChar w (d - 1) (by omega) _ _ _) (fun r4 s4 => ?_)
    refine e_op 24 em_171 (ce_at ce_171 14 rfl) rfl rfl ?_
    refine e_pk [0, 1, 2] rfl rfl ?_
    exact tlib_setInt_24 w d hd _ _ _
theorem flib_setInt (v1 : Int) (v2 : Int) (s : iS) : Fm Prod.snd L_lib_setInt G_lib_setInt s (lib_setInt v1 v2 s) := fm_bd (fm_sub (fmem_write _ _ _) (mem_sub_L rfl) (mem_sub_F rfl)) (fun r1 s1 => fm_gd (fm_if (flib_setInt_24 _ _ _) (fm_bd (fm_sub (flib_appendChar _ _ _) (mem_sub_L rfl) (mem_sub_F rfl)) (fun r4 s4 => flib_setInt_24 _ _ _))))
/-! lib_printChar -/
def L_lib_printChar : List Nat := [49]
def G_lib_printChar : List (Nat × Nat) := [(48, 3)]
noncomputable def lib_printChar (v1 : Int) (s : iS) : Option (Int × iS) := gd (rg (s 48 3)) (if 3000 ≤ (s 48 3) then some (0, s) else gd (0 ≤ (s 48 3) ∧ (s 48 3) < 3000) (lt' (up s 49 (s 48 3).toNat (i_and v1 255)) (fun s4 => lt' (up s4 48 3 ((s4 48 3) + 1)) (fun s5 => some (0, s5)))))
theorem tlib_printChar (w : ev_W) (d : Nat) (hd : 0 ≤ d) (v1 : Int) (s : iS) : Ew hT w d 173 0 [(0, .ref (tb_nK + 48)), (1, iv v1)] [] s (Ci hT) (lib_printChar v1 s) := by
  unfold lib_printChar
  refine e_mv 1 em_173 (ce_at ce_173 0 rfl) rfl rfl ?_
  refine e_get 4 em_173 (ce_at ce_173 1 rfl) tq_48 rfl rfl ?_
  refine e_sip 7 em_173 (ce_at ce_173 2 rfl) (by decide) rfl ?_
  refine e_gd fun g1 => ?_
  refine e_cmge 34 10 em_173 rfl rfl (ce_at ce_173 3 rfl) g1 (by decide) (fun h2 => ?_) (fun h2 => ?_)
  · refine e_op 35 em_173 (ce_at ce_173 18 rfl) rfl rfl ?_
    exact e_reti em_173 (ce_at ce_173 19 rfl)
  · refine e_mv 11 em_173 (ce_at ce_173 4 rfl) rfl rfl ?_
    refine e_getr 14 em_173 (ce_at ce_173 5 rfl) tq_48 rfl rfl ?_
    refine e_mv 15 em_173 (ce_at ce_173 6 rfl) rfl rfl ?_
    refine e_get 18 em_173 (ce_at ce_173 7 rfl) tq_48 rfl rfl ?_
    refine e_mv 19 em_173 (ce_at ce_173 8 rfl) rfl rfl ?_
    refine e_sip 22 em_173 (ce_at ce_173 9 rfl) (by decide) rfl ?_
    refine e_iand 23 em_173 rfl (ce_at ce_173 10 rfl) ?_
    refine e_gd fun g3 => ?_
    refine e_ist 24 em_173 (ce_at ce_173 11 rfl) tq_49 (by decide) g3 rfl (fun s4 => ?_)
    refine e_mv 25 em_173 (ce_at ce_173 12 rfl) rfl rfl ?_
    refine e_op 26 em_173 (ce_at ce_173 13 rfl) rfl rfl ?_
    refine e_get 29 em_173 (ce_at ce_173 14 rfl) tq_48 rfl rfl ?_
    refine e_op 30 em_173 (ce_at ce_173 15 rfl) rfl rfl ?_
    refine e_iadd 31 em_173 rfl (ce_at ce_173 16 rfl) ?_
    refine e_put 34 em_173 (ce_at ce_173 17 rfl) tq_48 rfl rfl rfl (fun s5 => ?_)
    refine e_op 35 em_173 (ce_at ce_173 18 rfl) rfl rfl ?_
    exact e_reti em_173 (ce_at ce_173 19 rfl)
theorem flib_printChar (v1 : Int) (s : iS) : Fm Prod.snd L_lib_printChar G_lib_printChar s (lib_printChar v1 s) := fm_gd (fm_if (fm_some md_refl) (fm_gd (fm_lt (md_upL (mem_L rfl)) (fun s4 => fm_lt (md_upF (mem_F rfl)) (fun s5 => fm_some md_refl)))))
/-! lib_printString -/
def L_lib_printString : List Nat := [49]
def G_lib_printString : List (Nat × Nat) := [(44, 5), (44, 6), (48, 3)]
def lib_printString_13C (w : ev_W) (d : Nat) (v1 : Int) (v2 : Int) : (Int × iS) ⊕ (iS) → am_E → Prop := fun q r => q.elim (fun l => ev w d 174 13 ((fun l => [(0, .ref (tb_nK + 48)), (1, iv v1), (2, iv v2), (3, iv (l.1))]) l) [] (hT ((fun l => l.2) l)) r) (fun e => (fun e r => ev w d 174 65 [] [] (hT (e)) r) e r)
noncomputable def lib_printString_13b (v1 : Int) (v2 : Int) (v3 : Int) (s : iS) : Option ((Int × iS) ⊕ (iS)) := gd (rg v3) (gd (rg v2) (if v2 ≤ v3 then some (.inr s) else gd (rg (s 44 5)) (if (s 44 5) = 0 then bd (mem_read ((v1 + 2) + v3) s) (fun r6 s6 => gd (rg (s6 44 5)) (if (s6 44 5) = 0 then bd (lib_printChar r6 s6) (fun r9 s9 => some (.inl ((v3 + 1), s9))) else some (.inl ((v3 + 1), s6)))) else some (.inr s))))
theorem tlib_printString_13b (w : ev_W) (d : Nat) (hd : 2 ≤ d) (v1 : Int) (v2 : Int) (v3 : Int) (s : iS) : Ew hT w d 174 13 [(0, .ref (tb_nK + 48)), (1, iv v1), (2, iv v2), (3, iv v3)] [] s (lib_printString_13C w d v1 v2) (lib_printString_13b v1 v2 v3 s) := by
  unfold lib_printString_13b
  refine e_mv 14 em_174 (ce_at ce_174 9 rfl) rfl rfl ?_
  refine e_mv 15 em_174 (ce_at ce_174 10 rfl) rfl rfl ?_
  refine e_gd fun g1 => ?_
  refine e_gd fun g2 => ?_
  refine e_cmge 65 18 em_174 rfl rfl (ce_at ce_174 11 rfl) g1 g2 (fun h3 => ?_) (fun h3 => ?_)
  · refine e_pk [] rfl rfl ?_
    exact e_out (fun r h => h)
  · refine e_mv 19 em_174 (ce_at ce_174 12 rfl) rfl rfl ?_
    refine e_getr 22 em_174 (ce_at ce_174 13 rfl) tq_48 rfl rfl ?_
    refine e_get 25 em_174 (ce_at ce_174 14 rfl) tq_44 rfl rfl ?_
    refine e_gd fun g4 => ?_
    refine e_ifne 65 28 em_174 rfl rfl (ce_at ce_174 15 rfl) g4 (fun h5 => ?_) (fun h5 => ?_)
    · refine e_pk [] rfl rfl ?_
      exact e_out (fun r h => h)
    · refine e_mv 29 em_174 (ce_at ce_174 16 rfl) rfl rfl ?_
      refine e_getr 32 em_174 (ce_at ce_174 17 rfl) tq_48 rfl rfl ?_
      refine e_mv 33 em_174 (ce_at ce_174 18 rfl) rfl rfl ?_
      refine e_op 34 em_174 (ce_at ce_174 19 rfl) rfl rfl ?_
      refine e_iadd 35 em_174 rfl (ce_at ce_174 20 rfl) ?_
      refine e_mv 36 em_174 (ce_at ce_174 21 rfl) rfl rfl ?_
      refine e_iadd 37 em_174 rfl (ce_at ce_174 22 rfl) ?_
      refine e_ivi 40 em_174 (ce_at ce_174 23 rfl) (by omega) (iv_v1 (by decide) tq_44 rfl) em_150 (Nat.le_of_ble_eq_true rfl) rfl (tmem_read w (d - 1) (by omega) _ _) (fun r6 s6 => ?_)
      refine e_mv 42 em_174 (ce_at ce_174 24 rfl) rfl rfl ?_
      refine e_mv 43 em_174 (ce_at ce_174 25 rfl) rfl rfl ?_
      refine e_getr 46 em_174 (ce_at ce_174 26 rfl) tq_48 rfl rfl ?_
      refine e_get 49 em_174 (ce_at ce_174 27 rfl) tq_44 rfl rfl ?_
      refine e_gd fun g7 => ?_
      refine e_ifne 59 52 em_174 rfl rfl (ce_at ce_174 28 rfl) g7 (fun h8 => ?_) (fun h8 => ?_)
      · refine e_iinc 62 em_174 (ce_at ce_174 33 rfl) rfl (by decide) rfl ?_
        refine e_goto em_174 13 (ce_at ce_174 34 rfl) rfl ?_
        refine e_pk [0, 1, 2, 3] rfl rfl ?_
        exact e_out (fun r h => h)
      · refine e_mv 53 em_174 (ce_at ce_174 29 rfl) rfl rfl ?_
        refine e_mv 55 em_174 (ce_at ce_174 30 rfl) rfl rfl ?_
        refine e_ivi 58 em_174 (ce_at ce_174 31 rfl) (by omega) (iv_v1 (by decide) tq_48 rfl) em_173 (Nat.le_of_ble_eq_true rfl) rfl (tlib_printChar w (d - 1) (by omega) _ _) (fun r9 s9 => ?_)
        refine e_op 59 em_174 (ce_at ce_174 32 rfl) rfl rfl ?_
        refine e_iinc 62 em_174 (ce_at ce_174 33 rfl) rfl (by decide) rfl ?_
        refine e_goto em_174 13 (ce_at ce_174 34 rfl) rfl ?_
        refine e_pk [0, 1, 2, 3] rfl rfl ?_
        exact e_out (fun r h => h)
theorem flib_printString_13b (v1 : Int) (v2 : Int) (v3 : Int) (s : iS) : Fm (fun r : (Int × iS) ⊕ (iS) => r.elim (fun l => l.2) (fun e => e)) L_lib_printString G_lib_printString s (lib_printString_13b v1 v2 v3 s) := fm_gd (fm_gd (fm_if (fm_some md_refl) (fm_gd (fm_if (fm_bd (fm_sub (fmem_read _ _) (mem_sub_L rfl) (mem_sub_F rfl)) (fun r6 s6 => fm_gd (fm_if (fm_bd (fm_sub (flib_printChar _ _) (mem_sub_L rfl) (mem_sub_F rfl)) (fun r9 s9 => fm_some md_refl)) (fm_some md_refl)))) (fm_some md_refl)))))
noncomputable def lib_printString_13 (v1 : Int) (v2 : Int) (v3 : Int) (s : iS) : Option (Int × iS) := (lp (L := Int × iS) (E := iS) (fun l => lib_printString_13b v1 v2 (l.1) (l.2)) (v3, s)).bind (fun e => some (0, e))
theorem tlib_printString_13 (w : ev_W) (d : Nat) (hd : 2 ≤ d) (v1 : Int) (v2 : Int) (v3 : Int) (s : iS) : Ew hT w d 174 13 [(0, .ref (tb_nK + 48)), (1, iv v1), (2, iv v2), (3, iv v3)] [] s (Ci hT) (lib_printString_13 v1 v2 v3 s) := by
  unfold lib_printString_13
  refine e_lp (L := Int × iS) (E := iS) (LO := fun l => [(0, .ref (tb_nK + 48)), (1, iv v1), (2, iv v2), (3, iv (l.1))]) (LS := fun l => l.2) (CE := fun e r => ev w d 174 65 [] [] (hT (e)) r) (fun l => tlib_printString_13b w d hd _ _ _ _) ?_ (v3, s)
  intro e
  show Ew hT w d 174 65 [] [] e (Ci hT) _
  refine e_op 66 em_174 (ce_at ce_174 35 rfl) rfl rfl ?_
  exact e_reti em_174 (ce_at ce_174 36 rfl)
theorem flib_printString_13 (v1 : Int) (v2 : Int) (v3 : Int) (s : iS) : Fm Prod.snd L_lib_printString G_lib_printString s (lib_printString_13 v1 v2 v3 s) := by
  unfold lib_printString_13
  refine fm_lp (A := Int × iS) (E := iS) (LS := fun l => l.2) (LE := fun e => e) ?_ ?_ (v3, s)
  · exact fun l => flib_printString_13b _ _ _ _
  · exact (fun e => fm_some md_refl)
noncomputable def lib_printString (v1 : Int) (s : iS) : Option (Int × iS) := bd (mem_read (v1 + 1) s) (fun r1 s1 => lib_printString_13 v1 r1 0 s1)
theorem tlib_printString (w : ev_W) (d : Nat) (hd : 2 ≤ d) (v1 : Int) (s : iS) : Ew hT w d 174 0 [(0, .ref (tb_nK + 48)), (1, iv v1)] [] s (Ci hT) (lib_printString v1 s) := by
  unfold lib_printString
  refine e_mv 1 em_174 (ce_at ce_174 0 rfl) rfl rfl ?_
  refine e_getr 4 em_174 (ce_at ce_174 1 rfl) tq_48 rfl rfl ?_
  refine e_mv 5 em_174 (ce_at ce_174 2 rfl) rfl rfl ?_
  refine e_op 6 em_174 (ce_at ce_174 3 rfl) rfl rfl ?_
  refine e_iadd 7 em_174 rfl (ce_at ce_174 4 rfl) ?_
  refine e_ivi 10 em_174 (ce_at ce_174 5 rfl) (by omega) (iv_v1 (by decide) tq_44 rfl) em_150 (Nat.le_of_ble_eq_true rfl) rfl (tmem_read w (d - 1) (by omega) _ _) (fun r1 s1 => ?_)
  refine e_mv 11 em_174 (ce_at ce_174 6 rfl) rfl rfl ?_
  refine e_op 12 em_174 (ce_at ce_174 7 rfl) rfl rfl ?_
  refine e_mv 13 em_174 (ce_at ce_174 8 rfl) rfl rfl ?_
  refine e_pk [0, 1, 2, 3] rfl rfl ?_
  exact tlib_printString_13 w d hd _ _ _ _
theorem flib_printString (v1 : Int) (s : iS) : Fm Prod.snd L_lib_printString G_lib_printString s (lib_printString v1 s) := fm_bd (fm_sub (fmem_read _ _) (mem_sub_L rfl) (mem_sub_F rfl)) (fun r1 s1 => flib_printString_13 _ _ _ _)
/-! lib_printInt -/
def L_lib_printInt : List Nat := [49]
def G_lib_printInt : List (Nat × Nat) := [(48, 3)]
def lib_printInt_21C (w : ev_W) (d : Nat) (v2 : Int) : (Int × iS) ⊕ (iS) → am_E → Prop := fun q r => q.elim (fun l => ev w d 175 21 ((fun l => [(0, .ref (tb_nK + 48)), (2, iv v2), (3, iv (l.1))]) l) [] (hT ((fun l => l.2) l)) r) (fun e => (fun e r => ev w d 175 47 [] [] (hT (e)) r) e r)
noncomputable def lib_printInt_21b (v2 : Int) (v3 : Int) (s : iS) : Option ((Int × iS) ⊕ (iS)) := gd (rg v3) (if v3 ≤ 0 then some (.inr s) else gd (rg v2) (gd (¬ v3 = 0) (gd (rg (v2.tdiv v3)) (bd (lib_printChar (48 + ((v2.tdiv v3).tmod 10)) s) (fun r6 s6 => some (.inl ((v3.tdiv 10), s6)))))))
theorem tlib_printInt_21b (w : ev_W) (d : Nat) (hd : 1 ≤ d) (v2 : Int) (v3 : Int) (s : iS) : Ew hT w d 175 21 [(0, .ref (tb_nK + 48)), (2, iv v2), (3, iv v3)] [] s (lib_printInt_21C w d v2) (lib_printInt_21b v2 v3 s) := by
  unfold lib_printInt_21b
  refine e_mv 22 em_175 (ce_at ce_175 12 rfl) rfl rfl ?_
  refine e_gd fun g1 => ?_
  refine e_ifle 47 25 em_175 rfl rfl (ce_at ce_175 13 rfl) g1 (fun h2 => ?_) (fun h2 => ?_)
  · refine e_pk [] rfl rfl ?_
    exact e_out (fun r h => h)
  · refine e_mv 26 em_175 (ce_at ce_175 14 rfl) rfl rfl ?_
    refine e_bip 28 em_175 (ce_at ce_175 15 rfl) (by decide) rfl ?_
    refine e_mv 29 em_175 (ce_at ce_175 16 rfl) rfl rfl ?_
    refine e_mv 30 em_175 (ce_at ce_175 17 rfl) rfl rfl ?_
    refine e_gd fun g3 => ?_
    refine e_gd fun g4 => ?_
    refine e_idiv 31 em_175 rfl (ce_at ce_175 18 rfl) g3 g1 g4 ?_
    refine e_bip 33 em_175 (ce_at ce_175 19 rfl) (by decide) rfl ?_
    refine e_gd fun g5 => ?_
    refine e_irem 34 em_175 rfl (ce_at ce_175 20 rfl) g5 (by decide) (by decide) ?_
    refine e_iadd 35 em_175 rfl (ce_at ce_175 21 rfl) ?_
    refine e_ivi 38 em_175 (ce_at ce_175 22 rfl) (by omega) (iv_v1 (by decide) tq_48 rfl) em_173 (Nat.le_of_ble_eq_true rfl) rfl (tlib_printChar w (d - 1) (by omega) _ _) (fun r6 s6 => ?_)
    refine e_op 39 em_175 (ce_at ce_175 23 rfl) rfl rfl ?_
    refine e_mv 40 em_175 (ce_at ce_175 24 rfl) rfl rfl ?_
    refine e_bip 42 em_175 (ce_at ce_175 25 rfl) (by decide) rfl ?_
    refine e_idiv 43 em_175 rfl (ce_at ce_175 26 rfl) g1 (by decide) (by decide) ?_
    refine e_mv 44 em_175 (ce_at ce_175 27 rfl) rfl rfl ?_
    refine e_goto em_175 21 (ce_at ce_175 28 rfl) rfl ?_
    refine e_pk [0, 2, 3] rfl rfl ?_
    exact e_out (fun r h => h)
theorem flib_printInt_21b (v2 : Int) (v3 : Int) (s : iS) : Fm (fun r : (Int × iS) ⊕ (iS) => r.elim (fun l => l.2) (fun e => e)) L_lib_printInt G_lib_printInt s (lib_printInt_21b v2 v3 s) := fm_gd (fm_if (fm_some md_refl) (fm_gd (fm_gd (fm_gd (fm_bd (fm_sub (flib_printChar _ _) (mem_sub_L rfl) (mem_sub_F rfl)) (fun r6 s6 => fm_some md_refl))))))
noncomputable def lib_printInt_21 (v2 : Int) (v3 : Int) (s : iS) : Option (Int × iS) := (lp (L := Int × iS) (E := iS) (fun l => lib_printInt_21b v2 (l.1) (l.2)) (v3, s)).bind (fun e => some (0, e))
theorem tlib_printInt_21 (w : ev_W) (d : Nat) (hd : 1 ≤ d) (v2 : Int) (v3 : Int) (s : iS) : Ew hT w d 175 21 [(0, .ref (tb_nK + 48)), (2, iv v2), (3, iv v3)] [] s (Ci hT) (lib_printInt_21 v2 v3 s) := by
  unfold lib_printInt_21
  refine e_lp (L := Int × iS) (E := iS) (LO := fun l => [(0, .ref (tb_nK + 48)), (2, iv v2), (3, iv (l.1))]) (LS := fun l => l.2) (CE := fun e r => ev w d 175 47 [] [] (hT (e)) r) (fun l => tlib_printInt_21b w d hd _ _ _) ?_ (v3, s)
  intro e
  show Ew hT w d 175 47 [] [] e (Ci hT) _
  refine e_op 48 em_175 (ce_at ce_175 29 rfl) rfl rfl ?_
  exact e_reti em_175 (ce_at ce_175 30 rfl)
theorem flib_printInt_21 (v2 : Int) (v3 : Int) (s : iS) : Fm Prod.snd L_lib_printInt G_lib_printInt s (lib_printInt_21 v2 v3 s) := by
  unfold lib_printInt_21
  refine fm_lp (A := Int × iS) (E := iS) (LS := fun l => l.2) (LE := fun e => e) ?_ ?_ (v3, s)
  · exact fun l => flib_printInt_21b _ _ _
  · exact (fun e => fm_some md_refl)
noncomputable def lib_printInt_11 (v1 : Int) (s : iS) : Option (Int × iS) := bd (mth_abs v1 s) (fun r1 s1 => bd (lib_highestUnit r1 s1) (fun r2 s2 => lib_printInt_21 r1 r2 s2))
theorem tlib_printInt_11 (w : ev_W) (d : Nat) (hd : 1 ≤ d) (v1 : Int) (s : iS) : Ew hT w d 175 11 [(0, .ref (tb_nK + 48)), (1, iv v1)] [] s (Ci hT) (lib_printInt_11 v1 s) := by
  unfold lib_printInt_11
  refine e_mv 12 em_175 (ce_at ce_175 6 rfl) rfl rfl ?_
  refine e_ivi 15 em_175 (ce_at ce_175 7 rfl) (by omega) (iv_s1 rfl) em_160 (Nat.le_of_ble_eq_true rfl) rfl (tmth_abs hT w (d - 1) (by omega) _ _) (fun r1 s1 => ?_)
  refine e_mv 16 em_175 (ce_at ce_175 8 rfl) rfl rfl ?_
  refine e_mv 17 em_175 (ce_at ce_175 9 rfl) rfl rfl ?_
  refine e_ivi 20 em_175 (ce_at ce_175 10 rfl) (by omega) (iv_s1 rfl) em_172 (Nat.le_of_ble_eq_true rfl) rfl (tlib_highestUnit hT w (d - 1) (by omega) _ _) (fun r2 s2 => ?_)
  refine e_mv 21 em_175 (ce_at ce_175 11 rfl) rfl rfl ?_
  refine e_pk [0, 2, 3] rfl rfl ?_
  exact tlib_printInt_21 w d hd _ _ _
theorem flib_printInt_11 (v1 : Int) (s : iS) : Fm Prod.snd L_lib_printInt G_lib_printInt s (lib_printInt_11 v1 s) := fm_bd (fm_sub (fmth_abs _ _) (mem_sub_L rfl) (mem_sub_F rfl)) (fun r1 s1 => fm_bd (fm_sub (flib_highestUnit _ _) (mem_sub_L rfl) (mem_sub_F rfl)) (fun r2 s2 => flib_printInt_21 _ _ _))
noncomputable def lib_printInt (v1 : Int) (s : iS) : Option (Int × iS) := gd (rg v1) (if 0 ≤ v1 then lib_printInt_11 v1 s else bd (lib_printChar 45 s) (fun r3 s3 => lib_printInt_11 v1 s3))
theorem tlib_printInt (w : ev_W) (d : Nat) (hd : 1 ≤ d) (v1 : Int) (s : iS) : Ew hT w d 175 0 [(0, .ref (tb_nK + 48)), (1, iv v1)] [] s (Ci hT) (lib_printInt v1 s) := by
  unfold lib_printInt
  refine e_mv 1 em_175 (ce_at ce_175 0 rfl) rfl rfl ?_
  refine e_gd fun g1 => ?_
  refine e_ifge 11 4 em_175 rfl rfl (ce_at ce_175 1 rfl) g1 (fun h2 => ?_) (fun h2 => ?_)
  · refine e_pk [0, 1] rfl rfl ?_
    exact tlib_printInt_11 w d hd _ _
  · refine e_mv 5 em_175 (ce_at ce_175 2 rfl) rfl rfl ?_
    refine e_bip 7 em_175 (ce_at ce_175 3 rfl) (by decide) rfl ?_
    refine e_ivi 10 em_175 (ce_at ce_175 4 rfl) (by omega) (iv_v1 (by decide) tq_48 rfl) em_173 (Nat.le_of_ble_eq_true rfl) rfl (tlib_printChar w (d - 1) (by omega) _ _) (fun r3 s3 => ?_)
    refine e_op 11 em_175 (ce_at ce_175 5 rfl) rfl rfl ?_
    refine e_pk [0, 1] rfl rfl ?_
    exact tlib_printInt_11 w d hd _ _
theorem flib_printInt (v1 : Int) (s : iS) : Fm Prod.snd L_lib_printInt G_lib_printInt s (lib_printInt v1 s) := fm_gd (fm_if (flib_printInt_11 _ _) (fm_bd (fm_sub (flib_printChar _ _) (mem_sub_L rfl) (mem_sub_F rfl)) (fun r3 s3 => flib_printInt_11 _ _)))
/-! lib_nextKey -/
def L_lib_nextKey : List Nat := []
def G_lib_nextKey : List (Nat × Nat) := []
noncomputable def lib_nextKey (s : iS) : Option (Int × iS) := gd (rg (s 48 6)) (gd (rg (s 48 5)) (if (s 48 5) ≤ (s 48 6) then some (0, s) else if 200 ≤ (s 48 6) then some (0, s) else gd (0 ≤ (s 48 6) ∧ (s 48 6) < 200) (some ((s 50 (s 48 6).toNat), s))))
theorem tlib_nextKey (w : ev_W) (d : Nat) (hd : 0 ≤ d) (s : iS) : Ew hT w d 176 0 [(0, .ref (tb_nK + 48))] [] s (Ci hT) (lib_nextKey s) := by
  unfold lib_nextKey
  refine e_mv 1 em_176 (ce_at ce_176 0 rfl) rfl rfl ?_
  refine e_get 4 em_176 (ce_at ce_176 1 rfl) tq_48 rfl rfl ?_
  refine e_mv 5 em_176 (ce_at ce_176 2 rfl) rfl rfl ?_
  refine e_get 8 em_176 (ce_at ce_176 3 rfl) tq_48 rfl rfl ?_
  refine e_gd fun g1 => ?_
  refine e_gd fun g2 => ?_
  refine e_cmge 33 11 em_176 rfl rfl (ce_at ce_176 4 rfl) g1 g2 (fun h3 => ?_) (fun h3 => ?_)
  · refine e_op 34 em_176 (ce_at ce_176 15 rfl) rfl rfl ?_
    exact e_reti em_176 (ce_at ce_176 16 rfl)
  · refine e_mv 12 em_176 (ce_at ce_176 5 rfl) rfl rfl ?_
    refine e_get 15 em_176 (ce_at ce_176 6 rfl) tq_48 rfl rfl ?_
    refine e_sip 18 em_176 (ce_at ce_176 7 rfl) (by decide) rfl ?_
    refine e_cmge 33 21 em_176 rfl rfl (ce_at ce_176 8 rfl) g1 (by decide) (fun h4 => ?_) (fun h4 => ?_)
    · refine e_op 34 em_176 (ce_at ce_176 15 rfl) rfl rfl ?_
      exact e_reti em_176 (ce_at ce_176 16 rfl)
    · refine e_mv 22 em_176 (ce_at ce_176 9 rfl) rfl rfl ?_
      refine e_getr 25 em_176 (ce_at ce_176 10 rfl) tq_48 rfl rfl ?_
      refine e_mv 26 em_176 (ce_at ce_176 11 rfl) rfl rfl ?_
      refine e_get 29 em_176 (ce_at ce_176 12 rfl) tq_48 rfl rfl ?_
      refine e_gd fun g5 => ?_
      refine e_ild 30 em_176 (ce_at ce_176 13 rfl) tq_50 (by decide) g5 rfl ?_
      refine e_goto em_176 34 (ce_at ce_176 14 rfl) rfl ?_
      exact e_reti em_176 (ce_at ce_176 16 rfl)
theorem flib_nextKey (s : iS) : Fm Prod.snd L_lib_nextKey G_lib_nextKey s (lib_nextKey s) := fm_gd (fm_gd (fm_if (fm_some md_refl) (fm_if (fm_some md_refl) (fm_gd (fm_some md_refl)))))
/-! lib_readChar -/
def L_lib_readChar : List Nat := []
def G_lib_readChar : List (Nat × Nat) := [(48, 6)]
noncomputable def lib_readChar (s : iS) : Option (Int × iS) := bd (lib_nextKey s) (fun r1 s1 => gd (rg (s1 48 6)) (gd (rg (s1 48 5)) (if (s1 48 5) ≤ (s1 48 6) then some (r1, s1) else lt' (up s1 48 6 ((s1 48 6) + 1)) (fun s5 => some (r1, s5)))))
theorem tlib_readChar (w : ev_W) (d : Nat) (hd : 1 ≤ d) (s : iS) : Ew hT w d 177 0 [(0, .ref (tb_nK + 48))] [] s (Ci hT) (lib_readChar s) := by
  unfold lib_readChar
  refine e_mv 1 em_177 (ce_at ce_177 0 rfl) rfl rfl ?_
  refine e_ivi 4 em_177 (ce_at ce_177 1 rfl) (by omega) (iv_v0 (by decide) tq_48 rfl) em_176 (Nat.le_of_ble_eq_true rfl) rfl (tlib_nextKey w (d - 1) (by omega) _) (fun r1 s1 => ?_)
  refine e_mv 5 em_177 (ce_at ce_177 2 rfl) rfl rfl ?_
  refine e_mv 6 em_177 (ce_at ce_177 3 rfl) rfl rfl ?_
  refine e_get 9 em_177 (ce_at ce_177 4 rfl) tq_48 rfl rfl ?_
  refine e_mv 10 em_177 (ce_at ce_177 5 rfl) rfl rfl ?_
  refine e_get 13 em_177 (ce_at ce_177 6 rfl) tq_48 rfl rfl ?_
  refine e_gd fun g2 => ?_
  refine e_gd fun g3 => ?_
  refine e_cmge 26 16 em_177 rfl rfl (ce_at ce_177 7 rfl) g2 g3 (fun h4 => ?_) (fun h4 => ?_)
  · refine e_mv 27 em_177 (ce_at ce_177 14 rfl) rfl rfl ?_
    exact e_reti em_177 (ce_at ce_177 15 rfl)
  · refine e_mv 17 em_177 (ce_at ce_177 8 rfl) rfl rfl ?_
    refine e_op 18 em_177 (ce_at ce_177 9 rfl) rfl rfl ?_
    refine e_get 21 em_177 (ce_at ce_177 10 rfl) tq_48 rfl rfl ?_
    refine e_op 22 em_177 (ce_at ce_177 11 rfl) rfl rfl ?_
    refine e_iadd 23 em_177 rfl (ce_at ce_177 12 rfl) ?_
    refine e_put 26 em_177 (ce_at ce_177 13 rfl) tq_48 rfl rfl rfl (fun s5 => ?_)
    refine e_mv 27 em_177 (ce_at ce_177 14 rfl) rfl rfl ?_
    exact e_reti em_177 (ce_at ce_177 15 rfl)
theorem flib_readChar (s : iS) : Fm Prod.snd L_lib_readChar G_lib_readChar s (lib_readChar s) := fm_bd (fm_sub (flib_nextKey _) (mem_sub_L rfl) (mem_sub_F rfl)) (fun r1 s1 => fm_gd (fm_gd (fm_if (fm_some md_refl) (fm_lt (md_upF (mem_F rfl)) (fun s5 => fm_some md_refl)))))
/-! lib_readLine -/
def L_lib_readLine : List Nat := [45, 46, 47, 49]
def G_lib_readLine : List (Nat × Nat) := [(44, 3), (44, 4), (44, 5), (44, 6), (48, 3), (48, 6)]
def lib_readLine_30C (w : ev_W) (d : Nat) (v2 : Int) : (Int × iS) ⊕ ((iS) ⊕ (iS)) → am_E → Prop := fun q r => q.elim (fun l => ev w d 178 30 ((fun l => [(0, .ref (tb_nK + 48)), (2, iv v2), (3, iv (l.1))]) l) [] (hT ((fun l => l.2) l)) r) (fun e => (fun e r => e.elim (fun e => ev w d 178 61 [(2, iv v2)] [] (hT (e)) r) (fun e => ev w d 178 78 [(2, iv v2)] [] (hT (e)) r)) e r)
noncomputable def lib_readLine_30b (v2 : Int) (v3 : Int) (s : iS) : Option ((Int × iS) ⊕ ((iS) ⊕ (iS))) := gd (rg v3) (gd (rg (s 48 5)) (if (s 48 5) ≤ v3 then some (.inr (.inr s)) else gd (rg (s 44 5)) (if (s 44 5) = 0 then bd (lib_readChar s) (fun r6 s6 => gd (rg r6) (if r6 = 10 then some (.inr (.inl s6)) else bd (lib_appendChar v2 r6 s6) (fun r9 s9 => some (.inl ((v3 + 1), s9))))) else some (.inr (.inr s)))))
theorem tlib_readLine_30b (w : ev_W) (d : Nat) (hd : 4 ≤ d) (v2 : Int) (v3 : Int) (s : iS) : Ew hT w d 178 30 [(0, .ref (tb_nK + 48)), (2, iv v2), (3, iv v3)] [] s (lib_readLine_30C w d v2) (lib_readLine_30b v2 v3 s) := by
  unfold lib_readLine_30b
  refine e_mv 31 em_178 (ce_at ce_178 17 rfl) rfl rfl ?_
  refine e_mv 32 em_178 (ce_at ce_178 18 rfl) rfl rfl ?_
  refine e_get 35 em_178 (ce_at ce_178 19 rfl) tq_48 rfl rfl ?_
  refine e_gd fun g1 => ?_
  refine e_gd fun g2 => ?_
  refine e_cmge 78 38 em_178 rfl rfl (ce_at ce_178 20 rfl) g1 g2 (fun h3 => ?_) (fun h3 => ?_)
  · refine e_pk [2] rfl rfl ?_
    exact e_out (fun r h => h)
  · refine e_mv 39 em_178 (ce_at ce_178 21 rfl) rfl rfl ?_
    refine e_getr 42 em_178 (ce_at ce_178 22 rfl) tq_48 rfl rfl ?_
    refine e_get 45 em_178 (ce_at ce_178 23 rfl) tq_44 rfl rfl ?_
    refine e_gd fun g4 => ?_
    refine e_ifne 78 48 em_178 rfl rfl (ce_at ce_178 24 rfl) g4 (fun h5 => ?_) (fun h5 => ?_)
    · refine e_pk [2] rfl rfl ?_
      exact e_out (fun r h => h)
    · refine e_mv 49 em_178 (ce_at ce_178 25 rfl) rfl rfl ?_
      refine e_ivi 52 em_178 (ce_at ce_178 26 rfl) (by omega) (iv_v0 (by decide) tq_48 rfl) em_177 (Nat.le_of_ble_eq_true rfl) rfl (tlib_readChar w (d - 1) (by omega) _) (fun r6 s6 => ?_)
      refine e_mv 54 em_178 (ce_at ce_178 27 rfl) rfl rfl ?_
      refine e_mv 56 em_178 (ce_at ce_178 28 rfl) rfl rfl ?_
      refine e_bip 58 em_178 (ce_at ce_178 29 rfl) (by decide) rfl ?_
      refine e_gd fun g7 => ?_
      refine e_cmne 64 61 em_178 rfl rfl (ce_at ce_178 30 rfl) g7 (by decide) (fun h8 => ?_) (fun h8 => ?_)
      · refine e_mv 65 em_178 (ce_at ce_178 32 rfl) rfl rfl ?_
        refine e_mv 66 em_178 (ce_at ce_178 33 rfl) rfl rfl ?_
        refine e_mv 68 em_178 (ce_at ce_178 34 rfl) rfl rfl ?_
        refine e_ivi 71 em_178 (ce_at ce_178 35 rfl) (by omega) (iv_v2 (by decide) tq_48 rfl) em_168 (Nat.le_of_ble_eq_true rfl) rfl (tlib_appendChar w (d - 1) (by omega) _ _ _) (fun r9 s9 => ?_)
        refine e_op 72 em_178 (ce_at ce_178 36 rfl) rfl rfl ?_
        refine e_iinc 75 em_178 (ce_at ce_178 37 rfl) rfl (by decide) rfl ?_
        refine e_goto em_178 30 (ce_at ce_178 38 rfl) rfl ?_
        refine e_pk [0, 2, 3] rfl rfl ?_
        exact e_out (fun r h => h)
      · refine e_pk [2] rfl rfl ?_
        exact e_out (fun r h => h)
theorem flib_readLine_30b (v2 : Int) (v3 : Int) (s : iS) : Fm (fun r : (Int × iS) ⊕ ((iS) ⊕ (iS)) => r.elim (fun l => l.2) (fun e => e.elim (fun e => e) (fun e => e))) L_lib_readLine G_lib_readLine s (lib_readLine_30b v2 v3 s) := fm_gd (fm_gd (fm_if (fm_some md_refl) (fm_gd (fm_if (fm_bd (fm_sub (flib_readChar _) (mem_sub_L rfl) (mem_sub_F rfl)) (fun r6 s6 => fm_gd (fm_if (fm_some md_refl) (fm_bd (fm_sub (flib_appendChar _ _ _) (mem_sub_L rfl) (mem_sub_F rfl)) (fun r9 s9 => fm_some md_refl))))) (fm_some md_refl)))))
noncomputable def lib_readLine_30 (v2 : Int) (v3 : Int) (s : iS) : Option (Int × iS) := (lp (L := Int × iS) (E := (iS) ⊕ (iS)) (fun l => lib_readLine_30b v2 (l.1) (l.2)) (v3, s)).bind (fun e => e.elim (fun e => some (v2, e)) (fun e => some (v2, e)))
theorem tlib_readLine_30 (w : ev_W) (d : Nat) (hd : 4 ≤ d) (v2 : Int) (v3 : Int) (s : iS) : Ew hT w d 178 30 [(0, .ref (tb_nK + 48)), (2, iv v2), (3, iv v3)] [] s (Ci hT) (lib_readLine_30 v2 v3 s) := by
  unfold lib_readLine_30
  refine e_lp (L := Int × iS) (E := (iS) ⊕ (iS)) (LO := fun l => [(0, .ref (tb_nK + 48)), (2, iv v2), (3, iv (l.1))]) (LS := fun l => l.2) (CE := fun e r => e.elim (fun e => ev w d 178 61 [(2, iv v2)] [] (hT (e)) r) (fun e => ev w d 178 78 [(2, iv v2)] [] (hT (e)) r)) (fun l => tlib_readLine_30b w d hd _ _ _) ?_ (v3, s)
  rintro (e | e)
  · show Ew hT w d 178 61 [(2, iv v2)] [] e (Ci hT) _
    refine e_goto em_178 78 (ce_at ce_178 31 rfl) rfl ?_
    refine e_mv 79 em_178 (ce_at ce_178 39 rfl) rfl rfl ?_
    exact e_reti em_178 (ce_at ce_178 40 rfl)
  · show Ew hT w d 178 78 [(2, iv v2)] [] e (Ci hT) _
    refine e_mv 79 em_178 (ce_at ce_178 39 rfl) rfl rfl ?_
    exact e_reti em_178 (ce_at ce_178 40 rfl)
theorem flib_readLine_30 (v2 : Int) (v3 : Int) (s : iS) : Fm Prod.snd L_lib_readLine G_lib_readLine s (lib_readLine_30 v2 v3 s) := by
  unfold lib_readLine_30
  refine fm_lp (A := Int × iS) (E := (iS) ⊕ (iS)) (LS := fun l => l.2) (LE := fun e => e.elim (fun e => e) (fun e => e)) ?_ ?_ (v3, s)
  · exact fun l => flib_readLine_30b _ _ _
  · exact (by rintro (e | e); exact fm_some md_refl; exact fm_some md_refl)
noncomputable def lib_readLine (v1 : Int) (s : iS) : Option (Int × iS) := bd (lib_printString v1 s) (fun r1 s1 => gd (rg (s1 44 5)) (if (s1 44 5) = 0 then bd (lib_newString 80 s1) (fun r4 s4 => lib_readLine_30 r4 (s4 48 6) s4) else some (0, s1)))
theorem tlib_readLine (w : ev_W) (d : Nat) (hd : 4 ≤ d) (v1 : Int) (s : iS) : Ew hT w d 178 0 [(0, .ref (tb_nK + 48)), (1, iv v1)] [] s (Ci hT) (lib_readLine v1 s) := by
  unfold lib_readLine
  refine e_mv 1 em_178 (ce_at ce_178 0 rfl) rfl rfl ?_
  refine e_mv 2 em_178 (ce_at ce_178 1 rfl) rfl rfl ?_
  refine e_ivi 5 em_178 (ce_at ce_178 2 rfl) (by omega) (iv_v1 (by decide) tq_48 rfl) em_174 (Nat.le_of_ble_eq_true rfl) rfl (tlib_printString w (d - 1) (by omega) _ _) (fun r1 s1 => ?_)
  refine e_op 6 em_178 (ce_at ce_178 3 rfl) rfl rfl ?_
  refine e_mv 7 em_178 (ce_at ce_178 4 rfl) rfl rfl ?_
  refine e_getr 10 em_178 (ce_at ce_178 5 rfl) tq_48 rfl rfl ?_
  refine e_get 13 em_178 (ce_at ce_178 6 rfl) tq_44 rfl rfl ?_
  refine e_gd fun g2 => ?_
  refine e_ifeq 18 16 em_178 rfl rfl (ce_at ce_178 7 rfl) g2 (fun h3 => ?_) (fun h3 => ?_)
  · refine e_mv 19 em_178 (ce_at ce_178 10 rfl) rfl rfl ?_
    refine e_bip 21 em_178 (ce_at ce_178 11 rfl) (by decide) rfl ?_
    refine e_ivi 24 em_178 (ce_at ce_178 12 rfl) (by omega) (iv_v1 (by decide) tq_48 rfl) em_165 (Nat.le_of_ble_eq_true rfl) rfl (tlib_newString w (d - 1) (by omega) _ _) (fun r4 s4 => ?_)
    refine e_mv 25 em_178 (ce_at ce_178 13 rfl) rfl rfl ?_
    refine e_mv 26 em_178 (ce_at ce_178 14 rfl) rfl rfl ?_
    refine e_get 29 em_178 (ce_at ce_178 15 rfl) tq_48 rfl rfl ?_
    refine e_mv 30 em_178 (ce_at ce_178 16 rfl) rfl rfl ?_
    refine e_pk [0, 2, 3] rfl rfl ?_
    exact tlib_readLine_30 w d hd _ _ _
  · refine e_op 17 em_178 (ce_at ce_178 8 rfl) rfl rfl ?_
    exact e_reti em_178 (ce_at ce_178 9 rfl)
theorem flib_readLine (v1 : Int) (s : iS) : Fm Prod.snd L_lib_readLine G_lib_readLine s (lib_readLine v1 s) := fm_bd (fm_sub (flib_printString _ _) (mem_sub_L rfl) (mem_sub_F rfl)) (fun r1 s1 => fm_gd (fm_if (fm_bd (fm_sub (flib_newString _ _) (mem_sub_L rfl) (mem_sub_F rfl)) (fun r4 s4 => flib_readLine_30 _ _ _)) (fm_some md_refl)))
/-! mem_clearScreen -/
def L_mem_clearScreen : List Nat := [45]
def G_mem_clearScreen : List (Nat × Nat) := []
def mem_clearScreen_4C (w : ev_W) (d : Nat) : (Int × iS) ⊕ (iS) → am_E → Prop := fun q r => q.elim (fun l => ev w d 179 4 ((fun l => [(0, .ref (tb_nK + 44)), (1, iv (l.1))]) l) [] (hT ((fun l => l.2) l)) r) (fun e => (fun e r => ev w d 179 26 [] [] (hT (e)) r) e r)
noncomputable def mem_clearScreen_4b (v1 : Int) (s : iS) : Option ((Int × iS) ⊕ (iS)) := gd (rg v1) (if 12416 ≤ v1 then some (.inr s) else gd (0 ≤ v1 ∧ v1 < 12416) (lt' (up s 45 v1.toNat 0) (fun s4 => some (.inl ((v1 + 1), s4)))))
theorem tmem_clearScreen_4b (w : ev_W) (d : Nat) (hd : 0 ≤ d) (v1 : Int) (s : iS) : Ew hT w d 179 4 [(0, .ref (tb_nK + 44)), (1, iv v1)] [] s (mem_clearScreen_4C w d) (mem_clearScreen_4b v1 s) := by
  unfold mem_clearScreen_4b
  refine e_mv 5 em_179 (ce_at ce_179 2 rfl) rfl rfl ?_
  refine e_mv 6 em_179 (ce_at ce_179 3 rfl) rfl rfl ?_
  refine e_getr 9 em_179 (ce_at ce_179 4 rfl) tq_44 rfl rfl ?_
  refine e_alen 10 em_179 (ce_at ce_179 5 rfl) tq_45 (by decide) rfl rfl ?_
  refine e_gd fun g1 => ?_
  refine e_cmge 26 13 em_179 rfl rfl (ce_at ce_179 6 rfl) g1 (by decide) (fun h2 => ?_) (fun h2 => ?_)
  · refine e_pk [] rfl rfl ?_
    exact e_out (fun r h => h)
  · refine e_mv 14 em_179 (ce_at ce_179 7 rfl) rfl rfl ?_
    refine e_getr 17 em_179 (ce_at ce_179 8 rfl) tq_44 rfl rfl ?_
    refine e_mv 18 em_179 (ce_at ce_179 9 rfl) rfl rfl ?_
    refine e_op 19 em_179 (ce_at ce_179 10 rfl) rfl rfl ?_
    refine e_gd fun g3 => ?_
    refine e_ist 20 em_179 (ce_at ce_179 11 rfl) tq_45 (by decide) g3 rfl (fun s4 => ?_)
    refine e_iinc 23 em_179 (ce_at ce_179 12 rfl) rfl (by decide) rfl ?_
    refine e_goto em_179 4 (ce_at ce_179 13 rfl) rfl ?_
    refine e_pk [0, 1] rfl rfl ?_
    exact e_out (fun r h => h)
theorem fmem_clearScreen_4b (v1 : Int) (s : iS) : Fm (fun r : (Int × iS) ⊕ (iS) => r.elim (fun l => l.2) (fun e => e)) L_mem_clearScreen G_mem_clearScreen s (mem_clearScreen_4b v1 s) := fm_gd (fm_if (fm_some md_refl) (fm_gd (fm_lt (md_upL (mem_L rfl)) (fun s4 => fm_some md_refl))))
noncomputable def mem_clearScreen_4 (v1 : Int) (s : iS) : Option (Int × iS) := (lp (L := Int × iS) (E := iS) (fun l => mem_clearScreen_4b (l.1) (l.2)) (v1, s)).bind (fun e => some (0, e))
theorem tmem_clearScreen_4 (w : ev_W) (d : Nat) (hd : 0 ≤ d) (v1 : Int) (s : iS) : Ew hT w d 179 4 [(0, .ref (tb_nK + 44)), (1, iv v1)] [] s (Ci hT) (mem_clearScreen_4 v1 s) := by
  unfold mem_clearScreen_4
  refine e_lp (L := Int × iS) (E := iS) (LO := fun l => [(0, .ref (tb_nK + 44)), (1, iv (l.1))]) (LS := fun l => l.2) (CE := fun e r => ev w d 179 26 [] [] (hT (e)) r) (fun l => tmem_clearScreen_4b w d hd _ _) ?_ (v1, s)
  intro e
  show Ew hT w d 179 26 [] [] e (Ci hT) _
  refine e_op 27 em_179 (ce_at ce_179 14 rfl) rfl rfl ?_
  exact e_reti em_179 (ce_at ce_179 15 rfl)
theorem fmem_clearScreen_4 (v1 : Int) (s : iS) : Fm Prod.snd L_mem_clearScreen G_mem_clearScreen s (mem_clearScreen_4 v1 s) := by
  unfold mem_clearScreen_4
  refine fm_lp (A := Int × iS) (E := iS) (LS := fun l => l.2) (LE := fun e => e) ?_ ?_ (v1, s)
  · exact fun l => fmem_clearScreen_4b _ _
  · exact (fun e => fm_some md_refl)
noncomputable def mem_clearScreen (s : iS) : Option (Int × iS) := mem_clearScreen_4 12288 s
theorem tmem_clearScreen (w : ev_W) (d : Nat) (hd : 0 ≤ d) (s : iS) : Ew hT w d 179 0 [(0, .ref (tb_nK + 44))] [] s (Ci hT) (mem_clearScreen s) := by
  unfold mem_clearScreen
  refine e_sip 3 em_179 (ce_at ce_179 0 rfl) (by decide) rfl ?_
  refine e_mv 4 em_179 (ce_at ce_179 1 rfl) rfl rfl ?_
  refine e_pk [0, 1] rfl rfl ?_
  exact tmem_clearScreen_4 w d hd _ _
theorem fmem_clearScreen (s : iS) : Fm Prod.snd L_mem_clearScreen G_mem_clearScreen s (mem_clearScreen s) := fmem_clearScreen_4 _ _
/-! lib_setColor -/
def L_lib_setColor : List Nat := []
def G_lib_setColor : List (Nat × Nat) := [(48, 8)]
noncomputable def lib_setColor_10 (t0 : Int) (s : iS) : Option (Int × iS) := gd (t0 = 0 ∨ t0 = 1) (lt' (up s 48 8 t0) (fun s2 => some (0, s2)))
theorem tlib_setColor_10 (w : ev_W) (d : Nat) (hd : 0 ≤ d) (t0 : Int) (s : iS) : Ew hT w d 180 10 [] [iv t0, .ref (tb_nK + 48)] s (Ci hT) (lib_setColor_10 t0 s) := by
  unfold lib_setColor_10
  refine e_gd fun g1 => ?_
  refine e_put 13 em_180 (ce_at ce_180 6 rfl) tq_48 rfl (fit_b rfl g1) rfl (fun s2 => ?_)
  refine e_op 14 em_180 (ce_at ce_180 7 rfl) rfl rfl ?_
  exact e_reti em_180 (ce_at ce_180 8 rfl)
theorem flib_setColor_10 (t0 : Int) (s : iS) : Fm Prod.snd L_lib_setColor G_lib_setColor s (lib_setColor_10 t0 s) := fm_gd (fm_lt (md_upF (mem_F rfl)) (fun s2 => fm_some md_refl))
noncomputable def lib_setColor (v1 : Int) (s : iS) : Option (Int × iS) := gd (rg v1) (if v1 = 0 then lib_setColor_10 1 s else lib_setColor_10 0 s)
theorem tlib_setColor (w : ev_W) (d : Nat) (hd : 0 ≤ d) (v1 : Int) (s : iS) : Ew hT w d 180 0 [(0, .ref (tb_nK + 48)), (1, iv v1)] [] s (Ci hT) (lib_setColor v1 s) := by
  unfold lib_setColor
  refine e_mv 1 em_180 (ce_at ce_180 0 rfl) rfl rfl ?_
  refine e_mv 2 em_180 (ce_at ce_180 1 rfl) rfl rfl ?_
  refine e_gd fun g1 => ?_
  refine e_ifne 9 5 em_180 rfl rfl (ce_at ce_180 2 rfl) g1 (fun h2 => ?_) (fun h2 => ?_)
  · refine e_op 10 em_180 (ce_at ce_180 5 rfl) rfl rfl ?_
    refine e_pk [] rfl rfl ?_
    exact tlib_setColor_10 w d hd _ _
  · refine e_op 6 em_180 (ce_at ce_180 3 rfl) rfl rfl ?_
    refine e_goto em_180 10 (ce_at ce_180 4 rfl) rfl ?_
    refine e_pk [] rfl rfl ?_
    exact tlib_setColor_10 w d hd _ _
theorem flib_setColor (v1 : Int) (s : iS) : Fm Prod.snd L_lib_setColor G_lib_setColor s (lib_setColor v1 s) := fm_gd (fm_if (flib_setColor_10 _ _) (flib_setColor_10 _ _))
/-! lib_isPoint -/
def L_lib_isPoint : List Nat := []
def G_lib_isPoint : List (Nat × Nat) := []
noncomputable def lib_isPoint (v0 : Int) (v1 : Int) (s : iS) : Option (Int × iS) := gd (rg v0) (if v0 < 0 then some (0, s) else if 64 ≤ v0 then some (0, s) else gd (rg v1) (if v1 < 0 then some (0, s) else if 32 ≤ v1 then some (0, s) else some (1, s)))
theorem tlib_isPoint (H : iS → List am_C) (w : ev_W) (d : Nat) (hd : 0 ≤ d) (v0 : Int) (v1 : Int) (s : iS) : Ew H w d 181 0 [(0, iv v0), (1, iv v1)] [] s (Ci H) (lib_isPoint v0 v1 s) := by
  unfold lib_isPoint
  refine e_mv 1 em_181 (ce_at ce_181 0 rfl) rfl rfl ?_
  refine e_gd fun g1 => ?_
  refine e_iflt 24 4 em_181 rfl rfl (ce_at ce_181 1 rfl) g1 (fun h2 => ?_) (fun h2 => ?_)
  · refine e_op 25 em_181 (ce_at ce_181 12 rfl) rfl rfl ?_
    exact e_retz em_181 (ce_at ce_181 13 rfl) (by decide)
  · refine e_mv 5 em_181 (ce_at ce_181 2 rfl) rfl rfl ?_
    refine e_bip 7 em_181 (ce_at ce_181 3 rfl) (by decide) rfl ?_
    refine e_cmge 24 10 em_181 rfl rfl (ce_at ce_181 4 rfl) g1 (by decide) (fun h3 => ?_) (fun h3 => ?_)
    · refine e_op 25 em_181 (ce_at ce_181 12 rfl) rfl rfl ?_
      exact e_retz em_181 (ce_at ce_181 13 rfl) (by decide)
    · refine e_mv 11 em_181 (ce_at ce_181 5 rfl) rfl rfl ?_
      refine e_gd fun g4 => ?_
      refine e_iflt 24 14 em_181 rfl rfl (ce_at ce_181 6 rfl) g4 (fun h5 => ?_) (fun h5 => ?_)
      · refine e_op 25 em_181 (ce_at ce_181 12 rfl) rfl rfl ?_
        exact e_retz em_181 (ce_at ce_181 13 rfl) (by decide)
      · refine e_mv 15 em_181 (ce_at ce_181 7 rfl) rfl rfl ?_
        refine e_bip 17 em_181 (ce_at ce_181 8 rfl) (by decide) rfl ?_
        refine e_cmge 24 20 em_181 rfl rfl (ce_at ce_181 9 rfl) g4 (by decide) (fun h6 => ?_) (fun h6 => ?_)
        · refine e_op 25 em_181 (ce_at ce_181 12 rfl) rfl rfl ?_
          exact e_retz em_181 (ce_at ce_181 13 rfl) (by decide)
        · refine e_op 21 em_181 (ce_at ce_181 10 rfl) rfl rfl ?_
          refine e_goto em_181 25 (ce_at ce_181 11 rfl) rfl ?_
          exact e_retz em_181 (ce_at ce_181 13 rfl) (by decide)
theorem flib_isPoint (v0 : Int) (v1 : Int) (s : iS) : Fm Prod.snd L_lib_isPoint G_lib_isPoint s (lib_isPoint v0 v1 s) := fm_gd (fm_if (fm_some md_refl) (fm_if (fm_some md_refl) (fm_gd (fm_if (fm_some md_refl) (fm_if (fm_some md_refl) (fm_some md_refl))))))
/-! mem_paint -/
def L_mem_paint : List Nat := [45]
def G_mem_paint : List (Nat × Nat) := []
noncomputable def mem_paint_63 (t0 : Int) (t1 : Int) (s : iS) : Option (Int × iS) := gd (0 ≤ t1 ∧ t1 < 12416) (lt' (up s 45 t1.toNat (i_s t0)) (fun s2 => some (0, s2)))
theorem tmem_paint_63 (w : ev_W) (d : Nat) (hd : 0 ≤ d) (t0 : Int) (t1 : Int) (s : iS) : Ew hT w d 183 63 [] [iv t0, iv t1, .ref (tb_nK + 45)] s (Ci hT) (mem_paint_63 t0 t1 s) := by
  unfold mem_paint_63
  refine e_i2s 64 em_183 rfl (ce_at ce_183 36 rfl) ?_
  refine e_gd fun g1 => ?_
  refine e_ist 65 em_183 (ce_at ce_183 37 rfl) tq_45 (by decide) g1 rfl (fun s2 => ?_)
  refine e_op 66 em_183 (ce_at ce_183 38 rfl) rfl rfl ?_
  exact e_reti em_183 (ce_at ce_183 39 rfl)
theorem fmem_paint_63 (t0 : Int) (t1 : Int) (s : iS) : Fm Prod.snd L_mem_paint G_mem_paint s (mem_paint_63 t0 t1 s) := fm_gd (fm_lt (md_upL (mem_L rfl)) (fun s2 => fm_some md_refl))
noncomputable def mem_paint (v1 : Int) (v2 : Int) (v3 : Int) (v4 : Int) (s : iS) : Option (Int × iS) := gd (rg ((12288 + (4 * v1)) + v2)) (if ((12288 + (4 * v1)) + v2) < 12288 then some (0, s) else if 12416 ≤ ((12288 + (4 * v1)) + v2) then some (0, s) else gd (rg v4) (if v4 = 0 then gd (0 ≤ ((12288 + (4 * v1)) + v2) ∧ ((12288 + (4 * v1)) + v2) < 12416) (mem_paint_63 (i_or (s 45 ((12288 + (4 * v1)) + v2).toNat) v3) ((12288 + (4 * v1)) + v2) s) else gd (0 ≤ ((12288 + (4 * v1)) + v2) ∧ ((12288 + (4 * v1)) + v2) < 12416) (mem_paint_63 (i_and (s 45 ((12288 + (4 * v1)) + v2).toNat) (i_xor v3 (-1))) ((12288 + (4 * v1)) + v2) s)))
theorem tmem_paint (w : ev_W) (d : Nat) (hd : 0 ≤ d) (v1 : Int) (v2 : Int) (v3 : Int) (v4 : Int) (s : iS) : Ew hT w d 183 0 [(0, .ref (tb_nK + 44)), (1, iv v1), (2, iv v2), (3, iv v3), (4, iv v4)] [] s (Ci hT) (mem_paint v1 v2 v3 v4 s) := by
  unfold mem_paint
  refine e_sip 3 em_183 (ce_at ce_183 0 rfl) (by decide) rfl ?_
  refine e_op 4 em_183 (ce_at ce_183 1 rfl) rfl rfl ?_
  refine e_mv 5 em_183 (ce_at ce_183 2 rfl) rfl rfl ?_
  refine e_imul 6 em_183 rfl (ce_at ce_183 3 rfl) ?_
  refine e_iadd 7 em_183 rfl (ce_at ce_183 4 rfl) ?_
  refine e_mv 8 em_183 (ce_at ce_183 5 rfl) rfl rfl ?_
  refine e_iadd 9 em_183 rfl (ce_at ce_183 6 rfl) ?_
  refine e_mv 11 em_183 (ce_at ce_183 7 rfl) rfl rfl ?_
  refine e_mv 13 em_183 (ce_at ce_183 8 rfl) rfl rfl ?_
  refine e_sip 16 em_183 (ce_at ce_183 9 rfl) (by decide) rfl ?_
  refine e_gd fun g1 => ?_
  refine e_cmlt 65 19 em_183 rfl rfl (ce_at ce_183 10 rfl) g1 (by decide) (fun h2 => ?_) (fun h2 => ?_)
  · refine e_op 66 em_183 (ce_at ce_183 38 rfl) rfl rfl ?_
    exact e_reti em_183 (ce_at ce_183 39 rfl)
  · refine e_mv 21 em_183 (ce_at ce_183 11 rfl) rfl rfl ?_
    refine e_mv 22 em_183 (ce_at ce_183 12 rfl) rfl rfl ?_
    refine e_getr 25 em_183 (ce_at ce_183 13 rfl) tq_44 rfl rfl ?_
    refine e_alen 26 em_183 (ce_at ce_183 14 rfl) tq_45 (by decide) rfl rfl ?_
    refine e_cmge 65 29 em_183 rfl rfl (ce_at ce_183 15 rfl) g1 (by decide) (fun h3 => ?_) (fun h3 => ?_)
    · refine e_op 66 em_183 (ce_at ce_183 38 rfl) rfl rfl ?_
      exact e_reti em_183 (ce_at ce_183 39 rfl)
    · refine e_mv 30 em_183 (ce_at ce_183 16 rfl) rfl rfl ?_
      refine e_getr 33 em_183 (ce_at ce_183 17 rfl) tq_44 rfl rfl ?_
      refine e_mv 35 em_183 (ce_at ce_183 18 rfl) rfl rfl ?_
      refine e_mv 37 em_183 (ce_at ce_183 19 rfl) rfl rfl ?_
      refine e_gd fun g4 => ?_
      refine e_ifeq 54 40 em_183 rfl rfl (ce_at ce_183 20 rfl) g4 (fun h5 => ?_) (fun h5 => ?_)
      · refine e_mv 55 em_183 (ce_at ce_183 30 rfl) rfl rfl ?_
        refine e_getr 58 em_183 (ce_at ce_183 31 rfl) tq_44 rfl rfl ?_
        refine e_mv 60 em_183 (ce_at ce_183 32 rfl) rfl rfl ?_
        refine e_gd fun g6 => ?_
        refine e_ild 61 em_183 (ce_at ce_183 33 rfl) tq_45 (by decide) g6 rfl ?_
        refine e_mv 62 em_183 (ce_at ce_183 34 rfl) rfl rfl ?_
        refine e_ior 63 em_183 rfl (ce_at ce_183 35 rfl) ?_
        refine e_pk [] rfl rfl ?_
        exact tmem_paint_63 w d hd _ _ _
      · refine e_mv 41 em_183 (ce_at ce_183 21 rfl) rfl rfl ?_
        refine e_getr 44 em_183 (ce_at ce_183 22 rfl) tq_44 rfl rfl ?_
        refine e_mv 46 em_183 (ce_at ce_183 23 rfl) rfl rfl ?_
        refine e_gd fun g7 => ?_
        refine e_ild 47 em_183 (ce_at ce_183 24 rfl) tq_45 (by decide) g7 rfl ?_
        refine e_mv 48 em_183 (ce_at ce_183 25 rfl) rfl rfl ?_
        refine e_op 49 em_183 (ce_at ce_183 26 rfl) rfl rfl ?_
        refine e_ixor 50 em_183 rfl (ce_at ce_183 27 rfl) ?_
        refine e_iand 51 em_183 rfl (ce_at ce_183 28 rfl) ?_
        refine e_goto em_183 63 (ce_at ce_183 29 rfl) rfl ?_
        refine e_pk [] rfl rfl ?_
        exact tmem_paint_63 w d hd _ _ _
theorem fmem_paint (v1 : Int) (v2 : Int) (v3 : Int) (v4 : Int) (s : iS) : Fm Prod.snd L_mem_paint G_mem_paint s (mem_paint v1 v2 v3 v4 s) := fm_gd (fm_if (fm_some md_refl) (fm_if (fm_some md_refl) (fm_gd (fm_if (fm_gd (fmem_paint_63 _ _ _)) (fm_gd (fmem_paint_63 _ _ _))))))
/-! lib_drawPoint -/
def L_lib_drawPoint : List Nat := [45]
def G_lib_drawPoint : List (Nat × Nat) := []
noncomputable def lib_drawPoint (v1 : Int) (v2 : Int) (s : iS) : Option (Int × iS) := gd (rg v1) (bd (mem_paint v2 (v1.tdiv 16) (i_shl 1 (v1.tmod 16)) (s 48 8) s) (fun r2 s2 => some (r2, s2)))
theorem tlib_drawPoint (w : ev_W) (d : Nat) (hd : 1 ≤ d) (v1 : Int) (v2 : Int) (s : iS) : Ew hT w d 182 0 [(0, .ref (tb_nK + 48)), (1, iv v1), (2, iv v2)] [] s (Ci hT) (lib_drawPoint v1 v2 s) := by
  unfold lib_drawPoint
  refine e_mv 1 em_182 (ce_at ce_182 0 rfl) rfl rfl ?_
  refine e_getr 4 em_182 (ce_at ce_182 1 rfl) tq_48 rfl rfl ?_
  refine e_mv 5 em_182 (ce_at ce_182 2 rfl) rfl rfl ?_
  refine e_mv 6 em_182 (ce_at ce_182 3 rfl) rfl rfl ?_
  refine e_bip 8 em_182 (ce_at ce_182 4 rfl) (by decide) rfl ?_
  refine e_gd fun g1 => ?_
  refine e_idiv 9 em_182 rfl (ce_at ce_182 5 rfl) g1 (by decide) (by decide) ?_
  refine e_op 10 em_182 (ce_at ce_182 6 rfl) rfl rfl ?_
  refine e_mv 11 em_182 (ce_at ce_182 7 rfl) rfl rfl ?_
  refine e_bip 13 em_182 (ce_at ce_182 8 rfl) (by decide) rfl ?_
  refine e_irem 14 em_182 rfl (ce_at ce_182 9 rfl) g1 (by decide) (by decide) ?_
  refine e_ishl 15 em_182 rfl (ce_at ce_182 10 rfl) ?_
  refine e_mv 16 em_182 (ce_at ce_182 11 rfl) rfl rfl ?_
  refine e_get 19 em_182 (ce_at ce_182 12 rfl) tq_48 rfl rfl ?_
  refine e_ivi 22 em_182 (ce_at ce_182 13 rfl) (by omega) (iv_v4 (by decide) tq_44 rfl) em_183 (Nat.le_of_ble_eq_true rfl) rfl (tmem_paint w (d - 1) (by omega) _ _ _ _ _) (fun r2 s2 => ?_)
  exact e_reti em_182 (ce_at ce_182 14 rfl)
theorem flib_drawPoint (v1 : Int) (v2 : Int) (s : iS) : Fm Prod.snd L_lib_drawPoint G_lib_drawPoint s (lib_drawPoint v1 v2 s) := fm_gd (fm_bd (fm_sub (fmem_paint _ _ _ _ _) (mem_sub_L rfl) (mem_sub_F rfl)) (fun r2 s2 => fm_some md_refl))
/-! lib_drawLine -/
def L_lib_drawLine : List Nat := [45]
def G_lib_drawLine : List (Nat × Nat) := [(44, 5), (44, 6)]
noncomputable def lib_drawLine_17 (s : iS) : Option (Int × iS) := bd (mem_fail 8 s) (fun r1 s1 => some (r1, s1))
theorem tlib_drawLine_17 (w : ev_W) (d : Nat) (hd : 2 ≤ d) (s : iS) : Ew hT w d 184 17 [(0, .ref (tb_nK + 48))] [] s (Ci hT) (lib_drawLine_17 s) := by
  unfold lib_drawLine_17
  refine e_mv 18 em_184 (ce_at ce_184 8 rfl) rfl rfl ?_
  refine e_getr 21 em_184 (ce_at ce_184 9 rfl) tq_48 rfl rfl ?_
  refine e_bip 23 em_184 (ce_at ce_184 10 rfl) (by decide) rfl ?_
  refine e_ivi 26 em_184 (ce_at ce_184 11 rfl) (by omega) (iv_v1 (by decide) tq_44 rfl) em_152 (Nat.le_of_ble_eq_true rfl) rfl (tmem_fail w (d - 1) (by omega) _ _) (fun r1 s1 => ?_)
  exact e_reti em_184 (ce_at ce_184 12 rfl)
theorem flib_drawLine_17 (s : iS) : Fm Prod.snd L_lib_drawLine G_lib_drawLine s (lib_drawLine_17 s) := fm_bd (fm_sub (fmem_fail _ _) (mem_sub_L rfl) (mem_sub_F rfl)) (fun r1 s1 => fm_some md_refl)
def lib_drawLine_65C (w : ev_W) (d : Nat) (v1 : Int) (v2 : Int) (v3 : Int) (v4 : Int) (v5 : Int) (v6 : Int) : (Int × Int × Int × Int × iS) ⊕ (iS) → am_E → Prop := fun q r => q.elim (fun l => ev w d 184 65 ((fun l => [(0, .ref (tb_nK + 48)), (1, iv v1), (2, iv v2), (3, iv v3), (4, iv v4), (5, iv v5), (6, iv v6), (7, iv (l.1)), (8, iv (l.2.1)), (9, iv (l.2.2.1)), (10, iv (l.2.2.2.1))]) l) [] (hT ((fun l => l.2.2.2.2) l)) r) (fun e => (fun e r => ev w d 184 161 [] [] (hT (e)) r) e r)
noncomputable def lib_drawLine_123 (v1 : Int) (v2 : Int) (v3 : Int) (v4 : Int) (v5 : Int) (v6 : Int) (v7 : Int) (v8 : Int) (v9 : Int) (v10 : Int) (t0 : Int) (t1 : Int) (s : iS) : Option ((Int × Int × Int × Int × iS) ⊕ (iS)) := bd (lib_drawPoint t1 t0 s) (fun r1 s1 => gd (rg v9) (if 0 ≤ v9 then some (.inl (v7, (v8 + 1), (v9 - v5), (v10 + 1), s1)) else some (.inl ((v7 + 1), v8, (v9 + v6), (v10 + 1), s1))))
theorem tlib_drawLine_123 (w : ev_W) (d : Nat) (hd : 2 ≤ d) (v1 : Int) (v2 : Int) (v3 : Int) (v4 : Int) (v5 : Int) (v6 : Int) (v7 : Int) (v8 : Int) (v9 : Int) (v10 : Int) (t0 : Int) (t1 : Int) (s : iS) : Ew hT w d 184 123 [(0, .ref (tb_nK + 48)), (1, iv v1), (2, iv v2), (3, iv v3), (4, iv v4), (5, iv v5), (6, iv v6), (7, iv v7), (8, iv v8), (9, iv v9), (10, iv v10)] [iv t0, iv t1, .ref (tb_nK + 48)] s (lib_drawLine_65C w d v1 v2 v3 v4 v5 v6) (lib_drawLine_123 v1 v2 v3 v4 v5 v6 v7 v8 v9 v10 t0 t1 s) := by
  unfold lib_drawLine_123
  refine e_ivi 126 em_184 (ce_at ce_184 67 rfl) (by omega) (iv_v2 (by decide) tq_48 rfl) em_182 (Nat.le_of_ble_eq_true rfl) rfl (tlib_drawPoint w (d - 1) (by omega) _ _ _) (fun r1 s1 => ?_)
  refine e_op 127 em_184 (ce_at ce_184 68 rfl) rfl rfl ?_
  refine e_mv 129 em_184 (ce_at ce_184 69 rfl) rfl rfl ?_
  refine e_gd fun g2 => ?_
  refine e_ifge 145 132 em_184 rfl rfl (ce_at ce_184 70 rfl) g2 (fun h3 => ?_) (fun h3 => ?_)
  · refine e_iinc 148 em_184 (ce_at ce_184 77 rfl) rfl (by decide) rfl ?_
    refine e_mv 150 em_184 (ce_at ce_184 78 rfl) rfl rfl ?_
    refine e_mv 152 em_184 (ce_at ce_184 79 rfl) rfl rfl ?_
    refine e_isub 153 em_184 rfl (ce_at ce_184 80 rfl) ?_
    refine e_mv 155 em_184 (ce_at ce_184 81 rfl) rfl rfl ?_
    refine e_iinc 158 em_184 (ce_at ce_184 82 rfl) rfl (by decide) rfl ?_
    refine e_goto em_184 65 (ce_at ce_184 83 rfl) rfl ?_
    refine e_pk [0, 1, 2, 3, 4, 5, 6, 7, 8, 9, 10] rfl rfl ?_
    exact e_out (fun r h => h)
  · refine e_iinc 135 em_184 (ce_at ce_184 71 rfl) rfl (by decide) rfl ?_
    refine e_mv 137 em_184 (ce_at ce_184 72 rfl) rfl rfl ?_
    refine e_mv 139 em_184 (ce_at ce_184 73 rfl) rfl rfl ?_
    refine e_iadd 140 em_184 rfl (ce_at ce_184 74 rfl) ?_
    refine e_mv 142 em_184 (ce_at ce_184 75 rfl) rfl rfl ?_
    refine e_goto em_184 155 (ce_at ce_184 76 rfl) rfl ?_
    refine e_iinc 158 em_184 (ce_at ce_184 82 rfl) rfl (by decide) rfl ?_
    refine e_goto em_184 65 (ce_at ce_184 83 rfl) rfl ?_
    refine e_pk [0, 1, 2, 3, 4, 5, 6, 7, 8, 9, 10] rfl rfl ?_
    exact e_out (fun r h => h)
theorem flib_drawLine_123 (v1 : Int) (v2 : Int) (v3 : Int) (v4 : Int) (v5 : Int) (v6 : Int) (v7 : Int) (v8 : Int) (v9 : Int) (v10 : Int) (t0 : Int) (t1 : Int) (s : iS) : Fm (fun r : (Int × Int × Int × Int × iS) ⊕ (iS) => r.elim (fun l => l.2.2.2.2) (fun e => e)) L_lib_drawLine G_lib_drawLine s (lib_drawLine_123 v1 v2 v3 v4 v5 v6 v7 v8 v9 v10 t0 t1 s) := fm_bd (fm_sub (flib_drawPoint _ _ _) (mem_sub_L rfl) (mem_sub_F rfl)) (fun r1 s1 => fm_gd (fm_if (fm_some md_refl) (fm_some md_refl)))
noncomputable def lib_drawLine_106 (v1 : Int) (v2 : Int) (v3 : Int) (v4 : Int) (v5 : Int) (v6 : Int) (v7 : Int) (v8 : Int) (v9 : Int) (v10 : Int) (t0 : Int) (s : iS) : Option ((Int × Int × Int × Int × iS) ⊕ (iS)) := gd (rg v4) (gd (rg v2) (if v2 ≤ v4 then lib_drawLine_123 v1 v2 v3 v4 v5 v6 v7 v8 v9 v10 (v2 + v8) t0 s else lib_drawLine_123 v1 v2 v3 v4 v5 v6 v7 v8 v9 v10 (v2 - v8) t0 s))
theorem tlib_drawLine_106 (w : ev_W) (d : Nat) (hd : 2 ≤ d) (v1 : Int) (v2 : Int) (v3 : Int) (v4 : Int) (v5 : Int) (v6 : Int) (v7 : Int) (v8 : Int) (v9 : Int) (v10 : Int) (t0 : Int) (s : iS) : Ew hT w d 184 106 [(0, .ref (tb_nK + 48)), (1, iv v1), (2, iv v2), (3, iv v3), (4, iv v4), (5, iv v5), (6, iv v6), (7, iv v7), (8, iv v8), (9, iv v9), (10, iv v10)] [iv t0, .ref (tb_nK + 48)] s (lib_drawLine_65C w d v1 v2 v3 v4 v5 v6) (lib_drawLine_106 v1 v2 v3 v4 v5 v6 v7 v8 v9 v10 t0 s) := by
  unfold lib_drawLine_106
  refine e_mv 108 em_184 (ce_at ce_184 57 rfl) rfl rfl ?_
  refine e_mv 109 em_184 (ce_at ce_184 58 rfl) rfl rfl ?_
  refine e_gd fun g1 => ?_
  refine e_gd fun g2 => ?_
  refine e_cmge 119 112 em_184 rfl rfl (ce_at ce_184 59 rfl) g1 g2 (fun h3 => ?_) (fun h3 => ?_)
  · refine e_mv 120 em_184 (ce_at ce_184 64 rfl) rfl rfl ?_
    refine e_mv 122 em_184 (ce_at ce_184 65 rfl) rfl rfl ?_
    refine e_iadd 123 em_184 rfl (ce_at ce_184 66 rfl) ?_
    refine e_pk [0, 1, 2, 3, 4, 5, 6, 7, 8, 9, 10] rfl rfl ?_
    exact tlib_drawLine_123 w d hd _ _ _ _ _ _ _ _ _ _ _ _ _
  · refine e_mv 113 em_184 (ce_at ce_184 60 rfl) rfl rfl ?_
    refine e_mv 115 em_184 (ce_at ce_184 61 rfl) rfl rfl ?_
    refine e_isub 116 em_184 rfl (ce_at ce_184 62 rfl) ?_
    refine e_goto em_184 123 (ce_at ce_184 63 rfl) rfl ?_
    refine e_pk [0, 1, 2, 3, 4, 5, 6, 7, 8, 9, 10] rfl rfl ?_
    exact tlib_drawLine_123 w d hd _ _ _ _ _ _ _ _ _ _ _ _ _
theorem flib_drawLine_106 (v1 : Int) (v2 : Int) (v3 : Int) (v4 : Int) (v5 : Int) (v6 : Int) (v7 : Int) (v8 : Int) (v9 : Int) (v10 : Int) (t0 : Int) (s : iS) : Fm (fun r : (Int × Int × Int × Int × iS) ⊕ (iS) => r.elim (fun l => l.2.2.2.2) (fun e => e)) L_lib_drawLine G_lib_drawLine s (lib_drawLine_106 v1 v2 v3 v4 v5 v6 v7 v8 v9 v10 t0 s) := fm_gd (fm_gd (fm_if (flib_drawLine_123 _ _ _ _ _ _ _ _ _ _ _ _ _) (flib_drawLine_123 _ _ _ _ _ _ _ _ _ _ _ _ _)))
noncomputable def lib_drawLine_65b (v1 : Int) (v2 : Int) (v3 : Int) (v4 : Int) (v5 : Int) (v6 : Int) (v7 : Int) (v8 : Int) (v9 : Int) (v10 : Int) (s : iS) : Option ((Int × Int × Int × Int × iS) ⊕ (iS)) := gd (rg v10) (gd (rg (v5 + v6)) (if (v5 + v6) < v10 then some (.inr s) else gd (rg v7) (gd (rg v5) (if v5 < v7 then some (.inr s) else gd (rg v8) (gd (rg v6) (if v6 < v8 then some (.inr s) else gd (rg v3) (gd (rg v1) (if v1 ≤ v3 then lib_drawLine_106 v1 v2 v3 v4 v5 v6 v7 v8 v9 v10 (v1 + v7) s else lib_drawLine_106 v1 v2 v3 v4 v5 v6 v7 v8 v9 v10 (v1 - v7) s))))))))
theorem tlib_drawLine_65b (w : ev_W) (d : Nat) (hd : 2 ≤ d) (v1 : Int) (v2 : Int) (v3 : Int) (v4 : Int) (v5 : Int) (v6 : Int) (v7 : Int) (v8 : Int) (v9 : Int) (v10 : Int) (s : iS) : Ew hT w d 184 65 [(0, .ref (tb_nK + 48)), (1, iv v1), (2, iv v2), (3, iv v3), (4, iv v4), (5, iv v5), (6, iv v6), (7, iv v7), (8, iv v8), (9, iv v9), (10, iv v10)] [] s (lib_drawLine_65C w d v1 v2 v3 v4 v5 v6) (lib_drawLine_65b v1 v2 v3 v4 v5 v6 v7 v8 v9 v10 s) := by
  unfold lib_drawLine_65b
  refine e_mv 67 em_184 (ce_at ce_184 35 rfl) rfl rfl ?_
  refine e_mv 69 em_184 (ce_at ce_184 36 rfl) rfl rfl ?_
  refine e_mv 71 em_184 (ce_at ce_184 37 rfl) rfl rfl ?_
  refine e_iadd 72 em_184 rfl (ce_at ce_184 38 rfl) ?_
  refine e_gd fun g1 => ?_
  refine e_gd fun g2 => ?_
  refine e_cmgt 161 75 em_184 rfl rfl (ce_at ce_184 39 rfl) g1 g2 (fun h3 => ?_) (fun h3 => ?_)
  · refine e_pk [] rfl rfl ?_
    exact e_out (fun r h => h)
  · refine e_mv 77 em_184 (ce_at ce_184 40 rfl) rfl rfl ?_
    refine e_mv 79 em_184 (ce_at ce_184 41 rfl) rfl rfl ?_
    refine e_gd fun g4 => ?_
    refine e_gd fun g5 => ?_
    refine e_cmgt 161 82 em_184 rfl rfl (ce_at ce_184 42 rfl) g4 g5 (fun h6 => ?_) (fun h6 => ?_)
    · refine e_pk [] rfl rfl ?_
      exact e_out (fun r h => h)
    · refine e_mv 84 em_184 (ce_at ce_184 43 rfl) rfl rfl ?_
      refine e_mv 86 em_184 (ce_at ce_184 44 rfl) rfl rfl ?_
      refine e_gd fun g7 => ?_
      refine e_gd fun g8 => ?_
      refine e_cmgt 161 89 em_184 rfl rfl (ce_at ce_184 45 rfl) g7 g8 (fun h9 => ?_) (fun h9 => ?_)
      · refine e_pk [] rfl rfl ?_
        exact e_out (fun r h => h)
      · refine e_mv 90 em_184 (ce_at ce_184 46 rfl) rfl rfl ?_
        refine e_mv 91 em_184 (ce_at ce_184 47 rfl) rfl rfl ?_
        refine e_mv 92 em_184 (ce_at ce_184 48 rfl) rfl rfl ?_
        refine e_gd fun g10 => ?_
        refine e_gd fun g11 => ?_
        refine e_cmge 102 95 em_184 rfl rfl (ce_at ce_184 49 rfl) g10 g11 (fun h12 => ?_) (fun h12 => ?_)
        · refine e_mv 103 em_184 (ce_at ce_184 54 rfl) rfl rfl ?_
          refine e_mv 105 em_184 (ce_at ce_184 55 rfl) rfl rfl ?_
          refine e_iadd 106 em_184 rfl (ce_at ce_184 56 rfl) ?_
          refine e_pk [0, 1, 2, 3, 4, 5, 6, 7, 8, 9, 10] rfl rfl ?_
          exact tlib_drawLine_106 w d hd _ _ _ _ _ _ _ _ _ _ _ _
        · refine e_mv 96 em_184 (ce_at ce_184 50 rfl) rfl rfl ?_
          refine e_mv 98 em_184 (ce_at ce_184 51 rfl) rfl rfl ?_
          refine e_isub 99 em_184 rfl (ce_at ce_184 52 rfl) ?_
          refine e_goto em_184 106 (ce_at ce_184 53 rfl) rfl ?_
          refine e_pk [0, 1, 2, 3, 4, 5, 6, 7, 8, 9, 10] rfl rfl ?_
          exact tlib_drawLine_106 w d hd _ _ _ _ _ _ _ _ _ _ _ _
theorem flib_drawLine_65b (v1 : Int) (v2 : Int) (v3 : Int) (v4 : Int) (v5 : Int) (v6 : Int) (v7 : Int) (v8 : Int) (v9 : Int) (v10 : Int) (s : iS) : Fm (fun r : (Int × Int × Int × Int × iS) ⊕ (iS) => r.elim (fun l => l.2.2.2.2) (fun e => e)) L_lib_drawLine G_lib_drawLine s (lib_drawLine_65b v1 v2 v3 v4 v5 v6 v7 v8 v9 v10 s) := fm_gd (fm_gd (fm_if (fm_some md_refl) (fm_gd (fm_gd (fm_if (fm_some md_refl) (fm_gd (fm_gd (fm_if (fm_some md_refl) (fm_gd (fm_gd (fm_if (flib_drawLine_106 _ _ _ _ _ _ _ _ _ _ _ _) (flib_drawLine_106 _ _ _ _ _ _ _ _ _ _ _ _))))))))))))
noncomputable def lib_drawLine_65 (v1 : Int) (v2 : Int) (v3 : Int) (v4 : Int) (v5 : Int) (v6 : Int) (v7 : Int) (v8 : Int) (v9 : Int) (v10 : Int) (s : iS) : Option (Int × iS) := (lp (L := Int × Int × Int × Int × iS) (E := iS) (fun l => lib_drawLine_65b v1 v2 v3 v4 v5 v6 (l.1) (l.2.1) (l.2.2.1) (l.2.2.2.1) (l.2.2.2.2)) (v7, v8, v9, v10, s)).bind (fun e => some (0, e))
theorem tlib_drawLine_65 (w : ev_W) (d : Nat) (hd : 2 ≤ d) (v1 : Int) (v2 : Int) (v3 : Int) (v4 : Int) (v5 : Int) (v6 : Int) (v7 : Int) (v8 : Int) (v9 : Int) (v10 : Int) (s : iS) : Ew hT w d 184 65 [(0, .ref (tb_nK + 48)), (1, iv v1), (2, iv v2), (3, iv v3), (4, iv v4), (5, iv v5), (6, iv v6), (7, iv v7), (8, iv v8), (9, iv v9), (10, iv v10)] [] s (Ci hT) (lib_drawLine_65 v1 v2 v3 v4 v5 v6 v7 v8 v9 v10 s) := by
  unfold lib_drawLine_65
  refine e_lp (L := Int × Int × Int × Int × iS) (E := iS) (LO := fun l => [(0, .ref (tb_nK + 48)), (1, iv v1), (2, iv v2), (3, iv v3), (4, iv v4), (5, iv v5), (6, iv v6), (7, iv (l.1)), (8, iv (l.2.1)), (9, iv (l.2.2.1)), (10, iv (l.2.2.2.1))]) (LS := fun l => l.2.2.2.2) (CE := fun e r => ev w d 184 161 [] [] (hT (e)) r) (fun l => tlib_drawLine_65b w d hd _ _ _ _ _ _ _ _ _ _ _) ?_ (v7, v8, v9, v10, s)
  intro e
  show Ew hT w d 184 161 [] [] e (Ci hT) _
  refine e_op 162 em_184 (ce_at ce_184 84 rfl) rfl rfl ?_
  exact e_reti em_184 (ce_at ce_184 85 rfl)
theorem flib_drawLine_65 (v1 : Int) (v2 : Int) (v3 : Int) (v4 : Int) (v5 : Int) (v6 : Int) (v7 : Int) (v8 : Int) (v9 : Int) (v10 : Int) (s : iS) : Fm Prod.snd L_lib_drawLine G_lib_drawLine s (lib_drawLine_65 v1 v2 v3 v4 v5 v6 v7 v8 v9 v10 s) := by
  unfold lib_drawLine_65
  refine fm_lp (A := Int × Int × Int × Int × iS) (E := iS) (LS := fun l => l.2.2.2.2) (LE := fun e => e) ?_ ?_ (v7, v8, v9, v10, s)
  · exact fun l => flib_drawLine_65b _ _ _ _ _ _ _ _ _ _ _
  · exact (fun e => fm_some md_refl)
noncomputable def lib_drawLine_60 (v1 : Int) (v2 : Int) (v3 : Int) (v4 : Int) (v5 : Int) (v6 : Int) (v7 : Int) (v8 : Int) (t0 : Int) (s : iS) : Option (Int × iS) := lib_drawLine_65 v1 v2 v3 v4 v5 v6 v7 v8 t0 0 s
theorem tlib_drawLine_60 (w : ev_W) (d : Nat) (hd : 2 ≤ d) (v1 : Int) (v2 : Int) (v3 : Int) (v4 : Int) (v5 : Int) (v6 : Int) (v7 : Int) (v8 : Int) (t0 : Int) (s : iS) : Ew hT w d 184 60 [(0, .ref (tb_nK + 48)), (1, iv v1), (2, iv v2), (3, iv v3), (4, iv v4), (5, iv v5), (6, iv v6), (7, iv v7), (8, iv v8)] [iv t0] s (Ci hT) (lib_drawLine_60 v1 v2 v3 v4 v5 v6 v7 v8 t0 s) := by
  unfold lib_drawLine_60
  refine e_mv 62 em_184 (ce_at ce_184 32 rfl) rfl rfl ?_
  refine e_op 63 em_184 (ce_at ce_184 33 rfl) rfl rfl ?_
  refine e_mv 65 em_184 (ce_at ce_184 34 rfl) rfl rfl ?_
  refine e_pk [0, 1, 2, 3, 4, 5, 6, 7, 8, 9, 10] rfl rfl ?_
  exact tlib_drawLine_65 w d hd _ _ _ _ _ _ _ _ _ _ _
theorem flib_drawLine_60 (v1 : Int) (v2 : Int) (v3 : Int) (v4 : Int) (v5 : Int) (v6 : Int) (v7 : Int) (v8 : Int) (t0 : Int) (s : iS) : Fm Prod.snd L_lib_drawLine G_lib_drawLine s (lib_drawLine_60 v1 v2 v3 v4 v5 v6 v7 v8 t0 s) := flib_drawLine_65 _ _ _ _ _ _ _ _ _ _ _
noncomputable def lib_drawLine (v1 : Int) (v2 : Int) (v3 : Int) (v4 : Int) (s : iS) : Option (Int × iS) := bd (lib_isPoint v1 v2 s) (fun r1 s1 => gd (rg r1) (if r1 = 0 then lib_drawLine_17 s1 else bd (lib_isPoint v3 v4 s1) (fun r4 s4 => gd (rg r4) (if r4 = 0 then lib_drawLine_17 s4 else bd (mth_abs (v3 - v1) s4) (fun r7 s7 => bd (mth_abs (v4 - v2) s7) (fun r8 s8 => gd (rg r8) (if r8 = 0 then lib_drawLine_60 v1 v2 v3 v4 r7 r8 0 0 (-1) s8 else lib_drawLine_60 v1 v2 v3 v4 r7 r8 0 0 0 s8)))))))
theorem tlib_drawLine (w : ev_W) (d : Nat) (hd : 2 ≤ d) (v1 : Int) (v2 : Int) (v3 : Int) (v4 : Int) (s : iS) : Ew hT w d 184 0 [(0, .ref (tb_nK + 48)), (1, iv v1), (2, iv v2), (3, iv v3), (4, iv v4)] [] s (Ci hT) (lib_drawLine v1 v2 v3 v4 s) := by
  unfold lib_drawLine
  refine e_mv 1 em_184 (ce_at ce_184 0 rfl) rfl rfl ?_
  refine e_mv 2 em_184 (ce_at ce_184 1 rfl) rfl rfl ?_
  refine e_ivi 5 em_184 (ce_at ce_184 2 rfl) (by omega) (iv_s2 rfl) em_181 (Nat.le_of_ble_eq_true rfl) rfl (tlib_isPoint hT w (d - 1) (by omega) _ _ _) (fun r1 s1 => ?_)
  refine e_gd fun g2 => ?_
  refine e_ifeq 17 8 em_184 rfl rfl (ce_at ce_184 3 rfl) g2 (fun h3 => ?_) (fun h3 => ?_)
  · refine e_pk [0] rfl rfl ?_
    exact tlib_drawLine_17 w d hd _
  · refine e_mv 9 em_184 (ce_at ce_184 4 rfl) rfl rfl ?_
    refine e_mv 11 em_184 (ce_at ce_184 5 rfl) rfl rfl ?_
    refine e_ivi 14 em_184 (ce_at ce_184 6 rfl) (by omega) (iv_s2 rfl) em_181 (Nat.le_of_ble_eq_true rfl) rfl (tlib_isPoint hT w (d - 1) (by omega) _ _ _) (fun r4 s4 => ?_)
    refine e_gd fun g5 => ?_
    refine e_ifne 27 17 em_184 rfl rfl (ce_at ce_184 7 rfl) g5 (fun h6 => ?_) (fun h6 => ?_)
    · refine e_mv 28 em_184 (ce_at ce_184 13 rfl) rfl rfl ?_
      refine e_mv 29 em_184 (ce_at ce_184 14 rfl) rfl rfl ?_
      refine e_isub 30 em_184 rfl (ce_at ce_184 15 rfl) ?_
      refine e_ivi 33 em_184 (ce_at ce_184 16 rfl) (by omega) (iv_s1 rfl) em_160 (Nat.le_of_ble_eq_true rfl) rfl (tmth_abs hT w (d - 1) (by omega) _ _) (fun r7 s7 => ?_)
      refine e_mv 35 em_184 (ce_at ce_184 17 rfl) rfl rfl ?_
      refine e_mv 37 em_184 (ce_at ce_184 18 rfl) rfl rfl ?_
      refine e_mv 38 em_184 (ce_at ce_184 19 rfl) rfl rfl ?_
      refine e_isub 39 em_184 rfl (ce_at ce_184 20 rfl) ?_
      refine e_ivi 42 em_184 (ce_at ce_184 21 rfl) (by omega) (iv_s1 rfl) em_160 (Nat.le_of_ble_eq_true rfl) rfl (tmth_abs hT w (d - 1) (by omega) _ _) (fun r8 s8 => ?_)
      refine e_mv 44 em_184 (ce_at ce_184 22 rfl) rfl rfl ?_
      refine e_op 45 em_184 (ce_at ce_184 23 rfl) rfl rfl ?_
      refine e_mv 47 em_184 (ce_at ce_184 24 rfl) rfl rfl ?_
      refine e_op 48 em_184 (ce_at ce_184 25 rfl) rfl rfl ?_
      refine e_mv 50 em_184 (ce_at ce_184 26 rfl) rfl rfl ?_
      refine e_mv 52 em_184 (ce_at ce_184 27 rfl) rfl rfl ?_
      refine e_gd fun g9 => ?_
      refine e_ifne 59 55 em_184 rfl rfl (ce_at ce_184 28 rfl) g9 (fun h10 => ?_) (fun h10 => ?_)
      · refine e_op 60 em_184 (ce_at ce_184 31 rfl) rfl rfl ?_
        refine e_pk [0, 1, 2, 3, 4, 5, 6, 7, 8] rfl rfl ?_
        exact tlib_drawLine_60 w d hd _ _ _ _ _ _ _ _ _ _
      · refine e_op 56 em_184 (ce_at ce_184 29 rfl) rfl rfl ?_
        refine e_goto em_184 60 (ce_at ce_184 30 rfl) rfl ?_
        refine e_pk [0, 1, 2, 3, 4, 5, 6, 7, 8] rfl rfl ?_
        exact tlib_drawLine_60 w d hd _ _ _ _ _ _ _ _ _ _
    · refine e_pk [0] rfl rfl ?_
      exact tlib_drawLine_17 w d hd _
theorem flib_drawLine (v1 : Int) (v2 : Int) (v3 : Int) (v4 : Int) (s : iS) : Fm Prod.snd L_lib_drawLine G_lib_drawLine s (lib_drawLine v1 v2 v3 v4 s) := fm_bd (fm_sub (flib_isPoint _ _ _) (mem_sub_L rfl) (mem_sub_F rfl)) (fun r1 s1 => fm_gd (fm_if (flib_drawLine_17 _) (fm_bd (fm_sub (flib_isPoint _ _ _) (mem_sub_L rfl) (mem_sub_F rfl)) (fun r4 s4 => fm_gd (fm_if (flib_drawLine_17 _) (fm_bd (fm_sub (fmth_abs _ _) (mem_sub_L rfl) (mem_sub_F rfl)) (fun r7 s7 => fm_bd (fm_sub (fmth_abs _ _) (mem_sub_L rfl) (mem_sub_F rfl)) (fun r8 s8 => fm_gd (fm_if (flib_drawLine_60 _ _ _ _ _ _ _ _ _ _) (flib_drawLine_60 _ _ _ _ _ _ _ _ _ _))))))))))
/-! lib_drawSpan -/
def L_lib_drawSpan : List Nat := [45]
def G_lib_drawSpan : List (Nat × Nat) := []
def lib_drawSpan_3C (w : ev_W) (d : Nat) (v1 : Int) (v2 : Int) (v3 : Int) : (Int × iS) ⊕ (iS) → am_E → Prop := fun q r => q.elim (fun l => ev w d 186 3 ((fun l => [(0, .ref (tb_nK + 48)), (1, iv v1), (2, iv v2), (3, iv v3), (4, iv (l.1))]) l) [] (hT ((fun l => l.2) l)) r) (fun e => (fun e r => ev w d 186 75 [] [] (hT (e)) r) e r)
noncomputable def lib_drawSpan_3b (v1 : Int) (v2 : Int) (v3 : Int) (v4 : Int) (s : iS) : Option ((Int × iS) ⊕ (iS)) := gd (rg v4) (if 4 ≤ v4 then some (.inr s) else bd (mth_max (v1 - (16 * v4)) 0 s) (fun r3 s3 => bd (mth_min (v2 - (16 * v4)) 15 s3) (fun r4 s4 => gd (rg r3) (gd (rg r4) (if r4 < r3 then some (.inl ((v4 + 1), s4)) else bd (mem_paint v3 v4 ((i_shl 1 (r4 + 1)) - (i_shl 1 r3)) (s4 48 8) s4) (fun r8 s8 => some (.inl ((v4 + 1), s8))))))))
theorem tlib_drawSpan_3b (w : ev_W) (d : Nat) (hd : 1 ≤ d) (v1 : Int) (v2 : Int) (v3 : Int) (v4 : Int) (s : iS) : Ew hT w d 186 3 [(0, .ref (tb_nK + 48)), (1, iv v1), (2, iv v2), (3, iv v3), (4, iv v4)] [] s (lib_drawSpan_3C w d v1 v2 v3) (lib_drawSpan_3b v1 v2 v3 v4 s) := by
  unfold lib_drawSpan_3b
  refine e_mv 5 em_186 (ce_at ce_186 2 rfl) rfl rfl ?_
  refine e_op 6 em_186 (ce_at ce_186 3 rfl) rfl rfl ?_
  refine e_gd fun g1 => ?_
  refine e_cmge 75 9 em_186 rfl rfl (ce_at ce_186 4 rfl) g1 (by decide) (fun h2 => ?_) (fun h2 => ?_)
  · refine e_pk [] rfl rfl ?_
    exact e_out (fun r h => h)
  · refine e_mv 10 em_186 (ce_at ce_186 5 rfl) rfl rfl ?_
    refine e_bip 12 em_186 (ce_at ce_186 6 rfl) (by decide) rfl ?_
    refine e_mv 14 em_186 (ce_at ce_186 7 rfl) rfl rfl ?_
    refine e_imul 15 em_186 rfl (ce_at ce_186 8 rfl) ?_
    refine e_isub 16 em_186 rfl (ce_at ce_186 9 rfl) ?_
    refine e_op 17 em_186 (ce_at ce_186 10 rfl) rfl rfl ?_
    refine e_ivi 20 em_186 (ce_at ce_186 11 rfl) (by omega) (iv_s2 rfl) em_45 (Nat.le_of_ble_eq_true rfl) rfl (tmth_max hT w (d - 1) (by omega) _ _ _) (fun r3 s3 => ?_)
    refine e_mv 22 em_186 (ce_at ce_186 12 rfl) rfl rfl ?_
    refine e_mv 23 em_186 (ce_at ce_186 13 rfl) rfl rfl ?_
    refine e_bip 25 em_186 (ce_at ce_186 14 rfl) (by decide) rfl ?_
    refine e_mv 27 em_186 (ce_at ce_186 15 rfl) rfl rfl ?_
    refine e_imul 28 em_186 rfl (ce_at ce_186 16 rfl) ?_
    refine e_isub 29 em_186 rfl (ce_at ce_186 17 rfl) ?_
    refine e_bip 31 em_186 (ce_at ce_186 18 rfl) (by decide) rfl ?_
    refine e_ivi 34 em_186 (ce_at ce_186 19 rfl) (by omega) (iv_s2 rfl) em_21 (Nat.le_of_ble_eq_true rfl) rfl (tmth_min hT w (d - 1) (by omega) _ _ _) (fun r4 s4 => ?_)
    refine e_mv 36 em_186 (ce_at ce_186 20 rfl) rfl rfl ?_
    refine e_mv 38 em_186 (ce_at ce_186 21 rfl) rfl rfl ?_
    refine e_mv 40 em_186 (ce_at ce_186 22 rfl) rfl rfl ?_
    refine e_gd fun g5 => ?_
    refine e_gd fun g6 => ?_
    refine e_cmgt 69 43 em_186 rfl rfl (ce_at ce_186 23 rfl) g5 g6 (fun h7 => ?_) (fun h7 => ?_)
    · refine e_iinc 72 em_186 (ce_at ce_186 41 rfl) rfl (by decide) rfl ?_
      refine e_goto em_186 3 (ce_at ce_186 42 rfl) rfl ?_
      refine e_pk [0, 1, 2, 3, 4] rfl rfl ?_
      exact e_out (fun r h => h)
    · refine e_mv 44 em_186 (ce_at ce_186 24 rfl) rfl rfl ?_
      refine e_getr 47 em_186 (ce_at ce_186 25 rfl) tq_48 rfl rfl ?_
      refine e_mv 48 em_186 (ce_at ce_186 26 rfl) rfl rfl ?_
      refine e_mv 50 em_186 (ce_at ce_186 27 rfl) rfl rfl ?_
      refine e_op 51 em_186 (ce_at ce_186 28 rfl) rfl rfl ?_
      refine e_mv 53 em_186 (ce_at ce_186 29 rfl) rfl rfl ?_
      refine e_op 54 em_186 (ce_at ce_186 30 rfl) rfl rfl ?_
      refine e_iadd 55 em_186 rfl (ce_at ce_186 31 rfl) ?_
      refine e_ishl 56 em_186 rfl (ce_at ce_186 32 rfl) ?_
      refine e_op 57 em_186 (ce_at ce_186 33 rfl) rfl rfl ?_
      refine e_mv 59 em_186 (ce_at ce_186 34 rfl) rfl rfl ?_
      refine e_ishl 60 em_186 rfl (ce_at ce_186 35 rfl) ?_
      refine e_isub 61 em_186 rfl (ce_at ce_186 36 rfl) ?_
      refine e_mv 62 em_186 (ce_at ce_186 37 rfl) rfl rfl ?_
      refine e_get 65 em_186 (ce_at ce_186 38 rfl) tq_48 rfl rfl ?_
      refine e_ivi 68 em_186 (ce_at ce_186 39 rfl) (by omega) (iv_v4 (by decide) tq_44 rfl) em_183 (Nat.le_of_ble_eq_true rfl) rfl (tmem_paint w (d - 1) (by omega) _ _ _ _ _) (fun r8 s8 => ?_)
      refine e_op 69 em_186 (ce_at ce_186 40 rfl) rfl rfl ?_
      refine e_iinc 72 em_186 (ce_at ce_186 41 rfl) rfl (by decide) rfl ?_
      refine e_goto em_186 3 (ce_at ce_186 42 rfl) rfl ?_
      refine e_pk [0, 1, 2, 3, 4] rfl rfl ?_
      exact e_out (fun r h => h)
theorem flib_drawSpan_3b (v1 : Int) (v2 : Int) (v3 : Int) (v4 : Int) (s : iS) : Fm (fun r : (Int × iS) ⊕ (iS) => r.elim (fun l => l.2) (fun e => e)) L_lib_drawSpan G_lib_drawSpan s (lib_drawSpan_3b v1 v2 v3 v4 s) := fm_gd (fm_if (fm_some md_refl) (fm_bd (fm_sub (fmth_max _ _ _) (mem_sub_L rfl) (mem_sub_F rfl)) (fun r3 s3 => fm_bd (fm_sub (fmth_min _ _ _) (mem_sub_L rfl) (mem_sub_F rfl)) (fun r4 s4 => fm_gd (fm_gd (fm_if (fm_some md_refl) (fm_bd (fm_sub (fmem_paint _ _ _ _ _) (mem_sub_L rfl) (mem_sub_F rfl)) (fun r8 s8 => fm_some md_refl))))))))
noncomputable def lib_drawSpan_3 (v1 : Int) (v2 : Int) (v3 : Int) (v4 : Int) (s : iS) : Option (Int × iS) := (lp (L := Int × iS) (E := iS) (fun l => lib_drawSpan_3b v1 v2 v3 (l.1) (l.2)) (v4, s)).bind (fun e => some (0, e))
theorem tlib_drawSpan_3 (w : ev_W) (d : Nat) (hd : 1 ≤ d) (v1 : Int) (v2 : Int) (v3 : Int) (v4 : Int) (s : iS) : Ew hT w d 186 3 [(0, .ref (tb_nK + 48)), (1, iv v1), (2, iv v2), (3, iv v3), (4, iv v4)] [] s (Cv hT) (lib_drawSpan_3 v1 v2 v3 v4 s) := by
  unfold lib_drawSpan_3
  refine e_lp (L := Int × iS) (E := iS) (LO := fun l => [(0, .ref (tb_nK + 48)), (1, iv v1), (2, iv v2), (3, iv v3), (4, iv (l.1))]) (LS := fun l => l.2) (CE := fun e r => ev w d 186 75 [] [] (hT (e)) r) (fun l => tlib_drawSpan_3b w d hd _ _ _ _ _) ?_ (v4, s)
  intro e
  show Ew hT w d 186 75 [] [] e (Cv hT) _
  exact e_retv em_186 (ce_at ce_186 43 rfl)
theorem flib_drawSpan_3 (v1 : Int) (v2 : Int) (v3 : Int) (v4 : Int) (s : iS) : Fm Prod.snd L_lib_drawSpan G_lib_drawSpan s (lib_drawSpan_3 v1 v2 v3 v4 s) := by
  unfold lib_drawSpan_3
  refine fm_lp (A := Int × iS) (E := iS) (LS := fun l => l.2) (LE := fun e => e) ?_ ?_ (v4, s)
  · exact fun l => flib_drawSpan_3b _ _ _ _ _
  · exact (fun e => fm_some md_refl)
noncomputable def lib_drawSpan (v1 : Int) (v2 : Int) (v3 : Int) (s : iS) : Option (Int × iS) := lib_drawSpan_3 v1 v2 v3 0 s
theorem tlib_drawSpan (w : ev_W) (d : Nat) (hd : 1 ≤ d) (v1 : Int) (v2 : Int) (v3 : Int) (s : iS) : Ew hT w d 186 0 [(0, .ref (tb_nK + 48)), (1, iv v1), (2, iv v2), (3, iv v3)] [] s (Cv hT) (lib_drawSpan v1 v2 v3 s) := by
  unfold lib_drawSpan
  refine e_op 1 em_186 (ce_at ce_186 0 rfl) rfl rfl ?_
  refine e_mv 3 em_186 (ce_at ce_186 1 rfl) rfl rfl ?_
  refine e_pk [0, 1, 2, 3, 4] rfl rfl ?_
  exact tlib_drawSpan_3 w d hd _ _ _ _ _
theorem flib_drawSpan (v1 : Int) (v2 : Int) (v3 : Int) (s : iS) : Fm Prod.snd L_lib_drawSpan G_lib_drawSpan s (lib_drawSpan v1 v2 v3 s) := flib_drawSpan_3 _ _ _ _ _
/-! lib_drawRectangle -/
def L_lib_drawRectangle : List Nat := [45]
def G_lib_drawRectangle : List (Nat × Nat) := [(44, 5), (44, 6)]
noncomputable def lib_drawRectangle_28 (s : iS) : Option (Int × iS) := bd (mem_fail 9 s) (fun r1 s1 => some (r1, s1))
theorem tlib_drawRectangle_28 (w : ev_W) (d : Nat) (hd : 2 ≤ d) (s : iS) : Ew hT w d 185 28 [(0, .ref (tb_nK + 48))] [] s (Ci hT) (lib_drawRectangle_28 s) := by
  unfold lib_drawRectangle_28
  refine e_mv 29 em_185 (ce_at ce_185 14 rfl) rfl rfl ?_
  refine e_getr 32 em_185 (ce_at ce_185 15 rfl) tq_48 rfl rfl ?_
  refine e_bip 34 em_185 (ce_at ce_185 16 rfl) (by decide) rfl ?_
  refine e_ivi 37 em_185 (ce_at ce_185 17 rfl) (by omega) (iv_v1 (by decide) tq_44 rfl) em_152 (Nat.le_of_ble_eq_true rfl) rfl (tmem_fail w (d - 1) (by omega) _ _) (fun r1 s1 => ?_)
  exact e_reti em_185 (ce_at ce_185 18 rfl)
theorem flib_drawRectangle_28 (s : iS) : Fm Prod.snd L_lib_drawRectangle G_lib_drawRectangle s (lib_drawRectangle_28 s) := fm_bd (fm_sub (fmem_fail _ _) (mem_sub_L rfl) (mem_sub_F rfl)) (fun r1 s1 => fm_some md_refl)
def lib_drawRectangle_41C (w : ev_W) (d : Nat) (v1 : Int) (v3 : Int) (v4 : Int) : (Int × iS) ⊕ (iS) → am_E → Prop := fun q r => q.elim (fun l => ev w d 185 41 ((fun l => [(0, .ref (tb_nK + 48)), (1, iv v1), (3, iv v3), (4, iv v4), (5, iv (l.1))]) l) [] (hT ((fun l => l.2) l)) r) (fun e => (fun e r => ev w d 185 62 [] [] (hT (e)) r) e r)
noncomputable def lib_drawRectangle_41b (v1 : Int) (v3 : Int) (v4 : Int) (v5 : Int) (s : iS) : Option ((Int × iS) ⊕ (iS)) := gd (rg v5) (gd (rg v4) (if v4 < v5 then some (.inr s) else bd (lib_drawSpan v1 v3 v5 s) (fun _ s4 => some (.inl ((v5 + 1), s4)))))
theorem tlib_drawRectangle_41b (w : ev_W) (d : Nat) (hd : 2 ≤ d) (v1 : Int) (v3 : Int) (v4 : Int) (v5 : Int) (s : iS) : Ew hT w d 185 41 [(0, .ref (tb_nK + 48)), (1, iv v1), (3, iv v3), (4, iv v4), (5, iv v5)] [] s (lib_drawRectangle_41C w d v1 v3 v4) (lib_drawRectangle_41b v1 v3 v4 v5 s) := by
  unfold lib_drawRectangle_41b
  refine e_mv 43 em_185 (ce_at ce_185 21 rfl) rfl rfl ?_
  refine e_mv 45 em_185 (ce_at ce_185 22 rfl) rfl rfl ?_
  refine e_gd fun g1 => ?_
  refine e_gd fun g2 => ?_
  refine e_cmgt 62 48 em_185 rfl rfl (ce_at ce_185 23 rfl) g1 g2 (fun h3 => ?_) (fun h3 => ?_)
  · refine e_pk [] rfl rfl ?_
    exact e_out (fun r h => h)
  · refine e_mv 49 em_185 (ce_at ce_185 24 rfl) rfl rfl ?_
    refine e_mv 50 em_185 (ce_at ce_185 25 rfl) rfl rfl ?_
    refine e_mv 51 em_185 (ce_at ce_185 26 rfl) rfl rfl ?_
    refine e_mv 53 em_185 (ce_at ce_185 27 rfl) rfl rfl ?_
    refine e_ivv 56 em_185 (ce_at ce_185 28 rfl) (by omega) (iv_v3 (by decide) tq_48 rfl) em_186 (Nat.le_of_ble_eq_true rfl) rfl (tlib_drawSpan w (d - 1) (by omega) _ _ _ _) (fun r4 s4 => ?_)
    refine e_iinc 59 em_185 (ce_at ce_185 29 rfl) rfl (by decide) rfl ?_
    refine e_goto em_185 41 (ce_at ce_185 30 rfl) rfl ?_
    refine e_pk [0, 1, 3, 4, 5] rfl rfl ?_
    exact e_out (fun r h => h)
theorem flib_drawRectangle_41b (v1 : Int) (v3 : Int) (v4 : Int) (v5 : Int) (s : iS) : Fm (fun r : (Int × iS) ⊕ (iS) => r.elim (fun l => l.2) (fun e => e)) L_lib_drawRectangle G_lib_drawRectangle s (lib_drawRectangle_41b v1 v3 v4 v5 s) := fm_gd (fm_gd (fm_if (fm_some md_refl) (fm_bd (fm_sub (flib_drawSpan _ _ _ _) (mem_sub_L rfl) (mem_sub_F rfl)) (fun r4 s4 => fm_some md_refl))))
noncomputable def lib_drawRectangle_41 (v1 : Int) (v3 : Int) (v4 : Int) (v5 : Int) (s : iS) : Option (Int × iS) := (lp (L := Int × iS) (E := iS) (fun l => lib_drawRectangle_41b v1 v3 v4 (l.1) (l.2)) (v5, s)).bind (fun e => some (0, e))
theorem tlib_drawRectangle_41 (w : ev_W) (d : Nat) (hd : 2 ≤ d) (v1 : Int) (v3 : Int) (v4 : Int) (v5 : Int) (s : iS) : Ew hT w d 185 41 [(0, .ref (tb_nK + 48)), (1, iv v1), (3, iv v3), (4, iv v4), (5, iv v5)] [] s (Ci hT) (lib_drawRectangle_41 v1 v3 v4 v5 s) := by
  unfold lib_drawRectangle_41
  refine e_lp (L := Int × iS) (E := iS) (LO := fun l => [(0, .ref (tb_nK + 48)), (1, iv v1), (3, iv v3), (4, iv v4), (5, iv (l.1))]) (LS := fun l => l.2) (CE := fun e r => ev w d 185 62 [] [] (hT (e)) r) (fun l => tlib_drawRectangle_41b w d hd _ _ _ _ _) ?_ (v5, s)
  intro e
  show Ew hT w d 185 62 [] [] e (Ci hT) _
  refine e_op 63 em_185 (ce_at ce_185 31 rfl) rfl rfl ?_
  exact e_reti em_185 (ce_at ce_185 32 rfl)
theorem flib_drawRectangle_41 (v1 : Int) (v3 : Int) (v4 : Int) (v5 : Int) (s : iS) : Fm Prod.snd L_lib_drawRectangle G_lib_drawRectangle s (lib_drawRectangle_41 v1 v3 v4 v5 s) := by
  unfold lib_drawRectangle_41
  refine fm_lp (A := Int × iS) (E := iS) (LS := fun l => l.2) (LE := fun e => e) ?_ ?_ (v5, s)
  · exact fun l => flib_drawRectangle_41b _ _ _ _ _
  · exact (fun e => fm_some md_refl)
noncomputable def lib_drawRectangle (v1 : Int) (v2 : Int) (v3 : Int) (v4 : Int) (s : iS) : Option (Int × iS) := gd (rg v1) (gd (rg v3) (if v3 < v1 then lib_drawRectangle_28 s else gd (rg v2) (gd (rg v4) (if v4 < v2 then lib_drawRectangle_28 s else bd (lib_isPoint v1 v2 s) (fun r7 s7 => gd (rg r7) (if r7 = 0 then lib_drawRectangle_28 s7 else bd (lib_isPoint v3 v4 s7) (fun r10 s10 => gd (rg r10) (if r10 = 0 then lib_drawRectangle_28 s10 else lib_drawRectangle_41 v1 v3 v4 v2 s10))))))))
theorem tlib_drawRectangle (w : ev_W) (d : Nat) (hd : 2 ≤ d) (v1 : Int) (v2 : Int) (v3 : Int) (v4 : Int) (s : iS) : Ew hT w d 185 0 [(0, .ref (tb_nK + 48)), (1, iv v1), (2, iv v2), (3, iv v3), (4, iv v4)] [] s (Ci hT) (lib_drawRectangle v1 v2 v3 v4 s) := by
  unfold lib_drawRectangle
  refine e_mv 1 em_185 (ce_at ce_185 0 rfl) rfl rfl ?_
  refine e_mv 2 em_185 (ce_at ce_185 1 rfl) rfl rfl ?_
  refine e_gd fun g1 => ?_
  refine e_gd fun g2 => ?_
  refine e_cmgt 28 5 em_185 rfl rfl (ce_at ce_185 2 rfl) g1 g2 (fun h3 => ?_) (fun h3 => ?_)
  · refine e_pk [0] rfl rfl ?_
    exact tlib_drawRectangle_28 w d hd _
  · refine e_mv 6 em_185 (ce_at ce_185 3 rfl) rfl rfl ?_
    refine e_mv 8 em_185 (ce_at ce_185 4 rfl) rfl rfl ?_
    refine e_gd fun g4 => ?_
    refine e_gd fun g5 => ?_
    refine e_cmgt 28 11 em_185 rfl rfl (ce_at ce_185 5 rfl) g4 g5 (fun h6 => ?_) (fun h6 => ?_)
    · refine e_pk [0] rfl rfl ?_
      exact tlib_drawRectangle_28 w d hd _
    · refine e_mv 12 em_185 (ce_at ce_185 6 rfl) rfl rfl ?_
      refine e_mv 13 em_185 (ce_at ce_185 7 rfl) rfl rfl ?_
      refine e_ivi 16 em_185 (ce_at ce_185 8 rfl) (by omega) (iv_s2 rfl) em_181 (Nat.le_of_ble_eq_true rfl) rfl (tlib_isPoint hT w (d - 1) (by omega) _ _ _) (fun r7 s7 => ?_)
      refine e_gd fun g8 => ?_
      refine e_ifeq 28 19 em_185 rfl rfl (ce_at ce_185 9 rfl) g8 (fun h9 => ?_) (fun h9 => ?_)
      · refine e_pk [0] rfl rfl ?_
        exact tlib_drawRectangle_28 w d hd _
      · refine e_mv 20 em_185 (ce_at ce_185 10 rfl) rfl rfl ?_
        refine e_mv 22 em_185 (ce_at ce_185 11 rfl) rfl rfl ?_
        refine e_ivi 25 em_185 (ce_at ce_185 12 rfl) (by omega) (iv_s2 rfl) em_181 (Nat.le_of_ble_eq_true rfl) rfl (tlib_isPoint hT w (d - 1) (by omega) _ _ _) (fun r10 s10 => ?_)
        refine e_gd fun g11 => ?_
        refine e_ifne 38 28 em_185 rfl rfl (ce_at ce_185 13 rfl) g11 (fun h12 => ?_) (fun h12 => ?_)
        · refine e_mv 39 em_185 (ce_at ce_185 19 rfl) rfl rfl ?_
          refine e_mv 41 em_185 (ce_at ce_185 20 rfl) rfl rfl ?_
          refine e_pk [0, 1, 3, 4, 5] rfl rfl ?_
          exact tlib_drawRectangle_41 w d hd _ _ _ _ _
        · refine e_pk [0] rfl rfl ?_
          exact tlib_drawRectangle_28 w d hd _
theorem flib_drawRectangle (v1 : Int) (v2 : Int) (v3 : Int) (v4 : Int) (s : iS) : Fm Prod.snd L_lib_drawRectangle G_lib_drawRectangle s (lib_drawRectangle v1 v2 v3 v4 s) := fm_gd (fm_gd (fm_if (flib_drawRectangle_28 _) (fm_gd (fm_gd (fm_if (flib_drawRectangle_28 _) (fm_bd (fm_sub (flib_isPoint _ _ _) (mem_sub_L rfl) (mem_sub_F rfl)) (fun r7 s7 => fm_gd (fm_if (flib_drawRectangle_28 _) (fm_bd (fm_sub (flib_isPoint _ _ _) (mem_sub_L rfl) (mem_sub_F rfl)) (fun r10 s10 => fm_gd (fm_if (flib_drawRectangle_28 _) (flib_drawRectangle_41 _ _ _ _ _))))))))))))
/-! lib_drawCircle -/
def L_lib_drawCircle : List Nat := [45]
def G_lib_drawCircle : List (Nat × Nat) := [(44, 5), (44, 6)]
noncomputable def lib_drawCircle_34 (s : iS) : Option (Int × iS) := bd (mem_fail 13 s) (fun r1 s1 => some (r1, s1))
theorem tlib_drawCircle_34 (w : ev_W) (d : Nat) (hd : 2 ≤ d) (s : iS) : Ew hT w d 187 34 [(0, .ref (tb_nK + 48))] [] s (Ci hT) (lib_drawCircle_34 s) := by
  unfold lib_drawCircle_34
  refine e_mv 35 em_187 (ce_at ce_187 21 rfl) rfl rfl ?_
  refine e_getr 38 em_187 (ce_at ce_187 22 rfl) tq_48 rfl rfl ?_
  refine e_bip 40 em_187 (ce_at ce_187 23 rfl) (by decide) rfl ?_
  refine e_ivi 43 em_187 (ce_at ce_187 24 rfl) (by omega) (iv_v1 (by decide) tq_44 rfl) em_152 (Nat.le_of_ble_eq_true rfl) rfl (tmem_fail w (d - 1) (by omega) _ _) (fun r1 s1 => ?_)
  exact e_reti em_187 (ce_at ce_187 25 rfl)
theorem flib_drawCircle_34 (s : iS) : Fm Prod.snd L_lib_drawCircle G_lib_drawCircle s (lib_drawCircle_34 s) := fm_bd (fm_sub (fmem_fail _ _) (mem_sub_L rfl) (mem_sub_F rfl)) (fun r1 s1 => fm_some md_refl)
def lib_drawCircle_48C (w : ev_W) (d : Nat) (v1 : Int) (v2 : Int) (v3 : Int) : (Int × iS) ⊕ (iS) → am_E → Prop := fun q r => q.elim (fun l => ev w d 187 48 ((fun l => [(0, .ref (tb_nK + 48)), (1, iv v1), (2, iv v2), (3, iv v3), (4, iv (l.1))]) l) [] (hT ((fun l => l.2) l)) r) (fun e => (fun e r => ev w d 187 90 [] [] (hT (e)) r) e r)
noncomputable def lib_drawCircle_48b (v1 : Int) (v2 : Int) (v3 : Int) (v4 : Int) (s : iS) : Option ((Int × iS) ⊕ (iS)) := gd (rg v4) (gd (rg v3) (if v3 < v4 then some (.inr s) else bd (lib_root ((v3 * v3) - (v4 * v4)) s) (fun r4 s4 => bd (lib_drawSpan (v1 - r4) (v1 + r4) (v2 + v4) s4) (fun _ s5 => some (.inl ((v4 + 1), s5))))))
theorem tlib_drawCircle_48b (w : ev_W) (d : Nat) (hd : 2 ≤ d) (v1 : Int) (v2 : Int) (v3 : Int) (v4 : Int) (s : iS) : Ew hT w d 187 48 [(0, .ref (tb_nK + 48)), (1, iv v1), (2, iv v2), (3, iv v3), (4, iv v4)] [] s (lib_drawCircle_48C w d v1 v2 v3) (lib_drawCircle_48b v1 v2 v3 v4 s) := by
  unfold lib_drawCircle_48b
  refine e_mv 50 em_187 (ce_at ce_187 29 rfl) rfl rfl ?_
  refine e_mv 51 em_187 (ce_at ce_187 30 rfl) rfl rfl ?_
  refine e_gd fun g1 => ?_
  refine e_gd fun g2 => ?_
  refine e_cmgt 90 54 em_187 rfl rfl (ce_at ce_187 31 rfl) g1 g2 (fun h3 => ?_) (fun h3 => ?_)
  · refine e_pk [] rfl rfl ?_
    exact e_out (fun r h => h)
  · refine e_mv 55 em_187 (ce_at ce_187 32 rfl) rfl rfl ?_
    refine e_mv 56 em_187 (ce_at ce_187 33 rfl) rfl rfl ?_
    refine e_imul 57 em_187 rfl (ce_at ce_187 34 rfl) ?_
    refine e_mv 59 em_187 (ce_at ce_187 35 rfl) rfl rfl ?_
    refine e_mv 61 em_187 (ce_at ce_187 36 rfl) rfl rfl ?_
    refine e_imul 62 em_187 rfl (ce_at ce_187 37 rfl) ?_
    refine e_isub 63 em_187 rfl (ce_at ce_187 38 rfl) ?_
    refine e_ivi 66 em_187 (ce_at ce_187 39 rfl) (by omega) (iv_s1 rfl) em_161 (Nat.le_of_ble_eq_true rfl) rfl (tlib_root hT w (d - 1) (by omega) _ _) (fun r4 s4 => ?_)
    refine e_mv 68 em_187 (ce_at ce_187 40 rfl) rfl rfl ?_
    refine e_mv 69 em_187 (ce_at ce_187 41 rfl) rfl rfl ?_
    refine e_mv 70 em_187 (ce_at ce_187 42 rfl) rfl rfl ?_
    refine e_mv 72 em_187 (ce_at ce_187 43 rfl) rfl rfl ?_
    refine e_isub 73 em_187 rfl (ce_at ce_187 44 rfl) ?_
    refine e_mv 74 em_187 (ce_at ce_187 45 rfl) rfl rfl ?_
    refine e_mv 76 em_187 (ce_at ce_187 46 rfl) rfl rfl ?_
    refine e_iadd 77 em_187 rfl (ce_at ce_187 47 rfl) ?_
    refine e_mv 78 em_187 (ce_at ce_187 48 rfl) rfl rfl ?_
    refine e_mv 80 em_187 (ce_at ce_187 49 rfl) rfl rfl ?_
    refine e_iadd 81 em_187 rfl (ce_at ce_187 50 rfl) ?_
    refine e_ivv 84 em_187 (ce_at ce_187 51 rfl) (by omega) (iv_v3 (by decide) tq_48 rfl) em_186 (Nat.le_of_ble_eq_true rfl) rfl (tlib_drawSpan w (d - 1) (by omega) _ _ _ _) (fun r5 s5 => ?_)
    refine e_iinc 87 em_187 (ce_at ce_187 52 rfl) rfl (by decide) rfl ?_
    refine e_goto em_187 48 (ce_at ce_187 53 rfl) rfl ?_
    refine e_pk [0, 1, 2, 3, 4] rfl rfl ?_
    exact e_out (fun r h => h)
theorem flib_drawCircle_48b (v1 : Int) (v2 : Int) (v3 : Int) (v4 : Int) (s : iS) : Fm (fun r : (Int × iS) ⊕ (iS) => r.elim (fun l => l.2) (fun e => e)) L_lib_drawCircle G_lib_drawCircle s (lib_drawCircle_48b v1 v2 v3 v4 s) := fm_gd (fm_gd (fm_if (fm_some md_refl) (fm_bd (fm_sub (flib_root _ _) (mem_sub_L rfl) (mem_sub_F rfl)) (fun r4 s4 => fm_bd (fm_sub (flib_drawSpan _ _ _ _) (mem_sub_L rfl) (mem_sub_F rfl)) (fun r5 s5 => fm_some md_refl)))))
noncomputable def lib_drawCircle_48 (v1 : Int) (v2 : Int) (v3 : Int) (v4 : Int) (s : iS) : Option (Int × iS) := (lp (L := Int × iS) (E := iS) (fun l => lib_drawCircle_48b v1 v2 v3 (l.1) (l.2)) (v4, s)).bind (fun e => some (0, e))
theorem tlib_drawCircle_48 (w : ev_W) (d : Nat) (hd : 2 ≤ d) (v1 : Int) (v2 : Int) (v3 : Int) (v4 : Int) (s : iS) : Ew hT w d 187 48 [(0, .ref (tb_nK + 48)), (1, iv v1), (2, iv v2), (3, iv v3), (4, iv v4)] [] s (Ci hT) (lib_drawCircle_48 v1 v2 v3 v4 s) := by
  unfold lib_drawCircle_48
  refine e_lp (L := Int × iS) (E := iS) (LO := fun l => [(0, .ref (tb_nK + 48)), (1, iv v1), (2, iv v2), (3, iv v3), (4, iv (l.1))]) (LS := fun l => l.2) (CE := fun e r => ev w d 187 90 [] [] (hT (e)) r) (fun l => tlib_drawCircle_48b w d hd _ _ _ _ _) ?_ (v4, s)
  intro e
  show Ew hT w d 187 90 [] [] e (Ci hT) _
  refine e_op 91 em_187 (ce_at ce_187 54 rfl) rfl rfl ?_
  exact e_reti em_187 (ce_at ce_187 55 rfl)
theorem flib_drawCircle_48 (v1 : Int) (v2 : Int) (v3 : Int) (v4 : Int) (s : iS) : Fm Prod.snd L_lib_drawCircle G_lib_drawCircle s (lib_drawCircle_48 v1 v2 v3 v4 s) := by
  unfold lib_drawCircle_48
  refine fm_lp (A := Int × iS) (E := iS) (LS := fun l => l.2) (LE := fun e => e) ?_ ?_ (v4, s)
  · exact fun l => flib_drawCircle_48b _ _ _ _ _
  · exact (fun e => fm_some md_refl)
noncomputable def lib_drawCircle (v1 : Int) (v2 : Int) (v3 : Int) (s : iS) : Option (Int × iS) := gd (rg v3) (if v3 < 0 then lib_drawCircle_34 s else if 31 < v3 then lib_drawCircle_34 s else bd (lib_isPoint (v1 - v3) (v2 - v3) s) (fun r4 s4 => gd (rg r4) (if r4 = 0 then lib_drawCircle_34 s4 else bd (lib_isPoint (v1 + v3) (v2 + v3) s4) (fun r7 s7 => gd (rg r7) (if r7 = 0 then lib_drawCircle_34 s7 else lib_drawCircle_48 v1 v2 v3 (-v3) s7)))))
theorem tlib_drawCircle (w : ev_W) (d : Nat) (hd : 2 ≤ d) (v1 : Int) (v2 : Int) (v3 : Int) (s : iS) : Ew hT w d 187 0 [(0, .ref (tb_nK + 48)), (1, iv v1), (2, iv v2), (3, iv v3)] [] s (Ci hT) (lib_drawCircle v1 v2 v3 s) := by
  unfold lib_drawCircle
  refine e_mv 1 em_187 (ce_at ce_187 0 rfl) rfl rfl ?_
  refine e_gd fun g1 => ?_
  refine e_iflt 34 4 em_187 rfl rfl (ce_at ce_187 1 rfl) g1 (fun h2 => ?_) (fun h2 => ?_)
  · refine e_pk [0] rfl rfl ?_
    exact tlib_drawCircle_34 w d hd _
  · refine e_mv 5 em_187 (ce_at ce_187 2 rfl) rfl rfl ?_
    refine e_bip 7 em_187 (ce_at ce_187 3 rfl) (by decide) rfl ?_
    refine e_cmgt 34 10 em_187 rfl rfl (ce_at ce_187 4 rfl) g1 (by decide) (fun h3 => ?_) (fun h3 => ?_)
    · refine e_pk [0] rfl rfl ?_
      exact tlib_drawCircle_34 w d hd _
    · refine e_mv 11 em_187 (ce_at ce_187 5 rfl) rfl rfl ?_
      refine e_mv 12 em_187 (ce_at ce_187 6 rfl) rfl rfl ?_
      refine e_isub 13 em_187 rfl (ce_at ce_187 7 rfl) ?_
      refine e_mv 14 em_187 (ce_at ce_187 8 rfl) rfl rfl ?_
      refine e_mv 15 em_187 (ce_at ce_187 9 rfl) rfl rfl ?_
      refine e_isub 16 em_187 rfl (ce_at ce_187 10 rfl) ?_
      refine e_ivi 19 em_187 (ce_at ce_187 11 rfl) (by omega) (iv_s2 rfl) em_181 (Nat.le_of_ble_eq_true rfl) rfl (tlib_isPoint hT w (d - 1) (by omega) _ _ _) (fun r4 s4 => ?_)
      refine e_gd fun g5 => ?_
      refine e_ifeq 34 22 em_187 rfl rfl (ce_at ce_187 12 rfl) g5 (fun h6 => ?_) (fun h6 => ?_)
      · refine e_pk [0] rfl rfl ?_
        exact tlib_drawCircle_34 w d hd _
      · refine e_mv 23 em_187 (ce_at ce_187 13 rfl) rfl rfl ?_
        refine e_mv 24 em_187 (ce_at ce_187 14 rfl) rfl rfl ?_
        refine e_iadd 25 em_187 rfl (ce_at ce_187 15 rfl) ?_
        refine e_mv 26 em_187 (ce_at ce_187 16 rfl) rfl rfl ?_
        refine e_mv 27 em_187 (ce_at ce_187 17 rfl) rfl rfl ?_
        refine e_iadd 28 em_187 rfl (ce_at ce_187 18 rfl) ?_
        refine e_ivi 31 em_187 (ce_at ce_187 19 rfl) (by omega) (iv_s2 rfl) em_181 (Nat.le_of_ble_eq_true rfl) rfl (tlib_isPoint hT w (d - 1) (by omega) _ _ _) (fun r7 s7 => ?_)
        refine e_gd fun g8 => ?_
        refine e_ifne 44 34 em_187 rfl rfl (ce_at ce_187 20 rfl) g8 (fun h9 => ?_) (fun h9 => ?_)
        · refine e_mv 45 em_187 (ce_at ce_187 26 rfl) rfl rfl ?_
          refine e_ineg 46 em_187 rfl (ce_at ce_187 27 rfl) ?_
          refine e_mv 48 em_187 (ce_at ce_187 28 rfl) rfl rfl ?_
          refine e_pk [0, 1, 2, 3, 4] rfl rfl ?_
          exact tlib_drawCircle_48 w d hd _ _ _ _ _
        · refine e_pk [0] rfl rfl ?_
          exact tlib_drawCircle_34 w d hd _
theorem flib_drawCircle (v1 : Int) (v2 : Int) (v3 : Int) (s : iS) : Fm Prod.snd L_lib_drawCircle G_lib_drawCircle s (lib_drawCircle v1 v2 v3 s) := fm_gd (fm_if (flib_drawCircle_34 _) (fm_if (flib_drawCircle_34 _) (fm_bd (fm_sub (flib_isPoint _ _ _) (mem_sub_L rfl) (mem_sub_F rfl)) (fun r4 s4 => fm_gd (fm_if (flib_drawCircle_34 _) (fm_bd (fm_sub (flib_isPoint _ _ _) (mem_sub_L rfl) (mem_sub_F rfl)) (fun r7 s7 => fm_gd (fm_if (flib_drawCircle_34 _) (flib_drawCircle_48 _ _ _ _ _)))))))))
/-! lib_halt -/
def L_lib_halt : List Nat := []
def G_lib_halt : List (Nat × Nat) := [(48, 9)]
noncomputable def lib_halt (s : iS) : Option (Int × iS) := lt' (up s 48 9 1) (fun s1 => some (0, s1))
theorem tlib_halt (w : ev_W) (d : Nat) (hd : 0 ≤ d) (s : iS) : Ew hT w d 188 0 [(0, .ref (tb_nK + 48))] [] s (Ci hT) (lib_halt s) := by
  unfold lib_halt
  refine e_mv 1 em_188 (ce_at ce_188 0 rfl) rfl rfl ?_
  refine e_op 2 em_188 (ce_at ce_188 1 rfl) rfl rfl ?_
  refine e_put 5 em_188 (ce_at ce_188 2 rfl) tq_48 rfl rfl rfl (fun s1 => ?_)
  refine e_op 6 em_188 (ce_at ce_188 3 rfl) rfl rfl ?_
  exact e_reti em_188 (ce_at ce_188 4 rfl)
theorem flib_halt (s : iS) : Fm Prod.snd L_lib_halt G_lib_halt s (lib_halt s) := fm_lt (md_upF (mem_F rfl)) (fun s1 => fm_some md_refl)
/-! lib_perform -/
def L_lib_perform : List Nat := [45, 46, 47, 49]
def G_lib_perform : List (Nat × Nat) := [(44, 3), (44, 4), (44, 5), (44, 6), (48, 3), (48, 6), (48, 8), (48, 9)]
noncomputable def lib_perform (v1 : Int) (v2 : Int) (v3 : Int) (v4 : Int) (v5 : Int) (s : iS) : Option (Int × iS) := gd (rg v1) (if v1 = 0 then bd (mth_abs v2 s) (fun r3 s3 => some ((i_s r3), s3)) else if v1 = 1 then bd (mth_min v2 v3 s) (fun r5 s5 => some (r5, s5)) else if v1 = 2 then bd (mth_max v2 v3 s) (fun r7 s7 => some (r7, s7)) else if v1 = 3 then some ((i_s (v2 * v3)), s) else if v1 = 4 then gd (rg v3) (if v3 = 0 then bd (mem_fail 3 s) (fun r14 s14 => some (r14, s14)) else gd (rg v2) (gd (¬ v3 = 0) (some ((i_s (v2.tdiv v3)), s)))) else if v1 = 5 then gd (rg v2) (if 0 ≤ v2 then bd (lib_root v2 s) (fun r18 s18 => some (r18, s18)) else bd (mem_fail 4 s) (fun r19 s19 => some (r19, s19))) else if v1 = 6 then bd (mem_read v2 s) (fun r21 s21 => some (r21, s21)) else if v1 = 7 then bd (mem_write v2 v3 s) (fun r23 s23 => some (r23, s23)) else if v1 = 8 then bd (mem_allocate v2 s) (fun r25 s25 => some (r25, s25)) else if v1 = 9 then bd (mem_release v2 s) (fun r27 s27 => some (r27, s27)) else if v1 = 10 then gd (rg v2) (if 1 ≤ v2 then bd (mem_allocate v2 s) (fun r31 s31 => some (r31, s31)) else bd (mem_fail 2 s) (fun r32 s32 => some (r32, s32))) else if v1 = 11 then bd (mem_release v2 s) (fun r34 s34 => some (r34, s34)) else if v1 = 12 then bd (lib_newString v2 s) (fun r36 s36 => some (r36, s36)) else if v1 = 13 then bd (mem_read (v2 + 1) s) (fun r38 s38 => some (r38, s38)) else if v1 = 14 then bd (lib_charAt v2 v3 s) (fun r40 s40 => some (r40, s40)) else if v1 = 15 then bd (lib_setCharAt v2 v3 v4 s) (fun r42 s42 => some (r42, s42)) else if v1 = 16 then bd (lib_appendChar v2 v3 s) (fun r44 s44 => some (r44, s44)) else if v1 = 17 then bd (lib_eraseLastChar v2 s) (fun r46 s46 => some (r46, s46)) else if v1 = 18 then bd (lib_intValue v2 s) (fun r48 s48 => some (r48, s48)) else if v1 = 19 then bd (lib_setInt v2 v3 s) (fun r50 s50 => some (r50, s50)) else if v1 = 20 then bd (mem_release v2 s) (fun r52 s52 => some (r52, s52)) else if v1 = 21 then some (10, s) else if v1 = 22 then some (34, s) else if v1 = 23 then some (8, s) else if v1 = 24 then bd (lib_printChar v2 s) (fun r57 s57 => some (r57, s57)) else if v1 = 25 then bd (lib_printString v2 s) (fun r59 s59 => some (r59, s59)) else if v1 = 26 then bd (lib_printInt v2 s) (fun r61 s61 => some (r61, s61)) else if v1 = 27 then bd (lib_printChar 10 s) (fun r63 s63 => some (r63, s63)) else if v1 = 28 then bd (lib_nextKey s) (fun r65 s65 => some (r65, s65)) else if v1 = 29 then bd (lib_readChar s) (fun r67 s67 => some (r67, s67)) else if v1 = 30 then bd (lib_readLine v2 s) (fun r69 s69 => some (r69, s69)) else if v1 = 31 then bd (mem_clearScreen s) (fun r71 s71 => some (r71, s71)) else if v1 = 32 then bd (lib_setColor v2 s) (fun r73 s73 => some (r73, s73)) else if v1 = 33 then bd (lib_isPoint v2 v3 s) (fun r75 s75 => gd (rg r75) (if r75 = 0 then bd (mem_fail 7 s75) (fun r78 s78 => some (r78, s78)) else bd (lib_drawPoint v2 v3 s75) (fun r79 s79 => some (r79, s79)))) else if v1 = 34 then bd (lib_drawLine v2 v3 v4 v5 s) (fun r81 s81 => some (r81, s81)) else if v1 = 35 then bd (lib_drawRectangle v2 v3 v4 v5 s) (fun r83 s83 => some (r83, s83)) else if v1 = 36 then bd (lib_drawCircle v2 v3 v4 s) (fun r85 s85 => some (r85, s85)) else if v1 = 37 then bd (lib_halt s) (fun r87 s87 => some (r87, s87)) else if v1 = 38 then bd (mem_fail v2 s) (fun r89 s89 => some (r89, s89)) else if v1 = 39 then gd (rg v2) (if 1 ≤ v2 then some (0, s) else bd (mem_fail 1 s) (fun r93 s93 => some (r93, s93))) else some (0, s))
theorem tlib_perform (w : ev_W) (d : Nat) (hd : 5 ≤ d) (v1 : Int) (v2 : Int) (v3 : Int) (v4 : Int) (v5 : Int) (s : iS) : Ew hT w d 159 0 [(0, .ref (tb_nK + 48)), (1, iv v1), (2, iv v2), (3, iv v3), (4, iv v4), (5, iv v5)] [] s (Ci hT) (lib_perform v1 v2 v3 v4 v5 s) := by
  unfold lib_perform
  refine e_mv 1 em_159 (ce_at ce_159 0 rfl) rfl rfl ?_
  refine e_gd fun g1 => ?_
  refine e_case 0 (fun h2 => ?_) (fun h2 => ?_)
  · refine e_sw em_159 176 (ce_at ce_159 1 rfl) (sw_in g1 (by omega) (by subst h2; rfl)) rfl ?_
    refine e_mv 177 em_159 (ce_at ce_159 2 rfl) rfl rfl ?_
    refine e_ivi 180 em_159 (ce_at ce_159 3 rfl) (by omega) (iv_s1 rfl) em_160 (Nat.le_of_ble_eq_true rfl) rfl (tmth_abs hT w (d - 1) (by omega) _ _) (fun r3 s3 => ?_)
    refine e_i2s 181 em_159 rfl (ce_at ce_159 4 rfl) ?_
    exact e_reti em_159 (ce_at ce_159 5 rfl)
  refine e_case 1 (fun h4 => ?_) (fun h4 => ?_)
  · refine e_sw em_159 182 (ce_at ce_159 1 rfl) (sw_in g1 (by omega) (by subst h4; rfl)) rfl ?_
    refine e_mv 183 em_159 (ce_at ce_159 6 rfl) rfl rfl ?_
    refine e_mv 184 em_159 (ce_at ce_159 7 rfl) rfl rfl ?_
    refine e_ivi 187 em_159 (ce_at ce_159 8 rfl) (by omega) (iv_s2 rfl) em_21 (Nat.le_of_ble_eq_true rfl) rfl (tmth_min hT w (d - 1) (by omega) _ _ _) (fun r5 s5 => ?_)
    exact e_reti em_159 (ce_at ce_159 9 rfl)
  refine e_case 2 (fun h6 => ?_) (fun h6 => ?_)
  · refine e_sw em_159 188 (ce_at ce_159 1 rfl) (sw_in g1 (by omega) (by subst h6; rfl)) rfl ?_
    refine e_mv 189 em_159 (ce_at ce_159 10 rfl) rfl rfl ?_
    refine e_mv 190 em_159 (ce_at ce_159 11 rfl) rfl rfl ?_
    refine e_ivi 193 em_159 (ce_at ce_159 12 rfl) (by omega) (iv_s2 rfl) em_45 (Nat.le_of_ble_eq_true rfl) rfl (tmth_max hT w (d - 1) (by omega) _ _ _) (fun r7 s7 => ?_)
    exact e_reti em_159 (ce_at ce_159 13 rfl)
  refine e_case 3 (fun h8 => ?_) (fun h8 => ?_)
  · refine e_sw em_159 194 (ce_at ce_159 1 rfl) (sw_in g1 (by omega) (by subst h8; rfl)) rfl ?_
    refine e_mv 195 em_159 (ce_at ce_159 14 rfl) rfl rfl ?_
    refine e_mv 196 em_159 (ce_at ce_159 15 rfl) rfl rfl ?_
    refine e_imul 197 em_159 rfl (ce_at ce_159 16 rfl) ?_
    refine e_i2s 198 em_159 rfl (ce_at ce_159 17 rfl) ?_
    exact e_reti em_159 (ce_at ce_159 18 rfl)
  refine e_case 4 (fun h9 => ?_) (fun h9 => ?_)
  · refine e_sw em_159 199 (ce_at ce_159 1 rfl) (sw_in g1 (by omega) (by subst h9; rfl)) rfl ?_
    refine e_mv 200 em_159 (ce_at ce_159 19 rfl) rfl rfl ?_
    refine e_gd fun g10 => ?_
    refine e_ifne 214 203 em_159 rfl rfl (ce_at ce_159 20 rfl) g10 (fun h11 => ?_) (fun h11 => ?_)
    · refine e_mv 215 em_159 (ce_at ce_159 26 rfl) rfl rfl ?_
      refine e_mv 216 em_159 (ce_at ce_159 27 rfl) rfl rfl ?_
      refine e_gd fun g12 => ?_
      refine e_gd fun g13 => ?_
      refine e_idiv 217 em_159 rfl (ce_at ce_159 28 rfl) g12 g10 g13 ?_
      refine e_i2s 218 em_159 rfl (ce_at ce_159 29 rfl) ?_
      exact e_reti em_159 (ce_at ce_159 30 rfl)
    · refine e_mv 204 em_159 (ce_at ce_159 21 rfl) rfl rfl ?_
      refine e_getr 207 em_159 (ce_at ce_159 22 rfl) tq_48 rfl rfl ?_
      refine e_op 208 em_159 (ce_at ce_159 23 rfl) rfl rfl ?_
      refine e_ivi 211 em_159 (ce_at ce_159 24 rfl) (by omega) (iv_v1 (by decide) tq_44 rfl) em_152 (Nat.le_of_ble_eq_true rfl) rfl (tmem_fail w (d - 1) (by omega) _ _) (fun r14 s14 => ?_)
      refine e_goto em_159 218 (ce_at ce_159 25 rfl) rfl ?_
      exact e_reti em_159 (ce_at ce_159 30 rfl)
  refine e_case 5 (fun h15 => ?_) (fun h15 => ?_)
  · refine e_sw em_159 219 (ce_at ce_159 1 rfl) (sw_in g1 (by omega) (by subst h15; rfl)) rfl ?_
    refine e_mv 220 em_159 (ce_at ce_159 31 rfl) rfl rfl ?_
    refine e_gd fun g16 => ?_
    refine e_ifge 234 223 em_159 rfl rfl (ce_at ce_159 32 rfl) g16 (fun h17 => ?_) (fun h17 => ?_)
    · refine e_mv 235 em_159 (ce_at ce_159 38 rfl) rfl rfl ?_
      refine e_ivi 238 em_159 (ce_at ce_159 39 rfl) (by omega) (iv_s1 rfl) em_161 (Nat.le_of_ble_eq_true rfl) rfl (tlib_root hT w (d - 1) (by omega) _ _) (fun r18 s18 => ?_)
      exact e_reti em_159 (ce_at ce_159 40 rfl)
    · refine e_mv 224 em_159 (ce_at ce_159 33 rfl) rfl rfl ?_
      refine e_getr 227 em_159 (ce_at ce_159 34 rfl) tq_48 rfl rfl ?_
      refine e_op 228 em_159 (ce_at ce_159 35 rfl) rfl rfl ?_
      refine e_ivi 231 em_159 (ce_at ce_159 36 rfl) (by omega) (iv_v1 (by decide) tq_44 rfl) em_152 (Nat.le_of_ble_eq_true rfl) rfl (tmem_fail w (d - 1) (by omega) _ _) (fun r19 s19 => ?_)
      refine e_goto em_159 238 (ce_at ce_159 37 rfl) rfl ?_
      exact e_reti em_159 (ce_at ce_159 40 rfl)
  refine e_case 6 (fun h20 => ?_) (fun h20 => ?_)
  · refine e_sw em_159 239 (ce_at ce_159 1 rfl) (sw_in g1 (by omega) (by subst h20; rfl)) rfl ?_
    refine e_mv 240 em_159 (ce_at ce_159 41 rfl) rfl rfl ?_
    refine e_getr 243 em_159 (ce_at ce_159 42 rfl) tq_48 rfl rfl ?_
    refine e_mv 244 em_159 (ce_at ce_159 43 rfl) rfl rfl ?_
    refine e_ivi 247 em_159 (ce_at ce_159 44 rfl) (by omega) (iv_v1 (by decide) tq_44 rfl) em_150 (Nat.le_of_ble_eq_true rfl) rfl (tmem_read w (d - 1) (by omega) _ _) (fun r21 s21 => ?_)
    exact e_reti em_159 (ce_at ce_159 45 rfl)
  refine e_case 7 (fun h22 => ?_) (fun h22 => ?_)
  · refine e_sw em_159 248 (ce_at ce_159 1 rfl) (sw_in g1 (by omega) (by subst h22; rfl)) rfl ?_
    refine e_mv 249 em_159 (ce_at ce_159 46 rfl) rfl rfl ?_
    refine e_getr 252 em_159 (ce_at ce_159 47 rfl) tq_48 rfl rfl ?_
    refine e_mv 253 em_159 (ce_at ce_159 48 rfl) rfl rfl ?_
    refine e_mv 254 em_159 (ce_at ce_159 49 rfl) rfl rfl ?_
    refine e_ivi 257 em_159 (ce_at ce_159 50 rfl) (by omega) (iv_v2 (by decide) tq_44 rfl) em_157 (Nat.le_of_ble_eq_true rfl) rfl (tmem_write w (d - 1) (by omega) _ _ _) (fun r23 s23 => ?_)
    exact e_reti em_159 (ce_at ce_159 51 rfl)
  refine e_case 8 (fun h24 => ?_) (fun h24 => ?_)
  · refine e_sw em_159 258 (ce_at ce_159 1 rfl) (sw_in g1 (by omega) (by subst h24; rfl)) rfl ?_
    refine e_mv 259 em_159 (ce_at ce_159 52 rfl) rfl rfl ?_
    refine e_getr 262 em_159 (ce_at ce_159 53 rfl) tq_48 rfl rfl ?_
    refine e_mv 263 em_159 (ce_at ce_159 54 rfl) rfl rfl ?_
    refine e_ivi 266 em_159 (ce_at ce_159 55 rfl) (by omega) (iv_v1 (by decide) tq_44 rfl) em_162 (Nat.le_of_ble_eq_true rfl) rfl (tmem_allocate w (d - 1) (by omega) _ _) (fun r25 s25 => ?_)
    exact e_reti em_159 (ce_at ce_159 56 rfl)
  refine e_case 9 (fun h26 => ?_) (fun h26 => ?_)
  · refine e_sw em_159 267 (ce_at ce_159 1 rfl) (sw_in g1 (by omega) (by subst h26; rfl)) rfl ?_
    refine e_mv 268 em_159 (ce_at ce_159 57 rfl) rfl rfl ?_
    refine e_getr 271 em_159 (ce_at ce_159 58 rfl) tq_48 rfl rfl ?_
    refine e_mv 272 em_159 (ce_at ce_159 59 rfl) rfl rfl ?_
    refine e_ivi 275 em_159 (ce_at ce_159 60 rfl) (by omega) (iv_v1 (by decide) tq_44 rfl) em_164 (Nat.le_of_ble_eq_true rfl) rfl (tmem_release w (d - 1) (by omega) _ _) (fun r27 s27 => ?_)
    exact e_reti em_159 (ce_at ce_159 61 rfl)
  refine e_case 10 (fun h28 => ?_) (fun h28 => ?_)
  · refine e_sw em_159 276 (ce_at ce_159 1 rfl) (sw_in g1 (by omega) (by subst h28; rfl)) rfl ?_
    refine e_mv 277 em_159 (ce_at ce_159 62 rfl) rfl rfl ?_
    refine e_op 278 em_159 (ce_at ce_159 63 rfl) rfl rfl ?_
    refine e_gd fun g29 => ?_
    refine e_cmge 292 281 em_159 rfl rfl (ce_at ce_159 64 rfl) g29 (by decide) (fun h30 => ?_) (fun h30 => ?_)
    · refine e_mv 293 em_159 (ce_at ce_159 70 rfl) rfl rfl ?_
      refine e_getr 296 em_159 (ce_at ce_159 71 rfl) tq_48 rfl rfl ?_
      refine e_mv 297 em_159 (ce_at ce_159 72 rfl) rfl rfl ?_
      refine e_ivi 300 em_159 (ce_at ce_159 73 rfl) (by omega) (iv_v1 (by decide) tq_44 rfl) em_162 (Nat.le_of_ble_eq_true rfl) rfl (tmem_allocate w (d - 1) (by omega) _ _) (fun r31 s31 => ?_)
      exact e_reti em_159 (ce_at ce_159 74 rfl)
    · refine e_mv 282 em_159 (ce_at ce_159 65 rfl) rfl rfl ?_
      refine e_getr 285 em_159 (ce_at ce_159 66 rfl) tq_48 rfl rfl ?_
      refine e_op 286 em_159 (ce_at ce_159 67 rfl) rfl rfl ?_
      refine e_ivi 289 em_159 (ce_at ce_159 68 rfl) (by omega) (iv_v1 (by decide) tq_44 rfl) em_152 (Nat.le_of_ble_eq_true rfl) rfl (tmem_fail w (d - 1) (by omega) _ _) (fun r32 s32 => ?_)
      refine e_goto em_159 300 (ce_at ce_159 69 rfl) rfl ?_
      exact e_reti em_159 (ce_at ce_159 74 rfl)
  refine e_case 11 (fun h33 => ?_) (fun h33 => ?_)
  · refine e_sw em_159 301 (ce_at ce_159 1 rfl) (sw_in g1 (by omega) (by subst h33; rfl)) rfl ?_
    refine e_mv 302 em_159 (ce_at ce_159 75 rfl) rfl rfl ?_
    refine e_getr 305 em_159 (ce_at ce_159 76 rfl) tq_48 rfl rfl ?_
    refine e_mv 306 em_159 (ce_at ce_159 77 rfl) rfl rfl ?_
    refine e_ivi 309 em_159 (ce_at ce_159 78 rfl) (by omega) (iv_v1 (by decide) tq_44 rfl) em_164 (Nat.le_of_ble_eq_true rfl) rfl (tmem_release w (d - 1) (by omega) _ _) (fun r34 s34 => ?_)
    exact e_reti em_159 (ce_at ce_159 79 rfl)
  refine e_case 12 (fun h35 => ?_) (fun h35 => ?_)
  · refine e_sw em_159 310 (ce_at ce_159 1 rfl) (sw_in g1 (by omega) (by subst h35; rfl)) rfl ?_
    refine e_mv 311 em_159 (ce_at ce_159 80 rfl) rfl rfl ?_
    refine e_mv 312 em_159 (ce_at ce_159 81 rfl) rfl rfl ?_
    refine e_ivi 315 em_159 (ce_at ce_159 82 rfl) (by omega) (iv_v1 (by decide) tq_48 rfl) em_165 (Nat.le_of_ble_eq_true rfl) rfl (tlib_newString w (d - 1) (by omega) _ _) (fun r36 s36 => ?_)
    exact e_reti em_159 (ce_at ce_159 83 rfl)
  refine e_case 13 (fun h37 => ?_) (fun h37 => ?_)
  · refine e_sw em_159 316 (ce_at ce_159 1 rfl) (sw_in g1 (by omega) (by subst h37; rfl)) rfl ?_
    refine e_mv 317 em_159 (ce_at ce_159 84 rfl) rfl rfl ?_
    refine e_getr 320 em_159 (ce_at ce_159 85 rfl) tq_48 rfl rfl ?_
    refine e_mv 321 em_159 (ce_at ce_159 86 rfl) rfl rfl ?_
    refine e_op 322 em_159 (ce_at ce_159 87 rfl) rfl rfl ?_
    refine e_iadd 323 em_159 rfl (ce_at ce_159 88 rfl) ?_
    refine e_ivi 326 em_159 (ce_at ce_159 89 rfl) (by omega) (iv_v1 (by decide) tq_44 rfl) em_150 (Nat.le_of_ble_eq_true rfl) rfl (tmem_read w (d - 1) (by omega) _ _) (fun r38 s38 => ?_)
    exact e_reti em_159 (ce_at ce_159 90 rfl)
  refine e_case 14 (fun h39 => ?_) (fun h39 => ?_)
  · refine e_sw em_159 327 (ce_at ce_159 1 rfl) (sw_in g1 (by omega) (by subst h39; rfl)) rfl ?_
    refine e_mv 328 em_159 (ce_at ce_159 91 rfl) rfl rfl ?_
    refine e_mv 329 em_159 (ce_at ce_159 92 rfl) rfl rfl ?_
    refine e_mv 330 em_159 (ce_at ce_159 93 rfl) rfl rfl ?_
    refine e_ivi 333 em_159 (ce_at ce_159 94 rfl) (by omega) (iv_v2 (by decide) tq_48 rfl) em_166 (Nat.le_of_ble_eq_true rfl) rfl (tlib_charAt w (d - 1) (by omega) _ _ _) (fun r40 s40 => ?_)
    exact e_reti em_159 (ce_at ce_159 95 rfl)
  refine e_case 15 (fun h41 => ?_) (fun h41 => ?_)
  · refine e_sw em_159 334 (ce_at ce_159 1 rfl) (sw_in g1 (by omega) (by subst h41; rfl)) rfl ?_
    refine e_mv 335 em_159 (ce_at ce_159 96 rfl) rfl rfl ?_
    refine e_mv 336 em_159 (ce_at ce_159 97 rfl) rfl rfl ?_
    refine e_mv 337 em_159 (ce_at ce_159 98 rfl) rfl rfl ?_
    refine e_mv 339 em_159 (ce_at ce_159 99 rfl) rfl rfl ?_
    refine e_ivi 342 em_159 (ce_at ce_159 100 rfl) (by omega) (iv_v3 (by decide) tq_48 rfl) em_167 (Nat.le_of_ble_eq_true rfl) rfl (tlib_setCharAt w (d - 1) (by omega) _ _ _ _) (fun r42 s42 => ?_)
    exact e_reti em_159 (ce_at ce_159 101 rfl)
  refine e_case 16 (fun h43 => ?_) (fun h43 => ?_)
  · refine e_sw em_159 343 (ce_at ce_159 1 rfl) (sw_in g1 (by omega) (by subst h43; rfl)) rfl ?_
    refine e_mv 344 em_159 (ce_at ce_159 102 rfl) rfl rfl ?_
    refine e_mv 345 em_159 (ce_at ce_159 103 rfl) rfl rfl ?_
    refine e_mv 346 em_159 (ce_at ce_159 104 rfl) rfl rfl ?_
    refine e_ivi 349 em_159 (ce_at ce_159 105 rfl) (by omega) (iv_v2 (by decide) tq_48 rfl) em_168 (Nat.le_of_ble_eq_true rfl) rfl (tlib_appendChar w (d - 1) (by omega) _ _ _) (fun r44 s44 => ?_)
    exact e_reti em_159 (ce_at ce_159 106 rfl)
  refine e_case 17 (fun h45 => ?_) (fun h45 => ?_)
  · refine e_sw em_159 350 (ce_at ce_159 1 rfl) (sw_in g1 (by omega) (by subst h45; rfl)) rfl ?_
    refine e_mv 351 em_159 (ce_at ce_159 107 rfl) rfl rfl ?_
    refine e_mv 352 em_159 (ce_at ce_159 108 rfl) rfl rfl ?_
    refine e_ivi 355 em_159 (ce_at ce_159 109 rfl) (by omega) (iv_v1 (by decide) tq_48 rfl) em_169 (Nat.le_of_ble_eq_true rfl) rfl (tlib_eraseLastChar w (d - 1) (by omega) _ _) (fun r46 s46 => ?_)
    exact e_reti em_159 (ce_at ce_159 110 rfl)
  refine e_case 18 (fun h47 => ?_) (fun h47 => ?_)
  · refine e_sw em_159 356 (ce_at ce_159 1 rfl) (sw_in g1 (by omega) (by subst h47; rfl)) rfl ?_
    refine e_mv 357 em_159 (ce_at ce_159 111 rfl) rfl rfl ?_
    refine e_mv 358 em_159 (ce_at ce_159 112 rfl) rfl rfl ?_
    refine e_ivi 361 em_159 (ce_at ce_159 113 rfl) (by omega) (iv_v1 (by decide) tq_48 rfl) em_170 (Nat.le_of_ble_eq_true rfl) rfl (tlib_intValue w (d - 1) (by omega) _ _) (fun r48 s48 => ?_)
    exact e_reti em_159 (ce_at ce_159 114 rfl)
  refine e_case 19 (fun h49 => ?_) (fun h49 => ?_)
  · refine e_sw em_159 362 (ce_at ce_159 1 rfl) (sw_in g1 (by omega) (by subst h49; rfl)) rfl ?_
    refine e_mv 363 em_159 (ce_at ce_159 115 rfl) rfl rfl ?_
    refine e_mv 364 em_159 (ce_at ce_159 116 rfl) rfl rfl ?_
    refine e_mv 365 em_159 (ce_at ce_159 117 rfl) rfl rfl ?_
    refine e_ivi 368 em_159 (ce_at ce_159 118 rfl) (by omega) (iv_v2 (by decide) tq_48 rfl) em_171 (Nat.le_of_ble_eq_true rfl) rfl (tlib_setInt w (d - 1) (by omega) _ _ _) (fun r50 s50 => ?_)
    exact e_reti em_159 (ce_at ce_159 119 rfl)
  refine e_case 20 (fun h51 => ?_) (fun h51 => ?_)
  · refine e_sw em_159 369 (ce_at ce_159 1 rfl) (sw_in g1 (by omega) (by subst h51; rfl)) rfl ?_
    refine e_mv 370 em_159 (ce_at ce_159 120 rfl) rfl rfl ?_
    refine e_getr 373 em_159 (ce_at ce_159 121 rfl) tq_48 rfl rfl ?_
    refine e_mv 374 em_159 (ce_at ce_159 122 rfl) rfl rfl ?_
    refine e_ivi 377 em_159 (ce_at ce_159 123 rfl) (by omega) (iv_v1 (by decide) tq_44 rfl) em_164 (Nat.le_of_ble_eq_true rfl) rfl (tmem_release w (d - 1) (by omega) _ _) (fun r52 s52 => ?_)
    exact e_reti em_159 (ce_at ce_159 124 rfl)
  refine e_case 21 (fun h53 => ?_) (fun h53 => ?_)
  · refine e_sw em_159 378 (ce_at ce_159 1 rfl) (sw_in g1 (by omega) (by subst h53; rfl)) rfl ?_
    refine e_bip 380 em_159 (ce_at ce_159 125 rfl) (by decide) rfl ?_
    exact e_reti em_159 (ce_at ce_159 126 rfl)
  refine e_case 22 (fun h54 => ?_) (fun h54 => ?_)
  · refine e_sw em_159 381 (ce_at ce_159 1 rfl) (sw_in g1 (by omega) (by subst h54; rfl)) rfl ?_
    refine e_bip 383 em_159 (ce_at ce_159 127 rfl) (by decide) rfl ?_
    exact e_reti em_159 (ce_at ce_159 128 rfl)
  refine e_case 23 (fun h55 => ?_) (fun h55 => ?_)
  · refine e_sw em_159 384 (ce_at ce_159 1 rfl) (sw_in g1 (by omega) (by subst h55; rfl)) rfl ?_
    refine e_bip 386 em_159 (ce_at ce_159 129 rfl) (by decide) rfl ?_
    exact e_reti em_159 (ce_at ce_159 130 rfl)
  refine e_case 24 (fun h56 => ?_) (fun h56 => ?_)
  · refine e_sw em_159 387 (ce_at ce_159 1 rfl) (sw_in g1 (by omega) (by subst h56; rfl)) rfl ?_
    refine e_mv 388 em_159 (ce_at ce_159 131 rfl) rfl rfl ?_
    refine e_mv 389 em_159 (ce_at ce_159 132 rfl) rfl rfl ?_
    refine e_ivi 392 em_159 (ce_at ce_159 133 rfl) (by omega) (iv_v1 (by decide) tq_48 rfl) em_173 (Nat.le_of_ble_eq_true rfl) rfl (tlib_printChar w (d - 1) (by omega) _ _) (fun r57 s57 => ?_)
    exact e_reti em_159 (ce_at ce_159 134 rfl)
  refine e_case 25 (fun h58 => ?_) (fun h58 => ?_)
  · refine e_sw em_159 393 (ce_at ce_159 1 rfl) (sw_in g1 (by omega) (by subst h58; rfl)) rfl ?_
    refine e_mv 394 em_159 (ce_at ce_159 135 rfl) rfl rfl ?_
    refine e_mv 395 em_159 (ce_at ce_159 136 rfl) rfl rfl ?_
    refine e_ivi 398 em_159 (ce_at ce_159 137 rfl) (by omega) (iv_v1 (by decide) tq_48 rfl) em_174 (Nat.le_of_ble_eq_true rfl) rfl (tlib_printString w (d - 1) (by omega) _ _) (fun r59 s59 => ?_)
    exact e_reti em_159 (ce_at ce_159 138 rfl)
  refine e_case 26 (fun h60 => ?_) (fun h60 => ?_)
  · refine e_sw em_159 399 (ce_at ce_159 1 rfl) (sw_in g1 (by omega) (by subst h60; rfl)) rfl ?_
    refine e_mv 400 em_159 (ce_at ce_159 139 rfl) rfl rfl ?_
    refine e_mv 401 em_159 (ce_at ce_159 140 rfl) rfl rfl ?_
    refine e_ivi 404 em_159 (ce_at ce_159 141 rfl) (by omega) (iv_v1 (by decide) tq_48 rfl) em_175 (Nat.le_of_ble_eq_true rfl) rfl (tlib_printInt w (d - 1) (by omega) _ _) (fun r61 s61 => ?_)
    exact e_reti em_159 (ce_at ce_159 142 rfl)
  refine e_case 27 (fun h62 => ?_) (fun h62 => ?_)
  · refine e_sw em_159 405 (ce_at ce_159 1 rfl) (sw_in g1 (by omega) (by subst h62; rfl)) rfl ?_
    refine e_mv 406 em_159 (ce_at ce_159 143 rfl) rfl rfl ?_
    refine e_bip 408 em_159 (ce_at ce_159 144 rfl) (by decide) rfl ?_
    refine e_ivi 411 em_159 (ce_at ce_159 145 rfl) (by omega) (iv_v1 (by decide) tq_48 rfl) em_173 (Nat.le_of_ble_eq_true rfl) rfl (tlib_printChar w (d - 1) (by omega) _ _) (fun r63 s63 => ?_)
    exact e_reti em_159 (ce_at ce_159 146 rfl)
  refine e_case 28 (fun h64 => ?_) (fun h64 => ?_)
  · refine e_sw em_159 412 (ce_at ce_159 1 rfl) (sw_in g1 (by omega) (by subst h64; rfl)) rfl ?_
    refine e_mv 413 em_159 (ce_at ce_159 147 rfl) rfl rfl ?_
    refine e_ivi 416 em_159 (ce_at ce_159 148 rfl) (by omega) (iv_v0 (by decide) tq_48 rfl) em_176 (Nat.le_of_ble_eq_true rfl) rfl (tlib_nextKey w (d - 1) (by omega) _) (fun r65 s65 => ?_)
    exact e_reti em_159 (ce_at ce_159 149 rfl)
  refine e_case 29 (fun h66 => ?_) (fun h66 => ?_)
  · refine e_sw em_159 417 (ce_at ce_159 1 rfl) (sw_in g1 (by omega) (by subst h66; rfl)) rfl ?_
    refine e_mv 418 em_159 (ce_at ce_159 150 rfl) rfl rfl ?_
    refine e_ivi 421 em_159 (ce_at ce_159 151 rfl) (by omega) (iv_v0 (by decide) tq_48 rfl) em_177 (Nat.le_of_ble_eq_true rfl) rfl (tlib_readChar w (d - 1) (by omega) _) (fun r67 s67 => ?_)
    exact e_reti em_159 (ce_at ce_159 152 rfl)
  refine e_case 30 (fun h68 => ?_) (fun h68 => ?_)
  · refine e_sw em_159 422 (ce_at ce_159 1 rfl) (sw_in g1 (by omega) (by subst h68; rfl)) rfl ?_
    refine e_mv 423 em_159 (ce_at ce_159 153 rfl) rfl rfl ?_
    refine e_mv 424 em_159 (ce_at ce_159 154 rfl) rfl rfl ?_
    refine e_ivi 427 em_159 (ce_at ce_159 155 rfl) (by omega) (iv_v1 (by decide) tq_48 rfl) em_178 (Nat.le_of_ble_eq_true rfl) rfl (tlib_readLine w (d - 1) (by omega) _ _) (fun r69 s69 => ?_)
    exact e_reti em_159 (ce_at ce_159 156 rfl)
  refine e_case 31 (fun h70 => ?_) (fun h70 => ?_)
  · refine e_sw em_159 428 (ce_at ce_159 1 rfl) (sw_in g1 (by omega) (by subst h70; rfl)) rfl ?_
    refine e_mv 429 em_159 (ce_at ce_159 157 rfl) rfl rfl ?_
    refine e_getr 432 em_159 (ce_at ce_159 158 rfl) tq_48 rfl rfl ?_
    refine e_ivi 435 em_159 (ce_at ce_159 159 rfl) (by omega) (iv_v0 (by decide) tq_44 rfl) em_179 (Nat.le_of_ble_eq_true rfl) rfl (tmem_clearScreen w (d - 1) (by omega) _) (fun r71 s71 => ?_)
    exact e_reti em_159 (ce_at ce_159 160 rfl)
  refine e_case 32 (fun h72 => ?_) (fun h72 => ?_)
  · refine e_sw em_159 436 (ce_at ce_159 1 rfl) (sw_in g1 (by omega) (by subst h72; rfl)) rfl ?_
    refine e_mv 437 em_159 (ce_at ce_159 161 rfl) rfl rfl ?_
    refine e_mv 438 em_159 (ce_at ce_159 162 rfl) rfl rfl ?_
    refine e_ivi 441 em_159 (ce_at ce_159 163 rfl) (by omega) (iv_v1 (by decide) tq_48 rfl) em_180 (Nat.le_of_ble_eq_true rfl) rfl (tlib_setColor w (d - 1) (by omega) _ _) (fun r73 s73 => ?_)
    exact e_reti em_159 (ce_at ce_159 164 rfl)
  refine e_case 33 (fun h74 => ?_) (fun h74 => ?_)
  · refine e_sw em_159 442 (ce_at ce_159 1 rfl) (sw_in g1 (by omega) (by subst h74; rfl)) rfl ?_
    refine e_mv 443 em_159 (ce_at ce_159 165 rfl) rfl rfl ?_
    refine e_mv 444 em_159 (ce_at ce_159 166 rfl) rfl rfl ?_
    refine e_ivi 447 em_159 (ce_at ce_159 167 rfl) (by omega) (iv_s2 rfl) em_181 (Nat.le_of_ble_eq_true rfl) rfl (tlib_isPoint hT w (d - 1) (by omega) _ _ _) (fun r75 s75 => ?_)
    refine e_gd fun g76 => ?_
    refine e_ifeq 459 450 em_159 rfl rfl (ce_at ce_159 168 rfl) g76 (fun h77 => ?_) (fun h77 => ?_)
    · refine e_mv 460 em_159 (ce_at ce_159 174 rfl) rfl rfl ?_
      refine e_getr 463 em_159 (ce_at ce_159 175 rfl) tq_48 rfl rfl ?_
      refine e_bip 465 em_159 (ce_at ce_159 176 rfl) (by decide) rfl ?_
      refine e_ivi 468 em_159 (ce_at ce_159 177 rfl) (by omega) (iv_v1 (by decide) tq_44 rfl) em_152 (Nat.le_of_ble_eq_true rfl) rfl (tmem_fail w (d - 1) (by omega) _ _) (fun r78 s78 => ?_)
      exact e_reti em_159 (ce_at ce_159 178 rfl)
    · refine e_mv 451 em_159 (ce_at ce_159 169 rfl) rfl rfl ?_
      refine e_mv 452 em_159 (ce_at ce_159 170 rfl) rfl rfl ?_
      refine e_mv 453 em_159 (ce_at ce_159 171 rfl) rfl rfl ?_
      refine e_ivi 456 em_159 (ce_at ce_159 172 rfl) (by omega) (iv_v2 (by decide) tq_48 rfl) em_182 (Nat.le_of_ble_eq_true rfl) rfl (tlib_drawPoint w (d - 1) (by omega) _ _ _) (fun r79 s79 => ?_)
      refine e_goto em_159 468 (ce_at ce_159 173 rfl) rfl ?_
      exact e_reti em_159 (ce_at ce_159 178 rfl)
  refine e_case 34 (fun h80 => ?_) (fun h80 => ?_)
  · refine e_sw em_159 469 (ce_at ce_159 1 rfl) (sw_in g1 (by omega) (by subst h80; rfl)) rfl ?_
    refine e_mv 470 em_159 (ce_at ce_159 179 rfl) rfl rfl ?_
    refine e_mv 471 em_159 (ce_at ce_159 180 rfl) rfl rfl ?_
    refine e_mv 472 em_159 (ce_at ce_159 181 rfl) rfl rfl ?_
    refine e_mv 474 em_159 (ce_at ce_159 182 rfl) rfl rfl ?_
    refine e_mv 476 em_159 (ce_at ce_159 183 rfl) rfl rfl ?_
    refine e_ivi 479 em_159 (ce_at ce_159 184 rfl) (by omega) (iv_v4 (by decide) tq_48 rfl) em_184 (Nat.le_of_ble_eq_true rfl) rfl (tlib_drawLine w (d - 1) (by omega) _ _ _ _ _) (fun r81 s81 => ?_)
    exact e_reti em_159 (ce_at ce_159 185 rfl)
  refine e_case 35 (fun h82 => ?_) (fun h82 => ?_)
  · refine e_sw em_159 480 (ce_at ce_159 1 rfl) (sw_in g1 (by omega) (by subst h82; rfl)) rfl ?_
    refine e_mv 481 em_159 (ce_at ce_159 186 rfl) rfl rfl ?_
    refine e_mv 482 em_159 (ce_at ce_159 187 rfl) rfl rfl ?_
    refine e_mv 483 em_159 (ce_at ce_159 188 rfl) rfl rfl ?_
    refine e_mv 485 em_159 (ce_at ce_159 189 rfl) rfl rfl ?_
    refine e_mv 487 em_159 (ce_at ce_159 190 rfl) rfl rfl ?_
    refine e_ivi 490 em_159 (ce_at ce_159 191 rfl) (by omega) (iv_v4 (by decide) tq_48 rfl) em_185 (Nat.le_of_ble_eq_true rfl) rfl (tlib_drawRectangle w (d - 1) (by omega) _ _ _ _ _) (fun r83 s83 => ?_)
    exact e_reti em_159 (ce_at ce_159 192 rfl)
  refine e_case 36 (fun h84 => ?_) (fun h84 => ?_)
  · refine e_sw em_159 491 (ce_at ce_159 1 rfl) (sw_in g1 (by omega) (by subst h84; rfl)) rfl ?_
    refine e_mv 492 em_159 (ce_at ce_159 193 rfl) rfl rfl ?_
    refine e_mv 493 em_159 (ce_at ce_159 194 rfl) rfl rfl ?_
    refine e_mv 494 em_159 (ce_at ce_159 195 rfl) rfl rfl ?_
    refine e_mv 496 em_159 (ce_at ce_159 196 rfl) rfl rfl ?_
    refine e_ivi 499 em_159 (ce_at ce_159 197 rfl) (by omega) (iv_v3 (by decide) tq_48 rfl) em_187 (Nat.le_of_ble_eq_true rfl) rfl (tlib_drawCircle w (d - 1) (by omega) _ _ _ _) (fun r85 s85 => ?_)
    exact e_reti em_159 (ce_at ce_159 198 rfl)
  refine e_case 37 (fun h86 => ?_) (fun h86 => ?_)
  · refine e_sw em_159 500 (ce_at ce_159 1 rfl) (sw_in g1 (by omega) (by subst h86; rfl)) rfl ?_
    refine e_mv 501 em_159 (ce_at ce_159 199 rfl) rfl rfl ?_
    refine e_ivi 504 em_159 (ce_at ce_159 200 rfl) (by omega) (iv_v0 (by decide) tq_48 rfl) em_188 (Nat.le_of_ble_eq_true rfl) rfl (tlib_halt w (d - 1) (by omega) _) (fun r87 s87 => ?_)
    exact e_reti em_159 (ce_at ce_159 201 rfl)
  refine e_case 38 (fun h88 => ?_) (fun h88 => ?_)
  · refine e_sw em_159 505 (ce_at ce_159 1 rfl) (sw_in g1 (by omega) (by subst h88; rfl)) rfl ?_
    refine e_mv 506 em_159 (ce_at ce_159 202 rfl) rfl rfl ?_
    refine e_getr 509 em_159 (ce_at ce_159 203 rfl) tq_48 rfl rfl ?_
    refine e_mv 510 em_159 (ce_at ce_159 204 rfl) rfl rfl ?_
    refine e_ivi 513 em_159 (ce_at ce_159 205 rfl) (by omega) (iv_v1 (by decide) tq_44 rfl) em_152 (Nat.le_of_ble_eq_true rfl) rfl (tmem_fail w (d - 1) (by omega) _ _) (fun r89 s89 => ?_)
    exact e_reti em_159 (ce_at ce_159 206 rfl)
  refine e_case 39 (fun h90 => ?_) (fun h90 => ?_)
  · refine e_sw em_159 514 (ce_at ce_159 1 rfl) (sw_in g1 (by omega) (by subst h90; rfl)) rfl ?_
    refine e_mv 515 em_159 (ce_at ce_159 207 rfl) rfl rfl ?_
    refine e_op 516 em_159 (ce_at ce_159 208 rfl) rfl rfl ?_
    refine e_gd fun g91 => ?_
    refine e_cmge 530 519 em_159 rfl rfl (ce_at ce_159 209 rfl) g91 (by decide) (fun h92 => ?_) (fun h92 => ?_)
    · refine e_op 531 em_159 (ce_at ce_159 215 rfl) rfl rfl ?_
      exact e_reti em_159 (ce_at ce_159 216 rfl)
    · refine e_mv 520 em_159 (ce_at ce_159 210 rfl) rfl rfl ?_
      refine e_getr 523 em_159 (ce_at ce_159 211 rfl) tq_48 rfl rfl ?_
      refine e_op 524 em_159 (ce_at ce_159 212 rfl) rfl rfl ?_
      refine e_ivi 527 em_159 (ce_at ce_159 213 rfl) (by omega) (iv_v1 (by decide) tq_44 rfl) em_152 (Nat.le_of_ble_eq_true rfl) rfl (tmem_fail w (d - 1) (by omega) _ _) (fun r93 s93 => ?_)
      refine e_goto em_159 531 (ce_at ce_159 214 rfl) rfl ?_
      exact e_reti em_159 (ce_at ce_159 216 rfl)
  refine e_sw em_159 532 (ce_at ce_159 1 rfl) (sw_out g1 (by omega)) rfl ?_
  refine e_op 533 em_159 (ce_at ce_159 217 rfl) rfl rfl ?_
  exact e_reti em_159 (ce_at ce_159 218 rfl)
theorem flib_perform (v1 : Int) (v2 : Int) (v3 : Int) (v4 : Int) (v5 : Int) (s : iS) : Fm Prod.snd L_lib_perform G_lib_perform s (lib_perform v1 v2 v3 v4 v5 s) := fm_gd (fm_if (fm_bd (fm_sub (fmth_abs _ _) (mem_sub_L rfl) (mem_sub_F rfl)) (fun r3 s3 => fm_some md_refl)) (fm_if (fm_bd (fm_sub (fmth_min _ _ _) (mem_sub_L rfl) (mem_sub_F rfl)) (fun r5 s5 => fm_some md_refl)) (fm_if (fm_bd (fm_sub (fmth_max _ _ _) (mem_sub_L rfl) (mem_sub_F rfl)) (fun r7 s7 => fm_some md_refl)) (fm_if (fm_some md_refl) (fm_if (fm_gd (fm_if (fm_bd (fm_sub (fmem_fail _ _) (mem_sub_L rfl) (mem_sub_F rfl)) (fun r14 s14 => fm_some md_refl)) (fm_gd (fm_gd (fm_some md_refl))))) (fm_if (fm_gd (fm_if (fm_bd (fm_sub (flib_root _ _) (mem_sub_L rfl) (mem_sub_F rfl)) (fun r18 s18 => fm_some md_refl)) (fm_bd (fm_sub (fmem_fail _ _) (mem_sub_L rfl) (mem_sub_F rfl)) (fun r19 s19 => fm_some md_refl)))) (fm_if (fm_bd (fm_sub (fmem_read _ _) (mem_sub_L rfl) (mem_sub_F rfl)) (fun r21 s21 => fm_some md_refl)) (fm_if (fm_bd (fm_sub (fmem_write _ _ _) (mem_sub_L rfl) (mem_sub_F rfl)) (fun r23 s23 => fm_some md_refl)) (fm_if (fm_bd (fm_sub (fmem_allocate _ _) (mem_sub_L rfl) (mem_sub_F rfl)) (fun r25 s25 => fm_some md_refl)) (fm_if (fm_bd (fm_sub (fmem_release _ _) (mem_sub_L rfl) (mem_sub_F rfl)) (fun r27 s27 => fm_some md_refl)) (fm_if (fm_gd (fm_if (fm_bd (fm_sub (fmem_allocate _ _) (mem_sub_L rfl) (mem_sub_F rfl)) (fun r31 s31 => fm_some md_refl)) (fm_bd (fm_sub (fmem_fail _ _) (mem_sub_L rfl) (mem_sub_F rfl)) (fun r32 s32 => fm_some md_refl)))) (fm_if (fm_bd (fm_sub (fmem_release _ _) (mem_sub_L rfl) (mem_sub_F rfl)) (fun r34 s34 => fm_some md_refl)) (fm_if (fm_bd (fm_sub (flib_newString _ _) (mem_sub_L rfl) (mem_sub_F rfl)) (fun r36 s36 => fm_some md_refl)) (fm_if (fm_bd (fm_sub (fmem_read _ _) (mem_sub_L rfl) (mem_sub_F rfl)) (fun r38 s38 => fm_some md_refl)) (fm_if (fm_bd (fm_sub (flib_charAt _ _ _) (mem_sub_L rfl) (mem_sub_F rfl)) (fun r40 s40 => fm_some md_refl)) (fm_if (fm_bd (fm_sub (flib_setCharAt _ _ _ _) (mem_sub_L rfl) (mem_sub_F rfl)) (fun r42 s42 => fm_some md_refl)) (fm_if (fm_bd (fm_sub (flib_appendChar _ _ _) (mem_sub_L rfl) (mem_sub_F rfl)) (fun r44 s44 => fm_some md_refl)) (fm_if (fm_bd (fm_sub (flib_eraseLastChar _ _) (mem_sub_L rfl) (mem_sub_F rfl)) (fun r46 s46 => fm_some md_refl)) (fm_if (fm_bd (fm_sub (flib_intValue _ _) (mem_sub_L rfl) (mem_sub_F rfl)) (fun r48 s48 => fm_some md_refl)) (fm_if (fm_bd (fm_sub (flib_setInt _ _ _) (mem_sub_L rfl) (mem_sub_F rfl)) (fun r50 s50 => fm_some md_refl)) (fm_if (fm_bd (fm_sub (fmem_release _ _) (mem_sub_L rfl) (mem_sub_F rfl)) (fun r52 s52 => fm_some md_refl)) (fm_if (fm_some md_refl) (fm_if (fm_some md_refl) (fm_if (fm_some md_refl) (fm_if (fm_bd (fm_sub (flib_printChar _ _) (mem_sub_L rfl) (mem_sub_F rfl)) (fun r57 s57 => fm_some md_refl)) (fm_if (fm_bd (fm_sub (flib_printString _ _) (mem_sub_L rfl) (mem_sub_F rfl)) (fun r59 s59 => fm_some md_refl)) (fm_if (fm_bd (fm_sub (flib_printInt _ _) (mem_sub_L rfl) (mem_sub_F rfl)) (fun r61 s61 => fm_some md_refl)) (fm_if (fm_bd (fm_sub (flib_printChar _ _) (mem_sub_L rfl) (mem_sub_F rfl)) (fun r63 s63 => fm_some md_refl)) (fm_if (fm_bd (fm_sub (flib_nextKey _) (mem_sub_L rfl) (mem_sub_F rfl)) (fun r65 s65 => fm_some md_refl)) (fm_if (fm_bd (fm_sub (flib_readChar _) (mem_sub_L rfl) (mem_sub_F rfl)) (fun r67 s67 => fm_some md_refl)) (fm_if (fm_bd (fm_sub (flib_readLine _ _) (mem_sub_L rfl) (mem_sub_F rfl)) (fun r69 s69 => fm_some md_refl)) (fm_if (fm_bd (fm_sub (fmem_clearScreen _) (mem_sub_L rfl) (mem_sub_F rfl)) (fun r71 s71 => fm_some md_refl)) (fm_if (fm_bd (fm_sub (flib_setColor _ _) (mem_sub_L rfl) (mem_sub_F rfl)) (fun r73 s73 => fm_some md_refl)) (fm_if (fm_bd (fm_sub (flib_isPoint _ _ _) (mem_sub_L rfl) (mem_sub_F rfl)) (fun r75 s75 => fm_gd (fm_if (fm_bd (fm_sub (fmem_fail _ _) (mem_sub_L rfl) (mem_sub_F rfl)) (fun r78 s78 => fm_some md_refl)) (fm_bd (fm_sub (flib_drawPoint _ _ _) (mem_sub_L rfl) (mem_sub_F rfl)) (fun r79 s79 => fm_some md_refl))))) (fm_if (fm_bd (fm_sub (flib_drawLine _ _ _ _ _) (mem_sub_L rfl) (mem_sub_F rfl)) (fun r81 s81 => fm_some md_refl)) (fm_if (fm_bd (fm_sub (flib_drawRectangle _ _ _ _ _) (mem_sub_L rfl) (mem_sub_F rfl)) (fun r83 s83 => fm_some md_refl)) (fm_if (fm_bd (fm_sub (flib_drawCircle _ _ _ _) (mem_sub_L rfl) (mem_sub_F rfl)) (fun r85 s85 => fm_some md_refl)) (fm_if (fm_bd (fm_sub (flib_halt _) (mem_sub_L rfl) (mem_sub_F rfl)) (fun r87 s87 => fm_some md_refl)) (fm_if (fm_bd (fm_sub (fmem_fail _ _) (mem_sub_L rfl) (mem_sub_F rfl)) (fun r89 s89 => fm_some md_refl)) (fm_if (fm_gd (fm_if (fm_some md_refl) (fm_bd (fm_sub (fmem_fail _ _) (mem_sub_L rfl) (mem_sub_F rfl)) (fun r93 s93 => fm_some md_refl)))) (fm_some md_refl)))))))))))))))))))))))))))))))))))))))))
/-! mac_leave -/
def L_mac_leave : List Nat := [52]
def G_mac_leave : List (Nat × Nat) := [(51, 6), (51, 7), (51, 8), (51, 9), (51, 10), (51, 13), (51, 14), (51, 18)]
noncomputable def mac_leave_35 (s : iS) : Option (Int × iS) := gd (0 ≤ ((s 51 13) * 5) ∧ ((s 51 13) * 5) < 200) (lt' (up s 51 7 (s 53 ((s 51 13) * 5).toNat)) (fun s2 => gd (0 ≤ (((s 51 13) * 5) + 1) ∧ (((s 51 13) * 5) + 1) < 200) (lt' (up s2 51 8 (s2 53 (((s 51 13) * 5) + 1).toNat)) (fun s4 => gd (0 ≤ (((s 51 13) * 5) + 2) ∧ (((s 51 13) * 5) + 2) < 200) (lt' (up s4 51 9 (s4 53 (((s 51 13) * 5) + 2).toNat)) (fun s6 => gd (0 ≤ (((s 51 13) * 5) + 3) ∧ (((s 51 13) * 5) + 3) < 200) (lt' (up s6 51 10 (s6 53 (((s 51 13) * 5) + 3).toNat)) (fun s8 => gd (0 ≤ (((s 51 13) * 5) + 4) ∧ (((s 51 13) * 5) + 4) < 200) (lt' (up s8 51 18 (s8 53 (((s 51 13) * 5) + 4).toNat)) (fun s10 => gd (rg (s10 51 13)) (if (s10 51 13) = 0 then lt' (up s10 51 14 0) (fun s13 => some (0, s13)) else some (0, s10))))))))))))
theorem tmac_leave_35 (w : ev_W) (d : Nat) (hd : 1 ≤ d) (s : iS) : Ew hT w d 189 35 [(0, .ref (tb_nK + 51))] [] s (Cv hT) (mac_leave_35 s) := by
  unfold mac_leave_35
  refine e_mv 36 em_189 (ce_at ce_189 19 rfl) rfl rfl ?_
  refine e_get 39 em_189 (ce_at ce_189 20 rfl) tq_51 rfl rfl ?_
  refine e_op 40 em_189 (ce_at ce_189 21 rfl) rfl rfl ?_
  refine e_imul 41 em_189 rfl (ce_at ce_189 22 rfl) ?_
  refine e_mv 42 em_189 (ce_at ce_189 23 rfl) rfl rfl ?_
  refine e_mv 43 em_189 (ce_at ce_189 24 rfl) rfl rfl ?_
  refine e_mv 44 em_189 (ce_at ce_189 25 rfl) rfl rfl ?_
  refine e_getr 47 em_189 (ce_at ce_189 26 rfl) tq_51 rfl rfl ?_
  refine e_mv 48 em_189 (ce_at ce_189 27 rfl) rfl rfl ?_
  refine e_gd fun g1 => ?_
  refine e_ild 49 em_189 (ce_at ce_189 28 rfl) tq_53 (by decide) g1 rfl ?_
  refine e_put 52 em_189 (ce_at ce_189 29 rfl) tq_51 rfl rfl rfl (fun s2 => ?_)
  refine e_mv 53 em_189 (ce_at ce_189 30 rfl) rfl rfl ?_
  refine e_mv 54 em_189 (ce_at ce_189 31 rfl) rfl rfl ?_
  refine e_getr 57 em_189 (ce_at ce_189 32 rfl) tq_51 rfl rfl ?_
  refine e_mv 58 em_189 (ce_at ce_189 33 rfl) rfl rfl ?_
  refine e_op 59 em_189 (ce_at ce_189 34 rfl) rfl rfl ?_
  refine e_iadd 60 em_189 rfl (ce_at ce_189 35 rfl) ?_
  refine e_gd fun g3 => ?_
  refine e_ild 61 em_189 (ce_at ce_189 36 rfl) tq_53 (by decide) g3 rfl ?_
  refine e_put 64 em_189 (ce_at ce_189 37 rfl) tq_51 rfl rfl rfl (fun s4 => ?_)
  refine e_mv 65 em_189 (ce_at ce_189 38 rfl) rfl rfl ?_
  refine e_mv 66 em_189 (ce_at ce_189 39 rfl) rfl rfl ?_
  refine e_getr 69 em_189 (ce_at ce_189 40 rfl) tq_51 rfl rfl ?_
  refine e_mv 70 em_189 (ce_at ce_189 41 rfl) rfl rfl ?_
  refine e_op 71 em_189 (ce_at ce_189 42 rfl) rfl rfl ?_
  refine e_iadd 72 em_189 rfl (ce_at ce_189 43 rfl) ?_
  refine e_gd fun g5 => ?_
  refine e_ild 73 em_189 (ce_at ce_189 44 rfl) tq_53 (by decide) g5 rfl ?_
  refine e_put 76 em_189 (ce_at ce_189 45 rfl) tq_51 rfl rfl rfl (fun s6 => ?_)
  refine e_mv 77 em_189 (ce_at ce_189 46 rfl) rfl rfl ?_
  refine e_mv 78 em_189 (ce_at ce_189 47 rfl) rfl rfl ?_
  refine e_getr 81 em_189 (ce_at ce_189 48 rfl) tq_51 rfl rfl ?_
  refine e_mv 82 em_189 (ce_at ce_189 49 rfl) rfl rfl ?_
  refine e_op 83 em_189 (ce_at ce_189 50 rfl) rfl rfl ?_
  refine e_iadd 84 em_189 rfl (ce_at ce_189 51 rfl) ?_
  refine e_gd fun g7 => ?_
  refine e_ild 85 em_189 (ce_at ce_189 52 rfl) tq_53 (by decide) g7 rfl ?_
  refine e_put 88 em_189 (ce_at ce_189 53 rfl) tq_51 rfl rfl rfl (fun s8 => ?_)
  refine e_mv 89 em_189 (ce_at ce_189 54 rfl) rfl rfl ?_
  refine e_mv 90 em_189 (ce_at ce_189 55 rfl) rfl rfl ?_
  refine e_getr 93 em_189 (ce_at ce_189 56 rfl) tq_51 rfl rfl ?_
  refine e_mv 94 em_189 (ce_at ce_189 57 rfl) rfl rfl ?_
  refine e_op 95 em_189 (ce_at ce_189 58 rfl) rfl rfl ?_
  refine e_iadd 96 em_189 rfl (ce_at ce_189 59 rfl) ?_
  refine e_gd fun g9 => ?_
  refine e_ild 97 em_189 (ce_at ce_189 60 rfl) tq_53 (by decide) g9 rfl ?_
  refine e_put 100 em_189 (ce_at ce_189 61 rfl) tq_51 rfl rfl rfl (fun s10 => ?_)
  refine e_mv 101 em_189 (ce_at ce_189 62 rfl) rfl rfl ?_
  refine e_get 104 em_189 (ce_at ce_189 63 rfl) tq_51 rfl rfl ?_
  refine e_gd fun g11 => ?_
  refine e_ifne 112 107 em_189 rfl rfl (ce_at ce_189 64 rfl) g11 (fun h12 => ?_) (fun h12 => ?_)
  · exact e_retv em_189 (ce_at ce_189 68 rfl)
  · refine e_mv 108 em_189 (ce_at ce_189 65 rfl) rfl rfl ?_
    refine e_op 109 em_189 (ce_at ce_189 66 rfl) rfl rfl ?_
    refine e_put 112 em_189 (ce_at ce_189 67 rfl) tq_51 rfl rfl rfl (fun s13 => ?_)
    exact e_retv em_189 (ce_at ce_189 68 rfl)
theorem fmac_leave_35 (s : iS) : Fm Prod.snd L_mac_leave G_mac_leave s (mac_leave_35 s) := fm_gd (fm_lt (md_upF (mem_F rfl)) (fun s2 => fm_gd (fm_lt (md_upF (mem_F rfl)) (fun s4 => fm_gd (fm_lt (md_upF (mem_F rfl)) (fun s6 => fm_gd (fm_lt (md_upF (mem_F rfl)) (fun s8 => fm_gd (fm_lt (md_upF (mem_F rfl)) (fun s10 => fm_gd (fm_if (fm_lt (md_upF (mem_F rfl)) (fun s13 => fm_some md_refl)) (fm_some md_refl))))))))))))
noncomputable def mac_leave (s : iS) : Option (Int × iS) := bd (mac_pop s) (fun r1 s1 => lt' (up s1 51 6 (s1 51 8)) (fun s2 => bd (mac_push r1 s2) (fun _ s3 => gd (rg (s3 51 13)) (if (s3 51 13) ≤ 0 then mac_leave_35 s3 else lt' (up s3 51 13 ((s3 51 13) - 1)) (fun s6 => mac_leave_35 s6)))))
theorem tmac_leave (w : ev_W) (d : Nat) (hd : 1 ≤ d) (s : iS) : Ew hT w d 189 0 [(0, .ref (tb_nK + 51))] [] s (Cv hT) (mac_leave s) := by
  unfold mac_leave
  refine e_mv 1 em_189 (ce_at ce_189 0 rfl) rfl rfl ?_
  refine e_ivi 4 em_189 (ce_at ce_189 1 rfl) (by omega) (iv_v0 (by decide) tq_51 rfl) em_154 (Nat.le_of_ble_eq_true rfl) rfl (tmac_pop w (d - 1) (by omega) _) (fun r1 s1 => ?_)
  refine e_mv 5 em_189 (ce_at ce_189 2 rfl) rfl rfl ?_
  refine e_mv 6 em_189 (ce_at ce_189 3 rfl) rfl rfl ?_
  refine e_mv 7 em_189 (ce_at ce_189 4 rfl) rfl rfl ?_
  refine e_get 10 em_189 (ce_at ce_189 5 rfl) tq_51 rfl rfl ?_
  refine e_put 13 em_189 (ce_at ce_189 6 rfl) tq_51 rfl rfl rfl (fun s2 => ?_)
  refine e_mv 14 em_189 (ce_at ce_189 7 rfl) rfl rfl ?_
  refine e_mv 15 em_189 (ce_at ce_189 8 rfl) rfl rfl ?_
  refine e_ivv 18 em_189 (ce_at ce_189 9 rfl) (by omega) (iv_v1 (by decide) tq_51 rfl) em_153 (Nat.le_of_ble_eq_true rfl) rfl (tmac_push w (d - 1) (by omega) _ _) (fun r3 s3 => ?_)
  refine e_mv 19 em_189 (ce_at ce_189 10 rfl) rfl rfl ?_
  refine e_get 22 em_189 (ce_at ce_189 11 rfl) tq_51 rfl rfl ?_
  refine e_gd fun g4 => ?_
  refine e_ifle 35 25 em_189 rfl rfl (ce_at ce_189 12 rfl) g4 (fun h5 => ?_) (fun h5 => ?_)
  · refine e_pk [0] rfl rfl ?_
    exact tmac_leave_35 w d hd _
  · refine e_mv 26 em_189 (ce_at ce_189 13 rfl) rfl rfl ?_
    refine e_op 27 em_189 (ce_at ce_189 14 rfl) rfl rfl ?_
    refine e_get 30 em_189 (ce_at ce_189 15 rfl) tq_51 rfl rfl ?_
    refine e_op 31 em_189 (ce_at ce_189 16 rfl) rfl rfl ?_
    refine e_isub 32 em_189 rfl (ce_at ce_189 17 rfl) ?_
    refine e_put 35 em_189 (ce_at ce_189 18 rfl) tq_51 rfl rfl rfl (fun s6 => ?_)
    refine e_pk [0] rfl rfl ?_
    exact tmac_leave_35 w d hd _
theorem fmac_leave (s : iS) : Fm Prod.snd L_mac_leave G_mac_leave s (mac_leave s) := fm_bd (fm_sub (fmac_pop _) (mem_sub_L rfl) (mem_sub_F rfl)) (fun r1 s1 => fm_lt (md_upF (mem_F rfl)) (fun s2 => fm_bd (fm_sub (fmac_push _ _) (mem_sub_L rfl) (mem_sub_F rfl)) (fun r3 s3 => fm_gd (fm_if (fmac_leave_35 _) (fm_lt (md_upF (mem_F rfl)) (fun s6 => fmac_leave_35 _))))))
/-! mac_doCommand -/
def L_mac_doCommand : List Nat := [45, 46, 47, 49, 52, 53, 54]
def G_mac_doCommand : List (Nat × Nat) := [(44, 3), (44, 4), (44, 5), (44, 6), (48, 3), (48, 6), (48, 8), (48, 9), (51, 6), (51, 7), (51, 8), (51, 9), (51, 10), (51, 11), (51, 12), (51, 13), (51, 14), (51, 16), (51, 17), (51, 18)]
noncomputable def mac_doCommand_258 (s : iS) : Option (Int × iS) := gd (rg (s 44 5)) (if (s 44 5) = 0 then gd (rg (s 48 9)) (if (s 48 9) = 0 then some (0, s) else lt' (up s 51 14 0) (fun s5 => some (0, s5))) else lt' (up s 51 14 3) (fun s6 => some (0, s6)))
theorem tmac_doCommand_258 (w : ev_W) (d : Nat) (hd : 6 ≤ d) (s : iS) : Ew hT w d 147 258 [(0, .ref (tb_nK + 51))] [] s (Cv hT) (mac_doCommand_258 s) := by
  unfold mac_doCommand_258
  refine e_mv 259 em_147 (ce_at ce_147 90 rfl) rfl rfl ?_
  refine e_getr 262 em_147 (ce_at ce_147 91 rfl) tq_51 rfl rfl ?_
  refine e_get 265 em_147 (ce_at ce_147 92 rfl) tq_44 rfl rfl ?_
  refine e_gd fun g1 => ?_
  refine e_ifeq 276 268 em_147 rfl rfl (ce_at ce_147 93 rfl) g1 (fun h2 => ?_) (fun h2 => ?_)
  · refine e_mv 277 em_147 (ce_at ce_147 98 rfl) rfl rfl ?_
    refine e_getr 280 em_147 (ce_at ce_147 99 rfl) tq_51 rfl rfl ?_
    refine e_get 283 em_147 (ce_at ce_147 100 rfl) tq_48 rfl rfl ?_
    refine e_gd fun g3 => ?_
    refine e_ifeq 291 286 em_147 rfl rfl (ce_at ce_147 101 rfl) g3 (fun h4 => ?_) (fun h4 => ?_)
    · exact e_retv em_147 (ce_at ce_147 105 rfl)
    · refine e_mv 287 em_147 (ce_at ce_147 102 rfl) rfl rfl ?_
      refine e_op 288 em_147 (ce_at ce_147 103 rfl) rfl rfl ?_
      refine e_put 291 em_147 (ce_at ce_147 104 rfl) tq_51 rfl rfl rfl (fun s5 => ?_)
      exact e_retv em_147 (ce_at ce_147 105 rfl)
  · refine e_mv 269 em_147 (ce_at ce_147 94 rfl) rfl rfl ?_
    refine e_op 270 em_147 (ce_at ce_147 95 rfl) rfl rfl ?_
    refine e_put 273 em_147 (ce_at ce_147 96 rfl) tq_51 rfl rfl rfl (fun s6 => ?_)
    refine e_goto em_147 291 (ce_at ce_147 97 rfl) rfl ?_
    exact e_retv em_147 (ce_at ce_147 105 rfl)
theorem fmac_doCommand_258 (s : iS) : Fm Prod.snd L_mac_doCommand G_mac_doCommand s (mac_doCommand_258 s) := fm_gd (fm_if (fm_gd (fm_if (fm_some md_refl) (fm_lt (md_upF (mem_F rfl)) (fun s5 => fm_some md_refl)))) (fm_lt (md_upF (mem_F rfl)) (fun s6 => fm_some md_refl)))
noncomputable def mac_doCommand_143 (t0 : Int) (s : iS) : Option (Int × iS) := lt' (up s 51 7 t0) (fun s1 => mac_doCommand_258 s1)
theorem tmac_doCommand_143 (w : ev_W) (d : Nat) (hd : 6 ≤ d) (t0 : Int) (s : iS) : Ew hT w d 147 143 [(0, .ref (tb_nK + 51))] [iv t0, .ref (tb_nK + 51)] s (Cv hT) (mac_doCommand_143 t0 s) := by
  unfold mac_doCommand_143
  refine e_put 146 em_147 (ce_at ce_147 31 rfl) tq_51 rfl rfl rfl (fun s1 => ?_)
  refine e_goto em_147 258 (ce_at ce_147 32 rfl) rfl ?_
  refine e_pk [0] rfl rfl ?_
  exact tmac_doCommand_258 w d hd _
theorem fmac_doCommand_143 (t0 : Int) (s : iS) : Fm Prod.snd L_mac_doCommand G_mac_doCommand s (mac_doCommand_143 t0 s) := fm_lt (md_upF (mem_F rfl)) (fun s1 => fmac_doCommand_258 _)
noncomputable def mac_doCommand (v1 : Int) (v2 : Int) (v3 : Int) (v4 : Int) (s : iS) : Option (Int × iS) := gd (rg v1) (if v1 = 0 then bd (mac_valueOf v2 v3 v4 s) (fun r3 s3 => bd (mac_push r3 s3) (fun _ s4 => mac_doCommand_258 s4)) else if v1 = 1 then bd (mac_pop s) (fun r6 s6 => bd (mac_assign v2 v3 v4 r6 s6) (fun _ s7 => mac_doCommand_258 s7)) else if v1 = 2 then bd (mac_pop s) (fun r9 s9 => bd (mac_calculate v1 r9 s9) (fun _ s10 => mac_doCommand_258 s10)) else if v1 = 3 then bd (mac_pop s) (fun r12 s12 => bd (mac_calculate v1 r12 s12) (fun _ s13 => mac_doCommand_258 s13)) else if v1 = 4 then bd (mac_pop s) (fun r15 s15 => bd (mac_calculate v1 r15 s15) (fun _ s16 => mac_doCommand_258 s16)) else if v1 = 5 then bd (mac_pop s) (fun r18 s18 => bd (mac_calculate v1 r18 s18) (fun _ s19 => mac_doCommand_258 s19)) else if v1 = 6 then bd (mac_pop s) (fun r21 s21 => bd (mac_calculate v1 r21 s21) (fun _ s22 => mac_doCommand_258 s22)) else if v1 = 7 then bd (mac_pop s) (fun r24 s24 => bd (mac_calculate v1 r24 s24) (fun _ s25 => mac_doCommand_258 s25)) else if v1 = 8 then bd (mac_pop s) (fun r27 s27 => bd (mac_calculate v1 r27 s27) (fun _ s28 => mac_doCommand_258 s28)) else if v1 = 9 then bd (mac_pop s) (fun r30 s30 => bd (mac_calculate v1 r30 s30) (fun _ s31 => mac_doCommand_258 s31)) else if v1 = 10 then bd (mac_pop s) (fun r33 s33 => bd (mac_calculate v1 r33 s33) (fun _ s34 => mac_doCommand_258 s34)) else if v1 = 11 then mac_doCommand_258 s else if v1 = 12 then lt' (up s 51 7 v4) (fun s37 => mac_doCommand_258 s37) else if v1 = 13 then bd (mac_pop s) (fun r39 s39 => gd (rg r39) (if r39 = 0 then mac_doCommand_143 (s39 51 7) s39 else mac_doCommand_143 v4 s39)) else if v1 = 14 then bd (mac_makeLocals v3 s) (fun _ s43 => mac_doCommand_258 s43) else if v1 = 15 then gd (rg v2) (if v2 < 800 then bd (mac_at ((s 51 6) - v3) s) (fun r47 s47 => bd (mac_at (((s 51 6) - v3) + 1) s47) (fun r48 s48 => bd (mac_at (((s 51 6) - v3) + 2) s48) (fun r49 s49 => bd (mac_at (((s 51 6) - v3) + 3) s49) (fun r50 s50 => bd (lib_perform v4 r47 r48 r49 r50 s50) (fun r51 s51 => bd (mth_max 0 ((s 51 6) - v3) s51) (fun r52 s52 => lt' (up s52 51 6 r52) (fun s53 => bd (mac_push r51 s53) (fun _ s54 => mac_doCommand_258 s54)))))))) else bd (mac_enter v4 v3 s) (fun _ s55 => mac_doCommand_258 s55)) else if v1 = 16 then bd (mac_leave s) (fun _ s57 => mac_doCommand_258 s57) else bd (mac_pop s) (fun r58 s58 => bd (mac_calculate v1 r58 s58) (fun _ s59 => mac_doCommand_258 s59)))
theorem tmac_doCommand (w : ev_W) (d : Nat) (hd : 6 ≤ d) (v1 : Int) (v2 : Int) (v3 : Int) (v4 : Int) (s : iS) : Ew hT w d 147 0 [(0, .ref (tb_nK + 51)), (1, iv v1), (2, iv v2), (3, iv v3), (4, iv v4)] [] s (Cv hT) (mac_doCommand v1 v2 v3 v4 s) := by
  unfold mac_doCommand
  refine e_mv 1 em_147 (ce_at ce_147 0 rfl) rfl rfl ?_
  refine e_gd fun g1 => ?_
  refine e_case 0 (fun h2 => ?_) (fun h2 => ?_)
  · refine e_sw em_147 84 (ce_at ce_147 1 rfl) (sw_in g1 (by omega) (by subst h2; rfl)) rfl ?_
    refine e_mv 85 em_147 (ce_at ce_147 2 rfl) rfl rfl ?_
    refine e_mv 86 em_147 (ce_at ce_147 3 rfl) rfl rfl ?_
    refine e_mv 87 em_147 (ce_at ce_147 4 rfl) rfl rfl ?_
    refine e_mv 88 em_147 (ce_at ce_147 5 rfl) rfl rfl ?_
    refine e_mv 90 em_147 (ce_at ce_147 6 rfl) rfl rfl ?_
    refine e_ivi 93 em_147 (ce_at ce_147 7 rfl) (by omega) (iv_v3 (by decide) tq_51 rfl) em_148 (Nat.le_of_ble_eq_true rfl) rfl (tmac_valueOf w (d - 1) (by omega) _ _ _ _) (fun r3 s3 => ?_)
    refine e_ivv 96 em_147 (ce_at ce_147 8 rfl) (by omega) (iv_v1 (by decide) tq_51 rfl) em_153 (Nat.le_of_ble_eq_true rfl) rfl (tmac_push w (d - 1) (by omega) _ _) (fun r4 s4 => ?_)
    refine e_goto em_147 258 (ce_at ce_147 9 rfl) rfl ?_
    refine e_pk [0] rfl rfl ?_
    exact tmac_doCommand_258 w d hd _
  refine e_case 1 (fun h5 => ?_) (fun h5 => ?_)
  · refine e_sw em_147 99 (ce_at ce_147 1 rfl) (sw_in g1 (by omega) (by subst h5; rfl)) rfl ?_
    refine e_mv 100 em_147 (ce_at ce_147 10 rfl) rfl rfl ?_
    refine e_mv 101 em_147 (ce_at ce_147 11 rfl) rfl rfl ?_
    refine e_mv 102 em_147 (ce_at ce_147 12 rfl) rfl rfl ?_
    refine e_mv 104 em_147 (ce_at ce_147 13 rfl) rfl rfl ?_
    refine e_mv 105 em_147 (ce_at ce_147 14 rfl) rfl rfl ?_
    refine e_ivi 108 em_147 (ce_at ce_147 15 rfl) (by omega) (iv_v0 (by decide) tq_51 rfl) em_154 (Nat.le_of_ble_eq_true rfl) rfl (tmac_pop w (d - 1) (by omega) _) (fun r6 s6 => ?_)
    refine e_ivv 111 em_147 (ce_at ce_147 16 rfl) (by omega) (iv_v4 (by decide) tq_51 rfl) em_155 (Nat.le_of_ble_eq_true rfl) rfl (tmac_assign w (d - 1) (by omega) _ _ _ _ _) (fun r7 s7 => ?_)
    refine e_goto em_147 258 (ce_at ce_147 17 rfl) rfl ?_
    refine e_pk [0] rfl rfl ?_
    exact tmac_doCommand_258 w d hd _
  refine e_case 2 (fun h8 => ?_) (fun h8 => ?_)
  · refine e_sw em_147 249 (ce_at ce_147 1 rfl) (sw_in g1 (by omega) (by subst h8; rfl)) rfl ?_
    refine e_mv 250 em_147 (ce_at ce_147 85 rfl) rfl rfl ?_
    refine e_mv 251 em_147 (ce_at ce_147 86 rfl) rfl rfl ?_
    refine e_mv 252 em_147 (ce_at ce_147 87 rfl) rfl rfl ?_
    refine e_ivi 255 em_147 (ce_at ce_147 88 rfl) (by omega) (iv_v0 (by decide) tq_51 rfl) em_154 (Nat.le_of_ble_eq_true rfl) rfl (tmac_pop w (d - 1) (by omega) _) (fun r9 s9 => ?_)
    refine e_ivv 258 em_147 (ce_at ce_147 89 rfl) (by omega) (iv_v2 (by decide) tq_51 rfl) em_190 (Nat.le_of_ble_eq_true rfl) rfl (tmac_calculate w (d - 1) (by omega) _ _ _) (fun r10 s10 => ?_)
    refine e_pk [0] rfl rfl ?_
    exact tmac_doCommand_258 w d hd _
  refine e_case 3 (fun h11 => ?_) (fun h11 => ?_)
  · refine e_sw em_147 249 (ce_at ce_147 1 rfl) (sw_in g1 (by omega) (by subst h11; rfl)) rfl ?_
    refine e_mv 250 em_147 (ce_at ce_147 85 rfl) rfl rfl ?_
    refine e_mv 251 em_147 (ce_at ce_147 86 rfl) rfl rfl ?_
    refine e_mv 252 em_147 (ce_at ce_147 87 rfl) rfl rfl ?_
    refine e_ivi 255 em_147 (ce_at ce_147 88 rfl) (by omega) (iv_v0 (by decide) tq_51 rfl) em_154 (Nat.le_of_ble_eq_true rfl) rfl (tmac_pop w (d - 1) (by omega) _) (fun r12 s12 => ?_)
    refine e_ivv 258 em_147 (ce_at ce_147 89 rfl) (by omega) (iv_v2 (by decide) tq_51 rfl) em_190 (Nat.le_of_ble_eq_true rfl) rfl (tmac_calculate w (d - 1) (by omega) _ _ _) (fun r13 s13 => ?_)
    refine e_pk [0] rfl rfl ?_
    exact tmac_doCommand_258 w d hd _
  refine e_case 4 (fun h14 => ?_) (fun h14 => ?_)
  · refine e_sw em_147 249 (ce_at ce_147 1 rfl) (sw_in g1 (by omega) (by subst h14; rfl)) rfl ?_
    refine e_mv 250 em_147 (ce_at ce_147 85 rfl) rfl rfl ?_
    refine e_mv 251 em_147 (ce_at ce_147 86 rfl) rfl rfl ?_
    refine e_mv 252 em_147 (ce_at ce_147 87 rfl) rfl rfl ?_
    refine e_ivi 255 em_147 (ce_at ce_147 88 rfl) (by omega) (iv_v0 (by decide) tq_51 rfl) em_154 (Nat.le_of_ble_eq_true rfl) rfl (tmac_pop w (d - 1) (by omega) _) (fun r15 s15 => ?_)
    refine e_ivv 258 em_147 (ce_at ce_147 89 rfl) (by omega) (iv_v2 (by decide) tq_51 rfl) em_190 (Nat.le_of_ble_eq_true rfl) rfl (tmac_calculate w (d - 1) (by omega) _ _ _) (fun r16 s16 => ?_)
    refine e_pk [0] rfl rfl ?_
    exact tmac_doCommand_258 w d hd _
  refine e_case 5 (fun h17 => ?_) (fun h17 => ?_)
  · refine e_sw em_147 249 (ce_at ce_147 1 rfl) (sw_in g1 (by omega) (by subst h17; rfl)) rfl ?_
    refine e_mv 250 em_147 (ce_at ce_147 85 rfl) rfl rfl ?_
    refine e_mv 251 em_147 (ce_at ce_147 86 rfl) rfl rfl ?_
    refine e_mv 252 em_147 (ce_at ce_147 87 rfl) rfl rfl ?_
    refine e_ivi 255 em_147 (ce_at ce_147 88 rfl) (by omega) (iv_v0 (by decide) tq_51 rfl) em_154 (Nat.le_of_ble_eq_true rfl) rfl (tmac_pop w (d - 1) (by omega) _) (fun r18 s18 => ?_)
    refine e_ivv 258 em_147 (ce_at ce_147 89 rfl) (by omega) (iv_v2 (by decide) tq_51 rfl) em_190 (Nat.le_of_ble_eq_true rfl) rfl (tmac_calculate w (d - 1) (by omega) _ _ _) (fun r19 s19 => ?_)
    refine e_pk [0] rfl rfl ?_
    exact tmac_doCommand_258 w d hd _
  refine e_case 6 (fun h20 => ?_) (fun h20 => ?_)
  · refine e_sw em_147 249 (ce_at ce_147 1 rfl) (sw_in g1 (by omega) (by subst h20; rfl)) rfl ?_
    refine e_mv 250 em_147 (ce_at ce_147 85 rfl) rfl rfl ?_
    refine e_mv 251 em_147 (ce_at ce_147 86 rfl) rfl rfl ?_
    refine e_mv 252 em_147 (ce_at ce_147 87 rfl) rfl rfl ?_
    refine e_ivi 255 em_147 (ce_at ce_147 88 rfl) (by omega) (iv_v0 (by decide) tq_51 rfl) em_154 (Nat.le_of_ble_eq_true rfl) rfl (tmac_pop w (d - 1) (by omega) _) (fun r21 s21 => ?_)
    refine e_ivv 258 em_147 (ce_at ce_147 89 rfl) (by omega) (iv_v2 (by decide) tq_51 rfl) em_190 (Nat.le_of_ble_eq_true rfl) rfl (tmac_calculate w (d - 1) (by omega) _ _ _) (fun r22 s22 => ?_)
    refine e_pk [0] rfl rfl ?_
    exact tmac_doCommand_258 w d hd _
  refine e_case 7 (fun h23 => ?_) (fun h23 => ?_)
  · refine e_sw em_147 249 (ce_at ce_147 1 rfl) (sw_in g1 (by omega) (by subst h23; rfl)) rfl ?_
    refine e_mv 250 em_147 (ce_at ce_147 85 rfl) rfl rfl ?_
    refine e_mv 251 em_147 (ce_at ce_147 86 rfl) rfl rfl ?_
    refine e_mv 252 em_147 (ce_at ce_147 87 rfl) rfl rfl ?_
    refine e_ivi 255 em_147 (ce_at ce_147 88 rfl) (by omega) (iv_v0 (by decide) tq_51 rfl) em_154 (Nat.le_of_ble_eq_true rfl) rfl (tmac_pop w (d - 1) (by omega) _) (fun r24 s24 => ?_)
    refine e_ivv 258 em_147 (ce_at ce_147 89 rfl) (by omega) (iv_v2 (by decide) tq_51 rfl) em_190 (Nat.le_of_ble_eq_true rfl) rfl (tmac_calculate w (d - 1) (by omega) _ _ _) (fun r25 s25 => ?_)
    refine e_pk [0] rfl rfl ?_
    exact tmac_doCommand_258 w d hd _
  refine e_case 8 (fun h26 => ?_) (fun h26 => ?_)
  · refine e_sw em_147 249 (ce_at ce_147 1 rfl) (sw_in g1 (by omega) (by subst h26; rfl)) rfl ?_
    refine e_mv 250 em_147 (ce_at ce_147 85 rfl) rfl rfl ?_
    refine e_mv 251 em_147 (ce_at ce_147 86 rfl) rfl rfl ?_
    refine e_mv 252 em_147 (ce_at ce_147 87 rfl) rfl rfl ?_
    refine e_ivi 255 em_147 (ce_at ce_147 88 rfl) (by omega) (iv_v0 (by decide) tq_51 rfl) em_154 (Nat.le_of_ble_eq_true rfl) rfl (tmac_pop w (d - 1) (by omega) _) (fun r27 s27 => ?_)
    refine e_ivv 258 em_147 (ce_at ce_147 89 rfl) (by omega) (iv_v2 (by decide) tq_51 rfl) em_190 (Nat.le_of_ble_eq_true rfl) rfl (tmac_calculate w (d - 1) (by omega) _ _ _) (fun r28 s28 => ?_)
    refine e_pk [0] rfl rfl ?_
    exact tmac_doCommand_258 w d hd _
  refine e_case 9 (fun h29 => ?_) (fun h29 => ?_)
  · refine e_sw em_147 249 (ce_at ce_147 1 rfl) (sw_in g1 (by omega) (by subst h29; rfl)) rfl ?_
    refine e_mv 250 em_147 (ce_at ce_147 85 rfl) rfl rfl ?_
    refine e_mv 251 em_147 (ce_at ce_147 86 rfl) rfl rfl ?_
    refine e_mv 252 em_147 (ce_at ce_147 87 rfl) rfl rfl ?_
    refine e_ivi 255 em_147 (ce_at ce_147 88 rfl) (by omega) (iv_v0 (by decide) tq_51 rfl) em_154 (Nat.le_of_ble_eq_true rfl) rfl (tmac_pop w (d - 1) (by omega) _) (fun r30 s30 => ?_)
    refine e_ivv 258 em_147 (ce_at ce_147 89 rfl) (by omega) (iv_v2 (by decide) tq_51 rfl) em_190 (Nat.le_of_ble_eq_true rfl) rfl (tmac_calculate w (d - 1) (by omega) _ _ _) (fun r31 s31 => ?_)
    refine e_pk [0] rfl rfl ?_
    exact tmac_doCommand_258 w d hd _
  refine e_case 10 (fun h32 => ?_) (fun h32 => ?_)
  · refine e_sw em_147 249 (ce_at ce_147 1 rfl) (sw_in g1 (by omega) (by subst h32; rfl)) rfl ?_
    refine e_mv 250 em_147 (ce_at ce_147 85 rfl) rfl rfl ?_
    refine e_mv 251 em_147 (ce_at ce_147 86 rfl) rfl rfl ?_
    refine e_mv 252 em_147 (ce_at ce_147 87 rfl) rfl rfl ?_
    refine e_ivi 255 em_147 (ce_at ce_147 88 rfl) (by omega) (iv_v0 (by decide) tq_51 rfl) em_154 (Nat.le_of_ble_eq_true rfl) rfl (tmac_pop w (d - 1) (by omega) _) (fun r33 s33 => ?_)
    refine e_ivv 258 em_147 (ce_at ce_147 89 rfl) (by omega) (iv_v2 (by decide) tq_51 rfl) em_190 (Nat.le_of_ble_eq_true rfl) rfl (tmac_calculate w (d - 1) (by omega) _ _ _) (fun r34 s34 => ?_)
    refine e_pk [0] rfl rfl ?_
    exact tmac_doCommand_258 w d hd _
  refine e_case 11 (fun h35 => ?_) (fun h35 => ?_)
  · refine e_sw em_147 114 (ce_at ce_147 1 rfl) (sw_in g1 (by omega) (by subst h35; rfl)) rfl ?_
    refine e_goto em_147 258 (ce_at ce_147 18 rfl) rfl ?_
    refine e_pk [0] rfl rfl ?_
    exact tmac_doCommand_258 w d hd _
  refine e_case 12 (fun h36 => ?_) (fun h36 => ?_)
  · refine e_sw em_147 117 (ce_at ce_147 1 rfl) (sw_in g1 (by omega) (by subst h36; rfl)) rfl ?_
    refine e_mv 118 em_147 (ce_at ce_147 19 rfl) rfl rfl ?_
    refine e_mv 120 em_147 (ce_at ce_147 20 rfl) rfl rfl ?_
    refine e_put 123 em_147 (ce_at ce_147 21 rfl) tq_51 rfl rfl rfl (fun s37 => ?_)
    refine e_goto em_147 258 (ce_at ce_147 22 rfl) rfl ?_
    refine e_pk [0] rfl rfl ?_
    exact tmac_doCommand_258 w d hd _
  refine e_case 13 (fun h38 => ?_) (fun h38 => ?_)
  · refine e_sw em_147 126 (ce_at ce_147 1 rfl) (sw_in g1 (by omega) (by subst h38; rfl)) rfl ?_
    refine e_mv 127 em_147 (ce_at ce_147 23 rfl) rfl rfl ?_
    refine e_mv 128 em_147 (ce_at ce_147 24 rfl) rfl rfl ?_
    refine e_ivi 131 em_147 (ce_at ce_147 25 rfl) (by omega) (iv_v0 (by decide) tq_51 rfl) em_154 (Nat.le_of_ble_eq_true rfl) rfl (tmac_pop w (d - 1) (by omega) _) (fun r39 s39 => ?_)
    refine e_gd fun g40 => ?_
    refine e_ifeq 139 134 em_147 rfl rfl (ce_at ce_147 26 rfl) g40 (fun h41 => ?_) (fun h41 => ?_)
    · refine e_mv 140 em_147 (ce_at ce_147 29 rfl) rfl rfl ?_
      refine e_get 143 em_147 (ce_at ce_147 30 rfl) tq_51 rfl rfl ?_
      refine e_pk [0] rfl rfl ?_
      exact tmac_doCommand_143 w d hd _ _
    · refine e_mv 136 em_147 (ce_at ce_147 27 rfl) rfl rfl ?_
      refine e_goto em_147 143 (ce_at ce_147 28 rfl) rfl ?_
      refine e_pk [0] rfl rfl ?_
      exact tmac_doCommand_143 w d hd _ _
  refine e_case 14 (fun h42 => ?_) (fun h42 => ?_)
  · refine e_sw em_147 149 (ce_at ce_147 1 rfl) (sw_in g1 (by omega) (by subst h42; rfl)) rfl ?_
    refine e_mv 150 em_147 (ce_at ce_147 33 rfl) rfl rfl ?_
    refine e_mv 151 em_147 (ce_at ce_147 34 rfl) rfl rfl ?_
    refine e_ivv 154 em_147 (ce_at ce_147 35 rfl) (by omega) (iv_v1 (by decide) tq_51 rfl) em_158 (Nat.le_of_ble_eq_true rfl) rfl (tmac_makeLocals w (d - 1) (by omega) _ _) (fun r43 s43 => ?_)
    refine e_goto em_147 258 (ce_at ce_147 36 rfl) rfl ?_
    refine e_pk [0] rfl rfl ?_
    exact tmac_doCommand_258 w d hd _
  refine e_case 15 (fun h44 => ?_) (fun h44 => ?_)
  · refine e_sw em_147 157 (ce_at ce_147 1 rfl) (sw_in g1 (by omega) (by subst h44; rfl)) rfl ?_
    refine e_mv 158 em_147 (ce_at ce_147 37 rfl) rfl rfl ?_
    refine e_sip 161 em_147 (ce_at ce_147 38 rfl) (by decide) rfl ?_
    refine e_gd fun g45 => ?_
    refine e_cmlt 174 164 em_147 rfl rfl (ce_at ce_147 39 rfl) g45 (by decide) (fun h46 => ?_) (fun h46 => ?_)
    · refine e_mv 175 em_147 (ce_at ce_147 45 rfl) rfl rfl ?_
      refine e_get 178 em_147 (ce_at ce_147 46 rfl) tq_51 rfl rfl ?_
      refine e_mv 179 em_147 (ce_at ce_147 47 rfl) rfl rfl ?_
      refine e_isub 180 em_147 rfl (ce_at ce_147 48 rfl) ?_
      refine e_mv 182 em_147 (ce_at ce_147 49 rfl) rfl rfl ?_
      refine e_mv 183 em_147 (ce_at ce_147 50 rfl) rfl rfl ?_
      refine e_getr 186 em_147 (ce_at ce_147 51 rfl) tq_51 rfl rfl ?_
      refine e_mv 188 em_147 (ce_at ce_147 52 rfl) rfl rfl ?_
      refine e_mv 189 em_147 (ce_at ce_147 53 rfl) rfl rfl ?_
      refine e_mv 191 em_147 (ce_at ce_147 54 rfl) rfl rfl ?_
      refine e_ivi 194 em_147 (ce_at ce_147 55 rfl) (by omega) (iv_v1 (by decide) tq_51 rfl) em_149 (Nat.le_of_ble_eq_true rfl) rfl (tmac_at w (d - 1) (by omega) _ _) (fun r47 s47 => ?_)
      refine e_mv 195 em_147 (ce_at ce_147 56 rfl) rfl rfl ?_
      refine e_mv 197 em_147 (ce_at ce_147 57 rfl) rfl rfl ?_
      refine e_op 198 em_147 (ce_at ce_147 58 rfl) rfl rfl ?_
      refine e_iadd 199 em_147 rfl (ce_at ce_147 59 rfl) ?_
      refine e_ivi 202 em_147 (ce_at ce_147 60 rfl) (by omega) (iv_v1 (by decide) tq_51 rfl) em_149 (Nat.le_of_ble_eq_true rfl) rfl (tmac_at w (d - 1) (by omega) _ _) (fun r48 s48 => ?_)
      refine e_mv 203 em_147 (ce_at ce_147 61 rfl) rfl rfl ?_
      refine e_mv 205 em_147 (ce_at ce_147 62 rfl) rfl rfl ?_
      refine e_op 206 em_147 (ce_at ce_147 63 rfl) rfl rfl ?_
      refine e_iadd 207 em_147 rfl (ce_at ce_147 64 rfl) ?_
      refine e_ivi 210 em_147 (ce_at ce_147 65 rfl) (by omega) (iv_v1 (by decide) tq_51 rfl) em_149 (Nat.le_of_ble_eq_true rfl) rfl (tmac_at w (d - 1) (by omega) _ _) (fun r49 s49 => ?_)
      refine e_mv 211 em_147 (ce_at ce_147 66 rfl) rfl rfl ?_
      refine e_mv 213 em_147 (ce_at ce_147 67 rfl) rfl rfl ?_
      refine e_op 214 em_147 (ce_at ce_147 68 rfl) rfl rfl ?_
      refine e_iadd 215 em_147 rfl (ce_at ce_147 69 rfl) ?_
      refine e_ivi 218 em_147 (ce_at ce_147 70 rfl) (by omega) (iv_v1 (by decide) tq_51 rfl) em_149 (Nat.le_of_ble_eq_true rfl) rfl (tmac_at w (d - 1) (by omega) _ _) (fun r50 s50 => ?_)
      refine e_ivi 221 em_147 (ce_at ce_147 71 rfl) (by omega) (iv_v5 (by decide) tq_48 rfl) em_159 (Nat.le_of_ble_eq_true rfl) rfl (tlib_perform w (d - 1) (by omega) _ _ _ _ _ _) (fun r51 s51 => ?_)
      refine e_mv 223 em_147 (ce_at ce_147 72 rfl) rfl rfl ?_
      refine e_mv 224 em_147 (ce_at ce_147 73 rfl) rfl rfl ?_
      refine e_op 225 em_147 (ce_at ce_147 74 rfl) rfl rfl ?_
      refine e_mv 227 em_147 (ce_at ce_147 75 rfl) rfl rfl ?_
      refine e_ivi 230 em_147 (ce_at ce_147 76 rfl) (by omega) (iv_s2 rfl) em_45 (Nat.le_of_ble_eq_true rfl) rfl (tmth_max hT w (d - 1) (by omega) _ _ _) (fun r52 s52 => ?_)
      refine e_put 233 em_147 (ce_at ce_147 77 rfl) tq_51 rfl rfl rfl (fun s53 => ?_)
      refine e_mv 234 em_147 (ce_at ce_147 78 rfl) rfl rfl ?_
      refine e_mv 236 em_147 (ce_at ce_147 79 rfl) rfl rfl ?_
      refine e_ivv 239 em_147 (ce_at ce_147 80 rfl) (by omega) (iv_v1 (by decide) tq_51 rfl) em_153 (Nat.le_of_ble_eq_true rfl) rfl (tmac_push w (d - 1) (by omega) _ _) (fun r54 s54 => ?_)
      refine e_goto em_147 258 (ce_at ce_147 81 rfl) rfl ?_
      refine e_pk [0] rfl rfl ?_
      exact tmac_doCommand_258 w d hd _
    · refine e_mv 165 em_147 (ce_at ce_147 40 rfl) rfl rfl ?_
      refine e_mv 167 em_147 (ce_at ce_147 41 rfl) rfl rfl ?_
      refine e_mv 168 em_147 (ce_at ce_147 42 rfl) rfl rfl ?_
      refine e_ivv 171 em_147 (ce_at ce_147 43 rfl) (by omega) (iv_v2 (by decide) tq_51 rfl) em_144 (Nat.le_of_ble_eq_true rfl) rfl (tmac_enter w (d - 1) (by omega) _ _ _) (fun r55 s55 => ?_)
      refine e_goto em_147 258 (ce_at ce_147 44 rfl) rfl ?_
      refine e_pk [0] rfl rfl ?_
      exact tmac_doCommand_258 w d hd _
  refine e_case 16 (fun h56 => ?_) (fun h56 => ?_)
  · refine e_sw em_147 242 (ce_at ce_147 1 rfl) (sw_in g1 (by omega) (by subst h56; rfl)) rfl ?_
    refine e_mv 243 em_147 (ce_at ce_147 82 rfl) rfl rfl ?_
    refine e_ivv 246 em_147 (ce_at ce_147 83 rfl) (by omega) (iv_v0 (by decide) tq_51 rfl) em_189 (Nat.le_of_ble_eq_true rfl) rfl (tmac_leave w (d - 1) (by omega) _) (fun r57 s57 => ?_)
    refine e_goto em_147 258 (ce_at ce_147 84 rfl) rfl ?_
    refine e_pk [0] rfl rfl ?_
    exact tmac_doCommand_258 w d hd _
  refine e_sw em_147 249 (ce_at ce_147 1 rfl) (sw_out g1 (by omega)) rfl ?_
  refine e_mv 250 em_147 (ce_at ce_147 85 rfl) rfl rfl ?_
  refine e_mv 251 em_147 (ce_at ce_147 86 rfl) rfl rfl ?_
  refine e_mv 252 em_147 (ce_at ce_147 87 rfl) rfl rfl ?_
  refine e_ivi 255 em_147 (ce_at ce_147 88 rfl) (by omega) (iv_v0 (by decide) tq_51 rfl) em_154 (Nat.le_of_ble_eq_true rfl) rfl (tmac_pop w (d - 1) (by omega) _) (fun r58 s58 => ?_)
  refine e_ivv 258 em_147 (ce_at ce_147 89 rfl) (by omega) (iv_v2 (by decide) tq_51 rfl) em_190 (Nat.le_of_ble_eq_true rfl) rfl (tmac_calculate w (d - 1) (by omega) _ _ _) (fun r59 s59 => ?_)
  refine e_pk [0] rfl rfl ?_
  exact tmac_doCommand_258 w d hd _
theorem fmac_doCommand (v1 : Int) (v2 : Int) (v3 : Int) (v4 : Int) (s : iS) : Fm Prod.snd L_mac_doCommand G_mac_doCommand s (mac_doCommand v1 v2 v3 v4 s) := fm_gd (fm_if (fm_bd (fm_sub (fmac_valueOf _ _ _ _) (mem_sub_L rfl) (mem_sub_F rfl)) (fun r3 s3 => fm_bd (fm_sub (fmac_push _ _) (mem_sub_L rfl) (mem_sub_F rfl)) (fun r4 s4 => fmac_doCommand_258 _))) (fm_if (fm_bd (fm_sub (fmac_pop _) (mem_sub_L rfl) (mem_sub_F rfl)) (fun r6 s6 => fm_bd (fm_sub (fmac_assign _ _ _ _ _) (mem_sub_L rfl) (mem_sub_F rfl)) (fun r7 s7 => fmac_doCommand_258 _))) (fm_if (fm_bd (fm_sub (fmac_pop _) (mem_sub_L rfl) (mem_sub_F rfl)) (fun r9 s9 => fm_bd (fm_sub (fmac_calculate _ _ _) (mem_sub_L rfl) (mem_sub_F rfl)) (fun r10 s10 => fmac_doCommand_258 _))) (fm_if (fm_bd (fm_sub (fmac_pop _) (mem_sub_L rfl) (mem_sub_F rfl)) (fun r12 s12 => fm_bd (fm_sub (fmac_calculate _ _ _) (mem_sub_L rfl) (mem_sub_F rfl)) (fun r13 s13 => fmac_doCommand_258 _))) (fm_if (fm_bd (fm_sub (fmac_pop _) (mem_sub_L rfl) (mem_sub_F rfl)) (fun r15 s15 => fm_bd (fm_sub (fmac_calculate _ _ _) (mem_sub_L rfl) (mem_sub_F rfl)) (fun r16 s16 => fmac_doCommand_258 _))) (fm_if (fm_bd (fm_sub (fmac_pop _) (mem_sub_L rfl) (mem_sub_F rfl)) (fun r18 s18 => fm_bd (fm_sub (fmac_calculate _ _ _) (mem_sub_L rfl) (mem_sub_F rfl)) (fun r19 s19 => fmac_doCommand_258 _))) (fm_if (fm_bd (fm_sub (fmac_pop _) (mem_sub_L rfl) (mem_sub_F rfl)) (fun r21 s21 => fm_bd (fm_sub (fmac_calculate _ _ _) (mem_sub_L rfl) (mem_sub_F rfl)) (fun r22 s22 => fmac_doCommand_258 _))) (fm_if (fm_bd (fm_sub (fmac_pop _) (mem_sub_L rfl) (mem_sub_F rfl)) (fun r24 s24 => fm_bd (fm_sub (fmac_calculate _ _ _) (mem_sub_L rfl) (mem_sub_F rfl)) (fun r25 s25 => fmac_doCommand_258 _))) (fm_if (fm_bd (fm_sub (fmac_pop _) (mem_sub_L rfl) (mem_sub_F rfl)) (fun r27 s27 => fm_bd (fm_sub (fmac_calculate _ _ _) (mem_sub_L rfl) (mem_sub_F rfl)) (fun r28 s28 => fmac_doCommand_258 _))) (fm_if (fm_bd (fm_sub (fmac_pop _) (mem_sub_L rfl) (mem_sub_F rfl)) (fun r30 s30 => fm_bd (fm_sub (fmac_calculate _ _ _) (mem_sub_L rfl) (mem_sub_F rfl)) (fun r31 s31 => fmac_doCommand_258 _))) (fm_if (fm_bd (fm_sub (fmac_pop _) (mem_sub_L rfl) (mem_sub_F rfl)) (fun r33 s33 => fm_bd (fm_sub (fmac_calculate _ _ _) (mem_sub_L rfl) (mem_sub_F rfl)) (fun r34 s34 => fmac_doCommand_258 _))) (fm_if (fmac_doCommand_258 _) (fm_if (fm_lt (md_upF (mem_F rfl)) (fun s37 => fmac_doCommand_258 _)) (fm_if (fm_bd (fm_sub (fmac_pop _) (mem_sub_L rfl) (mem_sub_F rfl)) (fun r39 s39 => fm_gd (fm_if (fmac_doCommand_143 _ _) (fmac_doCommand_143 _ _)))) (fm_if (fm_bd (fm_sub (fmac_makeLocals _ _) (mem_sub_L rfl) (mem_sub_F rfl)) (fun r43 s43 => fmac_doCommand_258 _)) (fm_if (fm_gd (fm_if (fm_bd (fm_sub (fmac_at _ _) (mem_sub_L rfl) (mem_sub_F rfl)) (fun r47 s47 => fm_bd (fm_sub (fmac_at _ _) (mem_sub_L rfl) (mem_sub_F rfl)) (fun r48 s48 => fm_bd (fm_sub (fmac_at _ _) (mem_sub_L rfl) (mem_sub_F rfl)) (fun r49 s49 => fm_bd (fm_sub (fmac_at _ _) (mem_sub_L rfl) (mem_sub_F rfl)) (fun r50 s50 => fm_bd (fm_sub (flib_perform _ _ _ _ _ _) (mem_sub_L rfl) (mem_sub_F rfl)) (fun r51 s51 => fm_bd (fm_sub (fmth_max _ _ _) (mem_sub_L rfl) (mem_sub_F rfl)) (fun r52 s52 => fm_lt (md_upF (mem_F rfl)) (fun s53 => fm_bd (fm_sub (fmac_push _ _) (mem_sub_L rfl) (mem_sub_F rfl)) (fun r54 s54 => fmac_doCommand_258 _))))))))) (fm_bd (fm_sub (fmac_enter _ _ _) (mem_sub_L rfl) (mem_sub_F rfl)) (fun r55 s55 => fmac_doCommand_258 _)))) (fm_if (fm_bd (fm_sub (fmac_leave _) (mem_sub_L rfl) (mem_sub_F rfl)) (fun r57 s57 => fmac_doCommand_258 _)) (fm_bd (fm_sub (fmac_pop _) (mem_sub_L rfl) (mem_sub_F rfl)) (fun r58 s58 => fm_bd (fm_sub (fmac_calculate _ _ _) (mem_sub_L rfl) (mem_sub_F rfl)) (fun r59 s59 => fmac_doCommand_258 _))))))))))))))))))))
/-! lib_endRun -/
def L_lib_endRun : List Nat := []
def G_lib_endRun : List (Nat × Nat) := [(48, 7)]
noncomputable def lib_endRun (s : iS) : Option (Int × iS) := lt' (up s 48 7 ((s 48 5) - (s 48 6))) (fun s1 => some (0, s1))
theorem tlib_endRun (w : ev_W) (d : Nat) (hd : 0 ≤ d) (s : iS) : Ew hT w d 191 0 [(0, .ref (tb_nK + 48))] [] s (Cv hT) (lib_endRun s) := by
  unfold lib_endRun
  refine e_mv 1 em_191 (ce_at ce_191 0 rfl) rfl rfl ?_
  refine e_mv 2 em_191 (ce_at ce_191 1 rfl) rfl rfl ?_
  refine e_get 5 em_191 (ce_at ce_191 2 rfl) tq_48 rfl rfl ?_
  refine e_mv 6 em_191 (ce_at ce_191 3 rfl) rfl rfl ?_
  refine e_get 9 em_191 (ce_at ce_191 4 rfl) tq_48 rfl rfl ?_
  refine e_isub 10 em_191 rfl (ce_at ce_191 5 rfl) ?_
  refine e_put 13 em_191 (ce_at ce_191 6 rfl) tq_48 rfl rfl rfl (fun s1 => ?_)
  exact e_retv em_191 (ce_at ce_191 7 rfl)
theorem flib_endRun (s : iS) : Fm Prod.snd L_lib_endRun G_lib_endRun s (lib_endRun s) := fm_lt (md_upF (mem_F rfl)) (fun s1 => fm_some md_refl)
/-! mac_execute -/
def L_mac_execute : List Nat := [45, 46, 47, 49, 52, 53, 54]
def G_mac_execute : List (Nat × Nat) := [(44, 3), (44, 4), (44, 5), (44, 6), (48, 3), (48, 4), (48, 6), (48, 7), (48, 8), (48, 9), (51, 6), (51, 7), (51, 8), (51, 9), (51, 10), (51, 11), (51, 12), (51, 13), (51, 14), (51, 15), (51, 16), (51, 17), (51, 18)]
def mac_execute_77C (w : ev_W) (d : Nat) : (Int × iS) ⊕ (iS) → am_E → Prop := fun q r => q.elim (fun l => ev w d 140 77 ((fun l => [(0, .ref (tb_nK + 51)), (2, iv (l.1))]) l) [] (hT ((fun l => l.2) l)) r) (fun e => (fun e r => ev w d 140 188 [(0, .ref (tb_nK + 51))] [] (hT (e)) r) e r)
noncomputable def mac_execute_111 (v2 : Int) (s : iS) : Option ((Int × iS) ⊕ (iS)) := lt' (up s 51 14 0) (fun s1 => some (.inl ((v2 + 1), s1)))
theorem tmac_execute_111 (w : ev_W) (d : Nat) (hd : 7 ≤ d) (v2 : Int) (s : iS) : Ew hT w d 140 111 [(0, .ref (tb_nK + 51)), (2, iv v2)] [] s (mac_execute_77C w d) (mac_execute_111 v2 s) := by
  unfold mac_execute_111
  refine e_mv 112 em_140 (ce_at ce_140 58 rfl) rfl rfl ?_
  refine e_op 113 em_140 (ce_at ce_140 59 rfl) rfl rfl ?_
  refine e_put 116 em_140 (ce_at ce_140 60 rfl) tq_51 rfl rfl rfl (fun s1 => ?_)
  refine e_goto em_140 182 (ce_at ce_140 61 rfl) rfl ?_
  refine e_iinc 185 em_140 (ce_at ce_140 97 rfl) rfl (by decide) rfl ?_
  refine e_goto em_140 77 (ce_at ce_140 98 rfl) rfl ?_
  refine e_pk [0, 2] rfl rfl ?_
  exact e_out (fun r h => h)
theorem fmac_execute_111 (v2 : Int) (s : iS) : Fm (fun r : (Int × iS) ⊕ (iS) => r.elim (fun l => l.2) (fun e => e)) L_mac_execute G_mac_execute s (mac_execute_111 v2 s) := fm_lt (md_upF (mem_F rfl)) (fun s1 => fm_some md_refl)
noncomputable def mac_execute_77b (v2 : Int) (s : iS) : Option ((Int × iS) ⊕ (iS)) := gd (rg v2) (if 20000000 ≤ v2 then some (.inr s) else gd (rg (s 51 14)) (if (s 51 14) = (-1) then gd (rg (s 51 7)) (if (s 51 7) < 0 then mac_execute_111 v2 s else gd (rg (s 14 8)) (if (s 51 7) < (s 14 8) then gd (0 ≤ (s 51 7) ∧ (s 51 7) < 3000) (bd (mac_mayBegin (s 19 (s 51 7).toNat) s) (fun r10 s10 => gd (rg r10) (if r10 = 0 then some (.inl ((v2 + 1), s10)) else lt' (up s10 51 7 ((s 51 7) + 1)) (fun s13 => bd (mac_doCommand (s13 15 (s 51 7).toNat) (s13 16 (s 51 7).toNat) (s13 17 (s 51 7).toNat) (s13 18 (s 51 7).toNat) s13) (fun _ s14 => some (.inl ((v2 + 1), s14))))))) else mac_execute_111 v2 s)) else some (.inr s)))
theorem tmac_execute_77b (w : ev_W) (d : Nat) (hd : 7 ≤ d) (v2 : Int) (s : iS) : Ew hT w d 140 77 [(0, .ref (tb_nK + 51)), (2, iv v2)] [] s (mac_execute_77C w d) (mac_execute_77b v2 s) := by
  unfold mac_execute_77b
  refine e_mv 78 em_140 (ce_at ce_140 41 rfl) rfl rfl ?_
  refine e_ldc 80 em_140 (ce_at ce_140 42 rfl) (x := 20000000) rfl rfl ?_
  refine e_gd fun g1 => ?_
  refine e_cmge 188 83 em_140 rfl rfl (ce_at ce_140 43 rfl) g1 (by decide) (fun h2 => ?_) (fun h2 => ?_)
  · refine e_pk [0] rfl rfl ?_
    exact e_out (fun r h => h)
  · refine e_mv 84 em_140 (ce_at ce_140 44 rfl) rfl rfl ?_
    refine e_get 87 em_140 (ce_at ce_140 45 rfl) tq_51 rfl rfl ?_
    refine e_op 88 em_140 (ce_at ce_140 46 rfl) rfl rfl ?_
    refine e_gd fun g3 => ?_
    refine e_cmne 188 91 em_140 rfl rfl (ce_at ce_140 47 rfl) g3 (by decide) (fun h4 => ?_) (fun h4 => ?_)
    · refine e_pk [0] rfl rfl ?_
      exact e_out (fun r h => h)
    · refine e_mv 92 em_140 (ce_at ce_140 48 rfl) rfl rfl ?_
      refine e_get 95 em_140 (ce_at ce_140 49 rfl) tq_51 rfl rfl ?_
      refine e_mv 96 em_140 (ce_at ce_140 50 rfl) rfl rfl ?_
      refine e_mv 97 em_140 (ce_at ce_140 51 rfl) rfl rfl ?_
      refine e_gd fun g5 => ?_
      refine e_iflt 111 100 em_140 rfl rfl (ce_at ce_140 52 rfl) g5 (fun h6 => ?_) (fun h6 => ?_)
      · refine e_pk [0, 2] rfl rfl ?_
        exact tmac_execute_111 w d hd _ _
      · refine e_mv 101 em_140 (ce_at ce_140 53 rfl) rfl rfl ?_
        refine e_mv 102 em_140 (ce_at ce_140 54 rfl) rfl rfl ?_
        refine e_getr 105 em_140 (ce_at ce_140 55 rfl) tq_51 rfl rfl ?_
        refine e_get 108 em_140 (ce_at ce_140 56 rfl) tq_14 rfl rfl ?_
        refine e_gd fun g7 => ?_
        refine e_cmlt 119 111 em_140 rfl rfl (ce_at ce_140 57 rfl) g5 g7 (fun h8 => ?_) (fun h8 => ?_)
        · refine e_mv 120 em_140 (ce_at ce_140 62 rfl) rfl rfl ?_
          refine e_mv 121 em_140 (ce_at ce_140 63 rfl) rfl rfl ?_
          refine e_getr 124 em_140 (ce_at ce_140 64 rfl) tq_51 rfl rfl ?_
          refine e_getr 127 em_140 (ce_at ce_140 65 rfl) tq_14 rfl rfl ?_
          refine e_mv 128 em_140 (ce_at ce_140 66 rfl) rfl rfl ?_
          refine e_gd fun g9 => ?_
          refine e_ild 129 em_140 (ce_at ce_140 67 rfl) tq_19 (by decide) g9 rfl ?_
          refine e_ivi 132 em_140 (ce_at ce_140 68 rfl) (by omega) (iv_v1 (by decide) tq_51 rfl) em_146 (Nat.le_of_ble_eq_true rfl) rfl (tmac_mayBegin w (d - 1) (by omega) _ _) (fun r10 s10 => ?_)
          refine e_gd fun g11 => ?_
          refine e_ifeq 182 135 em_140 rfl rfl (ce_at ce_140 69 rfl) g11 (fun h12 => ?_) (fun h12 => ?_)
          · refine e_iinc 185 em_140 (ce_at ce_140 97 rfl) rfl (by decide) rfl ?_
            refine e_goto em_140 77 (ce_at ce_140 98 rfl) rfl ?_
            refine e_pk [0, 2] rfl rfl ?_
            exact e_out (fun r h => h)
          · refine e_mv 136 em_140 (ce_at ce_140 70 rfl) rfl rfl ?_
            refine e_mv 137 em_140 (ce_at ce_140 71 rfl) rfl rfl ?_
            refine e_op 138 em_140 (ce_at ce_140 72 rfl) rfl rfl ?_
            refine e_iadd 139 em_140 rfl (ce_at ce_140 73 rfl) ?_
            refine e_put 142 em_140 (ce_at ce_140 74 rfl) tq_51 rfl rfl rfl (fun s13 => ?_)
            refine e_mv 143 em_140 (ce_at ce_140 75 rfl) rfl rfl ?_
            refine e_mv 144 em_140 (ce_at ce_140 76 rfl) rfl rfl ?_
            refine e_getr 147 em_140 (ce_at ce_140 77 rfl) tq_51 rfl rfl ?_
            refine e_getr 150 em_140 (ce_at ce_140 78 rfl) tq_14 rfl rfl ?_
            refine e_mv 151 em_140 (ce_at ce_140 79 rfl) rfl rfl ?_
            refine e_ild 152 em_140 (ce_at ce_140 80 rfl) tq_15 (by decide) g9 rfl ?_
            refine e_mv 153 em_140 (ce_at ce_140 81 rfl) rfl rfl ?_
            refine e_getr 156 em_140 (ce_at ce_140 82 rfl) tq_51 rfl rfl ?_
            refine e_getr 159 em_140 (ce_at ce_140 83 rfl) tq_14 rfl rfl ?_
            refine e_mv 160 em_140 (ce_at ce_140 84 rfl) rfl rfl ?_
            refine e_ild 161 em_140 (ce_at ce_140 85 rfl) tq_16 (by decide) g9 rfl ?_
            refine e_mv 162 em_140 (ce_at ce_140 86 rfl) rfl rfl ?_
            refine e_getr 165 em_140 (ce_at ce_140 87 rfl) tq_51 rfl rfl ?_
            refine e_getr 168 em_140 (ce_at ce_140 88 rfl) tq_14 rfl rfl ?_
            refine e_mv 169 em_140 (ce_at ce_140 89 rfl) rfl rfl ?_
            refine e_ild 170 em_140 (ce_at ce_140 90 rfl) tq_17 (by decide) g9 rfl ?_
            refine e_mv 171 em_140 (ce_at ce_140 91 rfl) rfl rfl ?_
            refine e_getr 174 em_140 (ce_at ce_140 92 rfl) tq_51 rfl rfl ?_
            refine e_getr 177 em_140 (ce_at ce_140 93 rfl) tq_14 rfl rfl ?_
            refine e_mv 178 em_140 (ce_at ce_140 94 rfl) rfl rfl ?_
            refine e_ild 179 em_140 (ce_at ce_140 95 rfl) tq_18 (by decide) g9 rfl ?_
            refine e_ivv 182 em_140 (ce_at ce_140 96 rfl) (by omega) (iv_v4 (by decide) tq_51 rfl) em_147 (Nat.le_of_ble_eq_true rfl) rfl (tmac_doCommand w (d - 1) (by omega) _ _ _ _ _) (fun r14 s14 => ?_)
            refine e_iinc 185 em_140 (ce_at ce_140 97 rfl) rfl (by decide) rfl ?_
            refine e_goto em_140 77 (ce_at ce_140 98 rfl) rfl ?_
            refine e_pk [0, 2] rfl rfl ?_
            exact e_out (fun r h => h)
        · refine e_pk [0, 2] rfl rfl ?_
          exact tmac_execute_111 w d hd _ _
theorem fmac_execute_77b (v2 : Int) (s : iS) : Fm (fun r : (Int × iS) ⊕ (iS) => r.elim (fun l => l.2) (fun e => e)) L_mac_execute G_mac_execute s (mac_execute_77b v2 s) := fm_gd (fm_if (fm_some md_refl) (fm_gd (fm_if (fm_gd (fm_if (fmac_execute_111 _ _) (fm_gd (fm_if (fm_gd (fm_bd (fm_sub (fmac_mayBegin _ _) (mem_sub_L rfl) (mem_sub_F rfl)) (fun r10 s10 => fm_gd (fm_if (fm_some md_refl) (fm_lt (md_upF (mem_F rfl)) (fun s13 => fm_bd (fm_sub (fmac_doCommand _ _ _ _ _) (mem_sub_L rfl) (mem_sub_F rfl)) (fun r14 s14 => fm_some md_refl))))))) (fmac_execute_111 _ _))))) (fm_some md_refl))))
noncomputable def mac_execute_188 (s : iS) : Option (Int × iS) := bd (lib_endRun s) (fun _ s1 => some ((s1 51 14), s1))
theorem tmac_execute_188 (w : ev_W) (d : Nat) (hd : 7 ≤ d) (s : iS) : Ew hT w d 140 188 [(0, .ref (tb_nK + 51))] [] s (Ci hT) (mac_execute_188 s) := by
  unfold mac_execute_188
  refine e_mv 189 em_140 (ce_at ce_140 99 rfl) rfl rfl ?_
  refine e_getr 192 em_140 (ce_at ce_140 100 rfl) tq_51 rfl rfl ?_
  refine e_ivv 195 em_140 (ce_at ce_140 101 rfl) (by omega) (iv_v0 (by decide) tq_48 rfl) em_191 (Nat.le_of_ble_eq_true rfl) rfl (tlib_endRun w (d - 1) (by omega) _) (fun r1 s1 => ?_)
  refine e_mv 196 em_140 (ce_at ce_140 102 rfl) rfl rfl ?_
  refine e_get 199 em_140 (ce_at ce_140 103 rfl) tq_51 rfl rfl ?_
  exact e_reti em_140 (ce_at ce_140 104 rfl)
theorem fmac_execute_188 (s : iS) : Fm Prod.snd L_mac_execute G_mac_execute s (mac_execute_188 s) := fm_bd (fm_sub (flib_endRun _) (mem_sub_L rfl) (mem_sub_F rfl)) (fun r1 s1 => fm_some md_refl)
noncomputable def mac_execute_77 (v2 : Int) (s : iS) : Option (Int × iS) := (lp (L := Int × iS) (E := iS) (fun l => mac_execute_77b (l.1) (l.2)) (v2, s)).bind (fun e => mac_execute_188 e)
theorem tmac_execute_77 (w : ev_W) (d : Nat) (hd : 7 ≤ d) (v2 : Int) (s : iS) : Ew hT w d 140 77 [(0, .ref (tb_nK + 51)), (2, iv v2)] [] s (Ci hT) (mac_execute_77 v2 s) := by
  unfold mac_execute_77
  refine e_lp (L := Int × iS) (E := iS) (LO := fun l => [(0, .ref (tb_nK + 51)), (2, iv (l.1))]) (LS := fun l => l.2) (CE := fun e r => ev w d 140 188 [(0, .ref (tb_nK + 51))] [] (hT (e)) r) (fun l => tmac_execute_77b w d hd _ _) ?_ (v2, s)
  intro e
  show Ew hT w d 140 188 [(0, .ref (tb_nK + 51))] [] e (Ci hT) _
  refine e_pk [0] rfl rfl ?_
  exact tmac_execute_188 w d hd _
theorem fmac_execute_77 (v2 : Int) (s : iS) : Fm Prod.snd L_mac_execute G_mac_execute s (mac_execute_77 v2 s) := by
  unfold mac_execute_77
  refine fm_lp (A := Int × iS) (E := iS) (LS := fun l => l.2) (LE := fun e => e) ?_ ?_ (v2, s)
  · exact fun l => fmac_execute_77b _ _
  · exact (fun e => fmac_execute_188 _)
noncomputable def mac_execute (v1 : Int) (s : iS) : Option (Int × iS) := bd (mem_clear s) (fun _ s1 => bd (lib_beginRun s1) (fun _ s2 => bd (arr_fill 54 12 0 s2) (fun _ s3 => lt' (up s3 51 6 0) (fun s4 => lt' (up s4 51 13 0) (fun s5 => lt' (up s5 51 16 0) (fun s6 => lt' (up s6 51 17 0) (fun s7 => lt' (up s7 51 15 v1) (fun s8 => lt' (up s8 51 14 (-1)) (fun s9 => lt' (up s9 51 18 (s9 14 11)) (fun s10 => bd (mac_enter (s10 14 10) 0 s10) (fun _ s11 => mac_execute_77 0 s11)))))))))))
theorem tmac_execute (w : ev_W) (d : Nat) (hd : 7 ≤ d) (v1 : Int) (s : iS) : Ew hT w d 140 0 [(0, .ref (tb_nK + 51)), (1, iv v1)] [] s (Ci hT) (mac_execute v1 s) := by
  unfold mac_execute
  refine e_mv 1 em_140 (ce_at ce_140 0 rfl) rfl rfl ?_
  refine e_getr 4 em_140 (ce_at ce_140 1 rfl) tq_51 rfl rfl ?_
  refine e_ivv 7 em_140 (ce_at ce_140 2 rfl) (by omega) (iv_v0 (by decide) tq_44 rfl) em_141 (Nat.le_of_ble_eq_true rfl) rfl (tmem_clear w (d - 1) (by omega) _) (fun r1 s1 => ?_)
  refine e_mv 8 em_140 (ce_at ce_140 3 rfl) rfl rfl ?_
  refine e_getr 11 em_140 (ce_at ce_140 4 rfl) tq_51 rfl rfl ?_
  refine e_ivv 14 em_140 (ce_at ce_140 5 rfl) (by omega) (iv_v0 (by decide) tq_48 rfl) em_143 (Nat.le_of_ble_eq_true rfl) rfl (tlib_beginRun w (d - 1) (by omega) _) (fun r2 s2 => ?_)
  refine e_mv 15 em_140 (ce_at ce_140 6 rfl) rfl rfl ?_
  refine e_getr 18 em_140 (ce_at ce_140 7 rfl) tq_51 rfl rfl ?_
  refine e_op 19 em_140 (ce_at ce_140 8 rfl) rfl rfl ?_
  refine e_ivv 22 em_140 (ce_at ce_140 9 rfl) (by omega) (iv_s2 rfl) em_142 (Nat.le_of_ble_eq_true rfl) rfl (tarr_fill hT w (d - 1) (by omega) 54 12 tq_54 (by decide) _ _) (fun r3 s3 => ?_)
  refine e_mv 23 em_140 (ce_at ce_140 10 rfl) rfl rfl ?_
  refine e_op 24 em_140 (ce_at ce_140 11 rfl) rfl rfl ?_
  refine e_put 27 em_140 (ce_at ce_140 12 rfl) tq_51 rfl rfl rfl (fun s4 => ?_)
  refine e_mv 28 em_140 (ce_at ce_140 13 rfl) rfl rfl ?_
  refine e_op 29 em_140 (ce_at ce_140 14 rfl) rfl rfl ?_
  refine e_put 32 em_140 (ce_at ce_140 15 rfl) tq_51 rfl rfl rfl (fun s5 => ?_)
  refine e_mv 33 em_140 (ce_at ce_140 16 rfl) rfl rfl ?_
  refine e_op 34 em_140 (ce_at ce_140 17 rfl) rfl rfl ?_
  refine e_put 37 em_140 (ce_at ce_140 18 rfl) tq_51 rfl rfl rfl (fun s6 => ?_)
  refine e_mv 38 em_140 (ce_at ce_140 19 rfl) rfl rfl ?_
  refine e_op 39 em_140 (ce_at ce_140 20 rfl) rfl rfl ?_
  refine e_put 42 em_140 (ce_at ce_140 21 rfl) tq_51 rfl rfl rfl (fun s7 => ?_)
  refine e_mv 43 em_140 (ce_at ce_140 22 rfl) rfl rfl ?_
  refine e_mv 44 em_140 (ce_at ce_140 23 rfl) rfl rfl ?_
  refine e_put 47 em_140 (ce_at ce_140 24 rfl) tq_51 rfl rfl rfl (fun s8 => ?_)
  refine e_mv 48 em_140 (ce_at ce_140 25 rfl) rfl rfl ?_
  refine e_op 49 em_140 (ce_at ce_140 26 rfl) rfl rfl ?_
  refine e_put 52 em_140 (ce_at ce_140 27 rfl) tq_51 rfl rfl rfl (fun s9 => ?_)
  refine e_mv 53 em_140 (ce_at ce_140 28 rfl) rfl rfl ?_
  refine e_mv 54 em_140 (ce_at ce_140 29 rfl) rfl rfl ?_
  refine e_getr 57 em_140 (ce_at ce_140 30 rfl) tq_51 rfl rfl ?_
  refine e_get 60 em_140 (ce_at ce_140 31 rfl) tq_14 rfl rfl ?_
  refine e_put 63 em_140 (ce_at ce_140 32 rfl) tq_51 rfl rfl rfl (fun s10 => ?_)
  refine e_mv 64 em_140 (ce_at ce_140 33 rfl) rfl rfl ?_
  refine e_mv 65 em_140 (ce_at ce_140 34 rfl) rfl rfl ?_
  refine e_getr 68 em_140 (ce_at ce_140 35 rfl) tq_51 rfl rfl ?_
  refine e_get 71 em_140 (ce_at ce_140 36 rfl) tq_14 rfl rfl ?_
  refine e_op 72 em_140 (ce_at ce_140 37 rfl) rfl rfl ?_
  refine e_ivv 75 em_140 (ce_at ce_140 38 rfl) (by omega) (iv_v2 (by decide) tq_51 rfl) em_144 (Nat.le_of_ble_eq_true rfl) rfl (tmac_enter w (d - 1) (by omega) _ _ _) (fun r11 s11 => ?_)
  refine e_op 76 em_140 (ce_at ce_140 39 rfl) rfl rfl ?_
  refine e_mv 77 em_140 (ce_at ce_140 40 rfl) rfl rfl ?_
  refine e_pk [0, 2] rfl rfl ?_
  exact tmac_execute_77 w d hd _ _
theorem fmac_execute (v1 : Int) (s : iS) : Fm Prod.snd L_mac_execute G_mac_execute s (mac_execute v1 s) := fm_bd (fm_sub (fmem_clear _) (mem_sub_L rfl) (mem_sub_F rfl)) (fun r1 s1 => fm_bd (fm_sub (flib_beginRun _) (mem_sub_L rfl) (mem_sub_F rfl)) (fun r2 s2 => fm_bd (fm_sub (farr_fill 54 12 _ _) (mem_sub_L rfl) (mem_sub_F rfl)) (fun r3 s3 => fm_lt (md_upF (mem_F rfl)) (fun s4 => fm_lt (md_upF (mem_F rfl)) (fun s5 => fm_lt (md_upF (mem_F rfl)) (fun s6 => fm_lt (md_upF (mem_F rfl)) (fun s7 => fm_lt (md_upF (mem_F rfl)) (fun s8 => fm_lt (md_upF (mem_F rfl)) (fun s9 => fm_lt (md_upF (mem_F rfl)) (fun s10 => fm_bd (fm_sub (fmac_enter _ _ _) (mem_sub_L rfl) (mem_sub_F rfl)) (fun r11 s11 => fmac_execute_77 _ _)))))))))))
/-! x_run -/
def L_x_run : List Nat := [45, 46, 47, 49, 52, 53, 54]
def G_x_run : List (Nat × Nat) := [(0, 2), (44, 3), (44, 4), (44, 5), (44, 6), (48, 3), (48, 4), (48, 6), (48, 7), (48, 8), (48, 9), (51, 6), (51, 7), (51, 8), (51, 9), (51, 10), (51, 11), (51, 12), (51, 13), (51, 14), (51, 15), (51, 16), (51, 17), (51, 18)]
noncomputable def x_run_45 (v2 : Int) (t0 : Int) (s : iS) : Option (Int × iS) := lt' (up s 0 2 t0) (fun s1 => some (v2, s1))
theorem tx_run_45 (w : ev_W) (d : Nat) (hd : 8 ≤ d) (v2 : Int) (t0 : Int) (s : iS) : Ew hT w d 139 45 [(2, iv v2)] [iv t0, .ref (tb_nK + 0)] s (Ci hT) (x_run_45 v2 t0 s) := by
  unfold x_run_45
  refine e_put 48 em_139 (ce_at ce_139 23 rfl) tq_0 rfl rfl rfl (fun s1 => ?_)
  refine e_mv 49 em_139 (ce_at ce_139 24 rfl) rfl rfl ?_
  exact e_reti em_139 (ce_at ce_139 25 rfl)
theorem fx_run_45 (v2 : Int) (t0 : Int) (s : iS) : Fm Prod.snd L_x_run G_x_run s (x_run_45 v2 t0 s) := fm_lt (md_upF (mem_F rfl)) (fun s1 => fm_some md_refl)
noncomputable def x_run (v1 : Int) (s : iS) : Option (Int × iS) := gd (rg (s 0 3)) (if (s 0 3) = 0 then some ((-1), s) else gd (rg v1) (if v1 < 0 then some ((-1), s) else if v1 ≤ 5000 then bd (mac_execute v1 s) (fun r6 s6 => gd (rg r6) (if r6 = 0 then x_run_45 r6 (-1) s6 else x_run_45 r6 (s6 51 18) s6)) else some ((-1), s)))
theorem tx_run (w : ev_W) (d : Nat) (hd : 8 ≤ d) (v1 : Int) (s : iS) : Ew hT w d 139 0 [(0, .ref (tb_nK + 0)), (1, iv v1)] [] s (Ci hT) (x_run v1 s) := by
  unfold x_run
  refine e_mv 1 em_139 (ce_at ce_139 0 rfl) rfl rfl ?_
  refine e_get 4 em_139 (ce_at ce_139 1 rfl) tq_0 rfl rfl ?_
  refine e_gd fun g1 => ?_
  refine e_ifeq 18 7 em_139 rfl rfl (ce_at ce_139 2 rfl) g1 (fun h2 => ?_) (fun h2 => ?_)
  · refine e_op 19 em_139 (ce_at ce_139 8 rfl) rfl rfl ?_
    exact e_reti em_139 (ce_at ce_139 9 rfl)
  · refine e_mv 8 em_139 (ce_at ce_139 3 rfl) rfl rfl ?_
    refine e_gd fun g3 => ?_
    refine e_iflt 18 11 em_139 rfl rfl (ce_at ce_139 4 rfl) g3 (fun h4 => ?_) (fun h4 => ?_)
    · refine e_op 19 em_139 (ce_at ce_139 8 rfl) rfl rfl ?_
      exact e_reti em_139 (ce_at ce_139 9 rfl)
    · refine e_mv 12 em_139 (ce_at ce_139 5 rfl) rfl rfl ?_
      refine e_sip 15 em_139 (ce_at ce_139 6 rfl) (by decide) rfl ?_
      refine e_cmle 20 18 em_139 rfl rfl (ce_at ce_139 7 rfl) g3 (by decide) (fun h5 => ?_) (fun h5 => ?_)
      · refine e_mv 21 em_139 (ce_at ce_139 10 rfl) rfl rfl ?_
        refine e_getr 24 em_139 (ce_at ce_139 11 rfl) tq_0 rfl rfl ?_
        refine e_mv 25 em_139 (ce_at ce_139 12 rfl) rfl rfl ?_
        refine e_ivi 28 em_139 (ce_at ce_139 13 rfl) (by omega) (iv_v1 (by decide) tq_51 rfl) em_140 (Nat.le_of_ble_eq_true rfl) rfl (tmac_execute w (d - 1) (by omega) _ _) (fun r6 s6 => ?_)
        refine e_mv 29 em_139 (ce_at ce_139 14 rfl) rfl rfl ?_
        refine e_mv 30 em_139 (ce_at ce_139 15 rfl) rfl rfl ?_
        refine e_mv 31 em_139 (ce_at ce_139 16 rfl) rfl rfl ?_
        refine e_gd fun g7 => ?_
        refine e_ifne 38 34 em_139 rfl rfl (ce_at ce_139 17 rfl) g7 (fun h8 => ?_) (fun h8 => ?_)
        · refine e_mv 39 em_139 (ce_at ce_139 20 rfl) rfl rfl ?_
          refine e_getr 42 em_139 (ce_at ce_139 21 rfl) tq_0 rfl rfl ?_
          refine e_get 45 em_139 (ce_at ce_139 22 rfl) tq_51 rfl rfl ?_
          refine e_pk [2] rfl rfl ?_
          exact tx_run_45 w d hd _ _ _
        · refine e_op 35 em_139 (ce_at ce_139 18 rfl) rfl rfl ?_
          refine e_goto em_139 45 (ce_at ce_139 19 rfl) rfl ?_
          refine e_pk [2] rfl rfl ?_
          exact tx_run_45 w d hd _ _ _
      · refine e_op 19 em_139 (ce_at ce_139 8 rfl) rfl rfl ?_
        exact e_reti em_139 (ce_at ce_139 9 rfl)
theorem fx_run (v1 : Int) (s : iS) : Fm Prod.snd L_x_run G_x_run s (x_run v1 s) := fm_gd (fm_if (fm_some md_refl) (fm_gd (fm_if (fm_some md_refl) (fm_if (fm_bd (fm_sub (fmac_execute _ _) (mem_sub_L rfl) (mem_sub_F rfl)) (fun r6 s6 => fm_gd (fm_if (fx_run_45 _ _ _) (fx_run_45 _ _ _)))) (fm_some md_refl)))))
/-! x_place -/
def L_x_place : List Nat := []
def G_x_place : List (Nat × Nat) := []
noncomputable def x_place (s : iS) : Option (Int × iS) := some ((s 0 2), s)
theorem tx_place (w : ev_W) (d : Nat) (hd : 0 ≤ d) (s : iS) : Ew hT w d 192 0 [(0, .ref (tb_nK + 0))] [] s (Ci hT) (x_place s) := by
  unfold x_place
  refine e_mv 1 em_192 (ce_at ce_192 0 rfl) rfl rfl ?_
  refine e_get 4 em_192 (ce_at ce_192 1 rfl) tq_0 rfl rfl ?_
  exact e_reti em_192 (ce_at ce_192 2 rfl)
theorem fx_place (s : iS) : Fm Prod.snd L_x_place G_x_place s (x_place s) := fm_some md_refl
/-! x_error -/
def L_x_error : List Nat := []
def G_x_error : List (Nat × Nat) := []
noncomputable def x_error (s : iS) : Option (Int × iS) := some ((s 44 6), s)
theorem tx_error (w : ev_W) (d : Nat) (hd : 0 ≤ d) (s : iS) : Ew hT w d 193 0 [(0, .ref (tb_nK + 0))] [] s (Ci hT) (x_error s) := by
  unfold x_error
  refine e_mv 1 em_193 (ce_at ce_193 0 rfl) rfl rfl ?_
  refine e_getr 4 em_193 (ce_at ce_193 1 rfl) tq_0 rfl rfl ?_
  refine e_get 7 em_193 (ce_at ce_193 2 rfl) tq_44 rfl rfl ?_
  exact e_reti em_193 (ce_at ce_193 3 rfl)
theorem fx_error (s : iS) : Fm Prod.snd L_x_error G_x_error s (x_error s) := fm_some md_refl
/-! lib_waitingOutput -/
def L_lib_waitingOutput : List Nat := []
def G_lib_waitingOutput : List (Nat × Nat) := []
noncomputable def lib_waitingOutput (s : iS) : Option (Int × iS) := some (((s 48 3) - (s 48 4)), s)
theorem tlib_waitingOutput (w : ev_W) (d : Nat) (hd : 0 ≤ d) (s : iS) : Ew hT w d 196 0 [(0, .ref (tb_nK + 48))] [] s (Ci hT) (lib_waitingOutput s) := by
  unfold lib_waitingOutput
  refine e_mv 1 em_196 (ce_at ce_196 0 rfl) rfl rfl ?_
  refine e_get 4 em_196 (ce_at ce_196 1 rfl) tq_48 rfl rfl ?_
  refine e_mv 5 em_196 (ce_at ce_196 2 rfl) rfl rfl ?_
  refine e_get 8 em_196 (ce_at ce_196 3 rfl) tq_48 rfl rfl ?_
  refine e_isub 9 em_196 rfl (ce_at ce_196 4 rfl) ?_
  exact e_reti em_196 (ce_at ce_196 5 rfl)
theorem flib_waitingOutput (s : iS) : Fm Prod.snd L_lib_waitingOutput G_lib_waitingOutput s (lib_waitingOutput s) := fm_some md_refl
/-! lib_takeOutput -/
def L_lib_takeOutput : List Nat := []
def G_lib_takeOutput : List (Nat × Nat) := [(48, 4)]
def lib_takeOutput_22C (w : ev_W) (d : Nat) (v1 : Int) : (Int × Int × iS) ⊕ (Int × iS) → am_E → Prop := fun q r => q.elim (fun l => ev w d 195 22 ((fun l => [(0, .ref (tb_nK + 48)), (1, iv v1), (2, lv (l.1)), (4, iv (l.2.1))]) l) [] (hT ((fun l => l.2.2) l)) r) (fun e => (fun e r => ev w d 195 64 [(0, .ref (tb_nK + 48)), (1, iv v1), (2, lv (e.1))] [] (hT (e.2)) r) e r)
noncomputable def lib_takeOutput_22b (v1 : Int) (v2 : Int) (v4 : Int) (s : iS) : Option ((Int × Int × iS) ⊕ (Int × iS)) := gd (rg v4) (if 7 ≤ v4 then some (.inr (v2, s)) else gd (rg v1) (if v1 ≤ v4 then some (.inl ((l_or (l_shl v2 8) 0), (v4 + 1), s)) else gd (0 ≤ ((s 48 4) + v4) ∧ ((s 48 4) + v4) < 3000) (gd (rg (s 49 ((s 48 4) + v4).toNat)) (some (.inl ((l_or (l_shl v2 8) (s 49 ((s 48 4) + v4).toNat)), (v4 + 1), s))))))
theorem tlib_takeOutput_22b (w : ev_W) (d : Nat) (hd : 1 ≤ d) (v1 : Int) (v2 : Int) (v4 : Int) (s : iS) : Ew hT w d 195 22 [(0, .ref (tb_nK + 48)), (1, iv v1), (2, lv v2), (4, iv v4)] [] s (lib_takeOutput_22C w d v1) (lib_takeOutput_22b v1 v2 v4 s) := by
  unfold lib_takeOutput_22b
  refine e_mv 24 em_195 (ce_at ce_195 14 rfl) rfl rfl ?_
  refine e_bip 26 em_195 (ce_at ce_195 15 rfl) (by decide) rfl ?_
  refine e_gd fun g1 => ?_
  refine e_cmge 64 29 em_195 rfl rfl (ce_at ce_195 16 rfl) g1 (by decide) (fun h2 => ?_) (fun h2 => ?_)
  · refine e_pk [0, 1, 2] rfl rfl ?_
    exact e_out (fun r h => h)
  · refine e_mv 30 em_195 (ce_at ce_195 17 rfl) rfl rfl ?_
    refine e_bip 32 em_195 (ce_at ce_195 18 rfl) (by decide) rfl ?_
    refine e_lshl 33 em_195 rfl (ce_at ce_195 19 rfl) ?_
    refine e_mv 35 em_195 (ce_at ce_195 20 rfl) rfl rfl ?_
    refine e_mv 36 em_195 (ce_at ce_195 21 rfl) rfl rfl ?_
    refine e_gd fun g3 => ?_
    refine e_cmge 54 39 em_195 rfl rfl (ce_at ce_195 22 rfl) g1 g3 (fun h4 => ?_) (fun h4 => ?_)
    · refine e_op 55 em_195 (ce_at ce_195 31 rfl) rfl rfl ?_
      refine e_i2l 56 em_195 rfl (ce_at ce_195 32 rfl) (by decide) ?_
      refine e_lor 57 em_195 rfl (ce_at ce_195 33 rfl) ?_
      refine e_mv 58 em_195 (ce_at ce_195 34 rfl) rfl rfl ?_
      refine e_iinc 61 em_195 (ce_at ce_195 35 rfl) rfl (by decide) rfl ?_
      refine e_goto em_195 22 (ce_at ce_195 36 rfl) rfl ?_
      refine e_pk [0, 1, 2, 4] rfl rfl ?_
      exact e_out (fun r h => h)
    · refine e_mv 40 em_195 (ce_at ce_195 23 rfl) rfl rfl ?_
      refine e_getr 43 em_195 (ce_at ce_195 24 rfl) tq_48 rfl rfl ?_
      refine e_mv 44 em_195 (ce_at ce_195 25 rfl) rfl rfl ?_
      refine e_get 47 em_195 (ce_at ce_195 26 rfl) tq_48 rfl rfl ?_
      refine e_mv 49 em_195 (ce_at ce_195 27 rfl) rfl rfl ?_
      refine e_iadd 50 em_195 rfl (ce_at ce_195 28 rfl) ?_
      refine e_gd fun g5 => ?_
      refine e_ild 51 em_195 (ce_at ce_195 29 rfl) tq_49 (by decide) g5 rfl ?_
      refine e_goto em_195 55 (ce_at ce_195 30 rfl) rfl ?_
      refine e_gd fun g6 => ?_
      refine e_i2l 56 em_195 rfl (ce_at ce_195 32 rfl) g6 ?_
      refine e_lor 57 em_195 rfl (ce_at ce_195 33 rfl) ?_
      refine e_mv 58 em_195 (ce_at ce_195 34 rfl) rfl rfl ?_
      refine e_iinc 61 em_195 (ce_at ce_195 35 rfl) rfl (by decide) rfl ?_
      refine e_goto em_195 22 (ce_at ce_195 36 rfl) rfl ?_
      refine e_pk [0, 1, 2, 4] rfl rfl ?_
      exact e_out (fun r h => h)
theorem flib_takeOutput_22b (v1 : Int) (v2 : Int) (v4 : Int) (s : iS) : Fm (fun r : (Int × Int × iS) ⊕ (Int × iS) => r.elim (fun l => l.2.2) (fun e => e.2)) L_lib_takeOutput G_lib_takeOutput s (lib_takeOutput_22b v1 v2 v4 s) := fm_gd (fm_if (fm_some md_refl) (fm_gd (fm_if (fm_some md_refl) (fm_gd (fm_gd (fm_some md_refl))))))
noncomputable def lib_takeOutput_64 (v1 : Int) (v2 : Int) (s : iS) : Option (Int × iS) := lt' (up s 48 4 ((s 48 4) + v1)) (fun s1 => some (v2, s1))
theorem tlib_takeOutput_64 (w : ev_W) (d : Nat) (hd : 1 ≤ d) (v1 : Int) (v2 : Int) (s : iS) : Ew hT w d 195 64 [(0, .ref (tb_nK + 48)), (1, iv v1), (2, lv v2)] [] s (Cl hT) (lib_takeOutput_64 v1 v2 s) := by
  unfold lib_takeOutput_64
  refine e_mv 65 em_195 (ce_at ce_195 37 rfl) rfl rfl ?_
  refine e_op 66 em_195 (ce_at ce_195 38 rfl) rfl rfl ?_
  refine e_get 69 em_195 (ce_at ce_195 39 rfl) tq_48 rfl rfl ?_
  refine e_mv 70 em_195 (ce_at ce_195 40 rfl) rfl rfl ?_
  refine e_iadd 71 em_195 rfl (ce_at ce_195 41 rfl) ?_
  refine e_put 74 em_195 (ce_at ce_195 42 rfl) tq_48 rfl rfl rfl (fun s1 => ?_)
  refine e_mv 75 em_195 (ce_at ce_195 43 rfl) rfl rfl ?_
  exact e_retl em_195 (ce_at ce_195 44 rfl)
theorem flib_takeOutput_64 (v1 : Int) (v2 : Int) (s : iS) : Fm Prod.snd L_lib_takeOutput G_lib_takeOutput s (lib_takeOutput_64 v1 v2 s) := fm_lt (md_upF (mem_F rfl)) (fun s1 => fm_some md_refl)
noncomputable def lib_takeOutput_22 (v1 : Int) (v2 : Int) (v4 : Int) (s : iS) : Option (Int × iS) := (lp (L := Int × Int × iS) (E := Int × iS) (fun l => lib_takeOutput_22b v1 (l.1) (l.2.1) (l.2.2)) (v2, v4, s)).bind (fun e => lib_takeOutput_64 v1 (e.1) (e.2))
theorem tlib_takeOutput_22 (w : ev_W) (d : Nat) (hd : 1 ≤ d) (v1 : Int) (v2 : Int) (v4 : Int) (s : iS) : Ew hT w d 195 22 [(0, .ref (tb_nK + 48)), (1, iv v1), (2, lv v2), (4, iv v4)] [] s (Cl hT) (lib_takeOutput_22 v1 v2 v4 s) := by
  unfold lib_takeOutput_22
  refine e_lp (L := Int × Int × iS) (E := Int × iS) (LO := fun l => [(0, .ref (tb_nK + 48)), (1, iv v1), (2, lv (l.1)), (4, iv (l.2.1))]) (LS := fun l => l.2.2) (CE := fun e r => ev w d 195 64 [(0, .ref (tb_nK + 48)), (1, iv v1), (2, lv (e.1))] [] (hT (e.2)) r) (fun l => tlib_takeOutput_22b w d hd _ _ _ _) ?_ (v2, v4, s)
  intro e
  show Ew hT w d 195 64 [(0, .ref (tb_nK + 48)), (1, iv v1), (2, lv (e.1))] [] e.2 (Cl hT) _
  refine e_pk [0, 1, 2] rfl rfl ?_
  exact tlib_takeOutput_64 w d hd _ _ _
theorem flib_takeOutput_22 (v1 : Int) (v2 : Int) (v4 : Int) (s : iS) : Fm Prod.snd L_lib_takeOutput G_lib_takeOutput s (lib_takeOutput_22 v1 v2 v4 s) := by
  unfold lib_takeOutput_22
  refine fm_lp (A := Int × Int × iS) (E := Int × iS) (LS := fun l => l.2.2) (LE := fun e => e.2) ?_ ?_ (v2, v4, s)
  · exact fun l => flib_takeOutput_22b _ _ _ _
  · exact (fun e => flib_takeOutput_64 _ _ _)
noncomputable def lib_takeOutput (s : iS) : Option (Int × iS) := bd (lib_waitingOutput s) (fun r1 s1 => bd (mth_min 7 r1 s1) (fun r2 s2 => gd (rg r2) (if 0 < r2 then lib_takeOutput_22 r2 r2 0 s2 else some (0, s2))))
theorem tlib_takeOutput (w : ev_W) (d : Nat) (hd : 1 ≤ d) (s : iS) : Ew hT w d 195 0 [(0, .ref (tb_nK + 48))] [] s (Cl hT) (lib_takeOutput s) := by
  unfold lib_takeOutput
  refine e_bip 2 em_195 (ce_at ce_195 0 rfl) (by decide) rfl ?_
  refine e_mv 3 em_195 (ce_at ce_195 1 rfl) rfl rfl ?_
  refine e_ivi 6 em_195 (ce_at ce_195 2 rfl) (by omega) (iv_v0 (by decide) tq_48 rfl) em_196 (Nat.le_of_ble_eq_true rfl) rfl (tlib_waitingOutput w (d - 1) (by omega) _) (fun r1 s1 => ?_)
  refine e_ivi 9 em_195 (ce_at ce_195 3 rfl) (by omega) (iv_s2 rfl) em_21 (Nat.le_of_ble_eq_true rfl) rfl (tmth_min hT w (d - 1) (by omega) _ _ _) (fun r2 s2 => ?_)
  refine e_mv 10 em_195 (ce_at ce_195 4 rfl) rfl rfl ?_
  refine e_mv 11 em_195 (ce_at ce_195 5 rfl) rfl rfl ?_
  refine e_gd fun g3 => ?_
  refine e_ifgt 16 14 em_195 rfl rfl (ce_at ce_195 6 rfl) g3 (fun h4 => ?_) (fun h4 => ?_)
  · refine e_mv 17 em_195 (ce_at ce_195 9 rfl) rfl rfl ?_
    refine e_i2l 18 em_195 rfl (ce_at ce_195 10 rfl) g3 ?_
    refine e_mv 19 em_195 (ce_at ce_195 11 rfl) rfl rfl ?_
    refine e_op 20 em_195 (ce_at ce_195 12 rfl) rfl rfl ?_
    refine e_mv 22 em_195 (ce_at ce_195 13 rfl) rfl rfl ?_
    refine e_pk [0, 1, 2, 4] rfl rfl ?_
    exact tlib_takeOutput_22 w d hd _ _ _ _
  · refine e_lcon 15 em_195 (ce_at ce_195 7 rfl) (x := 0) rfl rfl ?_
    exact e_retl em_195 (ce_at ce_195 8 rfl)
theorem flib_takeOutput (s : iS) : Fm Prod.snd L_lib_takeOutput G_lib_takeOutput s (lib_takeOutput s) := fm_bd (fm_sub (flib_waitingOutput _) (mem_sub_L rfl) (mem_sub_F rfl)) (fun r1 s1 => fm_bd (fm_sub (fmth_min _ _ _) (mem_sub_L rfl) (mem_sub_F rfl)) (fun r2 s2 => fm_gd (fm_if (flib_takeOutput_22 _ _ _ _) (fm_some md_refl))))
/-! x_fetch -/
def L_x_fetch : List Nat := []
def G_x_fetch : List (Nat × Nat) := [(48, 4)]
noncomputable def x_fetch (s : iS) : Option (Int × iS) := bd (lib_takeOutput s) (fun r1 s1 => some (r1, s1))
theorem tx_fetch (w : ev_W) (d : Nat) (hd : 2 ≤ d) (s : iS) : Ew hT w d 194 0 [(0, .ref (tb_nK + 0))] [] s (Cl hT) (x_fetch s) := by
  unfold x_fetch
  refine e_mv 1 em_194 (ce_at ce_194 0 rfl) rfl rfl ?_
  refine e_getr 4 em_194 (ce_at ce_194 1 rfl) tq_0 rfl rfl ?_
  refine e_ivl 7 em_194 (ce_at ce_194 2 rfl) (by omega) (iv_v0 (by decide) tq_48 rfl) em_195 (Nat.le_of_ble_eq_true rfl) rfl (tlib_takeOutput w (d - 1) (by omega) _) (fun r1 s1 => ?_)
  exact e_retl em_194 (ce_at ce_194 3 rfl)
theorem fx_fetch (s : iS) : Fm Prod.snd L_x_fetch G_x_fetch s (x_fetch s) := fm_bd (fm_sub (flib_takeOutput _) (mem_sub_L rfl) (mem_sub_F rfl)) (fun r1 s1 => fm_some md_refl)
/-! mem_screenRow -/
def L_mem_screenRow : List Nat := []
def G_mem_screenRow : List (Nat × Nat) := []
def mem_screenRow_17C (w : ev_W) (d : Nat) (v1 : Int) : (Int × Int × iS) ⊕ (Int × iS) → am_E → Prop := fun q r => q.elim (fun l => ev w d 198 17 ((fun l => [(0, .ref (tb_nK + 44)), (1, iv v1), (2, lv (l.1)), (4, iv (l.2.1))]) l) [] (hT ((fun l => l.2.2) l)) r) (fun e => (fun e r => ev w d 198 53 [(2, lv (e.1))] [] (hT (e.2)) r) e r)
noncomputable def mem_screenRow_17b (v1 : Int) (v2 : Int) (v4 : Int) (s : iS) : Option ((Int × Int × iS) ⊕ (Int × iS)) := gd (rg v4) (if v4 < 0 then some (.inr (v2, s)) else gd (0 ≤ ((12288 + (4 * v1)) + v4) ∧ ((12288 + (4 * v1)) + v4) < 12416) (gd (rg (i_and (s 45 ((12288 + (4 * v1)) + v4).toNat) 65535)) (some (.inl ((l_or (l_shl v2 16) (i_and (s 45 ((12288 + (4 * v1)) + v4).toNat) 65535)), (v4 + (-1)), s)))))
theorem tmem_screenRow_17b (w : ev_W) (d : Nat) (hd : 0 ≤ d) (v1 : Int) (v2 : Int) (v4 : Int) (s : iS) : Ew hT w d 198 17 [(0, .ref (tb_nK + 44)), (1, iv v1), (2, lv v2), (4, iv v4)] [] s (mem_screenRow_17C w d v1) (mem_screenRow_17b v1 v2 v4 s) := by
  unfold mem_screenRow_17b
  refine e_mv 19 em_198 (ce_at ce_198 11 rfl) rfl rfl ?_
  refine e_gd fun g1 => ?_
  refine e_iflt 53 22 em_198 rfl rfl (ce_at ce_198 12 rfl) g1 (fun h2 => ?_) (fun h2 => ?_)
  · refine e_pk [2] rfl rfl ?_
    exact e_out (fun r h => h)
  · refine e_mv 23 em_198 (ce_at ce_198 13 rfl) rfl rfl ?_
    refine e_bip 25 em_198 (ce_at ce_198 14 rfl) (by decide) rfl ?_
    refine e_lshl 26 em_198 rfl (ce_at ce_198 15 rfl) ?_
    refine e_mv 27 em_198 (ce_at ce_198 16 rfl) rfl rfl ?_
    refine e_getr 30 em_198 (ce_at ce_198 17 rfl) tq_44 rfl rfl ?_
    refine e_sip 33 em_198 (ce_at ce_198 18 rfl) (by decide) rfl ?_
    refine e_op 34 em_198 (ce_at ce_198 19 rfl) rfl rfl ?_
    refine e_mv 35 em_198 (ce_at ce_198 20 rfl) rfl rfl ?_
    refine e_imul 36 em_198 rfl (ce_at ce_198 21 rfl) ?_
    refine e_iadd 37 em_198 rfl (ce_at ce_198 22 rfl) ?_
    refine e_mv 39 em_198 (ce_at ce_198 23 rfl) rfl rfl ?_
    refine e_iadd 40 em_198 rfl (ce_at ce_198 24 rfl) ?_
    refine e_gd fun g3 => ?_
    refine e_ild 41 em_198 (ce_at ce_198 25 rfl) tq_45 (by decide) g3 rfl ?_
    refine e_ldc 43 em_198 (ce_at ce_198 26 rfl) (x := 65535) rfl rfl ?_
    refine e_iand 44 em_198 rfl (ce_at ce_198 27 rfl) ?_
    refine e_gd fun g4 => ?_
    refine e_i2l 45 em_198 rfl (ce_at ce_198 28 rfl) g4 ?_
    refine e_lor 46 em_198 rfl (ce_at ce_198 29 rfl) ?_
    refine e_mv 47 em_198 (ce_at ce_198 30 rfl) rfl rfl ?_
    refine e_iinc 50 em_198 (ce_at ce_198 31 rfl) rfl (by decide) rfl ?_
    refine e_goto em_198 17 (ce_at ce_198 32 rfl) rfl ?_
    refine e_pk [0, 1, 2, 4] rfl rfl ?_
    exact e_out (fun r h => h)
theorem fmem_screenRow_17b (v1 : Int) (v2 : Int) (v4 : Int) (s : iS) : Fm (fun r : (Int × Int × iS) ⊕ (Int × iS) => r.elim (fun l => l.2.2) (fun e => e.2)) L_mem_screenRow G_mem_screenRow s (mem_screenRow_17b v1 v2 v4 s) := fm_gd (fm_if (fm_some md_refl) (fm_gd (fm_gd (fm_some md_refl))))
noncomputable def mem_screenRow_17 (v1 : Int) (v2 : Int) (v4 : Int) (s : iS) : Option (Int × iS) := (lp (L := Int × Int × iS) (E := Int × iS) (fun l => mem_screenRow_17b v1 (l.1) (l.2.1) (l.2.2)) (v2, v4, s)).bind (fun e => some (e.1, e.2))
theorem tmem_screenRow_17 (w : ev_W) (d : Nat) (hd : 0 ≤ d) (v1 : Int) (v2 : Int) (v4 : Int) (s : iS) : Ew hT w d 198 17 [(0, .ref (tb_nK + 44)), (1, iv v1), (2, lv v2), (4, iv v4)] [] s (Cl hT) (mem_screenRow_17 v1 v2 v4 s) := by
  unfold mem_screenRow_17
  refine e_lp (L := Int × Int × iS) (E := Int × iS) (LO := fun l => [(0, .ref (tb_nK + 44)), (1, iv v1), (2, lv (l.1)), (4, iv (l.2.1))]) (LS := fun l => l.2.2) (CE := fun e r => ev w d 198 53 [(2, lv (e.1))] [] (hT (e.2)) r) (fun l => tmem_screenRow_17b w d hd _ _ _ _) ?_ (v2, v4, s)
  intro e
  show Ew hT w d 198 53 [(2, lv (e.1))] [] e.2 (Cl hT) _
  refine e_mv 54 em_198 (ce_at ce_198 33 rfl) rfl rfl ?_
  exact e_retl em_198 (ce_at ce_198 34 rfl)
theorem fmem_screenRow_17 (v1 : Int) (v2 : Int) (v4 : Int) (s : iS) : Fm Prod.snd L_mem_screenRow G_mem_screenRow s (mem_screenRow_17 v1 v2 v4 s) := by
  unfold mem_screenRow_17
  refine fm_lp (A := Int × Int × iS) (E := Int × iS) (LS := fun l => l.2.2) (LE := fun e => e.2) ?_ ?_ (v2, v4, s)
  · exact fun l => fmem_screenRow_17b _ _ _ _
  · exact (fun e => fm_some md_refl)
noncomputable def mem_screenRow (v1 : Int) (s : iS) : Option (Int × iS) := gd (rg v1) (if v1 < 0 then some (0, s) else if v1 < 32 then mem_screenRow_17 v1 0 3 s else some (0, s))
theorem tmem_screenRow (w : ev_W) (d : Nat) (hd : 0 ≤ d) (v1 : Int) (s : iS) : Ew hT w d 198 0 [(0, .ref (tb_nK + 44)), (1, iv v1)] [] s (Cl hT) (mem_screenRow v1 s) := by
  unfold mem_screenRow
  refine e_mv 1 em_198 (ce_at ce_198 0 rfl) rfl rfl ?_
  refine e_gd fun g1 => ?_
  refine e_iflt 10 4 em_198 rfl rfl (ce_at ce_198 1 rfl) g1 (fun h2 => ?_) (fun h2 => ?_)
  · refine e_lcon 11 em_198 (ce_at ce_198 5 rfl) (x := 0) rfl rfl ?_
    exact e_retl em_198 (ce_at ce_198 6 rfl)
  · refine e_mv 5 em_198 (ce_at ce_198 2 rfl) rfl rfl ?_
    refine e_bip 7 em_198 (ce_at ce_198 3 rfl) (by decide) rfl ?_
    refine e_cmlt 12 10 em_198 rfl rfl (ce_at ce_198 4 rfl) g1 (by decide) (fun h3 => ?_) (fun h3 => ?_)
    · refine e_lcon 13 em_198 (ce_at ce_198 7 rfl) (x := 0) rfl rfl ?_
      refine e_mv 14 em_198 (ce_at ce_198 8 rfl) rfl rfl ?_
      refine e_op 15 em_198 (ce_at ce_198 9 rfl) rfl rfl ?_
      refine e_mv 17 em_198 (ce_at ce_198 10 rfl) rfl rfl ?_
      refine e_pk [0, 1, 2, 4] rfl rfl ?_
      exact tmem_screenRow_17 w d hd _ _ _ _
    · refine e_lcon 11 em_198 (ce_at ce_198 5 rfl) (x := 0) rfl rfl ?_
      exact e_retl em_198 (ce_at ce_198 6 rfl)
theorem fmem_screenRow (v1 : Int) (s : iS) : Fm Prod.snd L_mem_screenRow G_mem_screenRow s (mem_screenRow v1 s) := fm_gd (fm_if (fm_some md_refl) (fm_if (fmem_screenRow_17 _ _ _ _) (fm_some md_refl)))
/-! x_row -/
def L_x_row : List Nat := []
def G_x_row : List (Nat × Nat) := []
noncomputable def x_row (v1 : Int) (s : iS) : Option (Int × iS) := bd (mem_screenRow v1 s) (fun r1 s1 => some (r1, s1))
theorem tx_row (w : ev_W) (d : Nat) (hd : 1 ≤ d) (v1 : Int) (s : iS) : Ew hT w d 197 0 [(0, .ref (tb_nK + 0)), (1, iv v1)] [] s (Cl hT) (x_row v1 s) := by
  unfold x_row
  refine e_mv 1 em_197 (ce_at ce_197 0 rfl) rfl rfl ?_
  refine e_getr 4 em_197 (ce_at ce_197 1 rfl) tq_0 rfl rfl ?_
  refine e_mv 5 em_197 (ce_at ce_197 2 rfl) rfl rfl ?_
  refine e_ivl 8 em_197 (ce_at ce_197 3 rfl) (by omega) (iv_v1 (by decide) tq_44 rfl) em_198 (Nat.le_of_ble_eq_true rfl) rfl (tmem_screenRow w (d - 1) (by omega) _ _) (fun r1 s1 => ?_)
  exact e_retl em_197 (ce_at ce_197 4 rfl)
theorem fx_row (v1 : Int) (s : iS) : Fm Prod.snd L_x_row G_x_row s (x_row v1 s) := fm_bd (fm_sub (fmem_screenRow _ _) (mem_sub_L rfl) (mem_sub_F rfl)) (fun r1 s1 => fm_some md_refl)
/-! mem_wordOr -/
def L_mem_wordOr : List Nat := []
def G_mem_wordOr : List (Nat × Nat) := []
noncomputable def mem_wordOr (v1 : Int) (v2 : Int) (s : iS) : Option (Int × iS) := bd (mem_indexOf v1 s) (fun r1 s1 => gd (rg r1) (if r1 = (-1) then some (v2, s1) else gd (0 ≤ r1 ∧ r1 < 12416) (some ((s1 45 r1.toNat), s1))))
theorem tmem_wordOr (w : ev_W) (d : Nat) (hd : 1 ≤ d) (v1 : Int) (v2 : Int) (s : iS) : Ew hT w d 200 0 [(0, .ref (tb_nK + 44)), (1, iv v1), (2, iv v2)] [] s (Ci hT) (mem_wordOr v1 v2 s) := by
  unfold mem_wordOr
  refine e_mv 1 em_200 (ce_at ce_200 0 rfl) rfl rfl ?_
  refine e_ivi 4 em_200 (ce_at ce_200 1 rfl) (by omega) (iv_s1 rfl) em_151 (Nat.le_of_ble_eq_true rfl) rfl (tmem_indexOf hT w (d - 1) (by omega) _ _) (fun r1 s1 => ?_)
  refine e_mv 5 em_200 (ce_at ce_200 2 rfl) rfl rfl ?_
  refine e_mv 6 em_200 (ce_at ce_200 3 rfl) rfl rfl ?_
  refine e_op 7 em_200 (ce_at ce_200 4 rfl) rfl rfl ?_
  refine e_gd fun g2 => ?_
  refine e_cmne 14 10 em_200 rfl rfl (ce_at ce_200 5 rfl) g2 (by decide) (fun h3 => ?_) (fun h3 => ?_)
  · refine e_mv 15 em_200 (ce_at ce_200 8 rfl) rfl rfl ?_
    refine e_getr 18 em_200 (ce_at ce_200 9 rfl) tq_44 rfl rfl ?_
    refine e_mv 19 em_200 (ce_at ce_200 10 rfl) rfl rfl ?_
    refine e_gd fun g4 => ?_
    refine e_ild 20 em_200 (ce_at ce_200 11 rfl) tq_45 (by decide) g4 rfl ?_
    exact e_reti em_200 (ce_at ce_200 12 rfl)
  · refine e_mv 11 em_200 (ce_at ce_200 6 rfl) rfl rfl ?_
    refine e_goto em_200 20 (ce_at ce_200 7 rfl) rfl ?_
    exact e_reti em_200 (ce_at ce_200 12 rfl)
theorem fmem_wordOr (v1 : Int) (v2 : Int) (s : iS) : Fm Prod.snd L_mem_wordOr G_mem_wordOr s (mem_wordOr v1 v2 s) := fm_bd (fm_sub (fmem_indexOf _ _) (mem_sub_L rfl) (mem_sub_F rfl)) (fun r1 s1 => fm_gd (fm_if (fm_some md_refl) (fm_gd (fm_some md_refl))))
/-! x_word -/
def L_x_word : List Nat := []
def G_x_word : List (Nat × Nat) := []
noncomputable def x_word (v1 : Int) (s : iS) : Option (Int × iS) := bd (mem_wordOr v1 100000 s) (fun r1 s1 => some (r1, s1))
theorem tx_word (w : ev_W) (d : Nat) (hd : 2 ≤ d) (v1 : Int) (s : iS) : Ew hT w d 199 0 [(0, .ref (tb_nK + 0)), (1, iv v1)] [] s (Ci hT) (x_word v1 s) := by
  unfold x_word
  refine e_mv 1 em_199 (ce_at ce_199 0 rfl) rfl rfl ?_
  refine e_getr 4 em_199 (ce_at ce_199 1 rfl) tq_0 rfl rfl ?_
  refine e_mv 5 em_199 (ce_at ce_199 2 rfl) rfl rfl ?_
  refine e_ldc 7 em_199 (ce_at ce_199 3 rfl) (x := 100000) rfl rfl ?_
  refine e_ivi 10 em_199 (ce_at ce_199 4 rfl) (by omega) (iv_v2 (by decide) tq_44 rfl) em_200 (Nat.le_of_ble_eq_true rfl) rfl (tmem_wordOr w (d - 1) (by omega) _ _ _) (fun r1 s1 => ?_)
  exact e_reti em_199 (ce_at ce_199 5 rfl)
theorem fx_word (v1 : Int) (s : iS) : Fm Prod.snd L_x_word G_x_word s (x_word v1 s) := fm_bd (fm_sub (fmem_wordOr _ _ _) (mem_sub_L rfl) (mem_sub_F rfl)) (fun r1 s1 => fm_some md_refl)
/-! x_count -/
def L_x_count : List Nat := []
def G_x_count : List (Nat × Nat) := []
noncomputable def x_count (v1 : Int) (s : iS) : Option (Int × iS) := gd (rg v1) (if v1 = 0 then some ((s 0 1), s) else if v1 = 1 then some ((s 51 16), s) else if v1 = 2 then some ((s 51 17), s) else if v1 = 3 then some ((s 44 4), s) else if v1 = 4 then some ((s 44 3), s) else if v1 = 5 then bd (lib_waitingOutput s) (fun r8 s8 => some (r8, s8)) else if v1 = 6 then some ((s 48 7), s) else if v1 = 7 then gd (rg (s 0 3)) (if (s 0 3) = 0 then some (0, s) else some (1, s)) else some ((-1), s))
theorem tx_count (w : ev_W) (d : Nat) (hd : 1 ≤ d) (v1 : Int) (s : iS) : Ew hT w d 201 0 [(0, .ref (tb_nK + 0)), (1, iv v1)] [] s (Ci hT) (x_count v1 s) := by
  unfold x_count
  refine e_mv 1 em_201 (ce_at ce_201 0 rfl) rfl rfl ?_
  refine e_gd fun g1 => ?_
  refine e_case 0 (fun h2 => ?_) (fun h2 => ?_)
  · refine e_sw em_201 48 (ce_at ce_201 1 rfl) (sw_in g1 (by omega) (by subst h2; rfl)) rfl ?_
    refine e_mv 49 em_201 (ce_at ce_201 2 rfl) rfl rfl ?_
    refine e_get 52 em_201 (ce_at ce_201 3 rfl) tq_0 rfl rfl ?_
    exact e_reti em_201 (ce_at ce_201 4 rfl)
  refine e_case 1 (fun h3 => ?_) (fun h3 => ?_)
  · refine e_sw em_201 53 (ce_at ce_201 1 rfl) (sw_in g1 (by omega) (by subst h3; rfl)) rfl ?_
    refine e_mv 54 em_201 (ce_at ce_201 5 rfl) rfl rfl ?_
    refine e_getr 57 em_201 (ce_at ce_201 6 rfl) tq_0 rfl rfl ?_
    refine e_get 60 em_201 (ce_at ce_201 7 rfl) tq_51 rfl rfl ?_
    exact e_reti em_201 (ce_at ce_201 8 rfl)
  refine e_case 2 (fun h4 => ?_) (fun h4 => ?_)
  · refine e_sw em_201 61 (ce_at ce_201 1 rfl) (sw_in g1 (by omega) (by subst h4; rfl)) rfl ?_
    refine e_mv 62 em_201 (ce_at ce_201 9 rfl) rfl rfl ?_
    refine e_getr 65 em_201 (ce_at ce_201 10 rfl) tq_0 rfl rfl ?_
    refine e_get 68 em_201 (ce_at ce_201 11 rfl) tq_51 rfl rfl ?_
    exact e_reti em_201 (ce_at ce_201 12 rfl)
  refine e_case 3 (fun h5 => ?_) (fun h5 => ?_)
  · refine e_sw em_201 69 (ce_at ce_201 1 rfl) (sw_in g1 (by omega) (by subst h5; rfl)) rfl ?_
    refine e_mv 70 em_201 (ce_at ce_201 13 rfl) rfl rfl ?_
    refine e_getr 73 em_201 (ce_at ce_201 14 rfl) tq_0 rfl rfl ?_
    refine e_get 76 em_201 (ce_at ce_201 15 rfl) tq_44 rfl rfl ?_
    exact e_reti em_201 (ce_at ce_201 16 rfl)
  refine e_case 4 (fun h6 => ?_) (fun h6 => ?_)
  · refine e_sw em_201 77 (ce_at ce_201 1 rfl) (sw_in g1 (by omega) (by subst h6; rfl)) rfl ?_
    refine e_mv 78 em_201 (ce_at ce_201 17 rfl) rfl rfl ?_
    refine e_getr 81 em_201 (ce_at ce_201 18 rfl) tq_0 rfl rfl ?_
    refine e_get 84 em_201 (ce_at ce_201 19 rfl) tq_44 rfl rfl ?_
    exact e_reti em_201 (ce_at ce_201 20 rfl)
  refine e_case 5 (fun h7 => ?_) (fun h7 => ?_)
  · refine e_sw em_201 85 (ce_at ce_201 1 rfl) (sw_in g1 (by omega) (by subst h7; rfl)) rfl ?_
    refine e_mv 86 em_201 (ce_at ce_201 21 rfl) rfl rfl ?_
    refine e_getr 89 em_201 (ce_at ce_201 22 rfl) tq_0 rfl rfl ?_
    refine e_ivi 92 em_201 (ce_at ce_201 23 rfl) (by omega) (iv_v0 (by decide) tq_48 rfl) em_196 (Nat.le_of_ble_eq_true rfl) rfl (tlib_waitingOutput w (d - 1) (by omega) _) (fun r8 s8 => ?_)
    exact e_reti em_201 (ce_at ce_201 24 rfl)
  refine e_case 6 (fun h9 => ?_) (fun h9 => ?_)
  · refine e_sw em_201 93 (ce_at ce_201 1 rfl) (sw_in g1 (by omega) (by subst h9; rfl)) rfl ?_
    refine e_mv 94 em_201 (ce_at ce_201 25 rfl) rfl rfl ?_
    refine e_getr 97 em_201 (ce_at ce_201 26 rfl) tq_0 rfl rfl ?_
    refine e_get 100 em_201 (ce_at ce_201 27 rfl) tq_48 rfl rfl ?_
    exact e_reti em_201 (ce_at ce_201 28 rfl)
  refine e_case 7 (fun h10 => ?_) (fun h10 => ?_)
  · refine e_sw em_201 101 (ce_at ce_201 1 rfl) (sw_in g1 (by omega) (by subst h10; rfl)) rfl ?_
    refine e_mv 102 em_201 (ce_at ce_201 29 rfl) rfl rfl ?_
    refine e_get 105 em_201 (ce_at ce_201 30 rfl) tq_0 rfl rfl ?_
    refine e_gd fun g11 => ?_
    refine e_ifeq 112 108 em_201 rfl rfl (ce_at ce_201 31 rfl) g11 (fun h12 => ?_) (fun h12 => ?_)
    · refine e_op 113 em_201 (ce_at ce_201 34 rfl) rfl rfl ?_
      exact e_reti em_201 (ce_at ce_201 35 rfl)
    · refine e_op 109 em_201 (ce_at ce_201 32 rfl) rfl rfl ?_
      refine e_goto em_201 113 (ce_at ce_201 33 rfl) rfl ?_
      exact e_reti em_201 (ce_at ce_201 35 rfl)
  refine e_sw em_201 114 (ce_at ce_201 1 rfl) (sw_out g1 (by omega)) rfl ?_
  refine e_op 115 em_201 (ce_at ce_201 36 rfl) rfl rfl ?_
  exact e_reti em_201 (ce_at ce_201 37 rfl)
theorem fx_count (v1 : Int) (s : iS) : Fm Prod.snd L_x_count G_x_count s (x_count v1 s) := fm_gd (fm_if (fm_some md_refl) (fm_if (fm_some md_refl) (fm_if (fm_some md_refl) (fm_if (fm_some md_refl) (fm_if (fm_some md_refl) (fm_if (fm_bd (fm_sub (flib_waitingOutput _) (mem_sub_L rfl) (mem_sub_F rfl)) (fun r8 s8 => fm_some md_refl)) (fm_if (fm_some md_refl) (fm_if (fm_gd (fm_if (fm_some md_refl) (fm_some md_refl))) (fm_some md_refl)))))))))
/-! prg_numberOf -/
def L_prg_numberOf : List Nat := []
def G_prg_numberOf : List (Nat × Nat) := []
noncomputable def prg_numberOf (v1 : Int) (v2 : Int) (s : iS) : Option (Int × iS) := gd (rg v1) (if v1 < 0 then some ((-1), s) else gd (rg (s 14 8)) (if v1 < (s 14 8) then gd (rg v2) (if v2 = 0 then gd (0 ≤ v1 ∧ v1 < 3000) (some ((s 15 v1.toNat), s)) else if v2 = 1 then gd (0 ≤ v1 ∧ v1 < 3000) (some ((s 16 v1.toNat), s)) else if v2 = 2 then gd (0 ≤ v1 ∧ v1 < 3000) (some ((s 17 v1.toNat), s)) else some ((-1), s)) else some ((-1), s)))
theorem tprg_numberOf (w : ev_W) (d : Nat) (hd : 0 ≤ d) (v1 : Int) (v2 : Int) (s : iS) : Ew hT w d 203 0 [(0, .ref (tb_nK + 14)), (1, iv v1), (2, iv v2)] [] s (Ci hT) (prg_numberOf v1 v2 s) := by
  unfold prg_numberOf
  refine e_mv 1 em_203 (ce_at ce_203 0 rfl) rfl rfl ?_
  refine e_gd fun g1 => ?_
  refine e_iflt 12 4 em_203 rfl rfl (ce_at ce_203 1 rfl) g1 (fun h2 => ?_) (fun h2 => ?_)
  · refine e_op 13 em_203 (ce_at ce_203 6 rfl) rfl rfl ?_
    exact e_reti em_203 (ce_at ce_203 7 rfl)
  · refine e_mv 5 em_203 (ce_at ce_203 2 rfl) rfl rfl ?_
    refine e_mv 6 em_203 (ce_at ce_203 3 rfl) rfl rfl ?_
    refine e_get 9 em_203 (ce_at ce_203 4 rfl) tq_14 rfl rfl ?_
    refine e_gd fun g3 => ?_
    refine e_cmlt 14 12 em_203 rfl rfl (ce_at ce_203 5 rfl) g1 g3 (fun h4 => ?_) (fun h4 => ?_)
    · refine e_mv 15 em_203 (ce_at ce_203 8 rfl) rfl rfl ?_
      refine e_gd fun g5 => ?_
      refine e_case 0 (fun h6 => ?_) (fun h6 => ?_)
      · refine e_sw em_203 40 (ce_at ce_203 9 rfl) (sw_in g5 (by omega) (by subst h6; rfl)) rfl ?_
        refine e_mv 41 em_203 (ce_at ce_203 10 rfl) rfl rfl ?_
        refine e_getr 44 em_203 (ce_at ce_203 11 rfl) tq_14 rfl rfl ?_
        refine e_mv 45 em_203 (ce_at ce_203 12 rfl) rfl rfl ?_
        refine e_gd fun g7 => ?_
        refine e_ild 46 em_203 (ce_at ce_203 13 rfl) tq_15 (by decide) g7 rfl ?_
        exact e_reti em_203 (ce_at ce_203 14 rfl)
      refine e_case 1 (fun h8 => ?_) (fun h8 => ?_)
      · refine e_sw em_203 47 (ce_at ce_203 9 rfl) (sw_in g5 (by omega) (by subst h8; rfl)) rfl ?_
        refine e_mv 48 em_203 (ce_at ce_203 15 rfl) rfl rfl ?_
        refine e_getr 51 em_203 (ce_at ce_203 16 rfl) tq_14 rfl rfl ?_
        refine e_mv 52 em_203 (ce_at ce_203 17 rfl) rfl rfl ?_
        refine e_gd fun g9 => ?_
        refine e_ild 53 em_203 (ce_at ce_203 18 rfl) tq_16 (by decide) g9 rfl ?_
        exact e_reti em_203 (ce_at ce_203 19 rfl)
      refine e_case 2 (fun h10 => ?_) (fun h10 => ?_)
      · refine e_sw em_203 54 (ce_at ce_203 9 rfl) (sw_in g5 (by omega) (by subst h10; rfl)) rfl ?_
        refine e_mv 55 em_203 (ce_at ce_203 20 rfl) rfl rfl ?_
        refine e_getr 58 em_203 (ce_at ce_203 21 rfl) tq_14 rfl rfl ?_
        refine e_mv 59 em_203 (ce_at ce_203 22 rfl) rfl rfl ?_
        refine e_gd fun g11 => ?_
        refine e_ild 60 em_203 (ce_at ce_203 23 rfl) tq_17 (by decide) g11 rfl ?_
        exact e_reti em_203 (ce_at ce_203 24 rfl)
      refine e_sw em_203 61 (ce_at ce_203 9 rfl) (sw_out g5 (by omega)) rfl ?_
      refine e_op 62 em_203 (ce_at ce_203 25 rfl) rfl rfl ?_
      exact e_reti em_203 (ce_at ce_203 26 rfl)
    · refine e_op 13 em_203 (ce_at ce_203 6 rfl) rfl rfl ?_
      exact e_reti em_203 (ce_at ce_203 7 rfl)
theorem fprg_numberOf (v1 : Int) (v2 : Int) (s : iS) : Fm Prod.snd L_prg_numberOf G_prg_numberOf s (prg_numberOf v1 v2 s) := fm_gd (fm_if (fm_some md_refl) (fm_gd (fm_if (fm_gd (fm_if (fm_gd (fm_some md_refl)) (fm_if (fm_gd (fm_some md_refl)) (fm_if (fm_gd (fm_some md_refl)) (fm_some md_refl))))) (fm_some md_refl))))
/-! x_command -/
def L_x_command : List Nat := []
def G_x_command : List (Nat × Nat) := []
noncomputable def x_command (v1 : Int) (v2 : Int) (s : iS) : Option (Int × iS) := gd (rg (s 0 3)) (if (s 0 3) = 0 then some ((-1), s) else bd (prg_numberOf v1 v2 s) (fun r3 s3 => some (r3, s3)))
theorem tx_command (w : ev_W) (d : Nat) (hd : 1 ≤ d) (v1 : Int) (v2 : Int) (s : iS) : Ew hT w d 202 0 [(0, .ref (tb_nK + 0)), (1, iv v1), (2, iv v2)] [] s (Ci hT) (x_command v1 v2 s) := by
  unfold x_command
  refine e_mv 1 em_202 (ce_at ce_202 0 rfl) rfl rfl ?_
  refine e_get 4 em_202 (ce_at ce_202 1 rfl) tq_0 rfl rfl ?_
  refine e_gd fun g1 => ?_
  refine e_ifeq 19 7 em_202 rfl rfl (ce_at ce_202 2 rfl) g1 (fun h2 => ?_) (fun h2 => ?_)
  · refine e_op 20 em_202 (ce_at ce_202 9 rfl) rfl rfl ?_
    exact e_reti em_202 (ce_at ce_202 10 rfl)
  · refine e_mv 8 em_202 (ce_at ce_202 3 rfl) rfl rfl ?_
    refine e_getr 11 em_202 (ce_at ce_202 4 rfl) tq_0 rfl rfl ?_
    refine e_mv 12 em_202 (ce_at ce_202 5 rfl) rfl rfl ?_
    refine e_mv 13 em_202 (ce_at ce_202 6 rfl) rfl rfl ?_
    refine e_ivi 16 em_202 (ce_at ce_202 7 rfl) (by omega) (iv_v2 (by decide) tq_14 rfl) em_203 (Nat.le_of_ble_eq_true rfl) rfl (tprg_numberOf w (d - 1) (by omega) _ _ _) (fun r3 s3 => ?_)
    refine e_goto em_202 20 (ce_at ce_202 8 rfl) rfl ?_
    exact e_reti em_202 (ce_at ce_202 10 rfl)
theorem fx_command (v1 : Int) (v2 : Int) (s : iS) : Fm Prod.snd L_x_command G_x_command s (x_command v1 v2 s) := fm_gd (fm_if (fm_some md_refl) (fm_bd (fm_sub (fprg_numberOf _ _ _) (mem_sub_L rfl) (mem_sub_F rfl)) (fun r3 s3 => fm_some md_refl)))
/-! pro_reset -/
def L_pro_reset : List Nat := [70]
def G_pro_reset : List (Nat × Nat) := [(55, 8), (55, 9), (55, 10), (55, 11), (55, 12), (55, 14), (55, 15), (65, 2)]
noncomputable def pro_reset (s : iS) : Option (Int × iS) := bd (arr_fill 70 32768 0 s) (fun _ s1 => bd (nam_keep 65 66 67 123 23 s1) (fun _ s2 => lt' (up s2 55 8 0) (fun s3 => lt' (up s3 55 9 0) (fun s4 => lt' (up s4 55 10 0) (fun s5 => lt' (up s5 55 11 0) (fun s6 => lt' (up s6 55 12 0) (fun s7 => lt' (up s7 55 14 0) (fun s8 => lt' (up s8 55 15 (-1)) (fun s9 => some (0, s9))))))))))
theorem tpro_reset (w : ev_W) (d : Nat) (hd : 2 ≤ d) (s : iS) : Ew hT w d 206 0 [(0, .ref (tb_nK + 55))] [] s (Cv hT) (pro_reset s) := by
  unfold pro_reset
  refine e_mv 1 em_206 (ce_at ce_206 0 rfl) rfl rfl ?_
  refine e_getr 4 em_206 (ce_at ce_206 1 rfl) tq_55 rfl rfl ?_
  refine e_op 5 em_206 (ce_at ce_206 2 rfl) rfl rfl ?_
  refine e_ivv 8 em_206 (ce_at ce_206 3 rfl) (by omega) (iv_s2 rfl) em_142 (Nat.le_of_ble_eq_true rfl) rfl (tarr_fill hT w (d - 1) (by omega) 70 32768 tq_70 (by decide) _ _) (fun r1 s1 => ?_)
  refine e_mv 9 em_206 (ce_at ce_206 4 rfl) rfl rfl ?_
  refine e_getr 12 em_206 (ce_at ce_206 5 rfl) tq_55 rfl rfl ?_
  refine e_bip 14 em_206 (ce_at ce_206 6 rfl) (by decide) rfl ?_
  refine e_ivv 17 em_206 (ce_at ce_206 7 rfl) (by omega) (iv_v1 (by decide) tq_65 rfl) em_66 (Nat.le_of_ble_eq_true rfl) rfl (tnam_keep hT w (d - 1) (by omega) 65 66 67 123 tq_65 tq_66 tq_67 (by decide) _ _) (fun r2 s2 => ?_)
  refine e_mv 18 em_206 (ce_at ce_206 8 rfl) rfl rfl ?_
  refine e_op 19 em_206 (ce_at ce_206 9 rfl) rfl rfl ?_
  refine e_put 22 em_206 (ce_at ce_206 10 rfl) tq_55 rfl rfl rfl (fun s3 => ?_)
  refine e_mv 23 em_206 (ce_at ce_206 11 rfl) rfl rfl ?_
  refine e_op 24 em_206 (ce_at ce_206 12 rfl) rfl rfl ?_
  refine e_put 27 em_206 (ce_at ce_206 13 rfl) tq_55 rfl rfl rfl (fun s4 => ?_)
  refine e_mv 28 em_206 (ce_at ce_206 14 rfl) rfl rfl ?_
  refine e_op 29 em_206 (ce_at ce_206 15 rfl) rfl rfl ?_
  refine e_put 32 em_206 (ce_at ce_206 16 rfl) tq_55 rfl rfl rfl (fun s5 => ?_)
  refine e_mv 33 em_206 (ce_at ce_206 17 rfl) rfl rfl ?_
  refine e_op 34 em_206 (ce_at ce_206 18 rfl) rfl rfl ?_
  refine e_put 37 em_206 (ce_at ce_206 19 rfl) tq_55 rfl rfl rfl (fun s6 => ?_)
  refine e_mv 38 em_206 (ce_at ce_206 20 rfl) rfl rfl ?_
  refine e_op 39 em_206 (ce_at ce_206 21 rfl) rfl rfl ?_
  refine e_put 42 em_206 (ce_at ce_206 22 rfl) tq_55 rfl rfl rfl (fun s7 => ?_)
  refine e_mv 43 em_206 (ce_at ce_206 23 rfl) rfl rfl ?_
  refine e_op 44 em_206 (ce_at ce_206 24 rfl) rfl rfl ?_
  refine e_put 47 em_206 (ce_at ce_206 25 rfl) tq_55 rfl rfl rfl (fun s8 => ?_)
  refine e_mv 48 em_206 (ce_at ce_206 26 rfl) rfl rfl ?_
  refine e_op 49 em_206 (ce_at ce_206 27 rfl) rfl rfl ?_
  refine e_put 52 em_206 (ce_at ce_206 28 rfl) tq_55 rfl rfl rfl (fun s9 => ?_)
  exact e_retv em_206 (ce_at ce_206 29 rfl)
theorem fpro_reset (s : iS) : Fm Prod.snd L_pro_reset G_pro_reset s (pro_reset s) := fm_bd (fm_sub (farr_fill 70 32768 _ _) (mem_sub_L rfl) (mem_sub_F rfl)) (fun r1 s1 => fm_bd (fm_sub (fnam_keep 65 66 67 123 _ _) (mem_sub_L rfl) (mem_sub_F rfl)) (fun r2 s2 => fm_lt (md_upF (mem_F rfl)) (fun s3 => fm_lt (md_upF (mem_F rfl)) (fun s4 => fm_lt (md_upF (mem_F rfl)) (fun s5 => fm_lt (md_upF (mem_F rfl)) (fun s6 => fm_lt (md_upF (mem_F rfl)) (fun s7 => fm_lt (md_upF (mem_F rfl)) (fun s8 => fm_lt (md_upF (mem_F rfl)) (fun s9 => fm_some md_refl)))))))))
/-! pro_isBlank -/
def L_pro_isBlank : List Nat := []
def G_pro_isBlank : List (Nat × Nat) := []
noncomputable def pro_isBlank (v0 : Int) (s : iS) : Option (Int × iS) := gd (rg v0) (if v0 = 32 then some (1, s) else if v0 = 9 then some (1, s) else if v0 = 13 then some (1, s) else some (0, s))
theorem tpro_isBlank (H : iS → List am_C) (w : ev_W) (d : Nat) (hd : 0 ≤ d) (v0 : Int) (s : iS) : Ew H w d 209 0 [(0, iv v0)] [] s (Ci H) (pro_isBlank v0 s) := by
  unfold pro_isBlank
  refine e_mv 1 em_209 (ce_at ce_209 0 rfl) rfl rfl ?_
  refine e_bip 3 em_209 (ce_at ce_209 1 rfl) (by decide) rfl ?_
  refine e_gd fun g1 => ?_
  refine e_cmeq 18 6 em_209 rfl rfl (ce_at ce_209 2 rfl) g1 (by decide) (fun h2 => ?_) (fun h2 => ?_)
  · refine e_op 19 em_209 (ce_at ce_209 9 rfl) rfl rfl ?_
    refine e_goto em_209 23 (ce_at ce_209 10 rfl) rfl ?_
    exact e_retz em_209 (ce_at ce_209 12 rfl) (by decide)
  · refine e_mv 7 em_209 (ce_at ce_209 3 rfl) rfl rfl ?_
    refine e_bip 9 em_209 (ce_at ce_209 4 rfl) (by decide) rfl ?_
    refine e_cmeq 18 12 em_209 rfl rfl (ce_at ce_209 5 rfl) g1 (by decide) (fun h3 => ?_) (fun h3 => ?_)
    · refine e_op 19 em_209 (ce_at ce_209 9 rfl) rfl rfl ?_
      refine e_goto em_209 23 (ce_at ce_209 10 rfl) rfl ?_
      exact e_retz em_209 (ce_at ce_209 12 rfl) (by decide)
    · refine e_mv 13 em_209 (ce_at ce_209 6 rfl) rfl rfl ?_
      refine e_bip 15 em_209 (ce_at ce_209 7 rfl) (by decide) rfl ?_
      refine e_cmne 22 18 em_209 rfl rfl (ce_at ce_209 8 rfl) g1 (by decide) (fun h4 => ?_) (fun h4 => ?_)
      · refine e_op 23 em_209 (ce_at ce_209 11 rfl) rfl rfl ?_
        exact e_retz em_209 (ce_at ce_209 12 rfl) (by decide)
      · refine e_op 19 em_209 (ce_at ce_209 9 rfl) rfl rfl ?_
        refine e_goto em_209 23 (ce_at ce_209 10 rfl) rfl ?_
        exact e_retz em_209 (ce_at ce_209 12 rfl) (by decide)
theorem fpro_isBlank (v0 : Int) (s : iS) : Fm Prod.snd L_pro_isBlank G_pro_isBlank s (pro_isBlank v0 s) := fm_gd (fm_if (fm_some md_refl) (fm_if (fm_some md_refl) (fm_if (fm_some md_refl) (fm_some md_refl))))
/-! pro_skipBlanks -/
def L_pro_skipBlanks : List Nat := []
def G_pro_skipBlanks : List (Nat × Nat) := []
def pro_skipBlanks_2C (w : ev_W) (d : Nat) : (Int × iS) ⊕ (Int × iS) → am_E → Prop := fun q r => q.elim (fun l => ev w d 208 2 ((fun l => [(0, .ref (tb_nK + 55)), (2, iv (l.1))]) l) [] (hT ((fun l => l.2) l)) r) (fun e => (fun e r => ev w d 208 28 [(2, iv (e.1))] [] (hT (e.2)) r) e r)
noncomputable def pro_skipBlanks_2b (v2 : Int) (s : iS) : Option ((Int × iS) ⊕ (Int × iS)) := gd (rg v2) (gd (rg (s 55 13)) (if (s 55 13) ≤ v2 then some (.inr (v2, s)) else gd (0 ≤ v2 ∧ v2 < 4000) (bd (pro_isBlank (s 1 v2.toNat) s) (fun r5 s5 => gd (rg r5) (if r5 = 0 then some (.inr (v2, s5)) else some (.inl ((v2 + 1), s5)))))))
theorem tpro_skipBlanks_2b (w : ev_W) (d : Nat) (hd : 1 ≤ d) (v2 : Int) (s : iS) : Ew hT w d 208 2 [(0, .ref (tb_nK + 55)), (2, iv v2)] [] s (pro_skipBlanks_2C w d) (pro_skipBlanks_2b v2 s) := by
  unfold pro_skipBlanks_2b
  refine e_mv 3 em_208 (ce_at ce_208 2 rfl) rfl rfl ?_
  refine e_mv 4 em_208 (ce_at ce_208 3 rfl) rfl rfl ?_
  refine e_get 7 em_208 (ce_at ce_208 4 rfl) tq_55 rfl rfl ?_
  refine e_gd fun g1 => ?_
  refine e_gd fun g2 => ?_
  refine e_cmge 28 10 em_208 rfl rfl (ce_at ce_208 5 rfl) g1 g2 (fun h3 => ?_) (fun h3 => ?_)
  · refine e_pk [2] rfl rfl ?_
    exact e_out (fun r h => h)
  · refine e_mv 11 em_208 (ce_at ce_208 6 rfl) rfl rfl ?_
    refine e_getr 14 em_208 (ce_at ce_208 7 rfl) tq_55 rfl rfl ?_
    refine e_mv 15 em_208 (ce_at ce_208 8 rfl) rfl rfl ?_
    refine e_gd fun g4 => ?_
    refine e_ild 16 em_208 (ce_at ce_208 9 rfl) tq_1 (by decide) g4 rfl ?_
    refine e_ivi 19 em_208 (ce_at ce_208 10 rfl) (by omega) (iv_s1 rfl) em_209 (Nat.le_of_ble_eq_true rfl) rfl (tpro_isBlank hT w (d - 1) (by omega) _ _) (fun r5 s5 => ?_)
    refine e_gd fun g6 => ?_
    refine e_ifeq 28 22 em_208 rfl rfl (ce_at ce_208 11 rfl) g6 (fun h7 => ?_) (fun h7 => ?_)
    · refine e_pk [2] rfl rfl ?_
      exact e_out (fun r h => h)
    · refine e_iinc 25 em_208 (ce_at ce_208 12 rfl) rfl (by decide) rfl ?_
      refine e_goto em_208 2 (ce_at ce_208 13 rfl) rfl ?_
      refine e_pk [0, 2] rfl rfl ?_
      exact e_out (fun r h => h)
theorem fpro_skipBlanks_2b (v2 : Int) (s : iS) : Fm (fun r : (Int × iS) ⊕ (Int × iS) => r.elim (fun l => l.2) (fun e => e.2)) L_pro_skipBlanks G_pro_skipBlanks s (pro_skipBlanks_2b v2 s) := fm_gd (fm_gd (fm_if (fm_some md_refl) (fm_gd (fm_bd (fm_sub (fpro_isBlank _ _) (mem_sub_L rfl) (mem_sub_F rfl)) (fun r5 s5 => fm_gd (fm_if (fm_some md_refl) (fm_some md_refl)))))))
noncomputable def pro_skipBlanks_2 (v2 : Int) (s : iS) : Option (Int × iS) := (lp (L := Int × iS) (E := Int × iS) (fun l => pro_skipBlanks_2b (l.1) (l.2)) (v2, s)).bind (fun e => some (e.1, e.2))
theorem tpro_skipBlanks_2 (w : ev_W) (d : Nat) (hd : 1 ≤ d) (v2 : Int) (s : iS) : Ew hT w d 208 2 [(0, .ref (tb_nK + 55)), (2, iv v2)] [] s (Ci hT) (pro_skipBlanks_2 v2 s) := by
  unfold pro_skipBlanks_2
  refine e_lp (L := Int × iS) (E := Int × iS) (LO := fun l => [(0, .ref (tb_nK + 55)), (2, iv (l.1))]) (LS := fun l => l.2) (CE := fun e r => ev w d 208 28 [(2, iv (e.1))] [] (hT (e.2)) r) (fun l => tpro_skipBlanks_2b w d hd _ _) ?_ (v2, s)
  intro e
  show Ew hT w d 208 28 [(2, iv (e.1))] [] e.2 (Ci hT) _
  refine e_mv 29 em_208 (ce_at ce_208 14 rfl) rfl rfl ?_
  exact e_reti em_208 (ce_at ce_208 15 rfl)
theorem fpro_skipBlanks_2 (v2 : Int) (s : iS) : Fm Prod.snd L_pro_skipBlanks G_pro_skipBlanks s (pro_skipBlanks_2 v2 s) := by
  unfold pro_skipBlanks_2
  refine fm_lp (A := Int × iS) (E := Int × iS) (LS := fun l => l.2) (LE := fun e => e.2) ?_ ?_ (v2, s)
  · exact fun l => fpro_skipBlanks_2b _ _
  · exact (fun e => fm_some md_refl)
noncomputable def pro_skipBlanks (v1 : Int) (s : iS) : Option (Int × iS) := pro_skipBlanks_2 v1 s
theorem tpro_skipBlanks (w : ev_W) (d : Nat) (hd : 1 ≤ d) (v1 : Int) (s : iS) : Ew hT w d 208 0 [(0, .ref (tb_nK + 55)), (1, iv v1)] [] s (Ci hT) (pro_skipBlanks v1 s) := by
  unfold pro_skipBlanks
  refine e_mv 1 em_208 (ce_at ce_208 0 rfl) rfl rfl ?_
  refine e_mv 2 em_208 (ce_at ce_208 1 rfl) rfl rfl ?_
  refine e_pk [0, 2] rfl rfl ?_
  exact tpro_skipBlanks_2 w d hd _ _
theorem fpro_skipBlanks (v1 : Int) (s : iS) : Fm Prod.snd L_pro_skipBlanks G_pro_skipBlanks s (pro_skipBlanks v1 s) := fpro_skipBlanks_2 _ _
/-! pro_isComment -/
def L_pro_isComment : List Nat := []
def G_pro_isComment : List (Nat × Nat) := []
noncomputable def pro_isComment (v1 : Int) (s : iS) : Option (Int × iS) := gd (rg (v1 + 1)) (gd (rg (s 55 13)) (if (s 55 13) ≤ (v1 + 1) then some (0, s) else gd (0 ≤ v1 ∧ v1 < 4000) (gd (rg (s 1 v1.toNat)) (if (s 1 v1.toNat) = 47 then gd (0 ≤ (v1 + 1) ∧ (v1 + 1) < 4000) (gd (rg (s 1 (v1 + 1).toNat)) (if (s 1 (v1 + 1).toNat) = 47 then some (1, s) else some (0, s))) else some (0, s)))))
theorem tpro_isComment (w : ev_W) (d : Nat) (hd : 0 ≤ d) (v1 : Int) (s : iS) : Ew hT w d 211 0 [(0, .ref (tb_nK + 55)), (1, iv v1)] [] s (Ci hT) (pro_isComment v1 s) := by
  unfold pro_isComment
  refine e_mv 1 em_211 (ce_at ce_211 0 rfl) rfl rfl ?_
  refine e_op 2 em_211 (ce_at ce_211 1 rfl) rfl rfl ?_
  refine e_iadd 3 em_211 rfl (ce_at ce_211 2 rfl) ?_
  refine e_mv 4 em_211 (ce_at ce_211 3 rfl) rfl rfl ?_
  refine e_get 7 em_211 (ce_at ce_211 4 rfl) tq_55 rfl rfl ?_
  refine e_gd fun g1 => ?_
  refine e_gd fun g2 => ?_
  refine e_cmge 38 10 em_211 rfl rfl (ce_at ce_211 5 rfl) g1 g2 (fun h3 => ?_) (fun h3 => ?_)
  · refine e_op 39 em_211 (ce_at ce_211 22 rfl) rfl rfl ?_
    exact e_retz em_211 (ce_at ce_211 23 rfl) (by decide)
  · refine e_mv 11 em_211 (ce_at ce_211 6 rfl) rfl rfl ?_
    refine e_getr 14 em_211 (ce_at ce_211 7 rfl) tq_55 rfl rfl ?_
    refine e_mv 15 em_211 (ce_at ce_211 8 rfl) rfl rfl ?_
    refine e_gd fun g4 => ?_
    refine e_ild 16 em_211 (ce_at ce_211 9 rfl) tq_1 (by decide) g4 rfl ?_
    refine e_bip 18 em_211 (ce_at ce_211 10 rfl) (by decide) rfl ?_
    refine e_gd fun g5 => ?_
    refine e_cmne 38 21 em_211 rfl rfl (ce_at ce_211 11 rfl) g5 (by decide) (fun h6 => ?_) (fun h6 => ?_)
    · refine e_op 39 em_211 (ce_at ce_211 22 rfl) rfl rfl ?_
      exact e_retz em_211 (ce_at ce_211 23 rfl) (by decide)
    · refine e_mv 22 em_211 (ce_at ce_211 12 rfl) rfl rfl ?_
      refine e_getr 25 em_211 (ce_at ce_211 13 rfl) tq_55 rfl rfl ?_
      refine e_mv 26 em_211 (ce_at ce_211 14 rfl) rfl rfl ?_
      refine e_op 27 em_211 (ce_at ce_211 15 rfl) rfl rfl ?_
      refine e_iadd 28 em_211 rfl (ce_at ce_211 16 rfl) ?_
      refine e_gd fun g7 => ?_
      refine e_ild 29 em_211 (ce_at ce_211 17 rfl) tq_1 (by decide) g7 rfl ?_
      refine e_bip 31 em_211 (ce_at ce_211 18 rfl) (by decide) rfl ?_
      refine e_gd fun g8 => ?_
      refine e_cmne 38 34 em_211 rfl rfl (ce_at ce_211 19 rfl) g8 (by decide) (fun h9 => ?_) (fun h9 => ?_)
      · refine e_op 39 em_211 (ce_at ce_211 22 rfl) rfl rfl ?_
        exact e_retz em_211 (ce_at ce_211 23 rfl) (by decide)
      · refine e_op 35 em_211 (ce_at ce_211 20 rfl) rfl rfl ?_
        refine e_goto em_211 39 (ce_at ce_211 21 rfl) rfl ?_
        exact e_retz em_211 (ce_at ce_211 23 rfl) (by decide)
theorem fpro_isComment (v1 : Int) (s : iS) : Fm Prod.snd L_pro_isComment G_pro_isComment s (pro_isComment v1 s) := fm_gd (fm_gd (fm_if (fm_some md_refl) (fm_gd (fm_gd (fm_if (fm_gd (fm_gd (fm_if (fm_some md_refl) (fm_some md_refl)))) (fm_some md_refl))))))
/-! pro_instructionEnd -/
def L_pro_instructionEnd : List Nat := []
def G_pro_instructionEnd : List (Nat × Nat) := []
def pro_instructionEnd_2C (w : ev_W) (d : Nat) : (Int × iS) ⊕ (Int × iS) → am_E → Prop := fun q r => q.elim (fun l => ev w d 210 2 ((fun l => [(0, .ref (tb_nK + 55)), (2, iv (l.1))]) l) [] (hT ((fun l => l.2) l)) r) (fun e => (fun e r => ev w d 210 47 [(2, iv (e.1))] [] (hT (e.2)) r) e r)
noncomputable def pro_instructionEnd_2b (v2 : Int) (s : iS) : Option ((Int × iS) ⊕ (Int × iS)) := gd (rg v2) (gd (rg (s 55 13)) (if (s 55 13) ≤ v2 then some (.inr (v2, s)) else gd (0 ≤ v2 ∧ v2 < 4000) (bd (pro_isBlank (s 1 v2.toNat) s) (fun r5 s5 => gd (rg r5) (if r5 = 0 then gd (rg (s5 1 v2.toNat)) (if (s5 1 v2.toNat) = 10 then some (.inr (v2, s5)) else bd (pro_isComment v2 s5) (fun r10 s10 => gd (rg r10) (if r10 = 0 then some (.inl ((v2 + 1), s10)) else some (.inr (v2, s10))))) else some (.inr (v2, s5)))))))
theorem tpro_instructionEnd_2b (w : ev_W) (d : Nat) (hd : 1 ≤ d) (v2 : Int) (s : iS) : Ew hT w d 210 2 [(0, .ref (tb_nK + 55)), (2, iv v2)] [] s (pro_instructionEnd_2C w d) (pro_instructionEnd_2b v2 s) := by
  unfold pro_instructionEnd_2b
  refine e_mv 3 em_210 (ce_at ce_210 2 rfl) rfl rfl ?_
  refine e_mv 4 em_210 (ce_at ce_210 3 rfl) rfl rfl ?_
  refine e_get 7 em_210 (ce_at ce_210 4 rfl) tq_55 rfl rfl ?_
  refine e_gd fun g1 => ?_
  refine e_gd fun g2 => ?_
  refine e_cmge 47 10 em_210 rfl rfl (ce_at ce_210 5 rfl) g1 g2 (fun h3 => ?_) (fun h3 => ?_)
  · refine e_pk [2] rfl rfl ?_
    exact e_out (fun r h => h)
  · refine e_mv 11 em_210 (ce_at ce_210 6 rfl) rfl rfl ?_
    refine e_getr 14 em_210 (ce_at ce_210 7 rfl) tq_55 rfl rfl ?_
    refine e_mv 15 em_210 (ce_at ce_210 8 rfl) rfl rfl ?_
    refine e_gd fun g4 => ?_
    refine e_ild 16 em_210 (ce_at ce_210 9 rfl) tq_1 (by decide) g4 rfl ?_
    refine e_ivi 19 em_210 (ce_at ce_210 10 rfl) (by omega) (iv_s1 rfl) em_209 (Nat.le_of_ble_eq_true rfl) rfl (tpro_isBlank hT w (d - 1) (by omega) _ _) (fun r5 s5 => ?_)
    refine e_gd fun g6 => ?_
    refine e_ifne 47 22 em_210 rfl rfl (ce_at ce_210 11 rfl) g6 (fun h7 => ?_) (fun h7 => ?_)
    · refine e_pk [2] rfl rfl ?_
      exact e_out (fun r h => h)
    · refine e_mv 23 em_210 (ce_at ce_210 12 rfl) rfl rfl ?_
      refine e_getr 26 em_210 (ce_at ce_210 13 rfl) tq_55 rfl rfl ?_
      refine e_mv 27 em_210 (ce_at ce_210 14 rfl) rfl rfl ?_
      refine e_ild 28 em_210 (ce_at ce_210 15 rfl) tq_1 (by decide) g4 rfl ?_
      refine e_bip 30 em_210 (ce_at ce_210 16 rfl) (by decide) rfl ?_
      refine e_gd fun g8 => ?_
      refine e_cmeq 47 33 em_210 rfl rfl (ce_at ce_210 17 rfl) g8 (by decide) (fun h9 => ?_) (fun h9 => ?_)
      · refine e_pk [2] rfl rfl ?_
        exact e_out (fun r h => h)
      · refine e_mv 34 em_210 (ce_at ce_210 18 rfl) rfl rfl ?_
        refine e_mv 35 em_210 (ce_at ce_210 19 rfl) rfl rfl ?_
        refine e_ivi 38 em_210 (ce_at ce_210 20 rfl) (by omega) (iv_v1 (by decide) tq_55 rfl) em_211 (Nat.le_of_ble_eq_true rfl) rfl (tpro_isComment w (d - 1) (by omega) _ _) (fun r10 s10 => ?_)
        refine e_gd fun g11 => ?_
        refine e_ifne 47 41 em_210 rfl rfl (ce_at ce_210 21 rfl) g11 (fun h12 => ?_) (fun h12 => ?_)
        · refine e_pk [2] rfl rfl ?_
          exact e_out (fun r h => h)
        · refine e_iinc 44 em_210 (ce_at ce_210 22 rfl) rfl (by decide) rfl ?_
          refine e_goto em_210 2 (ce_at ce_210 23 rfl) rfl ?_
          refine e_pk [0, 2] rfl rfl ?_
          exact e_out (fun r h => h)
theorem fpro_instructionEnd_2b (v2 : Int) (s : iS) : Fm (fun r : (Int × iS) ⊕ (Int × iS) => r.elim (fun l => l.2) (fun e => e.2)) L_pro_instructionEnd G_pro_instructionEnd s (pro_instructionEnd_2b v2 s) := fm_gd (fm_gd (fm_if (fm_some md_refl) (fm_gd (fm_bd (fm_sub (fpro_isBlank _ _) (mem_sub_L rfl) (mem_sub_F rfl)) (fun r5 s5 => fm_gd (fm_if (fm_gd (fm_if (fm_some md_refl) (fm_bd (fm_sub (fpro_isComment _ _) (mem_sub_L rfl) (mem_sub_F rfl)) (fun r10 s10 => fm_gd (fm_if (fm_some md_refl) (fm_some md_refl)))))) (fm_some md_refl)))))))
noncomputable def pro_instructionEnd_2 (v2 : Int) (s : iS) : Option (Int × iS) := (lp (L := Int × iS) (E := Int × iS) (fun l => pro_instructionEnd_2b (l.1) (l.2)) (v2, s)).bind (fun e => some (e.1, e.2))
theorem tpro_instructionEnd_2 (w : ev_W) (d : Nat) (hd : 1 ≤ d) (v2 : Int) (s : iS) : Ew hT w d 210 2 [(0, .ref (tb_nK + 55)), (2, iv v2)] [] s (Ci hT) (pro_instructionEnd_2 v2 s) := by
  unfold pro_instructionEnd_2
  refine e_lp (L := Int × iS) (E := Int × iS) (LO := fun l => [(0, .ref (tb_nK + 55)), (2, iv (l.1))]) (LS := fun l => l.2) (CE := fun e r => ev w d 210 47 [(2, iv (e.1))] [] (hT (e.2)) r) (fun l => tpro_instructionEnd_2b w d hd _ _) ?_ (v2, s)
  intro e
  show Ew hT w d 210 47 [(2, iv (e.1))] [] e.2 (Ci hT) _
  refine e_mv 48 em_210 (ce_at ce_210 24 rfl) rfl rfl ?_
  exact e_reti em_210 (ce_at ce_210 25 rfl)
theorem fpro_instructionEnd_2 (v2 : Int) (s : iS) : Fm Prod.snd L_pro_instructionEnd G_pro_instructionEnd s (pro_instructionEnd_2 v2 s) := by
  unfold pro_instructionEnd_2
  refine fm_lp (A := Int × iS) (E := Int × iS) (LS := fun l => l.2) (LE := fun e => e.2) ?_ ?_ (v2, s)
  · exact fun l => fpro_instructionEnd_2b _ _
  · exact (fun e => fm_some md_refl)
noncomputable def pro_instructionEnd (v1 : Int) (s : iS) : Option (Int × iS) := pro_instructionEnd_2 v1 s
theorem tpro_instructionEnd (w : ev_W) (d : Nat) (hd : 1 ≤ d) (v1 : Int) (s : iS) : Ew hT w d 210 0 [(0, .ref (tb_nK + 55)), (1, iv v1)] [] s (Ci hT) (pro_instructionEnd v1 s) := by
  unfold pro_instructionEnd
  refine e_mv 1 em_210 (ce_at ce_210 0 rfl) rfl rfl ?_
  refine e_mv 2 em_210 (ce_at ce_210 1 rfl) rfl rfl ?_
  refine e_pk [0, 2] rfl rfl ?_
  exact tpro_instructionEnd_2 w d hd _ _
theorem fpro_instructionEnd (v1 : Int) (s : iS) : Fm Prod.snd L_pro_instructionEnd G_pro_instructionEnd s (pro_instructionEnd v1 s) := fpro_instructionEnd_2 _ _
