/-! what the methods do, as functions, and that the machine does it; printed by wip/whole/dc.py -/
/-! tok_expect -/
def L_tok_expect : List Nat := []
def G_tok_expect : List (Nat × Nat) := [(2, 12), (2, 13), (2, 14)]
noncomputable def tok_expect (v1 : Int) (s : iS) : Option (Int × iS) := bd (tok_kind s) (fun r1 s1 => gd (rg r1) (gd (rg v1) (if r1 = v1 then lt' (up s1 2 12 ((s1 2 12) + 1)) (fun s6 => some (0, s6)) else bd (tok_stop 1 s1) (fun _ s5 => some (0, s5)))))
theorem ttok_expect (w : ev_W) (d : Nat) (hd : 1 ≤ d) (v1 : Int) (s : iS) : Ew hT w d 86 0 [(0, .ref (tb_nK + 2)), (1, iv v1)] [] s (Cv hT) (tok_expect v1 s) := by
  unfold tok_expect
  refine e_mv 1 em_86 (ce_at ce_86 0 rfl) rfl rfl ?_
  refine e_ivi 4 em_86 (ce_at ce_86 1 rfl) (by omega) (iv_v0 (by decide) tq_2 rfl) em_69 (Nat.le_of_ble_eq_true rfl) rfl (ttok_kind w (d - 1) (by omega) _) (fun r1 s1 => ?_)
  refine e_mv 5 em_86 (ce_at ce_86 2 rfl) rfl rfl ?_
  refine e_gd fun g2 => ?_
  refine e_gd fun g3 => ?_
  refine e_cmne 21 8 em_86 rfl rfl (ce_at ce_86 3 rfl) g2 g3 (fun h4 => ?_) (fun h4 => ?_)
  · refine e_mv 22 em_86 (ce_at ce_86 11 rfl) rfl rfl ?_
    refine e_op 23 em_86 (ce_at ce_86 12 rfl) rfl rfl ?_
    refine e_ivv 26 em_86 (ce_at ce_86 13 rfl) (by omega) (iv_v1 (by decide) tq_2 rfl) em_71 (Nat.le_of_ble_eq_true rfl) rfl (ttok_stop w (d - 1) (by omega) _ _) (fun r5 s5 => ?_)
    exact e_retv em_86 (ce_at ce_86 14 rfl)
  · refine e_mv 9 em_86 (ce_at ce_86 4 rfl) rfl rfl ?_
    refine e_op 10 em_86 (ce_at ce_86 5 rfl) rfl rfl ?_
    refine e_get 13 em_86 (ce_at ce_86 6 rfl) tq_2 rfl rfl ?_
    refine e_op 14 em_86 (ce_at ce_86 7 rfl) rfl rfl ?_
    refine e_iadd 15 em_86 rfl (ce_at ce_86 8 rfl) ?_
    refine e_put 18 em_86 (ce_at ce_86 9 rfl) tq_2 rfl rfl rfl (fun s6 => ?_)
    refine e_goto em_86 26 (ce_at ce_86 10 rfl) rfl ?_
    exact e_retv em_86 (ce_at ce_86 14 rfl)
theorem ftok_expect (v1 : Int) (s : iS) : Fm Prod.snd L_tok_expect G_tok_expect s (tok_expect v1 s) := fm_bd (fm_sub (ftok_kind _) (mem_sub_L rfl) (mem_sub_F rfl)) (fun r1 s1 => fm_gd (fm_gd (fm_if (fm_lt (md_upF (mem_F rfl)) (fun s6 => fm_some md_refl)) (fm_bd (fm_sub (ftok_stop _ _) (mem_sub_L rfl) (mem_sub_F rfl)) (fun r5 s5 => fm_some md_refl)))))
/-! trl_readVariables -/
def L_trl_readVariables : List Nat := [34, 35, 36, 37, 38, 39, 40]
def G_trl_readVariables : List (Nat × Nat) := [(2, 12), (2, 13), (2, 14), (23, 15), (33, 2)]
def trl_readVariables_13C (w : ev_W) (d : Nat) (v1 : Int) (v2 : Int) : (Int × iS) ⊕ (iS) → am_E → Prop := fun q r => q.elim (fun l => ev w d 80 13 ((fun l => [(0, .ref (tb_nK + 22)), (1, iv v1), (2, iv v2), (3, iv (l.1))]) l) [] (hT ((fun l => l.2) l)) r) (fun e => (fun e r => ev w d 80 57 [(0, .ref (tb_nK + 22))] [] (hT (e)) r) e r)
noncomputable def trl_readVariables_13b (v1 : Int) (v2 : Int) (v3 : Int) (s : iS) : Option ((Int × iS) ⊕ (iS)) := gd (rg v3) (if 1000 ≤ v3 then some (.inr s) else bd (tok_kind s) (fun r3 s3 => gd (rg r3) (if r3 = 44 then lt' (up s3 2 12 ((s3 2 12) + 1)) (fun s6 => bd (trl_declare v1 v2 s6) (fun _ s7 => some (.inl ((v3 + 1), s7)))) else some (.inr s3))))
theorem ttrl_readVariables_13b (w : ev_W) (d : Nat) (hd : 4 ≤ d) (v1 : Int) (v2 : Int) (v3 : Int) (s : iS) : Ew hT w d 80 13 [(0, .ref (tb_nK + 22)), (1, iv v1), (2, iv v2), (3, iv v3)] [] s (trl_readVariables_13C w d v1 v2) (trl_readVariables_13b v1 v2 v3 s) := by
  unfold trl_readVariables_13b
  refine e_mv 14 em_80 (ce_at ce_80 9 rfl) rfl rfl ?_
  refine e_sip 17 em_80 (ce_at ce_80 10 rfl) (by decide) rfl ?_
  refine e_gd fun g1 => ?_
  refine e_cmge 57 20 em_80 rfl rfl (ce_at ce_80 11 rfl) g1 (by decide) (fun h2 => ?_) (fun h2 => ?_)
  · refine e_pk [0] rfl rfl ?_
    exact e_out (fun r h => h)
  · refine e_mv 21 em_80 (ce_at ce_80 12 rfl) rfl rfl ?_
    refine e_getr 24 em_80 (ce_at ce_80 13 rfl) tq_22 rfl rfl ?_
    refine e_ivi 27 em_80 (ce_at ce_80 14 rfl) (by omega) (iv_v0 (by decide) tq_2 rfl) em_69 (Nat.le_of_ble_eq_true rfl) rfl (ttok_kind w (d - 1) (by omega) _) (fun r3 s3 => ?_)
    refine e_bip 29 em_80 (ce_at ce_80 15 rfl) (by decide) rfl ?_
    refine e_gd fun g4 => ?_
    refine e_cmne 57 32 em_80 rfl rfl (ce_at ce_80 16 rfl) g4 (by decide) (fun h5 => ?_) (fun h5 => ?_)
    · refine e_pk [0] rfl rfl ?_
      exact e_out (fun r h => h)
    · refine e_mv 33 em_80 (ce_at ce_80 17 rfl) rfl rfl ?_
      refine e_getr 36 em_80 (ce_at ce_80 18 rfl) tq_22 rfl rfl ?_
      refine e_op 37 em_80 (ce_at ce_80 19 rfl) rfl rfl ?_
      refine e_get 40 em_80 (ce_at ce_80 20 rfl) tq_2 rfl rfl ?_
      refine e_op 41 em_80 (ce_at ce_80 21 rfl) rfl rfl ?_
      refine e_iadd 42 em_80 rfl (ce_at ce_80 22 rfl) ?_
      refine e_put 45 em_80 (ce_at ce_80 23 rfl) tq_2 rfl rfl rfl (fun s6 => ?_)
      refine e_mv 46 em_80 (ce_at ce_80 24 rfl) rfl rfl ?_
      refine e_mv 47 em_80 (ce_at ce_80 25 rfl) rfl rfl ?_
      refine e_mv 48 em_80 (ce_at ce_80 26 rfl) rfl rfl ?_
      refine e_ivv 51 em_80 (ce_at ce_80 27 rfl) (by omega) (iv_v2 (by decide) tq_22 rfl) em_82 (Nat.le_of_ble_eq_true rfl) rfl (ttrl_declare w (d - 1) (by omega) _ _ _) (fun r7 s7 => ?_)
      refine e_iinc 54 em_80 (ce_at ce_80 28 rfl) rfl (by decide) rfl ?_
      refine e_goto em_80 13 (ce_at ce_80 29 rfl) rfl ?_
      refine e_pk [0, 1, 2, 3] rfl rfl ?_
      exact e_out (fun r h => h)
theorem ftrl_readVariables_13b (v1 : Int) (v2 : Int) (v3 : Int) (s : iS) : Fm (fun r : (Int × iS) ⊕ (iS) => r.elim (fun l => l.2) (fun e => e)) L_trl_readVariables G_trl_readVariables s (trl_readVariables_13b v1 v2 v3 s) := fm_gd (fm_if (fm_some md_refl) (fm_bd (fm_sub (ftok_kind _) (mem_sub_L rfl) (mem_sub_F rfl)) (fun r3 s3 => fm_gd (fm_if (fm_lt (md_upF (mem_F rfl)) (fun s6 => fm_bd (fm_sub (ftrl_declare _ _ _) (mem_sub_L rfl) (mem_sub_F rfl)) (fun r7 s7 => fm_some md_refl))) (fm_some md_refl)))))
noncomputable def trl_readVariables_57 (s : iS) : Option (Int × iS) := bd (tok_expect 59 s) (fun _ s1 => some (0, s1))
theorem ttrl_readVariables_57 (w : ev_W) (d : Nat) (hd : 4 ≤ d) (s : iS) : Ew hT w d 80 57 [(0, .ref (tb_nK + 22))] [] s (Cv hT) (trl_readVariables_57 s) := by
  unfold trl_readVariables_57
  refine e_mv 58 em_80 (ce_at ce_80 30 rfl) rfl rfl ?_
  refine e_getr 61 em_80 (ce_at ce_80 31 rfl) tq_22 rfl rfl ?_
  refine e_bip 63 em_80 (ce_at ce_80 32 rfl) (by decide) rfl ?_
  refine e_ivv 66 em_80 (ce_at ce_80 33 rfl) (by omega) (iv_v1 (by decide) tq_2 rfl) em_86 (Nat.le_of_ble_eq_true rfl) rfl (ttok_expect w (d - 1) (by omega) _ _) (fun r1 s1 => ?_)
  exact e_retv em_80 (ce_at ce_80 34 rfl)
theorem ftrl_readVariables_57 (s : iS) : Fm Prod.snd L_trl_readVariables G_trl_readVariables s (trl_readVariables_57 s) := fm_bd (fm_sub (ftok_expect _ _) (mem_sub_L rfl) (mem_sub_F rfl)) (fun r1 s1 => fm_some md_refl)
noncomputable def trl_readVariables_13 (v1 : Int) (v2 : Int) (v3 : Int) (s : iS) : Option (Int × iS) := (lp (L := Int × iS) (E := iS) (fun l => trl_readVariables_13b v1 v2 (l.1) (l.2)) (v3, s)).bind (fun e => trl_readVariables_57 e)
theorem ttrl_readVariables_13 (w : ev_W) (d : Nat) (hd : 4 ≤ d) (v1 : Int) (v2 : Int) (v3 : Int) (s : iS) : Ew hT w d 80 13 [(0, .ref (tb_nK + 22)), (1, iv v1), (2, iv v2), (3, iv v3)] [] s (Cv hT) (trl_readVariables_13 v1 v2 v3 s) := by
  unfold trl_readVariables_13
  refine e_lp (L := Int × iS) (E := iS) (LO := fun l => [(0, .ref (tb_nK + 22)), (1, iv v1), (2, iv v2), (3, iv (l.1))]) (LS := fun l => l.2) (CE := fun e r => ev w d 80 57 [(0, .ref (tb_nK + 22))] [] (hT (e)) r) (fun l => ttrl_readVariables_13b w d hd _ _ _ _) ?_ (v3, s)
  intro e
  show Ew hT w d 80 57 [(0, .ref (tb_nK + 22))] [] e (Cv hT) _
  refine e_pk [0] rfl rfl ?_
  exact ttrl_readVariables_57 w d hd _
theorem ftrl_readVariables_13 (v1 : Int) (v2 : Int) (v3 : Int) (s : iS) : Fm Prod.snd L_trl_readVariables G_trl_readVariables s (trl_readVariables_13 v1 v2 v3 s) := by
  unfold trl_readVariables_13
  refine fm_lp (A := Int × iS) (E := iS) (LS := fun l => l.2) (LE := fun e => e) ?_ ?_ (v3, s)
  · exact fun l => ftrl_readVariables_13b _ _ _ _
  · exact (fun e => ftrl_readVariables_57 _)
noncomputable def trl_readVariables (v1 : Int) (s : iS) : Option (Int × iS) := bd (trl_readType s) (fun r1 s1 => bd (trl_declare v1 r1 s1) (fun _ s2 => trl_readVariables_13 v1 r1 0 s2))
theorem ttrl_readVariables (w : ev_W) (d : Nat) (hd : 4 ≤ d) (v1 : Int) (s : iS) : Ew hT w d 80 0 [(0, .ref (tb_nK + 22)), (1, iv v1)] [] s (Cv hT) (trl_readVariables v1 s) := by
  unfold trl_readVariables
  refine e_mv 1 em_80 (ce_at ce_80 0 rfl) rfl rfl ?_
  refine e_ivi 4 em_80 (ce_at ce_80 1 rfl) (by omega) (iv_v0 (by decide) tq_22 rfl) em_81 (Nat.le_of_ble_eq_true rfl) rfl (ttrl_readType w (d - 1) (by omega) _) (fun r1 s1 => ?_)
  refine e_mv 5 em_80 (ce_at ce_80 2 rfl) rfl rfl ?_
  refine e_mv 6 em_80 (ce_at ce_80 3 rfl) rfl rfl ?_
  refine e_mv 7 em_80 (ce_at ce_80 4 rfl) rfl rfl ?_
  refine e_mv 8 em_80 (ce_at ce_80 5 rfl) rfl rfl ?_
  refine e_ivv 11 em_80 (ce_at ce_80 6 rfl) (by omega) (iv_v2 (by decide) tq_22 rfl) em_82 (Nat.le_of_ble_eq_true rfl) rfl (ttrl_declare w (d - 1) (by omega) _ _ _) (fun r2 s2 => ?_)
  refine e_op 12 em_80 (ce_at ce_80 7 rfl) rfl rfl ?_
  refine e_mv 13 em_80 (ce_at ce_80 8 rfl) rfl rfl ?_
  refine e_pk [0, 1, 2, 3] rfl rfl ?_
  exact ttrl_readVariables_13 w d hd _ _ _ _
theorem ftrl_readVariables (v1 : Int) (s : iS) : Fm Prod.snd L_trl_readVariables G_trl_readVariables s (trl_readVariables v1 s) := fm_bd (fm_sub (ftrl_readType _) (mem_sub_L rfl) (mem_sub_F rfl)) (fun r1 s1 => fm_bd (fm_sub (ftrl_declare _ _ _) (mem_sub_L rfl) (mem_sub_F rfl)) (fun r2 s2 => ftrl_readVariables_13 _ _ _ _))
/-! trl_readClassVariables -/
def L_trl_readClassVariables : List Nat := [34, 35, 36, 37, 38, 39, 40]
def G_trl_readClassVariables : List (Nat × Nat) := [(2, 12), (2, 13), (2, 14), (23, 15), (33, 2)]
def trl_readClassVariables_10C (w : ev_W) (d : Nat) : (Int × Int × iS) ⊕ (iS) → am_E → Prop := fun q r => q.elim (fun l => ev w d 79 10 ((fun l => [(0, .ref (tb_nK + 22)), (1, iv (l.1)), (2, iv (l.2.1))]) l) [] (hT ((fun l => l.2.2) l)) r) (fun e => (fun e r => ev w d 79 74 [] [] (hT (e)) r) e r)
noncomputable def trl_readClassVariables_57 (v2 : Int) (t0 : Int) (s : iS) : Option ((Int × Int × iS) ⊕ (iS)) := bd (trl_readVariables t0 s) (fun _ s1 => bd (tok_kind s1) (fun r2 s2 => some (.inl (r2, (v2 + 1), s2))))
theorem ttrl_readClassVariables_57 (w : ev_W) (d : Nat) (hd : 5 ≤ d) (v2 : Int) (t0 : Int) (s : iS) : Ew hT w d 79 57 [(0, .ref (tb_nK + 22)), (2, iv v2)] [iv t0, .ref (tb_nK + 22)] s (trl_readClassVariables_10C w d) (trl_readClassVariables_57 v2 t0 s) := by
  unfold trl_readClassVariables_57
  refine e_ivv 60 em_79 (ce_at ce_79 29 rfl) (by omega) (iv_v1 (by decide) tq_22 rfl) em_80 (Nat.le_of_ble_eq_true rfl) rfl (ttrl_readVariables w (d - 1) (by omega) _ _) (fun r1 s1 => ?_)
  refine e_mv 61 em_79 (ce_at ce_79 30 rfl) rfl rfl ?_
  refine e_getr 64 em_79 (ce_at ce_79 31 rfl) tq_22 rfl rfl ?_
  refine e_ivi 67 em_79 (ce_at ce_79 32 rfl) (by omega) (iv_v0 (by decide) tq_2 rfl) em_69 (Nat.le_of_ble_eq_true rfl) rfl (ttok_kind w (d - 1) (by omega) _) (fun r2 s2 => ?_)
  refine e_mv 68 em_79 (ce_at ce_79 33 rfl) rfl rfl ?_
  refine e_iinc 71 em_79 (ce_at ce_79 34 rfl) rfl (by decide) rfl ?_
  refine e_goto em_79 10 (ce_at ce_79 35 rfl) rfl ?_
  refine e_pk [0, 1, 2] rfl rfl ?_
  exact e_out (fun r h => h)
theorem ftrl_readClassVariables_57 (v2 : Int) (t0 : Int) (s : iS) : Fm (fun r : (Int × Int × iS) ⊕ (iS) => r.elim (fun l => l.2.2) (fun e => e)) L_trl_readClassVariables G_trl_readClassVariables s (trl_readClassVariables_57 v2 t0 s) := fm_bd (fm_sub (ftrl_readVariables _ _) (mem_sub_L rfl) (mem_sub_F rfl)) (fun r1 s1 => fm_bd (fm_sub (ftok_kind _) (mem_sub_L rfl) (mem_sub_F rfl)) (fun r2 s2 => fm_some md_refl))
noncomputable def trl_readClassVariables_31 (v1 : Int) (v2 : Int) (s : iS) : Option ((Int × Int × iS) ⊕ (iS)) := lt' (up s 2 12 ((s 2 12) + 1)) (fun s1 => gd (rg v1) (if v1 = 261 then trl_readClassVariables_57 v2 3 s1 else trl_readClassVariables_57 v2 4 s1))
theorem ttrl_readClassVariables_31 (w : ev_W) (d : Nat) (hd : 5 ≤ d) (v1 : Int) (v2 : Int) (s : iS) : Ew hT w d 79 31 [(0, .ref (tb_nK + 22)), (1, iv v1), (2, iv v2)] [] s (trl_readClassVariables_10C w d) (trl_readClassVariables_31 v1 v2 s) := by
  unfold trl_readClassVariables_31
  refine e_mv 32 em_79 (ce_at ce_79 15 rfl) rfl rfl ?_
  refine e_getr 35 em_79 (ce_at ce_79 16 rfl) tq_22 rfl rfl ?_
  refine e_op 36 em_79 (ce_at ce_79 17 rfl) rfl rfl ?_
  refine e_get 39 em_79 (ce_at ce_79 18 rfl) tq_2 rfl rfl ?_
  refine e_op 40 em_79 (ce_at ce_79 19 rfl) rfl rfl ?_
  refine e_iadd 41 em_79 rfl (ce_at ce_79 20 rfl) ?_
  refine e_put 44 em_79 (ce_at ce_79 21 rfl) tq_2 rfl rfl rfl (fun s1 => ?_)
  refine e_mv 45 em_79 (ce_at ce_79 22 rfl) rfl rfl ?_
  refine e_mv 46 em_79 (ce_at ce_79 23 rfl) rfl rfl ?_
  refine e_sip 49 em_79 (ce_at ce_79 24 rfl) (by decide) rfl ?_
  refine e_gd fun g2 => ?_
  refine e_cmne 56 52 em_79 rfl rfl (ce_at ce_79 25 rfl) g2 (by decide) (fun h3 => ?_) (fun h3 => ?_)
  · refine e_op 57 em_79 (ce_at ce_79 28 rfl) rfl rfl ?_
    refine e_pk [0, 2] rfl rfl ?_
    exact ttrl_readClassVariables_57 w d hd _ _ _
  · refine e_op 53 em_79 (ce_at ce_79 26 rfl) rfl rfl ?_
    refine e_goto em_79 57 (ce_at ce_79 27 rfl) rfl ?_
    refine e_pk [0, 2] rfl rfl ?_
    exact ttrl_readClassVariables_57 w d hd _ _ _
theorem ftrl_readClassVariables_31 (v1 : Int) (v2 : Int) (s : iS) : Fm (fun r : (Int × Int × iS) ⊕ (iS) => r.elim (fun l => l.2.2) (fun e => e)) L_trl_readClassVariables G_trl_readClassVariables s (trl_readClassVariables_31 v1 v2 s) := fm_lt (md_upF (mem_F rfl)) (fun s1 => fm_gd (fm_if (ftrl_readClassVariables_57 _ _ _) (ftrl_readClassVariables_57 _ _ _)))
noncomputable def trl_readClassVariables_10b (v1 : Int) (v2 : Int) (s : iS) : Option ((Int × Int × iS) ⊕ (iS)) := gd (rg v2) (if 1000 ≤ v2 then some (.inr s) else gd (rg v1) (if v1 = 261 then trl_readClassVariables_31 v1 v2 s else if v1 = 260 then trl_readClassVariables_31 v1 v2 s else some (.inr s)))
theorem ttrl_readClassVariables_10b (w : ev_W) (d : Nat) (hd : 5 ≤ d) (v1 : Int) (v2 : Int) (s : iS) : Ew hT w d 79 10 [(0, .ref (tb_nK + 22)), (1, iv v1), (2, iv v2)] [] s (trl_readClassVariables_10C w d) (trl_readClassVariables_10b v1 v2 s) := by
  unfold trl_readClassVariables_10b
  refine e_mv 11 em_79 (ce_at ce_79 6 rfl) rfl rfl ?_
  refine e_sip 14 em_79 (ce_at ce_79 7 rfl) (by decide) rfl ?_
  refine e_gd fun g1 => ?_
  refine e_cmge 74 17 em_79 rfl rfl (ce_at ce_79 8 rfl) g1 (by decide) (fun h2 => ?_) (fun h2 => ?_)
  · refine e_pk [] rfl rfl ?_
    exact e_out (fun r h => h)
  · refine e_mv 18 em_79 (ce_at ce_79 9 rfl) rfl rfl ?_
    refine e_sip 21 em_79 (ce_at ce_79 10 rfl) (by decide) rfl ?_
    refine e_gd fun g3 => ?_
    refine e_cmeq 31 24 em_79 rfl rfl (ce_at ce_79 11 rfl) g3 (by decide) (fun h4 => ?_) (fun h4 => ?_)
    · refine e_pk [0, 1, 2] rfl rfl ?_
      exact ttrl_readClassVariables_31 w d hd _ _ _
    · refine e_mv 25 em_79 (ce_at ce_79 12 rfl) rfl rfl ?_
      refine e_sip 28 em_79 (ce_at ce_79 13 rfl) (by decide) rfl ?_
      refine e_cmne 74 31 em_79 rfl rfl (ce_at ce_79 14 rfl) g3 (by decide) (fun h5 => ?_) (fun h5 => ?_)
      · refine e_pk [] rfl rfl ?_
        exact e_out (fun r h => h)
      · refine e_pk [0, 1, 2] rfl rfl ?_
        exact ttrl_readClassVariables_31 w d hd _ _ _
theorem ftrl_readClassVariables_10b (v1 : Int) (v2 : Int) (s : iS) : Fm (fun r : (Int × Int × iS) ⊕ (iS) => r.elim (fun l => l.2.2) (fun e => e)) L_trl_readClassVariables G_trl_readClassVariables s (trl_readClassVariables_10b v1 v2 s) := fm_gd (fm_if (fm_some md_refl) (fm_gd (fm_if (ftrl_readClassVariables_31 _ _ _) (fm_if (ftrl_readClassVariables_31 _ _ _) (fm_some md_refl)))))
noncomputable def trl_readClassVariables_10 (v1 : Int) (v2 : Int) (s : iS) : Option (Int × iS) := (lp (L := Int × Int × iS) (E := iS) (fun l => trl_readClassVariables_10b (l.1) (l.2.1) (l.2.2)) (v1, v2, s)).bind (fun e => some (0, e))
theorem ttrl_readClassVariables_10 (w : ev_W) (d : Nat) (hd : 5 ≤ d) (v1 : Int) (v2 : Int) (s : iS) : Ew hT w d 79 10 [(0, .ref (tb_nK + 22)), (1, iv v1), (2, iv v2)] [] s (Cv hT) (trl_readClassVariables_10 v1 v2 s) := by
  unfold trl_readClassVariables_10
  refine e_lp (L := Int × Int × iS) (E := iS) (LO := fun l => [(0, .ref (tb_nK + 22)), (1, iv (l.1)), (2, iv (l.2.1))]) (LS := fun l => l.2.2) (CE := fun e r => ev w d 79 74 [] [] (hT (e)) r) (fun l => ttrl_readClassVariables_10b w d hd _ _ _) ?_ (v1, v2, s)
  intro e
  show Ew hT w d 79 74 [] [] e (Cv hT) _
  exact e_retv em_79 (ce_at ce_79 36 rfl)
theorem ftrl_readClassVariables_10 (v1 : Int) (v2 : Int) (s : iS) : Fm Prod.snd L_trl_readClassVariables G_trl_readClassVariables s (trl_readClassVariables_10 v1 v2 s) := by
  unfold trl_readClassVariables_10
  refine fm_lp (A := Int × Int × iS) (E := iS) (LS := fun l => l.2.2) (LE := fun e => e) ?_ ?_ (v1, v2, s)
  · exact fun l => ftrl_readClassVariables_10b _ _ _
  · exact (fun e => fm_some md_refl)
noncomputable def trl_readClassVariables (s : iS) : Option (Int × iS) := bd (tok_kind s) (fun r1 s1 => trl_readClassVariables_10 r1 0 s1)
theorem ttrl_readClassVariables (w : ev_W) (d : Nat) (hd : 5 ≤ d) (s : iS) : Ew hT w d 79 0 [(0, .ref (tb_nK + 22))] [] s (Cv hT) (trl_readClassVariables s) := by
  unfold trl_readClassVariables
  refine e_mv 1 em_79 (ce_at ce_79 0 rfl) rfl rfl ?_
  refine e_getr 4 em_79 (ce_at ce_79 1 rfl) tq_22 rfl rfl ?_
  refine e_ivi 7 em_79 (ce_at ce_79 2 rfl) (by omega) (iv_v0 (by decide) tq_2 rfl) em_69 (Nat.le_of_ble_eq_true rfl) rfl (ttok_kind w (d - 1) (by omega) _) (fun r1 s1 => ?_)
  refine e_mv 8 em_79 (ce_at ce_79 3 rfl) rfl rfl ?_
  refine e_op 9 em_79 (ce_at ce_79 4 rfl) rfl rfl ?_
  refine e_mv 10 em_79 (ce_at ce_79 5 rfl) rfl rfl ?_
  refine e_pk [0, 1, 2] rfl rfl ?_
  exact ttrl_readClassVariables_10 w d hd _ _ _
theorem ftrl_readClassVariables (s : iS) : Fm Prod.snd L_trl_readClassVariables G_trl_readClassVariables s (trl_readClassVariables s) := fm_bd (fm_sub (ftok_kind _) (mem_sub_L rfl) (mem_sub_F rfl)) (fun r1 s1 => ftrl_readClassVariables_10 _ _ _)
/-! trl_beginsSub -/
def L_trl_beginsSub : List Nat := []
def G_trl_beginsSub : List (Nat × Nat) := []
noncomputable def trl_beginsSub (v0 : Int) (s : iS) : Option (Int × iS) := gd (rg v0) (if v0 = 257 then some (1, s) else if v0 = 258 then some (1, s) else if v0 = 259 then some (1, s) else some (0, s))
theorem ttrl_beginsSub (H : iS → List am_C) (w : ev_W) (d : Nat) (hd : 0 ≤ d) (v0 : Int) (s : iS) : Ew H w d 87 0 [(0, iv v0)] [] s (Ci H) (trl_beginsSub v0 s) := by
  unfold trl_beginsSub
  refine e_mv 1 em_87 (ce_at ce_87 0 rfl) rfl rfl ?_
  refine e_sip 4 em_87 (ce_at ce_87 1 rfl) (by decide) rfl ?_
  refine e_gd fun g1 => ?_
  refine e_cmeq 21 7 em_87 rfl rfl (ce_at ce_87 2 rfl) g1 (by decide) (fun h2 => ?_) (fun h2 => ?_)
  · refine e_op 22 em_87 (ce_at ce_87 9 rfl) rfl rfl ?_
    refine e_goto em_87 26 (ce_at ce_87 10 rfl) rfl ?_
    exact e_retz em_87 (ce_at ce_87 12 rfl) (by decide)
  · refine e_mv 8 em_87 (ce_at ce_87 3 rfl) rfl rfl ?_
    refine e_sip 11 em_87 (ce_at ce_87 4 rfl) (by decide) rfl ?_
    refine e_cmeq 21 14 em_87 rfl rfl (ce_at ce_87 5 rfl) g1 (by decide) (fun h3 => ?_) (fun h3 => ?_)
    · refine e_op 22 em_87 (ce_at ce_87 9 rfl) rfl rfl ?_
      refine e_goto em_87 26 (ce_at ce_87 10 rfl) rfl ?_
      exact e_retz em_87 (ce_at ce_87 12 rfl) (by decide)
    · refine e_mv 15 em_87 (ce_at ce_87 6 rfl) rfl rfl ?_
      refine e_sip 18 em_87 (ce_at ce_87 7 rfl) (by decide) rfl ?_
      refine e_cmne 25 21 em_87 rfl rfl (ce_at ce_87 8 rfl) g1 (by decide) (fun h4 => ?_) (fun h4 => ?_)
      · refine e_op 26 em_87 (ce_at ce_87 11 rfl) rfl rfl ?_
        exact e_retz em_87 (ce_at ce_87 12 rfl) (by decide)
      · refine e_op 22 em_87 (ce_at ce_87 9 rfl) rfl rfl ?_
        refine e_goto em_87 26 (ce_at ce_87 10 rfl) rfl ?_
        exact e_retz em_87 (ce_at ce_87 12 rfl) (by decide)
theorem ftrl_beginsSub (v0 : Int) (s : iS) : Fm Prod.snd L_trl_beginsSub G_trl_beginsSub s (trl_beginsSub v0 s) := fm_gd (fm_if (fm_some md_refl) (fm_if (fm_some md_refl) (fm_if (fm_some md_refl) (fm_some md_refl))))
/-! scp_beginSub -/
def L_scp_beginSub : List Nat := [40]
def G_scp_beginSub : List (Nat × Nat) := [(23, 12), (23, 13), (33, 2)]
noncomputable def scp_beginSub (v1 : Int) (s : iS) : Option (Int × iS) := lt' (up s 23 12 ((s 23 12) + 1)) (fun s1 => lt' (up s1 23 13 v1) (fun s2 => lt' (up s2 40 1 0) (fun s3 => lt' (up s3 40 2 0) (fun s4 => bd (nam_keep 33 34 35 48 (s4 23 15) s4) (fun _ s5 => some (0, s5))))))
theorem tscp_beginSub (w : ev_W) (d : Nat) (hd : 2 ≤ d) (v1 : Int) (s : iS) : Ew hT w d 90 0 [(0, .ref (tb_nK + 23)), (1, iv v1)] [] s (Cv hT) (scp_beginSub v1 s) := by
  unfold scp_beginSub
  refine e_mv 1 em_90 (ce_at ce_90 0 rfl) rfl rfl ?_
  refine e_op 2 em_90 (ce_at ce_90 1 rfl) rfl rfl ?_
  refine e_get 5 em_90 (ce_at ce_90 2 rfl) tq_23 rfl rfl ?_
  refine e_op 6 em_90 (ce_at ce_90 3 rfl) rfl rfl ?_
  refine e_iadd 7 em_90 rfl (ce_at ce_90 4 rfl) ?_
  refine e_put 10 em_90 (ce_at ce_90 5 rfl) tq_23 rfl rfl rfl (fun s1 => ?_)
  refine e_mv 11 em_90 (ce_at ce_90 6 rfl) rfl rfl ?_
  refine e_mv 12 em_90 (ce_at ce_90 7 rfl) rfl rfl ?_
  refine e_put 15 em_90 (ce_at ce_90 8 rfl) tq_23 rfl rfl rfl (fun s2 => ?_)
  refine e_mv 16 em_90 (ce_at ce_90 9 rfl) rfl rfl ?_
  refine e_getr 19 em_90 (ce_at ce_90 10 rfl) tq_23 rfl rfl ?_
  refine e_op 20 em_90 (ce_at ce_90 11 rfl) rfl rfl ?_
  refine e_op 21 em_90 (ce_at ce_90 12 rfl) rfl rfl ?_
  refine e_ist 22 em_90 (ce_at ce_90 13 rfl) tq_40 (by decide) (by decide) rfl (fun s3 => ?_)
  refine e_mv 23 em_90 (ce_at ce_90 14 rfl) rfl rfl ?_
  refine e_getr 26 em_90 (ce_at ce_90 15 rfl) tq_23 rfl rfl ?_
  refine e_op 27 em_90 (ce_at ce_90 16 rfl) rfl rfl ?_
  refine e_op 28 em_90 (ce_at ce_90 17 rfl) rfl rfl ?_
  refine e_ist 29 em_90 (ce_at ce_90 18 rfl) tq_40 (by decide) (by decide) rfl (fun s4 => ?_)
  refine e_mv 30 em_90 (ce_at ce_90 19 rfl) rfl rfl ?_
  refine e_getr 33 em_90 (ce_at ce_90 20 rfl) tq_23 rfl rfl ?_
  refine e_mv 34 em_90 (ce_at ce_90 21 rfl) rfl rfl ?_
  refine e_get 37 em_90 (ce_at ce_90 22 rfl) tq_23 rfl rfl ?_
  refine e_ivv 40 em_90 (ce_at ce_90 23 rfl) (by omega) (iv_v1 (by decide) tq_33 rfl) em_66 (Nat.le_of_ble_eq_true rfl) rfl (tnam_keep hT w (d - 1) (by omega) 33 34 35 48 tq_33 tq_34 tq_35 (by decide) _ _) (fun r5 s5 => ?_)
  exact e_retv em_90 (ce_at ce_90 24 rfl)
theorem fscp_beginSub (v1 : Int) (s : iS) : Fm Prod.snd L_scp_beginSub G_scp_beginSub s (scp_beginSub v1 s) := fm_lt (md_upF (mem_F rfl)) (fun s1 => fm_lt (md_upF (mem_F rfl)) (fun s2 => fm_lt (md_upL (mem_L rfl)) (fun s3 => fm_lt (md_upL (mem_L rfl)) (fun s4 => fm_bd (fm_sub (fnam_keep 33 34 35 48 _ _) (mem_sub_L rfl) (mem_sub_F rfl)) (fun r5 s5 => fm_some md_refl)))))
/-! scp_firstSubOf -/
def L_scp_firstSubOf : List Nat := []
def G_scp_firstSubOf : List (Nat × Nat) := []
noncomputable def scp_firstSubOf (v1 : Int) (s : iS) : Option (Int × iS) := gd (rg v1) (if v1 < 0 then some (0, s) else gd (rg (s 24 2)) (if (s 24 2) < v1 then some (0, s) else gd (0 ≤ v1 ∧ v1 < 21) (some ((s 30 v1.toNat), s))))
theorem tscp_firstSubOf (w : ev_W) (d : Nat) (hd : 0 ≤ d) (v1 : Int) (s : iS) : Ew hT w d 93 0 [(0, .ref (tb_nK + 23)), (1, iv v1)] [] s (Ci hT) (scp_firstSubOf v1 s) := by
  unfold scp_firstSubOf
  refine e_mv 1 em_93 (ce_at ce_93 0 rfl) rfl rfl ?_
  refine e_gd fun g1 => ?_
  refine e_iflt 24 4 em_93 rfl rfl (ce_at ce_93 1 rfl) g1 (fun h2 => ?_) (fun h2 => ?_)
  · refine e_op 25 em_93 (ce_at ce_93 12 rfl) rfl rfl ?_
    exact e_reti em_93 (ce_at ce_93 13 rfl)
  · refine e_mv 5 em_93 (ce_at ce_93 2 rfl) rfl rfl ?_
    refine e_mv 6 em_93 (ce_at ce_93 3 rfl) rfl rfl ?_
    refine e_getr 9 em_93 (ce_at ce_93 4 rfl) tq_23 rfl rfl ?_
    refine e_get 12 em_93 (ce_at ce_93 5 rfl) tq_24 rfl rfl ?_
    refine e_gd fun g3 => ?_
    refine e_cmgt 24 15 em_93 rfl rfl (ce_at ce_93 6 rfl) g1 g3 (fun h4 => ?_) (fun h4 => ?_)
    · refine e_op 25 em_93 (ce_at ce_93 12 rfl) rfl rfl ?_
      exact e_reti em_93 (ce_at ce_93 13 rfl)
    · refine e_mv 16 em_93 (ce_at ce_93 7 rfl) rfl rfl ?_
      refine e_getr 19 em_93 (ce_at ce_93 8 rfl) tq_23 rfl rfl ?_
      refine e_mv 20 em_93 (ce_at ce_93 9 rfl) rfl rfl ?_
      refine e_gd fun g5 => ?_
      refine e_ild 21 em_93 (ce_at ce_93 10 rfl) tq_30 (by decide) g5 rfl ?_
      refine e_goto em_93 25 (ce_at ce_93 11 rfl) rfl ?_
      exact e_reti em_93 (ce_at ce_93 13 rfl)
theorem fscp_firstSubOf (v1 : Int) (s : iS) : Fm Prod.snd L_scp_firstSubOf G_scp_firstSubOf s (scp_firstSubOf v1 s) := fm_gd (fm_if (fm_some md_refl) (fm_gd (fm_if (fm_some md_refl) (fm_gd (fm_some md_refl)))))
/-! trl_findSub -/
def L_trl_findSub : List Nat := []
def G_trl_findSub : List (Nat × Nat) := []
noncomputable def trl_findSub_19 (v1 : Int) (v2 : Int) (t0 : Int) (s : iS) : Option (Int × iS) := bd (scp_firstSubOf v1 s) (fun r1 s1 => bd (tok_findIn 27 28 29 100 v2 r1 t0 s1) (fun r2 s2 => some (r2, s2)))
theorem ttrl_findSub_19 (w : ev_W) (d : Nat) (hd : 2 ≤ d) (v1 : Int) (v2 : Int) (t0 : Int) (s : iS) : Ew hT w d 92 19 [(0, .ref (tb_nK + 22)), (1, iv v1), (2, iv v2)] [iv t0] s (Ci hT) (trl_findSub_19 v1 v2 t0 s) := by
  unfold trl_findSub_19
  refine e_mv 20 em_92 (ce_at ce_92 11 rfl) rfl rfl ?_
  refine e_mv 21 em_92 (ce_at ce_92 12 rfl) rfl rfl ?_
  refine e_getr 24 em_92 (ce_at ce_92 13 rfl) tq_22 rfl rfl ?_
  refine e_mv 25 em_92 (ce_at ce_92 14 rfl) rfl rfl ?_
  refine e_getr 28 em_92 (ce_at ce_92 15 rfl) tq_22 rfl rfl ?_
  refine e_getr 31 em_92 (ce_at ce_92 16 rfl) tq_23 rfl rfl ?_
  refine e_mv 32 em_92 (ce_at ce_92 17 rfl) rfl rfl ?_
  refine e_mv 33 em_92 (ce_at ce_92 18 rfl) rfl rfl ?_
  refine e_getr 36 em_92 (ce_at ce_92 19 rfl) tq_22 rfl rfl ?_
  refine e_mv 37 em_92 (ce_at ce_92 20 rfl) rfl rfl ?_
  refine e_ivi 40 em_92 (ce_at ce_92 21 rfl) (by omega) (iv_v1 (by decide) tq_23 rfl) em_93 (Nat.le_of_ble_eq_true rfl) rfl (tscp_firstSubOf w (d - 1) (by omega) _ _) (fun r1 s1 => ?_)
  refine e_mv 41 em_92 (ce_at ce_92 22 rfl) rfl rfl ?_
  refine e_ivi 44 em_92 (ce_at ce_92 23 rfl) (by omega) (iv_v4 (by decide) tq_2 rfl) em_76 (Nat.le_of_ble_eq_true rfl) rfl (ttok_findIn w (d - 1) (by omega) 27 28 29 100 tq_27 tq_28 tq_29 (by decide) _ _ _ _) (fun r2 s2 => ?_)
  exact e_reti em_92 (ce_at ce_92 24 rfl)
theorem ftrl_findSub_19 (v1 : Int) (v2 : Int) (t0 : Int) (s : iS) : Fm Prod.snd L_trl_findSub G_trl_findSub s (trl_findSub_19 v1 v2 t0 s) := fm_bd (fm_sub (fscp_firstSubOf _ _) (mem_sub_L rfl) (mem_sub_F rfl)) (fun r1 s1 => fm_bd (fm_sub (ftok_findIn 27 28 29 100 _ _ _ _) (mem_sub_L rfl) (mem_sub_F rfl)) (fun r2 s2 => fm_some md_refl))
noncomputable def trl_findSub (v1 : Int) (v2 : Int) (s : iS) : Option (Int × iS) := gd (rg v1) (if v1 = (-1) then trl_findSub_19 v1 v2 0 s else bd (scp_firstSubOf (v1 + 1) s) (fun r3 s3 => trl_findSub_19 v1 v2 r3 s3))
theorem ttrl_findSub (w : ev_W) (d : Nat) (hd : 2 ≤ d) (v1 : Int) (v2 : Int) (s : iS) : Ew hT w d 92 0 [(0, .ref (tb_nK + 22)), (1, iv v1), (2, iv v2)] [] s (Ci hT) (trl_findSub v1 v2 s) := by
  unfold trl_findSub
  refine e_mv 1 em_92 (ce_at ce_92 0 rfl) rfl rfl ?_
  refine e_op 2 em_92 (ce_at ce_92 1 rfl) rfl rfl ?_
  refine e_gd fun g1 => ?_
  refine e_cmne 9 5 em_92 rfl rfl (ce_at ce_92 2 rfl) g1 (by decide) (fun h2 => ?_) (fun h2 => ?_)
  · refine e_mv 10 em_92 (ce_at ce_92 5 rfl) rfl rfl ?_
    refine e_getr 13 em_92 (ce_at ce_92 6 rfl) tq_22 rfl rfl ?_
    refine e_mv 14 em_92 (ce_at ce_92 7 rfl) rfl rfl ?_
    refine e_op 15 em_92 (ce_at ce_92 8 rfl) rfl rfl ?_
    refine e_iadd 16 em_92 rfl (ce_at ce_92 9 rfl) ?_
    refine e_ivi 19 em_92 (ce_at ce_92 10 rfl) (by omega) (iv_v1 (by decide) tq_23 rfl) em_93 (Nat.le_of_ble_eq_true rfl) rfl (tscp_firstSubOf w (d - 1) (by omega) _ _) (fun r3 s3 => ?_)
    refine e_pk [0, 1, 2] rfl rfl ?_
    exact ttrl_findSub_19 w d hd _ _ _ _
  · refine e_op 6 em_92 (ce_at ce_92 3 rfl) rfl rfl ?_
    refine e_goto em_92 19 (ce_at ce_92 4 rfl) rfl ?_
    refine e_pk [0, 1, 2] rfl rfl ?_
    exact ttrl_findSub_19 w d hd _ _ _ _
theorem ftrl_findSub (v1 : Int) (v2 : Int) (s : iS) : Fm Prod.snd L_trl_findSub G_trl_findSub s (trl_findSub v1 v2 s) := fm_gd (fm_if (ftrl_findSub_19 _ _ _ _) (fm_bd (fm_sub (fscp_firstSubOf _ _) (mem_sub_L rfl) (mem_sub_F rfl)) (fun r3 s3 => ftrl_findSub_19 _ _ _ _)))
/-! scp_tellSub -/
def L_scp_tellSub : List Nat := [30, 31, 32]
def G_scp_tellSub : List (Nat × Nat) := []
noncomputable def scp_tellSub (s : iS) : Option (Int × iS) := gd (rg (s 23 12)) (if 100 ≤ (s 23 12) then some (0, s) else gd (rg (s 23 11)) (if 20 ≤ (s 23 11) then some (0, s) else gd (0 ≤ (s 23 12) ∧ (s 23 12) < 100) (lt' (up s 32 (s 23 12).toNat (s 23 13)) (fun s6 => gd (0 ≤ (s6 23 12) ∧ (s6 23 12) < 100) (lt' (up s6 31 (s6 23 12).toNat 0) (fun s8 => gd (0 ≤ ((s8 23 11) + 1) ∧ ((s8 23 11) + 1) < 21) (lt' (up s8 30 ((s8 23 11) + 1).toNat (s8 27 2)) (fun s10 => some (0, s10)))))))))
theorem tscp_tellSub (w : ev_W) (d : Nat) (hd : 0 ≤ d) (s : iS) : Ew hT w d 91 0 [(0, .ref (tb_nK + 23))] [] s (Cv hT) (scp_tellSub s) := by
  unfold scp_tellSub
  refine e_mv 1 em_91 (ce_at ce_91 0 rfl) rfl rfl ?_
  refine e_get 4 em_91 (ce_at ce_91 1 rfl) tq_23 rfl rfl ?_
  refine e_bip 6 em_91 (ce_at ce_91 2 rfl) (by decide) rfl ?_
  refine e_gd fun g1 => ?_
  refine e_cmge 59 9 em_91 rfl rfl (ce_at ce_91 3 rfl) g1 (by decide) (fun h2 => ?_) (fun h2 => ?_)
  · exact e_retv em_91 (ce_at ce_91 31 rfl)
  · refine e_mv 10 em_91 (ce_at ce_91 4 rfl) rfl rfl ?_
    refine e_get 13 em_91 (ce_at ce_91 5 rfl) tq_23 rfl rfl ?_
    refine e_bip 15 em_91 (ce_at ce_91 6 rfl) (by decide) rfl ?_
    refine e_gd fun g3 => ?_
    refine e_cmge 59 18 em_91 rfl rfl (ce_at ce_91 7 rfl) g3 (by decide) (fun h4 => ?_) (fun h4 => ?_)
    · exact e_retv em_91 (ce_at ce_91 31 rfl)
    · refine e_mv 19 em_91 (ce_at ce_91 8 rfl) rfl rfl ?_
      refine e_getr 22 em_91 (ce_at ce_91 9 rfl) tq_23 rfl rfl ?_
      refine e_mv 23 em_91 (ce_at ce_91 10 rfl) rfl rfl ?_
      refine e_get 26 em_91 (ce_at ce_91 11 rfl) tq_23 rfl rfl ?_
      refine e_mv 27 em_91 (ce_at ce_91 12 rfl) rfl rfl ?_
      refine e_get 30 em_91 (ce_at ce_91 13 rfl) tq_23 rfl rfl ?_
      refine e_gd fun g5 => ?_
      refine e_ist 31 em_91 (ce_at ce_91 14 rfl) tq_32 (by decide) g5 rfl (fun s6 => ?_)
      refine e_mv 32 em_91 (ce_at ce_91 15 rfl) rfl rfl ?_
      refine e_getr 35 em_91 (ce_at ce_91 16 rfl) tq_23 rfl rfl ?_
      refine e_mv 36 em_91 (ce_at ce_91 17 rfl) rfl rfl ?_
      refine e_get 39 em_91 (ce_at ce_91 18 rfl) tq_23 rfl rfl ?_
      refine e_op 40 em_91 (ce_at ce_91 19 rfl) rfl rfl ?_
      refine e_gd fun g7 => ?_
      refine e_ist 41 em_91 (ce_at ce_91 20 rfl) tq_31 (by decide) g7 rfl (fun s8 => ?_)
      refine e_mv 42 em_91 (ce_at ce_91 21 rfl) rfl rfl ?_
      refine e_getr 45 em_91 (ce_at ce_91 22 rfl) tq_23 rfl rfl ?_
      refine e_mv 46 em_91 (ce_at ce_91 23 rfl) rfl rfl ?_
      refine e_get 49 em_91 (ce_at ce_91 24 rfl) tq_23 rfl rfl ?_
      refine e_op 50 em_91 (ce_at ce_91 25 rfl) rfl rfl ?_
      refine e_iadd 51 em_91 rfl (ce_at ce_91 26 rfl) ?_
      refine e_mv 52 em_91 (ce_at ce_91 27 rfl) rfl rfl ?_
      refine e_getr 55 em_91 (ce_at ce_91 28 rfl) tq_23 rfl rfl ?_
      refine e_get 58 em_91 (ce_at ce_91 29 rfl) tq_27 rfl rfl ?_
      refine e_gd fun g9 => ?_
      refine e_ist 59 em_91 (ce_at ce_91 30 rfl) tq_30 (by decide) g9 rfl (fun s10 => ?_)
      exact e_retv em_91 (ce_at ce_91 31 rfl)
theorem fscp_tellSub (s : iS) : Fm Prod.snd L_scp_tellSub G_scp_tellSub s (scp_tellSub s) := fm_gd (fm_if (fm_some md_refl) (fm_gd (fm_if (fm_some md_refl) (fm_gd (fm_lt (md_upL (mem_L rfl)) (fun s6 => fm_gd (fm_lt (md_upL (mem_L rfl)) (fun s8 => fm_gd (fm_lt (md_upL (mem_L rfl)) (fun s10 => fm_some md_refl))))))))))
/-! trl_readSubName -/
def L_trl_readSubName : List Nat := [28, 29, 30, 31, 32, 40]
def G_trl_readSubName : List (Nat × Nat) := [(2, 12), (2, 13), (2, 14), (23, 12), (23, 13), (27, 2), (33, 2)]
noncomputable def trl_readSubName_144 (s : iS) : Option (Int × iS) := lt' (up s 2 12 ((s 2 12) + 1)) (fun s1 => some (0, s1))
theorem ttrl_readSubName_144 (w : ev_W) (d : Nat) (hd : 3 ≤ d) (s : iS) : Ew hT w d 89 144 [(0, .ref (tb_nK + 22))] [] s (Cv hT) (trl_readSubName_144 s) := by
  unfold trl_readSubName_144
  refine e_mv 145 em_89 (ce_at ce_89 63 rfl) rfl rfl ?_
  refine e_getr 148 em_89 (ce_at ce_89 64 rfl) tq_22 rfl rfl ?_
  refine e_op 149 em_89 (ce_at ce_89 65 rfl) rfl rfl ?_
  refine e_get 152 em_89 (ce_at ce_89 66 rfl) tq_2 rfl rfl ?_
  refine e_op 153 em_89 (ce_at ce_89 67 rfl) rfl rfl ?_
  refine e_iadd 154 em_89 rfl (ce_at ce_89 68 rfl) ?_
  refine e_put 157 em_89 (ce_at ce_89 69 rfl) tq_2 rfl rfl rfl (fun s1 => ?_)
  exact e_retv em_89 (ce_at ce_89 70 rfl)
theorem ftrl_readSubName_144 (s : iS) : Fm Prod.snd L_trl_readSubName G_trl_readSubName s (trl_readSubName_144 s) := fm_lt (md_upF (mem_F rfl)) (fun s1 => fm_some md_refl)
noncomputable def trl_readSubName_55 (v1 : Int) (s : iS) : Option (Int × iS) := bd (scp_beginSub v1 s) (fun _ s1 => gd (rg (s1 22 4)) (if (s1 22 4) = 0 then bd (tok_addTo 27 28 29 100 (s1 2 12) s1) (fun _ s9 => bd (scp_tellSub s9) (fun _ s10 => trl_readSubName_144 s10)) else bd (trl_findSub (s1 23 11) (s1 2 12) s1) (fun r4 s4 => gd (rg r4) (gd (rg (s4 23 12)) (if r4 = (s4 23 12) then trl_readSubName_144 s4 else bd (tok_blame 3 (s4 2 12) s4) (fun _ s8 => trl_readSubName_144 s8))))))
theorem ttrl_readSubName_55 (w : ev_W) (d : Nat) (hd : 3 ≤ d) (v1 : Int) (s : iS) : Ew hT w d 89 55 [(0, .ref (tb_nK + 22)), (1, iv v1)] [] s (Cv hT) (trl_readSubName_55 v1 s) := by
  unfold trl_readSubName_55
  refine e_mv 56 em_89 (ce_at ce_89 24 rfl) rfl rfl ?_
  refine e_getr 59 em_89 (ce_at ce_89 25 rfl) tq_22 rfl rfl ?_
  refine e_mv 60 em_89 (ce_at ce_89 26 rfl) rfl rfl ?_
  refine e_ivv 63 em_89 (ce_at ce_89 27 rfl) (by omega) (iv_v1 (by decide) tq_23 rfl) em_90 (Nat.le_of_ble_eq_true rfl) rfl (tscp_beginSub w (d - 1) (by omega) _ _) (fun r1 s1 => ?_)
  refine e_mv 64 em_89 (ce_at ce_89 28 rfl) rfl rfl ?_
  refine e_get 67 em_89 (ce_at ce_89 29 rfl) tq_22 rfl rfl ?_
  refine e_gd fun g2 => ?_
  refine e_ifne 101 70 em_89 rfl rfl (ce_at ce_89 30 rfl) g2 (fun h3 => ?_) (fun h3 => ?_)
  · refine e_mv 102 em_89 (ce_at ce_89 44 rfl) rfl rfl ?_
    refine e_mv 103 em_89 (ce_at ce_89 45 rfl) rfl rfl ?_
    refine e_getr 106 em_89 (ce_at ce_89 46 rfl) tq_22 rfl rfl ?_
    refine e_get 109 em_89 (ce_at ce_89 47 rfl) tq_23 rfl rfl ?_
    refine e_mv 110 em_89 (ce_at ce_89 48 rfl) rfl rfl ?_
    refine e_getr 113 em_89 (ce_at ce_89 49 rfl) tq_22 rfl rfl ?_
    refine e_get 116 em_89 (ce_at ce_89 50 rfl) tq_2 rfl rfl ?_
    refine e_ivi 119 em_89 (ce_at ce_89 51 rfl) (by omega) (iv_v2 (by decide) tq_22 rfl) em_92 (Nat.le_of_ble_eq_true rfl) rfl (ttrl_findSub w (d - 1) (by omega) _ _ _) (fun r4 s4 => ?_)
    refine e_mv 120 em_89 (ce_at ce_89 52 rfl) rfl rfl ?_
    refine e_getr 123 em_89 (ce_at ce_89 53 rfl) tq_22 rfl rfl ?_
    refine e_get 126 em_89 (ce_at ce_89 54 rfl) tq_23 rfl rfl ?_
    refine e_gd fun g5 => ?_
    refine e_gd fun g6 => ?_
    refine e_cmeq 144 129 em_89 rfl rfl (ce_at ce_89 55 rfl) g5 g6 (fun h7 => ?_) (fun h7 => ?_)
    · refine e_pk [0] rfl rfl ?_
      exact ttrl_readSubName_144 w d hd _
    · refine e_mv 130 em_89 (ce_at ce_89 56 rfl) rfl rfl ?_
      refine e_getr 133 em_89 (ce_at ce_89 57 rfl) tq_22 rfl rfl ?_
      refine e_op 134 em_89 (ce_at ce_89 58 rfl) rfl rfl ?_
      refine e_mv 135 em_89 (ce_at ce_89 59 rfl) rfl rfl ?_
      refine e_getr 138 em_89 (ce_at ce_89 60 rfl) tq_22 rfl rfl ?_
      refine e_get 141 em_89 (ce_at ce_89 61 rfl) tq_2 rfl rfl ?_
      refine e_ivv 144 em_89 (ce_at ce_89 62 rfl) (by omega) (iv_v2 (by decide) tq_2 rfl) em_77 (Nat.le_of_ble_eq_true rfl) rfl (ttok_blame w (d - 1) (by omega) _ _ _) (fun r8 s8 => ?_)
      refine e_pk [0] rfl rfl ?_
      exact ttrl_readSubName_144 w d hd _
  · refine e_mv 71 em_89 (ce_at ce_89 31 rfl) rfl rfl ?_
    refine e_getr 74 em_89 (ce_at ce_89 32 rfl) tq_22 rfl rfl ?_
    refine e_mv 75 em_89 (ce_at ce_89 33 rfl) rfl rfl ?_
    refine e_getr 78 em_89 (ce_at ce_89 34 rfl) tq_22 rfl rfl ?_
    refine e_getr 81 em_89 (ce_at ce_89 35 rfl) tq_23 rfl rfl ?_
    refine e_mv 82 em_89 (ce_at ce_89 36 rfl) rfl rfl ?_
    refine e_getr 85 em_89 (ce_at ce_89 37 rfl) tq_22 rfl rfl ?_
    refine e_get 88 em_89 (ce_at ce_89 38 rfl) tq_2 rfl rfl ?_
    refine e_ivv 91 em_89 (ce_at ce_89 39 rfl) (by omega) (iv_v2 (by decide) tq_2 rfl) em_73 (Nat.le_of_ble_eq_true rfl) rfl (ttok_addTo w (d - 1) (by omega) 27 28 29 100 tq_27 tq_28 tq_29 (by decide) _ _) (fun r9 s9 => ?_)
    refine e_mv 92 em_89 (ce_at ce_89 40 rfl) rfl rfl ?_
    refine e_getr 95 em_89 (ce_at ce_89 41 rfl) tq_22 rfl rfl ?_
    refine e_ivv 98 em_89 (ce_at ce_89 42 rfl) (by omega) (iv_v0 (by decide) tq_23 rfl) em_91 (Nat.le_of_ble_eq_true rfl) rfl (tscp_tellSub w (d - 1) (by omega) _) (fun r10 s10 => ?_)
    refine e_goto em_89 144 (ce_at ce_89 43 rfl) rfl ?_
    refine e_pk [0] rfl rfl ?_
    exact ttrl_readSubName_144 w d hd _
theorem ftrl_readSubName_55 (v1 : Int) (s : iS) : Fm Prod.snd L_trl_readSubName G_trl_readSubName s (trl_readSubName_55 v1 s) := fm_bd (fm_sub (fscp_beginSub _ _) (mem_sub_L rfl) (mem_sub_F rfl)) (fun r1 s1 => fm_gd (fm_if (fm_bd (fm_sub (ftok_addTo 27 28 29 100 _ _) (mem_sub_L rfl) (mem_sub_F rfl)) (fun r9 s9 => fm_bd (fm_sub (fscp_tellSub _) (mem_sub_L rfl) (mem_sub_F rfl)) (fun r10 s10 => ftrl_readSubName_144 _))) (fm_bd (fm_sub (ftrl_findSub _ _ _) (mem_sub_L rfl) (mem_sub_F rfl)) (fun r4 s4 => fm_gd (fm_gd (fm_if (ftrl_readSubName_144 _) (fm_bd (fm_sub (ftok_blame _ _ _) (mem_sub_L rfl) (mem_sub_F rfl)) (fun r8 s8 => ftrl_readSubName_144 _))))))))
noncomputable def trl_readSubName (v1 : Int) (s : iS) : Option (Int × iS) := bd (tok_kind s) (fun r1 s1 => gd (rg r1) (if r1 = 3 then gd (rg (s1 22 4)) (if (s1 22 4) = 0 then gd (rg (s1 27 2)) (if (s1 27 2) < 100 then trl_readSubName_55 v1 s1 else bd (tok_stop 2 s1) (fun _ s8 => some (0, s8))) else trl_readSubName_55 v1 s1) else bd (tok_stop 1 s1) (fun _ s9 => some (0, s9))))
theorem ttrl_readSubName (w : ev_W) (d : Nat) (hd : 3 ≤ d) (v1 : Int) (s : iS) : Ew hT w d 89 0 [(0, .ref (tb_nK + 22)), (1, iv v1)] [] s (Cv hT) (trl_readSubName v1 s) := by
  unfold trl_readSubName
  refine e_mv 1 em_89 (ce_at ce_89 0 rfl) rfl rfl ?_
  refine e_getr 4 em_89 (ce_at ce_89 1 rfl) tq_22 rfl rfl ?_
  refine e_ivi 7 em_89 (ce_at ce_89 2 rfl) (by omega) (iv_v0 (by decide) tq_2 rfl) em_69 (Nat.le_of_ble_eq_true rfl) rfl (ttok_kind w (d - 1) (by omega) _) (fun r1 s1 => ?_)
  refine e_op 8 em_89 (ce_at ce_89 3 rfl) rfl rfl ?_
  refine e_gd fun g2 => ?_
  refine e_cmeq 22 11 em_89 rfl rfl (ce_at ce_89 4 rfl) g2 (by decide) (fun h3 => ?_) (fun h3 => ?_)
  · refine e_mv 23 em_89 (ce_at ce_89 10 rfl) rfl rfl ?_
    refine e_get 26 em_89 (ce_at ce_89 11 rfl) tq_22 rfl rfl ?_
    refine e_gd fun g4 => ?_
    refine e_ifne 55 29 em_89 rfl rfl (ce_at ce_89 12 rfl) g4 (fun h5 => ?_) (fun h5 => ?_)
    · refine e_pk [0, 1] rfl rfl ?_
      exact ttrl_readSubName_55 w d hd _ _
    · refine e_mv 30 em_89 (ce_at ce_89 13 rfl) rfl rfl ?_
      refine e_getr 33 em_89 (ce_at ce_89 14 rfl) tq_22 rfl rfl ?_
      refine e_getr 36 em_89 (ce_at ce_89 15 rfl) tq_23 rfl rfl ?_
      refine e_get 39 em_89 (ce_at ce_89 16 rfl) tq_27 rfl rfl ?_
      refine e_bip 41 em_89 (ce_at ce_89 17 rfl) (by decide) rfl ?_
      refine e_gd fun g6 => ?_
      refine e_cmlt 55 44 em_89 rfl rfl (ce_at ce_89 18 rfl) g6 (by decide) (fun h7 => ?_) (fun h7 => ?_)
      · refine e_pk [0, 1] rfl rfl ?_
        exact ttrl_readSubName_55 w d hd _ _
      · refine e_mv 45 em_89 (ce_at ce_89 19 rfl) rfl rfl ?_
        refine e_getr 48 em_89 (ce_at ce_89 20 rfl) tq_22 rfl rfl ?_
        refine e_op 49 em_89 (ce_at ce_89 21 rfl) rfl rfl ?_
        refine e_ivv 52 em_89 (ce_at ce_89 22 rfl) (by omega) (iv_v1 (by decide) tq_2 rfl) em_71 (Nat.le_of_ble_eq_true rfl) rfl (ttok_stop w (d - 1) (by omega) _ _) (fun r8 s8 => ?_)
        refine e_goto em_89 157 (ce_at ce_89 23 rfl) rfl ?_
        exact e_retv em_89 (ce_at ce_89 70 rfl)
  · refine e_mv 12 em_89 (ce_at ce_89 5 rfl) rfl rfl ?_
    refine e_getr 15 em_89 (ce_at ce_89 6 rfl) tq_22 rfl rfl ?_
    refine e_op 16 em_89 (ce_at ce_89 7 rfl) rfl rfl ?_
    refine e_ivv 19 em_89 (ce_at ce_89 8 rfl) (by omega) (iv_v1 (by decide) tq_2 rfl) em_71 (Nat.le_of_ble_eq_true rfl) rfl (ttok_stop w (d - 1) (by omega) _ _) (fun r9 s9 => ?_)
    refine e_goto em_89 157 (ce_at ce_89 9 rfl) rfl ?_
    exact e_retv em_89 (ce_at ce_89 70 rfl)
theorem ftrl_readSubName (v1 : Int) (s : iS) : Fm Prod.snd L_trl_readSubName G_trl_readSubName s (trl_readSubName v1 s) := fm_bd (fm_sub (ftok_kind _) (mem_sub_L rfl) (mem_sub_F rfl)) (fun r1 s1 => fm_gd (fm_if (fm_gd (fm_if (fm_gd (fm_if (ftrl_readSubName_55 _ _) (fm_bd (fm_sub (ftok_stop _ _) (mem_sub_L rfl) (mem_sub_F rfl)) (fun r8 s8 => fm_some md_refl)))) (ftrl_readSubName_55 _ _))) (fm_bd (fm_sub (ftok_stop _ _) (mem_sub_L rfl) (mem_sub_F rfl)) (fun r9 s9 => fm_some md_refl))))
/-! scp_tellParameters -/
def L_scp_tellParameters : List Nat := [31]
def G_scp_tellParameters : List (Nat × Nat) := []
noncomputable def scp_tellParameters (s : iS) : Option (Int × iS) := gd (rg (s 23 12)) (if (s 23 12) < 40 then some (0, s) else if 100 ≤ (s 23 12) then some (0, s) else gd (0 ≤ (s 23 12) ∧ (s 23 12) < 100) (lt' (up s 31 (s 23 12).toNat (s 40 1)) (fun s5 => some (0, s5))))
theorem tscp_tellParameters (w : ev_W) (d : Nat) (hd : 0 ≤ d) (s : iS) : Ew hT w d 95 0 [(0, .ref (tb_nK + 23))] [] s (Cv hT) (scp_tellParameters s) := by
  unfold scp_tellParameters
  refine e_mv 1 em_95 (ce_at ce_95 0 rfl) rfl rfl ?_
  refine e_get 4 em_95 (ce_at ce_95 1 rfl) tq_23 rfl rfl ?_
  refine e_bip 6 em_95 (ce_at ce_95 2 rfl) (by decide) rfl ?_
  refine e_gd fun g1 => ?_
  refine e_cmlt 33 9 em_95 rfl rfl (ce_at ce_95 3 rfl) g1 (by decide) (fun h2 => ?_) (fun h2 => ?_)
  · exact e_retv em_95 (ce_at ce_95 17 rfl)
  · refine e_mv 10 em_95 (ce_at ce_95 4 rfl) rfl rfl ?_
    refine e_get 13 em_95 (ce_at ce_95 5 rfl) tq_23 rfl rfl ?_
    refine e_bip 15 em_95 (ce_at ce_95 6 rfl) (by decide) rfl ?_
    refine e_cmge 33 18 em_95 rfl rfl (ce_at ce_95 7 rfl) g1 (by decide) (fun h3 => ?_) (fun h3 => ?_)
    · exact e_retv em_95 (ce_at ce_95 17 rfl)
    · refine e_mv 19 em_95 (ce_at ce_95 8 rfl) rfl rfl ?_
      refine e_getr 22 em_95 (ce_at ce_95 9 rfl) tq_23 rfl rfl ?_
      refine e_mv 23 em_95 (ce_at ce_95 10 rfl) rfl rfl ?_
      refine e_get 26 em_95 (ce_at ce_95 11 rfl) tq_23 rfl rfl ?_
      refine e_mv 27 em_95 (ce_at ce_95 12 rfl) rfl rfl ?_
      refine e_getr 30 em_95 (ce_at ce_95 13 rfl) tq_23 rfl rfl ?_
      refine e_op 31 em_95 (ce_at ce_95 14 rfl) rfl rfl ?_
      refine e_ild 32 em_95 (ce_at ce_95 15 rfl) tq_40 (by decide) (by decide) rfl ?_
      refine e_gd fun g4 => ?_
      refine e_ist 33 em_95 (ce_at ce_95 16 rfl) tq_31 (by decide) g4 rfl (fun s5 => ?_)
      exact e_retv em_95 (ce_at ce_95 17 rfl)
theorem fscp_tellParameters (s : iS) : Fm Prod.snd L_scp_tellParameters G_scp_tellParameters s (scp_tellParameters s) := fm_gd (fm_if (fm_some md_refl) (fm_if (fm_some md_refl) (fm_gd (fm_lt (md_upL (mem_L rfl)) (fun s5 => fm_some md_refl)))))
/-! trl_readParameters -/
def L_trl_readParameters : List Nat := [31, 34, 35, 36, 37, 38, 39, 40]
def G_trl_readParameters : List (Nat × Nat) := [(2, 12), (2, 13), (2, 14), (23, 15), (33, 2)]
noncomputable def trl_readParameters_79 (s : iS) : Option (Int × iS) := bd (tok_expect 41 s) (fun _ s1 => bd (scp_tellParameters s1) (fun _ s2 => some (0, s2)))
theorem ttrl_readParameters_79 (w : ev_W) (d : Nat) (hd : 4 ≤ d) (s : iS) : Ew hT w d 94 79 [(0, .ref (tb_nK + 22))] [] s (Cv hT) (trl_readParameters_79 s) := by
  unfold trl_readParameters_79
  refine e_mv 80 em_94 (ce_at ce_94 38 rfl) rfl rfl ?_
  refine e_getr 83 em_94 (ce_at ce_94 39 rfl) tq_22 rfl rfl ?_
  refine e_bip 85 em_94 (ce_at ce_94 40 rfl) (by decide) rfl ?_
  refine e_ivv 88 em_94 (ce_at ce_94 41 rfl) (by omega) (iv_v1 (by decide) tq_2 rfl) em_86 (Nat.le_of_ble_eq_true rfl) rfl (ttok_expect w (d - 1) (by omega) _ _) (fun r1 s1 => ?_)
  refine e_mv 89 em_94 (ce_at ce_94 42 rfl) rfl rfl ?_
  refine e_getr 92 em_94 (ce_at ce_94 43 rfl) tq_22 rfl rfl ?_
  refine e_ivv 95 em_94 (ce_at ce_94 44 rfl) (by omega) (iv_v0 (by decide) tq_23 rfl) em_95 (Nat.le_of_ble_eq_true rfl) rfl (tscp_tellParameters w (d - 1) (by omega) _) (fun r2 s2 => ?_)
  exact e_retv em_94 (ce_at ce_94 45 rfl)
theorem ftrl_readParameters_79 (s : iS) : Fm Prod.snd L_trl_readParameters G_trl_readParameters s (trl_readParameters_79 s) := fm_bd (fm_sub (ftok_expect _ _) (mem_sub_L rfl) (mem_sub_F rfl)) (fun r1 s1 => fm_bd (fm_sub (fscp_tellParameters _) (mem_sub_L rfl) (mem_sub_F rfl)) (fun r2 s2 => fm_some md_refl))
def trl_readParameters_32C (w : ev_W) (d : Nat) : (Int × iS) ⊕ (iS) → am_E → Prop := fun q r => q.elim (fun l => ev w d 94 32 ((fun l => [(0, .ref (tb_nK + 22)), (1, iv (l.1))]) l) [] (hT ((fun l => l.2) l)) r) (fun e => (fun e r => ev w d 94 79 [(0, .ref (tb_nK + 22))] [] (hT (e)) r) e r)
noncomputable def trl_readParameters_32b (v1 : Int) (s : iS) : Option ((Int × iS) ⊕ (iS)) := gd (rg v1) (if 1000 ≤ v1 then some (.inr s) else bd (tok_kind s) (fun r3 s3 => gd (rg r3) (if r3 = 44 then lt' (up s3 2 12 ((s3 2 12) + 1)) (fun s6 => bd (trl_readType s6) (fun r7 s7 => bd (trl_declare 1 r7 s7) (fun _ s8 => some (.inl ((v1 + 1), s8))))) else some (.inr s3))))
theorem ttrl_readParameters_32b (w : ev_W) (d : Nat) (hd : 4 ≤ d) (v1 : Int) (s : iS) : Ew hT w d 94 32 [(0, .ref (tb_nK + 22)), (1, iv v1)] [] s (trl_readParameters_32C w d) (trl_readParameters_32b v1 s) := by
  unfold trl_readParameters_32b
  refine e_mv 33 em_94 (ce_at ce_94 16 rfl) rfl rfl ?_
  refine e_sip 36 em_94 (ce_at ce_94 17 rfl) (by decide) rfl ?_
  refine e_gd fun g1 => ?_
  refine e_cmge 79 39 em_94 rfl rfl (ce_at ce_94 18 rfl) g1 (by decide) (fun h2 => ?_) (fun h2 => ?_)
  · refine e_pk [0] rfl rfl ?_
    exact e_out (fun r h => h)
  · refine e_mv 40 em_94 (ce_at ce_94 19 rfl) rfl rfl ?_
    refine e_getr 43 em_94 (ce_at ce_94 20 rfl) tq_22 rfl rfl ?_
    refine e_ivi 46 em_94 (ce_at ce_94 21 rfl) (by omega) (iv_v0 (by decide) tq_2 rfl) em_69 (Nat.le_of_ble_eq_true rfl) rfl (ttok_kind w (d - 1) (by omega) _) (fun r3 s3 => ?_)
    refine e_bip 48 em_94 (ce_at ce_94 22 rfl) (by decide) rfl ?_
    refine e_gd fun g4 => ?_
    refine e_cmne 79 51 em_94 rfl rfl (ce_at ce_94 23 rfl) g4 (by decide) (fun h5 => ?_) (fun h5 => ?_)
    · refine e_pk [0] rfl rfl ?_
      exact e_out (fun r h => h)
    · refine e_mv 52 em_94 (ce_at ce_94 24 rfl) rfl rfl ?_
      refine e_getr 55 em_94 (ce_at ce_94 25 rfl) tq_22 rfl rfl ?_
      refine e_op 56 em_94 (ce_at ce_94 26 rfl) rfl rfl ?_
      refine e_get 59 em_94 (ce_at ce_94 27 rfl) tq_2 rfl rfl ?_
      refine e_op 60 em_94 (ce_at ce_94 28 rfl) rfl rfl ?_
      refine e_iadd 61 em_94 rfl (ce_at ce_94 29 rfl) ?_
      refine e_put 64 em_94 (ce_at ce_94 30 rfl) tq_2 rfl rfl rfl (fun s6 => ?_)
      refine e_mv 65 em_94 (ce_at ce_94 31 rfl) rfl rfl ?_
      refine e_op 66 em_94 (ce_at ce_94 32 rfl) rfl rfl ?_
      refine e_mv 67 em_94 (ce_at ce_94 33 rfl) rfl rfl ?_
      refine e_ivi 70 em_94 (ce_at ce_94 34 rfl) (by omega) (iv_v0 (by decide) tq_22 rfl) em_81 (Nat.le_of_ble_eq_true rfl) rfl (ttrl_readType w (d - 1) (by omega) _) (fun r7 s7 => ?_)
      refine e_ivv 73 em_94 (ce_at ce_94 35 rfl) (by omega) (iv_v2 (by decide) tq_22 rfl) em_82 (Nat.le_of_ble_eq_true rfl) rfl (ttrl_declare w (d - 1) (by omega) _ _ _) (fun r8 s8 => ?_)
      refine e_iinc 76 em_94 (ce_at ce_94 36 rfl) rfl (by decide) rfl ?_
      refine e_goto em_94 32 (ce_at ce_94 37 rfl) rfl ?_
      refine e_pk [0, 1] rfl rfl ?_
      exact e_out (fun r h => h)
theorem ftrl_readParameters_32b (v1 : Int) (s : iS) : Fm (fun r : (Int × iS) ⊕ (iS) => r.elim (fun l => l.2) (fun e => e)) L_trl_readParameters G_trl_readParameters s (trl_readParameters_32b v1 s) := fm_gd (fm_if (fm_some md_refl) (fm_bd (fm_sub (ftok_kind _) (mem_sub_L rfl) (mem_sub_F rfl)) (fun r3 s3 => fm_gd (fm_if (fm_lt (md_upF (mem_F rfl)) (fun s6 => fm_bd (fm_sub (ftrl_readType _) (mem_sub_L rfl) (mem_sub_F rfl)) (fun r7 s7 => fm_bd (fm_sub (ftrl_declare _ _ _) (mem_sub_L rfl) (mem_sub_F rfl)) (fun r8 s8 => fm_some md_refl)))) (fm_some md_refl)))))
noncomputable def trl_readParameters_32 (v1 : Int) (s : iS) : Option (Int × iS) := (lp (L := Int × iS) (E := iS) (fun l => trl_readParameters_32b (l.1) (l.2)) (v1, s)).bind (fun e => trl_readParameters_79 e)
theorem ttrl_readParameters_32 (w : ev_W) (d : Nat) (hd : 4 ≤ d) (v1 : Int) (s : iS) : Ew hT w d 94 32 [(0, .ref (tb_nK + 22)), (1, iv v1)] [] s (Cv hT) (trl_readParameters_32 v1 s) := by
  unfold trl_readParameters_32
  refine e_lp (L := Int × iS) (E := iS) (LO := fun l => [(0, .ref (tb_nK + 22)), (1, iv (l.1))]) (LS := fun l => l.2) (CE := fun e r => ev w d 94 79 [(0, .ref (tb_nK + 22))] [] (hT (e)) r) (fun l => ttrl_readParameters_32b w d hd _ _) ?_ (v1, s)
  intro e
  show Ew hT w d 94 79 [(0, .ref (tb_nK + 22))] [] e (Cv hT) _
  refine e_pk [0] rfl rfl ?_
  exact ttrl_readParameters_79 w d hd _
theorem ftrl_readParameters_32 (v1 : Int) (s : iS) : Fm Prod.snd L_trl_readParameters G_trl_readParameters s (trl_readParameters_32 v1 s) := by
  unfold trl_readParameters_32
  refine fm_lp (A := Int × iS) (E := iS) (LS := fun l => l.2) (LE := fun e => e) ?_ ?_ (v1, s)
  · exact fun l => ftrl_readParameters_32b _ _
  · exact (fun e => ftrl_readParameters_79 _)
noncomputable def trl_readParameters (s : iS) : Option (Int × iS) := bd (tok_expect 40 s) (fun _ s1 => bd (tok_kind s1) (fun r2 s2 => gd (rg r2) (if r2 = 41 then trl_readParameters_79 s2 else bd (trl_readType s2) (fun r5 s5 => bd (trl_declare 1 r5 s5) (fun _ s6 => trl_readParameters_32 0 s6)))))
theorem ttrl_readParameters (w : ev_W) (d : Nat) (hd : 4 ≤ d) (s : iS) : Ew hT w d 94 0 [(0, .ref (tb_nK + 22))] [] s (Cv hT) (trl_readParameters s) := by
  unfold trl_readParameters
  refine e_mv 1 em_94 (ce_at ce_94 0 rfl) rfl rfl ?_
  refine e_getr 4 em_94 (ce_at ce_94 1 rfl) tq_22 rfl rfl ?_
  refine e_bip 6 em_94 (ce_at ce_94 2 rfl) (by decide) rfl ?_
  refine e_ivv 9 em_94 (ce_at ce_94 3 rfl) (by omega) (iv_v1 (by decide) tq_2 rfl) em_86 (Nat.le_of_ble_eq_true rfl) rfl (ttok_expect w (d - 1) (by omega) _ _) (fun r1 s1 => ?_)
  refine e_mv 10 em_94 (ce_at ce_94 4 rfl) rfl rfl ?_
  refine e_getr 13 em_94 (ce_at ce_94 5 rfl) tq_22 rfl rfl ?_
  refine e_ivi 16 em_94 (ce_at ce_94 6 rfl) (by omega) (iv_v0 (by decide) tq_2 rfl) em_69 (Nat.le_of_ble_eq_true rfl) rfl (ttok_kind w (d - 1) (by omega) _) (fun r2 s2 => ?_)
  refine e_bip 18 em_94 (ce_at ce_94 7 rfl) (by decide) rfl ?_
  refine e_gd fun g3 => ?_
  refine e_cmeq 79 21 em_94 rfl rfl (ce_at ce_94 8 rfl) g3 (by decide) (fun h4 => ?_) (fun h4 => ?_)
  · refine e_pk [0] rfl rfl ?_
    exact ttrl_readParameters_79 w d hd _
  · refine e_mv 22 em_94 (ce_at ce_94 9 rfl) rfl rfl ?_
    refine e_op 23 em_94 (ce_at ce_94 10 rfl) rfl rfl ?_
    refine e_mv 24 em_94 (ce_at ce_94 11 rfl) rfl rfl ?_
    refine e_ivi 27 em_94 (ce_at ce_94 12 rfl) (by omega) (iv_v0 (by decide) tq_22 rfl) em_81 (Nat.le_of_ble_eq_true rfl) rfl (ttrl_readType w (d - 1) (by omega) _) (fun r5 s5 => ?_)
    refine e_ivv 30 em_94 (ce_at ce_94 13 rfl) (by omega) (iv_v2 (by decide) tq_22 rfl) em_82 (Nat.le_of_ble_eq_true rfl) rfl (ttrl_declare w (d - 1) (by omega) _ _ _) (fun r6 s6 => ?_)
    refine e_op 31 em_94 (ce_at ce_94 14 rfl) rfl rfl ?_
    refine e_mv 32 em_94 (ce_at ce_94 15 rfl) rfl rfl ?_
    refine e_pk [0, 1] rfl rfl ?_
    exact ttrl_readParameters_32 w d hd _ _
theorem ftrl_readParameters (s : iS) : Fm Prod.snd L_trl_readParameters G_trl_readParameters s (trl_readParameters s) := fm_bd (fm_sub (ftok_expect _ _) (mem_sub_L rfl) (mem_sub_F rfl)) (fun r1 s1 => fm_bd (fm_sub (ftok_kind _) (mem_sub_L rfl) (mem_sub_F rfl)) (fun r2 s2 => fm_gd (fm_if (ftrl_readParameters_79 _) (fm_bd (fm_sub (ftrl_readType _) (mem_sub_L rfl) (mem_sub_F rfl)) (fun r5 s5 => fm_bd (fm_sub (ftrl_declare _ _ _) (mem_sub_L rfl) (mem_sub_F rfl)) (fun r6 s6 => ftrl_readParameters_32 _ _))))))
/-! prg_beginSub -/
def L_prg_beginSub : List Nat := [20]
def G_prg_beginSub : List (Nat × Nat) := [(14, 9), (14, 12)]
noncomputable def prg_beginSub (v1 : Int) (s : iS) : Option (Int × iS) := lt' (up s 14 9 (s 14 8)) (fun s1 => lt' (up s1 14 12 (-1)) (fun s2 => gd (rg v1) (if v1 < 0 then some (0, s2) else if 100 ≤ v1 then some (0, s2) else gd (0 ≤ v1 ∧ v1 < 100) (lt' (up s2 20 v1.toNat (s2 14 8)) (fun s7 => some (0, s7))))))
theorem tprg_beginSub (w : ev_W) (d : Nat) (hd : 0 ≤ d) (v1 : Int) (s : iS) : Ew hT w d 97 0 [(0, .ref (tb_nK + 14)), (1, iv v1)] [] s (Cv hT) (prg_beginSub v1 s) := by
  unfold prg_beginSub
  refine e_mv 1 em_97 (ce_at ce_97 0 rfl) rfl rfl ?_
  refine e_mv 2 em_97 (ce_at ce_97 1 rfl) rfl rfl ?_
  refine e_get 5 em_97 (ce_at ce_97 2 rfl) tq_14 rfl rfl ?_
  refine e_put 8 em_97 (ce_at ce_97 3 rfl) tq_14 rfl rfl rfl (fun s1 => ?_)
  refine e_mv 9 em_97 (ce_at ce_97 4 rfl) rfl rfl ?_
  refine e_op 10 em_97 (ce_at ce_97 5 rfl) rfl rfl ?_
  refine e_put 13 em_97 (ce_at ce_97 6 rfl) tq_14 rfl rfl rfl (fun s2 => ?_)
  refine e_mv 14 em_97 (ce_at ce_97 7 rfl) rfl rfl ?_
  refine e_gd fun g3 => ?_
  refine e_iflt 36 17 em_97 rfl rfl (ce_at ce_97 8 rfl) g3 (fun h4 => ?_) (fun h4 => ?_)
  · exact e_retv em_97 (ce_at ce_97 20 rfl)
  · refine e_mv 18 em_97 (ce_at ce_97 9 rfl) rfl rfl ?_
    refine e_mv 19 em_97 (ce_at ce_97 10 rfl) rfl rfl ?_
    refine e_getr 22 em_97 (ce_at ce_97 11 rfl) tq_14 rfl rfl ?_
    refine e_alen 23 em_97 (ce_at ce_97 12 rfl) tq_20 (by decide) rfl rfl ?_
    refine e_cmge 36 26 em_97 rfl rfl (ce_at ce_97 13 rfl) g3 (by decide) (fun h5 => ?_) (fun h5 => ?_)
    · exact e_retv em_97 (ce_at ce_97 20 rfl)
    · refine e_mv 27 em_97 (ce_at ce_97 14 rfl) rfl rfl ?_
      refine e_getr 30 em_97 (ce_at ce_97 15 rfl) tq_14 rfl rfl ?_
      refine e_mv 31 em_97 (ce_at ce_97 16 rfl) rfl rfl ?_
      refine e_mv 32 em_97 (ce_at ce_97 17 rfl) rfl rfl ?_
      refine e_get 35 em_97 (ce_at ce_97 18 rfl) tq_14 rfl rfl ?_
      refine e_gd fun g6 => ?_
      refine e_ist 36 em_97 (ce_at ce_97 19 rfl) tq_20 (by decide) g6 rfl (fun s7 => ?_)
      exact e_retv em_97 (ce_at ce_97 20 rfl)
theorem fprg_beginSub (v1 : Int) (s : iS) : Fm Prod.snd L_prg_beginSub G_prg_beginSub s (prg_beginSub v1 s) := fm_lt (md_upF (mem_F rfl)) (fun s1 => fm_lt (md_upF (mem_F rfl)) (fun s2 => fm_gd (fm_if (fm_some md_refl) (fm_if (fm_some md_refl) (fm_gd (fm_lt (md_upL (mem_L rfl)) (fun s7 => fm_some md_refl)))))))
/-! scp_numberOf -/
def L_scp_numberOf : List Nat := []
def G_scp_numberOf : List (Nat × Nat) := []
noncomputable def scp_numberOf (v1 : Int) (v2 : Int) (s : iS) : Option (Int × iS) := bd (scp_firstSubOf v1 s) (fun r1 s1 => some ((((100 * v1) + v2) - r1), s1))
theorem tscp_numberOf (w : ev_W) (d : Nat) (hd : 1 ≤ d) (v1 : Int) (v2 : Int) (s : iS) : Ew hT w d 98 0 [(0, .ref (tb_nK + 23)), (1, iv v1), (2, iv v2)] [] s (Ci hT) (scp_numberOf v1 v2 s) := by
  unfold scp_numberOf
  refine e_bip 2 em_98 (ce_at ce_98 0 rfl) (by decide) rfl ?_
  refine e_mv 3 em_98 (ce_at ce_98 1 rfl) rfl rfl ?_
  refine e_imul 4 em_98 rfl (ce_at ce_98 2 rfl) ?_
  refine e_mv 5 em_98 (ce_at ce_98 3 rfl) rfl rfl ?_
  refine e_iadd 6 em_98 rfl (ce_at ce_98 4 rfl) ?_
  refine e_mv 7 em_98 (ce_at ce_98 5 rfl) rfl rfl ?_
  refine e_mv 8 em_98 (ce_at ce_98 6 rfl) rfl rfl ?_
  refine e_ivi 11 em_98 (ce_at ce_98 7 rfl) (by omega) (iv_v1 (by decide) tq_23 rfl) em_93 (Nat.le_of_ble_eq_true rfl) rfl (tscp_firstSubOf w (d - 1) (by omega) _ _) (fun r1 s1 => ?_)
  refine e_isub 12 em_98 rfl (ce_at ce_98 8 rfl) ?_
  exact e_reti em_98 (ce_at ce_98 9 rfl)
theorem fscp_numberOf (v1 : Int) (v2 : Int) (s : iS) : Fm Prod.snd L_scp_numberOf G_scp_numberOf s (scp_numberOf v1 v2 s) := fm_bd (fm_sub (fscp_firstSubOf _ _) (mem_sub_L rfl) (mem_sub_F rfl)) (fun r1 s1 => fm_some md_refl)
/-! prg_add -/
def L_prg_add : List Nat := [15, 16, 17, 18, 19]
def G_prg_add : List (Nat × Nat) := [(14, 8), (14, 12)]
noncomputable def prg_add (v1 : Int) (v2 : Int) (v3 : Int) (s : iS) : Option (Int × iS) := gd (rg (s 14 7)) (if (s 14 7) = 0 then some (0, s) else gd (rg (s 14 8)) (if 3000 ≤ (s 14 8) then some (0, s) else gd (0 ≤ (s 14 8) ∧ (s 14 8) < 3000) (lt' (up s 15 (s 14 8).toNat v1) (fun s6 => gd (0 ≤ (s6 14 8) ∧ (s6 14 8) < 3000) (lt' (up s6 16 (s6 14 8).toNat v2) (fun s8 => gd (0 ≤ (s8 14 8) ∧ (s8 14 8) < 3000) (lt' (up s8 17 (s8 14 8).toNat v3) (fun s10 => gd (0 ≤ (s10 14 8) ∧ (s10 14 8) < 3000) (lt' (up s10 18 (s10 14 8).toNat 0) (fun s12 => gd (0 ≤ (s12 14 8) ∧ (s12 14 8) < 3000) (lt' (up s12 19 (s12 14 8).toNat (s12 14 12)) (fun s14 => lt' (up s14 14 12 (-1)) (fun s15 => lt' (up s15 14 8 ((s15 14 8) + 1)) (fun s16 => some (0, s16)))))))))))))))
theorem tprg_add (w : ev_W) (d : Nat) (hd : 0 ≤ d) (v1 : Int) (v2 : Int) (v3 : Int) (s : iS) : Ew hT w d 99 0 [(0, .ref (tb_nK + 14)), (1, iv v1), (2, iv v2), (3, iv v3)] [] s (Cv hT) (prg_add v1 v2 v3 s) := by
  unfold prg_add
  refine e_mv 1 em_99 (ce_at ce_99 0 rfl) rfl rfl ?_
  refine e_get 4 em_99 (ce_at ce_99 1 rfl) tq_14 rfl rfl ?_
  refine e_gd fun g1 => ?_
  refine e_ifeq 85 7 em_99 rfl rfl (ce_at ce_99 2 rfl) g1 (fun h2 => ?_) (fun h2 => ?_)
  · exact e_retv em_99 (ce_at ce_99 47 rfl)
  · refine e_mv 8 em_99 (ce_at ce_99 3 rfl) rfl rfl ?_
    refine e_get 11 em_99 (ce_at ce_99 4 rfl) tq_14 rfl rfl ?_
    refine e_sip 14 em_99 (ce_at ce_99 5 rfl) (by decide) rfl ?_
    refine e_gd fun g3 => ?_
    refine e_cmge 85 17 em_99 rfl rfl (ce_at ce_99 6 rfl) g3 (by decide) (fun h4 => ?_) (fun h4 => ?_)
    · exact e_retv em_99 (ce_at ce_99 47 rfl)
    · refine e_mv 18 em_99 (ce_at ce_99 7 rfl) rfl rfl ?_
      refine e_getr 21 em_99 (ce_at ce_99 8 rfl) tq_14 rfl rfl ?_
      refine e_mv 22 em_99 (ce_at ce_99 9 rfl) rfl rfl ?_
      refine e_get 25 em_99 (ce_at ce_99 10 rfl) tq_14 rfl rfl ?_
      refine e_mv 26 em_99 (ce_at ce_99 11 rfl) rfl rfl ?_
      refine e_gd fun g5 => ?_
      refine e_ist 27 em_99 (ce_at ce_99 12 rfl) tq_15 (by decide) g5 rfl (fun s6 => ?_)
      refine e_mv 28 em_99 (ce_at ce_99 13 rfl) rfl rfl ?_
      refine e_getr 31 em_99 (ce_at ce_99 14 rfl) tq_14 rfl rfl ?_
      refine e_mv 32 em_99 (ce_at ce_99 15 rfl) rfl rfl ?_
      refine e_get 35 em_99 (ce_at ce_99 16 rfl) tq_14 rfl rfl ?_
      refine e_mv 36 em_99 (ce_at ce_99 17 rfl) rfl rfl ?_
      refine e_gd fun g7 => ?_
      refine e_ist 37 em_99 (ce_at ce_99 18 rfl) tq_16 (by decide) g7 rfl (fun s8 => ?_)
      refine e_mv 38 em_99 (ce_at ce_99 19 rfl) rfl rfl ?_
      refine e_getr 41 em_99 (ce_at ce_99 20 rfl) tq_14 rfl rfl ?_
      refine e_mv 42 em_99 (ce_at ce_99 21 rfl) rfl rfl ?_
      refine e_get 45 em_99 (ce_at ce_99 22 rfl) tq_14 rfl rfl ?_
      refine e_mv 46 em_99 (ce_at ce_99 23 rfl) rfl rfl ?_
      refine e_gd fun g9 => ?_
      refine e_ist 47 em_99 (ce_at ce_99 24 rfl) tq_17 (by decide) g9 rfl (fun s10 => ?_)
      refine e_mv 48 em_99 (ce_at ce_99 25 rfl) rfl rfl ?_
      refine e_getr 51 em_99 (ce_at ce_99 26 rfl) tq_14 rfl rfl ?_
      refine e_mv 52 em_99 (ce_at ce_99 27 rfl) rfl rfl ?_
      refine e_get 55 em_99 (ce_at ce_99 28 rfl) tq_14 rfl rfl ?_
      refine e_op 56 em_99 (ce_at ce_99 29 rfl) rfl rfl ?_
      refine e_gd fun g11 => ?_
      refine e_ist 57 em_99 (ce_at ce_99 30 rfl) tq_18 (by decide) g11 rfl (fun s12 => ?_)
      refine e_mv 58 em_99 (ce_at ce_99 31 rfl) rfl rfl ?_
      refine e_getr 61 em_99 (ce_at ce_99 32 rfl) tq_14 rfl rfl ?_
      refine e_mv 62 em_99 (ce_at ce_99 33 rfl) rfl rfl ?_
      refine e_get 65 em_99 (ce_at ce_99 34 rfl) tq_14 rfl rfl ?_
      refine e_mv 66 em_99 (ce_at ce_99 35 rfl) rfl rfl ?_
      refine e_get 69 em_99 (ce_at ce_99 36 rfl) tq_14 rfl rfl ?_
      refine e_gd fun g13 => ?_
      refine e_ist 70 em_99 (ce_at ce_99 37 rfl) tq_19 (by decide) g13 rfl (fun s14 => ?_)
      refine e_mv 71 em_99 (ce_at ce_99 38 rfl) rfl rfl ?_
      refine e_op 72 em_99 (ce_at ce_99 39 rfl) rfl rfl ?_
      refine e_put 75 em_99 (ce_at ce_99 40 rfl) tq_14 rfl rfl rfl (fun s15 => ?_)
      refine e_mv 76 em_99 (ce_at ce_99 41 rfl) rfl rfl ?_
      refine e_op 77 em_99 (ce_at ce_99 42 rfl) rfl rfl ?_
      refine e_get 80 em_99 (ce_at ce_99 43 rfl) tq_14 rfl rfl ?_
      refine e_op 81 em_99 (ce_at ce_99 44 rfl) rfl rfl ?_
      refine e_iadd 82 em_99 rfl (ce_at ce_99 45 rfl) ?_
      refine e_put 85 em_99 (ce_at ce_99 46 rfl) tq_14 rfl rfl rfl (fun s16 => ?_)
      exact e_retv em_99 (ce_at ce_99 47 rfl)
theorem fprg_add (v1 : Int) (v2 : Int) (v3 : Int) (s : iS) : Fm Prod.snd L_prg_add G_prg_add s (prg_add v1 v2 v3 s) := fm_gd (fm_if (fm_some md_refl) (fm_gd (fm_if (fm_some md_refl) (fm_gd (fm_lt (md_upL (mem_L rfl)) (fun s6 => fm_gd (fm_lt (md_upL (mem_L rfl)) (fun s8 => fm_gd (fm_lt (md_upL (mem_L rfl)) (fun s10 => fm_gd (fm_lt (md_upL (mem_L rfl)) (fun s12 => fm_gd (fm_lt (md_upL (mem_L rfl)) (fun s14 => fm_lt (md_upF (mem_F rfl)) (fun s15 => fm_lt (md_upF (mem_F rfl)) (fun s16 => fm_some md_refl))))))))))))))))
/-! prg_aim -/
def L_prg_aim : List Nat := [18]
def G_prg_aim : List (Nat × Nat) := []
noncomputable def prg_aim (v1 : Int) (s : iS) : Option (Int × iS) := gd (rg (s 14 7)) (if (s 14 7) = 0 then some (0, s) else gd (rg (s 14 8)) (if (s 14 8) ≤ 0 then some (0, s) else gd (0 ≤ ((s 14 8) - 1) ∧ ((s 14 8) - 1) < 3000) (lt' (up s 18 ((s 14 8) - 1).toNat v1) (fun s6 => some (0, s6)))))
theorem tprg_aim (w : ev_W) (d : Nat) (hd : 0 ≤ d) (v1 : Int) (s : iS) : Ew hT w d 100 0 [(0, .ref (tb_nK + 14)), (1, iv v1)] [] s (Cv hT) (prg_aim v1 s) := by
  unfold prg_aim
  refine e_mv 1 em_100 (ce_at ce_100 0 rfl) rfl rfl ?_
  refine e_get 4 em_100 (ce_at ce_100 1 rfl) tq_14 rfl rfl ?_
  refine e_gd fun g1 => ?_
  refine e_ifeq 26 7 em_100 rfl rfl (ce_at ce_100 2 rfl) g1 (fun h2 => ?_) (fun h2 => ?_)
  · exact e_retv em_100 (ce_at ce_100 14 rfl)
  · refine e_mv 8 em_100 (ce_at ce_100 3 rfl) rfl rfl ?_
    refine e_get 11 em_100 (ce_at ce_100 4 rfl) tq_14 rfl rfl ?_
    refine e_gd fun g3 => ?_
    refine e_ifle 26 14 em_100 rfl rfl (ce_at ce_100 5 rfl) g3 (fun h4 => ?_) (fun h4 => ?_)
    · exact e_retv em_100 (ce_at ce_100 14 rfl)
    · refine e_mv 15 em_100 (ce_at ce_100 6 rfl) rfl rfl ?_
      refine e_getr 18 em_100 (ce_at ce_100 7 rfl) tq_14 rfl rfl ?_
      refine e_mv 19 em_100 (ce_at ce_100 8 rfl) rfl rfl ?_
      refine e_get 22 em_100 (ce_at ce_100 9 rfl) tq_14 rfl rfl ?_
      refine e_op 23 em_100 (ce_at ce_100 10 rfl) rfl rfl ?_
      refine e_isub 24 em_100 rfl (ce_at ce_100 11 rfl) ?_
      refine e_mv 25 em_100 (ce_at ce_100 12 rfl) rfl rfl ?_
      refine e_gd fun g5 => ?_
      refine e_ist 26 em_100 (ce_at ce_100 13 rfl) tq_18 (by decide) g5 rfl (fun s6 => ?_)
      exact e_retv em_100 (ce_at ce_100 14 rfl)
theorem fprg_aim (v1 : Int) (s : iS) : Fm Prod.snd L_prg_aim G_prg_aim s (prg_aim v1 s) := fm_gd (fm_if (fm_some md_refl) (fm_gd (fm_if (fm_some md_refl) (fm_gd (fm_lt (md_upL (mem_L rfl)) (fun s6 => fm_some md_refl))))))
/-! trl_beginBody -/
def L_trl_beginBody : List Nat := [15, 16, 17, 18, 19, 20]
def G_trl_beginBody : List (Nat × Nat) := [(14, 8), (14, 9), (14, 12)]
noncomputable def trl_beginBody (v1 : Int) (s : iS) : Option (Int × iS) := bd (prg_beginSub (s 23 12) s) (fun _ s1 => bd (scp_numberOf (s1 23 11) (s1 23 12) s1) (fun r2 s2 => bd (prg_add 14 r2 (s2 40 2) s2) (fun _ s3 => gd (rg v1) (if v1 = 259 then bd (prg_add 0 1 0 s3) (fun _ s12 => bd (prg_add 1 6 0 s12) (fun _ s13 => some (0, s13))) else if v1 = 257 then bd (mth_max 1 (s3 40 4) s3) (fun r7 s7 => bd (prg_add 0 0 r7 s7) (fun _ s8 => bd (prg_add 15 102 1 s8) (fun _ s9 => bd (prg_aim 8 s9) (fun _ s10 => bd (prg_add 1 6 0 s10) (fun _ s11 => some (0, s11)))))) else some (0, s3)))))
theorem ttrl_beginBody (w : ev_W) (d : Nat) (hd : 2 ≤ d) (v1 : Int) (s : iS) : Ew hT w d 96 0 [(0, .ref (tb_nK + 22)), (1, iv v1)] [] s (Cv hT) (trl_beginBody v1 s) := by
  unfold trl_beginBody
  refine e_mv 1 em_96 (ce_at ce_96 0 rfl) rfl rfl ?_
  refine e_getr 4 em_96 (ce_at ce_96 1 rfl) tq_22 rfl rfl ?_
  refine e_mv 5 em_96 (ce_at ce_96 2 rfl) rfl rfl ?_
  refine e_getr 8 em_96 (ce_at ce_96 3 rfl) tq_22 rfl rfl ?_
  refine e_get 11 em_96 (ce_at ce_96 4 rfl) tq_23 rfl rfl ?_
  refine e_ivv 14 em_96 (ce_at ce_96 5 rfl) (by omega) (iv_v1 (by decide) tq_14 rfl) em_97 (Nat.le_of_ble_eq_true rfl) rfl (tprg_beginSub w (d - 1) (by omega) _ _) (fun r1 s1 => ?_)
  refine e_mv 15 em_96 (ce_at ce_96 6 rfl) rfl rfl ?_
  refine e_getr 18 em_96 (ce_at ce_96 7 rfl) tq_22 rfl rfl ?_
  refine e_bip 20 em_96 (ce_at ce_96 8 rfl) (by decide) rfl ?_
  refine e_mv 21 em_96 (ce_at ce_96 9 rfl) rfl rfl ?_
  refine e_getr 24 em_96 (ce_at ce_96 10 rfl) tq_22 rfl rfl ?_
  refine e_mv 25 em_96 (ce_at ce_96 11 rfl) rfl rfl ?_
  refine e_getr 28 em_96 (ce_at ce_96 12 rfl) tq_22 rfl rfl ?_
  refine e_get 31 em_96 (ce_at ce_96 13 rfl) tq_23 rfl rfl ?_
  refine e_mv 32 em_96 (ce_at ce_96 14 rfl) rfl rfl ?_
  refine e_getr 35 em_96 (ce_at ce_96 15 rfl) tq_22 rfl rfl ?_
  refine e_get 38 em_96 (ce_at ce_96 16 rfl) tq_23 rfl rfl ?_
  refine e_ivi 41 em_96 (ce_at ce_96 17 rfl) (by omega) (iv_v2 (by decide) tq_23 rfl) em_98 (Nat.le_of_ble_eq_true rfl) rfl (tscp_numberOf w (d - 1) (by omega) _ _ _) (fun r2 s2 => ?_)
  refine e_mv 42 em_96 (ce_at ce_96 18 rfl) rfl rfl ?_
  refine e_getr 45 em_96 (ce_at ce_96 19 rfl) tq_22 rfl rfl ?_
  refine e_getr 48 em_96 (ce_at ce_96 20 rfl) tq_23 rfl rfl ?_
  refine e_op 49 em_96 (ce_at ce_96 21 rfl) rfl rfl ?_
  refine e_ild 50 em_96 (ce_at ce_96 22 rfl) tq_40 (by decide) (by decide) rfl ?_
  refine e_ivv 53 em_96 (ce_at ce_96 23 rfl) (by omega) (iv_v3 (by decide) tq_14 rfl) em_99 (Nat.le_of_ble_eq_true rfl) rfl (tprg_add w (d - 1) (by omega) _ _ _ _) (fun r3 s3 => ?_)
  refine e_mv 54 em_96 (ce_at ce_96 24 rfl) rfl rfl ?_
  refine e_sip 57 em_96 (ce_at ce_96 25 rfl) (by decide) rfl ?_
  refine e_gd fun g4 => ?_
  refine e_cmne 84 60 em_96 rfl rfl (ce_at ce_96 26 rfl) g4 (by decide) (fun h5 => ?_) (fun h5 => ?_)
  · refine e_mv 85 em_96 (ce_at ce_96 40 rfl) rfl rfl ?_
    refine e_sip 88 em_96 (ce_at ce_96 41 rfl) (by decide) rfl ?_
    refine e_cmne 145 91 em_96 rfl rfl (ce_at ce_96 42 rfl) g4 (by decide) (fun h6 => ?_) (fun h6 => ?_)
    · exact e_retv em_96 (ce_at ce_96 71 rfl)
    · refine e_mv 92 em_96 (ce_at ce_96 43 rfl) rfl rfl ?_
      refine e_getr 95 em_96 (ce_at ce_96 44 rfl) tq_22 rfl rfl ?_
      refine e_op 96 em_96 (ce_at ce_96 45 rfl) rfl rfl ?_
      refine e_op 97 em_96 (ce_at ce_96 46 rfl) rfl rfl ?_
      refine e_op 98 em_96 (ce_at ce_96 47 rfl) rfl rfl ?_
      refine e_mv 99 em_96 (ce_at ce_96 48 rfl) rfl rfl ?_
      refine e_getr 102 em_96 (ce_at ce_96 49 rfl) tq_22 rfl rfl ?_
      refine e_getr 105 em_96 (ce_at ce_96 50 rfl) tq_23 rfl rfl ?_
      refine e_op 106 em_96 (ce_at ce_96 51 rfl) rfl rfl ?_
      refine e_ild 107 em_96 (ce_at ce_96 52 rfl) tq_40 (by decide) (by decide) rfl ?_
      refine e_ivi 110 em_96 (ce_at ce_96 53 rfl) (by omega) (iv_s2 rfl) em_45 (Nat.le_of_ble_eq_true rfl) rfl (tmth_max hT w (d - 1) (by omega) _ _ _) (fun r7 s7 => ?_)
      refine e_ivv 113 em_96 (ce_at ce_96 54 rfl) (by omega) (iv_v3 (by decide) tq_14 rfl) em_99 (Nat.le_of_ble_eq_true rfl) rfl (tprg_add w (d - 1) (by omega) _ _ _ _) (fun r8 s8 => ?_)
      refine e_mv 114 em_96 (ce_at ce_96 55 rfl) rfl rfl ?_
      refine e_getr 117 em_96 (ce_at ce_96 56 rfl) tq_22 rfl rfl ?_
      refine e_bip 119 em_96 (ce_at ce_96 57 rfl) (by decide) rfl ?_
      refine e_bip 121 em_96 (ce_at ce_96 58 rfl) (by decide) rfl ?_
      refine e_op 122 em_96 (ce_at ce_96 59 rfl) rfl rfl ?_
      refine e_ivv 125 em_96 (ce_at ce_96 60 rfl) (by omega) (iv_v3 (by decide) tq_14 rfl) em_99 (Nat.le_of_ble_eq_true rfl) rfl (tprg_add w (d - 1) (by omega) _ _ _ _) (fun r9 s9 => ?_)
      refine e_mv 126 em_96 (ce_at ce_96 61 rfl) rfl rfl ?_
      refine e_getr 129 em_96 (ce_at ce_96 62 rfl) tq_22 rfl rfl ?_
      refine e_bip 131 em_96 (ce_at ce_96 63 rfl) (by decide) rfl ?_
      refine e_ivv 134 em_96 (ce_at ce_96 64 rfl) (by omega) (iv_v1 (by decide) tq_14 rfl) em_100 (Nat.le_of_ble_eq_true rfl) rfl (tprg_aim w (d - 1) (by omega) _ _) (fun r10 s10 => ?_)
      refine e_mv 135 em_96 (ce_at ce_96 65 rfl) rfl rfl ?_
      refine e_getr 138 em_96 (ce_at ce_96 66 rfl) tq_22 rfl rfl ?_
      refine e_op 139 em_96 (ce_at ce_96 67 rfl) rfl rfl ?_
      refine e_bip 141 em_96 (ce_at ce_96 68 rfl) (by decide) rfl ?_
      refine e_op 142 em_96 (ce_at ce_96 69 rfl) rfl rfl ?_
      refine e_ivv 145 em_96 (ce_at ce_96 70 rfl) (by omega) (iv_v3 (by decide) tq_14 rfl) em_99 (Nat.le_of_ble_eq_true rfl) rfl (tprg_add w (d - 1) (by omega) _ _ _ _) (fun r11 s11 => ?_)
      exact e_retv em_96 (ce_at ce_96 71 rfl)
  · refine e_mv 61 em_96 (ce_at ce_96 27 rfl) rfl rfl ?_
    refine e_getr 64 em_96 (ce_at ce_96 28 rfl) tq_22 rfl rfl ?_
    refine e_op 65 em_96 (ce_at ce_96 29 rfl) rfl rfl ?_
    refine e_op 66 em_96 (ce_at ce_96 30 rfl) rfl rfl ?_
    refine e_op 67 em_96 (ce_at ce_96 31 rfl) rfl rfl ?_
    refine e_ivv 70 em_96 (ce_at ce_96 32 rfl) (by omega) (iv_v3 (by decide) tq_14 rfl) em_99 (Nat.le_of_ble_eq_true rfl) rfl (tprg_add w (d - 1) (by omega) _ _ _ _) (fun r12 s12 => ?_)
    refine e_mv 71 em_96 (ce_at ce_96 33 rfl) rfl rfl ?_
    refine e_getr 74 em_96 (ce_at ce_96 34 rfl) tq_22 rfl rfl ?_
    refine e_op 75 em_96 (ce_at ce_96 35 rfl) rfl rfl ?_
    refine e_bip 77 em_96 (ce_at ce_96 36 rfl) (by decide) rfl ?_
    refine e_op 78 em_96 (ce_at ce_96 37 rfl) rfl rfl ?_
    refine e_ivv 81 em_96 (ce_at ce_96 38 rfl) (by omega) (iv_v3 (by decide) tq_14 rfl) em_99 (Nat.le_of_ble_eq_true rfl) rfl (tprg_add w (d - 1) (by omega) _ _ _ _) (fun r13 s13 => ?_)
    refine e_goto em_96 145 (ce_at ce_96 39 rfl) rfl ?_
    exact e_retv em_96 (ce_at ce_96 71 rfl)
theorem ftrl_beginBody (v1 : Int) (s : iS) : Fm Prod.snd L_trl_beginBody G_trl_beginBody s (trl_beginBody v1 s) := fm_bd (fm_sub (fprg_beginSub _ _) (mem_sub_L rfl) (mem_sub_F rfl)) (fun r1 s1 => fm_bd (fm_sub (fscp_numberOf _ _ _) (mem_sub_L rfl) (mem_sub_F rfl)) (fun r2 s2 => fm_bd (fm_sub (fprg_add _ _ _ _) (mem_sub_L rfl) (mem_sub_F rfl)) (fun r3 s3 => fm_gd (fm_if (fm_bd (fm_sub (fprg_add _ _ _ _) (mem_sub_L rfl) (mem_sub_F rfl)) (fun r12 s12 => fm_bd (fm_sub (fprg_add _ _ _ _) (mem_sub_L rfl) (mem_sub_F rfl)) (fun r13 s13 => fm_some md_refl))) (fm_if (fm_bd (fm_sub (fmth_max _ _ _) (mem_sub_L rfl) (mem_sub_F rfl)) (fun r7 s7 => fm_bd (fm_sub (fprg_add _ _ _ _) (mem_sub_L rfl) (mem_sub_F rfl)) (fun r8 s8 => fm_bd (fm_sub (fprg_add _ _ _ _) (mem_sub_L rfl) (mem_sub_F rfl)) (fun r9 s9 => fm_bd (fm_sub (fprg_aim _ _) (mem_sub_L rfl) (mem_sub_F rfl)) (fun r10 s10 => fm_bd (fm_sub (fprg_add _ _ _ _) (mem_sub_L rfl) (mem_sub_F rfl)) (fun r11 s11 => fm_some md_refl)))))) (fm_some md_refl))))))
/-! trlS_LG -/
def L_trlS : List Nat := [15, 16, 17, 18, 19]
def G_trlS : List (Nat × Nat) := [(2, 12), (2, 13), (2, 14), (14, 8), (14, 12), (22, 5), (22, 6), (22, 7)]
/-! trlS_ok -/
def trlS_ok (w : ev_W) (d : Nat) (F : Nat → Int → Int → Int → iS → Option (Int × iS)) : Prop := (∀ (s : iS), Ew hT w d 101 0 [(0, .ref (tb_nK + 22))] [] s (Cv hT) (F 0 0 0 0 s)) ∧ (∀ (s : iS), Ew hT w d 126 0 [(0, .ref (tb_nK + 22))] [] s (Cv hT) (F 1 0 0 0 s)) ∧ (∀ (s : iS), Ew hT w d 129 0 [(0, .ref (tb_nK + 22))] [] s (Cv hT) (F 2 0 0 0 s)) ∧ (∀ (v1 : Int) (s : iS), Ew hT w d 130 0 [(0, .ref (tb_nK + 22)), (1, iv v1)] [] s (Cv hT) (F 3 v1 0 0 s))
/-! trl_beginsStatement -/
def L_trl_beginsStatement : List Nat := []
def G_trl_beginsStatement : List (Nat × Nat) := []
noncomputable def trl_beginsStatement (v0 : Int) (s : iS) : Option (Int × iS) := gd (rg v0) (if v0 = 271 then some (1, s) else if v0 = 273 then some (1, s) else if v0 = 275 then some (1, s) else if v0 = 272 then some (1, s) else if v0 = 276 then some (1, s) else some (0, s))
theorem ttrl_beginsStatement (H : iS → List am_C) (w : ev_W) (d : Nat) (hd : 0 ≤ d) (v0 : Int) (s : iS) : Ew H w d 102 0 [(0, iv v0)] [] s (Ci H) (trl_beginsStatement v0 s) := by
  unfold trl_beginsStatement
  refine e_mv 1 em_102 (ce_at ce_102 0 rfl) rfl rfl ?_
  refine e_sip 4 em_102 (ce_at ce_102 1 rfl) (by decide) rfl ?_
  refine e_gd fun g1 => ?_
  refine e_cmeq 35 7 em_102 rfl rfl (ce_at ce_102 2 rfl) g1 (by decide) (fun h2 => ?_) (fun h2 => ?_)
  · refine e_op 36 em_102 (ce_at ce_102 15 rfl) rfl rfl ?_
    refine e_goto em_102 40 (ce_at ce_102 16 rfl) rfl ?_
    exact e_retz em_102 (ce_at ce_102 18 rfl) (by decide)
  · refine e_mv 8 em_102 (ce_at ce_102 3 rfl) rfl rfl ?_
    refine e_sip 11 em_102 (ce_at ce_102 4 rfl) (by decide) rfl ?_
    refine e_cmeq 35 14 em_102 rfl rfl (ce_at ce_102 5 rfl) g1 (by decide) (fun h3 => ?_) (fun h3 => ?_)
    · refine e_op 36 em_102 (ce_at ce_102 15 rfl) rfl rfl ?_
      refine e_goto em_102 40 (ce_at ce_102 16 rfl) rfl ?_
      exact e_retz em_102 (ce_at ce_102 18 rfl) (by decide)
    · refine e_mv 15 em_102 (ce_at ce_102 6 rfl) rfl rfl ?_
      refine e_sip 18 em_102 (ce_at ce_102 7 rfl) (by decide) rfl ?_
      refine e_cmeq 35 21 em_102 rfl rfl (ce_at ce_102 8 rfl) g1 (by decide) (fun h4 => ?_) (fun h4 => ?_)
      · refine e_op 36 em_102 (ce_at ce_102 15 rfl) rfl rfl ?_
        refine e_goto em_102 40 (ce_at ce_102 16 rfl) rfl ?_
        exact e_retz em_102 (ce_at ce_102 18 rfl) (by decide)
      · refine e_mv 22 em_102 (ce_at ce_102 9 rfl) rfl rfl ?_
        refine e_sip 25 em_102 (ce_at ce_102 10 rfl) (by decide) rfl ?_
        refine e_cmeq 35 28 em_102 rfl rfl (ce_at ce_102 11 rfl) g1 (by decide) (fun h5 => ?_) (fun h5 => ?_)
        · refine e_op 36 em_102 (ce_at ce_102 15 rfl) rfl rfl ?_
          refine e_goto em_102 40 (ce_at ce_102 16 rfl) rfl ?_
          exact e_retz em_102 (ce_at ce_102 18 rfl) (by decide)
        · refine e_mv 29 em_102 (ce_at ce_102 12 rfl) rfl rfl ?_
          refine e_sip 32 em_102 (ce_at ce_102 13 rfl) (by decide) rfl ?_
          refine e_cmne 39 35 em_102 rfl rfl (ce_at ce_102 14 rfl) g1 (by decide) (fun h6 => ?_) (fun h6 => ?_)
          · refine e_op 40 em_102 (ce_at ce_102 17 rfl) rfl rfl ?_
            exact e_retz em_102 (ce_at ce_102 18 rfl) (by decide)
          · refine e_op 36 em_102 (ce_at ce_102 15 rfl) rfl rfl ?_
            refine e_goto em_102 40 (ce_at ce_102 16 rfl) rfl ?_
            exact e_retz em_102 (ce_at ce_102 18 rfl) (by decide)
theorem ftrl_beginsStatement (v0 : Int) (s : iS) : Fm Prod.snd L_trl_beginsStatement G_trl_beginsStatement s (trl_beginsStatement v0 s) := fm_gd (fm_if (fm_some md_refl) (fm_if (fm_some md_refl) (fm_if (fm_some md_refl) (fm_if (fm_some md_refl) (fm_if (fm_some md_refl) (fm_some md_refl))))))
/-! prg_markNext -/
def L_prg_markNext : List Nat := []
def G_prg_markNext : List (Nat × Nat) := [(14, 12)]
noncomputable def prg_markNext (v1 : Int) (s : iS) : Option (Int × iS) := lt' (up s 14 12 v1) (fun s1 => some (0, s1))
theorem tprg_markNext (w : ev_W) (d : Nat) (hd : 0 ≤ d) (v1 : Int) (s : iS) : Ew hT w d 103 0 [(0, .ref (tb_nK + 14)), (1, iv v1)] [] s (Cv hT) (prg_markNext v1 s) := by
  unfold prg_markNext
  refine e_mv 1 em_103 (ce_at ce_103 0 rfl) rfl rfl ?_
  refine e_mv 2 em_103 (ce_at ce_103 1 rfl) rfl rfl ?_
  refine e_put 5 em_103 (ce_at ce_103 2 rfl) tq_14 rfl rfl rfl (fun s1 => ?_)
  exact e_retv em_103 (ce_at ce_103 3 rfl)
theorem fprg_markNext (v1 : Int) (s : iS) : Fm Prod.snd L_prg_markNext G_prg_markNext s (prg_markNext v1 s) := fm_lt (md_upF (mem_F rfl)) (fun s1 => fm_some md_refl)
/-! trl_findVariable -/
def L_trl_findVariable : List Nat := []
def G_trl_findVariable : List (Nat × Nat) := []
noncomputable def trl_findVariable (v1 : Int) (s : iS) : Option (Int × iS) := bd (tok_findIn 33 34 35 48 v1 (s 23 15) 48 s) (fun r1 s1 => gd (rg r1) (if r1 = (-1) then bd (tok_findIn 33 34 35 48 v1 0 (s1 23 15) s1) (fun r4 s4 => some (r4, s4)) else some (r1, s1)))
theorem ttrl_findVariable (w : ev_W) (d : Nat) (hd : 2 ≤ d) (v1 : Int) (s : iS) : Ew hT w d 105 0 [(0, .ref (tb_nK + 22)), (1, iv v1)] [] s (Ci hT) (trl_findVariable v1 s) := by
  unfold trl_findVariable
  refine e_mv 1 em_105 (ce_at ce_105 0 rfl) rfl rfl ?_
  refine e_getr 4 em_105 (ce_at ce_105 1 rfl) tq_22 rfl rfl ?_
  refine e_mv 5 em_105 (ce_at ce_105 2 rfl) rfl rfl ?_
  refine e_getr 8 em_105 (ce_at ce_105 3 rfl) tq_22 rfl rfl ?_
  refine e_getr 11 em_105 (ce_at ce_105 4 rfl) tq_23 rfl rfl ?_
  refine e_mv 12 em_105 (ce_at ce_105 5 rfl) rfl rfl ?_
  refine e_mv 13 em_105 (ce_at ce_105 6 rfl) rfl rfl ?_
  refine e_getr 16 em_105 (ce_at ce_105 7 rfl) tq_22 rfl rfl ?_
  refine e_get 19 em_105 (ce_at ce_105 8 rfl) tq_23 rfl rfl ?_
  refine e_bip 21 em_105 (ce_at ce_105 9 rfl) (by decide) rfl ?_
  refine e_ivi 24 em_105 (ce_at ce_105 10 rfl) (by omega) (iv_v4 (by decide) tq_2 rfl) em_76 (Nat.le_of_ble_eq_true rfl) rfl (ttok_findIn w (d - 1) (by omega) 33 34 35 48 tq_33 tq_34 tq_35 (by decide) _ _ _ _) (fun r1 s1 => ?_)
  refine e_mv 25 em_105 (ce_at ce_105 11 rfl) rfl rfl ?_
  refine e_mv 26 em_105 (ce_at ce_105 12 rfl) rfl rfl ?_
  refine e_op 27 em_105 (ce_at ce_105 13 rfl) rfl rfl ?_
  refine e_gd fun g2 => ?_
  refine e_cmne 56 30 em_105 rfl rfl (ce_at ce_105 14 rfl) g2 (by decide) (fun h3 => ?_) (fun h3 => ?_)
  · refine e_mv 57 em_105 (ce_at ce_105 27 rfl) rfl rfl ?_
    exact e_reti em_105 (ce_at ce_105 28 rfl)
  · refine e_mv 31 em_105 (ce_at ce_105 15 rfl) rfl rfl ?_
    refine e_getr 34 em_105 (ce_at ce_105 16 rfl) tq_22 rfl rfl ?_
    refine e_mv 35 em_105 (ce_at ce_105 17 rfl) rfl rfl ?_
    refine e_getr 38 em_105 (ce_at ce_105 18 rfl) tq_22 rfl rfl ?_
    refine e_getr 41 em_105 (ce_at ce_105 19 rfl) tq_23 rfl rfl ?_
    refine e_mv 42 em_105 (ce_at ce_105 20 rfl) rfl rfl ?_
    refine e_op 43 em_105 (ce_at ce_105 21 rfl) rfl rfl ?_
    refine e_mv 44 em_105 (ce_at ce_105 22 rfl) rfl rfl ?_
    refine e_getr 47 em_105 (ce_at ce_105 23 rfl) tq_22 rfl rfl ?_
    refine e_get 50 em_105 (ce_at ce_105 24 rfl) tq_23 rfl rfl ?_
    refine e_ivi 53 em_105 (ce_at ce_105 25 rfl) (by omega) (iv_v4 (by decide) tq_2 rfl) em_76 (Nat.le_of_ble_eq_true rfl) rfl (ttok_findIn w (d - 1) (by omega) 33 34 35 48 tq_33 tq_34 tq_35 (by decide) _ _ _ _) (fun r4 s4 => ?_)
    refine e_goto em_105 57 (ce_at ce_105 26 rfl) rfl ?_
    exact e_reti em_105 (ce_at ce_105 28 rfl)
theorem ftrl_findVariable (v1 : Int) (s : iS) : Fm Prod.snd L_trl_findVariable G_trl_findVariable s (trl_findVariable v1 s) := fm_bd (fm_sub (ftok_findIn 33 34 35 48 _ _ _ _) (mem_sub_L rfl) (mem_sub_F rfl)) (fun r1 s1 => fm_gd (fm_if (fm_bd (fm_sub (ftok_findIn 33 34 35 48 _ _ _ _) (mem_sub_L rfl) (mem_sub_F rfl)) (fun r4 s4 => fm_some md_refl)) (fm_some md_refl)))
/-! trl_checkVariable -/
def L_trl_checkVariable : List Nat := []
def G_trl_checkVariable : List (Nat × Nat) := [(2, 13), (2, 14)]
noncomputable def trl_checkVariable_24 (v1 : Int) (v2 : Int) (s : iS) : Option (Int × iS) := gd (rg (s 22 4)) (if (s 22 4) = 0 then some (0, s) else gd (rg (s 23 13)) (if (s 23 13) = 258 then gd (0 ≤ v1 ∧ v1 < 48) (gd (rg (s 37 v1.toNat)) (if (s 37 v1.toNat) = 4 then bd (tok_blame 6 v2 s) (fun _ s8 => some (0, s8)) else some (0, s))) else some (0, s)))
theorem ttrl_checkVariable_24 (w : ev_W) (d : Nat) (hd : 1 ≤ d) (v1 : Int) (v2 : Int) (s : iS) : Ew hT w d 106 24 [(0, .ref (tb_nK + 22)), (1, iv v1), (2, iv v2)] [] s (Cv hT) (trl_checkVariable_24 v1 v2 s) := by
  unfold trl_checkVariable_24
  refine e_mv 25 em_106 (ce_at ce_106 12 rfl) rfl rfl ?_
  refine e_get 28 em_106 (ce_at ce_106 13 rfl) tq_22 rfl rfl ?_
  refine e_gd fun g1 => ?_
  refine e_ifeq 67 31 em_106 rfl rfl (ce_at ce_106 14 rfl) g1 (fun h2 => ?_) (fun h2 => ?_)
  · exact e_retv em_106 (ce_at ce_106 32 rfl)
  · refine e_mv 32 em_106 (ce_at ce_106 15 rfl) rfl rfl ?_
    refine e_getr 35 em_106 (ce_at ce_106 16 rfl) tq_22 rfl rfl ?_
    refine e_get 38 em_106 (ce_at ce_106 17 rfl) tq_23 rfl rfl ?_
    refine e_sip 41 em_106 (ce_at ce_106 18 rfl) (by decide) rfl ?_
    refine e_gd fun g3 => ?_
    refine e_cmne 67 44 em_106 rfl rfl (ce_at ce_106 19 rfl) g3 (by decide) (fun h4 => ?_) (fun h4 => ?_)
    · exact e_retv em_106 (ce_at ce_106 32 rfl)
    · refine e_mv 45 em_106 (ce_at ce_106 20 rfl) rfl rfl ?_
      refine e_getr 48 em_106 (ce_at ce_106 21 rfl) tq_22 rfl rfl ?_
      refine e_getr 51 em_106 (ce_at ce_106 22 rfl) tq_23 rfl rfl ?_
      refine e_mv 52 em_106 (ce_at ce_106 23 rfl) rfl rfl ?_
      refine e_gd fun g5 => ?_
      refine e_ild 53 em_106 (ce_at ce_106 24 rfl) tq_37 (by decide) g5 rfl ?_
      refine e_op 54 em_106 (ce_at ce_106 25 rfl) rfl rfl ?_
      refine e_gd fun g6 => ?_
      refine e_cmne 67 57 em_106 rfl rfl (ce_at ce_106 26 rfl) g6 (by decide) (fun h7 => ?_) (fun h7 => ?_)
      · exact e_retv em_106 (ce_at ce_106 32 rfl)
      · refine e_mv 58 em_106 (ce_at ce_106 27 rfl) rfl rfl ?_
        refine e_getr 61 em_106 (ce_at ce_106 28 rfl) tq_22 rfl rfl ?_
        refine e_bip 63 em_106 (ce_at ce_106 29 rfl) (by decide) rfl ?_
        refine e_mv 64 em_106 (ce_at ce_106 30 rfl) rfl rfl ?_
        refine e_ivv 67 em_106 (ce_at ce_106 31 rfl) (by omega) (iv_v2 (by decide) tq_2 rfl) em_77 (Nat.le_of_ble_eq_true rfl) rfl (ttok_blame w (d - 1) (by omega) _ _ _) (fun r8 s8 => ?_)
        exact e_retv em_106 (ce_at ce_106 32 rfl)
theorem ftrl_checkVariable_24 (v1 : Int) (v2 : Int) (s : iS) : Fm Prod.snd L_trl_checkVariable G_trl_checkVariable s (trl_checkVariable_24 v1 v2 s) := fm_gd (fm_if (fm_some md_refl) (fm_gd (fm_if (fm_gd (fm_gd (fm_if (fm_bd (fm_sub (ftok_blame _ _ _) (mem_sub_L rfl) (mem_sub_F rfl)) (fun r8 s8 => fm_some md_refl)) (fm_some md_refl)))) (fm_some md_refl))))
noncomputable def trl_checkVariable (v1 : Int) (v2 : Int) (s : iS) : Option (Int × iS) := gd (rg (s 22 4)) (if (s 22 4) = 0 then trl_checkVariable_24 v1 v2 s else gd (rg v1) (if v1 = (-1) then bd (tok_blame 4 v2 s) (fun _ s5 => some (0, s5)) else trl_checkVariable_24 v1 v2 s))
theorem ttrl_checkVariable (w : ev_W) (d : Nat) (hd : 1 ≤ d) (v1 : Int) (v2 : Int) (s : iS) : Ew hT w d 106 0 [(0, .ref (tb_nK + 22)), (1, iv v1), (2, iv v2)] [] s (Cv hT) (trl_checkVariable v1 v2 s) := by
  unfold trl_checkVariable
  refine e_mv 1 em_106 (ce_at ce_106 0 rfl) rfl rfl ?_
  refine e_get 4 em_106 (ce_at ce_106 1 rfl) tq_22 rfl rfl ?_
  refine e_gd fun g1 => ?_
  refine e_ifeq 24 7 em_106 rfl rfl (ce_at ce_106 2 rfl) g1 (fun h2 => ?_) (fun h2 => ?_)
  · refine e_pk [0, 1, 2] rfl rfl ?_
    exact ttrl_checkVariable_24 w d hd _ _ _
  · refine e_mv 8 em_106 (ce_at ce_106 3 rfl) rfl rfl ?_
    refine e_op 9 em_106 (ce_at ce_106 4 rfl) rfl rfl ?_
    refine e_gd fun g3 => ?_
    refine e_cmne 24 12 em_106 rfl rfl (ce_at ce_106 5 rfl) g3 (by decide) (fun h4 => ?_) (fun h4 => ?_)
    · refine e_pk [0, 1, 2] rfl rfl ?_
      exact ttrl_checkVariable_24 w d hd _ _ _
    · refine e_mv 13 em_106 (ce_at ce_106 6 rfl) rfl rfl ?_
      refine e_getr 16 em_106 (ce_at ce_106 7 rfl) tq_22 rfl rfl ?_
      refine e_op 17 em_106 (ce_at ce_106 8 rfl) rfl rfl ?_
      refine e_mv 18 em_106 (ce_at ce_106 9 rfl) rfl rfl ?_
      refine e_ivv 21 em_106 (ce_at ce_106 10 rfl) (by omega) (iv_v2 (by decide) tq_2 rfl) em_77 (Nat.le_of_ble_eq_true rfl) rfl (ttok_blame w (d - 1) (by omega) _ _ _) (fun r5 s5 => ?_)
      refine e_goto em_106 67 (ce_at ce_106 11 rfl) rfl ?_
      exact e_retv em_106 (ce_at ce_106 32 rfl)
theorem ftrl_checkVariable (v1 : Int) (v2 : Int) (s : iS) : Fm Prod.snd L_trl_checkVariable G_trl_checkVariable s (trl_checkVariable v1 v2 s) := fm_gd (fm_if (ftrl_checkVariable_24 _ _ _) (fm_gd (fm_if (fm_bd (fm_sub (ftok_blame _ _ _) (mem_sub_L rfl) (mem_sub_F rfl)) (fun r5 s5 => fm_some md_refl)) (ftrl_checkVariable_24 _ _ _))))
/-! trlE_LG -/
def L_trlE : List Nat := [15, 16, 17, 18, 19]
def G_trlE : List (Nat × Nat) := [(2, 12), (2, 13), (2, 14), (14, 8), (14, 12), (22, 5), (22, 6)]
/-! trlE_ok -/
def trlE_ok (w : ev_W) (d : Nat) (F : Nat → Int → Int → Int → iS → Option (Int × iS)) : Prop := (∀ (s : iS), Ew hT w d 108 0 [(0, .ref (tb_nK + 22))] [] s (Cv hT) (F 0 0 0 0 s)) ∧ (∀ (s : iS), Ew hT w d 109 0 [(0, .ref (tb_nK + 22))] [] s (Cv hT) (F 1 0 0 0 s)) ∧ (∀ (s : iS), Ew hT w d 110 0 [(0, .ref (tb_nK + 22))] [] s (Cv hT) (F 2 0 0 0 s)) ∧ (∀ (s : iS), Ew hT w d 111 0 [(0, .ref (tb_nK + 22))] [] s (Cv hT) (F 3 0 0 0 s)) ∧ (∀ (s : iS), Ew hT w d 113 0 [(0, .ref (tb_nK + 22))] [] s (Cv hT) (F 4 0 0 0 s)) ∧ (∀ (s : iS), Ew hT w d 115 0 [(0, .ref (tb_nK + 22))] [] s (Ci hT) (F 5 0 0 0 s)) ∧ (∀ (s : iS), Ew hT w d 120 0 [(0, .ref (tb_nK + 22))] [] s (Cv hT) (F 6 0 0 0 s))
/-! trl_readIndex -/
noncomputable def trl_readIndex (F : Nat → Int → Int → Int → iS → Option (Int × iS)) (s : iS) : Option (Int × iS) := bd (trl_openSign 91 s) (fun _ s1 => bd (F 1 0 0 0 s1) (fun _ s2 => bd (tok_expect 93 s2) (fun _ s3 => lt' (up s3 22 5 ((s3 22 5) - 1)) (fun s4 => bd (prg_add 2 0 0 s4) (fun _ s5 => some (0, s5))))))
theorem ttrl_readIndex (w : ev_W) (d : Nat) (hd : 5 ≤ d) (F : Nat → Int → Int → Int → iS → Option (Int × iS)) (hF : trlE_ok w (d - 1) F) (s : iS) : Ew hT w d 108 0 [(0, .ref (tb_nK + 22))] [] s (Cv hT) (trl_readIndex F s) := by
  unfold trl_readIndex
  refine e_mv 1 em_108 (ce_at ce_108 0 rfl) rfl rfl ?_
  refine e_bip 3 em_108 (ce_at ce_108 1 rfl) (by decide) rfl ?_
  refine e_ivv 6 em_108 (ce_at ce_108 2 rfl) (by omega) (iv_v1 (by decide) tq_22 rfl) em_78 (Nat.le_of_ble_eq_true rfl) rfl (ttrl_openSign w (d - 1) (by omega) _ _) (fun r1 s1 => ?_)
  refine e_mv 7 em_108 (ce_at ce_108 3 rfl) rfl rfl ?_
  refine e_ivv 10 em_108 (ce_at ce_108 4 rfl) (by omega) (iv_v0 (by decide) tq_22 rfl) em_109 (Nat.le_of_ble_eq_true rfl) rfl (hF.2.1  _) (fun r2 s2 => ?_)
  refine e_mv 11 em_108 (ce_at ce_108 5 rfl) rfl rfl ?_
  refine e_getr 14 em_108 (ce_at ce_108 6 rfl) tq_22 rfl rfl ?_
  refine e_bip 16 em_108 (ce_at ce_108 7 rfl) (by decide) rfl ?_
  refine e_ivv 19 em_108 (ce_at ce_108 8 rfl) (by omega) (iv_v1 (by decide) tq_2 rfl) em_86 (Nat.le_of_ble_eq_true rfl) rfl (ttok_expect w (d - 1) (by omega) _ _) (fun r3 s3 => ?_)
  refine e_mv 20 em_108 (ce_at ce_108 9 rfl) rfl rfl ?_
  refine e_op 21 em_108 (ce_at ce_108 10 rfl) rfl rfl ?_
  refine e_get 24 em_108 (ce_at ce_108 11 rfl) tq_22 rfl rfl ?_
  refine e_op 25 em_108 (ce_at ce_108 12 rfl) rfl rfl ?_
  refine e_isub 26 em_108 rfl (ce_at ce_108 13 rfl) ?_
  refine e_put 29 em_108 (ce_at ce_108 14 rfl) tq_22 rfl rfl rfl (fun s4 => ?_)
  refine e_mv 30 em_108 (ce_at ce_108 15 rfl) rfl rfl ?_
  refine e_getr 33 em_108 (ce_at ce_108 16 rfl) tq_22 rfl rfl ?_
  refine e_op 34 em_108 (ce_at ce_108 17 rfl) rfl rfl ?_
  refine e_op 35 em_108 (ce_at ce_108 18 rfl) rfl rfl ?_
  refine e_op 36 em_108 (ce_at ce_108 19 rfl) rfl rfl ?_
  refine e_ivv 39 em_108 (ce_at ce_108 20 rfl) (by omega) (iv_v3 (by decide) tq_14 rfl) em_99 (Nat.le_of_ble_eq_true rfl) rfl (tprg_add w (d - 1) (by omega) _ _ _ _) (fun r5 s5 => ?_)
  exact e_retv em_108 (ce_at ce_108 21 rfl)
theorem ftrl_readIndex (F : Nat → Int → Int → Int → iS → Option (Int × iS)) (hF : ∀ (t : Nat) (a b c : Int) (s : iS), Fm Prod.snd L_trlE G_trlE s (F t a b c s)) (s : iS) : Fm Prod.snd L_trlE G_trlE s (trl_readIndex F s) := fm_bd (fm_sub (ftrl_openSign _ _) (mem_sub_L rfl) (mem_sub_F rfl)) (fun r1 s1 => fm_bd (hF 1 _ _ _ _) (fun r2 s2 => fm_bd (fm_sub (ftok_expect _ _) (mem_sub_L rfl) (mem_sub_F rfl)) (fun r3 s3 => fm_lt (md_upF (mem_F rfl)) (fun s4 => fm_bd (fm_sub (fprg_add _ _ _ _) (mem_sub_L rfl) (mem_sub_F rfl)) (fun r5 s5 => fm_some md_refl)))))
/-! str_isLatin1_v2 -/
def L_str_isLatin1_v2 : List Nat := []
def G_str_isLatin1_v2 : List (Nat × Nat) := []
noncomputable def str_isLatin1_v2 (s : iS) : Option (Int × iS) := some (1, s)
theorem tstr_isLatin1_v2 (H : iS → List am_C) (w : ev_W) (d : Nat) (hd : 0 ≤ d) (s : iS) : Ew H w d 7 0 [(0, .ref 38)] [] s (Ci H) (str_isLatin1_v2 s) := by
  unfold str_isLatin1_v2
  refine e_gst 3 em_7 (ce_at ce_7 0 rfl) rfl rfl ?_
  refine e_jF 6 em_7 (ce_at ce_7 1 rfl) rfl (by rfl) rfl ?_
  refine e_mv 7 em_7 (ce_at ce_7 2 rfl) rfl rfl ?_
  refine e_getk 10 em_7 (ce_at ce_7 3 rfl) (by decide) rfl rfl rfl ?_
  refine e_jF 13 em_7 (ce_at ce_7 4 rfl) rfl (by rfl) rfl ?_
  refine e_op 14 em_7 (ce_at ce_7 5 rfl) rfl rfl ?_
  refine e_goto em_7 18 (ce_at ce_7 6 rfl) rfl ?_
  exact e_retz em_7 (ce_at ce_7 8 rfl) (by decide)
theorem fstr_isLatin1_v2 (s : iS) : Fm Prod.snd L_str_isLatin1_v2 G_str_isLatin1_v2 s (str_isLatin1_v2 s) := fm_some md_refl
/-! str_coder_v2 -/
def L_str_coder_v2 : List Nat := []
def G_str_coder_v2 : List (Nat × Nat) := []
noncomputable def str_coder_v2 (s : iS) : Option (Int × iS) := some (0, s)
theorem tstr_coder_v2 (H : iS → List am_C) (w : ev_W) (d : Nat) (hd : 0 ≤ d) (s : iS) : Ew H w d 5 0 [(0, .ref 38)] [] s (Ci H) (str_coder_v2 s) := by
  unfold str_coder_v2
  refine e_gst 3 em_5 (ce_at ce_5 0 rfl) rfl rfl ?_
  refine e_jF 6 em_5 (ce_at ce_5 1 rfl) rfl (by rfl) rfl ?_
  refine e_mv 7 em_5 (ce_at ce_5 2 rfl) rfl rfl ?_
  refine e_getk 10 em_5 (ce_at ce_5 3 rfl) (by decide) rfl rfl rfl ?_
  refine e_goto em_5 14 (ce_at ce_5 4 rfl) rfl ?_
  exact e_retb em_5 (ce_at ce_5 6 rfl) (by decide)
theorem fstr_coder_v2 (s : iS) : Fm Prod.snd L_str_coder_v2 G_str_coder_v2 s (str_coder_v2 s) := fm_some md_refl
/-! str_length_v2 -/
def L_str_length_v2 : List Nat := []
def G_str_length_v2 : List (Nat × Nat) := []
noncomputable def str_length_v2 (s : iS) : Option (Int × iS) := some ((i_shr 9 0), s)
theorem tstr_length_v2 (H : iS → List am_C) (w : ev_W) (d : Nat) (hd : 1 ≤ d) (s : iS) : Ew H w d 4 0 [(0, .ref 38)] [] s (Ci H) (str_length_v2 s) := by
  unfold str_length_v2
  refine e_mv 1 em_4 (ce_at ce_4 0 rfl) rfl rfl ?_
  refine e_getk 4 em_4 (ce_at ce_4 1 rfl) (by decide) rfl rfl rfl ?_
  refine e_alenk 5 em_4 (ce_at ce_4 2 rfl) (by decide) (kt_64 _ _) (by decide) rfl rfl ?_
  refine e_mv 6 em_4 (ce_at ce_4 3 rfl) rfl rfl ?_
  refine e_ivc 9 em_4 (ce_at ce_4 4 rfl) (by omega) (iv_k0 (by decide) rfl rfl) em_5 (Nat.le_of_ble_eq_true rfl) rfl (tstr_coder_v2 H w (d - 1) (by omega) _) (x := 0) rfl ?_
  refine e_ishr 10 em_4 rfl (ce_at ce_4 5 rfl) ?_
  exact e_reti em_4 (ce_at ce_4 6 rfl)
theorem fstr_length_v2 (s : iS) : Fm Prod.snd L_str_length_v2 G_str_length_v2 s (str_length_v2 s) := fm_some md_refl
/-! sl1_indexOfChar_v2 -/
def L_sl1_indexOfChar_v2 : List Nat := []
def G_sl1_indexOfChar_v2 : List (Nat × Nat) := []
def sl1_indexOfChar_v2_7C (H : iS → List am_C) (w : ev_W) (d : Nat) (v3 : Int) (v4 : Int) : (Int × iS) ⊕ ((Int × iS) ⊕ (iS)) → am_E → Prop := fun q r => q.elim (fun l => ev w d 52 7 ((fun l => [(0, .ref 64), (3, iv v3), (4, iv v4), (5, iv (l.1))]) l) [] (H ((fun l => l.2) l)) r) (fun e => (fun e r => e.elim (fun e => ev w d 52 22 [(5, iv (e.1))] [] (H (e.2)) r) (fun e => ev w d 52 31 [] [] (H (e)) r)) e r)
noncomputable def sl1_indexOfChar_v2_7b (v3 : Int) (v4 : Int) (v5 : Int) (s : iS) : Option ((Int × iS) ⊕ ((Int × iS) ⊕ (iS))) := gd (rg v5) (gd (rg v3) (if v3 ≤ v5 then some (.inr (.inr s)) else gd (0 ≤ v5 ∧ v5 < 9) (gd (rg ((ka_64 v5.toNat).toInt)) (gd (rg v4) (if (ka_64 v5.toNat).toInt = v4 then some (.inr (.inl (v5, s))) else some (.inl ((v5 + 1), s)))))))
theorem tsl1_indexOfChar_v2_7b (H : iS → List am_C) (w : ev_W) (d : Nat) (hd : 0 ≤ d) (v3 : Int) (v4 : Int) (v5 : Int) (s : iS) : Ew H w d 52 7 [(0, .ref 64), (3, iv v3), (4, iv v4), (5, iv v5)] [] s (sl1_indexOfChar_v2_7C H w d v3 v4) (sl1_indexOfChar_v2_7b v3 v4 v5 s) := by
  unfold sl1_indexOfChar_v2_7b
  refine e_mv 9 em_52 (ce_at ce_52 5 rfl) rfl rfl ?_
  refine e_mv 10 em_52 (ce_at ce_52 6 rfl) rfl rfl ?_
  refine e_gd fun g1 => ?_
  refine e_gd fun g2 => ?_
  refine e_cmge 31 13 em_52 rfl rfl (ce_at ce_52 7 rfl) g1 g2 (fun h3 => ?_) (fun h3 => ?_)
  · refine e_pk [] rfl rfl ?_
    exact e_out (fun r h => h)
  · refine e_mv 14 em_52 (ce_at ce_52 8 rfl) rfl rfl ?_
    refine e_mv 16 em_52 (ce_at ce_52 9 rfl) rfl rfl ?_
    refine e_gd fun g4 => ?_
    refine e_bldk 17 em_52 (ce_at ce_52 10 rfl) (by decide) (kt_64 _ _) (by decide) g4 rfl ?_
    refine e_mv 19 em_52 (ce_at ce_52 11 rfl) rfl rfl ?_
    refine e_gd fun g5 => ?_
    refine e_gd fun g6 => ?_
    refine e_cmne 25 22 em_52 rfl rfl (ce_at ce_52 12 rfl) g5 g6 (fun h7 => ?_) (fun h7 => ?_)
    · refine e_iinc 28 em_52 (ce_at ce_52 15 rfl) rfl (by decide) rfl ?_
      refine e_goto em_52 7 (ce_at ce_52 16 rfl) rfl ?_
      refine e_pk [0, 3, 4, 5] rfl rfl ?_
      exact e_out (fun r h => h)
    · refine e_pk [5] rfl rfl ?_
      exact e_out (fun r h => h)
theorem fsl1_indexOfChar_v2_7b (v3 : Int) (v4 : Int) (v5 : Int) (s : iS) : Fm (fun r : (Int × iS) ⊕ ((Int × iS) ⊕ (iS)) => r.elim (fun l => l.2) (fun e => e.elim (fun e => e.2) (fun e => e))) L_sl1_indexOfChar_v2 G_sl1_indexOfChar_v2 s (sl1_indexOfChar_v2_7b v3 v4 v5 s) := fm_gd (fm_gd (fm_if (fm_some md_refl) (fm_gd (fm_gd (fm_gd (fm_if (fm_some md_refl) (fm_some md_refl)))))))
noncomputable def sl1_indexOfChar_v2_7 (v3 : Int) (v4 : Int) (v5 : Int) (s : iS) : Option (Int × iS) := (lp (L := Int × iS) (E := (Int × iS) ⊕ (iS)) (fun l => sl1_indexOfChar_v2_7b v3 v4 (l.1) (l.2)) (v5, s)).bind (fun e => e.elim (fun e => some (e.1, e.2)) (fun e => some ((-1), e)))
theorem tsl1_indexOfChar_v2_7 (H : iS → List am_C) (w : ev_W) (d : Nat) (hd : 0 ≤ d) (v3 : Int) (v4 : Int) (v5 : Int) (s : iS) : Ew H w d 52 7 [(0, .ref 64), (3, iv v3), (4, iv v4), (5, iv v5)] [] s (Ci H) (sl1_indexOfChar_v2_7 v3 v4 v5 s) := by
  unfold sl1_indexOfChar_v2_7
  refine e_lp (L := Int × iS) (E := (Int × iS) ⊕ (iS)) (LO := fun l => [(0, .ref 64), (3, iv v3), (4, iv v4), (5, iv (l.1))]) (LS := fun l => l.2) (CE := fun e r => e.elim (fun e => ev w d 52 22 [(5, iv (e.1))] [] (H (e.2)) r) (fun e => ev w d 52 31 [] [] (H (e)) r)) (fun l => tsl1_indexOfChar_v2_7b H w d hd _ _ _ _) ?_ (v5, s)
  rintro (e | e)
  · show Ew H w d 52 22 [(5, iv (e.1))] [] e.2 (Ci H) _
    refine e_mv 24 em_52 (ce_at ce_52 13 rfl) rfl rfl ?_
    exact e_reti em_52 (ce_at ce_52 14 rfl)
  · show Ew H w d 52 31 [] [] e (Ci H) _
    refine e_op 32 em_52 (ce_at ce_52 17 rfl) rfl rfl ?_
    exact e_reti em_52 (ce_at ce_52 18 rfl)
theorem fsl1_indexOfChar_v2_7 (v3 : Int) (v4 : Int) (v5 : Int) (s : iS) : Fm Prod.snd L_sl1_indexOfChar_v2 G_sl1_indexOfChar_v2 s (sl1_indexOfChar_v2_7 v3 v4 v5 s) := by
  unfold sl1_indexOfChar_v2_7
  refine fm_lp (A := Int × iS) (E := (Int × iS) ⊕ (iS)) (LS := fun l => l.2) (LE := fun e => e.elim (fun e => e.2) (fun e => e)) ?_ ?_ (v5, s)
  · exact fun l => fsl1_indexOfChar_v2_7b _ _ _ _
  · exact (by rintro (e | e); exact fm_some md_refl; exact fm_some md_refl)
noncomputable def sl1_indexOfChar_v2 (v1 : Int) (v2 : Int) (v3 : Int) (s : iS) : Option (Int × iS) := sl1_indexOfChar_v2_7 v3 (i_b v1) v2 s
theorem tsl1_indexOfChar_v2 (H : iS → List am_C) (w : ev_W) (d : Nat) (hd : 0 ≤ d) (v1 : Int) (v2 : Int) (v3 : Int) (s : iS) : Ew H w d 52 0 [(0, .ref 64), (1, iv v1), (2, iv v2), (3, iv v3)] [] s (Ci H) (sl1_indexOfChar_v2 v1 v2 v3 s) := by
  unfold sl1_indexOfChar_v2
  refine e_mv 1 em_52 (ce_at ce_52 0 rfl) rfl rfl ?_
  refine e_i2b 2 em_52 rfl (ce_at ce_52 1 rfl) ?_
  refine e_mv 4 em_52 (ce_at ce_52 2 rfl) rfl rfl ?_
  refine e_mv 5 em_52 (ce_at ce_52 3 rfl) rfl rfl ?_
  refine e_mv 7 em_52 (ce_at ce_52 4 rfl) rfl rfl ?_
  refine e_pk [0, 3, 4, 5] rfl rfl ?_
  exact tsl1_indexOfChar_v2_7 H w d hd _ _ _ _
theorem fsl1_indexOfChar_v2 (v1 : Int) (v2 : Int) (v3 : Int) (s : iS) : Fm Prod.snd L_sl1_indexOfChar_v2 G_sl1_indexOfChar_v2 s (sl1_indexOfChar_v2 v1 v2 v3 s) := fsl1_indexOfChar_v2_7 _ _ _ _
/-! sl1_indexOf_v2 -/
def L_sl1_indexOf_v2 : List Nat := []
def G_sl1_indexOf_v2 : List (Nat × Nat) := []
noncomputable def sl1_indexOf_v2 (v1 : Int) (v2 : Int) (v3 : Int) (s : iS) : Option (Int × iS) := bd (sl1_canEncode v1 s) (fun r1 s1 => gd (rg r1) (if r1 = 0 then some ((-1), s1) else bd (mth_max v2 0 s1) (fun r4 s4 => bd (mth_min v3 9 s4) (fun r5 s5 => gd (rg r4) (gd (rg r5) (if r4 < r5 then bd (sl1_indexOfChar_v2 v1 r4 r5 s5) (fun r9 s9 => some (r9, s9)) else some ((-1), s5)))))))
theorem tsl1_indexOf_v2 (H : iS → List am_C) (w : ev_W) (d : Nat) (hd : 1 ≤ d) (v1 : Int) (v2 : Int) (v3 : Int) (s : iS) : Ew H w d 50 0 [(0, .ref 64), (1, iv v1), (2, iv v2), (3, iv v3)] [] s (Ci H) (sl1_indexOf_v2 v1 v2 v3 s) := by
  unfold sl1_indexOf_v2
  refine e_mv 1 em_50 (ce_at ce_50 0 rfl) rfl rfl ?_
  refine e_ivi 4 em_50 (ce_at ce_50 1 rfl) (by omega) (iv_s1 rfl) em_51 (Nat.le_of_ble_eq_true rfl) rfl (tsl1_canEncode H w (d - 1) (by omega) _ _) (fun r1 s1 => ?_)
  refine e_gd fun g2 => ?_
  refine e_ifne 9 7 em_50 rfl rfl (ce_at ce_50 2 rfl) g2 (fun h3 => ?_) (fun h3 => ?_)
  · refine e_mv 10 em_50 (ce_at ce_50 5 rfl) rfl rfl ?_
    refine e_op 11 em_50 (ce_at ce_50 6 rfl) rfl rfl ?_
    refine e_ivi 14 em_50 (ce_at ce_50 7 rfl) (by omega) (iv_s2 rfl) em_45 (Nat.le_of_ble_eq_true rfl) rfl (tmth_max H w (d - 1) (by omega) _ _ _) (fun r4 s4 => ?_)
    refine e_mv 15 em_50 (ce_at ce_50 8 rfl) rfl rfl ?_
    refine e_mv 16 em_50 (ce_at ce_50 9 rfl) rfl rfl ?_
    refine e_mv 17 em_50 (ce_at ce_50 10 rfl) rfl rfl ?_
    refine e_alenk 18 em_50 (ce_at ce_50 11 rfl) (by decide) (kt_64 _ _) (by decide) rfl rfl ?_
    refine e_ivi 21 em_50 (ce_at ce_50 12 rfl) (by omega) (iv_s2 rfl) em_21 (Nat.le_of_ble_eq_true rfl) rfl (tmth_min H w (d - 1) (by omega) _ _ _) (fun r5 s5 => ?_)
    refine e_mv 22 em_50 (ce_at ce_50 13 rfl) rfl rfl ?_
    refine e_mv 23 em_50 (ce_at ce_50 14 rfl) rfl rfl ?_
    refine e_mv 24 em_50 (ce_at ce_50 15 rfl) rfl rfl ?_
    refine e_gd fun g6 => ?_
    refine e_gd fun g7 => ?_
    refine e_cmlt 29 27 em_50 rfl rfl (ce_at ce_50 16 rfl) g6 g7 (fun h8 => ?_) (fun h8 => ?_)
    · refine e_mv 30 em_50 (ce_at ce_50 19 rfl) rfl rfl ?_
      refine e_mv 31 em_50 (ce_at ce_50 20 rfl) rfl rfl ?_
      refine e_mv 32 em_50 (ce_at ce_50 21 rfl) rfl rfl ?_
      refine e_mv 33 em_50 (ce_at ce_50 22 rfl) rfl rfl ?_
      refine e_ivi 36 em_50 (ce_at ce_50 23 rfl) (by omega) (iv_s4 rfl) em_52 (Nat.le_of_ble_eq_true rfl) rfl (tsl1_indexOfChar_v2 H w (d - 1) (by omega) _ _ _ _) (fun r9 s9 => ?_)
      exact e_reti em_50 (ce_at ce_50 24 rfl)
    · refine e_op 28 em_50 (ce_at ce_50 17 rfl) rfl rfl ?_
      exact e_reti em_50 (ce_at ce_50 18 rfl)
  · refine e_op 8 em_50 (ce_at ce_50 3 rfl) rfl rfl ?_
    exact e_reti em_50 (ce_at ce_50 4 rfl)
theorem fsl1_indexOf_v2 (v1 : Int) (v2 : Int) (v3 : Int) (s : iS) : Fm Prod.snd L_sl1_indexOf_v2 G_sl1_indexOf_v2 s (sl1_indexOf_v2 v1 v2 v3 s) := fm_bd (fm_sub (fsl1_canEncode _ _) (mem_sub_L rfl) (mem_sub_F rfl)) (fun r1 s1 => fm_gd (fm_if (fm_some md_refl) (fm_bd (fm_sub (fmth_max _ _ _) (mem_sub_L rfl) (mem_sub_F rfl)) (fun r4 s4 => fm_bd (fm_sub (fmth_min _ _ _) (mem_sub_L rfl) (mem_sub_F rfl)) (fun r5 s5 => fm_gd (fm_gd (fm_if (fm_bd (fm_sub (fsl1_indexOfChar_v2 _ _ _ _) (mem_sub_L rfl) (mem_sub_F rfl)) (fun r9 s9 => fm_some md_refl)) (fm_some md_refl))))))))
/-! str_indexOf_49_v2 -/
def L_str_indexOf_49_v2 : List Nat := []
def G_str_indexOf_49_v2 : List (Nat × Nat) := []
noncomputable def str_indexOf_49_v2 (v1 : Int) (v2 : Int) (s : iS) : Option (Int × iS) := bd (str_length_v2 s) (fun r2 s2 => bd (sl1_indexOf_v2 v1 v2 r2 s2) (fun r3 s3 => some (r3, s3)))
theorem tstr_indexOf_49_v2 (H : iS → List am_C) (w : ev_W) (d : Nat) (hd : 2 ≤ d) (v1 : Int) (v2 : Int) (s : iS) : Ew H w d 49 0 [(0, .ref 38), (1, iv v1), (2, iv v2)] [] s (Ci H) (str_indexOf_49_v2 v1 v2 s) := by
  unfold str_indexOf_49_v2
  refine e_mv 1 em_49 (ce_at ce_49 0 rfl) rfl rfl ?_
  refine e_ivc 4 em_49 (ce_at ce_49 1 rfl) (by omega) (iv_k0 (by decide) rfl rfl) em_7 (Nat.le_of_ble_eq_true rfl) rfl (tstr_isLatin1_v2 H w (d - 1) (by omega) _) (x := 1) rfl ?_
  refine e_jF 7 em_49 (ce_at ce_49 2 rfl) rfl (by rfl) rfl ?_
  refine e_mv 8 em_49 (ce_at ce_49 3 rfl) rfl rfl ?_
  refine e_getk 11 em_49 (ce_at ce_49 4 rfl) (by decide) rfl rfl rfl ?_
  refine e_mv 12 em_49 (ce_at ce_49 5 rfl) rfl rfl ?_
  refine e_mv 13 em_49 (ce_at ce_49 6 rfl) rfl rfl ?_
  refine e_mv 14 em_49 (ce_at ce_49 7 rfl) rfl rfl ?_
  refine e_ivi 17 em_49 (ce_at ce_49 8 rfl) (by omega) (iv_k0 (by decide) rfl rfl) em_4 (Nat.le_of_ble_eq_true rfl) rfl (tstr_length_v2 H w (d - 1) (by omega) _) (fun r2 s2 => ?_)
  refine e_ivi 20 em_49 (ce_at ce_49 9 rfl) (by omega) (iv_s4 rfl) em_50 (Nat.le_of_ble_eq_true rfl) rfl (tsl1_indexOf_v2 H w (d - 1) (by omega) _ _ _ _) (fun r3 s3 => ?_)
  refine e_goto em_49 36 (ce_at ce_49 10 rfl) rfl ?_
  exact e_reti em_49 (ce_at ce_49 18 rfl)
theorem fstr_indexOf_49_v2 (v1 : Int) (v2 : Int) (s : iS) : Fm Prod.snd L_str_indexOf_49_v2 G_str_indexOf_49_v2 s (str_indexOf_49_v2 v1 v2 s) := fm_bd (fm_sub (fstr_length_v2 _) (mem_sub_L rfl) (mem_sub_F rfl)) (fun r2 s2 => fm_bd (fm_sub (fsl1_indexOf_v2 _ _ _ _) (mem_sub_L rfl) (mem_sub_F rfl)) (fun r3 s3 => fm_some md_refl))
/-! str_indexOf_v2 -/
def L_str_indexOf_v2 : List Nat := []
def G_str_indexOf_v2 : List (Nat × Nat) := []
noncomputable def str_indexOf_v2 (v1 : Int) (s : iS) : Option (Int × iS) := bd (str_indexOf_49_v2 v1 0 s) (fun r1 s1 => some (r1, s1))
theorem tstr_indexOf_v2 (H : iS → List am_C) (w : ev_W) (d : Nat) (hd : 3 ≤ d) (v1 : Int) (s : iS) : Ew H w d 48 0 [(0, .ref 38), (1, iv v1)] [] s (Ci H) (str_indexOf_v2 v1 s) := by
  unfold str_indexOf_v2
  refine e_mv 1 em_48 (ce_at ce_48 0 rfl) rfl rfl ?_
  refine e_mv 2 em_48 (ce_at ce_48 1 rfl) rfl rfl ?_
  refine e_op 3 em_48 (ce_at ce_48 2 rfl) rfl rfl ?_
  refine e_ivi 6 em_48 (ce_at ce_48 3 rfl) (by omega) (iv_k2 (by decide) rfl rfl) em_49 (Nat.le_of_ble_eq_true rfl) rfl (tstr_indexOf_49_v2 H w (d - 1) (by omega) _ _ _) (fun r1 s1 => ?_)
  exact e_reti em_48 (ce_at ce_48 4 rfl)
theorem fstr_indexOf_v2 (v1 : Int) (s : iS) : Fm Prod.snd L_str_indexOf_v2 G_str_indexOf_v2 s (str_indexOf_v2 v1 s) := fm_bd (fm_sub (fstr_indexOf_49_v2 _ _ _) (mem_sub_L rfl) (mem_sub_F rfl)) (fun r1 s1 => fm_some md_refl)
/-! trl_isOperator -/
def L_trl_isOperator : List Nat := []
def G_trl_isOperator : List (Nat × Nat) := []
noncomputable def trl_isOperator (v0 : Int) (s : iS) : Option (Int × iS) := bd (str_indexOf_v2 (i_c v0) s) (fun r1 s1 => gd (rg r1) (if r1 < 0 then some (0, s1) else some (1, s1)))
theorem ttrl_isOperator (H : iS → List am_C) (w : ev_W) (d : Nat) (hd : 4 ≤ d) (v0 : Int) (s : iS) : Ew H w d 124 0 [(0, iv v0)] [] s (Ci H) (trl_isOperator v0 s) := by
  unfold trl_isOperator
  refine e_ldcsw 3 em_124 (ce_at ce_124 0 rfl) rfl rfl ?_
  refine e_mv 4 em_124 (ce_at ce_124 1 rfl) rfl rfl ?_
  refine e_i2c 5 em_124 rfl (ce_at ce_124 2 rfl) ?_
  refine e_ivi 8 em_124 (ce_at ce_124 3 rfl) (by omega) (iv_k1 (by decide) rfl rfl) em_48 (Nat.le_of_ble_eq_true rfl) rfl (tstr_indexOf_v2 H w (d - 1) (by omega) _ _) (fun r1 s1 => ?_)
  refine e_gd fun g2 => ?_
  refine e_iflt 15 11 em_124 rfl rfl (ce_at ce_124 4 rfl) g2 (fun h3 => ?_) (fun h3 => ?_)
  · refine e_op 16 em_124 (ce_at ce_124 7 rfl) rfl rfl ?_
    exact e_retz em_124 (ce_at ce_124 8 rfl) (by decide)
  · refine e_op 12 em_124 (ce_at ce_124 5 rfl) rfl rfl ?_
    refine e_goto em_124 16 (ce_at ce_124 6 rfl) rfl ?_
    exact e_retz em_124 (ce_at ce_124 8 rfl) (by decide)
theorem ftrl_isOperator (v0 : Int) (s : iS) : Fm Prod.snd L_trl_isOperator G_trl_isOperator s (trl_isOperator v0 s) := fm_bd (fm_sub (fstr_indexOf_v2 _ _) (mem_sub_L rfl) (mem_sub_F rfl)) (fun r1 s1 => fm_gd (fm_if (fm_some md_refl) (fm_some md_refl)))
/-! trl_addOperator -/
def L_trl_addOperator : List Nat := [15, 16, 17, 18, 19]
def G_trl_addOperator : List (Nat × Nat) := [(14, 8), (14, 12)]
noncomputable def trl_addOperator (v1 : Int) (s : iS) : Option (Int × iS) := gd (rg v1) (if v1 = 38 then bd (prg_add 5 0 0 s) (fun _ s3 => some (0, s3)) else if v1 = 42 then bd (prg_add 15 3 2 s) (fun _ s5 => bd (prg_aim 3 s5) (fun _ s6 => some (0, s6))) else if v1 = 43 then bd (prg_add 2 0 0 s) (fun _ s8 => some (0, s8)) else if v1 = 45 then bd (prg_add 3 0 0 s) (fun _ s10 => some (0, s10)) else if v1 = 47 then bd (prg_add 15 4 2 s) (fun _ s12 => bd (prg_aim 4 s12) (fun _ s13 => some (0, s13))) else if v1 = 60 then bd (prg_add 9 0 0 s) (fun _ s15 => some (0, s15)) else if v1 = 62 then bd (prg_add 10 0 0 s) (fun _ s17 => some (0, s17)) else if v1 = 124 then bd (prg_add 6 0 0 s) (fun _ s19 => some (0, s19)) else bd (prg_add 8 0 0 s) (fun _ s20 => some (0, s20)))
theorem ttrl_addOperator (w : ev_W) (d : Nat) (hd : 1 ≤ d) (v1 : Int) (s : iS) : Ew hT w d 125 0 [(0, .ref (tb_nK + 22)), (1, iv v1)] [] s (Cv hT) (trl_addOperator v1 s) := by
  unfold trl_addOperator
  refine e_mv 1 em_125 (ce_at ce_125 0 rfl) rfl rfl ?_
  refine e_gd fun g1 => ?_
  refine e_case 38 (fun h2 => ?_) (fun h2 => ?_)
  · refine e_sw em_125 146 (ce_at ce_125 1 rfl) (sw_lk g1 rfl (by subst h2; rfl)) rfl ?_
    refine e_mv 147 em_125 (ce_at ce_125 38 rfl) rfl rfl ?_
    refine e_getr 150 em_125 (ce_at ce_125 39 rfl) tq_22 rfl rfl ?_
    refine e_op 151 em_125 (ce_at ce_125 40 rfl) rfl rfl ?_
    refine e_op 152 em_125 (ce_at ce_125 41 rfl) rfl rfl ?_
    refine e_op 153 em_125 (ce_at ce_125 42 rfl) rfl rfl ?_
    refine e_ivv 156 em_125 (ce_at ce_125 43 rfl) (by omega) (iv_v3 (by decide) tq_14 rfl) em_99 (Nat.le_of_ble_eq_true rfl) rfl (tprg_add w (d - 1) (by omega) _ _ _ _) (fun r3 s3 => ?_)
    refine e_goto em_125 212 (ce_at ce_125 44 rfl) rfl ?_
    exact e_retv em_125 (ce_at ce_125 72 rfl)
  refine e_case 42 (fun h4 => ?_) (fun h4 => ?_)
  · refine e_sw em_125 76 (ce_at ce_125 1 rfl) (sw_lk g1 rfl (by subst h4; rfl)) rfl ?_
    refine e_mv 77 em_125 (ce_at ce_125 2 rfl) rfl rfl ?_
    refine e_getr 80 em_125 (ce_at ce_125 3 rfl) tq_22 rfl rfl ?_
    refine e_bip 82 em_125 (ce_at ce_125 4 rfl) (by decide) rfl ?_
    refine e_op 83 em_125 (ce_at ce_125 5 rfl) rfl rfl ?_
    refine e_op 84 em_125 (ce_at ce_125 6 rfl) rfl rfl ?_
    refine e_ivv 87 em_125 (ce_at ce_125 7 rfl) (by omega) (iv_v3 (by decide) tq_14 rfl) em_99 (Nat.le_of_ble_eq_true rfl) rfl (tprg_add w (d - 1) (by omega) _ _ _ _) (fun r5 s5 => ?_)
    refine e_mv 88 em_125 (ce_at ce_125 8 rfl) rfl rfl ?_
    refine e_getr 91 em_125 (ce_at ce_125 9 rfl) tq_22 rfl rfl ?_
    refine e_op 92 em_125 (ce_at ce_125 10 rfl) rfl rfl ?_
    refine e_ivv 95 em_125 (ce_at ce_125 11 rfl) (by omega) (iv_v1 (by decide) tq_14 rfl) em_100 (Nat.le_of_ble_eq_true rfl) rfl (tprg_aim w (d - 1) (by omega) _ _) (fun r6 s6 => ?_)
    refine e_goto em_125 212 (ce_at ce_125 12 rfl) rfl ?_
    exact e_retv em_125 (ce_at ce_125 72 rfl)
  refine e_case 43 (fun h7 => ?_) (fun h7 => ?_)
  · refine e_sw em_125 120 (ce_at ce_125 1 rfl) (sw_lk g1 rfl (by subst h7; rfl)) rfl ?_
    refine e_mv 121 em_125 (ce_at ce_125 24 rfl) rfl rfl ?_
    refine e_getr 124 em_125 (ce_at ce_125 25 rfl) tq_22 rfl rfl ?_
    refine e_op 125 em_125 (ce_at ce_125 26 rfl) rfl rfl ?_
    refine e_op 126 em_125 (ce_at ce_125 27 rfl) rfl rfl ?_
    refine e_op 127 em_125 (ce_at ce_125 28 rfl) rfl rfl ?_
    refine e_ivv 130 em_125 (ce_at ce_125 29 rfl) (by omega) (iv_v3 (by decide) tq_14 rfl) em_99 (Nat.le_of_ble_eq_true rfl) rfl (tprg_add w (d - 1) (by omega) _ _ _ _) (fun r8 s8 => ?_)
    refine e_goto em_125 212 (ce_at ce_125 30 rfl) rfl ?_
    exact e_retv em_125 (ce_at ce_125 72 rfl)
  refine e_case 45 (fun h9 => ?_) (fun h9 => ?_)
  · refine e_sw em_125 133 (ce_at ce_125 1 rfl) (sw_lk g1 rfl (by subst h9; rfl)) rfl ?_
    refine e_mv 134 em_125 (ce_at ce_125 31 rfl) rfl rfl ?_
    refine e_getr 137 em_125 (ce_at ce_125 32 rfl) tq_22 rfl rfl ?_
    refine e_op 138 em_125 (ce_at ce_125 33 rfl) rfl rfl ?_
    refine e_op 139 em_125 (ce_at ce_125 34 rfl) rfl rfl ?_
    refine e_op 140 em_125 (ce_at ce_125 35 rfl) rfl rfl ?_
    refine e_ivv 143 em_125 (ce_at ce_125 36 rfl) (by omega) (iv_v3 (by decide) tq_14 rfl) em_99 (Nat.le_of_ble_eq_true rfl) rfl (tprg_add w (d - 1) (by omega) _ _ _ _) (fun r10 s10 => ?_)
    refine e_goto em_125 212 (ce_at ce_125 37 rfl) rfl ?_
    exact e_retv em_125 (ce_at ce_125 72 rfl)
  refine e_case 47 (fun h11 => ?_) (fun h11 => ?_)
  · refine e_sw em_125 98 (ce_at ce_125 1 rfl) (sw_lk g1 rfl (by subst h11; rfl)) rfl ?_
    refine e_mv 99 em_125 (ce_at ce_125 13 rfl) rfl rfl ?_
    refine e_getr 102 em_125 (ce_at ce_125 14 rfl) tq_22 rfl rfl ?_
    refine e_bip 104 em_125 (ce_at ce_125 15 rfl) (by decide) rfl ?_
    refine e_op 105 em_125 (ce_at ce_125 16 rfl) rfl rfl ?_
    refine e_op 106 em_125 (ce_at ce_125 17 rfl) rfl rfl ?_
    refine e_ivv 109 em_125 (ce_at ce_125 18 rfl) (by omega) (iv_v3 (by decide) tq_14 rfl) em_99 (Nat.le_of_ble_eq_true rfl) rfl (tprg_add w (d - 1) (by omega) _ _ _ _) (fun r12 s12 => ?_)
    refine e_mv 110 em_125 (ce_at ce_125 19 rfl) rfl rfl ?_
    refine e_getr 113 em_125 (ce_at ce_125 20 rfl) tq_22 rfl rfl ?_
    refine e_op 114 em_125 (ce_at ce_125 21 rfl) rfl rfl ?_
    refine e_ivv 117 em_125 (ce_at ce_125 22 rfl) (by omega) (iv_v1 (by decide) tq_14 rfl) em_100 (Nat.le_of_ble_eq_true rfl) rfl (tprg_aim w (d - 1) (by omega) _ _) (fun r13 s13 => ?_)
    refine e_goto em_125 212 (ce_at ce_125 23 rfl) rfl ?_
    exact e_retv em_125 (ce_at ce_125 72 rfl)
  refine e_case 60 (fun h14 => ?_) (fun h14 => ?_)
  · refine e_sw em_125 173 (ce_at ce_125 1 rfl) (sw_lk g1 rfl (by subst h14; rfl)) rfl ?_
    refine e_mv 174 em_125 (ce_at ce_125 52 rfl) rfl rfl ?_
    refine e_getr 177 em_125 (ce_at ce_125 53 rfl) tq_22 rfl rfl ?_
    refine e_bip 179 em_125 (ce_at ce_125 54 rfl) (by decide) rfl ?_
    refine e_op 180 em_125 (ce_at ce_125 55 rfl) rfl rfl ?_
    refine e_op 181 em_125 (ce_at ce_125 56 rfl) rfl rfl ?_
    refine e_ivv 184 em_125 (ce_at ce_125 57 rfl) (by omega) (iv_v3 (by decide) tq_14 rfl) em_99 (Nat.le_of_ble_eq_true rfl) rfl (tprg_add w (d - 1) (by omega) _ _ _ _) (fun r15 s15 => ?_)
    refine e_goto em_125 212 (ce_at ce_125 58 rfl) rfl ?_
    exact e_retv em_125 (ce_at ce_125 72 rfl)
  refine e_case 62 (fun h16 => ?_) (fun h16 => ?_)
  · refine e_sw em_125 187 (ce_at ce_125 1 rfl) (sw_lk g1 rfl (by subst h16; rfl)) rfl ?_
    refine e_mv 188 em_125 (ce_at ce_125 59 rfl) rfl rfl ?_
    refine e_getr 191 em_125 (ce_at ce_125 60 rfl) tq_22 rfl rfl ?_
    refine e_bip 193 em_125 (ce_at ce_125 61 rfl) (by decide) rfl ?_
    refine e_op 194 em_125 (ce_at ce_125 62 rfl) rfl rfl ?_
    refine e_op 195 em_125 (ce_at ce_125 63 rfl) rfl rfl ?_
    refine e_ivv 198 em_125 (ce_at ce_125 64 rfl) (by omega) (iv_v3 (by decide) tq_14 rfl) em_99 (Nat.le_of_ble_eq_true rfl) rfl (tprg_add w (d - 1) (by omega) _ _ _ _) (fun r17 s17 => ?_)
    refine e_goto em_125 212 (ce_at ce_125 65 rfl) rfl ?_
    exact e_retv em_125 (ce_at ce_125 72 rfl)
  refine e_case 124 (fun h18 => ?_) (fun h18 => ?_)
  · refine e_sw em_125 159 (ce_at ce_125 1 rfl) (sw_lk g1 rfl (by subst h18; rfl)) rfl ?_
    refine e_mv 160 em_125 (ce_at ce_125 45 rfl) rfl rfl ?_
    refine e_getr 163 em_125 (ce_at ce_125 46 rfl) tq_22 rfl rfl ?_
    refine e_bip 165 em_125 (ce_at ce_125 47 rfl) (by decide) rfl ?_
    refine e_op 166 em_125 (ce_at ce_125 48 rfl) rfl rfl ?_
    refine e_op 167 em_125 (ce_at ce_125 49 rfl) rfl rfl ?_
    refine e_ivv 170 em_125 (ce_at ce_125 50 rfl) (by omega) (iv_v3 (by decide) tq_14 rfl) em_99 (Nat.le_of_ble_eq_true rfl) rfl (tprg_add w (d - 1) (by omega) _ _ _ _) (fun r19 s19 => ?_)
    refine e_goto em_125 212 (ce_at ce_125 51 rfl) rfl ?_
    exact e_retv em_125 (ce_at ce_125 72 rfl)
  refine e_sw em_125 201 (ce_at ce_125 1 rfl) (sw_lk g1 rfl (lk_step h2 (lk_step h4 (lk_step h7 (lk_step h9 (lk_step h11 (lk_step h14 (lk_step h16 (lk_step h18 rfl))))))))) rfl ?_
  refine e_mv 202 em_125 (ce_at ce_125 66 rfl) rfl rfl ?_
  refine e_getr 205 em_125 (ce_at ce_125 67 rfl) tq_22 rfl rfl ?_
  refine e_bip 207 em_125 (ce_at ce_125 68 rfl) (by decide) rfl ?_
  refine e_op 208 em_125 (ce_at ce_125 69 rfl) rfl rfl ?_
  refine e_op 209 em_125 (ce_at ce_125 70 rfl) rfl rfl ?_
  refine e_ivv 212 em_125 (ce_at ce_125 71 rfl) (by omega) (iv_v3 (by decide) tq_14 rfl) em_99 (Nat.le_of_ble_eq_true rfl) rfl (tprg_add w (d - 1) (by omega) _ _ _ _) (fun r20 s20 => ?_)
  exact e_retv em_125 (ce_at ce_125 72 rfl)
theorem ftrl_addOperator (v1 : Int) (s : iS) : Fm Prod.snd L_trl_addOperator G_trl_addOperator s (trl_addOperator v1 s) := fm_gd (fm_if (fm_bd (fm_sub (fprg_add _ _ _ _) (mem_sub_L rfl) (mem_sub_F rfl)) (fun r3 s3 => fm_some md_refl)) (fm_if (fm_bd (fm_sub (fprg_add _ _ _ _) (mem_sub_L rfl) (mem_sub_F rfl)) (fun r5 s5 => fm_bd (fm_sub (fprg_aim _ _) (mem_sub_L rfl) (mem_sub_F rfl)) (fun r6 s6 => fm_some md_refl))) (fm_if (fm_bd (fm_sub (fprg_add _ _ _ _) (mem_sub_L rfl) (mem_sub_F rfl)) (fun r8 s8 => fm_some md_refl)) (fm_if (fm_bd (fm_sub (fprg_add _ _ _ _) (mem_sub_L rfl) (mem_sub_F rfl)) (fun r10 s10 => fm_some md_refl)) (fm_if (fm_bd (fm_sub (fprg_add _ _ _ _) (mem_sub_L rfl) (mem_sub_F rfl)) (fun r12 s12 => fm_bd (fm_sub (fprg_aim _ _) (mem_sub_L rfl) (mem_sub_F rfl)) (fun r13 s13 => fm_some md_refl))) (fm_if (fm_bd (fm_sub (fprg_add _ _ _ _) (mem_sub_L rfl) (mem_sub_F rfl)) (fun r15 s15 => fm_some md_refl)) (fm_if (fm_bd (fm_sub (fprg_add _ _ _ _) (mem_sub_L rfl) (mem_sub_F rfl)) (fun r17 s17 => fm_some md_refl)) (fm_if (fm_bd (fm_sub (fprg_add _ _ _ _) (mem_sub_L rfl) (mem_sub_F rfl)) (fun r19 s19 => fm_some md_refl)) (fm_bd (fm_sub (fprg_add _ _ _ _) (mem_sub_L rfl) (mem_sub_F rfl)) (fun r20 s20 => fm_some md_refl))))))))))
/-! trl_readExpression -/
def trl_readExpression_6C (w : ev_W) (d : Nat) : (Int × iS) ⊕ (iS) → am_E → Prop := fun q r => q.elim (fun l => ev w d 109 6 ((fun l => [(0, .ref (tb_nK + 22)), (1, iv (l.1))]) l) [] (hT ((fun l => l.2) l)) r) (fun e => (fun e r => ev w d 109 62 [] [] (hT (e)) r) e r)
noncomputable def trl_readExpression_6b (F : Nat → Int → Int → Int → iS → Option (Int × iS)) (v1 : Int) (s : iS) : Option ((Int × iS) ⊕ (iS)) := gd (rg v1) (if 1000 ≤ v1 then some (.inr s) else bd (tok_kind s) (fun r3 s3 => bd (trl_isOperator r3 s3) (fun r4 s4 => gd (rg r4) (if r4 = 0 then some (.inr s4) else bd (tok_kind s4) (fun r7 s7 => lt' (up s7 2 12 ((s7 2 12) + 1)) (fun s8 => bd (F 2 0 0 0 s8) (fun _ s9 => bd (trl_addOperator r7 s9) (fun _ s10 => some (.inl ((v1 + 1), s10))))))))))
theorem ttrl_readExpression_6b (w : ev_W) (d : Nat) (hd : 5 ≤ d) (F : Nat → Int → Int → Int → iS → Option (Int × iS)) (hF : trlE_ok w (d - 1) F) (v1 : Int) (s : iS) : Ew hT w d 109 6 [(0, .ref (tb_nK + 22)), (1, iv v1)] [] s (trl_readExpression_6C w d) (trl_readExpression_6b F v1 s) := by
  unfold trl_readExpression_6b
  refine e_mv 7 em_109 (ce_at ce_109 4 rfl) rfl rfl ?_
  refine e_sip 10 em_109 (ce_at ce_109 5 rfl) (by decide) rfl ?_
  refine e_gd fun g1 => ?_
  refine e_cmge 62 13 em_109 rfl rfl (ce_at ce_109 6 rfl) g1 (by decide) (fun h2 => ?_) (fun h2 => ?_)
  · refine e_pk [] rfl rfl ?_
    exact e_out (fun r h => h)
  · refine e_mv 14 em_109 (ce_at ce_109 7 rfl) rfl rfl ?_
    refine e_getr 17 em_109 (ce_at ce_109 8 rfl) tq_22 rfl rfl ?_
    refine e_ivi 20 em_109 (ce_at ce_109 9 rfl) (by omega) (iv_v0 (by decide) tq_2 rfl) em_69 (Nat.le_of_ble_eq_true rfl) rfl (ttok_kind w (d - 1) (by omega) _) (fun r3 s3 => ?_)
    refine e_ivi 23 em_109 (ce_at ce_109 10 rfl) (by omega) (iv_s1 rfl) em_124 (Nat.le_of_ble_eq_true rfl) rfl (ttrl_isOperator hT w (d - 1) (by omega) _ _) (fun r4 s4 => ?_)
    refine e_gd fun g5 => ?_
    refine e_ifeq 62 26 em_109 rfl rfl (ce_at ce_109 11 rfl) g5 (fun h6 => ?_) (fun h6 => ?_)
    · refine e_pk [] rfl rfl ?_
      exact e_out (fun r h => h)
    · refine e_mv 27 em_109 (ce_at ce_109 12 rfl) rfl rfl ?_
      refine e_getr 30 em_109 (ce_at ce_109 13 rfl) tq_22 rfl rfl ?_
      refine e_ivi 33 em_109 (ce_at ce_109 14 rfl) (by omega) (iv_v0 (by decide) tq_2 rfl) em_69 (Nat.le_of_ble_eq_true rfl) rfl (ttok_kind w (d - 1) (by omega) _) (fun r7 s7 => ?_)
      refine e_mv 34 em_109 (ce_at ce_109 15 rfl) rfl rfl ?_
      refine e_mv 35 em_109 (ce_at ce_109 16 rfl) rfl rfl ?_
      refine e_getr 38 em_109 (ce_at ce_109 17 rfl) tq_22 rfl rfl ?_
      refine e_op 39 em_109 (ce_at ce_109 18 rfl) rfl rfl ?_
      refine e_get 42 em_109 (ce_at ce_109 19 rfl) tq_2 rfl rfl ?_
      refine e_op 43 em_109 (ce_at ce_109 20 rfl) rfl rfl ?_
      refine e_iadd 44 em_109 rfl (ce_at ce_109 21 rfl) ?_
      refine e_put 47 em_109 (ce_at ce_109 22 rfl) tq_2 rfl rfl rfl (fun s8 => ?_)
      refine e_mv 48 em_109 (ce_at ce_109 23 rfl) rfl rfl ?_
      refine e_ivv 51 em_109 (ce_at ce_109 24 rfl) (by omega) (iv_v0 (by decide) tq_22 rfl) em_110 (Nat.le_of_ble_eq_true rfl) rfl (hF.2.2.1  _) (fun r9 s9 => ?_)
      refine e_mv 52 em_109 (ce_at ce_109 25 rfl) rfl rfl ?_
      refine e_mv 53 em_109 (ce_at ce_109 26 rfl) rfl rfl ?_
      refine e_ivv 56 em_109 (ce_at ce_109 27 rfl) (by omega) (iv_v1 (by decide) tq_22 rfl) em_125 (Nat.le_of_ble_eq_true rfl) rfl (ttrl_addOperator w (d - 1) (by omega) _ _) (fun r10 s10 => ?_)
      refine e_iinc 59 em_109 (ce_at ce_109 28 rfl) rfl (by decide) rfl ?_
      refine e_goto em_109 6 (ce_at ce_109 29 rfl) rfl ?_
      refine e_pk [0, 1] rfl rfl ?_
      exact e_out (fun r h => h)
theorem ftrl_readExpression_6b (F : Nat → Int → Int → Int → iS → Option (Int × iS)) (hF : ∀ (t : Nat) (a b c : Int) (s : iS), Fm Prod.snd L_trlE G_trlE s (F t a b c s)) (v1 : Int) (s : iS) : Fm (fun r : (Int × iS) ⊕ (iS) => r.elim (fun l => l.2) (fun e => e)) L_trlE G_trlE s (trl_readExpression_6b F v1 s) := fm_gd (fm_if (fm_some md_refl) (fm_bd (fm_sub (ftok_kind _) (mem_sub_L rfl) (mem_sub_F rfl)) (fun r3 s3 => fm_bd (fm_sub (ftrl_isOperator _ _) (mem_sub_L rfl) (mem_sub_F rfl)) (fun r4 s4 => fm_gd (fm_if (fm_some md_refl) (fm_bd (fm_sub (ftok_kind _) (mem_sub_L rfl) (mem_sub_F rfl)) (fun r7 s7 => fm_lt (md_upF (mem_F rfl)) (fun s8 => fm_bd (hF 2 _ _ _ _) (fun r9 s9 => fm_bd (fm_sub (ftrl_addOperator _ _) (mem_sub_L rfl) (mem_sub_F rfl)) (fun r10 s10 => fm_some md_refl))))))))))
noncomputable def trl_readExpression_6 (F : Nat → Int → Int → Int → iS → Option (Int × iS)) (v1 : Int) (s : iS) : Option (Int × iS) := (lp (L := Int × iS) (E := iS) (fun l => trl_readExpression_6b F (l.1) (l.2)) (v1, s)).bind (fun e => some (0, e))
theorem ttrl_readExpression_6 (w : ev_W) (d : Nat) (hd : 5 ≤ d) (F : Nat → Int → Int → Int → iS → Option (Int × iS)) (hF : trlE_ok w (d - 1) F) (v1 : Int) (s : iS) : Ew hT w d 109 6 [(0, .ref (tb_nK + 22)), (1, iv v1)] [] s (Cv hT) (trl_readExpression_6 F v1 s) := by
  unfold trl_readExpression_6
  refine e_lp (L := Int × iS) (E := iS) (LO := fun l => [(0, .ref (tb_nK + 22)), (1, iv (l.1))]) (LS := fun l => l.2) (CE := fun e r => ev w d 109 62 [] [] (hT (e)) r) (fun l => ttrl_readExpression_6b w d hd F hF _ _) ?_ (v1, s)
  intro e
  show Ew hT w d 109 62 [] [] e (Cv hT) _
  exact e_retv em_109 (ce_at ce_109 30 rfl)
theorem ftrl_readExpression_6 (F : Nat → Int → Int → Int → iS → Option (Int × iS)) (hF : ∀ (t : Nat) (a b c : Int) (s : iS), Fm Prod.snd L_trlE G_trlE s (F t a b c s)) (v1 : Int) (s : iS) : Fm Prod.snd L_trlE G_trlE s (trl_readExpression_6 F v1 s) := by
  unfold trl_readExpression_6
  refine fm_lp (A := Int × iS) (E := iS) (LS := fun l => l.2) (LE := fun e => e) ?_ ?_ (v1, s)
  · exact fun l => ftrl_readExpression_6b F hF _ _
  · exact (fun e => fm_some md_refl)
noncomputable def trl_readExpression (F : Nat → Int → Int → Int → iS → Option (Int × iS)) (s : iS) : Option (Int × iS) := bd (F 2 0 0 0 s) (fun _ s1 => trl_readExpression_6 F 0 s1)
theorem ttrl_readExpression (w : ev_W) (d : Nat) (hd : 5 ≤ d) (F : Nat → Int → Int → Int → iS → Option (Int × iS)) (hF : trlE_ok w (d - 1) F) (s : iS) : Ew hT w d 109 0 [(0, .ref (tb_nK + 22))] [] s (Cv hT) (trl_readExpression F s) := by
  unfold trl_readExpression
  refine e_mv 1 em_109 (ce_at ce_109 0 rfl) rfl rfl ?_
  refine e_ivv 4 em_109 (ce_at ce_109 1 rfl) (by omega) (iv_v0 (by decide) tq_22 rfl) em_110 (Nat.le_of_ble_eq_true rfl) rfl (hF.2.2.1  _) (fun r1 s1 => ?_)
  refine e_op 5 em_109 (ce_at ce_109 2 rfl) rfl rfl ?_
  refine e_mv 6 em_109 (ce_at ce_109 3 rfl) rfl rfl ?_
  refine e_pk [0, 1] rfl rfl ?_
  exact ttrl_readExpression_6 w d hd F hF _ _
theorem ftrl_readExpression (F : Nat → Int → Int → Int → iS → Option (Int × iS)) (hF : ∀ (t : Nat) (a b c : Int) (s : iS), Fm Prod.snd L_trlE G_trlE s (F t a b c s)) (s : iS) : Fm Prod.snd L_trlE G_trlE s (trl_readExpression F s) := fm_bd (hF 2 _ _ _ _) (fun r1 s1 => ftrl_readExpression_6 F hF _ _)
/-! tok_valueOf -/
def L_tok_valueOf : List Nat := []
def G_tok_valueOf : List (Nat × Nat) := []
noncomputable def tok_valueOf (v1 : Int) (s : iS) : Option (Int × iS) := gd (rg v1) (if v1 < 0 then some (0, s) else gd (rg (s 2 8)) (if (s 2 8) ≤ v1 then some (0, s) else gd (0 ≤ v1 ∧ v1 < 2001) (some ((s 11 v1.toNat), s))))
theorem ttok_valueOf (w : ev_W) (d : Nat) (hd : 0 ≤ d) (v1 : Int) (s : iS) : Ew hT w d 122 0 [(0, .ref (tb_nK + 2)), (1, iv v1)] [] s (Ci hT) (tok_valueOf v1 s) := by
  unfold tok_valueOf
  refine e_mv 1 em_122 (ce_at ce_122 0 rfl) rfl rfl ?_
  refine e_gd fun g1 => ?_
  refine e_iflt 21 4 em_122 rfl rfl (ce_at ce_122 1 rfl) g1 (fun h2 => ?_) (fun h2 => ?_)
  · refine e_op 22 em_122 (ce_at ce_122 11 rfl) rfl rfl ?_
    exact e_reti em_122 (ce_at ce_122 12 rfl)
  · refine e_mv 5 em_122 (ce_at ce_122 2 rfl) rfl rfl ?_
    refine e_mv 6 em_122 (ce_at ce_122 3 rfl) rfl rfl ?_
    refine e_get 9 em_122 (ce_at ce_122 4 rfl) tq_2 rfl rfl ?_
    refine e_gd fun g3 => ?_
    refine e_cmge 21 12 em_122 rfl rfl (ce_at ce_122 5 rfl) g1 g3 (fun h4 => ?_) (fun h4 => ?_)
    · refine e_op 22 em_122 (ce_at ce_122 11 rfl) rfl rfl ?_
      exact e_reti em_122 (ce_at ce_122 12 rfl)
    · refine e_mv 13 em_122 (ce_at ce_122 6 rfl) rfl rfl ?_
      refine e_getr 16 em_122 (ce_at ce_122 7 rfl) tq_2 rfl rfl ?_
      refine e_mv 17 em_122 (ce_at ce_122 8 rfl) rfl rfl ?_
      refine e_gd fun g5 => ?_
      refine e_ild 18 em_122 (ce_at ce_122 9 rfl) tq_11 (by decide) g5 rfl ?_
      refine e_goto em_122 22 (ce_at ce_122 10 rfl) rfl ?_
      exact e_reti em_122 (ce_at ce_122 12 rfl)
theorem ftok_valueOf (v1 : Int) (s : iS) : Fm Prod.snd L_tok_valueOf G_tok_valueOf s (tok_valueOf v1 s) := fm_gd (fm_if (fm_some md_refl) (fm_gd (fm_if (fm_some md_refl) (fm_gd (fm_some md_refl)))))
/-! trl_readStringTerm -/
def L_trl_readStringTerm : List Nat := [15, 16, 17, 18, 19]
def G_trl_readStringTerm : List (Nat × Nat) := [(2, 12), (2, 13), (2, 14), (14, 8), (14, 12), (22, 6)]
def trl_readStringTerm_78C (w : ev_W) (d : Nat) (v1 : Int) : (Int × iS) ⊕ (iS) → am_E → Prop := fun q r => q.elim (fun l => ev w d 121 78 ((fun l => [(0, .ref (tb_nK + 22)), (1, iv v1), (2, iv (l.1))]) l) [] (hT ((fun l => l.2) l)) r) (fun e => (fun e r => ev w d 121 143 [(0, .ref (tb_nK + 22))] [] (hT (e)) r) e r)
noncomputable def trl_readStringTerm_78b (v1 : Int) (v2 : Int) (s : iS) : Option ((Int × iS) ⊕ (iS)) := gd (rg v2) (gd (rg v1) (if v1 < v2 then some (.inr s) else bd (tok_placeOf (s 2 12) s) (fun r4 s4 => bd (tok_byteAt (r4 + v2) s4) (fun r5 s5 => bd (prg_add 0 0 r5 s5) (fun _ s6 => bd (prg_add 15 304 2 s6) (fun _ s7 => bd (prg_aim 16 s7) (fun _ s8 => some (.inl ((v2 + 1), s8)))))))))
theorem ttrl_readStringTerm_78b (w : ev_W) (d : Nat) (hd : 1 ≤ d) (v1 : Int) (v2 : Int) (s : iS) : Ew hT w d 121 78 [(0, .ref (tb_nK + 22)), (1, iv v1), (2, iv v2)] [] s (trl_readStringTerm_78C w d v1) (trl_readStringTerm_78b v1 v2 s) := by
  unfold trl_readStringTerm_78b
  refine e_mv 79 em_121 (ce_at ce_121 40 rfl) rfl rfl ?_
  refine e_mv 80 em_121 (ce_at ce_121 41 rfl) rfl rfl ?_
  refine e_gd fun g1 => ?_
  refine e_gd fun g2 => ?_
  refine e_cmgt 143 83 em_121 rfl rfl (ce_at ce_121 42 rfl) g1 g2 (fun h3 => ?_) (fun h3 => ?_)
  · refine e_pk [0] rfl rfl ?_
    exact e_out (fun r h => h)
  · refine e_mv 84 em_121 (ce_at ce_121 43 rfl) rfl rfl ?_
    refine e_getr 87 em_121 (ce_at ce_121 44 rfl) tq_22 rfl rfl ?_
    refine e_op 88 em_121 (ce_at ce_121 45 rfl) rfl rfl ?_
    refine e_op 89 em_121 (ce_at ce_121 46 rfl) rfl rfl ?_
    refine e_mv 90 em_121 (ce_at ce_121 47 rfl) rfl rfl ?_
    refine e_getr 93 em_121 (ce_at ce_121 48 rfl) tq_22 rfl rfl ?_
    refine e_mv 94 em_121 (ce_at ce_121 49 rfl) rfl rfl ?_
    refine e_getr 97 em_121 (ce_at ce_121 50 rfl) tq_22 rfl rfl ?_
    refine e_mv 98 em_121 (ce_at ce_121 51 rfl) rfl rfl ?_
    refine e_getr 101 em_121 (ce_at ce_121 52 rfl) tq_22 rfl rfl ?_
    refine e_get 104 em_121 (ce_at ce_121 53 rfl) tq_2 rfl rfl ?_
    refine e_ivi 107 em_121 (ce_at ce_121 54 rfl) (by omega) (iv_v1 (by decide) tq_2 rfl) em_67 (Nat.le_of_ble_eq_true rfl) rfl (ttok_placeOf w (d - 1) (by omega) _ _) (fun r4 s4 => ?_)
    refine e_mv 108 em_121 (ce_at ce_121 55 rfl) rfl rfl ?_
    refine e_iadd 109 em_121 rfl (ce_at ce_121 56 rfl) ?_
    refine e_ivi 112 em_121 (ce_at ce_121 57 rfl) (by omega) (iv_v1 (by decide) tq_2 rfl) em_34 (Nat.le_of_ble_eq_true rfl) rfl (ttok_byteAt w (d - 1) (by omega) _ _) (fun r5 s5 => ?_)
    refine e_ivv 115 em_121 (ce_at ce_121 58 rfl) (by omega) (iv_v3 (by decide) tq_14 rfl) em_99 (Nat.le_of_ble_eq_true rfl) rfl (tprg_add w (d - 1) (by omega) _ _ _ _) (fun r6 s6 => ?_)
    refine e_mv 116 em_121 (ce_at ce_121 59 rfl) rfl rfl ?_
    refine e_getr 119 em_121 (ce_at ce_121 60 rfl) tq_22 rfl rfl ?_
    refine e_bip 121 em_121 (ce_at ce_121 61 rfl) (by decide) rfl ?_
    refine e_sip 124 em_121 (ce_at ce_121 62 rfl) (by decide) rfl ?_
    refine e_op 125 em_121 (ce_at ce_121 63 rfl) rfl rfl ?_
    refine e_ivv 128 em_121 (ce_at ce_121 64 rfl) (by omega) (iv_v3 (by decide) tq_14 rfl) em_99 (Nat.le_of_ble_eq_true rfl) rfl (tprg_add w (d - 1) (by omega) _ _ _ _) (fun r7 s7 => ?_)
    refine e_mv 129 em_121 (ce_at ce_121 65 rfl) rfl rfl ?_
    refine e_getr 132 em_121 (ce_at ce_121 66 rfl) tq_22 rfl rfl ?_
    refine e_bip 134 em_121 (ce_at ce_121 67 rfl) (by decide) rfl ?_
    refine e_ivv 137 em_121 (ce_at ce_121 68 rfl) (by omega) (iv_v1 (by decide) tq_14 rfl) em_100 (Nat.le_of_ble_eq_true rfl) rfl (tprg_aim w (d - 1) (by omega) _ _) (fun r8 s8 => ?_)
    refine e_iinc 140 em_121 (ce_at ce_121 69 rfl) rfl (by decide) rfl ?_
    refine e_goto em_121 78 (ce_at ce_121 70 rfl) rfl ?_
    refine e_pk [0, 1, 2] rfl rfl ?_
    exact e_out (fun r h => h)
theorem ftrl_readStringTerm_78b (v1 : Int) (v2 : Int) (s : iS) : Fm (fun r : (Int × iS) ⊕ (iS) => r.elim (fun l => l.2) (fun e => e)) L_trl_readStringTerm G_trl_readStringTerm s (trl_readStringTerm_78b v1 v2 s) := fm_gd (fm_gd (fm_if (fm_some md_refl) (fm_bd (fm_sub (ftok_placeOf _ _) (mem_sub_L rfl) (mem_sub_F rfl)) (fun r4 s4 => fm_bd (fm_sub (ftok_byteAt _ _) (mem_sub_L rfl) (mem_sub_F rfl)) (fun r5 s5 => fm_bd (fm_sub (fprg_add _ _ _ _) (mem_sub_L rfl) (mem_sub_F rfl)) (fun r6 s6 => fm_bd (fm_sub (fprg_add _ _ _ _) (mem_sub_L rfl) (mem_sub_F rfl)) (fun r7 s7 => fm_bd (fm_sub (fprg_aim _ _) (mem_sub_L rfl) (mem_sub_F rfl)) (fun r8 s8 => fm_some md_refl))))))))
noncomputable def trl_readStringTerm_143 (s : iS) : Option (Int × iS) := lt' (up s 2 12 ((s 2 12) + 1)) (fun s1 => some (0, s1))
theorem ttrl_readStringTerm_143 (w : ev_W) (d : Nat) (hd : 1 ≤ d) (s : iS) : Ew hT w d 121 143 [(0, .ref (tb_nK + 22))] [] s (Cv hT) (trl_readStringTerm_143 s) := by
  unfold trl_readStringTerm_143
  refine e_mv 144 em_121 (ce_at ce_121 71 rfl) rfl rfl ?_
  refine e_getr 147 em_121 (ce_at ce_121 72 rfl) tq_22 rfl rfl ?_
  refine e_op 148 em_121 (ce_at ce_121 73 rfl) rfl rfl ?_
  refine e_get 151 em_121 (ce_at ce_121 74 rfl) tq_2 rfl rfl ?_
  refine e_op 152 em_121 (ce_at ce_121 75 rfl) rfl rfl ?_
  refine e_iadd 153 em_121 rfl (ce_at ce_121 76 rfl) ?_
  refine e_put 156 em_121 (ce_at ce_121 77 rfl) tq_2 rfl rfl rfl (fun s1 => ?_)
  exact e_retv em_121 (ce_at ce_121 78 rfl)
theorem ftrl_readStringTerm_143 (s : iS) : Fm Prod.snd L_trl_readStringTerm G_trl_readStringTerm s (trl_readStringTerm_143 s) := fm_lt (md_upF (mem_F rfl)) (fun s1 => fm_some md_refl)
noncomputable def trl_readStringTerm_78 (v1 : Int) (v2 : Int) (s : iS) : Option (Int × iS) := (lp (L := Int × iS) (E := iS) (fun l => trl_readStringTerm_78b v1 (l.1) (l.2)) (v2, s)).bind (fun e => trl_readStringTerm_143 e)
theorem ttrl_readStringTerm_78 (w : ev_W) (d : Nat) (hd : 1 ≤ d) (v1 : Int) (v2 : Int) (s : iS) : Ew hT w d 121 78 [(0, .ref (tb_nK + 22)), (1, iv v1), (2, iv v2)] [] s (Cv hT) (trl_readStringTerm_78 v1 v2 s) := by
  unfold trl_readStringTerm_78
  refine e_lp (L := Int × iS) (E := iS) (LO := fun l => [(0, .ref (tb_nK + 22)), (1, iv v1), (2, iv (l.1))]) (LS := fun l => l.2) (CE := fun e r => ev w d 121 143 [(0, .ref (tb_nK + 22))] [] (hT (e)) r) (fun l => ttrl_readStringTerm_78b w d hd _ _ _) ?_ (v2, s)
  intro e
  show Ew hT w d 121 143 [(0, .ref (tb_nK + 22))] [] e (Cv hT) _
  refine e_pk [0] rfl rfl ?_
  exact ttrl_readStringTerm_143 w d hd _
theorem ftrl_readStringTerm_78 (v1 : Int) (v2 : Int) (s : iS) : Fm Prod.snd L_trl_readStringTerm G_trl_readStringTerm s (trl_readStringTerm_78 v1 v2 s) := by
  unfold trl_readStringTerm_78
  refine fm_lp (A := Int × iS) (E := iS) (LS := fun l => l.2) (LE := fun e => e) ?_ ?_ (v2, s)
  · exact fun l => ftrl_readStringTerm_78b _ _ _
  · exact (fun e => ftrl_readStringTerm_143 _)
noncomputable def trl_readStringTerm (s : iS) : Option (Int × iS) := bd (tok_valueOf (s 2 12) s) (fun r1 s1 => lt' (up s1 22 6 ((s1 22 6) + r1)) (fun s2 => gd (rg (s2 22 6)) (if (s2 22 6) ≤ 300 then bd (prg_add 0 0 r1 s2) (fun _ s5 => bd (prg_add 15 300 1 s5) (fun _ s6 => bd (prg_aim 12 s6) (fun _ s7 => trl_readStringTerm_78 r1 1 s7))) else bd (tok_stop 2 s2) (fun _ s8 => some (0, s8)))))
theorem ttrl_readStringTerm (w : ev_W) (d : Nat) (hd : 1 ≤ d) (s : iS) : Ew hT w d 121 0 [(0, .ref (tb_nK + 22))] [] s (Cv hT) (trl_readStringTerm s) := by
  unfold trl_readStringTerm
  refine e_mv 1 em_121 (ce_at ce_121 0 rfl) rfl rfl ?_
  refine e_getr 4 em_121 (ce_at ce_121 1 rfl) tq_22 rfl rfl ?_
  refine e_mv 5 em_121 (ce_at ce_121 2 rfl) rfl rfl ?_
  refine e_getr 8 em_121 (ce_at ce_121 3 rfl) tq_22 rfl rfl ?_
  refine e_get 11 em_121 (ce_at ce_121 4 rfl) tq_2 rfl rfl ?_
  refine e_ivi 14 em_121 (ce_at ce_121 5 rfl) (by omega) (iv_v1 (by decide) tq_2 rfl) em_122 (Nat.le_of_ble_eq_true rfl) rfl (ttok_valueOf w (d - 1) (by omega) _ _) (fun r1 s1 => ?_)
  refine e_mv 15 em_121 (ce_at ce_121 6 rfl) rfl rfl ?_
  refine e_mv 16 em_121 (ce_at ce_121 7 rfl) rfl rfl ?_
  refine e_op 17 em_121 (ce_at ce_121 8 rfl) rfl rfl ?_
  refine e_get 20 em_121 (ce_at ce_121 9 rfl) tq_22 rfl rfl ?_
  refine e_mv 21 em_121 (ce_at ce_121 10 rfl) rfl rfl ?_
  refine e_iadd 22 em_121 rfl (ce_at ce_121 11 rfl) ?_
  refine e_put 25 em_121 (ce_at ce_121 12 rfl) tq_22 rfl rfl rfl (fun s2 => ?_)
  refine e_mv 26 em_121 (ce_at ce_121 13 rfl) rfl rfl ?_
  refine e_get 29 em_121 (ce_at ce_121 14 rfl) tq_22 rfl rfl ?_
  refine e_sip 32 em_121 (ce_at ce_121 15 rfl) (by decide) rfl ?_
  refine e_gd fun g3 => ?_
  refine e_cmle 44 35 em_121 rfl rfl (ce_at ce_121 16 rfl) g3 (by decide) (fun h4 => ?_) (fun h4 => ?_)
  · refine e_mv 45 em_121 (ce_at ce_121 22 rfl) rfl rfl ?_
    refine e_getr 48 em_121 (ce_at ce_121 23 rfl) tq_22 rfl rfl ?_
    refine e_op 49 em_121 (ce_at ce_121 24 rfl) rfl rfl ?_
    refine e_op 50 em_121 (ce_at ce_121 25 rfl) rfl rfl ?_
    refine e_mv 51 em_121 (ce_at ce_121 26 rfl) rfl rfl ?_
    refine e_ivv 54 em_121 (ce_at ce_121 27 rfl) (by omega) (iv_v3 (by decide) tq_14 rfl) em_99 (Nat.le_of_ble_eq_true rfl) rfl (tprg_add w (d - 1) (by omega) _ _ _ _) (fun r5 s5 => ?_)
    refine e_mv 55 em_121 (ce_at ce_121 28 rfl) rfl rfl ?_
    refine e_getr 58 em_121 (ce_at ce_121 29 rfl) tq_22 rfl rfl ?_
    refine e_bip 60 em_121 (ce_at ce_121 30 rfl) (by decide) rfl ?_
    refine e_sip 63 em_121 (ce_at ce_121 31 rfl) (by decide) rfl ?_
    refine e_op 64 em_121 (ce_at ce_121 32 rfl) rfl rfl ?_
    refine e_ivv 67 em_121 (ce_at ce_121 33 rfl) (by omega) (iv_v3 (by decide) tq_14 rfl) em_99 (Nat.le_of_ble_eq_true rfl) rfl (tprg_add w (d - 1) (by omega) _ _ _ _) (fun r6 s6 => ?_)
    refine e_mv 68 em_121 (ce_at ce_121 34 rfl) rfl rfl ?_
    refine e_getr 71 em_121 (ce_at ce_121 35 rfl) tq_22 rfl rfl ?_
    refine e_bip 73 em_121 (ce_at ce_121 36 rfl) (by decide) rfl ?_
    refine e_ivv 76 em_121 (ce_at ce_121 37 rfl) (by omega) (iv_v1 (by decide) tq_14 rfl) em_100 (Nat.le_of_ble_eq_true rfl) rfl (tprg_aim w (d - 1) (by omega) _ _) (fun r7 s7 => ?_)
    refine e_op 77 em_121 (ce_at ce_121 38 rfl) rfl rfl ?_
    refine e_mv 78 em_121 (ce_at ce_121 39 rfl) rfl rfl ?_
    refine e_pk [0, 1, 2] rfl rfl ?_
    exact ttrl_readStringTerm_78 w d hd _ _ _
  · refine e_mv 36 em_121 (ce_at ce_121 17 rfl) rfl rfl ?_
    refine e_getr 39 em_121 (ce_at ce_121 18 rfl) tq_22 rfl rfl ?_
    refine e_op 40 em_121 (ce_at ce_121 19 rfl) rfl rfl ?_
    refine e_ivv 43 em_121 (ce_at ce_121 20 rfl) (by omega) (iv_v1 (by decide) tq_2 rfl) em_71 (Nat.le_of_ble_eq_true rfl) rfl (ttok_stop w (d - 1) (by omega) _ _) (fun r8 s8 => ?_)
    exact e_retv em_121 (ce_at ce_121 21 rfl)
theorem ftrl_readStringTerm (s : iS) : Fm Prod.snd L_trl_readStringTerm G_trl_readStringTerm s (trl_readStringTerm s) := fm_bd (fm_sub (ftok_valueOf _ _) (mem_sub_L rfl) (mem_sub_F rfl)) (fun r1 s1 => fm_lt (md_upF (mem_F rfl)) (fun s2 => fm_gd (fm_if (fm_bd (fm_sub (fprg_add _ _ _ _) (mem_sub_L rfl) (mem_sub_F rfl)) (fun r5 s5 => fm_bd (fm_sub (fprg_add _ _ _ _) (mem_sub_L rfl) (mem_sub_F rfl)) (fun r6 s6 => fm_bd (fm_sub (fprg_aim _ _) (mem_sub_L rfl) (mem_sub_F rfl)) (fun r7 s7 => ftrl_readStringTerm_78 _ _ _)))) (fm_bd (fm_sub (ftok_stop _ _) (mem_sub_L rfl) (mem_sub_F rfl)) (fun r8 s8 => fm_some md_refl)))))
/-! trl_askForThis -/
def L_trl_askForThis : List Nat := []
def G_trl_askForThis : List (Nat × Nat) := [(2, 13), (2, 14)]
noncomputable def trl_askForThis (v1 : Int) (s : iS) : Option (Int × iS) := gd (rg (s 22 4)) (if (s 22 4) = 0 then some (0, s) else gd (rg (s 23 13)) (if (s 23 13) = 258 then bd (tok_blame 6 v1 s) (fun _ s5 => some (0, s5)) else some (0, s)))
theorem ttrl_askForThis (w : ev_W) (d : Nat) (hd : 1 ≤ d) (v1 : Int) (s : iS) : Ew hT w d 114 0 [(0, .ref (tb_nK + 22)), (1, iv v1)] [] s (Cv hT) (trl_askForThis v1 s) := by
  unfold trl_askForThis
  refine e_mv 1 em_114 (ce_at ce_114 0 rfl) rfl rfl ?_
  refine e_get 4 em_114 (ce_at ce_114 1 rfl) tq_22 rfl rfl ?_
  refine e_gd fun g1 => ?_
  refine e_ifeq 30 7 em_114 rfl rfl (ce_at ce_114 2 rfl) g1 (fun h2 => ?_) (fun h2 => ?_)
  · exact e_retv em_114 (ce_at ce_114 13 rfl)
  · refine e_mv 8 em_114 (ce_at ce_114 3 rfl) rfl rfl ?_
    refine e_getr 11 em_114 (ce_at ce_114 4 rfl) tq_22 rfl rfl ?_
    refine e_get 14 em_114 (ce_at ce_114 5 rfl) tq_23 rfl rfl ?_
    refine e_sip 17 em_114 (ce_at ce_114 6 rfl) (by decide) rfl ?_
    refine e_gd fun g3 => ?_
    refine e_cmne 30 20 em_114 rfl rfl (ce_at ce_114 7 rfl) g3 (by decide) (fun h4 => ?_) (fun h4 => ?_)
    · exact e_retv em_114 (ce_at ce_114 13 rfl)
    · refine e_mv 21 em_114 (ce_at ce_114 8 rfl) rfl rfl ?_
      refine e_getr 24 em_114 (ce_at ce_114 9 rfl) tq_22 rfl rfl ?_
      refine e_bip 26 em_114 (ce_at ce_114 10 rfl) (by decide) rfl ?_
      refine e_mv 27 em_114 (ce_at ce_114 11 rfl) rfl rfl ?_
      refine e_ivv 30 em_114 (ce_at ce_114 12 rfl) (by omega) (iv_v2 (by decide) tq_2 rfl) em_77 (Nat.le_of_ble_eq_true rfl) rfl (ttok_blame w (d - 1) (by omega) _ _ _) (fun r5 s5 => ?_)
      exact e_retv em_114 (ce_at ce_114 13 rfl)
theorem ftrl_askForThis (v1 : Int) (s : iS) : Fm Prod.snd L_trl_askForThis G_trl_askForThis s (trl_askForThis v1 s) := fm_gd (fm_if (fm_some md_refl) (fm_gd (fm_if (fm_bd (fm_sub (ftok_blame _ _ _) (mem_sub_L rfl) (mem_sub_F rfl)) (fun r5 s5 => fm_some md_refl)) (fm_some md_refl))))
/-! trl_readConstantTerm -/
def L_trl_readConstantTerm : List Nat := [15, 16, 17, 18, 19]
def G_trl_readConstantTerm : List (Nat × Nat) := [(2, 12), (2, 13), (2, 14), (14, 8), (14, 12)]
noncomputable def trl_readConstantTerm_85 (s : iS) : Option (Int × iS) := lt' (up s 2 12 ((s 2 12) + 1)) (fun s1 => some (0, s1))
theorem ttrl_readConstantTerm_85 (w : ev_W) (d : Nat) (hd : 1 ≤ d) (s : iS) : Ew hT w d 123 85 [(0, .ref (tb_nK + 22))] [] s (Cv hT) (trl_readConstantTerm_85 s) := by
  unfold trl_readConstantTerm_85
  refine e_mv 86 em_123 (ce_at ce_123 42 rfl) rfl rfl ?_
  refine e_getr 89 em_123 (ce_at ce_123 43 rfl) tq_22 rfl rfl ?_
  refine e_op 90 em_123 (ce_at ce_123 44 rfl) rfl rfl ?_
  refine e_get 93 em_123 (ce_at ce_123 45 rfl) tq_2 rfl rfl ?_
  refine e_op 94 em_123 (ce_at ce_123 46 rfl) rfl rfl ?_
  refine e_iadd 95 em_123 rfl (ce_at ce_123 47 rfl) ?_
  refine e_put 98 em_123 (ce_at ce_123 48 rfl) tq_2 rfl rfl rfl (fun s1 => ?_)
  exact e_retv em_123 (ce_at ce_123 49 rfl)
theorem ftrl_readConstantTerm_85 (s : iS) : Fm Prod.snd L_trl_readConstantTerm G_trl_readConstantTerm s (trl_readConstantTerm_85 s) := fm_lt (md_upF (mem_F rfl)) (fun s1 => fm_some md_refl)
noncomputable def trl_readConstantTerm_64 (v1 : Int) (t0 : Int) (t1 : Int) (t2 : Int) (s : iS) : Option (Int × iS) := bd (prg_add t2 t1 t0 s) (fun _ s1 => gd (rg v1) (if v1 = 267 then bd (prg_add 7 0 0 s1) (fun _ s4 => trl_readConstantTerm_85 s4) else trl_readConstantTerm_85 s1))
theorem ttrl_readConstantTerm_64 (w : ev_W) (d : Nat) (hd : 1 ≤ d) (v1 : Int) (t0 : Int) (t1 : Int) (t2 : Int) (s : iS) : Ew hT w d 123 64 [(0, .ref (tb_nK + 22)), (1, iv v1)] [iv t0, iv t1, iv t2, .ref (tb_nK + 14)] s (Cv hT) (trl_readConstantTerm_64 v1 t0 t1 t2 s) := by
  unfold trl_readConstantTerm_64
  refine e_ivv 67 em_123 (ce_at ce_123 32 rfl) (by omega) (iv_v3 (by decide) tq_14 rfl) em_99 (Nat.le_of_ble_eq_true rfl) rfl (tprg_add w (d - 1) (by omega) _ _ _ _) (fun r1 s1 => ?_)
  refine e_mv 68 em_123 (ce_at ce_123 33 rfl) rfl rfl ?_
  refine e_sip 71 em_123 (ce_at ce_123 34 rfl) (by decide) rfl ?_
  refine e_gd fun g2 => ?_
  refine e_cmne 85 74 em_123 rfl rfl (ce_at ce_123 35 rfl) g2 (by decide) (fun h3 => ?_) (fun h3 => ?_)
  · refine e_pk [0] rfl rfl ?_
    exact ttrl_readConstantTerm_85 w d hd _
  · refine e_mv 75 em_123 (ce_at ce_123 36 rfl) rfl rfl ?_
    refine e_getr 78 em_123 (ce_at ce_123 37 rfl) tq_22 rfl rfl ?_
    refine e_bip 80 em_123 (ce_at ce_123 38 rfl) (by decide) rfl ?_
    refine e_op 81 em_123 (ce_at ce_123 39 rfl) rfl rfl ?_
    refine e_op 82 em_123 (ce_at ce_123 40 rfl) rfl rfl ?_
    refine e_ivv 85 em_123 (ce_at ce_123 41 rfl) (by omega) (iv_v3 (by decide) tq_14 rfl) em_99 (Nat.le_of_ble_eq_true rfl) rfl (tprg_add w (d - 1) (by omega) _ _ _ _) (fun r4 s4 => ?_)
    refine e_pk [0] rfl rfl ?_
    exact ttrl_readConstantTerm_85 w d hd _
theorem ftrl_readConstantTerm_64 (v1 : Int) (t0 : Int) (t1 : Int) (t2 : Int) (s : iS) : Fm Prod.snd L_trl_readConstantTerm G_trl_readConstantTerm s (trl_readConstantTerm_64 v1 t0 t1 t2 s) := fm_bd (fm_sub (fprg_add _ _ _ _) (mem_sub_L rfl) (mem_sub_F rfl)) (fun r1 s1 => fm_gd (fm_if (fm_bd (fm_sub (fprg_add _ _ _ _) (mem_sub_L rfl) (mem_sub_F rfl)) (fun r4 s4 => ftrl_readConstantTerm_85 _)) (ftrl_readConstantTerm_85 _)))
noncomputable def trl_readConstantTerm_35 (v1 : Int) (s : iS) : Option (Int × iS) := gd (rg v1) (if v1 = 4 then bd (tok_valueOf (s 2 12) s) (fun r3 s3 => trl_readConstantTerm_64 v1 r3 0 0 s3) else trl_readConstantTerm_64 v1 0 0 0 s)
theorem ttrl_readConstantTerm_35 (w : ev_W) (d : Nat) (hd : 1 ≤ d) (v1 : Int) (s : iS) : Ew hT w d 123 35 [(0, .ref (tb_nK + 22)), (1, iv v1)] [] s (Cv hT) (trl_readConstantTerm_35 v1 s) := by
  unfold trl_readConstantTerm_35
  refine e_mv 36 em_123 (ce_at ce_123 17 rfl) rfl rfl ?_
  refine e_getr 39 em_123 (ce_at ce_123 18 rfl) tq_22 rfl rfl ?_
  refine e_op 40 em_123 (ce_at ce_123 19 rfl) rfl rfl ?_
  refine e_op 41 em_123 (ce_at ce_123 20 rfl) rfl rfl ?_
  refine e_mv 42 em_123 (ce_at ce_123 21 rfl) rfl rfl ?_
  refine e_op 43 em_123 (ce_at ce_123 22 rfl) rfl rfl ?_
  refine e_gd fun g1 => ?_
  refine e_cmne 63 46 em_123 rfl rfl (ce_at ce_123 23 rfl) g1 (by decide) (fun h2 => ?_) (fun h2 => ?_)
  · refine e_op 64 em_123 (ce_at ce_123 31 rfl) rfl rfl ?_
    refine e_pk [0, 1] rfl rfl ?_
    exact ttrl_readConstantTerm_64 w d hd _ _ _ _ _
  · refine e_mv 47 em_123 (ce_at ce_123 24 rfl) rfl rfl ?_
    refine e_getr 50 em_123 (ce_at ce_123 25 rfl) tq_22 rfl rfl ?_
    refine e_mv 51 em_123 (ce_at ce_123 26 rfl) rfl rfl ?_
    refine e_getr 54 em_123 (ce_at ce_123 27 rfl) tq_22 rfl rfl ?_
    refine e_get 57 em_123 (ce_at ce_123 28 rfl) tq_2 rfl rfl ?_
    refine e_ivi 60 em_123 (ce_at ce_123 29 rfl) (by omega) (iv_v1 (by decide) tq_2 rfl) em_122 (Nat.le_of_ble_eq_true rfl) rfl (ttok_valueOf w (d - 1) (by omega) _ _) (fun r3 s3 => ?_)
    refine e_goto em_123 64 (ce_at ce_123 30 rfl) rfl ?_
    refine e_pk [0, 1] rfl rfl ?_
    exact ttrl_readConstantTerm_64 w d hd _ _ _ _ _
theorem ftrl_readConstantTerm_35 (v1 : Int) (s : iS) : Fm Prod.snd L_trl_readConstantTerm G_trl_readConstantTerm s (trl_readConstantTerm_35 v1 s) := fm_gd (fm_if (fm_bd (fm_sub (ftok_valueOf _ _) (mem_sub_L rfl) (mem_sub_F rfl)) (fun r3 s3 => ftrl_readConstantTerm_64 _ _ _ _ _)) (ftrl_readConstantTerm_64 _ _ _ _ _))
noncomputable def trl_readConstantTerm (v1 : Int) (s : iS) : Option (Int × iS) := gd (rg v1) (if v1 = 4 then trl_readConstantTerm_35 v1 s else if v1 = 267 then trl_readConstantTerm_35 v1 s else if v1 = 268 then trl_readConstantTerm_35 v1 s else if v1 = 269 then trl_readConstantTerm_35 v1 s else bd (tok_stop 1 s) (fun _ s6 => some (0, s6)))
theorem ttrl_readConstantTerm (w : ev_W) (d : Nat) (hd : 1 ≤ d) (v1 : Int) (s : iS) : Ew hT w d 123 0 [(0, .ref (tb_nK + 22)), (1, iv v1)] [] s (Cv hT) (trl_readConstantTerm v1 s) := by
  unfold trl_readConstantTerm
  refine e_mv 1 em_123 (ce_at ce_123 0 rfl) rfl rfl ?_
  refine e_op 2 em_123 (ce_at ce_123 1 rfl) rfl rfl ?_
  refine e_gd fun g1 => ?_
  refine e_cmeq 35 5 em_123 rfl rfl (ce_at ce_123 2 rfl) g1 (by decide) (fun h2 => ?_) (fun h2 => ?_)
  · refine e_pk [0, 1] rfl rfl ?_
    exact ttrl_readConstantTerm_35 w d hd _ _
  · refine e_mv 6 em_123 (ce_at ce_123 3 rfl) rfl rfl ?_
    refine e_sip 9 em_123 (ce_at ce_123 4 rfl) (by decide) rfl ?_
    refine e_cmeq 35 12 em_123 rfl rfl (ce_at ce_123 5 rfl) g1 (by decide) (fun h3 => ?_) (fun h3 => ?_)
    · refine e_pk [0, 1] rfl rfl ?_
      exact ttrl_readConstantTerm_35 w d hd _ _
    · refine e_mv 13 em_123 (ce_at ce_123 6 rfl) rfl rfl ?_
      refine e_sip 16 em_123 (ce_at ce_123 7 rfl) (by decide) rfl ?_
      refine e_cmeq 35 19 em_123 rfl rfl (ce_at ce_123 8 rfl) g1 (by decide) (fun h4 => ?_) (fun h4 => ?_)
      · refine e_pk [0, 1] rfl rfl ?_
        exact ttrl_readConstantTerm_35 w d hd _ _
      · refine e_mv 20 em_123 (ce_at ce_123 9 rfl) rfl rfl ?_
        refine e_sip 23 em_123 (ce_at ce_123 10 rfl) (by decide) rfl ?_
        refine e_cmeq 35 26 em_123 rfl rfl (ce_at ce_123 11 rfl) g1 (by decide) (fun h5 => ?_) (fun h5 => ?_)
        · refine e_pk [0, 1] rfl rfl ?_
          exact ttrl_readConstantTerm_35 w d hd _ _
        · refine e_mv 27 em_123 (ce_at ce_123 12 rfl) rfl rfl ?_
          refine e_getr 30 em_123 (ce_at ce_123 13 rfl) tq_22 rfl rfl ?_
          refine e_op 31 em_123 (ce_at ce_123 14 rfl) rfl rfl ?_
          refine e_ivv 34 em_123 (ce_at ce_123 15 rfl) (by omega) (iv_v1 (by decide) tq_2 rfl) em_71 (Nat.le_of_ble_eq_true rfl) rfl (ttok_stop w (d - 1) (by omega) _ _) (fun r6 s6 => ?_)
          exact e_retv em_123 (ce_at ce_123 16 rfl)
theorem ftrl_readConstantTerm (v1 : Int) (s : iS) : Fm Prod.snd L_trl_readConstantTerm G_trl_readConstantTerm s (trl_readConstantTerm v1 s) := fm_gd (fm_if (ftrl_readConstantTerm_35 _ _) (fm_if (ftrl_readConstantTerm_35 _ _) (fm_if (ftrl_readConstantTerm_35 _ _) (fm_if (ftrl_readConstantTerm_35 _ _) (fm_bd (fm_sub (ftok_stop _ _) (mem_sub_L rfl) (mem_sub_F rfl)) (fun r6 s6 => fm_some md_refl))))))
/-! trl_readTerm -/
noncomputable def trl_readTerm (F : Nat → Int → Int → Int → iS → Option (Int × iS)) (s : iS) : Option (Int × iS) := bd (tok_kind s) (fun r1 s1 => gd (rg r1) (if r1 = 3 then bd (F 3 0 0 0 s1) (fun _ s4 => some (0, s4)) else if r1 = 5 then bd (trl_readStringTerm s1) (fun _ s6 => some (0, s6)) else if r1 = 40 then bd (trl_openSign 40 s1) (fun _ s8 => bd (F 1 0 0 0 s8) (fun _ s9 => bd (tok_expect 41 s9) (fun _ s10 => lt' (up s10 22 5 ((s10 22 5) - 1)) (fun s11 => some (0, s11))))) else if r1 = 45 then bd (F 6 0 0 0 s1) (fun _ s13 => some (0, s13)) else if r1 = 126 then bd (F 6 0 0 0 s1) (fun _ s15 => some (0, s15)) else if r1 = 270 then bd (trl_askForThis (s1 2 12) s1) (fun _ s17 => bd (prg_add 0 6 0 s17) (fun _ s18 => lt' (up s18 2 12 ((s18 2 12) + 1)) (fun s19 => some (0, s19)))) else bd (tok_kind s1) (fun r20 s20 => bd (trl_readConstantTerm r20 s20) (fun _ s21 => some (0, s21)))))
theorem ttrl_readTerm (w : ev_W) (d : Nat) (hd : 5 ≤ d) (F : Nat → Int → Int → Int → iS → Option (Int × iS)) (hF : trlE_ok w (d - 1) F) (s : iS) : Ew hT w d 110 0 [(0, .ref (tb_nK + 22))] [] s (Cv hT) (trl_readTerm F s) := by
  unfold trl_readTerm
  refine e_mv 1 em_110 (ce_at ce_110 0 rfl) rfl rfl ?_
  refine e_getr 4 em_110 (ce_at ce_110 1 rfl) tq_22 rfl rfl ?_
  refine e_ivi 7 em_110 (ce_at ce_110 2 rfl) (by omega) (iv_v0 (by decide) tq_2 rfl) em_69 (Nat.le_of_ble_eq_true rfl) rfl (ttok_kind w (d - 1) (by omega) _) (fun r1 s1 => ?_)
  refine e_gd fun g2 => ?_
  refine e_case 3 (fun h3 => ?_) (fun h3 => ?_)
  · refine e_sw em_110 64 (ce_at ce_110 3 rfl) (sw_lk g2 rfl (by subst h3; rfl)) rfl ?_
    refine e_mv 65 em_110 (ce_at ce_110 4 rfl) rfl rfl ?_
    refine e_ivv 68 em_110 (ce_at ce_110 5 rfl) (by omega) (iv_v0 (by decide) tq_22 rfl) em_111 (Nat.le_of_ble_eq_true rfl) rfl (hF.2.2.2.1  _) (fun r4 s4 => ?_)
    refine e_goto em_110 166 (ce_at ce_110 6 rfl) rfl ?_
    exact e_retv em_110 (ce_at ce_110 53 rfl)
  refine e_case 5 (fun h5 => ?_) (fun h5 => ?_)
  · refine e_sw em_110 110 (ce_at ce_110 3 rfl) (sw_lk g2 rfl (by subst h5; rfl)) rfl ?_
    refine e_mv 111 em_110 (ce_at ce_110 26 rfl) rfl rfl ?_
    refine e_ivv 114 em_110 (ce_at ce_110 27 rfl) (by omega) (iv_v0 (by decide) tq_22 rfl) em_121 (Nat.le_of_ble_eq_true rfl) rfl (ttrl_readStringTerm w (d - 1) (by omega) _) (fun r6 s6 => ?_)
    refine e_goto em_110 166 (ce_at ce_110 28 rfl) rfl ?_
    exact e_retv em_110 (ce_at ce_110 53 rfl)
  refine e_case 40 (fun h7 => ?_) (fun h7 => ?_)
  · refine e_sw em_110 71 (ce_at ce_110 3 rfl) (sw_lk g2 rfl (by subst h7; rfl)) rfl ?_
    refine e_mv 72 em_110 (ce_at ce_110 7 rfl) rfl rfl ?_
    refine e_bip 74 em_110 (ce_at ce_110 8 rfl) (by decide) rfl ?_
    refine e_ivv 77 em_110 (ce_at ce_110 9 rfl) (by omega) (iv_v1 (by decide) tq_22 rfl) em_78 (Nat.le_of_ble_eq_true rfl) rfl (ttrl_openSign w (d - 1) (by omega) _ _) (fun r8 s8 => ?_)
    refine e_mv 78 em_110 (ce_at ce_110 10 rfl) rfl rfl ?_
    refine e_ivv 81 em_110 (ce_at ce_110 11 rfl) (by omega) (iv_v0 (by decide) tq_22 rfl) em_109 (Nat.le_of_ble_eq_true rfl) rfl (hF.2.1  _) (fun r9 s9 => ?_)
    refine e_mv 82 em_110 (ce_at ce_110 12 rfl) rfl rfl ?_
    refine e_getr 85 em_110 (ce_at ce_110 13 rfl) tq_22 rfl rfl ?_
    refine e_bip 87 em_110 (ce_at ce_110 14 rfl) (by decide) rfl ?_
    refine e_ivv 90 em_110 (ce_at ce_110 15 rfl) (by omega) (iv_v1 (by decide) tq_2 rfl) em_86 (Nat.le_of_ble_eq_true rfl) rfl (ttok_expect w (d - 1) (by omega) _ _) (fun r10 s10 => ?_)
    refine e_mv 91 em_110 (ce_at ce_110 16 rfl) rfl rfl ?_
    refine e_op 92 em_110 (ce_at ce_110 17 rfl) rfl rfl ?_
    refine e_get 95 em_110 (ce_at ce_110 18 rfl) tq_22 rfl rfl ?_
    refine e_op 96 em_110 (ce_at ce_110 19 rfl) rfl rfl ?_
    refine e_isub 97 em_110 rfl (ce_at ce_110 20 rfl) ?_
    refine e_put 100 em_110 (ce_at ce_110 21 rfl) tq_22 rfl rfl rfl (fun s11 => ?_)
    refine e_goto em_110 166 (ce_at ce_110 22 rfl) rfl ?_
    exact e_retv em_110 (ce_at ce_110 53 rfl)
  refine e_case 45 (fun h12 => ?_) (fun h12 => ?_)
  · refine e_sw em_110 103 (ce_at ce_110 3 rfl) (sw_lk g2 rfl (by subst h12; rfl)) rfl ?_
    refine e_mv 104 em_110 (ce_at ce_110 23 rfl) rfl rfl ?_
    refine e_ivv 107 em_110 (ce_at ce_110 24 rfl) (by omega) (iv_v0 (by decide) tq_22 rfl) em_120 (Nat.le_of_ble_eq_true rfl) rfl (hF.2.2.2.2.2.2  _) (fun r13 s13 => ?_)
    refine e_goto em_110 166 (ce_at ce_110 25 rfl) rfl ?_
    exact e_retv em_110 (ce_at ce_110 53 rfl)
  refine e_case 126 (fun h14 => ?_) (fun h14 => ?_)
  · refine e_sw em_110 103 (ce_at ce_110 3 rfl) (sw_lk g2 rfl (by subst h14; rfl)) rfl ?_
    refine e_mv 104 em_110 (ce_at ce_110 23 rfl) rfl rfl ?_
    refine e_ivv 107 em_110 (ce_at ce_110 24 rfl) (by omega) (iv_v0 (by decide) tq_22 rfl) em_120 (Nat.le_of_ble_eq_true rfl) rfl (hF.2.2.2.2.2.2  _) (fun r15 s15 => ?_)
    refine e_goto em_110 166 (ce_at ce_110 25 rfl) rfl ?_
    exact e_retv em_110 (ce_at ce_110 53 rfl)
  refine e_case 270 (fun h16 => ?_) (fun h16 => ?_)
  · refine e_sw em_110 117 (ce_at ce_110 3 rfl) (sw_lk g2 rfl (by subst h16; rfl)) rfl ?_
    refine e_mv 118 em_110 (ce_at ce_110 29 rfl) rfl rfl ?_
    refine e_mv 119 em_110 (ce_at ce_110 30 rfl) rfl rfl ?_
    refine e_getr 122 em_110 (ce_at ce_110 31 rfl) tq_22 rfl rfl ?_
    refine e_get 125 em_110 (ce_at ce_110 32 rfl) tq_2 rfl rfl ?_
    refine e_ivv 128 em_110 (ce_at ce_110 33 rfl) (by omega) (iv_v1 (by decide) tq_22 rfl) em_114 (Nat.le_of_ble_eq_true rfl) rfl (ttrl_askForThis w (d - 1) (by omega) _ _) (fun r17 s17 => ?_)
    refine e_mv 129 em_110 (ce_at ce_110 34 rfl) rfl rfl ?_
    refine e_getr 132 em_110 (ce_at ce_110 35 rfl) tq_22 rfl rfl ?_
    refine e_op 133 em_110 (ce_at ce_110 36 rfl) rfl rfl ?_
    refine e_bip 135 em_110 (ce_at ce_110 37 rfl) (by decide) rfl ?_
    refine e_op 136 em_110 (ce_at ce_110 38 rfl) rfl rfl ?_
    refine e_ivv 139 em_110 (ce_at ce_110 39 rfl) (by omega) (iv_v3 (by decide) tq_14 rfl) em_99 (Nat.le_of_ble_eq_true rfl) rfl (tprg_add w (d - 1) (by omega) _ _ _ _) (fun r18 s18 => ?_)
    refine e_mv 140 em_110 (ce_at ce_110 40 rfl) rfl rfl ?_
    refine e_getr 143 em_110 (ce_at ce_110 41 rfl) tq_22 rfl rfl ?_
    refine e_op 144 em_110 (ce_at ce_110 42 rfl) rfl rfl ?_
    refine e_get 147 em_110 (ce_at ce_110 43 rfl) tq_2 rfl rfl ?_
    refine e_op 148 em_110 (ce_at ce_110 44 rfl) rfl rfl ?_
    refine e_iadd 149 em_110 rfl (ce_at ce_110 45 rfl) ?_
    refine e_put 152 em_110 (ce_at ce_110 46 rfl) tq_2 rfl rfl rfl (fun s19 => ?_)
    refine e_goto em_110 166 (ce_at ce_110 47 rfl) rfl ?_
    exact e_retv em_110 (ce_at ce_110 53 rfl)
  refine e_sw em_110 155 (ce_at ce_110 3 rfl) (sw_lk g2 rfl (lk_step h3 (lk_step h5 (lk_step h7 (lk_step h12 (lk_step h14 (lk_step h16 rfl))))))) rfl ?_
  refine e_mv 156 em_110 (ce_at ce_110 48 rfl) rfl rfl ?_
  refine e_mv 157 em_110 (ce_at ce_110 49 rfl) rfl rfl ?_
  refine e_getr 160 em_110 (ce_at ce_110 50 rfl) tq_22 rfl rfl ?_
  refine e_ivi 163 em_110 (ce_at ce_110 51 rfl) (by omega) (iv_v0 (by decide) tq_2 rfl) em_69 (Nat.le_of_ble_eq_true rfl) rfl (ttok_kind w (d - 1) (by omega) _) (fun r20 s20 => ?_)
  refine e_ivv 166 em_110 (ce_at ce_110 52 rfl) (by omega) (iv_v1 (by decide) tq_22 rfl) em_123 (Nat.le_of_ble_eq_true rfl) rfl (ttrl_readConstantTerm w (d - 1) (by omega) _ _) (fun r21 s21 => ?_)
  exact e_retv em_110 (ce_at ce_110 53 rfl)
theorem ftrl_readTerm (F : Nat → Int → Int → Int → iS → Option (Int × iS)) (hF : ∀ (t : Nat) (a b c : Int) (s : iS), Fm Prod.snd L_trlE G_trlE s (F t a b c s)) (s : iS) : Fm Prod.snd L_trlE G_trlE s (trl_readTerm F s) := fm_bd (fm_sub (ftok_kind _) (mem_sub_L rfl) (mem_sub_F rfl)) (fun r1 s1 => fm_gd (fm_if (fm_bd (hF 3 _ _ _ _) (fun r4 s4 => fm_some md_refl)) (fm_if (fm_bd (fm_sub (ftrl_readStringTerm _) (mem_sub_L rfl) (mem_sub_F rfl)) (fun r6 s6 => fm_some md_refl)) (fm_if (fm_bd (fm_sub (ftrl_openSign _ _) (mem_sub_L rfl) (mem_sub_F rfl)) (fun r8 s8 => fm_bd (hF 1 _ _ _ _) (fun r9 s9 => fm_bd (fm_sub (ftok_expect _ _) (mem_sub_L rfl) (mem_sub_F rfl)) (fun r10 s10 => fm_lt (md_upF (mem_F rfl)) (fun s11 => fm_some md_refl))))) (fm_if (fm_bd (hF 6 _ _ _ _) (fun r13 s13 => fm_some md_refl)) (fm_if (fm_bd (hF 6 _ _ _ _) (fun r15 s15 => fm_some md_refl)) (fm_if (fm_bd (fm_sub (ftrl_askForThis _ _) (mem_sub_L rfl) (mem_sub_F rfl)) (fun r17 s17 => fm_bd (fm_sub (fprg_add _ _ _ _) (mem_sub_L rfl) (mem_sub_F rfl)) (fun r18 s18 => fm_lt (md_upF (mem_F rfl)) (fun s19 => fm_some md_refl)))) (fm_bd (fm_sub (ftok_kind _) (mem_sub_L rfl) (mem_sub_F rfl)) (fun r20 s20 => fm_bd (fm_sub (ftrl_readConstantTerm _ _) (mem_sub_L rfl) (mem_sub_F rfl)) (fun r21 s21 => fm_some md_refl))))))))))
/-! tok_kindOf -/
def L_tok_kindOf : List Nat := []
def G_tok_kindOf : List (Nat × Nat) := []
noncomputable def tok_kindOf (v1 : Int) (s : iS) : Option (Int × iS) := gd (rg v1) (if v1 < 0 then some ((-1), s) else gd (rg (s 2 8)) (if (s 2 8) ≤ v1 then some ((-1), s) else gd (0 ≤ v1 ∧ v1 < 2001) (some ((s 9 v1.toNat), s))))
theorem ttok_kindOf (w : ev_W) (d : Nat) (hd : 0 ≤ d) (v1 : Int) (s : iS) : Ew hT w d 112 0 [(0, .ref (tb_nK + 2)), (1, iv v1)] [] s (Ci hT) (tok_kindOf v1 s) := by
  unfold tok_kindOf
  refine e_mv 1 em_112 (ce_at ce_112 0 rfl) rfl rfl ?_
  refine e_gd fun g1 => ?_
  refine e_iflt 21 4 em_112 rfl rfl (ce_at ce_112 1 rfl) g1 (fun h2 => ?_) (fun h2 => ?_)
  · refine e_op 22 em_112 (ce_at ce_112 11 rfl) rfl rfl ?_
    exact e_reti em_112 (ce_at ce_112 12 rfl)
  · refine e_mv 5 em_112 (ce_at ce_112 2 rfl) rfl rfl ?_
    refine e_mv 6 em_112 (ce_at ce_112 3 rfl) rfl rfl ?_
    refine e_get 9 em_112 (ce_at ce_112 4 rfl) tq_2 rfl rfl ?_
    refine e_gd fun g3 => ?_
    refine e_cmge 21 12 em_112 rfl rfl (ce_at ce_112 5 rfl) g1 g3 (fun h4 => ?_) (fun h4 => ?_)
    · refine e_op 22 em_112 (ce_at ce_112 11 rfl) rfl rfl ?_
      exact e_reti em_112 (ce_at ce_112 12 rfl)
    · refine e_mv 13 em_112 (ce_at ce_112 6 rfl) rfl rfl ?_
      refine e_getr 16 em_112 (ce_at ce_112 7 rfl) tq_2 rfl rfl ?_
      refine e_mv 17 em_112 (ce_at ce_112 8 rfl) rfl rfl ?_
      refine e_gd fun g5 => ?_
      refine e_ild 18 em_112 (ce_at ce_112 9 rfl) tq_9 (by decide) g5 rfl ?_
      refine e_goto em_112 22 (ce_at ce_112 10 rfl) rfl ?_
      exact e_reti em_112 (ce_at ce_112 12 rfl)
theorem ftok_kindOf (v1 : Int) (s : iS) : Fm Prod.snd L_tok_kindOf G_tok_kindOf s (tok_kindOf v1 s) := fm_gd (fm_if (fm_some md_refl) (fm_gd (fm_if (fm_some md_refl) (fm_gd (fm_some md_refl)))))
/-! trl_addVariable -/
def L_trl_addVariable : List Nat := [15, 16, 17, 18, 19]
def G_trl_addVariable : List (Nat × Nat) := [(14, 8), (14, 12)]
noncomputable def trl_addVariable (v1 : Int) (v2 : Int) (s : iS) : Option (Int × iS) := gd (rg v2) (if v2 < 0 then some (0, s) else if 48 ≤ v2 then some (0, s) else gd (0 ≤ v2 ∧ v2 < 48) (bd (prg_add v1 (s 37 v2.toNat) (s 38 v2.toNat) s) (fun _ s5 => bd (prg_aim (s5 39 v2.toNat) s5) (fun _ s6 => some (0, s6)))))
theorem ttrl_addVariable (w : ev_W) (d : Nat) (hd : 1 ≤ d) (v1 : Int) (v2 : Int) (s : iS) : Ew hT w d 107 0 [(0, .ref (tb_nK + 22)), (1, iv v1), (2, iv v2)] [] s (Cv hT) (trl_addVariable v1 v2 s) := by
  unfold trl_addVariable
  refine e_mv 1 em_107 (ce_at ce_107 0 rfl) rfl rfl ?_
  refine e_gd fun g1 => ?_
  refine e_iflt 52 4 em_107 rfl rfl (ce_at ce_107 1 rfl) g1 (fun h2 => ?_) (fun h2 => ?_)
  · exact e_retv em_107 (ce_at ce_107 27 rfl)
  · refine e_mv 5 em_107 (ce_at ce_107 2 rfl) rfl rfl ?_
    refine e_bip 7 em_107 (ce_at ce_107 3 rfl) (by decide) rfl ?_
    refine e_cmge 52 10 em_107 rfl rfl (ce_at ce_107 4 rfl) g1 (by decide) (fun h3 => ?_) (fun h3 => ?_)
    · exact e_retv em_107 (ce_at ce_107 27 rfl)
    · refine e_mv 11 em_107 (ce_at ce_107 5 rfl) rfl rfl ?_
      refine e_getr 14 em_107 (ce_at ce_107 6 rfl) tq_22 rfl rfl ?_
      refine e_mv 15 em_107 (ce_at ce_107 7 rfl) rfl rfl ?_
      refine e_mv 16 em_107 (ce_at ce_107 8 rfl) rfl rfl ?_
      refine e_getr 19 em_107 (ce_at ce_107 9 rfl) tq_22 rfl rfl ?_
      refine e_getr 22 em_107 (ce_at ce_107 10 rfl) tq_23 rfl rfl ?_
      refine e_mv 23 em_107 (ce_at ce_107 11 rfl) rfl rfl ?_
      refine e_gd fun g4 => ?_
      refine e_ild 24 em_107 (ce_at ce_107 12 rfl) tq_37 (by decide) g4 rfl ?_
      refine e_mv 25 em_107 (ce_at ce_107 13 rfl) rfl rfl ?_
      refine e_getr 28 em_107 (ce_at ce_107 14 rfl) tq_22 rfl rfl ?_
      refine e_getr 31 em_107 (ce_at ce_107 15 rfl) tq_23 rfl rfl ?_
      refine e_mv 32 em_107 (ce_at ce_107 16 rfl) rfl rfl ?_
      refine e_ild 33 em_107 (ce_at ce_107 17 rfl) tq_38 (by decide) g4 rfl ?_
      refine e_ivv 36 em_107 (ce_at ce_107 18 rfl) (by omega) (iv_v3 (by decide) tq_14 rfl) em_99 (Nat.le_of_ble_eq_true rfl) rfl (tprg_add w (d - 1) (by omega) _ _ _ _) (fun r5 s5 => ?_)
      refine e_mv 37 em_107 (ce_at ce_107 19 rfl) rfl rfl ?_
      refine e_getr 40 em_107 (ce_at ce_107 20 rfl) tq_22 rfl rfl ?_
      refine e_mv 41 em_107 (ce_at ce_107 21 rfl) rfl rfl ?_
      refine e_getr 44 em_107 (ce_at ce_107 22 rfl) tq_22 rfl rfl ?_
      refine e_getr 47 em_107 (ce_at ce_107 23 rfl) tq_23 rfl rfl ?_
      refine e_mv 48 em_107 (ce_at ce_107 24 rfl) rfl rfl ?_
      refine e_ild 49 em_107 (ce_at ce_107 25 rfl) tq_39 (by decide) g4 rfl ?_
      refine e_ivv 52 em_107 (ce_at ce_107 26 rfl) (by omega) (iv_v1 (by decide) tq_14 rfl) em_100 (Nat.le_of_ble_eq_true rfl) rfl (tprg_aim w (d - 1) (by omega) _ _) (fun r6 s6 => ?_)
      exact e_retv em_107 (ce_at ce_107 27 rfl)
theorem ftrl_addVariable (v1 : Int) (v2 : Int) (s : iS) : Fm Prod.snd L_trl_addVariable G_trl_addVariable s (trl_addVariable v1 v2 s) := fm_gd (fm_if (fm_some md_refl) (fm_if (fm_some md_refl) (fm_gd (fm_bd (fm_sub (fprg_add _ _ _ _) (mem_sub_L rfl) (mem_sub_F rfl)) (fun r5 s5 => fm_bd (fm_sub (fprg_aim _ _) (mem_sub_L rfl) (mem_sub_F rfl)) (fun r6 s6 => fm_some md_refl))))))
/-! trl_readNameTerm -/
noncomputable def trl_readNameTerm_29 (F : Nat → Int → Int → Int → iS → Option (Int × iS)) (s : iS) : Option (Int × iS) := bd (F 4 0 0 0 s) (fun _ s1 => some (0, s1))
theorem ttrl_readNameTerm_29 (w : ev_W) (d : Nat) (hd : 5 ≤ d) (F : Nat → Int → Int → Int → iS → Option (Int × iS)) (hF : trlE_ok w (d - 1) F) (s : iS) : Ew hT w d 111 29 [(0, .ref (tb_nK + 22))] [] s (Cv hT) (trl_readNameTerm_29 F s) := by
  unfold trl_readNameTerm_29
  refine e_mv 30 em_111 (ce_at ce_111 15 rfl) rfl rfl ?_
  refine e_ivv 33 em_111 (ce_at ce_111 16 rfl) (by omega) (iv_v0 (by decide) tq_22 rfl) em_113 (Nat.le_of_ble_eq_true rfl) rfl (hF.2.2.2.2.1  _) (fun r1 s1 => ?_)
  exact e_retv em_111 (ce_at ce_111 17 rfl)
theorem ftrl_readNameTerm_29 (F : Nat → Int → Int → Int → iS → Option (Int × iS)) (hF : ∀ (t : Nat) (a b c : Int) (s : iS), Fm Prod.snd L_trlE G_trlE s (F t a b c s)) (s : iS) : Fm Prod.snd L_trlE G_trlE s (trl_readNameTerm_29 F s) := fm_bd (hF 4 _ _ _ _) (fun r1 s1 => fm_some md_refl)
noncomputable def trl_readNameTerm (F : Nat → Int → Int → Int → iS → Option (Int × iS)) (s : iS) : Option (Int × iS) := bd (tok_kindOf ((s 2 12) + 1) s) (fun r1 s1 => gd (rg r1) (if r1 = 40 then trl_readNameTerm_29 F s1 else if r1 = 46 then trl_readNameTerm_29 F s1 else bd (trl_findVariable (s1 2 12) s1) (fun r5 s5 => bd (trl_checkVariable r5 (s5 2 12) s5) (fun _ s6 => bd (trl_addVariable 0 r5 s6) (fun _ s7 => lt' (up s7 2 12 ((s7 2 12) + 1)) (fun s8 => if r1 = 91 then bd (F 0 0 0 0 s8) (fun _ s10 => bd (prg_add 1 6 1 s10) (fun _ s11 => bd (prg_add 0 5 0 s11) (fun _ s12 => some (0, s12)))) else some (0, s8)))))))
theorem ttrl_readNameTerm (w : ev_W) (d : Nat) (hd : 5 ≤ d) (F : Nat → Int → Int → Int → iS → Option (Int × iS)) (hF : trlE_ok w (d - 1) F) (s : iS) : Ew hT w d 111 0 [(0, .ref (tb_nK + 22))] [] s (Cv hT) (trl_readNameTerm F s) := by
  unfold trl_readNameTerm
  refine e_mv 1 em_111 (ce_at ce_111 0 rfl) rfl rfl ?_
  refine e_getr 4 em_111 (ce_at ce_111 1 rfl) tq_22 rfl rfl ?_
  refine e_mv 5 em_111 (ce_at ce_111 2 rfl) rfl rfl ?_
  refine e_getr 8 em_111 (ce_at ce_111 3 rfl) tq_22 rfl rfl ?_
  refine e_get 11 em_111 (ce_at ce_111 4 rfl) tq_2 rfl rfl ?_
  refine e_op 12 em_111 (ce_at ce_111 5 rfl) rfl rfl ?_
  refine e_iadd 13 em_111 rfl (ce_at ce_111 6 rfl) ?_
  refine e_ivi 16 em_111 (ce_at ce_111 7 rfl) (by omega) (iv_v1 (by decide) tq_2 rfl) em_112 (Nat.le_of_ble_eq_true rfl) rfl (ttok_kindOf w (d - 1) (by omega) _ _) (fun r1 s1 => ?_)
  refine e_mv 17 em_111 (ce_at ce_111 8 rfl) rfl rfl ?_
  refine e_mv 18 em_111 (ce_at ce_111 9 rfl) rfl rfl ?_
  refine e_bip 20 em_111 (ce_at ce_111 10 rfl) (by decide) rfl ?_
  refine e_gd fun g2 => ?_
  refine e_cmeq 29 23 em_111 rfl rfl (ce_at ce_111 11 rfl) g2 (by decide) (fun h3 => ?_) (fun h3 => ?_)
  · refine e_pk [0] rfl rfl ?_
    exact ttrl_readNameTerm_29 w d hd F hF _
  · refine e_mv 24 em_111 (ce_at ce_111 12 rfl) rfl rfl ?_
    refine e_bip 26 em_111 (ce_at ce_111 13 rfl) (by decide) rfl ?_
    refine e_cmne 34 29 em_111 rfl rfl (ce_at ce_111 14 rfl) g2 (by decide) (fun h4 => ?_) (fun h4 => ?_)
    · refine e_mv 35 em_111 (ce_at ce_111 18 rfl) rfl rfl ?_
      refine e_mv 36 em_111 (ce_at ce_111 19 rfl) rfl rfl ?_
      refine e_getr 39 em_111 (ce_at ce_111 20 rfl) tq_22 rfl rfl ?_
      refine e_get 42 em_111 (ce_at ce_111 21 rfl) tq_2 rfl rfl ?_
      refine e_ivi 45 em_111 (ce_at ce_111 22 rfl) (by omega) (iv_v1 (by decide) tq_22 rfl) em_105 (Nat.le_of_ble_eq_true rfl) rfl (ttrl_findVariable w (d - 1) (by omega) _ _) (fun r5 s5 => ?_)
      refine e_mv 46 em_111 (ce_at ce_111 23 rfl) rfl rfl ?_
      refine e_mv 47 em_111 (ce_at ce_111 24 rfl) rfl rfl ?_
      refine e_mv 48 em_111 (ce_at ce_111 25 rfl) rfl rfl ?_
      refine e_mv 49 em_111 (ce_at ce_111 26 rfl) rfl rfl ?_
      refine e_getr 52 em_111 (ce_at ce_111 27 rfl) tq_22 rfl rfl ?_
      refine e_get 55 em_111 (ce_at ce_111 28 rfl) tq_2 rfl rfl ?_
      refine e_ivv 58 em_111 (ce_at ce_111 29 rfl) (by omega) (iv_v2 (by decide) tq_22 rfl) em_106 (Nat.le_of_ble_eq_true rfl) rfl (ttrl_checkVariable w (d - 1) (by omega) _ _ _) (fun r6 s6 => ?_)
      refine e_mv 59 em_111 (ce_at ce_111 30 rfl) rfl rfl ?_
      refine e_op 60 em_111 (ce_at ce_111 31 rfl) rfl rfl ?_
      refine e_mv 61 em_111 (ce_at ce_111 32 rfl) rfl rfl ?_
      refine e_ivv 64 em_111 (ce_at ce_111 33 rfl) (by omega) (iv_v2 (by decide) tq_22 rfl) em_107 (Nat.le_of_ble_eq_true rfl) rfl (ttrl_addVariable w (d - 1) (by omega) _ _ _) (fun r7 s7 => ?_)
      refine e_mv 65 em_111 (ce_at ce_111 34 rfl) rfl rfl ?_
      refine e_getr 68 em_111 (ce_at ce_111 35 rfl) tq_22 rfl rfl ?_
      refine e_op 69 em_111 (ce_at ce_111 36 rfl) rfl rfl ?_
      refine e_get 72 em_111 (ce_at ce_111 37 rfl) tq_2 rfl rfl ?_
      refine e_op 73 em_111 (ce_at ce_111 38 rfl) rfl rfl ?_
      refine e_iadd 74 em_111 rfl (ce_at ce_111 39 rfl) ?_
      refine e_put 77 em_111 (ce_at ce_111 40 rfl) tq_2 rfl rfl rfl (fun s8 => ?_)
      refine e_mv 78 em_111 (ce_at ce_111 41 rfl) rfl rfl ?_
      refine e_bip 80 em_111 (ce_at ce_111 42 rfl) (by decide) rfl ?_
      refine e_cmne 108 83 em_111 rfl rfl (ce_at ce_111 43 rfl) g2 (by decide) (fun h9 => ?_) (fun h9 => ?_)
      · exact e_retv em_111 (ce_at ce_111 58 rfl)
      · refine e_mv 84 em_111 (ce_at ce_111 44 rfl) rfl rfl ?_
        refine e_ivv 87 em_111 (ce_at ce_111 45 rfl) (by omega) (iv_v0 (by decide) tq_22 rfl) em_108 (Nat.le_of_ble_eq_true rfl) rfl (hF.1  _) (fun r10 s10 => ?_)
        refine e_mv 88 em_111 (ce_at ce_111 46 rfl) rfl rfl ?_
        refine e_getr 91 em_111 (ce_at ce_111 47 rfl) tq_22 rfl rfl ?_
        refine e_op 92 em_111 (ce_at ce_111 48 rfl) rfl rfl ?_
        refine e_bip 94 em_111 (ce_at ce_111 49 rfl) (by decide) rfl ?_
        refine e_op 95 em_111 (ce_at ce_111 50 rfl) rfl rfl ?_
        refine e_ivv 98 em_111 (ce_at ce_111 51 rfl) (by omega) (iv_v3 (by decide) tq_14 rfl) em_99 (Nat.le_of_ble_eq_true rfl) rfl (tprg_add w (d - 1) (by omega) _ _ _ _) (fun r11 s11 => ?_)
        refine e_mv 99 em_111 (ce_at ce_111 52 rfl) rfl rfl ?_
        refine e_getr 102 em_111 (ce_at ce_111 53 rfl) tq_22 rfl rfl ?_
        refine e_op 103 em_111 (ce_at ce_111 54 rfl) rfl rfl ?_
        refine e_op 104 em_111 (ce_at ce_111 55 rfl) rfl rfl ?_
        refine e_op 105 em_111 (ce_at ce_111 56 rfl) rfl rfl ?_
        refine e_ivv 108 em_111 (ce_at ce_111 57 rfl) (by omega) (iv_v3 (by decide) tq_14 rfl) em_99 (Nat.le_of_ble_eq_true rfl) rfl (tprg_add w (d - 1) (by omega) _ _ _ _) (fun r12 s12 => ?_)
        exact e_retv em_111 (ce_at ce_111 58 rfl)
    · refine e_pk [0] rfl rfl ?_
      exact ttrl_readNameTerm_29 w d hd F hF _
theorem ftrl_readNameTerm (F : Nat → Int → Int → Int → iS → Option (Int × iS)) (hF : ∀ (t : Nat) (a b c : Int) (s : iS), Fm Prod.snd L_trlE G_trlE s (F t a b c s)) (s : iS) : Fm Prod.snd L_trlE G_trlE s (trl_readNameTerm F s) := fm_bd (fm_sub (ftok_kindOf _ _) (mem_sub_L rfl) (mem_sub_F rfl)) (fun r1 s1 => fm_gd (fm_if (ftrl_readNameTerm_29 F hF _) (fm_if (ftrl_readNameTerm_29 F hF _) (fm_bd (fm_sub (ftrl_findVariable _ _) (mem_sub_L rfl) (mem_sub_F rfl)) (fun r5 s5 => fm_bd (fm_sub (ftrl_checkVariable _ _ _) (mem_sub_L rfl) (mem_sub_F rfl)) (fun r6 s6 => fm_bd (fm_sub (ftrl_addVariable _ _ _) (mem_sub_L rfl) (mem_sub_F rfl)) (fun r7 s7 => fm_lt (md_upF (mem_F rfl)) (fun s8 => fm_if (fm_bd (hF 0 _ _ _ _) (fun r10 s10 => fm_bd (fm_sub (fprg_add _ _ _ _) (mem_sub_L rfl) (mem_sub_F rfl)) (fun r11 s11 => fm_bd (fm_sub (fprg_add _ _ _ _) (mem_sub_L rfl) (mem_sub_F rfl)) (fun r12 s12 => fm_some md_refl)))) (fm_some md_refl)))))))))
/-! scp_roleOf -/
def L_scp_roleOf : List Nat := []
def G_scp_roleOf : List (Nat × Nat) := []
noncomputable def scp_roleOf (v1 : Int) (s : iS) : Option (Int × iS) := gd (rg v1) (if v1 < 0 then some (258, s) else gd (rg (s 27 2)) (if (s 27 2) ≤ v1 then some (258, s) else gd (0 ≤ v1 ∧ v1 < 100) (some ((s 32 v1.toNat), s))))
theorem tscp_roleOf (w : ev_W) (d : Nat) (hd : 0 ≤ d) (v1 : Int) (s : iS) : Ew hT w d 118 0 [(0, .ref (tb_nK + 23)), (1, iv v1)] [] s (Ci hT) (scp_roleOf v1 s) := by
  unfold scp_roleOf
  refine e_mv 1 em_118 (ce_at ce_118 0 rfl) rfl rfl ?_
  refine e_gd fun g1 => ?_
  refine e_iflt 24 4 em_118 rfl rfl (ce_at ce_118 1 rfl) g1 (fun h2 => ?_) (fun h2 => ?_)
  · refine e_sip 27 em_118 (ce_at ce_118 12 rfl) (by decide) rfl ?_
    exact e_reti em_118 (ce_at ce_118 13 rfl)
  · refine e_mv 5 em_118 (ce_at ce_118 2 rfl) rfl rfl ?_
    refine e_mv 6 em_118 (ce_at ce_118 3 rfl) rfl rfl ?_
    refine e_getr 9 em_118 (ce_at ce_118 4 rfl) tq_23 rfl rfl ?_
    refine e_get 12 em_118 (ce_at ce_118 5 rfl) tq_27 rfl rfl ?_
    refine e_gd fun g3 => ?_
    refine e_cmge 24 15 em_118 rfl rfl (ce_at ce_118 6 rfl) g1 g3 (fun h4 => ?_) (fun h4 => ?_)
    · refine e_sip 27 em_118 (ce_at ce_118 12 rfl) (by decide) rfl ?_
      exact e_reti em_118 (ce_at ce_118 13 rfl)
    · refine e_mv 16 em_118 (ce_at ce_118 7 rfl) rfl rfl ?_
      refine e_getr 19 em_118 (ce_at ce_118 8 rfl) tq_23 rfl rfl ?_
      refine e_mv 20 em_118 (ce_at ce_118 9 rfl) rfl rfl ?_
      refine e_gd fun g5 => ?_
      refine e_ild 21 em_118 (ce_at ce_118 10 rfl) tq_32 (by decide) g5 rfl ?_
      refine e_goto em_118 27 (ce_at ce_118 11 rfl) rfl ?_
      exact e_reti em_118 (ce_at ce_118 13 rfl)
theorem fscp_roleOf (v1 : Int) (s : iS) : Fm Prod.snd L_scp_roleOf G_scp_roleOf s (scp_roleOf v1 s) := fm_gd (fm_if (fm_some md_refl) (fm_gd (fm_if (fm_some md_refl) (fm_gd (fm_some md_refl)))))
/-! scp_parametersOf -/
def L_scp_parametersOf : List Nat := []
def G_scp_parametersOf : List (Nat × Nat) := []
noncomputable def scp_parametersOf (v1 : Int) (s : iS) : Option (Int × iS) := gd (rg v1) (if v1 < 0 then some (0, s) else gd (rg (s 27 2)) (if (s 27 2) ≤ v1 then some (0, s) else gd (0 ≤ v1 ∧ v1 < 100) (some ((s 31 v1.toNat), s))))
theorem tscp_parametersOf (w : ev_W) (d : Nat) (hd : 0 ≤ d) (v1 : Int) (s : iS) : Ew hT w d 119 0 [(0, .ref (tb_nK + 23)), (1, iv v1)] [] s (Ci hT) (scp_parametersOf v1 s) := by
  unfold scp_parametersOf
  refine e_mv 1 em_119 (ce_at ce_119 0 rfl) rfl rfl ?_
  refine e_gd fun g1 => ?_
  refine e_iflt 24 4 em_119 rfl rfl (ce_at ce_119 1 rfl) g1 (fun h2 => ?_) (fun h2 => ?_)
  · refine e_op 25 em_119 (ce_at ce_119 12 rfl) rfl rfl ?_
    exact e_reti em_119 (ce_at ce_119 13 rfl)
  · refine e_mv 5 em_119 (ce_at ce_119 2 rfl) rfl rfl ?_
    refine e_mv 6 em_119 (ce_at ce_119 3 rfl) rfl rfl ?_
    refine e_getr 9 em_119 (ce_at ce_119 4 rfl) tq_23 rfl rfl ?_
    refine e_get 12 em_119 (ce_at ce_119 5 rfl) tq_27 rfl rfl ?_
    refine e_gd fun g3 => ?_
    refine e_cmge 24 15 em_119 rfl rfl (ce_at ce_119 6 rfl) g1 g3 (fun h4 => ?_) (fun h4 => ?_)
    · refine e_op 25 em_119 (ce_at ce_119 12 rfl) rfl rfl ?_
      exact e_reti em_119 (ce_at ce_119 13 rfl)
    · refine e_mv 16 em_119 (ce_at ce_119 7 rfl) rfl rfl ?_
      refine e_getr 19 em_119 (ce_at ce_119 8 rfl) tq_23 rfl rfl ?_
      refine e_mv 20 em_119 (ce_at ce_119 9 rfl) rfl rfl ?_
      refine e_gd fun g5 => ?_
      refine e_ild 21 em_119 (ce_at ce_119 10 rfl) tq_31 (by decide) g5 rfl ?_
      refine e_goto em_119 25 (ce_at ce_119 11 rfl) rfl ?_
      exact e_reti em_119 (ce_at ce_119 13 rfl)
theorem fscp_parametersOf (v1 : Int) (s : iS) : Fm Prod.snd L_scp_parametersOf G_scp_parametersOf s (scp_parametersOf v1 s) := fm_gd (fm_if (fm_some md_refl) (fm_gd (fm_if (fm_some md_refl) (fm_gd (fm_some md_refl)))))
/-! trl_checkSub -/
def L_trl_checkSub : List Nat := []
def G_trl_checkSub : List (Nat × Nat) := [(2, 13), (2, 14)]
noncomputable def trl_checkSub_57 (v2 : Int) (s : iS) : Option (Int × iS) := bd (tok_blame 5 v2 s) (fun _ s1 => some (0, s1))
theorem ttrl_checkSub_57 (w : ev_W) (d : Nat) (hd : 1 ≤ d) (v2 : Int) (s : iS) : Ew hT w d 117 57 [(0, .ref (tb_nK + 22)), (2, iv v2)] [] s (Cv hT) (trl_checkSub_57 v2 s) := by
  unfold trl_checkSub_57
  refine e_mv 58 em_117 (ce_at ce_117 28 rfl) rfl rfl ?_
  refine e_getr 61 em_117 (ce_at ce_117 29 rfl) tq_22 rfl rfl ?_
  refine e_op 62 em_117 (ce_at ce_117 30 rfl) rfl rfl ?_
  refine e_mv 63 em_117 (ce_at ce_117 31 rfl) rfl rfl ?_
  refine e_ivv 66 em_117 (ce_at ce_117 32 rfl) (by omega) (iv_v2 (by decide) tq_2 rfl) em_77 (Nat.le_of_ble_eq_true rfl) rfl (ttok_blame w (d - 1) (by omega) _ _ _) (fun r1 s1 => ?_)
  exact e_retv em_117 (ce_at ce_117 33 rfl)
theorem ftrl_checkSub_57 (v2 : Int) (s : iS) : Fm Prod.snd L_trl_checkSub G_trl_checkSub s (trl_checkSub_57 v2 s) := fm_bd (fm_sub (ftok_blame _ _ _) (mem_sub_L rfl) (mem_sub_F rfl)) (fun r1 s1 => fm_some md_refl)
noncomputable def trl_checkSub_19 (v1 : Int) (v2 : Int) (v3 : Int) (v4 : Int) (t0 : Int) (s : iS) : Option (Int × iS) := gd (rg v1) (if v1 = (-1) then bd (tok_blame 4 v2 s) (fun _ s10 => some (0, s10)) else gd (rg t0) (gd (rg v3) (if t0 = v3 then bd (scp_parametersOf v1 s) (fun r6 s6 => gd (rg r6) (gd (rg v4) (if r6 = v4 then some (0, s6) else trl_checkSub_57 v2 s6))) else trl_checkSub_57 v2 s)))
theorem ttrl_checkSub_19 (w : ev_W) (d : Nat) (hd : 1 ≤ d) (v1 : Int) (v2 : Int) (v3 : Int) (v4 : Int) (t0 : Int) (s : iS) : Ew hT w d 117 19 [(0, .ref (tb_nK + 22)), (1, iv v1), (2, iv v2), (3, iv v3), (4, iv v4)] [iv t0] s (Cv hT) (trl_checkSub_19 v1 v2 v3 v4 t0 s) := by
  unfold trl_checkSub_19
  refine e_mv 21 em_117 (ce_at ce_117 9 rfl) rfl rfl ?_
  refine e_mv 22 em_117 (ce_at ce_117 10 rfl) rfl rfl ?_
  refine e_op 23 em_117 (ce_at ce_117 11 rfl) rfl rfl ?_
  refine e_gd fun g1 => ?_
  refine e_cmne 38 26 em_117 rfl rfl (ce_at ce_117 12 rfl) g1 (by decide) (fun h2 => ?_) (fun h2 => ?_)
  · refine e_mv 40 em_117 (ce_at ce_117 19 rfl) rfl rfl ?_
    refine e_mv 41 em_117 (ce_at ce_117 20 rfl) rfl rfl ?_
    refine e_gd fun g3 => ?_
    refine e_gd fun g4 => ?_
    refine e_cmne 57 44 em_117 rfl rfl (ce_at ce_117 21 rfl) g3 g4 (fun h5 => ?_) (fun h5 => ?_)
    · refine e_pk [0, 2] rfl rfl ?_
      exact ttrl_checkSub_57 w d hd _ _
    · refine e_mv 45 em_117 (ce_at ce_117 22 rfl) rfl rfl ?_
      refine e_getr 48 em_117 (ce_at ce_117 23 rfl) tq_22 rfl rfl ?_
      refine e_mv 49 em_117 (ce_at ce_117 24 rfl) rfl rfl ?_
      refine e_ivi 52 em_117 (ce_at ce_117 25 rfl) (by omega) (iv_v1 (by decide) tq_23 rfl) em_119 (Nat.le_of_ble_eq_true rfl) rfl (tscp_parametersOf w (d - 1) (by omega) _ _) (fun r6 s6 => ?_)
      refine e_mv 54 em_117 (ce_at ce_117 26 rfl) rfl rfl ?_
      refine e_gd fun g7 => ?_
      refine e_gd fun g8 => ?_
      refine e_cmeq 66 57 em_117 rfl rfl (ce_at ce_117 27 rfl) g7 g8 (fun h9 => ?_) (fun h9 => ?_)
      · exact e_retv em_117 (ce_at ce_117 33 rfl)
      · refine e_pk [0, 2] rfl rfl ?_
        exact ttrl_checkSub_57 w d hd _ _
  · refine e_mv 27 em_117 (ce_at ce_117 13 rfl) rfl rfl ?_
    refine e_getr 30 em_117 (ce_at ce_117 14 rfl) tq_22 rfl rfl ?_
    refine e_op 31 em_117 (ce_at ce_117 15 rfl) rfl rfl ?_
    refine e_mv 32 em_117 (ce_at ce_117 16 rfl) rfl rfl ?_
    refine e_ivv 35 em_117 (ce_at ce_117 17 rfl) (by omega) (iv_v2 (by decide) tq_2 rfl) em_77 (Nat.le_of_ble_eq_true rfl) rfl (ttok_blame w (d - 1) (by omega) _ _ _) (fun r10 s10 => ?_)
    refine e_goto em_117 66 (ce_at ce_117 18 rfl) rfl ?_
    exact e_retv em_117 (ce_at ce_117 33 rfl)
theorem ftrl_checkSub_19 (v1 : Int) (v2 : Int) (v3 : Int) (v4 : Int) (t0 : Int) (s : iS) : Fm Prod.snd L_trl_checkSub G_trl_checkSub s (trl_checkSub_19 v1 v2 v3 v4 t0 s) := fm_gd (fm_if (fm_bd (fm_sub (ftok_blame _ _ _) (mem_sub_L rfl) (mem_sub_F rfl)) (fun r10 s10 => fm_some md_refl)) (fm_gd (fm_gd (fm_if (fm_bd (fm_sub (fscp_parametersOf _ _) (mem_sub_L rfl) (mem_sub_F rfl)) (fun r6 s6 => fm_gd (fm_gd (fm_if (fm_some md_refl) (ftrl_checkSub_57 _ _))))) (ftrl_checkSub_57 _ _)))))
noncomputable def trl_checkSub (v1 : Int) (v2 : Int) (v3 : Int) (v4 : Int) (s : iS) : Option (Int × iS) := bd (scp_roleOf v1 s) (fun r1 s1 => gd (rg r1) (if r1 = 259 then trl_checkSub_19 v1 v2 v3 v4 1 s1 else trl_checkSub_19 v1 v2 v3 v4 0 s1))
theorem ttrl_checkSub (w : ev_W) (d : Nat) (hd : 1 ≤ d) (v1 : Int) (v2 : Int) (v3 : Int) (v4 : Int) (s : iS) : Ew hT w d 117 0 [(0, .ref (tb_nK + 22)), (1, iv v1), (2, iv v2), (3, iv v3), (4, iv v4)] [] s (Cv hT) (trl_checkSub v1 v2 v3 v4 s) := by
  unfold trl_checkSub
  refine e_mv 1 em_117 (ce_at ce_117 0 rfl) rfl rfl ?_
  refine e_getr 4 em_117 (ce_at ce_117 1 rfl) tq_22 rfl rfl ?_
  refine e_mv 5 em_117 (ce_at ce_117 2 rfl) rfl rfl ?_
  refine e_ivi 8 em_117 (ce_at ce_117 3 rfl) (by omega) (iv_v1 (by decide) tq_23 rfl) em_118 (Nat.le_of_ble_eq_true rfl) rfl (tscp_roleOf w (d - 1) (by omega) _ _) (fun r1 s1 => ?_)
  refine e_sip 11 em_117 (ce_at ce_117 4 rfl) (by decide) rfl ?_
  refine e_gd fun g2 => ?_
  refine e_cmne 18 14 em_117 rfl rfl (ce_at ce_117 5 rfl) g2 (by decide) (fun h3 => ?_) (fun h3 => ?_)
  · refine e_op 19 em_117 (ce_at ce_117 8 rfl) rfl rfl ?_
    refine e_pk [0, 1, 2, 3, 4] rfl rfl ?_
    exact ttrl_checkSub_19 w d hd _ _ _ _ _ _
  · refine e_op 15 em_117 (ce_at ce_117 6 rfl) rfl rfl ?_
    refine e_goto em_117 19 (ce_at ce_117 7 rfl) rfl ?_
    refine e_pk [0, 1, 2, 3, 4] rfl rfl ?_
    exact ttrl_checkSub_19 w d hd _ _ _ _ _ _
theorem ftrl_checkSub (v1 : Int) (v2 : Int) (v3 : Int) (v4 : Int) (s : iS) : Fm Prod.snd L_trl_checkSub G_trl_checkSub s (trl_checkSub v1 v2 v3 v4 s) := fm_bd (fm_sub (fscp_roleOf _ _) (mem_sub_L rfl) (mem_sub_F rfl)) (fun r1 s1 => fm_gd (fm_if (ftrl_checkSub_19 _ _ _ _ _ _) (ftrl_checkSub_19 _ _ _ _ _ _)))
/-! trl_ownerOf -/
def L_trl_ownerOf : List Nat := []
def G_trl_ownerOf : List (Nat × Nat) := [(2, 13), (2, 14)]
noncomputable def trl_ownerOf (v1 : Int) (v2 : Int) (s : iS) : Option (Int × iS) := gd (rg v1) (if v1 = (-1) then bd (tok_findIn 24 25 26 20 v2 0 20 s) (fun r3 s3 => gd (rg (s3 22 4)) (if (s3 22 4) = 0 then some (r3, s3) else gd (rg r3) (if r3 = (-1) then bd (tok_blame 4 v2 s3) (fun _ s8 => some ((-2), s8)) else some (r3, s3)))) else gd (0 ≤ v1 ∧ v1 < 48) (some ((s 36 v1.toNat), s)))
theorem ttrl_ownerOf (w : ev_W) (d : Nat) (hd : 2 ≤ d) (v1 : Int) (v2 : Int) (s : iS) : Ew hT w d 116 0 [(0, .ref (tb_nK + 22)), (1, iv v1), (2, iv v2)] [] s (Ci hT) (trl_ownerOf v1 v2 s) := by
  unfold trl_ownerOf
  refine e_mv 1 em_116 (ce_at ce_116 0 rfl) rfl rfl ?_
  refine e_op 2 em_116 (ce_at ce_116 1 rfl) rfl rfl ?_
  refine e_gd fun g1 => ?_
  refine e_cmeq 15 5 em_116 rfl rfl (ce_at ce_116 2 rfl) g1 (by decide) (fun h2 => ?_) (fun h2 => ?_)
  · refine e_mv 16 em_116 (ce_at ce_116 9 rfl) rfl rfl ?_
    refine e_getr 19 em_116 (ce_at ce_116 10 rfl) tq_22 rfl rfl ?_
    refine e_mv 20 em_116 (ce_at ce_116 11 rfl) rfl rfl ?_
    refine e_getr 23 em_116 (ce_at ce_116 12 rfl) tq_22 rfl rfl ?_
    refine e_getr 26 em_116 (ce_at ce_116 13 rfl) tq_23 rfl rfl ?_
    refine e_mv 27 em_116 (ce_at ce_116 14 rfl) rfl rfl ?_
    refine e_op 28 em_116 (ce_at ce_116 15 rfl) rfl rfl ?_
    refine e_bip 30 em_116 (ce_at ce_116 16 rfl) (by decide) rfl ?_
    refine e_ivi 33 em_116 (ce_at ce_116 17 rfl) (by omega) (iv_v4 (by decide) tq_2 rfl) em_76 (Nat.le_of_ble_eq_true rfl) rfl (ttok_findIn w (d - 1) (by omega) 24 25 26 20 tq_24 tq_25 tq_26 (by decide) _ _ _ _) (fun r3 s3 => ?_)
    refine e_mv 34 em_116 (ce_at ce_116 18 rfl) rfl rfl ?_
    refine e_mv 35 em_116 (ce_at ce_116 19 rfl) rfl rfl ?_
    refine e_get 38 em_116 (ce_at ce_116 20 rfl) tq_22 rfl rfl ?_
    refine e_gd fun g4 => ?_
    refine e_ifeq 58 41 em_116 rfl rfl (ce_at ce_116 21 rfl) g4 (fun h5 => ?_) (fun h5 => ?_)
    · refine e_mv 59 em_116 (ce_at ce_116 32 rfl) rfl rfl ?_
      exact e_reti em_116 (ce_at ce_116 33 rfl)
    · refine e_mv 42 em_116 (ce_at ce_116 22 rfl) rfl rfl ?_
      refine e_op 43 em_116 (ce_at ce_116 23 rfl) rfl rfl ?_
      refine e_gd fun g6 => ?_
      refine e_cmne 58 46 em_116 rfl rfl (ce_at ce_116 24 rfl) g6 (by decide) (fun h7 => ?_) (fun h7 => ?_)
      · refine e_mv 59 em_116 (ce_at ce_116 32 rfl) rfl rfl ?_
        exact e_reti em_116 (ce_at ce_116 33 rfl)
      · refine e_mv 47 em_116 (ce_at ce_116 25 rfl) rfl rfl ?_
        refine e_getr 50 em_116 (ce_at ce_116 26 rfl) tq_22 rfl rfl ?_
        refine e_op 51 em_116 (ce_at ce_116 27 rfl) rfl rfl ?_
        refine e_mv 52 em_116 (ce_at ce_116 28 rfl) rfl rfl ?_
        refine e_ivv 55 em_116 (ce_at ce_116 29 rfl) (by omega) (iv_v2 (by decide) tq_2 rfl) em_77 (Nat.le_of_ble_eq_true rfl) rfl (ttok_blame w (d - 1) (by omega) _ _ _) (fun r8 s8 => ?_)
        refine e_bip 57 em_116 (ce_at ce_116 30 rfl) (by decide) rfl ?_
        exact e_reti em_116 (ce_at ce_116 31 rfl)
  · refine e_mv 6 em_116 (ce_at ce_116 3 rfl) rfl rfl ?_
    refine e_getr 9 em_116 (ce_at ce_116 4 rfl) tq_22 rfl rfl ?_
    refine e_getr 12 em_116 (ce_at ce_116 5 rfl) tq_23 rfl rfl ?_
    refine e_mv 13 em_116 (ce_at ce_116 6 rfl) rfl rfl ?_
    refine e_gd fun g9 => ?_
    refine e_ild 14 em_116 (ce_at ce_116 7 rfl) tq_36 (by decide) g9 rfl ?_
    exact e_reti em_116 (ce_at ce_116 8 rfl)
theorem ftrl_ownerOf (v1 : Int) (v2 : Int) (s : iS) : Fm Prod.snd L_trl_ownerOf G_trl_ownerOf s (trl_ownerOf v1 v2 s) := fm_gd (fm_if (fm_bd (fm_sub (ftok_findIn 24 25 26 20 _ _ _ _) (mem_sub_L rfl) (mem_sub_F rfl)) (fun r3 s3 => fm_gd (fm_if (fm_some md_refl) (fm_gd (fm_if (fm_bd (fm_sub (ftok_blame _ _ _) (mem_sub_L rfl) (mem_sub_F rfl)) (fun r8 s8 => fm_some md_refl)) (fm_some md_refl)))))) (fm_gd (fm_some md_refl)))
/-! trl_readCall -/
noncomputable def trl_readCall_267 (F : Nat → Int → Int → Int → iS → Option (Int × iS)) (v8 : Int) (t0 : Int) (t1 : Int) (t2 : Int) (s : iS) : Option (Int × iS) := bd (prg_add t2 t1 t0 s) (fun _ s1 => bd (prg_aim v8 s1) (fun _ s2 => some (0, s2)))
theorem ttrl_readCall_267 (w : ev_W) (d : Nat) (hd : 5 ≤ d) (F : Nat → Int → Int → Int → iS → Option (Int × iS)) (hF : trlE_ok w (d - 1) F) (v8 : Int) (t0 : Int) (t1 : Int) (t2 : Int) (s : iS) : Ew hT w d 113 267 [(0, .ref (tb_nK + 22)), (8, iv v8)] [iv t0, iv t1, iv t2, .ref (tb_nK + 14)] s (Cv hT) (trl_readCall_267 F v8 t0 t1 t2 s) := by
  unfold trl_readCall_267
  refine e_ivv 270 em_113 (ce_at ce_113 139 rfl) (by omega) (iv_v3 (by decide) tq_14 rfl) em_99 (Nat.le_of_ble_eq_true rfl) rfl (tprg_add w (d - 1) (by omega) _ _ _ _) (fun r1 s1 => ?_)
  refine e_mv 271 em_113 (ce_at ce_113 140 rfl) rfl rfl ?_
  refine e_getr 274 em_113 (ce_at ce_113 141 rfl) tq_22 rfl rfl ?_
  refine e_mv 276 em_113 (ce_at ce_113 142 rfl) rfl rfl ?_
  refine e_ivv 279 em_113 (ce_at ce_113 143 rfl) (by omega) (iv_v1 (by decide) tq_14 rfl) em_100 (Nat.le_of_ble_eq_true rfl) rfl (tprg_aim w (d - 1) (by omega) _ _) (fun r2 s2 => ?_)
  exact e_retv em_113 (ce_at ce_113 144 rfl)
theorem ftrl_readCall_267 (F : Nat → Int → Int → Int → iS → Option (Int × iS)) (hF : ∀ (t : Nat) (a b c : Int) (s : iS), Fm Prod.snd L_trlE G_trlE s (F t a b c s)) (v8 : Int) (t0 : Int) (t1 : Int) (t2 : Int) (s : iS) : Fm Prod.snd L_trlE G_trlE s (trl_readCall_267 F v8 t0 t1 t2 s) := fm_bd (fm_sub (fprg_add _ _ _ _) (mem_sub_L rfl) (mem_sub_F rfl)) (fun r1 s1 => fm_bd (fm_sub (fprg_aim _ _) (mem_sub_L rfl) (mem_sub_F rfl)) (fun r2 s2 => fm_some md_refl))
noncomputable def trl_readCall_212 (F : Nat → Int → Int → Int → iS → Option (Int × iS)) (v4 : Int) (v5 : Int) (v6 : Int) (t0 : Int) (s : iS) : Option (Int × iS) := bd (trl_findSub v6 t0 s) (fun r1 s1 => bd (trl_checkSub r1 t0 v4 v5 s1) (fun _ s2 => bd (scp_numberOf v6 r1 s2) (fun r3 s3 => gd (rg v4) (if v4 = 0 then trl_readCall_267 F r1 v5 r3 15 s3 else trl_readCall_267 F r1 (v5 + 1) r3 15 s3))))
theorem ttrl_readCall_212 (w : ev_W) (d : Nat) (hd : 5 ≤ d) (F : Nat → Int → Int → Int → iS → Option (Int × iS)) (hF : trlE_ok w (d - 1) F) (v4 : Int) (v5 : Int) (v6 : Int) (t0 : Int) (s : iS) : Ew hT w d 113 212 [(0, .ref (tb_nK + 22)), (4, iv v4), (5, iv v5), (6, iv v6)] [iv t0] s (Cv hT) (trl_readCall_212 F v4 v5 v6 t0 s) := by
  unfold trl_readCall_212
  refine e_mv 214 em_113 (ce_at ce_113 112 rfl) rfl rfl ?_
  refine e_mv 215 em_113 (ce_at ce_113 113 rfl) rfl rfl ?_
  refine e_mv 217 em_113 (ce_at ce_113 114 rfl) rfl rfl ?_
  refine e_mv 219 em_113 (ce_at ce_113 115 rfl) rfl rfl ?_
  refine e_ivi 222 em_113 (ce_at ce_113 116 rfl) (by omega) (iv_v2 (by decide) tq_22 rfl) em_92 (Nat.le_of_ble_eq_true rfl) rfl (ttrl_findSub w (d - 1) (by omega) _ _ _) (fun r1 s1 => ?_)
  refine e_mv 224 em_113 (ce_at ce_113 117 rfl) rfl rfl ?_
  refine e_mv 225 em_113 (ce_at ce_113 118 rfl) rfl rfl ?_
  refine e_mv 227 em_113 (ce_at ce_113 119 rfl) rfl rfl ?_
  refine e_mv 229 em_113 (ce_at ce_113 120 rfl) rfl rfl ?_
  refine e_mv 231 em_113 (ce_at ce_113 121 rfl) rfl rfl ?_
  refine e_mv 233 em_113 (ce_at ce_113 122 rfl) rfl rfl ?_
  refine e_ivv 236 em_113 (ce_at ce_113 123 rfl) (by omega) (iv_v4 (by decide) tq_22 rfl) em_117 (Nat.le_of_ble_eq_true rfl) rfl (ttrl_checkSub w (d - 1) (by omega) _ _ _ _ _) (fun r2 s2 => ?_)
  refine e_mv 237 em_113 (ce_at ce_113 124 rfl) rfl rfl ?_
  refine e_getr 240 em_113 (ce_at ce_113 125 rfl) tq_22 rfl rfl ?_
  refine e_bip 242 em_113 (ce_at ce_113 126 rfl) (by decide) rfl ?_
  refine e_mv 243 em_113 (ce_at ce_113 127 rfl) rfl rfl ?_
  refine e_getr 246 em_113 (ce_at ce_113 128 rfl) tq_22 rfl rfl ?_
  refine e_mv 248 em_113 (ce_at ce_113 129 rfl) rfl rfl ?_
  refine e_mv 250 em_113 (ce_at ce_113 130 rfl) rfl rfl ?_
  refine e_ivi 253 em_113 (ce_at ce_113 131 rfl) (by omega) (iv_v2 (by decide) tq_23 rfl) em_98 (Nat.le_of_ble_eq_true rfl) rfl (tscp_numberOf w (d - 1) (by omega) _ _ _) (fun r3 s3 => ?_)
  refine e_mv 255 em_113 (ce_at ce_113 132 rfl) rfl rfl ?_
  refine e_gd fun g4 => ?_
  refine e_ifeq 265 258 em_113 rfl rfl (ce_at ce_113 133 rfl) g4 (fun h5 => ?_) (fun h5 => ?_)
  · refine e_mv 267 em_113 (ce_at ce_113 138 rfl) rfl rfl ?_
    refine e_pk [0, 8] rfl rfl ?_
    exact ttrl_readCall_267 w d hd F hF _ _ _ _ _
  · refine e_mv 260 em_113 (ce_at ce_113 134 rfl) rfl rfl ?_
    refine e_op 261 em_113 (ce_at ce_113 135 rfl) rfl rfl ?_
    refine e_iadd 262 em_113 rfl (ce_at ce_113 136 rfl) ?_
    refine e_goto em_113 267 (ce_at ce_113 137 rfl) rfl ?_
    refine e_pk [0, 8] rfl rfl ?_
    exact ttrl_readCall_267 w d hd F hF _ _ _ _ _
theorem ftrl_readCall_212 (F : Nat → Int → Int → Int → iS → Option (Int × iS)) (hF : ∀ (t : Nat) (a b c : Int) (s : iS), Fm Prod.snd L_trlE G_trlE s (F t a b c s)) (v4 : Int) (v5 : Int) (v6 : Int) (t0 : Int) (s : iS) : Fm Prod.snd L_trlE G_trlE s (trl_readCall_212 F v4 v5 v6 t0 s) := fm_bd (fm_sub (ftrl_findSub _ _ _) (mem_sub_L rfl) (mem_sub_F rfl)) (fun r1 s1 => fm_bd (fm_sub (ftrl_checkSub _ _ _ _ _) (mem_sub_L rfl) (mem_sub_F rfl)) (fun r2 s2 => fm_bd (fm_sub (fscp_numberOf _ _ _) (mem_sub_L rfl) (mem_sub_F rfl)) (fun r3 s3 => fm_gd (fm_if (ftrl_readCall_267 F hF _ _ _ _ _) (ftrl_readCall_267 F hF _ _ _ _ _)))))
noncomputable def trl_readCall_185 (F : Nat → Int → Int → Int → iS → Option (Int × iS)) (v1 : Int) (v2 : Int) (v4 : Int) (v5 : Int) (t0 : Int) (s : iS) : Option (Int × iS) := gd (rg (s 22 4)) (if (s 22 4) = 0 then some (0, s) else gd (rg t0) (if t0 = (-2) then some (0, s) else gd (rg v2) (if v2 = 0 then trl_readCall_212 F v4 v5 t0 v1 s else trl_readCall_212 F v4 v5 t0 (v1 + 2) s)))
theorem ttrl_readCall_185 (w : ev_W) (d : Nat) (hd : 5 ≤ d) (F : Nat → Int → Int → Int → iS → Option (Int × iS)) (hF : trlE_ok w (d - 1) F) (v1 : Int) (v2 : Int) (v4 : Int) (v5 : Int) (t0 : Int) (s : iS) : Ew hT w d 113 185 [(0, .ref (tb_nK + 22)), (1, iv v1), (2, iv v2), (4, iv v4), (5, iv v5)] [iv t0] s (Cv hT) (trl_readCall_185 F v1 v2 v4 v5 t0 s) := by
  unfold trl_readCall_185
  refine e_mv 187 em_113 (ce_at ce_113 98 rfl) rfl rfl ?_
  refine e_mv 188 em_113 (ce_at ce_113 99 rfl) rfl rfl ?_
  refine e_get 191 em_113 (ce_at ce_113 100 rfl) tq_22 rfl rfl ?_
  refine e_gd fun g1 => ?_
  refine e_ifeq 279 194 em_113 rfl rfl (ce_at ce_113 101 rfl) g1 (fun h2 => ?_) (fun h2 => ?_)
  · exact e_retv em_113 (ce_at ce_113 144 rfl)
  · refine e_mv 196 em_113 (ce_at ce_113 102 rfl) rfl rfl ?_
    refine e_bip 198 em_113 (ce_at ce_113 103 rfl) (by decide) rfl ?_
    refine e_gd fun g3 => ?_
    refine e_cmeq 279 201 em_113 rfl rfl (ce_at ce_113 104 rfl) g3 (by decide) (fun h4 => ?_) (fun h4 => ?_)
    · exact e_retv em_113 (ce_at ce_113 144 rfl)
    · refine e_mv 202 em_113 (ce_at ce_113 105 rfl) rfl rfl ?_
      refine e_gd fun g5 => ?_
      refine e_ifeq 211 205 em_113 rfl rfl (ce_at ce_113 106 rfl) g5 (fun h6 => ?_) (fun h6 => ?_)
      · refine e_mv 212 em_113 (ce_at ce_113 111 rfl) rfl rfl ?_
        refine e_pk [0, 4, 5, 6] rfl rfl ?_
        exact ttrl_readCall_212 w d hd F hF _ _ _ _ _
      · refine e_mv 206 em_113 (ce_at ce_113 107 rfl) rfl rfl ?_
        refine e_op 207 em_113 (ce_at ce_113 108 rfl) rfl rfl ?_
        refine e_iadd 208 em_113 rfl (ce_at ce_113 109 rfl) ?_
        refine e_goto em_113 212 (ce_at ce_113 110 rfl) rfl ?_
        refine e_pk [0, 4, 5, 6] rfl rfl ?_
        exact ttrl_readCall_212 w d hd F hF _ _ _ _ _
theorem ftrl_readCall_185 (F : Nat → Int → Int → Int → iS → Option (Int × iS)) (hF : ∀ (t : Nat) (a b c : Int) (s : iS), Fm Prod.snd L_trlE G_trlE s (F t a b c s)) (v1 : Int) (v2 : Int) (v4 : Int) (v5 : Int) (t0 : Int) (s : iS) : Fm Prod.snd L_trlE G_trlE s (trl_readCall_185 F v1 v2 v4 v5 t0 s) := fm_gd (fm_if (fm_some md_refl) (fm_gd (fm_if (fm_some md_refl) (fm_gd (fm_if (ftrl_readCall_212 F hF _ _ _ _ _) (ftrl_readCall_212 F hF _ _ _ _ _))))))
noncomputable def trl_readCall_134 (F : Nat → Int → Int → Int → iS → Option (Int × iS)) (v1 : Int) (v2 : Int) (v3 : Int) (v4 : Int) (s : iS) : Option (Int × iS) := bd (trl_openSign 40 s) (fun _ s1 => bd (F 5 0 0 0 s1) (fun r2 s2 => bd (tok_expect 41 s2) (fun _ s3 => lt' (up s3 22 5 ((s3 22 5) - 1)) (fun s4 => gd (rg v2) (if v2 = 0 then trl_readCall_185 F v1 v2 v4 r2 (s4 23 11) s4 else bd (trl_ownerOf v3 v1 s4) (fun r7 s7 => trl_readCall_185 F v1 v2 v4 r2 r7 s7))))))
theorem ttrl_readCall_134 (w : ev_W) (d : Nat) (hd : 5 ≤ d) (F : Nat → Int → Int → Int → iS → Option (Int × iS)) (hF : trlE_ok w (d - 1) F) (v1 : Int) (v2 : Int) (v3 : Int) (v4 : Int) (s : iS) : Ew hT w d 113 134 [(0, .ref (tb_nK + 22)), (1, iv v1), (2, iv v2), (3, iv v3), (4, iv v4)] [] s (Cv hT) (trl_readCall_134 F v1 v2 v3 v4 s) := by
  unfold trl_readCall_134
  refine e_mv 135 em_113 (ce_at ce_113 72 rfl) rfl rfl ?_
  refine e_bip 137 em_113 (ce_at ce_113 73 rfl) (by decide) rfl ?_
  refine e_ivv 140 em_113 (ce_at ce_113 74 rfl) (by omega) (iv_v1 (by decide) tq_22 rfl) em_78 (Nat.le_of_ble_eq_true rfl) rfl (ttrl_openSign w (d - 1) (by omega) _ _) (fun r1 s1 => ?_)
  refine e_mv 141 em_113 (ce_at ce_113 75 rfl) rfl rfl ?_
  refine e_ivi 144 em_113 (ce_at ce_113 76 rfl) (by omega) (iv_v0 (by decide) tq_22 rfl) em_115 (Nat.le_of_ble_eq_true rfl) rfl (hF.2.2.2.2.2.1  _) (fun r2 s2 => ?_)
  refine e_mv 146 em_113 (ce_at ce_113 77 rfl) rfl rfl ?_
  refine e_mv 147 em_113 (ce_at ce_113 78 rfl) rfl rfl ?_
  refine e_getr 150 em_113 (ce_at ce_113 79 rfl) tq_22 rfl rfl ?_
  refine e_bip 152 em_113 (ce_at ce_113 80 rfl) (by decide) rfl ?_
  refine e_ivv 155 em_113 (ce_at ce_113 81 rfl) (by omega) (iv_v1 (by decide) tq_2 rfl) em_86 (Nat.le_of_ble_eq_true rfl) rfl (ttok_expect w (d - 1) (by omega) _ _) (fun r3 s3 => ?_)
  refine e_mv 156 em_113 (ce_at ce_113 82 rfl) rfl rfl ?_
  refine e_op 157 em_113 (ce_at ce_113 83 rfl) rfl rfl ?_
  refine e_get 160 em_113 (ce_at ce_113 84 rfl) tq_22 rfl rfl ?_
  refine e_op 161 em_113 (ce_at ce_113 85 rfl) rfl rfl ?_
  refine e_isub 162 em_113 rfl (ce_at ce_113 86 rfl) ?_
  refine e_put 165 em_113 (ce_at ce_113 87 rfl) tq_22 rfl rfl rfl (fun s4 => ?_)
  refine e_mv 166 em_113 (ce_at ce_113 88 rfl) rfl rfl ?_
  refine e_gd fun g5 => ?_
  refine e_ifeq 178 169 em_113 rfl rfl (ce_at ce_113 89 rfl) g5 (fun h6 => ?_) (fun h6 => ?_)
  · refine e_mv 179 em_113 (ce_at ce_113 95 rfl) rfl rfl ?_
    refine e_getr 182 em_113 (ce_at ce_113 96 rfl) tq_22 rfl rfl ?_
    refine e_get 185 em_113 (ce_at ce_113 97 rfl) tq_23 rfl rfl ?_
    refine e_pk [0, 1, 2, 4, 5] rfl rfl ?_
    exact ttrl_readCall_185 w d hd F hF _ _ _ _ _ _
  · refine e_mv 170 em_113 (ce_at ce_113 90 rfl) rfl rfl ?_
    refine e_mv 171 em_113 (ce_at ce_113 91 rfl) rfl rfl ?_
    refine e_mv 172 em_113 (ce_at ce_113 92 rfl) rfl rfl ?_
    refine e_ivi 175 em_113 (ce_at ce_113 93 rfl) (by omega) (iv_v2 (by decide) tq_22 rfl) em_116 (Nat.le_of_ble_eq_true rfl) rfl (ttrl_ownerOf w (d - 1) (by omega) _ _ _) (fun r7 s7 => ?_)
    refine e_goto em_113 185 (ce_at ce_113 94 rfl) rfl ?_
    refine e_pk [0, 1, 2, 4, 5] rfl rfl ?_
    exact ttrl_readCall_185 w d hd F hF _ _ _ _ _ _
theorem ftrl_readCall_134 (F : Nat → Int → Int → Int → iS → Option (Int × iS)) (hF : ∀ (t : Nat) (a b c : Int) (s : iS), Fm Prod.snd L_trlE G_trlE s (F t a b c s)) (v1 : Int) (v2 : Int) (v3 : Int) (v4 : Int) (s : iS) : Fm Prod.snd L_trlE G_trlE s (trl_readCall_134 F v1 v2 v3 v4 s) := fm_bd (fm_sub (ftrl_openSign _ _) (mem_sub_L rfl) (mem_sub_F rfl)) (fun r1 s1 => fm_bd (hF 5 _ _ _ _) (fun r2 s2 => fm_bd (fm_sub (ftok_expect _ _) (mem_sub_L rfl) (mem_sub_F rfl)) (fun r3 s3 => fm_lt (md_upF (mem_F rfl)) (fun s4 => fm_gd (fm_if (ftrl_readCall_185 F hF _ _ _ _ _ _) (fm_bd (fm_sub (ftrl_ownerOf _ _ _) (mem_sub_L rfl) (mem_sub_F rfl)) (fun r7 s7 => ftrl_readCall_185 F hF _ _ _ _ _ _)))))))
noncomputable def trl_readCall_92 (F : Nat → Int → Int → Int → iS → Option (Int × iS)) (v1 : Int) (v2 : Int) (v3 : Int) (t0 : Int) (s : iS) : Option (Int × iS) := gd (rg v3) (if v3 = (-1) then gd (rg v2) (if v2 = 0 then bd (trl_askForThis v1 s) (fun _ s5 => bd (prg_add 0 6 0 s5) (fun _ s6 => trl_readCall_134 F v1 v2 v3 t0 s6)) else trl_readCall_134 F v1 v2 v3 t0 s) else bd (trl_checkVariable v3 v1 s) (fun _ s7 => bd (trl_addVariable 0 v3 s7) (fun _ s8 => trl_readCall_134 F v1 v2 v3 t0 s8)))
theorem ttrl_readCall_92 (w : ev_W) (d : Nat) (hd : 5 ≤ d) (F : Nat → Int → Int → Int → iS → Option (Int × iS)) (hF : trlE_ok w (d - 1) F) (v1 : Int) (v2 : Int) (v3 : Int) (t0 : Int) (s : iS) : Ew hT w d 113 92 [(0, .ref (tb_nK + 22)), (1, iv v1), (2, iv v2), (3, iv v3)] [iv t0] s (Cv hT) (trl_readCall_92 F v1 v2 v3 t0 s) := by
  unfold trl_readCall_92
  refine e_mv 94 em_113 (ce_at ce_113 48 rfl) rfl rfl ?_
  refine e_mv 95 em_113 (ce_at ce_113 49 rfl) rfl rfl ?_
  refine e_op 96 em_113 (ce_at ce_113 50 rfl) rfl rfl ?_
  refine e_gd fun g1 => ?_
  refine e_cmeq 114 99 em_113 rfl rfl (ce_at ce_113 51 rfl) g1 (by decide) (fun h2 => ?_) (fun h2 => ?_)
  · refine e_mv 115 em_113 (ce_at ce_113 61 rfl) rfl rfl ?_
    refine e_gd fun g3 => ?_
    refine e_ifne 134 118 em_113 rfl rfl (ce_at ce_113 62 rfl) g3 (fun h4 => ?_) (fun h4 => ?_)
    · refine e_pk [0, 1, 2, 3, 4] rfl rfl ?_
      exact ttrl_readCall_134 w d hd F hF _ _ _ _ _
    · refine e_mv 119 em_113 (ce_at ce_113 63 rfl) rfl rfl ?_
      refine e_mv 120 em_113 (ce_at ce_113 64 rfl) rfl rfl ?_
      refine e_ivv 123 em_113 (ce_at ce_113 65 rfl) (by omega) (iv_v1 (by decide) tq_22 rfl) em_114 (Nat.le_of_ble_eq_true rfl) rfl (ttrl_askForThis w (d - 1) (by omega) _ _) (fun r5 s5 => ?_)
      refine e_mv 124 em_113 (ce_at ce_113 66 rfl) rfl rfl ?_
      refine e_getr 127 em_113 (ce_at ce_113 67 rfl) tq_22 rfl rfl ?_
      refine e_op 128 em_113 (ce_at ce_113 68 rfl) rfl rfl ?_
      refine e_bip 130 em_113 (ce_at ce_113 69 rfl) (by decide) rfl ?_
      refine e_op 131 em_113 (ce_at ce_113 70 rfl) rfl rfl ?_
      refine e_ivv 134 em_113 (ce_at ce_113 71 rfl) (by omega) (iv_v3 (by decide) tq_14 rfl) em_99 (Nat.le_of_ble_eq_true rfl) rfl (tprg_add w (d - 1) (by omega) _ _ _ _) (fun r6 s6 => ?_)
      refine e_pk [0, 1, 2, 3, 4] rfl rfl ?_
      exact ttrl_readCall_134 w d hd F hF _ _ _ _ _
  · refine e_mv 100 em_113 (ce_at ce_113 52 rfl) rfl rfl ?_
    refine e_mv 101 em_113 (ce_at ce_113 53 rfl) rfl rfl ?_
    refine e_mv 102 em_113 (ce_at ce_113 54 rfl) rfl rfl ?_
    refine e_ivv 105 em_113 (ce_at ce_113 55 rfl) (by omega) (iv_v2 (by decide) tq_22 rfl) em_106 (Nat.le_of_ble_eq_true rfl) rfl (ttrl_checkVariable w (d - 1) (by omega) _ _ _) (fun r7 s7 => ?_)
    refine e_mv 106 em_113 (ce_at ce_113 56 rfl) rfl rfl ?_
    refine e_op 107 em_113 (ce_at ce_113 57 rfl) rfl rfl ?_
    refine e_mv 108 em_113 (ce_at ce_113 58 rfl) rfl rfl ?_
    refine e_ivv 111 em_113 (ce_at ce_113 59 rfl) (by omega) (iv_v2 (by decide) tq_22 rfl) em_107 (Nat.le_of_ble_eq_true rfl) rfl (ttrl_addVariable w (d - 1) (by omega) _ _ _) (fun r8 s8 => ?_)
    refine e_goto em_113 134 (ce_at ce_113 60 rfl) rfl ?_
    refine e_pk [0, 1, 2, 3, 4] rfl rfl ?_
    exact ttrl_readCall_134 w d hd F hF _ _ _ _ _
theorem ftrl_readCall_92 (F : Nat → Int → Int → Int → iS → Option (Int × iS)) (hF : ∀ (t : Nat) (a b c : Int) (s : iS), Fm Prod.snd L_trlE G_trlE s (F t a b c s)) (v1 : Int) (v2 : Int) (v3 : Int) (t0 : Int) (s : iS) : Fm Prod.snd L_trlE G_trlE s (trl_readCall_92 F v1 v2 v3 t0 s) := fm_gd (fm_if (fm_gd (fm_if (fm_bd (fm_sub (ftrl_askForThis _ _) (mem_sub_L rfl) (mem_sub_F rfl)) (fun r5 s5 => fm_bd (fm_sub (fprg_add _ _ _ _) (mem_sub_L rfl) (mem_sub_F rfl)) (fun r6 s6 => ftrl_readCall_134 F hF _ _ _ _ _))) (ftrl_readCall_134 F hF _ _ _ _ _))) (fm_bd (fm_sub (ftrl_checkVariable _ _ _) (mem_sub_L rfl) (mem_sub_F rfl)) (fun r7 s7 => fm_bd (fm_sub (ftrl_addVariable _ _ _) (mem_sub_L rfl) (mem_sub_F rfl)) (fun r8 s8 => ftrl_readCall_134 F hF _ _ _ _ _))))
noncomputable def trl_readCall_87 (F : Nat → Int → Int → Int → iS → Option (Int × iS)) (v1 : Int) (v2 : Int) (v3 : Int) (s : iS) : Option (Int × iS) := trl_readCall_92 F v1 v2 v3 1 s
theorem ttrl_readCall_87 (w : ev_W) (d : Nat) (hd : 5 ≤ d) (F : Nat → Int → Int → Int → iS → Option (Int × iS)) (hF : trlE_ok w (d - 1) F) (v1 : Int) (v2 : Int) (v3 : Int) (s : iS) : Ew hT w d 113 87 [(0, .ref (tb_nK + 22)), (1, iv v1), (2, iv v2), (3, iv v3)] [] s (Cv hT) (trl_readCall_87 F v1 v2 v3 s) := by
  unfold trl_readCall_87
  refine e_op 88 em_113 (ce_at ce_113 45 rfl) rfl rfl ?_
  refine e_goto em_113 92 (ce_at ce_113 46 rfl) rfl ?_
  refine e_pk [0, 1, 2, 3] rfl rfl ?_
  exact ttrl_readCall_92 w d hd F hF _ _ _ _ _
theorem ftrl_readCall_87 (F : Nat → Int → Int → Int → iS → Option (Int × iS)) (hF : ∀ (t : Nat) (a b c : Int) (s : iS), Fm Prod.snd L_trlE G_trlE s (F t a b c s)) (v1 : Int) (v2 : Int) (v3 : Int) (s : iS) : Fm Prod.snd L_trlE G_trlE s (trl_readCall_87 F v1 v2 v3 s) := ftrl_readCall_92 F hF _ _ _ _ _
noncomputable def trl_readCall_77 (F : Nat → Int → Int → Int → iS → Option (Int × iS)) (v1 : Int) (v2 : Int) (t0 : Int) (s : iS) : Option (Int × iS) := gd (rg v2) (if v2 = 0 then trl_readCall_87 F v1 v2 t0 s else gd (rg t0) (if t0 = (-1) then trl_readCall_92 F v1 v2 t0 0 s else trl_readCall_87 F v1 v2 t0 s))
theorem ttrl_readCall_77 (w : ev_W) (d : Nat) (hd : 5 ≤ d) (F : Nat → Int → Int → Int → iS → Option (Int × iS)) (hF : trlE_ok w (d - 1) F) (v1 : Int) (v2 : Int) (t0 : Int) (s : iS) : Ew hT w d 113 77 [(0, .ref (tb_nK + 22)), (1, iv v1), (2, iv v2)] [iv t0] s (Cv hT) (trl_readCall_77 F v1 v2 t0 s) := by
  unfold trl_readCall_77
  refine e_mv 78 em_113 (ce_at ce_113 39 rfl) rfl rfl ?_
  refine e_mv 79 em_113 (ce_at ce_113 40 rfl) rfl rfl ?_
  refine e_gd fun g1 => ?_
  refine e_ifeq 87 82 em_113 rfl rfl (ce_at ce_113 41 rfl) g1 (fun h2 => ?_) (fun h2 => ?_)
  · refine e_pk [0, 1, 2, 3] rfl rfl ?_
    exact ttrl_readCall_87 w d hd F hF _ _ _ _
  · refine e_mv 83 em_113 (ce_at ce_113 42 rfl) rfl rfl ?_
    refine e_op 84 em_113 (ce_at ce_113 43 rfl) rfl rfl ?_
    refine e_gd fun g3 => ?_
    refine e_cmeq 91 87 em_113 rfl rfl (ce_at ce_113 44 rfl) g3 (by decide) (fun h4 => ?_) (fun h4 => ?_)
    · refine e_op 92 em_113 (ce_at ce_113 47 rfl) rfl rfl ?_
      refine e_pk [0, 1, 2, 3] rfl rfl ?_
      exact ttrl_readCall_92 w d hd F hF _ _ _ _ _
    · refine e_pk [0, 1, 2, 3] rfl rfl ?_
      exact ttrl_readCall_87 w d hd F hF _ _ _ _
theorem ftrl_readCall_77 (F : Nat → Int → Int → Int → iS → Option (Int × iS)) (hF : ∀ (t : Nat) (a b c : Int) (s : iS), Fm Prod.snd L_trlE G_trlE s (F t a b c s)) (v1 : Int) (v2 : Int) (t0 : Int) (s : iS) : Fm Prod.snd L_trlE G_trlE s (trl_readCall_77 F v1 v2 t0 s) := fm_gd (fm_if (ftrl_readCall_87 F hF _ _ _ _) (fm_gd (fm_if (ftrl_readCall_92 F hF _ _ _ _ _) (ftrl_readCall_87 F hF _ _ _ _))))
noncomputable def trl_readCall_64 (F : Nat → Int → Int → Int → iS → Option (Int × iS)) (v1 : Int) (v2 : Int) (s : iS) : Option (Int × iS) := gd (rg v2) (if v2 = 0 then trl_readCall_77 F v1 v2 (-1) s else bd (trl_findVariable v1 s) (fun r3 s3 => trl_readCall_77 F v1 v2 r3 s3))
theorem ttrl_readCall_64 (w : ev_W) (d : Nat) (hd : 5 ≤ d) (F : Nat → Int → Int → Int → iS → Option (Int × iS)) (hF : trlE_ok w (d - 1) F) (v1 : Int) (v2 : Int) (s : iS) : Ew hT w d 113 64 [(0, .ref (tb_nK + 22)), (1, iv v1), (2, iv v2)] [] s (Cv hT) (trl_readCall_64 F v1 v2 s) := by
  unfold trl_readCall_64
  refine e_mv 65 em_113 (ce_at ce_113 32 rfl) rfl rfl ?_
  refine e_gd fun g1 => ?_
  refine e_ifeq 76 68 em_113 rfl rfl (ce_at ce_113 33 rfl) g1 (fun h2 => ?_) (fun h2 => ?_)
  · refine e_op 77 em_113 (ce_at ce_113 38 rfl) rfl rfl ?_
    refine e_pk [0, 1, 2] rfl rfl ?_
    exact ttrl_readCall_77 w d hd F hF _ _ _ _
  · refine e_mv 69 em_113 (ce_at ce_113 34 rfl) rfl rfl ?_
    refine e_mv 70 em_113 (ce_at ce_113 35 rfl) rfl rfl ?_
    refine e_ivi 73 em_113 (ce_at ce_113 36 rfl) (by omega) (iv_v1 (by decide) tq_22 rfl) em_105 (Nat.le_of_ble_eq_true rfl) rfl (ttrl_findVariable w (d - 1) (by omega) _ _) (fun r3 s3 => ?_)
    refine e_goto em_113 77 (ce_at ce_113 37 rfl) rfl ?_
    refine e_pk [0, 1, 2] rfl rfl ?_
    exact ttrl_readCall_77 w d hd F hF _ _ _ _
theorem ftrl_readCall_64 (F : Nat → Int → Int → Int → iS → Option (Int × iS)) (hF : ∀ (t : Nat) (a b c : Int) (s : iS), Fm Prod.snd L_trlE G_trlE s (F t a b c s)) (v1 : Int) (v2 : Int) (s : iS) : Fm Prod.snd L_trlE G_trlE s (trl_readCall_64 F v1 v2 s) := fm_gd (fm_if (ftrl_readCall_77 F hF _ _ _ _) (fm_bd (fm_sub (ftrl_findVariable _ _) (mem_sub_L rfl) (mem_sub_F rfl)) (fun r3 s3 => ftrl_readCall_77 F hF _ _ _ _)))
noncomputable def trl_readCall_34 (F : Nat → Int → Int → Int → iS → Option (Int × iS)) (v1 : Int) (t0 : Int) (s : iS) : Option (Int × iS) := bd (tok_expect 3 s) (fun _ s1 => gd (rg t0) (if t0 = 0 then trl_readCall_64 F v1 t0 s1 else bd (tok_expect 46 s1) (fun _ s4 => bd (tok_expect 3 s4) (fun _ s5 => trl_readCall_64 F v1 t0 s5))))
theorem ttrl_readCall_34 (w : ev_W) (d : Nat) (hd : 5 ≤ d) (F : Nat → Int → Int → Int → iS → Option (Int × iS)) (hF : trlE_ok w (d - 1) F) (v1 : Int) (t0 : Int) (s : iS) : Ew hT w d 113 34 [(0, .ref (tb_nK + 22)), (1, iv v1)] [iv t0] s (Cv hT) (trl_readCall_34 F v1 t0 s) := by
  unfold trl_readCall_34
  refine e_mv 35 em_113 (ce_at ce_113 17 rfl) rfl rfl ?_
  refine e_mv 36 em_113 (ce_at ce_113 18 rfl) rfl rfl ?_
  refine e_getr 39 em_113 (ce_at ce_113 19 rfl) tq_22 rfl rfl ?_
  refine e_op 40 em_113 (ce_at ce_113 20 rfl) rfl rfl ?_
  refine e_ivv 43 em_113 (ce_at ce_113 21 rfl) (by omega) (iv_v1 (by decide) tq_2 rfl) em_86 (Nat.le_of_ble_eq_true rfl) rfl (ttok_expect w (d - 1) (by omega) _ _) (fun r1 s1 => ?_)
  refine e_mv 44 em_113 (ce_at ce_113 22 rfl) rfl rfl ?_
  refine e_gd fun g2 => ?_
  refine e_ifeq 64 47 em_113 rfl rfl (ce_at ce_113 23 rfl) g2 (fun h3 => ?_) (fun h3 => ?_)
  · refine e_pk [0, 1, 2] rfl rfl ?_
    exact ttrl_readCall_64 w d hd F hF _ _ _
  · refine e_mv 48 em_113 (ce_at ce_113 24 rfl) rfl rfl ?_
    refine e_getr 51 em_113 (ce_at ce_113 25 rfl) tq_22 rfl rfl ?_
    refine e_bip 53 em_113 (ce_at ce_113 26 rfl) (by decide) rfl ?_
    refine e_ivv 56 em_113 (ce_at ce_113 27 rfl) (by omega) (iv_v1 (by decide) tq_2 rfl) em_86 (Nat.le_of_ble_eq_true rfl) rfl (ttok_expect w (d - 1) (by omega) _ _) (fun r4 s4 => ?_)
    refine e_mv 57 em_113 (ce_at ce_113 28 rfl) rfl rfl ?_
    refine e_getr 60 em_113 (ce_at ce_113 29 rfl) tq_22 rfl rfl ?_
    refine e_op 61 em_113 (ce_at ce_113 30 rfl) rfl rfl ?_
    refine e_ivv 64 em_113 (ce_at ce_113 31 rfl) (by omega) (iv_v1 (by decide) tq_2 rfl) em_86 (Nat.le_of_ble_eq_true rfl) rfl (ttok_expect w (d - 1) (by omega) _ _) (fun r5 s5 => ?_)
    refine e_pk [0, 1, 2] rfl rfl ?_
    exact ttrl_readCall_64 w d hd F hF _ _ _
theorem ftrl_readCall_34 (F : Nat → Int → Int → Int → iS → Option (Int × iS)) (hF : ∀ (t : Nat) (a b c : Int) (s : iS), Fm Prod.snd L_trlE G_trlE s (F t a b c s)) (v1 : Int) (t0 : Int) (s : iS) : Fm Prod.snd L_trlE G_trlE s (trl_readCall_34 F v1 t0 s) := fm_bd (fm_sub (ftok_expect _ _) (mem_sub_L rfl) (mem_sub_F rfl)) (fun r1 s1 => fm_gd (fm_if (ftrl_readCall_64 F hF _ _ _) (fm_bd (fm_sub (ftok_expect _ _) (mem_sub_L rfl) (mem_sub_F rfl)) (fun r4 s4 => fm_bd (fm_sub (ftok_expect _ _) (mem_sub_L rfl) (mem_sub_F rfl)) (fun r5 s5 => ftrl_readCall_64 F hF _ _ _)))))
noncomputable def trl_readCall (F : Nat → Int → Int → Int → iS → Option (Int × iS)) (s : iS) : Option (Int × iS) := bd (tok_kindOf ((s 2 12) + 1) s) (fun r1 s1 => gd (rg r1) (if r1 = 46 then trl_readCall_34 F (s 2 12) 1 s1 else trl_readCall_34 F (s 2 12) 0 s1))
theorem ttrl_readCall (w : ev_W) (d : Nat) (hd : 5 ≤ d) (F : Nat → Int → Int → Int → iS → Option (Int × iS)) (hF : trlE_ok w (d - 1) F) (s : iS) : Ew hT w d 113 0 [(0, .ref (tb_nK + 22))] [] s (Cv hT) (trl_readCall F s) := by
  unfold trl_readCall
  refine e_mv 1 em_113 (ce_at ce_113 0 rfl) rfl rfl ?_
  refine e_getr 4 em_113 (ce_at ce_113 1 rfl) tq_22 rfl rfl ?_
  refine e_get 7 em_113 (ce_at ce_113 2 rfl) tq_2 rfl rfl ?_
  refine e_mv 8 em_113 (ce_at ce_113 3 rfl) rfl rfl ?_
  refine e_mv 9 em_113 (ce_at ce_113 4 rfl) rfl rfl ?_
  refine e_getr 12 em_113 (ce_at ce_113 5 rfl) tq_22 rfl rfl ?_
  refine e_mv 13 em_113 (ce_at ce_113 6 rfl) rfl rfl ?_
  refine e_getr 16 em_113 (ce_at ce_113 7 rfl) tq_22 rfl rfl ?_
  refine e_get 19 em_113 (ce_at ce_113 8 rfl) tq_2 rfl rfl ?_
  refine e_op 20 em_113 (ce_at ce_113 9 rfl) rfl rfl ?_
  refine e_iadd 21 em_113 rfl (ce_at ce_113 10 rfl) ?_
  refine e_ivi 24 em_113 (ce_at ce_113 11 rfl) (by omega) (iv_v1 (by decide) tq_2 rfl) em_112 (Nat.le_of_ble_eq_true rfl) rfl (ttok_kindOf w (d - 1) (by omega) _ _) (fun r1 s1 => ?_)
  refine e_bip 26 em_113 (ce_at ce_113 12 rfl) (by decide) rfl ?_
  refine e_gd fun g2 => ?_
  refine e_cmne 33 29 em_113 rfl rfl (ce_at ce_113 13 rfl) g2 (by decide) (fun h3 => ?_) (fun h3 => ?_)
  · refine e_op 34 em_113 (ce_at ce_113 16 rfl) rfl rfl ?_
    refine e_pk [0, 1] rfl rfl ?_
    exact ttrl_readCall_34 w d hd F hF _ _ _
  · refine e_op 30 em_113 (ce_at ce_113 14 rfl) rfl rfl ?_
    refine e_goto em_113 34 (ce_at ce_113 15 rfl) rfl ?_
    refine e_pk [0, 1] rfl rfl ?_
    exact ttrl_readCall_34 w d hd F hF _ _ _
theorem ftrl_readCall (F : Nat → Int → Int → Int → iS → Option (Int × iS)) (hF : ∀ (t : Nat) (a b c : Int) (s : iS), Fm Prod.snd L_trlE G_trlE s (F t a b c s)) (s : iS) : Fm Prod.snd L_trlE G_trlE s (trl_readCall F s) := fm_bd (fm_sub (ftok_kindOf _ _) (mem_sub_L rfl) (mem_sub_F rfl)) (fun r1 s1 => fm_gd (fm_if (ftrl_readCall_34 F hF _ _ _) (ftrl_readCall_34 F hF _ _ _)))
/-! trl_readArguments -/
def trl_readArguments_22C (w : ev_W) (d : Nat) : (Int × Int × iS) ⊕ (Int × iS) → am_E → Prop := fun q r => q.elim (fun l => ev w d 115 22 ((fun l => [(0, .ref (tb_nK + 22)), (1, iv (l.1)), (2, iv (l.2.1))]) l) [] (hT ((fun l => l.2.2) l)) r) (fun e => (fun e r => ev w d 115 67 [(1, iv (e.1))] [] (hT (e.2)) r) e r)
noncomputable def trl_readArguments_22b (F : Nat → Int → Int → Int → iS → Option (Int × iS)) (v1 : Int) (v2 : Int) (s : iS) : Option ((Int × Int × iS) ⊕ (Int × iS)) := gd (rg v2) (if 1000 ≤ v2 then some (.inr (v1, s)) else bd (tok_kind s) (fun r3 s3 => gd (rg r3) (if r3 = 44 then lt' (up s3 2 12 ((s3 2 12) + 1)) (fun s6 => bd (F 1 0 0 0 s6) (fun _ s7 => some (.inl ((v1 + 1), (v2 + 1), s7)))) else some (.inr (v1, s3)))))
theorem ttrl_readArguments_22b (w : ev_W) (d : Nat) (hd : 5 ≤ d) (F : Nat → Int → Int → Int → iS → Option (Int × iS)) (hF : trlE_ok w (d - 1) F) (v1 : Int) (v2 : Int) (s : iS) : Ew hT w d 115 22 [(0, .ref (tb_nK + 22)), (1, iv v1), (2, iv v2)] [] s (trl_readArguments_22C w d) (trl_readArguments_22b F v1 v2 s) := by
  unfold trl_readArguments_22b
  refine e_mv 23 em_115 (ce_at ce_115 13 rfl) rfl rfl ?_
  refine e_sip 26 em_115 (ce_at ce_115 14 rfl) (by decide) rfl ?_
  refine e_gd fun g1 => ?_
  refine e_cmge 67 29 em_115 rfl rfl (ce_at ce_115 15 rfl) g1 (by decide) (fun h2 => ?_) (fun h2 => ?_)
  · refine e_pk [1] rfl rfl ?_
    exact e_out (fun r h => h)
  · refine e_mv 30 em_115 (ce_at ce_115 16 rfl) rfl rfl ?_
    refine e_getr 33 em_115 (ce_at ce_115 17 rfl) tq_22 rfl rfl ?_
    refine e_ivi 36 em_115 (ce_at ce_115 18 rfl) (by omega) (iv_v0 (by decide) tq_2 rfl) em_69 (Nat.le_of_ble_eq_true rfl) rfl (ttok_kind w (d - 1) (by omega) _) (fun r3 s3 => ?_)
    refine e_bip 38 em_115 (ce_at ce_115 19 rfl) (by decide) rfl ?_
    refine e_gd fun g4 => ?_
    refine e_cmne 67 41 em_115 rfl rfl (ce_at ce_115 20 rfl) g4 (by decide) (fun h5 => ?_) (fun h5 => ?_)
    · refine e_pk [1] rfl rfl ?_
      exact e_out (fun r h => h)
    · refine e_mv 42 em_115 (ce_at ce_115 21 rfl) rfl rfl ?_
      refine e_getr 45 em_115 (ce_at ce_115 22 rfl) tq_22 rfl rfl ?_
      refine e_op 46 em_115 (ce_at ce_115 23 rfl) rfl rfl ?_
      refine e_get 49 em_115 (ce_at ce_115 24 rfl) tq_2 rfl rfl ?_
      refine e_op 50 em_115 (ce_at ce_115 25 rfl) rfl rfl ?_
      refine e_iadd 51 em_115 rfl (ce_at ce_115 26 rfl) ?_
      refine e_put 54 em_115 (ce_at ce_115 27 rfl) tq_2 rfl rfl rfl (fun s6 => ?_)
      refine e_mv 55 em_115 (ce_at ce_115 28 rfl) rfl rfl ?_
      refine e_ivv 58 em_115 (ce_at ce_115 29 rfl) (by omega) (iv_v0 (by decide) tq_22 rfl) em_109 (Nat.le_of_ble_eq_true rfl) rfl (hF.2.1  _) (fun r7 s7 => ?_)
      refine e_iinc 61 em_115 (ce_at ce_115 30 rfl) rfl (by decide) rfl ?_
      refine e_iinc 64 em_115 (ce_at ce_115 31 rfl) rfl (by decide) rfl ?_
      refine e_goto em_115 22 (ce_at ce_115 32 rfl) rfl ?_
      refine e_pk [0, 1, 2] rfl rfl ?_
      exact e_out (fun r h => h)
theorem ftrl_readArguments_22b (F : Nat → Int → Int → Int → iS → Option (Int × iS)) (hF : ∀ (t : Nat) (a b c : Int) (s : iS), Fm Prod.snd L_trlE G_trlE s (F t a b c s)) (v1 : Int) (v2 : Int) (s : iS) : Fm (fun r : (Int × Int × iS) ⊕ (Int × iS) => r.elim (fun l => l.2.2) (fun e => e.2)) L_trlE G_trlE s (trl_readArguments_22b F v1 v2 s) := fm_gd (fm_if (fm_some md_refl) (fm_bd (fm_sub (ftok_kind _) (mem_sub_L rfl) (mem_sub_F rfl)) (fun r3 s3 => fm_gd (fm_if (fm_lt (md_upF (mem_F rfl)) (fun s6 => fm_bd (hF 1 _ _ _ _) (fun r7 s7 => fm_some md_refl))) (fm_some md_refl)))))
noncomputable def trl_readArguments_22 (F : Nat → Int → Int → Int → iS → Option (Int × iS)) (v1 : Int) (v2 : Int) (s : iS) : Option (Int × iS) := (lp (L := Int × Int × iS) (E := Int × iS) (fun l => trl_readArguments_22b F (l.1) (l.2.1) (l.2.2)) (v1, v2, s)).bind (fun e => some (e.1, e.2))
theorem ttrl_readArguments_22 (w : ev_W) (d : Nat) (hd : 5 ≤ d) (F : Nat → Int → Int → Int → iS → Option (Int × iS)) (hF : trlE_ok w (d - 1) F) (v1 : Int) (v2 : Int) (s : iS) : Ew hT w d 115 22 [(0, .ref (tb_nK + 22)), (1, iv v1), (2, iv v2)] [] s (Ci hT) (trl_readArguments_22 F v1 v2 s) := by
  unfold trl_readArguments_22
  refine e_lp (L := Int × Int × iS) (E := Int × iS) (LO := fun l => [(0, .ref (tb_nK + 22)), (1, iv (l.1)), (2, iv (l.2.1))]) (LS := fun l => l.2.2) (CE := fun e r => ev w d 115 67 [(1, iv (e.1))] [] (hT (e.2)) r) (fun l => ttrl_readArguments_22b w d hd F hF _ _ _) ?_ (v1, v2, s)
  intro e
  show Ew hT w d 115 67 [(1, iv (e.1))] [] e.2 (Ci hT) _
  refine e_mv 68 em_115 (ce_at ce_115 33 rfl) rfl rfl ?_
  exact e_reti em_115 (ce_at ce_115 34 rfl)
theorem ftrl_readArguments_22 (F : Nat → Int → Int → Int → iS → Option (Int × iS)) (hF : ∀ (t : Nat) (a b c : Int) (s : iS), Fm Prod.snd L_trlE G_trlE s (F t a b c s)) (v1 : Int) (v2 : Int) (s : iS) : Fm Prod.snd L_trlE G_trlE s (trl_readArguments_22 F v1 v2 s) := by
  unfold trl_readArguments_22
  refine fm_lp (A := Int × Int × iS) (E := Int × iS) (LS := fun l => l.2.2) (LE := fun e => e.2) ?_ ?_ (v1, v2, s)
  · exact fun l => ftrl_readArguments_22b F hF _ _ _
  · exact (fun e => fm_some md_refl)
noncomputable def trl_readArguments (F : Nat → Int → Int → Int → iS → Option (Int × iS)) (s : iS) : Option (Int × iS) := bd (tok_kind s) (fun r1 s1 => gd (rg r1) (if r1 = 41 then some (0, s1) else bd (F 1 0 0 0 s1) (fun _ s4 => trl_readArguments_22 F 1 0 s4)))
theorem ttrl_readArguments (w : ev_W) (d : Nat) (hd : 5 ≤ d) (F : Nat → Int → Int → Int → iS → Option (Int × iS)) (hF : trlE_ok w (d - 1) F) (s : iS) : Ew hT w d 115 0 [(0, .ref (tb_nK + 22))] [] s (Ci hT) (trl_readArguments F s) := by
  unfold trl_readArguments
  refine e_mv 1 em_115 (ce_at ce_115 0 rfl) rfl rfl ?_
  refine e_getr 4 em_115 (ce_at ce_115 1 rfl) tq_22 rfl rfl ?_
  refine e_ivi 7 em_115 (ce_at ce_115 2 rfl) (by omega) (iv_v0 (by decide) tq_2 rfl) em_69 (Nat.le_of_ble_eq_true rfl) rfl (ttok_kind w (d - 1) (by omega) _) (fun r1 s1 => ?_)
  refine e_bip 9 em_115 (ce_at ce_115 3 rfl) (by decide) rfl ?_
  refine e_gd fun g2 => ?_
  refine e_cmne 14 12 em_115 rfl rfl (ce_at ce_115 4 rfl) g2 (by decide) (fun h3 => ?_) (fun h3 => ?_)
  · refine e_op 15 em_115 (ce_at ce_115 7 rfl) rfl rfl ?_
    refine e_mv 16 em_115 (ce_at ce_115 8 rfl) rfl rfl ?_
    refine e_mv 17 em_115 (ce_at ce_115 9 rfl) rfl rfl ?_
    refine e_ivv 20 em_115 (ce_at ce_115 10 rfl) (by omega) (iv_v0 (by decide) tq_22 rfl) em_109 (Nat.le_of_ble_eq_true rfl) rfl (hF.2.1  _) (fun r4 s4 => ?_)
    refine e_op 21 em_115 (ce_at ce_115 11 rfl) rfl rfl ?_
    refine e_mv 22 em_115 (ce_at ce_115 12 rfl) rfl rfl ?_
    refine e_pk [0, 1, 2] rfl rfl ?_
    exact ttrl_readArguments_22 w d hd F hF _ _ _
  · refine e_op 13 em_115 (ce_at ce_115 5 rfl) rfl rfl ?_
    exact e_reti em_115 (ce_at ce_115 6 rfl)
theorem ftrl_readArguments (F : Nat → Int → Int → Int → iS → Option (Int × iS)) (hF : ∀ (t : Nat) (a b c : Int) (s : iS), Fm Prod.snd L_trlE G_trlE s (F t a b c s)) (s : iS) : Fm Prod.snd L_trlE G_trlE s (trl_readArguments F s) := fm_bd (fm_sub (ftok_kind _) (mem_sub_L rfl) (mem_sub_F rfl)) (fun r1 s1 => fm_gd (fm_if (fm_some md_refl) (fm_bd (hF 1 _ _ _ _) (fun r4 s4 => ftrl_readArguments_22 F hF _ _ _))))
/-! trl_readSignTerm -/
noncomputable def trl_readSignTerm_43 (F : Nat → Int → Int → Int → iS → Option (Int × iS)) (t0 : Int) (s : iS) : Option (Int × iS) := bd (prg_add t0 0 0 s) (fun _ s1 => some (0, s1))
theorem ttrl_readSignTerm_43 (w : ev_W) (d : Nat) (hd : 5 ≤ d) (F : Nat → Int → Int → Int → iS → Option (Int × iS)) (hF : trlE_ok w (d - 1) F) (t0 : Int) (s : iS) : Ew hT w d 120 43 [] [iv t0, .ref (tb_nK + 14)] s (Cv hT) (trl_readSignTerm_43 F t0 s) := by
  unfold trl_readSignTerm_43
  refine e_op 44 em_120 (ce_at ce_120 23 rfl) rfl rfl ?_
  refine e_op 45 em_120 (ce_at ce_120 24 rfl) rfl rfl ?_
  refine e_ivv 48 em_120 (ce_at ce_120 25 rfl) (by omega) (iv_v3 (by decide) tq_14 rfl) em_99 (Nat.le_of_ble_eq_true rfl) rfl (tprg_add w (d - 1) (by omega) _ _ _ _) (fun r1 s1 => ?_)
  exact e_retv em_120 (ce_at ce_120 26 rfl)
theorem ftrl_readSignTerm_43 (F : Nat → Int → Int → Int → iS → Option (Int × iS)) (hF : ∀ (t : Nat) (a b c : Int) (s : iS), Fm Prod.snd L_trlE G_trlE s (F t a b c s)) (t0 : Int) (s : iS) : Fm Prod.snd L_trlE G_trlE s (trl_readSignTerm_43 F t0 s) := fm_bd (fm_sub (fprg_add _ _ _ _) (mem_sub_L rfl) (mem_sub_F rfl)) (fun r1 s1 => fm_some md_refl)
noncomputable def trl_readSignTerm (F : Nat → Int → Int → Int → iS → Option (Int × iS)) (s : iS) : Option (Int × iS) := bd (tok_kind s) (fun r1 s1 => bd (trl_openSign r1 s1) (fun _ s2 => bd (F 2 0 0 0 s2) (fun _ s3 => lt' (up s3 22 5 ((s3 22 5) - 1)) (fun s4 => gd (rg r1) (if r1 = 45 then trl_readSignTerm_43 F 4 s4 else trl_readSignTerm_43 F 7 s4)))))
theorem ttrl_readSignTerm (w : ev_W) (d : Nat) (hd : 5 ≤ d) (F : Nat → Int → Int → Int → iS → Option (Int × iS)) (hF : trlE_ok w (d - 1) F) (s : iS) : Ew hT w d 120 0 [(0, .ref (tb_nK + 22))] [] s (Cv hT) (trl_readSignTerm F s) := by
  unfold trl_readSignTerm
  refine e_mv 1 em_120 (ce_at ce_120 0 rfl) rfl rfl ?_
  refine e_getr 4 em_120 (ce_at ce_120 1 rfl) tq_22 rfl rfl ?_
  refine e_ivi 7 em_120 (ce_at ce_120 2 rfl) (by omega) (iv_v0 (by decide) tq_2 rfl) em_69 (Nat.le_of_ble_eq_true rfl) rfl (ttok_kind w (d - 1) (by omega) _) (fun r1 s1 => ?_)
  refine e_mv 8 em_120 (ce_at ce_120 3 rfl) rfl rfl ?_
  refine e_mv 9 em_120 (ce_at ce_120 4 rfl) rfl rfl ?_
  refine e_mv 10 em_120 (ce_at ce_120 5 rfl) rfl rfl ?_
  refine e_ivv 13 em_120 (ce_at ce_120 6 rfl) (by omega) (iv_v1 (by decide) tq_22 rfl) em_78 (Nat.le_of_ble_eq_true rfl) rfl (ttrl_openSign w (d - 1) (by omega) _ _) (fun r2 s2 => ?_)
  refine e_mv 14 em_120 (ce_at ce_120 7 rfl) rfl rfl ?_
  refine e_ivv 17 em_120 (ce_at ce_120 8 rfl) (by omega) (iv_v0 (by decide) tq_22 rfl) em_110 (Nat.le_of_ble_eq_true rfl) rfl (hF.2.2.1  _) (fun r3 s3 => ?_)
  refine e_mv 18 em_120 (ce_at ce_120 9 rfl) rfl rfl ?_
  refine e_op 19 em_120 (ce_at ce_120 10 rfl) rfl rfl ?_
  refine e_get 22 em_120 (ce_at ce_120 11 rfl) tq_22 rfl rfl ?_
  refine e_op 23 em_120 (ce_at ce_120 12 rfl) rfl rfl ?_
  refine e_isub 24 em_120 rfl (ce_at ce_120 13 rfl) ?_
  refine e_put 27 em_120 (ce_at ce_120 14 rfl) tq_22 rfl rfl rfl (fun s4 => ?_)
  refine e_mv 28 em_120 (ce_at ce_120 15 rfl) rfl rfl ?_
  refine e_getr 31 em_120 (ce_at ce_120 16 rfl) tq_22 rfl rfl ?_
  refine e_mv 32 em_120 (ce_at ce_120 17 rfl) rfl rfl ?_
  refine e_bip 34 em_120 (ce_at ce_120 18 rfl) (by decide) rfl ?_
  refine e_gd fun g5 => ?_
  refine e_cmne 41 37 em_120 rfl rfl (ce_at ce_120 19 rfl) g5 (by decide) (fun h6 => ?_) (fun h6 => ?_)
  · refine e_bip 43 em_120 (ce_at ce_120 22 rfl) (by decide) rfl ?_
    refine e_pk [] rfl rfl ?_
    exact ttrl_readSignTerm_43 w d hd F hF _ _
  · refine e_op 38 em_120 (ce_at ce_120 20 rfl) rfl rfl ?_
    refine e_goto em_120 43 (ce_at ce_120 21 rfl) rfl ?_
    refine e_pk [] rfl rfl ?_
    exact ttrl_readSignTerm_43 w d hd F hF _ _
theorem ftrl_readSignTerm (F : Nat → Int → Int → Int → iS → Option (Int × iS)) (hF : ∀ (t : Nat) (a b c : Int) (s : iS), Fm Prod.snd L_trlE G_trlE s (F t a b c s)) (s : iS) : Fm Prod.snd L_trlE G_trlE s (trl_readSignTerm F s) := fm_bd (fm_sub (ftok_kind _) (mem_sub_L rfl) (mem_sub_F rfl)) (fun r1 s1 => fm_bd (fm_sub (ftrl_openSign _ _) (mem_sub_L rfl) (mem_sub_F rfl)) (fun r2 s2 => fm_bd (hF 2 _ _ _ _) (fun r3 s3 => fm_lt (md_upF (mem_F rfl)) (fun s4 => fm_gd (fm_if (ftrl_readSignTerm_43 F hF _ _) (ftrl_readSignTerm_43 F hF _ _))))))
/-! trlE -/
noncomputable def trlE : Nat → Nat → Int → Int → Int → iS → Option (Int × iS)
  | 0, _, _, _, _, _ => none
  | n + 1, t, a, b, c, s => if t = 0 then trl_readIndex (trlE n) s else if t = 1 then trl_readExpression (trlE n) s else if t = 2 then trl_readTerm (trlE n) s else if t = 3 then trl_readNameTerm (trlE n) s else if t = 4 then trl_readCall (trlE n) s else if t = 5 then trl_readArguments (trlE n) s else if t = 6 then trl_readSignTerm (trlE n) s else none
theorem trlE_t (w : ev_W) : ∀ (n d : Nat), 5 + n ≤ d → trlE_ok w d (trlE n)
  | 0, d, _ => ⟨fun _ => (by intro q r h1 h2; cases h1), fun _ => (by intro q r h1 h2; cases h1), fun _ => (by intro q r h1 h2; cases h1), fun _ => (by intro q r h1 h2; cases h1), fun _ => (by intro q r h1 h2; cases h1), fun _ => (by intro q r h1 h2; cases h1), fun _ => (by intro q r h1 h2; cases h1)⟩
  | n + 1, d, hd => ⟨fun _ => ttrl_readIndex w d (by omega) (trlE n) (trlE_t w n (d - 1) (by omega)) _, fun _ => ttrl_readExpression w d (by omega) (trlE n) (trlE_t w n (d - 1) (by omega)) _, fun _ => ttrl_readTerm w d (by omega) (trlE n) (trlE_t w n (d - 1) (by omega)) _, fun _ => ttrl_readNameTerm w d (by omega) (trlE n) (trlE_t w n (d - 1) (by omega)) _, fun _ => ttrl_readCall w d (by omega) (trlE n) (trlE_t w n (d - 1) (by omega)) _, fun _ => ttrl_readArguments w d (by omega) (trlE n) (trlE_t w n (d - 1) (by omega)) _, fun _ => ttrl_readSignTerm w d (by omega) (trlE n) (trlE_t w n (d - 1) (by omega)) _⟩
theorem ftrlE : ∀ (n t : Nat) (a b c : Int) (s : iS), Fm Prod.snd L_trlE G_trlE s (trlE n t a b c s)
  | 0, _, _, _, _, _ => fm_none
  | n + 1, t, a, b, c, s => fm_if (ftrl_readIndex (trlE n) (ftrlE n) s) (fm_if (ftrl_readExpression (trlE n) (ftrlE n) s) (fm_if (ftrl_readTerm (trlE n) (ftrlE n) s) (fm_if (ftrl_readNameTerm (trlE n) (ftrlE n) s) (fm_if (ftrl_readCall (trlE n) (ftrlE n) s) (fm_if (ftrl_readArguments (trlE n) (ftrlE n) s) (fm_if (ftrl_readSignTerm (trlE n) (ftrlE n) s) (fm_none)))))))
/-! trl_readLet -/
def L_trl_readLet : List Nat := [15, 16, 17, 18, 19]
def G_trl_readLet : List (Nat × Nat) := [(2, 12), (2, 13), (2, 14), (14, 8), (14, 12), (22, 5), (22, 6)]
noncomputable def trl_readLet_64 (v1 : Int) (v2 : Int) (s : iS) : Option (Int × iS) := bd (tok_expect 61 s) (fun _ s1 => bd (trlE 150 1 0 0 0 s1) (fun _ s2 => bd (tok_expect 59 s2) (fun _ s3 => gd (rg v2) (if v2 = 0 then bd (trl_addVariable 1 v1 s3) (fun _ s6 => some (0, s6)) else bd (prg_add 1 7 0 s3) (fun _ s7 => bd (prg_add 1 6 1 s7) (fun _ s8 => bd (prg_add 0 7 0 s8) (fun _ s9 => bd (prg_add 1 5 0 s9) (fun _ s10 => some (0, s10)))))))))
theorem ttrl_readLet_64 (w : ev_W) (d : Nat) (hd : 156 ≤ d) (v1 : Int) (v2 : Int) (s : iS) : Ew hT w d 104 64 [(0, .ref (tb_nK + 22)), (1, iv v1), (2, iv v2)] [] s (Cv hT) (trl_readLet_64 v1 v2 s) := by
  unfold trl_readLet_64
  refine e_mv 65 em_104 (ce_at ce_104 33 rfl) rfl rfl ?_
  refine e_getr 68 em_104 (ce_at ce_104 34 rfl) tq_22 rfl rfl ?_
  refine e_bip 70 em_104 (ce_at ce_104 35 rfl) (by decide) rfl ?_
  refine e_ivv 73 em_104 (ce_at ce_104 36 rfl) (by omega) (iv_v1 (by decide) tq_2 rfl) em_86 (Nat.le_of_ble_eq_true rfl) rfl (ttok_expect w (d - 1) (by omega) _ _) (fun r1 s1 => ?_)
  refine e_mv 74 em_104 (ce_at ce_104 37 rfl) rfl rfl ?_
  refine e_ivv 77 em_104 (ce_at ce_104 38 rfl) (by omega) (iv_v0 (by decide) tq_22 rfl) em_109 (Nat.le_of_ble_eq_true rfl) rfl ((trlE_t w 150 (d - 1) (by omega)).2.1  _) (fun r2 s2 => ?_)
  refine e_mv 78 em_104 (ce_at ce_104 39 rfl) rfl rfl ?_
  refine e_getr 81 em_104 (ce_at ce_104 40 rfl) tq_22 rfl rfl ?_
  refine e_bip 83 em_104 (ce_at ce_104 41 rfl) (by decide) rfl ?_
  refine e_ivv 86 em_104 (ce_at ce_104 42 rfl) (by omega) (iv_v1 (by decide) tq_2 rfl) em_86 (Nat.le_of_ble_eq_true rfl) rfl (ttok_expect w (d - 1) (by omega) _ _) (fun r3 s3 => ?_)
  refine e_mv 87 em_104 (ce_at ce_104 43 rfl) rfl rfl ?_
  refine e_gd fun g4 => ?_
  refine e_ifeq 136 90 em_104 rfl rfl (ce_at ce_104 44 rfl) g4 (fun h5 => ?_) (fun h5 => ?_)
  · refine e_mv 137 em_104 (ce_at ce_104 70 rfl) rfl rfl ?_
    refine e_op 138 em_104 (ce_at ce_104 71 rfl) rfl rfl ?_
    refine e_mv 139 em_104 (ce_at ce_104 72 rfl) rfl rfl ?_
    refine e_ivv 142 em_104 (ce_at ce_104 73 rfl) (by omega) (iv_v2 (by decide) tq_22 rfl) em_107 (Nat.le_of_ble_eq_true rfl) rfl (ttrl_addVariable w (d - 1) (by omega) _ _ _) (fun r6 s6 => ?_)
    exact e_retv em_104 (ce_at ce_104 74 rfl)
  · refine e_mv 91 em_104 (ce_at ce_104 45 rfl) rfl rfl ?_
    refine e_getr 94 em_104 (ce_at ce_104 46 rfl) tq_22 rfl rfl ?_
    refine e_op 95 em_104 (ce_at ce_104 47 rfl) rfl rfl ?_
    refine e_bip 97 em_104 (ce_at ce_104 48 rfl) (by decide) rfl ?_
    refine e_op 98 em_104 (ce_at ce_104 49 rfl) rfl rfl ?_
    refine e_ivv 101 em_104 (ce_at ce_104 50 rfl) (by omega) (iv_v3 (by decide) tq_14 rfl) em_99 (Nat.le_of_ble_eq_true rfl) rfl (tprg_add w (d - 1) (by omega) _ _ _ _) (fun r7 s7 => ?_)
    refine e_mv 102 em_104 (ce_at ce_104 51 rfl) rfl rfl ?_
    refine e_getr 105 em_104 (ce_at ce_104 52 rfl) tq_22 rfl rfl ?_
    refine e_op 106 em_104 (ce_at ce_104 53 rfl) rfl rfl ?_
    refine e_bip 108 em_104 (ce_at ce_104 54 rfl) (by decide) rfl ?_
    refine e_op 109 em_104 (ce_at ce_104 55 rfl) rfl rfl ?_
    refine e_ivv 112 em_104 (ce_at ce_104 56 rfl) (by omega) (iv_v3 (by decide) tq_14 rfl) em_99 (Nat.le_of_ble_eq_true rfl) rfl (tprg_add w (d - 1) (by omega) _ _ _ _) (fun r8 s8 => ?_)
    refine e_mv 113 em_104 (ce_at ce_104 57 rfl) rfl rfl ?_
    refine e_getr 116 em_104 (ce_at ce_104 58 rfl) tq_22 rfl rfl ?_
    refine e_op 117 em_104 (ce_at ce_104 59 rfl) rfl rfl ?_
    refine e_bip 119 em_104 (ce_at ce_104 60 rfl) (by decide) rfl ?_
    refine e_op 120 em_104 (ce_at ce_104 61 rfl) rfl rfl ?_
    refine e_ivv 123 em_104 (ce_at ce_104 62 rfl) (by omega) (iv_v3 (by decide) tq_14 rfl) em_99 (Nat.le_of_ble_eq_true rfl) rfl (tprg_add w (d - 1) (by omega) _ _ _ _) (fun r9 s9 => ?_)
    refine e_mv 124 em_104 (ce_at ce_104 63 rfl) rfl rfl ?_
    refine e_getr 127 em_104 (ce_at ce_104 64 rfl) tq_22 rfl rfl ?_
    refine e_op 128 em_104 (ce_at ce_104 65 rfl) rfl rfl ?_
    refine e_op 129 em_104 (ce_at ce_104 66 rfl) rfl rfl ?_
    refine e_op 130 em_104 (ce_at ce_104 67 rfl) rfl rfl ?_
    refine e_ivv 133 em_104 (ce_at ce_104 68 rfl) (by omega) (iv_v3 (by decide) tq_14 rfl) em_99 (Nat.le_of_ble_eq_true rfl) rfl (tprg_add w (d - 1) (by omega) _ _ _ _) (fun r10 s10 => ?_)
    refine e_goto em_104 142 (ce_at ce_104 69 rfl) rfl ?_
    exact e_retv em_104 (ce_at ce_104 74 rfl)
theorem ftrl_readLet_64 (v1 : Int) (v2 : Int) (s : iS) : Fm Prod.snd L_trl_readLet G_trl_readLet s (trl_readLet_64 v1 v2 s) := fm_bd (fm_sub (ftok_expect _ _) (mem_sub_L rfl) (mem_sub_F rfl)) (fun r1 s1 => fm_bd (fm_sub (ftrlE 150 1 _ _ _ _) (mem_sub_L rfl) (mem_sub_F rfl)) (fun r2 s2 => fm_bd (fm_sub (ftok_expect _ _) (mem_sub_L rfl) (mem_sub_F rfl)) (fun r3 s3 => fm_gd (fm_if (fm_bd (fm_sub (ftrl_addVariable _ _ _) (mem_sub_L rfl) (mem_sub_F rfl)) (fun r6 s6 => fm_some md_refl)) (fm_bd (fm_sub (fprg_add _ _ _ _) (mem_sub_L rfl) (mem_sub_F rfl)) (fun r7 s7 => fm_bd (fm_sub (fprg_add _ _ _ _) (mem_sub_L rfl) (mem_sub_F rfl)) (fun r8 s8 => fm_bd (fm_sub (fprg_add _ _ _ _) (mem_sub_L rfl) (mem_sub_F rfl)) (fun r9 s9 => fm_bd (fm_sub (fprg_add _ _ _ _) (mem_sub_L rfl) (mem_sub_F rfl)) (fun r10 s10 => fm_some md_refl)))))))))
noncomputable def trl_readLet_49 (v1 : Int) (t0 : Int) (s : iS) : Option (Int × iS) := gd (rg t0) (if t0 = 0 then trl_readLet_64 v1 t0 s else bd (trl_addVariable 0 v1 s) (fun _ s3 => bd (trlE 150 0 0 0 0 s3) (fun _ s4 => trl_readLet_64 v1 t0 s4)))
theorem ttrl_readLet_49 (w : ev_W) (d : Nat) (hd : 156 ≤ d) (v1 : Int) (t0 : Int) (s : iS) : Ew hT w d 104 49 [(0, .ref (tb_nK + 22)), (1, iv v1)] [iv t0] s (Cv hT) (trl_readLet_49 v1 t0 s) := by
  unfold trl_readLet_49
  refine e_mv 50 em_104 (ce_at ce_104 24 rfl) rfl rfl ?_
  refine e_mv 51 em_104 (ce_at ce_104 25 rfl) rfl rfl ?_
  refine e_gd fun g1 => ?_
  refine e_ifeq 64 54 em_104 rfl rfl (ce_at ce_104 26 rfl) g1 (fun h2 => ?_) (fun h2 => ?_)
  · refine e_pk [0, 1, 2] rfl rfl ?_
    exact ttrl_readLet_64 w d hd _ _ _
  · refine e_mv 55 em_104 (ce_at ce_104 27 rfl) rfl rfl ?_
    refine e_op 56 em_104 (ce_at ce_104 28 rfl) rfl rfl ?_
    refine e_mv 57 em_104 (ce_at ce_104 29 rfl) rfl rfl ?_
    refine e_ivv 60 em_104 (ce_at ce_104 30 rfl) (by omega) (iv_v2 (by decide) tq_22 rfl) em_107 (Nat.le_of_ble_eq_true rfl) rfl (ttrl_addVariable w (d - 1) (by omega) _ _ _) (fun r3 s3 => ?_)
    refine e_mv 61 em_104 (ce_at ce_104 31 rfl) rfl rfl ?_
    refine e_ivv 64 em_104 (ce_at ce_104 32 rfl) (by omega) (iv_v0 (by decide) tq_22 rfl) em_108 (Nat.le_of_ble_eq_true rfl) rfl ((trlE_t w 150 (d - 1) (by omega)).1  _) (fun r4 s4 => ?_)
    refine e_pk [0, 1, 2] rfl rfl ?_
    exact ttrl_readLet_64 w d hd _ _ _
theorem ftrl_readLet_49 (v1 : Int) (t0 : Int) (s : iS) : Fm Prod.snd L_trl_readLet G_trl_readLet s (trl_readLet_49 v1 t0 s) := fm_gd (fm_if (ftrl_readLet_64 _ _ _) (fm_bd (fm_sub (ftrl_addVariable _ _ _) (mem_sub_L rfl) (mem_sub_F rfl)) (fun r3 s3 => fm_bd (fm_sub (ftrlE 150 0 _ _ _ _) (mem_sub_L rfl) (mem_sub_F rfl)) (fun r4 s4 => ftrl_readLet_64 _ _ _))))
noncomputable def trl_readLet (s : iS) : Option (Int × iS) := bd (trl_findVariable (s 2 12) s) (fun r1 s1 => bd (trl_checkVariable r1 (s1 2 12) s1) (fun _ s2 => bd (tok_expect 3 s2) (fun _ s3 => bd (tok_kind s3) (fun r4 s4 => gd (rg r4) (if r4 = 91 then trl_readLet_49 r1 1 s4 else trl_readLet_49 r1 0 s4)))))
theorem ttrl_readLet (w : ev_W) (d : Nat) (hd : 156 ≤ d) (s : iS) : Ew hT w d 104 0 [(0, .ref (tb_nK + 22))] [] s (Cv hT) (trl_readLet s) := by
  unfold trl_readLet
  refine e_mv 1 em_104 (ce_at ce_104 0 rfl) rfl rfl ?_
  refine e_mv 2 em_104 (ce_at ce_104 1 rfl) rfl rfl ?_
  refine e_getr 5 em_104 (ce_at ce_104 2 rfl) tq_22 rfl rfl ?_
  refine e_get 8 em_104 (ce_at ce_104 3 rfl) tq_2 rfl rfl ?_
  refine e_ivi 11 em_104 (ce_at ce_104 4 rfl) (by omega) (iv_v1 (by decide) tq_22 rfl) em_105 (Nat.le_of_ble_eq_true rfl) rfl (ttrl_findVariable w (d - 1) (by omega) _ _) (fun r1 s1 => ?_)
  refine e_mv 12 em_104 (ce_at ce_104 5 rfl) rfl rfl ?_
  refine e_mv 13 em_104 (ce_at ce_104 6 rfl) rfl rfl ?_
  refine e_mv 14 em_104 (ce_at ce_104 7 rfl) rfl rfl ?_
  refine e_mv 15 em_104 (ce_at ce_104 8 rfl) rfl rfl ?_
  refine e_getr 18 em_104 (ce_at ce_104 9 rfl) tq_22 rfl rfl ?_
  refine e_get 21 em_104 (ce_at ce_104 10 rfl) tq_2 rfl rfl ?_
  refine e_ivv 24 em_104 (ce_at ce_104 11 rfl) (by omega) (iv_v2 (by decide) tq_22 rfl) em_106 (Nat.le_of_ble_eq_true rfl) rfl (ttrl_checkVariable w (d - 1) (by omega) _ _ _) (fun r2 s2 => ?_)
  refine e_mv 25 em_104 (ce_at ce_104 12 rfl) rfl rfl ?_
  refine e_getr 28 em_104 (ce_at ce_104 13 rfl) tq_22 rfl rfl ?_
  refine e_op 29 em_104 (ce_at ce_104 14 rfl) rfl rfl ?_
  refine e_ivv 32 em_104 (ce_at ce_104 15 rfl) (by omega) (iv_v1 (by decide) tq_2 rfl) em_86 (Nat.le_of_ble_eq_true rfl) rfl (ttok_expect w (d - 1) (by omega) _ _) (fun r3 s3 => ?_)
  refine e_mv 33 em_104 (ce_at ce_104 16 rfl) rfl rfl ?_
  refine e_getr 36 em_104 (ce_at ce_104 17 rfl) tq_22 rfl rfl ?_
  refine e_ivi 39 em_104 (ce_at ce_104 18 rfl) (by omega) (iv_v0 (by decide) tq_2 rfl) em_69 (Nat.le_of_ble_eq_true rfl) rfl (ttok_kind w (d - 1) (by omega) _) (fun r4 s4 => ?_)
  refine e_bip 41 em_104 (ce_at ce_104 19 rfl) (by decide) rfl ?_
  refine e_gd fun g5 => ?_
  refine e_cmne 48 44 em_104 rfl rfl (ce_at ce_104 20 rfl) g5 (by decide) (fun h6 => ?_) (fun h6 => ?_)
  · refine e_op 49 em_104 (ce_at ce_104 23 rfl) rfl rfl ?_
    refine e_pk [0, 1] rfl rfl ?_
    exact ttrl_readLet_49 w d hd _ _ _
  · refine e_op 45 em_104 (ce_at ce_104 21 rfl) rfl rfl ?_
    refine e_goto em_104 49 (ce_at ce_104 22 rfl) rfl ?_
    refine e_pk [0, 1] rfl rfl ?_
    exact ttrl_readLet_49 w d hd _ _ _
theorem ftrl_readLet (s : iS) : Fm Prod.snd L_trl_readLet G_trl_readLet s (trl_readLet s) := fm_bd (fm_sub (ftrl_findVariable _ _) (mem_sub_L rfl) (mem_sub_F rfl)) (fun r1 s1 => fm_bd (fm_sub (ftrl_checkVariable _ _ _) (mem_sub_L rfl) (mem_sub_F rfl)) (fun r2 s2 => fm_bd (fm_sub (ftok_expect _ _) (mem_sub_L rfl) (mem_sub_F rfl)) (fun r3 s3 => fm_bd (fm_sub (ftok_kind _) (mem_sub_L rfl) (mem_sub_F rfl)) (fun r4 s4 => fm_gd (fm_if (ftrl_readLet_49 _ _ _) (ftrl_readLet_49 _ _ _))))))
/-! trl_readDo -/
def L_trl_readDo : List Nat := [15, 16, 17, 18, 19]
def G_trl_readDo : List (Nat × Nat) := [(2, 12), (2, 13), (2, 14), (14, 8), (14, 12), (22, 5), (22, 6)]
noncomputable def trl_readDo (s : iS) : Option (Int × iS) := bd (trlE 150 4 0 0 0 s) (fun _ s1 => bd (tok_expect 59 s1) (fun _ s2 => bd (prg_add 1 7 0 s2) (fun _ s3 => some (0, s3))))
theorem ttrl_readDo (w : ev_W) (d : Nat) (hd : 156 ≤ d) (s : iS) : Ew hT w d 131 0 [(0, .ref (tb_nK + 22))] [] s (Cv hT) (trl_readDo s) := by
  unfold trl_readDo
  refine e_mv 1 em_131 (ce_at ce_131 0 rfl) rfl rfl ?_
  refine e_ivv 4 em_131 (ce_at ce_131 1 rfl) (by omega) (iv_v0 (by decide) tq_22 rfl) em_113 (Nat.le_of_ble_eq_true rfl) rfl ((trlE_t w 150 (d - 1) (by omega)).2.2.2.2.1  _) (fun r1 s1 => ?_)
  refine e_mv 5 em_131 (ce_at ce_131 2 rfl) rfl rfl ?_
  refine e_getr 8 em_131 (ce_at ce_131 3 rfl) tq_22 rfl rfl ?_
  refine e_bip 10 em_131 (ce_at ce_131 4 rfl) (by decide) rfl ?_
  refine e_ivv 13 em_131 (ce_at ce_131 5 rfl) (by omega) (iv_v1 (by decide) tq_2 rfl) em_86 (Nat.le_of_ble_eq_true rfl) rfl (ttok_expect w (d - 1) (by omega) _ _) (fun r2 s2 => ?_)
  refine e_mv 14 em_131 (ce_at ce_131 6 rfl) rfl rfl ?_
  refine e_getr 17 em_131 (ce_at ce_131 7 rfl) tq_22 rfl rfl ?_
  refine e_op 18 em_131 (ce_at ce_131 8 rfl) rfl rfl ?_
  refine e_bip 20 em_131 (ce_at ce_131 9 rfl) (by decide) rfl ?_
  refine e_op 21 em_131 (ce_at ce_131 10 rfl) rfl rfl ?_
  refine e_ivv 24 em_131 (ce_at ce_131 11 rfl) (by omega) (iv_v3 (by decide) tq_14 rfl) em_99 (Nat.le_of_ble_eq_true rfl) rfl (tprg_add w (d - 1) (by omega) _ _ _ _) (fun r3 s3 => ?_)
  exact e_retv em_131 (ce_at ce_131 12 rfl)
theorem ftrl_readDo (s : iS) : Fm Prod.snd L_trl_readDo G_trl_readDo s (trl_readDo s) := fm_bd (fm_sub (ftrlE 150 4 _ _ _ _) (mem_sub_L rfl) (mem_sub_F rfl)) (fun r1 s1 => fm_bd (fm_sub (ftok_expect _ _) (mem_sub_L rfl) (mem_sub_F rfl)) (fun r2 s2 => fm_bd (fm_sub (fprg_add _ _ _ _) (mem_sub_L rfl) (mem_sub_F rfl)) (fun r3 s3 => fm_some md_refl)))
/-! trl_readReturn -/
def L_trl_readReturn : List Nat := [15, 16, 17, 18, 19]
def G_trl_readReturn : List (Nat × Nat) := [(2, 12), (2, 13), (2, 14), (14, 8), (14, 12), (22, 5), (22, 6)]
noncomputable def trl_readReturn_29 (s : iS) : Option (Int × iS) := bd (tok_expect 59 s) (fun _ s1 => bd (prg_add 16 0 0 s1) (fun _ s2 => some (0, s2)))
theorem ttrl_readReturn_29 (w : ev_W) (d : Nat) (hd : 156 ≤ d) (s : iS) : Ew hT w d 132 29 [(0, .ref (tb_nK + 22))] [] s (Cv hT) (trl_readReturn_29 s) := by
  unfold trl_readReturn_29
  refine e_mv 30 em_132 (ce_at ce_132 14 rfl) rfl rfl ?_
  refine e_getr 33 em_132 (ce_at ce_132 15 rfl) tq_22 rfl rfl ?_
  refine e_bip 35 em_132 (ce_at ce_132 16 rfl) (by decide) rfl ?_
  refine e_ivv 38 em_132 (ce_at ce_132 17 rfl) (by omega) (iv_v1 (by decide) tq_2 rfl) em_86 (Nat.le_of_ble_eq_true rfl) rfl (ttok_expect w (d - 1) (by omega) _ _) (fun r1 s1 => ?_)
  refine e_mv 39 em_132 (ce_at ce_132 18 rfl) rfl rfl ?_
  refine e_getr 42 em_132 (ce_at ce_132 19 rfl) tq_22 rfl rfl ?_
  refine e_bip 44 em_132 (ce_at ce_132 20 rfl) (by decide) rfl ?_
  refine e_op 45 em_132 (ce_at ce_132 21 rfl) rfl rfl ?_
  refine e_op 46 em_132 (ce_at ce_132 22 rfl) rfl rfl ?_
  refine e_ivv 49 em_132 (ce_at ce_132 23 rfl) (by omega) (iv_v3 (by decide) tq_14 rfl) em_99 (Nat.le_of_ble_eq_true rfl) rfl (tprg_add w (d - 1) (by omega) _ _ _ _) (fun r2 s2 => ?_)
  exact e_retv em_132 (ce_at ce_132 24 rfl)
theorem ftrl_readReturn_29 (s : iS) : Fm Prod.snd L_trl_readReturn G_trl_readReturn s (trl_readReturn_29 s) := fm_bd (fm_sub (ftok_expect _ _) (mem_sub_L rfl) (mem_sub_F rfl)) (fun r1 s1 => fm_bd (fm_sub (fprg_add _ _ _ _) (mem_sub_L rfl) (mem_sub_F rfl)) (fun r2 s2 => fm_some md_refl))
noncomputable def trl_readReturn (s : iS) : Option (Int × iS) := bd (tok_kind s) (fun r1 s1 => gd (rg r1) (if r1 = 59 then bd (prg_add 0 0 0 s1) (fun _ s5 => trl_readReturn_29 s5) else bd (trlE 150 1 0 0 0 s1) (fun _ s4 => trl_readReturn_29 s4)))
theorem ttrl_readReturn (w : ev_W) (d : Nat) (hd : 156 ≤ d) (s : iS) : Ew hT w d 132 0 [(0, .ref (tb_nK + 22))] [] s (Cv hT) (trl_readReturn s) := by
  unfold trl_readReturn
  refine e_mv 1 em_132 (ce_at ce_132 0 rfl) rfl rfl ?_
  refine e_getr 4 em_132 (ce_at ce_132 1 rfl) tq_22 rfl rfl ?_
  refine e_ivi 7 em_132 (ce_at ce_132 2 rfl) (by omega) (iv_v0 (by decide) tq_2 rfl) em_69 (Nat.le_of_ble_eq_true rfl) rfl (ttok_kind w (d - 1) (by omega) _) (fun r1 s1 => ?_)
  refine e_bip 9 em_132 (ce_at ce_132 3 rfl) (by decide) rfl ?_
  refine e_gd fun g2 => ?_
  refine e_cmne 25 12 em_132 rfl rfl (ce_at ce_132 4 rfl) g2 (by decide) (fun h3 => ?_) (fun h3 => ?_)
  · refine e_mv 26 em_132 (ce_at ce_132 12 rfl) rfl rfl ?_
    refine e_ivv 29 em_132 (ce_at ce_132 13 rfl) (by omega) (iv_v0 (by decide) tq_22 rfl) em_109 (Nat.le_of_ble_eq_true rfl) rfl ((trlE_t w 150 (d - 1) (by omega)).2.1  _) (fun r4 s4 => ?_)
    refine e_pk [0] rfl rfl ?_
    exact ttrl_readReturn_29 w d hd _
  · refine e_mv 13 em_132 (ce_at ce_132 5 rfl) rfl rfl ?_
    refine e_getr 16 em_132 (ce_at ce_132 6 rfl) tq_22 rfl rfl ?_
    refine e_op 17 em_132 (ce_at ce_132 7 rfl) rfl rfl ?_
    refine e_op 18 em_132 (ce_at ce_132 8 rfl) rfl rfl ?_
    refine e_op 19 em_132 (ce_at ce_132 9 rfl) rfl rfl ?_
    refine e_ivv 22 em_132 (ce_at ce_132 10 rfl) (by omega) (iv_v3 (by decide) tq_14 rfl) em_99 (Nat.le_of_ble_eq_true rfl) rfl (tprg_add w (d - 1) (by omega) _ _ _ _) (fun r5 s5 => ?_)
    refine e_goto em_132 29 (ce_at ce_132 11 rfl) rfl ?_
    refine e_pk [0] rfl rfl ?_
    exact ttrl_readReturn_29 w d hd _
theorem ftrl_readReturn (s : iS) : Fm Prod.snd L_trl_readReturn G_trl_readReturn s (trl_readReturn s) := fm_bd (fm_sub (ftok_kind _) (mem_sub_L rfl) (mem_sub_F rfl)) (fun r1 s1 => fm_gd (fm_if (fm_bd (fm_sub (fprg_add _ _ _ _) (mem_sub_L rfl) (mem_sub_F rfl)) (fun r5 s5 => ftrl_readReturn_29 _)) (fm_bd (fm_sub (ftrlE 150 1 _ _ _ _) (mem_sub_L rfl) (mem_sub_F rfl)) (fun r4 s4 => ftrl_readReturn_29 _))))
/-! trl_readStatements -/
def trl_readStatements_2C (w : ev_W) (d : Nat) : (Int × iS) ⊕ (iS) → am_E → Prop := fun q r => q.elim (fun l => ev w d 101 2 ((fun l => [(0, .ref (tb_nK + 22)), (1, iv (l.1))]) l) [] (hT ((fun l => l.2) l)) r) (fun e => (fun e r => ev w d 101 139 [] [] (hT (e)) r) e r)
noncomputable def trl_readStatements_2b (F : Nat → Int → Int → Int → iS → Option (Int × iS)) (v1 : Int) (s : iS) : Option ((Int × iS) ⊕ (iS)) := gd (rg v1) (if 1000 ≤ v1 then some (.inr s) else bd (tok_kind s) (fun r3 s3 => bd (trl_beginsStatement r3 s3) (fun r4 s4 => gd (rg r4) (if r4 = 0 then some (.inr s4) else bd (tok_kind s4) (fun r7 s7 => bd (tok_placeOf (s7 2 12) s7) (fun r8 s8 => bd (prg_markNext r8 s8) (fun _ s9 => lt' (up s9 2 12 ((s9 2 12) + 1)) (fun s10 => gd (rg r7) (if r7 = 271 then bd (trl_readLet s10) (fun _ s13 => some (.inl ((v1 + 1), s13))) else if r7 = 272 then bd (trl_readDo s10) (fun _ s15 => some (.inl ((v1 + 1), s15))) else if r7 = 273 then bd (F 1 0 0 0 s10) (fun _ s17 => some (.inl ((v1 + 1), s17))) else if r7 = 274 then bd (trl_readReturn s10) (fun _ s19 => some (.inl ((v1 + 1), s19))) else if r7 = 275 then bd (F 3 r8 0 0 s10) (fun _ s21 => some (.inl ((v1 + 1), s21))) else bd (trl_readReturn s10) (fun _ s22 => some (.inl ((v1 + 1), s22))))))))))))
theorem ttrl_readStatements_2b (w : ev_W) (d : Nat) (hd : 157 ≤ d) (F : Nat → Int → Int → Int → iS → Option (Int × iS)) (hF : trlS_ok w (d - 1) F) (v1 : Int) (s : iS) : Ew hT w d 101 2 [(0, .ref (tb_nK + 22)), (1, iv v1)] [] s (trl_readStatements_2C w d) (trl_readStatements_2b F v1 s) := by
  unfold trl_readStatements_2b
  refine e_mv 3 em_101 (ce_at ce_101 2 rfl) rfl rfl ?_
  refine e_sip 6 em_101 (ce_at ce_101 3 rfl) (by decide) rfl ?_
  refine e_gd fun g1 => ?_
  refine e_cmge 139 9 em_101 rfl rfl (ce_at ce_101 4 rfl) g1 (by decide) (fun h2 => ?_) (fun h2 => ?_)
  · refine e_pk [] rfl rfl ?_
    exact e_out (fun r h => h)
  · refine e_mv 10 em_101 (ce_at ce_101 5 rfl) rfl rfl ?_
    refine e_getr 13 em_101 (ce_at ce_101 6 rfl) tq_22 rfl rfl ?_
    refine e_ivi 16 em_101 (ce_at ce_101 7 rfl) (by omega) (iv_v0 (by decide) tq_2 rfl) em_69 (Nat.le_of_ble_eq_true rfl) rfl (ttok_kind w (d - 1) (by omega) _) (fun r3 s3 => ?_)
    refine e_ivi 19 em_101 (ce_at ce_101 8 rfl) (by omega) (iv_s1 rfl) em_102 (Nat.le_of_ble_eq_true rfl) rfl (ttrl_beginsStatement hT w (d - 1) (by omega) _ _) (fun r4 s4 => ?_)
    refine e_gd fun g5 => ?_
    refine e_ifeq 139 22 em_101 rfl rfl (ce_at ce_101 9 rfl) g5 (fun h6 => ?_) (fun h6 => ?_)
    · refine e_pk [] rfl rfl ?_
      exact e_out (fun r h => h)
    · refine e_mv 23 em_101 (ce_at ce_101 10 rfl) rfl rfl ?_
      refine e_getr 26 em_101 (ce_at ce_101 11 rfl) tq_22 rfl rfl ?_
      refine e_ivi 29 em_101 (ce_at ce_101 12 rfl) (by omega) (iv_v0 (by decide) tq_2 rfl) em_69 (Nat.le_of_ble_eq_true rfl) rfl (ttok_kind w (d - 1) (by omega) _) (fun r7 s7 => ?_)
      refine e_mv 30 em_101 (ce_at ce_101 13 rfl) rfl rfl ?_
      refine e_mv 31 em_101 (ce_at ce_101 14 rfl) rfl rfl ?_
      refine e_getr 34 em_101 (ce_at ce_101 15 rfl) tq_22 rfl rfl ?_
      refine e_mv 35 em_101 (ce_at ce_101 16 rfl) rfl rfl ?_
      refine e_getr 38 em_101 (ce_at ce_101 17 rfl) tq_22 rfl rfl ?_
      refine e_get 41 em_101 (ce_at ce_101 18 rfl) tq_2 rfl rfl ?_
      refine e_ivi 44 em_101 (ce_at ce_101 19 rfl) (by omega) (iv_v1 (by decide) tq_2 rfl) em_67 (Nat.le_of_ble_eq_true rfl) rfl (ttok_placeOf w (d - 1) (by omega) _ _) (fun r8 s8 => ?_)
      refine e_mv 45 em_101 (ce_at ce_101 20 rfl) rfl rfl ?_
      refine e_mv 46 em_101 (ce_at ce_101 21 rfl) rfl rfl ?_
      refine e_getr 49 em_101 (ce_at ce_101 22 rfl) tq_22 rfl rfl ?_
      refine e_mv 50 em_101 (ce_at ce_101 23 rfl) rfl rfl ?_
      refine e_ivv 53 em_101 (ce_at ce_101 24 rfl) (by omega) (iv_v1 (by decide) tq_14 rfl) em_103 (Nat.le_of_ble_eq_true rfl) rfl (tprg_markNext w (d - 1) (by omega) _ _) (fun r9 s9 => ?_)
      refine e_mv 54 em_101 (ce_at ce_101 25 rfl) rfl rfl ?_
      refine e_getr 57 em_101 (ce_at ce_101 26 rfl) tq_22 rfl rfl ?_
      refine e_op 58 em_101 (ce_at ce_101 27 rfl) rfl rfl ?_
      refine e_get 61 em_101 (ce_at ce_101 28 rfl) tq_2 rfl rfl ?_
      refine e_op 62 em_101 (ce_at ce_101 29 rfl) rfl rfl ?_
      refine e_iadd 63 em_101 rfl (ce_at ce_101 30 rfl) ?_
      refine e_put 66 em_101 (ce_at ce_101 31 rfl) tq_2 rfl rfl rfl (fun s10 => ?_)
      refine e_mv 67 em_101 (ce_at ce_101 32 rfl) rfl rfl ?_
      refine e_gd fun g11 => ?_
      refine e_case 271 (fun h12 => ?_) (fun h12 => ?_)
      · refine e_sw em_101 100 (ce_at ce_101 33 rfl) (sw_in g11 (by omega) (by subst h12; rfl)) rfl ?_
        refine e_mv 101 em_101 (ce_at ce_101 34 rfl) rfl rfl ?_
        refine e_ivv 104 em_101 (ce_at ce_101 35 rfl) (by omega) (iv_v0 (by decide) tq_22 rfl) em_104 (Nat.le_of_ble_eq_true rfl) rfl (ttrl_readLet w (d - 1) (by omega) _) (fun r13 s13 => ?_)
        refine e_goto em_101 133 (ce_at ce_101 36 rfl) rfl ?_
        refine e_iinc 136 em_101 (ce_at ce_101 49 rfl) rfl (by decide) rfl ?_
        refine e_goto em_101 2 (ce_at ce_101 50 rfl) rfl ?_
        refine e_pk [0, 1] rfl rfl ?_
        exact e_out (fun r h => h)
      refine e_case 272 (fun h14 => ?_) (fun h14 => ?_)
      · refine e_sw em_101 122 (ce_at ce_101 33 rfl) (sw_in g11 (by omega) (by subst h14; rfl)) rfl ?_
        refine e_mv 123 em_101 (ce_at ce_101 44 rfl) rfl rfl ?_
        refine e_ivv 126 em_101 (ce_at ce_101 45 rfl) (by omega) (iv_v0 (by decide) tq_22 rfl) em_131 (Nat.le_of_ble_eq_true rfl) rfl (ttrl_readDo w (d - 1) (by omega) _) (fun r15 s15 => ?_)
        refine e_goto em_101 133 (ce_at ce_101 46 rfl) rfl ?_
        refine e_iinc 136 em_101 (ce_at ce_101 49 rfl) rfl (by decide) rfl ?_
        refine e_goto em_101 2 (ce_at ce_101 50 rfl) rfl ?_
        refine e_pk [0, 1] rfl rfl ?_
        exact e_out (fun r h => h)
      refine e_case 273 (fun h16 => ?_) (fun h16 => ?_)
      · refine e_sw em_101 107 (ce_at ce_101 33 rfl) (sw_in g11 (by omega) (by subst h16; rfl)) rfl ?_
        refine e_mv 108 em_101 (ce_at ce_101 37 rfl) rfl rfl ?_
        refine e_ivv 111 em_101 (ce_at ce_101 38 rfl) (by omega) (iv_v0 (by decide) tq_22 rfl) em_126 (Nat.le_of_ble_eq_true rfl) rfl (hF.2.1  _) (fun r17 s17 => ?_)
        refine e_goto em_101 133 (ce_at ce_101 39 rfl) rfl ?_
        refine e_iinc 136 em_101 (ce_at ce_101 49 rfl) rfl (by decide) rfl ?_
        refine e_goto em_101 2 (ce_at ce_101 50 rfl) rfl ?_
        refine e_pk [0, 1] rfl rfl ?_
        exact e_out (fun r h => h)
      refine e_case 274 (fun h18 => ?_) (fun h18 => ?_)
      · refine e_sw em_101 129 (ce_at ce_101 33 rfl) (sw_in g11 (by omega) (by subst h18; rfl)) rfl ?_
        refine e_mv 130 em_101 (ce_at ce_101 47 rfl) rfl rfl ?_
        refine e_ivv 133 em_101 (ce_at ce_101 48 rfl) (by omega) (iv_v0 (by decide) tq_22 rfl) em_132 (Nat.le_of_ble_eq_true rfl) rfl (ttrl_readReturn w (d - 1) (by omega) _) (fun r19 s19 => ?_)
        refine e_iinc 136 em_101 (ce_at ce_101 49 rfl) rfl (by decide) rfl ?_
        refine e_goto em_101 2 (ce_at ce_101 50 rfl) rfl ?_
        refine e_pk [0, 1] rfl rfl ?_
        exact e_out (fun r h => h)
      refine e_case 275 (fun h20 => ?_) (fun h20 => ?_)
      · refine e_sw em_101 114 (ce_at ce_101 33 rfl) (sw_in g11 (by omega) (by subst h20; rfl)) rfl ?_
        refine e_mv 115 em_101 (ce_at ce_101 40 rfl) rfl rfl ?_
        refine e_mv 116 em_101 (ce_at ce_101 41 rfl) rfl rfl ?_
        refine e_ivv 119 em_101 (ce_at ce_101 42 rfl) (by omega) (iv_v1 (by decide) tq_22 rfl) em_130 (Nat.le_of_ble_eq_true rfl) rfl (hF.2.2.2 _ _) (fun r21 s21 => ?_)
        refine e_goto em_101 133 (ce_at ce_101 43 rfl) rfl ?_
        refine e_iinc 136 em_101 (ce_at ce_101 49 rfl) rfl (by decide) rfl ?_
        refine e_goto em_101 2 (ce_at ce_101 50 rfl) rfl ?_
        refine e_pk [0, 1] rfl rfl ?_
        exact e_out (fun r h => h)
      refine e_sw em_101 129 (ce_at ce_101 33 rfl) (sw_out g11 (by omega)) rfl ?_
      refine e_mv 130 em_101 (ce_at ce_101 47 rfl) rfl rfl ?_
      refine e_ivv 133 em_101 (ce_at ce_101 48 rfl) (by omega) (iv_v0 (by decide) tq_22 rfl) em_132 (Nat.le_of_ble_eq_true rfl) rfl (ttrl_readReturn w (d - 1) (by omega) _) (fun r22 s22 => ?_)
      refine e_iinc 136 em_101 (ce_at ce_101 49 rfl) rfl (by decide) rfl ?_
      refine e_goto em_101 2 (ce_at ce_101 50 rfl) rfl ?_
      refine e_pk [0, 1] rfl rfl ?_
      exact e_out (fun r h => h)
theorem ftrl_readStatements_2b (F : Nat → Int → Int → Int → iS → Option (Int × iS)) (hF : ∀ (t : Nat) (a b c : Int) (s : iS), Fm Prod.snd L_trlS G_trlS s (F t a b c s)) (v1 : Int) (s : iS) : Fm (fun r : (Int × iS) ⊕ (iS) => r.elim (fun l => l.2) (fun e => e)) L_trlS G_trlS s (trl_readStatements_2b F v1 s) := fm_gd (fm_if (fm_some md_refl) (fm_bd (fm_sub (ftok_kind _) (mem_sub_L rfl) (mem_sub_F rfl)) (fun r3 s3 => fm_bd (fm_sub (ftrl_beginsStatement _ _) (mem_sub_L rfl) (mem_sub_F rfl)) (fun r4 s4 => fm_gd (fm_if (fm_some md_refl) (fm_bd (fm_sub (ftok_kind _) (mem_sub_L rfl) (mem_sub_F rfl)) (fun r7 s7 => fm_bd (fm_sub (ftok_placeOf _ _) (mem_sub_L rfl) (mem_sub_F rfl)) (fun r8 s8 => fm_bd (fm_sub (fprg_markNext _ _) (mem_sub_L rfl) (mem_sub_F rfl)) (fun r9 s9 => fm_lt (md_upF (mem_F rfl)) (fun s10 => fm_gd (fm_if (fm_bd (fm_sub (ftrl_readLet _) (mem_sub_L rfl) (mem_sub_F rfl)) (fun r13 s13 => fm_some md_refl)) (fm_if (fm_bd (fm_sub (ftrl_readDo _) (mem_sub_L rfl) (mem_sub_F rfl)) (fun r15 s15 => fm_some md_refl)) (fm_if (fm_bd (hF 1 _ _ _ _) (fun r17 s17 => fm_some md_refl)) (fm_if (fm_bd (fm_sub (ftrl_readReturn _) (mem_sub_L rfl) (mem_sub_F rfl)) (fun r19 s19 => fm_some md_refl)) (fm_if (fm_bd (hF 3 _ _ _ _) (fun r21 s21 => fm_some md_refl)) (fm_bd (fm_sub (ftrl_readReturn _) (mem_sub_L rfl) (mem_sub_F rfl)) (fun r22 s22 => fm_some md_refl)))))))))))))))))
noncomputable def trl_readStatements_2 (F : Nat → Int → Int → Int → iS → Option (Int × iS)) (v1 : Int) (s : iS) : Option (Int × iS) := (lp (L := Int × iS) (E := iS) (fun l => trl_readStatements_2b F (l.1) (l.2)) (v1, s)).bind (fun e => some (0, e))
theorem ttrl_readStatements_2 (w : ev_W) (d : Nat) (hd : 157 ≤ d) (F : Nat → Int → Int → Int → iS → Option (Int × iS)) (hF : trlS_ok w (d - 1) F) (v1 : Int) (s : iS) : Ew hT w d 101 2 [(0, .ref (tb_nK + 22)), (1, iv v1)] [] s (Cv hT) (trl_readStatements_2 F v1 s) := by
  unfold trl_readStatements_2
  refine e_lp (L := Int × iS) (E := iS) (LO := fun l => [(0, .ref (tb_nK + 22)), (1, iv (l.1))]) (LS := fun l => l.2) (CE := fun e r => ev w d 101 139 [] [] (hT (e)) r) (fun l => ttrl_readStatements_2b w d hd F hF _ _) ?_ (v1, s)
  intro e
  show Ew hT w d 101 139 [] [] e (Cv hT) _
  exact e_retv em_101 (ce_at ce_101 51 rfl)
theorem ftrl_readStatements_2 (F : Nat → Int → Int → Int → iS → Option (Int × iS)) (hF : ∀ (t : Nat) (a b c : Int) (s : iS), Fm Prod.snd L_trlS G_trlS s (F t a b c s)) (v1 : Int) (s : iS) : Fm Prod.snd L_trlS G_trlS s (trl_readStatements_2 F v1 s) := by
  unfold trl_readStatements_2
  refine fm_lp (A := Int × iS) (E := iS) (LS := fun l => l.2) (LE := fun e => e) ?_ ?_ (v1, s)
  · exact fun l => ftrl_readStatements_2b F hF _ _
  · exact (fun e => fm_some md_refl)
noncomputable def trl_readStatements (F : Nat → Int → Int → Int → iS → Option (Int × iS)) (s : iS) : Option (Int × iS) := trl_readStatements_2 F 0 s
theorem ttrl_readStatements (w : ev_W) (d : Nat) (hd : 157 ≤ d) (F : Nat → Int → Int → Int → iS → Option (Int × iS)) (hF : trlS_ok w (d - 1) F) (s : iS) : Ew hT w d 101 0 [(0, .ref (tb_nK + 22))] [] s (Cv hT) (trl_readStatements F s) := by
  unfold trl_readStatements
  refine e_op 1 em_101 (ce_at ce_101 0 rfl) rfl rfl ?_
  refine e_mv 2 em_101 (ce_at ce_101 1 rfl) rfl rfl ?_
  refine e_pk [0, 1] rfl rfl ?_
  exact ttrl_readStatements_2 w d hd F hF _ _
theorem ftrl_readStatements (F : Nat → Int → Int → Int → iS → Option (Int × iS)) (hF : ∀ (t : Nat) (a b c : Int) (s : iS), Fm Prod.snd L_trlS G_trlS s (F t a b c s)) (s : iS) : Fm Prod.snd L_trlS G_trlS s (trl_readStatements F s) := ftrl_readStatements_2 F hF _ _
