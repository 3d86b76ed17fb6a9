/-! what the methods do, as functions, and that the machine does it; printed by wip/whole/dc.py -/
/-! trl_takeLabels -/
def L_trl_takeLabels : List Nat := []
def G_trl_takeLabels : List (Nat × Nat) := [(22, 7)]
noncomputable def trl_takeLabels (s : iS) : Option (Int × iS) := lt' (up s 22 7 ((s 22 7) + 2)) (fun s1 => some (((s1 22 7) - 2), s1))
theorem ttrl_takeLabels (w : ev_W) (d : Nat) (hd : 0 ≤ d) (s : iS) : Ew hT w d 127 0 [(0, .ref (tb_nK + 22))] [] s (Ci hT) (trl_takeLabels s) := by
  unfold trl_takeLabels
  refine e_mv 1 em_127 (ce_at ce_127 0 rfl) rfl rfl ?_
  refine e_op 2 em_127 (ce_at ce_127 1 rfl) rfl rfl ?_
  refine e_get 5 em_127 (ce_at ce_127 2 rfl) tq_22 rfl rfl ?_
  refine e_op 6 em_127 (ce_at ce_127 3 rfl) rfl rfl ?_
  refine e_iadd 7 em_127 rfl (ce_at ce_127 4 rfl) ?_
  refine e_put 10 em_127 (ce_at ce_127 5 rfl) tq_22 rfl rfl rfl (fun s1 => ?_)
  refine e_mv 11 em_127 (ce_at ce_127 6 rfl) rfl rfl ?_
  refine e_get 14 em_127 (ce_at ce_127 7 rfl) tq_22 rfl rfl ?_
  refine e_op 15 em_127 (ce_at ce_127 8 rfl) rfl rfl ?_
  refine e_isub 16 em_127 rfl (ce_at ce_127 9 rfl) ?_
  exact e_reti em_127 (ce_at ce_127 10 rfl)
theorem ftrl_takeLabels (s : iS) : Fm Prod.snd L_trl_takeLabels G_trl_takeLabels s (trl_takeLabels s) := fm_lt (md_upF (mem_F rfl)) (fun s1 => fm_some md_refl)
/-! trl_readCondition -/
def L_trl_readCondition : List Nat := [15, 16, 17, 18, 19]
def G_trl_readCondition : List (Nat × Nat) := [(2, 12), (2, 13), (2, 14), (14, 8), (14, 12), (22, 5), (22, 6)]
noncomputable def trl_readCondition (v1 : Int) (s : iS) : Option (Int × iS) := bd (trl_openSign 40 s) (fun _ s1 => bd (trlE 150 1 0 0 0 s1) (fun _ s2 => bd (tok_expect 41 s2) (fun _ s3 => lt' (up s3 22 5 ((s3 22 5) - 1)) (fun s4 => bd (prg_add 0 0 0 s4) (fun _ s5 => bd (prg_add 8 0 0 s5) (fun _ s6 => bd (prg_add 13 v1 0 s6) (fun _ s7 => some (0, s7))))))))
theorem ttrl_readCondition (w : ev_W) (d : Nat) (hd : 156 ≤ d) (v1 : Int) (s : iS) : Ew hT w d 128 0 [(0, .ref (tb_nK + 22)), (1, iv v1)] [] s (Cv hT) (trl_readCondition v1 s) := by
  unfold trl_readCondition
  refine e_mv 1 em_128 (ce_at ce_128 0 rfl) rfl rfl ?_
  refine e_bip 3 em_128 (ce_at ce_128 1 rfl) (by decide) rfl ?_
  refine e_ivv 6 em_128 (ce_at ce_128 2 rfl) (by omega) (iv_v1 (by decide) tq_22 rfl) em_78 (Nat.le_of_ble_eq_true rfl) rfl (ttrl_openSign w (d - 1) (by omega) _ _) (fun r1 s1 => ?_)
  refine e_mv 7 em_128 (ce_at ce_128 3 rfl) rfl rfl ?_
  refine e_ivv 10 em_128 (ce_at ce_128 4 rfl) (by omega) (iv_v0 (by decide) tq_22 rfl) em_109 (Nat.le_of_ble_eq_true rfl) rfl ((trlE_t w 150 (d - 1) (by omega)).2.1  _) (fun r2 s2 => ?_)
  refine e_mv 11 em_128 (ce_at ce_128 5 rfl) rfl rfl ?_
  refine e_getr 14 em_128 (ce_at ce_128 6 rfl) tq_22 rfl rfl ?_
  refine e_bip 16 em_128 (ce_at ce_128 7 rfl) (by decide) rfl ?_
  refine e_ivv 19 em_128 (ce_at ce_128 8 rfl) (by omega) (iv_v1 (by decide) tq_2 rfl) em_86 (Nat.le_of_ble_eq_true rfl) rfl (ttok_expect w (d - 1) (by omega) _ _) (fun r3 s3 => ?_)
  refine e_mv 20 em_128 (ce_at ce_128 9 rfl) rfl rfl ?_
  refine e_op 21 em_128 (ce_at ce_128 10 rfl) rfl rfl ?_
  refine e_get 24 em_128 (ce_at ce_128 11 rfl) tq_22 rfl rfl ?_
  refine e_op 25 em_128 (ce_at ce_128 12 rfl) rfl rfl ?_
  refine e_isub 26 em_128 rfl (ce_at ce_128 13 rfl) ?_
  refine e_put 29 em_128 (ce_at ce_128 14 rfl) tq_22 rfl rfl rfl (fun s4 => ?_)
  refine e_mv 30 em_128 (ce_at ce_128 15 rfl) rfl rfl ?_
  refine e_getr 33 em_128 (ce_at ce_128 16 rfl) tq_22 rfl rfl ?_
  refine e_op 34 em_128 (ce_at ce_128 17 rfl) rfl rfl ?_
  refine e_op 35 em_128 (ce_at ce_128 18 rfl) rfl rfl ?_
  refine e_op 36 em_128 (ce_at ce_128 19 rfl) rfl rfl ?_
  refine e_ivv 39 em_128 (ce_at ce_128 20 rfl) (by omega) (iv_v3 (by decide) tq_14 rfl) em_99 (Nat.le_of_ble_eq_true rfl) rfl (tprg_add w (d - 1) (by omega) _ _ _ _) (fun r5 s5 => ?_)
  refine e_mv 40 em_128 (ce_at ce_128 21 rfl) rfl rfl ?_
  refine e_getr 43 em_128 (ce_at ce_128 22 rfl) tq_22 rfl rfl ?_
  refine e_bip 45 em_128 (ce_at ce_128 23 rfl) (by decide) rfl ?_
  refine e_op 46 em_128 (ce_at ce_128 24 rfl) rfl rfl ?_
  refine e_op 47 em_128 (ce_at ce_128 25 rfl) rfl rfl ?_
  refine e_ivv 50 em_128 (ce_at ce_128 26 rfl) (by omega) (iv_v3 (by decide) tq_14 rfl) em_99 (Nat.le_of_ble_eq_true rfl) rfl (tprg_add w (d - 1) (by omega) _ _ _ _) (fun r6 s6 => ?_)
  refine e_mv 51 em_128 (ce_at ce_128 27 rfl) rfl rfl ?_
  refine e_getr 54 em_128 (ce_at ce_128 28 rfl) tq_22 rfl rfl ?_
  refine e_bip 56 em_128 (ce_at ce_128 29 rfl) (by decide) rfl ?_
  refine e_mv 57 em_128 (ce_at ce_128 30 rfl) rfl rfl ?_
  refine e_op 58 em_128 (ce_at ce_128 31 rfl) rfl rfl ?_
  refine e_ivv 61 em_128 (ce_at ce_128 32 rfl) (by omega) (iv_v3 (by decide) tq_14 rfl) em_99 (Nat.le_of_ble_eq_true rfl) rfl (tprg_add w (d - 1) (by omega) _ _ _ _) (fun r7 s7 => ?_)
  exact e_retv em_128 (ce_at ce_128 33 rfl)
theorem ftrl_readCondition (v1 : Int) (s : iS) : Fm Prod.snd L_trl_readCondition G_trl_readCondition s (trl_readCondition v1 s) := fm_bd (fm_sub (ftrl_openSign _ _) (mem_sub_L rfl) (mem_sub_F rfl)) (fun r1 s1 => fm_bd (fm_sub (ftrlE 150 1 _ _ _ _) (mem_sub_L rfl) (mem_sub_F rfl)) (fun r2 s2 => fm_bd (fm_sub (ftok_expect _ _) (mem_sub_L rfl) (mem_sub_F rfl)) (fun r3 s3 => fm_lt (md_upF (mem_F rfl)) (fun s4 => fm_bd (fm_sub (fprg_add _ _ _ _) (mem_sub_L rfl) (mem_sub_F rfl)) (fun r5 s5 => fm_bd (fm_sub (fprg_add _ _ _ _) (mem_sub_L rfl) (mem_sub_F rfl)) (fun r6 s6 => fm_bd (fm_sub (fprg_add _ _ _ _) (mem_sub_L rfl) (mem_sub_F rfl)) (fun r7 s7 => fm_some md_refl)))))))
/-! trl_readIf -/
noncomputable def trl_readIf (F : Nat → Int → Int → Int → iS → Option (Int × iS)) (s : iS) : Option (Int × iS) := bd (trl_takeLabels s) (fun r1 s1 => bd (trl_readCondition r1 s1) (fun _ s2 => bd (F 2 0 0 0 s2) (fun _ s3 => bd (tok_kind s3) (fun r4 s4 => gd (rg r4) (if r4 = 274 then lt' (up s4 2 12 ((s4 2 12) + 1)) (fun s7 => bd (prg_add 12 (r1 + 1) 0 s7) (fun _ s8 => bd (prg_add 11 r1 0 s8) (fun _ s9 => bd (F 2 0 0 0 s9) (fun _ s10 => bd (prg_add 11 (r1 + 1) 0 s10) (fun _ s11 => some (0, s11)))))) else bd (prg_add 11 r1 0 s4) (fun _ s12 => some (0, s12)))))))
theorem ttrl_readIf (w : ev_W) (d : Nat) (hd : 157 ≤ d) (F : Nat → Int → Int → Int → iS → Option (Int × iS)) (hF : trlS_ok w (d - 1) F) (s : iS) : Ew hT w d 126 0 [(0, .ref (tb_nK + 22))] [] s (Cv hT) (trl_readIf F s) := by
  unfold trl_readIf
  refine e_mv 1 em_126 (ce_at ce_126 0 rfl) rfl rfl ?_
  refine e_ivi 4 em_126 (ce_at ce_126 1 rfl) (by omega) (iv_v0 (by decide) tq_22 rfl) em_127 (Nat.le_of_ble_eq_true rfl) rfl (ttrl_takeLabels w (d - 1) (by omega) _) (fun r1 s1 => ?_)
  refine e_mv 5 em_126 (ce_at ce_126 2 rfl) rfl rfl ?_
  refine e_mv 6 em_126 (ce_at ce_126 3 rfl) rfl rfl ?_
  refine e_mv 7 em_126 (ce_at ce_126 4 rfl) rfl rfl ?_
  refine e_ivv 10 em_126 (ce_at ce_126 5 rfl) (by omega) (iv_v1 (by decide) tq_22 rfl) em_128 (Nat.le_of_ble_eq_true rfl) rfl (ttrl_readCondition w (d - 1) (by omega) _ _) (fun r2 s2 => ?_)
  refine e_mv 11 em_126 (ce_at ce_126 6 rfl) rfl rfl ?_
  refine e_ivv 14 em_126 (ce_at ce_126 7 rfl) (by omega) (iv_v0 (by decide) tq_22 rfl) em_129 (Nat.le_of_ble_eq_true rfl) rfl (hF.2.2.1  _) (fun r3 s3 => ?_)
  refine e_mv 15 em_126 (ce_at ce_126 8 rfl) rfl rfl ?_
  refine e_getr 18 em_126 (ce_at ce_126 9 rfl) tq_22 rfl rfl ?_
  refine e_ivi 21 em_126 (ce_at ce_126 10 rfl) (by omega) (iv_v0 (by decide) tq_2 rfl) em_69 (Nat.le_of_ble_eq_true rfl) rfl (ttok_kind w (d - 1) (by omega) _) (fun r4 s4 => ?_)
  refine e_sip 24 em_126 (ce_at ce_126 11 rfl) (by decide) rfl ?_
  refine e_gd fun g5 => ?_
  refine e_cmeq 39 27 em_126 rfl rfl (ce_at ce_126 12 rfl) g5 (by decide) (fun h6 => ?_) (fun h6 => ?_)
  · refine e_mv 40 em_126 (ce_at ce_126 20 rfl) rfl rfl ?_
    refine e_getr 43 em_126 (ce_at ce_126 21 rfl) tq_22 rfl rfl ?_
    refine e_op 44 em_126 (ce_at ce_126 22 rfl) rfl rfl ?_
    refine e_get 47 em_126 (ce_at ce_126 23 rfl) tq_2 rfl rfl ?_
    refine e_op 48 em_126 (ce_at ce_126 24 rfl) rfl rfl ?_
    refine e_iadd 49 em_126 rfl (ce_at ce_126 25 rfl) ?_
    refine e_put 52 em_126 (ce_at ce_126 26 rfl) tq_2 rfl rfl rfl (fun s7 => ?_)
    refine e_mv 53 em_126 (ce_at ce_126 27 rfl) rfl rfl ?_
    refine e_getr 56 em_126 (ce_at ce_126 28 rfl) tq_22 rfl rfl ?_
    refine e_bip 58 em_126 (ce_at ce_126 29 rfl) (by decide) rfl ?_
    refine e_mv 59 em_126 (ce_at ce_126 30 rfl) rfl rfl ?_
    refine e_op 60 em_126 (ce_at ce_126 31 rfl) rfl rfl ?_
    refine e_iadd 61 em_126 rfl (ce_at ce_126 32 rfl) ?_
    refine e_op 62 em_126 (ce_at ce_126 33 rfl) rfl rfl ?_
    refine e_ivv 65 em_126 (ce_at ce_126 34 rfl) (by omega) (iv_v3 (by decide) tq_14 rfl) em_99 (Nat.le_of_ble_eq_true rfl) rfl (tprg_add w (d - 1) (by omega) _ _ _ _) (fun r8 s8 => ?_)
    refine e_mv 66 em_126 (ce_at ce_126 35 rfl) rfl rfl ?_
    refine e_getr 69 em_126 (ce_at ce_126 36 rfl) tq_22 rfl rfl ?_
    refine e_bip 71 em_126 (ce_at ce_126 37 rfl) (by decide) rfl ?_
    refine e_mv 72 em_126 (ce_at ce_126 38 rfl) rfl rfl ?_
    refine e_op 73 em_126 (ce_at ce_126 39 rfl) rfl rfl ?_
    refine e_ivv 76 em_126 (ce_at ce_126 40 rfl) (by omega) (iv_v3 (by decide) tq_14 rfl) em_99 (Nat.le_of_ble_eq_true rfl) rfl (tprg_add w (d - 1) (by omega) _ _ _ _) (fun r9 s9 => ?_)
    refine e_mv 77 em_126 (ce_at ce_126 41 rfl) rfl rfl ?_
    refine e_ivv 80 em_126 (ce_at ce_126 42 rfl) (by omega) (iv_v0 (by decide) tq_22 rfl) em_129 (Nat.le_of_ble_eq_true rfl) rfl (hF.2.2.1  _) (fun r10 s10 => ?_)
    refine e_mv 81 em_126 (ce_at ce_126 43 rfl) rfl rfl ?_
    refine e_getr 84 em_126 (ce_at ce_126 44 rfl) tq_22 rfl rfl ?_
    refine e_bip 86 em_126 (ce_at ce_126 45 rfl) (by decide) rfl ?_
    refine e_mv 87 em_126 (ce_at ce_126 46 rfl) rfl rfl ?_
    refine e_op 88 em_126 (ce_at ce_126 47 rfl) rfl rfl ?_
    refine e_iadd 89 em_126 rfl (ce_at ce_126 48 rfl) ?_
    refine e_op 90 em_126 (ce_at ce_126 49 rfl) rfl rfl ?_
    refine e_ivv 93 em_126 (ce_at ce_126 50 rfl) (by omega) (iv_v3 (by decide) tq_14 rfl) em_99 (Nat.le_of_ble_eq_true rfl) rfl (tprg_add w (d - 1) (by omega) _ _ _ _) (fun r11 s11 => ?_)
    exact e_retv em_126 (ce_at ce_126 51 rfl)
  · refine e_mv 28 em_126 (ce_at ce_126 13 rfl) rfl rfl ?_
    refine e_getr 31 em_126 (ce_at ce_126 14 rfl) tq_22 rfl rfl ?_
    refine e_bip 33 em_126 (ce_at ce_126 15 rfl) (by decide) rfl ?_
    refine e_mv 34 em_126 (ce_at ce_126 16 rfl) rfl rfl ?_
    refine e_op 35 em_126 (ce_at ce_126 17 rfl) rfl rfl ?_
    refine e_ivv 38 em_126 (ce_at ce_126 18 rfl) (by omega) (iv_v3 (by decide) tq_14 rfl) em_99 (Nat.le_of_ble_eq_true rfl) rfl (tprg_add w (d - 1) (by omega) _ _ _ _) (fun r12 s12 => ?_)
    exact e_retv em_126 (ce_at ce_126 19 rfl)
theorem ftrl_readIf (F : Nat → Int → Int → Int → iS → Option (Int × iS)) (hF : ∀ (t : Nat) (a b c : Int) (s : iS), Fm Prod.snd L_trlS G_trlS s (F t a b c s)) (s : iS) : Fm Prod.snd L_trlS G_trlS s (trl_readIf F s) := fm_bd (fm_sub (ftrl_takeLabels _) (mem_sub_L rfl) (mem_sub_F rfl)) (fun r1 s1 => fm_bd (fm_sub (ftrl_readCondition _ _) (mem_sub_L rfl) (mem_sub_F rfl)) (fun r2 s2 => fm_bd (hF 2 _ _ _ _) (fun r3 s3 => fm_bd (fm_sub (ftok_kind _) (mem_sub_L rfl) (mem_sub_F rfl)) (fun r4 s4 => fm_gd (fm_if (fm_lt (md_upF (mem_F rfl)) (fun s7 => fm_bd (fm_sub (fprg_add _ _ _ _) (mem_sub_L rfl) (mem_sub_F rfl)) (fun r8 s8 => fm_bd (fm_sub (fprg_add _ _ _ _) (mem_sub_L rfl) (mem_sub_F rfl)) (fun r9 s9 => fm_bd (hF 2 _ _ _ _) (fun r10 s10 => fm_bd (fm_sub (fprg_add _ _ _ _) (mem_sub_L rfl) (mem_sub_F rfl)) (fun r11 s11 => fm_some md_refl)))))) (fm_bd (fm_sub (fprg_add _ _ _ _) (mem_sub_L rfl) (mem_sub_F rfl)) (fun r12 s12 => fm_some md_refl)))))))
/-! trl_readBlock -/
noncomputable def trl_readBlock (F : Nat → Int → Int → Int → iS → Option (Int × iS)) (s : iS) : Option (Int × iS) := bd (trl_openSign 123 s) (fun _ s1 => bd (F 0 0 0 0 s1) (fun _ s2 => bd (tok_expect 125 s2) (fun _ s3 => lt' (up s3 22 5 ((s3 22 5) - 1)) (fun s4 => some (0, s4)))))
theorem ttrl_readBlock (w : ev_W) (d : Nat) (hd : 157 ≤ d) (F : Nat → Int → Int → Int → iS → Option (Int × iS)) (hF : trlS_ok w (d - 1) F) (s : iS) : Ew hT w d 129 0 [(0, .ref (tb_nK + 22))] [] s (Cv hT) (trl_readBlock F s) := by
  unfold trl_readBlock
  refine e_mv 1 em_129 (ce_at ce_129 0 rfl) rfl rfl ?_
  refine e_bip 3 em_129 (ce_at ce_129 1 rfl) (by decide) rfl ?_
  refine e_ivv 6 em_129 (ce_at ce_129 2 rfl) (by omega) (iv_v1 (by decide) tq_22 rfl) em_78 (Nat.le_of_ble_eq_true rfl) rfl (ttrl_openSign w (d - 1) (by omega) _ _) (fun r1 s1 => ?_)
  refine e_mv 7 em_129 (ce_at ce_129 3 rfl) rfl rfl ?_
  refine e_ivv 10 em_129 (ce_at ce_129 4 rfl) (by omega) (iv_v0 (by decide) tq_22 rfl) em_101 (Nat.le_of_ble_eq_true rfl) rfl (hF.1  _) (fun r2 s2 => ?_)
  refine e_mv 11 em_129 (ce_at ce_129 5 rfl) rfl rfl ?_
  refine e_getr 14 em_129 (ce_at ce_129 6 rfl) tq_22 rfl rfl ?_
  refine e_bip 16 em_129 (ce_at ce_129 7 rfl) (by decide) rfl ?_
  refine e_ivv 19 em_129 (ce_at ce_129 8 rfl) (by omega) (iv_v1 (by decide) tq_2 rfl) em_86 (Nat.le_of_ble_eq_true rfl) rfl (ttok_expect w (d - 1) (by omega) _ _) (fun r3 s3 => ?_)
  refine e_mv 20 em_129 (ce_at ce_129 9 rfl) rfl rfl ?_
  refine e_op 21 em_129 (ce_at ce_129 10 rfl) rfl rfl ?_
  refine e_get 24 em_129 (ce_at ce_129 11 rfl) tq_22 rfl rfl ?_
  refine e_op 25 em_129 (ce_at ce_129 12 rfl) rfl rfl ?_
  refine e_isub 26 em_129 rfl (ce_at ce_129 13 rfl) ?_
  refine e_put 29 em_129 (ce_at ce_129 14 rfl) tq_22 rfl rfl rfl (fun s4 => ?_)
  exact e_retv em_129 (ce_at ce_129 15 rfl)
theorem ftrl_readBlock (F : Nat → Int → Int → Int → iS → Option (Int × iS)) (hF : ∀ (t : Nat) (a b c : Int) (s : iS), Fm Prod.snd L_trlS G_trlS s (F t a b c s)) (s : iS) : Fm Prod.snd L_trlS G_trlS s (trl_readBlock F s) := fm_bd (fm_sub (ftrl_openSign _ _) (mem_sub_L rfl) (mem_sub_F rfl)) (fun r1 s1 => fm_bd (hF 0 _ _ _ _) (fun r2 s2 => fm_bd (fm_sub (ftok_expect _ _) (mem_sub_L rfl) (mem_sub_F rfl)) (fun r3 s3 => fm_lt (md_upF (mem_F rfl)) (fun s4 => fm_some md_refl))))
/-! trl_readWhile -/
noncomputable def trl_readWhile (F : Nat → Int → Int → Int → iS → Option (Int × iS)) (v1 : Int) (s : iS) : Option (Int × iS) := bd (trl_takeLabels s) (fun r1 s1 => bd (prg_add 11 r1 0 s1) (fun _ s2 => bd (prg_markNext v1 s2) (fun _ s3 => bd (trl_readCondition (r1 + 1) s3) (fun _ s4 => bd (F 2 0 0 0 s4) (fun _ s5 => bd (prg_add 12 r1 0 s5) (fun _ s6 => bd (prg_add 11 (r1 + 1) 0 s6) (fun _ s7 => some (0, s7))))))))
theorem ttrl_readWhile (w : ev_W) (d : Nat) (hd : 157 ≤ d) (F : Nat → Int → Int → Int → iS → Option (Int × iS)) (hF : trlS_ok w (d - 1) F) (v1 : Int) (s : iS) : Ew hT w d 130 0 [(0, .ref (tb_nK + 22)), (1, iv v1)] [] s (Cv hT) (trl_readWhile F v1 s) := by
  unfold trl_readWhile
  refine e_mv 1 em_130 (ce_at ce_130 0 rfl) rfl rfl ?_
  refine e_ivi 4 em_130 (ce_at ce_130 1 rfl) (by omega) (iv_v0 (by decide) tq_22 rfl) em_127 (Nat.le_of_ble_eq_true rfl) rfl (ttrl_takeLabels w (d - 1) (by omega) _) (fun r1 s1 => ?_)
  refine e_mv 5 em_130 (ce_at ce_130 2 rfl) rfl rfl ?_
  refine e_mv 6 em_130 (ce_at ce_130 3 rfl) rfl rfl ?_
  refine e_getr 9 em_130 (ce_at ce_130 4 rfl) tq_22 rfl rfl ?_
  refine e_bip 11 em_130 (ce_at ce_130 5 rfl) (by decide) rfl ?_
  refine e_mv 12 em_130 (ce_at ce_130 6 rfl) rfl rfl ?_
  refine e_op 13 em_130 (ce_at ce_130 7 rfl) rfl rfl ?_
  refine e_ivv 16 em_130 (ce_at ce_130 8 rfl) (by omega) (iv_v3 (by decide) tq_14 rfl) em_99 (Nat.le_of_ble_eq_true rfl) rfl (tprg_add w (d - 1) (by omega) _ _ _ _) (fun r2 s2 => ?_)
  refine e_mv 17 em_130 (ce_at ce_130 9 rfl) rfl rfl ?_
  refine e_getr 20 em_130 (ce_at ce_130 10 rfl) tq_22 rfl rfl ?_
  refine e_mv 21 em_130 (ce_at ce_130 11 rfl) rfl rfl ?_
  refine e_ivv 24 em_130 (ce_at ce_130 12 rfl) (by omega) (iv_v1 (by decide) tq_14 rfl) em_103 (Nat.le_of_ble_eq_true rfl) rfl (tprg_markNext w (d - 1) (by omega) _ _) (fun r3 s3 => ?_)
  refine e_mv 25 em_130 (ce_at ce_130 13 rfl) rfl rfl ?_
  refine e_mv 26 em_130 (ce_at ce_130 14 rfl) rfl rfl ?_
  refine e_op 27 em_130 (ce_at ce_130 15 rfl) rfl rfl ?_
  refine e_iadd 28 em_130 rfl (ce_at ce_130 16 rfl) ?_
  refine e_ivv 31 em_130 (ce_at ce_130 17 rfl) (by omega) (iv_v1 (by decide) tq_22 rfl) em_128 (Nat.le_of_ble_eq_true rfl) rfl (ttrl_readCondition w (d - 1) (by omega) _ _) (fun r4 s4 => ?_)
  refine e_mv 32 em_130 (ce_at ce_130 18 rfl) rfl rfl ?_
  refine e_ivv 35 em_130 (ce_at ce_130 19 rfl) (by omega) (iv_v0 (by decide) tq_22 rfl) em_129 (Nat.le_of_ble_eq_true rfl) rfl (hF.2.2.1  _) (fun r5 s5 => ?_)
  refine e_mv 36 em_130 (ce_at ce_130 20 rfl) rfl rfl ?_
  refine e_getr 39 em_130 (ce_at ce_130 21 rfl) tq_22 rfl rfl ?_
  refine e_bip 41 em_130 (ce_at ce_130 22 rfl) (by decide) rfl ?_
  refine e_mv 42 em_130 (ce_at ce_130 23 rfl) rfl rfl ?_
  refine e_op 43 em_130 (ce_at ce_130 24 rfl) rfl rfl ?_
  refine e_ivv 46 em_130 (ce_at ce_130 25 rfl) (by omega) (iv_v3 (by decide) tq_14 rfl) em_99 (Nat.le_of_ble_eq_true rfl) rfl (tprg_add w (d - 1) (by omega) _ _ _ _) (fun r6 s6 => ?_)
  refine e_mv 47 em_130 (ce_at ce_130 26 rfl) rfl rfl ?_
  refine e_getr 50 em_130 (ce_at ce_130 27 rfl) tq_22 rfl rfl ?_
  refine e_bip 52 em_130 (ce_at ce_130 28 rfl) (by decide) rfl ?_
  refine e_mv 53 em_130 (ce_at ce_130 29 rfl) rfl rfl ?_
  refine e_op 54 em_130 (ce_at ce_130 30 rfl) rfl rfl ?_
  refine e_iadd 55 em_130 rfl (ce_at ce_130 31 rfl) ?_
  refine e_op 56 em_130 (ce_at ce_130 32 rfl) rfl rfl ?_
  refine e_ivv 59 em_130 (ce_at ce_130 33 rfl) (by omega) (iv_v3 (by decide) tq_14 rfl) em_99 (Nat.le_of_ble_eq_true rfl) rfl (tprg_add w (d - 1) (by omega) _ _ _ _) (fun r7 s7 => ?_)
  exact e_retv em_130 (ce_at ce_130 34 rfl)
theorem ftrl_readWhile (F : Nat → Int → Int → Int → iS → Option (Int × iS)) (hF : ∀ (t : Nat) (a b c : Int) (s : iS), Fm Prod.snd L_trlS G_trlS s (F t a b c s)) (v1 : Int) (s : iS) : Fm Prod.snd L_trlS G_trlS s (trl_readWhile F v1 s) := fm_bd (fm_sub (ftrl_takeLabels _) (mem_sub_L rfl) (mem_sub_F rfl)) (fun r1 s1 => fm_bd (fm_sub (fprg_add _ _ _ _) (mem_sub_L rfl) (mem_sub_F rfl)) (fun r2 s2 => fm_bd (fm_sub (fprg_markNext _ _) (mem_sub_L rfl) (mem_sub_F rfl)) (fun r3 s3 => fm_bd (fm_sub (ftrl_readCondition _ _) (mem_sub_L rfl) (mem_sub_F rfl)) (fun r4 s4 => fm_bd (hF 2 _ _ _ _) (fun r5 s5 => fm_bd (fm_sub (fprg_add _ _ _ _) (mem_sub_L rfl) (mem_sub_F rfl)) (fun r6 s6 => fm_bd (fm_sub (fprg_add _ _ _ _) (mem_sub_L rfl) (mem_sub_F rfl)) (fun r7 s7 => fm_some md_refl)))))))
/-! trlS -/
noncomputable def trlS : Nat → Nat → Int → Int → Int → iS → Option (Int × iS)
  | 0, _, _, _, _, _ => none
  | n + 1, t, a, b, c, s => if t = 0 then trl_readStatements (trlS n) s else if t = 1 then trl_readIf (trlS n) s else if t = 2 then trl_readBlock (trlS n) s else if t = 3 then trl_readWhile (trlS n) a s else none
theorem trlS_t (w : ev_W) : ∀ (n d : Nat), 157 + n ≤ d → trlS_ok w d (trlS n)
  | 0, d, _ => ⟨fun _ => (by intro q r h1 h2; cases h1), fun _ => (by intro q r h1 h2; cases h1), fun _ => (by intro q r h1 h2; cases h1), fun _ _ => (by intro q r h1 h2; cases h1)⟩
  | n + 1, d, hd => ⟨fun _ => ttrl_readStatements w d (by omega) (trlS n) (trlS_t w n (d - 1) (by omega)) _, fun _ => ttrl_readIf w d (by omega) (trlS n) (trlS_t w n (d - 1) (by omega)) _, fun _ => ttrl_readBlock w d (by omega) (trlS n) (trlS_t w n (d - 1) (by omega)) _, fun _ _ => ttrl_readWhile w d (by omega) (trlS n) (trlS_t w n (d - 1) (by omega)) _ _⟩
theorem ftrlS : ∀ (n t : Nat) (a b c : Int) (s : iS), Fm Prod.snd L_trlS G_trlS s (trlS n t a b c s)
  | 0, _, _, _, _, _ => fm_none
  | n + 1, t, a, b, c, s => fm_if (ftrl_readStatements (trlS n) (ftrlS n) s) (fm_if (ftrl_readIf (trlS n) (ftrlS n) s) (fm_if (ftrl_readBlock (trlS n) (ftrlS n) s) (fm_if (ftrl_readWhile (trlS n) (ftrlS n) a s) (fm_none))))
/-! prg_endSub -/
def L_prg_endSub : List Nat := [18, 21]
def G_prg_endSub : List (Nat × Nat) := []
def prg_endSub_13C (w : ev_W) (d : Nat) : (Int × iS) ⊕ (iS) → am_E → Prop := fun q r => q.elim (fun l => ev w d 133 13 ((fun l => [(0, .ref (tb_nK + 14)), (1, iv (l.1))]) l) [] (hT ((fun l => l.2) l)) r) (fun e => (fun e r => ev w d 133 66 [(0, .ref (tb_nK + 14))] [] (hT (e)) r) e r)
noncomputable def prg_endSub_13b (v1 : Int) (s : iS) : Option ((Int × iS) ⊕ (iS)) := gd (rg v1) (gd (rg (s 14 8)) (if (s 14 8) ≤ v1 then some (.inr s) else gd (0 ≤ v1 ∧ v1 < 3000) (gd (rg (s 15 v1.toNat)) (if (s 15 v1.toNat) = 11 then gd (rg (s 16 v1.toNat)) (if 1000 ≤ (s 16 v1.toNat) then some (.inl ((v1 + 1), s)) else gd (0 ≤ (s 16 v1.toNat) ∧ (s 16 v1.toNat) < 1000) (lt' (up s 21 (s 16 v1.toNat).toNat (v1 + 1)) (fun s10 => some (.inl ((v1 + 1), s10))))) else some (.inl ((v1 + 1), s))))))
theorem tprg_endSub_13b (w : ev_W) (d : Nat) (hd : 0 ≤ d) (v1 : Int) (s : iS) : Ew hT w d 133 13 [(0, .ref (tb_nK + 14)), (1, iv v1)] [] s (prg_endSub_13C w d) (prg_endSub_13b v1 s) := by
  unfold prg_endSub_13b
  refine e_mv 14 em_133 (ce_at ce_133 7 rfl) rfl rfl ?_
  refine e_mv 15 em_133 (ce_at ce_133 8 rfl) rfl rfl ?_
  refine e_get 18 em_133 (ce_at ce_133 9 rfl) tq_14 rfl rfl ?_
  refine e_gd fun g1 => ?_
  refine e_gd fun g2 => ?_
  refine e_cmge 66 21 em_133 rfl rfl (ce_at ce_133 10 rfl) g1 g2 (fun h3 => ?_) (fun h3 => ?_)
  · refine e_pk [0] rfl rfl ?_
    exact e_out (fun r h => h)
  · refine e_mv 22 em_133 (ce_at ce_133 11 rfl) rfl rfl ?_
    refine e_getr 25 em_133 (ce_at ce_133 12 rfl) tq_14 rfl rfl ?_
    refine e_mv 26 em_133 (ce_at ce_133 13 rfl) rfl rfl ?_
    refine e_gd fun g4 => ?_
    refine e_ild 27 em_133 (ce_at ce_133 14 rfl) tq_15 (by decide) g4 rfl ?_
    refine e_bip 29 em_133 (ce_at ce_133 15 rfl) (by decide) rfl ?_
    refine e_gd fun g5 => ?_
    refine e_cmne 60 32 em_133 rfl rfl (ce_at ce_133 16 rfl) g5 (by decide) (fun h6 => ?_) (fun h6 => ?_)
    · refine e_iinc 63 em_133 (ce_at ce_133 35 rfl) rfl (by decide) rfl ?_
      refine e_goto em_133 13 (ce_at ce_133 36 rfl) rfl ?_
      refine e_pk [0, 1] rfl rfl ?_
      exact e_out (fun r h => h)
    · refine e_mv 33 em_133 (ce_at ce_133 17 rfl) rfl rfl ?_
      refine e_getr 36 em_133 (ce_at ce_133 18 rfl) tq_14 rfl rfl ?_
      refine e_mv 37 em_133 (ce_at ce_133 19 rfl) rfl rfl ?_
      refine e_ild 38 em_133 (ce_at ce_133 20 rfl) tq_16 (by decide) g4 rfl ?_
      refine e_mv 39 em_133 (ce_at ce_133 21 rfl) rfl rfl ?_
      refine e_getr 42 em_133 (ce_at ce_133 22 rfl) tq_14 rfl rfl ?_
      refine e_alen 43 em_133 (ce_at ce_133 23 rfl) tq_21 (by decide) rfl rfl ?_
      refine e_gd fun g7 => ?_
      refine e_cmge 60 46 em_133 rfl rfl (ce_at ce_133 24 rfl) g7 (by decide) (fun h8 => ?_) (fun h8 => ?_)
      · refine e_iinc 63 em_133 (ce_at ce_133 35 rfl) rfl (by decide) rfl ?_
        refine e_goto em_133 13 (ce_at ce_133 36 rfl) rfl ?_
        refine e_pk [0, 1] rfl rfl ?_
        exact e_out (fun r h => h)
      · refine e_mv 47 em_133 (ce_at ce_133 25 rfl) rfl rfl ?_
        refine e_getr 50 em_133 (ce_at ce_133 26 rfl) tq_14 rfl rfl ?_
        refine e_mv 51 em_133 (ce_at ce_133 27 rfl) rfl rfl ?_
        refine e_getr 54 em_133 (ce_at ce_133 28 rfl) tq_14 rfl rfl ?_
        refine e_mv 55 em_133 (ce_at ce_133 29 rfl) rfl rfl ?_
        refine e_ild 56 em_133 (ce_at ce_133 30 rfl) tq_16 (by decide) g4 rfl ?_
        refine e_mv 57 em_133 (ce_at ce_133 31 rfl) rfl rfl ?_
        refine e_op 58 em_133 (ce_at ce_133 32 rfl) rfl rfl ?_
        refine e_iadd 59 em_133 rfl (ce_at ce_133 33 rfl) ?_
        refine e_gd fun g9 => ?_
        refine e_ist 60 em_133 (ce_at ce_133 34 rfl) tq_21 (by decide) g9 rfl (fun s10 => ?_)
        refine e_iinc 63 em_133 (ce_at ce_133 35 rfl) rfl (by decide) rfl ?_
        refine e_goto em_133 13 (ce_at ce_133 36 rfl) rfl ?_
        refine e_pk [0, 1] rfl rfl ?_
        exact e_out (fun r h => h)
theorem fprg_endSub_13b (v1 : Int) (s : iS) : Fm (fun r : (Int × iS) ⊕ (iS) => r.elim (fun l => l.2) (fun e => e)) L_prg_endSub G_prg_endSub s (prg_endSub_13b v1 s) := fm_gd (fm_gd (fm_if (fm_some md_refl) (fm_gd (fm_gd (fm_if (fm_gd (fm_if (fm_some md_refl) (fm_gd (fm_lt (md_upL (mem_L rfl)) (fun s10 => fm_some md_refl))))) (fm_some md_refl))))))
def prg_endSub_71C (w : ev_W) (d : Nat) : (Int × iS) ⊕ (iS) → am_E → Prop := fun q r => q.elim (fun l => ev w d 133 71 ((fun l => [(0, .ref (tb_nK + 14)), (1, iv (l.1))]) l) [] (hT ((fun l => l.2) l)) r) (fun e => (fun e r => ev w d 133 138 [] [] (hT (e)) r) e r)
noncomputable def prg_endSub_101 (v1 : Int) (s : iS) : Option ((Int × iS) ⊕ (iS)) := gd (0 ≤ v1 ∧ v1 < 3000) (gd (rg (s 16 v1.toNat)) (if 1000 ≤ (s 16 v1.toNat) then some (.inl ((v1 + 1), s)) else gd (0 ≤ (s 16 v1.toNat) ∧ (s 16 v1.toNat) < 1000) (lt' (up s 18 v1.toNat (s 21 (s 16 v1.toNat).toNat)) (fun s5 => some (.inl ((v1 + 1), s5))))))
theorem tprg_endSub_101 (w : ev_W) (d : Nat) (hd : 0 ≤ d) (v1 : Int) (s : iS) : Ew hT w d 133 101 [(0, .ref (tb_nK + 14)), (1, iv v1)] [] s (prg_endSub_71C w d) (prg_endSub_101 v1 s) := by
  unfold prg_endSub_101
  refine e_mv 102 em_133 (ce_at ce_133 56 rfl) rfl rfl ?_
  refine e_getr 105 em_133 (ce_at ce_133 57 rfl) tq_14 rfl rfl ?_
  refine e_mv 106 em_133 (ce_at ce_133 58 rfl) rfl rfl ?_
  refine e_gd fun g1 => ?_
  refine e_ild 107 em_133 (ce_at ce_133 59 rfl) tq_16 (by decide) g1 rfl ?_
  refine e_mv 108 em_133 (ce_at ce_133 60 rfl) rfl rfl ?_
  refine e_getr 111 em_133 (ce_at ce_133 61 rfl) tq_14 rfl rfl ?_
  refine e_alen 112 em_133 (ce_at ce_133 62 rfl) tq_21 (by decide) rfl rfl ?_
  refine e_gd fun g2 => ?_
  refine e_cmge 132 115 em_133 rfl rfl (ce_at ce_133 63 rfl) g2 (by decide) (fun h3 => ?_) (fun h3 => ?_)
  · refine e_iinc 135 em_133 (ce_at ce_133 75 rfl) rfl (by decide) rfl ?_
    refine e_goto em_133 71 (ce_at ce_133 76 rfl) rfl ?_
    refine e_pk [0, 1] rfl rfl ?_
    exact e_out (fun r h => h)
  · refine e_mv 116 em_133 (ce_at ce_133 64 rfl) rfl rfl ?_
    refine e_getr 119 em_133 (ce_at ce_133 65 rfl) tq_14 rfl rfl ?_
    refine e_mv 120 em_133 (ce_at ce_133 66 rfl) rfl rfl ?_
    refine e_mv 121 em_133 (ce_at ce_133 67 rfl) rfl rfl ?_
    refine e_getr 124 em_133 (ce_at ce_133 68 rfl) tq_14 rfl rfl ?_
    refine e_mv 125 em_133 (ce_at ce_133 69 rfl) rfl rfl ?_
    refine e_getr 128 em_133 (ce_at ce_133 70 rfl) tq_14 rfl rfl ?_
    refine e_mv 129 em_133 (ce_at ce_133 71 rfl) rfl rfl ?_
    refine e_ild 130 em_133 (ce_at ce_133 72 rfl) tq_16 (by decide) g1 rfl ?_
    refine e_gd fun g4 => ?_
    refine e_ild 131 em_133 (ce_at ce_133 73 rfl) tq_21 (by decide) g4 rfl ?_
    refine e_ist 132 em_133 (ce_at ce_133 74 rfl) tq_18 (by decide) g1 rfl (fun s5 => ?_)
    refine e_iinc 135 em_133 (ce_at ce_133 75 rfl) rfl (by decide) rfl ?_
    refine e_goto em_133 71 (ce_at ce_133 76 rfl) rfl ?_
    refine e_pk [0, 1] rfl rfl ?_
    exact e_out (fun r h => h)
theorem fprg_endSub_101 (v1 : Int) (s : iS) : Fm (fun r : (Int × iS) ⊕ (iS) => r.elim (fun l => l.2) (fun e => e)) L_prg_endSub G_prg_endSub s (prg_endSub_101 v1 s) := fm_gd (fm_gd (fm_if (fm_some md_refl) (fm_gd (fm_lt (md_upL (mem_L rfl)) (fun s5 => fm_some md_refl)))))
noncomputable def prg_endSub_71b (v1 : Int) (s : iS) : Option ((Int × iS) ⊕ (iS)) := gd (rg v1) (gd (rg (s 14 8)) (if (s 14 8) ≤ v1 then some (.inr s) else gd (0 ≤ v1 ∧ v1 < 3000) (gd (rg (s 15 v1.toNat)) (if (s 15 v1.toNat) = 12 then prg_endSub_101 v1 s else if (s 15 v1.toNat) = 13 then prg_endSub_101 v1 s else some (.inl ((v1 + 1), s))))))
theorem tprg_endSub_71b (w : ev_W) (d : Nat) (hd : 0 ≤ d) (v1 : Int) (s : iS) : Ew hT w d 133 71 [(0, .ref (tb_nK + 14)), (1, iv v1)] [] s (prg_endSub_71C w d) (prg_endSub_71b v1 s) := by
  unfold prg_endSub_71b
  refine e_mv 72 em_133 (ce_at ce_133 40 rfl) rfl rfl ?_
  refine e_mv 73 em_133 (ce_at ce_133 41 rfl) rfl rfl ?_
  refine e_get 76 em_133 (ce_at ce_133 42 rfl) tq_14 rfl rfl ?_
  refine e_gd fun g1 => ?_
  refine e_gd fun g2 => ?_
  refine e_cmge 138 79 em_133 rfl rfl (ce_at ce_133 43 rfl) g1 g2 (fun h3 => ?_) (fun h3 => ?_)
  · refine e_pk [] rfl rfl ?_
    exact e_out (fun r h => h)
  · refine e_mv 80 em_133 (ce_at ce_133 44 rfl) rfl rfl ?_
    refine e_getr 83 em_133 (ce_at ce_133 45 rfl) tq_14 rfl rfl ?_
    refine e_mv 84 em_133 (ce_at ce_133 46 rfl) rfl rfl ?_
    refine e_gd fun g4 => ?_
    refine e_ild 85 em_133 (ce_at ce_133 47 rfl) tq_15 (by decide) g4 rfl ?_
    refine e_bip 87 em_133 (ce_at ce_133 48 rfl) (by decide) rfl ?_
    refine e_gd fun g5 => ?_
    refine e_cmeq 101 90 em_133 rfl rfl (ce_at ce_133 49 rfl) g5 (by decide) (fun h6 => ?_) (fun h6 => ?_)
    · refine e_pk [0, 1] rfl rfl ?_
      exact tprg_endSub_101 w d hd _ _
    · refine e_mv 91 em_133 (ce_at ce_133 50 rfl) rfl rfl ?_
      refine e_getr 94 em_133 (ce_at ce_133 51 rfl) tq_14 rfl rfl ?_
      refine e_mv 95 em_133 (ce_at ce_133 52 rfl) rfl rfl ?_
      refine e_ild 96 em_133 (ce_at ce_133 53 rfl) tq_15 (by decide) g4 rfl ?_
      refine e_bip 98 em_133 (ce_at ce_133 54 rfl) (by decide) rfl ?_
      refine e_cmne 132 101 em_133 rfl rfl (ce_at ce_133 55 rfl) g5 (by decide) (fun h7 => ?_) (fun h7 => ?_)
      · refine e_iinc 135 em_133 (ce_at ce_133 75 rfl) rfl (by decide) rfl ?_
        refine e_goto em_133 71 (ce_at ce_133 76 rfl) rfl ?_
        refine e_pk [0, 1] rfl rfl ?_
        exact e_out (fun r h => h)
      · refine e_pk [0, 1] rfl rfl ?_
        exact tprg_endSub_101 w d hd _ _
theorem fprg_endSub_71b (v1 : Int) (s : iS) : Fm (fun r : (Int × iS) ⊕ (iS) => r.elim (fun l => l.2) (fun e => e)) L_prg_endSub G_prg_endSub s (prg_endSub_71b v1 s) := fm_gd (fm_gd (fm_if (fm_some md_refl) (fm_gd (fm_gd (fm_if (fprg_endSub_101 _ _) (fm_if (fprg_endSub_101 _ _) (fm_some md_refl)))))))
noncomputable def prg_endSub_71 (v1 : Int) (s : iS) : Option (Int × iS) := (lp (L := Int × iS) (E := iS) (fun l => prg_endSub_71b (l.1) (l.2)) (v1, s)).bind (fun e => some (0, e))
theorem tprg_endSub_71 (w : ev_W) (d : Nat) (hd : 0 ≤ d) (v1 : Int) (s : iS) : Ew hT w d 133 71 [(0, .ref (tb_nK + 14)), (1, iv v1)] [] s (Cv hT) (prg_endSub_71 v1 s) := by
  unfold prg_endSub_71
  refine e_lp (L := Int × iS) (E := iS) (LO := fun l => [(0, .ref (tb_nK + 14)), (1, iv (l.1))]) (LS := fun l => l.2) (CE := fun e r => ev w d 133 138 [] [] (hT (e)) r) (fun l => tprg_endSub_71b w d hd _ _) ?_ (v1, s)
  intro e
  show Ew hT w d 133 138 [] [] e (Cv hT) _
  exact e_retv em_133 (ce_at ce_133 77 rfl)
theorem fprg_endSub_71 (v1 : Int) (s : iS) : Fm Prod.snd L_prg_endSub G_prg_endSub s (prg_endSub_71 v1 s) := by
  unfold prg_endSub_71
  refine fm_lp (A := Int × iS) (E := iS) (LS := fun l => l.2) (LE := fun e => e) ?_ ?_ (v1, s)
  · exact fun l => fprg_endSub_71b _ _
  · exact (fun e => fm_some md_refl)
noncomputable def prg_endSub_66 (s : iS) : Option (Int × iS) := prg_endSub_71 (s 14 9) s
theorem tprg_endSub_66 (w : ev_W) (d : Nat) (hd : 0 ≤ d) (s : iS) : Ew hT w d 133 66 [(0, .ref (tb_nK + 14))] [] s (Cv hT) (prg_endSub_66 s) := by
  unfold prg_endSub_66
  refine e_mv 67 em_133 (ce_at ce_133 37 rfl) rfl rfl ?_
  refine e_get 70 em_133 (ce_at ce_133 38 rfl) tq_14 rfl rfl ?_
  refine e_mv 71 em_133 (ce_at ce_133 39 rfl) rfl rfl ?_
  refine e_pk [0, 1] rfl rfl ?_
  exact tprg_endSub_71 w d hd _ _
theorem fprg_endSub_66 (s : iS) : Fm Prod.snd L_prg_endSub G_prg_endSub s (prg_endSub_66 s) := fprg_endSub_71 _ _
noncomputable def prg_endSub_13 (v1 : Int) (s : iS) : Option (Int × iS) := (lp (L := Int × iS) (E := iS) (fun l => prg_endSub_13b (l.1) (l.2)) (v1, s)).bind (fun e => prg_endSub_66 e)
theorem tprg_endSub_13 (w : ev_W) (d : Nat) (hd : 0 ≤ d) (v1 : Int) (s : iS) : Ew hT w d 133 13 [(0, .ref (tb_nK + 14)), (1, iv v1)] [] s (Cv hT) (prg_endSub_13 v1 s) := by
  unfold prg_endSub_13
  refine e_lp (L := Int × iS) (E := iS) (LO := fun l => [(0, .ref (tb_nK + 14)), (1, iv (l.1))]) (LS := fun l => l.2) (CE := fun e r => ev w d 133 66 [(0, .ref (tb_nK + 14))] [] (hT (e)) r) (fun l => tprg_endSub_13b w d hd _ _) ?_ (v1, s)
  intro e
  show Ew hT w d 133 66 [(0, .ref (tb_nK + 14))] [] e (Cv hT) _
  refine e_pk [0] rfl rfl ?_
  exact tprg_endSub_66 w d hd _
theorem fprg_endSub_13 (v1 : Int) (s : iS) : Fm Prod.snd L_prg_endSub G_prg_endSub s (prg_endSub_13 v1 s) := by
  unfold prg_endSub_13
  refine fm_lp (A := Int × iS) (E := iS) (LS := fun l => l.2) (LE := fun e => e) ?_ ?_ (v1, s)
  · exact fun l => fprg_endSub_13b _ _
  · exact (fun e => fprg_endSub_66 _)
noncomputable def prg_endSub (s : iS) : Option (Int × iS) := gd (rg (s 14 7)) (if (s 14 7) = 0 then some (0, s) else prg_endSub_13 (s 14 9) s)
theorem tprg_endSub (w : ev_W) (d : Nat) (hd : 0 ≤ d) (s : iS) : Ew hT w d 133 0 [(0, .ref (tb_nK + 14))] [] s (Cv hT) (prg_endSub s) := by
  unfold prg_endSub
  refine e_mv 1 em_133 (ce_at ce_133 0 rfl) rfl rfl ?_
  refine e_get 4 em_133 (ce_at ce_133 1 rfl) tq_14 rfl rfl ?_
  refine e_gd fun g1 => ?_
  refine e_ifne 8 7 em_133 rfl rfl (ce_at ce_133 2 rfl) g1 (fun h2 => ?_) (fun h2 => ?_)
  · refine e_mv 9 em_133 (ce_at ce_133 4 rfl) rfl rfl ?_
    refine e_get 12 em_133 (ce_at ce_133 5 rfl) tq_14 rfl rfl ?_
    refine e_mv 13 em_133 (ce_at ce_133 6 rfl) rfl rfl ?_
    refine e_pk [0, 1] rfl rfl ?_
    exact tprg_endSub_13 w d hd _ _
  · exact e_retv em_133 (ce_at ce_133 3 rfl)
theorem fprg_endSub (s : iS) : Fm Prod.snd L_prg_endSub G_prg_endSub s (prg_endSub s) := fm_gd (fm_if (fm_some md_refl) (fprg_endSub_13 _ _))
/-! trl_readSub -/
def L_trl_readSub : List Nat := [15, 16, 17, 18, 19, 20, 21, 28, 29, 30, 31, 32, 34, 35, 36, 37, 38, 39, 40]
def G_trl_readSub : List (Nat × Nat) := [(2, 12), (2, 13), (2, 14), (14, 8), (14, 9), (14, 12), (22, 5), (22, 6), (22, 7), (23, 12), (23, 13), (23, 15), (27, 2), (33, 2)]
def trl_readSub_72C (w : ev_W) (d : Nat) (v1 : Int) : (Int × iS) ⊕ (iS) → am_E → Prop := fun q r => q.elim (fun l => ev w d 88 72 ((fun l => [(0, .ref (tb_nK + 22)), (1, iv v1), (2, iv (l.1))]) l) [] (hT ((fun l => l.2) l)) r) (fun e => (fun e r => ev w d 88 116 [(0, .ref (tb_nK + 22)), (1, iv v1)] [] (hT (e)) r) e r)
noncomputable def trl_readSub_72b (v1 : Int) (v2 : Int) (s : iS) : Option ((Int × iS) ⊕ (iS)) := gd (rg v2) (if 1000 ≤ v2 then some (.inr s) else bd (tok_kind s) (fun r3 s3 => gd (rg r3) (if r3 = 262 then lt' (up s3 2 12 ((s3 2 12) + 1)) (fun s6 => bd (trl_readVariables 2 s6) (fun _ s7 => some (.inl ((v2 + 1), s7)))) else some (.inr s3))))
theorem ttrl_readSub_72b (w : ev_W) (d : Nat) (hd : 248 ≤ d) (v1 : Int) (v2 : Int) (s : iS) : Ew hT w d 88 72 [(0, .ref (tb_nK + 22)), (1, iv v1), (2, iv v2)] [] s (trl_readSub_72C w d v1) (trl_readSub_72b v1 v2 s) := by
  unfold trl_readSub_72b
  refine e_mv 73 em_88 (ce_at ce_88 37 rfl) rfl rfl ?_
  refine e_sip 76 em_88 (ce_at ce_88 38 rfl) (by decide) rfl ?_
  refine e_gd fun g1 => ?_
  refine e_cmge 116 79 em_88 rfl rfl (ce_at ce_88 39 rfl) g1 (by decide) (fun h2 => ?_) (fun h2 => ?_)
  · refine e_pk [0, 1] rfl rfl ?_
    exact e_out (fun r h => h)
  · refine e_mv 80 em_88 (ce_at ce_88 40 rfl) rfl rfl ?_
    refine e_getr 83 em_88 (ce_at ce_88 41 rfl) tq_22 rfl rfl ?_
    refine e_ivi 86 em_88 (ce_at ce_88 42 rfl) (by omega) (iv_v0 (by decide) tq_2 rfl) em_69 (Nat.le_of_ble_eq_true rfl) rfl (ttok_kind w (d - 1) (by omega) _) (fun r3 s3 => ?_)
    refine e_sip 89 em_88 (ce_at ce_88 43 rfl) (by decide) rfl ?_
    refine e_gd fun g4 => ?_
    refine e_cmne 116 92 em_88 rfl rfl (ce_at ce_88 44 rfl) g4 (by decide) (fun h5 => ?_) (fun h5 => ?_)
    · refine e_pk [0, 1] rfl rfl ?_
      exact e_out (fun r h => h)
    · refine e_mv 93 em_88 (ce_at ce_88 45 rfl) rfl rfl ?_
      refine e_getr 96 em_88 (ce_at ce_88 46 rfl) tq_22 rfl rfl ?_
      refine e_op 97 em_88 (ce_at ce_88 47 rfl) rfl rfl ?_
      refine e_get 100 em_88 (ce_at ce_88 48 rfl) tq_2 rfl rfl ?_
      refine e_op 101 em_88 (ce_at ce_88 49 rfl) rfl rfl ?_
      refine e_iadd 102 em_88 rfl (ce_at ce_88 50 rfl) ?_
      refine e_put 105 em_88 (ce_at ce_88 51 rfl) tq_2 rfl rfl rfl (fun s6 => ?_)
      refine e_mv 106 em_88 (ce_at ce_88 52 rfl) rfl rfl ?_
      refine e_op 107 em_88 (ce_at ce_88 53 rfl) rfl rfl ?_
      refine e_ivv 110 em_88 (ce_at ce_88 54 rfl) (by omega) (iv_v1 (by decide) tq_22 rfl) em_80 (Nat.le_of_ble_eq_true rfl) rfl (ttrl_readVariables w (d - 1) (by omega) _ _) (fun r7 s7 => ?_)
      refine e_iinc 113 em_88 (ce_at ce_88 55 rfl) rfl (by decide) rfl ?_
      refine e_goto em_88 72 (ce_at ce_88 56 rfl) rfl ?_
      refine e_pk [0, 1, 2] rfl rfl ?_
      exact e_out (fun r h => h)
theorem ftrl_readSub_72b (v1 : Int) (v2 : Int) (s : iS) : Fm (fun r : (Int × iS) ⊕ (iS) => r.elim (fun l => l.2) (fun e => e)) L_trl_readSub G_trl_readSub s (trl_readSub_72b v1 v2 s) := fm_gd (fm_if (fm_some md_refl) (fm_bd (fm_sub (ftok_kind _) (mem_sub_L rfl) (mem_sub_F rfl)) (fun r3 s3 => fm_gd (fm_if (fm_lt (md_upF (mem_F rfl)) (fun s6 => fm_bd (fm_sub (ftrl_readVariables _ _) (mem_sub_L rfl) (mem_sub_F rfl)) (fun r7 s7 => fm_some md_refl))) (fm_some md_refl)))))
noncomputable def trl_readSub_116 (v1 : Int) (s : iS) : Option (Int × iS) := lt' (up s 22 7 0) (fun s1 => bd (trl_beginBody v1 s1) (fun _ s2 => bd (trlS 90 0 0 0 0 s2) (fun _ s3 => bd (prg_add 0 0 0 s3) (fun _ s4 => bd (prg_add 16 0 0 s4) (fun _ s5 => bd (prg_endSub s5) (fun _ s6 => bd (tok_expect 125 s6) (fun _ s7 => lt' (up s7 22 5 ((s7 22 5) - 1)) (fun s8 => some (0, s8)))))))))
theorem ttrl_readSub_116 (w : ev_W) (d : Nat) (hd : 248 ≤ d) (v1 : Int) (s : iS) : Ew hT w d 88 116 [(0, .ref (tb_nK + 22)), (1, iv v1)] [] s (Cv hT) (trl_readSub_116 v1 s) := by
  unfold trl_readSub_116
  refine e_mv 117 em_88 (ce_at ce_88 57 rfl) rfl rfl ?_
  refine e_op 118 em_88 (ce_at ce_88 58 rfl) rfl rfl ?_
  refine e_put 121 em_88 (ce_at ce_88 59 rfl) tq_22 rfl rfl rfl (fun s1 => ?_)
  refine e_mv 122 em_88 (ce_at ce_88 60 rfl) rfl rfl ?_
  refine e_mv 123 em_88 (ce_at ce_88 61 rfl) rfl rfl ?_
  refine e_ivv 126 em_88 (ce_at ce_88 62 rfl) (by omega) (iv_v1 (by decide) tq_22 rfl) em_96 (Nat.le_of_ble_eq_true rfl) rfl (ttrl_beginBody w (d - 1) (by omega) _ _) (fun r2 s2 => ?_)
  refine e_mv 127 em_88 (ce_at ce_88 63 rfl) rfl rfl ?_
  refine e_ivv 130 em_88 (ce_at ce_88 64 rfl) (by omega) (iv_v0 (by decide) tq_22 rfl) em_101 (Nat.le_of_ble_eq_true rfl) rfl ((trlS_t w 90 (d - 1) (by omega)).1  _) (fun r3 s3 => ?_)
  refine e_mv 131 em_88 (ce_at ce_88 65 rfl) rfl rfl ?_
  refine e_getr 134 em_88 (ce_at ce_88 66 rfl) tq_22 rfl rfl ?_
  refine e_op 135 em_88 (ce_at ce_88 67 rfl) rfl rfl ?_
  refine e_op 136 em_88 (ce_at ce_88 68 rfl) rfl rfl ?_
  refine e_op 137 em_88 (ce_at ce_88 69 rfl) rfl rfl ?_
  refine e_ivv 140 em_88 (ce_at ce_88 70 rfl) (by omega) (iv_v3 (by decide) tq_14 rfl) em_99 (Nat.le_of_ble_eq_true rfl) rfl (tprg_add w (d - 1) (by omega) _ _ _ _) (fun r4 s4 => ?_)
  refine e_mv 141 em_88 (ce_at ce_88 71 rfl) rfl rfl ?_
  refine e_getr 144 em_88 (ce_at ce_88 72 rfl) tq_22 rfl rfl ?_
  refine e_bip 146 em_88 (ce_at ce_88 73 rfl) (by decide) rfl ?_
  refine e_op 147 em_88 (ce_at ce_88 74 rfl) rfl rfl ?_
  refine e_op 148 em_88 (ce_at ce_88 75 rfl) rfl rfl ?_
  refine e_ivv 151 em_88 (ce_at ce_88 76 rfl) (by omega) (iv_v3 (by decide) tq_14 rfl) em_99 (Nat.le_of_ble_eq_true rfl) rfl (tprg_add w (d - 1) (by omega) _ _ _ _) (fun r5 s5 => ?_)
  refine e_mv 152 em_88 (ce_at ce_88 77 rfl) rfl rfl ?_
  refine e_getr 155 em_88 (ce_at ce_88 78 rfl) tq_22 rfl rfl ?_
  refine e_ivv 158 em_88 (ce_at ce_88 79 rfl) (by omega) (iv_v0 (by decide) tq_14 rfl) em_133 (Nat.le_of_ble_eq_true rfl) rfl (tprg_endSub w (d - 1) (by omega) _) (fun r6 s6 => ?_)
  refine e_mv 159 em_88 (ce_at ce_88 80 rfl) rfl rfl ?_
  refine e_getr 162 em_88 (ce_at ce_88 81 rfl) tq_22 rfl rfl ?_
  refine e_bip 164 em_88 (ce_at ce_88 82 rfl) (by decide) rfl ?_
  refine e_ivv 167 em_88 (ce_at ce_88 83 rfl) (by omega) (iv_v1 (by decide) tq_2 rfl) em_86 (Nat.le_of_ble_eq_true rfl) rfl (ttok_expect w (d - 1) (by omega) _ _) (fun r7 s7 => ?_)
  refine e_mv 168 em_88 (ce_at ce_88 84 rfl) rfl rfl ?_
  refine e_op 169 em_88 (ce_at ce_88 85 rfl) rfl rfl ?_
  refine e_get 172 em_88 (ce_at ce_88 86 rfl) tq_22 rfl rfl ?_
  refine e_op 173 em_88 (ce_at ce_88 87 rfl) rfl rfl ?_
  refine e_isub 174 em_88 rfl (ce_at ce_88 88 rfl) ?_
  refine e_put 177 em_88 (ce_at ce_88 89 rfl) tq_22 rfl rfl rfl (fun s8 => ?_)
  exact e_retv em_88 (ce_at ce_88 90 rfl)
theorem ftrl_readSub_116 (v1 : Int) (s : iS) : Fm Prod.snd L_trl_readSub G_trl_readSub s (trl_readSub_116 v1 s) := fm_lt (md_upF (mem_F rfl)) (fun s1 => fm_bd (fm_sub (ftrl_beginBody _ _) (mem_sub_L rfl) (mem_sub_F rfl)) (fun r2 s2 => fm_bd (fm_sub (ftrlS 90 0 _ _ _ _) (mem_sub_L rfl) (mem_sub_F rfl)) (fun r3 s3 => fm_bd (fm_sub (fprg_add _ _ _ _) (mem_sub_L rfl) (mem_sub_F rfl)) (fun r4 s4 => fm_bd (fm_sub (fprg_add _ _ _ _) (mem_sub_L rfl) (mem_sub_F rfl)) (fun r5 s5 => fm_bd (fm_sub (fprg_endSub _) (mem_sub_L rfl) (mem_sub_F rfl)) (fun r6 s6 => fm_bd (fm_sub (ftok_expect _ _) (mem_sub_L rfl) (mem_sub_F rfl)) (fun r7 s7 => fm_lt (md_upF (mem_F rfl)) (fun s8 => fm_some md_refl))))))))
noncomputable def trl_readSub_72 (v1 : Int) (v2 : Int) (s : iS) : Option (Int × iS) := (lp (L := Int × iS) (E := iS) (fun l => trl_readSub_72b v1 (l.1) (l.2)) (v2, s)).bind (fun e => trl_readSub_116 v1 e)
theorem ttrl_readSub_72 (w : ev_W) (d : Nat) (hd : 248 ≤ d) (v1 : Int) (v2 : Int) (s : iS) : Ew hT w d 88 72 [(0, .ref (tb_nK + 22)), (1, iv v1), (2, iv v2)] [] s (Cv hT) (trl_readSub_72 v1 v2 s) := by
  unfold trl_readSub_72
  refine e_lp (L := Int × iS) (E := iS) (LO := fun l => [(0, .ref (tb_nK + 22)), (1, iv v1), (2, iv (l.1))]) (LS := fun l => l.2) (CE := fun e r => ev w d 88 116 [(0, .ref (tb_nK + 22)), (1, iv v1)] [] (hT (e)) r) (fun l => ttrl_readSub_72b w d hd _ _ _) ?_ (v2, s)
  intro e
  show Ew hT w d 88 116 [(0, .ref (tb_nK + 22)), (1, iv v1)] [] e (Cv hT) _
  refine e_pk [0, 1] rfl rfl ?_
  exact ttrl_readSub_116 w d hd _ _
theorem ftrl_readSub_72 (v1 : Int) (v2 : Int) (s : iS) : Fm Prod.snd L_trl_readSub G_trl_readSub s (trl_readSub_72 v1 v2 s) := by
  unfold trl_readSub_72
  refine fm_lp (A := Int × iS) (E := iS) (LS := fun l => l.2) (LE := fun e => e) ?_ ?_ (v2, s)
  · exact fun l => ftrl_readSub_72b _ _ _
  · exact (fun e => ftrl_readSub_116 _ _)
noncomputable def trl_readSub_55 (v1 : Int) (s : iS) : Option (Int × iS) := bd (trl_readSubName v1 s) (fun _ s1 => bd (trl_readParameters s1) (fun _ s2 => bd (trl_openSign 123 s2) (fun _ s3 => trl_readSub_72 v1 0 s3)))
theorem ttrl_readSub_55 (w : ev_W) (d : Nat) (hd : 248 ≤ d) (v1 : Int) (s : iS) : Ew hT w d 88 55 [(0, .ref (tb_nK + 22)), (1, iv v1)] [] s (Cv hT) (trl_readSub_55 v1 s) := by
  unfold trl_readSub_55
  refine e_mv 56 em_88 (ce_at ce_88 27 rfl) rfl rfl ?_
  refine e_mv 57 em_88 (ce_at ce_88 28 rfl) rfl rfl ?_
  refine e_ivv 60 em_88 (ce_at ce_88 29 rfl) (by omega) (iv_v1 (by decide) tq_22 rfl) em_89 (Nat.le_of_ble_eq_true rfl) rfl (ttrl_readSubName w (d - 1) (by omega) _ _) (fun r1 s1 => ?_)
  refine e_mv 61 em_88 (ce_at ce_88 30 rfl) rfl rfl ?_
  refine e_ivv 64 em_88 (ce_at ce_88 31 rfl) (by omega) (iv_v0 (by decide) tq_22 rfl) em_94 (Nat.le_of_ble_eq_true rfl) rfl (ttrl_readParameters w (d - 1) (by omega) _) (fun r2 s2 => ?_)
  refine e_mv 65 em_88 (ce_at ce_88 32 rfl) rfl rfl ?_
  refine e_bip 67 em_88 (ce_at ce_88 33 rfl) (by decide) rfl ?_
  refine e_ivv 70 em_88 (ce_at ce_88 34 rfl) (by omega) (iv_v1 (by decide) tq_22 rfl) em_78 (Nat.le_of_ble_eq_true rfl) rfl (ttrl_openSign w (d - 1) (by omega) _ _) (fun r3 s3 => ?_)
  refine e_op 71 em_88 (ce_at ce_88 35 rfl) rfl rfl ?_
  refine e_mv 72 em_88 (ce_at ce_88 36 rfl) rfl rfl ?_
  refine e_pk [0, 1, 2] rfl rfl ?_
  exact ttrl_readSub_72 w d hd _ _ _
theorem ftrl_readSub_55 (v1 : Int) (s : iS) : Fm Prod.snd L_trl_readSub G_trl_readSub s (trl_readSub_55 v1 s) := fm_bd (fm_sub (ftrl_readSubName _ _) (mem_sub_L rfl) (mem_sub_F rfl)) (fun r1 s1 => fm_bd (fm_sub (ftrl_readParameters _) (mem_sub_L rfl) (mem_sub_F rfl)) (fun r2 s2 => fm_bd (fm_sub (ftrl_openSign _ _) (mem_sub_L rfl) (mem_sub_F rfl)) (fun r3 s3 => ftrl_readSub_72 _ _ _)))
noncomputable def trl_readSub (s : iS) : Option (Int × iS) := bd (tok_kind s) (fun r1 s1 => lt' (up s1 2 12 ((s1 2 12) + 1)) (fun s2 => bd (tok_kind s2) (fun r3 s3 => gd (rg r3) (if r3 = 266 then lt' (up s3 2 12 ((s3 2 12) + 1)) (fun s7 => trl_readSub_55 r1 s7) else bd (trl_readType s3) (fun r6 s6 => trl_readSub_55 r1 s6)))))
theorem ttrl_readSub (w : ev_W) (d : Nat) (hd : 248 ≤ d) (s : iS) : Ew hT w d 88 0 [(0, .ref (tb_nK + 22))] [] s (Cv hT) (trl_readSub s) := by
  unfold trl_readSub
  refine e_mv 1 em_88 (ce_at ce_88 0 rfl) rfl rfl ?_
  refine e_getr 4 em_88 (ce_at ce_88 1 rfl) tq_22 rfl rfl ?_
  refine e_ivi 7 em_88 (ce_at ce_88 2 rfl) (by omega) (iv_v0 (by decide) tq_2 rfl) em_69 (Nat.le_of_ble_eq_true rfl) rfl (ttok_kind w (d - 1) (by omega) _) (fun r1 s1 => ?_)
  refine e_mv 8 em_88 (ce_at ce_88 3 rfl) rfl rfl ?_
  refine e_mv 9 em_88 (ce_at ce_88 4 rfl) rfl rfl ?_
  refine e_getr 12 em_88 (ce_at ce_88 5 rfl) tq_22 rfl rfl ?_
  refine e_op 13 em_88 (ce_at ce_88 6 rfl) rfl rfl ?_
  refine e_get 16 em_88 (ce_at ce_88 7 rfl) tq_2 rfl rfl ?_
  refine e_op 17 em_88 (ce_at ce_88 8 rfl) rfl rfl ?_
  refine e_iadd 18 em_88 rfl (ce_at ce_88 9 rfl) ?_
  refine e_put 21 em_88 (ce_at ce_88 10 rfl) tq_2 rfl rfl rfl (fun s2 => ?_)
  refine e_mv 22 em_88 (ce_at ce_88 11 rfl) rfl rfl ?_
  refine e_getr 25 em_88 (ce_at ce_88 12 rfl) tq_22 rfl rfl ?_
  refine e_ivi 28 em_88 (ce_at ce_88 13 rfl) (by omega) (iv_v0 (by decide) tq_2 rfl) em_69 (Nat.le_of_ble_eq_true rfl) rfl (ttok_kind w (d - 1) (by omega) _) (fun r3 s3 => ?_)
  refine e_sip 31 em_88 (ce_at ce_88 14 rfl) (by decide) rfl ?_
  refine e_gd fun g4 => ?_
  refine e_cmne 50 34 em_88 rfl rfl (ce_at ce_88 15 rfl) g4 (by decide) (fun h5 => ?_) (fun h5 => ?_)
  · refine e_mv 51 em_88 (ce_at ce_88 24 rfl) rfl rfl ?_
    refine e_ivi 54 em_88 (ce_at ce_88 25 rfl) (by omega) (iv_v0 (by decide) tq_22 rfl) em_81 (Nat.le_of_ble_eq_true rfl) rfl (ttrl_readType w (d - 1) (by omega) _) (fun r6 s6 => ?_)
    refine e_op 55 em_88 (ce_at ce_88 26 rfl) rfl rfl ?_
    refine e_pk [0, 1] rfl rfl ?_
    exact ttrl_readSub_55 w d hd _ _
  · refine e_mv 35 em_88 (ce_at ce_88 16 rfl) rfl rfl ?_
    refine e_getr 38 em_88 (ce_at ce_88 17 rfl) tq_22 rfl rfl ?_
    refine e_op 39 em_88 (ce_at ce_88 18 rfl) rfl rfl ?_
    refine e_get 42 em_88 (ce_at ce_88 19 rfl) tq_2 rfl rfl ?_
    refine e_op 43 em_88 (ce_at ce_88 20 rfl) rfl rfl ?_
    refine e_iadd 44 em_88 rfl (ce_at ce_88 21 rfl) ?_
    refine e_put 47 em_88 (ce_at ce_88 22 rfl) tq_2 rfl rfl rfl (fun s7 => ?_)
    refine e_goto em_88 55 (ce_at ce_88 23 rfl) rfl ?_
    refine e_pk [0, 1] rfl rfl ?_
    exact ttrl_readSub_55 w d hd _ _
theorem ftrl_readSub (s : iS) : Fm Prod.snd L_trl_readSub G_trl_readSub s (trl_readSub s) := fm_bd (fm_sub (ftok_kind _) (mem_sub_L rfl) (mem_sub_F rfl)) (fun r1 s1 => fm_lt (md_upF (mem_F rfl)) (fun s2 => fm_bd (fm_sub (ftok_kind _) (mem_sub_L rfl) (mem_sub_F rfl)) (fun r3 s3 => fm_gd (fm_if (fm_lt (md_upF (mem_F rfl)) (fun s7 => ftrl_readSub_55 _ _)) (fm_bd (fm_sub (ftrl_readType _) (mem_sub_L rfl) (mem_sub_F rfl)) (fun r6 s6 => ftrl_readSub_55 _ _))))))
/-! prg_chooseMain -/
def L_prg_chooseMain : List Nat := []
def G_prg_chooseMain : List (Nat × Nat) := [(14, 10)]
noncomputable def prg_chooseMain (v1 : Int) (s : iS) : Option (Int × iS) := gd (rg v1) (if v1 < 0 then some (0, s) else if 100 ≤ v1 then some (0, s) else gd (0 ≤ v1 ∧ v1 < 100) (lt' (up s 14 10 (s 20 v1.toNat)) (fun s5 => some (0, s5))))
theorem tprg_chooseMain (w : ev_W) (d : Nat) (hd : 0 ≤ d) (v1 : Int) (s : iS) : Ew hT w d 135 0 [(0, .ref (tb_nK + 14)), (1, iv v1)] [] s (Cv hT) (prg_chooseMain v1 s) := by
  unfold prg_chooseMain
  refine e_mv 1 em_135 (ce_at ce_135 0 rfl) rfl rfl ?_
  refine e_gd fun g1 => ?_
  refine e_iflt 23 4 em_135 rfl rfl (ce_at ce_135 1 rfl) g1 (fun h2 => ?_) (fun h2 => ?_)
  · exact e_retv em_135 (ce_at ce_135 13 rfl)
  · refine e_mv 5 em_135 (ce_at ce_135 2 rfl) rfl rfl ?_
    refine e_mv 6 em_135 (ce_at ce_135 3 rfl) rfl rfl ?_
    refine e_getr 9 em_135 (ce_at ce_135 4 rfl) tq_14 rfl rfl ?_
    refine e_alen 10 em_135 (ce_at ce_135 5 rfl) tq_20 (by decide) rfl rfl ?_
    refine e_cmge 23 13 em_135 rfl rfl (ce_at ce_135 6 rfl) g1 (by decide) (fun h3 => ?_) (fun h3 => ?_)
    · exact e_retv em_135 (ce_at ce_135 13 rfl)
    · refine e_mv 14 em_135 (ce_at ce_135 7 rfl) rfl rfl ?_
      refine e_mv 15 em_135 (ce_at ce_135 8 rfl) rfl rfl ?_
      refine e_getr 18 em_135 (ce_at ce_135 9 rfl) tq_14 rfl rfl ?_
      refine e_mv 19 em_135 (ce_at ce_135 10 rfl) rfl rfl ?_
      refine e_gd fun g4 => ?_
      refine e_ild 20 em_135 (ce_at ce_135 11 rfl) tq_20 (by decide) g4 rfl ?_
      refine e_put 23 em_135 (ce_at ce_135 12 rfl) tq_14 rfl rfl rfl (fun s5 => ?_)
      exact e_retv em_135 (ce_at ce_135 13 rfl)
theorem fprg_chooseMain (v1 : Int) (s : iS) : Fm Prod.snd L_prg_chooseMain G_prg_chooseMain s (prg_chooseMain v1 s) := fm_gd (fm_if (fm_some md_refl) (fm_if (fm_some md_refl) (fm_gd (fm_lt (md_upF (mem_F rfl)) (fun s5 => fm_some md_refl)))))
/-! trl_findMain -/
def L_trl_findMain : List Nat := []
def G_trl_findMain : List (Nat × Nat) := [(2, 13), (2, 14), (14, 10)]
noncomputable def trl_findMain_128 (s : iS) : Option (Int × iS) := bd (tok_blame 7 ((s 2 8) - 1) s) (fun _ s1 => some (0, s1))
theorem ttrl_findMain_128 (w : ev_W) (d : Nat) (hd : 2 ≤ d) (s : iS) : Ew hT w d 134 128 [(0, .ref (tb_nK + 22))] [] s (Cv hT) (trl_findMain_128 s) := by
  unfold trl_findMain_128
  refine e_mv 129 em_134 (ce_at ce_134 66 rfl) rfl rfl ?_
  refine e_getr 132 em_134 (ce_at ce_134 67 rfl) tq_22 rfl rfl ?_
  refine e_bip 134 em_134 (ce_at ce_134 68 rfl) (by decide) rfl ?_
  refine e_mv 135 em_134 (ce_at ce_134 69 rfl) rfl rfl ?_
  refine e_getr 138 em_134 (ce_at ce_134 70 rfl) tq_22 rfl rfl ?_
  refine e_get 141 em_134 (ce_at ce_134 71 rfl) tq_2 rfl rfl ?_
  refine e_op 142 em_134 (ce_at ce_134 72 rfl) rfl rfl ?_
  refine e_isub 143 em_134 rfl (ce_at ce_134 73 rfl) ?_
  refine e_ivv 146 em_134 (ce_at ce_134 74 rfl) (by omega) (iv_v2 (by decide) tq_2 rfl) em_77 (Nat.le_of_ble_eq_true rfl) rfl (ttok_blame w (d - 1) (by omega) _ _ _) (fun r1 s1 => ?_)
  refine e_goto em_134 158 (ce_at ce_134 75 rfl) rfl ?_
  exact e_retv em_134 (ce_at ce_134 80 rfl)
theorem ftrl_findMain_128 (s : iS) : Fm Prod.snd L_trl_findMain G_trl_findMain s (trl_findMain_128 s) := fm_bd (fm_sub (ftok_blame _ _ _) (mem_sub_L rfl) (mem_sub_F rfl)) (fun r1 s1 => fm_some md_refl)
noncomputable def trl_findMain_55 (v2 : Int) (t0 : Int) (s : iS) : Option (Int × iS) := bd (scp_firstSubOf v2 s) (fun r1 s1 => bd (nam_find 27 28 29 100 (s 42 1) (s 43 1) r1 t0 s1) (fun r2 s2 => gd (rg r2) (if r2 = (-1) then trl_findMain_128 s2 else bd (scp_roleOf r2 s2) (fun r5 s5 => gd (rg r5) (if r5 = 258 then bd (scp_parametersOf r2 s5) (fun r8 s8 => gd (rg r8) (if r8 = 0 then bd (prg_chooseMain r2 s8) (fun _ s11 => some (0, s11)) else trl_findMain_128 s8)) else trl_findMain_128 s5)))))
theorem ttrl_findMain_55 (w : ev_W) (d : Nat) (hd : 2 ≤ d) (v2 : Int) (t0 : Int) (s : iS) : Ew hT w d 134 55 [(0, .ref (tb_nK + 22)), (2, iv v2)] [iv t0] s (Cv hT) (trl_findMain_55 v2 t0 s) := by
  unfold trl_findMain_55
  refine e_mv 56 em_134 (ce_at ce_134 31 rfl) rfl rfl ?_
  refine e_mv 57 em_134 (ce_at ce_134 32 rfl) rfl rfl ?_
  refine e_getr 60 em_134 (ce_at ce_134 33 rfl) tq_22 rfl rfl ?_
  refine e_getr 63 em_134 (ce_at ce_134 34 rfl) tq_23 rfl rfl ?_
  refine e_mv 64 em_134 (ce_at ce_134 35 rfl) rfl rfl ?_
  refine e_getr 67 em_134 (ce_at ce_134 36 rfl) tq_22 rfl rfl ?_
  refine e_getr 70 em_134 (ce_at ce_134 37 rfl) tq_41 rfl rfl ?_
  refine e_op 71 em_134 (ce_at ce_134 38 rfl) rfl rfl ?_
  refine e_lld 72 em_134 (ce_at ce_134 39 rfl) tq_42 (by decide) (by decide) rfl ?_
  refine e_mv 73 em_134 (ce_at ce_134 40 rfl) rfl rfl ?_
  refine e_getr 76 em_134 (ce_at ce_134 41 rfl) tq_22 rfl rfl ?_
  refine e_getr 79 em_134 (ce_at ce_134 42 rfl) tq_41 rfl rfl ?_
  refine e_op 80 em_134 (ce_at ce_134 43 rfl) rfl rfl ?_
  refine e_lld 81 em_134 (ce_at ce_134 44 rfl) tq_43 (by decide) (by decide) rfl ?_
  refine e_mv 82 em_134 (ce_at ce_134 45 rfl) rfl rfl ?_
  refine e_getr 85 em_134 (ce_at ce_134 46 rfl) tq_22 rfl rfl ?_
  refine e_mv 86 em_134 (ce_at ce_134 47 rfl) rfl rfl ?_
  refine e_ivi 89 em_134 (ce_at ce_134 48 rfl) (by omega) (iv_v1 (by decide) tq_23 rfl) em_93 (Nat.le_of_ble_eq_true rfl) rfl (tscp_firstSubOf w (d - 1) (by omega) _ _) (fun r1 s1 => ?_)
  refine e_mv 90 em_134 (ce_at ce_134 49 rfl) rfl rfl ?_
  refine e_ivi 93 em_134 (ce_at ce_134 50 rfl) (by omega) (iv_v4 (by decide) tq_27 rfl) em_44 (Nat.le_of_ble_eq_true rfl) rfl (tnam_find hT w (d - 1) (by omega) 27 28 29 100 tq_27 tq_28 tq_29 (by decide) _ _ _ _ _) (fun r2 s2 => ?_)
  refine e_mv 95 em_134 (ce_at ce_134 51 rfl) rfl rfl ?_
  refine e_mv 97 em_134 (ce_at ce_134 52 rfl) rfl rfl ?_
  refine e_op 98 em_134 (ce_at ce_134 53 rfl) rfl rfl ?_
  refine e_gd fun g3 => ?_
  refine e_cmeq 128 101 em_134 rfl rfl (ce_at ce_134 54 rfl) g3 (by decide) (fun h4 => ?_) (fun h4 => ?_)
  · refine e_pk [0] rfl rfl ?_
    exact ttrl_findMain_128 w d hd _
  · refine e_mv 102 em_134 (ce_at ce_134 55 rfl) rfl rfl ?_
    refine e_getr 105 em_134 (ce_at ce_134 56 rfl) tq_22 rfl rfl ?_
    refine e_mv 107 em_134 (ce_at ce_134 57 rfl) rfl rfl ?_
    refine e_ivi 110 em_134 (ce_at ce_134 58 rfl) (by omega) (iv_v1 (by decide) tq_23 rfl) em_118 (Nat.le_of_ble_eq_true rfl) rfl (tscp_roleOf w (d - 1) (by omega) _ _) (fun r5 s5 => ?_)
    refine e_sip 113 em_134 (ce_at ce_134 59 rfl) (by decide) rfl ?_
    refine e_gd fun g6 => ?_
    refine e_cmne 128 116 em_134 rfl rfl (ce_at ce_134 60 rfl) g6 (by decide) (fun h7 => ?_) (fun h7 => ?_)
    · refine e_pk [0] rfl rfl ?_
      exact ttrl_findMain_128 w d hd _
    · refine e_mv 117 em_134 (ce_at ce_134 61 rfl) rfl rfl ?_
      refine e_getr 120 em_134 (ce_at ce_134 62 rfl) tq_22 rfl rfl ?_
      refine e_mv 122 em_134 (ce_at ce_134 63 rfl) rfl rfl ?_
      refine e_ivi 125 em_134 (ce_at ce_134 64 rfl) (by omega) (iv_v1 (by decide) tq_23 rfl) em_119 (Nat.le_of_ble_eq_true rfl) rfl (tscp_parametersOf w (d - 1) (by omega) _ _) (fun r8 s8 => ?_)
      refine e_gd fun g9 => ?_
      refine e_ifeq 149 128 em_134 rfl rfl (ce_at ce_134 65 rfl) g9 (fun h10 => ?_) (fun h10 => ?_)
      · refine e_mv 150 em_134 (ce_at ce_134 76 rfl) rfl rfl ?_
        refine e_getr 153 em_134 (ce_at ce_134 77 rfl) tq_22 rfl rfl ?_
        refine e_mv 155 em_134 (ce_at ce_134 78 rfl) rfl rfl ?_
        refine e_ivv 158 em_134 (ce_at ce_134 79 rfl) (by omega) (iv_v1 (by decide) tq_14 rfl) em_135 (Nat.le_of_ble_eq_true rfl) rfl (tprg_chooseMain w (d - 1) (by omega) _ _) (fun r11 s11 => ?_)
        exact e_retv em_134 (ce_at ce_134 80 rfl)
      · refine e_pk [0] rfl rfl ?_
        exact ttrl_findMain_128 w d hd _
theorem ftrl_findMain_55 (v2 : Int) (t0 : Int) (s : iS) : Fm Prod.snd L_trl_findMain G_trl_findMain s (trl_findMain_55 v2 t0 s) := fm_bd (fm_sub (fscp_firstSubOf _ _) (mem_sub_L rfl) (mem_sub_F rfl)) (fun r1 s1 => fm_bd (fm_sub (fnam_find 27 28 29 100 _ _ _ _ _) (mem_sub_L rfl) (mem_sub_F rfl)) (fun r2 s2 => fm_gd (fm_if (ftrl_findMain_128 _) (fm_bd (fm_sub (fscp_roleOf _ _) (mem_sub_L rfl) (mem_sub_F rfl)) (fun r5 s5 => fm_gd (fm_if (fm_bd (fm_sub (fscp_parametersOf _ _) (mem_sub_L rfl) (mem_sub_F rfl)) (fun r8 s8 => fm_gd (fm_if (fm_bd (fm_sub (fprg_chooseMain _ _) (mem_sub_L rfl) (mem_sub_F rfl)) (fun r11 s11 => fm_some md_refl)) (ftrl_findMain_128 _)))) (ftrl_findMain_128 _)))))))
noncomputable def trl_findMain (s : iS) : Option (Int × iS) := bd (nam_find 24 25 26 20 (s 42 0) (s 43 0) 0 (s 24 2) s) (fun r1 s1 => gd (rg r1) (if r1 = (-1) then trl_findMain_55 r1 0 s1 else bd (scp_firstSubOf (r1 + 1) s1) (fun r4 s4 => trl_findMain_55 r1 r4 s4)))
theorem ttrl_findMain (w : ev_W) (d : Nat) (hd : 2 ≤ d) (s : iS) : Ew hT w d 134 0 [(0, .ref (tb_nK + 22))] [] s (Cv hT) (trl_findMain s) := by
  unfold trl_findMain
  refine e_mv 1 em_134 (ce_at ce_134 0 rfl) rfl rfl ?_
  refine e_getr 4 em_134 (ce_at ce_134 1 rfl) tq_22 rfl rfl ?_
  refine e_getr 7 em_134 (ce_at ce_134 2 rfl) tq_23 rfl rfl ?_
  refine e_mv 8 em_134 (ce_at ce_134 3 rfl) rfl rfl ?_
  refine e_mv 9 em_134 (ce_at ce_134 4 rfl) rfl rfl ?_
  refine e_mv 10 em_134 (ce_at ce_134 5 rfl) rfl rfl ?_
  refine e_getr 13 em_134 (ce_at ce_134 6 rfl) tq_22 rfl rfl ?_
  refine e_getr 16 em_134 (ce_at ce_134 7 rfl) tq_41 rfl rfl ?_
  refine e_op 17 em_134 (ce_at ce_134 8 rfl) rfl rfl ?_
  refine e_lld 18 em_134 (ce_at ce_134 9 rfl) tq_42 (by decide) (by decide) rfl ?_
  refine e_mv 19 em_134 (ce_at ce_134 10 rfl) rfl rfl ?_
  refine e_getr 22 em_134 (ce_at ce_134 11 rfl) tq_22 rfl rfl ?_
  refine e_getr 25 em_134 (ce_at ce_134 12 rfl) tq_41 rfl rfl ?_
  refine e_op 26 em_134 (ce_at ce_134 13 rfl) rfl rfl ?_
  refine e_lld 27 em_134 (ce_at ce_134 14 rfl) tq_43 (by decide) (by decide) rfl ?_
  refine e_op 28 em_134 (ce_at ce_134 15 rfl) rfl rfl ?_
  refine e_mv 29 em_134 (ce_at ce_134 16 rfl) rfl rfl ?_
  refine e_get 32 em_134 (ce_at ce_134 17 rfl) tq_24 rfl rfl ?_
  refine e_ivi 35 em_134 (ce_at ce_134 18 rfl) (by omega) (iv_v4 (by decide) tq_24 rfl) em_44 (Nat.le_of_ble_eq_true rfl) rfl (tnam_find hT w (d - 1) (by omega) 24 25 26 20 tq_24 tq_25 tq_26 (by decide) _ _ _ _ _) (fun r1 s1 => ?_)
  refine e_mv 36 em_134 (ce_at ce_134 19 rfl) rfl rfl ?_
  refine e_mv 37 em_134 (ce_at ce_134 20 rfl) rfl rfl ?_
  refine e_op 38 em_134 (ce_at ce_134 21 rfl) rfl rfl ?_
  refine e_gd fun g2 => ?_
  refine e_cmne 45 41 em_134 rfl rfl (ce_at ce_134 22 rfl) g2 (by decide) (fun h3 => ?_) (fun h3 => ?_)
  · refine e_mv 46 em_134 (ce_at ce_134 25 rfl) rfl rfl ?_
    refine e_getr 49 em_134 (ce_at ce_134 26 rfl) tq_22 rfl rfl ?_
    refine e_mv 50 em_134 (ce_at ce_134 27 rfl) rfl rfl ?_
    refine e_op 51 em_134 (ce_at ce_134 28 rfl) rfl rfl ?_
    refine e_iadd 52 em_134 rfl (ce_at ce_134 29 rfl) ?_
    refine e_ivi 55 em_134 (ce_at ce_134 30 rfl) (by omega) (iv_v1 (by decide) tq_23 rfl) em_93 (Nat.le_of_ble_eq_true rfl) rfl (tscp_firstSubOf w (d - 1) (by omega) _ _) (fun r4 s4 => ?_)
    refine e_pk [0, 2] rfl rfl ?_
    exact ttrl_findMain_55 w d hd _ _ _
  · refine e_op 42 em_134 (ce_at ce_134 23 rfl) rfl rfl ?_
    refine e_goto em_134 55 (ce_at ce_134 24 rfl) rfl ?_
    refine e_pk [0, 2] rfl rfl ?_
    exact ttrl_findMain_55 w d hd _ _ _
theorem ftrl_findMain (s : iS) : Fm Prod.snd L_trl_findMain G_trl_findMain s (trl_findMain s) := fm_bd (fm_sub (fnam_find 24 25 26 20 _ _ _ _ _) (mem_sub_L rfl) (mem_sub_F rfl)) (fun r1 s1 => fm_gd (fm_if (ftrl_findMain_55 _ _ _) (fm_bd (fm_sub (fscp_firstSubOf _ _) (mem_sub_L rfl) (mem_sub_F rfl)) (fun r4 s4 => ftrl_findMain_55 _ _ _))))
/-! prg_settleCalls -/
def L_prg_settleCalls : List Nat := [18]
def G_prg_settleCalls : List (Nat × Nat) := []
def prg_settleCalls_2C (w : ev_W) (d : Nat) : (Int × iS) ⊕ (iS) → am_E → Prop := fun q r => q.elim (fun l => ev w d 136 2 ((fun l => [(0, .ref (tb_nK + 14)), (1, iv (l.1))]) l) [] (hT ((fun l => l.2) l)) r) (fun e => (fun e r => ev w d 136 89 [] [] (hT (e)) r) e r)
noncomputable def prg_settleCalls_38 (v1 : Int) (t0 : Int) (s : iS) : Option ((Int × iS) ⊕ (iS)) := gd (rg t0) (if t0 = 0 then some (.inl ((v1 + 1), s)) else gd (0 ≤ v1 ∧ v1 < 3000) (gd (rg (s 18 v1.toNat)) (if (s 18 v1.toNat) < 0 then some (.inl ((v1 + 1), s)) else if 100 ≤ (s 18 v1.toNat) then some (.inl ((v1 + 1), s)) else gd (0 ≤ (s 18 v1.toNat) ∧ (s 18 v1.toNat) < 100) (lt' (up s 18 v1.toNat (s 20 (s 18 v1.toNat).toNat)) (fun s8 => some (.inl ((v1 + 1), s8)))))))
theorem tprg_settleCalls_38 (w : ev_W) (d : Nat) (hd : 0 ≤ d) (v1 : Int) (t0 : Int) (s : iS) : Ew hT w d 136 38 [(0, .ref (tb_nK + 14)), (1, iv v1)] [iv t0] s (prg_settleCalls_2C w d) (prg_settleCalls_38 v1 t0 s) := by
  unfold prg_settleCalls_38
  refine e_mv 39 em_136 (ce_at ce_136 21 rfl) rfl rfl ?_
  refine e_mv 40 em_136 (ce_at ce_136 22 rfl) rfl rfl ?_
  refine e_gd fun g1 => ?_
  refine e_ifeq 83 43 em_136 rfl rfl (ce_at ce_136 23 rfl) g1 (fun h2 => ?_) (fun h2 => ?_)
  · refine e_iinc 86 em_136 (ce_at ce_136 48 rfl) rfl (by decide) rfl ?_
    refine e_goto em_136 2 (ce_at ce_136 49 rfl) rfl ?_
    refine e_pk [0, 1] rfl rfl ?_
    exact e_out (fun r h => h)
  · refine e_mv 44 em_136 (ce_at ce_136 24 rfl) rfl rfl ?_
    refine e_getr 47 em_136 (ce_at ce_136 25 rfl) tq_14 rfl rfl ?_
    refine e_mv 48 em_136 (ce_at ce_136 26 rfl) rfl rfl ?_
    refine e_gd fun g3 => ?_
    refine e_ild 49 em_136 (ce_at ce_136 27 rfl) tq_18 (by decide) g3 rfl ?_
    refine e_gd fun g4 => ?_
    refine e_iflt 83 52 em_136 rfl rfl (ce_at ce_136 28 rfl) g4 (fun h5 => ?_) (fun h5 => ?_)
    · refine e_iinc 86 em_136 (ce_at ce_136 48 rfl) rfl (by decide) rfl ?_
      refine e_goto em_136 2 (ce_at ce_136 49 rfl) rfl ?_
      refine e_pk [0, 1] rfl rfl ?_
      exact e_out (fun r h => h)
    · refine e_mv 53 em_136 (ce_at ce_136 29 rfl) rfl rfl ?_
      refine e_getr 56 em_136 (ce_at ce_136 30 rfl) tq_14 rfl rfl ?_
      refine e_mv 57 em_136 (ce_at ce_136 31 rfl) rfl rfl ?_
      refine e_ild 58 em_136 (ce_at ce_136 32 rfl) tq_18 (by decide) g3 rfl ?_
      refine e_mv 59 em_136 (ce_at ce_136 33 rfl) rfl rfl ?_
      refine e_getr 62 em_136 (ce_at ce_136 34 rfl) tq_14 rfl rfl ?_
      refine e_alen 63 em_136 (ce_at ce_136 35 rfl) tq_20 (by decide) rfl rfl ?_
      refine e_cmge 83 66 em_136 rfl rfl (ce_at ce_136 36 rfl) g4 (by decide) (fun h6 => ?_) (fun h6 => ?_)
      · refine e_iinc 86 em_136 (ce_at ce_136 48 rfl) rfl (by decide) rfl ?_
        refine e_goto em_136 2 (ce_at ce_136 49 rfl) rfl ?_
        refine e_pk [0, 1] rfl rfl ?_
        exact e_out (fun r h => h)
      · refine e_mv 67 em_136 (ce_at ce_136 37 rfl) rfl rfl ?_
        refine e_getr 70 em_136 (ce_at ce_136 38 rfl) tq_14 rfl rfl ?_
        refine e_mv 71 em_136 (ce_at ce_136 39 rfl) rfl rfl ?_
        refine e_mv 72 em_136 (ce_at ce_136 40 rfl) rfl rfl ?_
        refine e_getr 75 em_136 (ce_at ce_136 41 rfl) tq_14 rfl rfl ?_
        refine e_mv 76 em_136 (ce_at ce_136 42 rfl) rfl rfl ?_
        refine e_getr 79 em_136 (ce_at ce_136 43 rfl) tq_14 rfl rfl ?_
        refine e_mv 80 em_136 (ce_at ce_136 44 rfl) rfl rfl ?_
        refine e_ild 81 em_136 (ce_at ce_136 45 rfl) tq_18 (by decide) g3 rfl ?_
        refine e_gd fun g7 => ?_
        refine e_ild 82 em_136 (ce_at ce_136 46 rfl) tq_20 (by decide) g7 rfl ?_
        refine e_ist 83 em_136 (ce_at ce_136 47 rfl) tq_18 (by decide) g3 rfl (fun s8 => ?_)
        refine e_iinc 86 em_136 (ce_at ce_136 48 rfl) rfl (by decide) rfl ?_
        refine e_goto em_136 2 (ce_at ce_136 49 rfl) rfl ?_
        refine e_pk [0, 1] rfl rfl ?_
        exact e_out (fun r h => h)
theorem fprg_settleCalls_38 (v1 : Int) (t0 : Int) (s : iS) : Fm (fun r : (Int × iS) ⊕ (iS) => r.elim (fun l => l.2) (fun e => e)) L_prg_settleCalls G_prg_settleCalls s (prg_settleCalls_38 v1 t0 s) := fm_gd (fm_if (fm_some md_refl) (fm_gd (fm_gd (fm_if (fm_some md_refl) (fm_if (fm_some md_refl) (fm_gd (fm_lt (md_upL (mem_L rfl)) (fun s8 => fm_some md_refl))))))))
noncomputable def prg_settleCalls_37 (v1 : Int) (s : iS) : Option ((Int × iS) ⊕ (iS)) := prg_settleCalls_38 v1 0 s
theorem tprg_settleCalls_37 (w : ev_W) (d : Nat) (hd : 0 ≤ d) (v1 : Int) (s : iS) : Ew hT w d 136 37 [(0, .ref (tb_nK + 14)), (1, iv v1)] [] s (prg_settleCalls_2C w d) (prg_settleCalls_37 v1 s) := by
  unfold prg_settleCalls_37
  refine e_op 38 em_136 (ce_at ce_136 20 rfl) rfl rfl ?_
  refine e_pk [0, 1] rfl rfl ?_
  exact tprg_settleCalls_38 w d hd _ _ _
theorem fprg_settleCalls_37 (v1 : Int) (s : iS) : Fm (fun r : (Int × iS) ⊕ (iS) => r.elim (fun l => l.2) (fun e => e)) L_prg_settleCalls G_prg_settleCalls s (prg_settleCalls_37 v1 s) := fprg_settleCalls_38 _ _ _
noncomputable def prg_settleCalls_2b (v1 : Int) (s : iS) : Option ((Int × iS) ⊕ (iS)) := gd (rg v1) (gd (rg (s 14 8)) (if (s 14 8) ≤ v1 then some (.inr s) else gd (0 ≤ v1 ∧ v1 < 3000) (gd (rg (s 15 v1.toNat)) (if (s 15 v1.toNat) = 15 then gd (rg (s 16 v1.toNat)) (if (s 16 v1.toNat) < 800 then prg_settleCalls_37 v1 s else prg_settleCalls_38 v1 1 s) else prg_settleCalls_37 v1 s))))
theorem tprg_settleCalls_2b (w : ev_W) (d : Nat) (hd : 0 ≤ d) (v1 : Int) (s : iS) : Ew hT w d 136 2 [(0, .ref (tb_nK + 14)), (1, iv v1)] [] s (prg_settleCalls_2C w d) (prg_settleCalls_2b v1 s) := by
  unfold prg_settleCalls_2b
  refine e_mv 3 em_136 (ce_at ce_136 2 rfl) rfl rfl ?_
  refine e_mv 4 em_136 (ce_at ce_136 3 rfl) rfl rfl ?_
  refine e_get 7 em_136 (ce_at ce_136 4 rfl) tq_14 rfl rfl ?_
  refine e_gd fun g1 => ?_
  refine e_gd fun g2 => ?_
  refine e_cmge 89 10 em_136 rfl rfl (ce_at ce_136 5 rfl) g1 g2 (fun h3 => ?_) (fun h3 => ?_)
  · refine e_pk [] rfl rfl ?_
    exact e_out (fun r h => h)
  · refine e_mv 11 em_136 (ce_at ce_136 6 rfl) rfl rfl ?_
    refine e_getr 14 em_136 (ce_at ce_136 7 rfl) tq_14 rfl rfl ?_
    refine e_mv 15 em_136 (ce_at ce_136 8 rfl) rfl rfl ?_
    refine e_gd fun g4 => ?_
    refine e_ild 16 em_136 (ce_at ce_136 9 rfl) tq_15 (by decide) g4 rfl ?_
    refine e_bip 18 em_136 (ce_at ce_136 10 rfl) (by decide) rfl ?_
    refine e_gd fun g5 => ?_
    refine e_cmne 37 21 em_136 rfl rfl (ce_at ce_136 11 rfl) g5 (by decide) (fun h6 => ?_) (fun h6 => ?_)
    · refine e_pk [0, 1] rfl rfl ?_
      exact tprg_settleCalls_37 w d hd _ _
    · refine e_mv 22 em_136 (ce_at ce_136 12 rfl) rfl rfl ?_
      refine e_getr 25 em_136 (ce_at ce_136 13 rfl) tq_14 rfl rfl ?_
      refine e_mv 26 em_136 (ce_at ce_136 14 rfl) rfl rfl ?_
      refine e_ild 27 em_136 (ce_at ce_136 15 rfl) tq_16 (by decide) g4 rfl ?_
      refine e_sip 30 em_136 (ce_at ce_136 16 rfl) (by decide) rfl ?_
      refine e_gd fun g7 => ?_
      refine e_cmlt 37 33 em_136 rfl rfl (ce_at ce_136 17 rfl) g7 (by decide) (fun h8 => ?_) (fun h8 => ?_)
      · refine e_pk [0, 1] rfl rfl ?_
        exact tprg_settleCalls_37 w d hd _ _
      · refine e_op 34 em_136 (ce_at ce_136 18 rfl) rfl rfl ?_
        refine e_goto em_136 38 (ce_at ce_136 19 rfl) rfl ?_
        refine e_pk [0, 1] rfl rfl ?_
        exact tprg_settleCalls_38 w d hd _ _ _
theorem fprg_settleCalls_2b (v1 : Int) (s : iS) : Fm (fun r : (Int × iS) ⊕ (iS) => r.elim (fun l => l.2) (fun e => e)) L_prg_settleCalls G_prg_settleCalls s (prg_settleCalls_2b v1 s) := fm_gd (fm_gd (fm_if (fm_some md_refl) (fm_gd (fm_gd (fm_if (fm_gd (fm_if (fprg_settleCalls_37 _ _) (fprg_settleCalls_38 _ _ _))) (fprg_settleCalls_37 _ _))))))
noncomputable def prg_settleCalls_2 (v1 : Int) (s : iS) : Option (Int × iS) := (lp (L := Int × iS) (E := iS) (fun l => prg_settleCalls_2b (l.1) (l.2)) (v1, s)).bind (fun e => some (0, e))
theorem tprg_settleCalls_2 (w : ev_W) (d : Nat) (hd : 0 ≤ d) (v1 : Int) (s : iS) : Ew hT w d 136 2 [(0, .ref (tb_nK + 14)), (1, iv v1)] [] s (Cv hT) (prg_settleCalls_2 v1 s) := by
  unfold prg_settleCalls_2
  refine e_lp (L := Int × iS) (E := iS) (LO := fun l => [(0, .ref (tb_nK + 14)), (1, iv (l.1))]) (LS := fun l => l.2) (CE := fun e r => ev w d 136 89 [] [] (hT (e)) r) (fun l => tprg_settleCalls_2b w d hd _ _) ?_ (v1, s)
  intro e
  show Ew hT w d 136 89 [] [] e (Cv hT) _
  exact e_retv em_136 (ce_at ce_136 50 rfl)
theorem fprg_settleCalls_2 (v1 : Int) (s : iS) : Fm Prod.snd L_prg_settleCalls G_prg_settleCalls s (prg_settleCalls_2 v1 s) := by
  unfold prg_settleCalls_2
  refine fm_lp (A := Int × iS) (E := iS) (LS := fun l => l.2) (LE := fun e => e) ?_ ?_ (v1, s)
  · exact fun l => fprg_settleCalls_2b _ _
  · exact (fun e => fm_some md_refl)
noncomputable def prg_settleCalls (s : iS) : Option (Int × iS) := prg_settleCalls_2 0 s
theorem tprg_settleCalls (w : ev_W) (d : Nat) (hd : 0 ≤ d) (s : iS) : Ew hT w d 136 0 [(0, .ref (tb_nK + 14))] [] s (Cv hT) (prg_settleCalls s) := by
  unfold prg_settleCalls
  refine e_op 1 em_136 (ce_at ce_136 0 rfl) rfl rfl ?_
  refine e_mv 2 em_136 (ce_at ce_136 1 rfl) rfl rfl ?_
  refine e_pk [0, 1] rfl rfl ?_
  exact tprg_settleCalls_2 w d hd _ _
theorem fprg_settleCalls (s : iS) : Fm Prod.snd L_prg_settleCalls G_prg_settleCalls s (prg_settleCalls s) := fprg_settleCalls_2 _ _
/-! trl_readText -/
def L_trl_readText : List Nat := [15, 16, 17, 18, 19, 20, 21, 25, 26, 28, 29, 30, 31, 32, 34, 35, 36, 37, 38, 39, 40]
def G_trl_readText : List (Nat × Nat) := [(2, 12), (2, 13), (2, 14), (14, 7), (14, 8), (14, 9), (14, 10), (14, 11), (14, 12), (22, 4), (22, 5), (22, 6), (22, 7), (23, 11), (23, 12), (23, 13), (23, 14), (23, 15), (24, 2), (27, 2), (33, 2)]
def trl_readText_97C (w : ev_W) (d : Nat) (v1 : Int) (v2 : Int) : (Int × iS) ⊕ (iS) → am_E → Prop := fun q r => q.elim (fun l => ev w d 63 97 ((fun l => [(0, .ref (tb_nK + 22)), (1, iv v1), (2, iv v2), (3, iv (l.1))]) l) [] (hT ((fun l => l.2) l)) r) (fun e => (fun e r => ev w d 63 127 [(0, .ref (tb_nK + 22)), (1, iv v1), (2, iv v2)] [] (hT (e)) r) e r)
noncomputable def trl_readText_97b (v1 : Int) (v2 : Int) (v3 : Int) (s : iS) : Option ((Int × iS) ⊕ (iS)) := gd (rg v3) (if 1000 ≤ v3 then some (.inr s) else bd (tok_kind s) (fun r3 s3 => bd (trl_beginsSub r3 s3) (fun r4 s4 => gd (rg r4) (if r4 = 0 then some (.inr s4) else bd (trl_readSub s4) (fun _ s7 => some (.inl ((v3 + 1), s7)))))))
theorem ttrl_readText_97b (w : ev_W) (d : Nat) (hd : 249 ≤ d) (v1 : Int) (v2 : Int) (v3 : Int) (s : iS) : Ew hT w d 63 97 [(0, .ref (tb_nK + 22)), (1, iv v1), (2, iv v2), (3, iv v3)] [] s (trl_readText_97C w d v1 v2) (trl_readText_97b v1 v2 v3 s) := by
  unfold trl_readText_97b
  refine e_mv 98 em_63 (ce_at ce_63 50 rfl) rfl rfl ?_
  refine e_sip 101 em_63 (ce_at ce_63 51 rfl) (by decide) rfl ?_
  refine e_gd fun g1 => ?_
  refine e_cmge 127 104 em_63 rfl rfl (ce_at ce_63 52 rfl) g1 (by decide) (fun h2 => ?_) (fun h2 => ?_)
  · refine e_pk [0, 1, 2] rfl rfl ?_
    exact e_out (fun r h => h)
  · refine e_mv 105 em_63 (ce_at ce_63 53 rfl) rfl rfl ?_
    refine e_getr 108 em_63 (ce_at ce_63 54 rfl) tq_22 rfl rfl ?_
    refine e_ivi 111 em_63 (ce_at ce_63 55 rfl) (by omega) (iv_v0 (by decide) tq_2 rfl) em_69 (Nat.le_of_ble_eq_true rfl) rfl (ttok_kind w (d - 1) (by omega) _) (fun r3 s3 => ?_)
    refine e_ivi 114 em_63 (ce_at ce_63 56 rfl) (by omega) (iv_s1 rfl) em_87 (Nat.le_of_ble_eq_true rfl) rfl (ttrl_beginsSub hT w (d - 1) (by omega) _ _) (fun r4 s4 => ?_)
    refine e_gd fun g5 => ?_
    refine e_ifeq 127 117 em_63 rfl rfl (ce_at ce_63 57 rfl) g5 (fun h6 => ?_) (fun h6 => ?_)
    · refine e_pk [0, 1, 2] rfl rfl ?_
      exact e_out (fun r h => h)
    · refine e_mv 118 em_63 (ce_at ce_63 58 rfl) rfl rfl ?_
      refine e_ivv 121 em_63 (ce_at ce_63 59 rfl) (by omega) (iv_v0 (by decide) tq_22 rfl) em_88 (Nat.le_of_ble_eq_true rfl) rfl (ttrl_readSub w (d - 1) (by omega) _) (fun r7 s7 => ?_)
      refine e_iinc 124 em_63 (ce_at ce_63 60 rfl) rfl (by decide) rfl ?_
      refine e_goto em_63 97 (ce_at ce_63 61 rfl) rfl ?_
      refine e_pk [0, 1, 2, 3] rfl rfl ?_
      exact e_out (fun r h => h)
theorem ftrl_readText_97b (v1 : Int) (v2 : Int) (v3 : Int) (s : iS) : Fm (fun r : (Int × iS) ⊕ (iS) => r.elim (fun l => l.2) (fun e => e)) L_trl_readText G_trl_readText s (trl_readText_97b v1 v2 v3 s) := fm_gd (fm_if (fm_some md_refl) (fm_bd (fm_sub (ftok_kind _) (mem_sub_L rfl) (mem_sub_F rfl)) (fun r3 s3 => fm_bd (fm_sub (ftrl_beginsSub _ _) (mem_sub_L rfl) (mem_sub_F rfl)) (fun r4 s4 => fm_gd (fm_if (fm_some md_refl) (fm_bd (fm_sub (ftrl_readSub _) (mem_sub_L rfl) (mem_sub_F rfl)) (fun r7 s7 => fm_some md_refl)))))))
def trl_readText_48C (w : ev_W) (d : Nat) (v1 : Int) : (Int × iS) ⊕ (iS) → am_E → Prop := fun q r => q.elim (fun l => ev w d 63 48 ((fun l => [(0, .ref (tb_nK + 22)), (1, iv v1), (2, iv (l.1))]) l) [] (hT ((fun l => l.2) l)) r) (fun e => (fun e r => ev w d 63 152 [(0, .ref (tb_nK + 22)), (1, iv v1)] [] (hT (e)) r) e r)
noncomputable def trl_readText_127 (v1 : Int) (v2 : Int) (s : iS) : Option ((Int × iS) ⊕ (iS)) := bd (tok_expect 125 s) (fun _ s1 => lt' (up s1 22 5 ((s1 22 5) - 1)) (fun s2 => some (.inl ((v2 + 1), s2))))
theorem ttrl_readText_127 (w : ev_W) (d : Nat) (hd : 249 ≤ d) (v1 : Int) (v2 : Int) (s : iS) : Ew hT w d 63 127 [(0, .ref (tb_nK + 22)), (1, iv v1), (2, iv v2)] [] s (trl_readText_48C w d v1) (trl_readText_127 v1 v2 s) := by
  unfold trl_readText_127
  refine e_mv 128 em_63 (ce_at ce_63 62 rfl) rfl rfl ?_
  refine e_getr 131 em_63 (ce_at ce_63 63 rfl) tq_22 rfl rfl ?_
  refine e_bip 133 em_63 (ce_at ce_63 64 rfl) (by decide) rfl ?_
  refine e_ivv 136 em_63 (ce_at ce_63 65 rfl) (by omega) (iv_v1 (by decide) tq_2 rfl) em_86 (Nat.le_of_ble_eq_true rfl) rfl (ttok_expect w (d - 1) (by omega) _ _) (fun r1 s1 => ?_)
  refine e_mv 137 em_63 (ce_at ce_63 66 rfl) rfl rfl ?_
  refine e_op 138 em_63 (ce_at ce_63 67 rfl) rfl rfl ?_
  refine e_get 141 em_63 (ce_at ce_63 68 rfl) tq_22 rfl rfl ?_
  refine e_op 142 em_63 (ce_at ce_63 69 rfl) rfl rfl ?_
  refine e_isub 143 em_63 rfl (ce_at ce_63 70 rfl) ?_
  refine e_put 146 em_63 (ce_at ce_63 71 rfl) tq_22 rfl rfl rfl (fun s2 => ?_)
  refine e_iinc 149 em_63 (ce_at ce_63 72 rfl) rfl (by decide) rfl ?_
  refine e_goto em_63 48 (ce_at ce_63 73 rfl) rfl ?_
  refine e_pk [0, 1, 2] rfl rfl ?_
  exact e_out (fun r h => h)
theorem ftrl_readText_127 (v1 : Int) (v2 : Int) (s : iS) : Fm (fun r : (Int × iS) ⊕ (iS) => r.elim (fun l => l.2) (fun e => e)) L_trl_readText G_trl_readText s (trl_readText_127 v1 v2 s) := fm_bd (fm_sub (ftok_expect _ _) (mem_sub_L rfl) (mem_sub_F rfl)) (fun r1 s1 => fm_lt (md_upF (mem_F rfl)) (fun s2 => fm_some md_refl))
noncomputable def trl_readText_97 (v1 : Int) (v2 : Int) (v3 : Int) (s : iS) : Option ((Int × iS) ⊕ (iS)) := (lp (L := Int × iS) (E := iS) (fun l => trl_readText_97b v1 v2 (l.1) (l.2)) (v3, s)).bind (fun e => trl_readText_127 v1 v2 e)
theorem ttrl_readText_97 (w : ev_W) (d : Nat) (hd : 249 ≤ d) (v1 : Int) (v2 : Int) (v3 : Int) (s : iS) : Ew hT w d 63 97 [(0, .ref (tb_nK + 22)), (1, iv v1), (2, iv v2), (3, iv v3)] [] s (trl_readText_48C w d v1) (trl_readText_97 v1 v2 v3 s) := by
  unfold trl_readText_97
  refine e_lp (L := Int × iS) (E := iS) (LO := fun l => [(0, .ref (tb_nK + 22)), (1, iv v1), (2, iv v2), (3, iv (l.1))]) (LS := fun l => l.2) (CE := fun e r => ev w d 63 127 [(0, .ref (tb_nK + 22)), (1, iv v1), (2, iv v2)] [] (hT (e)) r) (fun l => ttrl_readText_97b w d hd _ _ _ _) ?_ (v3, s)
  intro e
  show Ew hT w d 63 127 [(0, .ref (tb_nK + 22)), (1, iv v1), (2, iv v2)] [] e (trl_readText_48C w d v1) _
  refine e_pk [0, 1, 2] rfl rfl ?_
  exact ttrl_readText_127 w d hd _ _ _
theorem ftrl_readText_97 (v1 : Int) (v2 : Int) (v3 : Int) (s : iS) : Fm (fun r : (Int × iS) ⊕ (iS) => r.elim (fun l => l.2) (fun e => e)) L_trl_readText G_trl_readText s (trl_readText_97 v1 v2 v3 s) := by
  unfold trl_readText_97
  refine fm_lp (A := Int × iS) (E := iS) (LS := fun l => l.2) (LE := fun e => e) ?_ ?_ (v3, s)
  · exact fun l => ftrl_readText_97b _ _ _ _
  · exact (fun e => ftrl_readText_127 _ _ _)
noncomputable def trl_readText_48b (v1 : Int) (v2 : Int) (s : iS) : Option ((Int × iS) ⊕ (iS)) := gd (rg v2) (if 1000 ≤ v2 then some (.inr s) else bd (tok_kind s) (fun r3 s3 => gd (rg r3) (if r3 = 256 then lt' (up s3 2 12 ((s3 2 12) + 1)) (fun s6 => bd (trl_readClassName s6) (fun _ s7 => bd (trl_openSign 123 s7) (fun _ s8 => bd (trl_readClassVariables s8) (fun _ s9 => trl_readText_97 v1 v2 0 s9)))) else some (.inr s3))))
theorem ttrl_readText_48b (w : ev_W) (d : Nat) (hd : 249 ≤ d) (v1 : Int) (v2 : Int) (s : iS) : Ew hT w d 63 48 [(0, .ref (tb_nK + 22)), (1, iv v1), (2, iv v2)] [] s (trl_readText_48C w d v1) (trl_readText_48b v1 v2 s) := by
  unfold trl_readText_48b
  refine e_mv 49 em_63 (ce_at ce_63 26 rfl) rfl rfl ?_
  refine e_sip 52 em_63 (ce_at ce_63 27 rfl) (by decide) rfl ?_
  refine e_gd fun g1 => ?_
  refine e_cmge 152 55 em_63 rfl rfl (ce_at ce_63 28 rfl) g1 (by decide) (fun h2 => ?_) (fun h2 => ?_)
  · refine e_pk [0, 1] rfl rfl ?_
    exact e_out (fun r h => h)
  · refine e_mv 56 em_63 (ce_at ce_63 29 rfl) rfl rfl ?_
    refine e_getr 59 em_63 (ce_at ce_63 30 rfl) tq_22 rfl rfl ?_
    refine e_ivi 62 em_63 (ce_at ce_63 31 rfl) (by omega) (iv_v0 (by decide) tq_2 rfl) em_69 (Nat.le_of_ble_eq_true rfl) rfl (ttok_kind w (d - 1) (by omega) _) (fun r3 s3 => ?_)
    refine e_sip 65 em_63 (ce_at ce_63 32 rfl) (by decide) rfl ?_
    refine e_gd fun g4 => ?_
    refine e_cmne 152 68 em_63 rfl rfl (ce_at ce_63 33 rfl) g4 (by decide) (fun h5 => ?_) (fun h5 => ?_)
    · refine e_pk [0, 1] rfl rfl ?_
      exact e_out (fun r h => h)
    · refine e_mv 69 em_63 (ce_at ce_63 34 rfl) rfl rfl ?_
      refine e_getr 72 em_63 (ce_at ce_63 35 rfl) tq_22 rfl rfl ?_
      refine e_op 73 em_63 (ce_at ce_63 36 rfl) rfl rfl ?_
      refine e_get 76 em_63 (ce_at ce_63 37 rfl) tq_2 rfl rfl ?_
      refine e_op 77 em_63 (ce_at ce_63 38 rfl) rfl rfl ?_
      refine e_iadd 78 em_63 rfl (ce_at ce_63 39 rfl) ?_
      refine e_put 81 em_63 (ce_at ce_63 40 rfl) tq_2 rfl rfl rfl (fun s6 => ?_)
      refine e_mv 82 em_63 (ce_at ce_63 41 rfl) rfl rfl ?_
      refine e_ivv 85 em_63 (ce_at ce_63 42 rfl) (by omega) (iv_v0 (by decide) tq_22 rfl) em_70 (Nat.le_of_ble_eq_true rfl) rfl (ttrl_readClassName w (d - 1) (by omega) _) (fun r7 s7 => ?_)
      refine e_mv 86 em_63 (ce_at ce_63 43 rfl) rfl rfl ?_
      refine e_bip 88 em_63 (ce_at ce_63 44 rfl) (by decide) rfl ?_
      refine e_ivv 91 em_63 (ce_at ce_63 45 rfl) (by omega) (iv_v1 (by decide) tq_22 rfl) em_78 (Nat.le_of_ble_eq_true rfl) rfl (ttrl_openSign w (d - 1) (by omega) _ _) (fun r8 s8 => ?_)
      refine e_mv 92 em_63 (ce_at ce_63 46 rfl) rfl rfl ?_
      refine e_ivv 95 em_63 (ce_at ce_63 47 rfl) (by omega) (iv_v0 (by decide) tq_22 rfl) em_79 (Nat.le_of_ble_eq_true rfl) rfl (ttrl_readClassVariables w (d - 1) (by omega) _) (fun r9 s9 => ?_)
      refine e_op 96 em_63 (ce_at ce_63 48 rfl) rfl rfl ?_
      refine e_mv 97 em_63 (ce_at ce_63 49 rfl) rfl rfl ?_
      refine e_pk [0, 1, 2, 3] rfl rfl ?_
      exact ttrl_readText_97 w d hd _ _ _ _
theorem ftrl_readText_48b (v1 : Int) (v2 : Int) (s : iS) : Fm (fun r : (Int × iS) ⊕ (iS) => r.elim (fun l => l.2) (fun e => e)) L_trl_readText G_trl_readText s (trl_readText_48b v1 v2 s) := fm_gd (fm_if (fm_some md_refl) (fm_bd (fm_sub (ftok_kind _) (mem_sub_L rfl) (mem_sub_F rfl)) (fun r3 s3 => fm_gd (fm_if (fm_lt (md_upF (mem_F rfl)) (fun s6 => fm_bd (fm_sub (ftrl_readClassName _) (mem_sub_L rfl) (mem_sub_F rfl)) (fun r7 s7 => fm_bd (fm_sub (ftrl_openSign _ _) (mem_sub_L rfl) (mem_sub_F rfl)) (fun r8 s8 => fm_bd (fm_sub (ftrl_readClassVariables _) (mem_sub_L rfl) (mem_sub_F rfl)) (fun r9 s9 => ftrl_readText_97 _ _ _ _))))) (fm_some md_refl)))))
noncomputable def trl_readText_152 (v1 : Int) (s : iS) : Option (Int × iS) := bd (tok_expect 0 s) (fun _ s1 => gd (rg v1) (if v1 = 0 then some (0, s1) else bd (trl_findMain s1) (fun _ s4 => bd (prg_settleCalls s4) (fun _ s5 => some (0, s5)))))
theorem ttrl_readText_152 (w : ev_W) (d : Nat) (hd : 249 ≤ d) (v1 : Int) (s : iS) : Ew hT w d 63 152 [(0, .ref (tb_nK + 22)), (1, iv v1)] [] s (Cv hT) (trl_readText_152 v1 s) := by
  unfold trl_readText_152
  refine e_mv 153 em_63 (ce_at ce_63 74 rfl) rfl rfl ?_
  refine e_getr 156 em_63 (ce_at ce_63 75 rfl) tq_22 rfl rfl ?_
  refine e_op 157 em_63 (ce_at ce_63 76 rfl) rfl rfl ?_
  refine e_ivv 160 em_63 (ce_at ce_63 77 rfl) (by omega) (iv_v1 (by decide) tq_2 rfl) em_86 (Nat.le_of_ble_eq_true rfl) rfl (ttok_expect w (d - 1) (by omega) _ _) (fun r1 s1 => ?_)
  refine e_mv 161 em_63 (ce_at ce_63 78 rfl) rfl rfl ?_
  refine e_gd fun g2 => ?_
  refine e_ifeq 175 164 em_63 rfl rfl (ce_at ce_63 79 rfl) g2 (fun h3 => ?_) (fun h3 => ?_)
  · exact e_retv em_63 (ce_at ce_63 85 rfl)
  · refine e_mv 165 em_63 (ce_at ce_63 80 rfl) rfl rfl ?_
    refine e_ivv 168 em_63 (ce_at ce_63 81 rfl) (by omega) (iv_v0 (by decide) tq_22 rfl) em_134 (Nat.le_of_ble_eq_true rfl) rfl (ttrl_findMain w (d - 1) (by omega) _) (fun r4 s4 => ?_)
    refine e_mv 169 em_63 (ce_at ce_63 82 rfl) rfl rfl ?_
    refine e_getr 172 em_63 (ce_at ce_63 83 rfl) tq_22 rfl rfl ?_
    refine e_ivv 175 em_63 (ce_at ce_63 84 rfl) (by omega) (iv_v0 (by decide) tq_14 rfl) em_136 (Nat.le_of_ble_eq_true rfl) rfl (tprg_settleCalls w (d - 1) (by omega) _) (fun r5 s5 => ?_)
    exact e_retv em_63 (ce_at ce_63 85 rfl)
theorem ftrl_readText_152 (v1 : Int) (s : iS) : Fm Prod.snd L_trl_readText G_trl_readText s (trl_readText_152 v1 s) := fm_bd (fm_sub (ftok_expect _ _) (mem_sub_L rfl) (mem_sub_F rfl)) (fun r1 s1 => fm_gd (fm_if (fm_some md_refl) (fm_bd (fm_sub (ftrl_findMain _) (mem_sub_L rfl) (mem_sub_F rfl)) (fun r4 s4 => fm_bd (fm_sub (fprg_settleCalls _) (mem_sub_L rfl) (mem_sub_F rfl)) (fun r5 s5 => fm_some md_refl)))))
noncomputable def trl_readText_48 (v1 : Int) (v2 : Int) (s : iS) : Option (Int × iS) := (lp (L := Int × iS) (E := iS) (fun l => trl_readText_48b v1 (l.1) (l.2)) (v2, s)).bind (fun e => trl_readText_152 v1 e)
theorem ttrl_readText_48 (w : ev_W) (d : Nat) (hd : 249 ≤ d) (v1 : Int) (v2 : Int) (s : iS) : Ew hT w d 63 48 [(0, .ref (tb_nK + 22)), (1, iv v1), (2, iv v2)] [] s (Cv hT) (trl_readText_48 v1 v2 s) := by
  unfold trl_readText_48
  refine e_lp (L := Int × iS) (E := iS) (LO := fun l => [(0, .ref (tb_nK + 22)), (1, iv v1), (2, iv (l.1))]) (LS := fun l => l.2) (CE := fun e r => ev w d 63 152 [(0, .ref (tb_nK + 22)), (1, iv v1)] [] (hT (e)) r) (fun l => ttrl_readText_48b w d hd _ _ _) ?_ (v2, s)
  intro e
  show Ew hT w d 63 152 [(0, .ref (tb_nK + 22)), (1, iv v1)] [] e (Cv hT) _
  refine e_pk [0, 1] rfl rfl ?_
  exact ttrl_readText_152 w d hd _ _
theorem ftrl_readText_48 (v1 : Int) (v2 : Int) (s : iS) : Fm Prod.snd L_trl_readText G_trl_readText s (trl_readText_48 v1 v2 s) := by
  unfold trl_readText_48
  refine fm_lp (A := Int × iS) (E := iS) (LS := fun l => l.2) (LE := fun e => e) ?_ ?_ (v2, s)
  · exact fun l => ftrl_readText_48b _ _ _
  · exact (fun e => ftrl_readText_152 _ _)
noncomputable def trl_readText (v1 : Int) (s : iS) : Option (Int × iS) := gd (v1 = 0 ∨ v1 = 1) (lt' (up s 22 4 v1) (fun s2 => lt' (up s2 22 5 0) (fun s3 => lt' (up s3 22 6 0) (fun s4 => bd (tok_rewind s4) (fun _ s5 => bd (scp_beginText v1 s5) (fun _ s6 => bd (tok_placeOf 0 s6) (fun r7 s7 => bd (prg_begin v1 r7 s7) (fun _ s8 => trl_readText_48 v1 0 s8))))))))
theorem ttrl_readText (w : ev_W) (d : Nat) (hd : 249 ≤ d) (v1 : Int) (s : iS) : Ew hT w d 63 0 [(0, .ref (tb_nK + 22)), (1, iv v1)] [] s (Cv hT) (trl_readText v1 s) := by
  unfold trl_readText
  refine e_mv 1 em_63 (ce_at ce_63 0 rfl) rfl rfl ?_
  refine e_mv 2 em_63 (ce_at ce_63 1 rfl) rfl rfl ?_
  refine e_gd fun g1 => ?_
  refine e_put 5 em_63 (ce_at ce_63 2 rfl) tq_22 rfl (fit_b rfl g1) rfl (fun s2 => ?_)
  refine e_mv 6 em_63 (ce_at ce_63 3 rfl) rfl rfl ?_
  refine e_op 7 em_63 (ce_at ce_63 4 rfl) rfl rfl ?_
  refine e_put 10 em_63 (ce_at ce_63 5 rfl) tq_22 rfl rfl rfl (fun s3 => ?_)
  refine e_mv 11 em_63 (ce_at ce_63 6 rfl) rfl rfl ?_
  refine e_op 12 em_63 (ce_at ce_63 7 rfl) rfl rfl ?_
  refine e_put 15 em_63 (ce_at ce_63 8 rfl) tq_22 rfl rfl rfl (fun s4 => ?_)
  refine e_mv 16 em_63 (ce_at ce_63 9 rfl) rfl rfl ?_
  refine e_getr 19 em_63 (ce_at ce_63 10 rfl) tq_22 rfl rfl ?_
  refine e_ivv 22 em_63 (ce_at ce_63 11 rfl) (by omega) (iv_v0 (by decide) tq_2 rfl) em_64 (Nat.le_of_ble_eq_true rfl) rfl (ttok_rewind w (d - 1) (by omega) _) (fun r5 s5 => ?_)
  refine e_mv 23 em_63 (ce_at ce_63 12 rfl) rfl rfl ?_
  refine e_getr 26 em_63 (ce_at ce_63 13 rfl) tq_22 rfl rfl ?_
  refine e_mv 27 em_63 (ce_at ce_63 14 rfl) rfl rfl ?_
  refine e_ivv 30 em_63 (ce_at ce_63 15 rfl) (by omega) (iv_v1 (by decide) tq_23 rfl) em_65 (Nat.le_of_ble_eq_true rfl) rfl (tscp_beginText w (d - 1) (by omega) _ _) (fun r6 s6 => ?_)
  refine e_mv 31 em_63 (ce_at ce_63 16 rfl) rfl rfl ?_
  refine e_getr 34 em_63 (ce_at ce_63 17 rfl) tq_22 rfl rfl ?_
  refine e_mv 35 em_63 (ce_at ce_63 18 rfl) rfl rfl ?_
  refine e_mv 36 em_63 (ce_at ce_63 19 rfl) rfl rfl ?_
  refine e_getr 39 em_63 (ce_at ce_63 20 rfl) tq_22 rfl rfl ?_
  refine e_op 40 em_63 (ce_at ce_63 21 rfl) rfl rfl ?_
  refine e_ivi 43 em_63 (ce_at ce_63 22 rfl) (by omega) (iv_v1 (by decide) tq_2 rfl) em_67 (Nat.le_of_ble_eq_true rfl) rfl (ttok_placeOf w (d - 1) (by omega) _ _) (fun r7 s7 => ?_)
  refine e_ivv 46 em_63 (ce_at ce_63 23 rfl) (by omega) (iv_v2 (by decide) tq_14 rfl) em_68 (Nat.le_of_ble_eq_true rfl) rfl (tprg_begin w (d - 1) (by omega) _ _ _) (fun r8 s8 => ?_)
  refine e_op 47 em_63 (ce_at ce_63 24 rfl) rfl rfl ?_
  refine e_mv 48 em_63 (ce_at ce_63 25 rfl) rfl rfl ?_
  refine e_pk [0, 1, 2] rfl rfl ?_
  exact ttrl_readText_48 w d hd _ _ _
theorem ftrl_readText (v1 : Int) (s : iS) : Fm Prod.snd L_trl_readText G_trl_readText s (trl_readText v1 s) := fm_gd (fm_lt (md_upF (mem_F rfl)) (fun s2 => fm_lt (md_upF (mem_F rfl)) (fun s3 => fm_lt (md_upF (mem_F rfl)) (fun s4 => fm_bd (fm_sub (ftok_rewind _) (mem_sub_L rfl) (mem_sub_F rfl)) (fun r5 s5 => fm_bd (fm_sub (fscp_beginText _ _) (mem_sub_L rfl) (mem_sub_F rfl)) (fun r6 s6 => fm_bd (fm_sub (ftok_placeOf _ _) (mem_sub_L rfl) (mem_sub_F rfl)) (fun r7 s7 => fm_bd (fm_sub (fprg_begin _ _ _) (mem_sub_L rfl) (mem_sub_F rfl)) (fun r8 s8 => ftrl_readText_48 _ _ _))))))))
/-! x_load -/
def L_x_load : List Nat := [9, 10, 11, 12, 13, 15, 16, 17, 18, 19, 20, 21, 25, 26, 28, 29, 30, 31, 32, 34, 35, 36, 37, 38, 39, 40]
def G_x_load : List (Nat × Nat) := [(0, 1), (0, 2), (0, 3), (2, 8), (2, 9), (2, 10), (2, 11), (2, 12), (2, 13), (2, 14), (14, 7), (14, 8), (14, 9), (14, 10), (14, 11), (14, 12), (22, 4), (22, 5), (22, 6), (22, 7), (23, 11), (23, 12), (23, 13), (23, 14), (23, 15), (24, 2), (27, 2), (33, 2)]
noncomputable def x_load_70 (t0 : Int) (s : iS) : Option (Int × iS) := gd (t0 = 0 ∨ t0 = 1) (lt' (up s 0 3 t0) (fun s2 => bd (tok_placeOf (s2 2 14) s2) (fun r3 s3 => lt' (up s3 0 2 r3) (fun s4 => some ((s4 2 13), s4)))))
theorem tx_load_70 (w : ev_W) (d : Nat) (hd : 250 ≤ d) (t0 : Int) (s : iS) : Ew hT w d 31 70 [(0, .ref (tb_nK + 0))] [iv t0, .ref (tb_nK + 0)] s (Ci hT) (x_load_70 t0 s) := by
  unfold x_load_70
  refine e_gd fun g1 => ?_
  refine e_put 73 em_31 (ce_at ce_31 36 rfl) tq_0 rfl (fit_b rfl g1) rfl (fun s2 => ?_)
  refine e_mv 74 em_31 (ce_at ce_31 37 rfl) rfl rfl ?_
  refine e_mv 75 em_31 (ce_at ce_31 38 rfl) rfl rfl ?_
  refine e_getr 78 em_31 (ce_at ce_31 39 rfl) tq_0 rfl rfl ?_
  refine e_mv 79 em_31 (ce_at ce_31 40 rfl) rfl rfl ?_
  refine e_getr 82 em_31 (ce_at ce_31 41 rfl) tq_0 rfl rfl ?_
  refine e_get 85 em_31 (ce_at ce_31 42 rfl) tq_2 rfl rfl ?_
  refine e_ivi 88 em_31 (ce_at ce_31 43 rfl) (by omega) (iv_v1 (by decide) tq_2 rfl) em_67 (Nat.le_of_ble_eq_true rfl) rfl (ttok_placeOf w (d - 1) (by omega) _ _) (fun r3 s3 => ?_)
  refine e_put 91 em_31 (ce_at ce_31 44 rfl) tq_0 rfl rfl rfl (fun s4 => ?_)
  refine e_mv 92 em_31 (ce_at ce_31 45 rfl) rfl rfl ?_
  refine e_getr 95 em_31 (ce_at ce_31 46 rfl) tq_0 rfl rfl ?_
  refine e_get 98 em_31 (ce_at ce_31 47 rfl) tq_2 rfl rfl ?_
  exact e_reti em_31 (ce_at ce_31 48 rfl)
theorem fx_load_70 (t0 : Int) (s : iS) : Fm Prod.snd L_x_load G_x_load s (x_load_70 t0 s) := fm_gd (fm_lt (md_upF (mem_F rfl)) (fun s2 => fm_bd (fm_sub (ftok_placeOf _ _) (mem_sub_L rfl) (mem_sub_F rfl)) (fun r3 s3 => fm_lt (md_upF (mem_F rfl)) (fun s4 => fm_some md_refl))))
noncomputable def x_load_54 (s : iS) : Option (Int × iS) := gd (rg (s 2 13)) (if (s 2 13) = 0 then x_load_70 1 s else x_load_70 0 s)
theorem tx_load_54 (w : ev_W) (d : Nat) (hd : 250 ≤ d) (s : iS) : Ew hT w d 31 54 [(0, .ref (tb_nK + 0))] [] s (Ci hT) (x_load_54 s) := by
  unfold x_load_54
  refine e_mv 55 em_31 (ce_at ce_31 28 rfl) rfl rfl ?_
  refine e_mv 56 em_31 (ce_at ce_31 29 rfl) rfl rfl ?_
  refine e_getr 59 em_31 (ce_at ce_31 30 rfl) tq_0 rfl rfl ?_
  refine e_get 62 em_31 (ce_at ce_31 31 rfl) tq_2 rfl rfl ?_
  refine e_gd fun g1 => ?_
  refine e_ifne 69 65 em_31 rfl rfl (ce_at ce_31 32 rfl) g1 (fun h2 => ?_) (fun h2 => ?_)
  · refine e_op 70 em_31 (ce_at ce_31 35 rfl) rfl rfl ?_
    refine e_pk [0] rfl rfl ?_
    exact tx_load_70 w d hd _ _
  · refine e_op 66 em_31 (ce_at ce_31 33 rfl) rfl rfl ?_
    refine e_goto em_31 70 (ce_at ce_31 34 rfl) rfl ?_
    refine e_pk [0] rfl rfl ?_
    exact tx_load_70 w d hd _ _
theorem fx_load_54 (s : iS) : Fm Prod.snd L_x_load G_x_load s (x_load_54 s) := fm_gd (fm_if (fx_load_70 _ _) (fx_load_70 _ _))
noncomputable def x_load (v1 : Int) (s : iS) : Option (Int × iS) := gd (rg v1) (if v1 < 0 then some ((-1), s) else gd (rg (s 0 1)) (if v1 ≤ (s 0 1) then lt' (up s 0 1 0) (fun s5 => bd (tok_scan v1 0 s5) (fun _ s6 => bd (trl_readText 0 s6) (fun _ s7 => gd (rg (s7 2 13)) (if (s7 2 13) = 0 then bd (trl_readText 1 s7) (fun _ s10 => x_load_54 s10) else x_load_54 s7)))) else some ((-1), s)))
theorem tx_load (w : ev_W) (d : Nat) (hd : 250 ≤ d) (v1 : Int) (s : iS) : Ew hT w d 31 0 [(0, .ref (tb_nK + 0)), (1, iv v1)] [] s (Ci hT) (x_load v1 s) := by
  unfold x_load
  refine e_mv 1 em_31 (ce_at ce_31 0 rfl) rfl rfl ?_
  refine e_gd fun g1 => ?_
  refine e_iflt 12 4 em_31 rfl rfl (ce_at ce_31 1 rfl) g1 (fun h2 => ?_) (fun h2 => ?_)
  · refine e_op 13 em_31 (ce_at ce_31 6 rfl) rfl rfl ?_
    exact e_reti em_31 (ce_at ce_31 7 rfl)
  · refine e_mv 5 em_31 (ce_at ce_31 2 rfl) rfl rfl ?_
    refine e_mv 6 em_31 (ce_at ce_31 3 rfl) rfl rfl ?_
    refine e_get 9 em_31 (ce_at ce_31 4 rfl) tq_0 rfl rfl ?_
    refine e_gd fun g3 => ?_
    refine e_cmle 14 12 em_31 rfl rfl (ce_at ce_31 5 rfl) g1 g3 (fun h4 => ?_) (fun h4 => ?_)
    · refine e_mv 15 em_31 (ce_at ce_31 8 rfl) rfl rfl ?_
      refine e_op 16 em_31 (ce_at ce_31 9 rfl) rfl rfl ?_
      refine e_put 19 em_31 (ce_at ce_31 10 rfl) tq_0 rfl rfl rfl (fun s5 => ?_)
      refine e_mv 20 em_31 (ce_at ce_31 11 rfl) rfl rfl ?_
      refine e_getr 23 em_31 (ce_at ce_31 12 rfl) tq_0 rfl rfl ?_
      refine e_mv 24 em_31 (ce_at ce_31 13 rfl) rfl rfl ?_
      refine e_op 25 em_31 (ce_at ce_31 14 rfl) rfl rfl ?_
      refine e_ivv 28 em_31 (ce_at ce_31 15 rfl) (by omega) (iv_v2 (by decide) tq_2 rfl) em_32 (Nat.le_of_ble_eq_true rfl) rfl (ttok_scan w (d - 1) (by omega) _ _ _) (fun r6 s6 => ?_)
      refine e_mv 29 em_31 (ce_at ce_31 16 rfl) rfl rfl ?_
      refine e_getr 32 em_31 (ce_at ce_31 17 rfl) tq_0 rfl rfl ?_
      refine e_op 33 em_31 (ce_at ce_31 18 rfl) rfl rfl ?_
      refine e_ivv 36 em_31 (ce_at ce_31 19 rfl) (by omega) (iv_v1 (by decide) tq_22 rfl) em_63 (Nat.le_of_ble_eq_true rfl) rfl (ttrl_readText w (d - 1) (by omega) _ _) (fun r7 s7 => ?_)
      refine e_mv 37 em_31 (ce_at ce_31 20 rfl) rfl rfl ?_
      refine e_getr 40 em_31 (ce_at ce_31 21 rfl) tq_0 rfl rfl ?_
      refine e_get 43 em_31 (ce_at ce_31 22 rfl) tq_2 rfl rfl ?_
      refine e_gd fun g8 => ?_
      refine e_ifne 54 46 em_31 rfl rfl (ce_at ce_31 23 rfl) g8 (fun h9 => ?_) (fun h9 => ?_)
      · refine e_pk [0] rfl rfl ?_
        exact tx_load_54 w d hd _
      · refine e_mv 47 em_31 (ce_at ce_31 24 rfl) rfl rfl ?_
        refine e_getr 50 em_31 (ce_at ce_31 25 rfl) tq_0 rfl rfl ?_
        refine e_op 51 em_31 (ce_at ce_31 26 rfl) rfl rfl ?_
        refine e_ivv 54 em_31 (ce_at ce_31 27 rfl) (by omega) (iv_v1 (by decide) tq_22 rfl) em_63 (Nat.le_of_ble_eq_true rfl) rfl (ttrl_readText w (d - 1) (by omega) _ _) (fun r10 s10 => ?_)
        refine e_pk [0] rfl rfl ?_
        exact tx_load_54 w d hd _
    · refine e_op 13 em_31 (ce_at ce_31 6 rfl) rfl rfl ?_
      exact e_reti em_31 (ce_at ce_31 7 rfl)
theorem fx_load (v1 : Int) (s : iS) : Fm Prod.snd L_x_load G_x_load s (x_load v1 s) := fm_gd (fm_if (fm_some md_refl) (fm_gd (fm_if (fm_lt (md_upF (mem_F rfl)) (fun s5 => fm_bd (fm_sub (ftok_scan _ _ _) (mem_sub_L rfl) (mem_sub_F rfl)) (fun r6 s6 => fm_bd (fm_sub (ftrl_readText _ _) (mem_sub_L rfl) (mem_sub_F rfl)) (fun r7 s7 => fm_gd (fm_if (fm_bd (fm_sub (ftrl_readText _ _) (mem_sub_L rfl) (mem_sub_F rfl)) (fun r10 s10 => fx_load_54 _)) (fx_load_54 _)))))) (fm_some md_refl))))
/-! lib_takeKeys -/
def L_lib_takeKeys : List Nat := [50]
def G_lib_takeKeys : List (Nat × Nat) := [(48, 5)]
noncomputable def lib_takeKeys (v2 : Int) (s : iS) : Option (Int × iS) := bd (mth_min 200 4000 s) (fun r1 s1 => bd (mth_min v2 r1 s1) (fun r2 s2 => bd (mth_max 0 r2 s2) (fun r3 s3 => lt' (up s3 48 5 r3) (fun s4 => gd (0 ≤ (0 : Int) ∧ 0 ≤ (0 : Int) ∧ 0 ≤ ((s4 48 5) : Int) ∧ (0 : Int) + (s4 48 5) ≤ 4000 ∧ (0 : Int) + (s4 48 5) ≤ 200) (lt' (cpy s4 1 50 (0 : Int).toNat (0 : Int).toNat ((s4 48 5) : Int).toNat) (fun s6 => some (0, s6)))))))
theorem tlib_takeKeys (w : ev_W) (d : Nat) (hd : 1 ≤ d) (v2 : Int) (s : iS) : Ew hT w d 138 0 [(0, .ref (tb_nK + 48)), (1, .ref (tb_nK + 1)), (2, iv v2)] [] s (Cv hT) (lib_takeKeys v2 s) := by
  unfold lib_takeKeys
  refine e_mv 1 em_138 (ce_at ce_138 0 rfl) rfl rfl ?_
  refine e_op 2 em_138 (ce_at ce_138 1 rfl) rfl rfl ?_
  refine e_mv 3 em_138 (ce_at ce_138 2 rfl) rfl rfl ?_
  refine e_sip 6 em_138 (ce_at ce_138 3 rfl) (by decide) rfl ?_
  refine e_mv 7 em_138 (ce_at ce_138 4 rfl) rfl rfl ?_
  refine e_alen 8 em_138 (ce_at ce_138 5 rfl) tq_1 (by decide) rfl rfl ?_
  refine e_ivi 11 em_138 (ce_at ce_138 6 rfl) (by omega) (iv_s2 rfl) em_21 (Nat.le_of_ble_eq_true rfl) rfl (tmth_min hT w (d - 1) (by omega) _ _ _) (fun r1 s1 => ?_)
  refine e_ivi 14 em_138 (ce_at ce_138 7 rfl) (by omega) (iv_s2 rfl) em_21 (Nat.le_of_ble_eq_true rfl) rfl (tmth_min hT w (d - 1) (by omega) _ _ _) (fun r2 s2 => ?_)
  refine e_ivi 17 em_138 (ce_at ce_138 8 rfl) (by omega) (iv_s2 rfl) em_45 (Nat.le_of_ble_eq_true rfl) rfl (tmth_max hT w (d - 1) (by omega) _ _ _) (fun r3 s3 => ?_)
  refine e_put 20 em_138 (ce_at ce_138 9 rfl) tq_48 rfl rfl rfl (fun s4 => ?_)
  refine e_mv 21 em_138 (ce_at ce_138 10 rfl) rfl rfl ?_
  refine e_op 22 em_138 (ce_at ce_138 11 rfl) rfl rfl ?_
  refine e_mv 23 em_138 (ce_at ce_138 12 rfl) rfl rfl ?_
  refine e_getr 26 em_138 (ce_at ce_138 13 rfl) tq_48 rfl rfl ?_
  refine e_op 27 em_138 (ce_at ce_138 14 rfl) rfl rfl ?_
  refine e_mv 28 em_138 (ce_at ce_138 15 rfl) rfl rfl ?_
  refine e_get 31 em_138 (ce_at ce_138 16 rfl) tq_48 rfl rfl ?_
  refine e_gd fun g5 => ?_
  refine e_cp 34 em_138 (ce_at ce_138 17 rfl) (by omega) rfl tq_1 tq_50 (by decide) (by decide) g5 rfl (fun s6 => ?_)
  exact e_retv em_138 (ce_at ce_138 18 rfl)
theorem flib_takeKeys (v2 : Int) (s : iS) : Fm Prod.snd L_lib_takeKeys G_lib_takeKeys s (lib_takeKeys v2 s) := fm_bd (fm_sub (fmth_min _ _ _) (mem_sub_L rfl) (mem_sub_F rfl)) (fun r1 s1 => fm_bd (fm_sub (fmth_min _ _ _) (mem_sub_L rfl) (mem_sub_F rfl)) (fun r2 s2 => fm_bd (fm_sub (fmth_max _ _ _) (mem_sub_L rfl) (mem_sub_F rfl)) (fun r3 s3 => fm_lt (md_upF (mem_F rfl)) (fun s4 => fm_gd (fm_lt (md_cpy (mem_L rfl)) (fun s6 => fm_some md_refl))))))
/-! x_keys -/
def L_x_keys : List Nat := [50]
def G_x_keys : List (Nat × Nat) := [(0, 1), (48, 5)]
noncomputable def x_keys (v1 : Int) (s : iS) : Option (Int × iS) := gd (rg v1) (if v1 < 0 then some (0, s) else if 200 < v1 then some (0, s) else gd (rg (s 0 1)) (if v1 ≤ (s 0 1) then lt' (up s 0 1 0) (fun s6 => bd (lib_takeKeys v1 s6) (fun _ s7 => some (1, s7))) else some (0, s)))
theorem tx_keys (w : ev_W) (d : Nat) (hd : 2 ≤ d) (v1 : Int) (s : iS) : Ew hT w d 137 0 [(0, .ref (tb_nK + 0)), (1, iv v1)] [] s (Ci hT) (x_keys v1 s) := by
  unfold x_keys
  refine e_mv 1 em_137 (ce_at ce_137 0 rfl) rfl rfl ?_
  refine e_gd fun g1 => ?_
  refine e_iflt 19 4 em_137 rfl rfl (ce_at ce_137 1 rfl) g1 (fun h2 => ?_) (fun h2 => ?_)
  · refine e_op 20 em_137 (ce_at ce_137 9 rfl) rfl rfl ?_
    exact e_retz em_137 (ce_at ce_137 10 rfl) (by decide)
  · refine e_mv 5 em_137 (ce_at ce_137 2 rfl) rfl rfl ?_
    refine e_sip 8 em_137 (ce_at ce_137 3 rfl) (by decide) rfl ?_
    refine e_cmgt 19 11 em_137 rfl rfl (ce_at ce_137 4 rfl) g1 (by decide) (fun h3 => ?_) (fun h3 => ?_)
    · refine e_op 20 em_137 (ce_at ce_137 9 rfl) rfl rfl ?_
      exact e_retz em_137 (ce_at ce_137 10 rfl) (by decide)
    · refine e_mv 12 em_137 (ce_at ce_137 5 rfl) rfl rfl ?_
      refine e_mv 13 em_137 (ce_at ce_137 6 rfl) rfl rfl ?_
      refine e_get 16 em_137 (ce_at ce_137 7 rfl) tq_0 rfl rfl ?_
      refine e_gd fun g4 => ?_
      refine e_cmle 21 19 em_137 rfl rfl (ce_at ce_137 8 rfl) g1 g4 (fun h5 => ?_) (fun h5 => ?_)
      · refine e_mv 22 em_137 (ce_at ce_137 11 rfl) rfl rfl ?_
        refine e_op 23 em_137 (ce_at ce_137 12 rfl) rfl rfl ?_
        refine e_put 26 em_137 (ce_at ce_137 13 rfl) tq_0 rfl rfl rfl (fun s6 => ?_)
        refine e_mv 27 em_137 (ce_at ce_137 14 rfl) rfl rfl ?_
        refine e_getr 30 em_137 (ce_at ce_137 15 rfl) tq_0 rfl rfl ?_
        refine e_mv 31 em_137 (ce_at ce_137 16 rfl) rfl rfl ?_
        refine e_getr 34 em_137 (ce_at ce_137 17 rfl) tq_0 rfl rfl ?_
        refine e_mv 35 em_137 (ce_at ce_137 18 rfl) rfl rfl ?_
        refine e_ivv 38 em_137 (ce_at ce_137 19 rfl) (by omega) (iv_v2 (by decide) tq_48 rfl) em_138 (Nat.le_of_ble_eq_true rfl) rfl (tlib_takeKeys w (d - 1) (by omega) _ _) (fun r7 s7 => ?_)
        refine e_op 39 em_137 (ce_at ce_137 20 rfl) rfl rfl ?_
        exact e_retz em_137 (ce_at ce_137 21 rfl) (by decide)
      · refine e_op 20 em_137 (ce_at ce_137 9 rfl) rfl rfl ?_
        exact e_retz em_137 (ce_at ce_137 10 rfl) (by decide)
theorem fx_keys (v1 : Int) (s : iS) : Fm Prod.snd L_x_keys G_x_keys s (x_keys v1 s) := fm_gd (fm_if (fm_some md_refl) (fm_if (fm_some md_refl) (fm_gd (fm_if (fm_lt (md_upF (mem_F rfl)) (fun s6 => fm_bd (fm_sub (flib_takeKeys _ _) (mem_sub_L rfl) (mem_sub_F rfl)) (fun r7 s7 => fm_some md_refl))) (fm_some md_refl)))))
/-! arr_fill -/
def arr_fill_5C (H : iS → List am_C) (w : ev_W) (d : Nat) (a0 : Nat) (n0 : Nat) (v1 : Int) (v3 : Int) : (Int × iS) ⊕ (iS) → am_E → Prop := fun q r => q.elim (fun l => ev w d 142 5 ((fun l => [(0, .ref (tb_nK + a0)), (1, iv v1), (2, iv (l.1)), (3, iv v3)]) l) [] (H ((fun l => l.2) l)) r) (fun e => (fun e r => ev w d 142 20 [] [] (H (e)) r) e r)
noncomputable def arr_fill_5b (a0 : Nat) (n0 : Nat) (v1 : Int) (v2 : Int) (v3 : Int) (s : iS) : Option ((Int × iS) ⊕ (iS)) := gd (rg v2) (gd (rg v3) (if v3 ≤ v2 then some (.inr s) else gd (0 ≤ v2 ∧ v2 < (n0 : Int)) (lt' (up s a0 v2.toNat v1) (fun s5 => some (.inl ((v2 + 1), s5))))))
theorem tarr_fill_5b (H : iS → List am_C) (w : ev_W) (d : Nat) (hd : 0 ≤ d) (a0 : Nat) (n0 : Nat) (h_a0 : Ha H a0 0 n0) (hl_n0 : n0 < 2147483648) (v1 : Int) (v2 : Int) (v3 : Int) (s : iS) : Ew H w d 142 5 [(0, .ref (tb_nK + a0)), (1, iv v1), (2, iv v2), (3, iv v3)] [] s (arr_fill_5C H w d a0 n0 v1 v3) (arr_fill_5b a0 n0 v1 v2 v3 s) := by
  unfold arr_fill_5b
  refine e_mv 6 em_142 (ce_at ce_142 5 rfl) rfl rfl ?_
  refine e_mv 7 em_142 (ce_at ce_142 6 rfl) rfl rfl ?_
  refine e_gd fun g1 => ?_
  refine e_gd fun g2 => ?_
  refine e_cmge 20 10 em_142 rfl rfl (ce_at ce_142 7 rfl) g1 g2 (fun h3 => ?_) (fun h3 => ?_)
  · refine e_pk [] rfl rfl ?_
    exact e_out (fun r h => h)
  · refine e_mv 11 em_142 (ce_at ce_142 8 rfl) rfl rfl ?_
    refine e_mv 12 em_142 (ce_at ce_142 9 rfl) rfl rfl ?_
    refine e_mv 13 em_142 (ce_at ce_142 10 rfl) rfl rfl ?_
    refine e_gd fun g4 => ?_
    refine e_ist 14 em_142 (ce_at ce_142 11 rfl) h_a0 hl_n0 g4 rfl (fun s5 => ?_)
    refine e_iinc 17 em_142 (ce_at ce_142 12 rfl) rfl (by decide) rfl ?_
    refine e_goto em_142 5 (ce_at ce_142 13 rfl) rfl ?_
    refine e_pk [0, 1, 2, 3] rfl rfl ?_
    exact e_out (fun r h => h)
theorem farr_fill_5b (a0 : Nat) (n0 : Nat) (v1 : Int) (v2 : Int) (v3 : Int) (s : iS) : Fm (fun r : (Int × iS) ⊕ (iS) => r.elim (fun l => l.2) (fun e => e)) [a0] [] s (arr_fill_5b a0 n0 v1 v2 v3 s) := fm_gd (fm_gd (fm_if (fm_some md_refl) (fm_gd (fm_lt (md_upL (List.Mem.head _)) (fun s5 => fm_some md_refl)))))
noncomputable def arr_fill_5 (a0 : Nat) (n0 : Nat) (v1 : Int) (v2 : Int) (v3 : Int) (s : iS) : Option (Int × iS) := (lp (L := Int × iS) (E := iS) (fun l => arr_fill_5b a0 n0 v1 (l.1) v3 (l.2)) (v2, s)).bind (fun e => some (0, e))
theorem tarr_fill_5 (H : iS → List am_C) (w : ev_W) (d : Nat) (hd : 0 ≤ d) (a0 : Nat) (n0 : Nat) (h_a0 : Ha H a0 0 n0) (hl_n0 : n0 < 2147483648) (v1 : Int) (v2 : Int) (v3 : Int) (s : iS) : Ew H w d 142 5 [(0, .ref (tb_nK + a0)), (1, iv v1), (2, iv v2), (3, iv v3)] [] s (Cv H) (arr_fill_5 a0 n0 v1 v2 v3 s) := by
  unfold arr_fill_5
  refine e_lp (L := Int × iS) (E := iS) (LO := fun l => [(0, .ref (tb_nK + a0)), (1, iv v1), (2, iv (l.1)), (3, iv v3)]) (LS := fun l => l.2) (CE := fun e r => ev w d 142 20 [] [] (H (e)) r) (fun l => tarr_fill_5b H w d hd a0 n0 h_a0 hl_n0 _ _ _ _) ?_ (v2, s)
  intro e
  show Ew H w d 142 20 [] [] e (Cv H) _
  exact e_retv em_142 (ce_at ce_142 14 rfl)
theorem farr_fill_5 (a0 : Nat) (n0 : Nat) (v1 : Int) (v2 : Int) (v3 : Int) (s : iS) : Fm Prod.snd [a0] [] s (arr_fill_5 a0 n0 v1 v2 v3 s) := by
  unfold arr_fill_5
  refine fm_lp (A := Int × iS) (E := iS) (LS := fun l => l.2) (LE := fun e => e) ?_ ?_ (v2, s)
  · exact fun l => farr_fill_5b a0 n0 _ _ _ _
  · exact (fun e => fm_some md_refl)
noncomputable def arr_fill (a0 : Nat) (n0 : Nat) (v1 : Int) (s : iS) : Option (Int × iS) := arr_fill_5 a0 n0 v1 0 (n0 : Int) s
theorem tarr_fill (H : iS → List am_C) (w : ev_W) (d : Nat) (hd : 0 ≤ d) (a0 : Nat) (n0 : Nat) (h_a0 : Ha H a0 0 n0) (hl_n0 : n0 < 2147483648) (v1 : Int) (s : iS) : Ew H w d 142 0 [(0, .ref (tb_nK + a0)), (1, iv v1)] [] s (Cv H) (arr_fill a0 n0 v1 s) := by
  unfold arr_fill
  refine e_op 1 em_142 (ce_at ce_142 0 rfl) rfl rfl ?_
  refine e_mv 2 em_142 (ce_at ce_142 1 rfl) rfl rfl ?_
  refine e_mv 3 em_142 (ce_at ce_142 2 rfl) rfl rfl ?_
  refine e_alen 4 em_142 (ce_at ce_142 3 rfl) h_a0 (by decide) rfl rfl ?_
  refine e_mv 5 em_142 (ce_at ce_142 4 rfl) rfl rfl ?_
  refine e_pk [0, 1, 2, 3] rfl rfl ?_
  exact tarr_fill_5 H w d hd a0 n0 h_a0 hl_n0 _ _ _ _
theorem farr_fill (a0 : Nat) (n0 : Nat) (v1 : Int) (s : iS) : Fm Prod.snd [a0] [] s (arr_fill a0 n0 v1 s) := farr_fill_5 a0 n0 _ _ _ _
/-! mem_clear -/
def L_mem_clear : List Nat := [45]
def G_mem_clear : List (Nat × Nat) := [(44, 3), (44, 4), (44, 5), (44, 6)]
noncomputable def mem_clear (s : iS) : Option (Int × iS) := bd (arr_fill 45 12416 0 s) (fun _ s1 => lt' (up s1 44 3 0) (fun s2 => lt' (up s2 44 4 0) (fun s3 => lt' (up s3 44 5 0) (fun s4 => lt' (up s4 44 6 0) (fun s5 => some (0, s5))))))
theorem tmem_clear (w : ev_W) (d : Nat) (hd : 1 ≤ d) (s : iS) : Ew hT w d 141 0 [(0, .ref (tb_nK + 44))] [] s (Cv hT) (mem_clear s) := by
  unfold mem_clear
  refine e_mv 1 em_141 (ce_at ce_141 0 rfl) rfl rfl ?_
  refine e_getr 4 em_141 (ce_at ce_141 1 rfl) tq_44 rfl rfl ?_
  refine e_op 5 em_141 (ce_at ce_141 2 rfl) rfl rfl ?_
  refine e_ivv 8 em_141 (ce_at ce_141 3 rfl) (by omega) (iv_s2 rfl) em_142 (Nat.le_of_ble_eq_true rfl) rfl (tarr_fill hT w (d - 1) (by omega) 45 12416 tq_45 (by decide) _ _) (fun r1 s1 => ?_)
  refine e_mv 9 em_141 (ce_at ce_141 4 rfl) rfl rfl ?_
  refine e_op 10 em_141 (ce_at ce_141 5 rfl) rfl rfl ?_
  refine e_put 13 em_141 (ce_at ce_141 6 rfl) tq_44 rfl rfl rfl (fun s2 => ?_)
  refine e_mv 14 em_141 (ce_at ce_141 7 rfl) rfl rfl ?_
  refine e_op 15 em_141 (ce_at ce_141 8 rfl) rfl rfl ?_
  refine e_put 18 em_141 (ce_at ce_141 9 rfl) tq_44 rfl rfl rfl (fun s3 => ?_)
  refine e_mv 19 em_141 (ce_at ce_141 10 rfl) rfl rfl ?_
  refine e_op 20 em_141 (ce_at ce_141 11 rfl) rfl rfl ?_
  refine e_put 23 em_141 (ce_at ce_141 12 rfl) tq_44 rfl rfl rfl (fun s4 => ?_)
  refine e_mv 24 em_141 (ce_at ce_141 13 rfl) rfl rfl ?_
  refine e_op 25 em_141 (ce_at ce_141 14 rfl) rfl rfl ?_
  refine e_put 28 em_141 (ce_at ce_141 15 rfl) tq_44 rfl rfl rfl (fun s5 => ?_)
  exact e_retv em_141 (ce_at ce_141 16 rfl)
theorem fmem_clear (s : iS) : Fm Prod.snd L_mem_clear G_mem_clear s (mem_clear s) := fm_bd (fm_sub (farr_fill 45 12416 _ _) (mem_sub_L rfl) (mem_sub_F rfl)) (fun r1 s1 => fm_lt (md_upF (mem_F rfl)) (fun s2 => fm_lt (md_upF (mem_F rfl)) (fun s3 => fm_lt (md_upF (mem_F rfl)) (fun s4 => fm_lt (md_upF (mem_F rfl)) (fun s5 => fm_some md_refl)))))
/-! lib_beginRun -/
def L_lib_beginRun : List Nat := []
def G_lib_beginRun : List (Nat × Nat) := [(48, 3), (48, 4), (48, 6), (48, 8), (48, 9)]
noncomputable def lib_beginRun (s : iS) : Option (Int × iS) := lt' (up s 48 3 0) (fun s1 => lt' (up s1 48 4 0) (fun s2 => lt' (up s2 48 6 0) (fun s3 => lt' (up s3 48 8 0) (fun s4 => lt' (up s4 48 9 0) (fun s5 => some (0, s5))))))
theorem tlib_beginRun (w : ev_W) (d : Nat) (hd : 0 ≤ d) (s : iS) : Ew hT w d 143 0 [(0, .ref (tb_nK + 48))] [] s (Cv hT) (lib_beginRun s) := by
  unfold lib_beginRun
  refine e_mv 1 em_143 (ce_at ce_143 0 rfl) rfl rfl ?_
  refine e_op 2 em_143 (ce_at ce_143 1 rfl) rfl rfl ?_
  refine e_put 5 em_143 (ce_at ce_143 2 rfl) tq_48 rfl rfl rfl (fun s1 => ?_)
  refine e_mv 6 em_143 (ce_at ce_143 3 rfl) rfl rfl ?_
  refine e_op 7 em_143 (ce_at ce_143 4 rfl) rfl rfl ?_
  refine e_put 10 em_143 (ce_at ce_143 5 rfl) tq_48 rfl rfl rfl (fun s2 => ?_)
  refine e_mv 11 em_143 (ce_at ce_143 6 rfl) rfl rfl ?_
  refine e_op 12 em_143 (ce_at ce_143 7 rfl) rfl rfl ?_
  refine e_put 15 em_143 (ce_at ce_143 8 rfl) tq_48 rfl rfl rfl (fun s3 => ?_)
  refine e_mv 16 em_143 (ce_at ce_143 9 rfl) rfl rfl ?_
  refine e_op 17 em_143 (ce_at ce_143 10 rfl) rfl rfl ?_
  refine e_put 20 em_143 (ce_at ce_143 11 rfl) tq_48 rfl rfl rfl (fun s4 => ?_)
  refine e_mv 21 em_143 (ce_at ce_143 12 rfl) rfl rfl ?_
  refine e_op 22 em_143 (ce_at ce_143 13 rfl) rfl rfl ?_
  refine e_put 25 em_143 (ce_at ce_143 14 rfl) tq_48 rfl rfl rfl (fun s5 => ?_)
  exact e_retv em_143 (ce_at ce_143 15 rfl)
theorem flib_beginRun (s : iS) : Fm Prod.snd L_lib_beginRun G_lib_beginRun s (lib_beginRun s) := fm_lt (md_upF (mem_F rfl)) (fun s1 => fm_lt (md_upF (mem_F rfl)) (fun s2 => fm_lt (md_upF (mem_F rfl)) (fun s3 => fm_lt (md_upF (mem_F rfl)) (fun s4 => fm_lt (md_upF (mem_F rfl)) (fun s5 => fm_some md_refl)))))
/-! mac_spendStep -/
def L_mac_spendStep : List Nat := []
def G_mac_spendStep : List (Nat × Nat) := [(51, 14), (51, 16)]
noncomputable def mac_spendStep (s : iS) : Option (Int × iS) := gd (rg (s 51 16)) (gd (rg (s 51 15)) (if (s 51 16) < (s 51 15) then lt' (up s 51 16 ((s 51 16) + 1)) (fun s4 => some (1, s4)) else lt' (up s 51 14 1) (fun s5 => some (0, s5))))
theorem tmac_spendStep (w : ev_W) (d : Nat) (hd : 0 ≤ d) (s : iS) : Ew hT w d 145 0 [(0, .ref (tb_nK + 51))] [] s (Ci hT) (mac_spendStep s) := by
  unfold mac_spendStep
  refine e_mv 1 em_145 (ce_at ce_145 0 rfl) rfl rfl ?_
  refine e_get 4 em_145 (ce_at ce_145 1 rfl) tq_51 rfl rfl ?_
  refine e_mv 5 em_145 (ce_at ce_145 2 rfl) rfl rfl ?_
  refine e_get 8 em_145 (ce_at ce_145 3 rfl) tq_51 rfl rfl ?_
  refine e_gd fun g1 => ?_
  refine e_gd fun g2 => ?_
  refine e_cmlt 18 11 em_145 rfl rfl (ce_at ce_145 4 rfl) g1 g2 (fun h3 => ?_) (fun h3 => ?_)
  · refine e_mv 19 em_145 (ce_at ce_145 10 rfl) rfl rfl ?_
    refine e_op 20 em_145 (ce_at ce_145 11 rfl) rfl rfl ?_
    refine e_get 23 em_145 (ce_at ce_145 12 rfl) tq_51 rfl rfl ?_
    refine e_op 24 em_145 (ce_at ce_145 13 rfl) rfl rfl ?_
    refine e_iadd 25 em_145 rfl (ce_at ce_145 14 rfl) ?_
    refine e_put 28 em_145 (ce_at ce_145 15 rfl) tq_51 rfl rfl rfl (fun s4 => ?_)
    refine e_op 29 em_145 (ce_at ce_145 16 rfl) rfl rfl ?_
    exact e_retz em_145 (ce_at ce_145 17 rfl) (by decide)
  · refine e_mv 12 em_145 (ce_at ce_145 5 rfl) rfl rfl ?_
    refine e_op 13 em_145 (ce_at ce_145 6 rfl) rfl rfl ?_
    refine e_put 16 em_145 (ce_at ce_145 7 rfl) tq_51 rfl rfl rfl (fun s5 => ?_)
    refine e_op 17 em_145 (ce_at ce_145 8 rfl) rfl rfl ?_
    exact e_retz em_145 (ce_at ce_145 9 rfl) (by decide)
theorem fmac_spendStep (s : iS) : Fm Prod.snd L_mac_spendStep G_mac_spendStep s (mac_spendStep s) := fm_gd (fm_gd (fm_if (fm_lt (md_upF (mem_F rfl)) (fun s4 => fm_some md_refl)) (fm_lt (md_upF (mem_F rfl)) (fun s5 => fm_some md_refl))))
/-! mac_enter -/
def L_mac_enter : List Nat := [53]
def G_mac_enter : List (Nat × Nat) := [(51, 7), (51, 8), (51, 13), (51, 14), (51, 16), (51, 17)]
noncomputable def mac_enter (v1 : Int) (v2 : Int) (s : iS) : Option (Int × iS) := bd (mac_spendStep s) (fun r1 s1 => gd (rg r1) (if r1 = 0 then some (0, s1) else gd (rg (s1 51 13)) (if (s1 51 13) < 40 then gd (0 ≤ ((s1 51 13) * 5) ∧ ((s1 51 13) * 5) < 200) (lt' (up s1 53 ((s1 51 13) * 5).toNat (s1 51 7)) (fun s7 => gd (0 ≤ (((s1 51 13) * 5) + 1) ∧ (((s1 51 13) * 5) + 1) < 200) (lt' (up s7 53 (((s1 51 13) * 5) + 1).toNat (s7 51 8)) (fun s9 => gd (0 ≤ (((s1 51 13) * 5) + 2) ∧ (((s1 51 13) * 5) + 2) < 200) (lt' (up s9 53 (((s1 51 13) * 5) + 2).toNat (s9 51 9)) (fun s11 => gd (0 ≤ (((s1 51 13) * 5) + 3) ∧ (((s1 51 13) * 5) + 3) < 200) (lt' (up s11 53 (((s1 51 13) * 5) + 3).toNat (s11 51 10)) (fun s13 => gd (0 ≤ (((s1 51 13) * 5) + 4) ∧ (((s1 51 13) * 5) + 4) < 200) (lt' (up s13 53 (((s1 51 13) * 5) + 4).toNat (s13 51 18)) (fun s15 => lt' (up s15 51 13 ((s15 51 13) + 1)) (fun s16 => bd (mth_max (s16 51 17) (s16 51 13) s16) (fun r17 s17 => lt' (up s17 51 17 r17) (fun s18 => bd (mth_max 0 ((s18 51 6) - v2) s18) (fun r19 s19 => lt' (up s19 51 8 r19) (fun s20 => lt' (up s20 51 7 v1) (fun s21 => some (0, s21))))))))))))))))) else lt' (up s1 51 14 2) (fun s22 => some (0, s22)))))
theorem tmac_enter (w : ev_W) (d : Nat) (hd : 1 ≤ d) (v1 : Int) (v2 : Int) (s : iS) : Ew hT w d 144 0 [(0, .ref (tb_nK + 51)), (1, iv v1), (2, iv v2)] [] s (Cv hT) (mac_enter v1 v2 s) := by
  unfold mac_enter
  refine e_mv 1 em_144 (ce_at ce_144 0 rfl) rfl rfl ?_
  refine e_ivi 4 em_144 (ce_at ce_144 1 rfl) (by omega) (iv_v0 (by decide) tq_51 rfl) em_145 (Nat.le_of_ble_eq_true rfl) rfl (tmac_spendStep w (d - 1) (by omega) _) (fun r1 s1 => ?_)
  refine e_gd fun g2 => ?_
  refine e_ifne 8 7 em_144 rfl rfl (ce_at ce_144 2 rfl) g2 (fun h3 => ?_) (fun h3 => ?_)
  · refine e_mv 9 em_144 (ce_at ce_144 4 rfl) rfl rfl ?_
    refine e_get 12 em_144 (ce_at ce_144 5 rfl) tq_51 rfl rfl ?_
    refine e_bip 14 em_144 (ce_at ce_144 6 rfl) (by decide) rfl ?_
    refine e_gd fun g4 => ?_
    refine e_cmlt 23 17 em_144 rfl rfl (ce_at ce_144 7 rfl) g4 (by decide) (fun h5 => ?_) (fun h5 => ?_)
    · refine e_mv 24 em_144 (ce_at ce_144 12 rfl) rfl rfl ?_
      refine e_get 27 em_144 (ce_at ce_144 13 rfl) tq_51 rfl rfl ?_
      refine e_op 28 em_144 (ce_at ce_144 14 rfl) rfl rfl ?_
      refine e_imul 29 em_144 rfl (ce_at ce_144 15 rfl) ?_
      refine e_mv 30 em_144 (ce_at ce_144 16 rfl) rfl rfl ?_
      refine e_mv 31 em_144 (ce_at ce_144 17 rfl) rfl rfl ?_
      refine e_getr 34 em_144 (ce_at ce_144 18 rfl) tq_51 rfl rfl ?_
      refine e_mv 35 em_144 (ce_at ce_144 19 rfl) rfl rfl ?_
      refine e_mv 36 em_144 (ce_at ce_144 20 rfl) rfl rfl ?_
      refine e_get 39 em_144 (ce_at ce_144 21 rfl) tq_51 rfl rfl ?_
      refine e_gd fun g6 => ?_
      refine e_ist 40 em_144 (ce_at ce_144 22 rfl) tq_53 (by decide) g6 rfl (fun s7 => ?_)
      refine e_mv 41 em_144 (ce_at ce_144 23 rfl) rfl rfl ?_
      refine e_getr 44 em_144 (ce_at ce_144 24 rfl) tq_51 rfl rfl ?_
      refine e_mv 45 em_144 (ce_at ce_144 25 rfl) rfl rfl ?_
      refine e_op 46 em_144 (ce_at ce_144 26 rfl) rfl rfl ?_
      refine e_iadd 47 em_144 rfl (ce_at ce_144 27 rfl) ?_
      refine e_mv 48 em_144 (ce_at ce_144 28 rfl) rfl rfl ?_
      refine e_get 51 em_144 (ce_at ce_144 29 rfl) tq_51 rfl rfl ?_
      refine e_gd fun g8 => ?_
      refine e_ist 52 em_144 (ce_at ce_144 30 rfl) tq_53 (by decide) g8 rfl (fun s9 => ?_)
      refine e_mv 53 em_144 (ce_at ce_144 31 rfl) rfl rfl ?_
      refine e_getr 56 em_144 (ce_at ce_144 32 rfl) tq_51 rfl rfl ?_
      refine e_mv 57 em_144 (ce_at ce_144 33 rfl) rfl rfl ?_
      refine e_op 58 em_144 (ce_at ce_144 34 rfl) rfl rfl ?_
      refine e_iadd 59 em_144 rfl (ce_at ce_144 35 rfl) ?_
      refine e_mv 60 em_144 (ce_at ce_144 36 rfl) rfl rfl ?_
      refine e_get 63 em_144 (ce_at ce_144 37 rfl) tq_51 rfl rfl ?_
      refine e_gd fun g10 => ?_
      refine e_ist 64 em_144 (ce_at ce_144 38 rfl) tq_53 (by decide) g10 rfl (fun s11 => ?_)
      refine e_mv 65 em_144 (ce_at ce_144 39 rfl) rfl rfl ?_
      refine e_getr 68 em_144 (ce_at ce_144 40 rfl) tq_51 rfl rfl ?_
      refine e_mv 69 em_144 (ce_at ce_144 41 rfl) rfl rfl ?_
      refine e_op 70 em_144 (ce_at ce_144 42 rfl) rfl rfl ?_
      refine e_iadd 71 em_144 rfl (ce_at ce_144 43 rfl) ?_
      refine e_mv 72 em_144 (ce_at ce_144 44 rfl) rfl rfl ?_
      refine e_get 75 em_144 (ce_at ce_144 45 rfl) tq_51 rfl rfl ?_
      refine e_gd fun g12 => ?_
      refine e_ist 76 em_144 (ce_at ce_144 46 rfl) tq_53 (by decide) g12 rfl (fun s13 => ?_)
      refine e_mv 77 em_144 (ce_at ce_144 47 rfl) rfl rfl ?_
      refine e_getr 80 em_144 (ce_at ce_144 48 rfl) tq_51 rfl rfl ?_
      refine e_mv 81 em_144 (ce_at ce_144 49 rfl) rfl rfl ?_
      refine e_op 82 em_144 (ce_at ce_144 50 rfl) rfl rfl ?_
      refine e_iadd 83 em_144 rfl (ce_at ce_144 51 rfl) ?_
      refine e_mv 84 em_144 (ce_at ce_144 52 rfl) rfl rfl ?_
      refine e_get 87 em_144 (ce_at ce_144 53 rfl) tq_51 rfl rfl ?_
      refine e_gd fun g14 => ?_
      refine e_ist 88 em_144 (ce_at ce_144 54 rfl) tq_53 (by decide) g14 rfl (fun s15 => ?_)
      refine e_mv 89 em_144 (ce_at ce_144 55 rfl) rfl rfl ?_
      refine e_op 90 em_144 (ce_at ce_144 56 rfl) rfl rfl ?_
      refine e_get 93 em_144 (ce_at ce_144 57 rfl) tq_51 rfl rfl ?_
      refine e_op 94 em_144 (ce_at ce_144 58 rfl) rfl rfl ?_
      refine e_iadd 95 em_144 rfl (ce_at ce_144 59 rfl) ?_
      refine e_put 98 em_144 (ce_at ce_144 60 rfl) tq_51 rfl rfl rfl (fun s16 => ?_)
      refine e_mv 99 em_144 (ce_at ce_144 61 rfl) rfl rfl ?_
      refine e_mv 100 em_144 (ce_at ce_144 62 rfl) rfl rfl ?_
      refine e_get 103 em_144 (ce_at ce_144 63 rfl) tq_51 rfl rfl ?_
      refine e_mv 104 em_144 (ce_at ce_144 64 rfl) rfl rfl ?_
      refine e_get 107 em_144 (ce_at ce_144 65 rfl) tq_51 rfl rfl ?_
      refine e_ivi 110 em_144 (ce_at ce_144 66 rfl) (by omega) (iv_s2 rfl) em_45 (Nat.le_of_ble_eq_true rfl) rfl (tmth_max hT w (d - 1) (by omega) _ _ _) (fun r17 s17 => ?_)
      refine e_put 113 em_144 (ce_at ce_144 67 rfl) tq_51 rfl rfl rfl (fun s18 => ?_)
      refine e_mv 114 em_144 (ce_at ce_144 68 rfl) rfl rfl ?_
      refine e_op 115 em_144 (ce_at ce_144 69 rfl) rfl rfl ?_
      refine e_mv 116 em_144 (ce_at ce_144 70 rfl) rfl rfl ?_
      refine e_get 119 em_144 (ce_at ce_144 71 rfl) tq_51 rfl rfl ?_
      refine e_mv 120 em_144 (ce_at ce_144 72 rfl) rfl rfl ?_
      refine e_isub 121 em_144 rfl (ce_at ce_144 73 rfl) ?_
      refine e_ivi 124 em_144 (ce_at ce_144 74 rfl) (by omega) (iv_s2 rfl) em_45 (Nat.le_of_ble_eq_true rfl) rfl (tmth_max hT w (d - 1) (by omega) _ _ _) (fun r19 s19 => ?_)
      refine e_put 127 em_144 (ce_at ce_144 75 rfl) tq_51 rfl rfl rfl (fun s20 => ?_)
      refine e_mv 128 em_144 (ce_at ce_144 76 rfl) rfl rfl ?_
      refine e_mv 129 em_144 (ce_at ce_144 77 rfl) rfl rfl ?_
      refine e_put 132 em_144 (ce_at ce_144 78 rfl) tq_51 rfl rfl rfl (fun s21 => ?_)
      exact e_retv em_144 (ce_at ce_144 79 rfl)
    · refine e_mv 18 em_144 (ce_at ce_144 8 rfl) rfl rfl ?_
      refine e_op 19 em_144 (ce_at ce_144 9 rfl) rfl rfl ?_
      refine e_put 22 em_144 (ce_at ce_144 10 rfl) tq_51 rfl rfl rfl (fun s22 => ?_)
      exact e_retv em_144 (ce_at ce_144 11 rfl)
  · exact e_retv em_144 (ce_at ce_144 3 rfl)
theorem fmac_enter (v1 : Int) (v2 : Int) (s : iS) : Fm Prod.snd L_mac_enter G_mac_enter s (mac_enter v1 v2 s) := fm_bd (fm_sub (fmac_spendStep _) (mem_sub_L rfl) (mem_sub_F rfl)) (fun r1 s1 => fm_gd (fm_if (fm_some md_refl) (fm_gd (fm_if (fm_gd (fm_lt (md_upL (mem_L rfl)) (fun s7 => fm_gd (fm_lt (md_upL (mem_L rfl)) (fun s9 => fm_gd (fm_lt (md_upL (mem_L rfl)) (fun s11 => fm_gd (fm_lt (md_upL (mem_L rfl)) (fun s13 => fm_gd (fm_lt (md_upL (mem_L rfl)) (fun s15 => fm_lt (md_upF (mem_F rfl)) (fun s16 => fm_bd (fm_sub (fmth_max _ _ _) (mem_sub_L rfl) (mem_sub_F rfl)) (fun r17 s17 => fm_lt (md_upF (mem_F rfl)) (fun s18 => fm_bd (fm_sub (fmth_max _ _ _) (mem_sub_L rfl) (mem_sub_F rfl)) (fun r19 s19 => fm_lt (md_upF (mem_F rfl)) (fun s20 => fm_lt (md_upF (mem_F rfl)) (fun s21 => fm_some md_refl))))))))))))))))) (fm_lt (md_upF (mem_F rfl)) (fun s22 => fm_some md_refl))))))
/-! mac_mayBegin -/
def L_mac_mayBegin : List Nat := []
def G_mac_mayBegin : List (Nat × Nat) := [(51, 14), (51, 16), (51, 18)]
noncomputable def mac_mayBegin (v1 : Int) (s : iS) : Option (Int × iS) := gd (rg v1) (if v1 = (-1) then some (1, s) else lt' (up s 51 18 v1) (fun s3 => bd (mac_spendStep s3) (fun r4 s4 => gd (r4 = 0 ∨ r4 = 1) (some (r4, s4)))))
theorem tmac_mayBegin (w : ev_W) (d : Nat) (hd : 1 ≤ d) (v1 : Int) (s : iS) : Ew hT w d 146 0 [(0, .ref (tb_nK + 51)), (1, iv v1)] [] s (Ci hT) (mac_mayBegin v1 s) := by
  unfold mac_mayBegin
  refine e_mv 1 em_146 (ce_at ce_146 0 rfl) rfl rfl ?_
  refine e_op 2 em_146 (ce_at ce_146 1 rfl) rfl rfl ?_
  refine e_gd fun g1 => ?_
  refine e_cmne 7 5 em_146 rfl rfl (ce_at ce_146 2 rfl) g1 (by decide) (fun h2 => ?_) (fun h2 => ?_)
  · refine e_mv 8 em_146 (ce_at ce_146 5 rfl) rfl rfl ?_
    refine e_mv 9 em_146 (ce_at ce_146 6 rfl) rfl rfl ?_
    refine e_put 12 em_146 (ce_at ce_146 7 rfl) tq_51 rfl rfl rfl (fun s3 => ?_)
    refine e_mv 13 em_146 (ce_at ce_146 8 rfl) rfl rfl ?_
    refine e_ivi 16 em_146 (ce_at ce_146 9 rfl) (by omega) (iv_v0 (by decide) tq_51 rfl) em_145 (Nat.le_of_ble_eq_true rfl) rfl (tmac_spendStep w (d - 1) (by omega) _) (fun r4 s4 => ?_)
    refine e_gd fun g5 => ?_
    exact e_retz em_146 (ce_at ce_146 10 rfl) g5
  · refine e_op 6 em_146 (ce_at ce_146 3 rfl) rfl rfl ?_
    exact e_retz em_146 (ce_at ce_146 4 rfl) (by decide)
theorem fmac_mayBegin (v1 : Int) (s : iS) : Fm Prod.snd L_mac_mayBegin G_mac_mayBegin s (mac_mayBegin v1 s) := fm_gd (fm_if (fm_some md_refl) (fm_lt (md_upF (mem_F rfl)) (fun s3 => fm_bd (fm_sub (fmac_spendStep _) (mem_sub_L rfl) (mem_sub_F rfl)) (fun r4 s4 => fm_gd (fm_some md_refl)))))
/-! mac_at -/
def L_mac_at : List Nat := []
def G_mac_at : List (Nat × Nat) := []
noncomputable def mac_at (v1 : Int) (s : iS) : Option (Int × iS) := gd (rg v1) (if v1 < 0 then some (0, s) else if 16384 ≤ v1 then some (0, s) else gd (0 ≤ v1 ∧ v1 < 16384) (some ((s 52 v1.toNat), s)))
theorem tmac_at (w : ev_W) (d : Nat) (hd : 0 ≤ d) (v1 : Int) (s : iS) : Ew hT w d 149 0 [(0, .ref (tb_nK + 51)), (1, iv v1)] [] s (Ci hT) (mac_at v1 s) := by
  unfold mac_at
  refine e_mv 1 em_149 (ce_at ce_149 0 rfl) rfl rfl ?_
  refine e_gd fun g1 => ?_
  refine e_iflt 20 4 em_149 rfl rfl (ce_at ce_149 1 rfl) g1 (fun h2 => ?_) (fun h2 => ?_)
  · refine e_op 21 em_149 (ce_at ce_149 10 rfl) rfl rfl ?_
    exact e_reti em_149 (ce_at ce_149 11 rfl)
  · refine e_mv 5 em_149 (ce_at ce_149 2 rfl) rfl rfl ?_
    refine e_sip 8 em_149 (ce_at ce_149 3 rfl) (by decide) rfl ?_
    refine e_cmge 20 11 em_149 rfl rfl (ce_at ce_149 4 rfl) g1 (by decide) (fun h3 => ?_) (fun h3 => ?_)
    · refine e_op 21 em_149 (ce_at ce_149 10 rfl) rfl rfl ?_
      exact e_reti em_149 (ce_at ce_149 11 rfl)
    · refine e_mv 12 em_149 (ce_at ce_149 5 rfl) rfl rfl ?_
      refine e_getr 15 em_149 (ce_at ce_149 6 rfl) tq_51 rfl rfl ?_
      refine e_mv 16 em_149 (ce_at ce_149 7 rfl) rfl rfl ?_
      refine e_gd fun g4 => ?_
      refine e_ild 17 em_149 (ce_at ce_149 8 rfl) tq_52 (by decide) g4 rfl ?_
      refine e_goto em_149 21 (ce_at ce_149 9 rfl) rfl ?_
      exact e_reti em_149 (ce_at ce_149 11 rfl)
theorem fmac_at (v1 : Int) (s : iS) : Fm Prod.snd L_mac_at G_mac_at s (mac_at v1 s) := fm_gd (fm_if (fm_some md_refl) (fm_if (fm_some md_refl) (fm_gd (fm_some md_refl))))
/-! mem_indexOf -/
def L_mem_indexOf : List Nat := []
def G_mem_indexOf : List (Nat × Nat) := []
noncomputable def mem_indexOf_20 (v0 : Int) (s : iS) : Option (Int × iS) := gd (rg v0) (if v0 < 16384 then some ((-1), s) else if 16512 ≤ v0 then some ((-1), s) else some (((v0 - 16384) + 12288), s))
theorem tmem_indexOf_20 (H : iS → List am_C) (w : ev_W) (d : Nat) (hd : 0 ≤ d) (v0 : Int) (s : iS) : Ew H w d 151 20 [(0, iv v0)] [] s (Ci H) (mem_indexOf_20 v0 s) := by
  unfold mem_indexOf_20
  refine e_mv 21 em_151 (ce_at ce_151 10 rfl) rfl rfl ?_
  refine e_sip 24 em_151 (ce_at ce_151 11 rfl) (by decide) rfl ?_
  refine e_gd fun g1 => ?_
  refine e_cmlt 44 27 em_151 rfl rfl (ce_at ce_151 12 rfl) g1 (by decide) (fun h2 => ?_) (fun h2 => ?_)
  · refine e_op 45 em_151 (ce_at ce_151 22 rfl) rfl rfl ?_
    exact e_reti em_151 (ce_at ce_151 23 rfl)
  · refine e_mv 28 em_151 (ce_at ce_151 13 rfl) rfl rfl ?_
    refine e_sip 31 em_151 (ce_at ce_151 14 rfl) (by decide) rfl ?_
    refine e_cmge 44 34 em_151 rfl rfl (ce_at ce_151 15 rfl) g1 (by decide) (fun h3 => ?_) (fun h3 => ?_)
    · refine e_op 45 em_151 (ce_at ce_151 22 rfl) rfl rfl ?_
      exact e_reti em_151 (ce_at ce_151 23 rfl)
    · refine e_mv 35 em_151 (ce_at ce_151 16 rfl) rfl rfl ?_
      refine e_sip 38 em_151 (ce_at ce_151 17 rfl) (by decide) rfl ?_
      refine e_isub 39 em_151 rfl (ce_at ce_151 18 rfl) ?_
      refine e_sip 42 em_151 (ce_at ce_151 19 rfl) (by decide) rfl ?_
      refine e_iadd 43 em_151 rfl (ce_at ce_151 20 rfl) ?_
      exact e_reti em_151 (ce_at ce_151 21 rfl)
theorem fmem_indexOf_20 (v0 : Int) (s : iS) : Fm Prod.snd L_mem_indexOf G_mem_indexOf s (mem_indexOf_20 v0 s) := fm_gd (fm_if (fm_some md_refl) (fm_if (fm_some md_refl) (fm_some md_refl)))
noncomputable def mem_indexOf (v0 : Int) (s : iS) : Option (Int × iS) := gd (rg v0) (if v0 < 2048 then mem_indexOf_20 v0 s else if 14336 ≤ v0 then mem_indexOf_20 v0 s else some ((v0 - 2048), s))
theorem tmem_indexOf (H : iS → List am_C) (w : ev_W) (d : Nat) (hd : 0 ≤ d) (v0 : Int) (s : iS) : Ew H w d 151 0 [(0, iv v0)] [] s (Ci H) (mem_indexOf v0 s) := by
  unfold mem_indexOf
  refine e_mv 1 em_151 (ce_at ce_151 0 rfl) rfl rfl ?_
  refine e_sip 4 em_151 (ce_at ce_151 1 rfl) (by decide) rfl ?_
  refine e_gd fun g1 => ?_
  refine e_cmlt 20 7 em_151 rfl rfl (ce_at ce_151 2 rfl) g1 (by decide) (fun h2 => ?_) (fun h2 => ?_)
  · refine e_pk [0] rfl rfl ?_
    exact tmem_indexOf_20 H w d hd _ _
  · refine e_mv 8 em_151 (ce_at ce_151 3 rfl) rfl rfl ?_
    refine e_sip 11 em_151 (ce_at ce_151 4 rfl) (by decide) rfl ?_
    refine e_cmge 20 14 em_151 rfl rfl (ce_at ce_151 5 rfl) g1 (by decide) (fun h3 => ?_) (fun h3 => ?_)
    · refine e_pk [0] rfl rfl ?_
      exact tmem_indexOf_20 H w d hd _ _
    · refine e_mv 15 em_151 (ce_at ce_151 6 rfl) rfl rfl ?_
      refine e_sip 18 em_151 (ce_at ce_151 7 rfl) (by decide) rfl ?_
      refine e_isub 19 em_151 rfl (ce_at ce_151 8 rfl) ?_
      exact e_reti em_151 (ce_at ce_151 9 rfl)
theorem fmem_indexOf (v0 : Int) (s : iS) : Fm Prod.snd L_mem_indexOf G_mem_indexOf s (mem_indexOf v0 s) := fm_gd (fm_if (fmem_indexOf_20 _ _) (fm_if (fmem_indexOf_20 _ _) (fm_some md_refl)))
/-! mem_fail -/
def L_mem_fail : List Nat := []
def G_mem_fail : List (Nat × Nat) := [(44, 5), (44, 6)]
noncomputable def mem_fail (v1 : Int) (s : iS) : Option (Int × iS) := gd (rg (s 44 5)) (if (s 44 5) = 0 then lt' (up s 44 5 1) (fun s3 => lt' (up s3 44 6 v1) (fun s4 => some (0, s4))) else some (0, s))
theorem tmem_fail (w : ev_W) (d : Nat) (hd : 0 ≤ d) (v1 : Int) (s : iS) : Ew hT w d 152 0 [(0, .ref (tb_nK + 44)), (1, iv v1)] [] s (Ci hT) (mem_fail v1 s) := by
  unfold mem_fail
  refine e_mv 1 em_152 (ce_at ce_152 0 rfl) rfl rfl ?_
  refine e_get 4 em_152 (ce_at ce_152 1 rfl) tq_44 rfl rfl ?_
  refine e_gd fun g1 => ?_
  refine e_ifne 17 7 em_152 rfl rfl (ce_at ce_152 2 rfl) g1 (fun h2 => ?_) (fun h2 => ?_)
  · refine e_op 18 em_152 (ce_at ce_152 9 rfl) rfl rfl ?_
    exact e_reti em_152 (ce_at ce_152 10 rfl)
  · refine e_mv 8 em_152 (ce_at ce_152 3 rfl) rfl rfl ?_
    refine e_op 9 em_152 (ce_at ce_152 4 rfl) rfl rfl ?_
    refine e_put 12 em_152 (ce_at ce_152 5 rfl) tq_44 rfl rfl rfl (fun s3 => ?_)
    refine e_mv 13 em_152 (ce_at ce_152 6 rfl) rfl rfl ?_
    refine e_mv 14 em_152 (ce_at ce_152 7 rfl) rfl rfl ?_
    refine e_put 17 em_152 (ce_at ce_152 8 rfl) tq_44 rfl rfl rfl (fun s4 => ?_)
    refine e_op 18 em_152 (ce_at ce_152 9 rfl) rfl rfl ?_
    exact e_reti em_152 (ce_at ce_152 10 rfl)
theorem fmem_fail (v1 : Int) (s : iS) : Fm Prod.snd L_mem_fail G_mem_fail s (mem_fail v1 s) := fm_gd (fm_if (fm_lt (md_upF (mem_F rfl)) (fun s3 => fm_lt (md_upF (mem_F rfl)) (fun s4 => fm_some md_refl))) (fm_some md_refl))
/-! mem_read -/
def L_mem_read : List Nat := []
def G_mem_read : List (Nat × Nat) := [(44, 5), (44, 6)]
noncomputable def mem_read (v1 : Int) (s : iS) : Option (Int × iS) := bd (mem_indexOf (i_s v1) s) (fun r1 s1 => gd (rg r1) (if r1 = (-1) then bd (mem_fail 20 s1) (fun r5 s5 => some (r5, s5)) else gd (0 ≤ r1 ∧ r1 < 12416) (some ((s1 45 r1.toNat), s1))))
theorem tmem_read (w : ev_W) (d : Nat) (hd : 1 ≤ d) (v1 : Int) (s : iS) : Ew hT w d 150 0 [(0, .ref (tb_nK + 44)), (1, iv v1)] [] s (Ci hT) (mem_read v1 s) := by
  unfold mem_read
  refine e_mv 1 em_150 (ce_at ce_150 0 rfl) rfl rfl ?_
  refine e_i2s 2 em_150 rfl (ce_at ce_150 1 rfl) ?_
  refine e_ivi 5 em_150 (ce_at ce_150 2 rfl) (by omega) (iv_s1 rfl) em_151 (Nat.le_of_ble_eq_true rfl) rfl (tmem_indexOf hT w (d - 1) (by omega) _ _) (fun r1 s1 => ?_)
  refine e_mv 6 em_150 (ce_at ce_150 3 rfl) rfl rfl ?_
  refine e_mv 7 em_150 (ce_at ce_150 4 rfl) rfl rfl ?_
  refine e_op 8 em_150 (ce_at ce_150 5 rfl) rfl rfl ?_
  refine e_gd fun g2 => ?_
  refine e_cmne 20 11 em_150 rfl rfl (ce_at ce_150 6 rfl) g2 (by decide) (fun h3 => ?_) (fun h3 => ?_)
  · refine e_mv 21 em_150 (ce_at ce_150 11 rfl) rfl rfl ?_
    refine e_getr 24 em_150 (ce_at ce_150 12 rfl) tq_44 rfl rfl ?_
    refine e_mv 25 em_150 (ce_at ce_150 13 rfl) rfl rfl ?_
    refine e_gd fun g4 => ?_
    refine e_ild 26 em_150 (ce_at ce_150 14 rfl) tq_45 (by decide) g4 rfl ?_
    exact e_reti em_150 (ce_at ce_150 15 rfl)
  · refine e_mv 12 em_150 (ce_at ce_150 7 rfl) rfl rfl ?_
    refine e_bip 14 em_150 (ce_at ce_150 8 rfl) (by decide) rfl ?_
    refine e_ivi 17 em_150 (ce_at ce_150 9 rfl) (by omega) (iv_v1 (by decide) tq_44 rfl) em_152 (Nat.le_of_ble_eq_true rfl) rfl (tmem_fail w (d - 1) (by omega) _ _) (fun r5 s5 => ?_)
    refine e_goto em_150 26 (ce_at ce_150 10 rfl) rfl ?_
    exact e_reti em_150 (ce_at ce_150 15 rfl)
theorem fmem_read (v1 : Int) (s : iS) : Fm Prod.snd L_mem_read G_mem_read s (mem_read v1 s) := fm_bd (fm_sub (fmem_indexOf _ _) (mem_sub_L rfl) (mem_sub_F rfl)) (fun r1 s1 => fm_gd (fm_if (fm_bd (fm_sub (fmem_fail _ _) (mem_sub_L rfl) (mem_sub_F rfl)) (fun r5 s5 => fm_some md_refl)) (fm_gd (fm_some md_refl))))
/-! mac_valueOf -/
def L_mac_valueOf : List Nat := []
def G_mac_valueOf : List (Nat × Nat) := [(44, 5), (44, 6)]
noncomputable def mac_valueOf (v1 : Int) (v2 : Int) (v3 : Int) (s : iS) : Option (Int × iS) := gd (rg v1) (if v1 = 0 then some (v2, s) else if v1 = 1 then bd (mac_at ((s 51 8) + v2) s) (fun r4 s4 => some (r4, s4)) else if v1 = 2 then bd (mac_at ((s 51 9) + v2) s) (fun r6 s6 => some (r6, s6)) else if v1 = 3 then gd (rg v3) (if v3 < 0 then some (0, s) else if 12 ≤ v3 then some (0, s) else gd (0 ≤ v3 ∧ v3 < 12) (some ((s 54 v3.toNat), s))) else if v1 = 4 then bd (mem_read ((s 51 10) + v2) s) (fun r13 s13 => some (r13, s13)) else if v1 = 5 then bd (mem_read ((s 51 11) + v2) s) (fun r15 s15 => some (r15, s15)) else if v1 = 6 then gd (rg v2) (if v2 = 0 then some ((s 51 10), s) else some ((s 51 11), s)) else some ((s 51 12), s))
theorem tmac_valueOf (w : ev_W) (d : Nat) (hd : 2 ≤ d) (v1 : Int) (v2 : Int) (v3 : Int) (s : iS) : Ew hT w d 148 0 [(0, .ref (tb_nK + 51)), (1, iv v1), (2, iv v2), (3, iv v3)] [] s (Ci hT) (mac_valueOf v1 v2 v3 s) := by
  unfold mac_valueOf
  refine e_mv 1 em_148 (ce_at ce_148 0 rfl) rfl rfl ?_
  refine e_gd fun g1 => ?_
  refine e_case 0 (fun h2 => ?_) (fun h2 => ?_)
  · refine e_sw em_148 44 (ce_at ce_148 1 rfl) (sw_in g1 (by omega) (by subst h2; rfl)) rfl ?_
    refine e_mv 45 em_148 (ce_at ce_148 2 rfl) rfl rfl ?_
    exact e_reti em_148 (ce_at ce_148 3 rfl)
  refine e_case 1 (fun h3 => ?_) (fun h3 => ?_)
  · refine e_sw em_148 46 (ce_at ce_148 1 rfl) (sw_in g1 (by omega) (by subst h3; rfl)) rfl ?_
    refine e_mv 47 em_148 (ce_at ce_148 4 rfl) rfl rfl ?_
    refine e_mv 48 em_148 (ce_at ce_148 5 rfl) rfl rfl ?_
    refine e_get 51 em_148 (ce_at ce_148 6 rfl) tq_51 rfl rfl ?_
    refine e_mv 52 em_148 (ce_at ce_148 7 rfl) rfl rfl ?_
    refine e_iadd 53 em_148 rfl (ce_at ce_148 8 rfl) ?_
    refine e_ivi 56 em_148 (ce_at ce_148 9 rfl) (by omega) (iv_v1 (by decide) tq_51 rfl) em_149 (Nat.le_of_ble_eq_true rfl) rfl (tmac_at w (d - 1) (by omega) _ _) (fun r4 s4 => ?_)
    exact e_reti em_148 (ce_at ce_148 10 rfl)
  refine e_case 2 (fun h5 => ?_) (fun h5 => ?_)
  · refine e_sw em_148 57 (ce_at ce_148 1 rfl) (sw_in g1 (by omega) (by subst h5; rfl)) rfl ?_
    refine e_mv 58 em_148 (ce_at ce_148 11 rfl) rfl rfl ?_
    refine e_mv 59 em_148 (ce_at ce_148 12 rfl) rfl rfl ?_
    refine e_get 62 em_148 (ce_at ce_148 13 rfl) tq_51 rfl rfl ?_
    refine e_mv 63 em_148 (ce_at ce_148 14 rfl) rfl rfl ?_
    refine e_iadd 64 em_148 rfl (ce_at ce_148 15 rfl) ?_
    refine e_ivi 67 em_148 (ce_at ce_148 16 rfl) (by omega) (iv_v1 (by decide) tq_51 rfl) em_149 (Nat.le_of_ble_eq_true rfl) rfl (tmac_at w (d - 1) (by omega) _ _) (fun r6 s6 => ?_)
    exact e_reti em_148 (ce_at ce_148 17 rfl)
  refine e_case 3 (fun h7 => ?_) (fun h7 => ?_)
  · refine e_sw em_148 68 (ce_at ce_148 1 rfl) (sw_in g1 (by omega) (by subst h7; rfl)) rfl ?_
    refine e_mv 69 em_148 (ce_at ce_148 18 rfl) rfl rfl ?_
    refine e_gd fun g8 => ?_
    refine e_iflt 90 72 em_148 rfl rfl (ce_at ce_148 19 rfl) g8 (fun h9 => ?_) (fun h9 => ?_)
    · refine e_op 91 em_148 (ce_at ce_148 30 rfl) rfl rfl ?_
      exact e_reti em_148 (ce_at ce_148 31 rfl)
    · refine e_mv 73 em_148 (ce_at ce_148 20 rfl) rfl rfl ?_
      refine e_mv 74 em_148 (ce_at ce_148 21 rfl) rfl rfl ?_
      refine e_getr 77 em_148 (ce_at ce_148 22 rfl) tq_51 rfl rfl ?_
      refine e_alen 78 em_148 (ce_at ce_148 23 rfl) tq_54 (by decide) rfl rfl ?_
      refine e_cmge 90 81 em_148 rfl rfl (ce_at ce_148 24 rfl) g8 (by decide) (fun h10 => ?_) (fun h10 => ?_)
      · refine e_op 91 em_148 (ce_at ce_148 30 rfl) rfl rfl ?_
        exact e_reti em_148 (ce_at ce_148 31 rfl)
      · refine e_mv 82 em_148 (ce_at ce_148 25 rfl) rfl rfl ?_
        refine e_getr 85 em_148 (ce_at ce_148 26 rfl) tq_51 rfl rfl ?_
        refine e_mv 86 em_148 (ce_at ce_148 27 rfl) rfl rfl ?_
        refine e_gd fun g11 => ?_
        refine e_ild 87 em_148 (ce_at ce_148 28 rfl) tq_54 (by decide) g11 rfl ?_
        refine e_goto em_148 91 (ce_at ce_148 29 rfl) rfl ?_
        exact e_reti em_148 (ce_at ce_148 31 rfl)
  refine e_case 4 (fun h12 => ?_) (fun h12 => ?_)
  · refine e_sw em_148 92 (ce_at ce_148 1 rfl) (sw_in g1 (by omega) (by subst h12; rfl)) rfl ?_
    refine e_mv 93 em_148 (ce_at ce_148 32 rfl) rfl rfl ?_
    refine e_getr 96 em_148 (ce_at ce_148 33 rfl) tq_51 rfl rfl ?_
    refine e_mv 97 em_148 (ce_at ce_148 34 rfl) rfl rfl ?_
    refine e_get 100 em_148 (ce_at ce_148 35 rfl) tq_51 rfl rfl ?_
    refine e_mv 101 em_148 (ce_at ce_148 36 rfl) rfl rfl ?_
    refine e_iadd 102 em_148 rfl (ce_at ce_148 37 rfl) ?_
    refine e_ivi 105 em_148 (ce_at ce_148 38 rfl) (by omega) (iv_v1 (by decide) tq_44 rfl) em_150 (Nat.le_of_ble_eq_true rfl) rfl (tmem_read w (d - 1) (by omega) _ _) (fun r13 s13 => ?_)
    exact e_reti em_148 (ce_at ce_148 39 rfl)
  refine e_case 5 (fun h14 => ?_) (fun h14 => ?_)
  · refine e_sw em_148 106 (ce_at ce_148 1 rfl) (sw_in g1 (by omega) (by subst h14; rfl)) rfl ?_
    refine e_mv 107 em_148 (ce_at ce_148 40 rfl) rfl rfl ?_
    refine e_getr 110 em_148 (ce_at ce_148 41 rfl) tq_51 rfl rfl ?_
    refine e_mv 111 em_148 (ce_at ce_148 42 rfl) rfl rfl ?_
    refine e_get 114 em_148 (ce_at ce_148 43 rfl) tq_51 rfl rfl ?_
    refine e_mv 115 em_148 (ce_at ce_148 44 rfl) rfl rfl ?_
    refine e_iadd 116 em_148 rfl (ce_at ce_148 45 rfl) ?_
    refine e_ivi 119 em_148 (ce_at ce_148 46 rfl) (by omega) (iv_v1 (by decide) tq_44 rfl) em_150 (Nat.le_of_ble_eq_true rfl) rfl (tmem_read w (d - 1) (by omega) _ _) (fun r15 s15 => ?_)
    exact e_reti em_148 (ce_at ce_148 47 rfl)
  refine e_case 6 (fun h16 => ?_) (fun h16 => ?_)
  · refine e_sw em_148 120 (ce_at ce_148 1 rfl) (sw_in g1 (by omega) (by subst h16; rfl)) rfl ?_
    refine e_mv 121 em_148 (ce_at ce_148 48 rfl) rfl rfl ?_
    refine e_gd fun g17 => ?_
    refine e_ifne 131 124 em_148 rfl rfl (ce_at ce_148 49 rfl) g17 (fun h18 => ?_) (fun h18 => ?_)
    · refine e_mv 132 em_148 (ce_at ce_148 53 rfl) rfl rfl ?_
      refine e_get 135 em_148 (ce_at ce_148 54 rfl) tq_51 rfl rfl ?_
      exact e_reti em_148 (ce_at ce_148 55 rfl)
    · refine e_mv 125 em_148 (ce_at ce_148 50 rfl) rfl rfl ?_
      refine e_get 128 em_148 (ce_at ce_148 51 rfl) tq_51 rfl rfl ?_
      refine e_goto em_148 135 (ce_at ce_148 52 rfl) rfl ?_
      exact e_reti em_148 (ce_at ce_148 55 rfl)
  refine e_sw em_148 136 (ce_at ce_148 1 rfl) (sw_out g1 (by omega)) rfl ?_
  refine e_mv 137 em_148 (ce_at ce_148 56 rfl) rfl rfl ?_
  refine e_get 140 em_148 (ce_at ce_148 57 rfl) tq_51 rfl rfl ?_
  exact e_reti em_148 (ce_at ce_148 58 rfl)
theorem fmac_valueOf (v1 : Int) (v2 : Int) (v3 : Int) (s : iS) : Fm Prod.snd L_mac_valueOf G_mac_valueOf s (mac_valueOf v1 v2 v3 s) := fm_gd (fm_if (fm_some md_refl) (fm_if (fm_bd (fm_sub (fmac_at _ _) (mem_sub_L rfl) (mem_sub_F rfl)) (fun r4 s4 => fm_some md_refl)) (fm_if (fm_bd (fm_sub (fmac_at _ _) (mem_sub_L rfl) (mem_sub_F rfl)) (fun r6 s6 => fm_some md_refl)) (fm_if (fm_gd (fm_if (fm_some md_refl) (fm_if (fm_some md_refl) (fm_gd (fm_some md_refl))))) (fm_if (fm_bd (fm_sub (fmem_read _ _) (mem_sub_L rfl) (mem_sub_F rfl)) (fun r13 s13 => fm_some md_refl)) (fm_if (fm_bd (fm_sub (fmem_read _ _) (mem_sub_L rfl) (mem_sub_F rfl)) (fun r15 s15 => fm_some md_refl)) (fm_if (fm_gd (fm_if (fm_some md_refl) (fm_some md_refl))) (fm_some md_refl))))))))
/-! mac_push -/
def L_mac_push : List Nat := [52]
def G_mac_push : List (Nat × Nat) := [(51, 6)]
noncomputable def mac_push (v1 : Int) (s : iS) : Option (Int × iS) := gd (rg (s 51 6)) (if 16384 ≤ (s 51 6) then some (0, s) else gd (0 ≤ (s 51 6) ∧ (s 51 6) < 16384) (lt' (up s 52 (s 51 6).toNat v1) (fun s4 => lt' (up s4 51 6 ((s4 51 6) + 1)) (fun s5 => some (0, s5)))))
theorem tmac_push (w : ev_W) (d : Nat) (hd : 0 ≤ d) (v1 : Int) (s : iS) : Ew hT w d 153 0 [(0, .ref (tb_nK + 51)), (1, iv v1)] [] s (Cv hT) (mac_push v1 s) := by
  unfold mac_push
  refine e_mv 1 em_153 (ce_at ce_153 0 rfl) rfl rfl ?_
  refine e_get 4 em_153 (ce_at ce_153 1 rfl) tq_51 rfl rfl ?_
  refine e_sip 7 em_153 (ce_at ce_153 2 rfl) (by decide) rfl ?_
  refine e_gd fun g1 => ?_
  refine e_cmge 30 10 em_153 rfl rfl (ce_at ce_153 3 rfl) g1 (by decide) (fun h2 => ?_) (fun h2 => ?_)
  · exact e_retv em_153 (ce_at ce_153 16 rfl)
  · refine e_mv 11 em_153 (ce_at ce_153 4 rfl) rfl rfl ?_
    refine e_getr 14 em_153 (ce_at ce_153 5 rfl) tq_51 rfl rfl ?_
    refine e_mv 15 em_153 (ce_at ce_153 6 rfl) rfl rfl ?_
    refine e_get 18 em_153 (ce_at ce_153 7 rfl) tq_51 rfl rfl ?_
    refine e_mv 19 em_153 (ce_at ce_153 8 rfl) rfl rfl ?_
    refine e_gd fun g3 => ?_
    refine e_ist 20 em_153 (ce_at ce_153 9 rfl) tq_52 (by decide) g3 rfl (fun s4 => ?_)
    refine e_mv 21 em_153 (ce_at ce_153 10 rfl) rfl rfl ?_
    refine e_op 22 em_153 (ce_at ce_153 11 rfl) rfl rfl ?_
    refine e_get 25 em_153 (ce_at ce_153 12 rfl) tq_51 rfl rfl ?_
    refine e_op 26 em_153 (ce_at ce_153 13 rfl) rfl rfl ?_
    refine e_iadd 27 em_153 rfl (ce_at ce_153 14 rfl) ?_
    refine e_put 30 em_153 (ce_at ce_153 15 rfl) tq_51 rfl rfl rfl (fun s5 => ?_)
    exact e_retv em_153 (ce_at ce_153 16 rfl)
theorem fmac_push (v1 : Int) (s : iS) : Fm Prod.snd L_mac_push G_mac_push s (mac_push v1 s) := fm_gd (fm_if (fm_some md_refl) (fm_gd (fm_lt (md_upL (mem_L rfl)) (fun s4 => fm_lt (md_upF (mem_F rfl)) (fun s5 => fm_some md_refl)))))
/-! mac_pop -/
def L_mac_pop : List Nat := []
def G_mac_pop : List (Nat × Nat) := [(51, 6)]
noncomputable def mac_pop (s : iS) : Option (Int × iS) := gd (rg (s 51 6)) (if (s 51 6) ≤ 0 then gd (0 ≤ (s 51 6) ∧ (s 51 6) < 16384) (some ((s 52 (s 51 6).toNat), s)) else lt' (up s 51 6 ((s 51 6) - 1)) (fun s4 => gd (0 ≤ (s4 51 6) ∧ (s4 51 6) < 16384) (some ((s4 52 (s4 51 6).toNat), s4))))
theorem tmac_pop (w : ev_W) (d : Nat) (hd : 0 ≤ d) (s : iS) : Ew hT w d 154 0 [(0, .ref (tb_nK + 51))] [] s (Ci hT) (mac_pop s) := by
  unfold mac_pop
  refine e_mv 1 em_154 (ce_at ce_154 0 rfl) rfl rfl ?_
  refine e_get 4 em_154 (ce_at ce_154 1 rfl) tq_51 rfl rfl ?_
  refine e_gd fun g1 => ?_
  refine e_ifle 17 7 em_154 rfl rfl (ce_at ce_154 2 rfl) g1 (fun h2 => ?_) (fun h2 => ?_)
  · refine e_mv 18 em_154 (ce_at ce_154 9 rfl) rfl rfl ?_
    refine e_getr 21 em_154 (ce_at ce_154 10 rfl) tq_51 rfl rfl ?_
    refine e_mv 22 em_154 (ce_at ce_154 11 rfl) rfl rfl ?_
    refine e_get 25 em_154 (ce_at ce_154 12 rfl) tq_51 rfl rfl ?_
    refine e_gd fun g3 => ?_
    refine e_ild 26 em_154 (ce_at ce_154 13 rfl) tq_52 (by decide) g3 rfl ?_
    exact e_reti em_154 (ce_at ce_154 14 rfl)
  · refine e_mv 8 em_154 (ce_at ce_154 3 rfl) rfl rfl ?_
    refine e_op 9 em_154 (ce_at ce_154 4 rfl) rfl rfl ?_
    refine e_get 12 em_154 (ce_at ce_154 5 rfl) tq_51 rfl rfl ?_
    refine e_op 13 em_154 (ce_at ce_154 6 rfl) rfl rfl ?_
    refine e_isub 14 em_154 rfl (ce_at ce_154 7 rfl) ?_
    refine e_put 17 em_154 (ce_at ce_154 8 rfl) tq_51 rfl rfl rfl (fun s4 => ?_)
    refine e_mv 18 em_154 (ce_at ce_154 9 rfl) rfl rfl ?_
    refine e_getr 21 em_154 (ce_at ce_154 10 rfl) tq_51 rfl rfl ?_
    refine e_mv 22 em_154 (ce_at ce_154 11 rfl) rfl rfl ?_
    refine e_get 25 em_154 (ce_at ce_154 12 rfl) tq_51 rfl rfl ?_
    refine e_gd fun g5 => ?_
    refine e_ild 26 em_154 (ce_at ce_154 13 rfl) tq_52 (by decide) g5 rfl ?_
    exact e_reti em_154 (ce_at ce_154 14 rfl)
theorem fmac_pop (s : iS) : Fm Prod.snd L_mac_pop G_mac_pop s (mac_pop s) := fm_gd (fm_if (fm_gd (fm_some md_refl)) (fm_lt (md_upF (mem_F rfl)) (fun s4 => fm_gd (fm_some md_refl))))
/-! mac_putAt -/
def L_mac_putAt : List Nat := [52]
def G_mac_putAt : List (Nat × Nat) := []
noncomputable def mac_putAt (v1 : Int) (v2 : Int) (s : iS) : Option (Int × iS) := gd (rg v1) (if v1 < 0 then some (0, s) else if 16384 ≤ v1 then some (0, s) else gd (0 ≤ v1 ∧ v1 < 16384) (lt' (up s 52 v1.toNat v2) (fun s5 => some (0, s5))))
theorem tmac_putAt (w : ev_W) (d : Nat) (hd : 0 ≤ d) (v1 : Int) (v2 : Int) (s : iS) : Ew hT w d 156 0 [(0, .ref (tb_nK + 51)), (1, iv v1), (2, iv v2)] [] s (Cv hT) (mac_putAt v1 v2 s) := by
  unfold mac_putAt
  refine e_mv 1 em_156 (ce_at ce_156 0 rfl) rfl rfl ?_
  refine e_gd fun g1 => ?_
  refine e_iflt 18 4 em_156 rfl rfl (ce_at ce_156 1 rfl) g1 (fun h2 => ?_) (fun h2 => ?_)
  · exact e_retv em_156 (ce_at ce_156 10 rfl)
  · refine e_mv 5 em_156 (ce_at ce_156 2 rfl) rfl rfl ?_
    refine e_sip 8 em_156 (ce_at ce_156 3 rfl) (by decide) rfl ?_
    refine e_cmge 18 11 em_156 rfl rfl (ce_at ce_156 4 rfl) g1 (by decide) (fun h3 => ?_) (fun h3 => ?_)
    · exact e_retv em_156 (ce_at ce_156 10 rfl)
    · refine e_mv 12 em_156 (ce_at ce_156 5 rfl) rfl rfl ?_
      refine e_getr 15 em_156 (ce_at ce_156 6 rfl) tq_51 rfl rfl ?_
      refine e_mv 16 em_156 (ce_at ce_156 7 rfl) rfl rfl ?_
      refine e_mv 17 em_156 (ce_at ce_156 8 rfl) rfl rfl ?_
      refine e_gd fun g4 => ?_
      refine e_ist 18 em_156 (ce_at ce_156 9 rfl) tq_52 (by decide) g4 rfl (fun s5 => ?_)
      exact e_retv em_156 (ce_at ce_156 10 rfl)
theorem fmac_putAt (v1 : Int) (v2 : Int) (s : iS) : Fm Prod.snd L_mac_putAt G_mac_putAt s (mac_putAt v1 v2 s) := fm_gd (fm_if (fm_some md_refl) (fm_if (fm_some md_refl) (fm_gd (fm_lt (md_upL (mem_L rfl)) (fun s5 => fm_some md_refl)))))
/-! mem_write -/
def L_mem_write : List Nat := [45]
def G_mem_write : List (Nat × Nat) := [(44, 5), (44, 6)]
noncomputable def mem_write (v1 : Int) (v2 : Int) (s : iS) : Option (Int × iS) := bd (mem_indexOf (i_s v1) s) (fun r1 s1 => gd (rg r1) (if r1 = (-1) then bd (mem_fail 20 s1) (fun r8 s8 => some (r8, s8)) else gd (rg (s1 44 5)) (if (s1 44 5) = 0 then gd (0 ≤ r1 ∧ r1 < 12416) (lt' (up s1 45 r1.toNat (i_s v2)) (fun s7 => some (0, s7))) else some (0, s1))))
theorem tmem_write (w : ev_W) (d : Nat) (hd : 1 ≤ d) (v1 : Int) (v2 : Int) (s : iS) : Ew hT w d 157 0 [(0, .ref (tb_nK + 44)), (1, iv v1), (2, iv v2)] [] s (Ci hT) (mem_write v1 v2 s) := by
  unfold mem_write
  refine e_mv 1 em_157 (ce_at ce_157 0 rfl) rfl rfl ?_
  refine e_i2s 2 em_157 rfl (ce_at ce_157 1 rfl) ?_
  refine e_ivi 5 em_157 (ce_at ce_157 2 rfl) (by omega) (iv_s1 rfl) em_151 (Nat.le_of_ble_eq_true rfl) rfl (tmem_indexOf hT w (d - 1) (by omega) _ _) (fun r1 s1 => ?_)
  refine e_mv 6 em_157 (ce_at ce_157 3 rfl) rfl rfl ?_
  refine e_mv 7 em_157 (ce_at ce_157 4 rfl) rfl rfl ?_
  refine e_op 8 em_157 (ce_at ce_157 5 rfl) rfl rfl ?_
  refine e_gd fun g2 => ?_
  refine e_cmne 18 11 em_157 rfl rfl (ce_at ce_157 6 rfl) g2 (by decide) (fun h3 => ?_) (fun h3 => ?_)
  · refine e_mv 19 em_157 (ce_at ce_157 11 rfl) rfl rfl ?_
    refine e_get 22 em_157 (ce_at ce_157 12 rfl) tq_44 rfl rfl ?_
    refine e_gd fun g4 => ?_
    refine e_ifne 33 25 em_157 rfl rfl (ce_at ce_157 13 rfl) g4 (fun h5 => ?_) (fun h5 => ?_)
    · refine e_op 34 em_157 (ce_at ce_157 20 rfl) rfl rfl ?_
      exact e_reti em_157 (ce_at ce_157 21 rfl)
    · refine e_mv 26 em_157 (ce_at ce_157 14 rfl) rfl rfl ?_
      refine e_getr 29 em_157 (ce_at ce_157 15 rfl) tq_44 rfl rfl ?_
      refine e_mv 30 em_157 (ce_at ce_157 16 rfl) rfl rfl ?_
      refine e_mv 31 em_157 (ce_at ce_157 17 rfl) rfl rfl ?_
      refine e_i2s 32 em_157 rfl (ce_at ce_157 18 rfl) ?_
      refine e_gd fun g6 => ?_
      refine e_ist 33 em_157 (ce_at ce_157 19 rfl) tq_45 (by decide) g6 rfl (fun s7 => ?_)
      refine e_op 34 em_157 (ce_at ce_157 20 rfl) rfl rfl ?_
      exact e_reti em_157 (ce_at ce_157 21 rfl)
  · refine e_mv 12 em_157 (ce_at ce_157 7 rfl) rfl rfl ?_
    refine e_bip 14 em_157 (ce_at ce_157 8 rfl) (by decide) rfl ?_
    refine e_ivi 17 em_157 (ce_at ce_157 9 rfl) (by omega) (iv_v1 (by decide) tq_44 rfl) em_152 (Nat.le_of_ble_eq_true rfl) rfl (tmem_fail w (d - 1) (by omega) _ _) (fun r8 s8 => ?_)
    exact e_reti em_157 (ce_at ce_157 10 rfl)
theorem fmem_write (v1 : Int) (v2 : Int) (s : iS) : Fm Prod.snd L_mem_write G_mem_write s (mem_write v1 v2 s) := fm_bd (fm_sub (fmem_indexOf _ _) (mem_sub_L rfl) (mem_sub_F rfl)) (fun r1 s1 => fm_gd (fm_if (fm_bd (fm_sub (fmem_fail _ _) (mem_sub_L rfl) (mem_sub_F rfl)) (fun r8 s8 => fm_some md_refl)) (fm_gd (fm_if (fm_gd (fm_lt (md_upL (mem_L rfl)) (fun s7 => fm_some md_refl))) (fm_some md_refl)))))
/-! mac_assign -/
def L_mac_assign : List Nat := [45, 52, 54]
def G_mac_assign : List (Nat × Nat) := [(44, 5), (44, 6), (51, 10), (51, 11), (51, 12)]
noncomputable def mac_assign (v1 : Int) (v2 : Int) (v3 : Int) (v4 : Int) (s : iS) : Option (Int × iS) := gd (rg v1) (if v1 = 1 then bd (mac_putAt ((s 51 8) + v2) v4 s) (fun _ s3 => some (0, s3)) else if v1 = 2 then bd (mac_putAt ((s 51 9) + v2) v4 s) (fun _ s5 => some (0, s5)) else if v1 = 3 then gd (rg v3) (if v3 < 0 then some (0, s) else if 12 ≤ v3 then some (0, s) else gd (0 ≤ v3 ∧ v3 < 12) (lt' (up s 54 v3.toNat v4) (fun s11 => some (0, s11)))) else if v1 = 4 then bd (mem_write ((s 51 10) + v2) v4 s) (fun r13 s13 => some (0, s13)) else if v1 = 5 then bd (mem_write ((s 51 11) + v2) v4 s) (fun r15 s15 => some (0, s15)) else if v1 = 6 then gd (rg v2) (if v2 = 0 then lt' (up s 51 10 v4) (fun s20 => some (0, s20)) else lt' (up s 51 11 v4) (fun s19 => some (0, s19))) else lt' (up s 51 12 v4) (fun s21 => some (0, s21)))
theorem tmac_assign (w : ev_W) (d : Nat) (hd : 2 ≤ d) (v1 : Int) (v2 : Int) (v3 : Int) (v4 : Int) (s : iS) : Ew hT w d 155 0 [(0, .ref (tb_nK + 51)), (1, iv v1), (2, iv v2), (3, iv v3), (4, iv v4)] [] s (Cv hT) (mac_assign v1 v2 v3 v4 s) := by
  unfold mac_assign
  refine e_mv 1 em_155 (ce_at ce_155 0 rfl) rfl rfl ?_
  refine e_gd fun g1 => ?_
  refine e_case 1 (fun h2 => ?_) (fun h2 => ?_)
  · refine e_sw em_155 40 (ce_at ce_155 1 rfl) (sw_in g1 (by omega) (by subst h2; rfl)) rfl ?_
    refine e_mv 41 em_155 (ce_at ce_155 2 rfl) rfl rfl ?_
    refine e_mv 42 em_155 (ce_at ce_155 3 rfl) rfl rfl ?_
    refine e_get 45 em_155 (ce_at ce_155 4 rfl) tq_51 rfl rfl ?_
    refine e_mv 46 em_155 (ce_at ce_155 5 rfl) rfl rfl ?_
    refine e_iadd 47 em_155 rfl (ce_at ce_155 6 rfl) ?_
    refine e_mv 49 em_155 (ce_at ce_155 7 rfl) rfl rfl ?_
    refine e_ivv 52 em_155 (ce_at ce_155 8 rfl) (by omega) (iv_v2 (by decide) tq_51 rfl) em_156 (Nat.le_of_ble_eq_true rfl) rfl (tmac_putAt w (d - 1) (by omega) _ _ _) (fun r3 s3 => ?_)
    refine e_goto em_155 160 (ce_at ce_155 9 rfl) rfl ?_
    exact e_retv em_155 (ce_at ce_155 64 rfl)
  refine e_case 2 (fun h4 => ?_) (fun h4 => ?_)
  · refine e_sw em_155 55 (ce_at ce_155 1 rfl) (sw_in g1 (by omega) (by subst h4; rfl)) rfl ?_
    refine e_mv 56 em_155 (ce_at ce_155 10 rfl) rfl rfl ?_
    refine e_mv 57 em_155 (ce_at ce_155 11 rfl) rfl rfl ?_
    refine e_get 60 em_155 (ce_at ce_155 12 rfl) tq_51 rfl rfl ?_
    refine e_mv 61 em_155 (ce_at ce_155 13 rfl) rfl rfl ?_
    refine e_iadd 62 em_155 rfl (ce_at ce_155 14 rfl) ?_
    refine e_mv 64 em_155 (ce_at ce_155 15 rfl) rfl rfl ?_
    refine e_ivv 67 em_155 (ce_at ce_155 16 rfl) (by omega) (iv_v2 (by decide) tq_51 rfl) em_156 (Nat.le_of_ble_eq_true rfl) rfl (tmac_putAt w (d - 1) (by omega) _ _ _) (fun r5 s5 => ?_)
    refine e_goto em_155 160 (ce_at ce_155 17 rfl) rfl ?_
    exact e_retv em_155 (ce_at ce_155 64 rfl)
  refine e_case 3 (fun h6 => ?_) (fun h6 => ?_)
  · refine e_sw em_155 70 (ce_at ce_155 1 rfl) (sw_in g1 (by omega) (by subst h6; rfl)) rfl ?_
    refine e_mv 71 em_155 (ce_at ce_155 18 rfl) rfl rfl ?_
    refine e_gd fun g7 => ?_
    refine e_iflt 160 74 em_155 rfl rfl (ce_at ce_155 19 rfl) g7 (fun h8 => ?_) (fun h8 => ?_)
    · exact e_retv em_155 (ce_at ce_155 64 rfl)
    · refine e_mv 75 em_155 (ce_at ce_155 20 rfl) rfl rfl ?_
      refine e_mv 76 em_155 (ce_at ce_155 21 rfl) rfl rfl ?_
      refine e_getr 79 em_155 (ce_at ce_155 22 rfl) tq_51 rfl rfl ?_
      refine e_alen 80 em_155 (ce_at ce_155 23 rfl) tq_54 (by decide) rfl rfl ?_
      refine e_cmge 160 83 em_155 rfl rfl (ce_at ce_155 24 rfl) g7 (by decide) (fun h9 => ?_) (fun h9 => ?_)
      · exact e_retv em_155 (ce_at ce_155 64 rfl)
      · refine e_mv 84 em_155 (ce_at ce_155 25 rfl) rfl rfl ?_
        refine e_getr 87 em_155 (ce_at ce_155 26 rfl) tq_51 rfl rfl ?_
        refine e_mv 88 em_155 (ce_at ce_155 27 rfl) rfl rfl ?_
        refine e_mv 90 em_155 (ce_at ce_155 28 rfl) rfl rfl ?_
        refine e_gd fun g10 => ?_
        refine e_ist 91 em_155 (ce_at ce_155 29 rfl) tq_54 (by decide) g10 rfl (fun s11 => ?_)
        refine e_goto em_155 160 (ce_at ce_155 30 rfl) rfl ?_
        exact e_retv em_155 (ce_at ce_155 64 rfl)
  refine e_case 4 (fun h12 => ?_) (fun h12 => ?_)
  · refine e_sw em_155 94 (ce_at ce_155 1 rfl) (sw_in g1 (by omega) (by subst h12; rfl)) rfl ?_
    refine e_mv 95 em_155 (ce_at ce_155 31 rfl) rfl rfl ?_
    refine e_getr 98 em_155 (ce_at ce_155 32 rfl) tq_51 rfl rfl ?_
    refine e_mv 99 em_155 (ce_at ce_155 33 rfl) rfl rfl ?_
    refine e_get 102 em_155 (ce_at ce_155 34 rfl) tq_51 rfl rfl ?_
    refine e_mv 103 em_155 (ce_at ce_155 35 rfl) rfl rfl ?_
    refine e_iadd 104 em_155 rfl (ce_at ce_155 36 rfl) ?_
    refine e_mv 106 em_155 (ce_at ce_155 37 rfl) rfl rfl ?_
    refine e_ivi 109 em_155 (ce_at ce_155 38 rfl) (by omega) (iv_v2 (by decide) tq_44 rfl) em_157 (Nat.le_of_ble_eq_true rfl) rfl (tmem_write w (d - 1) (by omega) _ _ _) (fun r13 s13 => ?_)
    refine e_op 110 em_155 (ce_at ce_155 39 rfl) rfl rfl ?_
    refine e_goto em_155 160 (ce_at ce_155 40 rfl) rfl ?_
    exact e_retv em_155 (ce_at ce_155 64 rfl)
  refine e_case 5 (fun h14 => ?_) (fun h14 => ?_)
  · refine e_sw em_155 113 (ce_at ce_155 1 rfl) (sw_in g1 (by omega) (by subst h14; rfl)) rfl ?_
    refine e_mv 114 em_155 (ce_at ce_155 41 rfl) rfl rfl ?_
    refine e_getr 117 em_155 (ce_at ce_155 42 rfl) tq_51 rfl rfl ?_
    refine e_mv 118 em_155 (ce_at ce_155 43 rfl) rfl rfl ?_
    refine e_get 121 em_155 (ce_at ce_155 44 rfl) tq_51 rfl rfl ?_
    refine e_mv 122 em_155 (ce_at ce_155 45 rfl) rfl rfl ?_
    refine e_iadd 123 em_155 rfl (ce_at ce_155 46 rfl) ?_
    refine e_mv 125 em_155 (ce_at ce_155 47 rfl) rfl rfl ?_
    refine e_ivi 128 em_155 (ce_at ce_155 48 rfl) (by omega) (iv_v2 (by decide) tq_44 rfl) em_157 (Nat.le_of_ble_eq_true rfl) rfl (tmem_write w (d - 1) (by omega) _ _ _) (fun r15 s15 => ?_)
    refine e_op 129 em_155 (ce_at ce_155 49 rfl) rfl rfl ?_
    refine e_goto em_155 160 (ce_at ce_155 50 rfl) rfl ?_
    exact e_retv em_155 (ce_at ce_155 64 rfl)
  refine e_case 6 (fun h16 => ?_) (fun h16 => ?_)
  · refine e_sw em_155 132 (ce_at ce_155 1 rfl) (sw_in g1 (by omega) (by subst h16; rfl)) rfl ?_
    refine e_mv 133 em_155 (ce_at ce_155 51 rfl) rfl rfl ?_
    refine e_gd fun g17 => ?_
    refine e_ifne 145 136 em_155 rfl rfl (ce_at ce_155 52 rfl) g17 (fun h18 => ?_) (fun h18 => ?_)
    · refine e_mv 146 em_155 (ce_at ce_155 57 rfl) rfl rfl ?_
      refine e_mv 148 em_155 (ce_at ce_155 58 rfl) rfl rfl ?_
      refine e_put 151 em_155 (ce_at ce_155 59 rfl) tq_51 rfl rfl rfl (fun s19 => ?_)
      refine e_goto em_155 160 (ce_at ce_155 60 rfl) rfl ?_
      exact e_retv em_155 (ce_at ce_155 64 rfl)
    · refine e_mv 137 em_155 (ce_at ce_155 53 rfl) rfl rfl ?_
      refine e_mv 139 em_155 (ce_at ce_155 54 rfl) rfl rfl ?_
      refine e_put 142 em_155 (ce_at ce_155 55 rfl) tq_51 rfl rfl rfl (fun s20 => ?_)
      refine e_goto em_155 160 (ce_at ce_155 56 rfl) rfl ?_
      exact e_retv em_155 (ce_at ce_155 64 rfl)
  refine e_sw em_155 154 (ce_at ce_155 1 rfl) (sw_out g1 (by omega)) rfl ?_
  refine e_mv 155 em_155 (ce_at ce_155 61 rfl) rfl rfl ?_
  refine e_mv 157 em_155 (ce_at ce_155 62 rfl) rfl rfl ?_
  refine e_put 160 em_155 (ce_at ce_155 63 rfl) tq_51 rfl rfl rfl (fun s21 => ?_)
  exact e_retv em_155 (ce_at ce_155 64 rfl)
theorem fmac_assign (v1 : Int) (v2 : Int) (v3 : Int) (v4 : Int) (s : iS) : Fm Prod.snd L_mac_assign G_mac_assign s (mac_assign v1 v2 v3 v4 s) := fm_gd (fm_if (fm_bd (fm_sub (fmac_putAt _ _ _) (mem_sub_L rfl) (mem_sub_F rfl)) (fun r3 s3 => fm_some md_refl)) (fm_if (fm_bd (fm_sub (fmac_putAt _ _ _) (mem_sub_L rfl) (mem_sub_F rfl)) (fun r5 s5 => fm_some md_refl)) (fm_if (fm_gd (fm_if (fm_some md_refl) (fm_if (fm_some md_refl) (fm_gd (fm_lt (md_upL (mem_L rfl)) (fun s11 => fm_some md_refl)))))) (fm_if (fm_bd (fm_sub (fmem_write _ _ _) (mem_sub_L rfl) (mem_sub_F rfl)) (fun r13 s13 => fm_some md_refl)) (fm_if (fm_bd (fm_sub (fmem_write _ _ _) (mem_sub_L rfl) (mem_sub_F rfl)) (fun r15 s15 => fm_some md_refl)) (fm_if (fm_gd (fm_if (fm_lt (md_upF (mem_F rfl)) (fun s20 => fm_some md_refl)) (fm_lt (md_upF (mem_F rfl)) (fun s19 => fm_some md_refl)))) (fm_lt (md_upF (mem_F rfl)) (fun s21 => fm_some md_refl))))))))
/-! mac_calculate -/
def L_mac_calculate : List Nat := [52]
def G_mac_calculate : List (Nat × Nat) := [(51, 6)]
noncomputable def mac_calculate_167 (t0 : Int) (s : iS) : Option (Int × iS) := bd (mac_push t0 s) (fun _ s1 => some (0, s1))
theorem tmac_calculate_167 (w : ev_W) (d : Nat) (hd : 1 ≤ d) (t0 : Int) (s : iS) : Ew hT w d 190 167 [] [iv t0, .ref (tb_nK + 51)] s (Cv hT) (mac_calculate_167 t0 s) := by
  unfold mac_calculate_167
  refine e_ivv 170 em_190 (ce_at ce_190 74 rfl) (by omega) (iv_v1 (by decide) tq_51 rfl) em_153 (Nat.le_of_ble_eq_true rfl) rfl (tmac_push w (d - 1) (by omega) _ _) (fun r1 s1 => ?_)
  exact e_retv em_190 (ce_at ce_190 75 rfl)
theorem fmac_calculate_167 (t0 : Int) (s : iS) : Fm Prod.snd L_mac_calculate G_mac_calculate s (mac_calculate_167 t0 s) := fm_bd (fm_sub (fmac_push _ _) (mem_sub_L rfl) (mem_sub_F rfl)) (fun r1 s1 => fm_some md_refl)
noncomputable def mac_calculate_133 (t0 : Int) (s : iS) : Option (Int × iS) := bd (mac_push t0 s) (fun _ s1 => some (0, s1))
theorem tmac_calculate_133 (w : ev_W) (d : Nat) (hd : 1 ≤ d) (t0 : Int) (s : iS) : Ew hT w d 190 133 [] [iv t0, .ref (tb_nK + 51)] s (Cv hT) (mac_calculate_133 t0 s) := by
  unfold mac_calculate_133
  refine e_ivv 136 em_190 (ce_at ce_190 56 rfl) (by omega) (iv_v1 (by decide) tq_51 rfl) em_153 (Nat.le_of_ble_eq_true rfl) rfl (tmac_push w (d - 1) (by omega) _ _) (fun r1 s1 => ?_)
  refine e_goto em_190 170 (ce_at ce_190 57 rfl) rfl ?_
  exact e_retv em_190 (ce_at ce_190 75 rfl)
theorem fmac_calculate_133 (t0 : Int) (s : iS) : Fm Prod.snd L_mac_calculate G_mac_calculate s (mac_calculate_133 t0 s) := fm_bd (fm_sub (fmac_push _ _) (mem_sub_L rfl) (mem_sub_F rfl)) (fun r1 s1 => fm_some md_refl)
noncomputable def mac_calculate_150 (t0 : Int) (s : iS) : Option (Int × iS) := bd (mac_push t0 s) (fun _ s1 => some (0, s1))
theorem tmac_calculate_150 (w : ev_W) (d : Nat) (hd : 1 ≤ d) (t0 : Int) (s : iS) : Ew hT w d 190 150 [] [iv t0, .ref (tb_nK + 51)] s (Cv hT) (mac_calculate_150 t0 s) := by
  unfold mac_calculate_150
  refine e_ivv 153 em_190 (ce_at ce_190 65 rfl) (by omega) (iv_v1 (by decide) tq_51 rfl) em_153 (Nat.le_of_ble_eq_true rfl) rfl (tmac_push w (d - 1) (by omega) _ _) (fun r1 s1 => ?_)
  refine e_goto em_190 170 (ce_at ce_190 66 rfl) rfl ?_
  exact e_retv em_190 (ce_at ce_190 75 rfl)
theorem fmac_calculate_150 (t0 : Int) (s : iS) : Fm Prod.snd L_mac_calculate G_mac_calculate s (mac_calculate_150 t0 s) := fm_bd (fm_sub (fmac_push _ _) (mem_sub_L rfl) (mem_sub_F rfl)) (fun r1 s1 => fm_some md_refl)
noncomputable def mac_calculate (v1 : Int) (v2 : Int) (s : iS) : Option (Int × iS) := gd (rg v1) (if v1 = 4 then bd (mac_push (i_s (-v2)) s) (fun _ s33 => some (0, s33)) else if v1 = 7 then bd (mac_push (i_xor v2 (-1)) s) (fun _ s32 => some (0, s32)) else bd (mac_pop s) (fun r4 s4 => if v1 = 2 then bd (mac_push (i_s (r4 + v2)) s4) (fun _ s6 => some (0, s6)) else if v1 = 3 then bd (mac_push (i_s (r4 - v2)) s4) (fun _ s8 => some (0, s8)) else if v1 = 4 then gd (rg r4) (gd (rg v2) (if r4 ≤ v2 then mac_calculate_167 0 s4 else mac_calculate_167 (-1) s4)) else if v1 = 5 then bd (mac_push (i_and r4 v2) s4) (fun _ s14 => some (0, s14)) else if v1 = 6 then bd (mac_push (i_or r4 v2) s4) (fun _ s16 => some (0, s16)) else if v1 = 7 then gd (rg r4) (gd (rg v2) (if r4 ≤ v2 then mac_calculate_167 0 s4 else mac_calculate_167 (-1) s4)) else if v1 = 8 then gd (rg r4) (gd (rg v2) (if r4 = v2 then mac_calculate_133 (-1) s4 else mac_calculate_133 0 s4)) else if v1 = 9 then gd (rg r4) (gd (rg v2) (if v2 ≤ r4 then mac_calculate_150 0 s4 else mac_calculate_150 (-1) s4)) else gd (rg r4) (gd (rg v2) (if r4 ≤ v2 then mac_calculate_167 0 s4 else mac_calculate_167 (-1) s4))))
theorem tmac_calculate (w : ev_W) (d : Nat) (hd : 1 ≤ d) (v1 : Int) (v2 : Int) (s : iS) : Ew hT w d 190 0 [(0, .ref (tb_nK + 51)), (1, iv v1), (2, iv v2)] [] s (Cv hT) (mac_calculate v1 v2 s) := by
  unfold mac_calculate
  refine e_mv 1 em_190 (ce_at ce_190 0 rfl) rfl rfl ?_
  refine e_op 2 em_190 (ce_at ce_190 1 rfl) rfl rfl ?_
  refine e_gd fun g1 => ?_
  refine e_cmne 13 5 em_190 rfl rfl (ce_at ce_190 2 rfl) g1 (by decide) (fun h2 => ?_) (fun h2 => ?_)
  · refine e_mv 14 em_190 (ce_at ce_190 9 rfl) rfl rfl ?_
    refine e_bip 16 em_190 (ce_at ce_190 10 rfl) (by decide) rfl ?_
    refine e_cmne 27 19 em_190 rfl rfl (ce_at ce_190 11 rfl) g1 (by decide) (fun h3 => ?_) (fun h3 => ?_)
    · refine e_mv 28 em_190 (ce_at ce_190 18 rfl) rfl rfl ?_
      refine e_ivi 31 em_190 (ce_at ce_190 19 rfl) (by omega) (iv_v0 (by decide) tq_51 rfl) em_154 (Nat.le_of_ble_eq_true rfl) rfl (tmac_pop w (d - 1) (by omega) _) (fun r4 s4 => ?_)
      refine e_mv 32 em_190 (ce_at ce_190 20 rfl) rfl rfl ?_
      refine e_mv 33 em_190 (ce_at ce_190 21 rfl) rfl rfl ?_
      refine e_case 2 (fun h5 => ?_) (fun h5 => ?_)
      · refine e_sw em_190 80 (ce_at ce_190 22 rfl) (sw_in g1 (by omega) (by subst h5; rfl)) rfl ?_
        refine e_mv 81 em_190 (ce_at ce_190 23 rfl) rfl rfl ?_
        refine e_mv 82 em_190 (ce_at ce_190 24 rfl) rfl rfl ?_
        refine e_mv 83 em_190 (ce_at ce_190 25 rfl) rfl rfl ?_
        refine e_iadd 84 em_190 rfl (ce_at ce_190 26 rfl) ?_
        refine e_i2s 85 em_190 rfl (ce_at ce_190 27 rfl) ?_
        refine e_ivv 88 em_190 (ce_at ce_190 28 rfl) (by omega) (iv_v1 (by decide) tq_51 rfl) em_153 (Nat.le_of_ble_eq_true rfl) rfl (tmac_push w (d - 1) (by omega) _ _) (fun r6 s6 => ?_)
        refine e_goto em_190 170 (ce_at ce_190 29 rfl) rfl ?_
        exact e_retv em_190 (ce_at ce_190 75 rfl)
      refine e_case 3 (fun h7 => ?_) (fun h7 => ?_)
      · refine e_sw em_190 91 (ce_at ce_190 22 rfl) (sw_in g1 (by omega) (by subst h7; rfl)) rfl ?_
        refine e_mv 92 em_190 (ce_at ce_190 30 rfl) rfl rfl ?_
        refine e_mv 93 em_190 (ce_at ce_190 31 rfl) rfl rfl ?_
        refine e_mv 94 em_190 (ce_at ce_190 32 rfl) rfl rfl ?_
        refine e_isub 95 em_190 rfl (ce_at ce_190 33 rfl) ?_
        refine e_i2s 96 em_190 rfl (ce_at ce_190 34 rfl) ?_
        refine e_ivv 99 em_190 (ce_at ce_190 35 rfl) (by omega) (iv_v1 (by decide) tq_51 rfl) em_153 (Nat.le_of_ble_eq_true rfl) rfl (tmac_push w (d - 1) (by omega) _ _) (fun r8 s8 => ?_)
        refine e_goto em_190 170 (ce_at ce_190 36 rfl) rfl ?_
        exact e_retv em_190 (ce_at ce_190 75 rfl)
      refine e_case 4 (fun h9 => ?_) (fun h9 => ?_)
      · refine e_sw em_190 156 (ce_at ce_190 22 rfl) (sw_in g1 (by omega) (by subst h9; rfl)) rfl ?_
        refine e_mv 157 em_190 (ce_at ce_190 67 rfl) rfl rfl ?_
        refine e_mv 158 em_190 (ce_at ce_190 68 rfl) rfl rfl ?_
        refine e_mv 159 em_190 (ce_at ce_190 69 rfl) rfl rfl ?_
        refine e_gd fun g10 => ?_
        refine e_gd fun g11 => ?_
        refine e_cmle 166 162 em_190 rfl rfl (ce_at ce_190 70 rfl) g10 g11 (fun h12 => ?_) (fun h12 => ?_)
        · refine e_op 167 em_190 (ce_at ce_190 73 rfl) rfl rfl ?_
          refine e_pk [] rfl rfl ?_
          exact tmac_calculate_167 w d hd _ _
        · refine e_op 163 em_190 (ce_at ce_190 71 rfl) rfl rfl ?_
          refine e_goto em_190 167 (ce_at ce_190 72 rfl) rfl ?_
          refine e_pk [] rfl rfl ?_
          exact tmac_calculate_167 w d hd _ _
      refine e_case 5 (fun h13 => ?_) (fun h13 => ?_)
      · refine e_sw em_190 102 (ce_at ce_190 22 rfl) (sw_in g1 (by omega) (by subst h13; rfl)) rfl ?_
        refine e_mv 103 em_190 (ce_at ce_190 37 rfl) rfl rfl ?_
        refine e_mv 104 em_190 (ce_at ce_190 38 rfl) rfl rfl ?_
        refine e_mv 105 em_190 (ce_at ce_190 39 rfl) rfl rfl ?_
        refine e_iand 106 em_190 rfl (ce_at ce_190 40 rfl) ?_
        refine e_ivv 109 em_190 (ce_at ce_190 41 rfl) (by omega) (iv_v1 (by decide) tq_51 rfl) em_153 (Nat.le_of_ble_eq_true rfl) rfl (tmac_push w (d - 1) (by omega) _ _) (fun r14 s14 => ?_)
        refine e_goto em_190 170 (ce_at ce_190 42 rfl) rfl ?_
        exact e_retv em_190 (ce_at ce_190 75 rfl)
      refine e_case 6 (fun h15 => ?_) (fun h15 => ?_)
      · refine e_sw em_190 112 (ce_at ce_190 22 rfl) (sw_in g1 (by omega) (by subst h15; rfl)) rfl ?_
        refine e_mv 113 em_190 (ce_at ce_190 43 rfl) rfl rfl ?_
        refine e_mv 114 em_190 (ce_at ce_190 44 rfl) rfl rfl ?_
        refine e_mv 115 em_190 (ce_at ce_190 45 rfl) rfl rfl ?_
        refine e_ior 116 em_190 rfl (ce_at ce_190 46 rfl) ?_
        refine e_ivv 119 em_190 (ce_at ce_190 47 rfl) (by omega) (iv_v1 (by decide) tq_51 rfl) em_153 (Nat.le_of_ble_eq_true rfl) rfl (tmac_push w (d - 1) (by omega) _ _) (fun r16 s16 => ?_)
        refine e_goto em_190 170 (ce_at ce_190 48 rfl) rfl ?_
        exact e_retv em_190 (ce_at ce_190 75 rfl)
      refine e_case 7 (fun h17 => ?_) (fun h17 => ?_)
      · refine e_sw em_190 156 (ce_at ce_190 22 rfl) (sw_in g1 (by omega) (by subst h17; rfl)) rfl ?_
        refine e_mv 157 em_190 (ce_at ce_190 67 rfl) rfl rfl ?_
        refine e_mv 158 em_190 (ce_at ce_190 68 rfl) rfl rfl ?_
        refine e_mv 159 em_190 (ce_at ce_190 69 rfl) rfl rfl ?_
        refine e_gd fun g18 => ?_
        refine e_gd fun g19 => ?_
        refine e_cmle 166 162 em_190 rfl rfl (ce_at ce_190 70 rfl) g18 g19 (fun h20 => ?_) (fun h20 => ?_)
        · refine e_op 167 em_190 (ce_at ce_190 73 rfl) rfl rfl ?_
          refine e_pk [] rfl rfl ?_
          exact tmac_calculate_167 w d hd _ _
        · refine e_op 163 em_190 (ce_at ce_190 71 rfl) rfl rfl ?_
          refine e_goto em_190 167 (ce_at ce_190 72 rfl) rfl ?_
          refine e_pk [] rfl rfl ?_
          exact tmac_calculate_167 w d hd _ _
      refine e_case 8 (fun h21 => ?_) (fun h21 => ?_)
      · refine e_sw em_190 122 (ce_at ce_190 22 rfl) (sw_in g1 (by omega) (by subst h21; rfl)) rfl ?_
        refine e_mv 123 em_190 (ce_at ce_190 49 rfl) rfl rfl ?_
        refine e_mv 124 em_190 (ce_at ce_190 50 rfl) rfl rfl ?_
        refine e_mv 125 em_190 (ce_at ce_190 51 rfl) rfl rfl ?_
        refine e_gd fun g22 => ?_
        refine e_gd fun g23 => ?_
        refine e_cmne 132 128 em_190 rfl rfl (ce_at ce_190 52 rfl) g22 g23 (fun h24 => ?_) (fun h24 => ?_)
        · refine e_op 133 em_190 (ce_at ce_190 55 rfl) rfl rfl ?_
          refine e_pk [] rfl rfl ?_
          exact tmac_calculate_133 w d hd _ _
        · refine e_op 129 em_190 (ce_at ce_190 53 rfl) rfl rfl ?_
          refine e_goto em_190 133 (ce_at ce_190 54 rfl) rfl ?_
          refine e_pk [] rfl rfl ?_
          exact tmac_calculate_133 w d hd _ _
      refine e_case 9 (fun h25 => ?_) (fun h25 => ?_)
      · refine e_sw em_190 139 (ce_at ce_190 22 rfl) (sw_in g1 (by omega) (by subst h25; rfl)) rfl ?_
        refine e_mv 140 em_190 (ce_at ce_190 58 rfl) rfl rfl ?_
        refine e_mv 141 em_190 (ce_at ce_190 59 rfl) rfl rfl ?_
        refine e_mv 142 em_190 (ce_at ce_190 60 rfl) rfl rfl ?_
        refine e_gd fun g26 => ?_
        refine e_gd fun g27 => ?_
        refine e_cmge 149 145 em_190 rfl rfl (ce_at ce_190 61 rfl) g26 g27 (fun h28 => ?_) (fun h28 => ?_)
        · refine e_op 150 em_190 (ce_at ce_190 64 rfl) rfl rfl ?_
          refine e_pk [] rfl rfl ?_
          exact tmac_calculate_150 w d hd _ _
        · refine e_op 146 em_190 (ce_at ce_190 62 rfl) rfl rfl ?_
          refine e_goto em_190 150 (ce_at ce_190 63 rfl) rfl ?_
          refine e_pk [] rfl rfl ?_
          exact tmac_calculate_150 w d hd _ _
      refine e_sw em_190 156 (ce_at ce_190 22 rfl) (sw_out g1 (by omega)) rfl ?_
      refine e_mv 157 em_190 (ce_at ce_190 67 rfl) rfl rfl ?_
      refine e_mv 158 em_190 (ce_at ce_190 68 rfl) rfl rfl ?_
      refine e_mv 159 em_190 (ce_at ce_190 69 rfl) rfl rfl ?_
      refine e_gd fun g29 => ?_
      refine e_gd fun g30 => ?_
      refine e_cmle 166 162 em_190 rfl rfl (ce_at ce_190 70 rfl) g29 g30 (fun h31 => ?_) (fun h31 => ?_)
      · refine e_op 167 em_190 (ce_at ce_190 73 rfl) rfl rfl ?_
        refine e_pk [] rfl rfl ?_
        exact tmac_calculate_167 w d hd _ _
      · refine e_op 163 em_190 (ce_at ce_190 71 rfl) rfl rfl ?_
        refine e_goto em_190 167 (ce_at ce_190 72 rfl) rfl ?_
        refine e_pk [] rfl rfl ?_
        exact tmac_calculate_167 w d hd _ _
    · refine e_mv 20 em_190 (ce_at ce_190 12 rfl) rfl rfl ?_
      refine e_mv 21 em_190 (ce_at ce_190 13 rfl) rfl rfl ?_
      refine e_op 22 em_190 (ce_at ce_190 14 rfl) rfl rfl ?_
      refine e_ixor 23 em_190 rfl (ce_at ce_190 15 rfl) ?_
      refine e_ivv 26 em_190 (ce_at ce_190 16 rfl) (by omega) (iv_v1 (by decide) tq_51 rfl) em_153 (Nat.le_of_ble_eq_true rfl) rfl (tmac_push w (d - 1) (by omega) _ _) (fun r32 s32 => ?_)
      exact e_retv em_190 (ce_at ce_190 17 rfl)
  · refine e_mv 6 em_190 (ce_at ce_190 3 rfl) rfl rfl ?_
    refine e_mv 7 em_190 (ce_at ce_190 4 rfl) rfl rfl ?_
    refine e_ineg 8 em_190 rfl (ce_at ce_190 5 rfl) ?_
    refine e_i2s 9 em_190 rfl (ce_at ce_190 6 rfl) ?_
    refine e_ivv 12 em_190 (ce_at ce_190 7 rfl) (by omega) (iv_v1 (by decide) tq_51 rfl) em_153 (Nat.le_of_ble_eq_true rfl) rfl (tmac_push w (d - 1) (by omega) _ _) (fun r33 s33 => ?_)
    exact e_retv em_190 (ce_at ce_190 8 rfl)
theorem fmac_calculate (v1 : Int) (v2 : Int) (s : iS) : Fm Prod.snd L_mac_calculate G_mac_calculate s (mac_calculate v1 v2 s) := fm_gd (fm_if (fm_bd (fm_sub (fmac_push _ _) (mem_sub_L rfl) (mem_sub_F rfl)) (fun r33 s33 => fm_some md_refl)) (fm_if (fm_bd (fm_sub (fmac_push _ _) (mem_sub_L rfl) (mem_sub_F rfl)) (fun r32 s32 => fm_some md_refl)) (fm_bd (fm_sub (fmac_pop _) (mem_sub_L rfl) (mem_sub_F rfl)) (fun r4 s4 => fm_if (fm_bd (fm_sub (fmac_push _ _) (mem_sub_L rfl) (mem_sub_F rfl)) (fun r6 s6 => fm_some md_refl)) (fm_if (fm_bd (fm_sub (fmac_push _ _) (mem_sub_L rfl) (mem_sub_F rfl)) (fun r8 s8 => fm_some md_refl)) (fm_if (fm_gd (fm_gd (fm_if (fmac_calculate_167 _ _) (fmac_calculate_167 _ _)))) (fm_if (fm_bd (fm_sub (fmac_push _ _) (mem_sub_L rfl) (mem_sub_F rfl)) (fun r14 s14 => fm_some md_refl)) (fm_if (fm_bd (fm_sub (fmac_push _ _) (mem_sub_L rfl) (mem_sub_F rfl)) (fun r16 s16 => fm_some md_refl)) (fm_if (fm_gd (fm_gd (fm_if (fmac_calculate_167 _ _) (fmac_calculate_167 _ _)))) (fm_if (fm_gd (fm_gd (fm_if (fmac_calculate_133 _ _) (fmac_calculate_133 _ _)))) (fm_if (fm_gd (fm_gd (fm_if (fmac_calculate_150 _ _) (fmac_calculate_150 _ _)))) (fm_gd (fm_gd (fm_if (fmac_calculate_167 _ _) (fmac_calculate_167 _ _)))))))))))))))
/-! mac_makeLocals -/
def L_mac_makeLocals : List Nat := [52]
def G_mac_makeLocals : List (Nat × Nat) := [(51, 6), (51, 9)]
def mac_makeLocals_10C (w : ev_W) (d : Nat) (v1 : Int) : (Int × iS) ⊕ (iS) → am_E → Prop := fun q r => q.elim (fun l => ev w d 158 10 ((fun l => [(0, .ref (tb_nK + 51)), (1, iv v1), (2, iv (l.1))]) l) [] (hT ((fun l => l.2) l)) r) (fun e => (fun e r => ev w d 158 26 [] [] (hT (e)) r) e r)
noncomputable def mac_makeLocals_10b (v1 : Int) (v2 : Int) (s : iS) : Option ((Int × iS) ⊕ (iS)) := gd (rg v2) (gd (rg v1) (if v1 ≤ v2 then some (.inr s) else bd (mac_push 0 s) (fun _ s4 => some (.inl ((v2 + 1), s4)))))
theorem tmac_makeLocals_10b (w : ev_W) (d : Nat) (hd : 1 ≤ d) (v1 : Int) (v2 : Int) (s : iS) : Ew hT w d 158 10 [(0, .ref (tb_nK + 51)), (1, iv v1), (2, iv v2)] [] s (mac_makeLocals_10C w d v1) (mac_makeLocals_10b v1 v2 s) := by
  unfold mac_makeLocals_10b
  refine e_mv 11 em_158 (ce_at ce_158 6 rfl) rfl rfl ?_
  refine e_mv 12 em_158 (ce_at ce_158 7 rfl) rfl rfl ?_
  refine e_gd fun g1 => ?_
  refine e_gd fun g2 => ?_
  refine e_cmge 26 15 em_158 rfl rfl (ce_at ce_158 8 rfl) g1 g2 (fun h3 => ?_) (fun h3 => ?_)
  · refine e_pk [] rfl rfl ?_
    exact e_out (fun r h => h)
  · refine e_mv 16 em_158 (ce_at ce_158 9 rfl) rfl rfl ?_
    refine e_op 17 em_158 (ce_at ce_158 10 rfl) rfl rfl ?_
    refine e_ivv 20 em_158 (ce_at ce_158 11 rfl) (by omega) (iv_v1 (by decide) tq_51 rfl) em_153 (Nat.le_of_ble_eq_true rfl) rfl (tmac_push w (d - 1) (by omega) _ _) (fun r4 s4 => ?_)
    refine e_iinc 23 em_158 (ce_at ce_158 12 rfl) rfl (by decide) rfl ?_
    refine e_goto em_158 10 (ce_at ce_158 13 rfl) rfl ?_
    refine e_pk [0, 1, 2] rfl rfl ?_
    exact e_out (fun r h => h)
theorem fmac_makeLocals_10b (v1 : Int) (v2 : Int) (s : iS) : Fm (fun r : (Int × iS) ⊕ (iS) => r.elim (fun l => l.2) (fun e => e)) L_mac_makeLocals G_mac_makeLocals s (mac_makeLocals_10b v1 v2 s) := fm_gd (fm_gd (fm_if (fm_some md_refl) (fm_bd (fm_sub (fmac_push _ _) (mem_sub_L rfl) (mem_sub_F rfl)) (fun r4 s4 => fm_some md_refl))))
noncomputable def mac_makeLocals_10 (v1 : Int) (v2 : Int) (s : iS) : Option (Int × iS) := (lp (L := Int × iS) (E := iS) (fun l => mac_makeLocals_10b v1 (l.1) (l.2)) (v2, s)).bind (fun e => some (0, e))
theorem tmac_makeLocals_10 (w : ev_W) (d : Nat) (hd : 1 ≤ d) (v1 : Int) (v2 : Int) (s : iS) : Ew hT w d 158 10 [(0, .ref (tb_nK + 51)), (1, iv v1), (2, iv v2)] [] s (Cv hT) (mac_makeLocals_10 v1 v2 s) := by
  unfold mac_makeLocals_10
  refine e_lp (L := Int × iS) (E := iS) (LO := fun l => [(0, .ref (tb_nK + 51)), (1, iv v1), (2, iv (l.1))]) (LS := fun l => l.2) (CE := fun e r => ev w d 158 26 [] [] (hT (e)) r) (fun l => tmac_makeLocals_10b w d hd _ _ _) ?_ (v2, s)
  intro e
  show Ew hT w d 158 26 [] [] e (Cv hT) _
  exact e_retv em_158 (ce_at ce_158 14 rfl)
theorem fmac_makeLocals_10 (v1 : Int) (v2 : Int) (s : iS) : Fm Prod.snd L_mac_makeLocals G_mac_makeLocals s (mac_makeLocals_10 v1 v2 s) := by
  unfold mac_makeLocals_10
  refine fm_lp (A := Int × iS) (E := iS) (LS := fun l => l.2) (LE := fun e => e) ?_ ?_ (v2, s)
  · exact fun l => fmac_makeLocals_10b _ _ _
  · exact (fun e => fm_some md_refl)
noncomputable def mac_makeLocals (v1 : Int) (s : iS) : Option (Int × iS) := lt' (up s 51 9 (s 51 6)) (fun s1 => mac_makeLocals_10 v1 0 s1)
theorem tmac_makeLocals (w : ev_W) (d : Nat) (hd : 1 ≤ d) (v1 : Int) (s : iS) : Ew hT w d 158 0 [(0, .ref (tb_nK + 51)), (1, iv v1)] [] s (Cv hT) (mac_makeLocals v1 s) := by
  unfold mac_makeLocals
  refine e_mv 1 em_158 (ce_at ce_158 0 rfl) rfl rfl ?_
  refine e_mv 2 em_158 (ce_at ce_158 1 rfl) rfl rfl ?_
  refine e_get 5 em_158 (ce_at ce_158 2 rfl) tq_51 rfl rfl ?_
  refine e_put 8 em_158 (ce_at ce_158 3 rfl) tq_51 rfl rfl rfl (fun s1 => ?_)
  refine e_op 9 em_158 (ce_at ce_158 4 rfl) rfl rfl ?_
  refine e_mv 10 em_158 (ce_at ce_158 5 rfl) rfl rfl ?_
  refine e_pk [0, 1, 2] rfl rfl ?_
  exact tmac_makeLocals_10 w d hd _ _ _
theorem fmac_makeLocals (v1 : Int) (s : iS) : Fm Prod.snd L_mac_makeLocals G_mac_makeLocals s (mac_makeLocals v1 s) := fm_lt (md_upF (mem_F rfl)) (fun s1 => fmac_makeLocals_10 _ _ _)
/-! mth_abs -/
def L_mth_abs : List Nat := []
def G_mth_abs : List (Nat × Nat) := []
noncomputable def mth_abs (v0 : Int) (s : iS) : Option (Int × iS) := gd (rg v0) (if 0 ≤ v0 then some (v0, s) else some ((-v0), s))
theorem tmth_abs (H : iS → List am_C) (w : ev_W) (d : Nat) (hd : 0 ≤ d) (v0 : Int) (s : iS) : Ew H w d 160 0 [(0, iv v0)] [] s (Ci H) (mth_abs v0 s) := by
  unfold mth_abs
  refine e_mv 1 em_160 (ce_at ce_160 0 rfl) rfl rfl ?_
  refine e_gd fun g1 => ?_
  refine e_ifge 9 4 em_160 rfl rfl (ce_at ce_160 1 rfl) g1 (fun h2 => ?_) (fun h2 => ?_)
  · refine e_mv 10 em_160 (ce_at ce_160 5 rfl) rfl rfl ?_
    exact e_reti em_160 (ce_at ce_160 6 rfl)
  · refine e_mv 5 em_160 (ce_at ce_160 2 rfl) rfl rfl ?_
    refine e_ineg 6 em_160 rfl (ce_at ce_160 3 rfl) ?_
    refine e_goto em_160 10 (ce_at ce_160 4 rfl) rfl ?_
    exact e_reti em_160 (ce_at ce_160 6 rfl)
theorem fmth_abs (v0 : Int) (s : iS) : Fm Prod.snd L_mth_abs G_mth_abs s (mth_abs v0 s) := fm_gd (fm_if (fm_some md_refl) (fm_some md_refl))
/-! lib_root -/
def L_lib_root : List Nat := []
def G_lib_root : List (Nat × Nat) := []
def lib_root_2C (H : iS → List am_C) (w : ev_W) (d : Nat) (v0 : Int) : (Int × iS) ⊕ (Int × iS) → am_E → Prop := fun q r => q.elim (fun l => ev w d 161 2 ((fun l => [(0, iv v0), (1, iv (l.1))]) l) [] (H ((fun l => l.2) l)) r) (fun e => (fun e r => ev w d 161 26 [(1, iv (e.1))] [] (H (e.2)) r) e r)
noncomputable def lib_root_2b (v0 : Int) (v1 : Int) (s : iS) : Option ((Int × iS) ⊕ (Int × iS)) := gd (rg v1) (if 181 ≤ v1 then some (.inr (v1, s)) else gd (rg ((v1 + 1) * (v1 + 1))) (gd (rg v0) (if v0 < ((v1 + 1) * (v1 + 1)) then some (.inr (v1, s)) else some (.inl ((v1 + 1), s)))))
theorem tlib_root_2b (H : iS → List am_C) (w : ev_W) (d : Nat) (hd : 0 ≤ d) (v0 : Int) (v1 : Int) (s : iS) : Ew H w d 161 2 [(0, iv v0), (1, iv v1)] [] s (lib_root_2C H w d v0) (lib_root_2b v0 v1 s) := by
  unfold lib_root_2b
  refine e_mv 3 em_161 (ce_at ce_161 2 rfl) rfl rfl ?_
  refine e_sip 6 em_161 (ce_at ce_161 3 rfl) (by decide) rfl ?_
  refine e_gd fun g1 => ?_
  refine e_cmge 26 9 em_161 rfl rfl (ce_at ce_161 4 rfl) g1 (by decide) (fun h2 => ?_) (fun h2 => ?_)
  · refine e_pk [1] rfl rfl ?_
    exact e_out (fun r h => h)
  · refine e_mv 10 em_161 (ce_at ce_161 5 rfl) rfl rfl ?_
    refine e_op 11 em_161 (ce_at ce_161 6 rfl) rfl rfl ?_
    refine e_iadd 12 em_161 rfl (ce_at ce_161 7 rfl) ?_
    refine e_mv 13 em_161 (ce_at ce_161 8 rfl) rfl rfl ?_
    refine e_op 14 em_161 (ce_at ce_161 9 rfl) rfl rfl ?_
    refine e_iadd 15 em_161 rfl (ce_at ce_161 10 rfl) ?_
    refine e_imul 16 em_161 rfl (ce_at ce_161 11 rfl) ?_
    refine e_mv 17 em_161 (ce_at ce_161 12 rfl) rfl rfl ?_
    refine e_gd fun g3 => ?_
    refine e_gd fun g4 => ?_
    refine e_cmgt 26 20 em_161 rfl rfl (ce_at ce_161 13 rfl) g3 g4 (fun h5 => ?_) (fun h5 => ?_)
    · refine e_pk [1] rfl rfl ?_
      exact e_out (fun r h => h)
    · refine e_iinc 23 em_161 (ce_at ce_161 14 rfl) rfl (by decide) rfl ?_
      refine e_goto em_161 2 (ce_at ce_161 15 rfl) rfl ?_
      refine e_pk [0, 1] rfl rfl ?_
      exact e_out (fun r h => h)
theorem flib_root_2b (v0 : Int) (v1 : Int) (s : iS) : Fm (fun r : (Int × iS) ⊕ (Int × iS) => r.elim (fun l => l.2) (fun e => e.2)) L_lib_root G_lib_root s (lib_root_2b v0 v1 s) := fm_gd (fm_if (fm_some md_refl) (fm_gd (fm_gd (fm_if (fm_some md_refl) (fm_some md_refl)))))
noncomputable def lib_root_2 (v0 : Int) (v1 : Int) (s : iS) : Option (Int × iS) := (lp (L := Int × iS) (E := Int × iS) (fun l => lib_root_2b v0 (l.1) (l.2)) (v1, s)).bind (fun e => some (e.1, e.2))
theorem tlib_root_2 (H : iS → List am_C) (w : ev_W) (d : Nat) (hd : 0 ≤ d) (v0 : Int) (v1 : Int) (s : iS) : Ew H w d 161 2 [(0, iv v0), (1, iv v1)] [] s (Ci H) (lib_root_2 v0 v1 s) := by
  unfold lib_root_2
  refine e_lp (L := Int × iS) (E := Int × iS) (LO := fun l => [(0, iv v0), (1, iv (l.1))]) (LS := fun l => l.2) (CE := fun e r => ev w d 161 26 [(1, iv (e.1))] [] (H (e.2)) r) (fun l => tlib_root_2b H w d hd _ _ _) ?_ (v1, s)
  intro e
  show Ew H w d 161 26 [(1, iv (e.1))] [] e.2 (Ci H) _
  refine e_mv 27 em_161 (ce_at ce_161 16 rfl) rfl rfl ?_
  exact e_reti em_161 (ce_at ce_161 17 rfl)
theorem flib_root_2 (v0 : Int) (v1 : Int) (s : iS) : Fm Prod.snd L_lib_root G_lib_root s (lib_root_2 v0 v1 s) := by
  unfold lib_root_2
  refine fm_lp (A := Int × iS) (E := Int × iS) (LS := fun l => l.2) (LE := fun e => e.2) ?_ ?_ (v1, s)
  · exact fun l => flib_root_2b _ _ _
  · exact (fun e => fm_some md_refl)
noncomputable def lib_root (v0 : Int) (s : iS) : Option (Int × iS) := lib_root_2 v0 0 s
theorem tlib_root (H : iS → List am_C) (w : ev_W) (d : Nat) (hd : 0 ≤ d) (v0 : Int) (s : iS) : Ew H w d 161 0 [(0, iv v0)] [] s (Ci H) (lib_root v0 s) := by
  unfold lib_root
  refine e_op 1 em_161 (ce_at ce_161 0 rfl) rfl rfl ?_
  refine e_mv 2 em_161 (ce_at ce_161 1 rfl) rfl rfl ?_
  refine e_pk [0, 1] rfl rfl ?_
  exact tlib_root_2 H w d hd _ _ _
theorem flib_root (v0 : Int) (s : iS) : Fm Prod.snd L_lib_root G_lib_root s (lib_root v0 s) := flib_root_2 _ _ _
/-! mem_insertBlock -/
def L_mem_insertBlock : List Nat := [46, 47]
def G_mem_insertBlock : List (Nat × Nat) := [(44, 3), (44, 4)]
def mem_insertBlock_11C (w : ev_W) (d : Nat) (v1 : Int) (v2 : Int) (v3 : Int) : (Int × iS) ⊕ (iS) → am_E → Prop := fun q r => q.elim (fun l => ev w d 163 11 ((fun l => [(0, .ref (tb_nK + 44)), (1, iv v1), (2, iv v2), (3, iv v3), (4, iv (l.1))]) l) [] (hT ((fun l => l.2) l)) r) (fun e => (fun e r => ev w d 163 55 [(0, .ref (tb_nK + 44)), (1, iv v1), (2, iv v2), (3, iv v3)] [] (hT (e)) r) e r)
noncomputable def mem_insertBlock_11b (v1 : Int) (v2 : Int) (v3 : Int) (v4 : Int) (s : iS) : Option ((Int × iS) ⊕ (iS)) := gd (rg v4) (gd (rg v1) (if v4 ≤ v1 then some (.inr s) else gd (0 ≤ (v4 - 1) ∧ (v4 - 1) < 100) (gd (0 ≤ v4 ∧ v4 < 100) (lt' (up s 46 v4.toNat (s 46 (v4 - 1).toNat)) (fun s6 => lt' (up s6 47 v4.toNat (s6 47 (v4 - 1).toNat)) (fun s7 => some (.inl ((v4 + (-1)), s7))))))))
theorem tmem_insertBlock_11b (w : ev_W) (d : Nat) (hd : 1 ≤ d) (v1 : Int) (v2 : Int) (v3 : Int) (v4 : Int) (s : iS) : Ew hT w d 163 11 [(0, .ref (tb_nK + 44)), (1, iv v1), (2, iv v2), (3, iv v3), (4, iv v4)] [] s (mem_insertBlock_11C w d v1 v2 v3) (mem_insertBlock_11b v1 v2 v3 v4 s) := by
  unfold mem_insertBlock_11b
  refine e_mv 13 em_163 (ce_at ce_163 5 rfl) rfl rfl ?_
  refine e_mv 14 em_163 (ce_at ce_163 6 rfl) rfl rfl ?_
  refine e_gd fun g1 => ?_
  refine e_gd fun g2 => ?_
  refine e_cmle 55 17 em_163 rfl rfl (ce_at ce_163 7 rfl) g1 g2 (fun h3 => ?_) (fun h3 => ?_)
  · refine e_pk [0, 1, 2, 3] rfl rfl ?_
    exact e_out (fun r h => h)
  · refine e_mv 18 em_163 (ce_at ce_163 8 rfl) rfl rfl ?_
    refine e_getr 21 em_163 (ce_at ce_163 9 rfl) tq_44 rfl rfl ?_
    refine e_mv 23 em_163 (ce_at ce_163 10 rfl) rfl rfl ?_
    refine e_mv 24 em_163 (ce_at ce_163 11 rfl) rfl rfl ?_
    refine e_getr 27 em_163 (ce_at ce_163 12 rfl) tq_44 rfl rfl ?_
    refine e_mv 29 em_163 (ce_at ce_163 13 rfl) rfl rfl ?_
    refine e_op 30 em_163 (ce_at ce_163 14 rfl) rfl rfl ?_
    refine e_isub 31 em_163 rfl (ce_at ce_163 15 rfl) ?_
    refine e_gd fun g4 => ?_
    refine e_ild 32 em_163 (ce_at ce_163 16 rfl) tq_46 (by decide) g4 rfl ?_
    refine e_gd fun g5 => ?_
    refine e_ist 33 em_163 (ce_at ce_163 17 rfl) tq_46 (by decide) g5 rfl (fun s6 => ?_)
    refine e_mv 34 em_163 (ce_at ce_163 18 rfl) rfl rfl ?_
    refine e_getr 37 em_163 (ce_at ce_163 19 rfl) tq_44 rfl rfl ?_
    refine e_mv 39 em_163 (ce_at ce_163 20 rfl) rfl rfl ?_
    refine e_mv 40 em_163 (ce_at ce_163 21 rfl) rfl rfl ?_
    refine e_getr 43 em_163 (ce_at ce_163 22 rfl) tq_44 rfl rfl ?_
    refine e_mv 45 em_163 (ce_at ce_163 23 rfl) rfl rfl ?_
    refine e_op 46 em_163 (ce_at ce_163 24 rfl) rfl rfl ?_
    refine e_isub 47 em_163 rfl (ce_at ce_163 25 rfl) ?_
    refine e_ild 48 em_163 (ce_at ce_163 26 rfl) tq_47 (by decide) g4 rfl ?_
    refine e_ist 49 em_163 (ce_at ce_163 27 rfl) tq_47 (by decide) g5 rfl (fun s7 => ?_)
    refine e_iinc 52 em_163 (ce_at ce_163 28 rfl) rfl (by decide) rfl ?_
    refine e_goto em_163 11 (ce_at ce_163 29 rfl) rfl ?_
    refine e_pk [0, 1, 2, 3, 4] rfl rfl ?_
    exact e_out (fun r h => h)
theorem fmem_insertBlock_11b (v1 : Int) (v2 : Int) (v3 : Int) (v4 : Int) (s : iS) : Fm (fun r : (Int × iS) ⊕ (iS) => r.elim (fun l => l.2) (fun e => e)) L_mem_insertBlock G_mem_insertBlock s (mem_insertBlock_11b v1 v2 v3 v4 s) := fm_gd (fm_gd (fm_if (fm_some md_refl) (fm_gd (fm_gd (fm_lt (md_upL (mem_L rfl)) (fun s6 => fm_lt (md_upL (mem_L rfl)) (fun s7 => fm_some md_refl)))))))
noncomputable def mem_insertBlock_55 (v1 : Int) (v2 : Int) (v3 : Int) (s : iS) : Option (Int × iS) := gd (0 ≤ v1 ∧ v1 < 100) (lt' (up s 46 v1.toNat v2) (fun s2 => lt' (up s2 47 v1.toNat (v2 + v3)) (fun s3 => lt' (up s3 44 3 ((s3 44 3) + 1)) (fun s4 => lt' (up s4 44 4 ((s4 44 4) + v3)) (fun s5 => some (0, s5))))))
theorem tmem_insertBlock_55 (w : ev_W) (d : Nat) (hd : 1 ≤ d) (v1 : Int) (v2 : Int) (v3 : Int) (s : iS) : Ew hT w d 163 55 [(0, .ref (tb_nK + 44)), (1, iv v1), (2, iv v2), (3, iv v3)] [] s (Cv hT) (mem_insertBlock_55 v1 v2 v3 s) := by
  unfold mem_insertBlock_55
  refine e_mv 56 em_163 (ce_at ce_163 30 rfl) rfl rfl ?_
  refine e_getr 59 em_163 (ce_at ce_163 31 rfl) tq_44 rfl rfl ?_
  refine e_mv 60 em_163 (ce_at ce_163 32 rfl) rfl rfl ?_
  refine e_mv 61 em_163 (ce_at ce_163 33 rfl) rfl rfl ?_
  refine e_gd fun g1 => ?_
  refine e_ist 62 em_163 (ce_at ce_163 34 rfl) tq_46 (by decide) g1 rfl (fun s2 => ?_)
  refine e_mv 63 em_163 (ce_at ce_163 35 rfl) rfl rfl ?_
  refine e_getr 66 em_163 (ce_at ce_163 36 rfl) tq_44 rfl rfl ?_
  refine e_mv 67 em_163 (ce_at ce_163 37 rfl) rfl rfl ?_
  refine e_mv 68 em_163 (ce_at ce_163 38 rfl) rfl rfl ?_
  refine e_mv 69 em_163 (ce_at ce_163 39 rfl) rfl rfl ?_
  refine e_iadd 70 em_163 rfl (ce_at ce_163 40 rfl) ?_
  refine e_ist 71 em_163 (ce_at ce_163 41 rfl) tq_47 (by decide) g1 rfl (fun s3 => ?_)
  refine e_mv 72 em_163 (ce_at ce_163 42 rfl) rfl rfl ?_
  refine e_op 73 em_163 (ce_at ce_163 43 rfl) rfl rfl ?_
  refine e_get 76 em_163 (ce_at ce_163 44 rfl) tq_44 rfl rfl ?_
  refine e_op 77 em_163 (ce_at ce_163 45 rfl) rfl rfl ?_
  refine e_iadd 78 em_163 rfl (ce_at ce_163 46 rfl) ?_
  refine e_put 81 em_163 (ce_at ce_163 47 rfl) tq_44 rfl rfl rfl (fun s4 => ?_)
  refine e_mv 82 em_163 (ce_at ce_163 48 rfl) rfl rfl ?_
  refine e_op 83 em_163 (ce_at ce_163 49 rfl) rfl rfl ?_
  refine e_get 86 em_163 (ce_at ce_163 50 rfl) tq_44 rfl rfl ?_
  refine e_mv 87 em_163 (ce_at ce_163 51 rfl) rfl rfl ?_
  refine e_iadd 88 em_163 rfl (ce_at ce_163 52 rfl) ?_
  refine e_put 91 em_163 (ce_at ce_163 53 rfl) tq_44 rfl rfl rfl (fun s5 => ?_)
  exact e_retv em_163 (ce_at ce_163 54 rfl)
theorem fmem_insertBlock_55 (v1 : Int) (v2 : Int) (v3 : Int) (s : iS) : Fm Prod.snd L_mem_insertBlock G_mem_insertBlock s (mem_insertBlock_55 v1 v2 v3 s) := fm_gd (fm_lt (md_upL (mem_L rfl)) (fun s2 => fm_lt (md_upL (mem_L rfl)) (fun s3 => fm_lt (md_upF (mem_F rfl)) (fun s4 => fm_lt (md_upF (mem_F rfl)) (fun s5 => fm_some md_refl)))))
noncomputable def mem_insertBlock_11 (v1 : Int) (v2 : Int) (v3 : Int) (v4 : Int) (s : iS) : Option (Int × iS) := (lp (L := Int × iS) (E := iS) (fun l => mem_insertBlock_11b v1 v2 v3 (l.1) (l.2)) (v4, s)).bind (fun e => mem_insertBlock_55 v1 v2 v3 e)
theorem tmem_insertBlock_11 (w : ev_W) (d : Nat) (hd : 1 ≤ d) (v1 : Int) (v2 : Int) (v3 : Int) (v4 : Int) (s : iS) : Ew hT w d 163 11 [(0, .ref (tb_nK + 44)), (1, iv v1), (2, iv v2), (3, iv v3), (4, iv v4)] [] s (Cv hT) (mem_insertBlock_11 v1 v2 v3 v4 s) := by
  unfold mem_insertBlock_11
  refine e_lp (L := Int × iS) (E := iS) (LO := fun l => [(0, .ref (tb_nK + 44)), (1, iv v1), (2, iv v2), (3, iv v3), (4, iv (l.1))]) (LS := fun l => l.2) (CE := fun e r => ev w d 163 55 [(0, .ref (tb_nK + 44)), (1, iv v1), (2, iv v2), (3, iv v3)] [] (hT (e)) r) (fun l => tmem_insertBlock_11b w d hd _ _ _ _ _) ?_ (v4, s)
  intro e
  show Ew hT w d 163 55 [(0, .ref (tb_nK + 44)), (1, iv v1), (2, iv v2), (3, iv v3)] [] e (Cv hT) _
  refine e_pk [0, 1, 2, 3] rfl rfl ?_
  exact tmem_insertBlock_55 w d hd _ _ _ _
theorem fmem_insertBlock_11 (v1 : Int) (v2 : Int) (v3 : Int) (v4 : Int) (s : iS) : Fm Prod.snd L_mem_insertBlock G_mem_insertBlock s (mem_insertBlock_11 v1 v2 v3 v4 s) := by
  unfold mem_insertBlock_11
  refine fm_lp (A := Int × iS) (E := iS) (LS := fun l => l.2) (LE := fun e => e) ?_ ?_ (v4, s)
  · exact fun l => fmem_insertBlock_11b _ _ _ _ _
  · exact (fun e => fmem_insertBlock_55 _ _ _ _)
noncomputable def mem_insertBlock (v1 : Int) (v2 : Int) (v3 : Int) (s : iS) : Option (Int × iS) := bd (mth_min (s 44 3) 99 s) (fun r1 s1 => mem_insertBlock_11 v1 v2 v3 r1 s1)
theorem tmem_insertBlock (w : ev_W) (d : Nat) (hd : 1 ≤ d) (v1 : Int) (v2 : Int) (v3 : Int) (s : iS) : Ew hT w d 163 0 [(0, .ref (tb_nK + 44)), (1, iv v1), (2, iv v2), (3, iv v3)] [] s (Cv hT) (mem_insertBlock v1 v2 v3 s) := by
  unfold mem_insertBlock
  refine e_mv 1 em_163 (ce_at ce_163 0 rfl) rfl rfl ?_
  refine e_get 4 em_163 (ce_at ce_163 1 rfl) tq_44 rfl rfl ?_
  refine e_bip 6 em_163 (ce_at ce_163 2 rfl) (by decide) rfl ?_
  refine e_ivi 9 em_163 (ce_at ce_163 3 rfl) (by omega) (iv_s2 rfl) em_21 (Nat.le_of_ble_eq_true rfl) rfl (tmth_min hT w (d - 1) (by omega) _ _ _) (fun r1 s1 => ?_)
  refine e_mv 11 em_163 (ce_at ce_163 4 rfl) rfl rfl ?_
  refine e_pk [0, 1, 2, 3, 4] rfl rfl ?_
  exact tmem_insertBlock_11 w d hd _ _ _ _ _
theorem fmem_insertBlock (v1 : Int) (v2 : Int) (v3 : Int) (s : iS) : Fm Prod.snd L_mem_insertBlock G_mem_insertBlock s (mem_insertBlock v1 v2 v3 s) := fm_bd (fm_sub (fmth_min _ _ _) (mem_sub_L rfl) (mem_sub_F rfl)) (fun r1 s1 => fmem_insertBlock_11 _ _ _ _ _)
/-! mem_allocate -/
def L_mem_allocate : List Nat := [46, 47]
def G_mem_allocate : List (Nat × Nat) := [(44, 3), (44, 4), (44, 5), (44, 6)]
def mem_allocate_42C (w : ev_W) (d : Nat) (v1 : Int) : (Int × Int × iS) ⊕ (Int × Int × iS) → am_E → Prop := fun q r => q.elim (fun l => ev w d 162 42 ((fun l => [(0, .ref (tb_nK + 44)), (1, iv v1), (2, iv (l.1)), (3, iv (l.2.1))]) l) [] (hT ((fun l => l.2.2) l)) r) (fun e => (fun e r => ev w d 162 75 [(0, .ref (tb_nK + 44)), (1, iv v1), (2, iv (e.1)), (3, iv (e.2.1))] [] (hT (e.2.2)) r) e r)
noncomputable def mem_allocate_42b (v1 : Int) (v2 : Int) (v3 : Int) (s : iS) : Option ((Int × Int × iS) ⊕ (Int × Int × iS)) := gd (rg v3) (gd (rg (s 44 3)) (if (s 44 3) ≤ v3 then some (.inr (v2, v3, s)) else gd (0 ≤ v3 ∧ v3 < 100) (gd (rg ((s 46 v3.toNat) - v2)) (gd (rg v1) (if v1 ≤ ((s 46 v3.toNat) - v2) then some (.inr (v2, v3, s)) else some (.inl ((s 47 v3.toNat), (v3 + 1), s)))))))
theorem tmem_allocate_42b (w : ev_W) (d : Nat) (hd : 2 ≤ d) (v1 : Int) (v2 : Int) (v3 : Int) (s : iS) : Ew hT w d 162 42 [(0, .ref (tb_nK + 44)), (1, iv v1), (2, iv v2), (3, iv v3)] [] s (mem_allocate_42C w d v1) (mem_allocate_42b v1 v2 v3 s) := by
  unfold mem_allocate_42b
  refine e_mv 43 em_162 (ce_at ce_162 24 rfl) rfl rfl ?_
  refine e_mv 44 em_162 (ce_at ce_162 25 rfl) rfl rfl ?_
  refine e_get 47 em_162 (ce_at ce_162 26 rfl) tq_44 rfl rfl ?_
  refine e_gd fun g1 => ?_
  refine e_gd fun g2 => ?_
  refine e_cmge 75 50 em_162 rfl rfl (ce_at ce_162 27 rfl) g1 g2 (fun h3 => ?_) (fun h3 => ?_)
  · refine e_pk [0, 1, 2, 3] rfl rfl ?_
    exact e_out (fun r h => h)
  · refine e_mv 51 em_162 (ce_at ce_162 28 rfl) rfl rfl ?_
    refine e_getr 54 em_162 (ce_at ce_162 29 rfl) tq_44 rfl rfl ?_
    refine e_mv 55 em_162 (ce_at ce_162 30 rfl) rfl rfl ?_
    refine e_gd fun g4 => ?_
    refine e_ild 56 em_162 (ce_at ce_162 31 rfl) tq_46 (by decide) g4 rfl ?_
    refine e_mv 57 em_162 (ce_at ce_162 32 rfl) rfl rfl ?_
    refine e_isub 58 em_162 rfl (ce_at ce_162 33 rfl) ?_
    refine e_mv 59 em_162 (ce_at ce_162 34 rfl) rfl rfl ?_
    refine e_gd fun g5 => ?_
    refine e_gd fun g6 => ?_
    refine e_cmge 75 62 em_162 rfl rfl (ce_at ce_162 35 rfl) g5 g6 (fun h7 => ?_) (fun h7 => ?_)
    · refine e_pk [0, 1, 2, 3] rfl rfl ?_
      exact e_out (fun r h => h)
    · refine e_mv 63 em_162 (ce_at ce_162 36 rfl) rfl rfl ?_
      refine e_getr 66 em_162 (ce_at ce_162 37 rfl) tq_44 rfl rfl ?_
      refine e_mv 67 em_162 (ce_at ce_162 38 rfl) rfl rfl ?_
      refine e_ild 68 em_162 (ce_at ce_162 39 rfl) tq_47 (by decide) g4 rfl ?_
      refine e_mv 69 em_162 (ce_at ce_162 40 rfl) rfl rfl ?_
      refine e_iinc 72 em_162 (ce_at ce_162 41 rfl) rfl (by decide) rfl ?_
      refine e_goto em_162 42 (ce_at ce_162 42 rfl) rfl ?_
      refine e_pk [0, 1, 2, 3] rfl rfl ?_
      exact e_out (fun r h => h)
theorem fmem_allocate_42b (v1 : Int) (v2 : Int) (v3 : Int) (s : iS) : Fm (fun r : (Int × Int × iS) ⊕ (Int × Int × iS) => r.elim (fun l => l.2.2) (fun e => e.2.2)) L_mem_allocate G_mem_allocate s (mem_allocate_42b v1 v2 v3 s) := fm_gd (fm_gd (fm_if (fm_some md_refl) (fm_gd (fm_gd (fm_gd (fm_if (fm_some md_refl) (fm_some md_refl)))))))
noncomputable def mem_allocate_99 (v1 : Int) (v2 : Int) (v3 : Int) (s : iS) : Option (Int × iS) := bd (mem_insertBlock v3 v2 v1 s) (fun _ s1 => some (v2, s1))
theorem tmem_allocate_99 (w : ev_W) (d : Nat) (hd : 2 ≤ d) (v1 : Int) (v2 : Int) (v3 : Int) (s : iS) : Ew hT w d 162 99 [(0, .ref (tb_nK + 44)), (1, iv v1), (2, iv v2), (3, iv v3)] [] s (Ci hT) (mem_allocate_99 v1 v2 v3 s) := by
  unfold mem_allocate_99
  refine e_mv 100 em_162 (ce_at ce_162 56 rfl) rfl rfl ?_
  refine e_mv 101 em_162 (ce_at ce_162 57 rfl) rfl rfl ?_
  refine e_mv 102 em_162 (ce_at ce_162 58 rfl) rfl rfl ?_
  refine e_mv 103 em_162 (ce_at ce_162 59 rfl) rfl rfl ?_
  refine e_ivv 106 em_162 (ce_at ce_162 60 rfl) (by omega) (iv_v3 (by decide) tq_44 rfl) em_163 (Nat.le_of_ble_eq_true rfl) rfl (tmem_insertBlock w (d - 1) (by omega) _ _ _ _) (fun r1 s1 => ?_)
  refine e_mv 107 em_162 (ce_at ce_162 61 rfl) rfl rfl ?_
  exact e_reti em_162 (ce_at ce_162 62 rfl)
theorem fmem_allocate_99 (v1 : Int) (v2 : Int) (v3 : Int) (s : iS) : Fm Prod.snd L_mem_allocate G_mem_allocate s (mem_allocate_99 v1 v2 v3 s) := fm_bd (fm_sub (fmem_insertBlock _ _ _ _) (mem_sub_L rfl) (mem_sub_F rfl)) (fun r1 s1 => fm_some md_refl)
noncomputable def mem_allocate_75 (v1 : Int) (v2 : Int) (v3 : Int) (s : iS) : Option (Int × iS) := gd (rg v3) (gd (rg (s 44 3)) (if v3 = (s 44 3) then gd (rg (14336 - v2)) (gd (rg v1) (if v1 ≤ (14336 - v2) then mem_allocate_99 v1 v2 v3 s else bd (mem_fail 6 s) (fun r7 s7 => some (r7, s7)))) else mem_allocate_99 v1 v2 v3 s))
theorem tmem_allocate_75 (w : ev_W) (d : Nat) (hd : 2 ≤ d) (v1 : Int) (v2 : Int) (v3 : Int) (s : iS) : Ew hT w d 162 75 [(0, .ref (tb_nK + 44)), (1, iv v1), (2, iv v2), (3, iv v3)] [] s (Ci hT) (mem_allocate_75 v1 v2 v3 s) := by
  unfold mem_allocate_75
  refine e_mv 76 em_162 (ce_at ce_162 43 rfl) rfl rfl ?_
  refine e_mv 77 em_162 (ce_at ce_162 44 rfl) rfl rfl ?_
  refine e_get 80 em_162 (ce_at ce_162 45 rfl) tq_44 rfl rfl ?_
  refine e_gd fun g1 => ?_
  refine e_gd fun g2 => ?_
  refine e_cmne 99 83 em_162 rfl rfl (ce_at ce_162 46 rfl) g1 g2 (fun h3 => ?_) (fun h3 => ?_)
  · refine e_pk [0, 1, 2, 3] rfl rfl ?_
    exact tmem_allocate_99 w d hd _ _ _ _
  · refine e_sip 86 em_162 (ce_at ce_162 47 rfl) (by decide) rfl ?_
    refine e_mv 87 em_162 (ce_at ce_162 48 rfl) rfl rfl ?_
    refine e_isub 88 em_162 rfl (ce_at ce_162 49 rfl) ?_
    refine e_mv 89 em_162 (ce_at ce_162 50 rfl) rfl rfl ?_
    refine e_gd fun g4 => ?_
    refine e_gd fun g5 => ?_
    refine e_cmge 99 92 em_162 rfl rfl (ce_at ce_162 51 rfl) g4 g5 (fun h6 => ?_) (fun h6 => ?_)
    · refine e_pk [0, 1, 2, 3] rfl rfl ?_
      exact tmem_allocate_99 w d hd _ _ _ _
    · refine e_mv 93 em_162 (ce_at ce_162 52 rfl) rfl rfl ?_
      refine e_bip 95 em_162 (ce_at ce_162 53 rfl) (by decide) rfl ?_
      refine e_ivi 98 em_162 (ce_at ce_162 54 rfl) (by omega) (iv_v1 (by decide) tq_44 rfl) em_152 (Nat.le_of_ble_eq_true rfl) rfl (tmem_fail w (d - 1) (by omega) _ _) (fun r7 s7 => ?_)
      exact e_reti em_162 (ce_at ce_162 55 rfl)
theorem fmem_allocate_75 (v1 : Int) (v2 : Int) (v3 : Int) (s : iS) : Fm Prod.snd L_mem_allocate G_mem_allocate s (mem_allocate_75 v1 v2 v3 s) := fm_gd (fm_gd (fm_if (fm_gd (fm_gd (fm_if (fmem_allocate_99 _ _ _ _) (fm_bd (fm_sub (fmem_fail _ _) (mem_sub_L rfl) (mem_sub_F rfl)) (fun r7 s7 => fm_some md_refl))))) (fmem_allocate_99 _ _ _ _)))
noncomputable def mem_allocate_42 (v1 : Int) (v2 : Int) (v3 : Int) (s : iS) : Option (Int × iS) := (lp (L := Int × Int × iS) (E := Int × Int × iS) (fun l => mem_allocate_42b v1 (l.1) (l.2.1) (l.2.2)) (v2, v3, s)).bind (fun e => mem_allocate_75 v1 (e.1) (e.2.1) (e.2.2))
theorem tmem_allocate_42 (w : ev_W) (d : Nat) (hd : 2 ≤ d) (v1 : Int) (v2 : Int) (v3 : Int) (s : iS) : Ew hT w d 162 42 [(0, .ref (tb_nK + 44)), (1, iv v1), (2, iv v2), (3, iv v3)] [] s (Ci hT) (mem_allocate_42 v1 v2 v3 s) := by
  unfold mem_allocate_42
  refine e_lp (L := Int × Int × iS) (E := Int × Int × iS) (LO := fun l => [(0, .ref (tb_nK + 44)), (1, iv v1), (2, iv (l.1)), (3, iv (l.2.1))]) (LS := fun l => l.2.2) (CE := fun e r => ev w d 162 75 [(0, .ref (tb_nK + 44)), (1, iv v1), (2, iv (e.1)), (3, iv (e.2.1))] [] (hT (e.2.2)) r) (fun l => tmem_allocate_42b w d hd _ _ _ _) ?_ (v2, v3, s)
  intro e
  show Ew hT w d 162 75 [(0, .ref (tb_nK + 44)), (1, iv v1), (2, iv (e.1)), (3, iv (e.2.1))] [] e.2.2 (Ci hT) _
  refine e_pk [0, 1, 2, 3] rfl rfl ?_
  exact tmem_allocate_75 w d hd _ _ _ _
theorem fmem_allocate_42 (v1 : Int) (v2 : Int) (v3 : Int) (s : iS) : Fm Prod.snd L_mem_allocate G_mem_allocate s (mem_allocate_42 v1 v2 v3 s) := by
  unfold mem_allocate_42
  refine fm_lp (A := Int × Int × iS) (E := Int × Int × iS) (LS := fun l => l.2.2) (LE := fun e => e.2.2) ?_ ?_ (v2, v3, s)
  · exact fun l => fmem_allocate_42b _ _ _ _
  · exact (fun e => fmem_allocate_75 _ _ _ _)
noncomputable def mem_allocate (v1 : Int) (s : iS) : Option (Int × iS) := gd (rg (s 44 5)) (if (s 44 5) = 0 then gd (rg v1) (if 1 ≤ v1 then gd (rg (s 44 3)) (if (s 44 3) < 100 then mem_allocate_42 v1 2048 0 s else bd (mem_fail 6 s) (fun r7 s7 => some (r7, s7))) else bd (mem_fail 5 s) (fun r8 s8 => some (r8, s8))) else some (0, s))
theorem tmem_allocate (w : ev_W) (d : Nat) (hd : 2 ≤ d) (v1 : Int) (s : iS) : Ew hT w d 162 0 [(0, .ref (tb_nK + 44)), (1, iv v1)] [] s (Ci hT) (mem_allocate v1 s) := by
  unfold mem_allocate
  refine e_mv 1 em_162 (ce_at ce_162 0 rfl) rfl rfl ?_
  refine e_get 4 em_162 (ce_at ce_162 1 rfl) tq_44 rfl rfl ?_
  refine e_gd fun g1 => ?_
  refine e_ifeq 9 7 em_162 rfl rfl (ce_at ce_162 2 rfl) g1 (fun h2 => ?_) (fun h2 => ?_)
  · refine e_mv 10 em_162 (ce_at ce_162 5 rfl) rfl rfl ?_
    refine e_op 11 em_162 (ce_at ce_162 6 rfl) rfl rfl ?_
    refine e_gd fun g3 => ?_
    refine e_cmge 20 14 em_162 rfl rfl (ce_at ce_162 7 rfl) g3 (by decide) (fun h4 => ?_) (fun h4 => ?_)
    · refine e_mv 21 em_162 (ce_at ce_162 12 rfl) rfl rfl ?_
      refine e_get 24 em_162 (ce_at ce_162 13 rfl) tq_44 rfl rfl ?_
      refine e_bip 26 em_162 (ce_at ce_162 14 rfl) (by decide) rfl ?_
      refine e_gd fun g5 => ?_
      refine e_cmlt 36 29 em_162 rfl rfl (ce_at ce_162 15 rfl) g5 (by decide) (fun h6 => ?_) (fun h6 => ?_)
      · refine e_sip 39 em_162 (ce_at ce_162 20 rfl) (by decide) rfl ?_
        refine e_mv 40 em_162 (ce_at ce_162 21 rfl) rfl rfl ?_
        refine e_op 41 em_162 (ce_at ce_162 22 rfl) rfl rfl ?_
        refine e_mv 42 em_162 (ce_at ce_162 23 rfl) rfl rfl ?_
        refine e_pk [0, 1, 2, 3] rfl rfl ?_
        exact tmem_allocate_42 w d hd _ _ _ _
      · refine e_mv 30 em_162 (ce_at ce_162 16 rfl) rfl rfl ?_
        refine e_bip 32 em_162 (ce_at ce_162 17 rfl) (by decide) rfl ?_
        refine e_ivi 35 em_162 (ce_at ce_162 18 rfl) (by omega) (iv_v1 (by decide) tq_44 rfl) em_152 (Nat.le_of_ble_eq_true rfl) rfl (tmem_fail w (d - 1) (by omega) _ _) (fun r7 s7 => ?_)
        exact e_reti em_162 (ce_at ce_162 19 rfl)
    · refine e_mv 15 em_162 (ce_at ce_162 8 rfl) rfl rfl ?_
      refine e_op 16 em_162 (ce_at ce_162 9 rfl) rfl rfl ?_
      refine e_ivi 19 em_162 (ce_at ce_162 10 rfl) (by omega) (iv_v1 (by decide) tq_44 rfl) em_152 (Nat.le_of_ble_eq_true rfl) rfl (tmem_fail w (d - 1) (by omega) _ _) (fun r8 s8 => ?_)
      exact e_reti em_162 (ce_at ce_162 11 rfl)
  · refine e_op 8 em_162 (ce_at ce_162 3 rfl) rfl rfl ?_
    exact e_reti em_162 (ce_at ce_162 4 rfl)
theorem fmem_allocate (v1 : Int) (s : iS) : Fm Prod.snd L_mem_allocate G_mem_allocate s (mem_allocate v1 s) := fm_gd (fm_if (fm_gd (fm_if (fm_gd (fm_if (fmem_allocate_42 _ _ _ _) (fm_bd (fm_sub (fmem_fail _ _) (mem_sub_L rfl) (mem_sub_F rfl)) (fun r7 s7 => fm_some md_refl)))) (fm_bd (fm_sub (fmem_fail _ _) (mem_sub_L rfl) (mem_sub_F rfl)) (fun r8 s8 => fm_some md_refl)))) (fm_some md_refl))
/-! mem_release -/
def L_mem_release : List Nat := [46, 47]
def G_mem_release : List (Nat × Nat) := [(44, 3), (44, 4), (44, 5), (44, 6)]
def mem_release_4C (w : ev_W) (d : Nat) (v1 : Int) : (Int × Int × iS) ⊕ (Int × iS) → am_E → Prop := fun q r => q.elim (fun l => ev w d 164 4 ((fun l => [(0, .ref (tb_nK + 44)), (1, iv v1), (2, iv (l.1)), (3, iv (l.2.1))]) l) [] (hT ((fun l => l.2.2) l)) r) (fun e => (fun e r => ev w d 164 30 [(0, .ref (tb_nK + 44)), (2, iv (e.1))] [] (hT (e.2)) r) e r)
noncomputable def mem_release_4b (v1 : Int) (v2 : Int) (v3 : Int) (s : iS) : Option ((Int × Int × iS) ⊕ (Int × iS)) := gd (rg v3) (gd (rg (s 44 3)) (if (s 44 3) ≤ v3 then some (.inr (v2, s)) else gd (0 ≤ v3 ∧ v3 < 100) (gd (rg (s 46 v3.toNat)) (gd (rg v1) (if (s 46 v3.toNat) = v1 then some (.inl (v3, (v3 + 1), s)) else some (.inl (v2, (v3 + 1), s)))))))
theorem tmem_release_4b (w : ev_W) (d : Nat) (hd : 1 ≤ d) (v1 : Int) (v2 : Int) (v3 : Int) (s : iS) : Ew hT w d 164 4 [(0, .ref (tb_nK + 44)), (1, iv v1), (2, iv v2), (3, iv v3)] [] s (mem_release_4C w d v1) (mem_release_4b v1 v2 v3 s) := by
  unfold mem_release_4b
  refine e_mv 5 em_164 (ce_at ce_164 4 rfl) rfl rfl ?_
  refine e_mv 6 em_164 (ce_at ce_164 5 rfl) rfl rfl ?_
  refine e_get 9 em_164 (ce_at ce_164 6 rfl) tq_44 rfl rfl ?_
  refine e_gd fun g1 => ?_
  refine e_gd fun g2 => ?_
  refine e_cmge 30 12 em_164 rfl rfl (ce_at ce_164 7 rfl) g1 g2 (fun h3 => ?_) (fun h3 => ?_)
  · refine e_pk [0, 2] rfl rfl ?_
    exact e_out (fun r h => h)
  · refine e_mv 13 em_164 (ce_at ce_164 8 rfl) rfl rfl ?_
    refine e_getr 16 em_164 (ce_at ce_164 9 rfl) tq_44 rfl rfl ?_
    refine e_mv 17 em_164 (ce_at ce_164 10 rfl) rfl rfl ?_
    refine e_gd fun g4 => ?_
    refine e_ild 18 em_164 (ce_at ce_164 11 rfl) tq_46 (by decide) g4 rfl ?_
    refine e_mv 19 em_164 (ce_at ce_164 12 rfl) rfl rfl ?_
    refine e_gd fun g5 => ?_
    refine e_gd fun g6 => ?_
    refine e_cmne 24 22 em_164 rfl rfl (ce_at ce_164 13 rfl) g5 g6 (fun h7 => ?_) (fun h7 => ?_)
    · refine e_iinc 27 em_164 (ce_at ce_164 16 rfl) rfl (by decide) rfl ?_
      refine e_goto em_164 4 (ce_at ce_164 17 rfl) rfl ?_
      refine e_pk [0, 1, 2, 3] rfl rfl ?_
      exact e_out (fun r h => h)
    · refine e_mv 23 em_164 (ce_at ce_164 14 rfl) rfl rfl ?_
      refine e_mv 24 em_164 (ce_at ce_164 15 rfl) rfl rfl ?_
      refine e_iinc 27 em_164 (ce_at ce_164 16 rfl) rfl (by decide) rfl ?_
      refine e_goto em_164 4 (ce_at ce_164 17 rfl) rfl ?_
      refine e_pk [0, 1, 2, 3] rfl rfl ?_
      exact e_out (fun r h => h)
theorem fmem_release_4b (v1 : Int) (v2 : Int) (v3 : Int) (s : iS) : Fm (fun r : (Int × Int × iS) ⊕ (Int × iS) => r.elim (fun l => l.2.2) (fun e => e.2)) L_mem_release G_mem_release s (mem_release_4b v1 v2 v3 s) := fm_gd (fm_gd (fm_if (fm_some md_refl) (fm_gd (fm_gd (fm_gd (fm_if (fm_some md_refl) (fm_some md_refl)))))))
def mem_release_76C (w : ev_W) (d : Nat) : (Int × iS) ⊕ (iS) → am_E → Prop := fun q r => q.elim (fun l => ev w d 164 76 ((fun l => [(0, .ref (tb_nK + 44)), (3, iv (l.1))]) l) [] (hT ((fun l => l.2) l)) r) (fun e => (fun e r => ev w d 164 118 [] [] (hT (e)) r) e r)
noncomputable def mem_release_76b (v3 : Int) (s : iS) : Option ((Int × iS) ⊕ (iS)) := gd (rg v3) (gd (rg (s 44 3)) (if (s 44 3) ≤ v3 then some (.inr s) else gd (0 ≤ (v3 + 1) ∧ (v3 + 1) < 100) (gd (0 ≤ v3 ∧ v3 < 100) (lt' (up s 46 v3.toNat (s 46 (v3 + 1).toNat)) (fun s6 => lt' (up s6 47 v3.toNat (s6 47 (v3 + 1).toNat)) (fun s7 => some (.inl ((v3 + 1), s7))))))))
theorem tmem_release_76b (w : ev_W) (d : Nat) (hd : 1 ≤ d) (v3 : Int) (s : iS) : Ew hT w d 164 76 [(0, .ref (tb_nK + 44)), (3, iv v3)] [] s (mem_release_76C w d) (mem_release_76b v3 s) := by
  unfold mem_release_76b
  refine e_mv 77 em_164 (ce_at ce_164 47 rfl) rfl rfl ?_
  refine e_mv 78 em_164 (ce_at ce_164 48 rfl) rfl rfl ?_
  refine e_get 81 em_164 (ce_at ce_164 49 rfl) tq_44 rfl rfl ?_
  refine e_gd fun g1 => ?_
  refine e_gd fun g2 => ?_
  refine e_cmge 118 84 em_164 rfl rfl (ce_at ce_164 50 rfl) g1 g2 (fun h3 => ?_) (fun h3 => ?_)
  · refine e_pk [] rfl rfl ?_
    exact e_out (fun r h => h)
  · refine e_mv 85 em_164 (ce_at ce_164 51 rfl) rfl rfl ?_
    refine e_getr 88 em_164 (ce_at ce_164 52 rfl) tq_44 rfl rfl ?_
    refine e_mv 89 em_164 (ce_at ce_164 53 rfl) rfl rfl ?_
    refine e_mv 90 em_164 (ce_at ce_164 54 rfl) rfl rfl ?_
    refine e_getr 93 em_164 (ce_at ce_164 55 rfl) tq_44 rfl rfl ?_
    refine e_mv 94 em_164 (ce_at ce_164 56 rfl) rfl rfl ?_
    refine e_op 95 em_164 (ce_at ce_164 57 rfl) rfl rfl ?_
    refine e_iadd 96 em_164 rfl (ce_at ce_164 58 rfl) ?_
    refine e_gd fun g4 => ?_
    refine e_ild 97 em_164 (ce_at ce_164 59 rfl) tq_46 (by decide) g4 rfl ?_
    refine e_gd fun g5 => ?_
    refine e_ist 98 em_164 (ce_at ce_164 60 rfl) tq_46 (by decide) g5 rfl (fun s6 => ?_)
    refine e_mv 99 em_164 (ce_at ce_164 61 rfl) rfl rfl ?_
    refine e_getr 102 em_164 (ce_at ce_164 62 rfl) tq_44 rfl rfl ?_
    refine e_mv 103 em_164 (ce_at ce_164 63 rfl) rfl rfl ?_
    refine e_mv 104 em_164 (ce_at ce_164 64 rfl) rfl rfl ?_
    refine e_getr 107 em_164 (ce_at ce_164 65 rfl) tq_44 rfl rfl ?_
    refine e_mv 108 em_164 (ce_at ce_164 66 rfl) rfl rfl ?_
    refine e_op 109 em_164 (ce_at ce_164 67 rfl) rfl rfl ?_
    refine e_iadd 110 em_164 rfl (ce_at ce_164 68 rfl) ?_
    refine e_ild 111 em_164 (ce_at ce_164 69 rfl) tq_47 (by decide) g4 rfl ?_
    refine e_ist 112 em_164 (ce_at ce_164 70 rfl) tq_47 (by decide) g5 rfl (fun s7 => ?_)
    refine e_iinc 115 em_164 (ce_at ce_164 71 rfl) rfl (by decide) rfl ?_
    refine e_goto em_164 76 (ce_at ce_164 72 rfl) rfl ?_
    refine e_pk [0, 3] rfl rfl ?_
    exact e_out (fun r h => h)
theorem fmem_release_76b (v3 : Int) (s : iS) : Fm (fun r : (Int × iS) ⊕ (iS) => r.elim (fun l => l.2) (fun e => e)) L_mem_release G_mem_release s (mem_release_76b v3 s) := fm_gd (fm_gd (fm_if (fm_some md_refl) (fm_gd (fm_gd (fm_lt (md_upL (mem_L rfl)) (fun s6 => fm_lt (md_upL (mem_L rfl)) (fun s7 => fm_some md_refl)))))))
noncomputable def mem_release_76 (v3 : Int) (s : iS) : Option (Int × iS) := (lp (L := Int × iS) (E := iS) (fun l => mem_release_76b (l.1) (l.2)) (v3, s)).bind (fun e => some (0, e))
theorem tmem_release_76 (w : ev_W) (d : Nat) (hd : 1 ≤ d) (v3 : Int) (s : iS) : Ew hT w d 164 76 [(0, .ref (tb_nK + 44)), (3, iv v3)] [] s (Ci hT) (mem_release_76 v3 s) := by
  unfold mem_release_76
  refine e_lp (L := Int × iS) (E := iS) (LO := fun l => [(0, .ref (tb_nK + 44)), (3, iv (l.1))]) (LS := fun l => l.2) (CE := fun e r => ev w d 164 118 [] [] (hT (e)) r) (fun l => tmem_release_76b w d hd _ _) ?_ (v3, s)
  intro e
  show Ew hT w d 164 118 [] [] e (Ci hT) _
  refine e_op 119 em_164 (ce_at ce_164 73 rfl) rfl rfl ?_
  exact e_reti em_164 (ce_at ce_164 74 rfl)
theorem fmem_release_76 (v3 : Int) (s : iS) : Fm Prod.snd L_mem_release G_mem_release s (mem_release_76 v3 s) := by
  unfold mem_release_76
  refine fm_lp (A := Int × iS) (E := iS) (LS := fun l => l.2) (LE := fun e => e) ?_ ?_ (v3, s)
  · exact fun l => fmem_release_76b _ _
  · exact (fun e => fm_some md_refl)
noncomputable def mem_release_30 (v2 : Int) (s : iS) : Option (Int × iS) := gd (rg v2) (if v2 = (-1) then bd (mem_fail 21 s) (fun r6 s6 => some (r6, s6)) else gd (0 ≤ v2 ∧ v2 < 100) (lt' (up s 44 4 ((s 44 4) - ((s 47 v2.toNat) - (s 46 v2.toNat)))) (fun s4 => lt' (up s4 44 3 ((s4 44 3) - 1)) (fun s5 => mem_release_76 v2 s5))))
theorem tmem_release_30 (w : ev_W) (d : Nat) (hd : 1 ≤ d) (v2 : Int) (s : iS) : Ew hT w d 164 30 [(0, .ref (tb_nK + 44)), (2, iv v2)] [] s (Ci hT) (mem_release_30 v2 s) := by
  unfold mem_release_30
  refine e_mv 31 em_164 (ce_at ce_164 18 rfl) rfl rfl ?_
  refine e_op 32 em_164 (ce_at ce_164 19 rfl) rfl rfl ?_
  refine e_gd fun g1 => ?_
  refine e_cmne 42 35 em_164 rfl rfl (ce_at ce_164 20 rfl) g1 (by decide) (fun h2 => ?_) (fun h2 => ?_)
  · refine e_mv 43 em_164 (ce_at ce_164 25 rfl) rfl rfl ?_
    refine e_op 44 em_164 (ce_at ce_164 26 rfl) rfl rfl ?_
    refine e_get 47 em_164 (ce_at ce_164 27 rfl) tq_44 rfl rfl ?_
    refine e_mv 48 em_164 (ce_at ce_164 28 rfl) rfl rfl ?_
    refine e_getr 51 em_164 (ce_at ce_164 29 rfl) tq_44 rfl rfl ?_
    refine e_mv 52 em_164 (ce_at ce_164 30 rfl) rfl rfl ?_
    refine e_gd fun g3 => ?_
    refine e_ild 53 em_164 (ce_at ce_164 31 rfl) tq_47 (by decide) g3 rfl ?_
    refine e_mv 54 em_164 (ce_at ce_164 32 rfl) rfl rfl ?_
    refine e_getr 57 em_164 (ce_at ce_164 33 rfl) tq_44 rfl rfl ?_
    refine e_mv 58 em_164 (ce_at ce_164 34 rfl) rfl rfl ?_
    refine e_ild 59 em_164 (ce_at ce_164 35 rfl) tq_46 (by decide) g3 rfl ?_
    refine e_isub 60 em_164 rfl (ce_at ce_164 36 rfl) ?_
    refine e_isub 61 em_164 rfl (ce_at ce_164 37 rfl) ?_
    refine e_put 64 em_164 (ce_at ce_164 38 rfl) tq_44 rfl rfl rfl (fun s4 => ?_)
    refine e_mv 65 em_164 (ce_at ce_164 39 rfl) rfl rfl ?_
    refine e_op 66 em_164 (ce_at ce_164 40 rfl) rfl rfl ?_
    refine e_get 69 em_164 (ce_at ce_164 41 rfl) tq_44 rfl rfl ?_
    refine e_op 70 em_164 (ce_at ce_164 42 rfl) rfl rfl ?_
    refine e_isub 71 em_164 rfl (ce_at ce_164 43 rfl) ?_
    refine e_put 74 em_164 (ce_at ce_164 44 rfl) tq_44 rfl rfl rfl (fun s5 => ?_)
    refine e_mv 75 em_164 (ce_at ce_164 45 rfl) rfl rfl ?_
    refine e_mv 76 em_164 (ce_at ce_164 46 rfl) rfl rfl ?_
    refine e_pk [0, 3] rfl rfl ?_
    exact tmem_release_76 w d hd _ _
  · refine e_mv 36 em_164 (ce_at ce_164 21 rfl) rfl rfl ?_
    refine e_bip 38 em_164 (ce_at ce_164 22 rfl) (by decide) rfl ?_
    refine e_ivi 41 em_164 (ce_at ce_164 23 rfl) (by omega) (iv_v1 (by decide) tq_44 rfl) em_152 (Nat.le_of_ble_eq_true rfl) rfl (tmem_fail w (d - 1) (by omega) _ _) (fun r6 s6 => ?_)
    exact e_reti em_164 (ce_at ce_164 24 rfl)
theorem fmem_release_30 (v2 : Int) (s : iS) : Fm Prod.snd L_mem_release G_mem_release s (mem_release_30 v2 s) := fm_gd (fm_if (fm_bd (fm_sub (fmem_fail _ _) (mem_sub_L rfl) (mem_sub_F rfl)) (fun r6 s6 => fm_some md_refl)) (fm_gd (fm_lt (md_upF (mem_F rfl)) (fun s4 => fm_lt (md_upF (mem_F rfl)) (fun s5 => fmem_release_76 _ _)))))
noncomputable def mem_release_4 (v1 : Int) (v2 : Int) (v3 : Int) (s : iS) : Option (Int × iS) := (lp (L := Int × Int × iS) (E := Int × iS) (fun l => mem_release_4b v1 (l.1) (l.2.1) (l.2.2)) (v2, v3, s)).bind (fun e => mem_release_30 (e.1) (e.2))
theorem tmem_release_4 (w : ev_W) (d : Nat) (hd : 1 ≤ d) (v1 : Int) (v2 : Int) (v3 : Int) (s : iS) : Ew hT w d 164 4 [(0, .ref (tb_nK + 44)), (1, iv v1), (2, iv v2), (3, iv v3)] [] s (Ci hT) (mem_release_4 v1 v2 v3 s) := by
  unfold mem_release_4
  refine e_lp (L := Int × Int × iS) (E := Int × iS) (LO := fun l => [(0, .ref (tb_nK + 44)), (1, iv v1), (2, iv (l.1)), (3, iv (l.2.1))]) (LS := fun l => l.2.2) (CE := fun e r => ev w d 164 30 [(0, .ref (tb_nK + 44)), (2, iv (e.1))] [] (hT (e.2)) r) (fun l => tmem_release_4b w d hd _ _ _ _) ?_ (v2, v3, s)
  intro e
  show Ew hT w d 164 30 [(0, .ref (tb_nK + 44)), (2, iv (e.1))] [] e.2 (Ci hT) _
  refine e_pk [0, 2] rfl rfl ?_
  exact tmem_release_30 w d hd _ _
theorem fmem_release_4 (v1 : Int) (v2 : Int) (v3 : Int) (s : iS) : Fm Prod.snd L_mem_release G_mem_release s (mem_release_4 v1 v2 v3 s) := by
  unfold mem_release_4
  refine fm_lp (A := Int × Int × iS) (E := Int × iS) (LS := fun l => l.2.2) (LE := fun e => e.2) ?_ ?_ (v2, v3, s)
  · exact fun l => fmem_release_4b _ _ _ _
  · exact (fun e => fmem_release_30 _ _)
noncomputable def mem_release (v1 : Int) (s : iS) : Option (Int × iS) := mem_release_4 v1 (-1) 0 s
theorem tmem_release (w : ev_W) (d : Nat) (hd : 1 ≤ d) (v1 : Int) (s : iS) : Ew hT w d 164 0 [(0, .ref (tb_nK + 44)), (1, iv v1)] [] s (Ci hT) (mem_release v1 s) := by
  unfold mem_release
  refine e_op 1 em_164 (ce_at ce_164 0 rfl) rfl rfl ?_
  refine e_mv 2 em_164 (ce_at ce_164 1 rfl) rfl rfl ?_
  refine e_op 3 em_164 (ce_at ce_164 2 rfl) rfl rfl ?_
  refine e_mv 4 em_164 (ce_at ce_164 3 rfl) rfl rfl ?_
  refine e_pk [0, 1, 2, 3] rfl rfl ?_
  exact tmem_release_4 w d hd _ _ _ _
theorem fmem_release (v1 : Int) (s : iS) : Fm Prod.snd L_mem_release G_mem_release s (mem_release v1 s) := fmem_release_4 _ _ _ _
/-! lib_newString -/
def L_lib_newString : List Nat := [45, 46, 47]
def G_lib_newString : List (Nat × Nat) := [(44, 3), (44, 4), (44, 5), (44, 6)]
noncomputable def lib_newString (v1 : Int) (s : iS) : Option (Int × iS) := gd (rg v1) (if 0 ≤ v1 then bd (mem_allocate (i_s (v1 + 2)) s) (fun r3 s3 => gd (rg (s3 44 5)) (if (s3 44 5) = 0 then bd (mem_write r3 v1 s3) (fun r6 s6 => bd (mem_write (r3 + 1) 0 s6) (fun r7 s7 => some (r3, s7))) else some (r3, s3))) else bd (mem_fail 14 s) (fun r8 s8 => some (r8, s8)))
theorem tlib_newString (w : ev_W) (d : Nat) (hd : 3 ≤ d) (v1 : Int) (s : iS) : Ew hT w d 165 0 [(0, .ref (tb_nK + 48)), (1, iv v1)] [] s (Ci hT) (lib_newString v1 s) := by
  unfold lib_newString
  refine e_mv 1 em_165 (ce_at ce_165 0 rfl) rfl rfl ?_
  refine e_gd fun g1 => ?_
  refine e_ifge 14 4 em_165 rfl rfl (ce_at ce_165 1 rfl) g1 (fun h2 => ?_) (fun h2 => ?_)
  · refine e_mv 15 em_165 (ce_at ce_165 7 rfl) rfl rfl ?_
    refine e_getr 18 em_165 (ce_at ce_165 8 rfl) tq_48 rfl rfl ?_
    refine e_mv 19 em_165 (ce_at ce_165 9 rfl) rfl rfl ?_
    refine e_op 20 em_165 (ce_at ce_165 10 rfl) rfl rfl ?_
    refine e_iadd 21 em_165 rfl (ce_at ce_165 11 rfl) ?_
    refine e_i2s 22 em_165 rfl (ce_at ce_165 12 rfl) ?_
    refine e_ivi 25 em_165 (ce_at ce_165 13 rfl) (by omega) (iv_v1 (by decide) tq_44 rfl) em_162 (Nat.le_of_ble_eq_true rfl) rfl (tmem_allocate w (d - 1) (by omega) _ _) (fun r3 s3 => ?_)
    refine e_mv 26 em_165 (ce_at ce_165 14 rfl) rfl rfl ?_
    refine e_mv 27 em_165 (ce_at ce_165 15 rfl) rfl rfl ?_
    refine e_getr 30 em_165 (ce_at ce_165 16 rfl) tq_48 rfl rfl ?_
    refine e_get 33 em_165 (ce_at ce_165 17 rfl) tq_44 rfl rfl ?_
    refine e_gd fun g4 => ?_
    refine e_ifne 58 36 em_165 rfl rfl (ce_at ce_165 18 rfl) g4 (fun h5 => ?_) (fun h5 => ?_)
    · refine e_mv 59 em_165 (ce_at ce_165 33 rfl) rfl rfl ?_
      exact e_reti em_165 (ce_at ce_165 34 rfl)
    · refine e_mv 37 em_165 (ce_at ce_165 19 rfl) rfl rfl ?_
      refine e_getr 40 em_165 (ce_at ce_165 20 rfl) tq_48 rfl rfl ?_
      refine e_mv 41 em_165 (ce_at ce_165 21 rfl) rfl rfl ?_
      refine e_mv 42 em_165 (ce_at ce_165 22 rfl) rfl rfl ?_
      refine e_ivi 45 em_165 (ce_at ce_165 23 rfl) (by omega) (iv_v2 (by decide) tq_44 rfl) em_157 (Nat.le_of_ble_eq_true rfl) rfl (tmem_write w (d - 1) (by omega) _ _ _) (fun r6 s6 => ?_)
      refine e_op 46 em_165 (ce_at ce_165 24 rfl) rfl rfl ?_
      refine e_mv 47 em_165 (ce_at ce_165 25 rfl) rfl rfl ?_
      refine e_getr 50 em_165 (ce_at ce_165 26 rfl) tq_48 rfl rfl ?_
      refine e_mv 51 em_165 (ce_at ce_165 27 rfl) rfl rfl ?_
      refine e_op 52 em_165 (ce_at ce_165 28 rfl) rfl rfl ?_
      refine e_iadd 53 em_165 rfl (ce_at ce_165 29 rfl) ?_
      refine e_op 54 em_165 (ce_at ce_165 30 rfl) rfl rfl ?_
      refine e_ivi 57 em_165 (ce_at ce_165 31 rfl) (by omega) (iv_v2 (by decide) tq_44 rfl) em_157 (Nat.le_of_ble_eq_true rfl) rfl (tmem_write w (d - 1) (by omega) _ _ _) (fun r7 s7 => ?_)
      refine e_op 58 em_165 (ce_at ce_165 32 rfl) rfl rfl ?_
      refine e_mv 59 em_165 (ce_at ce_165 33 rfl) rfl rfl ?_
      exact e_reti em_165 (ce_at ce_165 34 rfl)
  · refine e_mv 5 em_165 (ce_at ce_165 2 rfl) rfl rfl ?_
    refine e_getr 8 em_165 (ce_at ce_165 3 rfl) tq_48 rfl rfl ?_
    refine e_bip 10 em_165 (ce_at ce_165 4 rfl) (by decide) rfl ?_
    refine e_ivi 13 em_165 (ce_at ce_165 5 rfl) (by omega) (iv_v1 (by decide) tq_44 rfl) em_152 (Nat.le_of_ble_eq_true rfl) rfl (tmem_fail w (d - 1) (by omega) _ _) (fun r8 s8 => ?_)
    exact e_reti em_165 (ce_at ce_165 6 rfl)
theorem flib_newString (v1 : Int) (s : iS) : Fm Prod.snd L_lib_newString G_lib_newString s (lib_newString v1 s) := fm_gd (fm_if (fm_bd (fm_sub (fmem_allocate _ _) (mem_sub_L rfl) (mem_sub_F rfl)) (fun r3 s3 => fm_gd (fm_if (fm_bd (fm_sub (fmem_write _ _ _) (mem_sub_L rfl) (mem_sub_F rfl)) (fun r6 s6 => fm_bd (fm_sub (fmem_write _ _ _) (mem_sub_L rfl) (mem_sub_F rfl)) (fun r7 s7 => fm_some md_refl))) (fm_some md_refl)))) (fm_bd (fm_sub (fmem_fail _ _) (mem_sub_L rfl) (mem_sub_F rfl)) (fun r8 s8 => fm_some md_refl)))
/-! lib_charAt -/
def L_lib_charAt : List Nat := []
def G_lib_charAt : List (Nat × Nat) := [(44, 5), (44, 6)]
noncomputable def lib_charAt_18 (s : iS) : Option (Int × iS) := bd (mem_fail 15 s) (fun r1 s1 => some (r1, s1))
theorem tlib_charAt_18 (w : ev_W) (d : Nat) (hd : 2 ≤ d) (s : iS) : Ew hT w d 166 18 [(0, .ref (tb_nK + 48))] [] s (Ci hT) (lib_charAt_18 s) := by
  unfold lib_charAt_18
  refine e_mv 19 em_166 (ce_at ce_166 10 rfl) rfl rfl ?_
  refine e_getr 22 em_166 (ce_at ce_166 11 rfl) tq_48 rfl rfl ?_
  refine e_bip 24 em_166 (ce_at ce_166 12 rfl) (by decide) rfl ?_
  refine e_ivi 27 em_166 (ce_at ce_166 13 rfl) (by omega) (iv_v1 (by decide) tq_44 rfl) em_152 (Nat.le_of_ble_eq_true rfl) rfl (tmem_fail w (d - 1) (by omega) _ _) (fun r1 s1 => ?_)
  exact e_reti em_166 (ce_at ce_166 14 rfl)
theorem flib_charAt_18 (s : iS) : Fm Prod.snd L_lib_charAt G_lib_charAt s (lib_charAt_18 s) := fm_bd (fm_sub (fmem_fail _ _) (mem_sub_L rfl) (mem_sub_F rfl)) (fun r1 s1 => fm_some md_refl)
noncomputable def lib_charAt (v1 : Int) (v2 : Int) (s : iS) : Option (Int × iS) := gd (rg v2) (if v2 < 0 then lib_charAt_18 s else bd (mem_read (v1 + 1) s) (fun r3 s3 => gd (rg r3) (if v2 < r3 then bd (mem_read ((v1 + 2) + v2) s3) (fun r6 s6 => some (r6, s6)) else lib_charAt_18 s3)))
theorem tlib_charAt (w : ev_W) (d : Nat) (hd : 2 ≤ d) (v1 : Int) (v2 : Int) (s : iS) : Ew hT w d 166 0 [(0, .ref (tb_nK + 48)), (1, iv v1), (2, iv v2)] [] s (Ci hT) (lib_charAt v1 v2 s) := by
  unfold lib_charAt
  refine e_mv 1 em_166 (ce_at ce_166 0 rfl) rfl rfl ?_
  refine e_gd fun g1 => ?_
  refine e_iflt 18 4 em_166 rfl rfl (ce_at ce_166 1 rfl) g1 (fun h2 => ?_) (fun h2 => ?_)
  · refine e_pk [0] rfl rfl ?_
    exact tlib_charAt_18 w d hd _
  · refine e_mv 5 em_166 (ce_at ce_166 2 rfl) rfl rfl ?_
    refine e_mv 6 em_166 (ce_at ce_166 3 rfl) rfl rfl ?_
    refine e_getr 9 em_166 (ce_at ce_166 4 rfl) tq_48 rfl rfl ?_
    refine e_mv 10 em_166 (ce_at ce_166 5 rfl) rfl rfl ?_
    refine e_op 11 em_166 (ce_at ce_166 6 rfl) rfl rfl ?_
    refine e_iadd 12 em_166 rfl (ce_at ce_166 7 rfl) ?_
    refine e_ivi 15 em_166 (ce_at ce_166 8 rfl) (by omega) (iv_v1 (by decide) tq_44 rfl) em_150 (Nat.le_of_ble_eq_true rfl) rfl (tmem_read w (d - 1) (by omega) _ _) (fun r3 s3 => ?_)
    refine e_gd fun g4 => ?_
    refine e_cmlt 28 18 em_166 rfl rfl (ce_at ce_166 9 rfl) g1 g4 (fun h5 => ?_) (fun h5 => ?_)
    · refine e_mv 29 em_166 (ce_at ce_166 15 rfl) rfl rfl ?_
      refine e_getr 32 em_166 (ce_at ce_166 16 rfl) tq_48 rfl rfl ?_
      refine e_mv 33 em_166 (ce_at ce_166 17 rfl) rfl rfl ?_
      refine e_op 34 em_166 (ce_at ce_166 18 rfl) rfl rfl ?_
      refine e_iadd 35 em_166 rfl (ce_at ce_166 19 rfl) ?_
      refine e_mv 36 em_166 (ce_at ce_166 20 rfl) rfl rfl ?_
      refine e_iadd 37 em_166 rfl (ce_at ce_166 21 rfl) ?_
      refine e_ivi 40 em_166 (ce_at ce_166 22 rfl) (by omega) (iv_v1 (by decide) tq_44 rfl) em_150 (Nat.le_of_ble_eq_true rfl) rfl (tmem_read w (d - 1) (by omega) _ _) (fun r6 s6 => ?_)
      exact e_reti em_166 (ce_at ce_166 23 rfl)
    · refine e_pk [0] rfl rfl ?_
      exact tlib_charAt_18 w d hd _
theorem flib_charAt (v1 : Int) (v2 : Int) (s : iS) : Fm Prod.snd L_lib_charAt G_lib_charAt s (lib_charAt v1 v2 s) := fm_gd (fm_if (flib_charAt_18 _) (fm_bd (fm_sub (fmem_read _ _) (mem_sub_L rfl) (mem_sub_F rfl)) (fun r3 s3 => fm_gd (fm_if (fm_bd (fm_sub (fmem_read _ _) (mem_sub_L rfl) (mem_sub_F rfl)) (fun r6 s6 => fm_some md_refl)) (flib_charAt_18 _)))))
/-! lib_setCharAt -/
def L_lib_setCharAt : List Nat := [45]
def G_lib_setCharAt : List (Nat × Nat) := [(44, 5), (44, 6)]
noncomputable def lib_setCharAt_18 (s : iS) : Option (Int × iS) := bd (mem_fail 16 s) (fun r1 s1 => some (r1, s1))
theorem tlib_setCharAt_18 (w : ev_W) (d : Nat) (hd : 2 ≤ d) (s : iS) : Ew hT w d 167 18 [(0, .ref (tb_nK + 48))] [] s (Ci hT) (lib_setCharAt_18 s) := by
  unfold lib_setCharAt_18
  refine e_mv 19 em_167 (ce_at ce_167 10 rfl) rfl rfl ?_
  refine e_getr 22 em_167 (ce_at ce_167 11 rfl) tq_48 rfl rfl ?_
  refine e_bip 24 em_167 (ce_at ce_167 12 rfl) (by decide) rfl ?_
  refine e_ivi 27 em_167 (ce_at ce_167 13 rfl) (by omega) (iv_v1 (by decide) tq_44 rfl) em_152 (Nat.le_of_ble_eq_true rfl) rfl (tmem_fail w (d - 1) (by omega) _ _) (fun r1 s1 => ?_)
  exact e_reti em_167 (ce_at ce_167 14 rfl)
theorem flib_setCharAt_18 (s : iS) : Fm Prod.snd L_lib_setCharAt G_lib_setCharAt s (lib_setCharAt_18 s) := fm_bd (fm_sub (fmem_fail _ _) (mem_sub_L rfl) (mem_sub_F rfl)) (fun r1 s1 => fm_some md_refl)
noncomputable def lib_setCharAt (v1 : Int) (v2 : Int) (v3 : Int) (s : iS) : Option (Int × iS) := gd (rg v2) (if v2 < 0 then lib_setCharAt_18 s else bd (mem_read (v1 + 1) s) (fun r3 s3 => gd (rg r3) (if v2 < r3 then bd (mem_write ((v1 + 2) + v2) v3 s3) (fun r6 s6 => some (r6, s6)) else lib_setCharAt_18 s3)))
theorem tlib_setCharAt (w : ev_W) (d : Nat) (hd : 2 ≤ d) (v1 : Int) (v2 : Int) (v3 : Int) (s : iS) : Ew hT w d 167 0 [(0, .ref (tb_nK + 48)), (1, iv v1), (2, iv v2), (3, iv v3)] [] s (Ci hT) (lib_setCharAt v1 v2 v3 s) := by
  unfold lib_setCharAt
  refine e_mv 1 em_167 (ce_at ce_167 0 rfl) rfl rfl ?_
  refine e_gd fun g1 => ?_
  refine e_iflt 18 4 em_167 rfl rfl (ce_at ce_167 1 rfl) g1 (fun h2 => ?_) (fun h2 => ?_)
  · refine e_pk [0] rfl rfl ?_
    exact tlib_setCharAt_18 w d hd _
  · refine e_mv 5 em_167 (ce_at ce_167 2 rfl) rfl rfl ?_
    refine e_mv 6 em_167 (ce_at ce_167 3 rfl) rfl rfl ?_
    refine e_getr 9 em_167 (ce_at ce_167 4 rfl) tq_48 rfl rfl ?_
    refine e_mv 10 em_167 (ce_at ce_167 5 rfl) rfl rfl ?_
    refine e_op 11 em_167 (ce_at ce_167 6 rfl) rfl rfl ?_
    refine e_iadd 12 em_167 rfl (ce_at ce_167 7 rfl) ?_
    refine e_ivi 15 em_167 (ce_at ce_167 8 rfl) (by omega) (iv_v1 (by decide) tq_44 rfl) em_150 (Nat.le_of_ble_eq_true rfl) rfl (tmem_read w (d - 1) (by omega) _ _) (fun r3 s3 => ?_)
    refine e_gd fun g4 => ?_
    refine e_cmlt 28 18 em_167 rfl rfl (ce_at ce_167 9 rfl) g1 g4 (fun h5 => ?_) (fun h5 => ?_)
    · refine e_mv 29 em_167 (ce_at ce_167 15 rfl) rfl rfl ?_
      refine e_getr 32 em_167 (ce_at ce_167 16 rfl) tq_48 rfl rfl ?_
      refine e_mv 33 em_167 (ce_at ce_167 17 rfl) rfl rfl ?_
      refine e_op 34 em_167 (ce_at ce_167 18 rfl) rfl rfl ?_
      refine e_iadd 35 em_167 rfl (ce_at ce_167 19 rfl) ?_
      refine e_mv 36 em_167 (ce_at ce_167 20 rfl) rfl rfl ?_
      refine e_iadd 37 em_167 rfl (ce_at ce_167 21 rfl) ?_
      refine e_mv 38 em_167 (ce_at ce_167 22 rfl) rfl rfl ?_
      refine e_ivi 41 em_167 (ce_at ce_167 23 rfl) (by omega) (iv_v2 (by decide) tq_44 rfl) em_157 (Nat.le_of_ble_eq_true rfl) rfl (tmem_write w (d - 1) (by omega) _ _ _) (fun r6 s6 => ?_)
      exact e_reti em_167 (ce_at ce_167 24 rfl)
    · refine e_pk [0] rfl rfl ?_
      exact tlib_setCharAt_18 w d hd _
theorem flib_setCharAt (v1 : Int) (v2 : Int) (v3 : Int) (s : iS) : Fm Prod.snd L_lib_setCharAt G_lib_setCharAt s (lib_setCharAt v1 v2 v3 s) := fm_gd (fm_if (flib_setCharAt_18 _) (fm_bd (fm_sub (fmem_read _ _) (mem_sub_L rfl) (mem_sub_F rfl)) (fun r3 s3 => fm_gd (fm_if (fm_bd (fm_sub (fmem_write _ _ _) (mem_sub_L rfl) (mem_sub_F rfl)) (fun r6 s6 => fm_some md_refl)) (flib_setCharAt_18 _)))))
/-! lib_appendChar -/
def L_lib_appendChar : List Nat := [45]
def G_lib_appendChar : List (Nat × Nat) := [(44, 5), (44, 6)]
noncomputable def lib_appendChar (v1 : Int) (v2 : Int) (s : iS) : Option (Int × iS) := bd (mem_read (v1 + 1) s) (fun r1 s1 => bd (mem_read v1 s1) (fun r2 s2 => gd (rg r1) (gd (rg r2) (if r1 < r2 then bd (mem_write ((v1 + 2) + r1) v2 s2) (fun r6 s6 => bd (mem_write (v1 + 1) (r1 + 1) s6) (fun r7 s7 => some (v1, s7))) else bd (mem_fail 17 s2) (fun r8 s8 => some (r8, s8))))))
theorem tlib_appendChar (w : ev_W) (d : Nat) (hd : 2 ≤ d) (v1 : Int) (v2 : Int) (s : iS) : Ew hT w d 168 0 [(0, .ref (tb_nK + 48)), (1, iv v1), (2, iv v2)] [] s (Ci hT) (lib_appendChar v1 v2 s) := by
  unfold lib_appendChar
  refine e_mv 1 em_168 (ce_at ce_168 0 rfl) rfl rfl ?_
  refine e_getr 4 em_168 (ce_at ce_168 1 rfl) tq_48 rfl rfl ?_
  refine e_mv 5 em_168 (ce_at ce_168 2 rfl) rfl rfl ?_
  refine e_op 6 em_168 (ce_at ce_168 3 rfl) rfl rfl ?_
  refine e_iadd 7 em_168 rfl (ce_at ce_168 4 rfl) ?_
  refine e_ivi 10 em_168 (ce_at ce_168 5 rfl) (by omega) (iv_v1 (by decide) tq_44 rfl) em_150 (Nat.le_of_ble_eq_true rfl) rfl (tmem_read w (d - 1) (by omega) _ _) (fun r1 s1 => ?_)
  refine e_mv 11 em_168 (ce_at ce_168 6 rfl) rfl rfl ?_
  refine e_mv 12 em_168 (ce_at ce_168 7 rfl) rfl rfl ?_
  refine e_mv 13 em_168 (ce_at ce_168 8 rfl) rfl rfl ?_
  refine e_getr 16 em_168 (ce_at ce_168 9 rfl) tq_48 rfl rfl ?_
  refine e_mv 17 em_168 (ce_at ce_168 10 rfl) rfl rfl ?_
  refine e_ivi 20 em_168 (ce_at ce_168 11 rfl) (by omega) (iv_v1 (by decide) tq_44 rfl) em_150 (Nat.le_of_ble_eq_true rfl) rfl (tmem_read w (d - 1) (by omega) _ _) (fun r2 s2 => ?_)
  refine e_gd fun g3 => ?_
  refine e_gd fun g4 => ?_
  refine e_cmlt 33 23 em_168 rfl rfl (ce_at ce_168 12 rfl) g3 g4 (fun h5 => ?_) (fun h5 => ?_)
  · refine e_mv 34 em_168 (ce_at ce_168 18 rfl) rfl rfl ?_
    refine e_getr 37 em_168 (ce_at ce_168 19 rfl) tq_48 rfl rfl ?_
    refine e_mv 38 em_168 (ce_at ce_168 20 rfl) rfl rfl ?_
    refine e_op 39 em_168 (ce_at ce_168 21 rfl) rfl rfl ?_
    refine e_iadd 40 em_168 rfl (ce_at ce_168 22 rfl) ?_
    refine e_mv 41 em_168 (ce_at ce_168 23 rfl) rfl rfl ?_
    refine e_iadd 42 em_168 rfl (ce_at ce_168 24 rfl) ?_
    refine e_mv 43 em_168 (ce_at ce_168 25 rfl) rfl rfl ?_
    refine e_ivi 46 em_168 (ce_at ce_168 26 rfl) (by omega) (iv_v2 (by decide) tq_44 rfl) em_157 (Nat.le_of_ble_eq_true rfl) rfl (tmem_write w (d - 1) (by omega) _ _ _) (fun r6 s6 => ?_)
    refine e_op 47 em_168 (ce_at ce_168 27 rfl) rfl rfl ?_
    refine e_mv 48 em_168 (ce_at ce_168 28 rfl) rfl rfl ?_
    refine e_getr 51 em_168 (ce_at ce_168 29 rfl) tq_48 rfl rfl ?_
    refine e_mv 52 em_168 (ce_at ce_168 30 rfl) rfl rfl ?_
    refine e_op 53 em_168 (ce_at ce_168 31 rfl) rfl rfl ?_
    refine e_iadd 54 em_168 rfl (ce_at ce_168 32 rfl) ?_
    refine e_mv 55 em_168 (ce_at ce_168 33 rfl) rfl rfl ?_
    refine e_op 56 em_168 (ce_at ce_168 34 rfl) rfl rfl ?_
    refine e_iadd 57 em_168 rfl (ce_at ce_168 35 rfl) ?_
    refine e_ivi 60 em_168 (ce_at ce_168 36 rfl) (by omega) (iv_v2 (by decide) tq_44 rfl) em_157 (Nat.le_of_ble_eq_true rfl) rfl (tmem_write w (d - 1) (by omega) _ _ _) (fun r7 s7 => ?_)
    refine e_op 61 em_168 (ce_at ce_168 37 rfl) rfl rfl ?_
    refine e_mv 62 em_168 (ce_at ce_168 38 rfl) rfl rfl ?_
    exact e_reti em_168 (ce_at ce_168 39 rfl)
  · refine e_mv 24 em_168 (ce_at ce_168 13 rfl) rfl rfl ?_
    refine e_getr 27 em_168 (ce_at ce_168 14 rfl) tq_48 rfl rfl ?_
    refine e_bip 29 em_168 (ce_at ce_168 15 rfl) (by decide) rfl ?_
    refine e_ivi 32 em_168 (ce_at ce_168 16 rfl) (by omega) (iv_v1 (by decide) tq_44 rfl) em_152 (Nat.le_of_ble_eq_true rfl) rfl (tmem_fail w (d - 1) (by omega) _ _) (fun r8 s8 => ?_)
    exact e_reti em_168 (ce_at ce_168 17 rfl)
theorem flib_appendChar (v1 : Int) (v2 : Int) (s : iS) : Fm Prod.snd L_lib_appendChar G_lib_appendChar s (lib_appendChar v1 v2 s) := fm_bd (fm_sub (fmem_read _ _) (mem_sub_L rfl) (mem_sub_F rfl)) (fun r1 s1 => fm_bd (fm_sub (fmem_read _ _) (mem_sub_L rfl) (mem_sub_F rfl)) (fun r2 s2 => fm_gd (fm_gd (fm_if (fm_bd (fm_sub (fmem_write _ _ _) (mem_sub_L rfl) (mem_sub_F rfl)) (fun r6 s6 => fm_bd (fm_sub (fmem_write _ _ _) (mem_sub_L rfl) (mem_sub_F rfl)) (fun r7 s7 => fm_some md_refl))) (fm_bd (fm_sub (fmem_fail _ _) (mem_sub_L rfl) (mem_sub_F rfl)) (fun r8 s8 => fm_some md_refl))))))
/-! lib_eraseLastChar -/
def L_lib_eraseLastChar : List Nat := [45]
def G_lib_eraseLastChar : List (Nat × Nat) := [(44, 5), (44, 6)]
noncomputable def lib_eraseLastChar (v1 : Int) (s : iS) : Option (Int × iS) := bd (mem_read (v1 + 1) s) (fun r1 s1 => gd (rg r1) (if 1 ≤ r1 then bd (mem_write (v1 + 1) (r1 - 1) s1) (fun r4 s4 => some (r4, s4)) else bd (mem_fail 18 s1) (fun r5 s5 => some (r5, s5))))
theorem tlib_eraseLastChar (w : ev_W) (d : Nat) (hd : 2 ≤ d) (v1 : Int) (s : iS) : Ew hT w d 169 0 [(0, .ref (tb_nK + 48)), (1, iv v1)] [] s (Ci hT) (lib_eraseLastChar v1 s) := by
  unfold lib_eraseLastChar
  refine e_mv 1 em_169 (ce_at ce_169 0 rfl) rfl rfl ?_
  refine e_getr 4 em_169 (ce_at ce_169 1 rfl) tq_48 rfl rfl ?_
  refine e_mv 5 em_169 (ce_at ce_169 2 rfl) rfl rfl ?_
  refine e_op 6 em_169 (ce_at ce_169 3 rfl) rfl rfl ?_
  refine e_iadd 7 em_169 rfl (ce_at ce_169 4 rfl) ?_
  refine e_ivi 10 em_169 (ce_at ce_169 5 rfl) (by omega) (iv_v1 (by decide) tq_44 rfl) em_150 (Nat.le_of_ble_eq_true rfl) rfl (tmem_read w (d - 1) (by omega) _ _) (fun r1 s1 => ?_)
  refine e_mv 11 em_169 (ce_at ce_169 6 rfl) rfl rfl ?_
  refine e_mv 12 em_169 (ce_at ce_169 7 rfl) rfl rfl ?_
  refine e_op 13 em_169 (ce_at ce_169 8 rfl) rfl rfl ?_
  refine e_gd fun g2 => ?_
  refine e_cmge 28 16 em_169 rfl rfl (ce_at ce_169 9 rfl) g2 (by decide) (fun h3 => ?_) (fun h3 => ?_)
  · refine e_mv 29 em_169 (ce_at ce_169 15 rfl) rfl rfl ?_
    refine e_getr 32 em_169 (ce_at ce_169 16 rfl) tq_48 rfl rfl ?_
    refine e_mv 33 em_169 (ce_at ce_169 17 rfl) rfl rfl ?_
    refine e_op 34 em_169 (ce_at ce_169 18 rfl) rfl rfl ?_
    refine e_iadd 35 em_169 rfl (ce_at ce_169 19 rfl) ?_
    refine e_mv 36 em_169 (ce_at ce_169 20 rfl) rfl rfl ?_
    refine e_op 37 em_169 (ce_at ce_169 21 rfl) rfl rfl ?_
    refine e_isub 38 em_169 rfl (ce_at ce_169 22 rfl) ?_
    refine e_ivi 41 em_169 (ce_at ce_169 23 rfl) (by omega) (iv_v2 (by decide) tq_44 rfl) em_157 (Nat.le_of_ble_eq_true rfl) rfl (tmem_write w (d - 1) (by omega) _ _ _) (fun r4 s4 => ?_)
    exact e_reti em_169 (ce_at ce_169 24 rfl)
  · refine e_mv 17 em_169 (ce_at ce_169 10 rfl) rfl rfl ?_
    refine e_getr 20 em_169 (ce_at ce_169 11 rfl) tq_48 rfl rfl ?_
    refine e_bip 22 em_169 (ce_at ce_169 12 rfl) (by decide) rfl ?_
    refine e_ivi 25 em_169 (ce_at ce_169 13 rfl) (by omega) (iv_v1 (by decide) tq_44 rfl) em_152 (Nat.le_of_ble_eq_true rfl) rfl (tmem_fail w (d - 1) (by omega) _ _) (fun r5 s5 => ?_)
    refine e_goto em_169 41 (ce_at ce_169 14 rfl) rfl ?_
    exact e_reti em_169 (ce_at ce_169 24 rfl)
theorem flib_eraseLastChar (v1 : Int) (s : iS) : Fm Prod.snd L_lib_eraseLastChar G_lib_eraseLastChar s (lib_eraseLastChar v1 s) := fm_bd (fm_sub (fmem_read _ _) (mem_sub_L rfl) (mem_sub_F rfl)) (fun r1 s1 => fm_gd (fm_if (fm_bd (fm_sub (fmem_write _ _ _) (mem_sub_L rfl) (mem_sub_F rfl)) (fun r4 s4 => fm_some md_refl)) (fm_bd (fm_sub (fmem_fail _ _) (mem_sub_L rfl) (mem_sub_F rfl)) (fun r5 s5 => fm_some md_refl))))
/-! lib_intValue -/
def L_lib_intValue : List Nat := []
def G_lib_intValue : List (Nat × Nat) := [(44, 5), (44, 6)]
def lib_intValue_50C (w : ev_W) (d : Nat) (v1 : Int) (v2 : Int) (v3 : Int) : (Int × Int × iS) ⊕ ((Int × iS) ⊕ (Int × iS)) → am_E → Prop := fun q r => q.elim (fun l => ev w d 170 50 ((fun l => [(0, .ref (tb_nK + 48)), (1, iv v1), (2, iv v2), (3, iv v3), (4, iv (l.1)), (5, iv (l.2.1))]) l) [] (hT ((fun l => l.2.2) l)) r) (fun e => (fun e r => e.elim (fun e => ev w d 170 89 [(3, iv v3), (4, iv (e.1))] [] (hT (e.2)) r) (fun e => ev w d 170 112 [(3, iv v3), (4, iv (e.1))] [] (hT (e.2)) r)) e r)
noncomputable def lib_intValue_50b (v1 : Int) (v2 : Int) (v3 : Int) (v4 : Int) (v5 : Int) (s : iS) : Option ((Int × Int × iS) ⊕ ((Int × iS) ⊕ (Int × iS))) := gd (rg v5) (gd (rg v2) (if v2 ≤ v5 then some (.inr (.inr (v4, s))) else gd (rg (s 44 5)) (if (s 44 5) = 0 then bd (mem_read ((v1 + 2) + v5) s) (fun r6 s6 => bd (x_isDigit r6 s6) (fun r7 s7 => gd (rg r7) (if r7 = 0 then some (.inr (.inl (v4, s7))) else some (.inl ((i_s (((10 * v4) + r6) - 48)), (v5 + 1), s7))))) else some (.inr (.inr (v4, s))))))
theorem tlib_intValue_50b (w : ev_W) (d : Nat) (hd : 2 ≤ d) (v1 : Int) (v2 : Int) (v3 : Int) (v4 : Int) (v5 : Int) (s : iS) : Ew hT w d 170 50 [(0, .ref (tb_nK + 48)), (1, iv v1), (2, iv v2), (3, iv v3), (4, iv v4), (5, iv v5)] [] s (lib_intValue_50C w d v1 v2 v3) (lib_intValue_50b v1 v2 v3 v4 v5 s) := by
  unfold lib_intValue_50b
  refine e_mv 52 em_170 (ce_at ce_170 29 rfl) rfl rfl ?_
  refine e_mv 53 em_170 (ce_at ce_170 30 rfl) rfl rfl ?_
  refine e_gd fun g1 => ?_
  refine e_gd fun g2 => ?_
  refine e_cmge 112 56 em_170 rfl rfl (ce_at ce_170 31 rfl) g1 g2 (fun h3 => ?_) (fun h3 => ?_)
  · refine e_pk [3, 4] rfl rfl ?_
    exact e_out (fun r h => h)
  · refine e_mv 57 em_170 (ce_at ce_170 32 rfl) rfl rfl ?_
    refine e_getr 60 em_170 (ce_at ce_170 33 rfl) tq_48 rfl rfl ?_
    refine e_get 63 em_170 (ce_at ce_170 34 rfl) tq_44 rfl rfl ?_
    refine e_gd fun g4 => ?_
    refine e_ifne 112 66 em_170 rfl rfl (ce_at ce_170 35 rfl) g4 (fun h5 => ?_) (fun h5 => ?_)
    · refine e_pk [3, 4] rfl rfl ?_
      exact e_out (fun r h => h)
    · refine e_mv 67 em_170 (ce_at ce_170 36 rfl) rfl rfl ?_
      refine e_getr 70 em_170 (ce_at ce_170 37 rfl) tq_48 rfl rfl ?_
      refine e_mv 71 em_170 (ce_at ce_170 38 rfl) rfl rfl ?_
      refine e_op 72 em_170 (ce_at ce_170 39 rfl) rfl rfl ?_
      refine e_iadd 73 em_170 rfl (ce_at ce_170 40 rfl) ?_
      refine e_mv 75 em_170 (ce_at ce_170 41 rfl) rfl rfl ?_
      refine e_iadd 76 em_170 rfl (ce_at ce_170 42 rfl) ?_
      refine e_ivi 79 em_170 (ce_at ce_170 43 rfl) (by omega) (iv_v1 (by decide) tq_44 rfl) em_150 (Nat.le_of_ble_eq_true rfl) rfl (tmem_read w (d - 1) (by omega) _ _) (fun r6 s6 => ?_)
      refine e_mv 81 em_170 (ce_at ce_170 44 rfl) rfl rfl ?_
      refine e_mv 83 em_170 (ce_at ce_170 45 rfl) rfl rfl ?_
      refine e_ivi 86 em_170 (ce_at ce_170 46 rfl) (by omega) (iv_s1 rfl) em_38 (Nat.le_of_ble_eq_true rfl) rfl (tx_isDigit hT w (d - 1) (by omega) _ _) (fun r7 s7 => ?_)
      refine e_gd fun g8 => ?_
      refine e_ifne 92 89 em_170 rfl rfl (ce_at ce_170 47 rfl) g8 (fun h9 => ?_) (fun h9 => ?_)
      · refine e_bip 94 em_170 (ce_at ce_170 49 rfl) (by decide) rfl ?_
        refine e_mv 96 em_170 (ce_at ce_170 50 rfl) rfl rfl ?_
        refine e_imul 97 em_170 rfl (ce_at ce_170 51 rfl) ?_
        refine e_mv 99 em_170 (ce_at ce_170 52 rfl) rfl rfl ?_
        refine e_iadd 100 em_170 rfl (ce_at ce_170 53 rfl) ?_
        refine e_bip 102 em_170 (ce_at ce_170 54 rfl) (by decide) rfl ?_
        refine e_isub 103 em_170 rfl (ce_at ce_170 55 rfl) ?_
        refine e_i2s 104 em_170 rfl (ce_at ce_170 56 rfl) ?_
        refine e_mv 106 em_170 (ce_at ce_170 57 rfl) rfl rfl ?_
        refine e_iinc 109 em_170 (ce_at ce_170 58 rfl) rfl (by decide) rfl ?_
        refine e_goto em_170 50 (ce_at ce_170 59 rfl) rfl ?_
        refine e_pk [0, 1, 2, 3, 4, 5] rfl rfl ?_
        exact e_out (fun r h => h)
      · refine e_pk [3, 4] rfl rfl ?_
        exact e_out (fun r h => h)
theorem flib_intValue_50b (v1 : Int) (v2 : Int) (v3 : Int) (v4 : Int) (v5 : Int) (s : iS) : Fm (fun r : (Int × Int × iS) ⊕ ((Int × iS) ⊕ (Int × iS)) => r.elim (fun l => l.2.2) (fun e => e.elim (fun e => e.2) (fun e => e.2))) L_lib_intValue G_lib_intValue s (lib_intValue_50b v1 v2 v3 v4 v5 s) := fm_gd (fm_gd (fm_if (fm_some md_refl) (fm_gd (fm_if (fm_bd (fm_sub (fmem_read _ _) (mem_sub_L rfl) (mem_sub_F rfl)) (fun r6 s6 => fm_bd (fm_sub (fx_isDigit _ _) (mem_sub_L rfl) (mem_sub_F rfl)) (fun r7 s7 => fm_gd (fm_if (fm_some md_refl) (fm_some md_refl))))) (fm_some md_refl)))))
noncomputable def lib_intValue_112 (v3 : Int) (v4 : Int) (s : iS) : Option (Int × iS) := gd (rg v3) (if v3 = 0 then some ((i_s v4), s) else some ((i_s (-v4)), s))
theorem tlib_intValue_112 (w : ev_W) (d : Nat) (hd : 2 ≤ d) (v3 : Int) (v4 : Int) (s : iS) : Ew hT w d 170 112 [(3, iv v3), (4, iv v4)] [] s (Ci hT) (lib_intValue_112 v3 v4 s) := by
  unfold lib_intValue_112
  refine e_mv 113 em_170 (ce_at ce_170 60 rfl) rfl rfl ?_
  refine e_gd fun g1 => ?_
  refine e_ifeq 122 116 em_170 rfl rfl (ce_at ce_170 61 rfl) g1 (fun h2 => ?_) (fun h2 => ?_)
  · refine e_mv 124 em_170 (ce_at ce_170 65 rfl) rfl rfl ?_
    refine e_i2s 125 em_170 rfl (ce_at ce_170 66 rfl) ?_
    exact e_reti em_170 (ce_at ce_170 67 rfl)
  · refine e_mv 118 em_170 (ce_at ce_170 62 rfl) rfl rfl ?_
    refine e_ineg 119 em_170 rfl (ce_at ce_170 63 rfl) ?_
    refine e_goto em_170 124 (ce_at ce_170 64 rfl) rfl ?_
    refine e_i2s 125 em_170 rfl (ce_at ce_170 66 rfl) ?_
    exact e_reti em_170 (ce_at ce_170 67 rfl)
theorem flib_intValue_112 (v3 : Int) (v4 : Int) (s : iS) : Fm Prod.snd L_lib_intValue G_lib_intValue s (lib_intValue_112 v3 v4 s) := fm_gd (fm_if (fm_some md_refl) (fm_some md_refl))
noncomputable def lib_intValue_89 (v3 : Int) (v4 : Int) (s : iS) : Option (Int × iS) := lib_intValue_112 v3 v4 s
theorem tlib_intValue_89 (w : ev_W) (d : Nat) (hd : 2 ≤ d) (v3 : Int) (v4 : Int) (s : iS) : Ew hT w d 170 89 [(3, iv v3), (4, iv v4)] [] s (Ci hT) (lib_intValue_89 v3 v4 s) := by
  unfold lib_intValue_89
  refine e_goto em_170 112 (ce_at ce_170 48 rfl) rfl ?_
  refine e_pk [3, 4] rfl rfl ?_
  exact tlib_intValue_112 w d hd _ _ _
theorem flib_intValue_89 (v3 : Int) (v4 : Int) (s : iS) : Fm Prod.snd L_lib_intValue G_lib_intValue s (lib_intValue_89 v3 v4 s) := flib_intValue_112 _ _ _
noncomputable def lib_intValue_50 (v1 : Int) (v2 : Int) (v3 : Int) (v4 : Int) (v5 : Int) (s : iS) : Option (Int × iS) := (lp (L := Int × Int × iS) (E := (Int × iS) ⊕ (Int × iS)) (fun l => lib_intValue_50b v1 v2 v3 (l.1) (l.2.1) (l.2.2)) (v4, v5, s)).bind (fun e => e.elim (fun e => lib_intValue_89 v3 (e.1) (e.2)) (fun e => lib_intValue_112 v3 (e.1) (e.2)))
theorem tlib_intValue_50 (w : ev_W) (d : Nat) (hd : 2 ≤ d) (v1 : Int) (v2 : Int) (v3 : Int) (v4 : Int) (v5 : Int) (s : iS) : Ew hT w d 170 50 [(0, .ref (tb_nK + 48)), (1, iv v1), (2, iv v2), (3, iv v3), (4, iv v4), (5, iv v5)] [] s (Ci hT) (lib_intValue_50 v1 v2 v3 v4 v5 s) := by
  unfold lib_intValue_50
  refine e_lp (L := Int × Int × iS) (E := (Int × iS) ⊕ (Int × iS)) (LO := fun l => [(0, .ref (tb_nK + 48)), (1, iv v1), (2, iv v2), (3, iv v3), (4, iv (l.1)), (5, iv (l.2.1))]) (LS := fun l => l.2.2) (CE := fun e r => e.elim (fun e => ev w d 170 89 [(3, iv v3), (4, iv (e.1))] [] (hT (e.2)) r) (fun e => ev w d 170 112 [(3, iv v3), (4, iv (e.1))] [] (hT (e.2)) r)) (fun l => tlib_intValue_50b w d hd _ _ _ _ _ _) ?_ (v4, v5, s)
  rintro (e | e)
  · show Ew hT w d 170 89 [(3, iv v3), (4, iv (e.1))] [] e.2 (Ci hT) _
    refine e_pk [3, 4] rfl rfl ?_
    exact tlib_intValue_89 w d hd _ _ _
  · show Ew hT w d 170 112 [(3, iv v3), (4, iv (e.1))] [] e.2 (Ci hT) _
    refine e_pk [3, 4] rfl rfl ?_
    exact tlib_intValue_112 w d hd _ _ _
theorem flib_intValue_50 (v1 : Int) (v2 : Int) (v3 : Int) (v4 : Int) (v5 : Int) (s : iS) : Fm Prod.snd L_lib_intValue G_lib_intValue s (lib_intValue_50 v1 v2 v3 v4 v5 s) := by
  unfold lib_intValue_50
  refine fm_lp (A := Int × Int × iS) (E := (Int × iS) ⊕ (Int × iS)) (LS := fun l => l.2.2) (LE := fun e => e.elim (fun e => e.2) (fun e => e.2)) ?_ ?_ (v4, v5, s)
  · exact fun l => flib_intValue_50b _ _ _ _ _ _
  · exact (by rintro (e | e); exact flib_intValue_89 _ _ _; exact flib_intValue_112 _ _ _)
noncomputable def lib_intValue_48 (v1 : Int) (v2 : Int) (v3 : Int) (v4 : Int) (t0 : Int) (s : iS) : Option (Int × iS) := lib_intValue_50 v1 v2 v3 v4 t0 s
theorem tlib_intValue_48 (w : ev_W) (d : Nat) (hd : 2 ≤ d) (v1 : Int) (v2 : Int) (v3 : Int) (v4 : Int) (t0 : Int) (s : iS) : Ew hT w d 170 48 [(0, .ref (tb_nK + 48)), (1, iv v1), (2, iv v2), (3, iv v3), (4, iv v4)] [iv t0] s (Ci hT) (lib_intValue_48 v1 v2 v3 v4 t0 s) := by
  unfold lib_intValue_48
  refine e_mv 50 em_170 (ce_at ce_170 28 rfl) rfl rfl ?_
  refine e_pk [0, 1, 2, 3, 4, 5] rfl rfl ?_
  exact tlib_intValue_50 w d hd _ _ _ _ _ _
theorem flib_intValue_48 (v1 : Int) (v2 : Int) (v3 : Int) (v4 : Int) (t0 : Int) (s : iS) : Fm Prod.snd L_lib_intValue G_lib_intValue s (lib_intValue_48 v1 v2 v3 v4 t0 s) := flib_intValue_50 _ _ _ _ _ _
noncomputable def lib_intValue_35 (v1 : Int) (v2 : Int) (t0 : Int) (s : iS) : Option (Int × iS) := gd (rg t0) (if t0 = 0 then lib_intValue_48 v1 v2 t0 0 0 s else lib_intValue_48 v1 v2 t0 0 1 s)
theorem tlib_intValue_35 (w : ev_W) (d : Nat) (hd : 2 ≤ d) (v1 : Int) (v2 : Int) (t0 : Int) (s : iS) : Ew hT w d 170 35 [(0, .ref (tb_nK + 48)), (1, iv v1), (2, iv v2)] [iv t0] s (Ci hT) (lib_intValue_35 v1 v2 t0 s) := by
  unfold lib_intValue_35
  refine e_mv 36 em_170 (ce_at ce_170 20 rfl) rfl rfl ?_
  refine e_op 37 em_170 (ce_at ce_170 21 rfl) rfl rfl ?_
  refine e_mv 39 em_170 (ce_at ce_170 22 rfl) rfl rfl ?_
  refine e_mv 40 em_170 (ce_at ce_170 23 rfl) rfl rfl ?_
  refine e_gd fun g1 => ?_
  refine e_ifeq 47 43 em_170 rfl rfl (ce_at ce_170 24 rfl) g1 (fun h2 => ?_) (fun h2 => ?_)
  · refine e_op 48 em_170 (ce_at ce_170 27 rfl) rfl rfl ?_
    refine e_pk [0, 1, 2, 3, 4] rfl rfl ?_
    exact tlib_intValue_48 w d hd _ _ _ _ _ _
  · refine e_op 44 em_170 (ce_at ce_170 25 rfl) rfl rfl ?_
    refine e_goto em_170 48 (ce_at ce_170 26 rfl) rfl ?_
    refine e_pk [0, 1, 2, 3, 4] rfl rfl ?_
    exact tlib_intValue_48 w d hd _ _ _ _ _ _
theorem flib_intValue_35 (v1 : Int) (v2 : Int) (t0 : Int) (s : iS) : Fm Prod.snd L_lib_intValue G_lib_intValue s (lib_intValue_35 v1 v2 t0 s) := fm_gd (fm_if (flib_intValue_48 _ _ _ _ _ _) (flib_intValue_48 _ _ _ _ _ _))
noncomputable def lib_intValue_34 (v1 : Int) (v2 : Int) (s : iS) : Option (Int × iS) := lib_intValue_35 v1 v2 0 s
theorem tlib_intValue_34 (w : ev_W) (d : Nat) (hd : 2 ≤ d) (v1 : Int) (v2 : Int) (s : iS) : Ew hT w d 170 34 [(0, .ref (tb_nK + 48)), (1, iv v1), (2, iv v2)] [] s (Ci hT) (lib_intValue_34 v1 v2 s) := by
  unfold lib_intValue_34
  refine e_op 35 em_170 (ce_at ce_170 19 rfl) rfl rfl ?_
  refine e_pk [0, 1, 2] rfl rfl ?_
  exact tlib_intValue_35 w d hd _ _ _ _
theorem flib_intValue_34 (v1 : Int) (v2 : Int) (s : iS) : Fm Prod.snd L_lib_intValue G_lib_intValue s (lib_intValue_34 v1 v2 s) := flib_intValue_35 _ _ _ _
noncomputable def lib_intValue (v1 : Int) (s : iS) : Option (Int × iS) := bd (mem_read (v1 + 1) s) (fun r1 s1 => gd (rg r1) (if r1 ≤ 0 then lib_intValue_34 v1 r1 s1 else bd (mem_read (v1 + 2) s1) (fun r4 s4 => gd (rg r4) (if r4 = 45 then lib_intValue_35 v1 r1 1 s4 else lib_intValue_34 v1 r1 s4))))
theorem tlib_intValue (w : ev_W) (d : Nat) (hd : 2 ≤ d) (v1 : Int) (s : iS) : Ew hT w d 170 0 [(0, .ref (tb_nK + 48)), (1, iv v1)] [] s (Ci hT) (lib_intValue v1 s) := by
  unfold lib_intValue
  refine e_mv 1 em_170 (ce_at ce_170 0 rfl) rfl rfl ?_
  refine e_getr 4 em_170 (ce_at ce_170 1 rfl) tq_48 rfl rfl ?_
  refine e_mv 5 em_170 (ce_at ce_170 2 rfl) rfl rfl ?_
  refine e_op 6 em_170 (ce_at ce_170 3 rfl) rfl rfl ?_
  refine e_iadd 7 em_170 rfl (ce_at ce_170 4 rfl) ?_
  refine e_ivi 10 em_170 (ce_at ce_170 5 rfl) (by omega) (iv_v1 (by decide) tq_44 rfl) em_150 (Nat.le_of_ble_eq_true rfl) rfl (tmem_read w (d - 1) (by omega) _ _) (fun r1 s1 => ?_)
  refine e_mv 11 em_170 (ce_at ce_170 6 rfl) rfl rfl ?_
  refine e_mv 12 em_170 (ce_at ce_170 7 rfl) rfl rfl ?_
  refine e_gd fun g2 => ?_
  refine e_ifle 34 15 em_170 rfl rfl (ce_at ce_170 8 rfl) g2 (fun h3 => ?_) (fun h3 => ?_)
  · refine e_pk [0, 1, 2] rfl rfl ?_
    exact tlib_intValue_34 w d hd _ _ _
  · refine e_mv 16 em_170 (ce_at ce_170 9 rfl) rfl rfl ?_
    refine e_getr 19 em_170 (ce_at ce_170 10 rfl) tq_48 rfl rfl ?_
    refine e_mv 20 em_170 (ce_at ce_170 11 rfl) rfl rfl ?_
    refine e_op 21 em_170 (ce_at ce_170 12 rfl) rfl rfl ?_
    refine e_iadd 22 em_170 rfl (ce_at ce_170 13 rfl) ?_
    refine e_ivi 25 em_170 (ce_at ce_170 14 rfl) (by omega) (iv_v1 (by decide) tq_44 rfl) em_150 (Nat.le_of_ble_eq_true rfl) rfl (tmem_read w (d - 1) (by omega) _ _) (fun r4 s4 => ?_)
    refine e_bip 27 em_170 (ce_at ce_170 15 rfl) (by decide) rfl ?_
    refine e_gd fun g5 => ?_
    refine e_cmne 34 30 em_170 rfl rfl (ce_at ce_170 16 rfl) g5 (by decide) (fun h6 => ?_) (fun h6 => ?_)
    · refine e_pk [0, 1, 2] rfl rfl ?_
      exact tlib_intValue_34 w d hd _ _ _
    · refine e_op 31 em_170 (ce_at ce_170 17 rfl) rfl rfl ?_
      refine e_goto em_170 35 (ce_at ce_170 18 rfl) rfl ?_
      refine e_pk [0, 1, 2] rfl rfl ?_
      exact tlib_intValue_35 w d hd _ _ _ _
theorem flib_intValue (v1 : Int) (s : iS) : Fm Prod.snd L_lib_intValue G_lib_intValue s (lib_intValue v1 s) := fm_bd (fm_sub (fmem_read _ _) (mem_sub_L rfl) (mem_sub_F rfl)) (fun r1 s1 => fm_gd (fm_if (flib_intValue_34 _ _ _) (fm_bd (fm_sub (fmem_read _ _) (mem_sub_L rfl) (mem_sub_F rfl)) (fun r4 s4 => fm_gd (fm_if (flib_intValue_35 _ _ _ _) (flib_intValue_34 _ _ _))))))
