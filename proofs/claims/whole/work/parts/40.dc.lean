/-! what the methods do, as functions, and that the machine does it; printed by wip/whole/dc.py -/
/-! x_append -/
def L_x_append : List Nat := [1]
def G_x_append : List (Nat × Nat) := [(0, 1)]
def x_append_3C (w : ev_W) (d : Nat) (v1 : Int) : (Int × iS) ⊕ (iS) → am_E → Prop := fun q r => q.elim (fun l => ev w d 30 3 ((fun l => [(0, .ref (tb_nK + 0)), (1, iv v1), (2, iv (l.1))]) l) [] (hT ((fun l => l.2) l)) r) (fun e => (fun e r => ev w d 30 49 [] [] (hT (e)) r) e r)
noncomputable def x_append_3b (v1 : Int) (v2 : Int) (s : iS) : Option ((Int × iS) ⊕ (iS)) := gd (rg v2) (if v2 < 0 then some (.inr s) else gd (rg (s 0 1)) (if 4000 ≤ (s 0 1) then some (.inl ((v2 + (-8)), s)) else gd (0 ≤ (s 0 1) ∧ (s 0 1) < 4000) (lt' (up s 1 (s 0 1).toNat (i_and (i_shr v1 v2) 255)) (fun s6 => lt' (up s6 0 1 ((s6 0 1) + 1)) (fun s7 => some (.inl ((v2 + (-8)), s7)))))))
theorem tx_append_3b (w : ev_W) (d : Nat) (hd : 0 ≤ d) (v1 : Int) (v2 : Int) (s : iS) : Ew hT w d 30 3 [(0, .ref (tb_nK + 0)), (1, iv v1), (2, iv v2)] [] s (x_append_3C w d v1) (x_append_3b v1 v2 s) := by
  unfold x_append_3b
  refine e_mv 4 em_30 (ce_at ce_30 2 rfl) rfl rfl ?_
  refine e_gd fun g1 => ?_
  refine e_iflt 49 7 em_30 rfl rfl (ce_at ce_30 3 rfl) g1 (fun h2 => ?_) (fun h2 => ?_)
  · refine e_pk [] rfl rfl ?_
    exact e_out (fun r h => h)
  · refine e_mv 8 em_30 (ce_at ce_30 4 rfl) rfl rfl ?_
    refine e_get 11 em_30 (ce_at ce_30 5 rfl) tq_0 rfl rfl ?_
    refine e_sip 14 em_30 (ce_at ce_30 6 rfl) (by decide) rfl ?_
    refine e_gd fun g3 => ?_
    refine e_cmge 43 17 em_30 rfl rfl (ce_at ce_30 7 rfl) g3 (by decide) (fun h4 => ?_) (fun h4 => ?_)
    · refine e_iinc 46 em_30 (ce_at ce_30 24 rfl) rfl (by decide) rfl ?_
      refine e_goto em_30 3 (ce_at ce_30 25 rfl) rfl ?_
      refine e_pk [0, 1, 2] rfl rfl ?_
      exact e_out (fun r h => h)
    · refine e_mv 18 em_30 (ce_at ce_30 8 rfl) rfl rfl ?_
      refine e_getr 21 em_30 (ce_at ce_30 9 rfl) tq_0 rfl rfl ?_
      refine e_mv 22 em_30 (ce_at ce_30 10 rfl) rfl rfl ?_
      refine e_get 25 em_30 (ce_at ce_30 11 rfl) tq_0 rfl rfl ?_
      refine e_mv 26 em_30 (ce_at ce_30 12 rfl) rfl rfl ?_
      refine e_mv 27 em_30 (ce_at ce_30 13 rfl) rfl rfl ?_
      refine e_ishr 28 em_30 rfl (ce_at ce_30 14 rfl) ?_
      refine e_sip 31 em_30 (ce_at ce_30 15 rfl) (by decide) rfl ?_
      refine e_iand 32 em_30 rfl (ce_at ce_30 16 rfl) ?_
      refine e_gd fun g5 => ?_
      refine e_ist 33 em_30 (ce_at ce_30 17 rfl) tq_1 (by decide) g5 rfl (fun s6 => ?_)
      refine e_mv 34 em_30 (ce_at ce_30 18 rfl) rfl rfl ?_
      refine e_op 35 em_30 (ce_at ce_30 19 rfl) rfl rfl ?_
      refine e_get 38 em_30 (ce_at ce_30 20 rfl) tq_0 rfl rfl ?_
      refine e_op 39 em_30 (ce_at ce_30 21 rfl) rfl rfl ?_
      refine e_iadd 40 em_30 rfl (ce_at ce_30 22 rfl) ?_
      refine e_put 43 em_30 (ce_at ce_30 23 rfl) tq_0 rfl rfl rfl (fun s7 => ?_)
      refine e_iinc 46 em_30 (ce_at ce_30 24 rfl) rfl (by decide) rfl ?_
      refine e_goto em_30 3 (ce_at ce_30 25 rfl) rfl ?_
      refine e_pk [0, 1, 2] rfl rfl ?_
      exact e_out (fun r h => h)
theorem fx_append_3b (v1 : Int) (v2 : Int) (s : iS) : Fm (fun r : (Int × iS) ⊕ (iS) => r.elim (fun l => l.2) (fun e => e)) L_x_append G_x_append s (x_append_3b v1 v2 s) := fm_gd (fm_if (fm_some md_refl) (fm_gd (fm_if (fm_some md_refl) (fm_gd (fm_lt (md_upL (mem_L rfl)) (fun s6 => fm_lt (md_upF (mem_F rfl)) (fun s7 => fm_some md_refl)))))))
noncomputable def x_append_3 (v1 : Int) (v2 : Int) (s : iS) : Option (Int × iS) := (lp (L := Int × iS) (E := iS) (fun l => x_append_3b v1 (l.1) (l.2)) (v2, s)).bind (fun e => some (0, e))
theorem tx_append_3 (w : ev_W) (d : Nat) (hd : 0 ≤ d) (v1 : Int) (v2 : Int) (s : iS) : Ew hT w d 30 3 [(0, .ref (tb_nK + 0)), (1, iv v1), (2, iv v2)] [] s (Cv hT) (x_append_3 v1 v2 s) := by
  unfold x_append_3
  refine e_lp (L := Int × iS) (E := iS) (LO := fun l => [(0, .ref (tb_nK + 0)), (1, iv v1), (2, iv (l.1))]) (LS := fun l => l.2) (CE := fun e r => ev w d 30 49 [] [] (hT (e)) r) (fun l => tx_append_3b w d hd _ _ _) ?_ (v2, s)
  intro e
  show Ew hT w d 30 49 [] [] e (Cv hT) _
  exact e_retv em_30 (ce_at ce_30 26 rfl)
theorem fx_append_3 (v1 : Int) (v2 : Int) (s : iS) : Fm Prod.snd L_x_append G_x_append s (x_append_3 v1 v2 s) := by
  unfold x_append_3
  refine fm_lp (A := Int × iS) (E := iS) (LS := fun l => l.2) (LE := fun e => e) ?_ ?_ (v2, s)
  · exact fun l => fx_append_3b _ _ _
  · exact (fun e => fm_some md_refl)
noncomputable def x_append (v1 : Int) (s : iS) : Option (Int × iS) := x_append_3 v1 24 s
theorem tx_append (w : ev_W) (d : Nat) (hd : 0 ≤ d) (v1 : Int) (s : iS) : Ew hT w d 30 0 [(0, .ref (tb_nK + 0)), (1, iv v1)] [] s (Cv hT) (x_append v1 s) := by
  unfold x_append
  refine e_bip 2 em_30 (ce_at ce_30 0 rfl) (by decide) rfl ?_
  refine e_mv 3 em_30 (ce_at ce_30 1 rfl) rfl rfl ?_
  refine e_pk [0, 1, 2] rfl rfl ?_
  exact tx_append_3 w d hd _ _ _
theorem fx_append (v1 : Int) (s : iS) : Fm Prod.snd L_x_append G_x_append s (x_append v1 s) := fx_append_3 _ _ _
/-! x_feed -/
def L_x_feed : List Nat := [1]
def G_x_feed : List (Nat × Nat) := [(0, 1)]
noncomputable def x_feed (v1 : Int) (v2 : Int) (v3 : Int) (v4 : Int) (v5 : Int) (s : iS) : Option (Int × iS) := gd (rg ((s 0 1) + 20)) (if ((s 0 1) + 20) ≤ 4000 then bd (x_append v1 s) (fun _ s3 => bd (x_append v2 s3) (fun _ s4 => bd (x_append v3 s4) (fun _ s5 => bd (x_append v4 s5) (fun _ s6 => bd (x_append v5 s6) (fun _ s7 => some (1, s7)))))) else some (0, s))
theorem tx_feed (w : ev_W) (d : Nat) (hd : 1 ≤ d) (v1 : Int) (v2 : Int) (v3 : Int) (v4 : Int) (v5 : Int) (s : iS) : Ew hT w d 29 0 [(0, .ref (tb_nK + 0)), (1, iv v1), (2, iv v2), (3, iv v3), (4, iv v4), (5, iv v5)] [] s (Ci hT) (x_feed v1 v2 v3 v4 v5 s) := by
  unfold x_feed
  refine e_mv 1 em_29 (ce_at ce_29 0 rfl) rfl rfl ?_
  refine e_get 4 em_29 (ce_at ce_29 1 rfl) tq_0 rfl rfl ?_
  refine e_bip 6 em_29 (ce_at ce_29 2 rfl) (by decide) rfl ?_
  refine e_iadd 7 em_29 rfl (ce_at ce_29 3 rfl) ?_
  refine e_sip 10 em_29 (ce_at ce_29 4 rfl) (by decide) rfl ?_
  refine e_gd fun g1 => ?_
  refine e_cmle 15 13 em_29 rfl rfl (ce_at ce_29 5 rfl) g1 (by decide) (fun h2 => ?_) (fun h2 => ?_)
  · refine e_mv 16 em_29 (ce_at ce_29 8 rfl) rfl rfl ?_
    refine e_mv 17 em_29 (ce_at ce_29 9 rfl) rfl rfl ?_
    refine e_ivv 20 em_29 (ce_at ce_29 10 rfl) (by omega) (iv_v1 (by decide) tq_0 rfl) em_30 (Nat.le_of_ble_eq_true rfl) rfl (tx_append w (d - 1) (by omega) _ _) (fun r3 s3 => ?_)
    refine e_mv 21 em_29 (ce_at ce_29 11 rfl) rfl rfl ?_
    refine e_mv 22 em_29 (ce_at ce_29 12 rfl) rfl rfl ?_
    refine e_ivv 25 em_29 (ce_at ce_29 13 rfl) (by omega) (iv_v1 (by decide) tq_0 rfl) em_30 (Nat.le_of_ble_eq_true rfl) rfl (tx_append w (d - 1) (by omega) _ _) (fun r4 s4 => ?_)
    refine e_mv 26 em_29 (ce_at ce_29 14 rfl) rfl rfl ?_
    refine e_mv 27 em_29 (ce_at ce_29 15 rfl) rfl rfl ?_
    refine e_ivv 30 em_29 (ce_at ce_29 16 rfl) (by omega) (iv_v1 (by decide) tq_0 rfl) em_30 (Nat.le_of_ble_eq_true rfl) rfl (tx_append w (d - 1) (by omega) _ _) (fun r5 s5 => ?_)
    refine e_mv 31 em_29 (ce_at ce_29 17 rfl) rfl rfl ?_
    refine e_mv 33 em_29 (ce_at ce_29 18 rfl) rfl rfl ?_
    refine e_ivv 36 em_29 (ce_at ce_29 19 rfl) (by omega) (iv_v1 (by decide) tq_0 rfl) em_30 (Nat.le_of_ble_eq_true rfl) rfl (tx_append w (d - 1) (by omega) _ _) (fun r6 s6 => ?_)
    refine e_mv 37 em_29 (ce_at ce_29 20 rfl) rfl rfl ?_
    refine e_mv 39 em_29 (ce_at ce_29 21 rfl) rfl rfl ?_
    refine e_ivv 42 em_29 (ce_at ce_29 22 rfl) (by omega) (iv_v1 (by decide) tq_0 rfl) em_30 (Nat.le_of_ble_eq_true rfl) rfl (tx_append w (d - 1) (by omega) _ _) (fun r7 s7 => ?_)
    refine e_op 43 em_29 (ce_at ce_29 23 rfl) rfl rfl ?_
    exact e_retz em_29 (ce_at ce_29 24 rfl) (by decide)
  · refine e_op 14 em_29 (ce_at ce_29 6 rfl) rfl rfl ?_
    exact e_retz em_29 (ce_at ce_29 7 rfl) (by decide)
theorem fx_feed (v1 : Int) (v2 : Int) (v3 : Int) (v4 : Int) (v5 : Int) (s : iS) : Fm Prod.snd L_x_feed G_x_feed s (x_feed v1 v2 v3 v4 v5 s) := fm_gd (fm_if (fm_bd (fm_sub (fx_append _ _) (mem_sub_L rfl) (mem_sub_F rfl)) (fun r3 s3 => fm_bd (fm_sub (fx_append _ _) (mem_sub_L rfl) (mem_sub_F rfl)) (fun r4 s4 => fm_bd (fm_sub (fx_append _ _) (mem_sub_L rfl) (mem_sub_F rfl)) (fun r5 s5 => fm_bd (fm_sub (fx_append _ _) (mem_sub_L rfl) (mem_sub_F rfl)) (fun r6 s6 => fm_bd (fm_sub (fx_append _ _) (mem_sub_L rfl) (mem_sub_F rfl)) (fun r7 s7 => fm_some md_refl)))))) (fm_some md_refl))
/-! mth_min -/
def L_mth_min : List Nat := []
def G_mth_min : List (Nat × Nat) := []
noncomputable def mth_min (v0 : Int) (v1 : Int) (s : iS) : Option (Int × iS) := gd (rg v0) (gd (rg v1) (if v1 < v0 then some (v1, s) else some (v0, s)))
theorem tmth_min (H : iS → List am_C) (w : ev_W) (d : Nat) (hd : 0 ≤ d) (v0 : Int) (v1 : Int) (s : iS) : Ew H w d 21 0 [(0, iv v0), (1, iv v1)] [] s (Ci H) (mth_min v0 v1 s) := by
  unfold mth_min
  refine e_mv 1 em_21 (ce_at ce_21 0 rfl) rfl rfl ?_
  refine e_mv 2 em_21 (ce_at ce_21 1 rfl) rfl rfl ?_
  refine e_gd fun g1 => ?_
  refine e_gd fun g2 => ?_
  refine e_cmgt 9 5 em_21 rfl rfl (ce_at ce_21 2 rfl) g1 g2 (fun h3 => ?_) (fun h3 => ?_)
  · refine e_mv 10 em_21 (ce_at ce_21 5 rfl) rfl rfl ?_
    exact e_reti em_21 (ce_at ce_21 6 rfl)
  · refine e_mv 6 em_21 (ce_at ce_21 3 rfl) rfl rfl ?_
    refine e_goto em_21 10 (ce_at ce_21 4 rfl) rfl ?_
    exact e_reti em_21 (ce_at ce_21 6 rfl)
theorem fmth_min (v0 : Int) (v1 : Int) (s : iS) : Fm Prod.snd L_mth_min G_mth_min s (mth_min v0 v1 s) := fm_gd (fm_gd (fm_if (fm_some md_refl) (fm_some md_refl)))
/-! tok_byteAt -/
def L_tok_byteAt : List Nat := []
def G_tok_byteAt : List (Nat × Nat) := []
noncomputable def tok_byteAt (v1 : Int) (s : iS) : Option (Int × iS) := gd (rg v1) (if v1 < 0 then some ((-1), s) else gd (rg (s 2 9)) (if (s 2 9) ≤ v1 then some ((-1), s) else gd (0 ≤ v1 ∧ v1 < 4000) (some ((s 1 v1.toNat), s))))
theorem ttok_byteAt (w : ev_W) (d : Nat) (hd : 0 ≤ d) (v1 : Int) (s : iS) : Ew hT w d 34 0 [(0, .ref (tb_nK + 2)), (1, iv v1)] [] s (Ci hT) (tok_byteAt v1 s) := by
  unfold tok_byteAt
  refine e_mv 1 em_34 (ce_at ce_34 0 rfl) rfl rfl ?_
  refine e_gd fun g1 => ?_
  refine e_iflt 21 4 em_34 rfl rfl (ce_at ce_34 1 rfl) g1 (fun h2 => ?_) (fun h2 => ?_)
  · refine e_op 22 em_34 (ce_at ce_34 11 rfl) rfl rfl ?_
    exact e_reti em_34 (ce_at ce_34 12 rfl)
  · refine e_mv 5 em_34 (ce_at ce_34 2 rfl) rfl rfl ?_
    refine e_mv 6 em_34 (ce_at ce_34 3 rfl) rfl rfl ?_
    refine e_get 9 em_34 (ce_at ce_34 4 rfl) tq_2 rfl rfl ?_
    refine e_gd fun g3 => ?_
    refine e_cmge 21 12 em_34 rfl rfl (ce_at ce_34 5 rfl) g1 g3 (fun h4 => ?_) (fun h4 => ?_)
    · refine e_op 22 em_34 (ce_at ce_34 11 rfl) rfl rfl ?_
      exact e_reti em_34 (ce_at ce_34 12 rfl)
    · refine e_mv 13 em_34 (ce_at ce_34 6 rfl) rfl rfl ?_
      refine e_getr 16 em_34 (ce_at ce_34 7 rfl) tq_2 rfl rfl ?_
      refine e_mv 17 em_34 (ce_at ce_34 8 rfl) rfl rfl ?_
      refine e_gd fun g5 => ?_
      refine e_ild 18 em_34 (ce_at ce_34 9 rfl) tq_1 (by decide) g5 rfl ?_
      refine e_goto em_34 22 (ce_at ce_34 10 rfl) rfl ?_
      exact e_reti em_34 (ce_at ce_34 12 rfl)
theorem ftok_byteAt (v1 : Int) (s : iS) : Fm Prod.snd L_tok_byteAt G_tok_byteAt s (tok_byteAt v1 s) := fm_gd (fm_if (fm_some md_refl) (fm_gd (fm_if (fm_some md_refl) (fm_gd (fm_some md_refl)))))
/-! tok_skipComment -/
def L_tok_skipComment : List Nat := []
def G_tok_skipComment : List (Nat × Nat) := [(2, 10)]
def tok_skipComment_7C (w : ev_W) (d : Nat) : (Int × iS) ⊕ ((Int × iS) ⊕ (iS)) → am_E → Prop := fun q r => q.elim (fun l => ev w d 36 7 ((fun l => [(0, .ref (tb_nK + 2)), (1, iv (l.1))]) l) [] (hT ((fun l => l.2) l)) r) (fun e => (fun e r => e.elim (fun e => ev w d 36 37 [(0, .ref (tb_nK + 2)), (1, iv (e.1))] [] (hT (e.2)) r) (fun e => ev w d 36 51 [] [] (hT (e)) r)) e r)
noncomputable def tok_skipComment_7b (v1 : Int) (s : iS) : Option ((Int × iS) ⊕ ((Int × iS) ⊕ (iS))) := gd (rg v1) (gd (rg (s 2 9)) (if (s 2 9) ≤ v1 then some (.inr (.inr s)) else bd (tok_byteAt v1 s) (fun r4 s4 => gd (rg r4) (if r4 = 42 then bd (tok_byteAt (v1 + 1) s4) (fun r7 s7 => gd (rg r7) (if r7 = 47 then some (.inr (.inl (v1, s7))) else some (.inl ((v1 + 1), s7)))) else some (.inl ((v1 + 1), s4))))))
theorem ttok_skipComment_7b (w : ev_W) (d : Nat) (hd : 1 ≤ d) (v1 : Int) (s : iS) : Ew hT w d 36 7 [(0, .ref (tb_nK + 2)), (1, iv v1)] [] s (tok_skipComment_7C w d) (tok_skipComment_7b v1 s) := by
  unfold tok_skipComment_7b
  refine e_mv 8 em_36 (ce_at ce_36 5 rfl) rfl rfl ?_
  refine e_mv 9 em_36 (ce_at ce_36 6 rfl) rfl rfl ?_
  refine e_get 12 em_36 (ce_at ce_36 7 rfl) tq_2 rfl rfl ?_
  refine e_gd fun g1 => ?_
  refine e_gd fun g2 => ?_
  refine e_cmge 51 15 em_36 rfl rfl (ce_at ce_36 8 rfl) g1 g2 (fun h3 => ?_) (fun h3 => ?_)
  · refine e_pk [] rfl rfl ?_
    exact e_out (fun r h => h)
  · refine e_mv 16 em_36 (ce_at ce_36 9 rfl) rfl rfl ?_
    refine e_mv 17 em_36 (ce_at ce_36 10 rfl) rfl rfl ?_
    refine e_ivi 20 em_36 (ce_at ce_36 11 rfl) (by omega) (iv_v1 (by decide) tq_2 rfl) em_34 (Nat.le_of_ble_eq_true rfl) rfl (ttok_byteAt w (d - 1) (by omega) _ _) (fun r4 s4 => ?_)
    refine e_bip 22 em_36 (ce_at ce_36 12 rfl) (by decide) rfl ?_
    refine e_gd fun g5 => ?_
    refine e_cmne 45 25 em_36 rfl rfl (ce_at ce_36 13 rfl) g5 (by decide) (fun h6 => ?_) (fun h6 => ?_)
    · refine e_iinc 48 em_36 (ce_at ce_36 27 rfl) rfl (by decide) rfl ?_
      refine e_goto em_36 7 (ce_at ce_36 28 rfl) rfl ?_
      refine e_pk [0, 1] rfl rfl ?_
      exact e_out (fun r h => h)
    · refine e_mv 26 em_36 (ce_at ce_36 14 rfl) rfl rfl ?_
      refine e_mv 27 em_36 (ce_at ce_36 15 rfl) rfl rfl ?_
      refine e_op 28 em_36 (ce_at ce_36 16 rfl) rfl rfl ?_
      refine e_iadd 29 em_36 rfl (ce_at ce_36 17 rfl) ?_
      refine e_ivi 32 em_36 (ce_at ce_36 18 rfl) (by omega) (iv_v1 (by decide) tq_2 rfl) em_34 (Nat.le_of_ble_eq_true rfl) rfl (ttok_byteAt w (d - 1) (by omega) _ _) (fun r7 s7 => ?_)
      refine e_bip 34 em_36 (ce_at ce_36 19 rfl) (by decide) rfl ?_
      refine e_gd fun g8 => ?_
      refine e_cmne 45 37 em_36 rfl rfl (ce_at ce_36 20 rfl) g8 (by decide) (fun h9 => ?_) (fun h9 => ?_)
      · refine e_iinc 48 em_36 (ce_at ce_36 27 rfl) rfl (by decide) rfl ?_
        refine e_goto em_36 7 (ce_at ce_36 28 rfl) rfl ?_
        refine e_pk [0, 1] rfl rfl ?_
        exact e_out (fun r h => h)
      · refine e_pk [0, 1] rfl rfl ?_
        exact e_out (fun r h => h)
theorem ftok_skipComment_7b (v1 : Int) (s : iS) : Fm (fun r : (Int × iS) ⊕ ((Int × iS) ⊕ (iS)) => r.elim (fun l => l.2) (fun e => e.elim (fun e => e.2) (fun e => e))) L_tok_skipComment G_tok_skipComment s (tok_skipComment_7b v1 s) := fm_gd (fm_gd (fm_if (fm_some md_refl) (fm_bd (fm_sub (ftok_byteAt _ _) (mem_sub_L rfl) (mem_sub_F rfl)) (fun r4 s4 => fm_gd (fm_if (fm_bd (fm_sub (ftok_byteAt _ _) (mem_sub_L rfl) (mem_sub_F rfl)) (fun r7 s7 => fm_gd (fm_if (fm_some md_refl) (fm_some md_refl)))) (fm_some md_refl))))))
noncomputable def tok_skipComment_37 (v1 : Int) (s : iS) : Option (Int × iS) := lt' (up s 2 10 (v1 + 2)) (fun s1 => some (0, s1))
theorem ttok_skipComment_37 (w : ev_W) (d : Nat) (hd : 1 ≤ d) (v1 : Int) (s : iS) : Ew hT w d 36 37 [(0, .ref (tb_nK + 2)), (1, iv v1)] [] s (Cv hT) (tok_skipComment_37 v1 s) := by
  unfold tok_skipComment_37
  refine e_mv 38 em_36 (ce_at ce_36 21 rfl) rfl rfl ?_
  refine e_mv 39 em_36 (ce_at ce_36 22 rfl) rfl rfl ?_
  refine e_op 40 em_36 (ce_at ce_36 23 rfl) rfl rfl ?_
  refine e_iadd 41 em_36 rfl (ce_at ce_36 24 rfl) ?_
  refine e_put 44 em_36 (ce_at ce_36 25 rfl) tq_2 rfl rfl rfl (fun s1 => ?_)
  exact e_retv em_36 (ce_at ce_36 26 rfl)
theorem ftok_skipComment_37 (v1 : Int) (s : iS) : Fm Prod.snd L_tok_skipComment G_tok_skipComment s (tok_skipComment_37 v1 s) := fm_lt (md_upF (mem_F rfl)) (fun s1 => fm_some md_refl)
noncomputable def tok_skipComment_7 (v1 : Int) (s : iS) : Option (Int × iS) := (lp (L := Int × iS) (E := (Int × iS) ⊕ (iS)) (fun l => tok_skipComment_7b (l.1) (l.2)) (v1, s)).bind (fun e => e.elim (fun e => tok_skipComment_37 (e.1) (e.2)) (fun e => some (0, e)))
theorem ttok_skipComment_7 (w : ev_W) (d : Nat) (hd : 1 ≤ d) (v1 : Int) (s : iS) : Ew hT w d 36 7 [(0, .ref (tb_nK + 2)), (1, iv v1)] [] s (Cv hT) (tok_skipComment_7 v1 s) := by
  unfold tok_skipComment_7
  refine e_lp (L := Int × iS) (E := (Int × iS) ⊕ (iS)) (LO := fun l => [(0, .ref (tb_nK + 2)), (1, iv (l.1))]) (LS := fun l => l.2) (CE := fun e r => e.elim (fun e => ev w d 36 37 [(0, .ref (tb_nK + 2)), (1, iv (e.1))] [] (hT (e.2)) r) (fun e => ev w d 36 51 [] [] (hT (e)) r)) (fun l => ttok_skipComment_7b w d hd _ _) ?_ (v1, s)
  rintro (e | e)
  · show Ew hT w d 36 37 [(0, .ref (tb_nK + 2)), (1, iv (e.1))] [] e.2 (Cv hT) _
    refine e_pk [0, 1] rfl rfl ?_
    exact ttok_skipComment_37 w d hd _ _
  · show Ew hT w d 36 51 [] [] e (Cv hT) _
    exact e_retv em_36 (ce_at ce_36 29 rfl)
theorem ftok_skipComment_7 (v1 : Int) (s : iS) : Fm Prod.snd L_tok_skipComment G_tok_skipComment s (tok_skipComment_7 v1 s) := by
  unfold tok_skipComment_7
  refine fm_lp (A := Int × iS) (E := (Int × iS) ⊕ (iS)) (LS := fun l => l.2) (LE := fun e => e.elim (fun e => e.2) (fun e => e)) ?_ ?_ (v1, s)
  · exact fun l => ftok_skipComment_7b _ _
  · exact (by rintro (e | e); exact ftok_skipComment_37 _ _; exact fm_some md_refl)
noncomputable def tok_skipComment (s : iS) : Option (Int × iS) := tok_skipComment_7 ((s 2 10) + 2) s
theorem ttok_skipComment (w : ev_W) (d : Nat) (hd : 1 ≤ d) (s : iS) : Ew hT w d 36 0 [(0, .ref (tb_nK + 2))] [] s (Cv hT) (tok_skipComment s) := by
  unfold tok_skipComment
  refine e_mv 1 em_36 (ce_at ce_36 0 rfl) rfl rfl ?_
  refine e_get 4 em_36 (ce_at ce_36 1 rfl) tq_2 rfl rfl ?_
  refine e_op 5 em_36 (ce_at ce_36 2 rfl) rfl rfl ?_
  refine e_iadd 6 em_36 rfl (ce_at ce_36 3 rfl) ?_
  refine e_mv 7 em_36 (ce_at ce_36 4 rfl) rfl rfl ?_
  refine e_pk [0, 1] rfl rfl ?_
  exact ttok_skipComment_7 w d hd _ _
theorem ftok_skipComment (s : iS) : Fm Prod.snd L_tok_skipComment G_tok_skipComment s (tok_skipComment s) := ftok_skipComment_7 _ _
/-! tok_skipLine -/
def L_tok_skipLine : List Nat := []
def G_tok_skipLine : List (Nat × Nat) := [(2, 10)]
def tok_skipLine_0C (w : ev_W) (d : Nat) : (iS) ⊕ (iS) → am_E → Prop := fun q r => q.elim (fun l => ev w d 35 0 ((fun l => [(0, .ref (tb_nK + 2))]) l) [] (hT ((fun l => l) l)) r) (fun e => (fun e r => ev w d 35 37 [] [] (hT (e)) r) e r)
noncomputable def tok_skipLine_0b (s : iS) : Option ((iS) ⊕ (iS)) := gd (rg (s 2 10)) (gd (rg (s 2 9)) (if (s 2 9) ≤ (s 2 10) then some (.inr s) else bd (tok_byteAt (s 2 10) s) (fun r4 s4 => gd (rg r4) (if r4 = 10 then some (.inr s4) else lt' (up s4 2 10 ((s4 2 10) + 1)) (fun s7 => some (.inl s7))))))
theorem ttok_skipLine_0b (w : ev_W) (d : Nat) (hd : 1 ≤ d) (s : iS) : Ew hT w d 35 0 [(0, .ref (tb_nK + 2))] [] s (tok_skipLine_0C w d) (tok_skipLine_0b s) := by
  unfold tok_skipLine_0b
  refine e_mv 1 em_35 (ce_at ce_35 0 rfl) rfl rfl ?_
  refine e_get 4 em_35 (ce_at ce_35 1 rfl) tq_2 rfl rfl ?_
  refine e_mv 5 em_35 (ce_at ce_35 2 rfl) rfl rfl ?_
  refine e_get 8 em_35 (ce_at ce_35 3 rfl) tq_2 rfl rfl ?_
  refine e_gd fun g1 => ?_
  refine e_gd fun g2 => ?_
  refine e_cmge 37 11 em_35 rfl rfl (ce_at ce_35 4 rfl) g1 g2 (fun h3 => ?_) (fun h3 => ?_)
  · refine e_pk [] rfl rfl ?_
    exact e_out (fun r h => h)
  · refine e_mv 12 em_35 (ce_at ce_35 5 rfl) rfl rfl ?_
    refine e_mv 13 em_35 (ce_at ce_35 6 rfl) rfl rfl ?_
    refine e_get 16 em_35 (ce_at ce_35 7 rfl) tq_2 rfl rfl ?_
    refine e_ivi 19 em_35 (ce_at ce_35 8 rfl) (by omega) (iv_v1 (by decide) tq_2 rfl) em_34 (Nat.le_of_ble_eq_true rfl) rfl (ttok_byteAt w (d - 1) (by omega) _ _) (fun r4 s4 => ?_)
    refine e_bip 21 em_35 (ce_at ce_35 9 rfl) (by decide) rfl ?_
    refine e_gd fun g5 => ?_
    refine e_cmeq 37 24 em_35 rfl rfl (ce_at ce_35 10 rfl) g5 (by decide) (fun h6 => ?_) (fun h6 => ?_)
    · refine e_pk [] rfl rfl ?_
      exact e_out (fun r h => h)
    · refine e_mv 25 em_35 (ce_at ce_35 11 rfl) rfl rfl ?_
      refine e_op 26 em_35 (ce_at ce_35 12 rfl) rfl rfl ?_
      refine e_get 29 em_35 (ce_at ce_35 13 rfl) tq_2 rfl rfl ?_
      refine e_op 30 em_35 (ce_at ce_35 14 rfl) rfl rfl ?_
      refine e_iadd 31 em_35 rfl (ce_at ce_35 15 rfl) ?_
      refine e_put 34 em_35 (ce_at ce_35 16 rfl) tq_2 rfl rfl rfl (fun s7 => ?_)
      refine e_goto em_35 0 (ce_at ce_35 17 rfl) rfl ?_
      refine e_pk [0] rfl rfl ?_
      exact e_out (fun r h => h)
theorem ftok_skipLine_0b (s : iS) : Fm (fun r : (iS) ⊕ (iS) => r.elim (fun l => l) (fun e => e)) L_tok_skipLine G_tok_skipLine s (tok_skipLine_0b s) := fm_gd (fm_gd (fm_if (fm_some md_refl) (fm_bd (fm_sub (ftok_byteAt _ _) (mem_sub_L rfl) (mem_sub_F rfl)) (fun r4 s4 => fm_gd (fm_if (fm_some md_refl) (fm_lt (md_upF (mem_F rfl)) (fun s7 => fm_some md_refl)))))))
noncomputable def tok_skipLine (s : iS) : Option (Int × iS) := (lp (L := iS) (E := iS) (fun l => tok_skipLine_0b l) s).bind (fun e => some (0, e))
theorem ttok_skipLine (w : ev_W) (d : Nat) (hd : 1 ≤ d) (s : iS) : Ew hT w d 35 0 [(0, .ref (tb_nK + 2))] [] s (Cv hT) (tok_skipLine s) := by
  unfold tok_skipLine
  refine e_lp (L := iS) (E := iS) (LO := fun l => [(0, .ref (tb_nK + 2))]) (LS := fun l => l) (CE := fun e r => ev w d 35 37 [] [] (hT (e)) r) (fun l => ttok_skipLine_0b w d hd _) ?_ s
  intro e
  show Ew hT w d 35 37 [] [] e (Cv hT) _
  exact e_retv em_35 (ce_at ce_35 18 rfl)
theorem ftok_skipLine (s : iS) : Fm Prod.snd L_tok_skipLine G_tok_skipLine s (tok_skipLine s) := by
  unfold tok_skipLine
  refine fm_lp (A := iS) (E := iS) (LS := fun l => l) (LE := fun e => e) ?_ ?_ s
  · exact fun l => ftok_skipLine_0b _
  · exact (fun e => fm_some md_refl)
/-! tok_skipBlanks -/
def L_tok_skipBlanks : List Nat := []
def G_tok_skipBlanks : List (Nat × Nat) := [(2, 10)]
def tok_skipBlanks_2C (w : ev_W) (d : Nat) : (Int × iS) ⊕ ((iS) ⊕ ((iS) ⊕ (iS))) → am_E → Prop := fun q r => q.elim (fun l => ev w d 33 2 ((fun l => [(0, .ref (tb_nK + 2)), (1, iv (l.1))]) l) [] (hT ((fun l => l.2) l)) r) (fun e => (fun e r => e.elim (fun e => ev w d 33 117 [] [] (hT (e)) r) (fun e => e.elim (fun e => ev w d 33 122 [] [] (hT (e)) r) (fun e => ev w d 33 130 [] [] (hT (e)) r))) e r)
noncomputable def tok_skipBlanks_54 (v1 : Int) (s : iS) : Option ((Int × iS) ⊕ ((iS) ⊕ ((iS) ⊕ (iS)))) := lt' (up s 2 10 ((s 2 10) + 1)) (fun s1 => some (.inl ((v1 + 1), s1)))
theorem ttok_skipBlanks_54 (w : ev_W) (d : Nat) (hd : 2 ≤ d) (v1 : Int) (s : iS) : Ew hT w d 33 54 [(0, .ref (tb_nK + 2)), (1, iv v1)] [] s (tok_skipBlanks_2C w d) (tok_skipBlanks_54 v1 s) := by
  unfold tok_skipBlanks_54
  refine e_mv 55 em_33 (ce_at ce_33 30 rfl) rfl rfl ?_
  refine e_op 56 em_33 (ce_at ce_33 31 rfl) rfl rfl ?_
  refine e_get 59 em_33 (ce_at ce_33 32 rfl) tq_2 rfl rfl ?_
  refine e_op 60 em_33 (ce_at ce_33 33 rfl) rfl rfl ?_
  refine e_iadd 61 em_33 rfl (ce_at ce_33 34 rfl) ?_
  refine e_put 64 em_33 (ce_at ce_33 35 rfl) tq_2 rfl rfl rfl (fun s1 => ?_)
  refine e_goto em_33 124 (ce_at ce_33 36 rfl) rfl ?_
  refine e_iinc 127 em_33 (ce_at ce_33 66 rfl) rfl (by decide) rfl ?_
  refine e_goto em_33 2 (ce_at ce_33 67 rfl) rfl ?_
  refine e_pk [0, 1] rfl rfl ?_
  exact e_out (fun r h => h)
theorem ftok_skipBlanks_54 (v1 : Int) (s : iS) : Fm (fun r : (Int × iS) ⊕ ((iS) ⊕ ((iS) ⊕ (iS))) => r.elim (fun l => l.2) (fun e => e.elim (fun e => e) (fun e => e.elim (fun e => e) (fun e => e)))) L_tok_skipBlanks G_tok_skipBlanks s (tok_skipBlanks_54 v1 s) := fm_lt (md_upF (mem_F rfl)) (fun s1 => fm_some md_refl)
noncomputable def tok_skipBlanks_86 (v1 : Int) (v2 : Int) (v3 : Int) (s : iS) : Option ((Int × iS) ⊕ ((iS) ⊕ ((iS) ⊕ (iS)))) := gd (rg v2) (if v2 = 47 then gd (rg v3) (if v3 = 42 then bd (tok_skipComment s) (fun _ s5 => gd (rg (s5 2 10)) (gd (rg (s 2 10)) (if (s5 2 10) = (s 2 10) then some (.inr (.inl s5)) else some (.inl ((v1 + 1), s5))))) else some (.inr (.inr (.inl s)))) else some (.inr (.inr (.inl s))))
theorem ttok_skipBlanks_86 (w : ev_W) (d : Nat) (hd : 2 ≤ d) (v1 : Int) (v2 : Int) (v3 : Int) (s : iS) : Ew hT w d 33 86 [(0, .ref (tb_nK + 2)), (1, iv v1), (2, iv v2), (3, iv v3)] [] s (tok_skipBlanks_2C w d) (tok_skipBlanks_86 v1 v2 v3 s) := by
  unfold tok_skipBlanks_86
  refine e_mv 87 em_33 (ce_at ce_33 46 rfl) rfl rfl ?_
  refine e_bip 89 em_33 (ce_at ce_33 47 rfl) (by decide) rfl ?_
  refine e_gd fun g1 => ?_
  refine e_cmne 122 92 em_33 rfl rfl (ce_at ce_33 48 rfl) g1 (by decide) (fun h2 => ?_) (fun h2 => ?_)
  · refine e_pk [] rfl rfl ?_
    exact e_out (fun r h => h)
  · refine e_mv 93 em_33 (ce_at ce_33 49 rfl) rfl rfl ?_
    refine e_bip 95 em_33 (ce_at ce_33 50 rfl) (by decide) rfl ?_
    refine e_gd fun g3 => ?_
    refine e_cmne 122 98 em_33 rfl rfl (ce_at ce_33 51 rfl) g3 (by decide) (fun h4 => ?_) (fun h4 => ?_)
    · refine e_pk [] rfl rfl ?_
      exact e_out (fun r h => h)
    · refine e_mv 99 em_33 (ce_at ce_33 52 rfl) rfl rfl ?_
      refine e_get 102 em_33 (ce_at ce_33 53 rfl) tq_2 rfl rfl ?_
      refine e_mv 104 em_33 (ce_at ce_33 54 rfl) rfl rfl ?_
      refine e_mv 105 em_33 (ce_at ce_33 55 rfl) rfl rfl ?_
      refine e_ivv 108 em_33 (ce_at ce_33 56 rfl) (by omega) (iv_v0 (by decide) tq_2 rfl) em_36 (Nat.le_of_ble_eq_true rfl) rfl (ttok_skipComment w (d - 1) (by omega) _) (fun r5 s5 => ?_)
      refine e_mv 109 em_33 (ce_at ce_33 57 rfl) rfl rfl ?_
      refine e_get 112 em_33 (ce_at ce_33 58 rfl) tq_2 rfl rfl ?_
      refine e_mv 114 em_33 (ce_at ce_33 59 rfl) rfl rfl ?_
      refine e_gd fun g6 => ?_
      refine e_gd fun g7 => ?_
      refine e_cmne 119 117 em_33 rfl rfl (ce_at ce_33 60 rfl) g6 g7 (fun h8 => ?_) (fun h8 => ?_)
      · refine e_goto em_33 124 (ce_at ce_33 63 rfl) rfl ?_
        refine e_iinc 127 em_33 (ce_at ce_33 66 rfl) rfl (by decide) rfl ?_
        refine e_goto em_33 2 (ce_at ce_33 67 rfl) rfl ?_
        refine e_pk [0, 1] rfl rfl ?_
        exact e_out (fun r h => h)
      · refine e_pk [] rfl rfl ?_
        exact e_out (fun r h => h)
theorem ftok_skipBlanks_86 (v1 : Int) (v2 : Int) (v3 : Int) (s : iS) : Fm (fun r : (Int × iS) ⊕ ((iS) ⊕ ((iS) ⊕ (iS))) => r.elim (fun l => l.2) (fun e => e.elim (fun e => e) (fun e => e.elim (fun e => e) (fun e => e)))) L_tok_skipBlanks G_tok_skipBlanks s (tok_skipBlanks_86 v1 v2 v3 s) := fm_gd (fm_if (fm_gd (fm_if (fm_bd (fm_sub (ftok_skipComment _) (mem_sub_L rfl) (mem_sub_F rfl)) (fun r5 s5 => fm_gd (fm_gd (fm_if (fm_some md_refl) (fm_some md_refl))))) (fm_some md_refl))) (fm_some md_refl))
noncomputable def tok_skipBlanks_2b (v1 : Int) (s : iS) : Option ((Int × iS) ⊕ ((iS) ⊕ ((iS) ⊕ (iS)))) := gd (rg v1) (gd (rg (s 2 9)) (if (s 2 9) < v1 then some (.inr (.inr (.inr s))) else bd (tok_byteAt (s 2 10) s) (fun r4 s4 => bd (tok_byteAt ((s4 2 10) + 1) s4) (fun r5 s5 => gd (rg r4) (if r4 = 32 then tok_skipBlanks_54 v1 s5 else if r4 = 10 then tok_skipBlanks_54 v1 s5 else if r4 = 9 then tok_skipBlanks_54 v1 s5 else if r4 = 13 then tok_skipBlanks_54 v1 s5 else if r4 = 47 then gd (rg r5) (if r5 = 47 then bd (tok_skipLine s5) (fun _ s14 => some (.inl ((v1 + 1), s14))) else tok_skipBlanks_86 v1 r4 r5 s5) else tok_skipBlanks_86 v1 r4 r5 s5)))))
theorem ttok_skipBlanks_2b (w : ev_W) (d : Nat) (hd : 2 ≤ d) (v1 : Int) (s : iS) : Ew hT w d 33 2 [(0, .ref (tb_nK + 2)), (1, iv v1)] [] s (tok_skipBlanks_2C w d) (tok_skipBlanks_2b v1 s) := by
  unfold tok_skipBlanks_2b
  refine e_mv 3 em_33 (ce_at ce_33 2 rfl) rfl rfl ?_
  refine e_mv 4 em_33 (ce_at ce_33 3 rfl) rfl rfl ?_
  refine e_get 7 em_33 (ce_at ce_33 4 rfl) tq_2 rfl rfl ?_
  refine e_gd fun g1 => ?_
  refine e_gd fun g2 => ?_
  refine e_cmgt 130 10 em_33 rfl rfl (ce_at ce_33 5 rfl) g1 g2 (fun h3 => ?_) (fun h3 => ?_)
  · refine e_pk [] rfl rfl ?_
    exact e_out (fun r h => h)
  · refine e_mv 11 em_33 (ce_at ce_33 6 rfl) rfl rfl ?_
    refine e_mv 12 em_33 (ce_at ce_33 7 rfl) rfl rfl ?_
    refine e_get 15 em_33 (ce_at ce_33 8 rfl) tq_2 rfl rfl ?_
    refine e_ivi 18 em_33 (ce_at ce_33 9 rfl) (by omega) (iv_v1 (by decide) tq_2 rfl) em_34 (Nat.le_of_ble_eq_true rfl) rfl (ttok_byteAt w (d - 1) (by omega) _ _) (fun r4 s4 => ?_)
    refine e_mv 19 em_33 (ce_at ce_33 10 rfl) rfl rfl ?_
    refine e_mv 20 em_33 (ce_at ce_33 11 rfl) rfl rfl ?_
    refine e_mv 21 em_33 (ce_at ce_33 12 rfl) rfl rfl ?_
    refine e_get 24 em_33 (ce_at ce_33 13 rfl) tq_2 rfl rfl ?_
    refine e_op 25 em_33 (ce_at ce_33 14 rfl) rfl rfl ?_
    refine e_iadd 26 em_33 rfl (ce_at ce_33 15 rfl) ?_
    refine e_ivi 29 em_33 (ce_at ce_33 16 rfl) (by omega) (iv_v1 (by decide) tq_2 rfl) em_34 (Nat.le_of_ble_eq_true rfl) rfl (ttok_byteAt w (d - 1) (by omega) _ _) (fun r5 s5 => ?_)
    refine e_mv 30 em_33 (ce_at ce_33 17 rfl) rfl rfl ?_
    refine e_mv 31 em_33 (ce_at ce_33 18 rfl) rfl rfl ?_
    refine e_bip 33 em_33 (ce_at ce_33 19 rfl) (by decide) rfl ?_
    refine e_gd fun g6 => ?_
    refine e_cmeq 54 36 em_33 rfl rfl (ce_at ce_33 20 rfl) g6 (by decide) (fun h7 => ?_) (fun h7 => ?_)
    · refine e_pk [0, 1] rfl rfl ?_
      exact ttok_skipBlanks_54 w d hd _ _
    · refine e_mv 37 em_33 (ce_at ce_33 21 rfl) rfl rfl ?_
      refine e_bip 39 em_33 (ce_at ce_33 22 rfl) (by decide) rfl ?_
      refine e_cmeq 54 42 em_33 rfl rfl (ce_at ce_33 23 rfl) g6 (by decide) (fun h8 => ?_) (fun h8 => ?_)
      · refine e_pk [0, 1] rfl rfl ?_
        exact ttok_skipBlanks_54 w d hd _ _
      · refine e_mv 43 em_33 (ce_at ce_33 24 rfl) rfl rfl ?_
        refine e_bip 45 em_33 (ce_at ce_33 25 rfl) (by decide) rfl ?_
        refine e_cmeq 54 48 em_33 rfl rfl (ce_at ce_33 26 rfl) g6 (by decide) (fun h9 => ?_) (fun h9 => ?_)
        · refine e_pk [0, 1] rfl rfl ?_
          exact ttok_skipBlanks_54 w d hd _ _
        · refine e_mv 49 em_33 (ce_at ce_33 27 rfl) rfl rfl ?_
          refine e_bip 51 em_33 (ce_at ce_33 28 rfl) (by decide) rfl ?_
          refine e_cmne 67 54 em_33 rfl rfl (ce_at ce_33 29 rfl) g6 (by decide) (fun h10 => ?_) (fun h10 => ?_)
          · refine e_mv 68 em_33 (ce_at ce_33 37 rfl) rfl rfl ?_
            refine e_bip 70 em_33 (ce_at ce_33 38 rfl) (by decide) rfl ?_
            refine e_cmne 86 73 em_33 rfl rfl (ce_at ce_33 39 rfl) g6 (by decide) (fun h11 => ?_) (fun h11 => ?_)
            · refine e_pk [0, 1, 2, 3] rfl rfl ?_
              exact ttok_skipBlanks_86 w d hd _ _ _ _
            · refine e_mv 74 em_33 (ce_at ce_33 40 rfl) rfl rfl ?_
              refine e_bip 76 em_33 (ce_at ce_33 41 rfl) (by decide) rfl ?_
              refine e_gd fun g12 => ?_
              refine e_cmne 86 79 em_33 rfl rfl (ce_at ce_33 42 rfl) g12 (by decide) (fun h13 => ?_) (fun h13 => ?_)
              · refine e_pk [0, 1, 2, 3] rfl rfl ?_
                exact ttok_skipBlanks_86 w d hd _ _ _ _
              · refine e_mv 80 em_33 (ce_at ce_33 43 rfl) rfl rfl ?_
                refine e_ivv 83 em_33 (ce_at ce_33 44 rfl) (by omega) (iv_v0 (by decide) tq_2 rfl) em_35 (Nat.le_of_ble_eq_true rfl) rfl (ttok_skipLine w (d - 1) (by omega) _) (fun r14 s14 => ?_)
                refine e_goto em_33 124 (ce_at ce_33 45 rfl) rfl ?_
                refine e_iinc 127 em_33 (ce_at ce_33 66 rfl) rfl (by decide) rfl ?_
                refine e_goto em_33 2 (ce_at ce_33 67 rfl) rfl ?_
                refine e_pk [0, 1] rfl rfl ?_
                exact e_out (fun r h => h)
          · refine e_pk [0, 1] rfl rfl ?_
            exact ttok_skipBlanks_54 w d hd _ _
theorem ftok_skipBlanks_2b (v1 : Int) (s : iS) : Fm (fun r : (Int × iS) ⊕ ((iS) ⊕ ((iS) ⊕ (iS))) => r.elim (fun l => l.2) (fun e => e.elim (fun e => e) (fun e => e.elim (fun e => e) (fun e => e)))) L_tok_skipBlanks G_tok_skipBlanks s (tok_skipBlanks_2b v1 s) := fm_gd (fm_gd (fm_if (fm_some md_refl) (fm_bd (fm_sub (ftok_byteAt _ _) (mem_sub_L rfl) (mem_sub_F rfl)) (fun r4 s4 => fm_bd (fm_sub (ftok_byteAt _ _) (mem_sub_L rfl) (mem_sub_F rfl)) (fun r5 s5 => fm_gd (fm_if (ftok_skipBlanks_54 _ _) (fm_if (ftok_skipBlanks_54 _ _) (fm_if (ftok_skipBlanks_54 _ _) (fm_if (ftok_skipBlanks_54 _ _) (fm_if (fm_gd (fm_if (fm_bd (fm_sub (ftok_skipLine _) (mem_sub_L rfl) (mem_sub_F rfl)) (fun r14 s14 => fm_some md_refl)) (ftok_skipBlanks_86 _ _ _ _))) (ftok_skipBlanks_86 _ _ _ _)))))))))))
noncomputable def tok_skipBlanks_2 (v1 : Int) (s : iS) : Option (Int × iS) := (lp (L := Int × iS) (E := (iS) ⊕ ((iS) ⊕ (iS))) (fun l => tok_skipBlanks_2b (l.1) (l.2)) (v1, s)).bind (fun e => e.elim (fun e => some (0, e)) (fun e => e.elim (fun e => some (1, e)) (fun e => some (1, e))))
theorem ttok_skipBlanks_2 (w : ev_W) (d : Nat) (hd : 2 ≤ d) (v1 : Int) (s : iS) : Ew hT w d 33 2 [(0, .ref (tb_nK + 2)), (1, iv v1)] [] s (Ci hT) (tok_skipBlanks_2 v1 s) := by
  unfold tok_skipBlanks_2
  refine e_lp (L := Int × iS) (E := (iS) ⊕ ((iS) ⊕ (iS))) (LO := fun l => [(0, .ref (tb_nK + 2)), (1, iv (l.1))]) (LS := fun l => l.2) (CE := fun e r => e.elim (fun e => ev w d 33 117 [] [] (hT (e)) r) (fun e => e.elim (fun e => ev w d 33 122 [] [] (hT (e)) r) (fun e => ev w d 33 130 [] [] (hT (e)) r))) (fun l => ttok_skipBlanks_2b w d hd _ _) ?_ (v1, s)
  rintro (e | e | e)
  · show Ew hT w d 33 117 [] [] e (Ci hT) _
    refine e_op 118 em_33 (ce_at ce_33 61 rfl) rfl rfl ?_
    exact e_retz em_33 (ce_at ce_33 62 rfl) (by decide)
  · show Ew hT w d 33 122 [] [] e (Ci hT) _
    refine e_op 123 em_33 (ce_at ce_33 64 rfl) rfl rfl ?_
    exact e_retz em_33 (ce_at ce_33 65 rfl) (by decide)
  · show Ew hT w d 33 130 [] [] e (Ci hT) _
    refine e_op 131 em_33 (ce_at ce_33 68 rfl) rfl rfl ?_
    exact e_retz em_33 (ce_at ce_33 69 rfl) (by decide)
theorem ftok_skipBlanks_2 (v1 : Int) (s : iS) : Fm Prod.snd L_tok_skipBlanks G_tok_skipBlanks s (tok_skipBlanks_2 v1 s) := by
  unfold tok_skipBlanks_2
  refine fm_lp (A := Int × iS) (E := (iS) ⊕ ((iS) ⊕ (iS))) (LS := fun l => l.2) (LE := fun e => e.elim (fun e => e) (fun e => e.elim (fun e => e) (fun e => e))) ?_ ?_ (v1, s)
  · exact fun l => ftok_skipBlanks_2b _ _
  · exact (by rintro (e | e | e); exact fm_some md_refl; exact fm_some md_refl; exact fm_some md_refl)
noncomputable def tok_skipBlanks (s : iS) : Option (Int × iS) := tok_skipBlanks_2 0 s
theorem ttok_skipBlanks (w : ev_W) (d : Nat) (hd : 2 ≤ d) (s : iS) : Ew hT w d 33 0 [(0, .ref (tb_nK + 2))] [] s (Ci hT) (tok_skipBlanks s) := by
  unfold tok_skipBlanks
  refine e_op 1 em_33 (ce_at ce_33 0 rfl) rfl rfl ?_
  refine e_mv 2 em_33 (ce_at ce_33 1 rfl) rfl rfl ?_
  refine e_pk [0, 1] rfl rfl ?_
  exact ttok_skipBlanks_2 w d hd _ _
theorem ftok_skipBlanks (s : iS) : Fm Prod.snd L_tok_skipBlanks G_tok_skipBlanks s (tok_skipBlanks s) := ftok_skipBlanks_2 _ _
/-! x_isDigit -/
def L_x_isDigit : List Nat := []
def G_x_isDigit : List (Nat × Nat) := []
noncomputable def x_isDigit (v0 : Int) (s : iS) : Option (Int × iS) := gd (rg v0) (if v0 < 48 then some (0, s) else if 57 < v0 then some (0, s) else some (1, s))
theorem tx_isDigit (H : iS → List am_C) (w : ev_W) (d : Nat) (hd : 0 ≤ d) (v0 : Int) (s : iS) : Ew H w d 38 0 [(0, iv v0)] [] s (Ci H) (x_isDigit v0 s) := by
  unfold x_isDigit
  refine e_mv 1 em_38 (ce_at ce_38 0 rfl) rfl rfl ?_
  refine e_bip 3 em_38 (ce_at ce_38 1 rfl) (by decide) rfl ?_
  refine e_gd fun g1 => ?_
  refine e_cmlt 16 6 em_38 rfl rfl (ce_at ce_38 2 rfl) g1 (by decide) (fun h2 => ?_) (fun h2 => ?_)
  · refine e_op 17 em_38 (ce_at ce_38 8 rfl) rfl rfl ?_
    exact e_retz em_38 (ce_at ce_38 9 rfl) (by decide)
  · refine e_mv 7 em_38 (ce_at ce_38 3 rfl) rfl rfl ?_
    refine e_bip 9 em_38 (ce_at ce_38 4 rfl) (by decide) rfl ?_
    refine e_cmgt 16 12 em_38 rfl rfl (ce_at ce_38 5 rfl) g1 (by decide) (fun h3 => ?_) (fun h3 => ?_)
    · refine e_op 17 em_38 (ce_at ce_38 8 rfl) rfl rfl ?_
      exact e_retz em_38 (ce_at ce_38 9 rfl) (by decide)
    · refine e_op 13 em_38 (ce_at ce_38 6 rfl) rfl rfl ?_
      refine e_goto em_38 17 (ce_at ce_38 7 rfl) rfl ?_
      exact e_retz em_38 (ce_at ce_38 9 rfl) (by decide)
theorem fx_isDigit (v0 : Int) (s : iS) : Fm Prod.snd L_x_isDigit G_x_isDigit s (x_isDigit v0 s) := fm_gd (fm_if (fm_some md_refl) (fm_if (fm_some md_refl) (fm_some md_refl)))
/-! x_isLetter -/
def L_x_isLetter : List Nat := []
def G_x_isLetter : List (Nat × Nat) := []
noncomputable def x_isLetter_12 (v0 : Int) (s : iS) : Option (Int × iS) := gd (rg v0) (if v0 < 65 then some (0, s) else if 90 < v0 then some (0, s) else some (1, s))
theorem tx_isLetter_12 (H : iS → List am_C) (w : ev_W) (d : Nat) (hd : 0 ≤ d) (v0 : Int) (s : iS) : Ew H w d 41 12 [(0, iv v0)] [] s (Ci H) (x_isLetter_12 v0 s) := by
  unfold x_isLetter_12
  refine e_mv 13 em_41 (ce_at ce_41 6 rfl) rfl rfl ?_
  refine e_bip 15 em_41 (ce_at ce_41 7 rfl) (by decide) rfl ?_
  refine e_gd fun g1 => ?_
  refine e_cmlt 28 18 em_41 rfl rfl (ce_at ce_41 8 rfl) g1 (by decide) (fun h2 => ?_) (fun h2 => ?_)
  · refine e_op 29 em_41 (ce_at ce_41 14 rfl) rfl rfl ?_
    exact e_retz em_41 (ce_at ce_41 15 rfl) (by decide)
  · refine e_mv 19 em_41 (ce_at ce_41 9 rfl) rfl rfl ?_
    refine e_bip 21 em_41 (ce_at ce_41 10 rfl) (by decide) rfl ?_
    refine e_cmgt 28 24 em_41 rfl rfl (ce_at ce_41 11 rfl) g1 (by decide) (fun h3 => ?_) (fun h3 => ?_)
    · refine e_op 29 em_41 (ce_at ce_41 14 rfl) rfl rfl ?_
      exact e_retz em_41 (ce_at ce_41 15 rfl) (by decide)
    · refine e_op 25 em_41 (ce_at ce_41 12 rfl) rfl rfl ?_
      refine e_goto em_41 29 (ce_at ce_41 13 rfl) rfl ?_
      exact e_retz em_41 (ce_at ce_41 15 rfl) (by decide)
theorem fx_isLetter_12 (v0 : Int) (s : iS) : Fm Prod.snd L_x_isLetter G_x_isLetter s (x_isLetter_12 v0 s) := fm_gd (fm_if (fm_some md_refl) (fm_if (fm_some md_refl) (fm_some md_refl)))
noncomputable def x_isLetter (v0 : Int) (s : iS) : Option (Int × iS) := gd (rg v0) (if v0 < 97 then x_isLetter_12 v0 s else if v0 ≤ 122 then some (1, s) else x_isLetter_12 v0 s)
theorem tx_isLetter (H : iS → List am_C) (w : ev_W) (d : Nat) (hd : 0 ≤ d) (v0 : Int) (s : iS) : Ew H w d 41 0 [(0, iv v0)] [] s (Ci H) (x_isLetter v0 s) := by
  unfold x_isLetter
  refine e_mv 1 em_41 (ce_at ce_41 0 rfl) rfl rfl ?_
  refine e_bip 3 em_41 (ce_at ce_41 1 rfl) (by decide) rfl ?_
  refine e_gd fun g1 => ?_
  refine e_cmlt 12 6 em_41 rfl rfl (ce_at ce_41 2 rfl) g1 (by decide) (fun h2 => ?_) (fun h2 => ?_)
  · refine e_pk [0] rfl rfl ?_
    exact tx_isLetter_12 H w d hd _ _
  · refine e_mv 7 em_41 (ce_at ce_41 3 rfl) rfl rfl ?_
    refine e_bip 9 em_41 (ce_at ce_41 4 rfl) (by decide) rfl ?_
    refine e_cmle 24 12 em_41 rfl rfl (ce_at ce_41 5 rfl) g1 (by decide) (fun h3 => ?_) (fun h3 => ?_)
    · refine e_op 25 em_41 (ce_at ce_41 12 rfl) rfl rfl ?_
      refine e_goto em_41 29 (ce_at ce_41 13 rfl) rfl ?_
      exact e_retz em_41 (ce_at ce_41 15 rfl) (by decide)
    · refine e_pk [0] rfl rfl ?_
      exact tx_isLetter_12 H w d hd _ _
theorem fx_isLetter (v0 : Int) (s : iS) : Fm Prod.snd L_x_isLetter G_x_isLetter s (x_isLetter v0 s) := fm_gd (fm_if (fx_isLetter_12 _ _) (fm_if (fm_some md_refl) (fx_isLetter_12 _ _)))
/-! tok_wordEnd -/
def L_tok_wordEnd : List Nat := []
def G_tok_wordEnd : List (Nat × Nat) := []
def tok_wordEnd_5C (w : ev_W) (d : Nat) : (Int × iS) ⊕ (Int × iS) → am_E → Prop := fun q r => q.elim (fun l => ev w d 40 5 ((fun l => [(0, .ref (tb_nK + 2)), (1, iv (l.1))]) l) [] (hT ((fun l => l.2) l)) r) (fun e => (fun e r => ev w d 40 51 [(1, iv (e.1))] [] (hT (e.2)) r) e r)
noncomputable def tok_wordEnd_5b (v1 : Int) (s : iS) : Option ((Int × iS) ⊕ (Int × iS)) := gd (rg v1) (gd (rg (s 2 9)) (if (s 2 9) ≤ v1 then some (.inr (v1, s)) else bd (tok_byteAt v1 s) (fun r4 s4 => bd (x_isLetter r4 s4) (fun r5 s5 => gd (rg r5) (if r5 = 0 then bd (tok_byteAt v1 s5) (fun r8 s8 => bd (x_isDigit r8 s8) (fun r9 s9 => gd (rg r9) (if r9 = 0 then bd (tok_byteAt v1 s9) (fun r12 s12 => gd (rg r12) (if r12 = 95 then some (.inl ((v1 + 1), s12)) else some (.inr (v1, s12)))) else some (.inl ((v1 + 1), s9))))) else some (.inl ((v1 + 1), s5)))))))
theorem ttok_wordEnd_5b (w : ev_W) (d : Nat) (hd : 1 ≤ d) (v1 : Int) (s : iS) : Ew hT w d 40 5 [(0, .ref (tb_nK + 2)), (1, iv v1)] [] s (tok_wordEnd_5C w d) (tok_wordEnd_5b v1 s) := by
  unfold tok_wordEnd_5b
  refine e_mv 6 em_40 (ce_at ce_40 3 rfl) rfl rfl ?_
  refine e_mv 7 em_40 (ce_at ce_40 4 rfl) rfl rfl ?_
  refine e_get 10 em_40 (ce_at ce_40 5 rfl) tq_2 rfl rfl ?_
  refine e_gd fun g1 => ?_
  refine e_gd fun g2 => ?_
  refine e_cmge 51 13 em_40 rfl rfl (ce_at ce_40 6 rfl) g1 g2 (fun h3 => ?_) (fun h3 => ?_)
  · refine e_pk [1] rfl rfl ?_
    exact e_out (fun r h => h)
  · refine e_mv 14 em_40 (ce_at ce_40 7 rfl) rfl rfl ?_
    refine e_mv 15 em_40 (ce_at ce_40 8 rfl) rfl rfl ?_
    refine e_ivi 18 em_40 (ce_at ce_40 9 rfl) (by omega) (iv_v1 (by decide) tq_2 rfl) em_34 (Nat.le_of_ble_eq_true rfl) rfl (ttok_byteAt w (d - 1) (by omega) _ _) (fun r4 s4 => ?_)
    refine e_ivi 21 em_40 (ce_at ce_40 10 rfl) (by omega) (iv_s1 rfl) em_41 (Nat.le_of_ble_eq_true rfl) rfl (tx_isLetter hT w (d - 1) (by omega) _ _) (fun r5 s5 => ?_)
    refine e_gd fun g6 => ?_
    refine e_ifne 45 24 em_40 rfl rfl (ce_at ce_40 11 rfl) g6 (fun h7 => ?_) (fun h7 => ?_)
    · refine e_iinc 48 em_40 (ce_at ce_40 22 rfl) rfl (by decide) rfl ?_
      refine e_goto em_40 5 (ce_at ce_40 23 rfl) rfl ?_
      refine e_pk [0, 1] rfl rfl ?_
      exact e_out (fun r h => h)
    · refine e_mv 25 em_40 (ce_at ce_40 12 rfl) rfl rfl ?_
      refine e_mv 26 em_40 (ce_at ce_40 13 rfl) rfl rfl ?_
      refine e_ivi 29 em_40 (ce_at ce_40 14 rfl) (by omega) (iv_v1 (by decide) tq_2 rfl) em_34 (Nat.le_of_ble_eq_true rfl) rfl (ttok_byteAt w (d - 1) (by omega) _ _) (fun r8 s8 => ?_)
      refine e_ivi 32 em_40 (ce_at ce_40 15 rfl) (by omega) (iv_s1 rfl) em_38 (Nat.le_of_ble_eq_true rfl) rfl (tx_isDigit hT w (d - 1) (by omega) _ _) (fun r9 s9 => ?_)
      refine e_gd fun g10 => ?_
      refine e_ifne 45 35 em_40 rfl rfl (ce_at ce_40 16 rfl) g10 (fun h11 => ?_) (fun h11 => ?_)
      · refine e_iinc 48 em_40 (ce_at ce_40 22 rfl) rfl (by decide) rfl ?_
        refine e_goto em_40 5 (ce_at ce_40 23 rfl) rfl ?_
        refine e_pk [0, 1] rfl rfl ?_
        exact e_out (fun r h => h)
      · refine e_mv 36 em_40 (ce_at ce_40 17 rfl) rfl rfl ?_
        refine e_mv 37 em_40 (ce_at ce_40 18 rfl) rfl rfl ?_
        refine e_ivi 40 em_40 (ce_at ce_40 19 rfl) (by omega) (iv_v1 (by decide) tq_2 rfl) em_34 (Nat.le_of_ble_eq_true rfl) rfl (ttok_byteAt w (d - 1) (by omega) _ _) (fun r12 s12 => ?_)
        refine e_bip 42 em_40 (ce_at ce_40 20 rfl) (by decide) rfl ?_
        refine e_gd fun g13 => ?_
        refine e_cmne 51 45 em_40 rfl rfl (ce_at ce_40 21 rfl) g13 (by decide) (fun h14 => ?_) (fun h14 => ?_)
        · refine e_pk [1] rfl rfl ?_
          exact e_out (fun r h => h)
        · refine e_iinc 48 em_40 (ce_at ce_40 22 rfl) rfl (by decide) rfl ?_
          refine e_goto em_40 5 (ce_at ce_40 23 rfl) rfl ?_
          refine e_pk [0, 1] rfl rfl ?_
          exact e_out (fun r h => h)
theorem ftok_wordEnd_5b (v1 : Int) (s : iS) : Fm (fun r : (Int × iS) ⊕ (Int × iS) => r.elim (fun l => l.2) (fun e => e.2)) L_tok_wordEnd G_tok_wordEnd s (tok_wordEnd_5b v1 s) := fm_gd (fm_gd (fm_if (fm_some md_refl) (fm_bd (fm_sub (ftok_byteAt _ _) (mem_sub_L rfl) (mem_sub_F rfl)) (fun r4 s4 => fm_bd (fm_sub (fx_isLetter _ _) (mem_sub_L rfl) (mem_sub_F rfl)) (fun r5 s5 => fm_gd (fm_if (fm_bd (fm_sub (ftok_byteAt _ _) (mem_sub_L rfl) (mem_sub_F rfl)) (fun r8 s8 => fm_bd (fm_sub (fx_isDigit _ _) (mem_sub_L rfl) (mem_sub_F rfl)) (fun r9 s9 => fm_gd (fm_if (fm_bd (fm_sub (ftok_byteAt _ _) (mem_sub_L rfl) (mem_sub_F rfl)) (fun r12 s12 => fm_gd (fm_if (fm_some md_refl) (fm_some md_refl)))) (fm_some md_refl))))) (fm_some md_refl)))))))
noncomputable def tok_wordEnd_5 (v1 : Int) (s : iS) : Option (Int × iS) := (lp (L := Int × iS) (E := Int × iS) (fun l => tok_wordEnd_5b (l.1) (l.2)) (v1, s)).bind (fun e => some (e.1, e.2))
theorem ttok_wordEnd_5 (w : ev_W) (d : Nat) (hd : 1 ≤ d) (v1 : Int) (s : iS) : Ew hT w d 40 5 [(0, .ref (tb_nK + 2)), (1, iv v1)] [] s (Ci hT) (tok_wordEnd_5 v1 s) := by
  unfold tok_wordEnd_5
  refine e_lp (L := Int × iS) (E := Int × iS) (LO := fun l => [(0, .ref (tb_nK + 2)), (1, iv (l.1))]) (LS := fun l => l.2) (CE := fun e r => ev w d 40 51 [(1, iv (e.1))] [] (hT (e.2)) r) (fun l => ttok_wordEnd_5b w d hd _ _) ?_ (v1, s)
  intro e
  show Ew hT w d 40 51 [(1, iv (e.1))] [] e.2 (Ci hT) _
  refine e_mv 52 em_40 (ce_at ce_40 24 rfl) rfl rfl ?_
  exact e_reti em_40 (ce_at ce_40 25 rfl)
theorem ftok_wordEnd_5 (v1 : Int) (s : iS) : Fm Prod.snd L_tok_wordEnd G_tok_wordEnd s (tok_wordEnd_5 v1 s) := by
  unfold tok_wordEnd_5
  refine fm_lp (A := Int × iS) (E := Int × iS) (LS := fun l => l.2) (LE := fun e => e.2) ?_ ?_ (v1, s)
  · exact fun l => ftok_wordEnd_5b _ _
  · exact (fun e => fm_some md_refl)
noncomputable def tok_wordEnd (s : iS) : Option (Int × iS) := tok_wordEnd_5 (s 2 10) s
theorem ttok_wordEnd (w : ev_W) (d : Nat) (hd : 1 ≤ d) (s : iS) : Ew hT w d 40 0 [(0, .ref (tb_nK + 2))] [] s (Ci hT) (tok_wordEnd s) := by
  unfold tok_wordEnd
  refine e_mv 1 em_40 (ce_at ce_40 0 rfl) rfl rfl ?_
  refine e_get 4 em_40 (ce_at ce_40 1 rfl) tq_2 rfl rfl ?_
  refine e_mv 5 em_40 (ce_at ce_40 2 rfl) rfl rfl ?_
  refine e_pk [0, 1] rfl rfl ?_
  exact ttok_wordEnd_5 w d hd _ _
theorem ftok_wordEnd (s : iS) : Fm Prod.snd L_tok_wordEnd G_tok_wordEnd s (tok_wordEnd s) := ftok_wordEnd_5 _ _
/-! nam_half_43 -/
def L_nam_half_43 : List Nat := []
def G_nam_half_43 : List (Nat × Nat) := []
def nam_half_43_5C (w : ev_W) (d : Nat) (v1 : Int) (v2 : Int) : (Int × Int × iS) ⊕ (Int × iS) → am_E → Prop := fun q r => q.elim (fun l => ev w d 43 5 ((fun l => [(0, .ref (tb_nK + 1)), (1, iv v1), (2, iv v2), (3, lv (l.1)), (5, iv (l.2.1))]) l) [] (hT ((fun l => l.2.2) l)) r) (fun e => (fun e r => ev w d 43 53 [(3, lv (e.1))] [] (hT (e.2)) r) e r)
noncomputable def nam_half_43_43 (v1 : Int) (v2 : Int) (v5 : Int) (t0 : Int) (s : iS) : Option ((Int × Int × iS) ⊕ (Int × iS)) := some (.inl ((l_or t0 0), (v5 + 1), s))
theorem tnam_half_43_43 (w : ev_W) (d : Nat) (hd : 0 ≤ d) (v1 : Int) (v2 : Int) (v5 : Int) (t0 : Int) (s : iS) : Ew hT w d 43 43 [(0, .ref (tb_nK + 1)), (1, iv v1), (2, iv v2), (5, iv v5)] [lv t0] s (nam_half_43_5C w d v1 v2) (nam_half_43_43 v1 v2 v5 t0 s) := by
  unfold nam_half_43_43
  refine e_op 44 em_43 (ce_at ce_43 25 rfl) rfl rfl ?_
  refine e_i2l 45 em_43 rfl (ce_at ce_43 26 rfl) (by decide) ?_
  refine e_lor 46 em_43 rfl (ce_at ce_43 27 rfl) ?_
  refine e_mv 47 em_43 (ce_at ce_43 28 rfl) rfl rfl ?_
  refine e_iinc 50 em_43 (ce_at ce_43 29 rfl) rfl (by decide) rfl ?_
  refine e_goto em_43 5 (ce_at ce_43 30 rfl) rfl ?_
  refine e_pk [0, 1, 2, 3, 5] rfl rfl ?_
  exact e_out (fun r h => h)
theorem fnam_half_43_43 (v1 : Int) (v2 : Int) (v5 : Int) (t0 : Int) (s : iS) : Fm (fun r : (Int × Int × iS) ⊕ (Int × iS) => r.elim (fun l => l.2.2) (fun e => e.2)) L_nam_half_43 G_nam_half_43 s (nam_half_43_43 v1 v2 v5 t0 s) := fm_some md_refl
noncomputable def nam_half_43_5b (v1 : Int) (v2 : Int) (v3 : Int) (v5 : Int) (s : iS) : Option ((Int × Int × iS) ⊕ (Int × iS)) := gd (rg v5) (gd (rg (v1 + 8)) (if (v1 + 8) ≤ v5 then some (.inr (v3, s)) else if v5 < 0 then nam_half_43_43 v1 v2 v5 (l_shl v3 8) s else gd (rg v2) (if v2 ≤ v5 then nam_half_43_43 v1 v2 v5 (l_shl v3 8) s else if 4000 ≤ v5 then nam_half_43_43 v1 v2 v5 (l_shl v3 8) s else gd (0 ≤ v5 ∧ v5 < 4000) (gd (rg (s 1 v5.toNat)) (some (.inl ((l_or (l_shl v3 8) (s 1 v5.toNat)), (v5 + 1), s)))))))
theorem tnam_half_43_5b (w : ev_W) (d : Nat) (hd : 0 ≤ d) (v1 : Int) (v2 : Int) (v3 : Int) (v5 : Int) (s : iS) : Ew hT w d 43 5 [(0, .ref (tb_nK + 1)), (1, iv v1), (2, iv v2), (3, lv v3), (5, iv v5)] [] s (nam_half_43_5C w d v1 v2) (nam_half_43_5b v1 v2 v3 v5 s) := by
  unfold nam_half_43_5b
  refine e_mv 7 em_43 (ce_at ce_43 4 rfl) rfl rfl ?_
  refine e_mv 8 em_43 (ce_at ce_43 5 rfl) rfl rfl ?_
  refine e_bip 10 em_43 (ce_at ce_43 6 rfl) (by decide) rfl ?_
  refine e_iadd 11 em_43 rfl (ce_at ce_43 7 rfl) ?_
  refine e_gd fun g1 => ?_
  refine e_gd fun g2 => ?_
  refine e_cmge 53 14 em_43 rfl rfl (ce_at ce_43 8 rfl) g1 g2 (fun h3 => ?_) (fun h3 => ?_)
  · refine e_pk [3] rfl rfl ?_
    exact e_out (fun r h => h)
  · refine e_mv 15 em_43 (ce_at ce_43 9 rfl) rfl rfl ?_
    refine e_bip 17 em_43 (ce_at ce_43 10 rfl) (by decide) rfl ?_
    refine e_lshl 18 em_43 rfl (ce_at ce_43 11 rfl) ?_
    refine e_mv 20 em_43 (ce_at ce_43 12 rfl) rfl rfl ?_
    refine e_iflt 43 23 em_43 rfl rfl (ce_at ce_43 13 rfl) g1 (fun h4 => ?_) (fun h4 => ?_)
    · refine e_pk [0, 1, 2, 5] rfl rfl ?_
      exact tnam_half_43_43 w d hd _ _ _ _ _
    · refine e_mv 25 em_43 (ce_at ce_43 14 rfl) rfl rfl ?_
      refine e_mv 26 em_43 (ce_at ce_43 15 rfl) rfl rfl ?_
      refine e_gd fun g5 => ?_
      refine e_cmge 43 29 em_43 rfl rfl (ce_at ce_43 16 rfl) g1 g5 (fun h6 => ?_) (fun h6 => ?_)
      · refine e_pk [0, 1, 2, 5] rfl rfl ?_
        exact tnam_half_43_43 w d hd _ _ _ _ _
      · refine e_mv 31 em_43 (ce_at ce_43 17 rfl) rfl rfl ?_
        refine e_mv 32 em_43 (ce_at ce_43 18 rfl) rfl rfl ?_
        refine e_alen 33 em_43 (ce_at ce_43 19 rfl) tq_1 (by decide) rfl rfl ?_
        refine e_cmge 43 36 em_43 rfl rfl (ce_at ce_43 20 rfl) g1 (by decide) (fun h7 => ?_) (fun h7 => ?_)
        · refine e_pk [0, 1, 2, 5] rfl rfl ?_
          exact tnam_half_43_43 w d hd _ _ _ _ _
        · refine e_mv 37 em_43 (ce_at ce_43 21 rfl) rfl rfl ?_
          refine e_mv 39 em_43 (ce_at ce_43 22 rfl) rfl rfl ?_
          refine e_gd fun g8 => ?_
          refine e_ild 40 em_43 (ce_at ce_43 23 rfl) tq_1 (by decide) g8 rfl ?_
          refine e_goto em_43 44 (ce_at ce_43 24 rfl) rfl ?_
          refine e_gd fun g9 => ?_
          refine e_i2l 45 em_43 rfl (ce_at ce_43 26 rfl) g9 ?_
          refine e_lor 46 em_43 rfl (ce_at ce_43 27 rfl) ?_
          refine e_mv 47 em_43 (ce_at ce_43 28 rfl) rfl rfl ?_
          refine e_iinc 50 em_43 (ce_at ce_43 29 rfl) rfl (by decide) rfl ?_
          refine e_goto em_43 5 (ce_at ce_43 30 rfl) rfl ?_
          refine e_pk [0, 1, 2, 3, 5] rfl rfl ?_
          exact e_out (fun r h => h)
theorem fnam_half_43_5b (v1 : Int) (v2 : Int) (v3 : Int) (v5 : Int) (s : iS) : Fm (fun r : (Int × Int × iS) ⊕ (Int × iS) => r.elim (fun l => l.2.2) (fun e => e.2)) L_nam_half_43 G_nam_half_43 s (nam_half_43_5b v1 v2 v3 v5 s) := fm_gd (fm_gd (fm_if (fm_some md_refl) (fm_if (fnam_half_43_43 _ _ _ _ _) (fm_gd (fm_if (fnam_half_43_43 _ _ _ _ _) (fm_if (fnam_half_43_43 _ _ _ _ _) (fm_gd (fm_gd (fm_some md_refl)))))))))
noncomputable def nam_half_43_5 (v1 : Int) (v2 : Int) (v3 : Int) (v5 : Int) (s : iS) : Option (Int × iS) := (lp (L := Int × Int × iS) (E := Int × iS) (fun l => nam_half_43_5b v1 v2 (l.1) (l.2.1) (l.2.2)) (v3, v5, s)).bind (fun e => some (e.1, e.2))
theorem tnam_half_43_5 (w : ev_W) (d : Nat) (hd : 0 ≤ d) (v1 : Int) (v2 : Int) (v3 : Int) (v5 : Int) (s : iS) : Ew hT w d 43 5 [(0, .ref (tb_nK + 1)), (1, iv v1), (2, iv v2), (3, lv v3), (5, iv v5)] [] s (Cl hT) (nam_half_43_5 v1 v2 v3 v5 s) := by
  unfold nam_half_43_5
  refine e_lp (L := Int × Int × iS) (E := Int × iS) (LO := fun l => [(0, .ref (tb_nK + 1)), (1, iv v1), (2, iv v2), (3, lv (l.1)), (5, iv (l.2.1))]) (LS := fun l => l.2.2) (CE := fun e r => ev w d 43 53 [(3, lv (e.1))] [] (hT (e.2)) r) (fun l => tnam_half_43_5b w d hd _ _ _ _ _) ?_ (v3, v5, s)
  intro e
  show Ew hT w d 43 53 [(3, lv (e.1))] [] e.2 (Cl hT) _
  refine e_mv 54 em_43 (ce_at ce_43 31 rfl) rfl rfl ?_
  exact e_retl em_43 (ce_at ce_43 32 rfl)
theorem fnam_half_43_5 (v1 : Int) (v2 : Int) (v3 : Int) (v5 : Int) (s : iS) : Fm Prod.snd L_nam_half_43 G_nam_half_43 s (nam_half_43_5 v1 v2 v3 v5 s) := by
  unfold nam_half_43_5
  refine fm_lp (A := Int × Int × iS) (E := Int × iS) (LS := fun l => l.2.2) (LE := fun e => e.2) ?_ ?_ (v3, v5, s)
  · exact fun l => fnam_half_43_5b _ _ _ _ _
  · exact (fun e => fm_some md_refl)
noncomputable def nam_half_43 (v1 : Int) (v2 : Int) (s : iS) : Option (Int × iS) := nam_half_43_5 v1 v2 0 v1 s
theorem tnam_half_43 (w : ev_W) (d : Nat) (hd : 0 ≤ d) (v1 : Int) (v2 : Int) (s : iS) : Ew hT w d 43 0 [(0, .ref (tb_nK + 1)), (1, iv v1), (2, iv v2)] [] s (Cl hT) (nam_half_43 v1 v2 s) := by
  unfold nam_half_43
  refine e_lcon 1 em_43 (ce_at ce_43 0 rfl) (x := 0) rfl rfl ?_
  refine e_mv 2 em_43 (ce_at ce_43 1 rfl) rfl rfl ?_
  refine e_mv 3 em_43 (ce_at ce_43 2 rfl) rfl rfl ?_
  refine e_mv 5 em_43 (ce_at ce_43 3 rfl) rfl rfl ?_
  refine e_pk [0, 1, 2, 3, 5] rfl rfl ?_
  exact tnam_half_43_5 w d hd _ _ _ _ _
theorem fnam_half_43 (v1 : Int) (v2 : Int) (s : iS) : Fm Prod.snd L_nam_half_43 G_nam_half_43 s (nam_half_43 v1 v2 s) := fnam_half_43_5 _ _ _ _ _
/-! mth_max -/
def L_mth_max : List Nat := []
def G_mth_max : List (Nat × Nat) := []
noncomputable def mth_max (v0 : Int) (v1 : Int) (s : iS) : Option (Int × iS) := gd (rg v0) (gd (rg v1) (if v0 < v1 then some (v1, s) else some (v0, s)))
theorem tmth_max (H : iS → List am_C) (w : ev_W) (d : Nat) (hd : 0 ≤ d) (v0 : Int) (v1 : Int) (s : iS) : Ew H w d 45 0 [(0, iv v0), (1, iv v1)] [] s (Ci H) (mth_max v0 v1 s) := by
  unfold mth_max
  refine e_mv 1 em_45 (ce_at ce_45 0 rfl) rfl rfl ?_
  refine e_mv 2 em_45 (ce_at ce_45 1 rfl) rfl rfl ?_
  refine e_gd fun g1 => ?_
  refine e_gd fun g2 => ?_
  refine e_cmlt 9 5 em_45 rfl rfl (ce_at ce_45 2 rfl) g1 g2 (fun h3 => ?_) (fun h3 => ?_)
  · refine e_mv 10 em_45 (ce_at ce_45 5 rfl) rfl rfl ?_
    exact e_reti em_45 (ce_at ce_45 6 rfl)
  · refine e_mv 6 em_45 (ce_at ce_45 3 rfl) rfl rfl ?_
    refine e_goto em_45 10 (ce_at ce_45 4 rfl) rfl ?_
    exact e_reti em_45 (ce_at ce_45 6 rfl)
theorem fmth_max (v0 : Int) (v1 : Int) (s : iS) : Fm Prod.snd L_mth_max G_mth_max s (mth_max v0 v1 s) := fm_gd (fm_gd (fm_if (fm_some md_refl) (fm_some md_refl)))
/-! nam_find -/
def nam_find_19C (H : iS → List am_C) (w : ev_W) (d : Nat) (c0 : Nat) (a0 : Nat) (b0 : Nat) (n0 : Nat) (v1 : Int) (v3 : Int) (v7 : Int) : (Int × iS) ⊕ ((Int × iS) ⊕ (iS)) → am_E → Prop := fun q r => q.elim (fun l => ev w d 44 19 ((fun l => [(0, .ref (tb_nK + c0)), (1, lv v1), (3, lv v3), (7, iv v7), (8, iv (l.1))]) l) [] (H ((fun l => l.2) l)) r) (fun e => (fun e r => e.elim (fun e => ev w d 44 50 [(8, iv (e.1))] [] (H (e.2)) r) (fun e => ev w d 44 59 [] [] (H (e)) r)) e r)
noncomputable def nam_find_19b (c0 : Nat) (a0 : Nat) (b0 : Nat) (n0 : Nat) (v1 : Int) (v3 : Int) (v7 : Int) (v8 : Int) (s : iS) : Option ((Int × iS) ⊕ ((Int × iS) ⊕ (iS))) := gd (rg v8) (gd (rg v7) (if v7 ≤ v8 then some (.inr (.inr s)) else gd (0 ≤ v8 ∧ v8 < (n0 : Int)) (gd (rg (l_cmp (s a0 v8.toNat) v1)) (if (l_cmp (s a0 v8.toNat) v1) = 0 then gd (rg (l_cmp (s b0 v8.toNat) v3)) (if (l_cmp (s b0 v8.toNat) v3) = 0 then some (.inr (.inl (v8, s))) else some (.inl ((v8 + 1), s))) else some (.inl ((v8 + 1), s))))))
theorem tnam_find_19b (H : iS → List am_C) (w : ev_W) (d : Nat) (hd : 1 ≤ d) (c0 : Nat) (a0 : Nat) (b0 : Nat) (n0 : Nat) (h_c0 : Ho H c0 2 [some a0, some b0, none]) (h_a0 : Ha H a0 1 n0) (h_b0 : Ha H b0 1 n0) (hl_n0 : n0 < 2147483648) (v1 : Int) (v3 : Int) (v7 : Int) (v8 : Int) (s : iS) : Ew H w d 44 19 [(0, .ref (tb_nK + c0)), (1, lv v1), (3, lv v3), (7, iv v7), (8, iv v8)] [] s (nam_find_19C H w d c0 a0 b0 n0 v1 v3 v7) (nam_find_19b c0 a0 b0 n0 v1 v3 v7 v8 s) := by
  unfold nam_find_19b
  refine e_mv 21 em_44 (ce_at ce_44 9 rfl) rfl rfl ?_
  refine e_mv 23 em_44 (ce_at ce_44 10 rfl) rfl rfl ?_
  refine e_gd fun g1 => ?_
  refine e_gd fun g2 => ?_
  refine e_cmge 59 26 em_44 rfl rfl (ce_at ce_44 11 rfl) g1 g2 (fun h3 => ?_) (fun h3 => ?_)
  · refine e_pk [] rfl rfl ?_
    exact e_out (fun r h => h)
  · refine e_mv 27 em_44 (ce_at ce_44 12 rfl) rfl rfl ?_
    refine e_getr 30 em_44 (ce_at ce_44 13 rfl) h_c0 rfl rfl ?_
    refine e_mv 32 em_44 (ce_at ce_44 14 rfl) rfl rfl ?_
    refine e_gd fun g4 => ?_
    refine e_lld 33 em_44 (ce_at ce_44 15 rfl) h_a0 hl_n0 g4 rfl ?_
    refine e_mv 34 em_44 (ce_at ce_44 16 rfl) rfl rfl ?_
    refine e_lcmp 35 em_44 rfl (ce_at ce_44 17 rfl) ?_
    refine e_gd fun g5 => ?_
    refine e_ifne 53 38 em_44 rfl rfl (ce_at ce_44 18 rfl) g5 (fun h6 => ?_) (fun h6 => ?_)
    · refine e_iinc 56 em_44 (ce_at ce_44 28 rfl) rfl (by decide) rfl ?_
      refine e_goto em_44 19 (ce_at ce_44 29 rfl) rfl ?_
      refine e_pk [0, 1, 3, 7, 8] rfl rfl ?_
      exact e_out (fun r h => h)
    · refine e_mv 39 em_44 (ce_at ce_44 19 rfl) rfl rfl ?_
      refine e_getr 42 em_44 (ce_at ce_44 20 rfl) h_c0 rfl rfl ?_
      refine e_mv 44 em_44 (ce_at ce_44 21 rfl) rfl rfl ?_
      refine e_lld 45 em_44 (ce_at ce_44 22 rfl) h_b0 hl_n0 g4 rfl ?_
      refine e_mv 46 em_44 (ce_at ce_44 23 rfl) rfl rfl ?_
      refine e_lcmp 47 em_44 rfl (ce_at ce_44 24 rfl) ?_
      refine e_gd fun g7 => ?_
      refine e_ifne 53 50 em_44 rfl rfl (ce_at ce_44 25 rfl) g7 (fun h8 => ?_) (fun h8 => ?_)
      · refine e_iinc 56 em_44 (ce_at ce_44 28 rfl) rfl (by decide) rfl ?_
        refine e_goto em_44 19 (ce_at ce_44 29 rfl) rfl ?_
        refine e_pk [0, 1, 3, 7, 8] rfl rfl ?_
        exact e_out (fun r h => h)
      · refine e_pk [8] rfl rfl ?_
        exact e_out (fun r h => h)
theorem fnam_find_19b (c0 : Nat) (a0 : Nat) (b0 : Nat) (n0 : Nat) (v1 : Int) (v3 : Int) (v7 : Int) (v8 : Int) (s : iS) : Fm (fun r : (Int × iS) ⊕ ((Int × iS) ⊕ (iS)) => r.elim (fun l => l.2) (fun e => e.elim (fun e => e.2) (fun e => e))) [] [] s (nam_find_19b c0 a0 b0 n0 v1 v3 v7 v8 s) := fm_gd (fm_gd (fm_if (fm_some md_refl) (fm_gd (fm_gd (fm_if (fm_gd (fm_if (fm_some md_refl) (fm_some md_refl))) (fm_some md_refl))))))
noncomputable def nam_find_19 (c0 : Nat) (a0 : Nat) (b0 : Nat) (n0 : Nat) (v1 : Int) (v3 : Int) (v7 : Int) (v8 : Int) (s : iS) : Option (Int × iS) := (lp (L := Int × iS) (E := (Int × iS) ⊕ (iS)) (fun l => nam_find_19b c0 a0 b0 n0 v1 v3 v7 (l.1) (l.2)) (v8, s)).bind (fun e => e.elim (fun e => some (e.1, e.2)) (fun e => some ((-1), e)))
theorem tnam_find_19 (H : iS → List am_C) (w : ev_W) (d : Nat) (hd : 1 ≤ d) (c0 : Nat) (a0 : Nat) (b0 : Nat) (n0 : Nat) (h_c0 : Ho H c0 2 [some a0, some b0, none]) (h_a0 : Ha H a0 1 n0) (h_b0 : Ha H b0 1 n0) (hl_n0 : n0 < 2147483648) (v1 : Int) (v3 : Int) (v7 : Int) (v8 : Int) (s : iS) : Ew H w d 44 19 [(0, .ref (tb_nK + c0)), (1, lv v1), (3, lv v3), (7, iv v7), (8, iv v8)] [] s (Ci H) (nam_find_19 c0 a0 b0 n0 v1 v3 v7 v8 s) := by
  unfold nam_find_19
  refine e_lp (L := Int × iS) (E := (Int × iS) ⊕ (iS)) (LO := fun l => [(0, .ref (tb_nK + c0)), (1, lv v1), (3, lv v3), (7, iv v7), (8, iv (l.1))]) (LS := fun l => l.2) (CE := fun e r => e.elim (fun e => ev w d 44 50 [(8, iv (e.1))] [] (H (e.2)) r) (fun e => ev w d 44 59 [] [] (H (e)) r)) (fun l => tnam_find_19b H w d hd c0 a0 b0 n0 h_c0 h_a0 h_b0 hl_n0 _ _ _ _ _) ?_ (v8, s)
  rintro (e | e)
  · show Ew H w d 44 50 [(8, iv (e.1))] [] e.2 (Ci H) _
    refine e_mv 52 em_44 (ce_at ce_44 26 rfl) rfl rfl ?_
    exact e_reti em_44 (ce_at ce_44 27 rfl)
  · show Ew H w d 44 59 [] [] e (Ci H) _
    refine e_op 60 em_44 (ce_at ce_44 30 rfl) rfl rfl ?_
    exact e_reti em_44 (ce_at ce_44 31 rfl)
theorem fnam_find_19 (c0 : Nat) (a0 : Nat) (b0 : Nat) (n0 : Nat) (v1 : Int) (v3 : Int) (v7 : Int) (v8 : Int) (s : iS) : Fm Prod.snd [] [] s (nam_find_19 c0 a0 b0 n0 v1 v3 v7 v8 s) := by
  unfold nam_find_19
  refine fm_lp (A := Int × iS) (E := (Int × iS) ⊕ (iS)) (LS := fun l => l.2) (LE := fun e => e.elim (fun e => e.2) (fun e => e)) ?_ ?_ (v8, s)
  · exact fun l => fnam_find_19b c0 a0 b0 n0 _ _ _ _ _
  · exact (by rintro (e | e); exact fm_some md_refl; exact fm_some md_refl)
noncomputable def nam_find (c0 : Nat) (a0 : Nat) (b0 : Nat) (n0 : Nat) (v1 : Int) (v3 : Int) (v5 : Int) (v6 : Int) (s : iS) : Option (Int × iS) := bd (mth_min v6 (s c0 2) s) (fun r1 s1 => bd (mth_max 0 v5 s1) (fun r2 s2 => nam_find_19 c0 a0 b0 n0 v1 v3 r1 r2 s2))
theorem tnam_find (H : iS → List am_C) (w : ev_W) (d : Nat) (hd : 1 ≤ d) (c0 : Nat) (a0 : Nat) (b0 : Nat) (n0 : Nat) (h_c0 : Ho H c0 2 [some a0, some b0, none]) (h_a0 : Ha H a0 1 n0) (h_b0 : Ha H b0 1 n0) (hl_n0 : n0 < 2147483648) (v1 : Int) (v3 : Int) (v5 : Int) (v6 : Int) (s : iS) : Ew H w d 44 0 [(0, .ref (tb_nK + c0)), (1, lv v1), (3, lv v3), (5, iv v5), (6, iv v6)] [] s (Ci H) (nam_find c0 a0 b0 n0 v1 v3 v5 v6 s) := by
  unfold nam_find
  refine e_mv 2 em_44 (ce_at ce_44 0 rfl) rfl rfl ?_
  refine e_mv 3 em_44 (ce_at ce_44 1 rfl) rfl rfl ?_
  refine e_get 6 em_44 (ce_at ce_44 2 rfl) h_c0 rfl rfl ?_
  refine e_ivi 9 em_44 (ce_at ce_44 3 rfl) (by omega) (iv_s2 rfl) em_21 (Nat.le_of_ble_eq_true rfl) rfl (tmth_min H w (d - 1) (by omega) _ _ _) (fun r1 s1 => ?_)
  refine e_mv 11 em_44 (ce_at ce_44 4 rfl) rfl rfl ?_
  refine e_op 12 em_44 (ce_at ce_44 5 rfl) rfl rfl ?_
  refine e_mv 14 em_44 (ce_at ce_44 6 rfl) rfl rfl ?_
  refine e_ivi 17 em_44 (ce_at ce_44 7 rfl) (by omega) (iv_s2 rfl) em_45 (Nat.le_of_ble_eq_true rfl) rfl (tmth_max H w (d - 1) (by omega) _ _ _) (fun r2 s2 => ?_)
  refine e_mv 19 em_44 (ce_at ce_44 8 rfl) rfl rfl ?_
  refine e_pk [0, 1, 3, 7, 8] rfl rfl ?_
  exact tnam_find_19 H w d hd c0 a0 b0 n0 h_c0 h_a0 h_b0 hl_n0 _ _ _ _ _
theorem fnam_find (c0 : Nat) (a0 : Nat) (b0 : Nat) (n0 : Nat) (v1 : Int) (v3 : Int) (v5 : Int) (v6 : Int) (s : iS) : Fm Prod.snd [] [] s (nam_find c0 a0 b0 n0 v1 v3 v5 v6 s) := fm_bd (fm_sub (fmth_min _ _ _) (fun _ h => by cases h) (fun _ h => by cases h)) (fun r1 s1 => fm_bd (fm_sub (fmth_max _ _ _) (fun _ h => by cases h) (fun _ h => by cases h)) (fun r2 s2 => fnam_find_19 c0 a0 b0 n0 _ _ _ _ _))
/-! tok_readWord -/
def L_tok_readWord : List Nat := [12, 13]
def G_tok_readWord : List (Nat × Nat) := [(2, 10)]
noncomputable def tok_readWord_80 (v1 : Int) (s : iS) : Option (Int × iS) := gd (0 ≤ v1 ∧ v1 < 2001) (bd (nam_find 3 4 5 21 (s 12 v1.toNat) (s 13 v1.toNat) 0 (s 3 2) s) (fun r2 s2 => gd (rg r2) (if r2 = (-1) then some (3, s2) else gd (rg (s2 2 11)) (if (s2 2 11) = 0 then some ((r2 + 256), s2) else some ((r2 + 300), s2)))))
theorem ttok_readWord_80 (w : ev_W) (d : Nat) (hd : 2 ≤ d) (v1 : Int) (s : iS) : Ew hT w d 42 80 [(0, .ref (tb_nK + 2)), (1, iv v1)] [.ref (tb_nK + 3)] s (Ci hT) (tok_readWord_80 v1 s) := by
  unfold tok_readWord_80
  refine e_mv 81 em_42 (ce_at ce_42 44 rfl) rfl rfl ?_
  refine e_mv 82 em_42 (ce_at ce_42 45 rfl) rfl rfl ?_
  refine e_mv 83 em_42 (ce_at ce_42 46 rfl) rfl rfl ?_
  refine e_getr 86 em_42 (ce_at ce_42 47 rfl) tq_2 rfl rfl ?_
  refine e_mv 87 em_42 (ce_at ce_42 48 rfl) rfl rfl ?_
  refine e_gd fun g1 => ?_
  refine e_lld 88 em_42 (ce_at ce_42 49 rfl) tq_12 (by decide) g1 rfl ?_
  refine e_mv 89 em_42 (ce_at ce_42 50 rfl) rfl rfl ?_
  refine e_getr 92 em_42 (ce_at ce_42 51 rfl) tq_2 rfl rfl ?_
  refine e_mv 93 em_42 (ce_at ce_42 52 rfl) rfl rfl ?_
  refine e_lld 94 em_42 (ce_at ce_42 53 rfl) tq_13 (by decide) g1 rfl ?_
  refine e_op 95 em_42 (ce_at ce_42 54 rfl) rfl rfl ?_
  refine e_mv 96 em_42 (ce_at ce_42 55 rfl) rfl rfl ?_
  refine e_get 99 em_42 (ce_at ce_42 56 rfl) tq_3 rfl rfl ?_
  refine e_ivi 102 em_42 (ce_at ce_42 57 rfl) (by omega) (iv_v4 (by decide) tq_3 rfl) em_44 (Nat.le_of_ble_eq_true rfl) rfl (tnam_find hT w (d - 1) (by omega) 3 4 5 21 tq_3 tq_4 tq_5 (by decide) _ _ _ _ _) (fun r2 s2 => ?_)
  refine e_mv 104 em_42 (ce_at ce_42 58 rfl) rfl rfl ?_
  refine e_mv 106 em_42 (ce_at ce_42 59 rfl) rfl rfl ?_
  refine e_op 107 em_42 (ce_at ce_42 60 rfl) rfl rfl ?_
  refine e_gd fun g3 => ?_
  refine e_cmne 112 110 em_42 rfl rfl (ce_at ce_42 61 rfl) g3 (by decide) (fun h4 => ?_) (fun h4 => ?_)
  · refine e_mv 114 em_42 (ce_at ce_42 64 rfl) rfl rfl ?_
    refine e_mv 115 em_42 (ce_at ce_42 65 rfl) rfl rfl ?_
    refine e_get 118 em_42 (ce_at ce_42 66 rfl) tq_2 rfl rfl ?_
    refine e_gd fun g5 => ?_
    refine e_ifeq 127 121 em_42 rfl rfl (ce_at ce_42 67 rfl) g5 (fun h6 => ?_) (fun h6 => ?_)
    · refine e_sip 130 em_42 (ce_at ce_42 70 rfl) (by decide) rfl ?_
      refine e_iadd 131 em_42 rfl (ce_at ce_42 71 rfl) ?_
      exact e_reti em_42 (ce_at ce_42 72 rfl)
    · refine e_sip 124 em_42 (ce_at ce_42 68 rfl) (by decide) rfl ?_
      refine e_goto em_42 130 (ce_at ce_42 69 rfl) rfl ?_
      refine e_iadd 131 em_42 rfl (ce_at ce_42 71 rfl) ?_
      exact e_reti em_42 (ce_at ce_42 72 rfl)
  · refine e_op 111 em_42 (ce_at ce_42 62 rfl) rfl rfl ?_
    exact e_reti em_42 (ce_at ce_42 63 rfl)
theorem ftok_readWord_80 (v1 : Int) (s : iS) : Fm Prod.snd L_tok_readWord G_tok_readWord s (tok_readWord_80 v1 s) := fm_gd (fm_bd (fm_sub (fnam_find 3 4 5 21 _ _ _ _ _) (mem_sub_L rfl) (mem_sub_F rfl)) (fun r2 s2 => fm_gd (fm_if (fm_some md_refl) (fm_gd (fm_if (fm_some md_refl) (fm_some md_refl))))))
noncomputable def tok_readWord_80v1 (v1 : Int) (s : iS) : Option (Int × iS) := gd (0 ≤ v1 ∧ v1 < 2001) (bd (nam_find 6 7 8 6 (s 12 v1.toNat) (s 13 v1.toNat) 0 (s 6 2) s) (fun r2 s2 => gd (rg r2) (if r2 = (-1) then some (3, s2) else gd (rg (s2 2 11)) (if (s2 2 11) = 0 then some ((r2 + 256), s2) else some ((r2 + 300), s2)))))
theorem ttok_readWord_80v1 (w : ev_W) (d : Nat) (hd : 2 ≤ d) (v1 : Int) (s : iS) : Ew hT w d 42 80 [(0, .ref (tb_nK + 2)), (1, iv v1)] [.ref (tb_nK + 6)] s (Ci hT) (tok_readWord_80v1 v1 s) := by
  unfold tok_readWord_80v1
  refine e_mv 81 em_42 (ce_at ce_42 44 rfl) rfl rfl ?_
  refine e_mv 82 em_42 (ce_at ce_42 45 rfl) rfl rfl ?_
  refine e_mv 83 em_42 (ce_at ce_42 46 rfl) rfl rfl ?_
  refine e_getr 86 em_42 (ce_at ce_42 47 rfl) tq_2 rfl rfl ?_
  refine e_mv 87 em_42 (ce_at ce_42 48 rfl) rfl rfl ?_
  refine e_gd fun g1 => ?_
  refine e_lld 88 em_42 (ce_at ce_42 49 rfl) tq_12 (by decide) g1 rfl ?_
  refine e_mv 89 em_42 (ce_at ce_42 50 rfl) rfl rfl ?_
  refine e_getr 92 em_42 (ce_at ce_42 51 rfl) tq_2 rfl rfl ?_
  refine e_mv 93 em_42 (ce_at ce_42 52 rfl) rfl rfl ?_
  refine e_lld 94 em_42 (ce_at ce_42 53 rfl) tq_13 (by decide) g1 rfl ?_
  refine e_op 95 em_42 (ce_at ce_42 54 rfl) rfl rfl ?_
  refine e_mv 96 em_42 (ce_at ce_42 55 rfl) rfl rfl ?_
  refine e_get 99 em_42 (ce_at ce_42 56 rfl) tq_6 rfl rfl ?_
  refine e_ivi 102 em_42 (ce_at ce_42 57 rfl) (by omega) (iv_v4 (by decide) tq_6 rfl) em_44 (Nat.le_of_ble_eq_true rfl) rfl (tnam_find hT w (d - 1) (by omega) 6 7 8 6 tq_6 tq_7 tq_8 (by decide) _ _ _ _ _) (fun r2 s2 => ?_)
  refine e_mv 104 em_42 (ce_at ce_42 58 rfl) rfl rfl ?_
  refine e_mv 106 em_42 (ce_at ce_42 59 rfl) rfl rfl ?_
  refine e_op 107 em_42 (ce_at ce_42 60 rfl) rfl rfl ?_
  refine e_gd fun g3 => ?_
  refine e_cmne 112 110 em_42 rfl rfl (ce_at ce_42 61 rfl) g3 (by decide) (fun h4 => ?_) (fun h4 => ?_)
  · refine e_mv 114 em_42 (ce_at ce_42 64 rfl) rfl rfl ?_
    refine e_mv 115 em_42 (ce_at ce_42 65 rfl) rfl rfl ?_
    refine e_get 118 em_42 (ce_at ce_42 66 rfl) tq_2 rfl rfl ?_
    refine e_gd fun g5 => ?_
    refine e_ifeq 127 121 em_42 rfl rfl (ce_at ce_42 67 rfl) g5 (fun h6 => ?_) (fun h6 => ?_)
    · refine e_sip 130 em_42 (ce_at ce_42 70 rfl) (by decide) rfl ?_
      refine e_iadd 131 em_42 rfl (ce_at ce_42 71 rfl) ?_
      exact e_reti em_42 (ce_at ce_42 72 rfl)
    · refine e_sip 124 em_42 (ce_at ce_42 68 rfl) (by decide) rfl ?_
      refine e_goto em_42 130 (ce_at ce_42 69 rfl) rfl ?_
      refine e_iadd 131 em_42 rfl (ce_at ce_42 71 rfl) ?_
      exact e_reti em_42 (ce_at ce_42 72 rfl)
  · refine e_op 111 em_42 (ce_at ce_42 62 rfl) rfl rfl ?_
    exact e_reti em_42 (ce_at ce_42 63 rfl)
theorem ftok_readWord_80v1 (v1 : Int) (s : iS) : Fm Prod.snd L_tok_readWord G_tok_readWord s (tok_readWord_80v1 v1 s) := fm_gd (fm_bd (fm_sub (fnam_find 6 7 8 6 _ _ _ _ _) (mem_sub_L rfl) (mem_sub_F rfl)) (fun r2 s2 => fm_gd (fm_if (fm_some md_refl) (fm_gd (fm_if (fm_some md_refl) (fm_some md_refl))))))
noncomputable def tok_readWord (v1 : Int) (s : iS) : Option (Int × iS) := bd (tok_wordEnd s) (fun r1 s1 => gd (rg (r1 - (s1 2 10))) (if (r1 - (s1 2 10)) ≤ 16 then bd (nam_half_43 (s1 2 10) r1 s1) (fun r4 s4 => gd (0 ≤ v1 ∧ v1 < 2001) (lt' (up s4 12 v1.toNat r4) (fun s6 => bd (nam_half_43 ((s6 2 10) + 8) r1 s6) (fun r7 s7 => lt' (up s7 13 v1.toNat r7) (fun s8 => lt' (up s8 2 10 r1) (fun s9 => gd (rg (s9 2 11)) (if (s9 2 11) = 0 then tok_readWord_80 v1 s9 else tok_readWord_80v1 v1 s9))))))) else some (1, s1)))
theorem ttok_readWord (w : ev_W) (d : Nat) (hd : 2 ≤ d) (v1 : Int) (s : iS) : Ew hT w d 42 0 [(0, .ref (tb_nK + 2)), (1, iv v1)] [] s (Ci hT) (tok_readWord v1 s) := by
  unfold tok_readWord
  refine e_mv 1 em_42 (ce_at ce_42 0 rfl) rfl rfl ?_
  refine e_ivi 4 em_42 (ce_at ce_42 1 rfl) (by omega) (iv_v0 (by decide) tq_2 rfl) em_40 (Nat.le_of_ble_eq_true rfl) rfl (ttok_wordEnd w (d - 1) (by omega) _) (fun r1 s1 => ?_)
  refine e_mv 5 em_42 (ce_at ce_42 2 rfl) rfl rfl ?_
  refine e_mv 6 em_42 (ce_at ce_42 3 rfl) rfl rfl ?_
  refine e_mv 7 em_42 (ce_at ce_42 4 rfl) rfl rfl ?_
  refine e_get 10 em_42 (ce_at ce_42 5 rfl) tq_2 rfl rfl ?_
  refine e_isub 11 em_42 rfl (ce_at ce_42 6 rfl) ?_
  refine e_bip 13 em_42 (ce_at ce_42 7 rfl) (by decide) rfl ?_
  refine e_gd fun g2 => ?_
  refine e_cmle 18 16 em_42 rfl rfl (ce_at ce_42 8 rfl) g2 (by decide) (fun h3 => ?_) (fun h3 => ?_)
  · refine e_mv 19 em_42 (ce_at ce_42 11 rfl) rfl rfl ?_
    refine e_getr 22 em_42 (ce_at ce_42 12 rfl) tq_2 rfl rfl ?_
    refine e_mv 23 em_42 (ce_at ce_42 13 rfl) rfl rfl ?_
    refine e_mv 24 em_42 (ce_at ce_42 14 rfl) rfl rfl ?_
    refine e_getr 27 em_42 (ce_at ce_42 15 rfl) tq_2 rfl rfl ?_
    refine e_mv 28 em_42 (ce_at ce_42 16 rfl) rfl rfl ?_
    refine e_get 31 em_42 (ce_at ce_42 17 rfl) tq_2 rfl rfl ?_
    refine e_mv 32 em_42 (ce_at ce_42 18 rfl) rfl rfl ?_
    refine e_ivl 35 em_42 (ce_at ce_42 19 rfl) (by omega) (iv_s3 rfl) em_43 (Nat.le_of_ble_eq_true rfl) rfl (tnam_half_43 w (d - 1) (by omega) _ _ _) (fun r4 s4 => ?_)
    refine e_gd fun g5 => ?_
    refine e_lst 36 em_42 (ce_at ce_42 20 rfl) tq_12 (by decide) g5 rfl (fun s6 => ?_)
    refine e_mv 37 em_42 (ce_at ce_42 21 rfl) rfl rfl ?_
    refine e_getr 40 em_42 (ce_at ce_42 22 rfl) tq_2 rfl rfl ?_
    refine e_mv 41 em_42 (ce_at ce_42 23 rfl) rfl rfl ?_
    refine e_mv 42 em_42 (ce_at ce_42 24 rfl) rfl rfl ?_
    refine e_getr 45 em_42 (ce_at ce_42 25 rfl) tq_2 rfl rfl ?_
    refine e_mv 46 em_42 (ce_at ce_42 26 rfl) rfl rfl ?_
    refine e_get 49 em_42 (ce_at ce_42 27 rfl) tq_2 rfl rfl ?_
    refine e_bip 51 em_42 (ce_at ce_42 28 rfl) (by decide) rfl ?_
    refine e_iadd 52 em_42 rfl (ce_at ce_42 29 rfl) ?_
    refine e_mv 53 em_42 (ce_at ce_42 30 rfl) rfl rfl ?_
    refine e_ivl 56 em_42 (ce_at ce_42 31 rfl) (by omega) (iv_s3 rfl) em_43 (Nat.le_of_ble_eq_true rfl) rfl (tnam_half_43 w (d - 1) (by omega) _ _ _) (fun r7 s7 => ?_)
    refine e_lst 57 em_42 (ce_at ce_42 32 rfl) tq_13 (by decide) g5 rfl (fun s8 => ?_)
    refine e_mv 58 em_42 (ce_at ce_42 33 rfl) rfl rfl ?_
    refine e_mv 59 em_42 (ce_at ce_42 34 rfl) rfl rfl ?_
    refine e_put 62 em_42 (ce_at ce_42 35 rfl) tq_2 rfl rfl rfl (fun s9 => ?_)
    refine e_mv 63 em_42 (ce_at ce_42 36 rfl) rfl rfl ?_
    refine e_get 66 em_42 (ce_at ce_42 37 rfl) tq_2 rfl rfl ?_
    refine e_gd fun g10 => ?_
    refine e_ifeq 76 69 em_42 rfl rfl (ce_at ce_42 38 rfl) g10 (fun h11 => ?_) (fun h11 => ?_)
    · refine e_mv 77 em_42 (ce_at ce_42 42 rfl) rfl rfl ?_
      refine e_getr 80 em_42 (ce_at ce_42 43 rfl) tq_2 rfl rfl ?_
      refine e_pk [0, 1] rfl rfl ?_
      exact ttok_readWord_80 w d hd _ _
    · refine e_mv 70 em_42 (ce_at ce_42 39 rfl) rfl rfl ?_
      refine e_getr 73 em_42 (ce_at ce_42 40 rfl) tq_2 rfl rfl ?_
      refine e_goto em_42 80 (ce_at ce_42 41 rfl) rfl ?_
      refine e_pk [0, 1] rfl rfl ?_
      exact ttok_readWord_80v1 w d hd _ _
  · refine e_op 17 em_42 (ce_at ce_42 9 rfl) rfl rfl ?_
    exact e_reti em_42 (ce_at ce_42 10 rfl)
theorem ftok_readWord (v1 : Int) (s : iS) : Fm Prod.snd L_tok_readWord G_tok_readWord s (tok_readWord v1 s) := fm_bd (fm_sub (ftok_wordEnd _) (mem_sub_L rfl) (mem_sub_F rfl)) (fun r1 s1 => fm_gd (fm_if (fm_bd (fm_sub (fnam_half_43 _ _ _) (mem_sub_L rfl) (mem_sub_F rfl)) (fun r4 s4 => fm_gd (fm_lt (md_upL (mem_L rfl)) (fun s6 => fm_bd (fm_sub (fnam_half_43 _ _ _) (mem_sub_L rfl) (mem_sub_F rfl)) (fun r7 s7 => fm_lt (md_upL (mem_L rfl)) (fun s8 => fm_lt (md_upF (mem_F rfl)) (fun s9 => fm_gd (fm_if (ftok_readWord_80 _ _) (ftok_readWord_80v1 _ _))))))))) (fm_some md_refl)))
/-! str_isLatin1 -/
def L_str_isLatin1 : List Nat := []
def G_str_isLatin1 : List (Nat × Nat) := []
noncomputable def str_isLatin1 (s : iS) : Option (Int × iS) := some (1, s)
theorem tstr_isLatin1 (H : iS → List am_C) (w : ev_W) (d : Nat) (hd : 0 ≤ d) (s : iS) : Ew H w d 7 0 [(0, .ref 37)] [] s (Ci H) (str_isLatin1 s) := by
  unfold str_isLatin1
  refine e_gst 3 em_7 (ce_at ce_7 0 rfl) rfl rfl ?_
  refine e_jF 6 em_7 (ce_at ce_7 1 rfl) rfl (by rfl) rfl ?_
  refine e_mv 7 em_7 (ce_at ce_7 2 rfl) rfl rfl ?_
  refine e_getk 10 em_7 (ce_at ce_7 3 rfl) (by decide) rfl rfl rfl ?_
  refine e_jF 13 em_7 (ce_at ce_7 4 rfl) rfl (by rfl) rfl ?_
  refine e_op 14 em_7 (ce_at ce_7 5 rfl) rfl rfl ?_
  refine e_goto em_7 18 (ce_at ce_7 6 rfl) rfl ?_
  exact e_retz em_7 (ce_at ce_7 8 rfl) (by decide)
theorem fstr_isLatin1 (s : iS) : Fm Prod.snd L_str_isLatin1 G_str_isLatin1 s (str_isLatin1 s) := fm_some md_refl
/-! str_coder -/
def L_str_coder : List Nat := []
def G_str_coder : List (Nat × Nat) := []
noncomputable def str_coder (s : iS) : Option (Int × iS) := some (0, s)
theorem tstr_coder (H : iS → List am_C) (w : ev_W) (d : Nat) (hd : 0 ≤ d) (s : iS) : Ew H w d 5 0 [(0, .ref 37)] [] s (Ci H) (str_coder s) := by
  unfold str_coder
  refine e_gst 3 em_5 (ce_at ce_5 0 rfl) rfl rfl ?_
  refine e_jF 6 em_5 (ce_at ce_5 1 rfl) rfl (by rfl) rfl ?_
  refine e_mv 7 em_5 (ce_at ce_5 2 rfl) rfl rfl ?_
  refine e_getk 10 em_5 (ce_at ce_5 3 rfl) (by decide) rfl rfl rfl ?_
  refine e_goto em_5 14 (ce_at ce_5 4 rfl) rfl ?_
  exact e_retb em_5 (ce_at ce_5 6 rfl) (by decide)
theorem fstr_coder (s : iS) : Fm Prod.snd L_str_coder G_str_coder s (str_coder s) := fm_some md_refl
/-! str_length -/
def L_str_length : List Nat := []
def G_str_length : List (Nat × Nat) := []
noncomputable def str_length (s : iS) : Option (Int × iS) := some ((i_shr 19 0), s)
theorem tstr_length (H : iS → List am_C) (w : ev_W) (d : Nat) (hd : 1 ≤ d) (s : iS) : Ew H w d 4 0 [(0, .ref 37)] [] s (Ci H) (str_length s) := by
  unfold str_length
  refine e_mv 1 em_4 (ce_at ce_4 0 rfl) rfl rfl ?_
  refine e_getk 4 em_4 (ce_at ce_4 1 rfl) (by decide) rfl rfl rfl ?_
  refine e_alenk 5 em_4 (ce_at ce_4 2 rfl) (by decide) (kt_63 _ _) (by decide) rfl rfl ?_
  refine e_mv 6 em_4 (ce_at ce_4 3 rfl) rfl rfl ?_
  refine e_ivc 9 em_4 (ce_at ce_4 4 rfl) (by omega) (iv_k0 (by decide) rfl rfl) em_5 (Nat.le_of_ble_eq_true rfl) rfl (tstr_coder H w (d - 1) (by omega) _) (x := 0) rfl ?_
  refine e_ishr 10 em_4 rfl (ce_at ce_4 5 rfl) ?_
  exact e_reti em_4 (ce_at ce_4 6 rfl)
theorem fstr_length (s : iS) : Fm Prod.snd L_str_length G_str_length s (str_length s) := fm_some md_refl
/-! sl1_canEncode -/
def L_sl1_canEncode : List Nat := []
def G_sl1_canEncode : List (Nat × Nat) := []
noncomputable def sl1_canEncode (v0 : Int) (s : iS) : Option (Int × iS) := gd (rg v0) (if v0 < 0 then some (0, s) else if 255 < v0 then some (0, s) else some (1, s))
theorem tsl1_canEncode (H : iS → List am_C) (w : ev_W) (d : Nat) (hd : 0 ≤ d) (v0 : Int) (s : iS) : Ew H w d 51 0 [(0, iv v0)] [] s (Ci H) (sl1_canEncode v0 s) := by
  unfold sl1_canEncode
  refine e_mv 1 em_51 (ce_at ce_51 0 rfl) rfl rfl ?_
  refine e_gd fun g1 => ?_
  refine e_iflt 15 4 em_51 rfl rfl (ce_at ce_51 1 rfl) g1 (fun h2 => ?_) (fun h2 => ?_)
  · refine e_op 16 em_51 (ce_at ce_51 7 rfl) rfl rfl ?_
    exact e_retz em_51 (ce_at ce_51 8 rfl) (by decide)
  · refine e_mv 5 em_51 (ce_at ce_51 2 rfl) rfl rfl ?_
    refine e_sip 8 em_51 (ce_at ce_51 3 rfl) (by decide) rfl ?_
    refine e_cmgt 15 11 em_51 rfl rfl (ce_at ce_51 4 rfl) g1 (by decide) (fun h3 => ?_) (fun h3 => ?_)
    · refine e_op 16 em_51 (ce_at ce_51 7 rfl) rfl rfl ?_
      exact e_retz em_51 (ce_at ce_51 8 rfl) (by decide)
    · refine e_op 12 em_51 (ce_at ce_51 5 rfl) rfl rfl ?_
      refine e_goto em_51 16 (ce_at ce_51 6 rfl) rfl ?_
      exact e_retz em_51 (ce_at ce_51 8 rfl) (by decide)
theorem fsl1_canEncode (v0 : Int) (s : iS) : Fm Prod.snd L_sl1_canEncode G_sl1_canEncode s (sl1_canEncode v0 s) := fm_gd (fm_if (fm_some md_refl) (fm_if (fm_some md_refl) (fm_some md_refl)))
/-! sl1_indexOfChar -/
def L_sl1_indexOfChar : List Nat := []
def G_sl1_indexOfChar : List (Nat × Nat) := []
def sl1_indexOfChar_7C (H : iS → List am_C) (w : ev_W) (d : Nat) (v3 : Int) (v4 : Int) : (Int × iS) ⊕ ((Int × iS) ⊕ (iS)) → am_E → Prop := fun q r => q.elim (fun l => ev w d 52 7 ((fun l => [(0, .ref 63), (3, iv v3), (4, iv v4), (5, iv (l.1))]) l) [] (H ((fun l => l.2) l)) r) (fun e => (fun e r => e.elim (fun e => ev w d 52 22 [(5, iv (e.1))] [] (H (e.2)) r) (fun e => ev w d 52 31 [] [] (H (e)) r)) e r)
noncomputable def sl1_indexOfChar_7b (v3 : Int) (v4 : Int) (v5 : Int) (s : iS) : Option ((Int × iS) ⊕ ((Int × iS) ⊕ (iS))) := gd (rg v5) (gd (rg v3) (if v3 ≤ v5 then some (.inr (.inr s)) else gd (0 ≤ v5 ∧ v5 < 19) (gd (rg ((ka_63 v5.toNat).toInt)) (gd (rg v4) (if (ka_63 v5.toNat).toInt = v4 then some (.inr (.inl (v5, s))) else some (.inl ((v5 + 1), s)))))))
theorem tsl1_indexOfChar_7b (H : iS → List am_C) (w : ev_W) (d : Nat) (hd : 0 ≤ d) (v3 : Int) (v4 : Int) (v5 : Int) (s : iS) : Ew H w d 52 7 [(0, .ref 63), (3, iv v3), (4, iv v4), (5, iv v5)] [] s (sl1_indexOfChar_7C H w d v3 v4) (sl1_indexOfChar_7b v3 v4 v5 s) := by
  unfold sl1_indexOfChar_7b
  refine e_mv 9 em_52 (ce_at ce_52 5 rfl) rfl rfl ?_
  refine e_mv 10 em_52 (ce_at ce_52 6 rfl) rfl rfl ?_
  refine e_gd fun g1 => ?_
  refine e_gd fun g2 => ?_
  refine e_cmge 31 13 em_52 rfl rfl (ce_at ce_52 7 rfl) g1 g2 (fun h3 => ?_) (fun h3 => ?_)
  · refine e_pk [] rfl rfl ?_
    exact e_out (fun r h => h)
  · refine e_mv 14 em_52 (ce_at ce_52 8 rfl) rfl rfl ?_
    refine e_mv 16 em_52 (ce_at ce_52 9 rfl) rfl rfl ?_
    refine e_gd fun g4 => ?_
    refine e_bldk 17 em_52 (ce_at ce_52 10 rfl) (by decide) (kt_63 _ _) (by decide) g4 rfl ?_
    refine e_mv 19 em_52 (ce_at ce_52 11 rfl) rfl rfl ?_
    refine e_gd fun g5 => ?_
    refine e_gd fun g6 => ?_
    refine e_cmne 25 22 em_52 rfl rfl (ce_at ce_52 12 rfl) g5 g6 (fun h7 => ?_) (fun h7 => ?_)
    · refine e_iinc 28 em_52 (ce_at ce_52 15 rfl) rfl (by decide) rfl ?_
      refine e_goto em_52 7 (ce_at ce_52 16 rfl) rfl ?_
      refine e_pk [0, 3, 4, 5] rfl rfl ?_
      exact e_out (fun r h => h)
    · refine e_pk [5] rfl rfl ?_
      exact e_out (fun r h => h)
theorem fsl1_indexOfChar_7b (v3 : Int) (v4 : Int) (v5 : Int) (s : iS) : Fm (fun r : (Int × iS) ⊕ ((Int × iS) ⊕ (iS)) => r.elim (fun l => l.2) (fun e => e.elim (fun e => e.2) (fun e => e))) L_sl1_indexOfChar G_sl1_indexOfChar s (sl1_indexOfChar_7b v3 v4 v5 s) := fm_gd (fm_gd (fm_if (fm_some md_refl) (fm_gd (fm_gd (fm_gd (fm_if (fm_some md_refl) (fm_some md_refl)))))))
noncomputable def sl1_indexOfChar_7 (v3 : Int) (v4 : Int) (v5 : Int) (s : iS) : Option (Int × iS) := (lp (L := Int × iS) (E := (Int × iS) ⊕ (iS)) (fun l => sl1_indexOfChar_7b v3 v4 (l.1) (l.2)) (v5, s)).bind (fun e => e.elim (fun e => some (e.1, e.2)) (fun e => some ((-1), e)))
theorem tsl1_indexOfChar_7 (H : iS → List am_C) (w : ev_W) (d : Nat) (hd : 0 ≤ d) (v3 : Int) (v4 : Int) (v5 : Int) (s : iS) : Ew H w d 52 7 [(0, .ref 63), (3, iv v3), (4, iv v4), (5, iv v5)] [] s (Ci H) (sl1_indexOfChar_7 v3 v4 v5 s) := by
  unfold sl1_indexOfChar_7
  refine e_lp (L := Int × iS) (E := (Int × iS) ⊕ (iS)) (LO := fun l => [(0, .ref 63), (3, iv v3), (4, iv v4), (5, iv (l.1))]) (LS := fun l => l.2) (CE := fun e r => e.elim (fun e => ev w d 52 22 [(5, iv (e.1))] [] (H (e.2)) r) (fun e => ev w d 52 31 [] [] (H (e)) r)) (fun l => tsl1_indexOfChar_7b H w d hd _ _ _ _) ?_ (v5, s)
  rintro (e | e)
  · show Ew H w d 52 22 [(5, iv (e.1))] [] e.2 (Ci H) _
    refine e_mv 24 em_52 (ce_at ce_52 13 rfl) rfl rfl ?_
    exact e_reti em_52 (ce_at ce_52 14 rfl)
  · show Ew H w d 52 31 [] [] e (Ci H) _
    refine e_op 32 em_52 (ce_at ce_52 17 rfl) rfl rfl ?_
    exact e_reti em_52 (ce_at ce_52 18 rfl)
theorem fsl1_indexOfChar_7 (v3 : Int) (v4 : Int) (v5 : Int) (s : iS) : Fm Prod.snd L_sl1_indexOfChar G_sl1_indexOfChar s (sl1_indexOfChar_7 v3 v4 v5 s) := by
  unfold sl1_indexOfChar_7
  refine fm_lp (A := Int × iS) (E := (Int × iS) ⊕ (iS)) (LS := fun l => l.2) (LE := fun e => e.elim (fun e => e.2) (fun e => e)) ?_ ?_ (v5, s)
  · exact fun l => fsl1_indexOfChar_7b _ _ _ _
  · exact (by rintro (e | e); exact fm_some md_refl; exact fm_some md_refl)
noncomputable def sl1_indexOfChar (v1 : Int) (v2 : Int) (v3 : Int) (s : iS) : Option (Int × iS) := sl1_indexOfChar_7 v3 (i_b v1) v2 s
theorem tsl1_indexOfChar (H : iS → List am_C) (w : ev_W) (d : Nat) (hd : 0 ≤ d) (v1 : Int) (v2 : Int) (v3 : Int) (s : iS) : Ew H w d 52 0 [(0, .ref 63), (1, iv v1), (2, iv v2), (3, iv v3)] [] s (Ci H) (sl1_indexOfChar v1 v2 v3 s) := by
  unfold sl1_indexOfChar
  refine e_mv 1 em_52 (ce_at ce_52 0 rfl) rfl rfl ?_
  refine e_i2b 2 em_52 rfl (ce_at ce_52 1 rfl) ?_
  refine e_mv 4 em_52 (ce_at ce_52 2 rfl) rfl rfl ?_
  refine e_mv 5 em_52 (ce_at ce_52 3 rfl) rfl rfl ?_
  refine e_mv 7 em_52 (ce_at ce_52 4 rfl) rfl rfl ?_
  refine e_pk [0, 3, 4, 5] rfl rfl ?_
  exact tsl1_indexOfChar_7 H w d hd _ _ _ _
theorem fsl1_indexOfChar (v1 : Int) (v2 : Int) (v3 : Int) (s : iS) : Fm Prod.snd L_sl1_indexOfChar G_sl1_indexOfChar s (sl1_indexOfChar v1 v2 v3 s) := fsl1_indexOfChar_7 _ _ _ _
/-! sl1_indexOf -/
def L_sl1_indexOf : List Nat := []
def G_sl1_indexOf : List (Nat × Nat) := []
noncomputable def sl1_indexOf (v1 : Int) (v2 : Int) (v3 : Int) (s : iS) : Option (Int × iS) := bd (sl1_canEncode v1 s) (fun r1 s1 => gd (rg r1) (if r1 = 0 then some ((-1), s1) else bd (mth_max v2 0 s1) (fun r4 s4 => bd (mth_min v3 19 s4) (fun r5 s5 => gd (rg r4) (gd (rg r5) (if r4 < r5 then bd (sl1_indexOfChar v1 r4 r5 s5) (fun r9 s9 => some (r9, s9)) else some ((-1), s5)))))))
theorem tsl1_indexOf (H : iS → List am_C) (w : ev_W) (d : Nat) (hd : 1 ≤ d) (v1 : Int) (v2 : Int) (v3 : Int) (s : iS) : Ew H w d 50 0 [(0, .ref 63), (1, iv v1), (2, iv v2), (3, iv v3)] [] s (Ci H) (sl1_indexOf v1 v2 v3 s) := by
  unfold sl1_indexOf
  refine e_mv 1 em_50 (ce_at ce_50 0 rfl) rfl rfl ?_
  refine e_ivi 4 em_50 (ce_at ce_50 1 rfl) (by omega) (iv_s1 rfl) em_51 (Nat.le_of_ble_eq_true rfl) rfl (tsl1_canEncode H w (d - 1) (by omega) _ _) (fun r1 s1 => ?_)
  refine e_gd fun g2 => ?_
  refine e_ifne 9 7 em_50 rfl rfl (ce_at ce_50 2 rfl) g2 (fun h3 => ?_) (fun h3 => ?_)
  · refine e_mv 10 em_50 (ce_at ce_50 5 rfl) rfl rfl ?_
    refine e_op 11 em_50 (ce_at ce_50 6 rfl) rfl rfl ?_
    refine e_ivi 14 em_50 (ce_at ce_50 7 rfl) (by omega) (iv_s2 rfl) em_45 (Nat.le_of_ble_eq_true rfl) rfl (tmth_max H w (d - 1) (by omega) _ _ _) (fun r4 s4 => ?_)
    refine e_mv 15 em_50 (ce_at ce_50 8 rfl) rfl rfl ?_
    refine e_mv 16 em_50 (ce_at ce_50 9 rfl) rfl rfl ?_
    refine e_mv 17 em_50 (ce_at ce_50 10 rfl) rfl rfl ?_
    refine e_alenk 18 em_50 (ce_at ce_50 11 rfl) (by decide) (kt_63 _ _) (by decide) rfl rfl ?_
    refine e_ivi 21 em_50 (ce_at ce_50 12 rfl) (by omega) (iv_s2 rfl) em_21 (Nat.le_of_ble_eq_true rfl) rfl (tmth_min H w (d - 1) (by omega) _ _ _) (fun r5 s5 => ?_)
    refine e_mv 22 em_50 (ce_at ce_50 13 rfl) rfl rfl ?_
    refine e_mv 23 em_50 (ce_at ce_50 14 rfl) rfl rfl ?_
    refine e_mv 24 em_50 (ce_at ce_50 15 rfl) rfl rfl ?_
    refine e_gd fun g6 => ?_
    refine e_gd fun g7 => ?_
    refine e_cmlt 29 27 em_50 rfl rfl (ce_at ce_50 16 rfl) g6 g7 (fun h8 => ?_) (fun h8 => ?_)
    · refine e_mv 30 em_50 (ce_at ce_50 19 rfl) rfl rfl ?_
      refine e_mv 31 em_50 (ce_at ce_50 20 rfl) rfl rfl ?_
      refine e_mv 32 em_50 (ce_at ce_50 21 rfl) rfl rfl ?_
      refine e_mv 33 em_50 (ce_at ce_50 22 rfl) rfl rfl ?_
      refine e_ivi 36 em_50 (ce_at ce_50 23 rfl) (by omega) (iv_s4 rfl) em_52 (Nat.le_of_ble_eq_true rfl) rfl (tsl1_indexOfChar H w (d - 1) (by omega) _ _ _ _) (fun r9 s9 => ?_)
      exact e_reti em_50 (ce_at ce_50 24 rfl)
    · refine e_op 28 em_50 (ce_at ce_50 17 rfl) rfl rfl ?_
      exact e_reti em_50 (ce_at ce_50 18 rfl)
  · refine e_op 8 em_50 (ce_at ce_50 3 rfl) rfl rfl ?_
    exact e_reti em_50 (ce_at ce_50 4 rfl)
theorem fsl1_indexOf (v1 : Int) (v2 : Int) (v3 : Int) (s : iS) : Fm Prod.snd L_sl1_indexOf G_sl1_indexOf s (sl1_indexOf v1 v2 v3 s) := fm_bd (fm_sub (fsl1_canEncode _ _) (mem_sub_L rfl) (mem_sub_F rfl)) (fun r1 s1 => fm_gd (fm_if (fm_some md_refl) (fm_bd (fm_sub (fmth_max _ _ _) (mem_sub_L rfl) (mem_sub_F rfl)) (fun r4 s4 => fm_bd (fm_sub (fmth_min _ _ _) (mem_sub_L rfl) (mem_sub_F rfl)) (fun r5 s5 => fm_gd (fm_gd (fm_if (fm_bd (fm_sub (fsl1_indexOfChar _ _ _ _) (mem_sub_L rfl) (mem_sub_F rfl)) (fun r9 s9 => fm_some md_refl)) (fm_some md_refl))))))))
/-! str_indexOf_49 -/
def L_str_indexOf_49 : List Nat := []
def G_str_indexOf_49 : List (Nat × Nat) := []
noncomputable def str_indexOf_49 (v1 : Int) (v2 : Int) (s : iS) : Option (Int × iS) := bd (str_length s) (fun r2 s2 => bd (sl1_indexOf v1 v2 r2 s2) (fun r3 s3 => some (r3, s3)))
theorem tstr_indexOf_49 (H : iS → List am_C) (w : ev_W) (d : Nat) (hd : 2 ≤ d) (v1 : Int) (v2 : Int) (s : iS) : Ew H w d 49 0 [(0, .ref 37), (1, iv v1), (2, iv v2)] [] s (Ci H) (str_indexOf_49 v1 v2 s) := by
  unfold str_indexOf_49
  refine e_mv 1 em_49 (ce_at ce_49 0 rfl) rfl rfl ?_
  refine e_ivc 4 em_49 (ce_at ce_49 1 rfl) (by omega) (iv_k0 (by decide) rfl rfl) em_7 (Nat.le_of_ble_eq_true rfl) rfl (tstr_isLatin1 H w (d - 1) (by omega) _) (x := 1) rfl ?_
  refine e_jF 7 em_49 (ce_at ce_49 2 rfl) rfl (by rfl) rfl ?_
  refine e_mv 8 em_49 (ce_at ce_49 3 rfl) rfl rfl ?_
  refine e_getk 11 em_49 (ce_at ce_49 4 rfl) (by decide) rfl rfl rfl ?_
  refine e_mv 12 em_49 (ce_at ce_49 5 rfl) rfl rfl ?_
  refine e_mv 13 em_49 (ce_at ce_49 6 rfl) rfl rfl ?_
  refine e_mv 14 em_49 (ce_at ce_49 7 rfl) rfl rfl ?_
  refine e_ivi 17 em_49 (ce_at ce_49 8 rfl) (by omega) (iv_k0 (by decide) rfl rfl) em_4 (Nat.le_of_ble_eq_true rfl) rfl (tstr_length H w (d - 1) (by omega) _) (fun r2 s2 => ?_)
  refine e_ivi 20 em_49 (ce_at ce_49 9 rfl) (by omega) (iv_s4 rfl) em_50 (Nat.le_of_ble_eq_true rfl) rfl (tsl1_indexOf H w (d - 1) (by omega) _ _ _ _) (fun r3 s3 => ?_)
  refine e_goto em_49 36 (ce_at ce_49 10 rfl) rfl ?_
  exact e_reti em_49 (ce_at ce_49 18 rfl)
theorem fstr_indexOf_49 (v1 : Int) (v2 : Int) (s : iS) : Fm Prod.snd L_str_indexOf_49 G_str_indexOf_49 s (str_indexOf_49 v1 v2 s) := fm_bd (fm_sub (fstr_length _) (mem_sub_L rfl) (mem_sub_F rfl)) (fun r2 s2 => fm_bd (fm_sub (fsl1_indexOf _ _ _ _) (mem_sub_L rfl) (mem_sub_F rfl)) (fun r3 s3 => fm_some md_refl))
/-! str_indexOf -/
def L_str_indexOf : List Nat := []
def G_str_indexOf : List (Nat × Nat) := []
noncomputable def str_indexOf (v1 : Int) (s : iS) : Option (Int × iS) := bd (str_indexOf_49 v1 0 s) (fun r1 s1 => some (r1, s1))
theorem tstr_indexOf (H : iS → List am_C) (w : ev_W) (d : Nat) (hd : 3 ≤ d) (v1 : Int) (s : iS) : Ew H w d 48 0 [(0, .ref 37), (1, iv v1)] [] s (Ci H) (str_indexOf v1 s) := by
  unfold str_indexOf
  refine e_mv 1 em_48 (ce_at ce_48 0 rfl) rfl rfl ?_
  refine e_mv 2 em_48 (ce_at ce_48 1 rfl) rfl rfl ?_
  refine e_op 3 em_48 (ce_at ce_48 2 rfl) rfl rfl ?_
  refine e_ivi 6 em_48 (ce_at ce_48 3 rfl) (by omega) (iv_k2 (by decide) rfl rfl) em_49 (Nat.le_of_ble_eq_true rfl) rfl (tstr_indexOf_49 H w (d - 1) (by omega) _ _ _) (fun r1 s1 => ?_)
  exact e_reti em_48 (ce_at ce_48 4 rfl)
theorem fstr_indexOf (v1 : Int) (s : iS) : Fm Prod.snd L_str_indexOf G_str_indexOf s (str_indexOf v1 s) := fm_bd (fm_sub (fstr_indexOf_49 _ _ _) (mem_sub_L rfl) (mem_sub_F rfl)) (fun r1 s1 => fm_some md_refl)
/-! str_isLatin1_v1 -/
def L_str_isLatin1_v1 : List Nat := []
def G_str_isLatin1_v1 : List (Nat × Nat) := []
noncomputable def str_isLatin1_v1 (s : iS) : Option (Int × iS) := some (1, s)
theorem tstr_isLatin1_v1 (H : iS → List am_C) (w : ev_W) (d : Nat) (hd : 0 ≤ d) (s : iS) : Ew H w d 7 0 [(0, .ref 36)] [] s (Ci H) (str_isLatin1_v1 s) := by
  unfold str_isLatin1_v1
  refine e_gst 3 em_7 (ce_at ce_7 0 rfl) rfl rfl ?_
  refine e_jF 6 em_7 (ce_at ce_7 1 rfl) rfl (by rfl) rfl ?_
  refine e_mv 7 em_7 (ce_at ce_7 2 rfl) rfl rfl ?_
  refine e_getk 10 em_7 (ce_at ce_7 3 rfl) (by decide) rfl rfl rfl ?_
  refine e_jF 13 em_7 (ce_at ce_7 4 rfl) rfl (by rfl) rfl ?_
  refine e_op 14 em_7 (ce_at ce_7 5 rfl) rfl rfl ?_
  refine e_goto em_7 18 (ce_at ce_7 6 rfl) rfl ?_
  exact e_retz em_7 (ce_at ce_7 8 rfl) (by decide)
theorem fstr_isLatin1_v1 (s : iS) : Fm Prod.snd L_str_isLatin1_v1 G_str_isLatin1_v1 s (str_isLatin1_v1 s) := fm_some md_refl
/-! str_coder_v1 -/
def L_str_coder_v1 : List Nat := []
def G_str_coder_v1 : List (Nat × Nat) := []
noncomputable def str_coder_v1 (s : iS) : Option (Int × iS) := some (0, s)
theorem tstr_coder_v1 (H : iS → List am_C) (w : ev_W) (d : Nat) (hd : 0 ≤ d) (s : iS) : Ew H w d 5 0 [(0, .ref 36)] [] s (Ci H) (str_coder_v1 s) := by
  unfold str_coder_v1
  refine e_gst 3 em_5 (ce_at ce_5 0 rfl) rfl rfl ?_
  refine e_jF 6 em_5 (ce_at ce_5 1 rfl) rfl (by rfl) rfl ?_
  refine e_mv 7 em_5 (ce_at ce_5 2 rfl) rfl rfl ?_
  refine e_getk 10 em_5 (ce_at ce_5 3 rfl) (by decide) rfl rfl rfl ?_
  refine e_goto em_5 14 (ce_at ce_5 4 rfl) rfl ?_
  exact e_retb em_5 (ce_at ce_5 6 rfl) (by decide)
theorem fstr_coder_v1 (s : iS) : Fm Prod.snd L_str_coder_v1 G_str_coder_v1 s (str_coder_v1 s) := fm_some md_refl
/-! str_length_v1 -/
def L_str_length_v1 : List Nat := []
def G_str_length_v1 : List (Nat × Nat) := []
noncomputable def str_length_v1 (s : iS) : Option (Int × iS) := some ((i_shr 10 0), s)
theorem tstr_length_v1 (H : iS → List am_C) (w : ev_W) (d : Nat) (hd : 1 ≤ d) (s : iS) : Ew H w d 4 0 [(0, .ref 36)] [] s (Ci H) (str_length_v1 s) := by
  unfold str_length_v1
  refine e_mv 1 em_4 (ce_at ce_4 0 rfl) rfl rfl ?_
  refine e_getk 4 em_4 (ce_at ce_4 1 rfl) (by decide) rfl rfl rfl ?_
  refine e_alenk 5 em_4 (ce_at ce_4 2 rfl) (by decide) (kt_62 _ _) (by decide) rfl rfl ?_
  refine e_mv 6 em_4 (ce_at ce_4 3 rfl) rfl rfl ?_
  refine e_ivc 9 em_4 (ce_at ce_4 4 rfl) (by omega) (iv_k0 (by decide) rfl rfl) em_5 (Nat.le_of_ble_eq_true rfl) rfl (tstr_coder_v1 H w (d - 1) (by omega) _) (x := 0) rfl ?_
  refine e_ishr 10 em_4 rfl (ce_at ce_4 5 rfl) ?_
  exact e_reti em_4 (ce_at ce_4 6 rfl)
theorem fstr_length_v1 (s : iS) : Fm Prod.snd L_str_length_v1 G_str_length_v1 s (str_length_v1 s) := fm_some md_refl
/-! sl1_indexOfChar_v1 -/
def L_sl1_indexOfChar_v1 : List Nat := []
def G_sl1_indexOfChar_v1 : List (Nat × Nat) := []
def sl1_indexOfChar_v1_7C (H : iS → List am_C) (w : ev_W) (d : Nat) (v3 : Int) (v4 : Int) : (Int × iS) ⊕ ((Int × iS) ⊕ (iS)) → am_E → Prop := fun q r => q.elim (fun l => ev w d 52 7 ((fun l => [(0, .ref 62), (3, iv v3), (4, iv v4), (5, iv (l.1))]) l) [] (H ((fun l => l.2) l)) r) (fun e => (fun e r => e.elim (fun e => ev w d 52 22 [(5, iv (e.1))] [] (H (e.2)) r) (fun e => ev w d 52 31 [] [] (H (e)) r)) e r)
noncomputable def sl1_indexOfChar_v1_7b (v3 : Int) (v4 : Int) (v5 : Int) (s : iS) : Option ((Int × iS) ⊕ ((Int × iS) ⊕ (iS))) := gd (rg v5) (gd (rg v3) (if v3 ≤ v5 then some (.inr (.inr s)) else gd (0 ≤ v5 ∧ v5 < 10) (gd (rg ((ka_62 v5.toNat).toInt)) (gd (rg v4) (if (ka_62 v5.toNat).toInt = v4 then some (.inr (.inl (v5, s))) else some (.inl ((v5 + 1), s)))))))
theorem tsl1_indexOfChar_v1_7b (H : iS → List am_C) (w : ev_W) (d : Nat) (hd : 0 ≤ d) (v3 : Int) (v4 : Int) (v5 : Int) (s : iS) : Ew H w d 52 7 [(0, .ref 62), (3, iv v3), (4, iv v4), (5, iv v5)] [] s (sl1_indexOfChar_v1_7C H w d v3 v4) (sl1_indexOfChar_v1_7b v3 v4 v5 s) := by
  unfold sl1_indexOfChar_v1_7b
  refine e_mv 9 em_52 (ce_at ce_52 5 rfl) rfl rfl ?_
  refine e_mv 10 em_52 (ce_at ce_52 6 rfl) rfl rfl ?_
  refine e_gd fun g1 => ?_
  refine e_gd fun g2 => ?_
  refine e_cmge 31 13 em_52 rfl rfl (ce_at ce_52 7 rfl) g1 g2 (fun h3 => ?_) (fun h3 => ?_)
  · refine e_pk [] rfl rfl ?_
    exact e_out (fun r h => h)
  · refine e_mv 14 em_52 (ce_at ce_52 8 rfl) rfl rfl ?_
    refine e_mv 16 em_52 (ce_at ce_52 9 rfl) rfl rfl ?_
    refine e_gd fun g4 => ?_
    refine e_bldk 17 em_52 (ce_at ce_52 10 rfl) (by decide) (kt_62 _ _) (by decide) g4 rfl ?_
    refine e_mv 19 em_52 (ce_at ce_52 11 rfl) rfl rfl ?_
    refine e_gd fun g5 => ?_
    refine e_gd fun g6 => ?_
    refine e_cmne 25 22 em_52 rfl rfl (ce_at ce_52 12 rfl) g5 g6 (fun h7 => ?_) (fun h7 => ?_)
    · refine e_iinc 28 em_52 (ce_at ce_52 15 rfl) rfl (by decide) rfl ?_
      refine e_goto em_52 7 (ce_at ce_52 16 rfl) rfl ?_
      refine e_pk [0, 3, 4, 5] rfl rfl ?_
      exact e_out (fun r h => h)
    · refine e_pk [5] rfl rfl ?_
      exact e_out (fun r h => h)
theorem fsl1_indexOfChar_v1_7b (v3 : Int) (v4 : Int) (v5 : Int) (s : iS) : Fm (fun r : (Int × iS) ⊕ ((Int × iS) ⊕ (iS)) => r.elim (fun l => l.2) (fun e => e.elim (fun e => e.2) (fun e => e))) L_sl1_indexOfChar_v1 G_sl1_indexOfChar_v1 s (sl1_indexOfChar_v1_7b v3 v4 v5 s) := fm_gd (fm_gd (fm_if (fm_some md_refl) (fm_gd (fm_gd (fm_gd (fm_if (fm_some md_refl) (fm_some md_refl)))))))
noncomputable def sl1_indexOfChar_v1_7 (v3 : Int) (v4 : Int) (v5 : Int) (s : iS) : Option (Int × iS) := (lp (L := Int × iS) (E := (Int × iS) ⊕ (iS)) (fun l => sl1_indexOfChar_v1_7b v3 v4 (l.1) (l.2)) (v5, s)).bind (fun e => e.elim (fun e => some (e.1, e.2)) (fun e => some ((-1), e)))
theorem tsl1_indexOfChar_v1_7 (H : iS → List am_C) (w : ev_W) (d : Nat) (hd : 0 ≤ d) (v3 : Int) (v4 : Int) (v5 : Int) (s : iS) : Ew H w d 52 7 [(0, .ref 62), (3, iv v3), (4, iv v4), (5, iv v5)] [] s (Ci H) (sl1_indexOfChar_v1_7 v3 v4 v5 s) := by
  unfold sl1_indexOfChar_v1_7
  refine e_lp (L := Int × iS) (E := (Int × iS) ⊕ (iS)) (LO := fun l => [(0, .ref 62), (3, iv v3), (4, iv v4), (5, iv (l.1))]) (LS := fun l => l.2) (CE := fun e r => e.elim (fun e => ev w d 52 22 [(5, iv (e.1))] [] (H (e.2)) r) (fun e => ev w d 52 31 [] [] (H (e)) r)) (fun l => tsl1_indexOfChar_v1_7b H w d hd _ _ _ _) ?_ (v5, s)
  rintro (e | e)
  · show Ew H w d 52 22 [(5, iv (e.1))] [] e.2 (Ci H) _
    refine e_mv 24 em_52 (ce_at ce_52 13 rfl) rfl rfl ?_
    exact e_reti em_52 (ce_at ce_52 14 rfl)
  · show Ew H w d 52 31 [] [] e (Ci H) _
    refine e_op 32 em_52 (ce_at ce_52 17 rfl) rfl rfl ?_
    exact e_reti em_52 (ce_at ce_52 18 rfl)
theorem fsl1_indexOfChar_v1_7 (v3 : Int) (v4 : Int) (v5 : Int) (s : iS) : Fm Prod.snd L_sl1_indexOfChar_v1 G_sl1_indexOfChar_v1 s (sl1_indexOfChar_v1_7 v3 v4 v5 s) := by
  unfold sl1_indexOfChar_v1_7
  refine fm_lp (A := Int × iS) (E := (Int × iS) ⊕ (iS)) (LS := fun l => l.2) (LE := fun e => e.elim (fun e => e.2) (fun e => e)) ?_ ?_ (v5, s)
  · exact fun l => fsl1_indexOfChar_v1_7b _ _ _ _
  · exact (by rintro (e | e); exact fm_some md_refl; exact fm_some md_refl)
noncomputable def sl1_indexOfChar_v1 (v1 : Int) (v2 : Int) (v3 : Int) (s : iS) : Option (Int × iS) := sl1_indexOfChar_v1_7 v3 (i_b v1) v2 s
theorem tsl1_indexOfChar_v1 (H : iS → List am_C) (w : ev_W) (d : Nat) (hd : 0 ≤ d) (v1 : Int) (v2 : Int) (v3 : Int) (s : iS) : Ew H w d 52 0 [(0, .ref 62), (1, iv v1), (2, iv v2), (3, iv v3)] [] s (Ci H) (sl1_indexOfChar_v1 v1 v2 v3 s) := by
  unfold sl1_indexOfChar_v1
  refine e_mv 1 em_52 (ce_at ce_52 0 rfl) rfl rfl ?_
  refine e_i2b 2 em_52 rfl (ce_at ce_52 1 rfl) ?_
  refine e_mv 4 em_52 (ce_at ce_52 2 rfl) rfl rfl ?_
  refine e_mv 5 em_52 (ce_at ce_52 3 rfl) rfl rfl ?_
  refine e_mv 7 em_52 (ce_at ce_52 4 rfl) rfl rfl ?_
  refine e_pk [0, 3, 4, 5] rfl rfl ?_
  exact tsl1_indexOfChar_v1_7 H w d hd _ _ _ _
theorem fsl1_indexOfChar_v1 (v1 : Int) (v2 : Int) (v3 : Int) (s : iS) : Fm Prod.snd L_sl1_indexOfChar_v1 G_sl1_indexOfChar_v1 s (sl1_indexOfChar_v1 v1 v2 v3 s) := fsl1_indexOfChar_v1_7 _ _ _ _
/-! sl1_indexOf_v1 -/
def L_sl1_indexOf_v1 : List Nat := []
def G_sl1_indexOf_v1 : List (Nat × Nat) := []
noncomputable def sl1_indexOf_v1 (v1 : Int) (v2 : Int) (v3 : Int) (s : iS) : Option (Int × iS) := bd (sl1_canEncode v1 s) (fun r1 s1 => gd (rg r1) (if r1 = 0 then some ((-1), s1) else bd (mth_max v2 0 s1) (fun r4 s4 => bd (mth_min v3 10 s4) (fun r5 s5 => gd (rg r4) (gd (rg r5) (if r4 < r5 then bd (sl1_indexOfChar_v1 v1 r4 r5 s5) (fun r9 s9 => some (r9, s9)) else some ((-1), s5)))))))
theorem tsl1_indexOf_v1 (H : iS → List am_C) (w : ev_W) (d : Nat) (hd : 1 ≤ d) (v1 : Int) (v2 : Int) (v3 : Int) (s : iS) : Ew H w d 50 0 [(0, .ref 62), (1, iv v1), (2, iv v2), (3, iv v3)] [] s (Ci H) (sl1_indexOf_v1 v1 v2 v3 s) := by
  unfold sl1_indexOf_v1
  refine e_mv 1 em_50 (ce_at ce_50 0 rfl) rfl rfl ?_
  refine e_ivi 4 em_50 (ce_at ce_50 1 rfl) (by omega) (iv_s1 rfl) em_51 (Nat.le_of_ble_eq_true rfl) rfl (tsl1_canEncode H w (d - 1) (by omega) _ _) (fun r1 s1 => ?_)
  refine e_gd fun g2 => ?_
  refine e_ifne 9 7 em_50 rfl rfl (ce_at ce_50 2 rfl) g2 (fun h3 => ?_) (fun h3 => ?_)
  · refine e_mv 10 em_50 (ce_at ce_50 5 rfl) rfl rfl ?_
    refine e_op 11 em_50 (ce_at ce_50 6 rfl) rfl rfl ?_
    refine e_ivi 14 em_50 (ce_at ce_50 7 rfl) (by omega) (iv_s2 rfl) em_45 (Nat.le_of_ble_eq_true rfl) rfl (tmth_max H w (d - 1) (by omega) _ _ _) (fun r4 s4 => ?_)
    refine e_mv 15 em_50 (ce_at ce_50 8 rfl) rfl rfl ?_
    refine e_mv 16 em_50 (ce_at ce_50 9 rfl) rfl rfl ?_
    refine e_mv 17 em_50 (ce_at ce_50 10 rfl) rfl rfl ?_
    refine e_alenk 18 em_50 (ce_at ce_50 11 rfl) (by decide) (kt_62 _ _) (by decide) rfl rfl ?_
    refine e_ivi 21 em_50 (ce_at ce_50 12 rfl) (by omega) (iv_s2 rfl) em_21 (Nat.le_of_ble_eq_true rfl) rfl (tmth_min H w (d - 1) (by omega) _ _ _) (fun r5 s5 => ?_)
    refine e_mv 22 em_50 (ce_at ce_50 13 rfl) rfl rfl ?_
    refine e_mv 23 em_50 (ce_at ce_50 14 rfl) rfl rfl ?_
    refine e_mv 24 em_50 (ce_at ce_50 15 rfl) rfl rfl ?_
    refine e_gd fun g6 => ?_
    refine e_gd fun g7 => ?_
    refine e_cmlt 29 27 em_50 rfl rfl (ce_at ce_50 16 rfl) g6 g7 (fun h8 => ?_) (fun h8 => ?_)
    · refine e_mv 30 em_50 (ce_at ce_50 19 rfl) rfl rfl ?_
      refine e_mv 31 em_50 (ce_at ce_50 20 rfl) rfl rfl ?_
      refine e_mv 32 em_50 (ce_at ce_50 21 rfl) rfl rfl ?_
      refine e_mv 33 em_50 (ce_at ce_50 22 rfl) rfl rfl ?_
      refine e_ivi 36 em_50 (ce_at ce_50 23 rfl) (by omega) (iv_s4 rfl) em_52 (Nat.le_of_ble_eq_true rfl) rfl (tsl1_indexOfChar_v1 H w (d - 1) (by omega) _ _ _ _) (fun r9 s9 => ?_)
      exact e_reti em_50 (ce_at ce_50 24 rfl)
    · refine e_op 28 em_50 (ce_at ce_50 17 rfl) rfl rfl ?_
      exact e_reti em_50 (ce_at ce_50 18 rfl)
  · refine e_op 8 em_50 (ce_at ce_50 3 rfl) rfl rfl ?_
    exact e_reti em_50 (ce_at ce_50 4 rfl)
theorem fsl1_indexOf_v1 (v1 : Int) (v2 : Int) (v3 : Int) (s : iS) : Fm Prod.snd L_sl1_indexOf_v1 G_sl1_indexOf_v1 s (sl1_indexOf_v1 v1 v2 v3 s) := fm_bd (fm_sub (fsl1_canEncode _ _) (mem_sub_L rfl) (mem_sub_F rfl)) (fun r1 s1 => fm_gd (fm_if (fm_some md_refl) (fm_bd (fm_sub (fmth_max _ _ _) (mem_sub_L rfl) (mem_sub_F rfl)) (fun r4 s4 => fm_bd (fm_sub (fmth_min _ _ _) (mem_sub_L rfl) (mem_sub_F rfl)) (fun r5 s5 => fm_gd (fm_gd (fm_if (fm_bd (fm_sub (fsl1_indexOfChar_v1 _ _ _ _) (mem_sub_L rfl) (mem_sub_F rfl)) (fun r9 s9 => fm_some md_refl)) (fm_some md_refl))))))))
/-! str_indexOf_49_v1 -/
def L_str_indexOf_49_v1 : List Nat := []
def G_str_indexOf_49_v1 : List (Nat × Nat) := []
noncomputable def str_indexOf_49_v1 (v1 : Int) (v2 : Int) (s : iS) : Option (Int × iS) := bd (str_length_v1 s) (fun r2 s2 => bd (sl1_indexOf_v1 v1 v2 r2 s2) (fun r3 s3 => some (r3, s3)))
theorem tstr_indexOf_49_v1 (H : iS → List am_C) (w : ev_W) (d : Nat) (hd : 2 ≤ d) (v1 : Int) (v2 : Int) (s : iS) : Ew H w d 49 0 [(0, .ref 36), (1, iv v1), (2, iv v2)] [] s (Ci H) (str_indexOf_49_v1 v1 v2 s) := by
  unfold str_indexOf_49_v1
  refine e_mv 1 em_49 (ce_at ce_49 0 rfl) rfl rfl ?_
  refine e_ivc 4 em_49 (ce_at ce_49 1 rfl) (by omega) (iv_k0 (by decide) rfl rfl) em_7 (Nat.le_of_ble_eq_true rfl) rfl (tstr_isLatin1_v1 H w (d - 1) (by omega) _) (x := 1) rfl ?_
  refine e_jF 7 em_49 (ce_at ce_49 2 rfl) rfl (by rfl) rfl ?_
  refine e_mv 8 em_49 (ce_at ce_49 3 rfl) rfl rfl ?_
  refine e_getk 11 em_49 (ce_at ce_49 4 rfl) (by decide) rfl rfl rfl ?_
  refine e_mv 12 em_49 (ce_at ce_49 5 rfl) rfl rfl ?_
  refine e_mv 13 em_49 (ce_at ce_49 6 rfl) rfl rfl ?_
  refine e_mv 14 em_49 (ce_at ce_49 7 rfl) rfl rfl ?_
  refine e_ivi 17 em_49 (ce_at ce_49 8 rfl) (by omega) (iv_k0 (by decide) rfl rfl) em_4 (Nat.le_of_ble_eq_true rfl) rfl (tstr_length_v1 H w (d - 1) (by omega) _) (fun r2 s2 => ?_)
  refine e_ivi 20 em_49 (ce_at ce_49 9 rfl) (by omega) (iv_s4 rfl) em_50 (Nat.le_of_ble_eq_true rfl) rfl (tsl1_indexOf_v1 H w (d - 1) (by omega) _ _ _ _) (fun r3 s3 => ?_)
  refine e_goto em_49 36 (ce_at ce_49 10 rfl) rfl ?_
  exact e_reti em_49 (ce_at ce_49 18 rfl)
theorem fstr_indexOf_49_v1 (v1 : Int) (v2 : Int) (s : iS) : Fm Prod.snd L_str_indexOf_49_v1 G_str_indexOf_49_v1 s (str_indexOf_49_v1 v1 v2 s) := fm_bd (fm_sub (fstr_length_v1 _) (mem_sub_L rfl) (mem_sub_F rfl)) (fun r2 s2 => fm_bd (fm_sub (fsl1_indexOf_v1 _ _ _ _) (mem_sub_L rfl) (mem_sub_F rfl)) (fun r3 s3 => fm_some md_refl))
/-! str_indexOf_v1 -/
def L_str_indexOf_v1 : List Nat := []
def G_str_indexOf_v1 : List (Nat × Nat) := []
noncomputable def str_indexOf_v1 (v1 : Int) (s : iS) : Option (Int × iS) := bd (str_indexOf_49_v1 v1 0 s) (fun r1 s1 => some (r1, s1))
theorem tstr_indexOf_v1 (H : iS → List am_C) (w : ev_W) (d : Nat) (hd : 3 ≤ d) (v1 : Int) (s : iS) : Ew H w d 48 0 [(0, .ref 36), (1, iv v1)] [] s (Ci H) (str_indexOf_v1 v1 s) := by
  unfold str_indexOf_v1
  refine e_mv 1 em_48 (ce_at ce_48 0 rfl) rfl rfl ?_
  refine e_mv 2 em_48 (ce_at ce_48 1 rfl) rfl rfl ?_
  refine e_op 3 em_48 (ce_at ce_48 2 rfl) rfl rfl ?_
  refine e_ivi 6 em_48 (ce_at ce_48 3 rfl) (by omega) (iv_k2 (by decide) rfl rfl) em_49 (Nat.le_of_ble_eq_true rfl) rfl (tstr_indexOf_49_v1 H w (d - 1) (by omega) _ _ _) (fun r1 s1 => ?_)
  exact e_reti em_48 (ce_at ce_48 4 rfl)
theorem fstr_indexOf_v1 (v1 : Int) (s : iS) : Fm Prod.snd L_str_indexOf_v1 G_str_indexOf_v1 s (str_indexOf_v1 v1 s) := fm_bd (fm_sub (fstr_indexOf_49_v1 _ _ _) (mem_sub_L rfl) (mem_sub_F rfl)) (fun r1 s1 => fm_some md_refl)
/-! tok_readSign -/
def L_tok_readSign : List Nat := []
def G_tok_readSign : List (Nat × Nat) := [(2, 10)]
noncomputable def tok_readSign_55 (v1 : Int) (s : iS) : Option (Int × iS) := bd (str_indexOf (i_c v1) s) (fun r1 s1 => gd (rg r1) (if 0 ≤ r1 then lt' (up s1 2 10 ((s1 2 10) + 1)) (fun s4 => some (v1, s4)) else some (1, s1)))
theorem ttok_readSign_55 (w : ev_W) (d : Nat) (hd : 4 ≤ d) (v1 : Int) (s : iS) : Ew hT w d 47 55 [(0, .ref (tb_nK + 2)), (1, iv v1)] [.ref 37] s (Ci hT) (tok_readSign_55 v1 s) := by
  unfold tok_readSign_55
  refine e_mv 56 em_47 (ce_at ce_47 28 rfl) rfl rfl ?_
  refine e_mv 57 em_47 (ce_at ce_47 29 rfl) rfl rfl ?_
  refine e_mv 58 em_47 (ce_at ce_47 30 rfl) rfl rfl ?_
  refine e_i2c 59 em_47 rfl (ce_at ce_47 31 rfl) ?_
  refine e_ivi 62 em_47 (ce_at ce_47 32 rfl) (by omega) (iv_k1 (by decide) rfl rfl) em_48 (Nat.le_of_ble_eq_true rfl) rfl (tstr_indexOf hT w (d - 1) (by omega) _ _) (fun r1 s1 => ?_)
  refine e_gd fun g2 => ?_
  refine e_ifge 67 65 em_47 rfl rfl (ce_at ce_47 33 rfl) g2 (fun h3 => ?_) (fun h3 => ?_)
  · refine e_mv 68 em_47 (ce_at ce_47 36 rfl) rfl rfl ?_
    refine e_op 69 em_47 (ce_at ce_47 37 rfl) rfl rfl ?_
    refine e_get 72 em_47 (ce_at ce_47 38 rfl) tq_2 rfl rfl ?_
    refine e_op 73 em_47 (ce_at ce_47 39 rfl) rfl rfl ?_
    refine e_iadd 74 em_47 rfl (ce_at ce_47 40 rfl) ?_
    refine e_put 77 em_47 (ce_at ce_47 41 rfl) tq_2 rfl rfl rfl (fun s4 => ?_)
    refine e_mv 78 em_47 (ce_at ce_47 42 rfl) rfl rfl ?_
    exact e_reti em_47 (ce_at ce_47 43 rfl)
  · refine e_op 66 em_47 (ce_at ce_47 34 rfl) rfl rfl ?_
    exact e_reti em_47 (ce_at ce_47 35 rfl)
theorem ftok_readSign_55 (v1 : Int) (s : iS) : Fm Prod.snd L_tok_readSign G_tok_readSign s (tok_readSign_55 v1 s) := fm_bd (fm_sub (fstr_indexOf _ _) (mem_sub_L rfl) (mem_sub_F rfl)) (fun r1 s1 => fm_gd (fm_if (fm_lt (md_upF (mem_F rfl)) (fun s4 => fm_some md_refl)) (fm_some md_refl)))
noncomputable def tok_readSign_55v1 (v1 : Int) (s : iS) : Option (Int × iS) := bd (str_indexOf_v1 (i_c v1) s) (fun r1 s1 => gd (rg r1) (if 0 ≤ r1 then lt' (up s1 2 10 ((s1 2 10) + 1)) (fun s4 => some (v1, s4)) else some (1, s1)))
theorem ttok_readSign_55v1 (w : ev_W) (d : Nat) (hd : 4 ≤ d) (v1 : Int) (s : iS) : Ew hT w d 47 55 [(0, .ref (tb_nK + 2)), (1, iv v1)] [.ref 36] s (Ci hT) (tok_readSign_55v1 v1 s) := by
  unfold tok_readSign_55v1
  refine e_mv 56 em_47 (ce_at ce_47 28 rfl) rfl rfl ?_
  refine e_mv 57 em_47 (ce_at ce_47 29 rfl) rfl rfl ?_
  refine e_mv 58 em_47 (ce_at ce_47 30 rfl) rfl rfl ?_
  refine e_i2c 59 em_47 rfl (ce_at ce_47 31 rfl) ?_
  refine e_ivi 62 em_47 (ce_at ce_47 32 rfl) (by omega) (iv_k1 (by decide) rfl rfl) em_48 (Nat.le_of_ble_eq_true rfl) rfl (tstr_indexOf_v1 hT w (d - 1) (by omega) _ _) (fun r1 s1 => ?_)
  refine e_gd fun g2 => ?_
  refine e_ifge 67 65 em_47 rfl rfl (ce_at ce_47 33 rfl) g2 (fun h3 => ?_) (fun h3 => ?_)
  · refine e_mv 68 em_47 (ce_at ce_47 36 rfl) rfl rfl ?_
    refine e_op 69 em_47 (ce_at ce_47 37 rfl) rfl rfl ?_
    refine e_get 72 em_47 (ce_at ce_47 38 rfl) tq_2 rfl rfl ?_
    refine e_op 73 em_47 (ce_at ce_47 39 rfl) rfl rfl ?_
    refine e_iadd 74 em_47 rfl (ce_at ce_47 40 rfl) ?_
    refine e_put 77 em_47 (ce_at ce_47 41 rfl) tq_2 rfl rfl rfl (fun s4 => ?_)
    refine e_mv 78 em_47 (ce_at ce_47 42 rfl) rfl rfl ?_
    exact e_reti em_47 (ce_at ce_47 43 rfl)
  · refine e_op 66 em_47 (ce_at ce_47 34 rfl) rfl rfl ?_
    exact e_reti em_47 (ce_at ce_47 35 rfl)
theorem ftok_readSign_55v1 (v1 : Int) (s : iS) : Fm Prod.snd L_tok_readSign G_tok_readSign s (tok_readSign_55v1 v1 s) := fm_bd (fm_sub (fstr_indexOf_v1 _ _) (mem_sub_L rfl) (mem_sub_F rfl)) (fun r1 s1 => fm_gd (fm_if (fm_lt (md_upF (mem_F rfl)) (fun s4 => fm_some md_refl)) (fm_some md_refl)))
noncomputable def tok_readSign_41 (v1 : Int) (s : iS) : Option (Int × iS) := gd (rg (s 2 11)) (if (s 2 11) = 0 then tok_readSign_55 v1 s else tok_readSign_55v1 v1 s)
theorem ttok_readSign_41 (w : ev_W) (d : Nat) (hd : 4 ≤ d) (v1 : Int) (s : iS) : Ew hT w d 47 41 [(0, .ref (tb_nK + 2)), (1, iv v1)] [] s (Ci hT) (tok_readSign_41 v1 s) := by
  unfold tok_readSign_41
  refine e_mv 42 em_47 (ce_at ce_47 22 rfl) rfl rfl ?_
  refine e_get 45 em_47 (ce_at ce_47 23 rfl) tq_2 rfl rfl ?_
  refine e_gd fun g1 => ?_
  refine e_ifeq 53 48 em_47 rfl rfl (ce_at ce_47 24 rfl) g1 (fun h2 => ?_) (fun h2 => ?_)
  · refine e_ldcs 55 em_47 (ce_at ce_47 27 rfl) rfl rfl ?_
    refine e_pk [0, 1] rfl rfl ?_
    exact ttok_readSign_55 w d hd _ _
  · refine e_ldcs 50 em_47 (ce_at ce_47 25 rfl) rfl rfl ?_
    refine e_goto em_47 55 (ce_at ce_47 26 rfl) rfl ?_
    refine e_pk [0, 1] rfl rfl ?_
    exact ttok_readSign_55v1 w d hd _ _
theorem ftok_readSign_41 (v1 : Int) (s : iS) : Fm Prod.snd L_tok_readSign G_tok_readSign s (tok_readSign_41 v1 s) := fm_gd (fm_if (ftok_readSign_55 _ _) (ftok_readSign_55v1 _ _))
noncomputable def tok_readSign (v1 : Int) (s : iS) : Option (Int × iS) := gd (rg (s 2 11)) (if (s 2 11) = 0 then tok_readSign_41 v1 s else gd (rg v1) (if v1 = 46 then bd (tok_byteAt ((s 2 10) + 1) s) (fun r5 s5 => gd (rg r5) (if r5 = 46 then lt' (up s5 2 10 ((s5 2 10) + 2)) (fun s8 => some (46, s8)) else tok_readSign_41 v1 s5)) else tok_readSign_41 v1 s))
theorem ttok_readSign (w : ev_W) (d : Nat) (hd : 4 ≤ d) (v1 : Int) (s : iS) : Ew hT w d 47 0 [(0, .ref (tb_nK + 2)), (1, iv v1)] [] s (Ci hT) (tok_readSign v1 s) := by
  unfold tok_readSign
  refine e_mv 1 em_47 (ce_at ce_47 0 rfl) rfl rfl ?_
  refine e_get 4 em_47 (ce_at ce_47 1 rfl) tq_2 rfl rfl ?_
  refine e_gd fun g1 => ?_
  refine e_ifeq 41 7 em_47 rfl rfl (ce_at ce_47 2 rfl) g1 (fun h2 => ?_) (fun h2 => ?_)
  · refine e_pk [0, 1] rfl rfl ?_
    exact ttok_readSign_41 w d hd _ _
  · refine e_mv 8 em_47 (ce_at ce_47 3 rfl) rfl rfl ?_
    refine e_bip 10 em_47 (ce_at ce_47 4 rfl) (by decide) rfl ?_
    refine e_gd fun g3 => ?_
    refine e_cmne 41 13 em_47 rfl rfl (ce_at ce_47 5 rfl) g3 (by decide) (fun h4 => ?_) (fun h4 => ?_)
    · refine e_pk [0, 1] rfl rfl ?_
      exact ttok_readSign_41 w d hd _ _
    · refine e_mv 14 em_47 (ce_at ce_47 6 rfl) rfl rfl ?_
      refine e_mv 15 em_47 (ce_at ce_47 7 rfl) rfl rfl ?_
      refine e_get 18 em_47 (ce_at ce_47 8 rfl) tq_2 rfl rfl ?_
      refine e_op 19 em_47 (ce_at ce_47 9 rfl) rfl rfl ?_
      refine e_iadd 20 em_47 rfl (ce_at ce_47 10 rfl) ?_
      refine e_ivi 23 em_47 (ce_at ce_47 11 rfl) (by omega) (iv_v1 (by decide) tq_2 rfl) em_34 (Nat.le_of_ble_eq_true rfl) rfl (ttok_byteAt w (d - 1) (by omega) _ _) (fun r5 s5 => ?_)
      refine e_bip 25 em_47 (ce_at ce_47 12 rfl) (by decide) rfl ?_
      refine e_gd fun g6 => ?_
      refine e_cmne 41 28 em_47 rfl rfl (ce_at ce_47 13 rfl) g6 (by decide) (fun h7 => ?_) (fun h7 => ?_)
      · refine e_pk [0, 1] rfl rfl ?_
        exact ttok_readSign_41 w d hd _ _
      · refine e_mv 29 em_47 (ce_at ce_47 14 rfl) rfl rfl ?_
        refine e_op 30 em_47 (ce_at ce_47 15 rfl) rfl rfl ?_
        refine e_get 33 em_47 (ce_at ce_47 16 rfl) tq_2 rfl rfl ?_
        refine e_op 34 em_47 (ce_at ce_47 17 rfl) rfl rfl ?_
        refine e_iadd 35 em_47 rfl (ce_at ce_47 18 rfl) ?_
        refine e_put 38 em_47 (ce_at ce_47 19 rfl) tq_2 rfl rfl rfl (fun s8 => ?_)
        refine e_bip 40 em_47 (ce_at ce_47 20 rfl) (by decide) rfl ?_
        exact e_reti em_47 (ce_at ce_47 21 rfl)
theorem ftok_readSign (v1 : Int) (s : iS) : Fm Prod.snd L_tok_readSign G_tok_readSign s (tok_readSign v1 s) := fm_gd (fm_if (ftok_readSign_41 _ _) (fm_gd (fm_if (fm_bd (fm_sub (ftok_byteAt _ _) (mem_sub_L rfl) (mem_sub_F rfl)) (fun r5 s5 => fm_gd (fm_if (fm_lt (md_upF (mem_F rfl)) (fun s8 => fm_some md_refl)) (ftok_readSign_41 _ _)))) (ftok_readSign_41 _ _))))
/-! tok_readString -/
def L_tok_readString : List Nat := [11]
def G_tok_readString : List (Nat × Nat) := [(2, 10)]
def tok_readString_7C (w : ev_W) (d : Nat) (v1 : Int) : (Int × iS) ⊕ (Int × iS) → am_E → Prop := fun q r => q.elim (fun l => ev w d 46 7 ((fun l => [(0, .ref (tb_nK + 2)), (1, iv v1), (2, iv (l.1))]) l) [] (hT ((fun l => l.2) l)) r) (fun e => (fun e r => ev w d 46 51 [(0, .ref (tb_nK + 2)), (1, iv v1), (2, iv (e.1))] [] (hT (e.2)) r) e r)
noncomputable def tok_readString_7b (v1 : Int) (v2 : Int) (s : iS) : Option ((Int × iS) ⊕ (Int × iS)) := gd (rg v2) (gd (rg (s 2 9)) (if (s 2 9) ≤ v2 then some (.inr (v2, s)) else bd (tok_byteAt v2 s) (fun r4 s4 => gd (rg r4) (if r4 < 32 then some (.inr (v2, s4)) else bd (tok_byteAt v2 s4) (fun r7 s7 => gd (rg r7) (if 126 < r7 then some (.inr (v2, s7)) else bd (tok_byteAt v2 s7) (fun r10 s10 => gd (rg r10) (if r10 = 34 then some (.inr (v2, s10)) else some (.inl ((v2 + 1), s10))))))))))
theorem ttok_readString_7b (w : ev_W) (d : Nat) (hd : 1 ≤ d) (v1 : Int) (v2 : Int) (s : iS) : Ew hT w d 46 7 [(0, .ref (tb_nK + 2)), (1, iv v1), (2, iv v2)] [] s (tok_readString_7C w d v1) (tok_readString_7b v1 v2 s) := by
  unfold tok_readString_7b
  refine e_mv 8 em_46 (ce_at ce_46 5 rfl) rfl rfl ?_
  refine e_mv 9 em_46 (ce_at ce_46 6 rfl) rfl rfl ?_
  refine e_get 12 em_46 (ce_at ce_46 7 rfl) tq_2 rfl rfl ?_
  refine e_gd fun g1 => ?_
  refine e_gd fun g2 => ?_
  refine e_cmge 51 15 em_46 rfl rfl (ce_at ce_46 8 rfl) g1 g2 (fun h3 => ?_) (fun h3 => ?_)
  · refine e_pk [0, 1, 2] rfl rfl ?_
    exact e_out (fun r h => h)
  · refine e_mv 16 em_46 (ce_at ce_46 9 rfl) rfl rfl ?_
    refine e_mv 17 em_46 (ce_at ce_46 10 rfl) rfl rfl ?_
    refine e_ivi 20 em_46 (ce_at ce_46 11 rfl) (by omega) (iv_v1 (by decide) tq_2 rfl) em_34 (Nat.le_of_ble_eq_true rfl) rfl (ttok_byteAt w (d - 1) (by omega) _ _) (fun r4 s4 => ?_)
    refine e_bip 22 em_46 (ce_at ce_46 12 rfl) (by decide) rfl ?_
    refine e_gd fun g5 => ?_
    refine e_cmlt 51 25 em_46 rfl rfl (ce_at ce_46 13 rfl) g5 (by decide) (fun h6 => ?_) (fun h6 => ?_)
    · refine e_pk [0, 1, 2] rfl rfl ?_
      exact e_out (fun r h => h)
    · refine e_mv 26 em_46 (ce_at ce_46 14 rfl) rfl rfl ?_
      refine e_mv 27 em_46 (ce_at ce_46 15 rfl) rfl rfl ?_
      refine e_ivi 30 em_46 (ce_at ce_46 16 rfl) (by omega) (iv_v1 (by decide) tq_2 rfl) em_34 (Nat.le_of_ble_eq_true rfl) rfl (ttok_byteAt w (d - 1) (by omega) _ _) (fun r7 s7 => ?_)
      refine e_bip 32 em_46 (ce_at ce_46 17 rfl) (by decide) rfl ?_
      refine e_gd fun g8 => ?_
      refine e_cmgt 51 35 em_46 rfl rfl (ce_at ce_46 18 rfl) g8 (by decide) (fun h9 => ?_) (fun h9 => ?_)
      · refine e_pk [0, 1, 2] rfl rfl ?_
        exact e_out (fun r h => h)
      · refine e_mv 36 em_46 (ce_at ce_46 19 rfl) rfl rfl ?_
        refine e_mv 37 em_46 (ce_at ce_46 20 rfl) rfl rfl ?_
        refine e_ivi 40 em_46 (ce_at ce_46 21 rfl) (by omega) (iv_v1 (by decide) tq_2 rfl) em_34 (Nat.le_of_ble_eq_true rfl) rfl (ttok_byteAt w (d - 1) (by omega) _ _) (fun r10 s10 => ?_)
        refine e_bip 42 em_46 (ce_at ce_46 22 rfl) (by decide) rfl ?_
        refine e_gd fun g11 => ?_
        refine e_cmeq 51 45 em_46 rfl rfl (ce_at ce_46 23 rfl) g11 (by decide) (fun h12 => ?_) (fun h12 => ?_)
        · refine e_pk [0, 1, 2] rfl rfl ?_
          exact e_out (fun r h => h)
        · refine e_iinc 48 em_46 (ce_at ce_46 24 rfl) rfl (by decide) rfl ?_
          refine e_goto em_46 7 (ce_at ce_46 25 rfl) rfl ?_
          refine e_pk [0, 1, 2] rfl rfl ?_
          exact e_out (fun r h => h)
theorem ftok_readString_7b (v1 : Int) (v2 : Int) (s : iS) : Fm (fun r : (Int × iS) ⊕ (Int × iS) => r.elim (fun l => l.2) (fun e => e.2)) L_tok_readString G_tok_readString s (tok_readString_7b v1 v2 s) := fm_gd (fm_gd (fm_if (fm_some md_refl) (fm_bd (fm_sub (ftok_byteAt _ _) (mem_sub_L rfl) (mem_sub_F rfl)) (fun r4 s4 => fm_gd (fm_if (fm_some md_refl) (fm_bd (fm_sub (ftok_byteAt _ _) (mem_sub_L rfl) (mem_sub_F rfl)) (fun r7 s7 => fm_gd (fm_if (fm_some md_refl) (fm_bd (fm_sub (ftok_byteAt _ _) (mem_sub_L rfl) (mem_sub_F rfl)) (fun r10 s10 => fm_gd (fm_if (fm_some md_refl) (fm_some md_refl))))))))))))
noncomputable def tok_readString_51 (v1 : Int) (v2 : Int) (s : iS) : Option (Int × iS) := gd (0 ≤ v1 ∧ v1 < 2001) (lt' (up s 11 v1.toNat ((v2 - (s 2 10)) - 1)) (fun s2 => bd (tok_byteAt v2 s2) (fun r3 s3 => gd (rg r3) (if r3 = 34 then gd (rg (s3 11 v1.toNat)) (if (s3 11 v1.toNat) ≤ 60 then lt' (up s3 2 10 (v2 + 1)) (fun s8 => some (5, s8)) else some (1, s3)) else some (1, s3)))))
theorem ttok_readString_51 (w : ev_W) (d : Nat) (hd : 1 ≤ d) (v1 : Int) (v2 : Int) (s : iS) : Ew hT w d 46 51 [(0, .ref (tb_nK + 2)), (1, iv v1), (2, iv v2)] [] s (Ci hT) (tok_readString_51 v1 v2 s) := by
  unfold tok_readString_51
  refine e_mv 52 em_46 (ce_at ce_46 26 rfl) rfl rfl ?_
  refine e_getr 55 em_46 (ce_at ce_46 27 rfl) tq_2 rfl rfl ?_
  refine e_mv 56 em_46 (ce_at ce_46 28 rfl) rfl rfl ?_
  refine e_mv 57 em_46 (ce_at ce_46 29 rfl) rfl rfl ?_
  refine e_mv 58 em_46 (ce_at ce_46 30 rfl) rfl rfl ?_
  refine e_get 61 em_46 (ce_at ce_46 31 rfl) tq_2 rfl rfl ?_
  refine e_isub 62 em_46 rfl (ce_at ce_46 32 rfl) ?_
  refine e_op 63 em_46 (ce_at ce_46 33 rfl) rfl rfl ?_
  refine e_isub 64 em_46 rfl (ce_at ce_46 34 rfl) ?_
  refine e_gd fun g1 => ?_
  refine e_ist 65 em_46 (ce_at ce_46 35 rfl) tq_11 (by decide) g1 rfl (fun s2 => ?_)
  refine e_mv 66 em_46 (ce_at ce_46 36 rfl) rfl rfl ?_
  refine e_mv 67 em_46 (ce_at ce_46 37 rfl) rfl rfl ?_
  refine e_ivi 70 em_46 (ce_at ce_46 38 rfl) (by omega) (iv_v1 (by decide) tq_2 rfl) em_34 (Nat.le_of_ble_eq_true rfl) rfl (ttok_byteAt w (d - 1) (by omega) _ _) (fun r3 s3 => ?_)
  refine e_bip 72 em_46 (ce_at ce_46 39 rfl) (by decide) rfl ?_
  refine e_gd fun g4 => ?_
  refine e_cmne 86 75 em_46 rfl rfl (ce_at ce_46 40 rfl) g4 (by decide) (fun h5 => ?_) (fun h5 => ?_)
  · refine e_op 87 em_46 (ce_at ce_46 47 rfl) rfl rfl ?_
    exact e_reti em_46 (ce_at ce_46 48 rfl)
  · refine e_mv 76 em_46 (ce_at ce_46 41 rfl) rfl rfl ?_
    refine e_getr 79 em_46 (ce_at ce_46 42 rfl) tq_2 rfl rfl ?_
    refine e_mv 80 em_46 (ce_at ce_46 43 rfl) rfl rfl ?_
    refine e_ild 81 em_46 (ce_at ce_46 44 rfl) tq_11 (by decide) g1 rfl ?_
    refine e_bip 83 em_46 (ce_at ce_46 45 rfl) (by decide) rfl ?_
    refine e_gd fun g6 => ?_
    refine e_cmle 88 86 em_46 rfl rfl (ce_at ce_46 46 rfl) g6 (by decide) (fun h7 => ?_) (fun h7 => ?_)
    · refine e_mv 89 em_46 (ce_at ce_46 49 rfl) rfl rfl ?_
      refine e_mv 90 em_46 (ce_at ce_46 50 rfl) rfl rfl ?_
      refine e_op 91 em_46 (ce_at ce_46 51 rfl) rfl rfl ?_
      refine e_iadd 92 em_46 rfl (ce_at ce_46 52 rfl) ?_
      refine e_put 95 em_46 (ce_at ce_46 53 rfl) tq_2 rfl rfl rfl (fun s8 => ?_)
      refine e_op 96 em_46 (ce_at ce_46 54 rfl) rfl rfl ?_
      exact e_reti em_46 (ce_at ce_46 55 rfl)
    · refine e_op 87 em_46 (ce_at ce_46 47 rfl) rfl rfl ?_
      exact e_reti em_46 (ce_at ce_46 48 rfl)
theorem ftok_readString_51 (v1 : Int) (v2 : Int) (s : iS) : Fm Prod.snd L_tok_readString G_tok_readString s (tok_readString_51 v1 v2 s) := fm_gd (fm_lt (md_upL (mem_L rfl)) (fun s2 => fm_bd (fm_sub (ftok_byteAt _ _) (mem_sub_L rfl) (mem_sub_F rfl)) (fun r3 s3 => fm_gd (fm_if (fm_gd (fm_if (fm_lt (md_upF (mem_F rfl)) (fun s8 => fm_some md_refl)) (fm_some md_refl))) (fm_some md_refl)))))
noncomputable def tok_readString_7 (v1 : Int) (v2 : Int) (s : iS) : Option (Int × iS) := (lp (L := Int × iS) (E := Int × iS) (fun l => tok_readString_7b v1 (l.1) (l.2)) (v2, s)).bind (fun e => tok_readString_51 v1 (e.1) (e.2))
theorem ttok_readString_7 (w : ev_W) (d : Nat) (hd : 1 ≤ d) (v1 : Int) (v2 : Int) (s : iS) : Ew hT w d 46 7 [(0, .ref (tb_nK + 2)), (1, iv v1), (2, iv v2)] [] s (Ci hT) (tok_readString_7 v1 v2 s) := by
  unfold tok_readString_7
  refine e_lp (L := Int × iS) (E := Int × iS) (LO := fun l => [(0, .ref (tb_nK + 2)), (1, iv v1), (2, iv (l.1))]) (LS := fun l => l.2) (CE := fun e r => ev w d 46 51 [(0, .ref (tb_nK + 2)), (1, iv v1), (2, iv (e.1))] [] (hT (e.2)) r) (fun l => ttok_readString_7b w d hd _ _ _) ?_ (v2, s)
  intro e
  show Ew hT w d 46 51 [(0, .ref (tb_nK + 2)), (1, iv v1), (2, iv (e.1))] [] e.2 (Ci hT) _
  refine e_pk [0, 1, 2] rfl rfl ?_
  exact ttok_readString_51 w d hd _ _ _
theorem ftok_readString_7 (v1 : Int) (v2 : Int) (s : iS) : Fm Prod.snd L_tok_readString G_tok_readString s (tok_readString_7 v1 v2 s) := by
  unfold tok_readString_7
  refine fm_lp (A := Int × iS) (E := Int × iS) (LS := fun l => l.2) (LE := fun e => e.2) ?_ ?_ (v2, s)
  · exact fun l => ftok_readString_7b _ _ _
  · exact (fun e => ftok_readString_51 _ _ _)
noncomputable def tok_readString (v1 : Int) (s : iS) : Option (Int × iS) := tok_readString_7 v1 ((s 2 10) + 1) s
theorem ttok_readString (w : ev_W) (d : Nat) (hd : 1 ≤ d) (v1 : Int) (s : iS) : Ew hT w d 46 0 [(0, .ref (tb_nK + 2)), (1, iv v1)] [] s (Ci hT) (tok_readString v1 s) := by
  unfold tok_readString
  refine e_mv 1 em_46 (ce_at ce_46 0 rfl) rfl rfl ?_
  refine e_get 4 em_46 (ce_at ce_46 1 rfl) tq_2 rfl rfl ?_
  refine e_op 5 em_46 (ce_at ce_46 2 rfl) rfl rfl ?_
  refine e_iadd 6 em_46 rfl (ce_at ce_46 3 rfl) ?_
  refine e_mv 7 em_46 (ce_at ce_46 4 rfl) rfl rfl ?_
  refine e_pk [0, 1, 2] rfl rfl ?_
  exact ttok_readString_7 w d hd _ _ _
theorem ftok_readString (v1 : Int) (s : iS) : Fm Prod.snd L_tok_readString G_tok_readString s (tok_readString v1 s) := ftok_readString_7 _ _ _
/-! tok_readNumber -/
def L_tok_readNumber : List Nat := [11]
def G_tok_readNumber : List (Nat × Nat) := [(2, 10)]
def tok_readNumber_36C (w : ev_W) (d : Nat) (v1 : Int) (v2 : Int) : (Int × Int × iS) ⊕ ((iS) ⊕ (Int × iS)) → am_E → Prop := fun q r => q.elim (fun l => ev w d 39 36 ((fun l => [(0, .ref (tb_nK + 2)), (1, iv v1), (2, iv v2), (3, iv (l.1)), (4, iv (l.2.1))]) l) [] (hT ((fun l => l.2.2) l)) r) (fun e => (fun e r => e.elim (fun e => ev w d 39 54 [] [] (hT (e)) r) (fun e => ev w d 39 77 [(0, .ref (tb_nK + 2)), (1, iv v1), (2, iv v2), (3, iv (e.1))] [] (hT (e.2)) r)) e r)
noncomputable def tok_readNumber_36b (v1 : Int) (v2 : Int) (v3 : Int) (v4 : Int) (s : iS) : Option ((Int × Int × iS) ⊕ ((iS) ⊕ (Int × iS))) := gd (rg v4) (gd (rg v2) (if v2 ≤ v4 then some (.inr (.inr (v3, s))) else bd (tok_byteAt v4 s) (fun r4 s4 => bd (x_isDigit r4 s4) (fun r5 s5 => gd (rg r5) (if r5 = 0 then some (.inr (.inl s5)) else bd (tok_byteAt v4 s5) (fun r8 s8 => some (.inl ((((10 * v3) + r8) - 48), (v4 + 1), s8))))))))
theorem ttok_readNumber_36b (w : ev_W) (d : Nat) (hd : 2 ≤ d) (v1 : Int) (v2 : Int) (v3 : Int) (v4 : Int) (s : iS) : Ew hT w d 39 36 [(0, .ref (tb_nK + 2)), (1, iv v1), (2, iv v2), (3, iv v3), (4, iv v4)] [] s (tok_readNumber_36C w d v1 v2) (tok_readNumber_36b v1 v2 v3 v4 s) := by
  unfold tok_readNumber_36b
  refine e_mv 38 em_39 (ce_at ce_39 21 rfl) rfl rfl ?_
  refine e_mv 39 em_39 (ce_at ce_39 22 rfl) rfl rfl ?_
  refine e_gd fun g1 => ?_
  refine e_gd fun g2 => ?_
  refine e_cmge 77 42 em_39 rfl rfl (ce_at ce_39 23 rfl) g1 g2 (fun h3 => ?_) (fun h3 => ?_)
  · refine e_pk [0, 1, 2, 3] rfl rfl ?_
    exact e_out (fun r h => h)
  · refine e_mv 43 em_39 (ce_at ce_39 24 rfl) rfl rfl ?_
    refine e_mv 45 em_39 (ce_at ce_39 25 rfl) rfl rfl ?_
    refine e_ivi 48 em_39 (ce_at ce_39 26 rfl) (by omega) (iv_v1 (by decide) tq_2 rfl) em_34 (Nat.le_of_ble_eq_true rfl) rfl (ttok_byteAt w (d - 1) (by omega) _ _) (fun r4 s4 => ?_)
    refine e_ivi 51 em_39 (ce_at ce_39 27 rfl) (by omega) (iv_s1 rfl) em_38 (Nat.le_of_ble_eq_true rfl) rfl (tx_isDigit hT w (d - 1) (by omega) _ _) (fun r5 s5 => ?_)
    refine e_gd fun g6 => ?_
    refine e_ifne 56 54 em_39 rfl rfl (ce_at ce_39 28 rfl) g6 (fun h7 => ?_) (fun h7 => ?_)
    · refine e_bip 58 em_39 (ce_at ce_39 31 rfl) (by decide) rfl ?_
      refine e_mv 59 em_39 (ce_at ce_39 32 rfl) rfl rfl ?_
      refine e_imul 60 em_39 rfl (ce_at ce_39 33 rfl) ?_
      refine e_mv 61 em_39 (ce_at ce_39 34 rfl) rfl rfl ?_
      refine e_mv 63 em_39 (ce_at ce_39 35 rfl) rfl rfl ?_
      refine e_ivi 66 em_39 (ce_at ce_39 36 rfl) (by omega) (iv_v1 (by decide) tq_2 rfl) em_34 (Nat.le_of_ble_eq_true rfl) rfl (ttok_byteAt w (d - 1) (by omega) _ _) (fun r8 s8 => ?_)
      refine e_iadd 67 em_39 rfl (ce_at ce_39 37 rfl) ?_
      refine e_bip 69 em_39 (ce_at ce_39 38 rfl) (by decide) rfl ?_
      refine e_isub 70 em_39 rfl (ce_at ce_39 39 rfl) ?_
      refine e_mv 71 em_39 (ce_at ce_39 40 rfl) rfl rfl ?_
      refine e_iinc 74 em_39 (ce_at ce_39 41 rfl) rfl (by decide) rfl ?_
      refine e_goto em_39 36 (ce_at ce_39 42 rfl) rfl ?_
      refine e_pk [0, 1, 2, 3, 4] rfl rfl ?_
      exact e_out (fun r h => h)
    · refine e_pk [] rfl rfl ?_
      exact e_out (fun r h => h)
theorem ftok_readNumber_36b (v1 : Int) (v2 : Int) (v3 : Int) (v4 : Int) (s : iS) : Fm (fun r : (Int × Int × iS) ⊕ ((iS) ⊕ (Int × iS)) => r.elim (fun l => l.2.2) (fun e => e.elim (fun e => e) (fun e => e.2))) L_tok_readNumber G_tok_readNumber s (tok_readNumber_36b v1 v2 v3 v4 s) := fm_gd (fm_gd (fm_if (fm_some md_refl) (fm_bd (fm_sub (ftok_byteAt _ _) (mem_sub_L rfl) (mem_sub_F rfl)) (fun r4 s4 => fm_bd (fm_sub (fx_isDigit _ _) (mem_sub_L rfl) (mem_sub_F rfl)) (fun r5 s5 => fm_gd (fm_if (fm_some md_refl) (fm_bd (fm_sub (ftok_byteAt _ _) (mem_sub_L rfl) (mem_sub_F rfl)) (fun r8 s8 => fm_some md_refl))))))))
noncomputable def tok_readNumber_77 (v1 : Int) (v2 : Int) (v3 : Int) (s : iS) : Option (Int × iS) := gd (0 ≤ v1 ∧ v1 < 2001) (lt' (up s 11 v1.toNat v3) (fun s2 => lt' (up s2 2 10 v2) (fun s3 => gd (rg v3) (if v3 ≤ 32767 then some (4, s3) else some (1, s3)))))
theorem ttok_readNumber_77 (w : ev_W) (d : Nat) (hd : 2 ≤ d) (v1 : Int) (v2 : Int) (v3 : Int) (s : iS) : Ew hT w d 39 77 [(0, .ref (tb_nK + 2)), (1, iv v1), (2, iv v2), (3, iv v3)] [] s (Ci hT) (tok_readNumber_77 v1 v2 v3 s) := by
  unfold tok_readNumber_77
  refine e_mv 78 em_39 (ce_at ce_39 43 rfl) rfl rfl ?_
  refine e_getr 81 em_39 (ce_at ce_39 44 rfl) tq_2 rfl rfl ?_
  refine e_mv 82 em_39 (ce_at ce_39 45 rfl) rfl rfl ?_
  refine e_mv 83 em_39 (ce_at ce_39 46 rfl) rfl rfl ?_
  refine e_gd fun g1 => ?_
  refine e_ist 84 em_39 (ce_at ce_39 47 rfl) tq_11 (by decide) g1 rfl (fun s2 => ?_)
  refine e_mv 85 em_39 (ce_at ce_39 48 rfl) rfl rfl ?_
  refine e_mv 86 em_39 (ce_at ce_39 49 rfl) rfl rfl ?_
  refine e_put 89 em_39 (ce_at ce_39 50 rfl) tq_2 rfl rfl rfl (fun s3 => ?_)
  refine e_mv 90 em_39 (ce_at ce_39 51 rfl) rfl rfl ?_
  refine e_sip 93 em_39 (ce_at ce_39 52 rfl) (by decide) rfl ?_
  refine e_gd fun g4 => ?_
  refine e_cmle 100 96 em_39 rfl rfl (ce_at ce_39 53 rfl) g4 (by decide) (fun h5 => ?_) (fun h5 => ?_)
  · refine e_op 101 em_39 (ce_at ce_39 56 rfl) rfl rfl ?_
    exact e_reti em_39 (ce_at ce_39 57 rfl)
  · refine e_op 97 em_39 (ce_at ce_39 54 rfl) rfl rfl ?_
    refine e_goto em_39 101 (ce_at ce_39 55 rfl) rfl ?_
    exact e_reti em_39 (ce_at ce_39 57 rfl)
theorem ftok_readNumber_77 (v1 : Int) (v2 : Int) (v3 : Int) (s : iS) : Fm Prod.snd L_tok_readNumber G_tok_readNumber s (tok_readNumber_77 v1 v2 v3 s) := fm_gd (fm_lt (md_upL (mem_L rfl)) (fun s2 => fm_lt (md_upF (mem_F rfl)) (fun s3 => fm_gd (fm_if (fm_some md_refl) (fm_some md_refl)))))
noncomputable def tok_readNumber_36 (v1 : Int) (v2 : Int) (v3 : Int) (v4 : Int) (s : iS) : Option (Int × iS) := (lp (L := Int × Int × iS) (E := (iS) ⊕ (Int × iS)) (fun l => tok_readNumber_36b v1 v2 (l.1) (l.2.1) (l.2.2)) (v3, v4, s)).bind (fun e => e.elim (fun e => some (1, e)) (fun e => tok_readNumber_77 v1 v2 (e.1) (e.2)))
theorem ttok_readNumber_36 (w : ev_W) (d : Nat) (hd : 2 ≤ d) (v1 : Int) (v2 : Int) (v3 : Int) (v4 : Int) (s : iS) : Ew hT w d 39 36 [(0, .ref (tb_nK + 2)), (1, iv v1), (2, iv v2), (3, iv v3), (4, iv v4)] [] s (Ci hT) (tok_readNumber_36 v1 v2 v3 v4 s) := by
  unfold tok_readNumber_36
  refine e_lp (L := Int × Int × iS) (E := (iS) ⊕ (Int × iS)) (LO := fun l => [(0, .ref (tb_nK + 2)), (1, iv v1), (2, iv v2), (3, iv (l.1)), (4, iv (l.2.1))]) (LS := fun l => l.2.2) (CE := fun e r => e.elim (fun e => ev w d 39 54 [] [] (hT (e)) r) (fun e => ev w d 39 77 [(0, .ref (tb_nK + 2)), (1, iv v1), (2, iv v2), (3, iv (e.1))] [] (hT (e.2)) r)) (fun l => ttok_readNumber_36b w d hd _ _ _ _ _) ?_ (v3, v4, s)
  rintro (e | e)
  · show Ew hT w d 39 54 [] [] e (Ci hT) _
    refine e_op 55 em_39 (ce_at ce_39 29 rfl) rfl rfl ?_
    exact e_reti em_39 (ce_at ce_39 30 rfl)
  · show Ew hT w d 39 77 [(0, .ref (tb_nK + 2)), (1, iv v1), (2, iv v2), (3, iv (e.1))] [] e.2 (Ci hT) _
    refine e_pk [0, 1, 2, 3] rfl rfl ?_
    exact ttok_readNumber_77 w d hd _ _ _ _
theorem ftok_readNumber_36 (v1 : Int) (v2 : Int) (v3 : Int) (v4 : Int) (s : iS) : Fm Prod.snd L_tok_readNumber G_tok_readNumber s (tok_readNumber_36 v1 v2 v3 v4 s) := by
  unfold tok_readNumber_36
  refine fm_lp (A := Int × Int × iS) (E := (iS) ⊕ (Int × iS)) (LS := fun l => l.2.2) (LE := fun e => e.elim (fun e => e) (fun e => e.2)) ?_ ?_ (v3, v4, s)
  · exact fun l => ftok_readNumber_36b _ _ _ _ _
  · exact (by rintro (e | e); exact fm_some md_refl; exact ftok_readNumber_77 _ _ _ _)
noncomputable def tok_readNumber_23 (v1 : Int) (v2 : Int) (t0 : Int) (t1 : Int) (s : iS) : Option (Int × iS) := gd (rg t1) (gd (rg t0) (if t1 ≤ t0 then tok_readNumber_36 v1 v2 0 (s 2 10) s else some (1, s)))
theorem ttok_readNumber_23 (w : ev_W) (d : Nat) (hd : 2 ≤ d) (v1 : Int) (v2 : Int) (t0 : Int) (t1 : Int) (s : iS) : Ew hT w d 39 23 [(0, .ref (tb_nK + 2)), (1, iv v1), (2, iv v2)] [iv t0, iv t1] s (Ci hT) (tok_readNumber_23 v1 v2 t0 t1 s) := by
  unfold tok_readNumber_23
  refine e_gd fun g1 => ?_
  refine e_gd fun g2 => ?_
  refine e_cmle 28 26 em_39 rfl rfl (ce_at ce_39 13 rfl) g1 g2 (fun h3 => ?_) (fun h3 => ?_)
  · refine e_op 29 em_39 (ce_at ce_39 16 rfl) rfl rfl ?_
    refine e_mv 30 em_39 (ce_at ce_39 17 rfl) rfl rfl ?_
    refine e_mv 31 em_39 (ce_at ce_39 18 rfl) rfl rfl ?_
    refine e_get 34 em_39 (ce_at ce_39 19 rfl) tq_2 rfl rfl ?_
    refine e_mv 36 em_39 (ce_at ce_39 20 rfl) rfl rfl ?_
    refine e_pk [0, 1, 2, 3, 4] rfl rfl ?_
    exact ttok_readNumber_36 w d hd _ _ _ _ _
  · refine e_op 27 em_39 (ce_at ce_39 14 rfl) rfl rfl ?_
    exact e_reti em_39 (ce_at ce_39 15 rfl)
theorem ftok_readNumber_23 (v1 : Int) (v2 : Int) (t0 : Int) (t1 : Int) (s : iS) : Fm Prod.snd L_tok_readNumber G_tok_readNumber s (tok_readNumber_23 v1 v2 t0 t1 s) := fm_gd (fm_gd (fm_if (ftok_readNumber_36 _ _ _ _ _) (fm_some md_refl)))
noncomputable def tok_readNumber (v1 : Int) (s : iS) : Option (Int × iS) := bd (tok_wordEnd s) (fun r1 s1 => gd (rg (s1 2 11)) (if (s1 2 11) = 0 then tok_readNumber_23 v1 r1 5 (r1 - (s1 2 10)) s1 else tok_readNumber_23 v1 r1 2 (r1 - (s1 2 10)) s1))
theorem ttok_readNumber (w : ev_W) (d : Nat) (hd : 2 ≤ d) (v1 : Int) (s : iS) : Ew hT w d 39 0 [(0, .ref (tb_nK + 2)), (1, iv v1)] [] s (Ci hT) (tok_readNumber v1 s) := by
  unfold tok_readNumber
  refine e_mv 1 em_39 (ce_at ce_39 0 rfl) rfl rfl ?_
  refine e_ivi 4 em_39 (ce_at ce_39 1 rfl) (by omega) (iv_v0 (by decide) tq_2 rfl) em_40 (Nat.le_of_ble_eq_true rfl) rfl (ttok_wordEnd w (d - 1) (by omega) _) (fun r1 s1 => ?_)
  refine e_mv 5 em_39 (ce_at ce_39 2 rfl) rfl rfl ?_
  refine e_mv 6 em_39 (ce_at ce_39 3 rfl) rfl rfl ?_
  refine e_mv 7 em_39 (ce_at ce_39 4 rfl) rfl rfl ?_
  refine e_get 10 em_39 (ce_at ce_39 5 rfl) tq_2 rfl rfl ?_
  refine e_isub 11 em_39 rfl (ce_at ce_39 6 rfl) ?_
  refine e_mv 12 em_39 (ce_at ce_39 7 rfl) rfl rfl ?_
  refine e_get 15 em_39 (ce_at ce_39 8 rfl) tq_2 rfl rfl ?_
  refine e_gd fun g2 => ?_
  refine e_ifeq 22 18 em_39 rfl rfl (ce_at ce_39 9 rfl) g2 (fun h3 => ?_) (fun h3 => ?_)
  · refine e_op 23 em_39 (ce_at ce_39 12 rfl) rfl rfl ?_
    refine e_pk [0, 1, 2] rfl rfl ?_
    exact ttok_readNumber_23 w d hd _ _ _ _ _
  · refine e_op 19 em_39 (ce_at ce_39 10 rfl) rfl rfl ?_
    refine e_goto em_39 23 (ce_at ce_39 11 rfl) rfl ?_
    refine e_pk [0, 1, 2] rfl rfl ?_
    exact ttok_readNumber_23 w d hd _ _ _ _ _
theorem ftok_readNumber (v1 : Int) (s : iS) : Fm Prod.snd L_tok_readNumber G_tok_readNumber s (tok_readNumber v1 s) := fm_bd (fm_sub (ftok_wordEnd _) (mem_sub_L rfl) (mem_sub_F rfl)) (fun r1 s1 => fm_gd (fm_if (ftok_readNumber_23 _ _ _ _ _) (ftok_readNumber_23 _ _ _ _ _)))
/-! tok_readToken -/
def L_tok_readToken : List Nat := [11, 12, 13]
def G_tok_readToken : List (Nat × Nat) := [(2, 10)]
noncomputable def tok_readToken_48 (v1 : Int) (s : iS) : Option (Int × iS) := bd (tok_readWord v1 s) (fun r1 s1 => some (r1, s1))
theorem ttok_readToken_48 (w : ev_W) (d : Nat) (hd : 5 ≤ d) (v1 : Int) (s : iS) : Ew hT w d 37 48 [(0, .ref (tb_nK + 2)), (1, iv v1)] [] s (Ci hT) (tok_readToken_48 v1 s) := by
  unfold tok_readToken_48
  refine e_mv 49 em_37 (ce_at ce_37 25 rfl) rfl rfl ?_
  refine e_mv 50 em_37 (ce_at ce_37 26 rfl) rfl rfl ?_
  refine e_ivi 53 em_37 (ce_at ce_37 27 rfl) (by omega) (iv_v1 (by decide) tq_2 rfl) em_42 (Nat.le_of_ble_eq_true rfl) rfl (ttok_readWord w (d - 1) (by omega) _ _) (fun r1 s1 => ?_)
  exact e_reti em_37 (ce_at ce_37 28 rfl)
theorem ftok_readToken_48 (v1 : Int) (s : iS) : Fm Prod.snd L_tok_readToken G_tok_readToken s (tok_readToken_48 v1 s) := fm_bd (fm_sub (ftok_readWord _ _) (mem_sub_L rfl) (mem_sub_F rfl)) (fun r1 s1 => fm_some md_refl)
noncomputable def tok_readToken_73 (v2 : Int) (s : iS) : Option (Int × iS) := bd (tok_readSign v2 s) (fun r1 s1 => some (r1, s1))
theorem ttok_readToken_73 (w : ev_W) (d : Nat) (hd : 5 ≤ d) (v2 : Int) (s : iS) : Ew hT w d 37 73 [(0, .ref (tb_nK + 2)), (2, iv v2)] [] s (Ci hT) (tok_readToken_73 v2 s) := by
  unfold tok_readToken_73
  refine e_mv 74 em_37 (ce_at ce_37 39 rfl) rfl rfl ?_
  refine e_mv 75 em_37 (ce_at ce_37 40 rfl) rfl rfl ?_
  refine e_ivi 78 em_37 (ce_at ce_37 41 rfl) (by omega) (iv_v1 (by decide) tq_2 rfl) em_47 (Nat.le_of_ble_eq_true rfl) rfl (ttok_readSign w (d - 1) (by omega) _ _) (fun r1 s1 => ?_)
  exact e_reti em_37 (ce_at ce_37 42 rfl)
theorem ftok_readToken_73 (v2 : Int) (s : iS) : Fm Prod.snd L_tok_readToken G_tok_readToken s (tok_readToken_73 v2 s) := fm_bd (fm_sub (ftok_readSign _ _) (mem_sub_L rfl) (mem_sub_F rfl)) (fun r1 s1 => fm_some md_refl)
noncomputable def tok_readToken_54 (v1 : Int) (v2 : Int) (s : iS) : Option (Int × iS) := gd (rg v2) (if v2 = 34 then gd (rg (s 2 11)) (if (s 2 11) = 0 then bd (tok_readString v1 s) (fun r5 s5 => some (r5, s5)) else tok_readToken_73 v2 s) else tok_readToken_73 v2 s)
theorem ttok_readToken_54 (w : ev_W) (d : Nat) (hd : 5 ≤ d) (v1 : Int) (v2 : Int) (s : iS) : Ew hT w d 37 54 [(0, .ref (tb_nK + 2)), (1, iv v1), (2, iv v2)] [] s (Ci hT) (tok_readToken_54 v1 v2 s) := by
  unfold tok_readToken_54
  refine e_mv 55 em_37 (ce_at ce_37 29 rfl) rfl rfl ?_
  refine e_bip 57 em_37 (ce_at ce_37 30 rfl) (by decide) rfl ?_
  refine e_gd fun g1 => ?_
  refine e_cmne 73 60 em_37 rfl rfl (ce_at ce_37 31 rfl) g1 (by decide) (fun h2 => ?_) (fun h2 => ?_)
  · refine e_pk [0, 2] rfl rfl ?_
    exact ttok_readToken_73 w d hd _ _
  · refine e_mv 61 em_37 (ce_at ce_37 32 rfl) rfl rfl ?_
    refine e_get 64 em_37 (ce_at ce_37 33 rfl) tq_2 rfl rfl ?_
    refine e_gd fun g3 => ?_
    refine e_ifne 73 67 em_37 rfl rfl (ce_at ce_37 34 rfl) g3 (fun h4 => ?_) (fun h4 => ?_)
    · refine e_pk [0, 2] rfl rfl ?_
      exact ttok_readToken_73 w d hd _ _
    · refine e_mv 68 em_37 (ce_at ce_37 35 rfl) rfl rfl ?_
      refine e_mv 69 em_37 (ce_at ce_37 36 rfl) rfl rfl ?_
      refine e_ivi 72 em_37 (ce_at ce_37 37 rfl) (by omega) (iv_v1 (by decide) tq_2 rfl) em_46 (Nat.le_of_ble_eq_true rfl) rfl (ttok_readString w (d - 1) (by omega) _ _) (fun r5 s5 => ?_)
      exact e_reti em_37 (ce_at ce_37 38 rfl)
theorem ftok_readToken_54 (v1 : Int) (v2 : Int) (s : iS) : Fm Prod.snd L_tok_readToken G_tok_readToken s (tok_readToken_54 v1 v2 s) := fm_gd (fm_if (fm_gd (fm_if (fm_bd (fm_sub (ftok_readString _ _) (mem_sub_L rfl) (mem_sub_F rfl)) (fun r5 s5 => fm_some md_refl)) (ftok_readToken_73 _ _))) (ftok_readToken_73 _ _))
noncomputable def tok_readToken (v1 : Int) (s : iS) : Option (Int × iS) := bd (tok_byteAt (s 2 10) s) (fun r1 s1 => gd (rg r1) (if 0 ≤ r1 then bd (x_isDigit r1 s1) (fun r4 s4 => gd (rg r4) (if r4 = 0 then bd (x_isLetter r1 s4) (fun r7 s7 => gd (rg r7) (if r7 = 0 then if r1 = 95 then gd (rg (s7 2 11)) (if (s7 2 11) = 0 then tok_readToken_48 v1 s7 else tok_readToken_54 v1 r1 s7) else tok_readToken_54 v1 r1 s7 else tok_readToken_48 v1 s7)) else bd (tok_readNumber v1 s4) (fun r13 s13 => some (r13, s13)))) else some (0, s1)))
theorem ttok_readToken (w : ev_W) (d : Nat) (hd : 5 ≤ d) (v1 : Int) (s : iS) : Ew hT w d 37 0 [(0, .ref (tb_nK + 2)), (1, iv v1)] [] s (Ci hT) (tok_readToken v1 s) := by
  unfold tok_readToken
  refine e_mv 1 em_37 (ce_at ce_37 0 rfl) rfl rfl ?_
  refine e_mv 2 em_37 (ce_at ce_37 1 rfl) rfl rfl ?_
  refine e_get 5 em_37 (ce_at ce_37 2 rfl) tq_2 rfl rfl ?_
  refine e_ivi 8 em_37 (ce_at ce_37 3 rfl) (by omega) (iv_v1 (by decide) tq_2 rfl) em_34 (Nat.le_of_ble_eq_true rfl) rfl (ttok_byteAt w (d - 1) (by omega) _ _) (fun r1 s1 => ?_)
  refine e_mv 9 em_37 (ce_at ce_37 4 rfl) rfl rfl ?_
  refine e_mv 10 em_37 (ce_at ce_37 5 rfl) rfl rfl ?_
  refine e_gd fun g2 => ?_
  refine e_ifge 15 13 em_37 rfl rfl (ce_at ce_37 6 rfl) g2 (fun h3 => ?_) (fun h3 => ?_)
  · refine e_mv 16 em_37 (ce_at ce_37 9 rfl) rfl rfl ?_
    refine e_ivi 19 em_37 (ce_at ce_37 10 rfl) (by omega) (iv_s1 rfl) em_38 (Nat.le_of_ble_eq_true rfl) rfl (tx_isDigit hT w (d - 1) (by omega) _ _) (fun r4 s4 => ?_)
    refine e_gd fun g5 => ?_
    refine e_ifeq 28 22 em_37 rfl rfl (ce_at ce_37 11 rfl) g5 (fun h6 => ?_) (fun h6 => ?_)
    · refine e_mv 29 em_37 (ce_at ce_37 16 rfl) rfl rfl ?_
      refine e_ivi 32 em_37 (ce_at ce_37 17 rfl) (by omega) (iv_s1 rfl) em_41 (Nat.le_of_ble_eq_true rfl) rfl (tx_isLetter hT w (d - 1) (by omega) _ _) (fun r7 s7 => ?_)
      refine e_gd fun g8 => ?_
      refine e_ifne 48 35 em_37 rfl rfl (ce_at ce_37 18 rfl) g8 (fun h9 => ?_) (fun h9 => ?_)
      · refine e_pk [0, 1] rfl rfl ?_
        exact ttok_readToken_48 w d hd _ _
      · refine e_mv 36 em_37 (ce_at ce_37 19 rfl) rfl rfl ?_
        refine e_bip 38 em_37 (ce_at ce_37 20 rfl) (by decide) rfl ?_
        refine e_cmne 54 41 em_37 rfl rfl (ce_at ce_37 21 rfl) g2 (by decide) (fun h10 => ?_) (fun h10 => ?_)
        · refine e_pk [0, 1, 2] rfl rfl ?_
          exact ttok_readToken_54 w d hd _ _ _
        · refine e_mv 42 em_37 (ce_at ce_37 22 rfl) rfl rfl ?_
          refine e_get 45 em_37 (ce_at ce_37 23 rfl) tq_2 rfl rfl ?_
          refine e_gd fun g11 => ?_
          refine e_ifne 54 48 em_37 rfl rfl (ce_at ce_37 24 rfl) g11 (fun h12 => ?_) (fun h12 => ?_)
          · refine e_pk [0, 1, 2] rfl rfl ?_
            exact ttok_readToken_54 w d hd _ _ _
          · refine e_pk [0, 1] rfl rfl ?_
            exact ttok_readToken_48 w d hd _ _
    · refine e_mv 23 em_37 (ce_at ce_37 12 rfl) rfl rfl ?_
      refine e_mv 24 em_37 (ce_at ce_37 13 rfl) rfl rfl ?_
      refine e_ivi 27 em_37 (ce_at ce_37 14 rfl) (by omega) (iv_v1 (by decide) tq_2 rfl) em_39 (Nat.le_of_ble_eq_true rfl) rfl (ttok_readNumber w (d - 1) (by omega) _ _) (fun r13 s13 => ?_)
      exact e_reti em_37 (ce_at ce_37 15 rfl)
  · refine e_op 14 em_37 (ce_at ce_37 7 rfl) rfl rfl ?_
    exact e_reti em_37 (ce_at ce_37 8 rfl)
theorem ftok_readToken (v1 : Int) (s : iS) : Fm Prod.snd L_tok_readToken G_tok_readToken s (tok_readToken v1 s) := fm_bd (fm_sub (ftok_byteAt _ _) (mem_sub_L rfl) (mem_sub_F rfl)) (fun r1 s1 => fm_gd (fm_if (fm_bd (fm_sub (fx_isDigit _ _) (mem_sub_L rfl) (mem_sub_F rfl)) (fun r4 s4 => fm_gd (fm_if (fm_bd (fm_sub (fx_isLetter _ _) (mem_sub_L rfl) (mem_sub_F rfl)) (fun r7 s7 => fm_gd (fm_if (fm_if (fm_gd (fm_if (ftok_readToken_48 _ _) (ftok_readToken_54 _ _ _))) (ftok_readToken_54 _ _ _)) (ftok_readToken_48 _ _)))) (fm_bd (fm_sub (ftok_readNumber _ _) (mem_sub_L rfl) (mem_sub_F rfl)) (fun r13 s13 => fm_some md_refl))))) (fm_some md_refl)))
/-! tok_scan -/
def L_tok_scan : List Nat := [9, 10, 11, 12, 13]
def G_tok_scan : List (Nat × Nat) := [(2, 8), (2, 9), (2, 10), (2, 11)]
def tok_scan_51C (w : ev_W) (d : Nat) (v3 : Int) : (Int × Int × iS) ⊕ (iS) → am_E → Prop := fun q r => q.elim (fun l => ev w d 32 51 ((fun l => [(0, .ref (tb_nK + 2)), (3, iv v3), (4, iv (l.1)), (5, iv (l.2.1))]) l) [] (hT ((fun l => l.2.2) l)) r) (fun e => (fun e r => ev w d 32 145 [] [] (hT (e)) r) e r)
noncomputable def tok_scan_122 (v3 : Int) (v4 : Int) (v5 : Int) (s : iS) : Option ((Int × Int × iS) ⊕ (iS)) := gd (0 ≤ v5 ∧ v5 < 2001) (lt' (up s 9 v5.toNat v4) (fun s2 => lt' (up s2 2 8 (v5 + 1)) (fun s3 => some (.inl (v4, (v5 + 1), s3)))))
theorem ttok_scan_122 (w : ev_W) (d : Nat) (hd : 6 ≤ d) (v3 : Int) (v4 : Int) (v5 : Int) (s : iS) : Ew hT w d 32 122 [(0, .ref (tb_nK + 2)), (3, iv v3), (4, iv v4), (5, iv v5)] [] s (tok_scan_51C w d v3) (tok_scan_122 v3 v4 v5 s) := by
  unfold tok_scan_122
  refine e_mv 123 em_32 (ce_at ce_32 63 rfl) rfl rfl ?_
  refine e_getr 126 em_32 (ce_at ce_32 64 rfl) tq_2 rfl rfl ?_
  refine e_mv 128 em_32 (ce_at ce_32 65 rfl) rfl rfl ?_
  refine e_mv 130 em_32 (ce_at ce_32 66 rfl) rfl rfl ?_
  refine e_gd fun g1 => ?_
  refine e_ist 131 em_32 (ce_at ce_32 67 rfl) tq_9 (by decide) g1 rfl (fun s2 => ?_)
  refine e_mv 132 em_32 (ce_at ce_32 68 rfl) rfl rfl ?_
  refine e_mv 134 em_32 (ce_at ce_32 69 rfl) rfl rfl ?_
  refine e_op 135 em_32 (ce_at ce_32 70 rfl) rfl rfl ?_
  refine e_iadd 136 em_32 rfl (ce_at ce_32 71 rfl) ?_
  refine e_put 139 em_32 (ce_at ce_32 72 rfl) tq_2 rfl rfl rfl (fun s3 => ?_)
  refine e_iinc 142 em_32 (ce_at ce_32 73 rfl) rfl (by decide) rfl ?_
  refine e_goto em_32 51 (ce_at ce_32 74 rfl) rfl ?_
  refine e_pk [0, 3, 4, 5] rfl rfl ?_
  exact e_out (fun r h => h)
theorem ftok_scan_122 (v3 : Int) (v4 : Int) (v5 : Int) (s : iS) : Fm (fun r : (Int × Int × iS) ⊕ (iS) => r.elim (fun l => l.2.2) (fun e => e)) L_tok_scan G_tok_scan s (tok_scan_122 v3 v4 v5 s) := fm_gd (fm_lt (md_upL (mem_L rfl)) (fun s2 => fm_lt (md_upF (mem_F rfl)) (fun s3 => fm_some md_refl)))
noncomputable def tok_scan_105 (v3 : Int) (v5 : Int) (t0 : Int) (s : iS) : Option ((Int × Int × iS) ⊕ (iS)) := gd (rg v5) (gd (rg v3) (if v5 = v3 then gd (rg t0) (if t0 ≤ 2 then tok_scan_122 v3 t0 v5 s else tok_scan_122 v3 2 v5 s) else tok_scan_122 v3 t0 v5 s))
theorem ttok_scan_105 (w : ev_W) (d : Nat) (hd : 6 ≤ d) (v3 : Int) (v5 : Int) (t0 : Int) (s : iS) : Ew hT w d 32 105 [(0, .ref (tb_nK + 2)), (3, iv v3), (5, iv v5)] [iv t0] s (tok_scan_51C w d v3) (tok_scan_105 v3 v5 t0 s) := by
  unfold tok_scan_105
  refine e_mv 107 em_32 (ce_at ce_32 54 rfl) rfl rfl ?_
  refine e_mv 109 em_32 (ce_at ce_32 55 rfl) rfl rfl ?_
  refine e_mv 110 em_32 (ce_at ce_32 56 rfl) rfl rfl ?_
  refine e_gd fun g1 => ?_
  refine e_gd fun g2 => ?_
  refine e_cmne 122 113 em_32 rfl rfl (ce_at ce_32 57 rfl) g1 g2 (fun h3 => ?_) (fun h3 => ?_)
  · refine e_pk [0, 3, 4, 5] rfl rfl ?_
    exact ttok_scan_122 w d hd _ _ _ _
  · refine e_mv 115 em_32 (ce_at ce_32 58 rfl) rfl rfl ?_
    refine e_op 116 em_32 (ce_at ce_32 59 rfl) rfl rfl ?_
    refine e_gd fun g4 => ?_
    refine e_cmle 122 119 em_32 rfl rfl (ce_at ce_32 60 rfl) g4 (by decide) (fun h5 => ?_) (fun h5 => ?_)
    · refine e_pk [0, 3, 4, 5] rfl rfl ?_
      exact ttok_scan_122 w d hd _ _ _ _
    · refine e_op 120 em_32 (ce_at ce_32 61 rfl) rfl rfl ?_
      refine e_mv 122 em_32 (ce_at ce_32 62 rfl) rfl rfl ?_
      refine e_pk [0, 3, 4, 5] rfl rfl ?_
      exact ttok_scan_122 w d hd _ _ _ _
theorem ftok_scan_105 (v3 : Int) (v5 : Int) (t0 : Int) (s : iS) : Fm (fun r : (Int × Int × iS) ⊕ (iS) => r.elim (fun l => l.2.2) (fun e => e)) L_tok_scan G_tok_scan s (tok_scan_105 v3 v5 t0 s) := fm_gd (fm_gd (fm_if (fm_gd (fm_if (ftok_scan_122 _ _ _ _) (ftok_scan_122 _ _ _ _))) (ftok_scan_122 _ _ _ _)))
noncomputable def tok_scan_51b (v3 : Int) (v4 : Int) (v5 : Int) (s : iS) : Option ((Int × Int × iS) ⊕ (iS)) := gd (rg v5) (gd (rg v3) (if v3 < v5 then some (.inr s) else if 2001 ≤ v5 then some (.inr s) else gd (rg v4) (if v4 ≤ 2 then some (.inr s) else bd (tok_skipBlanks s) (fun r7 s7 => gd (0 ≤ v5 ∧ v5 < 2001) (lt' (up s7 10 v5.toNat (s7 2 10)) (fun s9 => gd (rg r7) (if r7 = 0 then tok_scan_105 v3 v5 1 s9 else bd (tok_readToken v5 s9) (fun r12 s12 => tok_scan_105 v3 v5 r12 s12))))))))
theorem ttok_scan_51b (w : ev_W) (d : Nat) (hd : 6 ≤ d) (v3 : Int) (v4 : Int) (v5 : Int) (s : iS) : Ew hT w d 32 51 [(0, .ref (tb_nK + 2)), (3, iv v3), (4, iv v4), (5, iv v5)] [] s (tok_scan_51C w d v3) (tok_scan_51b v3 v4 v5 s) := by
  unfold tok_scan_51b
  refine e_mv 53 em_32 (ce_at ce_32 27 rfl) rfl rfl ?_
  refine e_mv 54 em_32 (ce_at ce_32 28 rfl) rfl rfl ?_
  refine e_gd fun g1 => ?_
  refine e_gd fun g2 => ?_
  refine e_cmgt 145 57 em_32 rfl rfl (ce_at ce_32 29 rfl) g1 g2 (fun h3 => ?_) (fun h3 => ?_)
  · refine e_pk [] rfl rfl ?_
    exact e_out (fun r h => h)
  · refine e_mv 59 em_32 (ce_at ce_32 30 rfl) rfl rfl ?_
    refine e_mv 60 em_32 (ce_at ce_32 31 rfl) rfl rfl ?_
    refine e_getr 63 em_32 (ce_at ce_32 32 rfl) tq_2 rfl rfl ?_
    refine e_alen 64 em_32 (ce_at ce_32 33 rfl) tq_9 (by decide) rfl rfl ?_
    refine e_cmge 145 67 em_32 rfl rfl (ce_at ce_32 34 rfl) g1 (by decide) (fun h4 => ?_) (fun h4 => ?_)
    · refine e_pk [] rfl rfl ?_
      exact e_out (fun r h => h)
    · refine e_mv 69 em_32 (ce_at ce_32 35 rfl) rfl rfl ?_
      refine e_op 70 em_32 (ce_at ce_32 36 rfl) rfl rfl ?_
      refine e_gd fun g5 => ?_
      refine e_cmle 145 73 em_32 rfl rfl (ce_at ce_32 37 rfl) g5 (by decide) (fun h6 => ?_) (fun h6 => ?_)
      · refine e_pk [] rfl rfl ?_
        exact e_out (fun r h => h)
      · refine e_mv 74 em_32 (ce_at ce_32 38 rfl) rfl rfl ?_
        refine e_ivi 77 em_32 (ce_at ce_32 39 rfl) (by omega) (iv_v0 (by decide) tq_2 rfl) em_33 (Nat.le_of_ble_eq_true rfl) rfl (ttok_skipBlanks w (d - 1) (by omega) _) (fun r7 s7 => ?_)
        refine e_mv 79 em_32 (ce_at ce_32 40 rfl) rfl rfl ?_
        refine e_mv 80 em_32 (ce_at ce_32 41 rfl) rfl rfl ?_
        refine e_getr 83 em_32 (ce_at ce_32 42 rfl) tq_2 rfl rfl ?_
        refine e_mv 85 em_32 (ce_at ce_32 43 rfl) rfl rfl ?_
        refine e_mv 86 em_32 (ce_at ce_32 44 rfl) rfl rfl ?_
        refine e_get 89 em_32 (ce_at ce_32 45 rfl) tq_2 rfl rfl ?_
        refine e_gd fun g8 => ?_
        refine e_ist 90 em_32 (ce_at ce_32 46 rfl) tq_10 (by decide) g8 rfl (fun s9 => ?_)
        refine e_mv 92 em_32 (ce_at ce_32 47 rfl) rfl rfl ?_
        refine e_gd fun g10 => ?_
        refine e_ifeq 104 95 em_32 rfl rfl (ce_at ce_32 48 rfl) g10 (fun h11 => ?_) (fun h11 => ?_)
        · refine e_op 105 em_32 (ce_at ce_32 53 rfl) rfl rfl ?_
          refine e_pk [0, 3, 5] rfl rfl ?_
          exact ttok_scan_105 w d hd _ _ _ _
        · refine e_mv 96 em_32 (ce_at ce_32 49 rfl) rfl rfl ?_
          refine e_mv 98 em_32 (ce_at ce_32 50 rfl) rfl rfl ?_
          refine e_ivi 101 em_32 (ce_at ce_32 51 rfl) (by omega) (iv_v1 (by decide) tq_2 rfl) em_37 (Nat.le_of_ble_eq_true rfl) rfl (ttok_readToken w (d - 1) (by omega) _ _) (fun r12 s12 => ?_)
          refine e_goto em_32 105 (ce_at ce_32 52 rfl) rfl ?_
          refine e_pk [0, 3, 5] rfl rfl ?_
          exact ttok_scan_105 w d hd _ _ _ _
theorem ftok_scan_51b (v3 : Int) (v4 : Int) (v5 : Int) (s : iS) : Fm (fun r : (Int × Int × iS) ⊕ (iS) => r.elim (fun l => l.2.2) (fun e => e)) L_tok_scan G_tok_scan s (tok_scan_51b v3 v4 v5 s) := fm_gd (fm_gd (fm_if (fm_some md_refl) (fm_if (fm_some md_refl) (fm_gd (fm_if (fm_some md_refl) (fm_bd (fm_sub (ftok_skipBlanks _) (mem_sub_L rfl) (mem_sub_F rfl)) (fun r7 s7 => fm_gd (fm_lt (md_upL (mem_L rfl)) (fun s9 => fm_gd (fm_if (ftok_scan_105 _ _ _ _) (fm_bd (fm_sub (ftok_readToken _ _) (mem_sub_L rfl) (mem_sub_F rfl)) (fun r12 s12 => ftok_scan_105 _ _ _ _))))))))))))
noncomputable def tok_scan_51 (v3 : Int) (v4 : Int) (v5 : Int) (s : iS) : Option (Int × iS) := (lp (L := Int × Int × iS) (E := iS) (fun l => tok_scan_51b v3 (l.1) (l.2.1) (l.2.2)) (v4, v5, s)).bind (fun e => some (0, e))
theorem ttok_scan_51 (w : ev_W) (d : Nat) (hd : 6 ≤ d) (v3 : Int) (v4 : Int) (v5 : Int) (s : iS) : Ew hT w d 32 51 [(0, .ref (tb_nK + 2)), (3, iv v3), (4, iv v4), (5, iv v5)] [] s (Cv hT) (tok_scan_51 v3 v4 v5 s) := by
  unfold tok_scan_51
  refine e_lp (L := Int × Int × iS) (E := iS) (LO := fun l => [(0, .ref (tb_nK + 2)), (3, iv v3), (4, iv (l.1)), (5, iv (l.2.1))]) (LS := fun l => l.2.2) (CE := fun e r => ev w d 32 145 [] [] (hT (e)) r) (fun l => ttok_scan_51b w d hd _ _ _ _) ?_ (v4, v5, s)
  intro e
  show Ew hT w d 32 145 [] [] e (Cv hT) _
  exact e_retv em_32 (ce_at ce_32 75 rfl)
theorem ftok_scan_51 (v3 : Int) (v4 : Int) (v5 : Int) (s : iS) : Fm Prod.snd L_tok_scan G_tok_scan s (tok_scan_51 v3 v4 v5 s) := by
  unfold tok_scan_51
  refine fm_lp (A := Int × Int × iS) (E := iS) (LS := fun l => l.2.2) (LE := fun e => e) ?_ ?_ (v4, v5, s)
  · exact fun l => ftok_scan_51b _ _ _ _
  · exact (fun e => fm_some md_refl)
noncomputable def tok_scan_44 (t0 : Int) (s : iS) : Option (Int × iS) := tok_scan_51 t0 3 0 s
theorem ttok_scan_44 (w : ev_W) (d : Nat) (hd : 6 ≤ d) (t0 : Int) (s : iS) : Ew hT w d 32 44 [(0, .ref (tb_nK + 2))] [iv t0] s (Cv hT) (tok_scan_44 t0 s) := by
  unfold tok_scan_44
  refine e_mv 45 em_32 (ce_at ce_32 22 rfl) rfl rfl ?_
  refine e_op 46 em_32 (ce_at ce_32 23 rfl) rfl rfl ?_
  refine e_mv 48 em_32 (ce_at ce_32 24 rfl) rfl rfl ?_
  refine e_op 49 em_32 (ce_at ce_32 25 rfl) rfl rfl ?_
  refine e_mv 51 em_32 (ce_at ce_32 26 rfl) rfl rfl ?_
  refine e_pk [0, 3, 4, 5] rfl rfl ?_
  exact ttok_scan_51 w d hd _ _ _ _
theorem ftok_scan_44 (t0 : Int) (s : iS) : Fm Prod.snd L_tok_scan G_tok_scan s (tok_scan_44 t0 s) := ftok_scan_51 _ _ _ _
noncomputable def tok_scan (v1 : Int) (v2 : Int) (s : iS) : Option (Int × iS) := bd (mth_min v1 4000 s) (fun r1 s1 => lt' (up s1 2 9 r1) (fun s2 => gd (v2 = 0 ∨ v2 = 1) (lt' (up s2 2 11 v2) (fun s4 => lt' (up s4 2 10 0) (fun s5 => lt' (up s5 2 8 0) (fun s6 => gd (rg (s6 2 11)) (if (s6 2 11) = 0 then tok_scan_44 1000 s6 else tok_scan_44 2000 s6)))))))
theorem ttok_scan (w : ev_W) (d : Nat) (hd : 6 ≤ d) (v1 : Int) (v2 : Int) (s : iS) : Ew hT w d 32 0 [(0, .ref (tb_nK + 2)), (1, iv v1), (2, iv v2)] [] s (Cv hT) (tok_scan v1 v2 s) := by
  unfold tok_scan
  refine e_mv 1 em_32 (ce_at ce_32 0 rfl) rfl rfl ?_
  refine e_mv 2 em_32 (ce_at ce_32 1 rfl) rfl rfl ?_
  refine e_mv 3 em_32 (ce_at ce_32 2 rfl) rfl rfl ?_
  refine e_getr 6 em_32 (ce_at ce_32 3 rfl) tq_2 rfl rfl ?_
  refine e_alen 7 em_32 (ce_at ce_32 4 rfl) tq_1 (by decide) rfl rfl ?_
  refine e_ivi 10 em_32 (ce_at ce_32 5 rfl) (by omega) (iv_s2 rfl) em_21 (Nat.le_of_ble_eq_true rfl) rfl (tmth_min hT w (d - 1) (by omega) _ _ _) (fun r1 s1 => ?_)
  refine e_put 13 em_32 (ce_at ce_32 6 rfl) tq_2 rfl rfl rfl (fun s2 => ?_)
  refine e_mv 14 em_32 (ce_at ce_32 7 rfl) rfl rfl ?_
  refine e_mv 15 em_32 (ce_at ce_32 8 rfl) rfl rfl ?_
  refine e_gd fun g3 => ?_
  refine e_put 18 em_32 (ce_at ce_32 9 rfl) tq_2 rfl (fit_b rfl g3) rfl (fun s4 => ?_)
  refine e_mv 19 em_32 (ce_at ce_32 10 rfl) rfl rfl ?_
  refine e_op 20 em_32 (ce_at ce_32 11 rfl) rfl rfl ?_
  refine e_put 23 em_32 (ce_at ce_32 12 rfl) tq_2 rfl rfl rfl (fun s5 => ?_)
  refine e_mv 24 em_32 (ce_at ce_32 13 rfl) rfl rfl ?_
  refine e_op 25 em_32 (ce_at ce_32 14 rfl) rfl rfl ?_
  refine e_put 28 em_32 (ce_at ce_32 15 rfl) tq_2 rfl rfl rfl (fun s6 => ?_)
  refine e_mv 29 em_32 (ce_at ce_32 16 rfl) rfl rfl ?_
  refine e_get 32 em_32 (ce_at ce_32 17 rfl) tq_2 rfl rfl ?_
  refine e_gd fun g7 => ?_
  refine e_ifeq 41 35 em_32 rfl rfl (ce_at ce_32 18 rfl) g7 (fun h8 => ?_) (fun h8 => ?_)
  · refine e_sip 44 em_32 (ce_at ce_32 21 rfl) (by decide) rfl ?_
    refine e_pk [0] rfl rfl ?_
    exact ttok_scan_44 w d hd _ _
  · refine e_sip 38 em_32 (ce_at ce_32 19 rfl) (by decide) rfl ?_
    refine e_goto em_32 44 (ce_at ce_32 20 rfl) rfl ?_
    refine e_pk [0] rfl rfl ?_
    exact ttok_scan_44 w d hd _ _
theorem ftok_scan (v1 : Int) (v2 : Int) (s : iS) : Fm Prod.snd L_tok_scan G_tok_scan s (tok_scan v1 v2 s) := fm_bd (fm_sub (fmth_min _ _ _) (mem_sub_L rfl) (mem_sub_F rfl)) (fun r1 s1 => fm_lt (md_upF (mem_F rfl)) (fun s2 => fm_gd (fm_lt (md_upF (mem_F rfl)) (fun s4 => fm_lt (md_upF (mem_F rfl)) (fun s5 => fm_lt (md_upF (mem_F rfl)) (fun s6 => fm_gd (fm_if (ftok_scan_44 _ _) (ftok_scan_44 _ _))))))))
/-! tok_rewind -/
def L_tok_rewind : List Nat := []
def G_tok_rewind : List (Nat × Nat) := [(2, 12), (2, 13), (2, 14)]
noncomputable def tok_rewind (s : iS) : Option (Int × iS) := lt' (up s 2 12 0) (fun s1 => lt' (up s1 2 13 0) (fun s2 => lt' (up s2 2 14 (-1)) (fun s3 => some (0, s3))))
theorem ttok_rewind (w : ev_W) (d : Nat) (hd : 0 ≤ d) (s : iS) : Ew hT w d 64 0 [(0, .ref (tb_nK + 2))] [] s (Cv hT) (tok_rewind s) := by
  unfold tok_rewind
  refine e_mv 1 em_64 (ce_at ce_64 0 rfl) rfl rfl ?_
  refine e_op 2 em_64 (ce_at ce_64 1 rfl) rfl rfl ?_
  refine e_put 5 em_64 (ce_at ce_64 2 rfl) tq_2 rfl rfl rfl (fun s1 => ?_)
  refine e_mv 6 em_64 (ce_at ce_64 3 rfl) rfl rfl ?_
  refine e_op 7 em_64 (ce_at ce_64 4 rfl) rfl rfl ?_
  refine e_put 10 em_64 (ce_at ce_64 5 rfl) tq_2 rfl rfl rfl (fun s2 => ?_)
  refine e_mv 11 em_64 (ce_at ce_64 6 rfl) rfl rfl ?_
  refine e_op 12 em_64 (ce_at ce_64 7 rfl) rfl rfl ?_
  refine e_put 15 em_64 (ce_at ce_64 8 rfl) tq_2 rfl rfl rfl (fun s3 => ?_)
  exact e_retv em_64 (ce_at ce_64 9 rfl)
theorem ftok_rewind (s : iS) : Fm Prod.snd L_tok_rewind G_tok_rewind s (tok_rewind s) := fm_lt (md_upF (mem_F rfl)) (fun s1 => fm_lt (md_upF (mem_F rfl)) (fun s2 => fm_lt (md_upF (mem_F rfl)) (fun s3 => fm_some md_refl)))
/-! nam_keep -/
noncomputable def nam_keep (c0 : Nat) (a0 : Nat) (b0 : Nat) (n0 : Nat) (v1 : Int) (s : iS) : Option (Int × iS) := bd (mth_min (s c0 2) v1 s) (fun r1 s1 => bd (mth_max 0 r1 s1) (fun r2 s2 => lt' (up s2 c0 2 r2) (fun s3 => some (0, s3))))
theorem tnam_keep (H : iS → List am_C) (w : ev_W) (d : Nat) (hd : 1 ≤ d) (c0 : Nat) (a0 : Nat) (b0 : Nat) (n0 : Nat) (h_c0 : Ho H c0 2 [some a0, some b0, none]) (h_a0 : Ha H a0 1 n0) (h_b0 : Ha H b0 1 n0) (hl_n0 : n0 < 2147483648) (v1 : Int) (s : iS) : Ew H w d 66 0 [(0, .ref (tb_nK + c0)), (1, iv v1)] [] s (Cv H) (nam_keep c0 a0 b0 n0 v1 s) := by
  unfold nam_keep
  refine e_mv 1 em_66 (ce_at ce_66 0 rfl) rfl rfl ?_
  refine e_op 2 em_66 (ce_at ce_66 1 rfl) rfl rfl ?_
  refine e_mv 3 em_66 (ce_at ce_66 2 rfl) rfl rfl ?_
  refine e_get 6 em_66 (ce_at ce_66 3 rfl) h_c0 rfl rfl ?_
  refine e_mv 7 em_66 (ce_at ce_66 4 rfl) rfl rfl ?_
  refine e_ivi 10 em_66 (ce_at ce_66 5 rfl) (by omega) (iv_s2 rfl) em_21 (Nat.le_of_ble_eq_true rfl) rfl (tmth_min H w (d - 1) (by omega) _ _ _) (fun r1 s1 => ?_)
  refine e_ivi 13 em_66 (ce_at ce_66 6 rfl) (by omega) (iv_s2 rfl) em_45 (Nat.le_of_ble_eq_true rfl) rfl (tmth_max H w (d - 1) (by omega) _ _ _) (fun r2 s2 => ?_)
  refine e_put 16 em_66 (ce_at ce_66 7 rfl) h_c0 rfl rfl rfl (fun s3 => ?_)
  exact e_retv em_66 (ce_at ce_66 8 rfl)
theorem fnam_keep (c0 : Nat) (a0 : Nat) (b0 : Nat) (n0 : Nat) (v1 : Int) (s : iS) : Fm Prod.snd [] [(c0, 2)] s (nam_keep c0 a0 b0 n0 v1 s) := fm_bd (fm_sub (fmth_min _ _ _) (fun _ h => by cases h) (fun _ h => by cases h)) (fun r1 s1 => fm_bd (fm_sub (fmth_max _ _ _) (fun _ h => by cases h) (fun _ h => by cases h)) (fun r2 s2 => fm_lt (md_upF (List.Mem.head _)) (fun s3 => fm_some md_refl)))
/-! scp_beginText -/
def L_scp_beginText : List Nat := [40]
def G_scp_beginText : List (Nat × Nat) := [(23, 11), (23, 12), (24, 2), (27, 2)]
noncomputable def scp_beginText_22 (s : iS) : Option (Int × iS) := lt' (up s 23 11 7) (fun s1 => lt' (up s1 23 12 39) (fun s2 => lt' (up s2 40 3 0) (fun s3 => some (0, s3))))
theorem tscp_beginText_22 (w : ev_W) (d : Nat) (hd : 2 ≤ d) (s : iS) : Ew hT w d 65 22 [(0, .ref (tb_nK + 23))] [] s (Cv hT) (scp_beginText_22 s) := by
  unfold scp_beginText_22
  refine e_mv 23 em_65 (ce_at ce_65 10 rfl) rfl rfl ?_
  refine e_bip 25 em_65 (ce_at ce_65 11 rfl) (by decide) rfl ?_
  refine e_put 28 em_65 (ce_at ce_65 12 rfl) tq_23 rfl rfl rfl (fun s1 => ?_)
  refine e_mv 29 em_65 (ce_at ce_65 13 rfl) rfl rfl ?_
  refine e_bip 31 em_65 (ce_at ce_65 14 rfl) (by decide) rfl ?_
  refine e_put 34 em_65 (ce_at ce_65 15 rfl) tq_23 rfl rfl rfl (fun s2 => ?_)
  refine e_mv 35 em_65 (ce_at ce_65 16 rfl) rfl rfl ?_
  refine e_getr 38 em_65 (ce_at ce_65 17 rfl) tq_23 rfl rfl ?_
  refine e_op 39 em_65 (ce_at ce_65 18 rfl) rfl rfl ?_
  refine e_op 40 em_65 (ce_at ce_65 19 rfl) rfl rfl ?_
  refine e_ist 41 em_65 (ce_at ce_65 20 rfl) tq_40 (by decide) (by decide) rfl (fun s3 => ?_)
  exact e_retv em_65 (ce_at ce_65 21 rfl)
theorem fscp_beginText_22 (s : iS) : Fm Prod.snd L_scp_beginText G_scp_beginText s (scp_beginText_22 s) := fm_lt (md_upF (mem_F rfl)) (fun s1 => fm_lt (md_upF (mem_F rfl)) (fun s2 => fm_lt (md_upL (mem_L rfl)) (fun s3 => fm_some md_refl)))
noncomputable def scp_beginText (v1 : Int) (s : iS) : Option (Int × iS) := gd (rg v1) (if v1 = 0 then bd (nam_keep 24 25 26 20 8 s) (fun _ s3 => bd (nam_keep 27 28 29 100 40 s3) (fun _ s4 => scp_beginText_22 s4)) else scp_beginText_22 s)
theorem tscp_beginText (w : ev_W) (d : Nat) (hd : 2 ≤ d) (v1 : Int) (s : iS) : Ew hT w d 65 0 [(0, .ref (tb_nK + 23)), (1, iv v1)] [] s (Cv hT) (scp_beginText v1 s) := by
  unfold scp_beginText
  refine e_mv 1 em_65 (ce_at ce_65 0 rfl) rfl rfl ?_
  refine e_gd fun g1 => ?_
  refine e_ifne 22 4 em_65 rfl rfl (ce_at ce_65 1 rfl) g1 (fun h2 => ?_) (fun h2 => ?_)
  · refine e_pk [0] rfl rfl ?_
    exact tscp_beginText_22 w d hd _
  · refine e_mv 5 em_65 (ce_at ce_65 2 rfl) rfl rfl ?_
    refine e_getr 8 em_65 (ce_at ce_65 3 rfl) tq_23 rfl rfl ?_
    refine e_bip 10 em_65 (ce_at ce_65 4 rfl) (by decide) rfl ?_
    refine e_ivv 13 em_65 (ce_at ce_65 5 rfl) (by omega) (iv_v1 (by decide) tq_24 rfl) em_66 (Nat.le_of_ble_eq_true rfl) rfl (tnam_keep hT w (d - 1) (by omega) 24 25 26 20 tq_24 tq_25 tq_26 (by decide) _ _) (fun r3 s3 => ?_)
    refine e_mv 14 em_65 (ce_at ce_65 6 rfl) rfl rfl ?_
    refine e_getr 17 em_65 (ce_at ce_65 7 rfl) tq_23 rfl rfl ?_
    refine e_bip 19 em_65 (ce_at ce_65 8 rfl) (by decide) rfl ?_
    refine e_ivv 22 em_65 (ce_at ce_65 9 rfl) (by omega) (iv_v1 (by decide) tq_27 rfl) em_66 (Nat.le_of_ble_eq_true rfl) rfl (tnam_keep hT w (d - 1) (by omega) 27 28 29 100 tq_27 tq_28 tq_29 (by decide) _ _) (fun r4 s4 => ?_)
    refine e_pk [0] rfl rfl ?_
    exact tscp_beginText_22 w d hd _
theorem fscp_beginText (v1 : Int) (s : iS) : Fm Prod.snd L_scp_beginText G_scp_beginText s (scp_beginText v1 s) := fm_gd (fm_if (fm_bd (fm_sub (fnam_keep 24 25 26 20 _ _) (mem_sub_L rfl) (mem_sub_F rfl)) (fun r3 s3 => fm_bd (fm_sub (fnam_keep 27 28 29 100 _ _) (mem_sub_L rfl) (mem_sub_F rfl)) (fun r4 s4 => fscp_beginText_22 _))) (fscp_beginText_22 _))
/-! tok_placeOf -/
def L_tok_placeOf : List Nat := []
def G_tok_placeOf : List (Nat × Nat) := []
noncomputable def tok_placeOf (v1 : Int) (s : iS) : Option (Int × iS) := gd (rg v1) (if v1 < 0 then some ((-1), s) else gd (rg (s 2 8)) (if (s 2 8) ≤ v1 then some ((-1), s) else gd (0 ≤ v1 ∧ v1 < 2001) (some ((s 10 v1.toNat), s))))
theorem ttok_placeOf (w : ev_W) (d : Nat) (hd : 0 ≤ d) (v1 : Int) (s : iS) : Ew hT w d 67 0 [(0, .ref (tb_nK + 2)), (1, iv v1)] [] s (Ci hT) (tok_placeOf v1 s) := by
  unfold tok_placeOf
  refine e_mv 1 em_67 (ce_at ce_67 0 rfl) rfl rfl ?_
  refine e_gd fun g1 => ?_
  refine e_iflt 21 4 em_67 rfl rfl (ce_at ce_67 1 rfl) g1 (fun h2 => ?_) (fun h2 => ?_)
  · refine e_op 22 em_67 (ce_at ce_67 11 rfl) rfl rfl ?_
    exact e_reti em_67 (ce_at ce_67 12 rfl)
  · refine e_mv 5 em_67 (ce_at ce_67 2 rfl) rfl rfl ?_
    refine e_mv 6 em_67 (ce_at ce_67 3 rfl) rfl rfl ?_
    refine e_get 9 em_67 (ce_at ce_67 4 rfl) tq_2 rfl rfl ?_
    refine e_gd fun g3 => ?_
    refine e_cmge 21 12 em_67 rfl rfl (ce_at ce_67 5 rfl) g1 g3 (fun h4 => ?_) (fun h4 => ?_)
    · refine e_op 22 em_67 (ce_at ce_67 11 rfl) rfl rfl ?_
      exact e_reti em_67 (ce_at ce_67 12 rfl)
    · refine e_mv 13 em_67 (ce_at ce_67 6 rfl) rfl rfl ?_
      refine e_getr 16 em_67 (ce_at ce_67 7 rfl) tq_2 rfl rfl ?_
      refine e_mv 17 em_67 (ce_at ce_67 8 rfl) rfl rfl ?_
      refine e_gd fun g5 => ?_
      refine e_ild 18 em_67 (ce_at ce_67 9 rfl) tq_10 (by decide) g5 rfl ?_
      refine e_goto em_67 22 (ce_at ce_67 10 rfl) rfl ?_
      exact e_reti em_67 (ce_at ce_67 12 rfl)
theorem ftok_placeOf (v1 : Int) (s : iS) : Fm Prod.snd L_tok_placeOf G_tok_placeOf s (tok_placeOf v1 s) := fm_gd (fm_if (fm_some md_refl) (fm_gd (fm_if (fm_some md_refl) (fm_gd (fm_some md_refl)))))
/-! prg_begin -/
def L_prg_begin : List Nat := []
def G_prg_begin : List (Nat × Nat) := [(14, 7), (14, 8), (14, 10), (14, 11), (14, 12)]
noncomputable def prg_begin (v1 : Int) (v2 : Int) (s : iS) : Option (Int × iS) := gd (v1 = 0 ∨ v1 = 1) (lt' (up s 14 7 v1) (fun s2 => lt' (up s2 14 8 0) (fun s3 => lt' (up s3 14 10 0) (fun s4 => lt' (up s4 14 11 v2) (fun s5 => lt' (up s5 14 12 (-1)) (fun s6 => some (0, s6)))))))
theorem tprg_begin (w : ev_W) (d : Nat) (hd : 0 ≤ d) (v1 : Int) (v2 : Int) (s : iS) : Ew hT w d 68 0 [(0, .ref (tb_nK + 14)), (1, iv v1), (2, iv v2)] [] s (Cv hT) (prg_begin v1 v2 s) := by
  unfold prg_begin
  refine e_mv 1 em_68 (ce_at ce_68 0 rfl) rfl rfl ?_
  refine e_mv 2 em_68 (ce_at ce_68 1 rfl) rfl rfl ?_
  refine e_gd fun g1 => ?_
  refine e_put 5 em_68 (ce_at ce_68 2 rfl) tq_14 rfl (fit_b rfl g1) rfl (fun s2 => ?_)
  refine e_mv 6 em_68 (ce_at ce_68 3 rfl) rfl rfl ?_
  refine e_op 7 em_68 (ce_at ce_68 4 rfl) rfl rfl ?_
  refine e_put 10 em_68 (ce_at ce_68 5 rfl) tq_14 rfl rfl rfl (fun s3 => ?_)
  refine e_mv 11 em_68 (ce_at ce_68 6 rfl) rfl rfl ?_
  refine e_op 12 em_68 (ce_at ce_68 7 rfl) rfl rfl ?_
  refine e_put 15 em_68 (ce_at ce_68 8 rfl) tq_14 rfl rfl rfl (fun s4 => ?_)
  refine e_mv 16 em_68 (ce_at ce_68 9 rfl) rfl rfl ?_
  refine e_mv 17 em_68 (ce_at ce_68 10 rfl) rfl rfl ?_
  refine e_put 20 em_68 (ce_at ce_68 11 rfl) tq_14 rfl rfl rfl (fun s5 => ?_)
  refine e_mv 21 em_68 (ce_at ce_68 12 rfl) rfl rfl ?_
  refine e_op 22 em_68 (ce_at ce_68 13 rfl) rfl rfl ?_
  refine e_put 25 em_68 (ce_at ce_68 14 rfl) tq_14 rfl rfl rfl (fun s6 => ?_)
  exact e_retv em_68 (ce_at ce_68 15 rfl)
theorem fprg_begin (v1 : Int) (v2 : Int) (s : iS) : Fm Prod.snd L_prg_begin G_prg_begin s (prg_begin v1 v2 s) := fm_gd (fm_lt (md_upF (mem_F rfl)) (fun s2 => fm_lt (md_upF (mem_F rfl)) (fun s3 => fm_lt (md_upF (mem_F rfl)) (fun s4 => fm_lt (md_upF (mem_F rfl)) (fun s5 => fm_lt (md_upF (mem_F rfl)) (fun s6 => fm_some md_refl))))))
/-! tok_kind -/
def L_tok_kind : List Nat := []
def G_tok_kind : List (Nat × Nat) := []
noncomputable def tok_kind (s : iS) : Option (Int × iS) := gd (rg (s 2 12)) (if (s 2 12) < 0 then some ((-1), s) else gd (rg (s 2 8)) (if (s 2 8) ≤ (s 2 12) then some ((-1), s) else gd (0 ≤ (s 2 12) ∧ (s 2 12) < 2001) (some ((s 9 (s 2 12).toNat), s))))
theorem ttok_kind (w : ev_W) (d : Nat) (hd : 0 ≤ d) (s : iS) : Ew hT w d 69 0 [(0, .ref (tb_nK + 2))] [] s (Ci hT) (tok_kind s) := by
  unfold tok_kind
  refine e_mv 1 em_69 (ce_at ce_69 0 rfl) rfl rfl ?_
  refine e_get 4 em_69 (ce_at ce_69 1 rfl) tq_2 rfl rfl ?_
  refine e_gd fun g1 => ?_
  refine e_iflt 30 7 em_69 rfl rfl (ce_at ce_69 2 rfl) g1 (fun h2 => ?_) (fun h2 => ?_)
  · refine e_op 31 em_69 (ce_at ce_69 14 rfl) rfl rfl ?_
    exact e_reti em_69 (ce_at ce_69 15 rfl)
  · refine e_mv 8 em_69 (ce_at ce_69 3 rfl) rfl rfl ?_
    refine e_get 11 em_69 (ce_at ce_69 4 rfl) tq_2 rfl rfl ?_
    refine e_mv 12 em_69 (ce_at ce_69 5 rfl) rfl rfl ?_
    refine e_get 15 em_69 (ce_at ce_69 6 rfl) tq_2 rfl rfl ?_
    refine e_gd fun g3 => ?_
    refine e_cmge 30 18 em_69 rfl rfl (ce_at ce_69 7 rfl) g1 g3 (fun h4 => ?_) (fun h4 => ?_)
    · refine e_op 31 em_69 (ce_at ce_69 14 rfl) rfl rfl ?_
      exact e_reti em_69 (ce_at ce_69 15 rfl)
    · refine e_mv 19 em_69 (ce_at ce_69 8 rfl) rfl rfl ?_
      refine e_getr 22 em_69 (ce_at ce_69 9 rfl) tq_2 rfl rfl ?_
      refine e_mv 23 em_69 (ce_at ce_69 10 rfl) rfl rfl ?_
      refine e_get 26 em_69 (ce_at ce_69 11 rfl) tq_2 rfl rfl ?_
      refine e_gd fun g5 => ?_
      refine e_ild 27 em_69 (ce_at ce_69 12 rfl) tq_9 (by decide) g5 rfl ?_
      refine e_goto em_69 31 (ce_at ce_69 13 rfl) rfl ?_
      exact e_reti em_69 (ce_at ce_69 15 rfl)
theorem ftok_kind (s : iS) : Fm Prod.snd L_tok_kind G_tok_kind s (tok_kind s) := fm_gd (fm_if (fm_some md_refl) (fm_gd (fm_if (fm_some md_refl) (fm_gd (fm_some md_refl)))))
/-! scp_beginClass -/
def L_scp_beginClass : List Nat := [40]
def G_scp_beginClass : List (Nat × Nat) := [(23, 11), (23, 14), (23, 15), (33, 2)]
noncomputable def scp_beginClass (s : iS) : Option (Int × iS) := lt' (up s 23 11 ((s 23 11) + 1)) (fun s1 => lt' (up s1 40 4 0) (fun s2 => lt' (up s2 23 14 (s2 40 3)) (fun s3 => lt' (up s3 23 15 0) (fun s4 => bd (nam_keep 33 34 35 48 0 s4) (fun _ s5 => some (0, s5))))))
theorem tscp_beginClass (w : ev_W) (d : Nat) (hd : 2 ≤ d) (s : iS) : Ew hT w d 72 0 [(0, .ref (tb_nK + 23))] [] s (Cv hT) (scp_beginClass s) := by
  unfold scp_beginClass
  refine e_mv 1 em_72 (ce_at ce_72 0 rfl) rfl rfl ?_
  refine e_op 2 em_72 (ce_at ce_72 1 rfl) rfl rfl ?_
  refine e_get 5 em_72 (ce_at ce_72 2 rfl) tq_23 rfl rfl ?_
  refine e_op 6 em_72 (ce_at ce_72 3 rfl) rfl rfl ?_
  refine e_iadd 7 em_72 rfl (ce_at ce_72 4 rfl) ?_
  refine e_put 10 em_72 (ce_at ce_72 5 rfl) tq_23 rfl rfl rfl (fun s1 => ?_)
  refine e_mv 11 em_72 (ce_at ce_72 6 rfl) rfl rfl ?_
  refine e_getr 14 em_72 (ce_at ce_72 7 rfl) tq_23 rfl rfl ?_
  refine e_op 15 em_72 (ce_at ce_72 8 rfl) rfl rfl ?_
  refine e_op 16 em_72 (ce_at ce_72 9 rfl) rfl rfl ?_
  refine e_ist 17 em_72 (ce_at ce_72 10 rfl) tq_40 (by decide) (by decide) rfl (fun s2 => ?_)
  refine e_mv 18 em_72 (ce_at ce_72 11 rfl) rfl rfl ?_
  refine e_mv 19 em_72 (ce_at ce_72 12 rfl) rfl rfl ?_
  refine e_getr 22 em_72 (ce_at ce_72 13 rfl) tq_23 rfl rfl ?_
  refine e_op 23 em_72 (ce_at ce_72 14 rfl) rfl rfl ?_
  refine e_ild 24 em_72 (ce_at ce_72 15 rfl) tq_40 (by decide) (by decide) rfl ?_
  refine e_put 27 em_72 (ce_at ce_72 16 rfl) tq_23 rfl rfl rfl (fun s3 => ?_)
  refine e_mv 28 em_72 (ce_at ce_72 17 rfl) rfl rfl ?_
  refine e_op 29 em_72 (ce_at ce_72 18 rfl) rfl rfl ?_
  refine e_put 32 em_72 (ce_at ce_72 19 rfl) tq_23 rfl rfl rfl (fun s4 => ?_)
  refine e_mv 33 em_72 (ce_at ce_72 20 rfl) rfl rfl ?_
  refine e_getr 36 em_72 (ce_at ce_72 21 rfl) tq_23 rfl rfl ?_
  refine e_op 37 em_72 (ce_at ce_72 22 rfl) rfl rfl ?_
  refine e_ivv 40 em_72 (ce_at ce_72 23 rfl) (by omega) (iv_v1 (by decide) tq_33 rfl) em_66 (Nat.le_of_ble_eq_true rfl) rfl (tnam_keep hT w (d - 1) (by omega) 33 34 35 48 tq_33 tq_34 tq_35 (by decide) _ _) (fun r5 s5 => ?_)
  exact e_retv em_72 (ce_at ce_72 24 rfl)
theorem fscp_beginClass (s : iS) : Fm Prod.snd L_scp_beginClass G_scp_beginClass s (scp_beginClass s) := fm_lt (md_upF (mem_F rfl)) (fun s1 => fm_lt (md_upL (mem_L rfl)) (fun s2 => fm_lt (md_upF (mem_F rfl)) (fun s3 => fm_lt (md_upF (mem_F rfl)) (fun s4 => fm_bd (fm_sub (fnam_keep 33 34 35 48 _ _) (mem_sub_L rfl) (mem_sub_F rfl)) (fun r5 s5 => fm_some md_refl)))))
/-! tok_findIn -/
def tok_findIn_32C (w : ev_W) (d : Nat) (c1 : Nat) (a1 : Nat) (b1 : Nat) (n1 : Nat) (v2 : Int) (v5 : Int) : (Int × iS) ⊕ ((Int × iS) ⊕ (iS)) → am_E → Prop := fun q r => q.elim (fun l => ev w d 76 32 ((fun l => [(0, .ref (tb_nK + 2)), (1, .ref (tb_nK + c1)), (2, iv v2), (5, iv v5), (6, iv (l.1))]) l) [] (hT ((fun l => l.2) l)) r) (fun e => (fun e r => e.elim (fun e => ev w d 76 73 [(6, iv (e.1))] [] (hT (e.2)) r) (fun e => ev w d 76 82 [] [] (hT (e)) r)) e r)
noncomputable def tok_findIn_32b (c1 : Nat) (a1 : Nat) (b1 : Nat) (n1 : Nat) (v2 : Int) (v5 : Int) (v6 : Int) (s : iS) : Option ((Int × iS) ⊕ ((Int × iS) ⊕ (iS))) := gd (rg v6) (gd (rg v5) (if v5 ≤ v6 then some (.inr (.inr s)) else gd (0 ≤ v6 ∧ v6 < (n1 : Int)) (gd (0 ≤ v2 ∧ v2 < 2001) (gd (rg (l_cmp (s a1 v6.toNat) (s 12 v2.toNat))) (if (l_cmp (s a1 v6.toNat) (s 12 v2.toNat)) = 0 then gd (rg (l_cmp (s b1 v6.toNat) (s 13 v2.toNat))) (if (l_cmp (s b1 v6.toNat) (s 13 v2.toNat)) = 0 then some (.inr (.inl (v6, s))) else some (.inl ((v6 + 1), s))) else some (.inl ((v6 + 1), s)))))))
theorem ttok_findIn_32b (w : ev_W) (d : Nat) (hd : 1 ≤ d) (c1 : Nat) (a1 : Nat) (b1 : Nat) (n1 : Nat) (h_c1 : Ho hT c1 2 [some a1, some b1, none]) (h_a1 : Ha hT a1 1 n1) (h_b1 : Ha hT b1 1 n1) (hl_n1 : n1 < 2147483648) (v2 : Int) (v5 : Int) (v6 : Int) (s : iS) : Ew hT w d 76 32 [(0, .ref (tb_nK + 2)), (1, .ref (tb_nK + c1)), (2, iv v2), (5, iv v5), (6, iv v6)] [] s (tok_findIn_32C w d c1 a1 b1 n1 v2 v5) (tok_findIn_32b c1 a1 b1 n1 v2 v5 v6 s) := by
  unfold tok_findIn_32b
  refine e_mv 34 em_76 (ce_at ce_76 17 rfl) rfl rfl ?_
  refine e_mv 36 em_76 (ce_at ce_76 18 rfl) rfl rfl ?_
  refine e_gd fun g1 => ?_
  refine e_gd fun g2 => ?_
  refine e_cmge 82 39 em_76 rfl rfl (ce_at ce_76 19 rfl) g1 g2 (fun h3 => ?_) (fun h3 => ?_)
  · refine e_pk [] rfl rfl ?_
    exact e_out (fun r h => h)
  · refine e_mv 40 em_76 (ce_at ce_76 20 rfl) rfl rfl ?_
    refine e_getr 43 em_76 (ce_at ce_76 21 rfl) h_c1 rfl rfl ?_
    refine e_mv 45 em_76 (ce_at ce_76 22 rfl) rfl rfl ?_
    refine e_gd fun g4 => ?_
    refine e_lld 46 em_76 (ce_at ce_76 23 rfl) h_a1 hl_n1 g4 rfl ?_
    refine e_mv 47 em_76 (ce_at ce_76 24 rfl) rfl rfl ?_
    refine e_getr 50 em_76 (ce_at ce_76 25 rfl) tq_2 rfl rfl ?_
    refine e_mv 51 em_76 (ce_at ce_76 26 rfl) rfl rfl ?_
    refine e_gd fun g5 => ?_
    refine e_lld 52 em_76 (ce_at ce_76 27 rfl) tq_12 (by decide) g5 rfl ?_
    refine e_lcmp 53 em_76 rfl (ce_at ce_76 28 rfl) ?_
    refine e_gd fun g6 => ?_
    refine e_ifne 76 56 em_76 rfl rfl (ce_at ce_76 29 rfl) g6 (fun h7 => ?_) (fun h7 => ?_)
    · refine e_iinc 79 em_76 (ce_at ce_76 42 rfl) rfl (by decide) rfl ?_
      refine e_goto em_76 32 (ce_at ce_76 43 rfl) rfl ?_
      refine e_pk [0, 1, 2, 5, 6] rfl rfl ?_
      exact e_out (fun r h => h)
    · refine e_mv 57 em_76 (ce_at ce_76 30 rfl) rfl rfl ?_
      refine e_getr 60 em_76 (ce_at ce_76 31 rfl) h_c1 rfl rfl ?_
      refine e_mv 62 em_76 (ce_at ce_76 32 rfl) rfl rfl ?_
      refine e_lld 63 em_76 (ce_at ce_76 33 rfl) h_b1 hl_n1 g4 rfl ?_
      refine e_mv 64 em_76 (ce_at ce_76 34 rfl) rfl rfl ?_
      refine e_getr 67 em_76 (ce_at ce_76 35 rfl) tq_2 rfl rfl ?_
      refine e_mv 68 em_76 (ce_at ce_76 36 rfl) rfl rfl ?_
      refine e_lld 69 em_76 (ce_at ce_76 37 rfl) tq_13 (by decide) g5 rfl ?_
      refine e_lcmp 70 em_76 rfl (ce_at ce_76 38 rfl) ?_
      refine e_gd fun g8 => ?_
      refine e_ifne 76 73 em_76 rfl rfl (ce_at ce_76 39 rfl) g8 (fun h9 => ?_) (fun h9 => ?_)
      · refine e_iinc 79 em_76 (ce_at ce_76 42 rfl) rfl (by decide) rfl ?_
        refine e_goto em_76 32 (ce_at ce_76 43 rfl) rfl ?_
        refine e_pk [0, 1, 2, 5, 6] rfl rfl ?_
        exact e_out (fun r h => h)
      · refine e_pk [6] rfl rfl ?_
        exact e_out (fun r h => h)
theorem ftok_findIn_32b (c1 : Nat) (a1 : Nat) (b1 : Nat) (n1 : Nat) (v2 : Int) (v5 : Int) (v6 : Int) (s : iS) : Fm (fun r : (Int × iS) ⊕ ((Int × iS) ⊕ (iS)) => r.elim (fun l => l.2) (fun e => e.elim (fun e => e.2) (fun e => e))) [] [] s (tok_findIn_32b c1 a1 b1 n1 v2 v5 v6 s) := fm_gd (fm_gd (fm_if (fm_some md_refl) (fm_gd (fm_gd (fm_gd (fm_if (fm_gd (fm_if (fm_some md_refl) (fm_some md_refl))) (fm_some md_refl)))))))
noncomputable def tok_findIn_32 (c1 : Nat) (a1 : Nat) (b1 : Nat) (n1 : Nat) (v2 : Int) (v5 : Int) (v6 : Int) (s : iS) : Option (Int × iS) := (lp (L := Int × iS) (E := (Int × iS) ⊕ (iS)) (fun l => tok_findIn_32b c1 a1 b1 n1 v2 v5 (l.1) (l.2)) (v6, s)).bind (fun e => e.elim (fun e => some (e.1, e.2)) (fun e => some ((-1), e)))
theorem ttok_findIn_32 (w : ev_W) (d : Nat) (hd : 1 ≤ d) (c1 : Nat) (a1 : Nat) (b1 : Nat) (n1 : Nat) (h_c1 : Ho hT c1 2 [some a1, some b1, none]) (h_a1 : Ha hT a1 1 n1) (h_b1 : Ha hT b1 1 n1) (hl_n1 : n1 < 2147483648) (v2 : Int) (v5 : Int) (v6 : Int) (s : iS) : Ew hT w d 76 32 [(0, .ref (tb_nK + 2)), (1, .ref (tb_nK + c1)), (2, iv v2), (5, iv v5), (6, iv v6)] [] s (Ci hT) (tok_findIn_32 c1 a1 b1 n1 v2 v5 v6 s) := by
  unfold tok_findIn_32
  refine e_lp (L := Int × iS) (E := (Int × iS) ⊕ (iS)) (LO := fun l => [(0, .ref (tb_nK + 2)), (1, .ref (tb_nK + c1)), (2, iv v2), (5, iv v5), (6, iv (l.1))]) (LS := fun l => l.2) (CE := fun e r => e.elim (fun e => ev w d 76 73 [(6, iv (e.1))] [] (hT (e.2)) r) (fun e => ev w d 76 82 [] [] (hT (e)) r)) (fun l => ttok_findIn_32b w d hd c1 a1 b1 n1 h_c1 h_a1 h_b1 hl_n1 _ _ _ _) ?_ (v6, s)
  rintro (e | e)
  · show Ew hT w d 76 73 [(6, iv (e.1))] [] e.2 (Ci hT) _
    refine e_mv 75 em_76 (ce_at ce_76 40 rfl) rfl rfl ?_
    exact e_reti em_76 (ce_at ce_76 41 rfl)
  · show Ew hT w d 76 82 [] [] e (Ci hT) _
    refine e_op 83 em_76 (ce_at ce_76 44 rfl) rfl rfl ?_
    exact e_reti em_76 (ce_at ce_76 45 rfl)
theorem ftok_findIn_32 (c1 : Nat) (a1 : Nat) (b1 : Nat) (n1 : Nat) (v2 : Int) (v5 : Int) (v6 : Int) (s : iS) : Fm Prod.snd [] [] s (tok_findIn_32 c1 a1 b1 n1 v2 v5 v6 s) := by
  unfold tok_findIn_32
  refine fm_lp (A := Int × iS) (E := (Int × iS) ⊕ (iS)) (LS := fun l => l.2) (LE := fun e => e.elim (fun e => e.2) (fun e => e)) ?_ ?_ (v6, s)
  · exact fun l => ftok_findIn_32b c1 a1 b1 n1 _ _ _ _
  · exact (by rintro (e | e); exact fm_some md_refl; exact fm_some md_refl)
noncomputable def tok_findIn (c1 : Nat) (a1 : Nat) (b1 : Nat) (n1 : Nat) (v2 : Int) (v3 : Int) (v4 : Int) (s : iS) : Option (Int × iS) := gd (rg v2) (if v2 < 0 then some ((-1), s) else gd (rg (s 2 8)) (if v2 < (s 2 8) then bd (mth_min v4 (s c1 2) s) (fun r5 s5 => bd (mth_max 0 v3 s5) (fun r6 s6 => tok_findIn_32 c1 a1 b1 n1 v2 r5 r6 s6)) else some ((-1), s)))
theorem ttok_findIn (w : ev_W) (d : Nat) (hd : 1 ≤ d) (c1 : Nat) (a1 : Nat) (b1 : Nat) (n1 : Nat) (h_c1 : Ho hT c1 2 [some a1, some b1, none]) (h_a1 : Ha hT a1 1 n1) (h_b1 : Ha hT b1 1 n1) (hl_n1 : n1 < 2147483648) (v2 : Int) (v3 : Int) (v4 : Int) (s : iS) : Ew hT w d 76 0 [(0, .ref (tb_nK + 2)), (1, .ref (tb_nK + c1)), (2, iv v2), (3, iv v3), (4, iv v4)] [] s (Ci hT) (tok_findIn c1 a1 b1 n1 v2 v3 v4 s) := by
  unfold tok_findIn
  refine e_mv 1 em_76 (ce_at ce_76 0 rfl) rfl rfl ?_
  refine e_gd fun g1 => ?_
  refine e_iflt 12 4 em_76 rfl rfl (ce_at ce_76 1 rfl) g1 (fun h2 => ?_) (fun h2 => ?_)
  · refine e_op 13 em_76 (ce_at ce_76 6 rfl) rfl rfl ?_
    exact e_reti em_76 (ce_at ce_76 7 rfl)
  · refine e_mv 5 em_76 (ce_at ce_76 2 rfl) rfl rfl ?_
    refine e_mv 6 em_76 (ce_at ce_76 3 rfl) rfl rfl ?_
    refine e_get 9 em_76 (ce_at ce_76 4 rfl) tq_2 rfl rfl ?_
    refine e_gd fun g3 => ?_
    refine e_cmlt 14 12 em_76 rfl rfl (ce_at ce_76 5 rfl) g1 g3 (fun h4 => ?_) (fun h4 => ?_)
    · refine e_mv 16 em_76 (ce_at ce_76 8 rfl) rfl rfl ?_
      refine e_mv 17 em_76 (ce_at ce_76 9 rfl) rfl rfl ?_
      refine e_get 20 em_76 (ce_at ce_76 10 rfl) h_c1 rfl rfl ?_
      refine e_ivi 23 em_76 (ce_at ce_76 11 rfl) (by omega) (iv_s2 rfl) em_21 (Nat.le_of_ble_eq_true rfl) rfl (tmth_min hT w (d - 1) (by omega) _ _ _) (fun r5 s5 => ?_)
      refine e_mv 25 em_76 (ce_at ce_76 12 rfl) rfl rfl ?_
      refine e_op 26 em_76 (ce_at ce_76 13 rfl) rfl rfl ?_
      refine e_mv 27 em_76 (ce_at ce_76 14 rfl) rfl rfl ?_
      refine e_ivi 30 em_76 (ce_at ce_76 15 rfl) (by omega) (iv_s2 rfl) em_45 (Nat.le_of_ble_eq_true rfl) rfl (tmth_max hT w (d - 1) (by omega) _ _ _) (fun r6 s6 => ?_)
      refine e_mv 32 em_76 (ce_at ce_76 16 rfl) rfl rfl ?_
      refine e_pk [0, 1, 2, 5, 6] rfl rfl ?_
      exact ttok_findIn_32 w d hd c1 a1 b1 n1 h_c1 h_a1 h_b1 hl_n1 _ _ _ _
    · refine e_op 13 em_76 (ce_at ce_76 6 rfl) rfl rfl ?_
      exact e_reti em_76 (ce_at ce_76 7 rfl)
theorem ftok_findIn (c1 : Nat) (a1 : Nat) (b1 : Nat) (n1 : Nat) (v2 : Int) (v3 : Int) (v4 : Int) (s : iS) : Fm Prod.snd [] [] s (tok_findIn c1 a1 b1 n1 v2 v3 v4 s) := fm_gd (fm_if (fm_some md_refl) (fm_gd (fm_if (fm_bd (fm_sub (fmth_min _ _ _) (fun _ h => by cases h) (fun _ h => by cases h)) (fun r5 s5 => fm_bd (fm_sub (fmth_max _ _ _) (fun _ h => by cases h) (fun _ h => by cases h)) (fun r6 s6 => ftok_findIn_32 c1 a1 b1 n1 _ _ _ _))) (fm_some md_refl))))
/-! trl_findClass -/
def L_trl_findClass : List Nat := []
def G_trl_findClass : List (Nat × Nat) := []
noncomputable def trl_findClass (v1 : Int) (s : iS) : Option (Int × iS) := bd (tok_findIn 24 25 26 20 v1 0 20 s) (fun r1 s1 => some (r1, s1))
theorem ttrl_findClass (w : ev_W) (d : Nat) (hd : 2 ≤ d) (v1 : Int) (s : iS) : Ew hT w d 75 0 [(0, .ref (tb_nK + 22)), (1, iv v1)] [] s (Ci hT) (trl_findClass v1 s) := by
  unfold trl_findClass
  refine e_mv 1 em_75 (ce_at ce_75 0 rfl) rfl rfl ?_
  refine e_getr 4 em_75 (ce_at ce_75 1 rfl) tq_22 rfl rfl ?_
  refine e_mv 5 em_75 (ce_at ce_75 2 rfl) rfl rfl ?_
  refine e_getr 8 em_75 (ce_at ce_75 3 rfl) tq_22 rfl rfl ?_
  refine e_getr 11 em_75 (ce_at ce_75 4 rfl) tq_23 rfl rfl ?_
  refine e_mv 12 em_75 (ce_at ce_75 5 rfl) rfl rfl ?_
  refine e_op 13 em_75 (ce_at ce_75 6 rfl) rfl rfl ?_
  refine e_bip 15 em_75 (ce_at ce_75 7 rfl) (by decide) rfl ?_
  refine e_ivi 18 em_75 (ce_at ce_75 8 rfl) (by omega) (iv_v4 (by decide) tq_2 rfl) em_76 (Nat.le_of_ble_eq_true rfl) rfl (ttok_findIn w (d - 1) (by omega) 24 25 26 20 tq_24 tq_25 tq_26 (by decide) _ _ _ _) (fun r1 s1 => ?_)
  exact e_reti em_75 (ce_at ce_75 9 rfl)
theorem ftrl_findClass (v1 : Int) (s : iS) : Fm Prod.snd L_trl_findClass G_trl_findClass s (trl_findClass v1 s) := fm_bd (fm_sub (ftok_findIn 24 25 26 20 _ _ _ _) (mem_sub_L rfl) (mem_sub_F rfl)) (fun r1 s1 => fm_some md_refl)
/-! tok_blame -/
def L_tok_blame : List Nat := []
def G_tok_blame : List (Nat × Nat) := [(2, 13), (2, 14)]
noncomputable def tok_blame_31 (v1 : Int) (v2 : Int) (s : iS) : Option (Int × iS) := lt' (up s 2 13 v1) (fun s1 => lt' (up s1 2 14 v2) (fun s2 => some (0, s2)))
theorem ttok_blame_31 (w : ev_W) (d : Nat) (hd : 0 ≤ d) (v1 : Int) (v2 : Int) (s : iS) : Ew hT w d 77 31 [(0, .ref (tb_nK + 2)), (1, iv v1), (2, iv v2)] [] s (Cv hT) (tok_blame_31 v1 v2 s) := by
  unfold tok_blame_31
  refine e_mv 32 em_77 (ce_at ce_77 15 rfl) rfl rfl ?_
  refine e_mv 33 em_77 (ce_at ce_77 16 rfl) rfl rfl ?_
  refine e_put 36 em_77 (ce_at ce_77 17 rfl) tq_2 rfl rfl rfl (fun s1 => ?_)
  refine e_mv 37 em_77 (ce_at ce_77 18 rfl) rfl rfl ?_
  refine e_mv 38 em_77 (ce_at ce_77 19 rfl) rfl rfl ?_
  refine e_put 41 em_77 (ce_at ce_77 20 rfl) tq_2 rfl rfl rfl (fun s2 => ?_)
  exact e_retv em_77 (ce_at ce_77 21 rfl)
theorem ftok_blame_31 (v1 : Int) (v2 : Int) (s : iS) : Fm Prod.snd L_tok_blame G_tok_blame s (tok_blame_31 v1 v2 s) := fm_lt (md_upF (mem_F rfl)) (fun s1 => fm_lt (md_upF (mem_F rfl)) (fun s2 => fm_some md_refl))
noncomputable def tok_blame (v1 : Int) (v2 : Int) (s : iS) : Option (Int × iS) := gd (rg (s 2 13)) (if (s 2 13) = 0 then tok_blame_31 v1 v2 s else gd (rg v2) (gd (rg (s 2 14)) (if v2 < (s 2 14) then tok_blame_31 v1 v2 s else if v2 = (s 2 14) then gd (rg v1) (if (s 2 13) ≤ v1 then some (0, s) else tok_blame_31 v1 v2 s) else some (0, s))))
theorem ttok_blame (w : ev_W) (d : Nat) (hd : 0 ≤ d) (v1 : Int) (v2 : Int) (s : iS) : Ew hT w d 77 0 [(0, .ref (tb_nK + 2)), (1, iv v1), (2, iv v2)] [] s (Cv hT) (tok_blame v1 v2 s) := by
  unfold tok_blame
  refine e_mv 1 em_77 (ce_at ce_77 0 rfl) rfl rfl ?_
  refine e_get 4 em_77 (ce_at ce_77 1 rfl) tq_2 rfl rfl ?_
  refine e_gd fun g1 => ?_
  refine e_ifeq 31 7 em_77 rfl rfl (ce_at ce_77 2 rfl) g1 (fun h2 => ?_) (fun h2 => ?_)
  · refine e_pk [0, 1, 2] rfl rfl ?_
    exact ttok_blame_31 w d hd _ _ _
  · refine e_mv 8 em_77 (ce_at ce_77 3 rfl) rfl rfl ?_
    refine e_mv 9 em_77 (ce_at ce_77 4 rfl) rfl rfl ?_
    refine e_get 12 em_77 (ce_at ce_77 5 rfl) tq_2 rfl rfl ?_
    refine e_gd fun g3 => ?_
    refine e_gd fun g4 => ?_
    refine e_cmlt 31 15 em_77 rfl rfl (ce_at ce_77 6 rfl) g3 g4 (fun h5 => ?_) (fun h5 => ?_)
    · refine e_pk [0, 1, 2] rfl rfl ?_
      exact ttok_blame_31 w d hd _ _ _
    · refine e_mv 16 em_77 (ce_at ce_77 7 rfl) rfl rfl ?_
      refine e_mv 17 em_77 (ce_at ce_77 8 rfl) rfl rfl ?_
      refine e_get 20 em_77 (ce_at ce_77 9 rfl) tq_2 rfl rfl ?_
      refine e_cmne 41 23 em_77 rfl rfl (ce_at ce_77 10 rfl) g3 g4 (fun h6 => ?_) (fun h6 => ?_)
      · exact e_retv em_77 (ce_at ce_77 21 rfl)
      · refine e_mv 24 em_77 (ce_at ce_77 11 rfl) rfl rfl ?_
        refine e_mv 25 em_77 (ce_at ce_77 12 rfl) rfl rfl ?_
        refine e_get 28 em_77 (ce_at ce_77 13 rfl) tq_2 rfl rfl ?_
        refine e_gd fun g7 => ?_
        refine e_cmge 41 31 em_77 rfl rfl (ce_at ce_77 14 rfl) g7 g1 (fun h8 => ?_) (fun h8 => ?_)
        · exact e_retv em_77 (ce_at ce_77 21 rfl)
        · refine e_pk [0, 1, 2] rfl rfl ?_
          exact ttok_blame_31 w d hd _ _ _
theorem ftok_blame (v1 : Int) (v2 : Int) (s : iS) : Fm Prod.snd L_tok_blame G_tok_blame s (tok_blame v1 v2 s) := fm_gd (fm_if (ftok_blame_31 _ _ _) (fm_gd (fm_gd (fm_if (ftok_blame_31 _ _ _) (fm_if (fm_gd (fm_if (fm_some md_refl) (ftok_blame_31 _ _ _))) (fm_some md_refl))))))
/-! nam_add -/
noncomputable def nam_add (c0 : Nat) (a0 : Nat) (b0 : Nat) (n0 : Nat) (v1 : Int) (v3 : Int) (s : iS) : Option (Int × iS) := gd (rg (s c0 2)) (gd (rg (n0 : Int)) (if (n0 : Int) ≤ (s c0 2) then some (0, s) else gd (0 ≤ (s c0 2) ∧ (s c0 2) < (n0 : Int)) (lt' (up s a0 (s c0 2).toNat v1) (fun s5 => gd (0 ≤ (s5 c0 2) ∧ (s5 c0 2) < (n0 : Int)) (lt' (up s5 b0 (s5 c0 2).toNat v3) (fun s7 => lt' (up s7 c0 2 ((s7 c0 2) + 1)) (fun s8 => some (0, s8))))))))
theorem tnam_add (H : iS → List am_C) (w : ev_W) (d : Nat) (hd : 0 ≤ d) (c0 : Nat) (a0 : Nat) (b0 : Nat) (n0 : Nat) (h_c0 : Ho H c0 2 [some a0, some b0, none]) (h_a0 : Ha H a0 1 n0) (h_b0 : Ha H b0 1 n0) (hl_n0 : n0 < 2147483648) (v1 : Int) (v3 : Int) (s : iS) : Ew H w d 16 0 [(0, .ref (tb_nK + c0)), (1, lv v1), (3, lv v3)] [] s (Cv H) (nam_add c0 a0 b0 n0 v1 v3 s) := by
  unfold nam_add
  refine e_mv 1 em_16 (ce_at ce_16 0 rfl) rfl rfl ?_
  refine e_get 4 em_16 (ce_at ce_16 1 rfl) h_c0 rfl rfl ?_
  refine e_mv 5 em_16 (ce_at ce_16 2 rfl) rfl rfl ?_
  refine e_getr 8 em_16 (ce_at ce_16 3 rfl) h_c0 rfl rfl ?_
  refine e_alen 9 em_16 (ce_at ce_16 4 rfl) h_a0 (by decide) rfl rfl ?_
  refine e_gd fun g1 => ?_
  refine e_gd fun g2 => ?_
  refine e_cmge 42 12 em_16 rfl rfl (ce_at ce_16 5 rfl) g1 g2 (fun h3 => ?_) (fun h3 => ?_)
  · exact e_retv em_16 (ce_at ce_16 24 rfl)
  · refine e_mv 13 em_16 (ce_at ce_16 6 rfl) rfl rfl ?_
    refine e_getr 16 em_16 (ce_at ce_16 7 rfl) h_c0 rfl rfl ?_
    refine e_mv 17 em_16 (ce_at ce_16 8 rfl) rfl rfl ?_
    refine e_get 20 em_16 (ce_at ce_16 9 rfl) h_c0 rfl rfl ?_
    refine e_mv 21 em_16 (ce_at ce_16 10 rfl) rfl rfl ?_
    refine e_gd fun g4 => ?_
    refine e_lst 22 em_16 (ce_at ce_16 11 rfl) h_a0 hl_n0 g4 rfl (fun s5 => ?_)
    refine e_mv 23 em_16 (ce_at ce_16 12 rfl) rfl rfl ?_
    refine e_getr 26 em_16 (ce_at ce_16 13 rfl) h_c0 rfl rfl ?_
    refine e_mv 27 em_16 (ce_at ce_16 14 rfl) rfl rfl ?_
    refine e_get 30 em_16 (ce_at ce_16 15 rfl) h_c0 rfl rfl ?_
    refine e_mv 31 em_16 (ce_at ce_16 16 rfl) rfl rfl ?_
    refine e_gd fun g6 => ?_
    refine e_lst 32 em_16 (ce_at ce_16 17 rfl) h_b0 hl_n0 g6 rfl (fun s7 => ?_)
    refine e_mv 33 em_16 (ce_at ce_16 18 rfl) rfl rfl ?_
    refine e_op 34 em_16 (ce_at ce_16 19 rfl) rfl rfl ?_
    refine e_get 37 em_16 (ce_at ce_16 20 rfl) h_c0 rfl rfl ?_
    refine e_op 38 em_16 (ce_at ce_16 21 rfl) rfl rfl ?_
    refine e_iadd 39 em_16 rfl (ce_at ce_16 22 rfl) ?_
    refine e_put 42 em_16 (ce_at ce_16 23 rfl) h_c0 rfl rfl rfl (fun s8 => ?_)
    exact e_retv em_16 (ce_at ce_16 24 rfl)
theorem fnam_add (c0 : Nat) (a0 : Nat) (b0 : Nat) (n0 : Nat) (v1 : Int) (v3 : Int) (s : iS) : Fm Prod.snd [a0, b0] [(c0, 2)] s (nam_add c0 a0 b0 n0 v1 v3 s) := fm_gd (fm_gd (fm_if (fm_some md_refl) (fm_gd (fm_lt (md_upL (List.Mem.head _)) (fun s5 => fm_gd (fm_lt (md_upL (List.Mem.tail _ (List.Mem.head _))) (fun s7 => fm_lt (md_upF (List.Mem.head _)) (fun s8 => fm_some md_refl))))))))
/-! tok_addTo -/
noncomputable def tok_addTo (c1 : Nat) (a1 : Nat) (b1 : Nat) (n1 : Nat) (v2 : Int) (s : iS) : Option (Int × iS) := gd (rg v2) (if v2 < 0 then some (0, s) else gd (rg (s 2 8)) (if (s 2 8) ≤ v2 then some (0, s) else gd (0 ≤ v2 ∧ v2 < 2001) (bd (nam_add c1 a1 b1 n1 (s 12 v2.toNat) (s 13 v2.toNat) s) (fun _ s6 => some (0, s6)))))
theorem ttok_addTo (w : ev_W) (d : Nat) (hd : 1 ≤ d) (c1 : Nat) (a1 : Nat) (b1 : Nat) (n1 : Nat) (h_c1 : Ho hT c1 2 [some a1, some b1, none]) (h_a1 : Ha hT a1 1 n1) (h_b1 : Ha hT b1 1 n1) (hl_n1 : n1 < 2147483648) (v2 : Int) (s : iS) : Ew hT w d 73 0 [(0, .ref (tb_nK + 2)), (1, .ref (tb_nK + c1)), (2, iv v2)] [] s (Cv hT) (tok_addTo c1 a1 b1 n1 v2 s) := by
  unfold tok_addTo
  refine e_mv 1 em_73 (ce_at ce_73 0 rfl) rfl rfl ?_
  refine e_gd fun g1 => ?_
  refine e_iflt 28 4 em_73 rfl rfl (ce_at ce_73 1 rfl) g1 (fun h2 => ?_) (fun h2 => ?_)
  · exact e_retv em_73 (ce_at ce_73 16 rfl)
  · refine e_mv 5 em_73 (ce_at ce_73 2 rfl) rfl rfl ?_
    refine e_mv 6 em_73 (ce_at ce_73 3 rfl) rfl rfl ?_
    refine e_get 9 em_73 (ce_at ce_73 4 rfl) tq_2 rfl rfl ?_
    refine e_gd fun g3 => ?_
    refine e_cmge 28 12 em_73 rfl rfl (ce_at ce_73 5 rfl) g1 g3 (fun h4 => ?_) (fun h4 => ?_)
    · exact e_retv em_73 (ce_at ce_73 16 rfl)
    · refine e_mv 13 em_73 (ce_at ce_73 6 rfl) rfl rfl ?_
      refine e_mv 14 em_73 (ce_at ce_73 7 rfl) rfl rfl ?_
      refine e_getr 17 em_73 (ce_at ce_73 8 rfl) tq_2 rfl rfl ?_
      refine e_mv 18 em_73 (ce_at ce_73 9 rfl) rfl rfl ?_
      refine e_gd fun g5 => ?_
      refine e_lld 19 em_73 (ce_at ce_73 10 rfl) tq_12 (by decide) g5 rfl ?_
      refine e_mv 20 em_73 (ce_at ce_73 11 rfl) rfl rfl ?_
      refine e_getr 23 em_73 (ce_at ce_73 12 rfl) tq_2 rfl rfl ?_
      refine e_mv 24 em_73 (ce_at ce_73 13 rfl) rfl rfl ?_
      refine e_lld 25 em_73 (ce_at ce_73 14 rfl) tq_13 (by decide) g5 rfl ?_
      refine e_ivv 28 em_73 (ce_at ce_73 15 rfl) (by omega) (iv_v2 (by decide) h_c1 rfl) em_16 (Nat.le_of_ble_eq_true rfl) rfl (tnam_add hT w (d - 1) (by omega) c1 a1 b1 n1 h_c1 h_a1 h_b1 hl_n1 _ _ _) (fun r6 s6 => ?_)
      exact e_retv em_73 (ce_at ce_73 16 rfl)
theorem ftok_addTo (c1 : Nat) (a1 : Nat) (b1 : Nat) (n1 : Nat) (v2 : Int) (s : iS) : Fm Prod.snd [a1, b1] [(c1, 2)] s (tok_addTo c1 a1 b1 n1 v2 s) := fm_gd (fm_if (fm_some md_refl) (fm_gd (fm_if (fm_some md_refl) (fm_gd (fm_bd (fnam_add c1 a1 b1 n1 _ _ _) (fun r6 s6 => fm_some md_refl))))))
/-! scp_tellClass -/
def L_scp_tellClass : List Nat := [30]
def G_scp_tellClass : List (Nat × Nat) := []
noncomputable def scp_tellClass (s : iS) : Option (Int × iS) := gd (rg (s 23 11)) (if 20 ≤ (s 23 11) then some (0, s) else gd (0 ≤ (s 23 11) ∧ (s 23 11) < 21) (lt' (up s 30 (s 23 11).toNat (s 27 2)) (fun s4 => gd (0 ≤ ((s4 23 11) + 1) ∧ ((s4 23 11) + 1) < 21) (lt' (up s4 30 ((s4 23 11) + 1).toNat (s4 27 2)) (fun s6 => some (0, s6))))))
theorem tscp_tellClass (w : ev_W) (d : Nat) (hd : 0 ≤ d) (s : iS) : Ew hT w d 74 0 [(0, .ref (tb_nK + 23))] [] s (Cv hT) (scp_tellClass s) := by
  unfold scp_tellClass
  refine e_mv 1 em_74 (ce_at ce_74 0 rfl) rfl rfl ?_
  refine e_get 4 em_74 (ce_at ce_74 1 rfl) tq_23 rfl rfl ?_
  refine e_bip 6 em_74 (ce_at ce_74 2 rfl) (by decide) rfl ?_
  refine e_gd fun g1 => ?_
  refine e_cmge 43 9 em_74 rfl rfl (ce_at ce_74 3 rfl) g1 (by decide) (fun h2 => ?_) (fun h2 => ?_)
  · exact e_retv em_74 (ce_at ce_74 22 rfl)
  · refine e_mv 10 em_74 (ce_at ce_74 4 rfl) rfl rfl ?_
    refine e_getr 13 em_74 (ce_at ce_74 5 rfl) tq_23 rfl rfl ?_
    refine e_mv 14 em_74 (ce_at ce_74 6 rfl) rfl rfl ?_
    refine e_get 17 em_74 (ce_at ce_74 7 rfl) tq_23 rfl rfl ?_
    refine e_mv 18 em_74 (ce_at ce_74 8 rfl) rfl rfl ?_
    refine e_getr 21 em_74 (ce_at ce_74 9 rfl) tq_23 rfl rfl ?_
    refine e_get 24 em_74 (ce_at ce_74 10 rfl) tq_27 rfl rfl ?_
    refine e_gd fun g3 => ?_
    refine e_ist 25 em_74 (ce_at ce_74 11 rfl) tq_30 (by decide) g3 rfl (fun s4 => ?_)
    refine e_mv 26 em_74 (ce_at ce_74 12 rfl) rfl rfl ?_
    refine e_getr 29 em_74 (ce_at ce_74 13 rfl) tq_23 rfl rfl ?_
    refine e_mv 30 em_74 (ce_at ce_74 14 rfl) rfl rfl ?_
    refine e_get 33 em_74 (ce_at ce_74 15 rfl) tq_23 rfl rfl ?_
    refine e_op 34 em_74 (ce_at ce_74 16 rfl) rfl rfl ?_
    refine e_iadd 35 em_74 rfl (ce_at ce_74 17 rfl) ?_
    refine e_mv 36 em_74 (ce_at ce_74 18 rfl) rfl rfl ?_
    refine e_getr 39 em_74 (ce_at ce_74 19 rfl) tq_23 rfl rfl ?_
    refine e_get 42 em_74 (ce_at ce_74 20 rfl) tq_27 rfl rfl ?_
    refine e_gd fun g5 => ?_
    refine e_ist 43 em_74 (ce_at ce_74 21 rfl) tq_30 (by decide) g5 rfl (fun s6 => ?_)
    exact e_retv em_74 (ce_at ce_74 22 rfl)
theorem fscp_tellClass (s : iS) : Fm Prod.snd L_scp_tellClass G_scp_tellClass s (scp_tellClass s) := fm_gd (fm_if (fm_some md_refl) (fm_gd (fm_lt (md_upL (mem_L rfl)) (fun s4 => fm_gd (fm_lt (md_upL (mem_L rfl)) (fun s6 => fm_some md_refl))))))
/-! tok_stop -/
def L_tok_stop : List Nat := []
def G_tok_stop : List (Nat × Nat) := [(2, 12), (2, 13), (2, 14)]
noncomputable def tok_stop_65 (s : iS) : Option (Int × iS) := lt' (up s 2 12 (s 2 8)) (fun s1 => some (0, s1))
theorem ttok_stop_65 (w : ev_W) (d : Nat) (hd : 0 ≤ d) (s : iS) : Ew hT w d 71 65 [(0, .ref (tb_nK + 2))] [] s (Cv hT) (tok_stop_65 s) := by
  unfold tok_stop_65
  refine e_mv 66 em_71 (ce_at ce_71 33 rfl) rfl rfl ?_
  refine e_mv 67 em_71 (ce_at ce_71 34 rfl) rfl rfl ?_
  refine e_get 70 em_71 (ce_at ce_71 35 rfl) tq_2 rfl rfl ?_
  refine e_put 73 em_71 (ce_at ce_71 36 rfl) tq_2 rfl rfl rfl (fun s1 => ?_)
  exact e_retv em_71 (ce_at ce_71 37 rfl)
theorem ftok_stop_65 (s : iS) : Fm Prod.snd L_tok_stop G_tok_stop s (tok_stop_65 s) := fm_lt (md_upF (mem_F rfl)) (fun s1 => fm_some md_refl)
noncomputable def tok_stop_54 (t0 : Int) (s : iS) : Option (Int × iS) := lt' (up s 2 13 t0) (fun s1 => lt' (up s1 2 14 (s1 2 12)) (fun s2 => tok_stop_65 s2))
theorem ttok_stop_54 (w : ev_W) (d : Nat) (hd : 0 ≤ d) (t0 : Int) (s : iS) : Ew hT w d 71 54 [(0, .ref (tb_nK + 2))] [iv t0, .ref (tb_nK + 2)] s (Cv hT) (tok_stop_54 t0 s) := by
  unfold tok_stop_54
  refine e_put 57 em_71 (ce_at ce_71 28 rfl) tq_2 rfl rfl rfl (fun s1 => ?_)
  refine e_mv 58 em_71 (ce_at ce_71 29 rfl) rfl rfl ?_
  refine e_mv 59 em_71 (ce_at ce_71 30 rfl) rfl rfl ?_
  refine e_get 62 em_71 (ce_at ce_71 31 rfl) tq_2 rfl rfl ?_
  refine e_put 65 em_71 (ce_at ce_71 32 rfl) tq_2 rfl rfl rfl (fun s2 => ?_)
  refine e_pk [0] rfl rfl ?_
  exact ttok_stop_65 w d hd _
theorem ftok_stop_54 (t0 : Int) (s : iS) : Fm Prod.snd L_tok_stop G_tok_stop s (tok_stop_54 t0 s) := fm_lt (md_upF (mem_F rfl)) (fun s1 => fm_lt (md_upF (mem_F rfl)) (fun s2 => ftok_stop_65 _))
noncomputable def tok_stop_43 (v1 : Int) (t0 : Int) (s : iS) : Option (Int × iS) := gd (rg t0) (if t0 = 0 then tok_stop_54 v1 s else tok_stop_54 2 s)
theorem ttok_stop_43 (w : ev_W) (d : Nat) (hd : 0 ≤ d) (v1 : Int) (t0 : Int) (s : iS) : Ew hT w d 71 43 [(0, .ref (tb_nK + 2)), (1, iv v1)] [iv t0] s (Cv hT) (tok_stop_43 v1 t0 s) := by
  unfold tok_stop_43
  refine e_mv 44 em_71 (ce_at ce_71 21 rfl) rfl rfl ?_
  refine e_mv 45 em_71 (ce_at ce_71 22 rfl) rfl rfl ?_
  refine e_mv 46 em_71 (ce_at ce_71 23 rfl) rfl rfl ?_
  refine e_gd fun g1 => ?_
  refine e_ifeq 53 49 em_71 rfl rfl (ce_at ce_71 24 rfl) g1 (fun h2 => ?_) (fun h2 => ?_)
  · refine e_mv 54 em_71 (ce_at ce_71 27 rfl) rfl rfl ?_
    refine e_pk [0] rfl rfl ?_
    exact ttok_stop_54 w d hd _ _
  · refine e_op 50 em_71 (ce_at ce_71 25 rfl) rfl rfl ?_
    refine e_goto em_71 54 (ce_at ce_71 26 rfl) rfl ?_
    refine e_pk [0] rfl rfl ?_
    exact ttok_stop_54 w d hd _ _
theorem ftok_stop_43 (v1 : Int) (t0 : Int) (s : iS) : Fm Prod.snd L_tok_stop G_tok_stop s (tok_stop_43 v1 t0 s) := fm_gd (fm_if (ftok_stop_54 _ _) (ftok_stop_54 _ _))
noncomputable def tok_stop_42 (v1 : Int) (s : iS) : Option (Int × iS) := tok_stop_43 v1 0 s
theorem ttok_stop_42 (w : ev_W) (d : Nat) (hd : 0 ≤ d) (v1 : Int) (s : iS) : Ew hT w d 71 42 [(0, .ref (tb_nK + 2)), (1, iv v1)] [] s (Cv hT) (tok_stop_42 v1 s) := by
  unfold tok_stop_42
  refine e_op 43 em_71 (ce_at ce_71 20 rfl) rfl rfl ?_
  refine e_pk [0, 1] rfl rfl ?_
  exact ttok_stop_43 w d hd _ _ _
theorem ftok_stop_42 (v1 : Int) (s : iS) : Fm Prod.snd L_tok_stop G_tok_stop s (tok_stop_42 v1 s) := ftok_stop_43 _ _ _
noncomputable def tok_stop (v1 : Int) (s : iS) : Option (Int × iS) := gd (rg (s 2 13)) (if (s 2 13) = 0 then gd (rg (s 2 12)) (if (s 2 12) < 0 then tok_stop_42 v1 s else gd (rg (s 2 8)) (if (s 2 8) ≤ (s 2 12) then tok_stop_42 v1 s else gd (0 ≤ (s 2 12) ∧ (s 2 12) < 2001) (gd (rg (s 9 (s 2 12).toNat)) (if (s 9 (s 2 12).toNat) = 2 then tok_stop_43 v1 1 s else tok_stop_42 v1 s)))) else tok_stop_65 s)
theorem ttok_stop (w : ev_W) (d : Nat) (hd : 0 ≤ d) (v1 : Int) (s : iS) : Ew hT w d 71 0 [(0, .ref (tb_nK + 2)), (1, iv v1)] [] s (Cv hT) (tok_stop v1 s) := by
  unfold tok_stop
  refine e_mv 1 em_71 (ce_at ce_71 0 rfl) rfl rfl ?_
  refine e_get 4 em_71 (ce_at ce_71 1 rfl) tq_2 rfl rfl ?_
  refine e_gd fun g1 => ?_
  refine e_ifne 65 7 em_71 rfl rfl (ce_at ce_71 2 rfl) g1 (fun h2 => ?_) (fun h2 => ?_)
  · refine e_pk [0] rfl rfl ?_
    exact ttok_stop_65 w d hd _
  · refine e_mv 8 em_71 (ce_at ce_71 3 rfl) rfl rfl ?_
    refine e_get 11 em_71 (ce_at ce_71 4 rfl) tq_2 rfl rfl ?_
    refine e_gd fun g3 => ?_
    refine e_iflt 42 14 em_71 rfl rfl (ce_at ce_71 5 rfl) g3 (fun h4 => ?_) (fun h4 => ?_)
    · refine e_pk [0, 1] rfl rfl ?_
      exact ttok_stop_42 w d hd _ _
    · refine e_mv 15 em_71 (ce_at ce_71 6 rfl) rfl rfl ?_
      refine e_get 18 em_71 (ce_at ce_71 7 rfl) tq_2 rfl rfl ?_
      refine e_mv 19 em_71 (ce_at ce_71 8 rfl) rfl rfl ?_
      refine e_get 22 em_71 (ce_at ce_71 9 rfl) tq_2 rfl rfl ?_
      refine e_gd fun g5 => ?_
      refine e_cmge 42 25 em_71 rfl rfl (ce_at ce_71 10 rfl) g3 g5 (fun h6 => ?_) (fun h6 => ?_)
      · refine e_pk [0, 1] rfl rfl ?_
        exact ttok_stop_42 w d hd _ _
      · refine e_mv 26 em_71 (ce_at ce_71 11 rfl) rfl rfl ?_
        refine e_getr 29 em_71 (ce_at ce_71 12 rfl) tq_2 rfl rfl ?_
        refine e_mv 30 em_71 (ce_at ce_71 13 rfl) rfl rfl ?_
        refine e_get 33 em_71 (ce_at ce_71 14 rfl) tq_2 rfl rfl ?_
        refine e_gd fun g7 => ?_
        refine e_ild 34 em_71 (ce_at ce_71 15 rfl) tq_9 (by decide) g7 rfl ?_
        refine e_op 35 em_71 (ce_at ce_71 16 rfl) rfl rfl ?_
        refine e_gd fun g8 => ?_
        refine e_cmne 42 38 em_71 rfl rfl (ce_at ce_71 17 rfl) g8 (by decide) (fun h9 => ?_) (fun h9 => ?_)
        · refine e_pk [0, 1] rfl rfl ?_
          exact ttok_stop_42 w d hd _ _
        · refine e_op 39 em_71 (ce_at ce_71 18 rfl) rfl rfl ?_
          refine e_goto em_71 43 (ce_at ce_71 19 rfl) rfl ?_
          refine e_pk [0, 1] rfl rfl ?_
          exact ttok_stop_43 w d hd _ _ _
theorem ftok_stop (v1 : Int) (s : iS) : Fm Prod.snd L_tok_stop G_tok_stop s (tok_stop v1 s) := fm_gd (fm_if (fm_gd (fm_if (ftok_stop_42 _ _) (fm_gd (fm_if (ftok_stop_42 _ _) (fm_gd (fm_gd (fm_if (ftok_stop_43 _ _ _) (ftok_stop_42 _ _)))))))) (ftok_stop_65 _))
/-! trl_readClassName -/
def L_trl_readClassName : List Nat := [25, 26, 30, 40]
def G_trl_readClassName : List (Nat × Nat) := [(2, 12), (2, 13), (2, 14), (23, 11), (23, 14), (23, 15), (24, 2), (33, 2)]
noncomputable def trl_readClassName_136 (s : iS) : Option (Int × iS) := lt' (up s 2 12 ((s 2 12) + 1)) (fun s1 => some (0, s1))
theorem ttrl_readClassName_136 (w : ev_W) (d : Nat) (hd : 3 ≤ d) (s : iS) : Ew hT w d 70 136 [(0, .ref (tb_nK + 22))] [] s (Cv hT) (trl_readClassName_136 s) := by
  unfold trl_readClassName_136
  refine e_mv 137 em_70 (ce_at ce_70 59 rfl) rfl rfl ?_
  refine e_getr 140 em_70 (ce_at ce_70 60 rfl) tq_22 rfl rfl ?_
  refine e_op 141 em_70 (ce_at ce_70 61 rfl) rfl rfl ?_
  refine e_get 144 em_70 (ce_at ce_70 62 rfl) tq_2 rfl rfl ?_
  refine e_op 145 em_70 (ce_at ce_70 63 rfl) rfl rfl ?_
  refine e_iadd 146 em_70 rfl (ce_at ce_70 64 rfl) ?_
  refine e_put 149 em_70 (ce_at ce_70 65 rfl) tq_2 rfl rfl rfl (fun s1 => ?_)
  exact e_retv em_70 (ce_at ce_70 66 rfl)
theorem ftrl_readClassName_136 (s : iS) : Fm Prod.snd L_trl_readClassName G_trl_readClassName s (trl_readClassName_136 s) := fm_lt (md_upF (mem_F rfl)) (fun s1 => fm_some md_refl)
noncomputable def trl_readClassName_55 (s : iS) : Option (Int × iS) := bd (scp_beginClass s) (fun _ s1 => gd (rg (s1 22 4)) (if (s1 22 4) = 0 then bd (tok_addTo 24 25 26 20 (s1 2 12) s1) (fun _ s9 => bd (scp_tellClass s9) (fun _ s10 => trl_readClassName_136 s10)) else bd (trl_findClass (s1 2 12) s1) (fun r4 s4 => gd (rg r4) (gd (rg (s4 23 11)) (if r4 = (s4 23 11) then trl_readClassName_136 s4 else bd (tok_blame 3 (s4 2 12) s4) (fun _ s8 => trl_readClassName_136 s8))))))
theorem ttrl_readClassName_55 (w : ev_W) (d : Nat) (hd : 3 ≤ d) (s : iS) : Ew hT w d 70 55 [(0, .ref (tb_nK + 22))] [] s (Cv hT) (trl_readClassName_55 s) := by
  unfold trl_readClassName_55
  refine e_mv 56 em_70 (ce_at ce_70 24 rfl) rfl rfl ?_
  refine e_getr 59 em_70 (ce_at ce_70 25 rfl) tq_22 rfl rfl ?_
  refine e_ivv 62 em_70 (ce_at ce_70 26 rfl) (by omega) (iv_v0 (by decide) tq_23 rfl) em_72 (Nat.le_of_ble_eq_true rfl) rfl (tscp_beginClass w (d - 1) (by omega) _) (fun r1 s1 => ?_)
  refine e_mv 63 em_70 (ce_at ce_70 27 rfl) rfl rfl ?_
  refine e_get 66 em_70 (ce_at ce_70 28 rfl) tq_22 rfl rfl ?_
  refine e_gd fun g2 => ?_
  refine e_ifne 100 69 em_70 rfl rfl (ce_at ce_70 29 rfl) g2 (fun h3 => ?_) (fun h3 => ?_)
  · refine e_mv 101 em_70 (ce_at ce_70 43 rfl) rfl rfl ?_
    refine e_mv 102 em_70 (ce_at ce_70 44 rfl) rfl rfl ?_
    refine e_getr 105 em_70 (ce_at ce_70 45 rfl) tq_22 rfl rfl ?_
    refine e_get 108 em_70 (ce_at ce_70 46 rfl) tq_2 rfl rfl ?_
    refine e_ivi 111 em_70 (ce_at ce_70 47 rfl) (by omega) (iv_v1 (by decide) tq_22 rfl) em_75 (Nat.le_of_ble_eq_true rfl) rfl (ttrl_findClass w (d - 1) (by omega) _ _) (fun r4 s4 => ?_)
    refine e_mv 112 em_70 (ce_at ce_70 48 rfl) rfl rfl ?_
    refine e_getr 115 em_70 (ce_at ce_70 49 rfl) tq_22 rfl rfl ?_
    refine e_get 118 em_70 (ce_at ce_70 50 rfl) tq_23 rfl rfl ?_
    refine e_gd fun g5 => ?_
    refine e_gd fun g6 => ?_
    refine e_cmeq 136 121 em_70 rfl rfl (ce_at ce_70 51 rfl) g5 g6 (fun h7 => ?_) (fun h7 => ?_)
    · refine e_pk [0] rfl rfl ?_
      exact ttrl_readClassName_136 w d hd _
    · refine e_mv 122 em_70 (ce_at ce_70 52 rfl) rfl rfl ?_
      refine e_getr 125 em_70 (ce_at ce_70 53 rfl) tq_22 rfl rfl ?_
      refine e_op 126 em_70 (ce_at ce_70 54 rfl) rfl rfl ?_
      refine e_mv 127 em_70 (ce_at ce_70 55 rfl) rfl rfl ?_
      refine e_getr 130 em_70 (ce_at ce_70 56 rfl) tq_22 rfl rfl ?_
      refine e_get 133 em_70 (ce_at ce_70 57 rfl) tq_2 rfl rfl ?_
      refine e_ivv 136 em_70 (ce_at ce_70 58 rfl) (by omega) (iv_v2 (by decide) tq_2 rfl) em_77 (Nat.le_of_ble_eq_true rfl) rfl (ttok_blame w (d - 1) (by omega) _ _ _) (fun r8 s8 => ?_)
      refine e_pk [0] rfl rfl ?_
      exact ttrl_readClassName_136 w d hd _
  · refine e_mv 70 em_70 (ce_at ce_70 30 rfl) rfl rfl ?_
    refine e_getr 73 em_70 (ce_at ce_70 31 rfl) tq_22 rfl rfl ?_
    refine e_mv 74 em_70 (ce_at ce_70 32 rfl) rfl rfl ?_
    refine e_getr 77 em_70 (ce_at ce_70 33 rfl) tq_22 rfl rfl ?_
    refine e_getr 80 em_70 (ce_at ce_70 34 rfl) tq_23 rfl rfl ?_
    refine e_mv 81 em_70 (ce_at ce_70 35 rfl) rfl rfl ?_
    refine e_getr 84 em_70 (ce_at ce_70 36 rfl) tq_22 rfl rfl ?_
    refine e_get 87 em_70 (ce_at ce_70 37 rfl) tq_2 rfl rfl ?_
    refine e_ivv 90 em_70 (ce_at ce_70 38 rfl) (by omega) (iv_v2 (by decide) tq_2 rfl) em_73 (Nat.le_of_ble_eq_true rfl) rfl (ttok_addTo w (d - 1) (by omega) 24 25 26 20 tq_24 tq_25 tq_26 (by decide) _ _) (fun r9 s9 => ?_)
    refine e_mv 91 em_70 (ce_at ce_70 39 rfl) rfl rfl ?_
    refine e_getr 94 em_70 (ce_at ce_70 40 rfl) tq_22 rfl rfl ?_
    refine e_ivv 97 em_70 (ce_at ce_70 41 rfl) (by omega) (iv_v0 (by decide) tq_23 rfl) em_74 (Nat.le_of_ble_eq_true rfl) rfl (tscp_tellClass w (d - 1) (by omega) _) (fun r10 s10 => ?_)
    refine e_goto em_70 136 (ce_at ce_70 42 rfl) rfl ?_
    refine e_pk [0] rfl rfl ?_
    exact ttrl_readClassName_136 w d hd _
theorem ftrl_readClassName_55 (s : iS) : Fm Prod.snd L_trl_readClassName G_trl_readClassName s (trl_readClassName_55 s) := fm_bd (fm_sub (fscp_beginClass _) (mem_sub_L rfl) (mem_sub_F rfl)) (fun r1 s1 => fm_gd (fm_if (fm_bd (fm_sub (ftok_addTo 24 25 26 20 _ _) (mem_sub_L rfl) (mem_sub_F rfl)) (fun r9 s9 => fm_bd (fm_sub (fscp_tellClass _) (mem_sub_L rfl) (mem_sub_F rfl)) (fun r10 s10 => ftrl_readClassName_136 _))) (fm_bd (fm_sub (ftrl_findClass _ _) (mem_sub_L rfl) (mem_sub_F rfl)) (fun r4 s4 => fm_gd (fm_gd (fm_if (ftrl_readClassName_136 _) (fm_bd (fm_sub (ftok_blame _ _ _) (mem_sub_L rfl) (mem_sub_F rfl)) (fun r8 s8 => ftrl_readClassName_136 _))))))))
noncomputable def trl_readClassName (s : iS) : Option (Int × iS) := bd (tok_kind s) (fun r1 s1 => gd (rg r1) (if r1 = 3 then gd (rg (s1 22 4)) (if (s1 22 4) = 0 then gd (rg (s1 24 2)) (if (s1 24 2) < 20 then trl_readClassName_55 s1 else bd (tok_stop 2 s1) (fun _ s8 => some (0, s8))) else trl_readClassName_55 s1) else bd (tok_stop 1 s1) (fun _ s9 => some (0, s9))))
theorem ttrl_readClassName (w : ev_W) (d : Nat) (hd : 3 ≤ d) (s : iS) : Ew hT w d 70 0 [(0, .ref (tb_nK + 22))] [] s (Cv hT) (trl_readClassName s) := by
  unfold trl_readClassName
  refine e_mv 1 em_70 (ce_at ce_70 0 rfl) rfl rfl ?_
  refine e_getr 4 em_70 (ce_at ce_70 1 rfl) tq_22 rfl rfl ?_
  refine e_ivi 7 em_70 (ce_at ce_70 2 rfl) (by omega) (iv_v0 (by decide) tq_2 rfl) em_69 (Nat.le_of_ble_eq_true rfl) rfl (ttok_kind w (d - 1) (by omega) _) (fun r1 s1 => ?_)
  refine e_op 8 em_70 (ce_at ce_70 3 rfl) rfl rfl ?_
  refine e_gd fun g2 => ?_
  refine e_cmeq 22 11 em_70 rfl rfl (ce_at ce_70 4 rfl) g2 (by decide) (fun h3 => ?_) (fun h3 => ?_)
  · refine e_mv 23 em_70 (ce_at ce_70 10 rfl) rfl rfl ?_
    refine e_get 26 em_70 (ce_at ce_70 11 rfl) tq_22 rfl rfl ?_
    refine e_gd fun g4 => ?_
    refine e_ifne 55 29 em_70 rfl rfl (ce_at ce_70 12 rfl) g4 (fun h5 => ?_) (fun h5 => ?_)
    · refine e_pk [0] rfl rfl ?_
      exact ttrl_readClassName_55 w d hd _
    · refine e_mv 30 em_70 (ce_at ce_70 13 rfl) rfl rfl ?_
      refine e_getr 33 em_70 (ce_at ce_70 14 rfl) tq_22 rfl rfl ?_
      refine e_getr 36 em_70 (ce_at ce_70 15 rfl) tq_23 rfl rfl ?_
      refine e_get 39 em_70 (ce_at ce_70 16 rfl) tq_24 rfl rfl ?_
      refine e_bip 41 em_70 (ce_at ce_70 17 rfl) (by decide) rfl ?_
      refine e_gd fun g6 => ?_
      refine e_cmlt 55 44 em_70 rfl rfl (ce_at ce_70 18 rfl) g6 (by decide) (fun h7 => ?_) (fun h7 => ?_)
      · refine e_pk [0] rfl rfl ?_
        exact ttrl_readClassName_55 w d hd _
      · refine e_mv 45 em_70 (ce_at ce_70 19 rfl) rfl rfl ?_
        refine e_getr 48 em_70 (ce_at ce_70 20 rfl) tq_22 rfl rfl ?_
        refine e_op 49 em_70 (ce_at ce_70 21 rfl) rfl rfl ?_
        refine e_ivv 52 em_70 (ce_at ce_70 22 rfl) (by omega) (iv_v1 (by decide) tq_2 rfl) em_71 (Nat.le_of_ble_eq_true rfl) rfl (ttok_stop w (d - 1) (by omega) _ _) (fun r8 s8 => ?_)
        refine e_goto em_70 149 (ce_at ce_70 23 rfl) rfl ?_
        exact e_retv em_70 (ce_at ce_70 66 rfl)
  · refine e_mv 12 em_70 (ce_at ce_70 5 rfl) rfl rfl ?_
    refine e_getr 15 em_70 (ce_at ce_70 6 rfl) tq_22 rfl rfl ?_
    refine e_op 16 em_70 (ce_at ce_70 7 rfl) rfl rfl ?_
    refine e_ivv 19 em_70 (ce_at ce_70 8 rfl) (by omega) (iv_v1 (by decide) tq_2 rfl) em_71 (Nat.le_of_ble_eq_true rfl) rfl (ttok_stop w (d - 1) (by omega) _ _) (fun r9 s9 => ?_)
    refine e_goto em_70 149 (ce_at ce_70 9 rfl) rfl ?_
    exact e_retv em_70 (ce_at ce_70 66 rfl)
theorem ftrl_readClassName (s : iS) : Fm Prod.snd L_trl_readClassName G_trl_readClassName s (trl_readClassName s) := fm_bd (fm_sub (ftok_kind _) (mem_sub_L rfl) (mem_sub_F rfl)) (fun r1 s1 => fm_gd (fm_if (fm_gd (fm_if (fm_gd (fm_if (ftrl_readClassName_55 _) (fm_bd (fm_sub (ftok_stop _ _) (mem_sub_L rfl) (mem_sub_F rfl)) (fun r8 s8 => fm_some md_refl)))) (ftrl_readClassName_55 _))) (fm_bd (fm_sub (ftok_stop _ _) (mem_sub_L rfl) (mem_sub_F rfl)) (fun r9 s9 => fm_some md_refl))))
/-! trl_openSign -/
def L_trl_openSign : List Nat := []
def G_trl_openSign : List (Nat × Nat) := [(2, 12), (2, 13), (2, 14), (22, 5)]
noncomputable def trl_openSign (v1 : Int) (s : iS) : Option (Int × iS) := bd (tok_kind s) (fun r1 s1 => gd (rg r1) (gd (rg v1) (if r1 = v1 then gd (rg (s1 22 5)) (if (s1 22 5) < 25 then lt' (up s1 22 5 ((s1 22 5) + 1)) (fun s7 => lt' (up s7 2 12 ((s7 2 12) + 1)) (fun s8 => some (0, s8))) else bd (tok_stop 2 s1) (fun _ s9 => some (0, s9))) else bd (tok_stop 1 s1) (fun _ s10 => some (0, s10)))))
theorem ttrl_openSign (w : ev_W) (d : Nat) (hd : 1 ≤ d) (v1 : Int) (s : iS) : Ew hT w d 78 0 [(0, .ref (tb_nK + 22)), (1, iv v1)] [] s (Cv hT) (trl_openSign v1 s) := by
  unfold trl_openSign
  refine e_mv 1 em_78 (ce_at ce_78 0 rfl) rfl rfl ?_
  refine e_getr 4 em_78 (ce_at ce_78 1 rfl) tq_22 rfl rfl ?_
  refine e_ivi 7 em_78 (ce_at ce_78 2 rfl) (by omega) (iv_v0 (by decide) tq_2 rfl) em_69 (Nat.le_of_ble_eq_true rfl) rfl (ttok_kind w (d - 1) (by omega) _) (fun r1 s1 => ?_)
  refine e_mv 8 em_78 (ce_at ce_78 3 rfl) rfl rfl ?_
  refine e_gd fun g2 => ?_
  refine e_gd fun g3 => ?_
  refine e_cmeq 22 11 em_78 rfl rfl (ce_at ce_78 4 rfl) g2 g3 (fun h4 => ?_) (fun h4 => ?_)
  · refine e_mv 23 em_78 (ce_at ce_78 10 rfl) rfl rfl ?_
    refine e_get 26 em_78 (ce_at ce_78 11 rfl) tq_22 rfl rfl ?_
    refine e_bip 28 em_78 (ce_at ce_78 12 rfl) (by decide) rfl ?_
    refine e_gd fun g5 => ?_
    refine e_cmlt 42 31 em_78 rfl rfl (ce_at ce_78 13 rfl) g5 (by decide) (fun h6 => ?_) (fun h6 => ?_)
    · refine e_mv 43 em_78 (ce_at ce_78 19 rfl) rfl rfl ?_
      refine e_op 44 em_78 (ce_at ce_78 20 rfl) rfl rfl ?_
      refine e_get 47 em_78 (ce_at ce_78 21 rfl) tq_22 rfl rfl ?_
      refine e_op 48 em_78 (ce_at ce_78 22 rfl) rfl rfl ?_
      refine e_iadd 49 em_78 rfl (ce_at ce_78 23 rfl) ?_
      refine e_put 52 em_78 (ce_at ce_78 24 rfl) tq_22 rfl rfl rfl (fun s7 => ?_)
      refine e_mv 53 em_78 (ce_at ce_78 25 rfl) rfl rfl ?_
      refine e_getr 56 em_78 (ce_at ce_78 26 rfl) tq_22 rfl rfl ?_
      refine e_op 57 em_78 (ce_at ce_78 27 rfl) rfl rfl ?_
      refine e_get 60 em_78 (ce_at ce_78 28 rfl) tq_2 rfl rfl ?_
      refine e_op 61 em_78 (ce_at ce_78 29 rfl) rfl rfl ?_
      refine e_iadd 62 em_78 rfl (ce_at ce_78 30 rfl) ?_
      refine e_put 65 em_78 (ce_at ce_78 31 rfl) tq_2 rfl rfl rfl (fun s8 => ?_)
      exact e_retv em_78 (ce_at ce_78 32 rfl)
    · refine e_mv 32 em_78 (ce_at ce_78 14 rfl) rfl rfl ?_
      refine e_getr 35 em_78 (ce_at ce_78 15 rfl) tq_22 rfl rfl ?_
      refine e_op 36 em_78 (ce_at ce_78 16 rfl) rfl rfl ?_
      refine e_ivv 39 em_78 (ce_at ce_78 17 rfl) (by omega) (iv_v1 (by decide) tq_2 rfl) em_71 (Nat.le_of_ble_eq_true rfl) rfl (ttok_stop w (d - 1) (by omega) _ _) (fun r9 s9 => ?_)
      refine e_goto em_78 65 (ce_at ce_78 18 rfl) rfl ?_
      exact e_retv em_78 (ce_at ce_78 32 rfl)
  · refine e_mv 12 em_78 (ce_at ce_78 5 rfl) rfl rfl ?_
    refine e_getr 15 em_78 (ce_at ce_78 6 rfl) tq_22 rfl rfl ?_
    refine e_op 16 em_78 (ce_at ce_78 7 rfl) rfl rfl ?_
    refine e_ivv 19 em_78 (ce_at ce_78 8 rfl) (by omega) (iv_v1 (by decide) tq_2 rfl) em_71 (Nat.le_of_ble_eq_true rfl) rfl (ttok_stop w (d - 1) (by omega) _ _) (fun r10 s10 => ?_)
    refine e_goto em_78 65 (ce_at ce_78 9 rfl) rfl ?_
    exact e_retv em_78 (ce_at ce_78 32 rfl)
theorem ftrl_openSign (v1 : Int) (s : iS) : Fm Prod.snd L_trl_openSign G_trl_openSign s (trl_openSign v1 s) := fm_bd (fm_sub (ftok_kind _) (mem_sub_L rfl) (mem_sub_F rfl)) (fun r1 s1 => fm_gd (fm_gd (fm_if (fm_gd (fm_if (fm_lt (md_upF (mem_F rfl)) (fun s7 => fm_lt (md_upF (mem_F rfl)) (fun s8 => fm_some md_refl))) (fm_bd (fm_sub (ftok_stop _ _) (mem_sub_L rfl) (mem_sub_F rfl)) (fun r9 s9 => fm_some md_refl)))) (fm_bd (fm_sub (ftok_stop _ _) (mem_sub_L rfl) (mem_sub_F rfl)) (fun r10 s10 => fm_some md_refl)))))
/-! trl_readType -/
def L_trl_readType : List Nat := []
def G_trl_readType : List (Nat × Nat) := [(2, 12), (2, 13), (2, 14)]
noncomputable def trl_readType_88 (v2 : Int) (s : iS) : Option (Int × iS) := lt' (up s 2 12 ((s 2 12) + 1)) (fun s1 => some (v2, s1))
theorem ttrl_readType_88 (w : ev_W) (d : Nat) (hd : 3 ≤ d) (v2 : Int) (s : iS) : Ew hT w d 81 88 [(0, .ref (tb_nK + 22)), (2, iv v2)] [] s (Ci hT) (trl_readType_88 v2 s) := by
  unfold trl_readType_88
  refine e_mv 89 em_81 (ce_at ce_81 44 rfl) rfl rfl ?_
  refine e_getr 92 em_81 (ce_at ce_81 45 rfl) tq_22 rfl rfl ?_
  refine e_op 93 em_81 (ce_at ce_81 46 rfl) rfl rfl ?_
  refine e_get 96 em_81 (ce_at ce_81 47 rfl) tq_2 rfl rfl ?_
  refine e_op 97 em_81 (ce_at ce_81 48 rfl) rfl rfl ?_
  refine e_iadd 98 em_81 rfl (ce_at ce_81 49 rfl) ?_
  refine e_put 101 em_81 (ce_at ce_81 50 rfl) tq_2 rfl rfl rfl (fun s1 => ?_)
  refine e_mv 102 em_81 (ce_at ce_81 51 rfl) rfl rfl ?_
  exact e_reti em_81 (ce_at ce_81 52 rfl)
theorem ftrl_readType_88 (v2 : Int) (s : iS) : Fm Prod.snd L_trl_readType G_trl_readType s (trl_readType_88 v2 s) := fm_lt (md_upF (mem_F rfl)) (fun s1 => fm_some md_refl)
noncomputable def trl_readType (s : iS) : Option (Int × iS) := bd (tok_kind s) (fun r1 s1 => gd (rg r1) (if r1 = 3 then bd (trl_findClass (s1 2 12) s1) (fun r8 s8 => gd (rg (s8 22 4)) (if (s8 22 4) = 0 then trl_readType_88 r8 s8 else gd (rg r8) (if r8 = (-1) then bd (tok_blame 4 (s8 2 12) s8) (fun _ s13 => trl_readType_88 r8 s13) else trl_readType_88 r8 s8))) else if r1 = 263 then trl_readType_88 (-1) s1 else if r1 = 264 then trl_readType_88 (-1) s1 else if r1 = 265 then trl_readType_88 (-1) s1 else bd (tok_stop 1 s1) (fun _ s7 => some ((-1), s7))))
theorem ttrl_readType (w : ev_W) (d : Nat) (hd : 3 ≤ d) (s : iS) : Ew hT w d 81 0 [(0, .ref (tb_nK + 22))] [] s (Ci hT) (trl_readType s) := by
  unfold trl_readType
  refine e_mv 1 em_81 (ce_at ce_81 0 rfl) rfl rfl ?_
  refine e_getr 4 em_81 (ce_at ce_81 1 rfl) tq_22 rfl rfl ?_
  refine e_ivi 7 em_81 (ce_at ce_81 2 rfl) (by omega) (iv_v0 (by decide) tq_2 rfl) em_69 (Nat.le_of_ble_eq_true rfl) rfl (ttok_kind w (d - 1) (by omega) _) (fun r1 s1 => ?_)
  refine e_mv 8 em_81 (ce_at ce_81 3 rfl) rfl rfl ?_
  refine e_op 9 em_81 (ce_at ce_81 4 rfl) rfl rfl ?_
  refine e_mv 10 em_81 (ce_at ce_81 5 rfl) rfl rfl ?_
  refine e_mv 11 em_81 (ce_at ce_81 6 rfl) rfl rfl ?_
  refine e_op 12 em_81 (ce_at ce_81 7 rfl) rfl rfl ?_
  refine e_gd fun g2 => ?_
  refine e_cmne 57 15 em_81 rfl rfl (ce_at ce_81 8 rfl) g2 (by decide) (fun h3 => ?_) (fun h3 => ?_)
  · refine e_mv 58 em_81 (ce_at ce_81 29 rfl) rfl rfl ?_
    refine e_sip 61 em_81 (ce_at ce_81 30 rfl) (by decide) rfl ?_
    refine e_cmeq 88 64 em_81 rfl rfl (ce_at ce_81 31 rfl) g2 (by decide) (fun h4 => ?_) (fun h4 => ?_)
    · refine e_pk [0, 2] rfl rfl ?_
      exact ttrl_readType_88 w d hd _ _
    · refine e_mv 65 em_81 (ce_at ce_81 32 rfl) rfl rfl ?_
      refine e_sip 68 em_81 (ce_at ce_81 33 rfl) (by decide) rfl ?_
      refine e_cmeq 88 71 em_81 rfl rfl (ce_at ce_81 34 rfl) g2 (by decide) (fun h5 => ?_) (fun h5 => ?_)
      · refine e_pk [0, 2] rfl rfl ?_
        exact ttrl_readType_88 w d hd _ _
      · refine e_mv 72 em_81 (ce_at ce_81 35 rfl) rfl rfl ?_
        refine e_sip 75 em_81 (ce_at ce_81 36 rfl) (by decide) rfl ?_
        refine e_cmeq 88 78 em_81 rfl rfl (ce_at ce_81 37 rfl) g2 (by decide) (fun h6 => ?_) (fun h6 => ?_)
        · refine e_pk [0, 2] rfl rfl ?_
          exact ttrl_readType_88 w d hd _ _
        · refine e_mv 79 em_81 (ce_at ce_81 38 rfl) rfl rfl ?_
          refine e_getr 82 em_81 (ce_at ce_81 39 rfl) tq_22 rfl rfl ?_
          refine e_op 83 em_81 (ce_at ce_81 40 rfl) rfl rfl ?_
          refine e_ivv 86 em_81 (ce_at ce_81 41 rfl) (by omega) (iv_v1 (by decide) tq_2 rfl) em_71 (Nat.le_of_ble_eq_true rfl) rfl (ttok_stop w (d - 1) (by omega) _ _) (fun r7 s7 => ?_)
          refine e_op 87 em_81 (ce_at ce_81 42 rfl) rfl rfl ?_
          exact e_reti em_81 (ce_at ce_81 43 rfl)
  · refine e_mv 16 em_81 (ce_at ce_81 9 rfl) rfl rfl ?_
    refine e_mv 17 em_81 (ce_at ce_81 10 rfl) rfl rfl ?_
    refine e_getr 20 em_81 (ce_at ce_81 11 rfl) tq_22 rfl rfl ?_
    refine e_get 23 em_81 (ce_at ce_81 12 rfl) tq_2 rfl rfl ?_
    refine e_ivi 26 em_81 (ce_at ce_81 13 rfl) (by omega) (iv_v1 (by decide) tq_22 rfl) em_75 (Nat.le_of_ble_eq_true rfl) rfl (ttrl_findClass w (d - 1) (by omega) _ _) (fun r8 s8 => ?_)
    refine e_mv 27 em_81 (ce_at ce_81 14 rfl) rfl rfl ?_
    refine e_mv 28 em_81 (ce_at ce_81 15 rfl) rfl rfl ?_
    refine e_get 31 em_81 (ce_at ce_81 16 rfl) tq_22 rfl rfl ?_
    refine e_gd fun g9 => ?_
    refine e_ifeq 88 34 em_81 rfl rfl (ce_at ce_81 17 rfl) g9 (fun h10 => ?_) (fun h10 => ?_)
    · refine e_pk [0, 2] rfl rfl ?_
      exact ttrl_readType_88 w d hd _ _
    · refine e_mv 35 em_81 (ce_at ce_81 18 rfl) rfl rfl ?_
      refine e_op 36 em_81 (ce_at ce_81 19 rfl) rfl rfl ?_
      refine e_gd fun g11 => ?_
      refine e_cmne 88 39 em_81 rfl rfl (ce_at ce_81 20 rfl) g11 (by decide) (fun h12 => ?_) (fun h12 => ?_)
      · refine e_pk [0, 2] rfl rfl ?_
        exact ttrl_readType_88 w d hd _ _
      · refine e_mv 40 em_81 (ce_at ce_81 21 rfl) rfl rfl ?_
        refine e_getr 43 em_81 (ce_at ce_81 22 rfl) tq_22 rfl rfl ?_
        refine e_op 44 em_81 (ce_at ce_81 23 rfl) rfl rfl ?_
        refine e_mv 45 em_81 (ce_at ce_81 24 rfl) rfl rfl ?_
        refine e_getr 48 em_81 (ce_at ce_81 25 rfl) tq_22 rfl rfl ?_
        refine e_get 51 em_81 (ce_at ce_81 26 rfl) tq_2 rfl rfl ?_
        refine e_ivv 54 em_81 (ce_at ce_81 27 rfl) (by omega) (iv_v2 (by decide) tq_2 rfl) em_77 (Nat.le_of_ble_eq_true rfl) rfl (ttok_blame w (d - 1) (by omega) _ _ _) (fun r13 s13 => ?_)
        refine e_goto em_81 88 (ce_at ce_81 28 rfl) rfl ?_
        refine e_pk [0, 2] rfl rfl ?_
        exact ttrl_readType_88 w d hd _ _
theorem ftrl_readType (s : iS) : Fm Prod.snd L_trl_readType G_trl_readType s (trl_readType s) := fm_bd (fm_sub (ftok_kind _) (mem_sub_L rfl) (mem_sub_F rfl)) (fun r1 s1 => fm_gd (fm_if (fm_bd (fm_sub (ftrl_findClass _ _) (mem_sub_L rfl) (mem_sub_F rfl)) (fun r8 s8 => fm_gd (fm_if (ftrl_readType_88 _ _) (fm_gd (fm_if (fm_bd (fm_sub (ftok_blame _ _ _) (mem_sub_L rfl) (mem_sub_F rfl)) (fun r13 s13 => ftrl_readType_88 _ _)) (ftrl_readType_88 _ _)))))) (fm_if (ftrl_readType_88 _ _) (fm_if (ftrl_readType_88 _ _) (fm_if (ftrl_readType_88 _ _) (fm_bd (fm_sub (ftok_stop _ _) (mem_sub_L rfl) (mem_sub_F rfl)) (fun r7 s7 => fm_some md_refl)))))))
/-! scp_isFull -/
def L_scp_isFull : List Nat := []
def G_scp_isFull : List (Nat × Nat) := []
noncomputable def scp_isFull (v1 : Int) (s : iS) : Option (Int × iS) := gd (0 ≤ v1 ∧ v1 < 8) (gd (rg (s 40 v1.toNat)) (if (s 40 v1.toNat) < 12 then some (0, s) else some (1, s)))
theorem tscp_isFull (w : ev_W) (d : Nat) (hd : 0 ≤ d) (v1 : Int) (s : iS) : Ew hT w d 83 0 [(0, .ref (tb_nK + 23)), (1, iv v1)] [] s (Ci hT) (scp_isFull v1 s) := by
  unfold scp_isFull
  refine e_mv 1 em_83 (ce_at ce_83 0 rfl) rfl rfl ?_
  refine e_getr 4 em_83 (ce_at ce_83 1 rfl) tq_23 rfl rfl ?_
  refine e_mv 5 em_83 (ce_at ce_83 2 rfl) rfl rfl ?_
  refine e_gd fun g1 => ?_
  refine e_ild 6 em_83 (ce_at ce_83 3 rfl) tq_40 (by decide) g1 rfl ?_
  refine e_bip 8 em_83 (ce_at ce_83 4 rfl) (by decide) rfl ?_
  refine e_gd fun g2 => ?_
  refine e_cmlt 15 11 em_83 rfl rfl (ce_at ce_83 5 rfl) g2 (by decide) (fun h3 => ?_) (fun h3 => ?_)
  · refine e_op 16 em_83 (ce_at ce_83 8 rfl) rfl rfl ?_
    exact e_retz em_83 (ce_at ce_83 9 rfl) (by decide)
  · refine e_op 12 em_83 (ce_at ce_83 6 rfl) rfl rfl ?_
    refine e_goto em_83 16 (ce_at ce_83 7 rfl) rfl ?_
    exact e_retz em_83 (ce_at ce_83 9 rfl) (by decide)
theorem fscp_isFull (v1 : Int) (s : iS) : Fm Prod.snd L_scp_isFull G_scp_isFull s (scp_isFull v1 s) := fm_gd (fm_gd (fm_if (fm_some md_refl) (fm_some md_refl)))
/-! scp_firstRival -/
def L_scp_firstRival : List Nat := []
def G_scp_firstRival : List (Nat × Nat) := []
noncomputable def scp_firstRival (v1 : Int) (s : iS) : Option (Int × iS) := gd (rg v1) (if v1 = 3 then some (0, s) else if v1 = 4 then some (0, s) else some ((s 23 15), s))
theorem tscp_firstRival (w : ev_W) (d : Nat) (hd : 0 ≤ d) (v1 : Int) (s : iS) : Ew hT w d 84 0 [(0, .ref (tb_nK + 23)), (1, iv v1)] [] s (Ci hT) (scp_firstRival v1 s) := by
  unfold scp_firstRival
  refine e_mv 1 em_84 (ce_at ce_84 0 rfl) rfl rfl ?_
  refine e_op 2 em_84 (ce_at ce_84 1 rfl) rfl rfl ?_
  refine e_gd fun g1 => ?_
  refine e_cmeq 10 5 em_84 rfl rfl (ce_at ce_84 2 rfl) g1 (by decide) (fun h2 => ?_) (fun h2 => ?_)
  · refine e_op 11 em_84 (ce_at ce_84 6 rfl) rfl rfl ?_
    refine e_goto em_84 18 (ce_at ce_84 7 rfl) rfl ?_
    exact e_reti em_84 (ce_at ce_84 10 rfl)
  · refine e_mv 6 em_84 (ce_at ce_84 3 rfl) rfl rfl ?_
    refine e_op 7 em_84 (ce_at ce_84 4 rfl) rfl rfl ?_
    refine e_cmne 14 10 em_84 rfl rfl (ce_at ce_84 5 rfl) g1 (by decide) (fun h3 => ?_) (fun h3 => ?_)
    · refine e_mv 15 em_84 (ce_at ce_84 8 rfl) rfl rfl ?_
      refine e_get 18 em_84 (ce_at ce_84 9 rfl) tq_23 rfl rfl ?_
      exact e_reti em_84 (ce_at ce_84 10 rfl)
    · refine e_op 11 em_84 (ce_at ce_84 6 rfl) rfl rfl ?_
      refine e_goto em_84 18 (ce_at ce_84 7 rfl) rfl ?_
      exact e_reti em_84 (ce_at ce_84 10 rfl)
theorem fscp_firstRival (v1 : Int) (s : iS) : Fm Prod.snd L_scp_firstRival G_scp_firstRival s (scp_firstRival v1 s) := fm_gd (fm_if (fm_some md_refl) (fm_if (fm_some md_refl) (fm_some md_refl)))
/-! scp_addVariable -/
def L_scp_addVariable : List Nat := [36, 37, 38, 39, 40]
def G_scp_addVariable : List (Nat × Nat) := [(23, 15)]
noncomputable def scp_addVariable_113 (s : iS) : Option (Int × iS) := lt' (up s 23 15 (s 33 2)) (fun s1 => some (0, s1))
theorem tscp_addVariable_113 (w : ev_W) (d : Nat) (hd : 0 ≤ d) (s : iS) : Ew hT w d 85 113 [(0, .ref (tb_nK + 23))] [] s (Cv hT) (scp_addVariable_113 s) := by
  unfold scp_addVariable_113
  refine e_mv 114 em_85 (ce_at ce_85 69 rfl) rfl rfl ?_
  refine e_mv 115 em_85 (ce_at ce_85 70 rfl) rfl rfl ?_
  refine e_getr 118 em_85 (ce_at ce_85 71 rfl) tq_23 rfl rfl ?_
  refine e_get 121 em_85 (ce_at ce_85 72 rfl) tq_33 rfl rfl ?_
  refine e_put 124 em_85 (ce_at ce_85 73 rfl) tq_23 rfl rfl rfl (fun s1 => ?_)
  exact e_retv em_85 (ce_at ce_85 74 rfl)
theorem fscp_addVariable_113 (s : iS) : Fm Prod.snd L_scp_addVariable G_scp_addVariable s (scp_addVariable_113 s) := fm_lt (md_upF (mem_F rfl)) (fun s1 => fm_some md_refl)
noncomputable def scp_addVariable_93 (v1 : Int) (v4 : Int) (s : iS) : Option (Int × iS) := gd (0 ≤ v1 ∧ v1 < 8) (lt' (up s 40 v1.toNat (v4 + 1)) (fun s2 => gd (rg v1) (if v1 = 3 then scp_addVariable_113 s2 else if v1 = 4 then scp_addVariable_113 s2 else some (0, s2))))
theorem tscp_addVariable_93 (w : ev_W) (d : Nat) (hd : 0 ≤ d) (v1 : Int) (v4 : Int) (s : iS) : Ew hT w d 85 93 [(0, .ref (tb_nK + 23)), (1, iv v1), (4, iv v4)] [] s (Cv hT) (scp_addVariable_93 v1 v4 s) := by
  unfold scp_addVariable_93
  refine e_mv 94 em_85 (ce_at ce_85 56 rfl) rfl rfl ?_
  refine e_getr 97 em_85 (ce_at ce_85 57 rfl) tq_23 rfl rfl ?_
  refine e_mv 98 em_85 (ce_at ce_85 58 rfl) rfl rfl ?_
  refine e_mv 100 em_85 (ce_at ce_85 59 rfl) rfl rfl ?_
  refine e_op 101 em_85 (ce_at ce_85 60 rfl) rfl rfl ?_
  refine e_iadd 102 em_85 rfl (ce_at ce_85 61 rfl) ?_
  refine e_gd fun g1 => ?_
  refine e_ist 103 em_85 (ce_at ce_85 62 rfl) tq_40 (by decide) g1 rfl (fun s2 => ?_)
  refine e_mv 104 em_85 (ce_at ce_85 63 rfl) rfl rfl ?_
  refine e_op 105 em_85 (ce_at ce_85 64 rfl) rfl rfl ?_
  refine e_gd fun g3 => ?_
  refine e_cmeq 113 108 em_85 rfl rfl (ce_at ce_85 65 rfl) g3 (by decide) (fun h4 => ?_) (fun h4 => ?_)
  · refine e_pk [0] rfl rfl ?_
    exact tscp_addVariable_113 w d hd _
  · refine e_mv 109 em_85 (ce_at ce_85 66 rfl) rfl rfl ?_
    refine e_op 110 em_85 (ce_at ce_85 67 rfl) rfl rfl ?_
    refine e_cmne 124 113 em_85 rfl rfl (ce_at ce_85 68 rfl) g3 (by decide) (fun h5 => ?_) (fun h5 => ?_)
    · exact e_retv em_85 (ce_at ce_85 74 rfl)
    · refine e_pk [0] rfl rfl ?_
      exact tscp_addVariable_113 w d hd _
theorem fscp_addVariable_93 (v1 : Int) (v4 : Int) (s : iS) : Fm Prod.snd L_scp_addVariable G_scp_addVariable s (scp_addVariable_93 v1 v4 s) := fm_gd (fm_lt (md_upL (mem_L rfl)) (fun s2 => fm_gd (fm_if (fscp_addVariable_113 _) (fm_if (fscp_addVariable_113 _) (fm_some md_refl)))))
noncomputable def scp_addVariable_67 (v1 : Int) (v3 : Int) (v4 : Int) (t0 : Int) (t1 : Int) (s : iS) : Option (Int × iS) := gd (0 ≤ t1 ∧ t1 < 48) (lt' (up s 38 t1.toNat t0) (fun s2 => gd (rg v1) (if v1 = 1 then gd (rg (s2 23 13)) (if (s2 23 13) = 259 then gd (0 ≤ v3 ∧ v3 < 48) (lt' (up s2 38 v3.toNat (v4 + 1)) (fun s8 => scp_addVariable_93 v1 v4 s8)) else scp_addVariable_93 v1 v4 s2) else scp_addVariable_93 v1 v4 s2)))
theorem tscp_addVariable_67 (w : ev_W) (d : Nat) (hd : 0 ≤ d) (v1 : Int) (v3 : Int) (v4 : Int) (t0 : Int) (t1 : Int) (s : iS) : Ew hT w d 85 67 [(0, .ref (tb_nK + 23)), (1, iv v1), (3, iv v3), (4, iv v4)] [iv t0, iv t1, .ref (tb_nK + 38)] s (Cv hT) (scp_addVariable_67 v1 v3 v4 t0 t1 s) := by
  unfold scp_addVariable_67
  refine e_gd fun g1 => ?_
  refine e_ist 68 em_85 (ce_at ce_85 41 rfl) tq_38 (by decide) g1 rfl (fun s2 => ?_)
  refine e_mv 69 em_85 (ce_at ce_85 42 rfl) rfl rfl ?_
  refine e_op 70 em_85 (ce_at ce_85 43 rfl) rfl rfl ?_
  refine e_gd fun g3 => ?_
  refine e_cmne 93 73 em_85 rfl rfl (ce_at ce_85 44 rfl) g3 (by decide) (fun h4 => ?_) (fun h4 => ?_)
  · refine e_pk [0, 1, 4] rfl rfl ?_
    exact tscp_addVariable_93 w d hd _ _ _
  · refine e_mv 74 em_85 (ce_at ce_85 45 rfl) rfl rfl ?_
    refine e_get 77 em_85 (ce_at ce_85 46 rfl) tq_23 rfl rfl ?_
    refine e_sip 80 em_85 (ce_at ce_85 47 rfl) (by decide) rfl ?_
    refine e_gd fun g5 => ?_
    refine e_cmne 93 83 em_85 rfl rfl (ce_at ce_85 48 rfl) g5 (by decide) (fun h6 => ?_) (fun h6 => ?_)
    · refine e_pk [0, 1, 4] rfl rfl ?_
      exact tscp_addVariable_93 w d hd _ _ _
    · refine e_mv 84 em_85 (ce_at ce_85 49 rfl) rfl rfl ?_
      refine e_getr 87 em_85 (ce_at ce_85 50 rfl) tq_23 rfl rfl ?_
      refine e_mv 88 em_85 (ce_at ce_85 51 rfl) rfl rfl ?_
      refine e_mv 90 em_85 (ce_at ce_85 52 rfl) rfl rfl ?_
      refine e_op 91 em_85 (ce_at ce_85 53 rfl) rfl rfl ?_
      refine e_iadd 92 em_85 rfl (ce_at ce_85 54 rfl) ?_
      refine e_gd fun g7 => ?_
      refine e_ist 93 em_85 (ce_at ce_85 55 rfl) tq_38 (by decide) g7 rfl (fun s8 => ?_)
      refine e_pk [0, 1, 4] rfl rfl ?_
      exact tscp_addVariable_93 w d hd _ _ _
theorem fscp_addVariable_67 (v1 : Int) (v3 : Int) (v4 : Int) (t0 : Int) (t1 : Int) (s : iS) : Fm Prod.snd L_scp_addVariable G_scp_addVariable s (scp_addVariable_67 v1 v3 v4 t0 t1 s) := fm_gd (fm_lt (md_upL (mem_L rfl)) (fun s2 => fm_gd (fm_if (fm_gd (fm_if (fm_gd (fm_lt (md_upL (mem_L rfl)) (fun s8 => fscp_addVariable_93 _ _ _))) (fscp_addVariable_93 _ _ _))) (fscp_addVariable_93 _ _ _))))
noncomputable def scp_addVariable (v1 : Int) (v2 : Int) (s : iS) : Option (Int × iS) := gd (rg ((s 33 2) - 1)) (if 0 ≤ ((s 33 2) - 1) then gd (0 ≤ v1 ∧ v1 < 8) (gd (0 ≤ ((s 33 2) - 1) ∧ ((s 33 2) - 1) < 48) (lt' (up s 36 ((s 33 2) - 1).toNat v2) (fun s5 => lt' (up s5 37 ((s 33 2) - 1).toNat v1) (fun s6 => lt' (up s6 39 ((s 33 2) - 1).toNat (s 40 v1.toNat)) (fun s7 => gd (rg v1) (if v1 = 3 then scp_addVariable_67 v1 ((s 33 2) - 1) (s 40 v1.toNat) ((s 40 v1.toNat) - (s7 23 14)) ((s 33 2) - 1) s7 else scp_addVariable_67 v1 ((s 33 2) - 1) (s 40 v1.toNat) (s 40 v1.toNat) ((s 33 2) - 1) s7)))))) else some (0, s))
theorem tscp_addVariable (w : ev_W) (d : Nat) (hd : 0 ≤ d) (v1 : Int) (v2 : Int) (s : iS) : Ew hT w d 85 0 [(0, .ref (tb_nK + 23)), (1, iv v1), (2, iv v2)] [] s (Cv hT) (scp_addVariable v1 v2 s) := by
  unfold scp_addVariable
  refine e_mv 1 em_85 (ce_at ce_85 0 rfl) rfl rfl ?_
  refine e_getr 4 em_85 (ce_at ce_85 1 rfl) tq_23 rfl rfl ?_
  refine e_get 7 em_85 (ce_at ce_85 2 rfl) tq_33 rfl rfl ?_
  refine e_op 8 em_85 (ce_at ce_85 3 rfl) rfl rfl ?_
  refine e_isub 9 em_85 rfl (ce_at ce_85 4 rfl) ?_
  refine e_mv 10 em_85 (ce_at ce_85 5 rfl) rfl rfl ?_
  refine e_mv 11 em_85 (ce_at ce_85 6 rfl) rfl rfl ?_
  refine e_gd fun g1 => ?_
  refine e_ifge 15 14 em_85 rfl rfl (ce_at ce_85 7 rfl) g1 (fun h2 => ?_) (fun h2 => ?_)
  · refine e_mv 16 em_85 (ce_at ce_85 9 rfl) rfl rfl ?_
    refine e_getr 19 em_85 (ce_at ce_85 10 rfl) tq_23 rfl rfl ?_
    refine e_mv 20 em_85 (ce_at ce_85 11 rfl) rfl rfl ?_
    refine e_gd fun g3 => ?_
    refine e_ild 21 em_85 (ce_at ce_85 12 rfl) tq_40 (by decide) g3 rfl ?_
    refine e_mv 23 em_85 (ce_at ce_85 13 rfl) rfl rfl ?_
    refine e_mv 24 em_85 (ce_at ce_85 14 rfl) rfl rfl ?_
    refine e_getr 27 em_85 (ce_at ce_85 15 rfl) tq_23 rfl rfl ?_
    refine e_mv 28 em_85 (ce_at ce_85 16 rfl) rfl rfl ?_
    refine e_mv 29 em_85 (ce_at ce_85 17 rfl) rfl rfl ?_
    refine e_gd fun g4 => ?_
    refine e_ist 30 em_85 (ce_at ce_85 18 rfl) tq_36 (by decide) g4 rfl (fun s5 => ?_)
    refine e_mv 31 em_85 (ce_at ce_85 19 rfl) rfl rfl ?_
    refine e_getr 34 em_85 (ce_at ce_85 20 rfl) tq_23 rfl rfl ?_
    refine e_mv 35 em_85 (ce_at ce_85 21 rfl) rfl rfl ?_
    refine e_mv 36 em_85 (ce_at ce_85 22 rfl) rfl rfl ?_
    refine e_ist 37 em_85 (ce_at ce_85 23 rfl) tq_37 (by decide) g4 rfl (fun s6 => ?_)
    refine e_mv 38 em_85 (ce_at ce_85 24 rfl) rfl rfl ?_
    refine e_getr 41 em_85 (ce_at ce_85 25 rfl) tq_23 rfl rfl ?_
    refine e_mv 42 em_85 (ce_at ce_85 26 rfl) rfl rfl ?_
    refine e_mv 44 em_85 (ce_at ce_85 27 rfl) rfl rfl ?_
    refine e_ist 45 em_85 (ce_at ce_85 28 rfl) tq_39 (by decide) g4 rfl (fun s7 => ?_)
    refine e_mv 46 em_85 (ce_at ce_85 29 rfl) rfl rfl ?_
    refine e_getr 49 em_85 (ce_at ce_85 30 rfl) tq_23 rfl rfl ?_
    refine e_mv 50 em_85 (ce_at ce_85 31 rfl) rfl rfl ?_
    refine e_mv 51 em_85 (ce_at ce_85 32 rfl) rfl rfl ?_
    refine e_op 52 em_85 (ce_at ce_85 33 rfl) rfl rfl ?_
    refine e_gd fun g8 => ?_
    refine e_cmne 65 55 em_85 rfl rfl (ce_at ce_85 34 rfl) g8 (by decide) (fun h9 => ?_) (fun h9 => ?_)
    · refine e_mv 67 em_85 (ce_at ce_85 40 rfl) rfl rfl ?_
      refine e_pk [0, 1, 3, 4] rfl rfl ?_
      exact tscp_addVariable_67 w d hd _ _ _ _ _ _
    · refine e_mv 57 em_85 (ce_at ce_85 35 rfl) rfl rfl ?_
      refine e_mv 58 em_85 (ce_at ce_85 36 rfl) rfl rfl ?_
      refine e_get 61 em_85 (ce_at ce_85 37 rfl) tq_23 rfl rfl ?_
      refine e_isub 62 em_85 rfl (ce_at ce_85 38 rfl) ?_
      refine e_goto em_85 67 (ce_at ce_85 39 rfl) rfl ?_
      refine e_pk [0, 1, 3, 4] rfl rfl ?_
      exact tscp_addVariable_67 w d hd _ _ _ _ _ _
  · exact e_retv em_85 (ce_at ce_85 8 rfl)
theorem fscp_addVariable (v1 : Int) (v2 : Int) (s : iS) : Fm Prod.snd L_scp_addVariable G_scp_addVariable s (scp_addVariable v1 v2 s) := fm_gd (fm_if (fm_gd (fm_gd (fm_lt (md_upL (mem_L rfl)) (fun s5 => fm_lt (md_upL (mem_L rfl)) (fun s6 => fm_lt (md_upL (mem_L rfl)) (fun s7 => fm_gd (fm_if (fscp_addVariable_67 _ _ _ _ _ _) (fscp_addVariable_67 _ _ _ _ _ _)))))))) (fm_some md_refl))
/-! trl_declare -/
def L_trl_declare : List Nat := [34, 35, 36, 37, 38, 39, 40]
def G_trl_declare : List (Nat × Nat) := [(2, 12), (2, 13), (2, 14), (23, 15), (33, 2)]
noncomputable def trl_declare_103 (v1 : Int) (v2 : Int) (s : iS) : Option (Int × iS) := bd (tok_addTo 33 34 35 48 (s 2 12) s) (fun _ s1 => bd (scp_addVariable v1 v2 s1) (fun _ s2 => lt' (up s2 2 12 ((s2 2 12) + 1)) (fun s3 => some (0, s3))))
theorem ttrl_declare_103 (w : ev_W) (d : Nat) (hd : 2 ≤ d) (v1 : Int) (v2 : Int) (s : iS) : Ew hT w d 82 103 [(0, .ref (tb_nK + 22)), (1, iv v1), (2, iv v2)] [] s (Cv hT) (trl_declare_103 v1 v2 s) := by
  unfold trl_declare_103
  refine e_mv 104 em_82 (ce_at ce_82 48 rfl) rfl rfl ?_
  refine e_getr 107 em_82 (ce_at ce_82 49 rfl) tq_22 rfl rfl ?_
  refine e_mv 108 em_82 (ce_at ce_82 50 rfl) rfl rfl ?_
  refine e_getr 111 em_82 (ce_at ce_82 51 rfl) tq_22 rfl rfl ?_
  refine e_getr 114 em_82 (ce_at ce_82 52 rfl) tq_23 rfl rfl ?_
  refine e_mv 115 em_82 (ce_at ce_82 53 rfl) rfl rfl ?_
  refine e_getr 118 em_82 (ce_at ce_82 54 rfl) tq_22 rfl rfl ?_
  refine e_get 121 em_82 (ce_at ce_82 55 rfl) tq_2 rfl rfl ?_
  refine e_ivv 124 em_82 (ce_at ce_82 56 rfl) (by omega) (iv_v2 (by decide) tq_2 rfl) em_73 (Nat.le_of_ble_eq_true rfl) rfl (ttok_addTo w (d - 1) (by omega) 33 34 35 48 tq_33 tq_34 tq_35 (by decide) _ _) (fun r1 s1 => ?_)
  refine e_mv 125 em_82 (ce_at ce_82 57 rfl) rfl rfl ?_
  refine e_getr 128 em_82 (ce_at ce_82 58 rfl) tq_22 rfl rfl ?_
  refine e_mv 129 em_82 (ce_at ce_82 59 rfl) rfl rfl ?_
  refine e_mv 130 em_82 (ce_at ce_82 60 rfl) rfl rfl ?_
  refine e_ivv 133 em_82 (ce_at ce_82 61 rfl) (by omega) (iv_v2 (by decide) tq_23 rfl) em_85 (Nat.le_of_ble_eq_true rfl) rfl (tscp_addVariable w (d - 1) (by omega) _ _ _) (fun r2 s2 => ?_)
  refine e_mv 134 em_82 (ce_at ce_82 62 rfl) rfl rfl ?_
  refine e_getr 137 em_82 (ce_at ce_82 63 rfl) tq_22 rfl rfl ?_
  refine e_op 138 em_82 (ce_at ce_82 64 rfl) rfl rfl ?_
  refine e_get 141 em_82 (ce_at ce_82 65 rfl) tq_2 rfl rfl ?_
  refine e_op 142 em_82 (ce_at ce_82 66 rfl) rfl rfl ?_
  refine e_iadd 143 em_82 rfl (ce_at ce_82 67 rfl) ?_
  refine e_put 146 em_82 (ce_at ce_82 68 rfl) tq_2 rfl rfl rfl (fun s3 => ?_)
  exact e_retv em_82 (ce_at ce_82 69 rfl)
theorem ftrl_declare_103 (v1 : Int) (v2 : Int) (s : iS) : Fm Prod.snd L_trl_declare G_trl_declare s (trl_declare_103 v1 v2 s) := fm_bd (fm_sub (ftok_addTo 33 34 35 48 _ _) (mem_sub_L rfl) (mem_sub_F rfl)) (fun r1 s1 => fm_bd (fm_sub (fscp_addVariable _ _ _) (mem_sub_L rfl) (mem_sub_F rfl)) (fun r2 s2 => fm_lt (md_upF (mem_F rfl)) (fun s3 => fm_some md_refl)))
noncomputable def trl_declare (v1 : Int) (v2 : Int) (s : iS) : Option (Int × iS) := bd (tok_kind s) (fun r1 s1 => gd (rg r1) (if r1 = 3 then bd (scp_isFull v1 s1) (fun r4 s4 => gd (rg r4) (if r4 = 0 then bd (scp_firstRival v1 s4) (fun r7 s7 => gd (rg (s7 22 4)) (if (s7 22 4) = 0 then trl_declare_103 v1 v2 s7 else bd (tok_findIn 33 34 35 48 (s7 2 12) r7 48 s7) (fun r10 s10 => gd (rg r10) (if r10 = (-1) then trl_declare_103 v1 v2 s10 else bd (tok_blame 3 (s10 2 12) s10) (fun _ s13 => trl_declare_103 v1 v2 s13))))) else bd (tok_stop 2 s4) (fun _ s14 => some (0, s14)))) else bd (tok_stop 1 s1) (fun _ s15 => some (0, s15))))
theorem ttrl_declare (w : ev_W) (d : Nat) (hd : 2 ≤ d) (v1 : Int) (v2 : Int) (s : iS) : Ew hT w d 82 0 [(0, .ref (tb_nK + 22)), (1, iv v1), (2, iv v2)] [] s (Cv hT) (trl_declare v1 v2 s) := by
  unfold trl_declare
  refine e_mv 1 em_82 (ce_at ce_82 0 rfl) rfl rfl ?_
  refine e_getr 4 em_82 (ce_at ce_82 1 rfl) tq_22 rfl rfl ?_
  refine e_ivi 7 em_82 (ce_at ce_82 2 rfl) (by omega) (iv_v0 (by decide) tq_2 rfl) em_69 (Nat.le_of_ble_eq_true rfl) rfl (ttok_kind w (d - 1) (by omega) _) (fun r1 s1 => ?_)
  refine e_op 8 em_82 (ce_at ce_82 3 rfl) rfl rfl ?_
  refine e_gd fun g2 => ?_
  refine e_cmeq 22 11 em_82 rfl rfl (ce_at ce_82 4 rfl) g2 (by decide) (fun h3 => ?_) (fun h3 => ?_)
  · refine e_mv 23 em_82 (ce_at ce_82 10 rfl) rfl rfl ?_
    refine e_getr 26 em_82 (ce_at ce_82 11 rfl) tq_22 rfl rfl ?_
    refine e_mv 27 em_82 (ce_at ce_82 12 rfl) rfl rfl ?_
    refine e_ivi 30 em_82 (ce_at ce_82 13 rfl) (by omega) (iv_v1 (by decide) tq_23 rfl) em_83 (Nat.le_of_ble_eq_true rfl) rfl (tscp_isFull w (d - 1) (by omega) _ _) (fun r4 s4 => ?_)
    refine e_gd fun g5 => ?_
    refine e_ifeq 44 33 em_82 rfl rfl (ce_at ce_82 14 rfl) g5 (fun h6 => ?_) (fun h6 => ?_)
    · refine e_mv 45 em_82 (ce_at ce_82 20 rfl) rfl rfl ?_
      refine e_getr 48 em_82 (ce_at ce_82 21 rfl) tq_22 rfl rfl ?_
      refine e_mv 49 em_82 (ce_at ce_82 22 rfl) rfl rfl ?_
      refine e_ivi 52 em_82 (ce_at ce_82 23 rfl) (by omega) (iv_v1 (by decide) tq_23 rfl) em_84 (Nat.le_of_ble_eq_true rfl) rfl (tscp_firstRival w (d - 1) (by omega) _ _) (fun r7 s7 => ?_)
      refine e_mv 53 em_82 (ce_at ce_82 24 rfl) rfl rfl ?_
      refine e_mv 54 em_82 (ce_at ce_82 25 rfl) rfl rfl ?_
      refine e_get 57 em_82 (ce_at ce_82 26 rfl) tq_22 rfl rfl ?_
      refine e_gd fun g8 => ?_
      refine e_ifeq 103 60 em_82 rfl rfl (ce_at ce_82 27 rfl) g8 (fun h9 => ?_) (fun h9 => ?_)
      · refine e_pk [0, 1, 2] rfl rfl ?_
        exact ttrl_declare_103 w d hd _ _ _
      · refine e_mv 61 em_82 (ce_at ce_82 28 rfl) rfl rfl ?_
        refine e_getr 64 em_82 (ce_at ce_82 29 rfl) tq_22 rfl rfl ?_
        refine e_mv 65 em_82 (ce_at ce_82 30 rfl) rfl rfl ?_
        refine e_getr 68 em_82 (ce_at ce_82 31 rfl) tq_22 rfl rfl ?_
        refine e_getr 71 em_82 (ce_at ce_82 32 rfl) tq_23 rfl rfl ?_
        refine e_mv 72 em_82 (ce_at ce_82 33 rfl) rfl rfl ?_
        refine e_getr 75 em_82 (ce_at ce_82 34 rfl) tq_22 rfl rfl ?_
        refine e_get 78 em_82 (ce_at ce_82 35 rfl) tq_2 rfl rfl ?_
        refine e_mv 79 em_82 (ce_at ce_82 36 rfl) rfl rfl ?_
        refine e_bip 81 em_82 (ce_at ce_82 37 rfl) (by decide) rfl ?_
        refine e_ivi 84 em_82 (ce_at ce_82 38 rfl) (by omega) (iv_v4 (by decide) tq_2 rfl) em_76 (Nat.le_of_ble_eq_true rfl) rfl (ttok_findIn w (d - 1) (by omega) 33 34 35 48 tq_33 tq_34 tq_35 (by decide) _ _ _ _) (fun r10 s10 => ?_)
        refine e_op 85 em_82 (ce_at ce_82 39 rfl) rfl rfl ?_
        refine e_gd fun g11 => ?_
        refine e_cmeq 103 88 em_82 rfl rfl (ce_at ce_82 40 rfl) g11 (by decide) (fun h12 => ?_) (fun h12 => ?_)
        · refine e_pk [0, 1, 2] rfl rfl ?_
          exact ttrl_declare_103 w d hd _ _ _
        · refine e_mv 89 em_82 (ce_at ce_82 41 rfl) rfl rfl ?_
          refine e_getr 92 em_82 (ce_at ce_82 42 rfl) tq_22 rfl rfl ?_
          refine e_op 93 em_82 (ce_at ce_82 43 rfl) rfl rfl ?_
          refine e_mv 94 em_82 (ce_at ce_82 44 rfl) rfl rfl ?_
          refine e_getr 97 em_82 (ce_at ce_82 45 rfl) tq_22 rfl rfl ?_
          refine e_get 100 em_82 (ce_at ce_82 46 rfl) tq_2 rfl rfl ?_
          refine e_ivv 103 em_82 (ce_at ce_82 47 rfl) (by omega) (iv_v2 (by decide) tq_2 rfl) em_77 (Nat.le_of_ble_eq_true rfl) rfl (ttok_blame w (d - 1) (by omega) _ _ _) (fun r13 s13 => ?_)
          refine e_pk [0, 1, 2] rfl rfl ?_
          exact ttrl_declare_103 w d hd _ _ _
    · refine e_mv 34 em_82 (ce_at ce_82 15 rfl) rfl rfl ?_
      refine e_getr 37 em_82 (ce_at ce_82 16 rfl) tq_22 rfl rfl ?_
      refine e_op 38 em_82 (ce_at ce_82 17 rfl) rfl rfl ?_
      refine e_ivv 41 em_82 (ce_at ce_82 18 rfl) (by omega) (iv_v1 (by decide) tq_2 rfl) em_71 (Nat.le_of_ble_eq_true rfl) rfl (ttok_stop w (d - 1) (by omega) _ _) (fun r14 s14 => ?_)
      refine e_goto em_82 146 (ce_at ce_82 19 rfl) rfl ?_
      exact e_retv em_82 (ce_at ce_82 69 rfl)
  · refine e_mv 12 em_82 (ce_at ce_82 5 rfl) rfl rfl ?_
    refine e_getr 15 em_82 (ce_at ce_82 6 rfl) tq_22 rfl rfl ?_
    refine e_op 16 em_82 (ce_at ce_82 7 rfl) rfl rfl ?_
    refine e_ivv 19 em_82 (ce_at ce_82 8 rfl) (by omega) (iv_v1 (by decide) tq_2 rfl) em_71 (Nat.le_of_ble_eq_true rfl) rfl (ttok_stop w (d - 1) (by omega) _ _) (fun r15 s15 => ?_)
    refine e_goto em_82 146 (ce_at ce_82 9 rfl) rfl ?_
    exact e_retv em_82 (ce_at ce_82 69 rfl)
theorem ftrl_declare (v1 : Int) (v2 : Int) (s : iS) : Fm Prod.snd L_trl_declare G_trl_declare s (trl_declare v1 v2 s) := fm_bd (fm_sub (ftok_kind _) (mem_sub_L rfl) (mem_sub_F rfl)) (fun r1 s1 => fm_gd (fm_if (fm_bd (fm_sub (fscp_isFull _ _) (mem_sub_L rfl) (mem_sub_F rfl)) (fun r4 s4 => fm_gd (fm_if (fm_bd (fm_sub (fscp_firstRival _ _) (mem_sub_L rfl) (mem_sub_F rfl)) (fun r7 s7 => fm_gd (fm_if (ftrl_declare_103 _ _ _) (fm_bd (fm_sub (ftok_findIn 33 34 35 48 _ _ _ _) (mem_sub_L rfl) (mem_sub_F rfl)) (fun r10 s10 => fm_gd (fm_if (ftrl_declare_103 _ _ _) (fm_bd (fm_sub (ftok_blame _ _ _) (mem_sub_L rfl) (mem_sub_F rfl)) (fun r13 s13 => ftrl_declare_103 _ _ _)))))))) (fm_bd (fm_sub (ftok_stop _ _) (mem_sub_L rfl) (mem_sub_F rfl)) (fun r14 s14 => fm_some md_refl))))) (fm_bd (fm_sub (ftok_stop _ _) (mem_sub_L rfl) (mem_sub_F rfl)) (fun r15 s15 => fm_some md_refl))))
