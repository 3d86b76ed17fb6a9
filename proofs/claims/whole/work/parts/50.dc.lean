/-! what the methods do, as functions, and that the machine does it; printed by wip/whole/dc.py -/
/-! m_drop -/
def L_m_drop : List Nat := [176, 177]
def G_m_drop : List (Nat × Nat) := [(121, 81), (121, 99), (121, 100)]
def m_drop_2C (w : ev_W) (d : Nat) (v1 : Int) : (Int × iS) ⊕ ((Int × iS) ⊕ (iS)) → am_E → Prop := fun q r => q.elim (fun l => ev w d 394 2 ((fun l => [(0, .ref (tb_nK + 121)), (1, iv v1), (2, iv (l.1))]) l) [] (hT ((fun l => l.2) l)) r) (fun e => (fun e r => e.elim (fun e => ev w d 394 23 [(0, .ref (tb_nK + 121)), (2, iv (e.1))] [] (hT (e.2)) r) (fun e => ev w d 394 70 [(0, .ref (tb_nK + 121))] [] (hT (e)) r)) e r)
noncomputable def m_drop_2b (v1 : Int) (v2 : Int) (s : iS) : Option ((Int × iS) ⊕ ((Int × iS) ⊕ (iS))) := gd (rg v2) (gd (rg (s 121 81)) (if (s 121 81) ≤ v2 then some (.inr (.inr s)) else gd (0 ≤ v2 ∧ v2 < 100) (gd (rg (s 176 v2.toNat)) (gd (rg v1) (if (s 176 v2.toNat) = v1 then some (.inr (.inl (v2, s))) else some (.inl ((v2 + 1), s)))))))
theorem tm_drop_2b (w : ev_W) (d : Nat) (hd : 1 ≤ d) (v1 : Int) (v2 : Int) (s : iS) : Ew hT w d 394 2 [(0, .ref (tb_nK + 121)), (1, iv v1), (2, iv v2)] [] s (m_drop_2C w d v1) (m_drop_2b v1 v2 s) := by
  unfold m_drop_2b
  refine e_mv 3 em_394 (ce_at ce_394 2 rfl) rfl rfl ?_
  refine e_mv 4 em_394 (ce_at ce_394 3 rfl) rfl rfl ?_
  refine e_get 7 em_394 (ce_at ce_394 4 rfl) tq_121 rfl rfl ?_
  refine e_gd fun g1 => ?_
  refine e_gd fun g2 => ?_
  refine e_cmge 70 10 em_394 rfl rfl (ce_at ce_394 5 rfl) g1 g2 (fun h3 => ?_) (fun h3 => ?_)
  · refine e_pk [0] rfl rfl ?_
    exact e_out (fun r h => h)
  · refine e_mv 11 em_394 (ce_at ce_394 6 rfl) rfl rfl ?_
    refine e_getr 14 em_394 (ce_at ce_394 7 rfl) tq_121 rfl rfl ?_
    refine e_mv 15 em_394 (ce_at ce_394 8 rfl) rfl rfl ?_
    refine e_gd fun g4 => ?_
    refine e_ild 16 em_394 (ce_at ce_394 9 rfl) tq_176 (by decide) g4 rfl ?_
    refine e_mv 17 em_394 (ce_at ce_394 10 rfl) rfl rfl ?_
    refine e_gd fun g5 => ?_
    refine e_gd fun g6 => ?_
    refine e_cmeq 23 20 em_394 rfl rfl (ce_at ce_394 11 rfl) g5 g6 (fun h7 => ?_) (fun h7 => ?_)
    · refine e_pk [0, 2] rfl rfl ?_
      exact e_out (fun r h => h)
    · refine e_goto em_394 64 (ce_at ce_394 12 rfl) rfl ?_
      refine e_iinc 67 em_394 (ce_at ce_394 38 rfl) rfl (by decide) rfl ?_
      refine e_goto em_394 2 (ce_at ce_394 39 rfl) rfl ?_
      refine e_pk [0, 1, 2] rfl rfl ?_
      exact e_out (fun r h => h)
theorem fm_drop_2b (v1 : Int) (v2 : Int) (s : iS) : Fm (fun r : (Int × iS) ⊕ ((Int × iS) ⊕ (iS)) => r.elim (fun l => l.2) (fun e => e.elim (fun e => e.2) (fun e => e))) L_m_drop G_m_drop s (m_drop_2b v1 v2 s) := fm_gd (fm_gd (fm_if (fm_some md_refl) (fm_gd (fm_gd (fm_gd (fm_if (fm_some md_refl) (fm_some md_refl)))))))
noncomputable def m_drop_23 (v2 : Int) (s : iS) : Option (Int × iS) := lt' (up s 121 81 ((s 121 81) - 1)) (fun s1 => gd (0 ≤ (s1 121 81) ∧ (s1 121 81) < 100) (gd (0 ≤ v2 ∧ v2 < 100) (lt' (up s1 176 v2.toNat (s1 176 (s1 121 81).toNat)) (fun s4 => gd (0 ≤ (s4 121 81) ∧ (s4 121 81) < 100) (lt' (up s4 177 v2.toNat (s4 177 (s4 121 81).toNat)) (fun s6 => some (0, s6)))))))
theorem tm_drop_23 (w : ev_W) (d : Nat) (hd : 1 ≤ d) (v2 : Int) (s : iS) : Ew hT w d 394 23 [(0, .ref (tb_nK + 121)), (2, iv v2)] [] s (Cv hT) (m_drop_23 v2 s) := by
  unfold m_drop_23
  refine e_mv 24 em_394 (ce_at ce_394 13 rfl) rfl rfl ?_
  refine e_mv 25 em_394 (ce_at ce_394 14 rfl) rfl rfl ?_
  refine e_get 28 em_394 (ce_at ce_394 15 rfl) tq_121 rfl rfl ?_
  refine e_op 29 em_394 (ce_at ce_394 16 rfl) rfl rfl ?_
  refine e_isub 30 em_394 rfl (ce_at ce_394 17 rfl) ?_
  refine e_put 33 em_394 (ce_at ce_394 18 rfl) tq_121 rfl rfl rfl (fun s1 => ?_)
  refine e_mv 34 em_394 (ce_at ce_394 19 rfl) rfl rfl ?_
  refine e_getr 37 em_394 (ce_at ce_394 20 rfl) tq_121 rfl rfl ?_
  refine e_mv 38 em_394 (ce_at ce_394 21 rfl) rfl rfl ?_
  refine e_mv 39 em_394 (ce_at ce_394 22 rfl) rfl rfl ?_
  refine e_getr 42 em_394 (ce_at ce_394 23 rfl) tq_121 rfl rfl ?_
  refine e_mv 43 em_394 (ce_at ce_394 24 rfl) rfl rfl ?_
  refine e_get 46 em_394 (ce_at ce_394 25 rfl) tq_121 rfl rfl ?_
  refine e_gd fun g2 => ?_
  refine e_ild 47 em_394 (ce_at ce_394 26 rfl) tq_176 (by decide) g2 rfl ?_
  refine e_gd fun g3 => ?_
  refine e_ist 48 em_394 (ce_at ce_394 27 rfl) tq_176 (by decide) g3 rfl (fun s4 => ?_)
  refine e_mv 49 em_394 (ce_at ce_394 28 rfl) rfl rfl ?_
  refine e_getr 52 em_394 (ce_at ce_394 29 rfl) tq_121 rfl rfl ?_
  refine e_mv 53 em_394 (ce_at ce_394 30 rfl) rfl rfl ?_
  refine e_mv 54 em_394 (ce_at ce_394 31 rfl) rfl rfl ?_
  refine e_getr 57 em_394 (ce_at ce_394 32 rfl) tq_121 rfl rfl ?_
  refine e_mv 58 em_394 (ce_at ce_394 33 rfl) rfl rfl ?_
  refine e_get 61 em_394 (ce_at ce_394 34 rfl) tq_121 rfl rfl ?_
  refine e_gd fun g5 => ?_
  refine e_ild 62 em_394 (ce_at ce_394 35 rfl) tq_177 (by decide) g5 rfl ?_
  refine e_ist 63 em_394 (ce_at ce_394 36 rfl) tq_177 (by decide) g3 rfl (fun s6 => ?_)
  exact e_retv em_394 (ce_at ce_394 37 rfl)
theorem fm_drop_23 (v2 : Int) (s : iS) : Fm Prod.snd L_m_drop G_m_drop s (m_drop_23 v2 s) := fm_lt (md_upF (mem_F rfl)) (fun s1 => fm_gd (fm_gd (fm_lt (md_upL (mem_L rfl)) (fun s4 => fm_gd (fm_lt (md_upL (mem_L rfl)) (fun s6 => fm_some md_refl))))))
noncomputable def m_drop_70 (s : iS) : Option (Int × iS) := bd (m_err 21 s) (fun _ s1 => some (0, s1))
theorem tm_drop_70 (w : ev_W) (d : Nat) (hd : 1 ≤ d) (s : iS) : Ew hT w d 394 70 [(0, .ref (tb_nK + 121))] [] s (Cv hT) (m_drop_70 s) := by
  unfold m_drop_70
  refine e_mv 71 em_394 (ce_at ce_394 40 rfl) rfl rfl ?_
  refine e_bip 73 em_394 (ce_at ce_394 41 rfl) (by decide) rfl ?_
  refine e_ivv 76 em_394 (ce_at ce_394 42 rfl) (by omega) (iv_v1 (by decide) tq_121 rfl) em_376 (Nat.le_of_ble_eq_true rfl) rfl (tm_err w (d - 1) (by omega) _ _) (fun r1 s1 => ?_)
  exact e_retv em_394 (ce_at ce_394 43 rfl)
theorem fm_drop_70 (s : iS) : Fm Prod.snd L_m_drop G_m_drop s (m_drop_70 s) := fm_bd (fm_sub (fm_err _ _) (mem_sub_L rfl) (mem_sub_F rfl)) (fun r1 s1 => fm_some md_refl)
noncomputable def m_drop_2 (v1 : Int) (v2 : Int) (s : iS) : Option (Int × iS) := (lp (L := Int × iS) (E := (Int × iS) ⊕ (iS)) (fun l => m_drop_2b v1 (l.1) (l.2)) (v2, s)).bind (fun e => e.elim (fun e => m_drop_23 (e.1) (e.2)) (fun e => m_drop_70 e))
theorem tm_drop_2 (w : ev_W) (d : Nat) (hd : 1 ≤ d) (v1 : Int) (v2 : Int) (s : iS) : Ew hT w d 394 2 [(0, .ref (tb_nK + 121)), (1, iv v1), (2, iv v2)] [] s (Cv hT) (m_drop_2 v1 v2 s) := by
  unfold m_drop_2
  refine e_lp (L := Int × iS) (E := (Int × iS) ⊕ (iS)) (LO := fun l => [(0, .ref (tb_nK + 121)), (1, iv v1), (2, iv (l.1))]) (LS := fun l => l.2) (CE := fun e r => e.elim (fun e => ev w d 394 23 [(0, .ref (tb_nK + 121)), (2, iv (e.1))] [] (hT (e.2)) r) (fun e => ev w d 394 70 [(0, .ref (tb_nK + 121))] [] (hT (e)) r)) (fun l => tm_drop_2b w d hd _ _ _) ?_ (v2, s)
  rintro (e | e)
  · show Ew hT w d 394 23 [(0, .ref (tb_nK + 121)), (2, iv (e.1))] [] e.2 (Cv hT) _
    refine e_pk [0, 2] rfl rfl ?_
    exact tm_drop_23 w d hd _ _
  · show Ew hT w d 394 70 [(0, .ref (tb_nK + 121))] [] e (Cv hT) _
    refine e_pk [0] rfl rfl ?_
    exact tm_drop_70 w d hd _
theorem fm_drop_2 (v1 : Int) (v2 : Int) (s : iS) : Fm Prod.snd L_m_drop G_m_drop s (m_drop_2 v1 v2 s) := by
  unfold m_drop_2
  refine fm_lp (A := Int × iS) (E := (Int × iS) ⊕ (iS)) (LS := fun l => l.2) (LE := fun e => e.elim (fun e => e.2) (fun e => e)) ?_ ?_ (v2, s)
  · exact fun l => fm_drop_2b _ _ _
  · exact (by rintro (e | e); exact fm_drop_23 _ _; exact fm_drop_70 _)
noncomputable def m_drop (v1 : Int) (s : iS) : Option (Int × iS) := m_drop_2 v1 0 s
theorem tm_drop (w : ev_W) (d : Nat) (hd : 1 ≤ d) (v1 : Int) (s : iS) : Ew hT w d 394 0 [(0, .ref (tb_nK + 121)), (1, iv v1)] [] s (Cv hT) (m_drop v1 s) := by
  unfold m_drop
  refine e_op 1 em_394 (ce_at ce_394 0 rfl) rfl rfl ?_
  refine e_mv 2 em_394 (ce_at ce_394 1 rfl) rfl rfl ?_
  refine e_pk [0, 1, 2] rfl rfl ?_
  exact tm_drop_2 w d hd _ _ _
theorem fm_drop (v1 : Int) (s : iS) : Fm Prod.snd L_m_drop G_m_drop s (m_drop v1 s) := fm_drop_2 _ _ _
/-! m_memories -/
def L_m_memories : List Nat := [175, 176, 177]
def G_m_memories : List (Nat × Nat) := [(121, 81), (121, 99), (121, 100)]
noncomputable def m_memories (v1 : Int) (s : iS) : Option (Int × iS) := gd (rg v1) (if v1 = 0 then bd (m_read (s 188 0) s) (fun r3 s3 => some (r3, s3)) else if v1 = 1 then bd (m_write (s 188 0) (s 188 1) s) (fun _ s5 => some (0, s5)) else if v1 = 2 then bd (m_make (s 188 0) s) (fun r7 s7 => some (r7, s7)) else bd (m_drop (s 188 0) s) (fun _ s8 => some (0, s8)))
theorem tm_memories (w : ev_W) (d : Nat) (hd : 2 ≤ d) (v1 : Int) (s : iS) : Ew hT w d 393 0 [(0, .ref (tb_nK + 121)), (1, iv v1)] [] s (Ci hT) (m_memories v1 s) := by
  unfold m_memories
  refine e_mv 1 em_393 (ce_at ce_393 0 rfl) rfl rfl ?_
  refine e_gd fun g1 => ?_
  refine e_case 0 (fun h2 => ?_) (fun h2 => ?_)
  · refine e_sw em_393 28 (ce_at ce_393 1 rfl) (sw_in g1 (by omega) (by subst h2; rfl)) rfl ?_
    refine e_mv 29 em_393 (ce_at ce_393 2 rfl) rfl rfl ?_
    refine e_mv 30 em_393 (ce_at ce_393 3 rfl) rfl rfl ?_
    refine e_getr 33 em_393 (ce_at ce_393 4 rfl) tq_121 rfl rfl ?_
    refine e_op 34 em_393 (ce_at ce_393 5 rfl) rfl rfl ?_
    refine e_ild 35 em_393 (ce_at ce_393 6 rfl) tq_188 (by decide) (by decide) rfl ?_
    refine e_ivi 38 em_393 (ce_at ce_393 7 rfl) (by omega) (iv_v1 (by decide) tq_121 rfl) em_386 (Nat.le_of_ble_eq_true rfl) rfl (tm_read w (d - 1) (by omega) _ _) (fun r3 s3 => ?_)
    exact e_reti em_393 (ce_at ce_393 8 rfl)
  refine e_case 1 (fun h4 => ?_) (fun h4 => ?_)
  · refine e_sw em_393 39 (ce_at ce_393 1 rfl) (sw_in g1 (by omega) (by subst h4; rfl)) rfl ?_
    refine e_mv 40 em_393 (ce_at ce_393 9 rfl) rfl rfl ?_
    refine e_mv 41 em_393 (ce_at ce_393 10 rfl) rfl rfl ?_
    refine e_getr 44 em_393 (ce_at ce_393 11 rfl) tq_121 rfl rfl ?_
    refine e_op 45 em_393 (ce_at ce_393 12 rfl) rfl rfl ?_
    refine e_ild 46 em_393 (ce_at ce_393 13 rfl) tq_188 (by decide) (by decide) rfl ?_
    refine e_mv 47 em_393 (ce_at ce_393 14 rfl) rfl rfl ?_
    refine e_getr 50 em_393 (ce_at ce_393 15 rfl) tq_121 rfl rfl ?_
    refine e_op 51 em_393 (ce_at ce_393 16 rfl) rfl rfl ?_
    refine e_ild 52 em_393 (ce_at ce_393 17 rfl) tq_188 (by decide) (by decide) rfl ?_
    refine e_ivv 55 em_393 (ce_at ce_393 18 rfl) (by omega) (iv_v2 (by decide) tq_121 rfl) em_383 (Nat.le_of_ble_eq_true rfl) rfl (tm_write w (d - 1) (by omega) _ _ _) (fun r5 s5 => ?_)
    refine e_op 56 em_393 (ce_at ce_393 19 rfl) rfl rfl ?_
    exact e_reti em_393 (ce_at ce_393 20 rfl)
  refine e_case 2 (fun h6 => ?_) (fun h6 => ?_)
  · refine e_sw em_393 57 (ce_at ce_393 1 rfl) (sw_in g1 (by omega) (by subst h6; rfl)) rfl ?_
    refine e_mv 58 em_393 (ce_at ce_393 21 rfl) rfl rfl ?_
    refine e_mv 59 em_393 (ce_at ce_393 22 rfl) rfl rfl ?_
    refine e_getr 62 em_393 (ce_at ce_393 23 rfl) tq_121 rfl rfl ?_
    refine e_op 63 em_393 (ce_at ce_393 24 rfl) rfl rfl ?_
    refine e_ild 64 em_393 (ce_at ce_393 25 rfl) tq_188 (by decide) (by decide) rfl ?_
    refine e_ivi 67 em_393 (ce_at ce_393 26 rfl) (by omega) (iv_v1 (by decide) tq_121 rfl) em_375 (Nat.le_of_ble_eq_true rfl) rfl (tm_make w (d - 1) (by omega) _ _) (fun r7 s7 => ?_)
    exact e_reti em_393 (ce_at ce_393 27 rfl)
  refine e_sw em_393 68 (ce_at ce_393 1 rfl) (sw_out g1 (by omega)) rfl ?_
  refine e_mv 69 em_393 (ce_at ce_393 28 rfl) rfl rfl ?_
  refine e_mv 70 em_393 (ce_at ce_393 29 rfl) rfl rfl ?_
  refine e_getr 73 em_393 (ce_at ce_393 30 rfl) tq_121 rfl rfl ?_
  refine e_op 74 em_393 (ce_at ce_393 31 rfl) rfl rfl ?_
  refine e_ild 75 em_393 (ce_at ce_393 32 rfl) tq_188 (by decide) (by decide) rfl ?_
  refine e_ivv 78 em_393 (ce_at ce_393 33 rfl) (by omega) (iv_v1 (by decide) tq_121 rfl) em_394 (Nat.le_of_ble_eq_true rfl) rfl (tm_drop w (d - 1) (by omega) _ _) (fun r8 s8 => ?_)
  refine e_op 79 em_393 (ce_at ce_393 34 rfl) rfl rfl ?_
  exact e_reti em_393 (ce_at ce_393 35 rfl)
theorem fm_memories (v1 : Int) (s : iS) : Fm Prod.snd L_m_memories G_m_memories s (m_memories v1 s) := fm_gd (fm_if (fm_bd (fm_sub (fm_read _ _) (mem_sub_L rfl) (mem_sub_F rfl)) (fun r3 s3 => fm_some md_refl)) (fm_if (fm_bd (fm_sub (fm_write _ _ _) (mem_sub_L rfl) (mem_sub_F rfl)) (fun r5 s5 => fm_some md_refl)) (fm_if (fm_bd (fm_sub (fm_make _ _) (mem_sub_L rfl) (mem_sub_F rfl)) (fun r7 s7 => fm_some md_refl)) (fm_bd (fm_sub (fm_drop _ _) (mem_sub_L rfl) (mem_sub_F rfl)) (fun r8 s8 => fm_some md_refl)))))
/-! m_charAt -/
def L_m_charAt : List Nat := []
def G_m_charAt : List (Nat × Nat) := [(121, 99), (121, 100)]
noncomputable def m_charAt_35 (v1 : Int) (v2 : Int) (s : iS) : Option (Int × iS) := gd (rg (s 121 99)) (if (s 121 99) = (-1) then bd (m_read ((v1 + 2) + v2) s) (fun r3 s3 => some (r3, s3)) else some (0, s))
theorem tm_charAt_35 (w : ev_W) (d : Nat) (hd : 2 ≤ d) (v1 : Int) (v2 : Int) (s : iS) : Ew hT w d 396 35 [(0, .ref (tb_nK + 121)), (1, iv v1), (2, iv v2)] [] s (Ci hT) (m_charAt_35 v1 v2 s) := by
  unfold m_charAt_35
  refine e_mv 36 em_396 (ce_at ce_396 19 rfl) rfl rfl ?_
  refine e_get 39 em_396 (ce_at ce_396 20 rfl) tq_121 rfl rfl ?_
  refine e_op 40 em_396 (ce_at ce_396 21 rfl) rfl rfl ?_
  refine e_gd fun g1 => ?_
  refine e_cmne 55 43 em_396 rfl rfl (ce_at ce_396 22 rfl) g1 (by decide) (fun h2 => ?_) (fun h2 => ?_)
  · refine e_op 56 em_396 (ce_at ce_396 31 rfl) rfl rfl ?_
    exact e_reti em_396 (ce_at ce_396 32 rfl)
  · refine e_mv 44 em_396 (ce_at ce_396 23 rfl) rfl rfl ?_
    refine e_mv 45 em_396 (ce_at ce_396 24 rfl) rfl rfl ?_
    refine e_op 46 em_396 (ce_at ce_396 25 rfl) rfl rfl ?_
    refine e_iadd 47 em_396 rfl (ce_at ce_396 26 rfl) ?_
    refine e_mv 48 em_396 (ce_at ce_396 27 rfl) rfl rfl ?_
    refine e_iadd 49 em_396 rfl (ce_at ce_396 28 rfl) ?_
    refine e_ivi 52 em_396 (ce_at ce_396 29 rfl) (by omega) (iv_v1 (by decide) tq_121 rfl) em_386 (Nat.le_of_ble_eq_true rfl) rfl (tm_read w (d - 1) (by omega) _ _) (fun r3 s3 => ?_)
    refine e_goto em_396 56 (ce_at ce_396 30 rfl) rfl ?_
    exact e_reti em_396 (ce_at ce_396 32 rfl)
theorem fm_charAt_35 (v1 : Int) (v2 : Int) (s : iS) : Fm Prod.snd L_m_charAt G_m_charAt s (m_charAt_35 v1 v2 s) := fm_gd (fm_if (fm_bd (fm_sub (fm_read _ _) (mem_sub_L rfl) (mem_sub_F rfl)) (fun r3 s3 => fm_some md_refl)) (fm_some md_refl))
noncomputable def m_charAt_10 (v1 : Int) (v2 : Int) (s : iS) : Option (Int × iS) := gd (rg (s 121 99)) (if (s 121 99) = (-1) then bd (m_read (v1 + 1) s) (fun r3 s3 => gd (rg v2) (gd (rg r3) (if v2 < r3 then m_charAt_35 v1 v2 s3 else bd (m_err 15 s3) (fun _ s7 => m_charAt_35 v1 v2 s7)))) else m_charAt_35 v1 v2 s)
theorem tm_charAt_10 (w : ev_W) (d : Nat) (hd : 2 ≤ d) (v1 : Int) (v2 : Int) (s : iS) : Ew hT w d 396 10 [(0, .ref (tb_nK + 121)), (1, iv v1), (2, iv v2)] [] s (Ci hT) (m_charAt_10 v1 v2 s) := by
  unfold m_charAt_10
  refine e_mv 11 em_396 (ce_at ce_396 5 rfl) rfl rfl ?_
  refine e_get 14 em_396 (ce_at ce_396 6 rfl) tq_121 rfl rfl ?_
  refine e_op 15 em_396 (ce_at ce_396 7 rfl) rfl rfl ?_
  refine e_gd fun g1 => ?_
  refine e_cmne 35 18 em_396 rfl rfl (ce_at ce_396 8 rfl) g1 (by decide) (fun h2 => ?_) (fun h2 => ?_)
  · refine e_pk [0, 1, 2] rfl rfl ?_
    exact tm_charAt_35 w d hd _ _ _
  · refine e_mv 19 em_396 (ce_at ce_396 9 rfl) rfl rfl ?_
    refine e_mv 20 em_396 (ce_at ce_396 10 rfl) rfl rfl ?_
    refine e_mv 21 em_396 (ce_at ce_396 11 rfl) rfl rfl ?_
    refine e_op 22 em_396 (ce_at ce_396 12 rfl) rfl rfl ?_
    refine e_iadd 23 em_396 rfl (ce_at ce_396 13 rfl) ?_
    refine e_ivi 26 em_396 (ce_at ce_396 14 rfl) (by omega) (iv_v1 (by decide) tq_121 rfl) em_386 (Nat.le_of_ble_eq_true rfl) rfl (tm_read w (d - 1) (by omega) _ _) (fun r3 s3 => ?_)
    refine e_gd fun g4 => ?_
    refine e_gd fun g5 => ?_
    refine e_cmlt 35 29 em_396 rfl rfl (ce_at ce_396 15 rfl) g4 g5 (fun h6 => ?_) (fun h6 => ?_)
    · refine e_pk [0, 1, 2] rfl rfl ?_
      exact tm_charAt_35 w d hd _ _ _
    · refine e_mv 30 em_396 (ce_at ce_396 16 rfl) rfl rfl ?_
      refine e_bip 32 em_396 (ce_at ce_396 17 rfl) (by decide) rfl ?_
      refine e_ivv 35 em_396 (ce_at ce_396 18 rfl) (by omega) (iv_v1 (by decide) tq_121 rfl) em_376 (Nat.le_of_ble_eq_true rfl) rfl (tm_err w (d - 1) (by omega) _ _) (fun r7 s7 => ?_)
      refine e_pk [0, 1, 2] rfl rfl ?_
      exact tm_charAt_35 w d hd _ _ _
theorem fm_charAt_10 (v1 : Int) (v2 : Int) (s : iS) : Fm Prod.snd L_m_charAt G_m_charAt s (m_charAt_10 v1 v2 s) := fm_gd (fm_if (fm_bd (fm_sub (fm_read _ _) (mem_sub_L rfl) (mem_sub_F rfl)) (fun r3 s3 => fm_gd (fm_gd (fm_if (fm_charAt_35 _ _ _) (fm_bd (fm_sub (fm_err _ _) (mem_sub_L rfl) (mem_sub_F rfl)) (fun r7 s7 => fm_charAt_35 _ _ _)))))) (fm_charAt_35 _ _ _))
noncomputable def m_charAt (v1 : Int) (v2 : Int) (s : iS) : Option (Int × iS) := gd (rg v2) (if 0 ≤ v2 then m_charAt_10 v1 v2 s else bd (m_err 15 s) (fun _ s3 => m_charAt_10 v1 v2 s3))
theorem tm_charAt (w : ev_W) (d : Nat) (hd : 2 ≤ d) (v1 : Int) (v2 : Int) (s : iS) : Ew hT w d 396 0 [(0, .ref (tb_nK + 121)), (1, iv v1), (2, iv v2)] [] s (Ci hT) (m_charAt v1 v2 s) := by
  unfold m_charAt
  refine e_mv 1 em_396 (ce_at ce_396 0 rfl) rfl rfl ?_
  refine e_gd fun g1 => ?_
  refine e_ifge 10 4 em_396 rfl rfl (ce_at ce_396 1 rfl) g1 (fun h2 => ?_) (fun h2 => ?_)
  · refine e_pk [0, 1, 2] rfl rfl ?_
    exact tm_charAt_10 w d hd _ _ _
  · refine e_mv 5 em_396 (ce_at ce_396 2 rfl) rfl rfl ?_
    refine e_bip 7 em_396 (ce_at ce_396 3 rfl) (by decide) rfl ?_
    refine e_ivv 10 em_396 (ce_at ce_396 4 rfl) (by omega) (iv_v1 (by decide) tq_121 rfl) em_376 (Nat.le_of_ble_eq_true rfl) rfl (tm_err w (d - 1) (by omega) _ _) (fun r3 s3 => ?_)
    refine e_pk [0, 1, 2] rfl rfl ?_
    exact tm_charAt_10 w d hd _ _ _
theorem fm_charAt (v1 : Int) (v2 : Int) (s : iS) : Fm Prod.snd L_m_charAt G_m_charAt s (m_charAt v1 v2 s) := fm_gd (fm_if (fm_charAt_10 _ _ _) (fm_bd (fm_sub (fm_err _ _) (mem_sub_L rfl) (mem_sub_F rfl)) (fun r3 s3 => fm_charAt_10 _ _ _)))
/-! m_intValue -/
def L_m_intValue : List Nat := []
def G_m_intValue : List (Nat × Nat) := [(121, 99), (121, 100)]
def m_intValue_48C (w : ev_W) (d : Nat) (v1 : Int) (v2 : Int) (v4 : Int) : (Int × Int × Int × iS) ⊕ (Int × iS) → am_E → Prop := fun q r => q.elim (fun l => ev w d 397 48 ((fun l => [(0, .ref (tb_nK + 121)), (1, iv v1), (2, iv v2), (3, iv (l.1)), (4, iv v4), (5, iv (l.2.1)), (6, iv (l.2.2.1))]) l) [] (hT ((fun l => l.2.2.2) l)) r) (fun e => (fun e r => ev w d 397 134 [(4, iv v4), (5, iv (e.1))] [] (hT (e.2)) r) e r)
noncomputable def m_intValue_104 (v1 : Int) (v2 : Int) (v3 : Int) (v4 : Int) (v5 : Int) (v7 : Int) (t0 : Int) (s : iS) : Option ((Int × Int × Int × iS) ⊕ (Int × iS)) := gd (rg t0) (if t0 = 0 then some (.inl ((v3 + 1), v5, t0, s)) else bd (m_word16 (((10 * v5) + v7) - 48) s) (fun r3 s3 => some (.inl ((v3 + 1), r3, t0, s3))))
theorem tm_intValue_104 (w : ev_W) (d : Nat) (hd : 2 ≤ d) (v1 : Int) (v2 : Int) (v3 : Int) (v4 : Int) (v5 : Int) (v7 : Int) (t0 : Int) (s : iS) : Ew hT w d 397 104 [(0, .ref (tb_nK + 121)), (1, iv v1), (2, iv v2), (3, iv v3), (4, iv v4), (5, iv v5), (7, iv v7)] [iv t0] s (m_intValue_48C w d v1 v2 v4) (m_intValue_104 v1 v2 v3 v4 v5 v7 t0 s) := by
  unfold m_intValue_104
  refine e_mv 106 em_397 (ce_at ce_397 61 rfl) rfl rfl ?_
  refine e_mv 108 em_397 (ce_at ce_397 62 rfl) rfl rfl ?_
  refine e_gd fun g1 => ?_
  refine e_ifeq 127 111 em_397 rfl rfl (ce_at ce_397 63 rfl) g1 (fun h2 => ?_) (fun h2 => ?_)
  · refine e_mv 128 em_397 (ce_at ce_397 73 rfl) rfl rfl ?_
    refine e_op 129 em_397 (ce_at ce_397 74 rfl) rfl rfl ?_
    refine e_iadd 130 em_397 rfl (ce_at ce_397 75 rfl) ?_
    refine e_mv 131 em_397 (ce_at ce_397 76 rfl) rfl rfl ?_
    refine e_goto em_397 48 (ce_at ce_397 77 rfl) rfl ?_
    refine e_pk [0, 1, 2, 3, 4, 5, 6] rfl rfl ?_
    exact e_out (fun r h => h)
  · refine e_bip 113 em_397 (ce_at ce_397 64 rfl) (by decide) rfl ?_
    refine e_mv 115 em_397 (ce_at ce_397 65 rfl) rfl rfl ?_
    refine e_imul 116 em_397 rfl (ce_at ce_397 66 rfl) ?_
    refine e_mv 118 em_397 (ce_at ce_397 67 rfl) rfl rfl ?_
    refine e_iadd 119 em_397 rfl (ce_at ce_397 68 rfl) ?_
    refine e_bip 121 em_397 (ce_at ce_397 69 rfl) (by decide) rfl ?_
    refine e_isub 122 em_397 rfl (ce_at ce_397 70 rfl) ?_
    refine e_ivi 125 em_397 (ce_at ce_397 71 rfl) (by omega) (iv_s1 rfl) em_380 (Nat.le_of_ble_eq_true rfl) rfl (tm_word16 hT w (d - 1) (by omega) _ _) (fun r3 s3 => ?_)
    refine e_mv 127 em_397 (ce_at ce_397 72 rfl) rfl rfl ?_
    refine e_mv 128 em_397 (ce_at ce_397 73 rfl) rfl rfl ?_
    refine e_op 129 em_397 (ce_at ce_397 74 rfl) rfl rfl ?_
    refine e_iadd 130 em_397 rfl (ce_at ce_397 75 rfl) ?_
    refine e_mv 131 em_397 (ce_at ce_397 76 rfl) rfl rfl ?_
    refine e_goto em_397 48 (ce_at ce_397 77 rfl) rfl ?_
    refine e_pk [0, 1, 2, 3, 4, 5, 6] rfl rfl ?_
    exact e_out (fun r h => h)
theorem fm_intValue_104 (v1 : Int) (v2 : Int) (v3 : Int) (v4 : Int) (v5 : Int) (v7 : Int) (t0 : Int) (s : iS) : Fm (fun r : (Int × Int × Int × iS) ⊕ (Int × iS) => r.elim (fun l => l.2.2.2) (fun e => e.2)) L_m_intValue G_m_intValue s (m_intValue_104 v1 v2 v3 v4 v5 v7 t0 s) := fm_gd (fm_if (fm_some md_refl) (fm_bd (fm_sub (fm_word16 _ _) (mem_sub_L rfl) (mem_sub_F rfl)) (fun r3 s3 => fm_some md_refl)))
noncomputable def m_intValue_103 (v1 : Int) (v2 : Int) (v3 : Int) (v4 : Int) (v5 : Int) (v7 : Int) (s : iS) : Option ((Int × Int × Int × iS) ⊕ (Int × iS)) := m_intValue_104 v1 v2 v3 v4 v5 v7 0 s
theorem tm_intValue_103 (w : ev_W) (d : Nat) (hd : 2 ≤ d) (v1 : Int) (v2 : Int) (v3 : Int) (v4 : Int) (v5 : Int) (v7 : Int) (s : iS) : Ew hT w d 397 103 [(0, .ref (tb_nK + 121)), (1, iv v1), (2, iv v2), (3, iv v3), (4, iv v4), (5, iv v5), (7, iv v7)] [] s (m_intValue_48C w d v1 v2 v4) (m_intValue_103 v1 v2 v3 v4 v5 v7 s) := by
  unfold m_intValue_103
  refine e_op 104 em_397 (ce_at ce_397 60 rfl) rfl rfl ?_
  refine e_pk [0, 1, 2, 3, 4, 5, 7] rfl rfl ?_
  exact tm_intValue_104 w d hd _ _ _ _ _ _ _ _
theorem fm_intValue_103 (v1 : Int) (v2 : Int) (v3 : Int) (v4 : Int) (v5 : Int) (v7 : Int) (s : iS) : Fm (fun r : (Int × Int × Int × iS) ⊕ (Int × iS) => r.elim (fun l => l.2.2.2) (fun e => e.2)) L_m_intValue G_m_intValue s (m_intValue_103 v1 v2 v3 v4 v5 v7 s) := fm_intValue_104 _ _ _ _ _ _ _ _
noncomputable def m_intValue_48b (v1 : Int) (v2 : Int) (v3 : Int) (v4 : Int) (v5 : Int) (v6 : Int) (s : iS) : Option ((Int × Int × Int × iS) ⊕ (Int × iS)) := gd (rg v6) (if v6 = 0 then some (.inr (v5, s)) else gd (rg (s 121 99)) (if (s 121 99) = (-1) then gd (rg v3) (gd (rg v2) (if v2 ≤ v3 then some (.inr (v5, s)) else bd (m_read ((v1 + 2) + v3) s) (fun r8 s8 => gd (rg (s8 121 99)) (if (s8 121 99) = (-1) then gd (rg r8) (if r8 < 48 then m_intValue_103 v1 v2 v3 v4 v5 r8 s8 else if 57 < r8 then m_intValue_103 v1 v2 v3 v4 v5 r8 s8 else m_intValue_104 v1 v2 v3 v4 v5 r8 1 s8) else m_intValue_103 v1 v2 v3 v4 v5 r8 s8)))) else some (.inr (v5, s))))
theorem tm_intValue_48b (w : ev_W) (d : Nat) (hd : 2 ≤ d) (v1 : Int) (v2 : Int) (v3 : Int) (v4 : Int) (v5 : Int) (v6 : Int) (s : iS) : Ew hT w d 397 48 [(0, .ref (tb_nK + 121)), (1, iv v1), (2, iv v2), (3, iv v3), (4, iv v4), (5, iv v5), (6, iv v6)] [] s (m_intValue_48C w d v1 v2 v4) (m_intValue_48b v1 v2 v3 v4 v5 v6 s) := by
  unfold m_intValue_48b
  refine e_mv 50 em_397 (ce_at ce_397 31 rfl) rfl rfl ?_
  refine e_gd fun g1 => ?_
  refine e_ifeq 134 53 em_397 rfl rfl (ce_at ce_397 32 rfl) g1 (fun h2 => ?_) (fun h2 => ?_)
  · refine e_pk [4, 5] rfl rfl ?_
    exact e_out (fun r h => h)
  · refine e_mv 54 em_397 (ce_at ce_397 33 rfl) rfl rfl ?_
    refine e_get 57 em_397 (ce_at ce_397 34 rfl) tq_121 rfl rfl ?_
    refine e_op 58 em_397 (ce_at ce_397 35 rfl) rfl rfl ?_
    refine e_gd fun g3 => ?_
    refine e_cmne 134 61 em_397 rfl rfl (ce_at ce_397 36 rfl) g3 (by decide) (fun h4 => ?_) (fun h4 => ?_)
    · refine e_pk [4, 5] rfl rfl ?_
      exact e_out (fun r h => h)
    · refine e_mv 62 em_397 (ce_at ce_397 37 rfl) rfl rfl ?_
      refine e_mv 63 em_397 (ce_at ce_397 38 rfl) rfl rfl ?_
      refine e_gd fun g5 => ?_
      refine e_gd fun g6 => ?_
      refine e_cmge 134 66 em_397 rfl rfl (ce_at ce_397 39 rfl) g5 g6 (fun h7 => ?_) (fun h7 => ?_)
      · refine e_pk [4, 5] rfl rfl ?_
        exact e_out (fun r h => h)
      · refine e_mv 67 em_397 (ce_at ce_397 40 rfl) rfl rfl ?_
        refine e_mv 68 em_397 (ce_at ce_397 41 rfl) rfl rfl ?_
        refine e_op 69 em_397 (ce_at ce_397 42 rfl) rfl rfl ?_
        refine e_iadd 70 em_397 rfl (ce_at ce_397 43 rfl) ?_
        refine e_mv 71 em_397 (ce_at ce_397 44 rfl) rfl rfl ?_
        refine e_iadd 72 em_397 rfl (ce_at ce_397 45 rfl) ?_
        refine e_ivi 75 em_397 (ce_at ce_397 46 rfl) (by omega) (iv_v1 (by decide) tq_121 rfl) em_386 (Nat.le_of_ble_eq_true rfl) rfl (tm_read w (d - 1) (by omega) _ _) (fun r8 s8 => ?_)
        refine e_mv 77 em_397 (ce_at ce_397 47 rfl) rfl rfl ?_
        refine e_mv 78 em_397 (ce_at ce_397 48 rfl) rfl rfl ?_
        refine e_get 81 em_397 (ce_at ce_397 49 rfl) tq_121 rfl rfl ?_
        refine e_op 82 em_397 (ce_at ce_397 50 rfl) rfl rfl ?_
        refine e_gd fun g9 => ?_
        refine e_cmne 103 85 em_397 rfl rfl (ce_at ce_397 51 rfl) g9 (by decide) (fun h10 => ?_) (fun h10 => ?_)
        · refine e_pk [0, 1, 2, 3, 4, 5, 7] rfl rfl ?_
          exact tm_intValue_103 w d hd _ _ _ _ _ _ _
        · refine e_mv 87 em_397 (ce_at ce_397 52 rfl) rfl rfl ?_
          refine e_bip 89 em_397 (ce_at ce_397 53 rfl) (by decide) rfl ?_
          refine e_gd fun g11 => ?_
          refine e_cmlt 103 92 em_397 rfl rfl (ce_at ce_397 54 rfl) g11 (by decide) (fun h12 => ?_) (fun h12 => ?_)
          · refine e_pk [0, 1, 2, 3, 4, 5, 7] rfl rfl ?_
            exact tm_intValue_103 w d hd _ _ _ _ _ _ _
          · refine e_mv 94 em_397 (ce_at ce_397 55 rfl) rfl rfl ?_
            refine e_bip 96 em_397 (ce_at ce_397 56 rfl) (by decide) rfl ?_
            refine e_cmgt 103 99 em_397 rfl rfl (ce_at ce_397 57 rfl) g11 (by decide) (fun h13 => ?_) (fun h13 => ?_)
            · refine e_pk [0, 1, 2, 3, 4, 5, 7] rfl rfl ?_
              exact tm_intValue_103 w d hd _ _ _ _ _ _ _
            · refine e_op 100 em_397 (ce_at ce_397 58 rfl) rfl rfl ?_
              refine e_goto em_397 104 (ce_at ce_397 59 rfl) rfl ?_
              refine e_pk [0, 1, 2, 3, 4, 5, 7] rfl rfl ?_
              exact tm_intValue_104 w d hd _ _ _ _ _ _ _ _
theorem fm_intValue_48b (v1 : Int) (v2 : Int) (v3 : Int) (v4 : Int) (v5 : Int) (v6 : Int) (s : iS) : Fm (fun r : (Int × Int × Int × iS) ⊕ (Int × iS) => r.elim (fun l => l.2.2.2) (fun e => e.2)) L_m_intValue G_m_intValue s (m_intValue_48b v1 v2 v3 v4 v5 v6 s) := fm_gd (fm_if (fm_some md_refl) (fm_gd (fm_if (fm_gd (fm_gd (fm_if (fm_some md_refl) (fm_bd (fm_sub (fm_read _ _) (mem_sub_L rfl) (mem_sub_F rfl)) (fun r8 s8 => fm_gd (fm_if (fm_gd (fm_if (fm_intValue_103 _ _ _ _ _ _ _) (fm_if (fm_intValue_103 _ _ _ _ _ _ _) (fm_intValue_104 _ _ _ _ _ _ _ _)))) (fm_intValue_103 _ _ _ _ _ _ _))))))) (fm_some md_refl))))
noncomputable def m_intValue_134 (v4 : Int) (v5 : Int) (s : iS) : Option (Int × iS) := gd (rg v4) (if v4 = 0 then some (v5, s) else some ((-v5), s))
theorem tm_intValue_134 (w : ev_W) (d : Nat) (hd : 2 ≤ d) (v4 : Int) (v5 : Int) (s : iS) : Ew hT w d 397 134 [(4, iv v4), (5, iv v5)] [] s (Ci hT) (m_intValue_134 v4 v5 s) := by
  unfold m_intValue_134
  refine e_mv 136 em_397 (ce_at ce_397 78 rfl) rfl rfl ?_
  refine e_gd fun g1 => ?_
  refine e_ifeq 145 139 em_397 rfl rfl (ce_at ce_397 79 rfl) g1 (fun h2 => ?_) (fun h2 => ?_)
  · refine e_mv 147 em_397 (ce_at ce_397 83 rfl) rfl rfl ?_
    exact e_reti em_397 (ce_at ce_397 84 rfl)
  · refine e_mv 141 em_397 (ce_at ce_397 80 rfl) rfl rfl ?_
    refine e_ineg 142 em_397 rfl (ce_at ce_397 81 rfl) ?_
    refine e_goto em_397 147 (ce_at ce_397 82 rfl) rfl ?_
    exact e_reti em_397 (ce_at ce_397 84 rfl)
theorem fm_intValue_134 (v4 : Int) (v5 : Int) (s : iS) : Fm Prod.snd L_m_intValue G_m_intValue s (m_intValue_134 v4 v5 s) := fm_gd (fm_if (fm_some md_refl) (fm_some md_refl))
noncomputable def m_intValue_48 (v1 : Int) (v2 : Int) (v3 : Int) (v4 : Int) (v5 : Int) (v6 : Int) (s : iS) : Option (Int × iS) := (lp (L := Int × Int × Int × iS) (E := Int × iS) (fun l => m_intValue_48b v1 v2 (l.1) v4 (l.2.1) (l.2.2.1) (l.2.2.2)) (v3, v5, v6, s)).bind (fun e => m_intValue_134 v4 (e.1) (e.2))
theorem tm_intValue_48 (w : ev_W) (d : Nat) (hd : 2 ≤ d) (v1 : Int) (v2 : Int) (v3 : Int) (v4 : Int) (v5 : Int) (v6 : Int) (s : iS) : Ew hT w d 397 48 [(0, .ref (tb_nK + 121)), (1, iv v1), (2, iv v2), (3, iv v3), (4, iv v4), (5, iv v5), (6, iv v6)] [] s (Ci hT) (m_intValue_48 v1 v2 v3 v4 v5 v6 s) := by
  unfold m_intValue_48
  refine e_lp (L := Int × Int × Int × iS) (E := Int × iS) (LO := fun l => [(0, .ref (tb_nK + 121)), (1, iv v1), (2, iv v2), (3, iv (l.1)), (4, iv v4), (5, iv (l.2.1)), (6, iv (l.2.2.1))]) (LS := fun l => l.2.2.2) (CE := fun e r => ev w d 397 134 [(4, iv v4), (5, iv (e.1))] [] (hT (e.2)) r) (fun l => tm_intValue_48b w d hd _ _ _ _ _ _ _) ?_ (v3, v5, v6, s)
  intro e
  show Ew hT w d 397 134 [(4, iv v4), (5, iv (e.1))] [] e.2 (Ci hT) _
  refine e_pk [4, 5] rfl rfl ?_
  exact tm_intValue_134 w d hd _ _ _
theorem fm_intValue_48 (v1 : Int) (v2 : Int) (v3 : Int) (v4 : Int) (v5 : Int) (v6 : Int) (s : iS) : Fm Prod.snd L_m_intValue G_m_intValue s (m_intValue_48 v1 v2 v3 v4 v5 v6 s) := by
  unfold m_intValue_48
  refine fm_lp (A := Int × Int × Int × iS) (E := Int × iS) (LS := fun l => l.2.2.2) (LE := fun e => e.2) ?_ ?_ (v3, v5, v6, s)
  · exact fun l => fm_intValue_48b _ _ _ _ _ _ _
  · exact (fun e => fm_intValue_134 _ _ _)
noncomputable def m_intValue_42 (v1 : Int) (v2 : Int) (v3 : Int) (v4 : Int) (s : iS) : Option (Int × iS) := m_intValue_48 v1 v2 v3 v4 0 1 s
theorem tm_intValue_42 (w : ev_W) (d : Nat) (hd : 2 ≤ d) (v1 : Int) (v2 : Int) (v3 : Int) (v4 : Int) (s : iS) : Ew hT w d 397 42 [(0, .ref (tb_nK + 121)), (1, iv v1), (2, iv v2), (3, iv v3), (4, iv v4)] [] s (Ci hT) (m_intValue_42 v1 v2 v3 v4 s) := by
  unfold m_intValue_42
  refine e_op 43 em_397 (ce_at ce_397 27 rfl) rfl rfl ?_
  refine e_mv 45 em_397 (ce_at ce_397 28 rfl) rfl rfl ?_
  refine e_op 46 em_397 (ce_at ce_397 29 rfl) rfl rfl ?_
  refine e_mv 48 em_397 (ce_at ce_397 30 rfl) rfl rfl ?_
  refine e_pk [0, 1, 2, 3, 4, 5, 6] rfl rfl ?_
  exact tm_intValue_48 w d hd _ _ _ _ _ _ _
theorem fm_intValue_42 (v1 : Int) (v2 : Int) (v3 : Int) (v4 : Int) (s : iS) : Fm Prod.snd L_m_intValue G_m_intValue s (m_intValue_42 v1 v2 v3 v4 s) := fm_intValue_48 _ _ _ _ _ _ _
noncomputable def m_intValue (v1 : Int) (s : iS) : Option (Int × iS) := bd (m_read (v1 + 1) s) (fun r1 s1 => gd (rg (s1 121 99)) (if (s1 121 99) = (-1) then gd (rg r1) (if r1 ≤ 0 then m_intValue_42 v1 r1 0 0 s1 else bd (m_read (v1 + 2) s1) (fun r6 s6 => gd (rg r6) (if r6 = 45 then m_intValue_42 v1 r1 1 1 s6 else m_intValue_42 v1 r1 0 0 s6))) else m_intValue_42 v1 r1 0 0 s1))
theorem tm_intValue (w : ev_W) (d : Nat) (hd : 2 ≤ d) (v1 : Int) (s : iS) : Ew hT w d 397 0 [(0, .ref (tb_nK + 121)), (1, iv v1)] [] s (Ci hT) (m_intValue v1 s) := by
  unfold m_intValue
  refine e_mv 1 em_397 (ce_at ce_397 0 rfl) rfl rfl ?_
  refine e_mv 2 em_397 (ce_at ce_397 1 rfl) rfl rfl ?_
  refine e_op 3 em_397 (ce_at ce_397 2 rfl) rfl rfl ?_
  refine e_iadd 4 em_397 rfl (ce_at ce_397 3 rfl) ?_
  refine e_ivi 7 em_397 (ce_at ce_397 4 rfl) (by omega) (iv_v1 (by decide) tq_121 rfl) em_386 (Nat.le_of_ble_eq_true rfl) rfl (tm_read w (d - 1) (by omega) _ _) (fun r1 s1 => ?_)
  refine e_mv 8 em_397 (ce_at ce_397 5 rfl) rfl rfl ?_
  refine e_op 9 em_397 (ce_at ce_397 6 rfl) rfl rfl ?_
  refine e_mv 10 em_397 (ce_at ce_397 7 rfl) rfl rfl ?_
  refine e_op 11 em_397 (ce_at ce_397 8 rfl) rfl rfl ?_
  refine e_mv 13 em_397 (ce_at ce_397 9 rfl) rfl rfl ?_
  refine e_mv 14 em_397 (ce_at ce_397 10 rfl) rfl rfl ?_
  refine e_get 17 em_397 (ce_at ce_397 11 rfl) tq_121 rfl rfl ?_
  refine e_op 18 em_397 (ce_at ce_397 12 rfl) rfl rfl ?_
  refine e_gd fun g2 => ?_
  refine e_cmne 42 21 em_397 rfl rfl (ce_at ce_397 13 rfl) g2 (by decide) (fun h3 => ?_) (fun h3 => ?_)
  · refine e_pk [0, 1, 2, 3, 4] rfl rfl ?_
    exact tm_intValue_42 w d hd _ _ _ _ _
  · refine e_mv 22 em_397 (ce_at ce_397 14 rfl) rfl rfl ?_
    refine e_gd fun g4 => ?_
    refine e_ifle 42 25 em_397 rfl rfl (ce_at ce_397 15 rfl) g4 (fun h5 => ?_) (fun h5 => ?_)
    · refine e_pk [0, 1, 2, 3, 4] rfl rfl ?_
      exact tm_intValue_42 w d hd _ _ _ _ _
    · refine e_mv 26 em_397 (ce_at ce_397 16 rfl) rfl rfl ?_
      refine e_mv 27 em_397 (ce_at ce_397 17 rfl) rfl rfl ?_
      refine e_op 28 em_397 (ce_at ce_397 18 rfl) rfl rfl ?_
      refine e_iadd 29 em_397 rfl (ce_at ce_397 19 rfl) ?_
      refine e_ivi 32 em_397 (ce_at ce_397 20 rfl) (by omega) (iv_v1 (by decide) tq_121 rfl) em_386 (Nat.le_of_ble_eq_true rfl) rfl (tm_read w (d - 1) (by omega) _ _) (fun r6 s6 => ?_)
      refine e_bip 34 em_397 (ce_at ce_397 21 rfl) (by decide) rfl ?_
      refine e_gd fun g7 => ?_
      refine e_cmne 42 37 em_397 rfl rfl (ce_at ce_397 22 rfl) g7 (by decide) (fun h8 => ?_) (fun h8 => ?_)
      · refine e_pk [0, 1, 2, 3, 4] rfl rfl ?_
        exact tm_intValue_42 w d hd _ _ _ _ _
      · refine e_op 38 em_397 (ce_at ce_397 23 rfl) rfl rfl ?_
        refine e_mv 40 em_397 (ce_at ce_397 24 rfl) rfl rfl ?_
        refine e_op 41 em_397 (ce_at ce_397 25 rfl) rfl rfl ?_
        refine e_mv 42 em_397 (ce_at ce_397 26 rfl) rfl rfl ?_
        refine e_pk [0, 1, 2, 3, 4] rfl rfl ?_
        exact tm_intValue_42 w d hd _ _ _ _ _
theorem fm_intValue (v1 : Int) (s : iS) : Fm Prod.snd L_m_intValue G_m_intValue s (m_intValue v1 s) := fm_bd (fm_sub (fm_read _ _) (mem_sub_L rfl) (mem_sub_F rfl)) (fun r1 s1 => fm_gd (fm_if (fm_gd (fm_if (fm_intValue_42 _ _ _ _ _) (fm_bd (fm_sub (fm_read _ _) (mem_sub_L rfl) (mem_sub_F rfl)) (fun r6 s6 => fm_gd (fm_if (fm_intValue_42 _ _ _ _ _) (fm_intValue_42 _ _ _ _ _)))))) (fm_intValue_42 _ _ _ _ _)))
/-! m_firstPower -/
def L_m_firstPower : List Nat := []
def G_m_firstPower : List (Nat × Nat) := []
def m_firstPower_2C (H : iS → List am_C) (w : ev_W) (d : Nat) (v0 : Int) : (Int × iS) ⊕ (Int × iS) → am_E → Prop := fun q r => q.elim (fun l => ev w d 399 2 ((fun l => [(0, iv v0), (1, iv (l.1))]) l) [] (H ((fun l => l.2) l)) r) (fun e => (fun e r => ev w d 399 18 [(1, iv (e.1))] [] (H (e.2)) r) e r)
noncomputable def m_firstPower_2b (v0 : Int) (v1 : Int) (s : iS) : Option ((Int × iS) ⊕ (Int × iS)) := gd (rg v0) (gd (rg v1) (gd (¬ v1 = 0) (gd (rg (v0.tdiv v1)) (if (v0.tdiv v1) < 10 then some (.inr (v1, s)) else some (.inl ((v1 * 10), s))))))
theorem tm_firstPower_2b (H : iS → List am_C) (w : ev_W) (d : Nat) (hd : 0 ≤ d) (v0 : Int) (v1 : Int) (s : iS) : Ew H w d 399 2 [(0, iv v0), (1, iv v1)] [] s (m_firstPower_2C H w d v0) (m_firstPower_2b v0 v1 s) := by
  unfold m_firstPower_2b
  refine e_mv 3 em_399 (ce_at ce_399 2 rfl) rfl rfl ?_
  refine e_mv 4 em_399 (ce_at ce_399 3 rfl) rfl rfl ?_
  refine e_gd fun g1 => ?_
  refine e_gd fun g2 => ?_
  refine e_gd fun g3 => ?_
  refine e_idiv 5 em_399 rfl (ce_at ce_399 4 rfl) g1 g2 g3 ?_
  refine e_bip 7 em_399 (ce_at ce_399 5 rfl) (by decide) rfl ?_
  refine e_gd fun g4 => ?_
  refine e_cmlt 18 10 em_399 rfl rfl (ce_at ce_399 6 rfl) g4 (by decide) (fun h5 => ?_) (fun h5 => ?_)
  · refine e_pk [1] rfl rfl ?_
    exact e_out (fun r h => h)
  · refine e_mv 11 em_399 (ce_at ce_399 7 rfl) rfl rfl ?_
    refine e_bip 13 em_399 (ce_at ce_399 8 rfl) (by decide) rfl ?_
    refine e_imul 14 em_399 rfl (ce_at ce_399 9 rfl) ?_
    refine e_mv 15 em_399 (ce_at ce_399 10 rfl) rfl rfl ?_
    refine e_goto em_399 2 (ce_at ce_399 11 rfl) rfl ?_
    refine e_pk [0, 1] rfl rfl ?_
    exact e_out (fun r h => h)
theorem fm_firstPower_2b (v0 : Int) (v1 : Int) (s : iS) : Fm (fun r : (Int × iS) ⊕ (Int × iS) => r.elim (fun l => l.2) (fun e => e.2)) L_m_firstPower G_m_firstPower s (m_firstPower_2b v0 v1 s) := fm_gd (fm_gd (fm_gd (fm_gd (fm_if (fm_some md_refl) (fm_some md_refl)))))
noncomputable def m_firstPower_2 (v0 : Int) (v1 : Int) (s : iS) : Option (Int × iS) := (lp (L := Int × iS) (E := Int × iS) (fun l => m_firstPower_2b v0 (l.1) (l.2)) (v1, s)).bind (fun e => some (e.1, e.2))
theorem tm_firstPower_2 (H : iS → List am_C) (w : ev_W) (d : Nat) (hd : 0 ≤ d) (v0 : Int) (v1 : Int) (s : iS) : Ew H w d 399 2 [(0, iv v0), (1, iv v1)] [] s (Ci H) (m_firstPower_2 v0 v1 s) := by
  unfold m_firstPower_2
  refine e_lp (L := Int × iS) (E := Int × iS) (LO := fun l => [(0, iv v0), (1, iv (l.1))]) (LS := fun l => l.2) (CE := fun e r => ev w d 399 18 [(1, iv (e.1))] [] (H (e.2)) r) (fun l => tm_firstPower_2b H w d hd _ _ _) ?_ (v1, s)
  intro e
  show Ew H w d 399 18 [(1, iv (e.1))] [] e.2 (Ci H) _
  refine e_mv 19 em_399 (ce_at ce_399 12 rfl) rfl rfl ?_
  exact e_reti em_399 (ce_at ce_399 13 rfl)
theorem fm_firstPower_2 (v0 : Int) (v1 : Int) (s : iS) : Fm Prod.snd L_m_firstPower G_m_firstPower s (m_firstPower_2 v0 v1 s) := by
  unfold m_firstPower_2
  refine fm_lp (A := Int × iS) (E := Int × iS) (LS := fun l => l.2) (LE := fun e => e.2) ?_ ?_ (v1, s)
  · exact fun l => fm_firstPower_2b _ _ _
  · exact (fun e => fm_some md_refl)
noncomputable def m_firstPower (v0 : Int) (s : iS) : Option (Int × iS) := m_firstPower_2 v0 1 s
theorem tm_firstPower (H : iS → List am_C) (w : ev_W) (d : Nat) (hd : 0 ≤ d) (v0 : Int) (s : iS) : Ew H w d 399 0 [(0, iv v0)] [] s (Ci H) (m_firstPower v0 s) := by
  unfold m_firstPower
  refine e_op 1 em_399 (ce_at ce_399 0 rfl) rfl rfl ?_
  refine e_mv 2 em_399 (ce_at ce_399 1 rfl) rfl rfl ?_
  refine e_pk [0, 1] rfl rfl ?_
  exact tm_firstPower_2 H w d hd _ _ _
theorem fm_firstPower (v0 : Int) (s : iS) : Fm Prod.snd L_m_firstPower G_m_firstPower s (m_firstPower v0 s) := fm_firstPower_2 _ _ _
/-! m_digit -/
def L_m_digit : List Nat := []
def G_m_digit : List (Nat × Nat) := []
noncomputable def m_digit (v0 : Int) (v1 : Int) (s : iS) : Option (Int × iS) := gd (rg v0) (gd (rg v1) (gd (¬ v1 = 0) (gd (rg (v0.tdiv v1)) (some ((48 + ((v0.tdiv v1).tmod 10)), s)))))
theorem tm_digit (H : iS → List am_C) (w : ev_W) (d : Nat) (hd : 0 ≤ d) (v0 : Int) (v1 : Int) (s : iS) : Ew H w d 400 0 [(0, iv v0), (1, iv v1)] [] s (Ci H) (m_digit v0 v1 s) := by
  unfold m_digit
  refine e_bip 2 em_400 (ce_at ce_400 0 rfl) (by decide) rfl ?_
  refine e_mv 3 em_400 (ce_at ce_400 1 rfl) rfl rfl ?_
  refine e_mv 4 em_400 (ce_at ce_400 2 rfl) rfl rfl ?_
  refine e_gd fun g1 => ?_
  refine e_gd fun g2 => ?_
  refine e_gd fun g3 => ?_
  refine e_idiv 5 em_400 rfl (ce_at ce_400 3 rfl) g1 g2 g3 ?_
  refine e_bip 7 em_400 (ce_at ce_400 4 rfl) (by decide) rfl ?_
  refine e_gd fun g4 => ?_
  refine e_irem 8 em_400 rfl (ce_at ce_400 5 rfl) g4 (by decide) (by decide) ?_
  refine e_iadd 9 em_400 rfl (ce_at ce_400 6 rfl) ?_
  exact e_reti em_400 (ce_at ce_400 7 rfl)
theorem fm_digit (v0 : Int) (v1 : Int) (s : iS) : Fm Prod.snd L_m_digit G_m_digit s (m_digit v0 v1 s) := fm_gd (fm_gd (fm_gd (fm_gd (fm_some md_refl))))
/-! m_setInt -/
def L_m_setInt : List Nat := [175]
def G_m_setInt : List (Nat × Nat) := [(121, 99), (121, 100)]
def m_setInt_44C (w : ev_W) (d : Nat) (v1 : Int) (v3 : Int) : (Int × iS) ⊕ (iS) → am_E → Prop := fun q r => q.elim (fun l => ev w d 398 44 ((fun l => [(0, .ref (tb_nK + 121)), (1, iv v1), (3, iv v3), (4, iv (l.1))]) l) [] (hT ((fun l => l.2) l)) r) (fun e => (fun e r => ev w d 398 78 [] [] (hT (e)) r) e r)
noncomputable def m_setInt_44b (v1 : Int) (v3 : Int) (v4 : Int) (s : iS) : Option ((Int × iS) ⊕ (iS)) := gd (rg v4) (if v4 ≤ 0 then some (.inr s) else gd (rg (s 121 99)) (if (s 121 99) = (-1) then bd (m_digit v3 v4 s) (fun r5 s5 => bd (m_append v1 r5 s5) (fun _ s6 => some (.inl ((v4.tdiv 10), s6)))) else some (.inr s)))
theorem tm_setInt_44b (w : ev_W) (d : Nat) (hd : 3 ≤ d) (v1 : Int) (v3 : Int) (v4 : Int) (s : iS) : Ew hT w d 398 44 [(0, .ref (tb_nK + 121)), (1, iv v1), (3, iv v3), (4, iv v4)] [] s (m_setInt_44C w d v1 v3) (m_setInt_44b v1 v3 v4 s) := by
  unfold m_setInt_44b
  refine e_mv 46 em_398 (ce_at ce_398 26 rfl) rfl rfl ?_
  refine e_gd fun g1 => ?_
  refine e_ifle 78 49 em_398 rfl rfl (ce_at ce_398 27 rfl) g1 (fun h2 => ?_) (fun h2 => ?_)
  · refine e_pk [] rfl rfl ?_
    exact e_out (fun r h => h)
  · refine e_mv 50 em_398 (ce_at ce_398 28 rfl) rfl rfl ?_
    refine e_get 53 em_398 (ce_at ce_398 29 rfl) tq_121 rfl rfl ?_
    refine e_op 54 em_398 (ce_at ce_398 30 rfl) rfl rfl ?_
    refine e_gd fun g3 => ?_
    refine e_cmne 78 57 em_398 rfl rfl (ce_at ce_398 31 rfl) g3 (by decide) (fun h4 => ?_) (fun h4 => ?_)
    · refine e_pk [] rfl rfl ?_
      exact e_out (fun r h => h)
    · refine e_mv 58 em_398 (ce_at ce_398 32 rfl) rfl rfl ?_
      refine e_mv 59 em_398 (ce_at ce_398 33 rfl) rfl rfl ?_
      refine e_mv 60 em_398 (ce_at ce_398 34 rfl) rfl rfl ?_
      refine e_mv 62 em_398 (ce_at ce_398 35 rfl) rfl rfl ?_
      refine e_ivi 65 em_398 (ce_at ce_398 36 rfl) (by omega) (iv_s2 rfl) em_400 (Nat.le_of_ble_eq_true rfl) rfl (tm_digit hT w (d - 1) (by omega) _ _ _) (fun r5 s5 => ?_)
      refine e_ivv 68 em_398 (ce_at ce_398 37 rfl) (by omega) (iv_v2 (by decide) tq_121 rfl) em_385 (Nat.le_of_ble_eq_true rfl) rfl (tm_append w (d - 1) (by omega) _ _ _) (fun r6 s6 => ?_)
      refine e_mv 70 em_398 (ce_at ce_398 38 rfl) rfl rfl ?_
      refine e_bip 72 em_398 (ce_at ce_398 39 rfl) (by decide) rfl ?_
      refine e_idiv 73 em_398 rfl (ce_at ce_398 40 rfl) g1 (by decide) (by decide) ?_
      refine e_mv 75 em_398 (ce_at ce_398 41 rfl) rfl rfl ?_
      refine e_goto em_398 44 (ce_at ce_398 42 rfl) rfl ?_
      refine e_pk [0, 1, 3, 4] rfl rfl ?_
      exact e_out (fun r h => h)
theorem fm_setInt_44b (v1 : Int) (v3 : Int) (v4 : Int) (s : iS) : Fm (fun r : (Int × iS) ⊕ (iS) => r.elim (fun l => l.2) (fun e => e)) L_m_setInt G_m_setInt s (m_setInt_44b v1 v3 v4 s) := fm_gd (fm_if (fm_some md_refl) (fm_gd (fm_if (fm_bd (fm_sub (fm_digit _ _ _) (mem_sub_L rfl) (mem_sub_F rfl)) (fun r5 s5 => fm_bd (fm_sub (fm_append _ _ _) (mem_sub_L rfl) (mem_sub_F rfl)) (fun r6 s6 => fm_some md_refl))) (fm_some md_refl))))
noncomputable def m_setInt_44 (v1 : Int) (v3 : Int) (v4 : Int) (s : iS) : Option (Int × iS) := (lp (L := Int × iS) (E := iS) (fun l => m_setInt_44b v1 v3 (l.1) (l.2)) (v4, s)).bind (fun e => some (0, e))
theorem tm_setInt_44 (w : ev_W) (d : Nat) (hd : 3 ≤ d) (v1 : Int) (v3 : Int) (v4 : Int) (s : iS) : Ew hT w d 398 44 [(0, .ref (tb_nK + 121)), (1, iv v1), (3, iv v3), (4, iv v4)] [] s (Cv hT) (m_setInt_44 v1 v3 v4 s) := by
  unfold m_setInt_44
  refine e_lp (L := Int × iS) (E := iS) (LO := fun l => [(0, .ref (tb_nK + 121)), (1, iv v1), (3, iv v3), (4, iv (l.1))]) (LS := fun l => l.2) (CE := fun e r => ev w d 398 78 [] [] (hT (e)) r) (fun l => tm_setInt_44b w d hd _ _ _ _) ?_ (v4, s)
  intro e
  show Ew hT w d 398 78 [] [] e (Cv hT) _
  exact e_retv em_398 (ce_at ce_398 43 rfl)
theorem fm_setInt_44 (v1 : Int) (v3 : Int) (v4 : Int) (s : iS) : Fm Prod.snd L_m_setInt G_m_setInt s (m_setInt_44 v1 v3 v4 s) := by
  unfold m_setInt_44
  refine fm_lp (A := Int × iS) (E := iS) (LS := fun l => l.2) (LE := fun e => e) ?_ ?_ (v4, s)
  · exact fun l => fm_setInt_44b _ _ _ _
  · exact (fun e => fm_some md_refl)
noncomputable def m_setInt_38 (v1 : Int) (v3 : Int) (s : iS) : Option (Int × iS) := bd (m_firstPower v3 s) (fun r1 s1 => m_setInt_44 v1 v3 r1 s1)
theorem tm_setInt_38 (w : ev_W) (d : Nat) (hd : 3 ≤ d) (v1 : Int) (v3 : Int) (s : iS) : Ew hT w d 398 38 [(0, .ref (tb_nK + 121)), (1, iv v1), (3, iv v3)] [] s (Cv hT) (m_setInt_38 v1 v3 s) := by
  unfold m_setInt_38
  refine e_mv 39 em_398 (ce_at ce_398 23 rfl) rfl rfl ?_
  refine e_ivi 42 em_398 (ce_at ce_398 24 rfl) (by omega) (iv_s1 rfl) em_399 (Nat.le_of_ble_eq_true rfl) rfl (tm_firstPower hT w (d - 1) (by omega) _ _) (fun r1 s1 => ?_)
  refine e_mv 44 em_398 (ce_at ce_398 25 rfl) rfl rfl ?_
  refine e_pk [0, 1, 3, 4] rfl rfl ?_
  exact tm_setInt_44 w d hd _ _ _ _
theorem fm_setInt_38 (v1 : Int) (v3 : Int) (s : iS) : Fm Prod.snd L_m_setInt G_m_setInt s (m_setInt_38 v1 v3 s) := fm_bd (fm_sub (fm_firstPower _ _) (mem_sub_L rfl) (mem_sub_F rfl)) (fun r1 s1 => fm_setInt_44 _ _ _ _)
noncomputable def m_setInt_18 (v1 : Int) (v2 : Int) (t0 : Int) (s : iS) : Option (Int × iS) := gd (rg v2) (if 0 ≤ v2 then m_setInt_38 v1 t0 s else gd (rg (s 121 99)) (if (s 121 99) = (-1) then bd (m_append v1 45 s) (fun _ s5 => m_setInt_38 v1 t0 s5) else m_setInt_38 v1 t0 s))
theorem tm_setInt_18 (w : ev_W) (d : Nat) (hd : 3 ≤ d) (v1 : Int) (v2 : Int) (t0 : Int) (s : iS) : Ew hT w d 398 18 [(0, .ref (tb_nK + 121)), (1, iv v1), (2, iv v2)] [iv t0] s (Cv hT) (m_setInt_18 v1 v2 t0 s) := by
  unfold m_setInt_18
  refine e_mv 19 em_398 (ce_at ce_398 12 rfl) rfl rfl ?_
  refine e_mv 20 em_398 (ce_at ce_398 13 rfl) rfl rfl ?_
  refine e_gd fun g1 => ?_
  refine e_ifge 38 23 em_398 rfl rfl (ce_at ce_398 14 rfl) g1 (fun h2 => ?_) (fun h2 => ?_)
  · refine e_pk [0, 1, 3] rfl rfl ?_
    exact tm_setInt_38 w d hd _ _ _
  · refine e_mv 24 em_398 (ce_at ce_398 15 rfl) rfl rfl ?_
    refine e_get 27 em_398 (ce_at ce_398 16 rfl) tq_121 rfl rfl ?_
    refine e_op 28 em_398 (ce_at ce_398 17 rfl) rfl rfl ?_
    refine e_gd fun g3 => ?_
    refine e_cmne 38 31 em_398 rfl rfl (ce_at ce_398 18 rfl) g3 (by decide) (fun h4 => ?_) (fun h4 => ?_)
    · refine e_pk [0, 1, 3] rfl rfl ?_
      exact tm_setInt_38 w d hd _ _ _
    · refine e_mv 32 em_398 (ce_at ce_398 19 rfl) rfl rfl ?_
      refine e_mv 33 em_398 (ce_at ce_398 20 rfl) rfl rfl ?_
      refine e_bip 35 em_398 (ce_at ce_398 21 rfl) (by decide) rfl ?_
      refine e_ivv 38 em_398 (ce_at ce_398 22 rfl) (by omega) (iv_v2 (by decide) tq_121 rfl) em_385 (Nat.le_of_ble_eq_true rfl) rfl (tm_append w (d - 1) (by omega) _ _ _) (fun r5 s5 => ?_)
      refine e_pk [0, 1, 3] rfl rfl ?_
      exact tm_setInt_38 w d hd _ _ _
theorem fm_setInt_18 (v1 : Int) (v2 : Int) (t0 : Int) (s : iS) : Fm Prod.snd L_m_setInt G_m_setInt s (m_setInt_18 v1 v2 t0 s) := fm_gd (fm_if (fm_setInt_38 _ _ _) (fm_gd (fm_if (fm_bd (fm_sub (fm_append _ _ _) (mem_sub_L rfl) (mem_sub_F rfl)) (fun r5 s5 => fm_setInt_38 _ _ _)) (fm_setInt_38 _ _ _))))
noncomputable def m_setInt (v1 : Int) (v2 : Int) (s : iS) : Option (Int × iS) := bd (m_write (v1 + 1) 0 s) (fun _ s1 => gd (rg v2) (if 0 ≤ v2 then m_setInt_18 v1 v2 v2 s1 else m_setInt_18 v1 v2 (-v2) s1))
theorem tm_setInt (w : ev_W) (d : Nat) (hd : 3 ≤ d) (v1 : Int) (v2 : Int) (s : iS) : Ew hT w d 398 0 [(0, .ref (tb_nK + 121)), (1, iv v1), (2, iv v2)] [] s (Cv hT) (m_setInt v1 v2 s) := by
  unfold m_setInt
  refine e_mv 1 em_398 (ce_at ce_398 0 rfl) rfl rfl ?_
  refine e_mv 2 em_398 (ce_at ce_398 1 rfl) rfl rfl ?_
  refine e_op 3 em_398 (ce_at ce_398 2 rfl) rfl rfl ?_
  refine e_iadd 4 em_398 rfl (ce_at ce_398 3 rfl) ?_
  refine e_op 5 em_398 (ce_at ce_398 4 rfl) rfl rfl ?_
  refine e_ivv 8 em_398 (ce_at ce_398 5 rfl) (by omega) (iv_v2 (by decide) tq_121 rfl) em_383 (Nat.le_of_ble_eq_true rfl) rfl (tm_write w (d - 1) (by omega) _ _ _) (fun r1 s1 => ?_)
  refine e_mv 9 em_398 (ce_at ce_398 6 rfl) rfl rfl ?_
  refine e_gd fun g2 => ?_
  refine e_ifge 17 12 em_398 rfl rfl (ce_at ce_398 7 rfl) g2 (fun h3 => ?_) (fun h3 => ?_)
  · refine e_mv 18 em_398 (ce_at ce_398 11 rfl) rfl rfl ?_
    refine e_pk [0, 1, 2] rfl rfl ?_
    exact tm_setInt_18 w d hd _ _ _ _
  · refine e_mv 13 em_398 (ce_at ce_398 8 rfl) rfl rfl ?_
    refine e_ineg 14 em_398 rfl (ce_at ce_398 9 rfl) ?_
    refine e_goto em_398 18 (ce_at ce_398 10 rfl) rfl ?_
    refine e_pk [0, 1, 2] rfl rfl ?_
    exact tm_setInt_18 w d hd _ _ _ _
theorem fm_setInt (v1 : Int) (v2 : Int) (s : iS) : Fm Prod.snd L_m_setInt G_m_setInt s (m_setInt v1 v2 s) := fm_bd (fm_sub (fm_write _ _ _) (mem_sub_L rfl) (mem_sub_F rfl)) (fun r1 s1 => fm_gd (fm_if (fm_setInt_18 _ _ _ _) (fm_setInt_18 _ _ _ _)))
/-! m_strings -/
def L_m_strings : List Nat := [175, 176, 177]
def G_m_strings : List (Nat × Nat) := [(121, 81), (121, 99), (121, 100)]
noncomputable def m_strings_131 (v2 : Int) (s : iS) : Option (Int × iS) := gd (rg (s 121 99)) (if (s 121 99) = (-1) then bd (m_write ((v2 + 2) + (s 188 1)) (s 188 2) s) (fun _ s3 => some (0, s3)) else some (0, s))
theorem tm_strings_131 (w : ev_W) (d : Nat) (hd : 4 ≤ d) (v2 : Int) (s : iS) : Ew hT w d 395 131 [(0, .ref (tb_nK + 121)), (2, iv v2)] [] s (Ci hT) (m_strings_131 v2 s) := by
  unfold m_strings_131
  refine e_mv 132 em_395 (ce_at ce_395 50 rfl) rfl rfl ?_
  refine e_get 135 em_395 (ce_at ce_395 51 rfl) tq_121 rfl rfl ?_
  refine e_op 136 em_395 (ce_at ce_395 52 rfl) rfl rfl ?_
  refine e_gd fun g1 => ?_
  refine e_cmne 159 139 em_395 rfl rfl (ce_at ce_395 53 rfl) g1 (by decide) (fun h2 => ?_) (fun h2 => ?_)
  · refine e_op 160 em_395 (ce_at ce_395 68 rfl) rfl rfl ?_
    exact e_reti em_395 (ce_at ce_395 69 rfl)
  · refine e_mv 140 em_395 (ce_at ce_395 54 rfl) rfl rfl ?_
    refine e_mv 141 em_395 (ce_at ce_395 55 rfl) rfl rfl ?_
    refine e_op 142 em_395 (ce_at ce_395 56 rfl) rfl rfl ?_
    refine e_iadd 143 em_395 rfl (ce_at ce_395 57 rfl) ?_
    refine e_mv 144 em_395 (ce_at ce_395 58 rfl) rfl rfl ?_
    refine e_getr 147 em_395 (ce_at ce_395 59 rfl) tq_121 rfl rfl ?_
    refine e_op 148 em_395 (ce_at ce_395 60 rfl) rfl rfl ?_
    refine e_ild 149 em_395 (ce_at ce_395 61 rfl) tq_188 (by decide) (by decide) rfl ?_
    refine e_iadd 150 em_395 rfl (ce_at ce_395 62 rfl) ?_
    refine e_mv 151 em_395 (ce_at ce_395 63 rfl) rfl rfl ?_
    refine e_getr 154 em_395 (ce_at ce_395 64 rfl) tq_121 rfl rfl ?_
    refine e_op 155 em_395 (ce_at ce_395 65 rfl) rfl rfl ?_
    refine e_ild 156 em_395 (ce_at ce_395 66 rfl) tq_188 (by decide) (by decide) rfl ?_
    refine e_ivv 159 em_395 (ce_at ce_395 67 rfl) (by omega) (iv_v2 (by decide) tq_121 rfl) em_383 (Nat.le_of_ble_eq_true rfl) rfl (tm_write w (d - 1) (by omega) _ _ _) (fun r3 s3 => ?_)
    refine e_op 160 em_395 (ce_at ce_395 68 rfl) rfl rfl ?_
    exact e_reti em_395 (ce_at ce_395 69 rfl)
theorem fm_strings_131 (v2 : Int) (s : iS) : Fm Prod.snd L_m_strings G_m_strings s (m_strings_131 v2 s) := fm_gd (fm_if (fm_bd (fm_sub (fm_write _ _ _) (mem_sub_L rfl) (mem_sub_F rfl)) (fun r3 s3 => fm_some md_refl)) (fm_some md_refl))
noncomputable def m_strings_101 (v2 : Int) (s : iS) : Option (Int × iS) := gd (rg (s 121 99)) (if (s 121 99) = (-1) then bd (m_read (v2 + 1) s) (fun r3 s3 => gd (rg (s 188 1)) (gd (rg r3) (if (s 188 1) < r3 then m_strings_131 v2 s3 else bd (m_err 16 s3) (fun _ s7 => m_strings_131 v2 s7)))) else m_strings_131 v2 s)
theorem tm_strings_101 (w : ev_W) (d : Nat) (hd : 4 ≤ d) (v2 : Int) (s : iS) : Ew hT w d 395 101 [(0, .ref (tb_nK + 121)), (2, iv v2)] [] s (Ci hT) (m_strings_101 v2 s) := by
  unfold m_strings_101
  refine e_mv 102 em_395 (ce_at ce_395 33 rfl) rfl rfl ?_
  refine e_get 105 em_395 (ce_at ce_395 34 rfl) tq_121 rfl rfl ?_
  refine e_op 106 em_395 (ce_at ce_395 35 rfl) rfl rfl ?_
  refine e_gd fun g1 => ?_
  refine e_cmne 131 109 em_395 rfl rfl (ce_at ce_395 36 rfl) g1 (by decide) (fun h2 => ?_) (fun h2 => ?_)
  · refine e_pk [0, 2] rfl rfl ?_
    exact tm_strings_131 w d hd _ _
  · refine e_mv 110 em_395 (ce_at ce_395 37 rfl) rfl rfl ?_
    refine e_getr 113 em_395 (ce_at ce_395 38 rfl) tq_121 rfl rfl ?_
    refine e_op 114 em_395 (ce_at ce_395 39 rfl) rfl rfl ?_
    refine e_ild 115 em_395 (ce_at ce_395 40 rfl) tq_188 (by decide) (by decide) rfl ?_
    refine e_mv 116 em_395 (ce_at ce_395 41 rfl) rfl rfl ?_
    refine e_mv 117 em_395 (ce_at ce_395 42 rfl) rfl rfl ?_
    refine e_op 118 em_395 (ce_at ce_395 43 rfl) rfl rfl ?_
    refine e_iadd 119 em_395 rfl (ce_at ce_395 44 rfl) ?_
    refine e_ivi 122 em_395 (ce_at ce_395 45 rfl) (by omega) (iv_v1 (by decide) tq_121 rfl) em_386 (Nat.le_of_ble_eq_true rfl) rfl (tm_read w (d - 1) (by omega) _ _) (fun r3 s3 => ?_)
    refine e_gd fun g4 => ?_
    refine e_gd fun g5 => ?_
    refine e_cmlt 131 125 em_395 rfl rfl (ce_at ce_395 46 rfl) g4 g5 (fun h6 => ?_) (fun h6 => ?_)
    · refine e_pk [0, 2] rfl rfl ?_
      exact tm_strings_131 w d hd _ _
    · refine e_mv 126 em_395 (ce_at ce_395 47 rfl) rfl rfl ?_
      refine e_bip 128 em_395 (ce_at ce_395 48 rfl) (by decide) rfl ?_
      refine e_ivv 131 em_395 (ce_at ce_395 49 rfl) (by omega) (iv_v1 (by decide) tq_121 rfl) em_376 (Nat.le_of_ble_eq_true rfl) rfl (tm_err w (d - 1) (by omega) _ _) (fun r7 s7 => ?_)
      refine e_pk [0, 2] rfl rfl ?_
      exact tm_strings_131 w d hd _ _
theorem fm_strings_101 (v2 : Int) (s : iS) : Fm Prod.snd L_m_strings G_m_strings s (m_strings_101 v2 s) := fm_gd (fm_if (fm_bd (fm_sub (fm_read _ _) (mem_sub_L rfl) (mem_sub_F rfl)) (fun r3 s3 => fm_gd (fm_gd (fm_if (fm_strings_131 _ _) (fm_bd (fm_sub (fm_err _ _) (mem_sub_L rfl) (mem_sub_F rfl)) (fun r7 s7 => fm_strings_131 _ _)))))) (fm_strings_131 _ _))
noncomputable def m_strings_193 (v2 : Int) (v3 : Int) (s : iS) : Option (Int × iS) := gd (rg (s 121 99)) (if (s 121 99) = (-1) then bd (m_write (v2 + 1) (v3 - 1) s) (fun _ s3 => some (0, s3)) else some (0, s))
theorem tm_strings_193 (w : ev_W) (d : Nat) (hd : 4 ≤ d) (v2 : Int) (v3 : Int) (s : iS) : Ew hT w d 395 193 [(0, .ref (tb_nK + 121)), (2, iv v2), (3, iv v3)] [] s (Ci hT) (m_strings_193 v2 v3 s) := by
  unfold m_strings_193
  refine e_mv 194 em_395 (ce_at ce_395 91 rfl) rfl rfl ?_
  refine e_get 197 em_395 (ce_at ce_395 92 rfl) tq_121 rfl rfl ?_
  refine e_op 198 em_395 (ce_at ce_395 93 rfl) rfl rfl ?_
  refine e_gd fun g1 => ?_
  refine e_cmne 211 201 em_395 rfl rfl (ce_at ce_395 94 rfl) g1 (by decide) (fun h2 => ?_) (fun h2 => ?_)
  · refine e_op 212 em_395 (ce_at ce_395 103 rfl) rfl rfl ?_
    exact e_reti em_395 (ce_at ce_395 104 rfl)
  · refine e_mv 202 em_395 (ce_at ce_395 95 rfl) rfl rfl ?_
    refine e_mv 203 em_395 (ce_at ce_395 96 rfl) rfl rfl ?_
    refine e_op 204 em_395 (ce_at ce_395 97 rfl) rfl rfl ?_
    refine e_iadd 205 em_395 rfl (ce_at ce_395 98 rfl) ?_
    refine e_mv 206 em_395 (ce_at ce_395 99 rfl) rfl rfl ?_
    refine e_op 207 em_395 (ce_at ce_395 100 rfl) rfl rfl ?_
    refine e_isub 208 em_395 rfl (ce_at ce_395 101 rfl) ?_
    refine e_ivv 211 em_395 (ce_at ce_395 102 rfl) (by omega) (iv_v2 (by decide) tq_121 rfl) em_383 (Nat.le_of_ble_eq_true rfl) rfl (tm_write w (d - 1) (by omega) _ _ _) (fun r3 s3 => ?_)
    refine e_op 212 em_395 (ce_at ce_395 103 rfl) rfl rfl ?_
    exact e_reti em_395 (ce_at ce_395 104 rfl)
theorem fm_strings_193 (v2 : Int) (v3 : Int) (s : iS) : Fm Prod.snd L_m_strings G_m_strings s (m_strings_193 v2 v3 s) := fm_gd (fm_if (fm_bd (fm_sub (fm_write _ _ _) (mem_sub_L rfl) (mem_sub_F rfl)) (fun r3 s3 => fm_some md_refl)) (fm_some md_refl))
noncomputable def m_strings (v1 : Int) (s : iS) : Option (Int × iS) := gd (rg v1) (if v1 = 0 then bd (m_newString (s 188 0) s) (fun r3 s3 => some (r3, s3)) else if v1 = 1 then bd (m_read ((s 188 0) + 1) s) (fun r5 s5 => some (r5, s5)) else if v1 = 2 then bd (m_charAt (s 188 0) (s 188 1) s) (fun r7 s7 => some (r7, s7)) else if v1 = 3 then gd (rg (s 188 1)) (if 0 ≤ (s 188 1) then m_strings_101 (s 188 0) s else bd (m_err 16 s) (fun _ s11 => m_strings_101 (s 188 0) s11)) else if v1 = 4 then bd (m_append (s 188 0) (s 188 1) s) (fun _ s13 => some ((s 188 0), s13)) else if v1 = 5 then bd (m_read ((s 188 0) + 1) s) (fun r15 s15 => gd (rg r15) (if 1 ≤ r15 then m_strings_193 (s 188 0) r15 s15 else bd (m_err 18 s15) (fun _ s18 => m_strings_193 (s 188 0) r15 s18))) else if v1 = 6 then bd (m_intValue (s 188 0) s) (fun r20 s20 => some (r20, s20)) else if v1 = 7 then bd (m_setInt (s 188 0) (s 188 1) s) (fun _ s22 => some (0, s22)) else if v1 = 8 then bd (m_drop (s 188 0) s) (fun _ s24 => some (0, s24)) else if v1 = 9 then some (10, s) else if v1 = 10 then some (34, s) else some (8, s))
theorem tm_strings (w : ev_W) (d : Nat) (hd : 4 ≤ d) (v1 : Int) (s : iS) : Ew hT w d 395 0 [(0, .ref (tb_nK + 121)), (1, iv v1)] [] s (Ci hT) (m_strings v1 s) := by
  unfold m_strings
  refine e_mv 1 em_395 (ce_at ce_395 0 rfl) rfl rfl ?_
  refine e_getr 4 em_395 (ce_at ce_395 1 rfl) tq_121 rfl rfl ?_
  refine e_op 5 em_395 (ce_at ce_395 2 rfl) rfl rfl ?_
  refine e_ild 6 em_395 (ce_at ce_395 3 rfl) tq_188 (by decide) (by decide) rfl ?_
  refine e_mv 7 em_395 (ce_at ce_395 4 rfl) rfl rfl ?_
  refine e_mv 8 em_395 (ce_at ce_395 5 rfl) rfl rfl ?_
  refine e_gd fun g1 => ?_
  refine e_case 0 (fun h2 => ?_) (fun h2 => ?_)
  · refine e_sw em_395 60 (ce_at ce_395 6 rfl) (sw_in g1 (by omega) (by subst h2; rfl)) rfl ?_
    refine e_mv 61 em_395 (ce_at ce_395 7 rfl) rfl rfl ?_
    refine e_mv 62 em_395 (ce_at ce_395 8 rfl) rfl rfl ?_
    refine e_ivi 65 em_395 (ce_at ce_395 9 rfl) (by omega) (iv_v1 (by decide) tq_121 rfl) em_382 (Nat.le_of_ble_eq_true rfl) rfl (tm_newString w (d - 1) (by omega) _ _) (fun r3 s3 => ?_)
    exact e_reti em_395 (ce_at ce_395 10 rfl)
  refine e_case 1 (fun h4 => ?_) (fun h4 => ?_)
  · refine e_sw em_395 66 (ce_at ce_395 6 rfl) (sw_in g1 (by omega) (by subst h4; rfl)) rfl ?_
    refine e_mv 67 em_395 (ce_at ce_395 11 rfl) rfl rfl ?_
    refine e_mv 68 em_395 (ce_at ce_395 12 rfl) rfl rfl ?_
    refine e_op 69 em_395 (ce_at ce_395 13 rfl) rfl rfl ?_
    refine e_iadd 70 em_395 rfl (ce_at ce_395 14 rfl) ?_
    refine e_ivi 73 em_395 (ce_at ce_395 15 rfl) (by omega) (iv_v1 (by decide) tq_121 rfl) em_386 (Nat.le_of_ble_eq_true rfl) rfl (tm_read w (d - 1) (by omega) _ _) (fun r5 s5 => ?_)
    exact e_reti em_395 (ce_at ce_395 16 rfl)
  refine e_case 2 (fun h6 => ?_) (fun h6 => ?_)
  · refine e_sw em_395 74 (ce_at ce_395 6 rfl) (sw_in g1 (by omega) (by subst h6; rfl)) rfl ?_
    refine e_mv 75 em_395 (ce_at ce_395 17 rfl) rfl rfl ?_
    refine e_mv 76 em_395 (ce_at ce_395 18 rfl) rfl rfl ?_
    refine e_mv 77 em_395 (ce_at ce_395 19 rfl) rfl rfl ?_
    refine e_getr 80 em_395 (ce_at ce_395 20 rfl) tq_121 rfl rfl ?_
    refine e_op 81 em_395 (ce_at ce_395 21 rfl) rfl rfl ?_
    refine e_ild 82 em_395 (ce_at ce_395 22 rfl) tq_188 (by decide) (by decide) rfl ?_
    refine e_ivi 85 em_395 (ce_at ce_395 23 rfl) (by omega) (iv_v2 (by decide) tq_121 rfl) em_396 (Nat.le_of_ble_eq_true rfl) rfl (tm_charAt w (d - 1) (by omega) _ _ _) (fun r7 s7 => ?_)
    exact e_reti em_395 (ce_at ce_395 24 rfl)
  refine e_case 3 (fun h8 => ?_) (fun h8 => ?_)
  · refine e_sw em_395 86 (ce_at ce_395 6 rfl) (sw_in g1 (by omega) (by subst h8; rfl)) rfl ?_
    refine e_mv 87 em_395 (ce_at ce_395 25 rfl) rfl rfl ?_
    refine e_getr 90 em_395 (ce_at ce_395 26 rfl) tq_121 rfl rfl ?_
    refine e_op 91 em_395 (ce_at ce_395 27 rfl) rfl rfl ?_
    refine e_ild 92 em_395 (ce_at ce_395 28 rfl) tq_188 (by decide) (by decide) rfl ?_
    refine e_gd fun g9 => ?_
    refine e_ifge 101 95 em_395 rfl rfl (ce_at ce_395 29 rfl) g9 (fun h10 => ?_) (fun h10 => ?_)
    · refine e_pk [0, 2] rfl rfl ?_
      exact tm_strings_101 w d hd _ _
    · refine e_mv 96 em_395 (ce_at ce_395 30 rfl) rfl rfl ?_
      refine e_bip 98 em_395 (ce_at ce_395 31 rfl) (by decide) rfl ?_
      refine e_ivv 101 em_395 (ce_at ce_395 32 rfl) (by omega) (iv_v1 (by decide) tq_121 rfl) em_376 (Nat.le_of_ble_eq_true rfl) rfl (tm_err w (d - 1) (by omega) _ _) (fun r11 s11 => ?_)
      refine e_pk [0, 2] rfl rfl ?_
      exact tm_strings_101 w d hd _ _
  refine e_case 4 (fun h12 => ?_) (fun h12 => ?_)
  · refine e_sw em_395 161 (ce_at ce_395 6 rfl) (sw_in g1 (by omega) (by subst h12; rfl)) rfl ?_
    refine e_mv 162 em_395 (ce_at ce_395 70 rfl) rfl rfl ?_
    refine e_mv 163 em_395 (ce_at ce_395 71 rfl) rfl rfl ?_
    refine e_mv 164 em_395 (ce_at ce_395 72 rfl) rfl rfl ?_
    refine e_getr 167 em_395 (ce_at ce_395 73 rfl) tq_121 rfl rfl ?_
    refine e_op 168 em_395 (ce_at ce_395 74 rfl) rfl rfl ?_
    refine e_ild 169 em_395 (ce_at ce_395 75 rfl) tq_188 (by decide) (by decide) rfl ?_
    refine e_ivv 172 em_395 (ce_at ce_395 76 rfl) (by omega) (iv_v2 (by decide) tq_121 rfl) em_385 (Nat.le_of_ble_eq_true rfl) rfl (tm_append w (d - 1) (by omega) _ _ _) (fun r13 s13 => ?_)
    refine e_mv 173 em_395 (ce_at ce_395 77 rfl) rfl rfl ?_
    exact e_reti em_395 (ce_at ce_395 78 rfl)
  refine e_case 5 (fun h14 => ?_) (fun h14 => ?_)
  · refine e_sw em_395 174 (ce_at ce_395 6 rfl) (sw_in g1 (by omega) (by subst h14; rfl)) rfl ?_
    refine e_mv 175 em_395 (ce_at ce_395 79 rfl) rfl rfl ?_
    refine e_mv 176 em_395 (ce_at ce_395 80 rfl) rfl rfl ?_
    refine e_op 177 em_395 (ce_at ce_395 81 rfl) rfl rfl ?_
    refine e_iadd 178 em_395 rfl (ce_at ce_395 82 rfl) ?_
    refine e_ivi 181 em_395 (ce_at ce_395 83 rfl) (by omega) (iv_v1 (by decide) tq_121 rfl) em_386 (Nat.le_of_ble_eq_true rfl) rfl (tm_read w (d - 1) (by omega) _ _) (fun r15 s15 => ?_)
    refine e_mv 182 em_395 (ce_at ce_395 84 rfl) rfl rfl ?_
    refine e_mv 183 em_395 (ce_at ce_395 85 rfl) rfl rfl ?_
    refine e_op 184 em_395 (ce_at ce_395 86 rfl) rfl rfl ?_
    refine e_gd fun g16 => ?_
    refine e_cmge 193 187 em_395 rfl rfl (ce_at ce_395 87 rfl) g16 (by decide) (fun h17 => ?_) (fun h17 => ?_)
    · refine e_pk [0, 2, 3] rfl rfl ?_
      exact tm_strings_193 w d hd _ _ _
    · refine e_mv 188 em_395 (ce_at ce_395 88 rfl) rfl rfl ?_
      refine e_bip 190 em_395 (ce_at ce_395 89 rfl) (by decide) rfl ?_
      refine e_ivv 193 em_395 (ce_at ce_395 90 rfl) (by omega) (iv_v1 (by decide) tq_121 rfl) em_376 (Nat.le_of_ble_eq_true rfl) rfl (tm_err w (d - 1) (by omega) _ _) (fun r18 s18 => ?_)
      refine e_pk [0, 2, 3] rfl rfl ?_
      exact tm_strings_193 w d hd _ _ _
  refine e_case 6 (fun h19 => ?_) (fun h19 => ?_)
  · refine e_sw em_395 213 (ce_at ce_395 6 rfl) (sw_in g1 (by omega) (by subst h19; rfl)) rfl ?_
    refine e_mv 214 em_395 (ce_at ce_395 105 rfl) rfl rfl ?_
    refine e_mv 215 em_395 (ce_at ce_395 106 rfl) rfl rfl ?_
    refine e_ivi 218 em_395 (ce_at ce_395 107 rfl) (by omega) (iv_v1 (by decide) tq_121 rfl) em_397 (Nat.le_of_ble_eq_true rfl) rfl (tm_intValue w (d - 1) (by omega) _ _) (fun r20 s20 => ?_)
    exact e_reti em_395 (ce_at ce_395 108 rfl)
  refine e_case 7 (fun h21 => ?_) (fun h21 => ?_)
  · refine e_sw em_395 219 (ce_at ce_395 6 rfl) (sw_in g1 (by omega) (by subst h21; rfl)) rfl ?_
    refine e_mv 220 em_395 (ce_at ce_395 109 rfl) rfl rfl ?_
    refine e_mv 221 em_395 (ce_at ce_395 110 rfl) rfl rfl ?_
    refine e_mv 222 em_395 (ce_at ce_395 111 rfl) rfl rfl ?_
    refine e_getr 225 em_395 (ce_at ce_395 112 rfl) tq_121 rfl rfl ?_
    refine e_op 226 em_395 (ce_at ce_395 113 rfl) rfl rfl ?_
    refine e_ild 227 em_395 (ce_at ce_395 114 rfl) tq_188 (by decide) (by decide) rfl ?_
    refine e_ivv 230 em_395 (ce_at ce_395 115 rfl) (by omega) (iv_v2 (by decide) tq_121 rfl) em_398 (Nat.le_of_ble_eq_true rfl) rfl (tm_setInt w (d - 1) (by omega) _ _ _) (fun r22 s22 => ?_)
    refine e_op 231 em_395 (ce_at ce_395 116 rfl) rfl rfl ?_
    exact e_reti em_395 (ce_at ce_395 117 rfl)
  refine e_case 8 (fun h23 => ?_) (fun h23 => ?_)
  · refine e_sw em_395 232 (ce_at ce_395 6 rfl) (sw_in g1 (by omega) (by subst h23; rfl)) rfl ?_
    refine e_mv 233 em_395 (ce_at ce_395 118 rfl) rfl rfl ?_
    refine e_mv 234 em_395 (ce_at ce_395 119 rfl) rfl rfl ?_
    refine e_ivv 237 em_395 (ce_at ce_395 120 rfl) (by omega) (iv_v1 (by decide) tq_121 rfl) em_394 (Nat.le_of_ble_eq_true rfl) rfl (tm_drop w (d - 1) (by omega) _ _) (fun r24 s24 => ?_)
    refine e_op 238 em_395 (ce_at ce_395 121 rfl) rfl rfl ?_
    exact e_reti em_395 (ce_at ce_395 122 rfl)
  refine e_sw em_395 239 (ce_at ce_395 6 rfl) (sw_out g1 (by omega)) rfl ?_
  refine e_mv 240 em_395 (ce_at ce_395 123 rfl) rfl rfl ?_
  refine e_bip 242 em_395 (ce_at ce_395 124 rfl) (by decide) rfl ?_
  refine e_cmne 250 245 em_395 rfl rfl (ce_at ce_395 125 rfl) g1 (by decide) (fun h25 => ?_) (fun h25 => ?_)
  · refine e_mv 251 em_395 (ce_at ce_395 128 rfl) rfl rfl ?_
    refine e_bip 253 em_395 (ce_at ce_395 129 rfl) (by decide) rfl ?_
    refine e_cmne 261 256 em_395 rfl rfl (ce_at ce_395 130 rfl) g1 (by decide) (fun h26 => ?_) (fun h26 => ?_)
    · refine e_bip 263 em_395 (ce_at ce_395 133 rfl) (by decide) rfl ?_
      exact e_reti em_395 (ce_at ce_395 134 rfl)
    · refine e_bip 258 em_395 (ce_at ce_395 131 rfl) (by decide) rfl ?_
      refine e_goto em_395 263 (ce_at ce_395 132 rfl) rfl ?_
      exact e_reti em_395 (ce_at ce_395 134 rfl)
  · refine e_bip 247 em_395 (ce_at ce_395 126 rfl) (by decide) rfl ?_
    refine e_goto em_395 263 (ce_at ce_395 127 rfl) rfl ?_
    exact e_reti em_395 (ce_at ce_395 134 rfl)
theorem fm_strings (v1 : Int) (s : iS) : Fm Prod.snd L_m_strings G_m_strings s (m_strings v1 s) := fm_gd (fm_if (fm_bd (fm_sub (fm_newString _ _) (mem_sub_L rfl) (mem_sub_F rfl)) (fun r3 s3 => fm_some md_refl)) (fm_if (fm_bd (fm_sub (fm_read _ _) (mem_sub_L rfl) (mem_sub_F rfl)) (fun r5 s5 => fm_some md_refl)) (fm_if (fm_bd (fm_sub (fm_charAt _ _ _) (mem_sub_L rfl) (mem_sub_F rfl)) (fun r7 s7 => fm_some md_refl)) (fm_if (fm_gd (fm_if (fm_strings_101 _ _) (fm_bd (fm_sub (fm_err _ _) (mem_sub_L rfl) (mem_sub_F rfl)) (fun r11 s11 => fm_strings_101 _ _)))) (fm_if (fm_bd (fm_sub (fm_append _ _ _) (mem_sub_L rfl) (mem_sub_F rfl)) (fun r13 s13 => fm_some md_refl)) (fm_if (fm_bd (fm_sub (fm_read _ _) (mem_sub_L rfl) (mem_sub_F rfl)) (fun r15 s15 => fm_gd (fm_if (fm_strings_193 _ _ _) (fm_bd (fm_sub (fm_err _ _) (mem_sub_L rfl) (mem_sub_F rfl)) (fun r18 s18 => fm_strings_193 _ _ _))))) (fm_if (fm_bd (fm_sub (fm_intValue _ _) (mem_sub_L rfl) (mem_sub_F rfl)) (fun r20 s20 => fm_some md_refl)) (fm_if (fm_bd (fm_sub (fm_setInt _ _ _) (mem_sub_L rfl) (mem_sub_F rfl)) (fun r22 s22 => fm_some md_refl)) (fm_if (fm_bd (fm_sub (fm_drop _ _) (mem_sub_L rfl) (mem_sub_F rfl)) (fun r24 s24 => fm_some md_refl)) (fm_if (fm_some md_refl) (fm_if (fm_some md_refl) (fm_some md_refl))))))))))))
/-! m_print -/
def L_m_print : List Nat := [187]
def G_m_print : List (Nat × Nat) := [(121, 106)]
noncomputable def m_print (v1 : Int) (s : iS) : Option (Int × iS) := gd (rg (s 121 99)) (if (s 121 99) = (-1) then gd (rg (s 121 106)) (if (s 121 106) = 3000 then some (0, s) else gd (0 ≤ (s 121 106) ∧ (s 121 106) < 3000) (lt' (up s 187 (s 121 106).toNat (i_and v1 255)) (fun s6 => lt' (up s6 121 106 ((s6 121 106) + 1)) (fun s7 => some (0, s7))))) else some (0, s))
theorem tm_print (w : ev_W) (d : Nat) (hd : 0 ≤ d) (v1 : Int) (s : iS) : Ew hT w d 402 0 [(0, .ref (tb_nK + 121)), (1, iv v1)] [] s (Cv hT) (m_print v1 s) := by
  unfold m_print
  refine e_mv 1 em_402 (ce_at ce_402 0 rfl) rfl rfl ?_
  refine e_get 4 em_402 (ce_at ce_402 1 rfl) tq_121 rfl rfl ?_
  refine e_op 5 em_402 (ce_at ce_402 2 rfl) rfl rfl ?_
  refine e_gd fun g1 => ?_
  refine e_cmne 18 8 em_402 rfl rfl (ce_at ce_402 3 rfl) g1 (by decide) (fun h2 => ?_) (fun h2 => ?_)
  · exact e_retv em_402 (ce_at ce_402 8 rfl)
  · refine e_mv 9 em_402 (ce_at ce_402 4 rfl) rfl rfl ?_
    refine e_get 12 em_402 (ce_at ce_402 5 rfl) tq_121 rfl rfl ?_
    refine e_sip 15 em_402 (ce_at ce_402 6 rfl) (by decide) rfl ?_
    refine e_gd fun g3 => ?_
    refine e_cmne 19 18 em_402 rfl rfl (ce_at ce_402 7 rfl) g3 (by decide) (fun h4 => ?_) (fun h4 => ?_)
    · refine e_mv 20 em_402 (ce_at ce_402 9 rfl) rfl rfl ?_
      refine e_getr 23 em_402 (ce_at ce_402 10 rfl) tq_121 rfl rfl ?_
      refine e_mv 24 em_402 (ce_at ce_402 11 rfl) rfl rfl ?_
      refine e_get 27 em_402 (ce_at ce_402 12 rfl) tq_121 rfl rfl ?_
      refine e_mv 28 em_402 (ce_at ce_402 13 rfl) rfl rfl ?_
      refine e_sip 31 em_402 (ce_at ce_402 14 rfl) (by decide) rfl ?_
      refine e_iand 32 em_402 rfl (ce_at ce_402 15 rfl) ?_
      refine e_gd fun g5 => ?_
      refine e_ist 33 em_402 (ce_at ce_402 16 rfl) tq_187 (by decide) g5 rfl (fun s6 => ?_)
      refine e_mv 34 em_402 (ce_at ce_402 17 rfl) rfl rfl ?_
      refine e_mv 35 em_402 (ce_at ce_402 18 rfl) rfl rfl ?_
      refine e_get 38 em_402 (ce_at ce_402 19 rfl) tq_121 rfl rfl ?_
      refine e_op 39 em_402 (ce_at ce_402 20 rfl) rfl rfl ?_
      refine e_iadd 40 em_402 rfl (ce_at ce_402 21 rfl) ?_
      refine e_put 43 em_402 (ce_at ce_402 22 rfl) tq_121 rfl rfl rfl (fun s7 => ?_)
      exact e_retv em_402 (ce_at ce_402 23 rfl)
    · exact e_retv em_402 (ce_at ce_402 8 rfl)
theorem fm_print (v1 : Int) (s : iS) : Fm Prod.snd L_m_print G_m_print s (m_print v1 s) := fm_gd (fm_if (fm_gd (fm_if (fm_some md_refl) (fm_gd (fm_lt (md_upL (mem_L rfl)) (fun s6 => fm_lt (md_upF (mem_F rfl)) (fun s7 => fm_some md_refl)))))) (fm_some md_refl))
/-! m_printInt -/
def L_m_printInt : List Nat := [187]
def G_m_printInt : List (Nat × Nat) := [(121, 106)]
def m_printInt_26C (w : ev_W) (d : Nat) (v2 : Int) : (Int × iS) ⊕ (iS) → am_E → Prop := fun q r => q.elim (fun l => ev w d 404 26 ((fun l => [(0, .ref (tb_nK + 121)), (2, iv v2), (3, iv (l.1))]) l) [] (hT ((fun l => l.2) l)) r) (fun e => (fun e r => ev w d 404 47 [] [] (hT (e)) r) e r)
noncomputable def m_printInt_26b (v2 : Int) (v3 : Int) (s : iS) : Option ((Int × iS) ⊕ (iS)) := gd (rg v3) (if v3 ≤ 0 then some (.inr s) else bd (m_digit v2 v3 s) (fun r3 s3 => bd (m_print r3 s3) (fun _ s4 => some (.inl ((v3.tdiv 10), s4)))))
theorem tm_printInt_26b (w : ev_W) (d : Nat) (hd : 1 ≤ d) (v2 : Int) (v3 : Int) (s : iS) : Ew hT w d 404 26 [(0, .ref (tb_nK + 121)), (2, iv v2), (3, iv v3)] [] s (m_printInt_26C w d v2) (m_printInt_26b v2 v3 s) := by
  unfold m_printInt_26b
  refine e_mv 27 em_404 (ce_at ce_404 15 rfl) rfl rfl ?_
  refine e_gd fun g1 => ?_
  refine e_ifle 47 30 em_404 rfl rfl (ce_at ce_404 16 rfl) g1 (fun h2 => ?_) (fun h2 => ?_)
  · refine e_pk [] rfl rfl ?_
    exact e_out (fun r h => h)
  · refine e_mv 31 em_404 (ce_at ce_404 17 rfl) rfl rfl ?_
    refine e_mv 32 em_404 (ce_at ce_404 18 rfl) rfl rfl ?_
    refine e_mv 33 em_404 (ce_at ce_404 19 rfl) rfl rfl ?_
    refine e_ivi 36 em_404 (ce_at ce_404 20 rfl) (by omega) (iv_s2 rfl) em_400 (Nat.le_of_ble_eq_true rfl) rfl (tm_digit hT w (d - 1) (by omega) _ _ _) (fun r3 s3 => ?_)
    refine e_ivv 39 em_404 (ce_at ce_404 21 rfl) (by omega) (iv_v1 (by decide) tq_121 rfl) em_402 (Nat.le_of_ble_eq_true rfl) rfl (tm_print w (d - 1) (by omega) _ _) (fun r4 s4 => ?_)
    refine e_mv 40 em_404 (ce_at ce_404 22 rfl) rfl rfl ?_
    refine e_bip 42 em_404 (ce_at ce_404 23 rfl) (by decide) rfl ?_
    refine e_idiv 43 em_404 rfl (ce_at ce_404 24 rfl) g1 (by decide) (by decide) ?_
    refine e_mv 44 em_404 (ce_at ce_404 25 rfl) rfl rfl ?_
    refine e_goto em_404 26 (ce_at ce_404 26 rfl) rfl ?_
    refine e_pk [0, 2, 3] rfl rfl ?_
    exact e_out (fun r h => h)
theorem fm_printInt_26b (v2 : Int) (v3 : Int) (s : iS) : Fm (fun r : (Int × iS) ⊕ (iS) => r.elim (fun l => l.2) (fun e => e)) L_m_printInt G_m_printInt s (m_printInt_26b v2 v3 s) := fm_gd (fm_if (fm_some md_refl) (fm_bd (fm_sub (fm_digit _ _ _) (mem_sub_L rfl) (mem_sub_F rfl)) (fun r3 s3 => fm_bd (fm_sub (fm_print _ _) (mem_sub_L rfl) (mem_sub_F rfl)) (fun r4 s4 => fm_some md_refl))))
noncomputable def m_printInt_26 (v2 : Int) (v3 : Int) (s : iS) : Option (Int × iS) := (lp (L := Int × iS) (E := iS) (fun l => m_printInt_26b v2 (l.1) (l.2)) (v3, s)).bind (fun e => some (0, e))
theorem tm_printInt_26 (w : ev_W) (d : Nat) (hd : 1 ≤ d) (v2 : Int) (v3 : Int) (s : iS) : Ew hT w d 404 26 [(0, .ref (tb_nK + 121)), (2, iv v2), (3, iv v3)] [] s (Cv hT) (m_printInt_26 v2 v3 s) := by
  unfold m_printInt_26
  refine e_lp (L := Int × iS) (E := iS) (LO := fun l => [(0, .ref (tb_nK + 121)), (2, iv v2), (3, iv (l.1))]) (LS := fun l => l.2) (CE := fun e r => ev w d 404 47 [] [] (hT (e)) r) (fun l => tm_printInt_26b w d hd _ _ _) ?_ (v3, s)
  intro e
  show Ew hT w d 404 47 [] [] e (Cv hT) _
  exact e_retv em_404 (ce_at ce_404 27 rfl)
theorem fm_printInt_26 (v2 : Int) (v3 : Int) (s : iS) : Fm Prod.snd L_m_printInt G_m_printInt s (m_printInt_26 v2 v3 s) := by
  unfold m_printInt_26
  refine fm_lp (A := Int × iS) (E := iS) (LS := fun l => l.2) (LE := fun e => e) ?_ ?_ (v3, s)
  · exact fun l => fm_printInt_26b _ _ _
  · exact (fun e => fm_some md_refl)
noncomputable def m_printInt_21 (v2 : Int) (s : iS) : Option (Int × iS) := bd (m_firstPower v2 s) (fun r1 s1 => m_printInt_26 v2 r1 s1)
theorem tm_printInt_21 (w : ev_W) (d : Nat) (hd : 1 ≤ d) (v2 : Int) (s : iS) : Ew hT w d 404 21 [(0, .ref (tb_nK + 121)), (2, iv v2)] [] s (Cv hT) (m_printInt_21 v2 s) := by
  unfold m_printInt_21
  refine e_mv 22 em_404 (ce_at ce_404 12 rfl) rfl rfl ?_
  refine e_ivi 25 em_404 (ce_at ce_404 13 rfl) (by omega) (iv_s1 rfl) em_399 (Nat.le_of_ble_eq_true rfl) rfl (tm_firstPower hT w (d - 1) (by omega) _ _) (fun r1 s1 => ?_)
  refine e_mv 26 em_404 (ce_at ce_404 14 rfl) rfl rfl ?_
  refine e_pk [0, 2, 3] rfl rfl ?_
  exact tm_printInt_26 w d hd _ _ _
theorem fm_printInt_21 (v2 : Int) (s : iS) : Fm Prod.snd L_m_printInt G_m_printInt s (m_printInt_21 v2 s) := fm_bd (fm_sub (fm_firstPower _ _) (mem_sub_L rfl) (mem_sub_F rfl)) (fun r1 s1 => fm_printInt_26 _ _ _)
noncomputable def m_printInt_10 (v1 : Int) (t0 : Int) (s : iS) : Option (Int × iS) := gd (rg v1) (if 0 ≤ v1 then m_printInt_21 t0 s else bd (m_print 45 s) (fun _ s3 => m_printInt_21 t0 s3))
theorem tm_printInt_10 (w : ev_W) (d : Nat) (hd : 1 ≤ d) (v1 : Int) (t0 : Int) (s : iS) : Ew hT w d 404 10 [(0, .ref (tb_nK + 121)), (1, iv v1)] [iv t0] s (Cv hT) (m_printInt_10 v1 t0 s) := by
  unfold m_printInt_10
  refine e_mv 11 em_404 (ce_at ce_404 6 rfl) rfl rfl ?_
  refine e_mv 12 em_404 (ce_at ce_404 7 rfl) rfl rfl ?_
  refine e_gd fun g1 => ?_
  refine e_ifge 21 15 em_404 rfl rfl (ce_at ce_404 8 rfl) g1 (fun h2 => ?_) (fun h2 => ?_)
  · refine e_pk [0, 2] rfl rfl ?_
    exact tm_printInt_21 w d hd _ _
  · refine e_mv 16 em_404 (ce_at ce_404 9 rfl) rfl rfl ?_
    refine e_bip 18 em_404 (ce_at ce_404 10 rfl) (by decide) rfl ?_
    refine e_ivv 21 em_404 (ce_at ce_404 11 rfl) (by omega) (iv_v1 (by decide) tq_121 rfl) em_402 (Nat.le_of_ble_eq_true rfl) rfl (tm_print w (d - 1) (by omega) _ _) (fun r3 s3 => ?_)
    refine e_pk [0, 2] rfl rfl ?_
    exact tm_printInt_21 w d hd _ _
theorem fm_printInt_10 (v1 : Int) (t0 : Int) (s : iS) : Fm Prod.snd L_m_printInt G_m_printInt s (m_printInt_10 v1 t0 s) := fm_gd (fm_if (fm_printInt_21 _ _) (fm_bd (fm_sub (fm_print _ _) (mem_sub_L rfl) (mem_sub_F rfl)) (fun r3 s3 => fm_printInt_21 _ _)))
noncomputable def m_printInt (v1 : Int) (s : iS) : Option (Int × iS) := gd (rg v1) (if 0 ≤ v1 then m_printInt_10 v1 v1 s else m_printInt_10 v1 (-v1) s)
theorem tm_printInt (w : ev_W) (d : Nat) (hd : 1 ≤ d) (v1 : Int) (s : iS) : Ew hT w d 404 0 [(0, .ref (tb_nK + 121)), (1, iv v1)] [] s (Cv hT) (m_printInt v1 s) := by
  unfold m_printInt
  refine e_mv 1 em_404 (ce_at ce_404 0 rfl) rfl rfl ?_
  refine e_gd fun g1 => ?_
  refine e_ifge 9 4 em_404 rfl rfl (ce_at ce_404 1 rfl) g1 (fun h2 => ?_) (fun h2 => ?_)
  · refine e_mv 10 em_404 (ce_at ce_404 5 rfl) rfl rfl ?_
    refine e_pk [0, 1] rfl rfl ?_
    exact tm_printInt_10 w d hd _ _ _
  · refine e_mv 5 em_404 (ce_at ce_404 2 rfl) rfl rfl ?_
    refine e_ineg 6 em_404 rfl (ce_at ce_404 3 rfl) ?_
    refine e_goto em_404 10 (ce_at ce_404 4 rfl) rfl ?_
    refine e_pk [0, 1] rfl rfl ?_
    exact tm_printInt_10 w d hd _ _ _
theorem fm_printInt (v1 : Int) (s : iS) : Fm Prod.snd L_m_printInt G_m_printInt s (m_printInt v1 s) := fm_gd (fm_if (fm_printInt_10 _ _ _) (fm_printInt_10 _ _ _))
/-! m_printString -/
def L_m_printString : List Nat := [187]
def G_m_printString : List (Nat × Nat) := [(121, 99), (121, 100), (121, 106)]
def m_printString_10C (w : ev_W) (d : Nat) (v1 : Int) (v2 : Int) : (Int × iS) ⊕ (iS) → am_E → Prop := fun q r => q.elim (fun l => ev w d 403 10 ((fun l => [(0, .ref (tb_nK + 121)), (1, iv v1), (2, iv v2), (3, iv (l.1))]) l) [] (hT ((fun l => l.2) l)) r) (fun e => (fun e r => ev w d 403 39 [] [] (hT (e)) r) e r)
noncomputable def m_printString_10b (v1 : Int) (v2 : Int) (v3 : Int) (s : iS) : Option ((Int × iS) ⊕ (iS)) := gd (rg v3) (gd (rg v2) (if v2 ≤ v3 then some (.inr s) else gd (rg (s 121 99)) (if (s 121 99) = (-1) then bd (m_charAt v1 v3 s) (fun r6 s6 => bd (m_print r6 s6) (fun _ s7 => some (.inl ((v3 + 1), s7)))) else some (.inr s))))
theorem tm_printString_10b (w : ev_W) (d : Nat) (hd : 3 ≤ d) (v1 : Int) (v2 : Int) (v3 : Int) (s : iS) : Ew hT w d 403 10 [(0, .ref (tb_nK + 121)), (1, iv v1), (2, iv v2), (3, iv v3)] [] s (m_printString_10C w d v1 v2) (m_printString_10b v1 v2 v3 s) := by
  unfold m_printString_10b
  refine e_mv 11 em_403 (ce_at ce_403 8 rfl) rfl rfl ?_
  refine e_mv 12 em_403 (ce_at ce_403 9 rfl) rfl rfl ?_
  refine e_gd fun g1 => ?_
  refine e_gd fun g2 => ?_
  refine e_cmge 39 15 em_403 rfl rfl (ce_at ce_403 10 rfl) g1 g2 (fun h3 => ?_) (fun h3 => ?_)
  · refine e_pk [] rfl rfl ?_
    exact e_out (fun r h => h)
  · refine e_mv 16 em_403 (ce_at ce_403 11 rfl) rfl rfl ?_
    refine e_get 19 em_403 (ce_at ce_403 12 rfl) tq_121 rfl rfl ?_
    refine e_op 20 em_403 (ce_at ce_403 13 rfl) rfl rfl ?_
    refine e_gd fun g4 => ?_
    refine e_cmne 39 23 em_403 rfl rfl (ce_at ce_403 14 rfl) g4 (by decide) (fun h5 => ?_) (fun h5 => ?_)
    · refine e_pk [] rfl rfl ?_
      exact e_out (fun r h => h)
    · refine e_mv 24 em_403 (ce_at ce_403 15 rfl) rfl rfl ?_
      refine e_mv 25 em_403 (ce_at ce_403 16 rfl) rfl rfl ?_
      refine e_mv 26 em_403 (ce_at ce_403 17 rfl) rfl rfl ?_
      refine e_mv 27 em_403 (ce_at ce_403 18 rfl) rfl rfl ?_
      refine e_ivi 30 em_403 (ce_at ce_403 19 rfl) (by omega) (iv_v2 (by decide) tq_121 rfl) em_396 (Nat.le_of_ble_eq_true rfl) rfl (tm_charAt w (d - 1) (by omega) _ _ _) (fun r6 s6 => ?_)
      refine e_ivv 33 em_403 (ce_at ce_403 20 rfl) (by omega) (iv_v1 (by decide) tq_121 rfl) em_402 (Nat.le_of_ble_eq_true rfl) rfl (tm_print w (d - 1) (by omega) _ _) (fun r7 s7 => ?_)
      refine e_iinc 36 em_403 (ce_at ce_403 21 rfl) rfl (by decide) rfl ?_
      refine e_goto em_403 10 (ce_at ce_403 22 rfl) rfl ?_
      refine e_pk [0, 1, 2, 3] rfl rfl ?_
      exact e_out (fun r h => h)
theorem fm_printString_10b (v1 : Int) (v2 : Int) (v3 : Int) (s : iS) : Fm (fun r : (Int × iS) ⊕ (iS) => r.elim (fun l => l.2) (fun e => e)) L_m_printString G_m_printString s (m_printString_10b v1 v2 v3 s) := fm_gd (fm_gd (fm_if (fm_some md_refl) (fm_gd (fm_if (fm_bd (fm_sub (fm_charAt _ _ _) (mem_sub_L rfl) (mem_sub_F rfl)) (fun r6 s6 => fm_bd (fm_sub (fm_print _ _) (mem_sub_L rfl) (mem_sub_F rfl)) (fun r7 s7 => fm_some md_refl))) (fm_some md_refl)))))
noncomputable def m_printString_10 (v1 : Int) (v2 : Int) (v3 : Int) (s : iS) : Option (Int × iS) := (lp (L := Int × iS) (E := iS) (fun l => m_printString_10b v1 v2 (l.1) (l.2)) (v3, s)).bind (fun e => some (0, e))
theorem tm_printString_10 (w : ev_W) (d : Nat) (hd : 3 ≤ d) (v1 : Int) (v2 : Int) (v3 : Int) (s : iS) : Ew hT w d 403 10 [(0, .ref (tb_nK + 121)), (1, iv v1), (2, iv v2), (3, iv v3)] [] s (Cv hT) (m_printString_10 v1 v2 v3 s) := by
  unfold m_printString_10
  refine e_lp (L := Int × iS) (E := iS) (LO := fun l => [(0, .ref (tb_nK + 121)), (1, iv v1), (2, iv v2), (3, iv (l.1))]) (LS := fun l => l.2) (CE := fun e r => ev w d 403 39 [] [] (hT (e)) r) (fun l => tm_printString_10b w d hd _ _ _ _) ?_ (v3, s)
  intro e
  show Ew hT w d 403 39 [] [] e (Cv hT) _
  exact e_retv em_403 (ce_at ce_403 23 rfl)
theorem fm_printString_10 (v1 : Int) (v2 : Int) (v3 : Int) (s : iS) : Fm Prod.snd L_m_printString G_m_printString s (m_printString_10 v1 v2 v3 s) := by
  unfold m_printString_10
  refine fm_lp (A := Int × iS) (E := iS) (LS := fun l => l.2) (LE := fun e => e) ?_ ?_ (v3, s)
  · exact fun l => fm_printString_10b _ _ _ _
  · exact (fun e => fm_some md_refl)
noncomputable def m_printString (v1 : Int) (s : iS) : Option (Int × iS) := bd (m_read (v1 + 1) s) (fun r1 s1 => m_printString_10 v1 r1 0 s1)
theorem tm_printString (w : ev_W) (d : Nat) (hd : 3 ≤ d) (v1 : Int) (s : iS) : Ew hT w d 403 0 [(0, .ref (tb_nK + 121)), (1, iv v1)] [] s (Cv hT) (m_printString v1 s) := by
  unfold m_printString
  refine e_mv 1 em_403 (ce_at ce_403 0 rfl) rfl rfl ?_
  refine e_mv 2 em_403 (ce_at ce_403 1 rfl) rfl rfl ?_
  refine e_op 3 em_403 (ce_at ce_403 2 rfl) rfl rfl ?_
  refine e_iadd 4 em_403 rfl (ce_at ce_403 3 rfl) ?_
  refine e_ivi 7 em_403 (ce_at ce_403 4 rfl) (by omega) (iv_v1 (by decide) tq_121 rfl) em_386 (Nat.le_of_ble_eq_true rfl) rfl (tm_read w (d - 1) (by omega) _ _) (fun r1 s1 => ?_)
  refine e_mv 8 em_403 (ce_at ce_403 5 rfl) rfl rfl ?_
  refine e_op 9 em_403 (ce_at ce_403 6 rfl) rfl rfl ?_
  refine e_mv 10 em_403 (ce_at ce_403 7 rfl) rfl rfl ?_
  refine e_pk [0, 1, 2, 3] rfl rfl ?_
  exact tm_printString_10 w d hd _ _ _ _
theorem fm_printString (v1 : Int) (s : iS) : Fm Prod.snd L_m_printString G_m_printString s (m_printString v1 s) := fm_bd (fm_sub (fm_read _ _) (mem_sub_L rfl) (mem_sub_F rfl)) (fun r1 s1 => fm_printString_10 _ _ _ _)
/-! m_outputs -/
def L_m_outputs : List Nat := [187]
def G_m_outputs : List (Nat × Nat) := [(121, 99), (121, 100), (121, 106)]
noncomputable def m_outputs_44 (v1 : Int) (s : iS) : Option (Int × iS) := gd (rg v1) (if v1 = 3 then bd (m_print 10 s) (fun _ s3 => some (0, s3)) else some (0, s))
theorem tm_outputs_44 (w : ev_W) (d : Nat) (hd : 4 ≤ d) (v1 : Int) (s : iS) : Ew hT w d 401 44 [(0, .ref (tb_nK + 121)), (1, iv v1)] [] s (Cv hT) (m_outputs_44 v1 s) := by
  unfold m_outputs_44
  refine e_mv 45 em_401 (ce_at ce_401 26 rfl) rfl rfl ?_
  refine e_op 46 em_401 (ce_at ce_401 27 rfl) rfl rfl ?_
  refine e_gd fun g1 => ?_
  refine e_cmne 55 49 em_401 rfl rfl (ce_at ce_401 28 rfl) g1 (by decide) (fun h2 => ?_) (fun h2 => ?_)
  · exact e_retv em_401 (ce_at ce_401 32 rfl)
  · refine e_mv 50 em_401 (ce_at ce_401 29 rfl) rfl rfl ?_
    refine e_bip 52 em_401 (ce_at ce_401 30 rfl) (by decide) rfl ?_
    refine e_ivv 55 em_401 (ce_at ce_401 31 rfl) (by omega) (iv_v1 (by decide) tq_121 rfl) em_402 (Nat.le_of_ble_eq_true rfl) rfl (tm_print w (d - 1) (by omega) _ _) (fun r3 s3 => ?_)
    exact e_retv em_401 (ce_at ce_401 32 rfl)
theorem fm_outputs_44 (v1 : Int) (s : iS) : Fm Prod.snd L_m_outputs G_m_outputs s (m_outputs_44 v1 s) := fm_gd (fm_if (fm_bd (fm_sub (fm_print _ _) (mem_sub_L rfl) (mem_sub_F rfl)) (fun r3 s3 => fm_some md_refl)) (fm_some md_refl))
noncomputable def m_outputs_29 (v1 : Int) (s : iS) : Option (Int × iS) := gd (rg v1) (if v1 = 2 then bd (m_printInt (s 188 0) s) (fun _ s3 => m_outputs_44 v1 s3) else m_outputs_44 v1 s)
theorem tm_outputs_29 (w : ev_W) (d : Nat) (hd : 4 ≤ d) (v1 : Int) (s : iS) : Ew hT w d 401 29 [(0, .ref (tb_nK + 121)), (1, iv v1)] [] s (Cv hT) (m_outputs_29 v1 s) := by
  unfold m_outputs_29
  refine e_mv 30 em_401 (ce_at ce_401 17 rfl) rfl rfl ?_
  refine e_op 31 em_401 (ce_at ce_401 18 rfl) rfl rfl ?_
  refine e_gd fun g1 => ?_
  refine e_cmne 44 34 em_401 rfl rfl (ce_at ce_401 19 rfl) g1 (by decide) (fun h2 => ?_) (fun h2 => ?_)
  · refine e_pk [0, 1] rfl rfl ?_
    exact tm_outputs_44 w d hd _ _
  · refine e_mv 35 em_401 (ce_at ce_401 20 rfl) rfl rfl ?_
    refine e_mv 36 em_401 (ce_at ce_401 21 rfl) rfl rfl ?_
    refine e_getr 39 em_401 (ce_at ce_401 22 rfl) tq_121 rfl rfl ?_
    refine e_op 40 em_401 (ce_at ce_401 23 rfl) rfl rfl ?_
    refine e_ild 41 em_401 (ce_at ce_401 24 rfl) tq_188 (by decide) (by decide) rfl ?_
    refine e_ivv 44 em_401 (ce_at ce_401 25 rfl) (by omega) (iv_v1 (by decide) tq_121 rfl) em_404 (Nat.le_of_ble_eq_true rfl) rfl (tm_printInt w (d - 1) (by omega) _ _) (fun r3 s3 => ?_)
    refine e_pk [0, 1] rfl rfl ?_
    exact tm_outputs_44 w d hd _ _
theorem fm_outputs_29 (v1 : Int) (s : iS) : Fm Prod.snd L_m_outputs G_m_outputs s (m_outputs_29 v1 s) := fm_gd (fm_if (fm_bd (fm_sub (fm_printInt _ _) (mem_sub_L rfl) (mem_sub_F rfl)) (fun r3 s3 => fm_outputs_44 _ _)) (fm_outputs_44 _ _))
noncomputable def m_outputs_14 (v1 : Int) (s : iS) : Option (Int × iS) := gd (rg v1) (if v1 = 1 then bd (m_printString (s 188 0) s) (fun _ s3 => m_outputs_29 v1 s3) else m_outputs_29 v1 s)
theorem tm_outputs_14 (w : ev_W) (d : Nat) (hd : 4 ≤ d) (v1 : Int) (s : iS) : Ew hT w d 401 14 [(0, .ref (tb_nK + 121)), (1, iv v1)] [] s (Cv hT) (m_outputs_14 v1 s) := by
  unfold m_outputs_14
  refine e_mv 15 em_401 (ce_at ce_401 8 rfl) rfl rfl ?_
  refine e_op 16 em_401 (ce_at ce_401 9 rfl) rfl rfl ?_
  refine e_gd fun g1 => ?_
  refine e_cmne 29 19 em_401 rfl rfl (ce_at ce_401 10 rfl) g1 (by decide) (fun h2 => ?_) (fun h2 => ?_)
  · refine e_pk [0, 1] rfl rfl ?_
    exact tm_outputs_29 w d hd _ _
  · refine e_mv 20 em_401 (ce_at ce_401 11 rfl) rfl rfl ?_
    refine e_mv 21 em_401 (ce_at ce_401 12 rfl) rfl rfl ?_
    refine e_getr 24 em_401 (ce_at ce_401 13 rfl) tq_121 rfl rfl ?_
    refine e_op 25 em_401 (ce_at ce_401 14 rfl) rfl rfl ?_
    refine e_ild 26 em_401 (ce_at ce_401 15 rfl) tq_188 (by decide) (by decide) rfl ?_
    refine e_ivv 29 em_401 (ce_at ce_401 16 rfl) (by omega) (iv_v1 (by decide) tq_121 rfl) em_403 (Nat.le_of_ble_eq_true rfl) rfl (tm_printString w (d - 1) (by omega) _ _) (fun r3 s3 => ?_)
    refine e_pk [0, 1] rfl rfl ?_
    exact tm_outputs_29 w d hd _ _
theorem fm_outputs_14 (v1 : Int) (s : iS) : Fm Prod.snd L_m_outputs G_m_outputs s (m_outputs_14 v1 s) := fm_gd (fm_if (fm_bd (fm_sub (fm_printString _ _) (mem_sub_L rfl) (mem_sub_F rfl)) (fun r3 s3 => fm_outputs_29 _ _)) (fm_outputs_29 _ _))
noncomputable def m_outputs (v1 : Int) (s : iS) : Option (Int × iS) := gd (rg v1) (if v1 = 0 then bd (m_print (s 188 0) s) (fun _ s3 => m_outputs_14 v1 s3) else m_outputs_14 v1 s)
theorem tm_outputs (w : ev_W) (d : Nat) (hd : 4 ≤ d) (v1 : Int) (s : iS) : Ew hT w d 401 0 [(0, .ref (tb_nK + 121)), (1, iv v1)] [] s (Cv hT) (m_outputs v1 s) := by
  unfold m_outputs
  refine e_mv 1 em_401 (ce_at ce_401 0 rfl) rfl rfl ?_
  refine e_gd fun g1 => ?_
  refine e_ifne 14 4 em_401 rfl rfl (ce_at ce_401 1 rfl) g1 (fun h2 => ?_) (fun h2 => ?_)
  · refine e_pk [0, 1] rfl rfl ?_
    exact tm_outputs_14 w d hd _ _
  · refine e_mv 5 em_401 (ce_at ce_401 2 rfl) rfl rfl ?_
    refine e_mv 6 em_401 (ce_at ce_401 3 rfl) rfl rfl ?_
    refine e_getr 9 em_401 (ce_at ce_401 4 rfl) tq_121 rfl rfl ?_
    refine e_op 10 em_401 (ce_at ce_401 5 rfl) rfl rfl ?_
    refine e_ild 11 em_401 (ce_at ce_401 6 rfl) tq_188 (by decide) (by decide) rfl ?_
    refine e_ivv 14 em_401 (ce_at ce_401 7 rfl) (by omega) (iv_v1 (by decide) tq_121 rfl) em_402 (Nat.le_of_ble_eq_true rfl) rfl (tm_print w (d - 1) (by omega) _ _) (fun r3 s3 => ?_)
    refine e_pk [0, 1] rfl rfl ?_
    exact tm_outputs_14 w d hd _ _
theorem fm_outputs (v1 : Int) (s : iS) : Fm Prod.snd L_m_outputs G_m_outputs s (m_outputs v1 s) := fm_gd (fm_if (fm_bd (fm_sub (fm_print _ _) (mem_sub_L rfl) (mem_sub_F rfl)) (fun r3 s3 => fm_outputs_14 _ _)) (fm_outputs_14 _ _))
/-! m_readLine -/
def L_m_readLine : List Nat := [175, 176, 177, 187]
def G_m_readLine : List (Nat × Nat) := [(121, 81), (121, 99), (121, 100), (121, 103), (121, 106)]
def m_readLine_26C (w : ev_W) (d : Nat) (v2 : Int) : (Int × iS) ⊕ (iS) → am_E → Prop := fun q r => q.elim (fun l => ev w d 406 26 ((fun l => [(0, .ref (tb_nK + 121)), (2, iv v2), (3, iv (l.1))]) l) [] (hT ((fun l => l.2) l)) r) (fun e => (fun e r => ev w d 406 92 [(2, iv v2)] [] (hT (e)) r) e r)
noncomputable def m_readLine_26b (v2 : Int) (v3 : Int) (s : iS) : Option ((Int × iS) ⊕ (iS)) := gd (rg v3) (if v3 = 0 then some (.inr s) else gd (rg (s 121 99)) (if (s 121 99) = (-1) then gd (rg (s 121 103)) (gd (rg (s 121 102)) (if (s 121 102) ≤ (s 121 103) then some (.inr s) else gd (0 ≤ (s 121 103) ∧ (s 121 103) < 200) (lt' (up s 121 103 ((s 121 103) + 1)) (fun s9 => gd (rg (s 186 (s 121 103).toNat)) (if (s 186 (s 121 103).toNat) = 10 then some (.inl (0, s9)) else bd (m_append v2 (s 186 (s 121 103).toNat) s9) (fun _ s12 => some (.inl (v3, s12)))))))) else some (.inr s)))
theorem tm_readLine_26b (w : ev_W) (d : Nat) (hd : 4 ≤ d) (v2 : Int) (v3 : Int) (s : iS) : Ew hT w d 406 26 [(0, .ref (tb_nK + 121)), (2, iv v2), (3, iv v3)] [] s (m_readLine_26C w d v2) (m_readLine_26b v2 v3 s) := by
  unfold m_readLine_26b
  refine e_mv 27 em_406 (ce_at ce_406 15 rfl) rfl rfl ?_
  refine e_gd fun g1 => ?_
  refine e_ifeq 92 30 em_406 rfl rfl (ce_at ce_406 16 rfl) g1 (fun h2 => ?_) (fun h2 => ?_)
  · refine e_pk [2] rfl rfl ?_
    exact e_out (fun r h => h)
  · refine e_mv 31 em_406 (ce_at ce_406 17 rfl) rfl rfl ?_
    refine e_get 34 em_406 (ce_at ce_406 18 rfl) tq_121 rfl rfl ?_
    refine e_op 35 em_406 (ce_at ce_406 19 rfl) rfl rfl ?_
    refine e_gd fun g3 => ?_
    refine e_cmne 92 38 em_406 rfl rfl (ce_at ce_406 20 rfl) g3 (by decide) (fun h4 => ?_) (fun h4 => ?_)
    · refine e_pk [2] rfl rfl ?_
      exact e_out (fun r h => h)
    · refine e_mv 39 em_406 (ce_at ce_406 21 rfl) rfl rfl ?_
      refine e_get 42 em_406 (ce_at ce_406 22 rfl) tq_121 rfl rfl ?_
      refine e_mv 43 em_406 (ce_at ce_406 23 rfl) rfl rfl ?_
      refine e_get 46 em_406 (ce_at ce_406 24 rfl) tq_121 rfl rfl ?_
      refine e_gd fun g5 => ?_
      refine e_gd fun g6 => ?_
      refine e_cmge 92 49 em_406 rfl rfl (ce_at ce_406 25 rfl) g5 g6 (fun h7 => ?_) (fun h7 => ?_)
      · refine e_pk [2] rfl rfl ?_
        exact e_out (fun r h => h)
      · refine e_mv 50 em_406 (ce_at ce_406 26 rfl) rfl rfl ?_
        refine e_getr 53 em_406 (ce_at ce_406 27 rfl) tq_121 rfl rfl ?_
        refine e_mv 54 em_406 (ce_at ce_406 28 rfl) rfl rfl ?_
        refine e_get 57 em_406 (ce_at ce_406 29 rfl) tq_121 rfl rfl ?_
        refine e_gd fun g8 => ?_
        refine e_ild 58 em_406 (ce_at ce_406 30 rfl) tq_186 (by decide) g8 rfl ?_
        refine e_mv 60 em_406 (ce_at ce_406 31 rfl) rfl rfl ?_
        refine e_mv 61 em_406 (ce_at ce_406 32 rfl) rfl rfl ?_
        refine e_mv 62 em_406 (ce_at ce_406 33 rfl) rfl rfl ?_
        refine e_get 65 em_406 (ce_at ce_406 34 rfl) tq_121 rfl rfl ?_
        refine e_op 66 em_406 (ce_at ce_406 35 rfl) rfl rfl ?_
        refine e_iadd 67 em_406 rfl (ce_at ce_406 36 rfl) ?_
        refine e_put 70 em_406 (ce_at ce_406 37 rfl) tq_121 rfl rfl rfl (fun s9 => ?_)
        refine e_mv 72 em_406 (ce_at ce_406 38 rfl) rfl rfl ?_
        refine e_bip 74 em_406 (ce_at ce_406 39 rfl) (by decide) rfl ?_
        refine e_gd fun g10 => ?_
        refine e_cmne 82 77 em_406 rfl rfl (ce_at ce_406 40 rfl) g10 (by decide) (fun h11 => ?_) (fun h11 => ?_)
        · refine e_mv 83 em_406 (ce_at ce_406 44 rfl) rfl rfl ?_
          refine e_mv 84 em_406 (ce_at ce_406 45 rfl) rfl rfl ?_
          refine e_mv 86 em_406 (ce_at ce_406 46 rfl) rfl rfl ?_
          refine e_ivv 89 em_406 (ce_at ce_406 47 rfl) (by omega) (iv_v2 (by decide) tq_121 rfl) em_385 (Nat.le_of_ble_eq_true rfl) rfl (tm_append w (d - 1) (by omega) _ _ _) (fun r12 s12 => ?_)
          refine e_goto em_406 26 (ce_at ce_406 48 rfl) rfl ?_
          refine e_pk [0, 2, 3] rfl rfl ?_
          exact e_out (fun r h => h)
        · refine e_op 78 em_406 (ce_at ce_406 41 rfl) rfl rfl ?_
          refine e_mv 79 em_406 (ce_at ce_406 42 rfl) rfl rfl ?_
          refine e_goto em_406 89 (ce_at ce_406 43 rfl) rfl ?_
          refine e_goto em_406 26 (ce_at ce_406 48 rfl) rfl ?_
          refine e_pk [0, 2, 3] rfl rfl ?_
          exact e_out (fun r h => h)
theorem fm_readLine_26b (v2 : Int) (v3 : Int) (s : iS) : Fm (fun r : (Int × iS) ⊕ (iS) => r.elim (fun l => l.2) (fun e => e)) L_m_readLine G_m_readLine s (m_readLine_26b v2 v3 s) := fm_gd (fm_if (fm_some md_refl) (fm_gd (fm_if (fm_gd (fm_gd (fm_if (fm_some md_refl) (fm_gd (fm_lt (md_upF (mem_F rfl)) (fun s9 => fm_gd (fm_if (fm_some md_refl) (fm_bd (fm_sub (fm_append _ _ _) (mem_sub_L rfl) (mem_sub_F rfl)) (fun r12 s12 => fm_some md_refl))))))))) (fm_some md_refl))))
noncomputable def m_readLine_26 (v2 : Int) (v3 : Int) (s : iS) : Option (Int × iS) := (lp (L := Int × iS) (E := iS) (fun l => m_readLine_26b v2 (l.1) (l.2)) (v3, s)).bind (fun e => some (v2, e))
theorem tm_readLine_26 (w : ev_W) (d : Nat) (hd : 4 ≤ d) (v2 : Int) (v3 : Int) (s : iS) : Ew hT w d 406 26 [(0, .ref (tb_nK + 121)), (2, iv v2), (3, iv v3)] [] s (Ci hT) (m_readLine_26 v2 v3 s) := by
  unfold m_readLine_26
  refine e_lp (L := Int × iS) (E := iS) (LO := fun l => [(0, .ref (tb_nK + 121)), (2, iv v2), (3, iv (l.1))]) (LS := fun l => l.2) (CE := fun e r => ev w d 406 92 [(2, iv v2)] [] (hT (e)) r) (fun l => tm_readLine_26b w d hd _ _ _) ?_ (v3, s)
  intro e
  show Ew hT w d 406 92 [(2, iv v2)] [] e (Ci hT) _
  refine e_mv 93 em_406 (ce_at ce_406 49 rfl) rfl rfl ?_
  exact e_reti em_406 (ce_at ce_406 50 rfl)
theorem fm_readLine_26 (v2 : Int) (v3 : Int) (s : iS) : Fm Prod.snd L_m_readLine G_m_readLine s (m_readLine_26 v2 v3 s) := by
  unfold m_readLine_26
  refine fm_lp (A := Int × iS) (E := iS) (LS := fun l => l.2) (LE := fun e => e) ?_ ?_ (v3, s)
  · exact fun l => fm_readLine_26b _ _ _
  · exact (fun e => fm_some md_refl)
noncomputable def m_readLine_23 (t0 : Int) (s : iS) : Option (Int × iS) := m_readLine_26 t0 1 s
theorem tm_readLine_23 (w : ev_W) (d : Nat) (hd : 4 ≤ d) (t0 : Int) (s : iS) : Ew hT w d 406 23 [(0, .ref (tb_nK + 121))] [iv t0] s (Ci hT) (m_readLine_23 t0 s) := by
  unfold m_readLine_23
  refine e_mv 24 em_406 (ce_at ce_406 12 rfl) rfl rfl ?_
  refine e_op 25 em_406 (ce_at ce_406 13 rfl) rfl rfl ?_
  refine e_mv 26 em_406 (ce_at ce_406 14 rfl) rfl rfl ?_
  refine e_pk [0, 2, 3] rfl rfl ?_
  exact tm_readLine_26 w d hd _ _ _
theorem fm_readLine_23 (t0 : Int) (s : iS) : Fm Prod.snd L_m_readLine G_m_readLine s (m_readLine_23 t0 s) := fm_readLine_26 _ _ _
noncomputable def m_readLine (v1 : Int) (s : iS) : Option (Int × iS) := bd (m_printString v1 s) (fun _ s1 => gd (rg (s1 121 99)) (if (s1 121 99) = (-1) then bd (m_newString 80 s1) (fun r4 s4 => m_readLine_23 r4 s4) else m_readLine_23 0 s1))
theorem tm_readLine (w : ev_W) (d : Nat) (hd : 4 ≤ d) (v1 : Int) (s : iS) : Ew hT w d 406 0 [(0, .ref (tb_nK + 121)), (1, iv v1)] [] s (Ci hT) (m_readLine v1 s) := by
  unfold m_readLine
  refine e_mv 1 em_406 (ce_at ce_406 0 rfl) rfl rfl ?_
  refine e_mv 2 em_406 (ce_at ce_406 1 rfl) rfl rfl ?_
  refine e_ivv 5 em_406 (ce_at ce_406 2 rfl) (by omega) (iv_v1 (by decide) tq_121 rfl) em_403 (Nat.le_of_ble_eq_true rfl) rfl (tm_printString w (d - 1) (by omega) _ _) (fun r1 s1 => ?_)
  refine e_mv 6 em_406 (ce_at ce_406 3 rfl) rfl rfl ?_
  refine e_get 9 em_406 (ce_at ce_406 4 rfl) tq_121 rfl rfl ?_
  refine e_op 10 em_406 (ce_at ce_406 5 rfl) rfl rfl ?_
  refine e_gd fun g2 => ?_
  refine e_cmne 22 13 em_406 rfl rfl (ce_at ce_406 6 rfl) g2 (by decide) (fun h3 => ?_) (fun h3 => ?_)
  · refine e_op 23 em_406 (ce_at ce_406 11 rfl) rfl rfl ?_
    refine e_pk [0] rfl rfl ?_
    exact tm_readLine_23 w d hd _ _
  · refine e_mv 14 em_406 (ce_at ce_406 7 rfl) rfl rfl ?_
    refine e_bip 16 em_406 (ce_at ce_406 8 rfl) (by decide) rfl ?_
    refine e_ivi 19 em_406 (ce_at ce_406 9 rfl) (by omega) (iv_v1 (by decide) tq_121 rfl) em_382 (Nat.le_of_ble_eq_true rfl) rfl (tm_newString w (d - 1) (by omega) _ _) (fun r4 s4 => ?_)
    refine e_goto em_406 23 (ce_at ce_406 10 rfl) rfl ?_
    refine e_pk [0] rfl rfl ?_
    exact tm_readLine_23 w d hd _ _
theorem fm_readLine (v1 : Int) (s : iS) : Fm Prod.snd L_m_readLine G_m_readLine s (m_readLine v1 s) := fm_bd (fm_sub (fm_printString _ _) (mem_sub_L rfl) (mem_sub_F rfl)) (fun r1 s1 => fm_gd (fm_if (fm_bd (fm_sub (fm_newString _ _) (mem_sub_L rfl) (mem_sub_F rfl)) (fun r4 s4 => fm_readLine_23 _ _)) (fm_readLine_23 _ _)))
/-! m_keyboard -/
def L_m_keyboard : List Nat := [175, 176, 177, 187]
def G_m_keyboard : List (Nat × Nat) := [(121, 81), (121, 99), (121, 100), (121, 103), (121, 106)]
noncomputable def m_keyboard_40 (v1 : Int) (t0 : Int) (s : iS) : Option (Int × iS) := gd (rg v1) (if v1 = 1 then gd (rg (s 121 103)) (gd (rg (s 121 102)) (if (s 121 102) ≤ (s 121 103) then some (t0, s) else lt' (up s 121 103 ((s 121 103) + 1)) (fun s6 => some (t0, s6)))) else some (t0, s))
theorem tm_keyboard_40 (w : ev_W) (d : Nat) (hd : 5 ≤ d) (v1 : Int) (t0 : Int) (s : iS) : Ew hT w d 405 40 [(0, .ref (tb_nK + 121)), (1, iv v1)] [iv t0] s (Ci hT) (m_keyboard_40 v1 t0 s) := by
  unfold m_keyboard_40
  refine e_mv 41 em_405 (ce_at ce_405 22 rfl) rfl rfl ?_
  refine e_mv 42 em_405 (ce_at ce_405 23 rfl) rfl rfl ?_
  refine e_op 43 em_405 (ce_at ce_405 24 rfl) rfl rfl ?_
  refine e_gd fun g1 => ?_
  refine e_cmne 67 46 em_405 rfl rfl (ce_at ce_405 25 rfl) g1 (by decide) (fun h2 => ?_) (fun h2 => ?_)
  · refine e_mv 68 em_405 (ce_at ce_405 37 rfl) rfl rfl ?_
    exact e_reti em_405 (ce_at ce_405 38 rfl)
  · refine e_mv 47 em_405 (ce_at ce_405 26 rfl) rfl rfl ?_
    refine e_get 50 em_405 (ce_at ce_405 27 rfl) tq_121 rfl rfl ?_
    refine e_mv 51 em_405 (ce_at ce_405 28 rfl) rfl rfl ?_
    refine e_get 54 em_405 (ce_at ce_405 29 rfl) tq_121 rfl rfl ?_
    refine e_gd fun g3 => ?_
    refine e_gd fun g4 => ?_
    refine e_cmge 67 57 em_405 rfl rfl (ce_at ce_405 30 rfl) g3 g4 (fun h5 => ?_) (fun h5 => ?_)
    · refine e_mv 68 em_405 (ce_at ce_405 37 rfl) rfl rfl ?_
      exact e_reti em_405 (ce_at ce_405 38 rfl)
    · refine e_mv 58 em_405 (ce_at ce_405 31 rfl) rfl rfl ?_
      refine e_mv 59 em_405 (ce_at ce_405 32 rfl) rfl rfl ?_
      refine e_get 62 em_405 (ce_at ce_405 33 rfl) tq_121 rfl rfl ?_
      refine e_op 63 em_405 (ce_at ce_405 34 rfl) rfl rfl ?_
      refine e_iadd 64 em_405 rfl (ce_at ce_405 35 rfl) ?_
      refine e_put 67 em_405 (ce_at ce_405 36 rfl) tq_121 rfl rfl rfl (fun s6 => ?_)
      refine e_mv 68 em_405 (ce_at ce_405 37 rfl) rfl rfl ?_
      exact e_reti em_405 (ce_at ce_405 38 rfl)
theorem fm_keyboard_40 (v1 : Int) (t0 : Int) (s : iS) : Fm Prod.snd L_m_keyboard G_m_keyboard s (m_keyboard_40 v1 t0 s) := fm_gd (fm_if (fm_gd (fm_gd (fm_if (fm_some md_refl) (fm_lt (md_upF (mem_F rfl)) (fun s6 => fm_some md_refl))))) (fm_some md_refl))
noncomputable def m_keyboard (v1 : Int) (s : iS) : Option (Int × iS) := gd (rg v1) (if v1 = 2 then bd (m_readLine (s 188 0) s) (fun r7 s7 => some (r7, s7)) else gd (rg (s 121 103)) (gd (rg (s 121 102)) (if (s 121 102) ≤ (s 121 103) then m_keyboard_40 v1 0 s else gd (0 ≤ (s 121 103) ∧ (s 121 103) < 200) (m_keyboard_40 v1 (s 186 (s 121 103).toNat) s))))
theorem tm_keyboard (w : ev_W) (d : Nat) (hd : 5 ≤ d) (v1 : Int) (s : iS) : Ew hT w d 405 0 [(0, .ref (tb_nK + 121)), (1, iv v1)] [] s (Ci hT) (m_keyboard v1 s) := by
  unfold m_keyboard
  refine e_mv 1 em_405 (ce_at ce_405 0 rfl) rfl rfl ?_
  refine e_op 2 em_405 (ce_at ce_405 1 rfl) rfl rfl ?_
  refine e_gd fun g1 => ?_
  refine e_cmne 16 5 em_405 rfl rfl (ce_at ce_405 2 rfl) g1 (by decide) (fun h2 => ?_) (fun h2 => ?_)
  · refine e_mv 17 em_405 (ce_at ce_405 10 rfl) rfl rfl ?_
    refine e_get 20 em_405 (ce_at ce_405 11 rfl) tq_121 rfl rfl ?_
    refine e_mv 21 em_405 (ce_at ce_405 12 rfl) rfl rfl ?_
    refine e_get 24 em_405 (ce_at ce_405 13 rfl) tq_121 rfl rfl ?_
    refine e_gd fun g3 => ?_
    refine e_gd fun g4 => ?_
    refine e_cmge 39 27 em_405 rfl rfl (ce_at ce_405 14 rfl) g3 g4 (fun h5 => ?_) (fun h5 => ?_)
    · refine e_op 40 em_405 (ce_at ce_405 21 rfl) rfl rfl ?_
      refine e_pk [0, 1] rfl rfl ?_
      exact tm_keyboard_40 w d hd _ _ _
    · refine e_mv 28 em_405 (ce_at ce_405 15 rfl) rfl rfl ?_
      refine e_getr 31 em_405 (ce_at ce_405 16 rfl) tq_121 rfl rfl ?_
      refine e_mv 32 em_405 (ce_at ce_405 17 rfl) rfl rfl ?_
      refine e_get 35 em_405 (ce_at ce_405 18 rfl) tq_121 rfl rfl ?_
      refine e_gd fun g6 => ?_
      refine e_ild 36 em_405 (ce_at ce_405 19 rfl) tq_186 (by decide) g6 rfl ?_
      refine e_goto em_405 40 (ce_at ce_405 20 rfl) rfl ?_
      refine e_pk [0, 1] rfl rfl ?_
      exact tm_keyboard_40 w d hd _ _ _
  · refine e_mv 6 em_405 (ce_at ce_405 3 rfl) rfl rfl ?_
    refine e_mv 7 em_405 (ce_at ce_405 4 rfl) rfl rfl ?_
    refine e_getr 10 em_405 (ce_at ce_405 5 rfl) tq_121 rfl rfl ?_
    refine e_op 11 em_405 (ce_at ce_405 6 rfl) rfl rfl ?_
    refine e_ild 12 em_405 (ce_at ce_405 7 rfl) tq_188 (by decide) (by decide) rfl ?_
    refine e_ivi 15 em_405 (ce_at ce_405 8 rfl) (by omega) (iv_v1 (by decide) tq_121 rfl) em_406 (Nat.le_of_ble_eq_true rfl) rfl (tm_readLine w (d - 1) (by omega) _ _) (fun r7 s7 => ?_)
    exact e_reti em_405 (ce_at ce_405 9 rfl)
theorem fm_keyboard (v1 : Int) (s : iS) : Fm Prod.snd L_m_keyboard G_m_keyboard s (m_keyboard v1 s) := fm_gd (fm_if (fm_bd (fm_sub (fm_readLine _ _) (mem_sub_L rfl) (mem_sub_F rfl)) (fun r7 s7 => fm_some md_refl)) (fm_gd (fm_gd (fm_if (fm_keyboard_40 _ _ _) (fm_gd (fm_keyboard_40 _ _ _))))))
/-! m_isPoint -/
def L_m_isPoint : List Nat := []
def G_m_isPoint : List (Nat × Nat) := []
noncomputable def m_isPoint (v0 : Int) (v1 : Int) (s : iS) : Option (Int × iS) := gd (rg v0) (if v0 < 0 then some (0, s) else if 64 ≤ v0 then some (0, s) else gd (rg v1) (if v1 < 0 then some (0, s) else if 32 ≤ v1 then some (0, s) else some (1, s)))
theorem tm_isPoint (H : iS → List am_C) (w : ev_W) (d : Nat) (hd : 0 ≤ d) (v0 : Int) (v1 : Int) (s : iS) : Ew H w d 408 0 [(0, iv v0), (1, iv v1)] [] s (Ci H) (m_isPoint v0 v1 s) := by
  unfold m_isPoint
  refine e_mv 1 em_408 (ce_at ce_408 0 rfl) rfl rfl ?_
  refine e_gd fun g1 => ?_
  refine e_iflt 24 4 em_408 rfl rfl (ce_at ce_408 1 rfl) g1 (fun h2 => ?_) (fun h2 => ?_)
  · refine e_op 25 em_408 (ce_at ce_408 12 rfl) rfl rfl ?_
    exact e_retz em_408 (ce_at ce_408 13 rfl) (by decide)
  · refine e_mv 5 em_408 (ce_at ce_408 2 rfl) rfl rfl ?_
    refine e_bip 7 em_408 (ce_at ce_408 3 rfl) (by decide) rfl ?_
    refine e_cmge 24 10 em_408 rfl rfl (ce_at ce_408 4 rfl) g1 (by decide) (fun h3 => ?_) (fun h3 => ?_)
    · refine e_op 25 em_408 (ce_at ce_408 12 rfl) rfl rfl ?_
      exact e_retz em_408 (ce_at ce_408 13 rfl) (by decide)
    · refine e_mv 11 em_408 (ce_at ce_408 5 rfl) rfl rfl ?_
      refine e_gd fun g4 => ?_
      refine e_iflt 24 14 em_408 rfl rfl (ce_at ce_408 6 rfl) g4 (fun h5 => ?_) (fun h5 => ?_)
      · refine e_op 25 em_408 (ce_at ce_408 12 rfl) rfl rfl ?_
        exact e_retz em_408 (ce_at ce_408 13 rfl) (by decide)
      · refine e_mv 15 em_408 (ce_at ce_408 7 rfl) rfl rfl ?_
        refine e_bip 17 em_408 (ce_at ce_408 8 rfl) (by decide) rfl ?_
        refine e_cmge 24 20 em_408 rfl rfl (ce_at ce_408 9 rfl) g4 (by decide) (fun h6 => ?_) (fun h6 => ?_)
        · refine e_op 25 em_408 (ce_at ce_408 12 rfl) rfl rfl ?_
          exact e_retz em_408 (ce_at ce_408 13 rfl) (by decide)
        · refine e_op 21 em_408 (ce_at ce_408 10 rfl) rfl rfl ?_
          refine e_goto em_408 25 (ce_at ce_408 11 rfl) rfl ?_
          exact e_retz em_408 (ce_at ce_408 13 rfl) (by decide)
theorem fm_isPoint (v0 : Int) (v1 : Int) (s : iS) : Fm Prod.snd L_m_isPoint G_m_isPoint s (m_isPoint v0 v1 s) := fm_gd (fm_if (fm_some md_refl) (fm_if (fm_some md_refl) (fm_gd (fm_if (fm_some md_refl) (fm_if (fm_some md_refl) (fm_some md_refl))))))
/-! m_point -/
def L_m_point : List Nat := [175]
def G_m_point : List (Nat × Nat) := []
noncomputable def m_point_56 (t0 : Int) (t1 : Int) (s : iS) : Option (Int × iS) := bd (m_word16 t0 s) (fun r1 s1 => gd (0 ≤ t1 ∧ t1 < 16512) (lt' (up s1 175 t1.toNat r1) (fun s3 => some (0, s3))))
theorem tm_point_56 (w : ev_W) (d : Nat) (hd : 1 ≤ d) (t0 : Int) (t1 : Int) (s : iS) : Ew hT w d 409 56 [] [iv t0, iv t1, .ref (tb_nK + 175)] s (Cv hT) (m_point_56 t0 t1 s) := by
  unfold m_point_56
  refine e_ivi 59 em_409 (ce_at ce_409 37 rfl) (by omega) (iv_s1 rfl) em_380 (Nat.le_of_ble_eq_true rfl) rfl (tm_word16 hT w (d - 1) (by omega) _ _) (fun r1 s1 => ?_)
  refine e_gd fun g2 => ?_
  refine e_ist 60 em_409 (ce_at ce_409 38 rfl) tq_175 (by decide) g2 rfl (fun s3 => ?_)
  exact e_retv em_409 (ce_at ce_409 39 rfl)
theorem fm_point_56 (t0 : Int) (t1 : Int) (s : iS) : Fm Prod.snd L_m_point G_m_point s (m_point_56 t0 t1 s) := fm_bd (fm_sub (fm_word16 _ _) (mem_sub_L rfl) (mem_sub_F rfl)) (fun r1 s1 => fm_gd (fm_lt (md_upL (mem_L rfl)) (fun s3 => fm_some md_refl)))
noncomputable def m_point (v1 : Int) (v2 : Int) (s : iS) : Option (Int × iS) := gd (rg v1) (gd (rg (s 121 108)) (if (s 121 108) = 0 then gd (0 ≤ ((16384 + (4 * v2)) + (v1.tdiv 16)) ∧ ((16384 + (4 * v2)) + (v1.tdiv 16)) < 16512) (m_point_56 (i_and (s 175 ((16384 + (4 * v2)) + (v1.tdiv 16)).toNat) (i_xor (i_shl 1 (v1.tmod 16)) (-1))) ((16384 + (4 * v2)) + (v1.tdiv 16)) s) else gd (0 ≤ ((16384 + (4 * v2)) + (v1.tdiv 16)) ∧ ((16384 + (4 * v2)) + (v1.tdiv 16)) < 16512) (m_point_56 (i_or (s 175 ((16384 + (4 * v2)) + (v1.tdiv 16)).toNat) (i_shl 1 (v1.tmod 16))) ((16384 + (4 * v2)) + (v1.tdiv 16)) s)))
theorem tm_point (w : ev_W) (d : Nat) (hd : 1 ≤ d) (v1 : Int) (v2 : Int) (s : iS) : Ew hT w d 409 0 [(0, .ref (tb_nK + 121)), (1, iv v1), (2, iv v2)] [] s (Cv hT) (m_point v1 v2 s) := by
  unfold m_point
  refine e_sip 3 em_409 (ce_at ce_409 0 rfl) (by decide) rfl ?_
  refine e_op 4 em_409 (ce_at ce_409 1 rfl) rfl rfl ?_
  refine e_mv 5 em_409 (ce_at ce_409 2 rfl) rfl rfl ?_
  refine e_imul 6 em_409 rfl (ce_at ce_409 3 rfl) ?_
  refine e_iadd 7 em_409 rfl (ce_at ce_409 4 rfl) ?_
  refine e_mv 8 em_409 (ce_at ce_409 5 rfl) rfl rfl ?_
  refine e_bip 10 em_409 (ce_at ce_409 6 rfl) (by decide) rfl ?_
  refine e_gd fun g1 => ?_
  refine e_idiv 11 em_409 rfl (ce_at ce_409 7 rfl) g1 (by decide) (by decide) ?_
  refine e_iadd 12 em_409 rfl (ce_at ce_409 8 rfl) ?_
  refine e_mv 13 em_409 (ce_at ce_409 9 rfl) rfl rfl ?_
  refine e_op 14 em_409 (ce_at ce_409 10 rfl) rfl rfl ?_
  refine e_mv 15 em_409 (ce_at ce_409 11 rfl) rfl rfl ?_
  refine e_bip 17 em_409 (ce_at ce_409 12 rfl) (by decide) rfl ?_
  refine e_irem 18 em_409 rfl (ce_at ce_409 13 rfl) g1 (by decide) (by decide) ?_
  refine e_ishl 19 em_409 rfl (ce_at ce_409 14 rfl) ?_
  refine e_mv 21 em_409 (ce_at ce_409 15 rfl) rfl rfl ?_
  refine e_mv 22 em_409 (ce_at ce_409 16 rfl) rfl rfl ?_
  refine e_getr 25 em_409 (ce_at ce_409 17 rfl) tq_121 rfl rfl ?_
  refine e_mv 26 em_409 (ce_at ce_409 18 rfl) rfl rfl ?_
  refine e_mv 27 em_409 (ce_at ce_409 19 rfl) rfl rfl ?_
  refine e_get 30 em_409 (ce_at ce_409 20 rfl) tq_121 rfl rfl ?_
  refine e_gd fun g2 => ?_
  refine e_ifeq 45 33 em_409 rfl rfl (ce_at ce_409 21 rfl) g2 (fun h3 => ?_) (fun h3 => ?_)
  · refine e_mv 46 em_409 (ce_at ce_409 29 rfl) rfl rfl ?_
    refine e_getr 49 em_409 (ce_at ce_409 30 rfl) tq_121 rfl rfl ?_
    refine e_mv 50 em_409 (ce_at ce_409 31 rfl) rfl rfl ?_
    refine e_gd fun g4 => ?_
    refine e_ild 51 em_409 (ce_at ce_409 32 rfl) tq_175 (by decide) g4 rfl ?_
    refine e_mv 53 em_409 (ce_at ce_409 33 rfl) rfl rfl ?_
    refine e_op 54 em_409 (ce_at ce_409 34 rfl) rfl rfl ?_
    refine e_ixor 55 em_409 rfl (ce_at ce_409 35 rfl) ?_
    refine e_iand 56 em_409 rfl (ce_at ce_409 36 rfl) ?_
    refine e_pk [] rfl rfl ?_
    exact tm_point_56 w d hd _ _ _
  · refine e_mv 34 em_409 (ce_at ce_409 22 rfl) rfl rfl ?_
    refine e_getr 37 em_409 (ce_at ce_409 23 rfl) tq_121 rfl rfl ?_
    refine e_mv 38 em_409 (ce_at ce_409 24 rfl) rfl rfl ?_
    refine e_gd fun g5 => ?_
    refine e_ild 39 em_409 (ce_at ce_409 25 rfl) tq_175 (by decide) g5 rfl ?_
    refine e_mv 41 em_409 (ce_at ce_409 26 rfl) rfl rfl ?_
    refine e_ior 42 em_409 rfl (ce_at ce_409 27 rfl) ?_
    refine e_goto em_409 56 (ce_at ce_409 28 rfl) rfl ?_
    refine e_pk [] rfl rfl ?_
    exact tm_point_56 w d hd _ _ _
theorem fm_point (v1 : Int) (v2 : Int) (s : iS) : Fm Prod.snd L_m_point G_m_point s (m_point v1 v2 s) := fm_gd (fm_gd (fm_if (fm_gd (fm_point_56 _ _ _)) (fm_gd (fm_point_56 _ _ _))))
/-! m_line -/
def L_m_line : List Nat := [175]
def G_m_line : List (Nat × Nat) := [(121, 99), (121, 100)]
noncomputable def m_line_17 (s : iS) : Option (Int × iS) := bd (m_err 8 s) (fun _ s1 => some (0, s1))
theorem tm_line_17 (w : ev_W) (d : Nat) (hd : 2 ≤ d) (s : iS) : Ew hT w d 410 17 [(0, .ref (tb_nK + 121))] [] s (Cv hT) (m_line_17 s) := by
  unfold m_line_17
  refine e_mv 18 em_410 (ce_at ce_410 8 rfl) rfl rfl ?_
  refine e_bip 20 em_410 (ce_at ce_410 9 rfl) (by decide) rfl ?_
  refine e_ivv 23 em_410 (ce_at ce_410 10 rfl) (by omega) (iv_v1 (by decide) tq_121 rfl) em_376 (Nat.le_of_ble_eq_true rfl) rfl (tm_err w (d - 1) (by omega) _ _) (fun r1 s1 => ?_)
  exact e_retv em_410 (ce_at ce_410 11 rfl)
theorem fm_line_17 (s : iS) : Fm Prod.snd L_m_line G_m_line s (m_line_17 s) := fm_bd (fm_sub (fm_err _ _) (mem_sub_L rfl) (mem_sub_F rfl)) (fun r1 s1 => fm_some md_refl)
def m_line_77C (w : ev_W) (d : Nat) (v1 : Int) (v2 : Int) (v3 : Int) (v4 : Int) (v5 : Int) (v6 : Int) : (Int × Int × Int × iS) ⊕ (iS) → am_E → Prop := fun q r => q.elim (fun l => ev w d 410 77 ((fun l => [(0, .ref (tb_nK + 121)), (1, iv v1), (2, iv v2), (3, iv v3), (4, iv v4), (5, iv v5), (6, iv v6), (7, iv (l.1)), (8, iv (l.2.1)), (9, iv (l.2.2.1))]) l) [] (hT ((fun l => l.2.2.2) l)) r) (fun e => (fun e r => ev w d 410 165 [] [] (hT (e)) r) e r)
noncomputable def m_line_125 (v1 : Int) (v2 : Int) (v3 : Int) (v4 : Int) (v5 : Int) (v6 : Int) (v7 : Int) (v8 : Int) (v9 : Int) (t0 : Int) (t1 : Int) (s : iS) : Option ((Int × Int × Int × iS) ⊕ (iS)) := bd (m_point t1 t0 s) (fun _ s1 => gd (rg v9) (if 0 ≤ v9 then some (.inl (v7, (v8 + 1), (v9 - v5), s1)) else some (.inl ((v7 + 1), v8, (v9 + v6), s1))))
theorem tm_line_125 (w : ev_W) (d : Nat) (hd : 2 ≤ d) (v1 : Int) (v2 : Int) (v3 : Int) (v4 : Int) (v5 : Int) (v6 : Int) (v7 : Int) (v8 : Int) (v9 : Int) (t0 : Int) (t1 : Int) (s : iS) : Ew hT w d 410 125 [(0, .ref (tb_nK + 121)), (1, iv v1), (2, iv v2), (3, iv v3), (4, iv v4), (5, iv v5), (6, iv v6), (7, iv v7), (8, iv v8), (9, iv v9)] [iv t0, iv t1, .ref (tb_nK + 121)] s (m_line_77C w d v1 v2 v3 v4 v5 v6) (m_line_125 v1 v2 v3 v4 v5 v6 v7 v8 v9 t0 t1 s) := by
  unfold m_line_125
  refine e_ivv 128 em_410 (ce_at ce_410 71 rfl) (by omega) (iv_v2 (by decide) tq_121 rfl) em_409 (Nat.le_of_ble_eq_true rfl) rfl (tm_point w (d - 1) (by omega) _ _ _) (fun r1 s1 => ?_)
  refine e_mv 130 em_410 (ce_at ce_410 72 rfl) rfl rfl ?_
  refine e_gd fun g2 => ?_
  refine e_ifge 149 133 em_410 rfl rfl (ce_at ce_410 73 rfl) g2 (fun h3 => ?_) (fun h3 => ?_)
  · refine e_mv 151 em_410 (ce_at ce_410 83 rfl) rfl rfl ?_
    refine e_op 152 em_410 (ce_at ce_410 84 rfl) rfl rfl ?_
    refine e_iadd 153 em_410 rfl (ce_at ce_410 85 rfl) ?_
    refine e_mv 155 em_410 (ce_at ce_410 86 rfl) rfl rfl ?_
    refine e_mv 157 em_410 (ce_at ce_410 87 rfl) rfl rfl ?_
    refine e_mv 159 em_410 (ce_at ce_410 88 rfl) rfl rfl ?_
    refine e_isub 160 em_410 rfl (ce_at ce_410 89 rfl) ?_
    refine e_mv 162 em_410 (ce_at ce_410 90 rfl) rfl rfl ?_
    refine e_goto em_410 77 (ce_at ce_410 91 rfl) rfl ?_
    refine e_pk [0, 1, 2, 3, 4, 5, 6, 7, 8, 9] rfl rfl ?_
    exact e_out (fun r h => h)
  · refine e_mv 135 em_410 (ce_at ce_410 74 rfl) rfl rfl ?_
    refine e_op 136 em_410 (ce_at ce_410 75 rfl) rfl rfl ?_
    refine e_iadd 137 em_410 rfl (ce_at ce_410 76 rfl) ?_
    refine e_mv 139 em_410 (ce_at ce_410 77 rfl) rfl rfl ?_
    refine e_mv 141 em_410 (ce_at ce_410 78 rfl) rfl rfl ?_
    refine e_mv 143 em_410 (ce_at ce_410 79 rfl) rfl rfl ?_
    refine e_iadd 144 em_410 rfl (ce_at ce_410 80 rfl) ?_
    refine e_mv 146 em_410 (ce_at ce_410 81 rfl) rfl rfl ?_
    refine e_goto em_410 77 (ce_at ce_410 82 rfl) rfl ?_
    refine e_pk [0, 1, 2, 3, 4, 5, 6, 7, 8, 9] rfl rfl ?_
    exact e_out (fun r h => h)
theorem fm_line_125 (v1 : Int) (v2 : Int) (v3 : Int) (v4 : Int) (v5 : Int) (v6 : Int) (v7 : Int) (v8 : Int) (v9 : Int) (t0 : Int) (t1 : Int) (s : iS) : Fm (fun r : (Int × Int × Int × iS) ⊕ (iS) => r.elim (fun l => l.2.2.2) (fun e => e)) L_m_line G_m_line s (m_line_125 v1 v2 v3 v4 v5 v6 v7 v8 v9 t0 t1 s) := fm_bd (fm_sub (fm_point _ _ _) (mem_sub_L rfl) (mem_sub_F rfl)) (fun r1 s1 => fm_gd (fm_if (fm_some md_refl) (fm_some md_refl)))
noncomputable def m_line_108 (v1 : Int) (v2 : Int) (v3 : Int) (v4 : Int) (v5 : Int) (v6 : Int) (v7 : Int) (v8 : Int) (v9 : Int) (t0 : Int) (s : iS) : Option ((Int × Int × Int × iS) ⊕ (iS)) := gd (rg v4) (gd (rg v2) (if v2 ≤ v4 then m_line_125 v1 v2 v3 v4 v5 v6 v7 v8 v9 (v2 + v8) t0 s else m_line_125 v1 v2 v3 v4 v5 v6 v7 v8 v9 (v2 - v8) t0 s))
theorem tm_line_108 (w : ev_W) (d : Nat) (hd : 2 ≤ d) (v1 : Int) (v2 : Int) (v3 : Int) (v4 : Int) (v5 : Int) (v6 : Int) (v7 : Int) (v8 : Int) (v9 : Int) (t0 : Int) (s : iS) : Ew hT w d 410 108 [(0, .ref (tb_nK + 121)), (1, iv v1), (2, iv v2), (3, iv v3), (4, iv v4), (5, iv v5), (6, iv v6), (7, iv v7), (8, iv v8), (9, iv v9)] [iv t0, .ref (tb_nK + 121)] s (m_line_77C w d v1 v2 v3 v4 v5 v6) (m_line_108 v1 v2 v3 v4 v5 v6 v7 v8 v9 t0 s) := by
  unfold m_line_108
  refine e_mv 110 em_410 (ce_at ce_410 61 rfl) rfl rfl ?_
  refine e_mv 111 em_410 (ce_at ce_410 62 rfl) rfl rfl ?_
  refine e_gd fun g1 => ?_
  refine e_gd fun g2 => ?_
  refine e_cmge 121 114 em_410 rfl rfl (ce_at ce_410 63 rfl) g1 g2 (fun h3 => ?_) (fun h3 => ?_)
  · refine e_mv 122 em_410 (ce_at ce_410 68 rfl) rfl rfl ?_
    refine e_mv 124 em_410 (ce_at ce_410 69 rfl) rfl rfl ?_
    refine e_iadd 125 em_410 rfl (ce_at ce_410 70 rfl) ?_
    refine e_pk [0, 1, 2, 3, 4, 5, 6, 7, 8, 9] rfl rfl ?_
    exact tm_line_125 w d hd _ _ _ _ _ _ _ _ _ _ _ _
  · refine e_mv 115 em_410 (ce_at ce_410 64 rfl) rfl rfl ?_
    refine e_mv 117 em_410 (ce_at ce_410 65 rfl) rfl rfl ?_
    refine e_isub 118 em_410 rfl (ce_at ce_410 66 rfl) ?_
    refine e_goto em_410 125 (ce_at ce_410 67 rfl) rfl ?_
    refine e_pk [0, 1, 2, 3, 4, 5, 6, 7, 8, 9] rfl rfl ?_
    exact tm_line_125 w d hd _ _ _ _ _ _ _ _ _ _ _ _
theorem fm_line_108 (v1 : Int) (v2 : Int) (v3 : Int) (v4 : Int) (v5 : Int) (v6 : Int) (v7 : Int) (v8 : Int) (v9 : Int) (t0 : Int) (s : iS) : Fm (fun r : (Int × Int × Int × iS) ⊕ (iS) => r.elim (fun l => l.2.2.2) (fun e => e)) L_m_line G_m_line s (m_line_108 v1 v2 v3 v4 v5 v6 v7 v8 v9 t0 s) := fm_gd (fm_gd (fm_if (fm_line_125 _ _ _ _ _ _ _ _ _ _ _ _) (fm_line_125 _ _ _ _ _ _ _ _ _ _ _ _)))
noncomputable def m_line_77b (v1 : Int) (v2 : Int) (v3 : Int) (v4 : Int) (v5 : Int) (v6 : Int) (v7 : Int) (v8 : Int) (v9 : Int) (s : iS) : Option ((Int × Int × Int × iS) ⊕ (iS)) := gd (rg v7) (gd (rg v5) (if v5 < v7 then some (.inr s) else gd (rg v8) (gd (rg v6) (if v6 < v8 then some (.inr s) else gd (rg v3) (gd (rg v1) (if v1 ≤ v3 then m_line_108 v1 v2 v3 v4 v5 v6 v7 v8 v9 (v1 + v7) s else m_line_108 v1 v2 v3 v4 v5 v6 v7 v8 v9 (v1 - v7) s))))))
theorem tm_line_77b (w : ev_W) (d : Nat) (hd : 2 ≤ d) (v1 : Int) (v2 : Int) (v3 : Int) (v4 : Int) (v5 : Int) (v6 : Int) (v7 : Int) (v8 : Int) (v9 : Int) (s : iS) : Ew hT w d 410 77 [(0, .ref (tb_nK + 121)), (1, iv v1), (2, iv v2), (3, iv v3), (4, iv v4), (5, iv v5), (6, iv v6), (7, iv v7), (8, iv v8), (9, iv v9)] [] s (m_line_77C w d v1 v2 v3 v4 v5 v6) (m_line_77b v1 v2 v3 v4 v5 v6 v7 v8 v9 s) := by
  unfold m_line_77b
  refine e_mv 79 em_410 (ce_at ce_410 44 rfl) rfl rfl ?_
  refine e_mv 81 em_410 (ce_at ce_410 45 rfl) rfl rfl ?_
  refine e_gd fun g1 => ?_
  refine e_gd fun g2 => ?_
  refine e_cmgt 165 84 em_410 rfl rfl (ce_at ce_410 46 rfl) g1 g2 (fun h3 => ?_) (fun h3 => ?_)
  · refine e_pk [] rfl rfl ?_
    exact e_out (fun r h => h)
  · refine e_mv 86 em_410 (ce_at ce_410 47 rfl) rfl rfl ?_
    refine e_mv 88 em_410 (ce_at ce_410 48 rfl) rfl rfl ?_
    refine e_gd fun g4 => ?_
    refine e_gd fun g5 => ?_
    refine e_cmgt 165 91 em_410 rfl rfl (ce_at ce_410 49 rfl) g4 g5 (fun h6 => ?_) (fun h6 => ?_)
    · refine e_pk [] rfl rfl ?_
      exact e_out (fun r h => h)
    · refine e_mv 92 em_410 (ce_at ce_410 50 rfl) rfl rfl ?_
      refine e_mv 93 em_410 (ce_at ce_410 51 rfl) rfl rfl ?_
      refine e_mv 94 em_410 (ce_at ce_410 52 rfl) rfl rfl ?_
      refine e_gd fun g7 => ?_
      refine e_gd fun g8 => ?_
      refine e_cmge 104 97 em_410 rfl rfl (ce_at ce_410 53 rfl) g7 g8 (fun h9 => ?_) (fun h9 => ?_)
      · refine e_mv 105 em_410 (ce_at ce_410 58 rfl) rfl rfl ?_
        refine e_mv 107 em_410 (ce_at ce_410 59 rfl) rfl rfl ?_
        refine e_iadd 108 em_410 rfl (ce_at ce_410 60 rfl) ?_
        refine e_pk [0, 1, 2, 3, 4, 5, 6, 7, 8, 9] rfl rfl ?_
        exact tm_line_108 w d hd _ _ _ _ _ _ _ _ _ _ _
      · refine e_mv 98 em_410 (ce_at ce_410 54 rfl) rfl rfl ?_
        refine e_mv 100 em_410 (ce_at ce_410 55 rfl) rfl rfl ?_
        refine e_isub 101 em_410 rfl (ce_at ce_410 56 rfl) ?_
        refine e_goto em_410 108 (ce_at ce_410 57 rfl) rfl ?_
        refine e_pk [0, 1, 2, 3, 4, 5, 6, 7, 8, 9] rfl rfl ?_
        exact tm_line_108 w d hd _ _ _ _ _ _ _ _ _ _ _
theorem fm_line_77b (v1 : Int) (v2 : Int) (v3 : Int) (v4 : Int) (v5 : Int) (v6 : Int) (v7 : Int) (v8 : Int) (v9 : Int) (s : iS) : Fm (fun r : (Int × Int × Int × iS) ⊕ (iS) => r.elim (fun l => l.2.2.2) (fun e => e)) L_m_line G_m_line s (m_line_77b v1 v2 v3 v4 v5 v6 v7 v8 v9 s) := fm_gd (fm_gd (fm_if (fm_some md_refl) (fm_gd (fm_gd (fm_if (fm_some md_refl) (fm_gd (fm_gd (fm_if (fm_line_108 _ _ _ _ _ _ _ _ _ _ _) (fm_line_108 _ _ _ _ _ _ _ _ _ _ _)))))))))
noncomputable def m_line_77 (v1 : Int) (v2 : Int) (v3 : Int) (v4 : Int) (v5 : Int) (v6 : Int) (v7 : Int) (v8 : Int) (v9 : Int) (s : iS) : Option (Int × iS) := (lp (L := Int × Int × Int × iS) (E := iS) (fun l => m_line_77b v1 v2 v3 v4 v5 v6 (l.1) (l.2.1) (l.2.2.1) (l.2.2.2)) (v7, v8, v9, s)).bind (fun e => some (0, e))
theorem tm_line_77 (w : ev_W) (d : Nat) (hd : 2 ≤ d) (v1 : Int) (v2 : Int) (v3 : Int) (v4 : Int) (v5 : Int) (v6 : Int) (v7 : Int) (v8 : Int) (v9 : Int) (s : iS) : Ew hT w d 410 77 [(0, .ref (tb_nK + 121)), (1, iv v1), (2, iv v2), (3, iv v3), (4, iv v4), (5, iv v5), (6, iv v6), (7, iv v7), (8, iv v8), (9, iv v9)] [] s (Cv hT) (m_line_77 v1 v2 v3 v4 v5 v6 v7 v8 v9 s) := by
  unfold m_line_77
  refine e_lp (L := Int × Int × Int × iS) (E := iS) (LO := fun l => [(0, .ref (tb_nK + 121)), (1, iv v1), (2, iv v2), (3, iv v3), (4, iv v4), (5, iv v5), (6, iv v6), (7, iv (l.1)), (8, iv (l.2.1)), (9, iv (l.2.2.1))]) (LS := fun l => l.2.2.2) (CE := fun e r => ev w d 410 165 [] [] (hT (e)) r) (fun l => tm_line_77b w d hd _ _ _ _ _ _ _ _ _ _) ?_ (v7, v8, v9, s)
  intro e
  show Ew hT w d 410 165 [] [] e (Cv hT) _
  exact e_retv em_410 (ce_at ce_410 92 rfl)
theorem fm_line_77 (v1 : Int) (v2 : Int) (v3 : Int) (v4 : Int) (v5 : Int) (v6 : Int) (v7 : Int) (v8 : Int) (v9 : Int) (s : iS) : Fm Prod.snd L_m_line G_m_line s (m_line_77 v1 v2 v3 v4 v5 v6 v7 v8 v9 s) := by
  unfold m_line_77
  refine fm_lp (A := Int × Int × Int × iS) (E := iS) (LS := fun l => l.2.2.2) (LE := fun e => e) ?_ ?_ (v7, v8, v9, s)
  · exact fun l => fm_line_77b _ _ _ _ _ _ _ _ _ _
  · exact (fun e => fm_some md_refl)
noncomputable def m_line_75 (v1 : Int) (v2 : Int) (v3 : Int) (v4 : Int) (v5 : Int) (v6 : Int) (v7 : Int) (v8 : Int) (t0 : Int) (s : iS) : Option (Int × iS) := m_line_77 v1 v2 v3 v4 v5 v6 v7 v8 t0 s
theorem tm_line_75 (w : ev_W) (d : Nat) (hd : 2 ≤ d) (v1 : Int) (v2 : Int) (v3 : Int) (v4 : Int) (v5 : Int) (v6 : Int) (v7 : Int) (v8 : Int) (t0 : Int) (s : iS) : Ew hT w d 410 75 [(0, .ref (tb_nK + 121)), (1, iv v1), (2, iv v2), (3, iv v3), (4, iv v4), (5, iv v5), (6, iv v6), (7, iv v7), (8, iv v8)] [iv t0] s (Cv hT) (m_line_75 v1 v2 v3 v4 v5 v6 v7 v8 t0 s) := by
  unfold m_line_75
  refine e_mv 77 em_410 (ce_at ce_410 43 rfl) rfl rfl ?_
  refine e_pk [0, 1, 2, 3, 4, 5, 6, 7, 8, 9] rfl rfl ?_
  exact tm_line_77 w d hd _ _ _ _ _ _ _ _ _ _
theorem fm_line_75 (v1 : Int) (v2 : Int) (v3 : Int) (v4 : Int) (v5 : Int) (v6 : Int) (v7 : Int) (v8 : Int) (t0 : Int) (s : iS) : Fm Prod.snd L_m_line G_m_line s (m_line_75 v1 v2 v3 v4 v5 v6 v7 v8 t0 s) := fm_line_77 _ _ _ _ _ _ _ _ _ _
noncomputable def m_line_57 (v1 : Int) (v2 : Int) (v3 : Int) (v4 : Int) (v5 : Int) (t0 : Int) (s : iS) : Option (Int × iS) := gd (rg t0) (if t0 = 0 then m_line_75 v1 v2 v3 v4 v5 t0 0 0 (-1) s else m_line_75 v1 v2 v3 v4 v5 t0 0 0 0 s)
theorem tm_line_57 (w : ev_W) (d : Nat) (hd : 2 ≤ d) (v1 : Int) (v2 : Int) (v3 : Int) (v4 : Int) (v5 : Int) (t0 : Int) (s : iS) : Ew hT w d 410 57 [(0, .ref (tb_nK + 121)), (1, iv v1), (2, iv v2), (3, iv v3), (4, iv v4), (5, iv v5)] [iv t0] s (Cv hT) (m_line_57 v1 v2 v3 v4 v5 t0 s) := by
  unfold m_line_57
  refine e_mv 59 em_410 (ce_at ce_410 33 rfl) rfl rfl ?_
  refine e_op 60 em_410 (ce_at ce_410 34 rfl) rfl rfl ?_
  refine e_mv 62 em_410 (ce_at ce_410 35 rfl) rfl rfl ?_
  refine e_op 63 em_410 (ce_at ce_410 36 rfl) rfl rfl ?_
  refine e_mv 65 em_410 (ce_at ce_410 37 rfl) rfl rfl ?_
  refine e_mv 67 em_410 (ce_at ce_410 38 rfl) rfl rfl ?_
  refine e_gd fun g1 => ?_
  refine e_ifne 74 70 em_410 rfl rfl (ce_at ce_410 39 rfl) g1 (fun h2 => ?_) (fun h2 => ?_)
  · refine e_op 75 em_410 (ce_at ce_410 42 rfl) rfl rfl ?_
    refine e_pk [0, 1, 2, 3, 4, 5, 6, 7, 8] rfl rfl ?_
    exact tm_line_75 w d hd _ _ _ _ _ _ _ _ _ _
  · refine e_op 71 em_410 (ce_at ce_410 40 rfl) rfl rfl ?_
    refine e_goto em_410 75 (ce_at ce_410 41 rfl) rfl ?_
    refine e_pk [0, 1, 2, 3, 4, 5, 6, 7, 8] rfl rfl ?_
    exact tm_line_75 w d hd _ _ _ _ _ _ _ _ _ _
theorem fm_line_57 (v1 : Int) (v2 : Int) (v3 : Int) (v4 : Int) (v5 : Int) (t0 : Int) (s : iS) : Fm Prod.snd L_m_line G_m_line s (m_line_57 v1 v2 v3 v4 v5 t0 s) := fm_gd (fm_if (fm_line_75 _ _ _ _ _ _ _ _ _ _) (fm_line_75 _ _ _ _ _ _ _ _ _ _))
noncomputable def m_line_38 (v1 : Int) (v2 : Int) (v3 : Int) (v4 : Int) (t0 : Int) (s : iS) : Option (Int × iS) := gd (rg v4) (gd (rg v2) (if v2 ≤ v4 then m_line_57 v1 v2 v3 v4 t0 (v4 - v2) s else m_line_57 v1 v2 v3 v4 t0 (v2 - v4) s))
theorem tm_line_38 (w : ev_W) (d : Nat) (hd : 2 ≤ d) (v1 : Int) (v2 : Int) (v3 : Int) (v4 : Int) (t0 : Int) (s : iS) : Ew hT w d 410 38 [(0, .ref (tb_nK + 121)), (1, iv v1), (2, iv v2), (3, iv v3), (4, iv v4)] [iv t0] s (Cv hT) (m_line_38 v1 v2 v3 v4 t0 s) := by
  unfold m_line_38
  refine e_mv 40 em_410 (ce_at ce_410 22 rfl) rfl rfl ?_
  refine e_mv 42 em_410 (ce_at ce_410 23 rfl) rfl rfl ?_
  refine e_mv 43 em_410 (ce_at ce_410 24 rfl) rfl rfl ?_
  refine e_gd fun g1 => ?_
  refine e_gd fun g2 => ?_
  refine e_cmge 53 46 em_410 rfl rfl (ce_at ce_410 25 rfl) g1 g2 (fun h3 => ?_) (fun h3 => ?_)
  · refine e_mv 55 em_410 (ce_at ce_410 30 rfl) rfl rfl ?_
    refine e_mv 56 em_410 (ce_at ce_410 31 rfl) rfl rfl ?_
    refine e_isub 57 em_410 rfl (ce_at ce_410 32 rfl) ?_
    refine e_pk [0, 1, 2, 3, 4, 5] rfl rfl ?_
    exact tm_line_57 w d hd _ _ _ _ _ _ _
  · refine e_mv 47 em_410 (ce_at ce_410 26 rfl) rfl rfl ?_
    refine e_mv 49 em_410 (ce_at ce_410 27 rfl) rfl rfl ?_
    refine e_isub 50 em_410 rfl (ce_at ce_410 28 rfl) ?_
    refine e_goto em_410 57 (ce_at ce_410 29 rfl) rfl ?_
    refine e_pk [0, 1, 2, 3, 4, 5] rfl rfl ?_
    exact tm_line_57 w d hd _ _ _ _ _ _ _
theorem fm_line_38 (v1 : Int) (v2 : Int) (v3 : Int) (v4 : Int) (t0 : Int) (s : iS) : Fm Prod.snd L_m_line G_m_line s (m_line_38 v1 v2 v3 v4 t0 s) := fm_gd (fm_gd (fm_if (fm_line_57 _ _ _ _ _ _ _) (fm_line_57 _ _ _ _ _ _ _)))
noncomputable def m_line (v1 : Int) (v2 : Int) (v3 : Int) (v4 : Int) (s : iS) : Option (Int × iS) := bd (m_isPoint v1 v2 s) (fun r1 s1 => gd (rg r1) (if r1 = 0 then m_line_17 s1 else bd (m_isPoint v3 v4 s1) (fun r4 s4 => gd (rg r4) (if r4 = 0 then m_line_17 s4 else gd (rg v3) (gd (rg v1) (if v1 ≤ v3 then m_line_38 v1 v2 v3 v4 (v3 - v1) s4 else m_line_38 v1 v2 v3 v4 (v1 - v3) s4))))))
theorem tm_line (w : ev_W) (d : Nat) (hd : 2 ≤ d) (v1 : Int) (v2 : Int) (v3 : Int) (v4 : Int) (s : iS) : Ew hT w d 410 0 [(0, .ref (tb_nK + 121)), (1, iv v1), (2, iv v2), (3, iv v3), (4, iv v4)] [] s (Cv hT) (m_line v1 v2 v3 v4 s) := by
  unfold m_line
  refine e_mv 1 em_410 (ce_at ce_410 0 rfl) rfl rfl ?_
  refine e_mv 2 em_410 (ce_at ce_410 1 rfl) rfl rfl ?_
  refine e_ivi 5 em_410 (ce_at ce_410 2 rfl) (by omega) (iv_s2 rfl) em_408 (Nat.le_of_ble_eq_true rfl) rfl (tm_isPoint hT w (d - 1) (by omega) _ _ _) (fun r1 s1 => ?_)
  refine e_gd fun g2 => ?_
  refine e_ifeq 17 8 em_410 rfl rfl (ce_at ce_410 3 rfl) g2 (fun h3 => ?_) (fun h3 => ?_)
  · refine e_pk [0] rfl rfl ?_
    exact tm_line_17 w d hd _
  · refine e_mv 9 em_410 (ce_at ce_410 4 rfl) rfl rfl ?_
    refine e_mv 11 em_410 (ce_at ce_410 5 rfl) rfl rfl ?_
    refine e_ivi 14 em_410 (ce_at ce_410 6 rfl) (by omega) (iv_s2 rfl) em_408 (Nat.le_of_ble_eq_true rfl) rfl (tm_isPoint hT w (d - 1) (by omega) _ _ _) (fun r4 s4 => ?_)
    refine e_gd fun g5 => ?_
    refine e_ifne 24 17 em_410 rfl rfl (ce_at ce_410 7 rfl) g5 (fun h6 => ?_) (fun h6 => ?_)
    · refine e_mv 25 em_410 (ce_at ce_410 12 rfl) rfl rfl ?_
      refine e_mv 26 em_410 (ce_at ce_410 13 rfl) rfl rfl ?_
      refine e_gd fun g7 => ?_
      refine e_gd fun g8 => ?_
      refine e_cmge 35 29 em_410 rfl rfl (ce_at ce_410 14 rfl) g7 g8 (fun h9 => ?_) (fun h9 => ?_)
      · refine e_mv 36 em_410 (ce_at ce_410 19 rfl) rfl rfl ?_
        refine e_mv 37 em_410 (ce_at ce_410 20 rfl) rfl rfl ?_
        refine e_isub 38 em_410 rfl (ce_at ce_410 21 rfl) ?_
        refine e_pk [0, 1, 2, 3, 4] rfl rfl ?_
        exact tm_line_38 w d hd _ _ _ _ _ _
      · refine e_mv 30 em_410 (ce_at ce_410 15 rfl) rfl rfl ?_
        refine e_mv 31 em_410 (ce_at ce_410 16 rfl) rfl rfl ?_
        refine e_isub 32 em_410 rfl (ce_at ce_410 17 rfl) ?_
        refine e_goto em_410 38 (ce_at ce_410 18 rfl) rfl ?_
        refine e_pk [0, 1, 2, 3, 4] rfl rfl ?_
        exact tm_line_38 w d hd _ _ _ _ _ _
    · refine e_pk [0] rfl rfl ?_
      exact tm_line_17 w d hd _
theorem fm_line (v1 : Int) (v2 : Int) (v3 : Int) (v4 : Int) (s : iS) : Fm Prod.snd L_m_line G_m_line s (m_line v1 v2 v3 v4 s) := fm_bd (fm_sub (fm_isPoint _ _ _) (mem_sub_L rfl) (mem_sub_F rfl)) (fun r1 s1 => fm_gd (fm_if (fm_line_17 _) (fm_bd (fm_sub (fm_isPoint _ _ _) (mem_sub_L rfl) (mem_sub_F rfl)) (fun r4 s4 => fm_gd (fm_if (fm_line_17 _) (fm_gd (fm_gd (fm_if (fm_line_38 _ _ _ _ _ _) (fm_line_38 _ _ _ _ _ _)))))))))
/-! m_rectangle -/
def L_m_rectangle : List Nat := [175]
def G_m_rectangle : List (Nat × Nat) := [(121, 99), (121, 100)]
noncomputable def m_rectangle_28 (s : iS) : Option (Int × iS) := bd (m_err 9 s) (fun _ s1 => some (0, s1))
theorem tm_rectangle_28 (w : ev_W) (d : Nat) (hd : 2 ≤ d) (s : iS) : Ew hT w d 411 28 [(0, .ref (tb_nK + 121))] [] s (Cv hT) (m_rectangle_28 s) := by
  unfold m_rectangle_28
  refine e_mv 29 em_411 (ce_at ce_411 14 rfl) rfl rfl ?_
  refine e_bip 31 em_411 (ce_at ce_411 15 rfl) (by decide) rfl ?_
  refine e_ivv 34 em_411 (ce_at ce_411 16 rfl) (by omega) (iv_v1 (by decide) tq_121 rfl) em_376 (Nat.le_of_ble_eq_true rfl) rfl (tm_err w (d - 1) (by omega) _ _) (fun r1 s1 => ?_)
  exact e_retv em_411 (ce_at ce_411 17 rfl)
theorem fm_rectangle_28 (s : iS) : Fm Prod.snd L_m_rectangle G_m_rectangle s (m_rectangle_28 s) := fm_bd (fm_sub (fm_err _ _) (mem_sub_L rfl) (mem_sub_F rfl)) (fun r1 s1 => fm_some md_refl)
def m_rectangle_48C (w : ev_W) (d : Nat) (v1 : Int) (v3 : Int) (v4 : Int) (v5 : Int) : (Int × iS) ⊕ (iS) → am_E → Prop := fun q r => q.elim (fun l => ev w d 411 48 ((fun l => [(0, .ref (tb_nK + 121)), (1, iv v1), (3, iv v3), (4, iv v4), (5, iv v5), (6, iv (l.1))]) l) [] (hT ((fun l => l.2) l)) r) (fun e => (fun e r => ev w d 411 68 [(0, .ref (tb_nK + 121)), (1, iv v1), (3, iv v3), (4, iv v4), (5, iv v5)] [] (hT (e)) r) e r)
noncomputable def m_rectangle_48b (v1 : Int) (v3 : Int) (v4 : Int) (v5 : Int) (v6 : Int) (s : iS) : Option ((Int × iS) ⊕ (iS)) := gd (rg v6) (gd (rg v3) (if v3 < v6 then some (.inr s) else bd (m_point v6 v5 s) (fun _ s4 => some (.inl ((v6 + 1), s4)))))
theorem tm_rectangle_48b (w : ev_W) (d : Nat) (hd : 2 ≤ d) (v1 : Int) (v3 : Int) (v4 : Int) (v5 : Int) (v6 : Int) (s : iS) : Ew hT w d 411 48 [(0, .ref (tb_nK + 121)), (1, iv v1), (3, iv v3), (4, iv v4), (5, iv v5), (6, iv v6)] [] s (m_rectangle_48C w d v1 v3 v4 v5) (m_rectangle_48b v1 v3 v4 v5 v6 s) := by
  unfold m_rectangle_48b
  refine e_mv 50 em_411 (ce_at ce_411 25 rfl) rfl rfl ?_
  refine e_mv 51 em_411 (ce_at ce_411 26 rfl) rfl rfl ?_
  refine e_gd fun g1 => ?_
  refine e_gd fun g2 => ?_
  refine e_cmgt 68 54 em_411 rfl rfl (ce_at ce_411 27 rfl) g1 g2 (fun h3 => ?_) (fun h3 => ?_)
  · refine e_pk [0, 1, 3, 4, 5] rfl rfl ?_
    exact e_out (fun r h => h)
  · refine e_mv 55 em_411 (ce_at ce_411 28 rfl) rfl rfl ?_
    refine e_mv 57 em_411 (ce_at ce_411 29 rfl) rfl rfl ?_
    refine e_mv 59 em_411 (ce_at ce_411 30 rfl) rfl rfl ?_
    refine e_ivv 62 em_411 (ce_at ce_411 31 rfl) (by omega) (iv_v2 (by decide) tq_121 rfl) em_409 (Nat.le_of_ble_eq_true rfl) rfl (tm_point w (d - 1) (by omega) _ _ _) (fun r4 s4 => ?_)
    refine e_iinc 65 em_411 (ce_at ce_411 32 rfl) rfl (by decide) rfl ?_
    refine e_goto em_411 48 (ce_at ce_411 33 rfl) rfl ?_
    refine e_pk [0, 1, 3, 4, 5, 6] rfl rfl ?_
    exact e_out (fun r h => h)
theorem fm_rectangle_48b (v1 : Int) (v3 : Int) (v4 : Int) (v5 : Int) (v6 : Int) (s : iS) : Fm (fun r : (Int × iS) ⊕ (iS) => r.elim (fun l => l.2) (fun e => e)) L_m_rectangle G_m_rectangle s (m_rectangle_48b v1 v3 v4 v5 v6 s) := fm_gd (fm_gd (fm_if (fm_some md_refl) (fm_bd (fm_sub (fm_point _ _ _) (mem_sub_L rfl) (mem_sub_F rfl)) (fun r4 s4 => fm_some md_refl))))
def m_rectangle_38C (w : ev_W) (d : Nat) (v1 : Int) (v3 : Int) (v4 : Int) : (Int × iS) ⊕ (iS) → am_E → Prop := fun q r => q.elim (fun l => ev w d 411 38 ((fun l => [(0, .ref (tb_nK + 121)), (1, iv v1), (3, iv v3), (4, iv v4), (5, iv (l.1))]) l) [] (hT ((fun l => l.2) l)) r) (fun e => (fun e r => ev w d 411 74 [] [] (hT (e)) r) e r)
noncomputable def m_rectangle_48 (v1 : Int) (v3 : Int) (v4 : Int) (v5 : Int) (v6 : Int) (s : iS) : Option ((Int × iS) ⊕ (iS)) := (lp (L := Int × iS) (E := iS) (fun l => m_rectangle_48b v1 v3 v4 v5 (l.1) (l.2)) (v6, s)).bind (fun e => some (.inl ((v5 + 1), e)))
theorem tm_rectangle_48 (w : ev_W) (d : Nat) (hd : 2 ≤ d) (v1 : Int) (v3 : Int) (v4 : Int) (v5 : Int) (v6 : Int) (s : iS) : Ew hT w d 411 48 [(0, .ref (tb_nK + 121)), (1, iv v1), (3, iv v3), (4, iv v4), (5, iv v5), (6, iv v6)] [] s (m_rectangle_38C w d v1 v3 v4) (m_rectangle_48 v1 v3 v4 v5 v6 s) := by
  unfold m_rectangle_48
  refine e_lp (L := Int × iS) (E := iS) (LO := fun l => [(0, .ref (tb_nK + 121)), (1, iv v1), (3, iv v3), (4, iv v4), (5, iv v5), (6, iv (l.1))]) (LS := fun l => l.2) (CE := fun e r => ev w d 411 68 [(0, .ref (tb_nK + 121)), (1, iv v1), (3, iv v3), (4, iv v4), (5, iv v5)] [] (hT (e)) r) (fun l => tm_rectangle_48b w d hd _ _ _ _ _ _) ?_ (v6, s)
  intro e
  show Ew hT w d 411 68 [(0, .ref (tb_nK + 121)), (1, iv v1), (3, iv v3), (4, iv v4), (5, iv v5)] [] e (m_rectangle_38C w d v1 v3 v4) _
  refine e_iinc 71 em_411 (ce_at ce_411 34 rfl) rfl (by decide) rfl ?_
  refine e_goto em_411 38 (ce_at ce_411 35 rfl) rfl ?_
  refine e_pk [0, 1, 3, 4, 5] rfl rfl ?_
  exact e_out (fun r h => h)
theorem fm_rectangle_48 (v1 : Int) (v3 : Int) (v4 : Int) (v5 : Int) (v6 : Int) (s : iS) : Fm (fun r : (Int × iS) ⊕ (iS) => r.elim (fun l => l.2) (fun e => e)) L_m_rectangle G_m_rectangle s (m_rectangle_48 v1 v3 v4 v5 v6 s) := by
  unfold m_rectangle_48
  refine fm_lp (A := Int × iS) (E := iS) (LS := fun l => l.2) (LE := fun e => e) ?_ ?_ (v6, s)
  · exact fun l => fm_rectangle_48b _ _ _ _ _ _
  · exact (fun e => fm_some md_refl)
noncomputable def m_rectangle_38b (v1 : Int) (v3 : Int) (v4 : Int) (v5 : Int) (s : iS) : Option ((Int × iS) ⊕ (iS)) := gd (rg v5) (gd (rg v4) (if v4 < v5 then some (.inr s) else m_rectangle_48 v1 v3 v4 v5 v1 s))
theorem tm_rectangle_38b (w : ev_W) (d : Nat) (hd : 2 ≤ d) (v1 : Int) (v3 : Int) (v4 : Int) (v5 : Int) (s : iS) : Ew hT w d 411 38 [(0, .ref (tb_nK + 121)), (1, iv v1), (3, iv v3), (4, iv v4), (5, iv v5)] [] s (m_rectangle_38C w d v1 v3 v4) (m_rectangle_38b v1 v3 v4 v5 s) := by
  unfold m_rectangle_38b
  refine e_mv 40 em_411 (ce_at ce_411 20 rfl) rfl rfl ?_
  refine e_mv 42 em_411 (ce_at ce_411 21 rfl) rfl rfl ?_
  refine e_gd fun g1 => ?_
  refine e_gd fun g2 => ?_
  refine e_cmgt 74 45 em_411 rfl rfl (ce_at ce_411 22 rfl) g1 g2 (fun h3 => ?_) (fun h3 => ?_)
  · refine e_pk [] rfl rfl ?_
    exact e_out (fun r h => h)
  · refine e_mv 46 em_411 (ce_at ce_411 23 rfl) rfl rfl ?_
    refine e_mv 48 em_411 (ce_at ce_411 24 rfl) rfl rfl ?_
    refine e_pk [0, 1, 3, 4, 5, 6] rfl rfl ?_
    exact tm_rectangle_48 w d hd _ _ _ _ _ _
theorem fm_rectangle_38b (v1 : Int) (v3 : Int) (v4 : Int) (v5 : Int) (s : iS) : Fm (fun r : (Int × iS) ⊕ (iS) => r.elim (fun l => l.2) (fun e => e)) L_m_rectangle G_m_rectangle s (m_rectangle_38b v1 v3 v4 v5 s) := fm_gd (fm_gd (fm_if (fm_some md_refl) (fm_rectangle_48 _ _ _ _ _ _)))
noncomputable def m_rectangle_38 (v1 : Int) (v3 : Int) (v4 : Int) (v5 : Int) (s : iS) : Option (Int × iS) := (lp (L := Int × iS) (E := iS) (fun l => m_rectangle_38b v1 v3 v4 (l.1) (l.2)) (v5, s)).bind (fun e => some (0, e))
theorem tm_rectangle_38 (w : ev_W) (d : Nat) (hd : 2 ≤ d) (v1 : Int) (v3 : Int) (v4 : Int) (v5 : Int) (s : iS) : Ew hT w d 411 38 [(0, .ref (tb_nK + 121)), (1, iv v1), (3, iv v3), (4, iv v4), (5, iv v5)] [] s (Cv hT) (m_rectangle_38 v1 v3 v4 v5 s) := by
  unfold m_rectangle_38
  refine e_lp (L := Int × iS) (E := iS) (LO := fun l => [(0, .ref (tb_nK + 121)), (1, iv v1), (3, iv v3), (4, iv v4), (5, iv (l.1))]) (LS := fun l => l.2) (CE := fun e r => ev w d 411 74 [] [] (hT (e)) r) (fun l => tm_rectangle_38b w d hd _ _ _ _ _) ?_ (v5, s)
  intro e
  show Ew hT w d 411 74 [] [] e (Cv hT) _
  exact e_retv em_411 (ce_at ce_411 36 rfl)
theorem fm_rectangle_38 (v1 : Int) (v3 : Int) (v4 : Int) (v5 : Int) (s : iS) : Fm Prod.snd L_m_rectangle G_m_rectangle s (m_rectangle_38 v1 v3 v4 v5 s) := by
  unfold m_rectangle_38
  refine fm_lp (A := Int × iS) (E := iS) (LS := fun l => l.2) (LE := fun e => e) ?_ ?_ (v5, s)
  · exact fun l => fm_rectangle_38b _ _ _ _ _
  · exact (fun e => fm_some md_refl)
noncomputable def m_rectangle (v1 : Int) (v2 : Int) (v3 : Int) (v4 : Int) (s : iS) : Option (Int × iS) := gd (rg v1) (gd (rg v3) (if v3 < v1 then m_rectangle_28 s else gd (rg v2) (gd (rg v4) (if v4 < v2 then m_rectangle_28 s else bd (m_isPoint v1 v2 s) (fun r7 s7 => gd (rg r7) (if r7 = 0 then m_rectangle_28 s7 else bd (m_isPoint v3 v4 s7) (fun r10 s10 => gd (rg r10) (if r10 = 0 then m_rectangle_28 s10 else m_rectangle_38 v1 v3 v4 v2 s10))))))))
theorem tm_rectangle (w : ev_W) (d : Nat) (hd : 2 ≤ d) (v1 : Int) (v2 : Int) (v3 : Int) (v4 : Int) (s : iS) : Ew hT w d 411 0 [(0, .ref (tb_nK + 121)), (1, iv v1), (2, iv v2), (3, iv v3), (4, iv v4)] [] s (Cv hT) (m_rectangle v1 v2 v3 v4 s) := by
  unfold m_rectangle
  refine e_mv 1 em_411 (ce_at ce_411 0 rfl) rfl rfl ?_
  refine e_mv 2 em_411 (ce_at ce_411 1 rfl) rfl rfl ?_
  refine e_gd fun g1 => ?_
  refine e_gd fun g2 => ?_
  refine e_cmgt 28 5 em_411 rfl rfl (ce_at ce_411 2 rfl) g1 g2 (fun h3 => ?_) (fun h3 => ?_)
  · refine e_pk [0] rfl rfl ?_
    exact tm_rectangle_28 w d hd _
  · refine e_mv 6 em_411 (ce_at ce_411 3 rfl) rfl rfl ?_
    refine e_mv 8 em_411 (ce_at ce_411 4 rfl) rfl rfl ?_
    refine e_gd fun g4 => ?_
    refine e_gd fun g5 => ?_
    refine e_cmgt 28 11 em_411 rfl rfl (ce_at ce_411 5 rfl) g4 g5 (fun h6 => ?_) (fun h6 => ?_)
    · refine e_pk [0] rfl rfl ?_
      exact tm_rectangle_28 w d hd _
    · refine e_mv 12 em_411 (ce_at ce_411 6 rfl) rfl rfl ?_
      refine e_mv 13 em_411 (ce_at ce_411 7 rfl) rfl rfl ?_
      refine e_ivi 16 em_411 (ce_at ce_411 8 rfl) (by omega) (iv_s2 rfl) em_408 (Nat.le_of_ble_eq_true rfl) rfl (tm_isPoint hT w (d - 1) (by omega) _ _ _) (fun r7 s7 => ?_)
      refine e_gd fun g8 => ?_
      refine e_ifeq 28 19 em_411 rfl rfl (ce_at ce_411 9 rfl) g8 (fun h9 => ?_) (fun h9 => ?_)
      · refine e_pk [0] rfl rfl ?_
        exact tm_rectangle_28 w d hd _
      · refine e_mv 20 em_411 (ce_at ce_411 10 rfl) rfl rfl ?_
        refine e_mv 22 em_411 (ce_at ce_411 11 rfl) rfl rfl ?_
        refine e_ivi 25 em_411 (ce_at ce_411 12 rfl) (by omega) (iv_s2 rfl) em_408 (Nat.le_of_ble_eq_true rfl) rfl (tm_isPoint hT w (d - 1) (by omega) _ _ _) (fun r10 s10 => ?_)
        refine e_gd fun g11 => ?_
        refine e_ifne 35 28 em_411 rfl rfl (ce_at ce_411 13 rfl) g11 (fun h12 => ?_) (fun h12 => ?_)
        · refine e_mv 36 em_411 (ce_at ce_411 18 rfl) rfl rfl ?_
          refine e_mv 38 em_411 (ce_at ce_411 19 rfl) rfl rfl ?_
          refine e_pk [0, 1, 3, 4, 5] rfl rfl ?_
          exact tm_rectangle_38 w d hd _ _ _ _ _
        · refine e_pk [0] rfl rfl ?_
          exact tm_rectangle_28 w d hd _
theorem fm_rectangle (v1 : Int) (v2 : Int) (v3 : Int) (v4 : Int) (s : iS) : Fm Prod.snd L_m_rectangle G_m_rectangle s (m_rectangle v1 v2 v3 v4 s) := fm_gd (fm_gd (fm_if (fm_rectangle_28 _) (fm_gd (fm_gd (fm_if (fm_rectangle_28 _) (fm_bd (fm_sub (fm_isPoint _ _ _) (mem_sub_L rfl) (mem_sub_F rfl)) (fun r7 s7 => fm_gd (fm_if (fm_rectangle_28 _) (fm_bd (fm_sub (fm_isPoint _ _ _) (mem_sub_L rfl) (mem_sub_F rfl)) (fun r10 s10 => fm_gd (fm_if (fm_rectangle_28 _) (fm_rectangle_38 _ _ _ _ _))))))))))))
/-! m_circle -/
def L_m_circle : List Nat := [175]
def G_m_circle : List (Nat × Nat) := [(121, 99), (121, 100)]
noncomputable def m_circle_34 (s : iS) : Option (Int × iS) := bd (m_err 13 s) (fun _ s1 => some (0, s1))
theorem tm_circle_34 (w : ev_W) (d : Nat) (hd : 2 ≤ d) (s : iS) : Ew hT w d 412 34 [(0, .ref (tb_nK + 121))] [] s (Cv hT) (m_circle_34 s) := by
  unfold m_circle_34
  refine e_mv 35 em_412 (ce_at ce_412 21 rfl) rfl rfl ?_
  refine e_bip 37 em_412 (ce_at ce_412 22 rfl) (by decide) rfl ?_
  refine e_ivv 40 em_412 (ce_at ce_412 23 rfl) (by omega) (iv_v1 (by decide) tq_121 rfl) em_376 (Nat.le_of_ble_eq_true rfl) rfl (tm_err w (d - 1) (by omega) _ _) (fun r1 s1 => ?_)
  exact e_retv em_412 (ce_at ce_412 24 rfl)
theorem fm_circle_34 (s : iS) : Fm Prod.snd L_m_circle G_m_circle s (m_circle_34 s) := fm_bd (fm_sub (fm_err _ _) (mem_sub_L rfl) (mem_sub_F rfl)) (fun r1 s1 => fm_some md_refl)
def m_circle_71C (w : ev_W) (d : Nat) (v1 : Int) (v2 : Int) (v3 : Int) (v4 : Int) (v5 : Int) : (Int × iS) ⊕ (iS) → am_E → Prop := fun q r => q.elim (fun l => ev w d 412 71 ((fun l => [(0, .ref (tb_nK + 121)), (1, iv v1), (2, iv v2), (3, iv v3), (4, iv v4), (5, iv v5), (6, iv (l.1))]) l) [] (hT ((fun l => l.2) l)) r) (fun e => (fun e r => ev w d 412 96 [(0, .ref (tb_nK + 121)), (1, iv v1), (2, iv v2), (3, iv v3), (4, iv v4)] [] (hT (e)) r) e r)
noncomputable def m_circle_71b (v1 : Int) (v2 : Int) (v3 : Int) (v4 : Int) (v5 : Int) (v6 : Int) (s : iS) : Option ((Int × iS) ⊕ (iS)) := gd (rg v6) (gd (rg (v1 + v5)) (if (v1 + v5) < v6 then some (.inr s) else bd (m_point v6 (v2 + v4) s) (fun _ s4 => some (.inl ((v6 + 1), s4)))))
theorem tm_circle_71b (w : ev_W) (d : Nat) (hd : 2 ≤ d) (v1 : Int) (v2 : Int) (v3 : Int) (v4 : Int) (v5 : Int) (v6 : Int) (s : iS) : Ew hT w d 412 71 [(0, .ref (tb_nK + 121)), (1, iv v1), (2, iv v2), (3, iv v3), (4, iv v4), (5, iv v5), (6, iv v6)] [] s (m_circle_71C w d v1 v2 v3 v4 v5) (m_circle_71b v1 v2 v3 v4 v5 v6 s) := by
  unfold m_circle_71b
  refine e_mv 73 em_412 (ce_at ce_412 44 rfl) rfl rfl ?_
  refine e_mv 74 em_412 (ce_at ce_412 45 rfl) rfl rfl ?_
  refine e_mv 76 em_412 (ce_at ce_412 46 rfl) rfl rfl ?_
  refine e_iadd 77 em_412 rfl (ce_at ce_412 47 rfl) ?_
  refine e_gd fun g1 => ?_
  refine e_gd fun g2 => ?_
  refine e_cmgt 96 80 em_412 rfl rfl (ce_at ce_412 48 rfl) g1 g2 (fun h3 => ?_) (fun h3 => ?_)
  · refine e_pk [0, 1, 2, 3, 4] rfl rfl ?_
    exact e_out (fun r h => h)
  · refine e_mv 81 em_412 (ce_at ce_412 49 rfl) rfl rfl ?_
    refine e_mv 83 em_412 (ce_at ce_412 50 rfl) rfl rfl ?_
    refine e_mv 84 em_412 (ce_at ce_412 51 rfl) rfl rfl ?_
    refine e_mv 86 em_412 (ce_at ce_412 52 rfl) rfl rfl ?_
    refine e_iadd 87 em_412 rfl (ce_at ce_412 53 rfl) ?_
    refine e_ivv 90 em_412 (ce_at ce_412 54 rfl) (by omega) (iv_v2 (by decide) tq_121 rfl) em_409 (Nat.le_of_ble_eq_true rfl) rfl (tm_point w (d - 1) (by omega) _ _ _) (fun r4 s4 => ?_)
    refine e_iinc 93 em_412 (ce_at ce_412 55 rfl) rfl (by decide) rfl ?_
    refine e_goto em_412 71 (ce_at ce_412 56 rfl) rfl ?_
    refine e_pk [0, 1, 2, 3, 4, 5, 6] rfl rfl ?_
    exact e_out (fun r h => h)
theorem fm_circle_71b (v1 : Int) (v2 : Int) (v3 : Int) (v4 : Int) (v5 : Int) (v6 : Int) (s : iS) : Fm (fun r : (Int × iS) ⊕ (iS) => r.elim (fun l => l.2) (fun e => e)) L_m_circle G_m_circle s (m_circle_71b v1 v2 v3 v4 v5 v6 s) := fm_gd (fm_gd (fm_if (fm_some md_refl) (fm_bd (fm_sub (fm_point _ _ _) (mem_sub_L rfl) (mem_sub_F rfl)) (fun r4 s4 => fm_some md_refl))))
def m_circle_45C (w : ev_W) (d : Nat) (v1 : Int) (v2 : Int) (v3 : Int) : (Int × iS) ⊕ (iS) → am_E → Prop := fun q r => q.elim (fun l => ev w d 412 45 ((fun l => [(0, .ref (tb_nK + 121)), (1, iv v1), (2, iv v2), (3, iv v3), (4, iv (l.1))]) l) [] (hT ((fun l => l.2) l)) r) (fun e => (fun e r => ev w d 412 102 [] [] (hT (e)) r) e r)
noncomputable def m_circle_71 (v1 : Int) (v2 : Int) (v3 : Int) (v4 : Int) (v5 : Int) (v6 : Int) (s : iS) : Option ((Int × iS) ⊕ (iS)) := (lp (L := Int × iS) (E := iS) (fun l => m_circle_71b v1 v2 v3 v4 v5 (l.1) (l.2)) (v6, s)).bind (fun e => some (.inl ((v4 + 1), e)))
theorem tm_circle_71 (w : ev_W) (d : Nat) (hd : 2 ≤ d) (v1 : Int) (v2 : Int) (v3 : Int) (v4 : Int) (v5 : Int) (v6 : Int) (s : iS) : Ew hT w d 412 71 [(0, .ref (tb_nK + 121)), (1, iv v1), (2, iv v2), (3, iv v3), (4, iv v4), (5, iv v5), (6, iv v6)] [] s (m_circle_45C w d v1 v2 v3) (m_circle_71 v1 v2 v3 v4 v5 v6 s) := by
  unfold m_circle_71
  refine e_lp (L := Int × iS) (E := iS) (LO := fun l => [(0, .ref (tb_nK + 121)), (1, iv v1), (2, iv v2), (3, iv v3), (4, iv v4), (5, iv v5), (6, iv (l.1))]) (LS := fun l => l.2) (CE := fun e r => ev w d 412 96 [(0, .ref (tb_nK + 121)), (1, iv v1), (2, iv v2), (3, iv v3), (4, iv v4)] [] (hT (e)) r) (fun l => tm_circle_71b w d hd _ _ _ _ _ _ _) ?_ (v6, s)
  intro e
  show Ew hT w d 412 96 [(0, .ref (tb_nK + 121)), (1, iv v1), (2, iv v2), (3, iv v3), (4, iv v4)] [] e (m_circle_45C w d v1 v2 v3) _
  refine e_iinc 99 em_412 (ce_at ce_412 57 rfl) rfl (by decide) rfl ?_
  refine e_goto em_412 45 (ce_at ce_412 58 rfl) rfl ?_
  refine e_pk [0, 1, 2, 3, 4] rfl rfl ?_
  exact e_out (fun r h => h)
theorem fm_circle_71 (v1 : Int) (v2 : Int) (v3 : Int) (v4 : Int) (v5 : Int) (v6 : Int) (s : iS) : Fm (fun r : (Int × iS) ⊕ (iS) => r.elim (fun l => l.2) (fun e => e)) L_m_circle G_m_circle s (m_circle_71 v1 v2 v3 v4 v5 v6 s) := by
  unfold m_circle_71
  refine fm_lp (A := Int × iS) (E := iS) (LS := fun l => l.2) (LE := fun e => e) ?_ ?_ (v6, s)
  · exact fun l => fm_circle_71b _ _ _ _ _ _ _
  · exact (fun e => fm_some md_refl)
noncomputable def m_circle_45b (v1 : Int) (v2 : Int) (v3 : Int) (v4 : Int) (s : iS) : Option ((Int × iS) ⊕ (iS)) := gd (rg v4) (gd (rg v3) (if v3 < v4 then some (.inr s) else bd (m_root ((v3 * v3) - (v4 * v4)) s) (fun r4 s4 => m_circle_71 v1 v2 v3 v4 r4 (v1 - r4) s4)))
theorem tm_circle_45b (w : ev_W) (d : Nat) (hd : 2 ≤ d) (v1 : Int) (v2 : Int) (v3 : Int) (v4 : Int) (s : iS) : Ew hT w d 412 45 [(0, .ref (tb_nK + 121)), (1, iv v1), (2, iv v2), (3, iv v3), (4, iv v4)] [] s (m_circle_45C w d v1 v2 v3) (m_circle_45b v1 v2 v3 v4 s) := by
  unfold m_circle_45b
  refine e_mv 47 em_412 (ce_at ce_412 28 rfl) rfl rfl ?_
  refine e_mv 48 em_412 (ce_at ce_412 29 rfl) rfl rfl ?_
  refine e_gd fun g1 => ?_
  refine e_gd fun g2 => ?_
  refine e_cmgt 102 51 em_412 rfl rfl (ce_at ce_412 30 rfl) g1 g2 (fun h3 => ?_) (fun h3 => ?_)
  · refine e_pk [] rfl rfl ?_
    exact e_out (fun r h => h)
  · refine e_mv 52 em_412 (ce_at ce_412 31 rfl) rfl rfl ?_
    refine e_mv 53 em_412 (ce_at ce_412 32 rfl) rfl rfl ?_
    refine e_imul 54 em_412 rfl (ce_at ce_412 33 rfl) ?_
    refine e_mv 56 em_412 (ce_at ce_412 34 rfl) rfl rfl ?_
    refine e_mv 58 em_412 (ce_at ce_412 35 rfl) rfl rfl ?_
    refine e_imul 59 em_412 rfl (ce_at ce_412 36 rfl) ?_
    refine e_isub 60 em_412 rfl (ce_at ce_412 37 rfl) ?_
    refine e_ivi 63 em_412 (ce_at ce_412 38 rfl) (by omega) (iv_s1 rfl) em_392 (Nat.le_of_ble_eq_true rfl) rfl (tm_root hT w (d - 1) (by omega) _ _) (fun r4 s4 => ?_)
    refine e_mv 65 em_412 (ce_at ce_412 39 rfl) rfl rfl ?_
    refine e_mv 66 em_412 (ce_at ce_412 40 rfl) rfl rfl ?_
    refine e_mv 68 em_412 (ce_at ce_412 41 rfl) rfl rfl ?_
    refine e_isub 69 em_412 rfl (ce_at ce_412 42 rfl) ?_
    refine e_mv 71 em_412 (ce_at ce_412 43 rfl) rfl rfl ?_
    refine e_pk [0, 1, 2, 3, 4, 5, 6] rfl rfl ?_
    exact tm_circle_71 w d hd _ _ _ _ _ _ _
theorem fm_circle_45b (v1 : Int) (v2 : Int) (v3 : Int) (v4 : Int) (s : iS) : Fm (fun r : (Int × iS) ⊕ (iS) => r.elim (fun l => l.2) (fun e => e)) L_m_circle G_m_circle s (m_circle_45b v1 v2 v3 v4 s) := fm_gd (fm_gd (fm_if (fm_some md_refl) (fm_bd (fm_sub (fm_root _ _) (mem_sub_L rfl) (mem_sub_F rfl)) (fun r4 s4 => fm_circle_71 _ _ _ _ _ _ _))))
noncomputable def m_circle_45 (v1 : Int) (v2 : Int) (v3 : Int) (v4 : Int) (s : iS) : Option (Int × iS) := (lp (L := Int × iS) (E := iS) (fun l => m_circle_45b v1 v2 v3 (l.1) (l.2)) (v4, s)).bind (fun e => some (0, e))
theorem tm_circle_45 (w : ev_W) (d : Nat) (hd : 2 ≤ d) (v1 : Int) (v2 : Int) (v3 : Int) (v4 : Int) (s : iS) : Ew hT w d 412 45 [(0, .ref (tb_nK + 121)), (1, iv v1), (2, iv v2), (3, iv v3), (4, iv v4)] [] s (Cv hT) (m_circle_45 v1 v2 v3 v4 s) := by
  unfold m_circle_45
  refine e_lp (L := Int × iS) (E := iS) (LO := fun l => [(0, .ref (tb_nK + 121)), (1, iv v1), (2, iv v2), (3, iv v3), (4, iv (l.1))]) (LS := fun l => l.2) (CE := fun e r => ev w d 412 102 [] [] (hT (e)) r) (fun l => tm_circle_45b w d hd _ _ _ _ _) ?_ (v4, s)
  intro e
  show Ew hT w d 412 102 [] [] e (Cv hT) _
  exact e_retv em_412 (ce_at ce_412 59 rfl)
theorem fm_circle_45 (v1 : Int) (v2 : Int) (v3 : Int) (v4 : Int) (s : iS) : Fm Prod.snd L_m_circle G_m_circle s (m_circle_45 v1 v2 v3 v4 s) := by
  unfold m_circle_45
  refine fm_lp (A := Int × iS) (E := iS) (LS := fun l => l.2) (LE := fun e => e) ?_ ?_ (v4, s)
  · exact fun l => fm_circle_45b _ _ _ _ _
  · exact (fun e => fm_some md_refl)
noncomputable def m_circle (v1 : Int) (v2 : Int) (v3 : Int) (s : iS) : Option (Int × iS) := gd (rg v3) (if v3 < 0 then m_circle_34 s else if 31 < v3 then m_circle_34 s else bd (m_isPoint (v1 - v3) (v2 - v3) s) (fun r4 s4 => gd (rg r4) (if r4 = 0 then m_circle_34 s4 else bd (m_isPoint (v1 + v3) (v2 + v3) s4) (fun r7 s7 => gd (rg r7) (if r7 = 0 then m_circle_34 s7 else m_circle_45 v1 v2 v3 (-v3) s7)))))
theorem tm_circle (w : ev_W) (d : Nat) (hd : 2 ≤ d) (v1 : Int) (v2 : Int) (v3 : Int) (s : iS) : Ew hT w d 412 0 [(0, .ref (tb_nK + 121)), (1, iv v1), (2, iv v2), (3, iv v3)] [] s (Cv hT) (m_circle v1 v2 v3 s) := by
  unfold m_circle
  refine e_mv 1 em_412 (ce_at ce_412 0 rfl) rfl rfl ?_
  refine e_gd fun g1 => ?_
  refine e_iflt 34 4 em_412 rfl rfl (ce_at ce_412 1 rfl) g1 (fun h2 => ?_) (fun h2 => ?_)
  · refine e_pk [0] rfl rfl ?_
    exact tm_circle_34 w d hd _
  · refine e_mv 5 em_412 (ce_at ce_412 2 rfl) rfl rfl ?_
    refine e_bip 7 em_412 (ce_at ce_412 3 rfl) (by decide) rfl ?_
    refine e_cmgt 34 10 em_412 rfl rfl (ce_at ce_412 4 rfl) g1 (by decide) (fun h3 => ?_) (fun h3 => ?_)
    · refine e_pk [0] rfl rfl ?_
      exact tm_circle_34 w d hd _
    · refine e_mv 11 em_412 (ce_at ce_412 5 rfl) rfl rfl ?_
      refine e_mv 12 em_412 (ce_at ce_412 6 rfl) rfl rfl ?_
      refine e_isub 13 em_412 rfl (ce_at ce_412 7 rfl) ?_
      refine e_mv 14 em_412 (ce_at ce_412 8 rfl) rfl rfl ?_
      refine e_mv 15 em_412 (ce_at ce_412 9 rfl) rfl rfl ?_
      refine e_isub 16 em_412 rfl (ce_at ce_412 10 rfl) ?_
      refine e_ivi 19 em_412 (ce_at ce_412 11 rfl) (by omega) (iv_s2 rfl) em_408 (Nat.le_of_ble_eq_true rfl) rfl (tm_isPoint hT w (d - 1) (by omega) _ _ _) (fun r4 s4 => ?_)
      refine e_gd fun g5 => ?_
      refine e_ifeq 34 22 em_412 rfl rfl (ce_at ce_412 12 rfl) g5 (fun h6 => ?_) (fun h6 => ?_)
      · refine e_pk [0] rfl rfl ?_
        exact tm_circle_34 w d hd _
      · refine e_mv 23 em_412 (ce_at ce_412 13 rfl) rfl rfl ?_
        refine e_mv 24 em_412 (ce_at ce_412 14 rfl) rfl rfl ?_
        refine e_iadd 25 em_412 rfl (ce_at ce_412 15 rfl) ?_
        refine e_mv 26 em_412 (ce_at ce_412 16 rfl) rfl rfl ?_
        refine e_mv 27 em_412 (ce_at ce_412 17 rfl) rfl rfl ?_
        refine e_iadd 28 em_412 rfl (ce_at ce_412 18 rfl) ?_
        refine e_ivi 31 em_412 (ce_at ce_412 19 rfl) (by omega) (iv_s2 rfl) em_408 (Nat.le_of_ble_eq_true rfl) rfl (tm_isPoint hT w (d - 1) (by omega) _ _ _) (fun r7 s7 => ?_)
        refine e_gd fun g8 => ?_
        refine e_ifne 41 34 em_412 rfl rfl (ce_at ce_412 20 rfl) g8 (fun h9 => ?_) (fun h9 => ?_)
        · refine e_mv 42 em_412 (ce_at ce_412 25 rfl) rfl rfl ?_
          refine e_ineg 43 em_412 rfl (ce_at ce_412 26 rfl) ?_
          refine e_mv 45 em_412 (ce_at ce_412 27 rfl) rfl rfl ?_
          refine e_pk [0, 1, 2, 3, 4] rfl rfl ?_
          exact tm_circle_45 w d hd _ _ _ _ _
        · refine e_pk [0] rfl rfl ?_
          exact tm_circle_34 w d hd _
theorem fm_circle (v1 : Int) (v2 : Int) (v3 : Int) (s : iS) : Fm Prod.snd L_m_circle G_m_circle s (m_circle v1 v2 v3 s) := fm_gd (fm_if (fm_circle_34 _) (fm_if (fm_circle_34 _) (fm_bd (fm_sub (fm_isPoint _ _ _) (mem_sub_L rfl) (mem_sub_F rfl)) (fun r4 s4 => fm_gd (fm_if (fm_circle_34 _) (fm_bd (fm_sub (fm_isPoint _ _ _) (mem_sub_L rfl) (mem_sub_F rfl)) (fun r7 s7 => fm_gd (fm_if (fm_circle_34 _) (fm_circle_45 _ _ _ _ _)))))))))
/-! m_screen -/
def L_m_screen : List Nat := [175]
def G_m_screen : List (Nat × Nat) := [(121, 99), (121, 100), (121, 108)]
def m_screen_40C (w : ev_W) (d : Nat) : (Int × iS) ⊕ (iS) → am_E → Prop := fun q r => q.elim (fun l => ev w d 407 40 ((fun l => [(0, .ref (tb_nK + 121)), (2, iv (l.1))]) l) [] (hT ((fun l => l.2) l)) r) (fun e => (fun e r => ev w d 407 60 [] [] (hT (e)) r) e r)
noncomputable def m_screen_40b (v2 : Int) (s : iS) : Option ((Int × iS) ⊕ (iS)) := gd (rg v2) (if 16512 ≤ v2 then some (.inr s) else gd (0 ≤ v2 ∧ v2 < 16512) (lt' (up s 175 v2.toNat 0) (fun s4 => some (.inl ((v2 + 1), s4)))))
theorem tm_screen_40b (w : ev_W) (d : Nat) (hd : 3 ≤ d) (v2 : Int) (s : iS) : Ew hT w d 407 40 [(0, .ref (tb_nK + 121)), (2, iv v2)] [] s (m_screen_40C w d) (m_screen_40b v2 s) := by
  unfold m_screen_40b
  refine e_mv 41 em_407 (ce_at ce_407 4 rfl) rfl rfl ?_
  refine e_sip 44 em_407 (ce_at ce_407 5 rfl) (by decide) rfl ?_
  refine e_gd fun g1 => ?_
  refine e_cmge 60 47 em_407 rfl rfl (ce_at ce_407 6 rfl) g1 (by decide) (fun h2 => ?_) (fun h2 => ?_)
  · refine e_pk [] rfl rfl ?_
    exact e_out (fun r h => h)
  · refine e_mv 48 em_407 (ce_at ce_407 7 rfl) rfl rfl ?_
    refine e_getr 51 em_407 (ce_at ce_407 8 rfl) tq_121 rfl rfl ?_
    refine e_mv 52 em_407 (ce_at ce_407 9 rfl) rfl rfl ?_
    refine e_op 53 em_407 (ce_at ce_407 10 rfl) rfl rfl ?_
    refine e_gd fun g3 => ?_
    refine e_ist 54 em_407 (ce_at ce_407 11 rfl) tq_175 (by decide) g3 rfl (fun s4 => ?_)
    refine e_iinc 57 em_407 (ce_at ce_407 12 rfl) rfl (by decide) rfl ?_
    refine e_goto em_407 40 (ce_at ce_407 13 rfl) rfl ?_
    refine e_pk [0, 2] rfl rfl ?_
    exact e_out (fun r h => h)
theorem fm_screen_40b (v2 : Int) (s : iS) : Fm (fun r : (Int × iS) ⊕ (iS) => r.elim (fun l => l.2) (fun e => e)) L_m_screen G_m_screen s (m_screen_40b v2 s) := fm_gd (fm_if (fm_some md_refl) (fm_gd (fm_lt (md_upL (mem_L rfl)) (fun s4 => fm_some md_refl))))
noncomputable def m_screen_40 (v2 : Int) (s : iS) : Option (Int × iS) := (lp (L := Int × iS) (E := iS) (fun l => m_screen_40b (l.1) (l.2)) (v2, s)).bind (fun e => some (0, e))
theorem tm_screen_40 (w : ev_W) (d : Nat) (hd : 3 ≤ d) (v2 : Int) (s : iS) : Ew hT w d 407 40 [(0, .ref (tb_nK + 121)), (2, iv v2)] [] s (Cv hT) (m_screen_40 v2 s) := by
  unfold m_screen_40
  refine e_lp (L := Int × iS) (E := iS) (LO := fun l => [(0, .ref (tb_nK + 121)), (2, iv (l.1))]) (LS := fun l => l.2) (CE := fun e r => ev w d 407 60 [] [] (hT (e)) r) (fun l => tm_screen_40b w d hd _ _) ?_ (v2, s)
  intro e
  show Ew hT w d 407 60 [] [] e (Cv hT) _
  exact e_retv em_407 (ce_at ce_407 14 rfl)
theorem fm_screen_40 (v2 : Int) (s : iS) : Fm Prod.snd L_m_screen G_m_screen s (m_screen_40 v2 s) := by
  unfold m_screen_40
  refine fm_lp (A := Int × iS) (E := iS) (LS := fun l => l.2) (LE := fun e => e) ?_ ?_ (v2, s)
  · exact fun l => fm_screen_40b _ _
  · exact (fun e => fm_some md_refl)
noncomputable def m_screen_76 (t0 : Int) (s : iS) : Option (Int × iS) := gd (t0 = 0 ∨ t0 = 1) (lt' (up s 121 108 t0) (fun s2 => some (0, s2)))
theorem tm_screen_76 (w : ev_W) (d : Nat) (hd : 3 ≤ d) (t0 : Int) (s : iS) : Ew hT w d 407 76 [] [iv t0, .ref (tb_nK + 121)] s (Cv hT) (m_screen_76 t0 s) := by
  unfold m_screen_76
  refine e_gd fun g1 => ?_
  refine e_put 79 em_407 (ce_at ce_407 24 rfl) tq_121 rfl (fit_b rfl g1) rfl (fun s2 => ?_)
  exact e_retv em_407 (ce_at ce_407 25 rfl)
theorem fm_screen_76 (t0 : Int) (s : iS) : Fm Prod.snd L_m_screen G_m_screen s (m_screen_76 t0 s) := fm_gd (fm_lt (md_upF (mem_F rfl)) (fun s2 => fm_some md_refl))
noncomputable def m_screen (v1 : Int) (s : iS) : Option (Int × iS) := gd (rg v1) (if v1 = 0 then m_screen_40 16384 s else if v1 = 1 then gd (rg (s 188 0)) (if (s 188 0) = 0 then m_screen_76 0 s else m_screen_76 1 s) else if v1 = 2 then bd (m_isPoint (s 188 0) (s 188 1) s) (fun r7 s7 => gd (rg r7) (if r7 = 0 then bd (m_err 7 s7) (fun _ s10 => some (0, s10)) else bd (m_point (s7 188 0) (s7 188 1) s7) (fun _ s11 => some (0, s11)))) else if v1 = 3 then bd (m_line (s 188 0) (s 188 1) (s 188 2) (s 188 3) s) (fun _ s13 => some (0, s13)) else if v1 = 4 then bd (m_rectangle (s 188 0) (s 188 1) (s 188 2) (s 188 3) s) (fun _ s15 => some (0, s15)) else bd (m_circle (s 188 0) (s 188 1) (s 188 2) s) (fun _ s16 => some (0, s16)))
theorem tm_screen (w : ev_W) (d : Nat) (hd : 3 ≤ d) (v1 : Int) (s : iS) : Ew hT w d 407 0 [(0, .ref (tb_nK + 121)), (1, iv v1)] [] s (Cv hT) (m_screen v1 s) := by
  unfold m_screen
  refine e_mv 1 em_407 (ce_at ce_407 0 rfl) rfl rfl ?_
  refine e_gd fun g1 => ?_
  refine e_case 0 (fun h2 => ?_) (fun h2 => ?_)
  · refine e_sw em_407 36 (ce_at ce_407 1 rfl) (sw_in g1 (by omega) (by subst h2; rfl)) rfl ?_
    refine e_sip 39 em_407 (ce_at ce_407 2 rfl) (by decide) rfl ?_
    refine e_mv 40 em_407 (ce_at ce_407 3 rfl) rfl rfl ?_
    refine e_pk [0, 2] rfl rfl ?_
    exact tm_screen_40 w d hd _ _
  refine e_case 1 (fun h3 => ?_) (fun h3 => ?_)
  · refine e_sw em_407 61 (ce_at ce_407 1 rfl) (sw_in g1 (by omega) (by subst h3; rfl)) rfl ?_
    refine e_mv 62 em_407 (ce_at ce_407 15 rfl) rfl rfl ?_
    refine e_mv 63 em_407 (ce_at ce_407 16 rfl) rfl rfl ?_
    refine e_getr 66 em_407 (ce_at ce_407 17 rfl) tq_121 rfl rfl ?_
    refine e_op 67 em_407 (ce_at ce_407 18 rfl) rfl rfl ?_
    refine e_ild 68 em_407 (ce_at ce_407 19 rfl) tq_188 (by decide) (by decide) rfl ?_
    refine e_gd fun g4 => ?_
    refine e_ifeq 75 71 em_407 rfl rfl (ce_at ce_407 20 rfl) g4 (fun h5 => ?_) (fun h5 => ?_)
    · refine e_op 76 em_407 (ce_at ce_407 23 rfl) rfl rfl ?_
      refine e_pk [] rfl rfl ?_
      exact tm_screen_76 w d hd _ _
    · refine e_op 72 em_407 (ce_at ce_407 21 rfl) rfl rfl ?_
      refine e_goto em_407 76 (ce_at ce_407 22 rfl) rfl ?_
      refine e_pk [] rfl rfl ?_
      exact tm_screen_76 w d hd _ _
  refine e_case 2 (fun h6 => ?_) (fun h6 => ?_)
  · refine e_sw em_407 80 (ce_at ce_407 1 rfl) (sw_in g1 (by omega) (by subst h6; rfl)) rfl ?_
    refine e_mv 81 em_407 (ce_at ce_407 26 rfl) rfl rfl ?_
    refine e_getr 84 em_407 (ce_at ce_407 27 rfl) tq_121 rfl rfl ?_
    refine e_op 85 em_407 (ce_at ce_407 28 rfl) rfl rfl ?_
    refine e_ild 86 em_407 (ce_at ce_407 29 rfl) tq_188 (by decide) (by decide) rfl ?_
    refine e_mv 87 em_407 (ce_at ce_407 30 rfl) rfl rfl ?_
    refine e_getr 90 em_407 (ce_at ce_407 31 rfl) tq_121 rfl rfl ?_
    refine e_op 91 em_407 (ce_at ce_407 32 rfl) rfl rfl ?_
    refine e_ild 92 em_407 (ce_at ce_407 33 rfl) tq_188 (by decide) (by decide) rfl ?_
    refine e_ivi 95 em_407 (ce_at ce_407 34 rfl) (by omega) (iv_s2 rfl) em_408 (Nat.le_of_ble_eq_true rfl) rfl (tm_isPoint hT w (d - 1) (by omega) _ _ _) (fun r7 s7 => ?_)
    refine e_gd fun g8 => ?_
    refine e_ifeq 117 98 em_407 rfl rfl (ce_at ce_407 35 rfl) g8 (fun h9 => ?_) (fun h9 => ?_)
    · refine e_mv 118 em_407 (ce_at ce_407 47 rfl) rfl rfl ?_
      refine e_bip 120 em_407 (ce_at ce_407 48 rfl) (by decide) rfl ?_
      refine e_ivv 123 em_407 (ce_at ce_407 49 rfl) (by omega) (iv_v1 (by decide) tq_121 rfl) em_376 (Nat.le_of_ble_eq_true rfl) rfl (tm_err w (d - 1) (by omega) _ _) (fun r10 s10 => ?_)
      exact e_retv em_407 (ce_at ce_407 50 rfl)
    · refine e_mv 99 em_407 (ce_at ce_407 36 rfl) rfl rfl ?_
      refine e_mv 100 em_407 (ce_at ce_407 37 rfl) rfl rfl ?_
      refine e_getr 103 em_407 (ce_at ce_407 38 rfl) tq_121 rfl rfl ?_
      refine e_op 104 em_407 (ce_at ce_407 39 rfl) rfl rfl ?_
      refine e_ild 105 em_407 (ce_at ce_407 40 rfl) tq_188 (by decide) (by decide) rfl ?_
      refine e_mv 106 em_407 (ce_at ce_407 41 rfl) rfl rfl ?_
      refine e_getr 109 em_407 (ce_at ce_407 42 rfl) tq_121 rfl rfl ?_
      refine e_op 110 em_407 (ce_at ce_407 43 rfl) rfl rfl ?_
      refine e_ild 111 em_407 (ce_at ce_407 44 rfl) tq_188 (by decide) (by decide) rfl ?_
      refine e_ivv 114 em_407 (ce_at ce_407 45 rfl) (by omega) (iv_v2 (by decide) tq_121 rfl) em_409 (Nat.le_of_ble_eq_true rfl) rfl (tm_point w (d - 1) (by omega) _ _ _) (fun r11 s11 => ?_)
      refine e_goto em_407 123 (ce_at ce_407 46 rfl) rfl ?_
      exact e_retv em_407 (ce_at ce_407 50 rfl)
  refine e_case 3 (fun h12 => ?_) (fun h12 => ?_)
  · refine e_sw em_407 124 (ce_at ce_407 1 rfl) (sw_in g1 (by omega) (by subst h12; rfl)) rfl ?_
    refine e_mv 125 em_407 (ce_at ce_407 51 rfl) rfl rfl ?_
    refine e_mv 126 em_407 (ce_at ce_407 52 rfl) rfl rfl ?_
    refine e_getr 129 em_407 (ce_at ce_407 53 rfl) tq_121 rfl rfl ?_
    refine e_op 130 em_407 (ce_at ce_407 54 rfl) rfl rfl ?_
    refine e_ild 131 em_407 (ce_at ce_407 55 rfl) tq_188 (by decide) (by decide) rfl ?_
    refine e_mv 132 em_407 (ce_at ce_407 56 rfl) rfl rfl ?_
    refine e_getr 135 em_407 (ce_at ce_407 57 rfl) tq_121 rfl rfl ?_
    refine e_op 136 em_407 (ce_at ce_407 58 rfl) rfl rfl ?_
    refine e_ild 137 em_407 (ce_at ce_407 59 rfl) tq_188 (by decide) (by decide) rfl ?_
    refine e_mv 138 em_407 (ce_at ce_407 60 rfl) rfl rfl ?_
    refine e_getr 141 em_407 (ce_at ce_407 61 rfl) tq_121 rfl rfl ?_
    refine e_op 142 em_407 (ce_at ce_407 62 rfl) rfl rfl ?_
    refine e_ild 143 em_407 (ce_at ce_407 63 rfl) tq_188 (by decide) (by decide) rfl ?_
    refine e_mv 144 em_407 (ce_at ce_407 64 rfl) rfl rfl ?_
    refine e_getr 147 em_407 (ce_at ce_407 65 rfl) tq_121 rfl rfl ?_
    refine e_op 148 em_407 (ce_at ce_407 66 rfl) rfl rfl ?_
    refine e_ild 149 em_407 (ce_at ce_407 67 rfl) tq_188 (by decide) (by decide) rfl ?_
    refine e_ivv 152 em_407 (ce_at ce_407 68 rfl) (by omega) (iv_v4 (by decide) tq_121 rfl) em_410 (Nat.le_of_ble_eq_true rfl) rfl (tm_line w (d - 1) (by omega) _ _ _ _ _) (fun r13 s13 => ?_)
    exact e_retv em_407 (ce_at ce_407 69 rfl)
  refine e_case 4 (fun h14 => ?_) (fun h14 => ?_)
  · refine e_sw em_407 153 (ce_at ce_407 1 rfl) (sw_in g1 (by omega) (by subst h14; rfl)) rfl ?_
    refine e_mv 154 em_407 (ce_at ce_407 70 rfl) rfl rfl ?_
    refine e_mv 155 em_407 (ce_at ce_407 71 rfl) rfl rfl ?_
    refine e_getr 158 em_407 (ce_at ce_407 72 rfl) tq_121 rfl rfl ?_
    refine e_op 159 em_407 (ce_at ce_407 73 rfl) rfl rfl ?_
    refine e_ild 160 em_407 (ce_at ce_407 74 rfl) tq_188 (by decide) (by decide) rfl ?_
    refine e_mv 161 em_407 (ce_at ce_407 75 rfl) rfl rfl ?_
    refine e_getr 164 em_407 (ce_at ce_407 76 rfl) tq_121 rfl rfl ?_
    refine e_op 165 em_407 (ce_at ce_407 77 rfl) rfl rfl ?_
    refine e_ild 166 em_407 (ce_at ce_407 78 rfl) tq_188 (by decide) (by decide) rfl ?_
    refine e_mv 167 em_407 (ce_at ce_407 79 rfl) rfl rfl ?_
    refine e_getr 170 em_407 (ce_at ce_407 80 rfl) tq_121 rfl rfl ?_
    refine e_op 171 em_407 (ce_at ce_407 81 rfl) rfl rfl ?_
    refine e_ild 172 em_407 (ce_at ce_407 82 rfl) tq_188 (by decide) (by decide) rfl ?_
    refine e_mv 173 em_407 (ce_at ce_407 83 rfl) rfl rfl ?_
    refine e_getr 176 em_407 (ce_at ce_407 84 rfl) tq_121 rfl rfl ?_
    refine e_op 177 em_407 (ce_at ce_407 85 rfl) rfl rfl ?_
    refine e_ild 178 em_407 (ce_at ce_407 86 rfl) tq_188 (by decide) (by decide) rfl ?_
    refine e_ivv 181 em_407 (ce_at ce_407 87 rfl) (by omega) (iv_v4 (by decide) tq_121 rfl) em_411 (Nat.le_of_ble_eq_true rfl) rfl (tm_rectangle w (d - 1) (by omega) _ _ _ _ _) (fun r15 s15 => ?_)
    exact e_retv em_407 (ce_at ce_407 88 rfl)
  refine e_sw em_407 182 (ce_at ce_407 1 rfl) (sw_out g1 (by omega)) rfl ?_
  refine e_mv 183 em_407 (ce_at ce_407 89 rfl) rfl rfl ?_
  refine e_mv 184 em_407 (ce_at ce_407 90 rfl) rfl rfl ?_
  refine e_getr 187 em_407 (ce_at ce_407 91 rfl) tq_121 rfl rfl ?_
  refine e_op 188 em_407 (ce_at ce_407 92 rfl) rfl rfl ?_
  refine e_ild 189 em_407 (ce_at ce_407 93 rfl) tq_188 (by decide) (by decide) rfl ?_
  refine e_mv 190 em_407 (ce_at ce_407 94 rfl) rfl rfl ?_
  refine e_getr 193 em_407 (ce_at ce_407 95 rfl) tq_121 rfl rfl ?_
  refine e_op 194 em_407 (ce_at ce_407 96 rfl) rfl rfl ?_
  refine e_ild 195 em_407 (ce_at ce_407 97 rfl) tq_188 (by decide) (by decide) rfl ?_
  refine e_mv 196 em_407 (ce_at ce_407 98 rfl) rfl rfl ?_
  refine e_getr 199 em_407 (ce_at ce_407 99 rfl) tq_121 rfl rfl ?_
  refine e_op 200 em_407 (ce_at ce_407 100 rfl) rfl rfl ?_
  refine e_ild 201 em_407 (ce_at ce_407 101 rfl) tq_188 (by decide) (by decide) rfl ?_
  refine e_ivv 204 em_407 (ce_at ce_407 102 rfl) (by omega) (iv_v3 (by decide) tq_121 rfl) em_412 (Nat.le_of_ble_eq_true rfl) rfl (tm_circle w (d - 1) (by omega) _ _ _ _) (fun r16 s16 => ?_)
  exact e_retv em_407 (ce_at ce_407 103 rfl)
theorem fm_screen (v1 : Int) (s : iS) : Fm Prod.snd L_m_screen G_m_screen s (m_screen v1 s) := fm_gd (fm_if (fm_screen_40 _ _) (fm_if (fm_gd (fm_if (fm_screen_76 _ _) (fm_screen_76 _ _))) (fm_if (fm_bd (fm_sub (fm_isPoint _ _ _) (mem_sub_L rfl) (mem_sub_F rfl)) (fun r7 s7 => fm_gd (fm_if (fm_bd (fm_sub (fm_err _ _) (mem_sub_L rfl) (mem_sub_F rfl)) (fun r10 s10 => fm_some md_refl)) (fm_bd (fm_sub (fm_point _ _ _) (mem_sub_L rfl) (mem_sub_F rfl)) (fun r11 s11 => fm_some md_refl))))) (fm_if (fm_bd (fm_sub (fm_line _ _ _ _ _) (mem_sub_L rfl) (mem_sub_F rfl)) (fun r13 s13 => fm_some md_refl)) (fm_if (fm_bd (fm_sub (fm_rectangle _ _ _ _ _) (mem_sub_L rfl) (mem_sub_F rfl)) (fun r15 s15 => fm_some md_refl)) (fm_bd (fm_sub (fm_circle _ _ _ _) (mem_sub_L rfl) (mem_sub_F rfl)) (fun r16 s16 => fm_some md_refl)))))))
/-! m_systemCall -/
def L_m_systemCall : List Nat := [175, 176, 177, 187]
def G_m_systemCall : List (Nat × Nat) := [(121, 81), (121, 99), (121, 100), (121, 103), (121, 106), (121, 108)]
noncomputable def m_systemCall_89 (v2 : Int) (s : iS) : Option (Int × iS) := gd (rg v2) (if v2 = 0 then gd (rg (s 121 99)) (if (s 121 99) = (-1) then bd (m_make (s 188 0) s) (fun r5 s5 => some (r5, s5)) else some (0, s)) else some (0, s))
theorem tm_systemCall_89 (w : ev_W) (d : Nat) (hd : 6 ≤ d) (v2 : Int) (s : iS) : Ew hT w d 390 89 [(0, .ref (tb_nK + 121)), (2, iv v2)] [] s (Ci hT) (m_systemCall_89 v2 s) := by
  unfold m_systemCall_89
  refine e_mv 90 em_390 (ce_at ce_390 29 rfl) rfl rfl ?_
  refine e_gd fun g1 => ?_
  refine e_ifne 114 93 em_390 rfl rfl (ce_at ce_390 30 rfl) g1 (fun h2 => ?_) (fun h2 => ?_)
  · refine e_op 115 em_390 (ce_at ce_390 42 rfl) rfl rfl ?_
    exact e_reti em_390 (ce_at ce_390 43 rfl)
  · refine e_mv 94 em_390 (ce_at ce_390 31 rfl) rfl rfl ?_
    refine e_get 97 em_390 (ce_at ce_390 32 rfl) tq_121 rfl rfl ?_
    refine e_op 98 em_390 (ce_at ce_390 33 rfl) rfl rfl ?_
    refine e_gd fun g3 => ?_
    refine e_cmne 114 101 em_390 rfl rfl (ce_at ce_390 34 rfl) g3 (by decide) (fun h4 => ?_) (fun h4 => ?_)
    · refine e_op 115 em_390 (ce_at ce_390 42 rfl) rfl rfl ?_
      exact e_reti em_390 (ce_at ce_390 43 rfl)
    · refine e_mv 102 em_390 (ce_at ce_390 35 rfl) rfl rfl ?_
      refine e_mv 103 em_390 (ce_at ce_390 36 rfl) rfl rfl ?_
      refine e_getr 106 em_390 (ce_at ce_390 37 rfl) tq_121 rfl rfl ?_
      refine e_op 107 em_390 (ce_at ce_390 38 rfl) rfl rfl ?_
      refine e_ild 108 em_390 (ce_at ce_390 39 rfl) tq_188 (by decide) (by decide) rfl ?_
      refine e_ivi 111 em_390 (ce_at ce_390 40 rfl) (by omega) (iv_v1 (by decide) tq_121 rfl) em_375 (Nat.le_of_ble_eq_true rfl) rfl (tm_make w (d - 1) (by omega) _ _) (fun r5 s5 => ?_)
      refine e_goto em_390 115 (ce_at ce_390 41 rfl) rfl ?_
      exact e_reti em_390 (ce_at ce_390 43 rfl)
theorem fm_systemCall_89 (v2 : Int) (s : iS) : Fm Prod.snd L_m_systemCall G_m_systemCall s (m_systemCall_89 v2 s) := fm_gd (fm_if (fm_gd (fm_if (fm_bd (fm_sub (fm_make _ _) (mem_sub_L rfl) (mem_sub_F rfl)) (fun r5 s5 => fm_some md_refl)) (fm_some md_refl))) (fm_some md_refl))
noncomputable def m_systemCall_174 (v2 : Int) (s : iS) : Option (Int × iS) := gd (rg v2) (if v2 = 2 then gd (rg (s 188 0)) (if 1 ≤ (s 188 0) then some (0, s) else bd (m_err 1 s) (fun _ s5 => some (0, s5))) else some (0, s))
theorem tm_systemCall_174 (w : ev_W) (d : Nat) (hd : 6 ≤ d) (v2 : Int) (s : iS) : Ew hT w d 390 174 [(0, .ref (tb_nK + 121)), (2, iv v2)] [] s (Ci hT) (m_systemCall_174 v2 s) := by
  unfold m_systemCall_174
  refine e_mv 175 em_390 (ce_at ce_390 80 rfl) rfl rfl ?_
  refine e_op 176 em_390 (ce_at ce_390 81 rfl) rfl rfl ?_
  refine e_gd fun g1 => ?_
  refine e_cmne 194 179 em_390 rfl rfl (ce_at ce_390 82 rfl) g1 (by decide) (fun h2 => ?_) (fun h2 => ?_)
  · refine e_op 195 em_390 (ce_at ce_390 92 rfl) rfl rfl ?_
    exact e_reti em_390 (ce_at ce_390 93 rfl)
  · refine e_mv 180 em_390 (ce_at ce_390 83 rfl) rfl rfl ?_
    refine e_getr 183 em_390 (ce_at ce_390 84 rfl) tq_121 rfl rfl ?_
    refine e_op 184 em_390 (ce_at ce_390 85 rfl) rfl rfl ?_
    refine e_ild 185 em_390 (ce_at ce_390 86 rfl) tq_188 (by decide) (by decide) rfl ?_
    refine e_op 186 em_390 (ce_at ce_390 87 rfl) rfl rfl ?_
    refine e_gd fun g3 => ?_
    refine e_cmge 194 189 em_390 rfl rfl (ce_at ce_390 88 rfl) g3 (by decide) (fun h4 => ?_) (fun h4 => ?_)
    · refine e_op 195 em_390 (ce_at ce_390 92 rfl) rfl rfl ?_
      exact e_reti em_390 (ce_at ce_390 93 rfl)
    · refine e_mv 190 em_390 (ce_at ce_390 89 rfl) rfl rfl ?_
      refine e_op 191 em_390 (ce_at ce_390 90 rfl) rfl rfl ?_
      refine e_ivv 194 em_390 (ce_at ce_390 91 rfl) (by omega) (iv_v1 (by decide) tq_121 rfl) em_376 (Nat.le_of_ble_eq_true rfl) rfl (tm_err w (d - 1) (by omega) _ _) (fun r5 s5 => ?_)
      refine e_op 195 em_390 (ce_at ce_390 92 rfl) rfl rfl ?_
      exact e_reti em_390 (ce_at ce_390 93 rfl)
theorem fm_systemCall_174 (v2 : Int) (s : iS) : Fm Prod.snd L_m_systemCall G_m_systemCall s (m_systemCall_174 v2 s) := fm_gd (fm_if (fm_gd (fm_if (fm_some md_refl) (fm_bd (fm_sub (fm_err _ _) (mem_sub_L rfl) (mem_sub_F rfl)) (fun r5 s5 => fm_some md_refl)))) (fm_some md_refl))
noncomputable def m_systemCall_159 (v2 : Int) (s : iS) : Option (Int × iS) := gd (rg v2) (if v2 = 1 then bd (m_err (s 188 0) s) (fun _ s3 => m_systemCall_174 v2 s3) else m_systemCall_174 v2 s)
theorem tm_systemCall_159 (w : ev_W) (d : Nat) (hd : 6 ≤ d) (v2 : Int) (s : iS) : Ew hT w d 390 159 [(0, .ref (tb_nK + 121)), (2, iv v2)] [] s (Ci hT) (m_systemCall_159 v2 s) := by
  unfold m_systemCall_159
  refine e_mv 160 em_390 (ce_at ce_390 71 rfl) rfl rfl ?_
  refine e_op 161 em_390 (ce_at ce_390 72 rfl) rfl rfl ?_
  refine e_gd fun g1 => ?_
  refine e_cmne 174 164 em_390 rfl rfl (ce_at ce_390 73 rfl) g1 (by decide) (fun h2 => ?_) (fun h2 => ?_)
  · refine e_pk [0, 2] rfl rfl ?_
    exact tm_systemCall_174 w d hd _ _
  · refine e_mv 165 em_390 (ce_at ce_390 74 rfl) rfl rfl ?_
    refine e_mv 166 em_390 (ce_at ce_390 75 rfl) rfl rfl ?_
    refine e_getr 169 em_390 (ce_at ce_390 76 rfl) tq_121 rfl rfl ?_
    refine e_op 170 em_390 (ce_at ce_390 77 rfl) rfl rfl ?_
    refine e_ild 171 em_390 (ce_at ce_390 78 rfl) tq_188 (by decide) (by decide) rfl ?_
    refine e_ivv 174 em_390 (ce_at ce_390 79 rfl) (by omega) (iv_v1 (by decide) tq_121 rfl) em_376 (Nat.le_of_ble_eq_true rfl) rfl (tm_err w (d - 1) (by omega) _ _) (fun r3 s3 => ?_)
    refine e_pk [0, 2] rfl rfl ?_
    exact tm_systemCall_174 w d hd _ _
theorem fm_systemCall_159 (v2 : Int) (s : iS) : Fm Prod.snd L_m_systemCall G_m_systemCall s (m_systemCall_159 v2 s) := fm_gd (fm_if (fm_bd (fm_sub (fm_err _ _) (mem_sub_L rfl) (mem_sub_F rfl)) (fun r3 s3 => fm_systemCall_174 _ _)) (fm_systemCall_174 _ _))
noncomputable def m_systemCall (v1 : Int) (v2 : Int) (s : iS) : Option (Int × iS) := gd (rg v1) (if v1 = 0 then bd (m_math v2 s) (fun r3 s3 => some (r3, s3)) else if v1 = 1 then bd (m_memories v2 s) (fun r5 s5 => some (r5, s5)) else if v1 = 2 then gd (rg v2) (if v2 = 1 then bd (m_drop (s 188 0) s) (fun _ s12 => m_systemCall_89 v2 s12) else gd (rg (s 188 0)) (if 1 ≤ (s 188 0) then m_systemCall_89 v2 s else bd (m_err 2 s) (fun _ s11 => m_systemCall_89 v2 s11))) else if v1 = 3 then bd (m_strings v2 s) (fun r14 s14 => some (r14, s14)) else if v1 = 4 then bd (m_outputs v2 s) (fun _ s16 => some (0, s16)) else if v1 = 5 then bd (m_keyboard v2 s) (fun r18 s18 => some (r18, s18)) else if v1 = 6 then bd (m_screen v2 s) (fun _ s20 => some (0, s20)) else gd (rg v2) (if v2 = 0 then gd (rg (s 121 99)) (if (s 121 99) = (-1) then lt' (up s 121 99 0) (fun s25 => m_systemCall_159 v2 s25) else m_systemCall_159 v2 s) else m_systemCall_159 v2 s))
theorem tm_systemCall (w : ev_W) (d : Nat) (hd : 6 ≤ d) (v1 : Int) (v2 : Int) (s : iS) : Ew hT w d 390 0 [(0, .ref (tb_nK + 121)), (1, iv v1), (2, iv v2)] [] s (Ci hT) (m_systemCall v1 v2 s) := by
  unfold m_systemCall
  refine e_mv 1 em_390 (ce_at ce_390 0 rfl) rfl rfl ?_
  refine e_gd fun g1 => ?_
  refine e_case 0 (fun h2 => ?_) (fun h2 => ?_)
  · refine e_sw em_390 44 (ce_at ce_390 1 rfl) (sw_in g1 (by omega) (by subst h2; rfl)) rfl ?_
    refine e_mv 45 em_390 (ce_at ce_390 2 rfl) rfl rfl ?_
    refine e_mv 46 em_390 (ce_at ce_390 3 rfl) rfl rfl ?_
    refine e_ivi 49 em_390 (ce_at ce_390 4 rfl) (by omega) (iv_v1 (by decide) tq_121 rfl) em_391 (Nat.le_of_ble_eq_true rfl) rfl (tm_math w (d - 1) (by omega) _ _) (fun r3 s3 => ?_)
    exact e_reti em_390 (ce_at ce_390 5 rfl)
  refine e_case 1 (fun h4 => ?_) (fun h4 => ?_)
  · refine e_sw em_390 50 (ce_at ce_390 1 rfl) (sw_in g1 (by omega) (by subst h4; rfl)) rfl ?_
    refine e_mv 51 em_390 (ce_at ce_390 6 rfl) rfl rfl ?_
    refine e_mv 52 em_390 (ce_at ce_390 7 rfl) rfl rfl ?_
    refine e_ivi 55 em_390 (ce_at ce_390 8 rfl) (by omega) (iv_v1 (by decide) tq_121 rfl) em_393 (Nat.le_of_ble_eq_true rfl) rfl (tm_memories w (d - 1) (by omega) _ _) (fun r5 s5 => ?_)
    exact e_reti em_390 (ce_at ce_390 9 rfl)
  refine e_case 2 (fun h6 => ?_) (fun h6 => ?_)
  · refine e_sw em_390 56 (ce_at ce_390 1 rfl) (sw_in g1 (by omega) (by subst h6; rfl)) rfl ?_
    refine e_mv 57 em_390 (ce_at ce_390 10 rfl) rfl rfl ?_
    refine e_op 58 em_390 (ce_at ce_390 11 rfl) rfl rfl ?_
    refine e_gd fun g7 => ?_
    refine e_cmne 74 61 em_390 rfl rfl (ce_at ce_390 12 rfl) g7 (by decide) (fun h8 => ?_) (fun h8 => ?_)
    · refine e_mv 75 em_390 (ce_at ce_390 20 rfl) rfl rfl ?_
      refine e_getr 78 em_390 (ce_at ce_390 21 rfl) tq_121 rfl rfl ?_
      refine e_op 79 em_390 (ce_at ce_390 22 rfl) rfl rfl ?_
      refine e_ild 80 em_390 (ce_at ce_390 23 rfl) tq_188 (by decide) (by decide) rfl ?_
      refine e_op 81 em_390 (ce_at ce_390 24 rfl) rfl rfl ?_
      refine e_gd fun g9 => ?_
      refine e_cmge 89 84 em_390 rfl rfl (ce_at ce_390 25 rfl) g9 (by decide) (fun h10 => ?_) (fun h10 => ?_)
      · refine e_pk [0, 2] rfl rfl ?_
        exact tm_systemCall_89 w d hd _ _
      · refine e_mv 85 em_390 (ce_at ce_390 26 rfl) rfl rfl ?_
        refine e_op 86 em_390 (ce_at ce_390 27 rfl) rfl rfl ?_
        refine e_ivv 89 em_390 (ce_at ce_390 28 rfl) (by omega) (iv_v1 (by decide) tq_121 rfl) em_376 (Nat.le_of_ble_eq_true rfl) rfl (tm_err w (d - 1) (by omega) _ _) (fun r11 s11 => ?_)
        refine e_pk [0, 2] rfl rfl ?_
        exact tm_systemCall_89 w d hd _ _
    · refine e_mv 62 em_390 (ce_at ce_390 13 rfl) rfl rfl ?_
      refine e_mv 63 em_390 (ce_at ce_390 14 rfl) rfl rfl ?_
      refine e_getr 66 em_390 (ce_at ce_390 15 rfl) tq_121 rfl rfl ?_
      refine e_op 67 em_390 (ce_at ce_390 16 rfl) rfl rfl ?_
      refine e_ild 68 em_390 (ce_at ce_390 17 rfl) tq_188 (by decide) (by decide) rfl ?_
      refine e_ivv 71 em_390 (ce_at ce_390 18 rfl) (by omega) (iv_v1 (by decide) tq_121 rfl) em_394 (Nat.le_of_ble_eq_true rfl) rfl (tm_drop w (d - 1) (by omega) _ _) (fun r12 s12 => ?_)
      refine e_goto em_390 89 (ce_at ce_390 19 rfl) rfl ?_
      refine e_pk [0, 2] rfl rfl ?_
      exact tm_systemCall_89 w d hd _ _
  refine e_case 3 (fun h13 => ?_) (fun h13 => ?_)
  · refine e_sw em_390 116 (ce_at ce_390 1 rfl) (sw_in g1 (by omega) (by subst h13; rfl)) rfl ?_
    refine e_mv 117 em_390 (ce_at ce_390 44 rfl) rfl rfl ?_
    refine e_mv 118 em_390 (ce_at ce_390 45 rfl) rfl rfl ?_
    refine e_ivi 121 em_390 (ce_at ce_390 46 rfl) (by omega) (iv_v1 (by decide) tq_121 rfl) em_395 (Nat.le_of_ble_eq_true rfl) rfl (tm_strings w (d - 1) (by omega) _ _) (fun r14 s14 => ?_)
    exact e_reti em_390 (ce_at ce_390 47 rfl)
  refine e_case 4 (fun h15 => ?_) (fun h15 => ?_)
  · refine e_sw em_390 122 (ce_at ce_390 1 rfl) (sw_in g1 (by omega) (by subst h15; rfl)) rfl ?_
    refine e_mv 123 em_390 (ce_at ce_390 48 rfl) rfl rfl ?_
    refine e_mv 124 em_390 (ce_at ce_390 49 rfl) rfl rfl ?_
    refine e_ivv 127 em_390 (ce_at ce_390 50 rfl) (by omega) (iv_v1 (by decide) tq_121 rfl) em_401 (Nat.le_of_ble_eq_true rfl) rfl (tm_outputs w (d - 1) (by omega) _ _) (fun r16 s16 => ?_)
    refine e_op 128 em_390 (ce_at ce_390 51 rfl) rfl rfl ?_
    exact e_reti em_390 (ce_at ce_390 52 rfl)
  refine e_case 5 (fun h17 => ?_) (fun h17 => ?_)
  · refine e_sw em_390 129 (ce_at ce_390 1 rfl) (sw_in g1 (by omega) (by subst h17; rfl)) rfl ?_
    refine e_mv 130 em_390 (ce_at ce_390 53 rfl) rfl rfl ?_
    refine e_mv 131 em_390 (ce_at ce_390 54 rfl) rfl rfl ?_
    refine e_ivi 134 em_390 (ce_at ce_390 55 rfl) (by omega) (iv_v1 (by decide) tq_121 rfl) em_405 (Nat.le_of_ble_eq_true rfl) rfl (tm_keyboard w (d - 1) (by omega) _ _) (fun r18 s18 => ?_)
    exact e_reti em_390 (ce_at ce_390 56 rfl)
  refine e_case 6 (fun h19 => ?_) (fun h19 => ?_)
  · refine e_sw em_390 135 (ce_at ce_390 1 rfl) (sw_in g1 (by omega) (by subst h19; rfl)) rfl ?_
    refine e_mv 136 em_390 (ce_at ce_390 57 rfl) rfl rfl ?_
    refine e_mv 137 em_390 (ce_at ce_390 58 rfl) rfl rfl ?_
    refine e_ivv 140 em_390 (ce_at ce_390 59 rfl) (by omega) (iv_v1 (by decide) tq_121 rfl) em_407 (Nat.le_of_ble_eq_true rfl) rfl (tm_screen w (d - 1) (by omega) _ _) (fun r20 s20 => ?_)
    refine e_op 141 em_390 (ce_at ce_390 60 rfl) rfl rfl ?_
    exact e_reti em_390 (ce_at ce_390 61 rfl)
  refine e_sw em_390 142 (ce_at ce_390 1 rfl) (sw_out g1 (by omega)) rfl ?_
  refine e_mv 143 em_390 (ce_at ce_390 62 rfl) rfl rfl ?_
  refine e_gd fun g21 => ?_
  refine e_ifne 159 146 em_390 rfl rfl (ce_at ce_390 63 rfl) g21 (fun h22 => ?_) (fun h22 => ?_)
  · refine e_pk [0, 2] rfl rfl ?_
    exact tm_systemCall_159 w d hd _ _
  · refine e_mv 147 em_390 (ce_at ce_390 64 rfl) rfl rfl ?_
    refine e_get 150 em_390 (ce_at ce_390 65 rfl) tq_121 rfl rfl ?_
    refine e_op 151 em_390 (ce_at ce_390 66 rfl) rfl rfl ?_
    refine e_gd fun g23 => ?_
    refine e_cmne 159 154 em_390 rfl rfl (ce_at ce_390 67 rfl) g23 (by decide) (fun h24 => ?_) (fun h24 => ?_)
    · refine e_pk [0, 2] rfl rfl ?_
      exact tm_systemCall_159 w d hd _ _
    · refine e_mv 155 em_390 (ce_at ce_390 68 rfl) rfl rfl ?_
      refine e_op 156 em_390 (ce_at ce_390 69 rfl) rfl rfl ?_
      refine e_put 159 em_390 (ce_at ce_390 70 rfl) tq_121 rfl rfl rfl (fun s25 => ?_)
      refine e_pk [0, 2] rfl rfl ?_
      exact tm_systemCall_159 w d hd _ _
theorem fm_systemCall (v1 : Int) (v2 : Int) (s : iS) : Fm Prod.snd L_m_systemCall G_m_systemCall s (m_systemCall v1 v2 s) := fm_gd (fm_if (fm_bd (fm_sub (fm_math _ _) (mem_sub_L rfl) (mem_sub_F rfl)) (fun r3 s3 => fm_some md_refl)) (fm_if (fm_bd (fm_sub (fm_memories _ _) (mem_sub_L rfl) (mem_sub_F rfl)) (fun r5 s5 => fm_some md_refl)) (fm_if (fm_gd (fm_if (fm_bd (fm_sub (fm_drop _ _) (mem_sub_L rfl) (mem_sub_F rfl)) (fun r12 s12 => fm_systemCall_89 _ _)) (fm_gd (fm_if (fm_systemCall_89 _ _) (fm_bd (fm_sub (fm_err _ _) (mem_sub_L rfl) (mem_sub_F rfl)) (fun r11 s11 => fm_systemCall_89 _ _)))))) (fm_if (fm_bd (fm_sub (fm_strings _ _) (mem_sub_L rfl) (mem_sub_F rfl)) (fun r14 s14 => fm_some md_refl)) (fm_if (fm_bd (fm_sub (fm_outputs _ _) (mem_sub_L rfl) (mem_sub_F rfl)) (fun r16 s16 => fm_some md_refl)) (fm_if (fm_bd (fm_sub (fm_keyboard _ _) (mem_sub_L rfl) (mem_sub_F rfl)) (fun r18 s18 => fm_some md_refl)) (fm_if (fm_bd (fm_sub (fm_screen _ _) (mem_sub_L rfl) (mem_sub_F rfl)) (fun r20 s20 => fm_some md_refl)) (fm_gd (fm_if (fm_gd (fm_if (fm_lt (md_upF (mem_F rfl)) (fun s25 => fm_systemCall_159 _ _)) (fm_systemCall_159 _ _))) (fm_systemCall_159 _ _))))))))))
/-! m_callItem -/
def L_m_callItem : List Nat := [175, 176, 177, 179, 180, 181, 182, 183, 184, 187, 188]
def G_m_callItem : List (Nat × Nat) := [(121, 81), (121, 87), (121, 88), (121, 89), (121, 96), (121, 98), (121, 99), (121, 100), (121, 103), (121, 106), (121, 108)]
def m_callItem_55C (w : ev_W) (d : Nat) (v2 : Int) (v3 : Int) : (Int × iS) ⊕ (iS) → am_E → Prop := fun q r => q.elim (fun l => ev w d 389 55 ((fun l => [(0, .ref (tb_nK + 121)), (2, iv v2), (3, iv v3), (5, iv (l.1))]) l) [] (hT ((fun l => l.2) l)) r) (fun e => (fun e r => ev w d 389 77 [(0, .ref (tb_nK + 121)), (2, iv v2), (3, iv v3)] [] (hT (e)) r) e r)
noncomputable def m_callItem_55b (v2 : Int) (v3 : Int) (v5 : Int) (s : iS) : Option ((Int × iS) ⊕ (iS)) := gd (rg v5) (if v5 < 0 then some (.inr s) else bd (m_pop s) (fun r3 s3 => gd (0 ≤ v5 ∧ v5 < 8) (lt' (up s3 188 v5.toNat r3) (fun s5 => some (.inl ((v5 + (-1)), s5))))))
theorem tm_callItem_55b (w : ev_W) (d : Nat) (hd : 7 ≤ d) (v2 : Int) (v3 : Int) (v5 : Int) (s : iS) : Ew hT w d 389 55 [(0, .ref (tb_nK + 121)), (2, iv v2), (3, iv v3), (5, iv v5)] [] s (m_callItem_55C w d v2 v3) (m_callItem_55b v2 v3 v5 s) := by
  unfold m_callItem_55b
  refine e_mv 57 em_389 (ce_at ce_389 35 rfl) rfl rfl ?_
  refine e_gd fun g1 => ?_
  refine e_iflt 77 60 em_389 rfl rfl (ce_at ce_389 36 rfl) g1 (fun h2 => ?_) (fun h2 => ?_)
  · refine e_pk [0, 2, 3] rfl rfl ?_
    exact e_out (fun r h => h)
  · refine e_mv 61 em_389 (ce_at ce_389 37 rfl) rfl rfl ?_
    refine e_getr 64 em_389 (ce_at ce_389 38 rfl) tq_121 rfl rfl ?_
    refine e_mv 66 em_389 (ce_at ce_389 39 rfl) rfl rfl ?_
    refine e_mv 67 em_389 (ce_at ce_389 40 rfl) rfl rfl ?_
    refine e_ivi 70 em_389 (ce_at ce_389 41 rfl) (by omega) (iv_v0 (by decide) tq_121 rfl) em_374 (Nat.le_of_ble_eq_true rfl) rfl (tm_pop w (d - 1) (by omega) _) (fun r3 s3 => ?_)
    refine e_gd fun g4 => ?_
    refine e_ist 71 em_389 (ce_at ce_389 42 rfl) tq_188 (by decide) g4 rfl (fun s5 => ?_)
    refine e_iinc 74 em_389 (ce_at ce_389 43 rfl) rfl (by decide) rfl ?_
    refine e_goto em_389 55 (ce_at ce_389 44 rfl) rfl ?_
    refine e_pk [0, 2, 3, 5] rfl rfl ?_
    exact e_out (fun r h => h)
theorem fm_callItem_55b (v2 : Int) (v3 : Int) (v5 : Int) (s : iS) : Fm (fun r : (Int × iS) ⊕ (iS) => r.elim (fun l => l.2) (fun e => e)) L_m_callItem G_m_callItem s (m_callItem_55b v2 v3 v5 s) := fm_gd (fm_if (fm_some md_refl) (fm_bd (fm_sub (fm_pop _) (mem_sub_L rfl) (mem_sub_F rfl)) (fun r3 s3 => fm_gd (fm_lt (md_upL (mem_L rfl)) (fun s5 => fm_some md_refl)))))
noncomputable def m_callItem_77 (v2 : Int) (v3 : Int) (s : iS) : Option (Int × iS) := gd (0 ≤ v2 ∧ v2 < 9) (bd (m_systemCall v2 (v3 - (s 164 v2.toNat)) s) (fun r2 s2 => bd (m_put r2 s2) (fun _ s3 => some (0, s3))))
theorem tm_callItem_77 (w : ev_W) (d : Nat) (hd : 7 ≤ d) (v2 : Int) (v3 : Int) (s : iS) : Ew hT w d 389 77 [(0, .ref (tb_nK + 121)), (2, iv v2), (3, iv v3)] [] s (Cv hT) (m_callItem_77 v2 v3 s) := by
  unfold m_callItem_77
  refine e_mv 78 em_389 (ce_at ce_389 45 rfl) rfl rfl ?_
  refine e_mv 79 em_389 (ce_at ce_389 46 rfl) rfl rfl ?_
  refine e_mv 80 em_389 (ce_at ce_389 47 rfl) rfl rfl ?_
  refine e_mv 81 em_389 (ce_at ce_389 48 rfl) rfl rfl ?_
  refine e_mv 82 em_389 (ce_at ce_389 49 rfl) rfl rfl ?_
  refine e_getr 85 em_389 (ce_at ce_389 50 rfl) tq_121 rfl rfl ?_
  refine e_mv 86 em_389 (ce_at ce_389 51 rfl) rfl rfl ?_
  refine e_gd fun g1 => ?_
  refine e_ild 87 em_389 (ce_at ce_389 52 rfl) tq_164 (by decide) g1 rfl ?_
  refine e_isub 88 em_389 rfl (ce_at ce_389 53 rfl) ?_
  refine e_ivi 91 em_389 (ce_at ce_389 54 rfl) (by omega) (iv_v2 (by decide) tq_121 rfl) em_390 (Nat.le_of_ble_eq_true rfl) rfl (tm_systemCall w (d - 1) (by omega) _ _ _) (fun r2 s2 => ?_)
  refine e_ivv 94 em_389 (ce_at ce_389 55 rfl) (by omega) (iv_v1 (by decide) tq_121 rfl) em_379 (Nat.le_of_ble_eq_true rfl) rfl (tm_put w (d - 1) (by omega) _ _) (fun r3 s3 => ?_)
  exact e_retv em_389 (ce_at ce_389 56 rfl)
theorem fm_callItem_77 (v2 : Int) (v3 : Int) (s : iS) : Fm Prod.snd L_m_callItem G_m_callItem s (m_callItem_77 v2 v3 s) := fm_gd (fm_bd (fm_sub (fm_systemCall _ _ _) (mem_sub_L rfl) (mem_sub_F rfl)) (fun r2 s2 => fm_bd (fm_sub (fm_put _ _) (mem_sub_L rfl) (mem_sub_F rfl)) (fun r3 s3 => fm_some md_refl)))
noncomputable def m_callItem_55 (v2 : Int) (v3 : Int) (v5 : Int) (s : iS) : Option (Int × iS) := (lp (L := Int × iS) (E := iS) (fun l => m_callItem_55b v2 v3 (l.1) (l.2)) (v5, s)).bind (fun e => m_callItem_77 v2 v3 e)
theorem tm_callItem_55 (w : ev_W) (d : Nat) (hd : 7 ≤ d) (v2 : Int) (v3 : Int) (v5 : Int) (s : iS) : Ew hT w d 389 55 [(0, .ref (tb_nK + 121)), (2, iv v2), (3, iv v3), (5, iv v5)] [] s (Cv hT) (m_callItem_55 v2 v3 v5 s) := by
  unfold m_callItem_55
  refine e_lp (L := Int × iS) (E := iS) (LO := fun l => [(0, .ref (tb_nK + 121)), (2, iv v2), (3, iv v3), (5, iv (l.1))]) (LS := fun l => l.2) (CE := fun e r => ev w d 389 77 [(0, .ref (tb_nK + 121)), (2, iv v2), (3, iv v3)] [] (hT (e)) r) (fun l => tm_callItem_55b w d hd _ _ _ _) ?_ (v5, s)
  intro e
  show Ew hT w d 389 77 [(0, .ref (tb_nK + 121)), (2, iv v2), (3, iv v3)] [] e (Cv hT) _
  refine e_pk [0, 2, 3] rfl rfl ?_
  exact tm_callItem_77 w d hd _ _ _
theorem fm_callItem_55 (v2 : Int) (v3 : Int) (v5 : Int) (s : iS) : Fm Prod.snd L_m_callItem G_m_callItem s (m_callItem_55 v2 v3 v5 s) := by
  unfold m_callItem_55
  refine fm_lp (A := Int × iS) (E := iS) (LS := fun l => l.2) (LE := fun e => e) ?_ ?_ (v5, s)
  · exact fun l => fm_callItem_55b _ _ _ _
  · exact (fun e => fm_callItem_77 _ _ _)
noncomputable def m_callItem_46 (v2 : Int) (v3 : Int) (t0 : Int) (t1 : Int) (s : iS) : Option (Int × iS) := m_callItem_55 v2 v3 ((t1 + t0) - 1) s
theorem tm_callItem_46 (w : ev_W) (d : Nat) (hd : 7 ≤ d) (v2 : Int) (v3 : Int) (t0 : Int) (t1 : Int) (s : iS) : Ew hT w d 389 46 [(0, .ref (tb_nK + 121)), (2, iv v2), (3, iv v3)] [iv t0, iv t1] s (Cv hT) (m_callItem_46 v2 v3 t0 t1 s) := by
  unfold m_callItem_46
  refine e_iadd 47 em_389 rfl (ce_at ce_389 29 rfl) ?_
  refine e_mv 49 em_389 (ce_at ce_389 30 rfl) rfl rfl ?_
  refine e_mv 51 em_389 (ce_at ce_389 31 rfl) rfl rfl ?_
  refine e_op 52 em_389 (ce_at ce_389 32 rfl) rfl rfl ?_
  refine e_isub 53 em_389 rfl (ce_at ce_389 33 rfl) ?_
  refine e_mv 55 em_389 (ce_at ce_389 34 rfl) rfl rfl ?_
  refine e_pk [0, 2, 3, 5] rfl rfl ?_
  exact tm_callItem_55 w d hd _ _ _ _
theorem fm_callItem_46 (v2 : Int) (v3 : Int) (t0 : Int) (t1 : Int) (s : iS) : Fm Prod.snd L_m_callItem G_m_callItem s (m_callItem_46 v2 v3 t0 t1 s) := fm_callItem_55 _ _ _ _
noncomputable def m_callItem (v1 : Int) (s : iS) : Option (Int × iS) := gd (0 ≤ v1 ∧ v1 < 1000) (gd (rg (s 154 v1.toNat)) (if (s 154 v1.toNat) < 8 then gd (rg (s 152 v1.toNat)) (if (s 152 v1.toNat) ≤ 0 then m_callItem_46 (s 154 v1.toNat) (s 155 v1.toNat) 0 (s 151 v1.toNat) s else m_callItem_46 (s 154 v1.toNat) (s 155 v1.toNat) 1 (s 151 v1.toNat) s) else bd (m_enter (s 155 v1.toNat) s) (fun _ s6 => some (0, s6))))
theorem tm_callItem (w : ev_W) (d : Nat) (hd : 7 ≤ d) (v1 : Int) (s : iS) : Ew hT w d 389 0 [(0, .ref (tb_nK + 121)), (1, iv v1)] [] s (Cv hT) (m_callItem v1 s) := by
  unfold m_callItem
  refine e_mv 1 em_389 (ce_at ce_389 0 rfl) rfl rfl ?_
  refine e_getr 4 em_389 (ce_at ce_389 1 rfl) tq_121 rfl rfl ?_
  refine e_mv 5 em_389 (ce_at ce_389 2 rfl) rfl rfl ?_
  refine e_gd fun g1 => ?_
  refine e_ild 6 em_389 (ce_at ce_389 3 rfl) tq_154 (by decide) g1 rfl ?_
  refine e_mv 7 em_389 (ce_at ce_389 4 rfl) rfl rfl ?_
  refine e_mv 8 em_389 (ce_at ce_389 5 rfl) rfl rfl ?_
  refine e_getr 11 em_389 (ce_at ce_389 6 rfl) tq_121 rfl rfl ?_
  refine e_mv 12 em_389 (ce_at ce_389 7 rfl) rfl rfl ?_
  refine e_ild 13 em_389 (ce_at ce_389 8 rfl) tq_155 (by decide) g1 rfl ?_
  refine e_mv 14 em_389 (ce_at ce_389 9 rfl) rfl rfl ?_
  refine e_mv 15 em_389 (ce_at ce_389 10 rfl) rfl rfl ?_
  refine e_bip 17 em_389 (ce_at ce_389 11 rfl) (by decide) rfl ?_
  refine e_gd fun g2 => ?_
  refine e_cmlt 26 20 em_389 rfl rfl (ce_at ce_389 12 rfl) g2 (by decide) (fun h3 => ?_) (fun h3 => ?_)
  · refine e_mv 27 em_389 (ce_at ce_389 17 rfl) rfl rfl ?_
    refine e_getr 30 em_389 (ce_at ce_389 18 rfl) tq_121 rfl rfl ?_
    refine e_mv 31 em_389 (ce_at ce_389 19 rfl) rfl rfl ?_
    refine e_ild 32 em_389 (ce_at ce_389 20 rfl) tq_151 (by decide) g1 rfl ?_
    refine e_mv 33 em_389 (ce_at ce_389 21 rfl) rfl rfl ?_
    refine e_getr 36 em_389 (ce_at ce_389 22 rfl) tq_121 rfl rfl ?_
    refine e_mv 37 em_389 (ce_at ce_389 23 rfl) rfl rfl ?_
    refine e_ild 38 em_389 (ce_at ce_389 24 rfl) tq_152 (by decide) g1 rfl ?_
    refine e_gd fun g4 => ?_
    refine e_ifle 45 41 em_389 rfl rfl (ce_at ce_389 25 rfl) g4 (fun h5 => ?_) (fun h5 => ?_)
    · refine e_op 46 em_389 (ce_at ce_389 28 rfl) rfl rfl ?_
      refine e_pk [0, 2, 3] rfl rfl ?_
      exact tm_callItem_46 w d hd _ _ _ _ _
    · refine e_op 42 em_389 (ce_at ce_389 26 rfl) rfl rfl ?_
      refine e_goto em_389 46 (ce_at ce_389 27 rfl) rfl ?_
      refine e_pk [0, 2, 3] rfl rfl ?_
      exact tm_callItem_46 w d hd _ _ _ _ _
  · refine e_mv 21 em_389 (ce_at ce_389 13 rfl) rfl rfl ?_
    refine e_mv 22 em_389 (ce_at ce_389 14 rfl) rfl rfl ?_
    refine e_ivv 25 em_389 (ce_at ce_389 15 rfl) (by omega) (iv_v1 (by decide) tq_121 rfl) em_372 (Nat.le_of_ble_eq_true rfl) rfl (tm_enter w (d - 1) (by omega) _ _) (fun r6 s6 => ?_)
    exact e_retv em_389 (ce_at ce_389 16 rfl)
theorem fm_callItem (v1 : Int) (s : iS) : Fm Prod.snd L_m_callItem G_m_callItem s (m_callItem v1 s) := fm_gd (fm_gd (fm_if (fm_gd (fm_if (fm_callItem_46 _ _ _ _ _) (fm_callItem_46 _ _ _ _ _))) (fm_bd (fm_sub (fm_enter _ _) (mem_sub_L rfl) (mem_sub_F rfl)) (fun r6 s6 => fm_some md_refl))))
/-! m_doItem -/
def L_m_doItem : List Nat := [175, 176, 177, 178, 179, 180, 181, 182, 183, 184, 185, 187, 188]
def G_m_doItem : List (Nat × Nat) := [(121, 4), (121, 81), (121, 87), (121, 88), (121, 89), (121, 95), (121, 96), (121, 98), (121, 99), (121, 100), (121, 103), (121, 106), (121, 108)]
noncomputable def m_doItem_228 (v1 : Int) (s : iS) : Option (Int × iS) := gd (0 ≤ v1 ∧ v1 < 5000) (gd (0 ≤ (s 145 v1.toNat) ∧ (s 145 v1.toNat) < 1000) (gd (rg (s 152 (s 145 v1.toNat).toNat)) (if (s 152 (s 145 v1.toNat).toNat) = 2 then gd (0 ≤ ((s 121 88) - 1) ∧ ((s 121 88) - 1) < 41) (bd (m_put (s 183 ((s 121 88) - 1).toNat) s) (fun _ s6 => some (0, s6))) else some (0, s))))
theorem tm_doItem_228 (w : ev_W) (d : Nat) (hd : 8 ≤ d) (v1 : Int) (s : iS) : Ew hT w d 378 228 [(0, .ref (tb_nK + 121)), (1, iv v1)] [] s (Cv hT) (m_doItem_228 v1 s) := by
  unfold m_doItem_228
  refine e_mv 229 em_378 (ce_at ce_378 104 rfl) rfl rfl ?_
  refine e_getr 232 em_378 (ce_at ce_378 105 rfl) tq_121 rfl rfl ?_
  refine e_mv 233 em_378 (ce_at ce_378 106 rfl) rfl rfl ?_
  refine e_getr 236 em_378 (ce_at ce_378 107 rfl) tq_121 rfl rfl ?_
  refine e_mv 237 em_378 (ce_at ce_378 108 rfl) rfl rfl ?_
  refine e_gd fun g1 => ?_
  refine e_ild 238 em_378 (ce_at ce_378 109 rfl) tq_145 (by decide) g1 rfl ?_
  refine e_gd fun g2 => ?_
  refine e_ild 239 em_378 (ce_at ce_378 110 rfl) tq_152 (by decide) g2 rfl ?_
  refine e_op 240 em_378 (ce_at ce_378 111 rfl) rfl rfl ?_
  refine e_gd fun g3 => ?_
  refine e_cmne 258 243 em_378 rfl rfl (ce_at ce_378 112 rfl) g3 (by decide) (fun h4 => ?_) (fun h4 => ?_)
  · exact e_retv em_378 (ce_at ce_378 122 rfl)
  · refine e_mv 244 em_378 (ce_at ce_378 113 rfl) rfl rfl ?_
    refine e_mv 245 em_378 (ce_at ce_378 114 rfl) rfl rfl ?_
    refine e_getr 248 em_378 (ce_at ce_378 115 rfl) tq_121 rfl rfl ?_
    refine e_mv 249 em_378 (ce_at ce_378 116 rfl) rfl rfl ?_
    refine e_get 252 em_378 (ce_at ce_378 117 rfl) tq_121 rfl rfl ?_
    refine e_op 253 em_378 (ce_at ce_378 118 rfl) rfl rfl ?_
    refine e_isub 254 em_378 rfl (ce_at ce_378 119 rfl) ?_
    refine e_gd fun g5 => ?_
    refine e_ild 255 em_378 (ce_at ce_378 120 rfl) tq_183 (by decide) g5 rfl ?_
    refine e_ivv 258 em_378 (ce_at ce_378 121 rfl) (by omega) (iv_v1 (by decide) tq_121 rfl) em_379 (Nat.le_of_ble_eq_true rfl) rfl (tm_put w (d - 1) (by omega) _ _) (fun r6 s6 => ?_)
    exact e_retv em_378 (ce_at ce_378 122 rfl)
theorem fm_doItem_228 (v1 : Int) (s : iS) : Fm Prod.snd L_m_doItem G_m_doItem s (m_doItem_228 v1 s) := fm_gd (fm_gd (fm_gd (fm_if (fm_gd (fm_bd (fm_sub (fm_put _ _) (mem_sub_L rfl) (mem_sub_F rfl)) (fun r6 s6 => fm_some md_refl))) (fm_some md_refl))))
noncomputable def m_doItem (s : iS) : Option (Int × iS) := lt' (up s 121 98 ((s 121 98) + 1)) (fun s1 => gd (0 ≤ (s 121 98) ∧ (s 121 98) < 5000) (gd (rg (s1 144 (s 121 98).toNat)) (if (s1 144 (s 121 98).toNat) = 0 then bd (m_put (s1 145 (s 121 98).toNat) s1) (fun _ s5 => some (0, s5)) else if (s1 144 (s 121 98).toNat) = 1 then bd (m_stringItem (s 121 98) s1) (fun _ s7 => some (0, s7)) else if (s1 144 (s 121 98).toNat) = 2 then bd (m_doStatementItem (s 121 98) s1) (fun _ s9 => some (0, s9)) else if (s1 144 (s 121 98).toNat) = 3 then gd (0 ≤ ((s1 121 88) - 1) ∧ ((s1 121 88) - 1) < 41) (bd (m_put (s1 183 ((s1 121 88) - 1).toNat) s1) (fun _ s12 => some (0, s12))) else if (s1 144 (s 121 98).toNat) = 4 then bd (m_variable (s1 145 (s 121 98).toNat) s1) (fun r14 s14 => bd (m_put r14 s14) (fun _ s15 => some (0, s15))) else if (s1 144 (s 121 98).toNat) = 5 then bd (m_pop s1) (fun r17 s17 => bd (m_pop s17) (fun r18 s18 => bd (m_read (r18 + r17) s18) (fun r19 s19 => bd (m_put r19 s19) (fun _ s20 => some (0, s20))))) else if (s1 144 (s 121 98).toNat) = 6 then bd (m_pop s1) (fun r22 s22 => bd (m_pop s22) (fun r23 s23 => bd (m_sign (s22 145 (s 121 98).toNat) r23 r22 s23) (fun r24 s24 => bd (m_put r24 s24) (fun _ s25 => some (0, s25))))) else if (s1 144 (s 121 98).toNat) = 7 then bd (m_pop s1) (fun r27 s27 => bd (m_put (-r27) s27) (fun _ s28 => some (0, s28))) else if (s1 144 (s 121 98).toNat) = 8 then bd (m_pop s1) (fun r30 s30 => bd (m_put (i_xor r30 (-1)) s30) (fun _ s31 => some (0, s31))) else if (s1 144 (s 121 98).toNat) = 9 then gd (0 ≤ (s1 145 (s 121 98).toNat) ∧ (s1 145 (s 121 98).toNat) < 1000) (gd (rg (s1 152 (s1 145 (s 121 98).toNat).toNat)) (if (s1 152 (s1 145 (s 121 98).toNat).toNat) = 1 then bd (m_variable (s1 153 (s1 145 (s 121 98).toNat).toNat) s1) (fun r36 s36 => bd (m_put r36 s36) (fun _ s37 => m_doItem_228 (s 121 98) s37)) else m_doItem_228 (s 121 98) s1)) else if (s1 144 (s 121 98).toNat) = 10 then bd (m_callItem (s1 145 (s 121 98).toNat) s1) (fun _ s39 => some (0, s39)) else bd (m_doStatementItem (s 121 98) s1) (fun _ s40 => some (0, s40)))))
theorem tm_doItem (w : ev_W) (d : Nat) (hd : 8 ≤ d) (s : iS) : Ew hT w d 378 0 [(0, .ref (tb_nK + 121))] [] s (Cv hT) (m_doItem s) := by
  unfold m_doItem
  refine e_mv 1 em_378 (ce_at ce_378 0 rfl) rfl rfl ?_
  refine e_get 4 em_378 (ce_at ce_378 1 rfl) tq_121 rfl rfl ?_
  refine e_mv 5 em_378 (ce_at ce_378 2 rfl) rfl rfl ?_
  refine e_mv 6 em_378 (ce_at ce_378 3 rfl) rfl rfl ?_
  refine e_mv 7 em_378 (ce_at ce_378 4 rfl) rfl rfl ?_
  refine e_get 10 em_378 (ce_at ce_378 5 rfl) tq_121 rfl rfl ?_
  refine e_op 11 em_378 (ce_at ce_378 6 rfl) rfl rfl ?_
  refine e_iadd 12 em_378 rfl (ce_at ce_378 7 rfl) ?_
  refine e_put 15 em_378 (ce_at ce_378 8 rfl) tq_121 rfl rfl rfl (fun s1 => ?_)
  refine e_mv 16 em_378 (ce_at ce_378 9 rfl) rfl rfl ?_
  refine e_getr 19 em_378 (ce_at ce_378 10 rfl) tq_121 rfl rfl ?_
  refine e_mv 20 em_378 (ce_at ce_378 11 rfl) rfl rfl ?_
  refine e_gd fun g2 => ?_
  refine e_ild 21 em_378 (ce_at ce_378 12 rfl) tq_144 (by decide) g2 rfl ?_
  refine e_gd fun g3 => ?_
  refine e_case 0 (fun h4 => ?_) (fun h4 => ?_)
  · refine e_sw em_378 80 (ce_at ce_378 13 rfl) (sw_in g3 (by omega) (by rw [h4]; rfl)) rfl ?_
    refine e_mv 81 em_378 (ce_at ce_378 14 rfl) rfl rfl ?_
    refine e_mv 82 em_378 (ce_at ce_378 15 rfl) rfl rfl ?_
    refine e_getr 85 em_378 (ce_at ce_378 16 rfl) tq_121 rfl rfl ?_
    refine e_mv 86 em_378 (ce_at ce_378 17 rfl) rfl rfl ?_
    refine e_ild 87 em_378 (ce_at ce_378 18 rfl) tq_145 (by decide) g2 rfl ?_
    refine e_ivv 90 em_378 (ce_at ce_378 19 rfl) (by omega) (iv_v1 (by decide) tq_121 rfl) em_379 (Nat.le_of_ble_eq_true rfl) rfl (tm_put w (d - 1) (by omega) _ _) (fun r5 s5 => ?_)
    exact e_retv em_378 (ce_at ce_378 20 rfl)
  refine e_case 1 (fun h6 => ?_) (fun h6 => ?_)
  · refine e_sw em_378 91 (ce_at ce_378 13 rfl) (sw_in g3 (by omega) (by rw [h6]; rfl)) rfl ?_
    refine e_mv 92 em_378 (ce_at ce_378 21 rfl) rfl rfl ?_
    refine e_mv 93 em_378 (ce_at ce_378 22 rfl) rfl rfl ?_
    refine e_ivv 96 em_378 (ce_at ce_378 23 rfl) (by omega) (iv_v1 (by decide) tq_121 rfl) em_381 (Nat.le_of_ble_eq_true rfl) rfl (tm_stringItem w (d - 1) (by omega) _ _) (fun r7 s7 => ?_)
    exact e_retv em_378 (ce_at ce_378 24 rfl)
  refine e_case 2 (fun h8 => ?_) (fun h8 => ?_)
  · refine e_sw em_378 270 (ce_at ce_378 13 rfl) (sw_in g3 (by omega) (by rw [h8]; rfl)) rfl ?_
    refine e_mv 271 em_378 (ce_at ce_378 130 rfl) rfl rfl ?_
    refine e_mv 272 em_378 (ce_at ce_378 131 rfl) rfl rfl ?_
    refine e_ivv 275 em_378 (ce_at ce_378 132 rfl) (by omega) (iv_v1 (by decide) tq_121 rfl) em_413 (Nat.le_of_ble_eq_true rfl) rfl (tm_doStatementItem w (d - 1) (by omega) _ _) (fun r9 s9 => ?_)
    exact e_retv em_378 (ce_at ce_378 133 rfl)
  refine e_case 3 (fun h10 => ?_) (fun h10 => ?_)
  · refine e_sw em_378 97 (ce_at ce_378 13 rfl) (sw_in g3 (by omega) (by rw [h10]; rfl)) rfl ?_
    refine e_mv 98 em_378 (ce_at ce_378 25 rfl) rfl rfl ?_
    refine e_mv 99 em_378 (ce_at ce_378 26 rfl) rfl rfl ?_
    refine e_getr 102 em_378 (ce_at ce_378 27 rfl) tq_121 rfl rfl ?_
    refine e_mv 103 em_378 (ce_at ce_378 28 rfl) rfl rfl ?_
    refine e_get 106 em_378 (ce_at ce_378 29 rfl) tq_121 rfl rfl ?_
    refine e_op 107 em_378 (ce_at ce_378 30 rfl) rfl rfl ?_
    refine e_isub 108 em_378 rfl (ce_at ce_378 31 rfl) ?_
    refine e_gd fun g11 => ?_
    refine e_ild 109 em_378 (ce_at ce_378 32 rfl) tq_183 (by decide) g11 rfl ?_
    refine e_ivv 112 em_378 (ce_at ce_378 33 rfl) (by omega) (iv_v1 (by decide) tq_121 rfl) em_379 (Nat.le_of_ble_eq_true rfl) rfl (tm_put w (d - 1) (by omega) _ _) (fun r12 s12 => ?_)
    exact e_retv em_378 (ce_at ce_378 34 rfl)
  refine e_case 4 (fun h13 => ?_) (fun h13 => ?_)
  · refine e_sw em_378 113 (ce_at ce_378 13 rfl) (sw_in g3 (by omega) (by rw [h13]; rfl)) rfl ?_
    refine e_mv 114 em_378 (ce_at ce_378 35 rfl) rfl rfl ?_
    refine e_mv 115 em_378 (ce_at ce_378 36 rfl) rfl rfl ?_
    refine e_mv 116 em_378 (ce_at ce_378 37 rfl) rfl rfl ?_
    refine e_getr 119 em_378 (ce_at ce_378 38 rfl) tq_121 rfl rfl ?_
    refine e_mv 120 em_378 (ce_at ce_378 39 rfl) rfl rfl ?_
    refine e_ild 121 em_378 (ce_at ce_378 40 rfl) tq_145 (by decide) g2 rfl ?_
    refine e_ivi 124 em_378 (ce_at ce_378 41 rfl) (by omega) (iv_v1 (by decide) tq_121 rfl) em_387 (Nat.le_of_ble_eq_true rfl) rfl (tm_variable w (d - 1) (by omega) _ _) (fun r14 s14 => ?_)
    refine e_ivv 127 em_378 (ce_at ce_378 42 rfl) (by omega) (iv_v1 (by decide) tq_121 rfl) em_379 (Nat.le_of_ble_eq_true rfl) rfl (tm_put w (d - 1) (by omega) _ _) (fun r15 s15 => ?_)
    exact e_retv em_378 (ce_at ce_378 43 rfl)
  refine e_case 5 (fun h16 => ?_) (fun h16 => ?_)
  · refine e_sw em_378 128 (ce_at ce_378 13 rfl) (sw_in g3 (by omega) (by rw [h16]; rfl)) rfl ?_
    refine e_mv 129 em_378 (ce_at ce_378 44 rfl) rfl rfl ?_
    refine e_ivi 132 em_378 (ce_at ce_378 45 rfl) (by omega) (iv_v0 (by decide) tq_121 rfl) em_374 (Nat.le_of_ble_eq_true rfl) rfl (tm_pop w (d - 1) (by omega) _) (fun r17 s17 => ?_)
    refine e_mv 133 em_378 (ce_at ce_378 46 rfl) rfl rfl ?_
    refine e_mv 134 em_378 (ce_at ce_378 47 rfl) rfl rfl ?_
    refine e_mv 135 em_378 (ce_at ce_378 48 rfl) rfl rfl ?_
    refine e_mv 136 em_378 (ce_at ce_378 49 rfl) rfl rfl ?_
    refine e_ivi 139 em_378 (ce_at ce_378 50 rfl) (by omega) (iv_v0 (by decide) tq_121 rfl) em_374 (Nat.le_of_ble_eq_true rfl) rfl (tm_pop w (d - 1) (by omega) _) (fun r18 s18 => ?_)
    refine e_mv 140 em_378 (ce_at ce_378 51 rfl) rfl rfl ?_
    refine e_iadd 141 em_378 rfl (ce_at ce_378 52 rfl) ?_
    refine e_ivi 144 em_378 (ce_at ce_378 53 rfl) (by omega) (iv_v1 (by decide) tq_121 rfl) em_386 (Nat.le_of_ble_eq_true rfl) rfl (tm_read w (d - 1) (by omega) _ _) (fun r19 s19 => ?_)
    refine e_ivv 147 em_378 (ce_at ce_378 54 rfl) (by omega) (iv_v1 (by decide) tq_121 rfl) em_379 (Nat.le_of_ble_eq_true rfl) rfl (tm_put w (d - 1) (by omega) _ _) (fun r20 s20 => ?_)
    exact e_retv em_378 (ce_at ce_378 55 rfl)
  refine e_case 6 (fun h21 => ?_) (fun h21 => ?_)
  · refine e_sw em_378 148 (ce_at ce_378 13 rfl) (sw_in g3 (by omega) (by rw [h21]; rfl)) rfl ?_
    refine e_mv 149 em_378 (ce_at ce_378 56 rfl) rfl rfl ?_
    refine e_ivi 152 em_378 (ce_at ce_378 57 rfl) (by omega) (iv_v0 (by decide) tq_121 rfl) em_374 (Nat.le_of_ble_eq_true rfl) rfl (tm_pop w (d - 1) (by omega) _) (fun r22 s22 => ?_)
    refine e_mv 153 em_378 (ce_at ce_378 58 rfl) rfl rfl ?_
    refine e_mv 154 em_378 (ce_at ce_378 59 rfl) rfl rfl ?_
    refine e_mv 155 em_378 (ce_at ce_378 60 rfl) rfl rfl ?_
    refine e_mv 156 em_378 (ce_at ce_378 61 rfl) rfl rfl ?_
    refine e_getr 159 em_378 (ce_at ce_378 62 rfl) tq_121 rfl rfl ?_
    refine e_mv 160 em_378 (ce_at ce_378 63 rfl) rfl rfl ?_
    refine e_ild 161 em_378 (ce_at ce_378 64 rfl) tq_145 (by decide) g2 rfl ?_
    refine e_mv 162 em_378 (ce_at ce_378 65 rfl) rfl rfl ?_
    refine e_ivi 165 em_378 (ce_at ce_378 66 rfl) (by omega) (iv_v0 (by decide) tq_121 rfl) em_374 (Nat.le_of_ble_eq_true rfl) rfl (tm_pop w (d - 1) (by omega) _) (fun r23 s23 => ?_)
    refine e_mv 166 em_378 (ce_at ce_378 67 rfl) rfl rfl ?_
    refine e_ivi 169 em_378 (ce_at ce_378 68 rfl) (by omega) (iv_v3 (by decide) tq_121 rfl) em_388 (Nat.le_of_ble_eq_true rfl) rfl (tm_sign w (d - 1) (by omega) _ _ _ _) (fun r24 s24 => ?_)
    refine e_ivv 172 em_378 (ce_at ce_378 69 rfl) (by omega) (iv_v1 (by decide) tq_121 rfl) em_379 (Nat.le_of_ble_eq_true rfl) rfl (tm_put w (d - 1) (by omega) _ _) (fun r25 s25 => ?_)
    exact e_retv em_378 (ce_at ce_378 70 rfl)
  refine e_case 7 (fun h26 => ?_) (fun h26 => ?_)
  · refine e_sw em_378 173 (ce_at ce_378 13 rfl) (sw_in g3 (by omega) (by rw [h26]; rfl)) rfl ?_
    refine e_mv 174 em_378 (ce_at ce_378 71 rfl) rfl rfl ?_
    refine e_mv 175 em_378 (ce_at ce_378 72 rfl) rfl rfl ?_
    refine e_ivi 178 em_378 (ce_at ce_378 73 rfl) (by omega) (iv_v0 (by decide) tq_121 rfl) em_374 (Nat.le_of_ble_eq_true rfl) rfl (tm_pop w (d - 1) (by omega) _) (fun r27 s27 => ?_)
    refine e_ineg 179 em_378 rfl (ce_at ce_378 74 rfl) ?_
    refine e_ivv 182 em_378 (ce_at ce_378 75 rfl) (by omega) (iv_v1 (by decide) tq_121 rfl) em_379 (Nat.le_of_ble_eq_true rfl) rfl (tm_put w (d - 1) (by omega) _ _) (fun r28 s28 => ?_)
    exact e_retv em_378 (ce_at ce_378 76 rfl)
  refine e_case 8 (fun h29 => ?_) (fun h29 => ?_)
  · refine e_sw em_378 183 (ce_at ce_378 13 rfl) (sw_in g3 (by omega) (by rw [h29]; rfl)) rfl ?_
    refine e_mv 184 em_378 (ce_at ce_378 77 rfl) rfl rfl ?_
    refine e_mv 185 em_378 (ce_at ce_378 78 rfl) rfl rfl ?_
    refine e_ivi 188 em_378 (ce_at ce_378 79 rfl) (by omega) (iv_v0 (by decide) tq_121 rfl) em_374 (Nat.le_of_ble_eq_true rfl) rfl (tm_pop w (d - 1) (by omega) _) (fun r30 s30 => ?_)
    refine e_op 189 em_378 (ce_at ce_378 80 rfl) rfl rfl ?_
    refine e_ixor 190 em_378 rfl (ce_at ce_378 81 rfl) ?_
    refine e_ivv 193 em_378 (ce_at ce_378 82 rfl) (by omega) (iv_v1 (by decide) tq_121 rfl) em_379 (Nat.le_of_ble_eq_true rfl) rfl (tm_put w (d - 1) (by omega) _ _) (fun r31 s31 => ?_)
    exact e_retv em_378 (ce_at ce_378 83 rfl)
  refine e_case 9 (fun h32 => ?_) (fun h32 => ?_)
  · refine e_sw em_378 194 (ce_at ce_378 13 rfl) (sw_in g3 (by omega) (by rw [h32]; rfl)) rfl ?_
    refine e_mv 195 em_378 (ce_at ce_378 84 rfl) rfl rfl ?_
    refine e_getr 198 em_378 (ce_at ce_378 85 rfl) tq_121 rfl rfl ?_
    refine e_mv 199 em_378 (ce_at ce_378 86 rfl) rfl rfl ?_
    refine e_getr 202 em_378 (ce_at ce_378 87 rfl) tq_121 rfl rfl ?_
    refine e_mv 203 em_378 (ce_at ce_378 88 rfl) rfl rfl ?_
    refine e_ild 204 em_378 (ce_at ce_378 89 rfl) tq_145 (by decide) g2 rfl ?_
    refine e_gd fun g33 => ?_
    refine e_ild 205 em_378 (ce_at ce_378 90 rfl) tq_152 (by decide) g33 rfl ?_
    refine e_op 206 em_378 (ce_at ce_378 91 rfl) rfl rfl ?_
    refine e_gd fun g34 => ?_
    refine e_cmne 228 209 em_378 rfl rfl (ce_at ce_378 92 rfl) g34 (by decide) (fun h35 => ?_) (fun h35 => ?_)
    · refine e_pk [0, 1] rfl rfl ?_
      exact tm_doItem_228 w d hd _ _
    · refine e_mv 210 em_378 (ce_at ce_378 93 rfl) rfl rfl ?_
      refine e_mv 211 em_378 (ce_at ce_378 94 rfl) rfl rfl ?_
      refine e_mv 212 em_378 (ce_at ce_378 95 rfl) rfl rfl ?_
      refine e_getr 215 em_378 (ce_at ce_378 96 rfl) tq_121 rfl rfl ?_
      refine e_mv 216 em_378 (ce_at ce_378 97 rfl) rfl rfl ?_
      refine e_getr 219 em_378 (ce_at ce_378 98 rfl) tq_121 rfl rfl ?_
      refine e_mv 220 em_378 (ce_at ce_378 99 rfl) rfl rfl ?_
      refine e_ild 221 em_378 (ce_at ce_378 100 rfl) tq_145 (by decide) g2 rfl ?_
      refine e_ild 222 em_378 (ce_at ce_378 101 rfl) tq_153 (by decide) g33 rfl ?_
      refine e_ivi 225 em_378 (ce_at ce_378 102 rfl) (by omega) (iv_v1 (by decide) tq_121 rfl) em_387 (Nat.le_of_ble_eq_true rfl) rfl (tm_variable w (d - 1) (by omega) _ _) (fun r36 s36 => ?_)
      refine e_ivv 228 em_378 (ce_at ce_378 103 rfl) (by omega) (iv_v1 (by decide) tq_121 rfl) em_379 (Nat.le_of_ble_eq_true rfl) rfl (tm_put w (d - 1) (by omega) _ _) (fun r37 s37 => ?_)
      refine e_pk [0, 1] rfl rfl ?_
      exact tm_doItem_228 w d hd _ _
  refine e_case 10 (fun h38 => ?_) (fun h38 => ?_)
  · refine e_sw em_378 259 (ce_at ce_378 13 rfl) (sw_in g3 (by omega) (by rw [h38]; rfl)) rfl ?_
    refine e_mv 260 em_378 (ce_at ce_378 123 rfl) rfl rfl ?_
    refine e_mv 261 em_378 (ce_at ce_378 124 rfl) rfl rfl ?_
    refine e_getr 264 em_378 (ce_at ce_378 125 rfl) tq_121 rfl rfl ?_
    refine e_mv 265 em_378 (ce_at ce_378 126 rfl) rfl rfl ?_
    refine e_ild 266 em_378 (ce_at ce_378 127 rfl) tq_145 (by decide) g2 rfl ?_
    refine e_ivv 269 em_378 (ce_at ce_378 128 rfl) (by omega) (iv_v1 (by decide) tq_121 rfl) em_389 (Nat.le_of_ble_eq_true rfl) rfl (tm_callItem w (d - 1) (by omega) _ _) (fun r39 s39 => ?_)
    exact e_retv em_378 (ce_at ce_378 129 rfl)
  refine e_sw em_378 270 (ce_at ce_378 13 rfl) (sw_out g3 (by omega)) rfl ?_
  refine e_mv 271 em_378 (ce_at ce_378 130 rfl) rfl rfl ?_
  refine e_mv 272 em_378 (ce_at ce_378 131 rfl) rfl rfl ?_
  refine e_ivv 275 em_378 (ce_at ce_378 132 rfl) (by omega) (iv_v1 (by decide) tq_121 rfl) em_413 (Nat.le_of_ble_eq_true rfl) rfl (tm_doStatementItem w (d - 1) (by omega) _ _) (fun r40 s40 => ?_)
  exact e_retv em_378 (ce_at ce_378 133 rfl)
theorem fm_doItem (s : iS) : Fm Prod.snd L_m_doItem G_m_doItem s (m_doItem s) := fm_lt (md_upF (mem_F rfl)) (fun s1 => fm_gd (fm_gd (fm_if (fm_bd (fm_sub (fm_put _ _) (mem_sub_L rfl) (mem_sub_F rfl)) (fun r5 s5 => fm_some md_refl)) (fm_if (fm_bd (fm_sub (fm_stringItem _ _) (mem_sub_L rfl) (mem_sub_F rfl)) (fun r7 s7 => fm_some md_refl)) (fm_if (fm_bd (fm_sub (fm_doStatementItem _ _) (mem_sub_L rfl) (mem_sub_F rfl)) (fun r9 s9 => fm_some md_refl)) (fm_if (fm_gd (fm_bd (fm_sub (fm_put _ _) (mem_sub_L rfl) (mem_sub_F rfl)) (fun r12 s12 => fm_some md_refl))) (fm_if (fm_bd (fm_sub (fm_variable _ _) (mem_sub_L rfl) (mem_sub_F rfl)) (fun r14 s14 => fm_bd (fm_sub (fm_put _ _) (mem_sub_L rfl) (mem_sub_F rfl)) (fun r15 s15 => fm_some md_refl))) (fm_if (fm_bd (fm_sub (fm_pop _) (mem_sub_L rfl) (mem_sub_F rfl)) (fun r17 s17 => fm_bd (fm_sub (fm_pop _) (mem_sub_L rfl) (mem_sub_F rfl)) (fun r18 s18 => fm_bd (fm_sub (fm_read _ _) (mem_sub_L rfl) (mem_sub_F rfl)) (fun r19 s19 => fm_bd (fm_sub (fm_put _ _) (mem_sub_L rfl) (mem_sub_F rfl)) (fun r20 s20 => fm_some md_refl))))) (fm_if (fm_bd (fm_sub (fm_pop _) (mem_sub_L rfl) (mem_sub_F rfl)) (fun r22 s22 => fm_bd (fm_sub (fm_pop _) (mem_sub_L rfl) (mem_sub_F rfl)) (fun r23 s23 => fm_bd (fm_sub (fm_sign _ _ _ _) (mem_sub_L rfl) (mem_sub_F rfl)) (fun r24 s24 => fm_bd (fm_sub (fm_put _ _) (mem_sub_L rfl) (mem_sub_F rfl)) (fun r25 s25 => fm_some md_refl))))) (fm_if (fm_bd (fm_sub (fm_pop _) (mem_sub_L rfl) (mem_sub_F rfl)) (fun r27 s27 => fm_bd (fm_sub (fm_put _ _) (mem_sub_L rfl) (mem_sub_F rfl)) (fun r28 s28 => fm_some md_refl))) (fm_if (fm_bd (fm_sub (fm_pop _) (mem_sub_L rfl) (mem_sub_F rfl)) (fun r30 s30 => fm_bd (fm_sub (fm_put _ _) (mem_sub_L rfl) (mem_sub_F rfl)) (fun r31 s31 => fm_some md_refl))) (fm_if (fm_gd (fm_gd (fm_if (fm_bd (fm_sub (fm_variable _ _) (mem_sub_L rfl) (mem_sub_F rfl)) (fun r36 s36 => fm_bd (fm_sub (fm_put _ _) (mem_sub_L rfl) (mem_sub_F rfl)) (fun r37 s37 => fm_doItem_228 _ _))) (fm_doItem_228 _ _)))) (fm_if (fm_bd (fm_sub (fm_callItem _ _) (mem_sub_L rfl) (mem_sub_F rfl)) (fun r39 s39 => fm_some md_refl)) (fm_bd (fm_sub (fm_doStatementItem _ _) (mem_sub_L rfl) (mem_sub_F rfl)) (fun r40 s40 => fm_some md_refl)))))))))))))))
/-! m_run -/
def L_m_run : List Nat := [175, 176, 177, 178, 179, 180, 181, 182, 183, 184, 185, 187, 188]
def G_m_run : List (Nat × Nat) := [(121, 4), (121, 81), (121, 87), (121, 88), (121, 89), (121, 95), (121, 96), (121, 97), (121, 98), (121, 99), (121, 100), (121, 103), (121, 104), (121, 106), (121, 107), (121, 108)]
def m_run_22C (w : ev_W) (d : Nat) (v1 : Int) : (Int × iS) ⊕ (iS) → am_E → Prop := fun q r => q.elim (fun l => ev w d 371 22 ((fun l => [(0, .ref (tb_nK + 121)), (1, iv v1), (2, iv (l.1))]) l) [] (hT ((fun l => l.2) l)) r) (fun e => (fun e r => ev w d 371 42 [(0, .ref (tb_nK + 121)), (1, iv v1)] [] (hT (e)) r) e r)
noncomputable def m_run_22b (v1 : Int) (v2 : Int) (s : iS) : Option ((Int × iS) ⊕ (iS)) := gd (rg v2) (if 16512 ≤ v2 then some (.inr s) else gd (0 ≤ v2 ∧ v2 < 16512) (lt' (up s 175 v2.toNat 0) (fun s4 => some (.inl ((v2 + 1), s4)))))
theorem tm_run_22b (w : ev_W) (d : Nat) (hd : 9 ≤ d) (v1 : Int) (v2 : Int) (s : iS) : Ew hT w d 371 22 [(0, .ref (tb_nK + 121)), (1, iv v1), (2, iv v2)] [] s (m_run_22C w d v1) (m_run_22b v1 v2 s) := by
  unfold m_run_22b
  refine e_mv 23 em_371 (ce_at ce_371 12 rfl) rfl rfl ?_
  refine e_sip 26 em_371 (ce_at ce_371 13 rfl) (by decide) rfl ?_
  refine e_gd fun g1 => ?_
  refine e_cmge 42 29 em_371 rfl rfl (ce_at ce_371 14 rfl) g1 (by decide) (fun h2 => ?_) (fun h2 => ?_)
  · refine e_pk [0, 1] rfl rfl ?_
    exact e_out (fun r h => h)
  · refine e_mv 30 em_371 (ce_at ce_371 15 rfl) rfl rfl ?_
    refine e_getr 33 em_371 (ce_at ce_371 16 rfl) tq_121 rfl rfl ?_
    refine e_mv 34 em_371 (ce_at ce_371 17 rfl) rfl rfl ?_
    refine e_op 35 em_371 (ce_at ce_371 18 rfl) rfl rfl ?_
    refine e_gd fun g3 => ?_
    refine e_ist 36 em_371 (ce_at ce_371 19 rfl) tq_175 (by decide) g3 rfl (fun s4 => ?_)
    refine e_iinc 39 em_371 (ce_at ce_371 20 rfl) rfl (by decide) rfl ?_
    refine e_goto em_371 22 (ce_at ce_371 21 rfl) rfl ?_
    refine e_pk [0, 1, 2] rfl rfl ?_
    exact e_out (fun r h => h)
theorem fm_run_22b (v1 : Int) (v2 : Int) (s : iS) : Fm (fun r : (Int × iS) ⊕ (iS) => r.elim (fun l => l.2) (fun e => e)) L_m_run G_m_run s (m_run_22b v1 v2 s) := fm_gd (fm_if (fm_some md_refl) (fm_gd (fm_lt (md_upL (mem_L rfl)) (fun s4 => fm_some md_refl))))
def m_run_44C (w : ev_W) (d : Nat) (v1 : Int) : (Int × iS) ⊕ (iS) → am_E → Prop := fun q r => q.elim (fun l => ev w d 371 44 ((fun l => [(0, .ref (tb_nK + 121)), (1, iv v1), (2, iv (l.1))]) l) [] (hT ((fun l => l.2) l)) r) (fun e => (fun e r => ev w d 371 63 [(0, .ref (tb_nK + 121)), (1, iv v1)] [] (hT (e)) r) e r)
noncomputable def m_run_44b (v1 : Int) (v2 : Int) (s : iS) : Option ((Int × iS) ⊕ (iS)) := gd (rg v2) (if 12 ≤ v2 then some (.inr s) else gd (0 ≤ v2 ∧ v2 < 12) (lt' (up s 178 v2.toNat 0) (fun s4 => some (.inl ((v2 + 1), s4)))))
theorem tm_run_44b (w : ev_W) (d : Nat) (hd : 9 ≤ d) (v1 : Int) (v2 : Int) (s : iS) : Ew hT w d 371 44 [(0, .ref (tb_nK + 121)), (1, iv v1), (2, iv v2)] [] s (m_run_44C w d v1) (m_run_44b v1 v2 s) := by
  unfold m_run_44b
  refine e_mv 45 em_371 (ce_at ce_371 24 rfl) rfl rfl ?_
  refine e_bip 47 em_371 (ce_at ce_371 25 rfl) (by decide) rfl ?_
  refine e_gd fun g1 => ?_
  refine e_cmge 63 50 em_371 rfl rfl (ce_at ce_371 26 rfl) g1 (by decide) (fun h2 => ?_) (fun h2 => ?_)
  · refine e_pk [0, 1] rfl rfl ?_
    exact e_out (fun r h => h)
  · refine e_mv 51 em_371 (ce_at ce_371 27 rfl) rfl rfl ?_
    refine e_getr 54 em_371 (ce_at ce_371 28 rfl) tq_121 rfl rfl ?_
    refine e_mv 55 em_371 (ce_at ce_371 29 rfl) rfl rfl ?_
    refine e_op 56 em_371 (ce_at ce_371 30 rfl) rfl rfl ?_
    refine e_gd fun g3 => ?_
    refine e_ist 57 em_371 (ce_at ce_371 31 rfl) tq_178 (by decide) g3 rfl (fun s4 => ?_)
    refine e_iinc 60 em_371 (ce_at ce_371 32 rfl) rfl (by decide) rfl ?_
    refine e_goto em_371 44 (ce_at ce_371 33 rfl) rfl ?_
    refine e_pk [0, 1, 2] rfl rfl ?_
    exact e_out (fun r h => h)
theorem fm_run_44b (v1 : Int) (v2 : Int) (s : iS) : Fm (fun r : (Int × iS) ⊕ (iS) => r.elim (fun l => l.2) (fun e => e)) L_m_run G_m_run s (m_run_44b v1 v2 s) := fm_gd (fm_if (fm_some md_refl) (fm_gd (fm_lt (md_upL (mem_L rfl)) (fun s4 => fm_some md_refl))))
def m_run_141C (w : ev_W) (d : Nat) : (iS) ⊕ (iS) → am_E → Prop := fun q r => q.elim (fun l => ev w d 371 141 ((fun l => [(0, .ref (tb_nK + 121))]) l) [] (hT ((fun l => l) l)) r) (fun e => (fun e r => ev w d 371 156 [(0, .ref (tb_nK + 121))] [] (hT (e)) r) e r)
noncomputable def m_run_141b (s : iS) : Option ((iS) ⊕ (iS)) := gd (rg (s 121 99)) (if (s 121 99) = (-1) then bd (m_doItem s) (fun _ s3 => some (.inl s3)) else some (.inr s))
theorem tm_run_141b (w : ev_W) (d : Nat) (hd : 9 ≤ d) (s : iS) : Ew hT w d 371 141 [(0, .ref (tb_nK + 121))] [] s (m_run_141C w d) (m_run_141b s) := by
  unfold m_run_141b
  refine e_mv 142 em_371 (ce_at ce_371 80 rfl) rfl rfl ?_
  refine e_get 145 em_371 (ce_at ce_371 81 rfl) tq_121 rfl rfl ?_
  refine e_op 146 em_371 (ce_at ce_371 82 rfl) rfl rfl ?_
  refine e_gd fun g1 => ?_
  refine e_cmne 156 149 em_371 rfl rfl (ce_at ce_371 83 rfl) g1 (by decide) (fun h2 => ?_) (fun h2 => ?_)
  · refine e_pk [0] rfl rfl ?_
    exact e_out (fun r h => h)
  · refine e_mv 150 em_371 (ce_at ce_371 84 rfl) rfl rfl ?_
    refine e_ivv 153 em_371 (ce_at ce_371 85 rfl) (by omega) (iv_v0 (by decide) tq_121 rfl) em_378 (Nat.le_of_ble_eq_true rfl) rfl (tm_doItem w (d - 1) (by omega) _) (fun r3 s3 => ?_)
    refine e_goto em_371 141 (ce_at ce_371 86 rfl) rfl ?_
    refine e_pk [0] rfl rfl ?_
    exact e_out (fun r h => h)
theorem fm_run_141b (s : iS) : Fm (fun r : (iS) ⊕ (iS) => r.elim (fun l => l) (fun e => e)) L_m_run G_m_run s (m_run_141b s) := fm_gd (fm_if (fm_bd (fm_sub (fm_doItem _) (mem_sub_L rfl) (mem_sub_F rfl)) (fun r3 s3 => fm_some md_refl)) (fm_some md_refl))
noncomputable def m_run_193 (t0 : Int) (s : iS) : Option (Int × iS) := lt' (up s 121 4 t0) (fun s1 => lt' (up s1 121 104 ((s1 121 102) - (s1 121 103))) (fun s2 => some ((s2 121 99), s2)))
theorem tm_run_193 (w : ev_W) (d : Nat) (hd : 9 ≤ d) (t0 : Int) (s : iS) : Ew hT w d 371 193 [(0, .ref (tb_nK + 121))] [iv t0, .ref (tb_nK + 121)] s (Ci hT) (m_run_193 t0 s) := by
  unfold m_run_193
  refine e_put 196 em_371 (ce_at ce_371 106 rfl) tq_121 rfl rfl rfl (fun s1 => ?_)
  refine e_mv 197 em_371 (ce_at ce_371 107 rfl) rfl rfl ?_
  refine e_mv 198 em_371 (ce_at ce_371 108 rfl) rfl rfl ?_
  refine e_get 201 em_371 (ce_at ce_371 109 rfl) tq_121 rfl rfl ?_
  refine e_mv 202 em_371 (ce_at ce_371 110 rfl) rfl rfl ?_
  refine e_get 205 em_371 (ce_at ce_371 111 rfl) tq_121 rfl rfl ?_
  refine e_isub 206 em_371 rfl (ce_at ce_371 112 rfl) ?_
  refine e_put 209 em_371 (ce_at ce_371 113 rfl) tq_121 rfl rfl rfl (fun s2 => ?_)
  refine e_mv 210 em_371 (ce_at ce_371 114 rfl) rfl rfl ?_
  refine e_get 213 em_371 (ce_at ce_371 115 rfl) tq_121 rfl rfl ?_
  exact e_reti em_371 (ce_at ce_371 116 rfl)
theorem fm_run_193 (t0 : Int) (s : iS) : Fm Prod.snd L_m_run G_m_run s (m_run_193 t0 s) := fm_lt (md_upF (mem_F rfl)) (fun s1 => fm_lt (md_upF (mem_F rfl)) (fun s2 => fm_some md_refl))
noncomputable def m_run_156 (s : iS) : Option (Int × iS) := gd (rg (s 121 99)) (if (s 121 99) = 0 then m_run_193 (-1) s else gd (rg (s 121 95)) (if (s 121 95) ≤ 0 then m_run_193 (s 121 74) s else gd (0 ≤ ((s 121 95) - 1) ∧ ((s 121 95) - 1) < 1200) (m_run_193 (s 185 ((s 121 95) - 1).toNat) s)))
theorem tm_run_156 (w : ev_W) (d : Nat) (hd : 9 ≤ d) (s : iS) : Ew hT w d 371 156 [(0, .ref (tb_nK + 121))] [] s (Ci hT) (m_run_156 s) := by
  unfold m_run_156
  refine e_mv 157 em_371 (ce_at ce_371 87 rfl) rfl rfl ?_
  refine e_mv 158 em_371 (ce_at ce_371 88 rfl) rfl rfl ?_
  refine e_get 161 em_371 (ce_at ce_371 89 rfl) tq_121 rfl rfl ?_
  refine e_gd fun g1 => ?_
  refine e_ifne 168 164 em_371 rfl rfl (ce_at ce_371 90 rfl) g1 (fun h2 => ?_) (fun h2 => ?_)
  · refine e_mv 169 em_371 (ce_at ce_371 93 rfl) rfl rfl ?_
    refine e_get 172 em_371 (ce_at ce_371 94 rfl) tq_121 rfl rfl ?_
    refine e_gd fun g3 => ?_
    refine e_ifle 189 175 em_371 rfl rfl (ce_at ce_371 95 rfl) g3 (fun h4 => ?_) (fun h4 => ?_)
    · refine e_mv 190 em_371 (ce_at ce_371 104 rfl) rfl rfl ?_
      refine e_get 193 em_371 (ce_at ce_371 105 rfl) tq_121 rfl rfl ?_
      refine e_pk [0] rfl rfl ?_
      exact tm_run_193 w d hd _ _
    · refine e_mv 176 em_371 (ce_at ce_371 96 rfl) rfl rfl ?_
      refine e_getr 179 em_371 (ce_at ce_371 97 rfl) tq_121 rfl rfl ?_
      refine e_mv 180 em_371 (ce_at ce_371 98 rfl) rfl rfl ?_
      refine e_get 183 em_371 (ce_at ce_371 99 rfl) tq_121 rfl rfl ?_
      refine e_op 184 em_371 (ce_at ce_371 100 rfl) rfl rfl ?_
      refine e_isub 185 em_371 rfl (ce_at ce_371 101 rfl) ?_
      refine e_gd fun g5 => ?_
      refine e_ild 186 em_371 (ce_at ce_371 102 rfl) tq_185 (by decide) g5 rfl ?_
      refine e_goto em_371 193 (ce_at ce_371 103 rfl) rfl ?_
      refine e_pk [0] rfl rfl ?_
      exact tm_run_193 w d hd _ _
  · refine e_op 165 em_371 (ce_at ce_371 91 rfl) rfl rfl ?_
    refine e_goto em_371 193 (ce_at ce_371 92 rfl) rfl ?_
    refine e_pk [0] rfl rfl ?_
    exact tm_run_193 w d hd _ _
theorem fm_run_156 (s : iS) : Fm Prod.snd L_m_run G_m_run s (m_run_156 s) := fm_gd (fm_if (fm_run_193 _ _) (fm_gd (fm_if (fm_run_193 _ _) (fm_gd (fm_run_193 _ _)))))
noncomputable def m_run_141 (s : iS) : Option (Int × iS) := (lp (L := iS) (E := iS) (fun l => m_run_141b l) s).bind (fun e => m_run_156 e)
theorem tm_run_141 (w : ev_W) (d : Nat) (hd : 9 ≤ d) (s : iS) : Ew hT w d 371 141 [(0, .ref (tb_nK + 121))] [] s (Ci hT) (m_run_141 s) := by
  unfold m_run_141
  refine e_lp (L := iS) (E := iS) (LO := fun l => [(0, .ref (tb_nK + 121))]) (LS := fun l => l) (CE := fun e r => ev w d 371 156 [(0, .ref (tb_nK + 121))] [] (hT (e)) r) (fun l => tm_run_141b w d hd _) ?_ s
  intro e
  show Ew hT w d 371 156 [(0, .ref (tb_nK + 121))] [] e (Ci hT) _
  refine e_pk [0] rfl rfl ?_
  exact tm_run_156 w d hd _
theorem fm_run_141 (s : iS) : Fm Prod.snd L_m_run G_m_run s (m_run_141 s) := by
  unfold m_run_141
  refine fm_lp (A := iS) (E := iS) (LS := fun l => l) (LE := fun e => e) ?_ ?_ s
  · exact fun l => fm_run_141b _
  · exact (fun e => fm_run_156 _)
noncomputable def m_run_63 (v1 : Int) (s : iS) : Option (Int × iS) := lt' (up s 121 81 0) (fun s1 => lt' (up s1 121 87 0) (fun s2 => lt' (up s2 121 88 0) (fun s3 => lt' (up s3 121 89 0) (fun s4 => lt' (up s4 121 95 0) (fun s5 => lt' (up s5 121 96 0) (fun s6 => lt' (up s6 121 97 v1) (fun s7 => lt' (up s7 121 98 0) (fun s8 => lt' (up s8 121 99 (-1)) (fun s9 => lt' (up s9 121 100 0) (fun s10 => lt' (up s10 121 103 0) (fun s11 => lt' (up s11 121 106 0) (fun s12 => lt' (up s12 121 107 0) (fun s13 => lt' (up s13 121 108 1) (fun s14 => bd (m_enter (s14 121 72) s14) (fun _ s15 => m_run_141 s15)))))))))))))))
theorem tm_run_63 (w : ev_W) (d : Nat) (hd : 9 ≤ d) (v1 : Int) (s : iS) : Ew hT w d 371 63 [(0, .ref (tb_nK + 121)), (1, iv v1)] [] s (Ci hT) (m_run_63 v1 s) := by
  unfold m_run_63
  refine e_mv 64 em_371 (ce_at ce_371 34 rfl) rfl rfl ?_
  refine e_op 65 em_371 (ce_at ce_371 35 rfl) rfl rfl ?_
  refine e_put 68 em_371 (ce_at ce_371 36 rfl) tq_121 rfl rfl rfl (fun s1 => ?_)
  refine e_mv 69 em_371 (ce_at ce_371 37 rfl) rfl rfl ?_
  refine e_op 70 em_371 (ce_at ce_371 38 rfl) rfl rfl ?_
  refine e_put 73 em_371 (ce_at ce_371 39 rfl) tq_121 rfl rfl rfl (fun s2 => ?_)
  refine e_mv 74 em_371 (ce_at ce_371 40 rfl) rfl rfl ?_
  refine e_op 75 em_371 (ce_at ce_371 41 rfl) rfl rfl ?_
  refine e_put 78 em_371 (ce_at ce_371 42 rfl) tq_121 rfl rfl rfl (fun s3 => ?_)
  refine e_mv 79 em_371 (ce_at ce_371 43 rfl) rfl rfl ?_
  refine e_op 80 em_371 (ce_at ce_371 44 rfl) rfl rfl ?_
  refine e_put 83 em_371 (ce_at ce_371 45 rfl) tq_121 rfl rfl rfl (fun s4 => ?_)
  refine e_mv 84 em_371 (ce_at ce_371 46 rfl) rfl rfl ?_
  refine e_op 85 em_371 (ce_at ce_371 47 rfl) rfl rfl ?_
  refine e_put 88 em_371 (ce_at ce_371 48 rfl) tq_121 rfl rfl rfl (fun s5 => ?_)
  refine e_mv 89 em_371 (ce_at ce_371 49 rfl) rfl rfl ?_
  refine e_op 90 em_371 (ce_at ce_371 50 rfl) rfl rfl ?_
  refine e_put 93 em_371 (ce_at ce_371 51 rfl) tq_121 rfl rfl rfl (fun s6 => ?_)
  refine e_mv 94 em_371 (ce_at ce_371 52 rfl) rfl rfl ?_
  refine e_mv 95 em_371 (ce_at ce_371 53 rfl) rfl rfl ?_
  refine e_put 98 em_371 (ce_at ce_371 54 rfl) tq_121 rfl rfl rfl (fun s7 => ?_)
  refine e_mv 99 em_371 (ce_at ce_371 55 rfl) rfl rfl ?_
  refine e_op 100 em_371 (ce_at ce_371 56 rfl) rfl rfl ?_
  refine e_put 103 em_371 (ce_at ce_371 57 rfl) tq_121 rfl rfl rfl (fun s8 => ?_)
  refine e_mv 104 em_371 (ce_at ce_371 58 rfl) rfl rfl ?_
  refine e_op 105 em_371 (ce_at ce_371 59 rfl) rfl rfl ?_
  refine e_put 108 em_371 (ce_at ce_371 60 rfl) tq_121 rfl rfl rfl (fun s9 => ?_)
  refine e_mv 109 em_371 (ce_at ce_371 61 rfl) rfl rfl ?_
  refine e_op 110 em_371 (ce_at ce_371 62 rfl) rfl rfl ?_
  refine e_put 113 em_371 (ce_at ce_371 63 rfl) tq_121 rfl rfl rfl (fun s10 => ?_)
  refine e_mv 114 em_371 (ce_at ce_371 64 rfl) rfl rfl ?_
  refine e_op 115 em_371 (ce_at ce_371 65 rfl) rfl rfl ?_
  refine e_put 118 em_371 (ce_at ce_371 66 rfl) tq_121 rfl rfl rfl (fun s11 => ?_)
  refine e_mv 119 em_371 (ce_at ce_371 67 rfl) rfl rfl ?_
  refine e_op 120 em_371 (ce_at ce_371 68 rfl) rfl rfl ?_
  refine e_put 123 em_371 (ce_at ce_371 69 rfl) tq_121 rfl rfl rfl (fun s12 => ?_)
  refine e_mv 124 em_371 (ce_at ce_371 70 rfl) rfl rfl ?_
  refine e_op 125 em_371 (ce_at ce_371 71 rfl) rfl rfl ?_
  refine e_put 128 em_371 (ce_at ce_371 72 rfl) tq_121 rfl rfl rfl (fun s13 => ?_)
  refine e_mv 129 em_371 (ce_at ce_371 73 rfl) rfl rfl ?_
  refine e_op 130 em_371 (ce_at ce_371 74 rfl) rfl rfl ?_
  refine e_put 133 em_371 (ce_at ce_371 75 rfl) tq_121 rfl rfl rfl (fun s14 => ?_)
  refine e_mv 134 em_371 (ce_at ce_371 76 rfl) rfl rfl ?_
  refine e_mv 135 em_371 (ce_at ce_371 77 rfl) rfl rfl ?_
  refine e_get 138 em_371 (ce_at ce_371 78 rfl) tq_121 rfl rfl ?_
  refine e_ivv 141 em_371 (ce_at ce_371 79 rfl) (by omega) (iv_v1 (by decide) tq_121 rfl) em_372 (Nat.le_of_ble_eq_true rfl) rfl (tm_enter w (d - 1) (by omega) _ _) (fun r15 s15 => ?_)
  refine e_pk [0] rfl rfl ?_
  exact tm_run_141 w d hd _
theorem fm_run_63 (v1 : Int) (s : iS) : Fm Prod.snd L_m_run G_m_run s (m_run_63 v1 s) := fm_lt (md_upF (mem_F rfl)) (fun s1 => fm_lt (md_upF (mem_F rfl)) (fun s2 => fm_lt (md_upF (mem_F rfl)) (fun s3 => fm_lt (md_upF (mem_F rfl)) (fun s4 => fm_lt (md_upF (mem_F rfl)) (fun s5 => fm_lt (md_upF (mem_F rfl)) (fun s6 => fm_lt (md_upF (mem_F rfl)) (fun s7 => fm_lt (md_upF (mem_F rfl)) (fun s8 => fm_lt (md_upF (mem_F rfl)) (fun s9 => fm_lt (md_upF (mem_F rfl)) (fun s10 => fm_lt (md_upF (mem_F rfl)) (fun s11 => fm_lt (md_upF (mem_F rfl)) (fun s12 => fm_lt (md_upF (mem_F rfl)) (fun s13 => fm_lt (md_upF (mem_F rfl)) (fun s14 => fm_bd (fm_sub (fm_enter _ _) (mem_sub_L rfl) (mem_sub_F rfl)) (fun r15 s15 => fm_run_141 _)))))))))))))))
noncomputable def m_run_44 (v1 : Int) (v2 : Int) (s : iS) : Option (Int × iS) := (lp (L := Int × iS) (E := iS) (fun l => m_run_44b v1 (l.1) (l.2)) (v2, s)).bind (fun e => m_run_63 v1 e)
theorem tm_run_44 (w : ev_W) (d : Nat) (hd : 9 ≤ d) (v1 : Int) (v2 : Int) (s : iS) : Ew hT w d 371 44 [(0, .ref (tb_nK + 121)), (1, iv v1), (2, iv v2)] [] s (Ci hT) (m_run_44 v1 v2 s) := by
  unfold m_run_44
  refine e_lp (L := Int × iS) (E := iS) (LO := fun l => [(0, .ref (tb_nK + 121)), (1, iv v1), (2, iv (l.1))]) (LS := fun l => l.2) (CE := fun e r => ev w d 371 63 [(0, .ref (tb_nK + 121)), (1, iv v1)] [] (hT (e)) r) (fun l => tm_run_44b w d hd _ _ _) ?_ (v2, s)
  intro e
  show Ew hT w d 371 63 [(0, .ref (tb_nK + 121)), (1, iv v1)] [] e (Ci hT) _
  refine e_pk [0, 1] rfl rfl ?_
  exact tm_run_63 w d hd _ _
theorem fm_run_44 (v1 : Int) (v2 : Int) (s : iS) : Fm Prod.snd L_m_run G_m_run s (m_run_44 v1 v2 s) := by
  unfold m_run_44
  refine fm_lp (A := Int × iS) (E := iS) (LS := fun l => l.2) (LE := fun e => e) ?_ ?_ (v2, s)
  · exact fun l => fm_run_44b _ _ _
  · exact (fun e => fm_run_63 _ _)
noncomputable def m_run_42 (v1 : Int) (s : iS) : Option (Int × iS) := m_run_44 v1 0 s
theorem tm_run_42 (w : ev_W) (d : Nat) (hd : 9 ≤ d) (v1 : Int) (s : iS) : Ew hT w d 371 42 [(0, .ref (tb_nK + 121)), (1, iv v1)] [] s (Ci hT) (m_run_42 v1 s) := by
  unfold m_run_42
  refine e_op 43 em_371 (ce_at ce_371 22 rfl) rfl rfl ?_
  refine e_mv 44 em_371 (ce_at ce_371 23 rfl) rfl rfl ?_
  refine e_pk [0, 1, 2] rfl rfl ?_
  exact tm_run_44 w d hd _ _ _
theorem fm_run_42 (v1 : Int) (s : iS) : Fm Prod.snd L_m_run G_m_run s (m_run_42 v1 s) := fm_run_44 _ _ _
noncomputable def m_run_22 (v1 : Int) (v2 : Int) (s : iS) : Option (Int × iS) := (lp (L := Int × iS) (E := iS) (fun l => m_run_22b v1 (l.1) (l.2)) (v2, s)).bind (fun e => m_run_42 v1 e)
theorem tm_run_22 (w : ev_W) (d : Nat) (hd : 9 ≤ d) (v1 : Int) (v2 : Int) (s : iS) : Ew hT w d 371 22 [(0, .ref (tb_nK + 121)), (1, iv v1), (2, iv v2)] [] s (Ci hT) (m_run_22 v1 v2 s) := by
  unfold m_run_22
  refine e_lp (L := Int × iS) (E := iS) (LO := fun l => [(0, .ref (tb_nK + 121)), (1, iv v1), (2, iv (l.1))]) (LS := fun l => l.2) (CE := fun e r => ev w d 371 42 [(0, .ref (tb_nK + 121)), (1, iv v1)] [] (hT (e)) r) (fun l => tm_run_22b w d hd _ _ _) ?_ (v2, s)
  intro e
  show Ew hT w d 371 42 [(0, .ref (tb_nK + 121)), (1, iv v1)] [] e (Ci hT) _
  refine e_pk [0, 1] rfl rfl ?_
  exact tm_run_42 w d hd _ _
theorem fm_run_22 (v1 : Int) (v2 : Int) (s : iS) : Fm Prod.snd L_m_run G_m_run s (m_run_22 v1 v2 s) := by
  unfold m_run_22
  refine fm_lp (A := Int × iS) (E := iS) (LS := fun l => l.2) (LE := fun e => e) ?_ ?_ (v2, s)
  · exact fun l => fm_run_22b _ _ _
  · exact (fun e => fm_run_42 _ _)
noncomputable def m_run (v1 : Int) (s : iS) : Option (Int × iS) := gd (rg (s 121 71)) (if (s 121 71) = 0 then some ((-1), s) else gd (rg v1) (if v1 < 0 then some ((-1), s) else if v1 ≤ 5000 then m_run_22 v1 0 s else some ((-1), s)))
theorem tm_run (w : ev_W) (d : Nat) (hd : 9 ≤ d) (v1 : Int) (s : iS) : Ew hT w d 371 0 [(0, .ref (tb_nK + 121)), (1, iv v1)] [] s (Ci hT) (m_run v1 s) := by
  unfold m_run
  refine e_mv 1 em_371 (ce_at ce_371 0 rfl) rfl rfl ?_
  refine e_get 4 em_371 (ce_at ce_371 1 rfl) tq_121 rfl rfl ?_
  refine e_gd fun g1 => ?_
  refine e_ifeq 18 7 em_371 rfl rfl (ce_at ce_371 2 rfl) g1 (fun h2 => ?_) (fun h2 => ?_)
  · refine e_op 19 em_371 (ce_at ce_371 8 rfl) rfl rfl ?_
    exact e_reti em_371 (ce_at ce_371 9 rfl)
  · refine e_mv 8 em_371 (ce_at ce_371 3 rfl) rfl rfl ?_
    refine e_gd fun g3 => ?_
    refine e_iflt 18 11 em_371 rfl rfl (ce_at ce_371 4 rfl) g3 (fun h4 => ?_) (fun h4 => ?_)
    · refine e_op 19 em_371 (ce_at ce_371 8 rfl) rfl rfl ?_
      exact e_reti em_371 (ce_at ce_371 9 rfl)
    · refine e_mv 12 em_371 (ce_at ce_371 5 rfl) rfl rfl ?_
      refine e_sip 15 em_371 (ce_at ce_371 6 rfl) (by decide) rfl ?_
      refine e_cmle 20 18 em_371 rfl rfl (ce_at ce_371 7 rfl) g3 (by decide) (fun h5 => ?_) (fun h5 => ?_)
      · refine e_op 21 em_371 (ce_at ce_371 10 rfl) rfl rfl ?_
        refine e_mv 22 em_371 (ce_at ce_371 11 rfl) rfl rfl ?_
        refine e_pk [0, 1, 2] rfl rfl ?_
        exact tm_run_22 w d hd _ _ _
      · refine e_op 19 em_371 (ce_at ce_371 8 rfl) rfl rfl ?_
        exact e_reti em_371 (ce_at ce_371 9 rfl)
theorem fm_run (v1 : Int) (s : iS) : Fm Prod.snd L_m_run G_m_run s (m_run v1 s) := fm_gd (fm_if (fm_some md_refl) (fm_gd (fm_if (fm_some md_refl) (fm_if (fm_run_22 _ _ _) (fm_some md_refl)))))
/-! m_place -/
def L_m_place : List Nat := []
def G_m_place : List (Nat × Nat) := []
noncomputable def m_place (s : iS) : Option (Int × iS) := some ((s 121 4), s)
theorem tm_place (w : ev_W) (d : Nat) (hd : 0 ≤ d) (s : iS) : Ew hT w d 416 0 [(0, .ref (tb_nK + 121))] [] s (Ci hT) (m_place s) := by
  unfold m_place
  refine e_mv 1 em_416 (ce_at ce_416 0 rfl) rfl rfl ?_
  refine e_get 4 em_416 (ce_at ce_416 1 rfl) tq_121 rfl rfl ?_
  exact e_reti em_416 (ce_at ce_416 2 rfl)
theorem fm_place (s : iS) : Fm Prod.snd L_m_place G_m_place s (m_place s) := fm_some md_refl
/-! m_error -/
def L_m_error : List Nat := []
def G_m_error : List (Nat × Nat) := []
noncomputable def m_error (s : iS) : Option (Int × iS) := some ((s 121 100), s)
theorem tm_error (w : ev_W) (d : Nat) (hd : 0 ≤ d) (s : iS) : Ew hT w d 417 0 [(0, .ref (tb_nK + 121))] [] s (Ci hT) (m_error s) := by
  unfold m_error
  refine e_mv 1 em_417 (ce_at ce_417 0 rfl) rfl rfl ?_
  refine e_get 4 em_417 (ce_at ce_417 1 rfl) tq_121 rfl rfl ?_
  exact e_reti em_417 (ce_at ce_417 2 rfl)
theorem fm_error (s : iS) : Fm Prod.snd L_m_error G_m_error s (m_error s) := fm_some md_refl
/-! m_fetch -/
def L_m_fetch : List Nat := []
def G_m_fetch : List (Nat × Nat) := [(121, 107)]
def m_fetch_35C (w : ev_W) (d : Nat) (v1 : Int) : (Int × Int × iS) ⊕ (Int × iS) → am_E → Prop := fun q r => q.elim (fun l => ev w d 418 35 ((fun l => [(0, .ref (tb_nK + 121)), (1, iv v1), (2, lv (l.1)), (4, iv (l.2.1))]) l) [] (hT ((fun l => l.2.2) l)) r) (fun e => (fun e r => ev w d 418 77 [(0, .ref (tb_nK + 121)), (1, iv v1), (2, lv (e.1))] [] (hT (e.2)) r) e r)
noncomputable def m_fetch_35b (v1 : Int) (v2 : Int) (v4 : Int) (s : iS) : Option ((Int × Int × iS) ⊕ (Int × iS)) := gd (rg v4) (if 7 ≤ v4 then some (.inr (v2, s)) else gd (rg v1) (if v1 ≤ v4 then some (.inl ((l_or (l_shl v2 8) 0), (v4 + 1), s)) else gd (0 ≤ ((s 121 107) + v4) ∧ ((s 121 107) + v4) < 3000) (gd (rg (s 187 ((s 121 107) + v4).toNat)) (some (.inl ((l_or (l_shl v2 8) (s 187 ((s 121 107) + v4).toNat)), (v4 + 1), s))))))
theorem tm_fetch_35b (w : ev_W) (d : Nat) (hd : 0 ≤ d) (v1 : Int) (v2 : Int) (v4 : Int) (s : iS) : Ew hT w d 418 35 [(0, .ref (tb_nK + 121)), (1, iv v1), (2, lv v2), (4, iv v4)] [] s (m_fetch_35C w d v1) (m_fetch_35b v1 v2 v4 s) := by
  unfold m_fetch_35b
  refine e_mv 37 em_418 (ce_at ce_418 20 rfl) rfl rfl ?_
  refine e_bip 39 em_418 (ce_at ce_418 21 rfl) (by decide) rfl ?_
  refine e_gd fun g1 => ?_
  refine e_cmge 77 42 em_418 rfl rfl (ce_at ce_418 22 rfl) g1 (by decide) (fun h2 => ?_) (fun h2 => ?_)
  · refine e_pk [0, 1, 2] rfl rfl ?_
    exact e_out (fun r h => h)
  · refine e_mv 43 em_418 (ce_at ce_418 23 rfl) rfl rfl ?_
    refine e_bip 45 em_418 (ce_at ce_418 24 rfl) (by decide) rfl ?_
    refine e_lshl 46 em_418 rfl (ce_at ce_418 25 rfl) ?_
    refine e_mv 48 em_418 (ce_at ce_418 26 rfl) rfl rfl ?_
    refine e_mv 49 em_418 (ce_at ce_418 27 rfl) rfl rfl ?_
    refine e_gd fun g3 => ?_
    refine e_cmge 67 52 em_418 rfl rfl (ce_at ce_418 28 rfl) g1 g3 (fun h4 => ?_) (fun h4 => ?_)
    · refine e_op 68 em_418 (ce_at ce_418 37 rfl) rfl rfl ?_
      refine e_i2l 69 em_418 rfl (ce_at ce_418 38 rfl) (by decide) ?_
      refine e_lor 70 em_418 rfl (ce_at ce_418 39 rfl) ?_
      refine e_mv 71 em_418 (ce_at ce_418 40 rfl) rfl rfl ?_
      refine e_iinc 74 em_418 (ce_at ce_418 41 rfl) rfl (by decide) rfl ?_
      refine e_goto em_418 35 (ce_at ce_418 42 rfl) rfl ?_
      refine e_pk [0, 1, 2, 4] rfl rfl ?_
      exact e_out (fun r h => h)
    · refine e_mv 53 em_418 (ce_at ce_418 29 rfl) rfl rfl ?_
      refine e_getr 56 em_418 (ce_at ce_418 30 rfl) tq_121 rfl rfl ?_
      refine e_mv 57 em_418 (ce_at ce_418 31 rfl) rfl rfl ?_
      refine e_get 60 em_418 (ce_at ce_418 32 rfl) tq_121 rfl rfl ?_
      refine e_mv 62 em_418 (ce_at ce_418 33 rfl) rfl rfl ?_
      refine e_iadd 63 em_418 rfl (ce_at ce_418 34 rfl) ?_
      refine e_gd fun g5 => ?_
      refine e_ild 64 em_418 (ce_at ce_418 35 rfl) tq_187 (by decide) g5 rfl ?_
      refine e_goto em_418 68 (ce_at ce_418 36 rfl) rfl ?_
      refine e_gd fun g6 => ?_
      refine e_i2l 69 em_418 rfl (ce_at ce_418 38 rfl) g6 ?_
      refine e_lor 70 em_418 rfl (ce_at ce_418 39 rfl) ?_
      refine e_mv 71 em_418 (ce_at ce_418 40 rfl) rfl rfl ?_
      refine e_iinc 74 em_418 (ce_at ce_418 41 rfl) rfl (by decide) rfl ?_
      refine e_goto em_418 35 (ce_at ce_418 42 rfl) rfl ?_
      refine e_pk [0, 1, 2, 4] rfl rfl ?_
      exact e_out (fun r h => h)
theorem fm_fetch_35b (v1 : Int) (v2 : Int) (v4 : Int) (s : iS) : Fm (fun r : (Int × Int × iS) ⊕ (Int × iS) => r.elim (fun l => l.2.2) (fun e => e.2)) L_m_fetch G_m_fetch s (m_fetch_35b v1 v2 v4 s) := fm_gd (fm_if (fm_some md_refl) (fm_gd (fm_if (fm_some md_refl) (fm_gd (fm_gd (fm_some md_refl))))))
noncomputable def m_fetch_77 (v1 : Int) (v2 : Int) (s : iS) : Option (Int × iS) := lt' (up s 121 107 ((s 121 107) + v1)) (fun s1 => some (v2, s1))
theorem tm_fetch_77 (w : ev_W) (d : Nat) (hd : 0 ≤ d) (v1 : Int) (v2 : Int) (s : iS) : Ew hT w d 418 77 [(0, .ref (tb_nK + 121)), (1, iv v1), (2, lv v2)] [] s (Cl hT) (m_fetch_77 v1 v2 s) := by
  unfold m_fetch_77
  refine e_mv 78 em_418 (ce_at ce_418 43 rfl) rfl rfl ?_
  refine e_mv 79 em_418 (ce_at ce_418 44 rfl) rfl rfl ?_
  refine e_get 82 em_418 (ce_at ce_418 45 rfl) tq_121 rfl rfl ?_
  refine e_mv 83 em_418 (ce_at ce_418 46 rfl) rfl rfl ?_
  refine e_iadd 84 em_418 rfl (ce_at ce_418 47 rfl) ?_
  refine e_put 87 em_418 (ce_at ce_418 48 rfl) tq_121 rfl rfl rfl (fun s1 => ?_)
  refine e_mv 88 em_418 (ce_at ce_418 49 rfl) rfl rfl ?_
  exact e_retl em_418 (ce_at ce_418 50 rfl)
theorem fm_fetch_77 (v1 : Int) (v2 : Int) (s : iS) : Fm Prod.snd L_m_fetch G_m_fetch s (m_fetch_77 v1 v2 s) := fm_lt (md_upF (mem_F rfl)) (fun s1 => fm_some md_refl)
noncomputable def m_fetch_35 (v1 : Int) (v2 : Int) (v4 : Int) (s : iS) : Option (Int × iS) := (lp (L := Int × Int × iS) (E := Int × iS) (fun l => m_fetch_35b v1 (l.1) (l.2.1) (l.2.2)) (v2, v4, s)).bind (fun e => m_fetch_77 v1 (e.1) (e.2))
theorem tm_fetch_35 (w : ev_W) (d : Nat) (hd : 0 ≤ d) (v1 : Int) (v2 : Int) (v4 : Int) (s : iS) : Ew hT w d 418 35 [(0, .ref (tb_nK + 121)), (1, iv v1), (2, lv v2), (4, iv v4)] [] s (Cl hT) (m_fetch_35 v1 v2 v4 s) := by
  unfold m_fetch_35
  refine e_lp (L := Int × Int × iS) (E := Int × iS) (LO := fun l => [(0, .ref (tb_nK + 121)), (1, iv v1), (2, lv (l.1)), (4, iv (l.2.1))]) (LS := fun l => l.2.2) (CE := fun e r => ev w d 418 77 [(0, .ref (tb_nK + 121)), (1, iv v1), (2, lv (e.1))] [] (hT (e.2)) r) (fun l => tm_fetch_35b w d hd _ _ _ _) ?_ (v2, v4, s)
  intro e
  show Ew hT w d 418 77 [(0, .ref (tb_nK + 121)), (1, iv v1), (2, lv (e.1))] [] e.2 (Cl hT) _
  refine e_pk [0, 1, 2] rfl rfl ?_
  exact tm_fetch_77 w d hd _ _ _
theorem fm_fetch_35 (v1 : Int) (v2 : Int) (v4 : Int) (s : iS) : Fm Prod.snd L_m_fetch G_m_fetch s (m_fetch_35 v1 v2 v4 s) := by
  unfold m_fetch_35
  refine fm_lp (A := Int × Int × iS) (E := Int × iS) (LS := fun l => l.2.2) (LE := fun e => e.2) ?_ ?_ (v2, v4, s)
  · exact fun l => fm_fetch_35b _ _ _ _
  · exact (fun e => fm_fetch_77 _ _ _)
noncomputable def m_fetch_28 (t0 : Int) (s : iS) : Option (Int × iS) := gd (rg t0) (m_fetch_35 t0 t0 0 s)
theorem tm_fetch_28 (w : ev_W) (d : Nat) (hd : 0 ≤ d) (t0 : Int) (s : iS) : Ew hT w d 418 28 [(0, .ref (tb_nK + 121))] [iv t0] s (Cl hT) (m_fetch_28 t0 s) := by
  unfold m_fetch_28
  refine e_mv 29 em_418 (ce_at ce_418 14 rfl) rfl rfl ?_
  refine e_mv 30 em_418 (ce_at ce_418 15 rfl) rfl rfl ?_
  refine e_gd fun g1 => ?_
  refine e_i2l 31 em_418 rfl (ce_at ce_418 16 rfl) g1 ?_
  refine e_mv 32 em_418 (ce_at ce_418 17 rfl) rfl rfl ?_
  refine e_op 33 em_418 (ce_at ce_418 18 rfl) rfl rfl ?_
  refine e_mv 35 em_418 (ce_at ce_418 19 rfl) rfl rfl ?_
  refine e_pk [0, 1, 2, 4] rfl rfl ?_
  exact tm_fetch_35 w d hd _ _ _ _
theorem fm_fetch_28 (t0 : Int) (s : iS) : Fm Prod.snd L_m_fetch G_m_fetch s (m_fetch_28 t0 s) := fm_gd (fm_fetch_35 _ _ _ _)
noncomputable def m_fetch (s : iS) : Option (Int × iS) := gd (rg ((s 121 106) - (s 121 107))) (if ((s 121 106) - (s 121 107)) ≤ 7 then m_fetch_28 ((s 121 106) - (s 121 107)) s else m_fetch_28 7 s)
theorem tm_fetch (w : ev_W) (d : Nat) (hd : 0 ≤ d) (s : iS) : Ew hT w d 418 0 [(0, .ref (tb_nK + 121))] [] s (Cl hT) (m_fetch s) := by
  unfold m_fetch
  refine e_mv 1 em_418 (ce_at ce_418 0 rfl) rfl rfl ?_
  refine e_get 4 em_418 (ce_at ce_418 1 rfl) tq_121 rfl rfl ?_
  refine e_mv 5 em_418 (ce_at ce_418 2 rfl) rfl rfl ?_
  refine e_get 8 em_418 (ce_at ce_418 3 rfl) tq_121 rfl rfl ?_
  refine e_isub 9 em_418 rfl (ce_at ce_418 4 rfl) ?_
  refine e_bip 11 em_418 (ce_at ce_418 5 rfl) (by decide) rfl ?_
  refine e_gd fun g1 => ?_
  refine e_cmle 19 14 em_418 rfl rfl (ce_at ce_418 6 rfl) g1 (by decide) (fun h2 => ?_) (fun h2 => ?_)
  · refine e_mv 20 em_418 (ce_at ce_418 9 rfl) rfl rfl ?_
    refine e_get 23 em_418 (ce_at ce_418 10 rfl) tq_121 rfl rfl ?_
    refine e_mv 24 em_418 (ce_at ce_418 11 rfl) rfl rfl ?_
    refine e_get 27 em_418 (ce_at ce_418 12 rfl) tq_121 rfl rfl ?_
    refine e_isub 28 em_418 rfl (ce_at ce_418 13 rfl) ?_
    refine e_pk [0] rfl rfl ?_
    exact tm_fetch_28 w d hd _ _
  · refine e_bip 16 em_418 (ce_at ce_418 7 rfl) (by decide) rfl ?_
    refine e_goto em_418 28 (ce_at ce_418 8 rfl) rfl ?_
    refine e_pk [0] rfl rfl ?_
    exact tm_fetch_28 w d hd _ _
theorem fm_fetch (s : iS) : Fm Prod.snd L_m_fetch G_m_fetch s (m_fetch s) := fm_gd (fm_if (fm_fetch_28 _ _) (fm_fetch_28 _ _))
