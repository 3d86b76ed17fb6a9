/-! what the methods do, as functions, and that the machine does it; printed by wip/whole/dc.py -/
/-! m_go_436 -/
def L_m_go_436 : List Nat := [194]
def G_m_go_436 : List (Nat × Nat) := [(121, 118), (121, 119), (121, 120), (121, 121)]
def m_go_436_15C (w : ev_W) (d : Nat) (v1 : Int) : (Int × iS) ⊕ (Int × iS) → am_E → Prop := fun q r => q.elim (fun l => ev w d 436 15 ((fun l => [(0, .ref (tb_nK + 121)), (1, iv v1), (2, iv (l.1))]) l) [] (hT ((fun l => l.2) l)) r) (fun e => (fun e r => ev w d 436 42 [(2, iv (e.1))] [] (hT (e.2)) r) e r)
noncomputable def m_go_436_15b (v1 : Int) (v2 : Int) (s : iS) : Option ((Int × iS) ⊕ (Int × iS)) := gd (rg v2) (gd (rg v1) (if v1 ≤ v2 then some (.inr (v2, s)) else gd (rg (s 121 120)) (gd (rg (s 121 110)) (if (s 121 110) ≤ (s 121 120) then some (.inr (v2, s)) else bd (m_oneCode s) (fun _ s7 => some (.inl ((v2 + 1), s7)))))))
theorem tm_go_436_15b (w : ev_W) (d : Nat) (hd : 2 ≤ d) (v1 : Int) (v2 : Int) (s : iS) : Ew hT w d 436 15 [(0, .ref (tb_nK + 121)), (1, iv v1), (2, iv v2)] [] s (m_go_436_15C w d v1) (m_go_436_15b v1 v2 s) := by
  unfold m_go_436_15b
  refine e_mv 16 em_436 (ce_at ce_436 9 rfl) rfl rfl ?_
  refine e_mv 17 em_436 (ce_at ce_436 10 rfl) rfl rfl ?_
  refine e_gd fun g1 => ?_
  refine e_gd fun g2 => ?_
  refine e_cmge 42 20 em_436 rfl rfl (ce_at ce_436 11 rfl) g1 g2 (fun h3 => ?_) (fun h3 => ?_)
  · refine e_pk [2] rfl rfl ?_
    exact e_out (fun r h => h)
  · refine e_mv 21 em_436 (ce_at ce_436 12 rfl) rfl rfl ?_
    refine e_get 24 em_436 (ce_at ce_436 13 rfl) tq_121 rfl rfl ?_
    refine e_mv 25 em_436 (ce_at ce_436 14 rfl) rfl rfl ?_
    refine e_get 28 em_436 (ce_at ce_436 15 rfl) tq_121 rfl rfl ?_
    refine e_gd fun g4 => ?_
    refine e_gd fun g5 => ?_
    refine e_cmge 42 31 em_436 rfl rfl (ce_at ce_436 16 rfl) g4 g5 (fun h6 => ?_) (fun h6 => ?_)
    · refine e_pk [2] rfl rfl ?_
      exact e_out (fun r h => h)
    · refine e_mv 32 em_436 (ce_at ce_436 17 rfl) rfl rfl ?_
      refine e_ivv 35 em_436 (ce_at ce_436 18 rfl) (by omega) (iv_v0 (by decide) tq_121 rfl) em_437 (Nat.le_of_ble_eq_true rfl) rfl (tm_oneCode w (d - 1) (by omega) _) (fun r7 s7 => ?_)
      refine e_mv 36 em_436 (ce_at ce_436 19 rfl) rfl rfl ?_
      refine e_op 37 em_436 (ce_at ce_436 20 rfl) rfl rfl ?_
      refine e_iadd 38 em_436 rfl (ce_at ce_436 21 rfl) ?_
      refine e_mv 39 em_436 (ce_at ce_436 22 rfl) rfl rfl ?_
      refine e_goto em_436 15 (ce_at ce_436 23 rfl) rfl ?_
      refine e_pk [0, 1, 2] rfl rfl ?_
      exact e_out (fun r h => h)
theorem fm_go_436_15b (v1 : Int) (v2 : Int) (s : iS) : Fm (fun r : (Int × iS) ⊕ (Int × iS) => r.elim (fun l => l.2) (fun e => e.2)) L_m_go_436 G_m_go_436 s (m_go_436_15b v1 v2 s) := fm_gd (fm_gd (fm_if (fm_some md_refl) (fm_gd (fm_gd (fm_if (fm_some md_refl) (fm_bd (fm_sub (fm_oneCode _) (mem_sub_L rfl) (mem_sub_F rfl)) (fun r7 s7 => fm_some md_refl)))))))
noncomputable def m_go_436_15 (v1 : Int) (v2 : Int) (s : iS) : Option (Int × iS) := (lp (L := Int × iS) (E := Int × iS) (fun l => m_go_436_15b v1 (l.1) (l.2)) (v2, s)).bind (fun e => some (e.1, e.2))
theorem tm_go_436_15 (w : ev_W) (d : Nat) (hd : 2 ≤ d) (v1 : Int) (v2 : Int) (s : iS) : Ew hT w d 436 15 [(0, .ref (tb_nK + 121)), (1, iv v1), (2, iv v2)] [] s (Ci hT) (m_go_436_15 v1 v2 s) := by
  unfold m_go_436_15
  refine e_lp (L := Int × iS) (E := Int × iS) (LO := fun l => [(0, .ref (tb_nK + 121)), (1, iv v1), (2, iv (l.1))]) (LS := fun l => l.2) (CE := fun e r => ev w d 436 42 [(2, iv (e.1))] [] (hT (e.2)) r) (fun l => tm_go_436_15b w d hd _ _ _) ?_ (v2, s)
  intro e
  show Ew hT w d 436 42 [(2, iv (e.1))] [] e.2 (Ci hT) _
  refine e_mv 43 em_436 (ce_at ce_436 24 rfl) rfl rfl ?_
  exact e_reti em_436 (ce_at ce_436 25 rfl)
theorem fm_go_436_15 (v1 : Int) (v2 : Int) (s : iS) : Fm Prod.snd L_m_go_436 G_m_go_436 s (m_go_436_15 v1 v2 s) := by
  unfold m_go_436_15
  refine fm_lp (A := Int × iS) (E := Int × iS) (LS := fun l => l.2) (LE := fun e => e.2) ?_ ?_ (v2, s)
  · exact fun l => fm_go_436_15b _ _ _
  · exact (fun e => fm_some md_refl)
noncomputable def m_go_436 (v1 : Int) (s : iS) : Option (Int × iS) := gd (rg v1) (if v1 < 0 then some ((-1), s) else if v1 ≤ 20000 then m_go_436_15 v1 0 s else some ((-1), s))
theorem tm_go_436 (w : ev_W) (d : Nat) (hd : 2 ≤ d) (v1 : Int) (s : iS) : Ew hT w d 436 0 [(0, .ref (tb_nK + 121)), (1, iv v1)] [] s (Ci hT) (m_go_436 v1 s) := by
  unfold m_go_436
  refine e_mv 1 em_436 (ce_at ce_436 0 rfl) rfl rfl ?_
  refine e_gd fun g1 => ?_
  refine e_iflt 11 4 em_436 rfl rfl (ce_at ce_436 1 rfl) g1 (fun h2 => ?_) (fun h2 => ?_)
  · refine e_op 12 em_436 (ce_at ce_436 5 rfl) rfl rfl ?_
    exact e_reti em_436 (ce_at ce_436 6 rfl)
  · refine e_mv 5 em_436 (ce_at ce_436 2 rfl) rfl rfl ?_
    refine e_sip 8 em_436 (ce_at ce_436 3 rfl) (by decide) rfl ?_
    refine e_cmle 13 11 em_436 rfl rfl (ce_at ce_436 4 rfl) g1 (by decide) (fun h3 => ?_) (fun h3 => ?_)
    · refine e_op 14 em_436 (ce_at ce_436 7 rfl) rfl rfl ?_
      refine e_mv 15 em_436 (ce_at ce_436 8 rfl) rfl rfl ?_
      refine e_pk [0, 1, 2] rfl rfl ?_
      exact tm_go_436_15 w d hd _ _ _
    · refine e_op 12 em_436 (ce_at ce_436 5 rfl) rfl rfl ?_
      exact e_reti em_436 (ce_at ce_436 6 rfl)
theorem fm_go_436 (v1 : Int) (s : iS) : Fm Prod.snd L_m_go_436 G_m_go_436 s (m_go_436 v1 s) := fm_gd (fm_if (fm_some md_refl) (fm_if (fm_go_436_15 _ _ _) (fm_some md_refl)))
/-! m_set -/
def L_m_set : List Nat := [194]
def G_m_set : List (Nat × Nat) := []
noncomputable def m_set (v1 : Int) (v2 : Int) (s : iS) : Option (Int × iS) := gd (rg v1) (if v1 < 0 then some (0, s) else if v1 ≤ 32767 then gd (0 ≤ v1 ∧ v1 < 32768) (lt' (up s 194 v1.toNat (i_s v2)) (fun s5 => some (1, s5))) else some (0, s))
theorem tm_set (w : ev_W) (d : Nat) (hd : 0 ≤ d) (v1 : Int) (v2 : Int) (s : iS) : Ew hT w d 439 0 [(0, .ref (tb_nK + 121)), (1, iv v1), (2, iv v2)] [] s (Ci hT) (m_set v1 v2 s) := by
  unfold m_set
  refine e_mv 1 em_439 (ce_at ce_439 0 rfl) rfl rfl ?_
  refine e_gd fun g1 => ?_
  refine e_iflt 11 4 em_439 rfl rfl (ce_at ce_439 1 rfl) g1 (fun h2 => ?_) (fun h2 => ?_)
  · refine e_op 12 em_439 (ce_at ce_439 5 rfl) rfl rfl ?_
    exact e_retz em_439 (ce_at ce_439 6 rfl) (by decide)
  · refine e_mv 5 em_439 (ce_at ce_439 2 rfl) rfl rfl ?_
    refine e_sip 8 em_439 (ce_at ce_439 3 rfl) (by decide) rfl ?_
    refine e_cmle 13 11 em_439 rfl rfl (ce_at ce_439 4 rfl) g1 (by decide) (fun h3 => ?_) (fun h3 => ?_)
    · refine e_mv 14 em_439 (ce_at ce_439 7 rfl) rfl rfl ?_
      refine e_getr 17 em_439 (ce_at ce_439 8 rfl) tq_121 rfl rfl ?_
      refine e_mv 18 em_439 (ce_at ce_439 9 rfl) rfl rfl ?_
      refine e_mv 19 em_439 (ce_at ce_439 10 rfl) rfl rfl ?_
      refine e_i2s 20 em_439 rfl (ce_at ce_439 11 rfl) ?_
      refine e_gd fun g4 => ?_
      refine e_ist 21 em_439 (ce_at ce_439 12 rfl) tq_194 (by decide) g4 rfl (fun s5 => ?_)
      refine e_op 22 em_439 (ce_at ce_439 13 rfl) rfl rfl ?_
      exact e_retz em_439 (ce_at ce_439 14 rfl) (by decide)
    · refine e_op 12 em_439 (ce_at ce_439 5 rfl) rfl rfl ?_
      exact e_retz em_439 (ce_at ce_439 6 rfl) (by decide)
theorem fm_set (v1 : Int) (v2 : Int) (s : iS) : Fm Prod.snd L_m_set G_m_set s (m_set v1 v2 s) := fm_gd (fm_if (fm_some md_refl) (fm_if (fm_gd (fm_lt (md_upL (mem_L rfl)) (fun s5 => fm_some md_refl))) (fm_some md_refl)))
/-! m_store -/
def L_m_store : List Nat := []
def G_m_store : List (Nat × Nat) := []
noncomputable def m_store (v1 : Int) (s : iS) : Option (Int × iS) := gd (rg v1) (if v1 < 0 then some (100000, s) else if v1 ≤ 32767 then gd (0 ≤ v1 ∧ v1 < 32768) (some ((s 194 v1.toNat), s)) else some (100000, s))
theorem tm_store (w : ev_W) (d : Nat) (hd : 0 ≤ d) (v1 : Int) (s : iS) : Ew hT w d 440 0 [(0, .ref (tb_nK + 121)), (1, iv v1)] [] s (Ci hT) (m_store v1 s) := by
  unfold m_store
  refine e_mv 1 em_440 (ce_at ce_440 0 rfl) rfl rfl ?_
  refine e_gd fun g1 => ?_
  refine e_iflt 11 4 em_440 rfl rfl (ce_at ce_440 1 rfl) g1 (fun h2 => ?_) (fun h2 => ?_)
  · refine e_ldcw 14 em_440 (ce_at ce_440 5 rfl) (x := 100000) rfl rfl ?_
    refine e_goto em_440 23 (ce_at ce_440 6 rfl) rfl ?_
    exact e_reti em_440 (ce_at ce_440 11 rfl)
  · refine e_mv 5 em_440 (ce_at ce_440 2 rfl) rfl rfl ?_
    refine e_sip 8 em_440 (ce_at ce_440 3 rfl) (by decide) rfl ?_
    refine e_cmle 17 11 em_440 rfl rfl (ce_at ce_440 4 rfl) g1 (by decide) (fun h3 => ?_) (fun h3 => ?_)
    · refine e_mv 18 em_440 (ce_at ce_440 7 rfl) rfl rfl ?_
      refine e_getr 21 em_440 (ce_at ce_440 8 rfl) tq_121 rfl rfl ?_
      refine e_mv 22 em_440 (ce_at ce_440 9 rfl) rfl rfl ?_
      refine e_gd fun g4 => ?_
      refine e_ild 23 em_440 (ce_at ce_440 10 rfl) tq_194 (by decide) g4 rfl ?_
      exact e_reti em_440 (ce_at ce_440 11 rfl)
    · refine e_ldcw 14 em_440 (ce_at ce_440 5 rfl) (x := 100000) rfl rfl ?_
      refine e_goto em_440 23 (ce_at ce_440 6 rfl) rfl ?_
      exact e_reti em_440 (ce_at ce_440 11 rfl)
theorem fm_store (v1 : Int) (s : iS) : Fm Prod.snd L_m_store G_m_store s (m_store v1 s) := fm_gd (fm_if (fm_some md_refl) (fm_if (fm_gd (fm_some md_refl)) (fm_some md_refl)))
/-! m_register -/
def L_m_register : List Nat := []
def G_m_register : List (Nat × Nat) := []
noncomputable def m_register (v1 : Int) (s : iS) : Option (Int × iS) := gd (rg v1) (if v1 = 0 then some ((s 121 118), s) else if v1 = 1 then some ((s 121 119), s) else if v1 = 2 then some ((s 121 120), s) else if v1 = 3 then some ((s 121 110), s) else if v1 = 4 then some ((s 121 121), s) else if v1 = 5 then some ((s 121 112), s) else some (0, s))
theorem tm_register (w : ev_W) (d : Nat) (hd : 0 ≤ d) (v1 : Int) (s : iS) : Ew hT w d 441 0 [(0, .ref (tb_nK + 121)), (1, iv v1)] [] s (Ci hT) (m_register v1 s) := by
  unfold m_register
  refine e_mv 1 em_441 (ce_at ce_441 0 rfl) rfl rfl ?_
  refine e_gd fun g1 => ?_
  refine e_case 0 (fun h2 => ?_) (fun h2 => ?_)
  · refine e_sw em_441 40 (ce_at ce_441 1 rfl) (sw_in g1 (by omega) (by subst h2; rfl)) rfl ?_
    refine e_mv 41 em_441 (ce_at ce_441 2 rfl) rfl rfl ?_
    refine e_get 44 em_441 (ce_at ce_441 3 rfl) tq_121 rfl rfl ?_
    exact e_reti em_441 (ce_at ce_441 4 rfl)
  refine e_case 1 (fun h3 => ?_) (fun h3 => ?_)
  · refine e_sw em_441 45 (ce_at ce_441 1 rfl) (sw_in g1 (by omega) (by subst h3; rfl)) rfl ?_
    refine e_mv 46 em_441 (ce_at ce_441 5 rfl) rfl rfl ?_
    refine e_get 49 em_441 (ce_at ce_441 6 rfl) tq_121 rfl rfl ?_
    exact e_reti em_441 (ce_at ce_441 7 rfl)
  refine e_case 2 (fun h4 => ?_) (fun h4 => ?_)
  · refine e_sw em_441 50 (ce_at ce_441 1 rfl) (sw_in g1 (by omega) (by subst h4; rfl)) rfl ?_
    refine e_mv 51 em_441 (ce_at ce_441 8 rfl) rfl rfl ?_
    refine e_get 54 em_441 (ce_at ce_441 9 rfl) tq_121 rfl rfl ?_
    exact e_reti em_441 (ce_at ce_441 10 rfl)
  refine e_case 3 (fun h5 => ?_) (fun h5 => ?_)
  · refine e_sw em_441 55 (ce_at ce_441 1 rfl) (sw_in g1 (by omega) (by subst h5; rfl)) rfl ?_
    refine e_mv 56 em_441 (ce_at ce_441 11 rfl) rfl rfl ?_
    refine e_get 59 em_441 (ce_at ce_441 12 rfl) tq_121 rfl rfl ?_
    exact e_reti em_441 (ce_at ce_441 13 rfl)
  refine e_case 4 (fun h6 => ?_) (fun h6 => ?_)
  · refine e_sw em_441 60 (ce_at ce_441 1 rfl) (sw_in g1 (by omega) (by subst h6; rfl)) rfl ?_
    refine e_mv 61 em_441 (ce_at ce_441 14 rfl) rfl rfl ?_
    refine e_get 64 em_441 (ce_at ce_441 15 rfl) tq_121 rfl rfl ?_
    exact e_reti em_441 (ce_at ce_441 16 rfl)
  refine e_case 5 (fun h7 => ?_) (fun h7 => ?_)
  · refine e_sw em_441 65 (ce_at ce_441 1 rfl) (sw_in g1 (by omega) (by subst h7; rfl)) rfl ?_
    refine e_mv 66 em_441 (ce_at ce_441 17 rfl) rfl rfl ?_
    refine e_get 69 em_441 (ce_at ce_441 18 rfl) tq_121 rfl rfl ?_
    exact e_reti em_441 (ce_at ce_441 19 rfl)
  refine e_sw em_441 70 (ce_at ce_441 1 rfl) (sw_out g1 (by omega)) rfl ?_
  refine e_op 71 em_441 (ce_at ce_441 20 rfl) rfl rfl ?_
  exact e_reti em_441 (ce_at ce_441 21 rfl)
theorem fm_register (v1 : Int) (s : iS) : Fm Prod.snd L_m_register G_m_register s (m_register v1 s) := fm_gd (fm_if (fm_some md_refl) (fm_if (fm_some md_refl) (fm_if (fm_some md_refl) (fm_if (fm_some md_refl) (fm_if (fm_some md_refl) (fm_if (fm_some md_refl) (fm_some md_refl)))))))
/-! m_needNumber -/
def L_m_needNumber : List Nat := []
def G_m_needNumber : List (Nat × Nat) := [(121, 10), (121, 11), (121, 12)]
noncomputable def m_needNumber (s : iS) : Option (Int × iS) := gd (0 ≤ (s 121 10) ∧ (s 121 10) < 2002) (gd (rg (s 124 (s 121 10).toNat)) (if (s 124 (s 121 10).toNat) = 2 then bd (m_go s) (fun _ s4 => some (((s4 121 10) - 1), s4)) else bd (m_syntax s) (fun _ s5 => some (((s5 121 10) - 1), s5))))
theorem tm_needNumber (w : ev_W) (d : Nat) (hd : 2 ≤ d) (s : iS) : Ew hT w d 446 0 [(0, .ref (tb_nK + 121))] [] s (Ci hT) (m_needNumber s) := by
  unfold m_needNumber
  refine e_mv 1 em_446 (ce_at ce_446 0 rfl) rfl rfl ?_
  refine e_getr 4 em_446 (ce_at ce_446 1 rfl) tq_121 rfl rfl ?_
  refine e_mv 5 em_446 (ce_at ce_446 2 rfl) rfl rfl ?_
  refine e_get 8 em_446 (ce_at ce_446 3 rfl) tq_121 rfl rfl ?_
  refine e_gd fun g1 => ?_
  refine e_ild 9 em_446 (ce_at ce_446 4 rfl) tq_124 (by decide) g1 rfl ?_
  refine e_op 10 em_446 (ce_at ce_446 5 rfl) rfl rfl ?_
  refine e_gd fun g2 => ?_
  refine e_cmeq 20 13 em_446 rfl rfl (ce_at ce_446 6 rfl) g2 (by decide) (fun h3 => ?_) (fun h3 => ?_)
  · refine e_mv 21 em_446 (ce_at ce_446 10 rfl) rfl rfl ?_
    refine e_ivv 24 em_446 (ce_at ce_446 11 rfl) (by omega) (iv_v0 (by decide) tq_121 rfl) em_315 (Nat.le_of_ble_eq_true rfl) rfl (tm_go w (d - 1) (by omega) _) (fun r4 s4 => ?_)
    refine e_mv 25 em_446 (ce_at ce_446 12 rfl) rfl rfl ?_
    refine e_get 28 em_446 (ce_at ce_446 13 rfl) tq_121 rfl rfl ?_
    refine e_op 29 em_446 (ce_at ce_446 14 rfl) rfl rfl ?_
    refine e_isub 30 em_446 rfl (ce_at ce_446 15 rfl) ?_
    exact e_reti em_446 (ce_at ce_446 16 rfl)
  · refine e_mv 14 em_446 (ce_at ce_446 7 rfl) rfl rfl ?_
    refine e_ivv 17 em_446 (ce_at ce_446 8 rfl) (by omega) (iv_v0 (by decide) tq_121 rfl) em_316 (Nat.le_of_ble_eq_true rfl) rfl (tm_syntax w (d - 1) (by omega) _) (fun r5 s5 => ?_)
    refine e_goto em_446 24 (ce_at ce_446 9 rfl) rfl ?_
    refine e_mv 25 em_446 (ce_at ce_446 12 rfl) rfl rfl ?_
    refine e_get 28 em_446 (ce_at ce_446 13 rfl) tq_121 rfl rfl ?_
    refine e_op 29 em_446 (ce_at ce_446 14 rfl) rfl rfl ?_
    refine e_isub 30 em_446 rfl (ce_at ce_446 15 rfl) ?_
    exact e_reti em_446 (ce_at ce_446 16 rfl)
theorem fm_needNumber (s : iS) : Fm Prod.snd L_m_needNumber G_m_needNumber s (m_needNumber s) := fm_gd (fm_gd (fm_if (fm_bd (fm_sub (fm_go _) (mem_sub_L rfl) (mem_sub_F rfl)) (fun r4 s4 => fm_some md_refl)) (fm_bd (fm_sub (fm_syntax _) (mem_sub_L rfl) (mem_sub_F rfl)) (fun r5 s5 => fm_some md_refl))))
/-! m_range -/
def L_m_range : List Nat := []
def G_m_range : List (Nat × Nat) := [(121, 10), (121, 11), (121, 12), (121, 148), (121, 149), (121, 150)]
noncomputable def m_range_69 (v1 : Int) (v2 : Int) (s : iS) : Option (Int × iS) := bd (m_needSign 93 s) (fun _ s1 => gd (rg (s1 121 11)) (if (s1 121 11) ≤ 0 then gd (0 ≤ v1 ∧ v1 < 2002) (lt' (up s1 121 149 (s1 127 v1.toNat)) (fun s5 => gd (0 ≤ v2 ∧ v2 < 2002) (lt' (up s5 121 150 (s5 127 v2.toNat)) (fun s7 => some (0, s7))))) else some (0, s1)))
theorem tm_range_69 (w : ev_W) (d : Nat) (hd : 3 ≤ d) (v1 : Int) (v2 : Int) (s : iS) : Ew hT w d 449 69 [(0, .ref (tb_nK + 121)), (1, iv v1), (2, iv v2)] [] s (Cv hT) (m_range_69 v1 v2 s) := by
  unfold m_range_69
  refine e_mv 70 em_449 (ce_at ce_449 37 rfl) rfl rfl ?_
  refine e_bip 72 em_449 (ce_at ce_449 38 rfl) (by decide) rfl ?_
  refine e_ivv 75 em_449 (ce_at ce_449 39 rfl) (by omega) (iv_v1 (by decide) tq_121 rfl) em_325 (Nat.le_of_ble_eq_true rfl) rfl (tm_needSign w (d - 1) (by omega) _ _) (fun r1 s1 => ?_)
  refine e_mv 76 em_449 (ce_at ce_449 40 rfl) rfl rfl ?_
  refine e_get 79 em_449 (ce_at ce_449 41 rfl) tq_121 rfl rfl ?_
  refine e_gd fun g2 => ?_
  refine e_ifle 83 82 em_449 rfl rfl (ce_at ce_449 42 rfl) g2 (fun h3 => ?_) (fun h3 => ?_)
  · refine e_mv 84 em_449 (ce_at ce_449 44 rfl) rfl rfl ?_
    refine e_mv 85 em_449 (ce_at ce_449 45 rfl) rfl rfl ?_
    refine e_getr 88 em_449 (ce_at ce_449 46 rfl) tq_121 rfl rfl ?_
    refine e_mv 89 em_449 (ce_at ce_449 47 rfl) rfl rfl ?_
    refine e_gd fun g4 => ?_
    refine e_ild 90 em_449 (ce_at ce_449 48 rfl) tq_127 (by decide) g4 rfl ?_
    refine e_put 93 em_449 (ce_at ce_449 49 rfl) tq_121 rfl rfl rfl (fun s5 => ?_)
    refine e_mv 94 em_449 (ce_at ce_449 50 rfl) rfl rfl ?_
    refine e_mv 95 em_449 (ce_at ce_449 51 rfl) rfl rfl ?_
    refine e_getr 98 em_449 (ce_at ce_449 52 rfl) tq_121 rfl rfl ?_
    refine e_mv 99 em_449 (ce_at ce_449 53 rfl) rfl rfl ?_
    refine e_gd fun g6 => ?_
    refine e_ild 100 em_449 (ce_at ce_449 54 rfl) tq_127 (by decide) g6 rfl ?_
    refine e_put 103 em_449 (ce_at ce_449 55 rfl) tq_121 rfl rfl rfl (fun s7 => ?_)
    exact e_retv em_449 (ce_at ce_449 56 rfl)
  · exact e_retv em_449 (ce_at ce_449 43 rfl)
theorem fm_range_69 (v1 : Int) (v2 : Int) (s : iS) : Fm Prod.snd L_m_range G_m_range s (m_range_69 v1 v2 s) := fm_bd (fm_sub (fm_needSign _ _) (mem_sub_L rfl) (mem_sub_F rfl)) (fun r1 s1 => fm_gd (fm_if (fm_gd (fm_lt (md_upF (mem_F rfl)) (fun s5 => fm_gd (fm_lt (md_upF (mem_F rfl)) (fun s7 => fm_some md_refl))))) (fm_some md_refl)))
noncomputable def m_range (s : iS) : Option (Int × iS) := lt' (up s 121 148 (-1)) (fun s1 => lt' (up s1 121 149 0) (fun s2 => lt' (up s2 121 150 0) (fun s3 => bd (m_isSign 91 s3) (fun r4 s4 => gd (rg r4) (if r4 = 0 then some (0, s4) else lt' (up s4 121 148 (s4 121 10)) (fun s7 => bd (m_go s7) (fun _ s8 => bd (m_needNumber s8) (fun r9 s9 => gd (rg (s9 121 11)) (if (s9 121 11) = 0 then bd (m_isSign 46 s9) (fun r12 s12 => gd (rg r12) (if r12 = 0 then m_range_69 r9 r9 s12 else bd (m_go s12) (fun _ s15 => bd (m_needNumber s15) (fun r16 s16 => m_range_69 r9 r16 s16)))) else m_range_69 r9 r9 s9)))))))))
theorem tm_range (w : ev_W) (d : Nat) (hd : 3 ≤ d) (s : iS) : Ew hT w d 449 0 [(0, .ref (tb_nK + 121))] [] s (Cv hT) (m_range s) := by
  unfold m_range
  refine e_mv 1 em_449 (ce_at ce_449 0 rfl) rfl rfl ?_
  refine e_op 2 em_449 (ce_at ce_449 1 rfl) rfl rfl ?_
  refine e_put 5 em_449 (ce_at ce_449 2 rfl) tq_121 rfl rfl rfl (fun s1 => ?_)
  refine e_mv 6 em_449 (ce_at ce_449 3 rfl) rfl rfl ?_
  refine e_op 7 em_449 (ce_at ce_449 4 rfl) rfl rfl ?_
  refine e_put 10 em_449 (ce_at ce_449 5 rfl) tq_121 rfl rfl rfl (fun s2 => ?_)
  refine e_mv 11 em_449 (ce_at ce_449 6 rfl) rfl rfl ?_
  refine e_op 12 em_449 (ce_at ce_449 7 rfl) rfl rfl ?_
  refine e_put 15 em_449 (ce_at ce_449 8 rfl) tq_121 rfl rfl rfl (fun s3 => ?_)
  refine e_mv 16 em_449 (ce_at ce_449 9 rfl) rfl rfl ?_
  refine e_bip 18 em_449 (ce_at ce_449 10 rfl) (by decide) rfl ?_
  refine e_ivi 21 em_449 (ce_at ce_449 11 rfl) (by omega) (iv_v1 (by decide) tq_121 rfl) em_320 (Nat.le_of_ble_eq_true rfl) rfl (tm_isSign w (d - 1) (by omega) _ _) (fun r4 s4 => ?_)
  refine e_gd fun g5 => ?_
  refine e_ifne 25 24 em_449 rfl rfl (ce_at ce_449 12 rfl) g5 (fun h6 => ?_) (fun h6 => ?_)
  · refine e_mv 26 em_449 (ce_at ce_449 14 rfl) rfl rfl ?_
    refine e_mv 27 em_449 (ce_at ce_449 15 rfl) rfl rfl ?_
    refine e_get 30 em_449 (ce_at ce_449 16 rfl) tq_121 rfl rfl ?_
    refine e_put 33 em_449 (ce_at ce_449 17 rfl) tq_121 rfl rfl rfl (fun s7 => ?_)
    refine e_mv 34 em_449 (ce_at ce_449 18 rfl) rfl rfl ?_
    refine e_ivv 37 em_449 (ce_at ce_449 19 rfl) (by omega) (iv_v0 (by decide) tq_121 rfl) em_315 (Nat.le_of_ble_eq_true rfl) rfl (tm_go w (d - 1) (by omega) _) (fun r8 s8 => ?_)
    refine e_mv 38 em_449 (ce_at ce_449 20 rfl) rfl rfl ?_
    refine e_ivi 41 em_449 (ce_at ce_449 21 rfl) (by omega) (iv_v0 (by decide) tq_121 rfl) em_446 (Nat.le_of_ble_eq_true rfl) rfl (tm_needNumber w (d - 1) (by omega) _) (fun r9 s9 => ?_)
    refine e_mv 42 em_449 (ce_at ce_449 22 rfl) rfl rfl ?_
    refine e_mv 43 em_449 (ce_at ce_449 23 rfl) rfl rfl ?_
    refine e_mv 44 em_449 (ce_at ce_449 24 rfl) rfl rfl ?_
    refine e_mv 45 em_449 (ce_at ce_449 25 rfl) rfl rfl ?_
    refine e_get 48 em_449 (ce_at ce_449 26 rfl) tq_121 rfl rfl ?_
    refine e_gd fun g10 => ?_
    refine e_ifne 69 51 em_449 rfl rfl (ce_at ce_449 27 rfl) g10 (fun h11 => ?_) (fun h11 => ?_)
    · refine e_pk [0, 1, 2] rfl rfl ?_
      exact tm_range_69 w d hd _ _ _
    · refine e_mv 52 em_449 (ce_at ce_449 28 rfl) rfl rfl ?_
      refine e_bip 54 em_449 (ce_at ce_449 29 rfl) (by decide) rfl ?_
      refine e_ivi 57 em_449 (ce_at ce_449 30 rfl) (by omega) (iv_v1 (by decide) tq_121 rfl) em_320 (Nat.le_of_ble_eq_true rfl) rfl (tm_isSign w (d - 1) (by omega) _ _) (fun r12 s12 => ?_)
      refine e_gd fun g13 => ?_
      refine e_ifeq 69 60 em_449 rfl rfl (ce_at ce_449 31 rfl) g13 (fun h14 => ?_) (fun h14 => ?_)
      · refine e_pk [0, 1, 2] rfl rfl ?_
        exact tm_range_69 w d hd _ _ _
      · refine e_mv 61 em_449 (ce_at ce_449 32 rfl) rfl rfl ?_
        refine e_ivv 64 em_449 (ce_at ce_449 33 rfl) (by omega) (iv_v0 (by decide) tq_121 rfl) em_315 (Nat.le_of_ble_eq_true rfl) rfl (tm_go w (d - 1) (by omega) _) (fun r15 s15 => ?_)
        refine e_mv 65 em_449 (ce_at ce_449 34 rfl) rfl rfl ?_
        refine e_ivi 68 em_449 (ce_at ce_449 35 rfl) (by omega) (iv_v0 (by decide) tq_121 rfl) em_446 (Nat.le_of_ble_eq_true rfl) rfl (tm_needNumber w (d - 1) (by omega) _) (fun r16 s16 => ?_)
        refine e_mv 69 em_449 (ce_at ce_449 36 rfl) rfl rfl ?_
        refine e_pk [0, 1, 2] rfl rfl ?_
        exact tm_range_69 w d hd _ _ _
  · exact e_retv em_449 (ce_at ce_449 13 rfl)
theorem fm_range (s : iS) : Fm Prod.snd L_m_range G_m_range s (m_range s) := fm_lt (md_upF (mem_F rfl)) (fun s1 => fm_lt (md_upF (mem_F rfl)) (fun s2 => fm_lt (md_upF (mem_F rfl)) (fun s3 => fm_bd (fm_sub (fm_isSign _ _) (mem_sub_L rfl) (mem_sub_F rfl)) (fun r4 s4 => fm_gd (fm_if (fm_some md_refl) (fm_lt (md_upF (mem_F rfl)) (fun s7 => fm_bd (fm_sub (fm_go _) (mem_sub_L rfl) (mem_sub_F rfl)) (fun r8 s8 => fm_bd (fm_sub (fm_needNumber _) (mem_sub_L rfl) (mem_sub_F rfl)) (fun r9 s9 => fm_gd (fm_if (fm_bd (fm_sub (fm_isSign _ _) (mem_sub_L rfl) (mem_sub_F rfl)) (fun r12 s12 => fm_gd (fm_if (fm_range_69 _ _ _) (fm_bd (fm_sub (fm_go _) (mem_sub_L rfl) (mem_sub_F rfl)) (fun r15 s15 => fm_bd (fm_sub (fm_needNumber _) (mem_sub_L rfl) (mem_sub_F rfl)) (fun r16 s16 => fm_range_69 _ _ _)))))) (fm_range_69 _ _ _)))))))))))
/-! m_pinOf -/
def L_m_pinOf : List Nat := []
def G_m_pinOf : List (Nat × Nat) := []
def m_pinOf_7C (w : ev_W) (d : Nat) (v1 : Int) (v2 : Int) : (Int × iS) ⊕ ((Int × iS) ⊕ (iS)) → am_E → Prop := fun q r => q.elim (fun l => ev w d 450 7 ((fun l => [(0, .ref (tb_nK + 121)), (1, iv v1), (2, iv v2), (3, iv (l.1))]) l) [] (hT ((fun l => l.2) l)) r) (fun e => (fun e r => e.elim (fun e => ev w d 450 33 [(3, iv (e.1))] [] (hT (e.2)) r) (fun e => ev w d 450 41 [] [] (hT (e)) r)) e r)
noncomputable def m_pinOf_7b (v1 : Int) (v2 : Int) (v3 : Int) (s : iS) : Option ((Int × iS) ⊕ ((Int × iS) ⊕ (iS))) := gd (0 ≤ (v1 + 1) ∧ (v1 + 1) < 18) (gd (rg v3) (gd (rg (s 196 (v1 + 1).toNat)) (if (s 196 (v1 + 1).toNat) ≤ v3 then some (.inr (.inr s)) else gd (0 ≤ v3 ∧ v3 < 200) (bd (m_like (s 198 v3.toNat) v2 s) (fun r6 s6 => gd (rg r6) (if r6 = 0 then some (.inl ((v3 + 1), s6)) else some (.inr (.inl (v3, s6)))))))))
theorem tm_pinOf_7b (w : ev_W) (d : Nat) (hd : 1 ≤ d) (v1 : Int) (v2 : Int) (v3 : Int) (s : iS) : Ew hT w d 450 7 [(0, .ref (tb_nK + 121)), (1, iv v1), (2, iv v2), (3, iv v3)] [] s (m_pinOf_7C w d v1 v2) (m_pinOf_7b v1 v2 v3 s) := by
  unfold m_pinOf_7b
  refine e_mv 8 em_450 (ce_at ce_450 5 rfl) rfl rfl ?_
  refine e_mv 9 em_450 (ce_at ce_450 6 rfl) rfl rfl ?_
  refine e_getr 12 em_450 (ce_at ce_450 7 rfl) tq_121 rfl rfl ?_
  refine e_mv 13 em_450 (ce_at ce_450 8 rfl) rfl rfl ?_
  refine e_op 14 em_450 (ce_at ce_450 9 rfl) rfl rfl ?_
  refine e_iadd 15 em_450 rfl (ce_at ce_450 10 rfl) ?_
  refine e_gd fun g1 => ?_
  refine e_ild 16 em_450 (ce_at ce_450 11 rfl) tq_196 (by decide) g1 rfl ?_
  refine e_gd fun g2 => ?_
  refine e_gd fun g3 => ?_
  refine e_cmge 41 19 em_450 rfl rfl (ce_at ce_450 12 rfl) g2 g3 (fun h4 => ?_) (fun h4 => ?_)
  · refine e_pk [] rfl rfl ?_
    exact e_out (fun r h => h)
  · refine e_mv 20 em_450 (ce_at ce_450 13 rfl) rfl rfl ?_
    refine e_mv 21 em_450 (ce_at ce_450 14 rfl) rfl rfl ?_
    refine e_getr 24 em_450 (ce_at ce_450 15 rfl) tq_121 rfl rfl ?_
    refine e_mv 25 em_450 (ce_at ce_450 16 rfl) rfl rfl ?_
    refine e_gd fun g5 => ?_
    refine e_ild 26 em_450 (ce_at ce_450 17 rfl) tq_198 (by decide) g5 rfl ?_
    refine e_mv 27 em_450 (ce_at ce_450 18 rfl) rfl rfl ?_
    refine e_ivi 30 em_450 (ce_at ce_450 19 rfl) (by omega) (iv_v2 (by decide) tq_121 rfl) em_350 (Nat.le_of_ble_eq_true rfl) rfl (tm_like w (d - 1) (by omega) _ _ _) (fun r6 s6 => ?_)
    refine e_gd fun g7 => ?_
    refine e_ifeq 35 33 em_450 rfl rfl (ce_at ce_450 20 rfl) g7 (fun h8 => ?_) (fun h8 => ?_)
    · refine e_iinc 38 em_450 (ce_at ce_450 23 rfl) rfl (by decide) rfl ?_
      refine e_goto em_450 7 (ce_at ce_450 24 rfl) rfl ?_
      refine e_pk [0, 1, 2, 3] rfl rfl ?_
      exact e_out (fun r h => h)
    · refine e_pk [3] rfl rfl ?_
      exact e_out (fun r h => h)
theorem fm_pinOf_7b (v1 : Int) (v2 : Int) (v3 : Int) (s : iS) : Fm (fun r : (Int × iS) ⊕ ((Int × iS) ⊕ (iS)) => r.elim (fun l => l.2) (fun e => e.elim (fun e => e.2) (fun e => e))) L_m_pinOf G_m_pinOf s (m_pinOf_7b v1 v2 v3 s) := fm_gd (fm_gd (fm_gd (fm_if (fm_some md_refl) (fm_gd (fm_bd (fm_sub (fm_like _ _ _) (mem_sub_L rfl) (mem_sub_F rfl)) (fun r6 s6 => fm_gd (fm_if (fm_some md_refl) (fm_some md_refl))))))))
noncomputable def m_pinOf_7 (v1 : Int) (v2 : Int) (v3 : Int) (s : iS) : Option (Int × iS) := (lp (L := Int × iS) (E := (Int × iS) ⊕ (iS)) (fun l => m_pinOf_7b v1 v2 (l.1) (l.2)) (v3, s)).bind (fun e => e.elim (fun e => some (e.1, e.2)) (fun e => some ((-1), e)))
theorem tm_pinOf_7 (w : ev_W) (d : Nat) (hd : 1 ≤ d) (v1 : Int) (v2 : Int) (v3 : Int) (s : iS) : Ew hT w d 450 7 [(0, .ref (tb_nK + 121)), (1, iv v1), (2, iv v2), (3, iv v3)] [] s (Ci hT) (m_pinOf_7 v1 v2 v3 s) := by
  unfold m_pinOf_7
  refine e_lp (L := Int × iS) (E := (Int × iS) ⊕ (iS)) (LO := fun l => [(0, .ref (tb_nK + 121)), (1, iv v1), (2, iv v2), (3, iv (l.1))]) (LS := fun l => l.2) (CE := fun e r => e.elim (fun e => ev w d 450 33 [(3, iv (e.1))] [] (hT (e.2)) r) (fun e => ev w d 450 41 [] [] (hT (e)) r)) (fun l => tm_pinOf_7b w d hd _ _ _ _) ?_ (v3, s)
  rintro (e | e)
  · show Ew hT w d 450 33 [(3, iv (e.1))] [] e.2 (Ci hT) _
    refine e_mv 34 em_450 (ce_at ce_450 21 rfl) rfl rfl ?_
    exact e_reti em_450 (ce_at ce_450 22 rfl)
  · show Ew hT w d 450 41 [] [] e (Ci hT) _
    refine e_op 42 em_450 (ce_at ce_450 25 rfl) rfl rfl ?_
    exact e_reti em_450 (ce_at ce_450 26 rfl)
theorem fm_pinOf_7 (v1 : Int) (v2 : Int) (v3 : Int) (s : iS) : Fm Prod.snd L_m_pinOf G_m_pinOf s (m_pinOf_7 v1 v2 v3 s) := by
  unfold m_pinOf_7
  refine fm_lp (A := Int × iS) (E := (Int × iS) ⊕ (iS)) (LS := fun l => l.2) (LE := fun e => e.elim (fun e => e.2) (fun e => e)) ?_ ?_ (v3, s)
  · exact fun l => fm_pinOf_7b _ _ _ _
  · exact (by rintro (e | e); exact fm_some md_refl; exact fm_some md_refl)
noncomputable def m_pinOf (v1 : Int) (v2 : Int) (s : iS) : Option (Int × iS) := gd (0 ≤ v1 ∧ v1 < 18) (m_pinOf_7 v1 v2 (s 196 v1.toNat) s)
theorem tm_pinOf (w : ev_W) (d : Nat) (hd : 1 ≤ d) (v1 : Int) (v2 : Int) (s : iS) : Ew hT w d 450 0 [(0, .ref (tb_nK + 121)), (1, iv v1), (2, iv v2)] [] s (Ci hT) (m_pinOf v1 v2 s) := by
  unfold m_pinOf
  refine e_mv 1 em_450 (ce_at ce_450 0 rfl) rfl rfl ?_
  refine e_getr 4 em_450 (ce_at ce_450 1 rfl) tq_121 rfl rfl ?_
  refine e_mv 5 em_450 (ce_at ce_450 2 rfl) rfl rfl ?_
  refine e_gd fun g1 => ?_
  refine e_ild 6 em_450 (ce_at ce_450 3 rfl) tq_196 (by decide) g1 rfl ?_
  refine e_mv 7 em_450 (ce_at ce_450 4 rfl) rfl rfl ?_
  refine e_pk [0, 1, 2, 3] rfl rfl ?_
  exact tm_pinOf_7 w d hd _ _ _ _
theorem fm_pinOf (v1 : Int) (v2 : Int) (s : iS) : Fm Prod.snd L_m_pinOf G_m_pinOf s (m_pinOf v1 v2 s) := fm_gd (fm_pinOf_7 _ _ _ _)
/-! m_innerOf -/
def L_m_innerOf : List Nat := []
def G_m_innerOf : List (Nat × Nat) := []
def m_innerOf_7C (w : ev_W) (d : Nat) (v1 : Int) (v2 : Int) : (Int × iS) ⊕ ((Int × iS) ⊕ (iS)) → am_E → Prop := fun q r => q.elim (fun l => ev w d 451 7 ((fun l => [(0, .ref (tb_nK + 121)), (1, iv v1), (2, iv v2), (3, iv (l.1))]) l) [] (hT ((fun l => l.2) l)) r) (fun e => (fun e r => e.elim (fun e => ev w d 451 33 [(3, iv (e.1))] [] (hT (e.2)) r) (fun e => ev w d 451 41 [] [] (hT (e)) r)) e r)
noncomputable def m_innerOf_7b (v1 : Int) (v2 : Int) (v3 : Int) (s : iS) : Option ((Int × iS) ⊕ ((Int × iS) ⊕ (iS))) := gd (0 ≤ (v1 + 1) ∧ (v1 + 1) < 18) (gd (rg v3) (gd (rg (s 212 (v1 + 1).toNat)) (if (s 212 (v1 + 1).toNat) ≤ v3 then some (.inr (.inr s)) else gd (0 ≤ v3 ∧ v3 < 700) (bd (m_like (s 213 v3.toNat) v2 s) (fun r6 s6 => gd (rg r6) (if r6 = 0 then some (.inl ((v3 + 1), s6)) else some (.inr (.inl (v3, s6)))))))))
theorem tm_innerOf_7b (w : ev_W) (d : Nat) (hd : 1 ≤ d) (v1 : Int) (v2 : Int) (v3 : Int) (s : iS) : Ew hT w d 451 7 [(0, .ref (tb_nK + 121)), (1, iv v1), (2, iv v2), (3, iv v3)] [] s (m_innerOf_7C w d v1 v2) (m_innerOf_7b v1 v2 v3 s) := by
  unfold m_innerOf_7b
  refine e_mv 8 em_451 (ce_at ce_451 5 rfl) rfl rfl ?_
  refine e_mv 9 em_451 (ce_at ce_451 6 rfl) rfl rfl ?_
  refine e_getr 12 em_451 (ce_at ce_451 7 rfl) tq_121 rfl rfl ?_
  refine e_mv 13 em_451 (ce_at ce_451 8 rfl) rfl rfl ?_
  refine e_op 14 em_451 (ce_at ce_451 9 rfl) rfl rfl ?_
  refine e_iadd 15 em_451 rfl (ce_at ce_451 10 rfl) ?_
  refine e_gd fun g1 => ?_
  refine e_ild 16 em_451 (ce_at ce_451 11 rfl) tq_212 (by decide) g1 rfl ?_
  refine e_gd fun g2 => ?_
  refine e_gd fun g3 => ?_
  refine e_cmge 41 19 em_451 rfl rfl (ce_at ce_451 12 rfl) g2 g3 (fun h4 => ?_) (fun h4 => ?_)
  · refine e_pk [] rfl rfl ?_
    exact e_out (fun r h => h)
  · refine e_mv 20 em_451 (ce_at ce_451 13 rfl) rfl rfl ?_
    refine e_mv 21 em_451 (ce_at ce_451 14 rfl) rfl rfl ?_
    refine e_getr 24 em_451 (ce_at ce_451 15 rfl) tq_121 rfl rfl ?_
    refine e_mv 25 em_451 (ce_at ce_451 16 rfl) rfl rfl ?_
    refine e_gd fun g5 => ?_
    refine e_ild 26 em_451 (ce_at ce_451 17 rfl) tq_213 (by decide) g5 rfl ?_
    refine e_mv 27 em_451 (ce_at ce_451 18 rfl) rfl rfl ?_
    refine e_ivi 30 em_451 (ce_at ce_451 19 rfl) (by omega) (iv_v2 (by decide) tq_121 rfl) em_350 (Nat.le_of_ble_eq_true rfl) rfl (tm_like w (d - 1) (by omega) _ _ _) (fun r6 s6 => ?_)
    refine e_gd fun g7 => ?_
    refine e_ifeq 35 33 em_451 rfl rfl (ce_at ce_451 20 rfl) g7 (fun h8 => ?_) (fun h8 => ?_)
    · refine e_iinc 38 em_451 (ce_at ce_451 23 rfl) rfl (by decide) rfl ?_
      refine e_goto em_451 7 (ce_at ce_451 24 rfl) rfl ?_
      refine e_pk [0, 1, 2, 3] rfl rfl ?_
      exact e_out (fun r h => h)
    · refine e_pk [3] rfl rfl ?_
      exact e_out (fun r h => h)
theorem fm_innerOf_7b (v1 : Int) (v2 : Int) (v3 : Int) (s : iS) : Fm (fun r : (Int × iS) ⊕ ((Int × iS) ⊕ (iS)) => r.elim (fun l => l.2) (fun e => e.elim (fun e => e.2) (fun e => e))) L_m_innerOf G_m_innerOf s (m_innerOf_7b v1 v2 v3 s) := fm_gd (fm_gd (fm_gd (fm_if (fm_some md_refl) (fm_gd (fm_bd (fm_sub (fm_like _ _ _) (mem_sub_L rfl) (mem_sub_F rfl)) (fun r6 s6 => fm_gd (fm_if (fm_some md_refl) (fm_some md_refl))))))))
noncomputable def m_innerOf_7 (v1 : Int) (v2 : Int) (v3 : Int) (s : iS) : Option (Int × iS) := (lp (L := Int × iS) (E := (Int × iS) ⊕ (iS)) (fun l => m_innerOf_7b v1 v2 (l.1) (l.2)) (v3, s)).bind (fun e => e.elim (fun e => some (e.1, e.2)) (fun e => some ((-1), e)))
theorem tm_innerOf_7 (w : ev_W) (d : Nat) (hd : 1 ≤ d) (v1 : Int) (v2 : Int) (v3 : Int) (s : iS) : Ew hT w d 451 7 [(0, .ref (tb_nK + 121)), (1, iv v1), (2, iv v2), (3, iv v3)] [] s (Ci hT) (m_innerOf_7 v1 v2 v3 s) := by
  unfold m_innerOf_7
  refine e_lp (L := Int × iS) (E := (Int × iS) ⊕ (iS)) (LO := fun l => [(0, .ref (tb_nK + 121)), (1, iv v1), (2, iv v2), (3, iv (l.1))]) (LS := fun l => l.2) (CE := fun e r => e.elim (fun e => ev w d 451 33 [(3, iv (e.1))] [] (hT (e.2)) r) (fun e => ev w d 451 41 [] [] (hT (e)) r)) (fun l => tm_innerOf_7b w d hd _ _ _ _) ?_ (v3, s)
  rintro (e | e)
  · show Ew hT w d 451 33 [(3, iv (e.1))] [] e.2 (Ci hT) _
    refine e_mv 34 em_451 (ce_at ce_451 21 rfl) rfl rfl ?_
    exact e_reti em_451 (ce_at ce_451 22 rfl)
  · show Ew hT w d 451 41 [] [] e (Ci hT) _
    refine e_op 42 em_451 (ce_at ce_451 25 rfl) rfl rfl ?_
    exact e_reti em_451 (ce_at ce_451 26 rfl)
theorem fm_innerOf_7 (v1 : Int) (v2 : Int) (v3 : Int) (s : iS) : Fm Prod.snd L_m_innerOf G_m_innerOf s (m_innerOf_7 v1 v2 v3 s) := by
  unfold m_innerOf_7
  refine fm_lp (A := Int × iS) (E := (Int × iS) ⊕ (iS)) (LS := fun l => l.2) (LE := fun e => e.elim (fun e => e.2) (fun e => e)) ?_ ?_ (v3, s)
  · exact fun l => fm_innerOf_7b _ _ _ _
  · exact (by rintro (e | e); exact fm_some md_refl; exact fm_some md_refl)
noncomputable def m_innerOf (v1 : Int) (v2 : Int) (s : iS) : Option (Int × iS) := gd (0 ≤ v1 ∧ v1 < 18) (m_innerOf_7 v1 v2 (s 212 v1.toNat) s)
theorem tm_innerOf (w : ev_W) (d : Nat) (hd : 1 ≤ d) (v1 : Int) (v2 : Int) (s : iS) : Ew hT w d 451 0 [(0, .ref (tb_nK + 121)), (1, iv v1), (2, iv v2)] [] s (Ci hT) (m_innerOf v1 v2 s) := by
  unfold m_innerOf
  refine e_mv 1 em_451 (ce_at ce_451 0 rfl) rfl rfl ?_
  refine e_getr 4 em_451 (ce_at ce_451 1 rfl) tq_121 rfl rfl ?_
  refine e_mv 5 em_451 (ce_at ce_451 2 rfl) rfl rfl ?_
  refine e_gd fun g1 => ?_
  refine e_ild 6 em_451 (ce_at ce_451 3 rfl) tq_212 (by decide) g1 rfl ?_
  refine e_mv 7 em_451 (ce_at ce_451 4 rfl) rfl rfl ?_
  refine e_pk [0, 1, 2, 3] rfl rfl ?_
  exact tm_innerOf_7 w d hd _ _ _ _
theorem fm_innerOf (v1 : Int) (v2 : Int) (s : iS) : Fm Prod.snd L_m_innerOf G_m_innerOf s (m_innerOf v1 v2 s) := fm_gd (fm_innerOf_7 _ _ _ _)
/-! m_link -/
def L_m_link : List Nat := [196, 204, 205, 206, 207, 208, 209, 210, 211, 212, 213]
def G_m_link : List (Nat × Nat) := [(121, 10), (121, 11), (121, 12), (121, 134), (121, 144), (121, 148), (121, 149), (121, 150)]
noncomputable def m_link_304 (s : iS) : Option (Int × iS) := lt' (up s 121 134 ((s 121 134) + 1)) (fun s1 => some (0, s1))
theorem tm_link_304 (w : ev_W) (d : Nat) (hd : 4 ≤ d) (s : iS) : Ew hT w d 448 304 [(0, .ref (tb_nK + 121))] [] s (Cv hT) (m_link_304 s) := by
  unfold m_link_304
  refine e_mv 305 em_448 (ce_at ce_448 164 rfl) rfl rfl ?_
  refine e_mv 306 em_448 (ce_at ce_448 165 rfl) rfl rfl ?_
  refine e_get 309 em_448 (ce_at ce_448 166 rfl) tq_121 rfl rfl ?_
  refine e_op 310 em_448 (ce_at ce_448 167 rfl) rfl rfl ?_
  refine e_iadd 311 em_448 rfl (ce_at ce_448 168 rfl) ?_
  refine e_put 314 em_448 (ce_at ce_448 169 rfl) tq_121 rfl rfl rfl (fun s1 => ?_)
  exact e_retv em_448 (ce_at ce_448 170 rfl)
theorem fm_link_304 (s : iS) : Fm Prod.snd L_m_link G_m_link s (m_link_304 s) := fm_lt (md_upF (mem_F rfl)) (fun s1 => fm_some md_refl)
noncomputable def m_link_119 (s : iS) : Option (Int × iS) := bd (m_go s) (fun _ s1 => m_link_304 s1)
theorem tm_link_119 (w : ev_W) (d : Nat) (hd : 4 ≤ d) (s : iS) : Ew hT w d 448 119 [(0, .ref (tb_nK + 121))] [] s (Cv hT) (m_link_119 s) := by
  unfold m_link_119
  refine e_mv 120 em_448 (ce_at ce_448 64 rfl) rfl rfl ?_
  refine e_ivv 123 em_448 (ce_at ce_448 65 rfl) (by omega) (iv_v0 (by decide) tq_121 rfl) em_315 (Nat.le_of_ble_eq_true rfl) rfl (tm_go w (d - 1) (by omega) _) (fun r1 s1 => ?_)
  refine e_goto em_448 304 (ce_at ce_448 66 rfl) rfl ?_
  refine e_pk [0] rfl rfl ?_
  exact tm_link_304 w d hd _
theorem fm_link_119 (s : iS) : Fm Prod.snd L_m_link G_m_link s (m_link_119 s) := fm_bd (fm_sub (fm_go _) (mem_sub_L rfl) (mem_sub_F rfl)) (fun r1 s1 => fm_link_304 _)
noncomputable def m_link_250 (s : iS) : Option (Int × iS) := bd (m_go s) (fun _ s1 => bd (m_range s1) (fun _ s2 => gd (0 ≤ (s2 121 134) ∧ (s2 121 134) < 700) (lt' (up s2 209 (s2 121 134).toNat (s2 121 148)) (fun s4 => gd (0 ≤ (s4 121 134) ∧ (s4 121 134) < 700) (lt' (up s4 210 (s4 121 134).toNat (s4 121 149)) (fun s6 => gd (0 ≤ (s6 121 134) ∧ (s6 121 134) < 700) (lt' (up s6 211 (s6 121 134).toNat (s6 121 150)) (fun s8 => m_link_304 s8))))))))
theorem tm_link_250 (w : ev_W) (d : Nat) (hd : 4 ≤ d) (s : iS) : Ew hT w d 448 250 [(0, .ref (tb_nK + 121))] [] s (Cv hT) (m_link_250 s) := by
  unfold m_link_250
  refine e_mv 251 em_448 (ce_at ce_448 136 rfl) rfl rfl ?_
  refine e_ivv 254 em_448 (ce_at ce_448 137 rfl) (by omega) (iv_v0 (by decide) tq_121 rfl) em_315 (Nat.le_of_ble_eq_true rfl) rfl (tm_go w (d - 1) (by omega) _) (fun r1 s1 => ?_)
  refine e_mv 255 em_448 (ce_at ce_448 138 rfl) rfl rfl ?_
  refine e_ivv 258 em_448 (ce_at ce_448 139 rfl) (by omega) (iv_v0 (by decide) tq_121 rfl) em_449 (Nat.le_of_ble_eq_true rfl) rfl (tm_range w (d - 1) (by omega) _) (fun r2 s2 => ?_)
  refine e_mv 259 em_448 (ce_at ce_448 140 rfl) rfl rfl ?_
  refine e_getr 262 em_448 (ce_at ce_448 141 rfl) tq_121 rfl rfl ?_
  refine e_mv 263 em_448 (ce_at ce_448 142 rfl) rfl rfl ?_
  refine e_get 266 em_448 (ce_at ce_448 143 rfl) tq_121 rfl rfl ?_
  refine e_mv 267 em_448 (ce_at ce_448 144 rfl) rfl rfl ?_
  refine e_get 270 em_448 (ce_at ce_448 145 rfl) tq_121 rfl rfl ?_
  refine e_gd fun g3 => ?_
  refine e_ist 271 em_448 (ce_at ce_448 146 rfl) tq_209 (by decide) g3 rfl (fun s4 => ?_)
  refine e_mv 272 em_448 (ce_at ce_448 147 rfl) rfl rfl ?_
  refine e_getr 275 em_448 (ce_at ce_448 148 rfl) tq_121 rfl rfl ?_
  refine e_mv 276 em_448 (ce_at ce_448 149 rfl) rfl rfl ?_
  refine e_get 279 em_448 (ce_at ce_448 150 rfl) tq_121 rfl rfl ?_
  refine e_mv 280 em_448 (ce_at ce_448 151 rfl) rfl rfl ?_
  refine e_get 283 em_448 (ce_at ce_448 152 rfl) tq_121 rfl rfl ?_
  refine e_gd fun g5 => ?_
  refine e_ist 284 em_448 (ce_at ce_448 153 rfl) tq_210 (by decide) g5 rfl (fun s6 => ?_)
  refine e_mv 285 em_448 (ce_at ce_448 154 rfl) rfl rfl ?_
  refine e_getr 288 em_448 (ce_at ce_448 155 rfl) tq_121 rfl rfl ?_
  refine e_mv 289 em_448 (ce_at ce_448 156 rfl) rfl rfl ?_
  refine e_get 292 em_448 (ce_at ce_448 157 rfl) tq_121 rfl rfl ?_
  refine e_mv 293 em_448 (ce_at ce_448 158 rfl) rfl rfl ?_
  refine e_get 296 em_448 (ce_at ce_448 159 rfl) tq_121 rfl rfl ?_
  refine e_gd fun g7 => ?_
  refine e_ist 297 em_448 (ce_at ce_448 160 rfl) tq_211 (by decide) g7 rfl (fun s8 => ?_)
  refine e_goto em_448 304 (ce_at ce_448 161 rfl) rfl ?_
  refine e_pk [0] rfl rfl ?_
  exact tm_link_304 w d hd _
theorem fm_link_250 (s : iS) : Fm Prod.snd L_m_link G_m_link s (m_link_250 s) := fm_bd (fm_sub (fm_go _) (mem_sub_L rfl) (mem_sub_F rfl)) (fun r1 s1 => fm_bd (fm_sub (fm_range _) (mem_sub_L rfl) (mem_sub_F rfl)) (fun r2 s2 => fm_gd (fm_lt (md_upL (mem_L rfl)) (fun s4 => fm_gd (fm_lt (md_upL (mem_L rfl)) (fun s6 => fm_gd (fm_lt (md_upL (mem_L rfl)) (fun s8 => fm_link_304 _))))))))
noncomputable def m_link (s : iS) : Option (Int × iS) := bd (m_needName s) (fun r1 s1 => gd (rg (s1 121 11)) (if (s1 121 11) ≤ 0 then gd (0 ≤ (s1 121 134) ∧ (s1 121 134) < 700) (lt' (up s1 204 (s1 121 134).toNat r1) (fun s5 => bd (m_range s5) (fun _ s6 => gd (0 ≤ (s6 121 134) ∧ (s6 121 134) < 700) (lt' (up s6 205 (s6 121 134).toNat (s6 121 148)) (fun s8 => gd (0 ≤ (s8 121 134) ∧ (s8 121 134) < 700) (lt' (up s8 206 (s8 121 134).toNat (s8 121 149)) (fun s10 => gd (0 ≤ (s10 121 134) ∧ (s10 121 134) < 700) (lt' (up s10 207 (s10 121 134).toNat (s10 121 150)) (fun s12 => bd (m_needSign 61 s12) (fun _ s13 => gd (rg (s13 121 11)) (if (s13 121 11) ≤ 0 then gd (0 ≤ (s13 121 134) ∧ (s13 121 134) < 700) (lt' (up s13 208 (s13 121 134).toNat (s13 121 10)) (fun s17 => gd (0 ≤ (s17 121 134) ∧ (s17 121 134) < 700) (lt' (up s17 209 (s17 121 134).toNat (-1)) (fun s19 => bd (m_isWord 4 s19) (fun r20 s20 => gd (rg r20) (if r20 = 0 then bd (m_isWord 5 s20) (fun r23 s23 => gd (rg r23) (if r23 = 0 then gd (0 ≤ (s23 121 10) ∧ (s23 121 10) < 2002) (gd (rg (s23 124 (s23 121 10).toNat)) (if (s23 124 (s23 121 10).toNat) = 1 then gd (0 ≤ (s23 121 122) ∧ (s23 121 122) < 18) (lt' (up s23 196 (s23 121 122).toNat (s23 121 125)) (fun s31 => gd (0 ≤ (s31 121 122) ∧ (s31 121 122) < 18) (lt' (up s31 212 (s31 121 122).toNat (s31 121 144)) (fun s33 => bd (m_pinOf ((s23 121 122) - 1) (s33 121 10) s33) (fun r34 s34 => gd (rg r34) (if r34 = (-1) then bd (m_innerOf ((s23 121 122) - 1) (s34 121 10) s34) (fun r37 s37 => gd (rg r37) (if r37 = (-1) then gd (0 ≤ ((s23 121 122) - 1) ∧ ((s23 121 122) - 1) < 18) (bd (m_room ((s37 121 144) - (s37 212 ((s23 121 122) - 1).toNat)) 100 (s37 121 10) s37) (fun _ s41 => gd (rg (s41 121 11)) (if (s41 121 11) ≤ 0 then gd (0 ≤ (s41 121 144) ∧ (s41 121 144) < 700) (lt' (up s41 213 (s41 121 144).toNat (s41 121 10)) (fun s45 => lt' (up s45 121 144 ((s45 121 144) + 1)) (fun s46 => m_link_250 s46))) else some (0, s41)))) else m_link_250 s37)) else m_link_250 s34)))))) else bd (m_syntax s23) (fun _ s29 => m_link_304 s29))) else m_link_119 s23)) else m_link_119 s20)))))) else some (0, s13)))))))))))) else some (0, s1)))
theorem tm_link (w : ev_W) (d : Nat) (hd : 4 ≤ d) (s : iS) : Ew hT w d 448 0 [(0, .ref (tb_nK + 121))] [] s (Cv hT) (m_link s) := by
  unfold m_link
  refine e_mv 1 em_448 (ce_at ce_448 0 rfl) rfl rfl ?_
  refine e_ivi 4 em_448 (ce_at ce_448 1 rfl) (by omega) (iv_v0 (by decide) tq_121 rfl) em_332 (Nat.le_of_ble_eq_true rfl) rfl (tm_needName w (d - 1) (by omega) _) (fun r1 s1 => ?_)
  refine e_mv 5 em_448 (ce_at ce_448 2 rfl) rfl rfl ?_
  refine e_mv 6 em_448 (ce_at ce_448 3 rfl) rfl rfl ?_
  refine e_get 9 em_448 (ce_at ce_448 4 rfl) tq_121 rfl rfl ?_
  refine e_gd fun g2 => ?_
  refine e_ifle 13 12 em_448 rfl rfl (ce_at ce_448 5 rfl) g2 (fun h3 => ?_) (fun h3 => ?_)
  · refine e_mv 14 em_448 (ce_at ce_448 7 rfl) rfl rfl ?_
    refine e_getr 17 em_448 (ce_at ce_448 8 rfl) tq_121 rfl rfl ?_
    refine e_mv 18 em_448 (ce_at ce_448 9 rfl) rfl rfl ?_
    refine e_get 21 em_448 (ce_at ce_448 10 rfl) tq_121 rfl rfl ?_
    refine e_mv 22 em_448 (ce_at ce_448 11 rfl) rfl rfl ?_
    refine e_gd fun g4 => ?_
    refine e_ist 23 em_448 (ce_at ce_448 12 rfl) tq_204 (by decide) g4 rfl (fun s5 => ?_)
    refine e_mv 24 em_448 (ce_at ce_448 13 rfl) rfl rfl ?_
    refine e_ivv 27 em_448 (ce_at ce_448 14 rfl) (by omega) (iv_v0 (by decide) tq_121 rfl) em_449 (Nat.le_of_ble_eq_true rfl) rfl (tm_range w (d - 1) (by omega) _) (fun r6 s6 => ?_)
    refine e_mv 28 em_448 (ce_at ce_448 15 rfl) rfl rfl ?_
    refine e_getr 31 em_448 (ce_at ce_448 16 rfl) tq_121 rfl rfl ?_
    refine e_mv 32 em_448 (ce_at ce_448 17 rfl) rfl rfl ?_
    refine e_get 35 em_448 (ce_at ce_448 18 rfl) tq_121 rfl rfl ?_
    refine e_mv 36 em_448 (ce_at ce_448 19 rfl) rfl rfl ?_
    refine e_get 39 em_448 (ce_at ce_448 20 rfl) tq_121 rfl rfl ?_
    refine e_gd fun g7 => ?_
    refine e_ist 40 em_448 (ce_at ce_448 21 rfl) tq_205 (by decide) g7 rfl (fun s8 => ?_)
    refine e_mv 41 em_448 (ce_at ce_448 22 rfl) rfl rfl ?_
    refine e_getr 44 em_448 (ce_at ce_448 23 rfl) tq_121 rfl rfl ?_
    refine e_mv 45 em_448 (ce_at ce_448 24 rfl) rfl rfl ?_
    refine e_get 48 em_448 (ce_at ce_448 25 rfl) tq_121 rfl rfl ?_
    refine e_mv 49 em_448 (ce_at ce_448 26 rfl) rfl rfl ?_
    refine e_get 52 em_448 (ce_at ce_448 27 rfl) tq_121 rfl rfl ?_
    refine e_gd fun g9 => ?_
    refine e_ist 53 em_448 (ce_at ce_448 28 rfl) tq_206 (by decide) g9 rfl (fun s10 => ?_)
    refine e_mv 54 em_448 (ce_at ce_448 29 rfl) rfl rfl ?_
    refine e_getr 57 em_448 (ce_at ce_448 30 rfl) tq_121 rfl rfl ?_
    refine e_mv 58 em_448 (ce_at ce_448 31 rfl) rfl rfl ?_
    refine e_get 61 em_448 (ce_at ce_448 32 rfl) tq_121 rfl rfl ?_
    refine e_mv 62 em_448 (ce_at ce_448 33 rfl) rfl rfl ?_
    refine e_get 65 em_448 (ce_at ce_448 34 rfl) tq_121 rfl rfl ?_
    refine e_gd fun g11 => ?_
    refine e_ist 66 em_448 (ce_at ce_448 35 rfl) tq_207 (by decide) g11 rfl (fun s12 => ?_)
    refine e_mv 67 em_448 (ce_at ce_448 36 rfl) rfl rfl ?_
    refine e_bip 69 em_448 (ce_at ce_448 37 rfl) (by decide) rfl ?_
    refine e_ivv 72 em_448 (ce_at ce_448 38 rfl) (by omega) (iv_v1 (by decide) tq_121 rfl) em_325 (Nat.le_of_ble_eq_true rfl) rfl (tm_needSign w (d - 1) (by omega) _ _) (fun r13 s13 => ?_)
    refine e_mv 73 em_448 (ce_at ce_448 39 rfl) rfl rfl ?_
    refine e_get 76 em_448 (ce_at ce_448 40 rfl) tq_121 rfl rfl ?_
    refine e_gd fun g14 => ?_
    refine e_ifle 80 79 em_448 rfl rfl (ce_at ce_448 41 rfl) g14 (fun h15 => ?_) (fun h15 => ?_)
    · refine e_mv 81 em_448 (ce_at ce_448 43 rfl) rfl rfl ?_
      refine e_getr 84 em_448 (ce_at ce_448 44 rfl) tq_121 rfl rfl ?_
      refine e_mv 85 em_448 (ce_at ce_448 45 rfl) rfl rfl ?_
      refine e_get 88 em_448 (ce_at ce_448 46 rfl) tq_121 rfl rfl ?_
      refine e_mv 89 em_448 (ce_at ce_448 47 rfl) rfl rfl ?_
      refine e_get 92 em_448 (ce_at ce_448 48 rfl) tq_121 rfl rfl ?_
      refine e_gd fun g16 => ?_
      refine e_ist 93 em_448 (ce_at ce_448 49 rfl) tq_208 (by decide) g16 rfl (fun s17 => ?_)
      refine e_mv 94 em_448 (ce_at ce_448 50 rfl) rfl rfl ?_
      refine e_getr 97 em_448 (ce_at ce_448 51 rfl) tq_121 rfl rfl ?_
      refine e_mv 98 em_448 (ce_at ce_448 52 rfl) rfl rfl ?_
      refine e_get 101 em_448 (ce_at ce_448 53 rfl) tq_121 rfl rfl ?_
      refine e_op 102 em_448 (ce_at ce_448 54 rfl) rfl rfl ?_
      refine e_gd fun g18 => ?_
      refine e_ist 103 em_448 (ce_at ce_448 55 rfl) tq_209 (by decide) g18 rfl (fun s19 => ?_)
      refine e_mv 104 em_448 (ce_at ce_448 56 rfl) rfl rfl ?_
      refine e_op 105 em_448 (ce_at ce_448 57 rfl) rfl rfl ?_
      refine e_ivi 108 em_448 (ce_at ce_448 58 rfl) (by omega) (iv_v1 (by decide) tq_121 rfl) em_314 (Nat.le_of_ble_eq_true rfl) rfl (tm_isWord w (d - 1) (by omega) _ _) (fun r20 s20 => ?_)
      refine e_gd fun g21 => ?_
      refine e_ifne 119 111 em_448 rfl rfl (ce_at ce_448 59 rfl) g21 (fun h22 => ?_) (fun h22 => ?_)
      · refine e_pk [0] rfl rfl ?_
        exact tm_link_119 w d hd _
      · refine e_mv 112 em_448 (ce_at ce_448 60 rfl) rfl rfl ?_
        refine e_op 113 em_448 (ce_at ce_448 61 rfl) rfl rfl ?_
        refine e_ivi 116 em_448 (ce_at ce_448 62 rfl) (by omega) (iv_v1 (by decide) tq_121 rfl) em_314 (Nat.le_of_ble_eq_true rfl) rfl (tm_isWord w (d - 1) (by omega) _ _) (fun r23 s23 => ?_)
        refine e_gd fun g24 => ?_
        refine e_ifeq 126 119 em_448 rfl rfl (ce_at ce_448 63 rfl) g24 (fun h25 => ?_) (fun h25 => ?_)
        · refine e_mv 127 em_448 (ce_at ce_448 67 rfl) rfl rfl ?_
          refine e_getr 130 em_448 (ce_at ce_448 68 rfl) tq_121 rfl rfl ?_
          refine e_mv 131 em_448 (ce_at ce_448 69 rfl) rfl rfl ?_
          refine e_get 134 em_448 (ce_at ce_448 70 rfl) tq_121 rfl rfl ?_
          refine e_gd fun g26 => ?_
          refine e_ild 135 em_448 (ce_at ce_448 71 rfl) tq_124 (by decide) g26 rfl ?_
          refine e_op 136 em_448 (ce_at ce_448 72 rfl) rfl rfl ?_
          refine e_gd fun g27 => ?_
          refine e_cmne 300 139 em_448 rfl rfl (ce_at ce_448 73 rfl) g27 (by decide) (fun h28 => ?_) (fun h28 => ?_)
          · refine e_mv 301 em_448 (ce_at ce_448 162 rfl) rfl rfl ?_
            refine e_ivv 304 em_448 (ce_at ce_448 163 rfl) (by omega) (iv_v0 (by decide) tq_121 rfl) em_316 (Nat.le_of_ble_eq_true rfl) rfl (tm_syntax w (d - 1) (by omega) _) (fun r29 s29 => ?_)
            refine e_pk [0] rfl rfl ?_
            exact tm_link_304 w d hd _
          · refine e_mv 140 em_448 (ce_at ce_448 74 rfl) rfl rfl ?_
            refine e_get 143 em_448 (ce_at ce_448 75 rfl) tq_121 rfl rfl ?_
            refine e_op 144 em_448 (ce_at ce_448 76 rfl) rfl rfl ?_
            refine e_isub 145 em_448 rfl (ce_at ce_448 77 rfl) ?_
            refine e_mv 146 em_448 (ce_at ce_448 78 rfl) rfl rfl ?_
            refine e_mv 147 em_448 (ce_at ce_448 79 rfl) rfl rfl ?_
            refine e_getr 150 em_448 (ce_at ce_448 80 rfl) tq_121 rfl rfl ?_
            refine e_mv 151 em_448 (ce_at ce_448 81 rfl) rfl rfl ?_
            refine e_get 154 em_448 (ce_at ce_448 82 rfl) tq_121 rfl rfl ?_
            refine e_mv 155 em_448 (ce_at ce_448 83 rfl) rfl rfl ?_
            refine e_get 158 em_448 (ce_at ce_448 84 rfl) tq_121 rfl rfl ?_
            refine e_gd fun g30 => ?_
            refine e_ist 159 em_448 (ce_at ce_448 85 rfl) tq_196 (by decide) g30 rfl (fun s31 => ?_)
            refine e_mv 160 em_448 (ce_at ce_448 86 rfl) rfl rfl ?_
            refine e_getr 163 em_448 (ce_at ce_448 87 rfl) tq_121 rfl rfl ?_
            refine e_mv 164 em_448 (ce_at ce_448 88 rfl) rfl rfl ?_
            refine e_get 167 em_448 (ce_at ce_448 89 rfl) tq_121 rfl rfl ?_
            refine e_mv 168 em_448 (ce_at ce_448 90 rfl) rfl rfl ?_
            refine e_get 171 em_448 (ce_at ce_448 91 rfl) tq_121 rfl rfl ?_
            refine e_gd fun g32 => ?_
            refine e_ist 172 em_448 (ce_at ce_448 92 rfl) tq_212 (by decide) g32 rfl (fun s33 => ?_)
            refine e_mv 173 em_448 (ce_at ce_448 93 rfl) rfl rfl ?_
            refine e_mv 174 em_448 (ce_at ce_448 94 rfl) rfl rfl ?_
            refine e_mv 175 em_448 (ce_at ce_448 95 rfl) rfl rfl ?_
            refine e_get 178 em_448 (ce_at ce_448 96 rfl) tq_121 rfl rfl ?_
            refine e_ivi 181 em_448 (ce_at ce_448 97 rfl) (by omega) (iv_v2 (by decide) tq_121 rfl) em_450 (Nat.le_of_ble_eq_true rfl) rfl (tm_pinOf w (d - 1) (by omega) _ _ _) (fun r34 s34 => ?_)
            refine e_op 182 em_448 (ce_at ce_448 98 rfl) rfl rfl ?_
            refine e_gd fun g35 => ?_
            refine e_cmne 250 185 em_448 rfl rfl (ce_at ce_448 99 rfl) g35 (by decide) (fun h36 => ?_) (fun h36 => ?_)
            · refine e_pk [0] rfl rfl ?_
              exact tm_link_250 w d hd _
            · refine e_mv 186 em_448 (ce_at ce_448 100 rfl) rfl rfl ?_
              refine e_mv 187 em_448 (ce_at ce_448 101 rfl) rfl rfl ?_
              refine e_mv 188 em_448 (ce_at ce_448 102 rfl) rfl rfl ?_
              refine e_get 191 em_448 (ce_at ce_448 103 rfl) tq_121 rfl rfl ?_
              refine e_ivi 194 em_448 (ce_at ce_448 104 rfl) (by omega) (iv_v2 (by decide) tq_121 rfl) em_451 (Nat.le_of_ble_eq_true rfl) rfl (tm_innerOf w (d - 1) (by omega) _ _ _) (fun r37 s37 => ?_)
              refine e_op 195 em_448 (ce_at ce_448 105 rfl) rfl rfl ?_
              refine e_gd fun g38 => ?_
              refine e_cmne 250 198 em_448 rfl rfl (ce_at ce_448 106 rfl) g38 (by decide) (fun h39 => ?_) (fun h39 => ?_)
              · refine e_pk [0] rfl rfl ?_
                exact tm_link_250 w d hd _
              · refine e_mv 199 em_448 (ce_at ce_448 107 rfl) rfl rfl ?_
                refine e_mv 200 em_448 (ce_at ce_448 108 rfl) rfl rfl ?_
                refine e_get 203 em_448 (ce_at ce_448 109 rfl) tq_121 rfl rfl ?_
                refine e_mv 204 em_448 (ce_at ce_448 110 rfl) rfl rfl ?_
                refine e_getr 207 em_448 (ce_at ce_448 111 rfl) tq_121 rfl rfl ?_
                refine e_mv 208 em_448 (ce_at ce_448 112 rfl) rfl rfl ?_
                refine e_gd fun g40 => ?_
                refine e_ild 209 em_448 (ce_at ce_448 113 rfl) tq_212 (by decide) g40 rfl ?_
                refine e_isub 210 em_448 rfl (ce_at ce_448 114 rfl) ?_
                refine e_bip 212 em_448 (ce_at ce_448 115 rfl) (by decide) rfl ?_
                refine e_mv 213 em_448 (ce_at ce_448 116 rfl) rfl rfl ?_
                refine e_get 216 em_448 (ce_at ce_448 117 rfl) tq_121 rfl rfl ?_
                refine e_ivv 219 em_448 (ce_at ce_448 118 rfl) (by omega) (iv_v3 (by decide) tq_121 rfl) em_318 (Nat.le_of_ble_eq_true rfl) rfl (tm_room w (d - 1) (by omega) _ _ _ _) (fun r41 s41 => ?_)
                refine e_mv 220 em_448 (ce_at ce_448 119 rfl) rfl rfl ?_
                refine e_get 223 em_448 (ce_at ce_448 120 rfl) tq_121 rfl rfl ?_
                refine e_gd fun g42 => ?_
                refine e_ifle 227 226 em_448 rfl rfl (ce_at ce_448 121 rfl) g42 (fun h43 => ?_) (fun h43 => ?_)
                · refine e_mv 228 em_448 (ce_at ce_448 123 rfl) rfl rfl ?_
                  refine e_getr 231 em_448 (ce_at ce_448 124 rfl) tq_121 rfl rfl ?_
                  refine e_mv 232 em_448 (ce_at ce_448 125 rfl) rfl rfl ?_
                  refine e_get 235 em_448 (ce_at ce_448 126 rfl) tq_121 rfl rfl ?_
                  refine e_mv 236 em_448 (ce_at ce_448 127 rfl) rfl rfl ?_
                  refine e_get 239 em_448 (ce_at ce_448 128 rfl) tq_121 rfl rfl ?_
                  refine e_gd fun g44 => ?_
                  refine e_ist 240 em_448 (ce_at ce_448 129 rfl) tq_213 (by decide) g44 rfl (fun s45 => ?_)
                  refine e_mv 241 em_448 (ce_at ce_448 130 rfl) rfl rfl ?_
                  refine e_mv 242 em_448 (ce_at ce_448 131 rfl) rfl rfl ?_
                  refine e_get 245 em_448 (ce_at ce_448 132 rfl) tq_121 rfl rfl ?_
                  refine e_op 246 em_448 (ce_at ce_448 133 rfl) rfl rfl ?_
                  refine e_iadd 247 em_448 rfl (ce_at ce_448 134 rfl) ?_
                  refine e_put 250 em_448 (ce_at ce_448 135 rfl) tq_121 rfl rfl rfl (fun s46 => ?_)
                  refine e_pk [0] rfl rfl ?_
                  exact tm_link_250 w d hd _
                · exact e_retv em_448 (ce_at ce_448 122 rfl)
        · refine e_pk [0] rfl rfl ?_
          exact tm_link_119 w d hd _
    · exact e_retv em_448 (ce_at ce_448 42 rfl)
  · exact e_retv em_448 (ce_at ce_448 6 rfl)
theorem fm_link (s : iS) : Fm Prod.snd L_m_link G_m_link s (m_link s) := fm_bd (fm_sub (fm_needName _) (mem_sub_L rfl) (mem_sub_F rfl)) (fun r1 s1 => fm_gd (fm_if (fm_gd (fm_lt (md_upL (mem_L rfl)) (fun s5 => fm_bd (fm_sub (fm_range _) (mem_sub_L rfl) (mem_sub_F rfl)) (fun r6 s6 => fm_gd (fm_lt (md_upL (mem_L rfl)) (fun s8 => fm_gd (fm_lt (md_upL (mem_L rfl)) (fun s10 => fm_gd (fm_lt (md_upL (mem_L rfl)) (fun s12 => fm_bd (fm_sub (fm_needSign _ _) (mem_sub_L rfl) (mem_sub_F rfl)) (fun r13 s13 => fm_gd (fm_if (fm_gd (fm_lt (md_upL (mem_L rfl)) (fun s17 => fm_gd (fm_lt (md_upL (mem_L rfl)) (fun s19 => fm_bd (fm_sub (fm_isWord _ _) (mem_sub_L rfl) (mem_sub_F rfl)) (fun r20 s20 => fm_gd (fm_if (fm_bd (fm_sub (fm_isWord _ _) (mem_sub_L rfl) (mem_sub_F rfl)) (fun r23 s23 => fm_gd (fm_if (fm_gd (fm_gd (fm_if (fm_gd (fm_lt (md_upL (mem_L rfl)) (fun s31 => fm_gd (fm_lt (md_upL (mem_L rfl)) (fun s33 => fm_bd (fm_sub (fm_pinOf _ _ _) (mem_sub_L rfl) (mem_sub_F rfl)) (fun r34 s34 => fm_gd (fm_if (fm_bd (fm_sub (fm_innerOf _ _ _) (mem_sub_L rfl) (mem_sub_F rfl)) (fun r37 s37 => fm_gd (fm_if (fm_gd (fm_bd (fm_sub (fm_room _ _ _ _) (mem_sub_L rfl) (mem_sub_F rfl)) (fun r41 s41 => fm_gd (fm_if (fm_gd (fm_lt (md_upL (mem_L rfl)) (fun s45 => fm_lt (md_upF (mem_F rfl)) (fun s46 => fm_link_250 _)))) (fm_some md_refl))))) (fm_link_250 _)))) (fm_link_250 _)))))))) (fm_bd (fm_sub (fm_syntax _) (mem_sub_L rfl) (mem_sub_F rfl)) (fun r29 s29 => fm_link_304 _))))) (fm_link_119 _)))) (fm_link_119 _)))))))) (fm_some md_refl))))))))))))) (fm_some md_refl)))
/-! m_part -/
def L_m_part : List Nat := [196, 202, 203, 204, 205, 206, 207, 208, 209, 210, 211, 212, 213]
def G_m_part : List (Nat × Nat) := [(121, 10), (121, 11), (121, 12), (121, 131), (121, 134), (121, 144), (121, 148), (121, 149), (121, 150)]
def m_part_100C (w : ev_W) (d : Nat) : (Int × iS) ⊕ (iS) → am_E → Prop := fun q r => q.elim (fun l => ev w d 447 100 ((fun l => [(0, .ref (tb_nK + 121)), (1, iv (l.1))]) l) [] (hT ((fun l => l.2) l)) r) (fun e => (fun e r => ev w d 447 133 [(0, .ref (tb_nK + 121))] [] (hT (e)) r) e r)
noncomputable def m_part_100b (v1 : Int) (s : iS) : Option ((Int × iS) ⊕ (iS)) := gd (rg v1) (if v1 = 0 then some (.inr s) else gd (rg (s 121 11)) (if (s 121 11) = 0 then bd (m_link s) (fun _ s5 => bd (m_isSign 44 s5) (fun r6 s6 => gd (rg r6) (if r6 = 0 then some (.inl (r6, s6)) else bd (m_go s6) (fun _ s9 => some (.inl (r6, s9)))))) else some (.inr s)))
theorem tm_part_100b (w : ev_W) (d : Nat) (hd : 5 ≤ d) (v1 : Int) (s : iS) : Ew hT w d 447 100 [(0, .ref (tb_nK + 121)), (1, iv v1)] [] s (m_part_100C w d) (m_part_100b v1 s) := by
  unfold m_part_100b
  refine e_mv 101 em_447 (ce_at ce_447 56 rfl) rfl rfl ?_
  refine e_gd fun g1 => ?_
  refine e_ifeq 133 104 em_447 rfl rfl (ce_at ce_447 57 rfl) g1 (fun h2 => ?_) (fun h2 => ?_)
  · refine e_pk [0] rfl rfl ?_
    exact e_out (fun r h => h)
  · refine e_mv 105 em_447 (ce_at ce_447 58 rfl) rfl rfl ?_
    refine e_get 108 em_447 (ce_at ce_447 59 rfl) tq_121 rfl rfl ?_
    refine e_gd fun g3 => ?_
    refine e_ifne 133 111 em_447 rfl rfl (ce_at ce_447 60 rfl) g3 (fun h4 => ?_) (fun h4 => ?_)
    · refine e_pk [0] rfl rfl ?_
      exact e_out (fun r h => h)
    · refine e_mv 112 em_447 (ce_at ce_447 61 rfl) rfl rfl ?_
      refine e_ivv 115 em_447 (ce_at ce_447 62 rfl) (by omega) (iv_v0 (by decide) tq_121 rfl) em_448 (Nat.le_of_ble_eq_true rfl) rfl (tm_link w (d - 1) (by omega) _) (fun r5 s5 => ?_)
      refine e_mv 116 em_447 (ce_at ce_447 63 rfl) rfl rfl ?_
      refine e_bip 118 em_447 (ce_at ce_447 64 rfl) (by decide) rfl ?_
      refine e_ivi 121 em_447 (ce_at ce_447 65 rfl) (by omega) (iv_v1 (by decide) tq_121 rfl) em_320 (Nat.le_of_ble_eq_true rfl) rfl (tm_isSign w (d - 1) (by omega) _ _) (fun r6 s6 => ?_)
      refine e_mv 122 em_447 (ce_at ce_447 66 rfl) rfl rfl ?_
      refine e_mv 123 em_447 (ce_at ce_447 67 rfl) rfl rfl ?_
      refine e_gd fun g7 => ?_
      refine e_ifeq 100 126 em_447 rfl rfl (ce_at ce_447 68 rfl) g7 (fun h8 => ?_) (fun h8 => ?_)
      · refine e_pk [0, 1] rfl rfl ?_
        exact e_out (fun r h => h)
      · refine e_mv 127 em_447 (ce_at ce_447 69 rfl) rfl rfl ?_
        refine e_ivv 130 em_447 (ce_at ce_447 70 rfl) (by omega) (iv_v0 (by decide) tq_121 rfl) em_315 (Nat.le_of_ble_eq_true rfl) rfl (tm_go w (d - 1) (by omega) _) (fun r9 s9 => ?_)
        refine e_goto em_447 100 (ce_at ce_447 71 rfl) rfl ?_
        refine e_pk [0, 1] rfl rfl ?_
        exact e_out (fun r h => h)
theorem fm_part_100b (v1 : Int) (s : iS) : Fm (fun r : (Int × iS) ⊕ (iS) => r.elim (fun l => l.2) (fun e => e)) L_m_part G_m_part s (m_part_100b v1 s) := fm_gd (fm_if (fm_some md_refl) (fm_gd (fm_if (fm_bd (fm_sub (fm_link _) (mem_sub_L rfl) (mem_sub_F rfl)) (fun r5 s5 => fm_bd (fm_sub (fm_isSign _ _) (mem_sub_L rfl) (mem_sub_F rfl)) (fun r6 s6 => fm_gd (fm_if (fm_some md_refl) (fm_bd (fm_sub (fm_go _) (mem_sub_L rfl) (mem_sub_F rfl)) (fun r9 s9 => fm_some md_refl)))))) (fm_some md_refl))))
noncomputable def m_part_133 (s : iS) : Option (Int × iS) := bd (m_needSign 41 s) (fun _ s1 => bd (m_needSign 59 s1) (fun _ s2 => some (0, s2)))
theorem tm_part_133 (w : ev_W) (d : Nat) (hd : 5 ≤ d) (s : iS) : Ew hT w d 447 133 [(0, .ref (tb_nK + 121))] [] s (Cv hT) (m_part_133 s) := by
  unfold m_part_133
  refine e_mv 134 em_447 (ce_at ce_447 72 rfl) rfl rfl ?_
  refine e_bip 136 em_447 (ce_at ce_447 73 rfl) (by decide) rfl ?_
  refine e_ivv 139 em_447 (ce_at ce_447 74 rfl) (by omega) (iv_v1 (by decide) tq_121 rfl) em_325 (Nat.le_of_ble_eq_true rfl) rfl (tm_needSign w (d - 1) (by omega) _ _) (fun r1 s1 => ?_)
  refine e_mv 140 em_447 (ce_at ce_447 75 rfl) rfl rfl ?_
  refine e_bip 142 em_447 (ce_at ce_447 76 rfl) (by decide) rfl ?_
  refine e_ivv 145 em_447 (ce_at ce_447 77 rfl) (by omega) (iv_v1 (by decide) tq_121 rfl) em_325 (Nat.le_of_ble_eq_true rfl) rfl (tm_needSign w (d - 1) (by omega) _ _) (fun r2 s2 => ?_)
  exact e_retv em_447 (ce_at ce_447 78 rfl)
theorem fm_part_133 (s : iS) : Fm Prod.snd L_m_part G_m_part s (m_part_133 s) := fm_bd (fm_sub (fm_needSign _ _) (mem_sub_L rfl) (mem_sub_F rfl)) (fun r1 s1 => fm_bd (fm_sub (fm_needSign _ _) (mem_sub_L rfl) (mem_sub_F rfl)) (fun r2 s2 => fm_some md_refl))
noncomputable def m_part_100 (v1 : Int) (s : iS) : Option (Int × iS) := (lp (L := Int × iS) (E := iS) (fun l => m_part_100b (l.1) (l.2)) (v1, s)).bind (fun e => m_part_133 e)
theorem tm_part_100 (w : ev_W) (d : Nat) (hd : 5 ≤ d) (v1 : Int) (s : iS) : Ew hT w d 447 100 [(0, .ref (tb_nK + 121)), (1, iv v1)] [] s (Cv hT) (m_part_100 v1 s) := by
  unfold m_part_100
  refine e_lp (L := Int × iS) (E := iS) (LO := fun l => [(0, .ref (tb_nK + 121)), (1, iv (l.1))]) (LS := fun l => l.2) (CE := fun e r => ev w d 447 133 [(0, .ref (tb_nK + 121))] [] (hT (e)) r) (fun l => tm_part_100b w d hd _ _) ?_ (v1, s)
  intro e
  show Ew hT w d 447 133 [(0, .ref (tb_nK + 121))] [] e (Cv hT) _
  refine e_pk [0] rfl rfl ?_
  exact tm_part_133 w d hd _
theorem fm_part_100 (v1 : Int) (s : iS) : Fm Prod.snd L_m_part G_m_part s (m_part_100 v1 s) := by
  unfold m_part_100
  refine fm_lp (A := Int × iS) (E := iS) (LS := fun l => l.2) (LE := fun e => e) ?_ ?_ (v1, s)
  · exact fun l => fm_part_100b _ _
  · exact (fun e => fm_part_133 _)
noncomputable def m_part (s : iS) : Option (Int × iS) := gd (0 ≤ (s 121 10) ∧ (s 121 10) < 2002) (gd (rg (s 124 (s 121 10).toNat)) (if (s 124 (s 121 10).toNat) = 1 then gd (0 ≤ ((s 121 122) - 1) ∧ ((s 121 122) - 1) < 18) (bd (m_room ((s 121 131) - (s 201 ((s 121 122) - 1).toNat)) 24 (s 121 10) s) (fun _ s5 => gd (rg (s5 121 11)) (if (s5 121 11) ≤ 0 then gd (0 ≤ (s5 121 131) ∧ (s5 121 131) < 400) (lt' (up s5 202 (s5 121 131).toNat (s5 121 10)) (fun s9 => gd (0 ≤ (s9 121 131) ∧ (s9 121 131) < 401) (lt' (up s9 203 (s9 121 131).toNat (s9 121 134)) (fun s11 => lt' (up s11 121 131 ((s11 121 131) + 1)) (fun s12 => bd (m_go s12) (fun _ s13 => bd (m_needSign 40 s13) (fun _ s14 => m_part_100 1 s14))))))) else some (0, s5)))) else bd (m_syntax s) (fun _ s15 => some (0, s15))))
theorem tm_part (w : ev_W) (d : Nat) (hd : 5 ≤ d) (s : iS) : Ew hT w d 447 0 [(0, .ref (tb_nK + 121))] [] s (Cv hT) (m_part s) := by
  unfold m_part
  refine e_mv 1 em_447 (ce_at ce_447 0 rfl) rfl rfl ?_
  refine e_getr 4 em_447 (ce_at ce_447 1 rfl) tq_121 rfl rfl ?_
  refine e_mv 5 em_447 (ce_at ce_447 2 rfl) rfl rfl ?_
  refine e_get 8 em_447 (ce_at ce_447 3 rfl) tq_121 rfl rfl ?_
  refine e_gd fun g1 => ?_
  refine e_ild 9 em_447 (ce_at ce_447 4 rfl) tq_124 (by decide) g1 rfl ?_
  refine e_op 10 em_447 (ce_at ce_447 5 rfl) rfl rfl ?_
  refine e_gd fun g2 => ?_
  refine e_cmeq 18 13 em_447 rfl rfl (ce_at ce_447 6 rfl) g2 (by decide) (fun h3 => ?_) (fun h3 => ?_)
  · refine e_mv 19 em_447 (ce_at ce_447 10 rfl) rfl rfl ?_
    refine e_mv 20 em_447 (ce_at ce_447 11 rfl) rfl rfl ?_
    refine e_get 23 em_447 (ce_at ce_447 12 rfl) tq_121 rfl rfl ?_
    refine e_mv 24 em_447 (ce_at ce_447 13 rfl) rfl rfl ?_
    refine e_getr 27 em_447 (ce_at ce_447 14 rfl) tq_121 rfl rfl ?_
    refine e_mv 28 em_447 (ce_at ce_447 15 rfl) rfl rfl ?_
    refine e_get 31 em_447 (ce_at ce_447 16 rfl) tq_121 rfl rfl ?_
    refine e_op 32 em_447 (ce_at ce_447 17 rfl) rfl rfl ?_
    refine e_isub 33 em_447 rfl (ce_at ce_447 18 rfl) ?_
    refine e_gd fun g4 => ?_
    refine e_ild 34 em_447 (ce_at ce_447 19 rfl) tq_201 (by decide) g4 rfl ?_
    refine e_isub 35 em_447 rfl (ce_at ce_447 20 rfl) ?_
    refine e_bip 37 em_447 (ce_at ce_447 21 rfl) (by decide) rfl ?_
    refine e_mv 38 em_447 (ce_at ce_447 22 rfl) rfl rfl ?_
    refine e_get 41 em_447 (ce_at ce_447 23 rfl) tq_121 rfl rfl ?_
    refine e_ivv 44 em_447 (ce_at ce_447 24 rfl) (by omega) (iv_v3 (by decide) tq_121 rfl) em_318 (Nat.le_of_ble_eq_true rfl) rfl (tm_room w (d - 1) (by omega) _ _ _ _) (fun r5 s5 => ?_)
    refine e_mv 45 em_447 (ce_at ce_447 25 rfl) rfl rfl ?_
    refine e_get 48 em_447 (ce_at ce_447 26 rfl) tq_121 rfl rfl ?_
    refine e_gd fun g6 => ?_
    refine e_ifle 52 51 em_447 rfl rfl (ce_at ce_447 27 rfl) g6 (fun h7 => ?_) (fun h7 => ?_)
    · refine e_mv 53 em_447 (ce_at ce_447 29 rfl) rfl rfl ?_
      refine e_getr 56 em_447 (ce_at ce_447 30 rfl) tq_121 rfl rfl ?_
      refine e_mv 57 em_447 (ce_at ce_447 31 rfl) rfl rfl ?_
      refine e_get 60 em_447 (ce_at ce_447 32 rfl) tq_121 rfl rfl ?_
      refine e_mv 61 em_447 (ce_at ce_447 33 rfl) rfl rfl ?_
      refine e_get 64 em_447 (ce_at ce_447 34 rfl) tq_121 rfl rfl ?_
      refine e_gd fun g8 => ?_
      refine e_ist 65 em_447 (ce_at ce_447 35 rfl) tq_202 (by decide) g8 rfl (fun s9 => ?_)
      refine e_mv 66 em_447 (ce_at ce_447 36 rfl) rfl rfl ?_
      refine e_getr 69 em_447 (ce_at ce_447 37 rfl) tq_121 rfl rfl ?_
      refine e_mv 70 em_447 (ce_at ce_447 38 rfl) rfl rfl ?_
      refine e_get 73 em_447 (ce_at ce_447 39 rfl) tq_121 rfl rfl ?_
      refine e_mv 74 em_447 (ce_at ce_447 40 rfl) rfl rfl ?_
      refine e_get 77 em_447 (ce_at ce_447 41 rfl) tq_121 rfl rfl ?_
      refine e_gd fun g10 => ?_
      refine e_ist 78 em_447 (ce_at ce_447 42 rfl) tq_203 (by decide) g10 rfl (fun s11 => ?_)
      refine e_mv 79 em_447 (ce_at ce_447 43 rfl) rfl rfl ?_
      refine e_mv 80 em_447 (ce_at ce_447 44 rfl) rfl rfl ?_
      refine e_get 83 em_447 (ce_at ce_447 45 rfl) tq_121 rfl rfl ?_
      refine e_op 84 em_447 (ce_at ce_447 46 rfl) rfl rfl ?_
      refine e_iadd 85 em_447 rfl (ce_at ce_447 47 rfl) ?_
      refine e_put 88 em_447 (ce_at ce_447 48 rfl) tq_121 rfl rfl rfl (fun s12 => ?_)
      refine e_mv 89 em_447 (ce_at ce_447 49 rfl) rfl rfl ?_
      refine e_ivv 92 em_447 (ce_at ce_447 50 rfl) (by omega) (iv_v0 (by decide) tq_121 rfl) em_315 (Nat.le_of_ble_eq_true rfl) rfl (tm_go w (d - 1) (by omega) _) (fun r13 s13 => ?_)
      refine e_mv 93 em_447 (ce_at ce_447 51 rfl) rfl rfl ?_
      refine e_bip 95 em_447 (ce_at ce_447 52 rfl) (by decide) rfl ?_
      refine e_ivv 98 em_447 (ce_at ce_447 53 rfl) (by omega) (iv_v1 (by decide) tq_121 rfl) em_325 (Nat.le_of_ble_eq_true rfl) rfl (tm_needSign w (d - 1) (by omega) _ _) (fun r14 s14 => ?_)
      refine e_op 99 em_447 (ce_at ce_447 54 rfl) rfl rfl ?_
      refine e_mv 100 em_447 (ce_at ce_447 55 rfl) rfl rfl ?_
      refine e_pk [0, 1] rfl rfl ?_
      exact tm_part_100 w d hd _ _
    · exact e_retv em_447 (ce_at ce_447 28 rfl)
  · refine e_mv 14 em_447 (ce_at ce_447 7 rfl) rfl rfl ?_
    refine e_ivv 17 em_447 (ce_at ce_447 8 rfl) (by omega) (iv_v0 (by decide) tq_121 rfl) em_316 (Nat.le_of_ble_eq_true rfl) rfl (tm_syntax w (d - 1) (by omega) _) (fun r15 s15 => ?_)
    exact e_retv em_447 (ce_at ce_447 9 rfl)
theorem fm_part (s : iS) : Fm Prod.snd L_m_part G_m_part s (m_part s) := fm_gd (fm_gd (fm_if (fm_gd (fm_bd (fm_sub (fm_room _ _ _ _) (mem_sub_L rfl) (mem_sub_F rfl)) (fun r5 s5 => fm_gd (fm_if (fm_gd (fm_lt (md_upL (mem_L rfl)) (fun s9 => fm_gd (fm_lt (md_upL (mem_L rfl)) (fun s11 => fm_lt (md_upF (mem_F rfl)) (fun s12 => fm_bd (fm_sub (fm_go _) (mem_sub_L rfl) (mem_sub_F rfl)) (fun r13 s13 => fm_bd (fm_sub (fm_needSign _ _) (mem_sub_L rfl) (mem_sub_F rfl)) (fun r14 s14 => fm_part_100 _ _)))))))) (fm_some md_refl))))) (fm_bd (fm_sub (fm_syntax _) (mem_sub_L rfl) (mem_sub_F rfl)) (fun r15 s15 => fm_some md_refl))))
/-! m_pinList -/
def L_m_pinList : List Nat := [197, 198, 199, 200]
def G_m_pinList : List (Nat × Nat) := [(121, 10), (121, 11), (121, 12), (121, 125)]
def m_pinList_2C (w : ev_W) (d : Nat) (v1 : Int) : (Int × iS) ⊕ ((iS) ⊕ ((iS) ⊕ ((iS) ⊕ (iS)))) → am_E → Prop := fun q r => q.elim (fun l => ev w d 445 2 ((fun l => [(0, .ref (tb_nK + 121)), (1, iv v1), (2, iv (l.1))]) l) [] (hT ((fun l => l.2) l)) r) (fun e => (fun e r => e.elim (fun e => ev w d 445 26 [(0, .ref (tb_nK + 121))] [] (hT (e)) r) (fun e => e.elim (fun e => ev w d 445 64 [] [] (hT (e)) r) (fun e => e.elim (fun e => ev w d 445 151 [] [] (hT (e)) r) (fun e => ev w d 445 220 [(0, .ref (tb_nK + 121))] [] (hT (e)) r)))) e r)
noncomputable def m_pinList_192 (v1 : Int) (s : iS) : Option ((Int × iS) ⊕ ((iS) ⊕ ((iS) ⊕ ((iS) ⊕ (iS))))) := lt' (up s 121 125 ((s 121 125) + 1)) (fun s1 => bd (m_isSign 44 s1) (fun r2 s2 => gd (rg r2) (if r2 = 0 then some (.inl (r2, s2)) else bd (m_go s2) (fun _ s5 => some (.inl (r2, s5))))))
theorem tm_pinList_192 (w : ev_W) (d : Nat) (hd : 3 ≤ d) (v1 : Int) (s : iS) : Ew hT w d 445 192 [(0, .ref (tb_nK + 121)), (1, iv v1)] [] s (m_pinList_2C w d v1) (m_pinList_192 v1 s) := by
  unfold m_pinList_192
  refine e_mv 193 em_445 (ce_at ce_445 106 rfl) rfl rfl ?_
  refine e_mv 194 em_445 (ce_at ce_445 107 rfl) rfl rfl ?_
  refine e_get 197 em_445 (ce_at ce_445 108 rfl) tq_121 rfl rfl ?_
  refine e_op 198 em_445 (ce_at ce_445 109 rfl) rfl rfl ?_
  refine e_iadd 199 em_445 rfl (ce_at ce_445 110 rfl) ?_
  refine e_put 202 em_445 (ce_at ce_445 111 rfl) tq_121 rfl rfl rfl (fun s1 => ?_)
  refine e_mv 203 em_445 (ce_at ce_445 112 rfl) rfl rfl ?_
  refine e_bip 205 em_445 (ce_at ce_445 113 rfl) (by decide) rfl ?_
  refine e_ivi 208 em_445 (ce_at ce_445 114 rfl) (by omega) (iv_v1 (by decide) tq_121 rfl) em_320 (Nat.le_of_ble_eq_true rfl) rfl (tm_isSign w (d - 1) (by omega) _ _) (fun r2 s2 => ?_)
  refine e_mv 209 em_445 (ce_at ce_445 115 rfl) rfl rfl ?_
  refine e_mv 210 em_445 (ce_at ce_445 116 rfl) rfl rfl ?_
  refine e_gd fun g3 => ?_
  refine e_ifeq 2 213 em_445 rfl rfl (ce_at ce_445 117 rfl) g3 (fun h4 => ?_) (fun h4 => ?_)
  · refine e_pk [0, 1, 2] rfl rfl ?_
    exact e_out (fun r h => h)
  · refine e_mv 214 em_445 (ce_at ce_445 118 rfl) rfl rfl ?_
    refine e_ivv 217 em_445 (ce_at ce_445 119 rfl) (by omega) (iv_v0 (by decide) tq_121 rfl) em_315 (Nat.le_of_ble_eq_true rfl) rfl (tm_go w (d - 1) (by omega) _) (fun r5 s5 => ?_)
    refine e_goto em_445 2 (ce_at ce_445 120 rfl) rfl ?_
    refine e_pk [0, 1, 2] rfl rfl ?_
    exact e_out (fun r h => h)
theorem fm_pinList_192 (v1 : Int) (s : iS) : Fm (fun r : (Int × iS) ⊕ ((iS) ⊕ ((iS) ⊕ ((iS) ⊕ (iS)))) => r.elim (fun l => l.2) (fun e => e.elim (fun e => e) (fun e => e.elim (fun e => e) (fun e => e.elim (fun e => e) (fun e => e))))) L_m_pinList G_m_pinList s (m_pinList_192 v1 s) := fm_lt (md_upF (mem_F rfl)) (fun s1 => fm_bd (fm_sub (fm_isSign _ _) (mem_sub_L rfl) (mem_sub_F rfl)) (fun r2 s2 => fm_gd (fm_if (fm_some md_refl) (fm_bd (fm_sub (fm_go _) (mem_sub_L rfl) (mem_sub_F rfl)) (fun r5 s5 => fm_some md_refl)))))
noncomputable def m_pinList_191 (v1 : Int) (t0 : Int) (t1 : Int) (s : iS) : Option ((Int × iS) ⊕ ((iS) ⊕ ((iS) ⊕ ((iS) ⊕ (iS))))) := gd (0 ≤ t1 ∧ t1 < 200) (lt' (up s 199 t1.toNat t0) (fun s2 => m_pinList_192 v1 s2))
theorem tm_pinList_191 (w : ev_W) (d : Nat) (hd : 3 ≤ d) (v1 : Int) (t0 : Int) (t1 : Int) (s : iS) : Ew hT w d 445 191 [(0, .ref (tb_nK + 121)), (1, iv v1)] [iv t0, iv t1, .ref (tb_nK + 199)] s (m_pinList_2C w d v1) (m_pinList_191 v1 t0 t1 s) := by
  unfold m_pinList_191
  refine e_gd fun g1 => ?_
  refine e_ist 192 em_445 (ce_at ce_445 105 rfl) tq_199 (by decide) g1 rfl (fun s2 => ?_)
  refine e_pk [0, 1] rfl rfl ?_
  exact tm_pinList_192 w d hd _ _
theorem fm_pinList_191 (v1 : Int) (t0 : Int) (t1 : Int) (s : iS) : Fm (fun r : (Int × iS) ⊕ ((iS) ⊕ ((iS) ⊕ ((iS) ⊕ (iS)))) => r.elim (fun l => l.2) (fun e => e.elim (fun e => e) (fun e => e.elim (fun e => e) (fun e => e.elim (fun e => e) (fun e => e))))) L_m_pinList G_m_pinList s (m_pinList_191 v1 t0 t1 s) := fm_gd (fm_lt (md_upL (mem_L rfl)) (fun s2 => fm_pinList_192 _ _))
noncomputable def m_pinList_186 (v1 : Int) (t0 : Int) (s : iS) : Option ((Int × iS) ⊕ ((iS) ⊕ ((iS) ⊕ ((iS) ⊕ (iS))))) := m_pinList_191 v1 1 t0 s
theorem tm_pinList_186 (w : ev_W) (d : Nat) (hd : 3 ≤ d) (v1 : Int) (t0 : Int) (s : iS) : Ew hT w d 445 186 [(0, .ref (tb_nK + 121)), (1, iv v1)] [iv t0, .ref (tb_nK + 199)] s (m_pinList_2C w d v1) (m_pinList_186 v1 t0 s) := by
  unfold m_pinList_186
  refine e_op 187 em_445 (ce_at ce_445 102 rfl) rfl rfl ?_
  refine e_goto em_445 191 (ce_at ce_445 103 rfl) rfl ?_
  refine e_pk [0, 1] rfl rfl ?_
  exact tm_pinList_191 w d hd _ _ _ _
theorem fm_pinList_186 (v1 : Int) (t0 : Int) (s : iS) : Fm (fun r : (Int × iS) ⊕ ((iS) ⊕ ((iS) ⊕ ((iS) ⊕ (iS)))) => r.elim (fun l => l.2) (fun e => e.elim (fun e => e) (fun e => e.elim (fun e => e) (fun e => e.elim (fun e => e) (fun e => e))))) L_m_pinList G_m_pinList s (m_pinList_186 v1 t0 s) := fm_pinList_191 _ _ _ _
noncomputable def m_pinList_2b (v1 : Int) (v2 : Int) (s : iS) : Option ((Int × iS) ⊕ ((iS) ⊕ ((iS) ⊕ ((iS) ⊕ (iS))))) := gd (rg v2) (if v2 = 0 then some (.inr (.inr (.inr (.inr s)))) else gd (rg (s 121 11)) (if (s 121 11) = 0 then gd (0 ≤ (s 121 10) ∧ (s 121 10) < 2002) (gd (rg (s 124 (s 121 10).toNat)) (if (s 124 (s 121 10).toNat) = 1 then gd (0 ≤ ((s 121 122) - 1) ∧ ((s 121 122) - 1) < 18) (bd (m_room ((s 121 125) - (s 196 ((s 121 122) - 1).toNat)) 12 (s 121 10) s) (fun _ s9 => gd (rg (s9 121 11)) (if (s9 121 11) ≤ 0 then gd (0 ≤ (s9 121 125) ∧ (s9 121 125) < 200) (lt' (up s9 198 (s9 121 125).toNat (s9 121 10)) (fun s13 => gd (0 ≤ (s13 121 125) ∧ (s13 121 125) < 200) (gd (v1 = 0 ∨ v1 = 1) (lt' (up s13 197 (s13 121 125).toNat v1) (fun s16 => gd (0 ≤ (s16 121 125) ∧ (s16 121 125) < 200) (lt' (up s16 200 (s16 121 125).toNat (-1)) (fun s18 => gd (0 ≤ (s18 121 125) ∧ (s18 121 125) < 200) (lt' (up s18 199 (s18 121 125).toNat 1) (fun s20 => bd (m_go s20) (fun _ s21 => bd (m_isSign 91 s21) (fun r22 s22 => gd (rg r22) (if r22 = 0 then m_pinList_192 v1 s22 else bd (m_go s22) (fun _ s25 => bd (m_needNumber s25) (fun r26 s26 => gd (0 ≤ (s25 121 125) ∧ (s25 121 125) < 200) (lt' (up s26 200 (s25 121 125).toNat r26) (fun s28 => bd (m_needSign 93 s28) (fun _ s29 => gd (rg (s29 121 11)) (if (s29 121 11) ≤ 0 then gd (0 ≤ (s29 121 125) ∧ (s29 121 125) < 200) (gd (0 ≤ (s29 200 (s29 121 125).toNat) ∧ (s29 200 (s29 121 125).toNat) < 2002) (gd (rg (s29 127 (s29 200 (s29 121 125).toNat).toNat)) (if (s29 127 (s29 200 (s29 121 125).toNat).toNat) < 1 then m_pinList_186 v1 (s29 121 125) s29 else if (s29 127 (s29 200 (s29 121 125).toNat).toNat) ≤ 16 then m_pinList_191 v1 (s29 127 (s29 200 (s29 121 125).toNat).toNat) (s29 121 125) s29 else m_pinList_186 v1 (s29 121 125) s29))) else some (.inr (.inr (.inr (.inl s29)))))))))))))))))))))) else some (.inr (.inr (.inl s9)))))) else some (.inr (.inl s)))) else some (.inr (.inr (.inr (.inr s))))))
theorem tm_pinList_2b (w : ev_W) (d : Nat) (hd : 3 ≤ d) (v1 : Int) (v2 : Int) (s : iS) : Ew hT w d 445 2 [(0, .ref (tb_nK + 121)), (1, iv v1), (2, iv v2)] [] s (m_pinList_2C w d v1) (m_pinList_2b v1 v2 s) := by
  unfold m_pinList_2b
  refine e_mv 3 em_445 (ce_at ce_445 2 rfl) rfl rfl ?_
  refine e_gd fun g1 => ?_
  refine e_ifeq 220 6 em_445 rfl rfl (ce_at ce_445 3 rfl) g1 (fun h2 => ?_) (fun h2 => ?_)
  · refine e_pk [0] rfl rfl ?_
    exact e_out (fun r h => h)
  · refine e_mv 7 em_445 (ce_at ce_445 4 rfl) rfl rfl ?_
    refine e_get 10 em_445 (ce_at ce_445 5 rfl) tq_121 rfl rfl ?_
    refine e_gd fun g3 => ?_
    refine e_ifne 220 13 em_445 rfl rfl (ce_at ce_445 6 rfl) g3 (fun h4 => ?_) (fun h4 => ?_)
    · refine e_pk [0] rfl rfl ?_
      exact e_out (fun r h => h)
    · refine e_mv 14 em_445 (ce_at ce_445 7 rfl) rfl rfl ?_
      refine e_getr 17 em_445 (ce_at ce_445 8 rfl) tq_121 rfl rfl ?_
      refine e_mv 18 em_445 (ce_at ce_445 9 rfl) rfl rfl ?_
      refine e_get 21 em_445 (ce_at ce_445 10 rfl) tq_121 rfl rfl ?_
      refine e_gd fun g5 => ?_
      refine e_ild 22 em_445 (ce_at ce_445 11 rfl) tq_124 (by decide) g5 rfl ?_
      refine e_op 23 em_445 (ce_at ce_445 12 rfl) rfl rfl ?_
      refine e_gd fun g6 => ?_
      refine e_cmeq 31 26 em_445 rfl rfl (ce_at ce_445 13 rfl) g6 (by decide) (fun h7 => ?_) (fun h7 => ?_)
      · refine e_mv 32 em_445 (ce_at ce_445 17 rfl) rfl rfl ?_
        refine e_mv 33 em_445 (ce_at ce_445 18 rfl) rfl rfl ?_
        refine e_get 36 em_445 (ce_at ce_445 19 rfl) tq_121 rfl rfl ?_
        refine e_mv 37 em_445 (ce_at ce_445 20 rfl) rfl rfl ?_
        refine e_getr 40 em_445 (ce_at ce_445 21 rfl) tq_121 rfl rfl ?_
        refine e_mv 41 em_445 (ce_at ce_445 22 rfl) rfl rfl ?_
        refine e_get 44 em_445 (ce_at ce_445 23 rfl) tq_121 rfl rfl ?_
        refine e_op 45 em_445 (ce_at ce_445 24 rfl) rfl rfl ?_
        refine e_isub 46 em_445 rfl (ce_at ce_445 25 rfl) ?_
        refine e_gd fun g8 => ?_
        refine e_ild 47 em_445 (ce_at ce_445 26 rfl) tq_196 (by decide) g8 rfl ?_
        refine e_isub 48 em_445 rfl (ce_at ce_445 27 rfl) ?_
        refine e_bip 50 em_445 (ce_at ce_445 28 rfl) (by decide) rfl ?_
        refine e_mv 51 em_445 (ce_at ce_445 29 rfl) rfl rfl ?_
        refine e_get 54 em_445 (ce_at ce_445 30 rfl) tq_121 rfl rfl ?_
        refine e_ivv 57 em_445 (ce_at ce_445 31 rfl) (by omega) (iv_v3 (by decide) tq_121 rfl) em_318 (Nat.le_of_ble_eq_true rfl) rfl (tm_room w (d - 1) (by omega) _ _ _ _) (fun r9 s9 => ?_)
        refine e_mv 58 em_445 (ce_at ce_445 32 rfl) rfl rfl ?_
        refine e_get 61 em_445 (ce_at ce_445 33 rfl) tq_121 rfl rfl ?_
        refine e_gd fun g10 => ?_
        refine e_ifle 65 64 em_445 rfl rfl (ce_at ce_445 34 rfl) g10 (fun h11 => ?_) (fun h11 => ?_)
        · refine e_mv 66 em_445 (ce_at ce_445 36 rfl) rfl rfl ?_
          refine e_getr 69 em_445 (ce_at ce_445 37 rfl) tq_121 rfl rfl ?_
          refine e_mv 70 em_445 (ce_at ce_445 38 rfl) rfl rfl ?_
          refine e_get 73 em_445 (ce_at ce_445 39 rfl) tq_121 rfl rfl ?_
          refine e_mv 74 em_445 (ce_at ce_445 40 rfl) rfl rfl ?_
          refine e_get 77 em_445 (ce_at ce_445 41 rfl) tq_121 rfl rfl ?_
          refine e_gd fun g12 => ?_
          refine e_ist 78 em_445 (ce_at ce_445 42 rfl) tq_198 (by decide) g12 rfl (fun s13 => ?_)
          refine e_mv 79 em_445 (ce_at ce_445 43 rfl) rfl rfl ?_
          refine e_getr 82 em_445 (ce_at ce_445 44 rfl) tq_121 rfl rfl ?_
          refine e_mv 83 em_445 (ce_at ce_445 45 rfl) rfl rfl ?_
          refine e_get 86 em_445 (ce_at ce_445 46 rfl) tq_121 rfl rfl ?_
          refine e_mv 87 em_445 (ce_at ce_445 47 rfl) rfl rfl ?_
          refine e_gd fun g14 => ?_
          refine e_gd fun g15 => ?_
          refine e_zst 88 em_445 (ce_at ce_445 48 rfl) tq_197 (by decide) g14 g15 rfl (fun s16 => ?_)
          refine e_mv 89 em_445 (ce_at ce_445 49 rfl) rfl rfl ?_
          refine e_getr 92 em_445 (ce_at ce_445 50 rfl) tq_121 rfl rfl ?_
          refine e_mv 93 em_445 (ce_at ce_445 51 rfl) rfl rfl ?_
          refine e_get 96 em_445 (ce_at ce_445 52 rfl) tq_121 rfl rfl ?_
          refine e_op 97 em_445 (ce_at ce_445 53 rfl) rfl rfl ?_
          refine e_gd fun g17 => ?_
          refine e_ist 98 em_445 (ce_at ce_445 54 rfl) tq_200 (by decide) g17 rfl (fun s18 => ?_)
          refine e_mv 99 em_445 (ce_at ce_445 55 rfl) rfl rfl ?_
          refine e_getr 102 em_445 (ce_at ce_445 56 rfl) tq_121 rfl rfl ?_
          refine e_mv 103 em_445 (ce_at ce_445 57 rfl) rfl rfl ?_
          refine e_get 106 em_445 (ce_at ce_445 58 rfl) tq_121 rfl rfl ?_
          refine e_op 107 em_445 (ce_at ce_445 59 rfl) rfl rfl ?_
          refine e_gd fun g19 => ?_
          refine e_ist 108 em_445 (ce_at ce_445 60 rfl) tq_199 (by decide) g19 rfl (fun s20 => ?_)
          refine e_mv 109 em_445 (ce_at ce_445 61 rfl) rfl rfl ?_
          refine e_ivv 112 em_445 (ce_at ce_445 62 rfl) (by omega) (iv_v0 (by decide) tq_121 rfl) em_315 (Nat.le_of_ble_eq_true rfl) rfl (tm_go w (d - 1) (by omega) _) (fun r21 s21 => ?_)
          refine e_mv 113 em_445 (ce_at ce_445 63 rfl) rfl rfl ?_
          refine e_bip 115 em_445 (ce_at ce_445 64 rfl) (by decide) rfl ?_
          refine e_ivi 118 em_445 (ce_at ce_445 65 rfl) (by omega) (iv_v1 (by decide) tq_121 rfl) em_320 (Nat.le_of_ble_eq_true rfl) rfl (tm_isSign w (d - 1) (by omega) _ _) (fun r22 s22 => ?_)
          refine e_gd fun g23 => ?_
          refine e_ifeq 192 121 em_445 rfl rfl (ce_at ce_445 66 rfl) g23 (fun h24 => ?_) (fun h24 => ?_)
          · refine e_pk [0, 1] rfl rfl ?_
            exact tm_pinList_192 w d hd _ _
          · refine e_mv 122 em_445 (ce_at ce_445 67 rfl) rfl rfl ?_
            refine e_ivv 125 em_445 (ce_at ce_445 68 rfl) (by omega) (iv_v0 (by decide) tq_121 rfl) em_315 (Nat.le_of_ble_eq_true rfl) rfl (tm_go w (d - 1) (by omega) _) (fun r25 s25 => ?_)
            refine e_mv 126 em_445 (ce_at ce_445 69 rfl) rfl rfl ?_
            refine e_getr 129 em_445 (ce_at ce_445 70 rfl) tq_121 rfl rfl ?_
            refine e_mv 130 em_445 (ce_at ce_445 71 rfl) rfl rfl ?_
            refine e_get 133 em_445 (ce_at ce_445 72 rfl) tq_121 rfl rfl ?_
            refine e_mv 134 em_445 (ce_at ce_445 73 rfl) rfl rfl ?_
            refine e_ivi 137 em_445 (ce_at ce_445 74 rfl) (by omega) (iv_v0 (by decide) tq_121 rfl) em_446 (Nat.le_of_ble_eq_true rfl) rfl (tm_needNumber w (d - 1) (by omega) _) (fun r26 s26 => ?_)
            refine e_gd fun g27 => ?_
            refine e_ist 138 em_445 (ce_at ce_445 75 rfl) tq_200 (by decide) g27 rfl (fun s28 => ?_)
            refine e_mv 139 em_445 (ce_at ce_445 76 rfl) rfl rfl ?_
            refine e_bip 141 em_445 (ce_at ce_445 77 rfl) (by decide) rfl ?_
            refine e_ivv 144 em_445 (ce_at ce_445 78 rfl) (by omega) (iv_v1 (by decide) tq_121 rfl) em_325 (Nat.le_of_ble_eq_true rfl) rfl (tm_needSign w (d - 1) (by omega) _ _) (fun r29 s29 => ?_)
            refine e_mv 145 em_445 (ce_at ce_445 79 rfl) rfl rfl ?_
            refine e_get 148 em_445 (ce_at ce_445 80 rfl) tq_121 rfl rfl ?_
            refine e_gd fun g30 => ?_
            refine e_ifle 152 151 em_445 rfl rfl (ce_at ce_445 81 rfl) g30 (fun h31 => ?_) (fun h31 => ?_)
            · refine e_mv 153 em_445 (ce_at ce_445 83 rfl) rfl rfl ?_
              refine e_getr 156 em_445 (ce_at ce_445 84 rfl) tq_121 rfl rfl ?_
              refine e_mv 157 em_445 (ce_at ce_445 85 rfl) rfl rfl ?_
              refine e_getr 160 em_445 (ce_at ce_445 86 rfl) tq_121 rfl rfl ?_
              refine e_mv 161 em_445 (ce_at ce_445 87 rfl) rfl rfl ?_
              refine e_get 164 em_445 (ce_at ce_445 88 rfl) tq_121 rfl rfl ?_
              refine e_gd fun g32 => ?_
              refine e_ild 165 em_445 (ce_at ce_445 89 rfl) tq_200 (by decide) g32 rfl ?_
              refine e_gd fun g33 => ?_
              refine e_ild 166 em_445 (ce_at ce_445 90 rfl) tq_127 (by decide) g33 rfl ?_
              refine e_mv 167 em_445 (ce_at ce_445 91 rfl) rfl rfl ?_
              refine e_mv 168 em_445 (ce_at ce_445 92 rfl) rfl rfl ?_
              refine e_getr 171 em_445 (ce_at ce_445 93 rfl) tq_121 rfl rfl ?_
              refine e_mv 172 em_445 (ce_at ce_445 94 rfl) rfl rfl ?_
              refine e_get 175 em_445 (ce_at ce_445 95 rfl) tq_121 rfl rfl ?_
              refine e_mv 176 em_445 (ce_at ce_445 96 rfl) rfl rfl ?_
              refine e_op 177 em_445 (ce_at ce_445 97 rfl) rfl rfl ?_
              refine e_gd fun g34 => ?_
              refine e_cmlt 186 180 em_445 rfl rfl (ce_at ce_445 98 rfl) g34 (by decide) (fun h35 => ?_) (fun h35 => ?_)
              · refine e_pk [0, 1] rfl rfl ?_
                exact tm_pinList_186 w d hd _ _ _
              · refine e_mv 181 em_445 (ce_at ce_445 99 rfl) rfl rfl ?_
                refine e_bip 183 em_445 (ce_at ce_445 100 rfl) (by decide) rfl ?_
                refine e_cmle 190 186 em_445 rfl rfl (ce_at ce_445 101 rfl) g34 (by decide) (fun h36 => ?_) (fun h36 => ?_)
                · refine e_mv 191 em_445 (ce_at ce_445 104 rfl) rfl rfl ?_
                  refine e_pk [0, 1] rfl rfl ?_
                  exact tm_pinList_191 w d hd _ _ _ _
                · refine e_pk [0, 1] rfl rfl ?_
                  exact tm_pinList_186 w d hd _ _ _
            · refine e_pk [] rfl rfl ?_
              exact e_out (fun r h => h)
        · refine e_pk [] rfl rfl ?_
          exact e_out (fun r h => h)
      · refine e_pk [0] rfl rfl ?_
        exact e_out (fun r h => h)
theorem fm_pinList_2b (v1 : Int) (v2 : Int) (s : iS) : Fm (fun r : (Int × iS) ⊕ ((iS) ⊕ ((iS) ⊕ ((iS) ⊕ (iS)))) => r.elim (fun l => l.2) (fun e => e.elim (fun e => e) (fun e => e.elim (fun e => e) (fun e => e.elim (fun e => e) (fun e => e))))) L_m_pinList G_m_pinList s (m_pinList_2b v1 v2 s) := fm_gd (fm_if (fm_some md_refl) (fm_gd (fm_if (fm_gd (fm_gd (fm_if (fm_gd (fm_bd (fm_sub (fm_room _ _ _ _) (mem_sub_L rfl) (mem_sub_F rfl)) (fun r9 s9 => fm_gd (fm_if (fm_gd (fm_lt (md_upL (mem_L rfl)) (fun s13 => fm_gd (fm_gd (fm_lt (md_upL (mem_L rfl)) (fun s16 => fm_gd (fm_lt (md_upL (mem_L rfl)) (fun s18 => fm_gd (fm_lt (md_upL (mem_L rfl)) (fun s20 => fm_bd (fm_sub (fm_go _) (mem_sub_L rfl) (mem_sub_F rfl)) (fun r21 s21 => fm_bd (fm_sub (fm_isSign _ _) (mem_sub_L rfl) (mem_sub_F rfl)) (fun r22 s22 => fm_gd (fm_if (fm_pinList_192 _ _) (fm_bd (fm_sub (fm_go _) (mem_sub_L rfl) (mem_sub_F rfl)) (fun r25 s25 => fm_bd (fm_sub (fm_needNumber _) (mem_sub_L rfl) (mem_sub_F rfl)) (fun r26 s26 => fm_gd (fm_lt (md_upL (mem_L rfl)) (fun s28 => fm_bd (fm_sub (fm_needSign _ _) (mem_sub_L rfl) (mem_sub_F rfl)) (fun r29 s29 => fm_gd (fm_if (fm_gd (fm_gd (fm_gd (fm_if (fm_pinList_186 _ _ _) (fm_if (fm_pinList_191 _ _ _ _) (fm_pinList_186 _ _ _)))))) (fm_some md_refl))))))))))))))))))))) (fm_some md_refl))))) (fm_some md_refl)))) (fm_some md_refl))))
noncomputable def m_pinList_26 (s : iS) : Option (Int × iS) := bd (m_syntax s) (fun _ s1 => some (0, s1))
theorem tm_pinList_26 (w : ev_W) (d : Nat) (hd : 3 ≤ d) (s : iS) : Ew hT w d 445 26 [(0, .ref (tb_nK + 121))] [] s (Cv hT) (m_pinList_26 s) := by
  unfold m_pinList_26
  refine e_mv 27 em_445 (ce_at ce_445 14 rfl) rfl rfl ?_
  refine e_ivv 30 em_445 (ce_at ce_445 15 rfl) (by omega) (iv_v0 (by decide) tq_121 rfl) em_316 (Nat.le_of_ble_eq_true rfl) rfl (tm_syntax w (d - 1) (by omega) _) (fun r1 s1 => ?_)
  exact e_retv em_445 (ce_at ce_445 16 rfl)
theorem fm_pinList_26 (s : iS) : Fm Prod.snd L_m_pinList G_m_pinList s (m_pinList_26 s) := fm_bd (fm_sub (fm_syntax _) (mem_sub_L rfl) (mem_sub_F rfl)) (fun r1 s1 => fm_some md_refl)
noncomputable def m_pinList_220 (s : iS) : Option (Int × iS) := bd (m_needSign 59 s) (fun _ s1 => some (0, s1))
theorem tm_pinList_220 (w : ev_W) (d : Nat) (hd : 3 ≤ d) (s : iS) : Ew hT w d 445 220 [(0, .ref (tb_nK + 121))] [] s (Cv hT) (m_pinList_220 s) := by
  unfold m_pinList_220
  refine e_mv 221 em_445 (ce_at ce_445 121 rfl) rfl rfl ?_
  refine e_bip 223 em_445 (ce_at ce_445 122 rfl) (by decide) rfl ?_
  refine e_ivv 226 em_445 (ce_at ce_445 123 rfl) (by omega) (iv_v1 (by decide) tq_121 rfl) em_325 (Nat.le_of_ble_eq_true rfl) rfl (tm_needSign w (d - 1) (by omega) _ _) (fun r1 s1 => ?_)
  exact e_retv em_445 (ce_at ce_445 124 rfl)
theorem fm_pinList_220 (s : iS) : Fm Prod.snd L_m_pinList G_m_pinList s (m_pinList_220 s) := fm_bd (fm_sub (fm_needSign _ _) (mem_sub_L rfl) (mem_sub_F rfl)) (fun r1 s1 => fm_some md_refl)
noncomputable def m_pinList_2 (v1 : Int) (v2 : Int) (s : iS) : Option (Int × iS) := (lp (L := Int × iS) (E := (iS) ⊕ ((iS) ⊕ ((iS) ⊕ (iS)))) (fun l => m_pinList_2b v1 (l.1) (l.2)) (v2, s)).bind (fun e => e.elim (fun e => m_pinList_26 e) (fun e => e.elim (fun e => some (0, e)) (fun e => e.elim (fun e => some (0, e)) (fun e => m_pinList_220 e))))
theorem tm_pinList_2 (w : ev_W) (d : Nat) (hd : 3 ≤ d) (v1 : Int) (v2 : Int) (s : iS) : Ew hT w d 445 2 [(0, .ref (tb_nK + 121)), (1, iv v1), (2, iv v2)] [] s (Cv hT) (m_pinList_2 v1 v2 s) := by
  unfold m_pinList_2
  refine e_lp (L := Int × iS) (E := (iS) ⊕ ((iS) ⊕ ((iS) ⊕ (iS)))) (LO := fun l => [(0, .ref (tb_nK + 121)), (1, iv v1), (2, iv (l.1))]) (LS := fun l => l.2) (CE := fun e r => e.elim (fun e => ev w d 445 26 [(0, .ref (tb_nK + 121))] [] (hT (e)) r) (fun e => e.elim (fun e => ev w d 445 64 [] [] (hT (e)) r) (fun e => e.elim (fun e => ev w d 445 151 [] [] (hT (e)) r) (fun e => ev w d 445 220 [(0, .ref (tb_nK + 121))] [] (hT (e)) r)))) (fun l => tm_pinList_2b w d hd _ _ _) ?_ (v2, s)
  rintro (e | e | e | e)
  · show Ew hT w d 445 26 [(0, .ref (tb_nK + 121))] [] e (Cv hT) _
    refine e_pk [0] rfl rfl ?_
    exact tm_pinList_26 w d hd _
  · show Ew hT w d 445 64 [] [] e (Cv hT) _
    exact e_retv em_445 (ce_at ce_445 35 rfl)
  · show Ew hT w d 445 151 [] [] e (Cv hT) _
    exact e_retv em_445 (ce_at ce_445 82 rfl)
  · show Ew hT w d 445 220 [(0, .ref (tb_nK + 121))] [] e (Cv hT) _
    refine e_pk [0] rfl rfl ?_
    exact tm_pinList_220 w d hd _
theorem fm_pinList_2 (v1 : Int) (v2 : Int) (s : iS) : Fm Prod.snd L_m_pinList G_m_pinList s (m_pinList_2 v1 v2 s) := by
  unfold m_pinList_2
  refine fm_lp (A := Int × iS) (E := (iS) ⊕ ((iS) ⊕ ((iS) ⊕ (iS)))) (LS := fun l => l.2) (LE := fun e => e.elim (fun e => e) (fun e => e.elim (fun e => e) (fun e => e.elim (fun e => e) (fun e => e)))) ?_ ?_ (v2, s)
  · exact fun l => fm_pinList_2b _ _ _
  · exact (by rintro (e | e | e | e); exact fm_pinList_26 _; exact fm_some md_refl; exact fm_some md_refl; exact fm_pinList_220 _)
noncomputable def m_pinList (v1 : Int) (s : iS) : Option (Int × iS) := m_pinList_2 v1 1 s
theorem tm_pinList (w : ev_W) (d : Nat) (hd : 3 ≤ d) (v1 : Int) (s : iS) : Ew hT w d 445 0 [(0, .ref (tb_nK + 121)), (1, iv v1)] [] s (Cv hT) (m_pinList v1 s) := by
  unfold m_pinList
  refine e_op 1 em_445 (ce_at ce_445 0 rfl) rfl rfl ?_
  refine e_mv 2 em_445 (ce_at ce_445 1 rfl) rfl rfl ?_
  refine e_pk [0, 1, 2] rfl rfl ?_
  exact tm_pinList_2 w d hd _ _ _
theorem fm_pinList (v1 : Int) (s : iS) : Fm Prod.snd L_m_pinList G_m_pinList s (m_pinList v1 s) := fm_pinList_2 _ _ _
/-! m_chip -/
def L_m_chip : List Nat := [195, 196, 197, 198, 199, 200, 201, 202, 203, 204, 205, 206, 207, 208, 209, 210, 211, 212, 213]
def G_m_chip : List (Nat × Nat) := [(121, 10), (121, 11), (121, 12), (121, 122), (121, 125), (121, 131), (121, 134), (121, 144), (121, 148), (121, 149), (121, 150)]
def m_chip_175C (w : ev_W) (d : Nat) : (iS) ⊕ (iS) → am_E → Prop := fun q r => q.elim (fun l => ev w d 444 175 ((fun l => [(0, .ref (tb_nK + 121))]) l) [] (hT ((fun l => l) l)) r) (fun e => (fun e r => ev w d 444 198 [(0, .ref (tb_nK + 121))] [] (hT (e)) r) e r)
noncomputable def m_chip_175b (s : iS) : Option ((iS) ⊕ (iS)) := gd (rg (s 121 11)) (if (s 121 11) = 0 then bd (m_isSign 125 s) (fun r3 s3 => gd (rg r3) (if r3 = 0 then bd (m_part s3) (fun _ s6 => some (.inl s6)) else some (.inr s3))) else some (.inr s))
theorem tm_chip_175b (w : ev_W) (d : Nat) (hd : 6 ≤ d) (s : iS) : Ew hT w d 444 175 [(0, .ref (tb_nK + 121))] [] s (m_chip_175C w d) (m_chip_175b s) := by
  unfold m_chip_175b
  refine e_mv 176 em_444 (ce_at ce_444 92 rfl) rfl rfl ?_
  refine e_get 179 em_444 (ce_at ce_444 93 rfl) tq_121 rfl rfl ?_
  refine e_gd fun g1 => ?_
  refine e_ifne 198 182 em_444 rfl rfl (ce_at ce_444 94 rfl) g1 (fun h2 => ?_) (fun h2 => ?_)
  · refine e_pk [0] rfl rfl ?_
    exact e_out (fun r h => h)
  · refine e_mv 183 em_444 (ce_at ce_444 95 rfl) rfl rfl ?_
    refine e_bip 185 em_444 (ce_at ce_444 96 rfl) (by decide) rfl ?_
    refine e_ivi 188 em_444 (ce_at ce_444 97 rfl) (by omega) (iv_v1 (by decide) tq_121 rfl) em_320 (Nat.le_of_ble_eq_true rfl) rfl (tm_isSign w (d - 1) (by omega) _ _) (fun r3 s3 => ?_)
    refine e_gd fun g4 => ?_
    refine e_ifne 198 191 em_444 rfl rfl (ce_at ce_444 98 rfl) g4 (fun h5 => ?_) (fun h5 => ?_)
    · refine e_pk [0] rfl rfl ?_
      exact e_out (fun r h => h)
    · refine e_mv 192 em_444 (ce_at ce_444 99 rfl) rfl rfl ?_
      refine e_ivv 195 em_444 (ce_at ce_444 100 rfl) (by omega) (iv_v0 (by decide) tq_121 rfl) em_447 (Nat.le_of_ble_eq_true rfl) rfl (tm_part w (d - 1) (by omega) _) (fun r6 s6 => ?_)
      refine e_goto em_444 175 (ce_at ce_444 101 rfl) rfl ?_
      refine e_pk [0] rfl rfl ?_
      exact e_out (fun r h => h)
theorem fm_chip_175b (s : iS) : Fm (fun r : (iS) ⊕ (iS) => r.elim (fun l => l) (fun e => e)) L_m_chip G_m_chip s (m_chip_175b s) := fm_gd (fm_if (fm_bd (fm_sub (fm_isSign _ _) (mem_sub_L rfl) (mem_sub_F rfl)) (fun r3 s3 => fm_gd (fm_if (fm_bd (fm_sub (fm_part _) (mem_sub_L rfl) (mem_sub_F rfl)) (fun r6 s6 => fm_some md_refl)) (fm_some md_refl)))) (fm_some md_refl))
noncomputable def m_chip_198 (s : iS) : Option (Int × iS) := bd (m_needSign 125 s) (fun _ s1 => some (0, s1))
theorem tm_chip_198 (w : ev_W) (d : Nat) (hd : 6 ≤ d) (s : iS) : Ew hT w d 444 198 [(0, .ref (tb_nK + 121))] [] s (Cv hT) (m_chip_198 s) := by
  unfold m_chip_198
  refine e_mv 199 em_444 (ce_at ce_444 102 rfl) rfl rfl ?_
  refine e_bip 201 em_444 (ce_at ce_444 103 rfl) (by decide) rfl ?_
  refine e_ivv 204 em_444 (ce_at ce_444 104 rfl) (by omega) (iv_v1 (by decide) tq_121 rfl) em_325 (Nat.le_of_ble_eq_true rfl) rfl (tm_needSign w (d - 1) (by omega) _ _) (fun r1 s1 => ?_)
  exact e_retv em_444 (ce_at ce_444 105 rfl)
theorem fm_chip_198 (s : iS) : Fm Prod.snd L_m_chip G_m_chip s (m_chip_198 s) := fm_bd (fm_sub (fm_needSign _ _) (mem_sub_L rfl) (mem_sub_F rfl)) (fun r1 s1 => fm_some md_refl)
noncomputable def m_chip_175 (s : iS) : Option (Int × iS) := (lp (L := iS) (E := iS) (fun l => m_chip_175b l) s).bind (fun e => m_chip_198 e)
theorem tm_chip_175 (w : ev_W) (d : Nat) (hd : 6 ≤ d) (s : iS) : Ew hT w d 444 175 [(0, .ref (tb_nK + 121))] [] s (Cv hT) (m_chip_175 s) := by
  unfold m_chip_175
  refine e_lp (L := iS) (E := iS) (LO := fun l => [(0, .ref (tb_nK + 121))]) (LS := fun l => l) (CE := fun e r => ev w d 444 198 [(0, .ref (tb_nK + 121))] [] (hT (e)) r) (fun l => tm_chip_175b w d hd _) ?_ s
  intro e
  show Ew hT w d 444 198 [(0, .ref (tb_nK + 121))] [] e (Cv hT) _
  refine e_pk [0] rfl rfl ?_
  exact tm_chip_198 w d hd _
theorem fm_chip_175 (s : iS) : Fm Prod.snd L_m_chip G_m_chip s (m_chip_175 s) := by
  unfold m_chip_175
  refine fm_lp (A := iS) (E := iS) (LS := fun l => l) (LE := fun e => e) ?_ ?_ s
  · exact fun l => fm_chip_175b _
  · exact (fun e => fm_chip_198 _)
noncomputable def m_chip_164 (s : iS) : Option (Int × iS) := bd (m_needWord 3 s) (fun _ s1 => bd (m_needSign 58 s1) (fun _ s2 => m_chip_175 s2))
theorem tm_chip_164 (w : ev_W) (d : Nat) (hd : 6 ≤ d) (s : iS) : Ew hT w d 444 164 [(0, .ref (tb_nK + 121))] [] s (Cv hT) (m_chip_164 s) := by
  unfold m_chip_164
  refine e_mv 165 em_444 (ce_at ce_444 86 rfl) rfl rfl ?_
  refine e_op 166 em_444 (ce_at ce_444 87 rfl) rfl rfl ?_
  refine e_ivv 169 em_444 (ce_at ce_444 88 rfl) (by omega) (iv_v1 (by decide) tq_121 rfl) em_313 (Nat.le_of_ble_eq_true rfl) rfl (tm_needWord w (d - 1) (by omega) _ _) (fun r1 s1 => ?_)
  refine e_mv 170 em_444 (ce_at ce_444 89 rfl) rfl rfl ?_
  refine e_bip 172 em_444 (ce_at ce_444 90 rfl) (by decide) rfl ?_
  refine e_ivv 175 em_444 (ce_at ce_444 91 rfl) (by omega) (iv_v1 (by decide) tq_121 rfl) em_325 (Nat.le_of_ble_eq_true rfl) rfl (tm_needSign w (d - 1) (by omega) _ _) (fun r2 s2 => ?_)
  refine e_pk [0] rfl rfl ?_
  exact tm_chip_175 w d hd _
theorem fm_chip_164 (s : iS) : Fm Prod.snd L_m_chip G_m_chip s (m_chip_164 s) := fm_bd (fm_sub (fm_needWord _ _) (mem_sub_L rfl) (mem_sub_F rfl)) (fun r1 s1 => fm_bd (fm_sub (fm_needSign _ _) (mem_sub_L rfl) (mem_sub_F rfl)) (fun r2 s2 => fm_chip_175 _))
noncomputable def m_chip_147 (s : iS) : Option (Int × iS) := bd (m_needWord 2 s) (fun _ s1 => gd (rg (s1 121 11)) (if (s1 121 11) = 0 then bd (m_pinList 1 s1) (fun _ s4 => m_chip_164 s4) else m_chip_164 s1))
theorem tm_chip_147 (w : ev_W) (d : Nat) (hd : 6 ≤ d) (s : iS) : Ew hT w d 444 147 [(0, .ref (tb_nK + 121))] [] s (Cv hT) (m_chip_147 s) := by
  unfold m_chip_147
  refine e_mv 148 em_444 (ce_at ce_444 77 rfl) rfl rfl ?_
  refine e_op 149 em_444 (ce_at ce_444 78 rfl) rfl rfl ?_
  refine e_ivv 152 em_444 (ce_at ce_444 79 rfl) (by omega) (iv_v1 (by decide) tq_121 rfl) em_313 (Nat.le_of_ble_eq_true rfl) rfl (tm_needWord w (d - 1) (by omega) _ _) (fun r1 s1 => ?_)
  refine e_mv 153 em_444 (ce_at ce_444 80 rfl) rfl rfl ?_
  refine e_get 156 em_444 (ce_at ce_444 81 rfl) tq_121 rfl rfl ?_
  refine e_gd fun g2 => ?_
  refine e_ifne 164 159 em_444 rfl rfl (ce_at ce_444 82 rfl) g2 (fun h3 => ?_) (fun h3 => ?_)
  · refine e_pk [0] rfl rfl ?_
    exact tm_chip_164 w d hd _
  · refine e_mv 160 em_444 (ce_at ce_444 83 rfl) rfl rfl ?_
    refine e_op 161 em_444 (ce_at ce_444 84 rfl) rfl rfl ?_
    refine e_ivv 164 em_444 (ce_at ce_444 85 rfl) (by omega) (iv_v1 (by decide) tq_121 rfl) em_445 (Nat.le_of_ble_eq_true rfl) rfl (tm_pinList w (d - 1) (by omega) _ _) (fun r4 s4 => ?_)
    refine e_pk [0] rfl rfl ?_
    exact tm_chip_164 w d hd _
theorem fm_chip_147 (s : iS) : Fm Prod.snd L_m_chip G_m_chip s (m_chip_147 s) := fm_bd (fm_sub (fm_needWord _ _) (mem_sub_L rfl) (mem_sub_F rfl)) (fun r1 s1 => fm_gd (fm_if (fm_bd (fm_sub (fm_pinList _ _) (mem_sub_L rfl) (mem_sub_F rfl)) (fun r4 s4 => fm_chip_164 _)) (fm_chip_164 _)))
noncomputable def m_chip_50 (s : iS) : Option (Int × iS) := gd (rg (s 121 11)) (if (s 121 11) ≤ 0 then gd (0 ≤ (s 121 122) ∧ (s 121 122) < 17) (lt' (up s 195 (s 121 122).toNat (s 121 10)) (fun s4 => gd (0 ≤ (s4 121 122) ∧ (s4 121 122) < 18) (lt' (up s4 196 (s4 121 122).toNat (s4 121 125)) (fun s6 => gd (0 ≤ (s6 121 122) ∧ (s6 121 122) < 18) (lt' (up s6 201 (s6 121 122).toNat (s6 121 131)) (fun s8 => gd (0 ≤ (s8 121 122) ∧ (s8 121 122) < 18) (lt' (up s8 212 (s8 121 122).toNat (s8 121 144)) (fun s10 => lt' (up s10 121 122 ((s10 121 122) + 1)) (fun s11 => bd (m_go s11) (fun _ s12 => bd (m_needSign 123 s12) (fun _ s13 => bd (m_needWord 1 s13) (fun _ s14 => gd (rg (s14 121 11)) (if (s14 121 11) = 0 then bd (m_pinList 0 s14) (fun _ s17 => m_chip_147 s17) else m_chip_147 s14))))))))))))) else some (0, s))
theorem tm_chip_50 (w : ev_W) (d : Nat) (hd : 6 ≤ d) (s : iS) : Ew hT w d 444 50 [(0, .ref (tb_nK + 121))] [] s (Cv hT) (m_chip_50 s) := by
  unfold m_chip_50
  refine e_mv 51 em_444 (ce_at ce_444 25 rfl) rfl rfl ?_
  refine e_get 54 em_444 (ce_at ce_444 26 rfl) tq_121 rfl rfl ?_
  refine e_gd fun g1 => ?_
  refine e_ifle 58 57 em_444 rfl rfl (ce_at ce_444 27 rfl) g1 (fun h2 => ?_) (fun h2 => ?_)
  · refine e_mv 59 em_444 (ce_at ce_444 29 rfl) rfl rfl ?_
    refine e_getr 62 em_444 (ce_at ce_444 30 rfl) tq_121 rfl rfl ?_
    refine e_mv 63 em_444 (ce_at ce_444 31 rfl) rfl rfl ?_
    refine e_get 66 em_444 (ce_at ce_444 32 rfl) tq_121 rfl rfl ?_
    refine e_mv 67 em_444 (ce_at ce_444 33 rfl) rfl rfl ?_
    refine e_get 70 em_444 (ce_at ce_444 34 rfl) tq_121 rfl rfl ?_
    refine e_gd fun g3 => ?_
    refine e_ist 71 em_444 (ce_at ce_444 35 rfl) tq_195 (by decide) g3 rfl (fun s4 => ?_)
    refine e_mv 72 em_444 (ce_at ce_444 36 rfl) rfl rfl ?_
    refine e_getr 75 em_444 (ce_at ce_444 37 rfl) tq_121 rfl rfl ?_
    refine e_mv 76 em_444 (ce_at ce_444 38 rfl) rfl rfl ?_
    refine e_get 79 em_444 (ce_at ce_444 39 rfl) tq_121 rfl rfl ?_
    refine e_mv 80 em_444 (ce_at ce_444 40 rfl) rfl rfl ?_
    refine e_get 83 em_444 (ce_at ce_444 41 rfl) tq_121 rfl rfl ?_
    refine e_gd fun g5 => ?_
    refine e_ist 84 em_444 (ce_at ce_444 42 rfl) tq_196 (by decide) g5 rfl (fun s6 => ?_)
    refine e_mv 85 em_444 (ce_at ce_444 43 rfl) rfl rfl ?_
    refine e_getr 88 em_444 (ce_at ce_444 44 rfl) tq_121 rfl rfl ?_
    refine e_mv 89 em_444 (ce_at ce_444 45 rfl) rfl rfl ?_
    refine e_get 92 em_444 (ce_at ce_444 46 rfl) tq_121 rfl rfl ?_
    refine e_mv 93 em_444 (ce_at ce_444 47 rfl) rfl rfl ?_
    refine e_get 96 em_444 (ce_at ce_444 48 rfl) tq_121 rfl rfl ?_
    refine e_gd fun g7 => ?_
    refine e_ist 97 em_444 (ce_at ce_444 49 rfl) tq_201 (by decide) g7 rfl (fun s8 => ?_)
    refine e_mv 98 em_444 (ce_at ce_444 50 rfl) rfl rfl ?_
    refine e_getr 101 em_444 (ce_at ce_444 51 rfl) tq_121 rfl rfl ?_
    refine e_mv 102 em_444 (ce_at ce_444 52 rfl) rfl rfl ?_
    refine e_get 105 em_444 (ce_at ce_444 53 rfl) tq_121 rfl rfl ?_
    refine e_mv 106 em_444 (ce_at ce_444 54 rfl) rfl rfl ?_
    refine e_get 109 em_444 (ce_at ce_444 55 rfl) tq_121 rfl rfl ?_
    refine e_gd fun g9 => ?_
    refine e_ist 110 em_444 (ce_at ce_444 56 rfl) tq_212 (by decide) g9 rfl (fun s10 => ?_)
    refine e_mv 111 em_444 (ce_at ce_444 57 rfl) rfl rfl ?_
    refine e_mv 112 em_444 (ce_at ce_444 58 rfl) rfl rfl ?_
    refine e_get 115 em_444 (ce_at ce_444 59 rfl) tq_121 rfl rfl ?_
    refine e_op 116 em_444 (ce_at ce_444 60 rfl) rfl rfl ?_
    refine e_iadd 117 em_444 rfl (ce_at ce_444 61 rfl) ?_
    refine e_put 120 em_444 (ce_at ce_444 62 rfl) tq_121 rfl rfl rfl (fun s11 => ?_)
    refine e_mv 121 em_444 (ce_at ce_444 63 rfl) rfl rfl ?_
    refine e_ivv 124 em_444 (ce_at ce_444 64 rfl) (by omega) (iv_v0 (by decide) tq_121 rfl) em_315 (Nat.le_of_ble_eq_true rfl) rfl (tm_go w (d - 1) (by omega) _) (fun r12 s12 => ?_)
    refine e_mv 125 em_444 (ce_at ce_444 65 rfl) rfl rfl ?_
    refine e_bip 127 em_444 (ce_at ce_444 66 rfl) (by decide) rfl ?_
    refine e_ivv 130 em_444 (ce_at ce_444 67 rfl) (by omega) (iv_v1 (by decide) tq_121 rfl) em_325 (Nat.le_of_ble_eq_true rfl) rfl (tm_needSign w (d - 1) (by omega) _ _) (fun r13 s13 => ?_)
    refine e_mv 131 em_444 (ce_at ce_444 68 rfl) rfl rfl ?_
    refine e_op 132 em_444 (ce_at ce_444 69 rfl) rfl rfl ?_
    refine e_ivv 135 em_444 (ce_at ce_444 70 rfl) (by omega) (iv_v1 (by decide) tq_121 rfl) em_313 (Nat.le_of_ble_eq_true rfl) rfl (tm_needWord w (d - 1) (by omega) _ _) (fun r14 s14 => ?_)
    refine e_mv 136 em_444 (ce_at ce_444 71 rfl) rfl rfl ?_
    refine e_get 139 em_444 (ce_at ce_444 72 rfl) tq_121 rfl rfl ?_
    refine e_gd fun g15 => ?_
    refine e_ifne 147 142 em_444 rfl rfl (ce_at ce_444 73 rfl) g15 (fun h16 => ?_) (fun h16 => ?_)
    · refine e_pk [0] rfl rfl ?_
      exact tm_chip_147 w d hd _
    · refine e_mv 143 em_444 (ce_at ce_444 74 rfl) rfl rfl ?_
      refine e_op 144 em_444 (ce_at ce_444 75 rfl) rfl rfl ?_
      refine e_ivv 147 em_444 (ce_at ce_444 76 rfl) (by omega) (iv_v1 (by decide) tq_121 rfl) em_445 (Nat.le_of_ble_eq_true rfl) rfl (tm_pinList w (d - 1) (by omega) _ _) (fun r17 s17 => ?_)
      refine e_pk [0] rfl rfl ?_
      exact tm_chip_147 w d hd _
  · exact e_retv em_444 (ce_at ce_444 28 rfl)
theorem fm_chip_50 (s : iS) : Fm Prod.snd L_m_chip G_m_chip s (m_chip_50 s) := fm_gd (fm_if (fm_gd (fm_lt (md_upL (mem_L rfl)) (fun s4 => fm_gd (fm_lt (md_upL (mem_L rfl)) (fun s6 => fm_gd (fm_lt (md_upL (mem_L rfl)) (fun s8 => fm_gd (fm_lt (md_upL (mem_L rfl)) (fun s10 => fm_lt (md_upF (mem_F rfl)) (fun s11 => fm_bd (fm_sub (fm_go _) (mem_sub_L rfl) (mem_sub_F rfl)) (fun r12 s12 => fm_bd (fm_sub (fm_needSign _ _) (mem_sub_L rfl) (mem_sub_F rfl)) (fun r13 s13 => fm_bd (fm_sub (fm_needWord _ _) (mem_sub_L rfl) (mem_sub_F rfl)) (fun r14 s14 => fm_gd (fm_if (fm_bd (fm_sub (fm_pinList _ _) (mem_sub_L rfl) (mem_sub_F rfl)) (fun r17 s17 => fm_chip_147 _)) (fm_chip_147 _))))))))))))))) (fm_some md_refl))
noncomputable def m_chip_29 (s : iS) : Option (Int × iS) := gd (rg (s 121 11)) (if (s 121 11) = 0 then bd (m_room (s 121 122) 16 (s 121 10) s) (fun _ s3 => m_chip_50 s3) else m_chip_50 s)
theorem tm_chip_29 (w : ev_W) (d : Nat) (hd : 6 ≤ d) (s : iS) : Ew hT w d 444 29 [(0, .ref (tb_nK + 121))] [] s (Cv hT) (m_chip_29 s) := by
  unfold m_chip_29
  refine e_mv 30 em_444 (ce_at ce_444 15 rfl) rfl rfl ?_
  refine e_get 33 em_444 (ce_at ce_444 16 rfl) tq_121 rfl rfl ?_
  refine e_gd fun g1 => ?_
  refine e_ifne 50 36 em_444 rfl rfl (ce_at ce_444 17 rfl) g1 (fun h2 => ?_) (fun h2 => ?_)
  · refine e_pk [0] rfl rfl ?_
    exact tm_chip_50 w d hd _
  · refine e_mv 37 em_444 (ce_at ce_444 18 rfl) rfl rfl ?_
    refine e_mv 38 em_444 (ce_at ce_444 19 rfl) rfl rfl ?_
    refine e_get 41 em_444 (ce_at ce_444 20 rfl) tq_121 rfl rfl ?_
    refine e_bip 43 em_444 (ce_at ce_444 21 rfl) (by decide) rfl ?_
    refine e_mv 44 em_444 (ce_at ce_444 22 rfl) rfl rfl ?_
    refine e_get 47 em_444 (ce_at ce_444 23 rfl) tq_121 rfl rfl ?_
    refine e_ivv 50 em_444 (ce_at ce_444 24 rfl) (by omega) (iv_v3 (by decide) tq_121 rfl) em_318 (Nat.le_of_ble_eq_true rfl) rfl (tm_room w (d - 1) (by omega) _ _ _ _) (fun r3 s3 => ?_)
    refine e_pk [0] rfl rfl ?_
    exact tm_chip_50 w d hd _
theorem fm_chip_29 (s : iS) : Fm Prod.snd L_m_chip G_m_chip s (m_chip_29 s) := fm_gd (fm_if (fm_bd (fm_sub (fm_room _ _ _ _) (mem_sub_L rfl) (mem_sub_F rfl)) (fun r3 s3 => fm_chip_50 _)) (fm_chip_50 _))
noncomputable def m_chip (s : iS) : Option (Int × iS) := bd (m_needWord 0 s) (fun _ s1 => gd (rg (s1 121 11)) (if (s1 121 11) = 0 then gd (0 ≤ (s1 121 10) ∧ (s1 121 10) < 2002) (gd (rg (s1 124 (s1 121 10).toNat)) (if (s1 124 (s1 121 10).toNat) = 1 then m_chip_29 s1 else bd (m_syntax s1) (fun _ s7 => m_chip_29 s7))) else m_chip_29 s1))
theorem tm_chip (w : ev_W) (d : Nat) (hd : 6 ≤ d) (s : iS) : Ew hT w d 444 0 [(0, .ref (tb_nK + 121))] [] s (Cv hT) (m_chip s) := by
  unfold m_chip
  refine e_mv 1 em_444 (ce_at ce_444 0 rfl) rfl rfl ?_
  refine e_op 2 em_444 (ce_at ce_444 1 rfl) rfl rfl ?_
  refine e_ivv 5 em_444 (ce_at ce_444 2 rfl) (by omega) (iv_v1 (by decide) tq_121 rfl) em_313 (Nat.le_of_ble_eq_true rfl) rfl (tm_needWord w (d - 1) (by omega) _ _) (fun r1 s1 => ?_)
  refine e_mv 6 em_444 (ce_at ce_444 3 rfl) rfl rfl ?_
  refine e_get 9 em_444 (ce_at ce_444 4 rfl) tq_121 rfl rfl ?_
  refine e_gd fun g2 => ?_
  refine e_ifne 29 12 em_444 rfl rfl (ce_at ce_444 5 rfl) g2 (fun h3 => ?_) (fun h3 => ?_)
  · refine e_pk [0] rfl rfl ?_
    exact tm_chip_29 w d hd _
  · refine e_mv 13 em_444 (ce_at ce_444 6 rfl) rfl rfl ?_
    refine e_getr 16 em_444 (ce_at ce_444 7 rfl) tq_121 rfl rfl ?_
    refine e_mv 17 em_444 (ce_at ce_444 8 rfl) rfl rfl ?_
    refine e_get 20 em_444 (ce_at ce_444 9 rfl) tq_121 rfl rfl ?_
    refine e_gd fun g4 => ?_
    refine e_ild 21 em_444 (ce_at ce_444 10 rfl) tq_124 (by decide) g4 rfl ?_
    refine e_op 22 em_444 (ce_at ce_444 11 rfl) rfl rfl ?_
    refine e_gd fun g5 => ?_
    refine e_cmeq 29 25 em_444 rfl rfl (ce_at ce_444 12 rfl) g5 (by decide) (fun h6 => ?_) (fun h6 => ?_)
    · refine e_pk [0] rfl rfl ?_
      exact tm_chip_29 w d hd _
    · refine e_mv 26 em_444 (ce_at ce_444 13 rfl) rfl rfl ?_
      refine e_ivv 29 em_444 (ce_at ce_444 14 rfl) (by omega) (iv_v0 (by decide) tq_121 rfl) em_316 (Nat.le_of_ble_eq_true rfl) rfl (tm_syntax w (d - 1) (by omega) _) (fun r7 s7 => ?_)
      refine e_pk [0] rfl rfl ?_
      exact tm_chip_29 w d hd _
theorem fm_chip (s : iS) : Fm Prod.snd L_m_chip G_m_chip s (m_chip s) := fm_bd (fm_sub (fm_needWord _ _) (mem_sub_L rfl) (mem_sub_F rfl)) (fun r1 s1 => fm_gd (fm_if (fm_gd (fm_gd (fm_if (fm_chip_29 _) (fm_bd (fm_sub (fm_syntax _) (mem_sub_L rfl) (mem_sub_F rfl)) (fun r7 s7 => fm_chip_29 _))))) (fm_chip_29 _)))
/-! m_chipTexts -/
def L_m_chipTexts : List Nat := [195, 196, 197, 198, 199, 200, 201, 202, 203, 204, 205, 206, 207, 208, 209, 210, 211, 212, 213]
def G_m_chipTexts : List (Nat × Nat) := [(121, 10), (121, 11), (121, 12), (121, 122), (121, 125), (121, 131), (121, 134), (121, 144), (121, 148), (121, 149), (121, 150)]
def m_chipTexts_32C (w : ev_W) (d : Nat) : (Int × iS) ⊕ (iS) → am_E → Prop := fun q r => q.elim (fun l => ev w d 443 32 ((fun l => [(0, .ref (tb_nK + 121)), (1, iv (l.1))]) l) [] (hT ((fun l => l.2) l)) r) (fun e => (fun e r => ev w d 443 68 [(0, .ref (tb_nK + 121))] [] (hT (e)) r) e r)
noncomputable def m_chipTexts_32b (v1 : Int) (s : iS) : Option ((Int × iS) ⊕ (iS)) := gd (rg v1) (if v1 = 0 then some (.inr s) else gd (rg (s 121 11)) (if (s 121 11) = 0 then bd (m_chip s) (fun _ s5 => gd (0 ≤ (s5 121 10) ∧ (s5 121 10) < 2002) (gd (rg (s5 124 (s5 121 10).toNat)) (if (s5 124 (s5 121 10).toNat) = 0 then some (.inl (0, s5)) else some (.inl (1, s5))))) else some (.inr s)))
theorem tm_chipTexts_32b (w : ev_W) (d : Nat) (hd : 7 ≤ d) (v1 : Int) (s : iS) : Ew hT w d 443 32 [(0, .ref (tb_nK + 121)), (1, iv v1)] [] s (m_chipTexts_32C w d) (m_chipTexts_32b v1 s) := by
  unfold m_chipTexts_32b
  refine e_mv 33 em_443 (ce_at ce_443 20 rfl) rfl rfl ?_
  refine e_gd fun g1 => ?_
  refine e_ifeq 68 36 em_443 rfl rfl (ce_at ce_443 21 rfl) g1 (fun h2 => ?_) (fun h2 => ?_)
  · refine e_pk [0] rfl rfl ?_
    exact e_out (fun r h => h)
  · refine e_mv 37 em_443 (ce_at ce_443 22 rfl) rfl rfl ?_
    refine e_get 40 em_443 (ce_at ce_443 23 rfl) tq_121 rfl rfl ?_
    refine e_gd fun g3 => ?_
    refine e_ifne 68 43 em_443 rfl rfl (ce_at ce_443 24 rfl) g3 (fun h4 => ?_) (fun h4 => ?_)
    · refine e_pk [0] rfl rfl ?_
      exact e_out (fun r h => h)
    · refine e_mv 44 em_443 (ce_at ce_443 25 rfl) rfl rfl ?_
      refine e_ivv 47 em_443 (ce_at ce_443 26 rfl) (by omega) (iv_v0 (by decide) tq_121 rfl) em_444 (Nat.le_of_ble_eq_true rfl) rfl (tm_chip w (d - 1) (by omega) _) (fun r5 s5 => ?_)
      refine e_mv 48 em_443 (ce_at ce_443 27 rfl) rfl rfl ?_
      refine e_getr 51 em_443 (ce_at ce_443 28 rfl) tq_121 rfl rfl ?_
      refine e_mv 52 em_443 (ce_at ce_443 29 rfl) rfl rfl ?_
      refine e_get 55 em_443 (ce_at ce_443 30 rfl) tq_121 rfl rfl ?_
      refine e_gd fun g6 => ?_
      refine e_ild 56 em_443 (ce_at ce_443 31 rfl) tq_124 (by decide) g6 rfl ?_
      refine e_gd fun g7 => ?_
      refine e_ifeq 63 59 em_443 rfl rfl (ce_at ce_443 32 rfl) g7 (fun h8 => ?_) (fun h8 => ?_)
      · refine e_op 64 em_443 (ce_at ce_443 35 rfl) rfl rfl ?_
        refine e_mv 65 em_443 (ce_at ce_443 36 rfl) rfl rfl ?_
        refine e_goto em_443 32 (ce_at ce_443 37 rfl) rfl ?_
        refine e_pk [0, 1] rfl rfl ?_
        exact e_out (fun r h => h)
      · refine e_op 60 em_443 (ce_at ce_443 33 rfl) rfl rfl ?_
        refine e_goto em_443 64 (ce_at ce_443 34 rfl) rfl ?_
        refine e_mv 65 em_443 (ce_at ce_443 36 rfl) rfl rfl ?_
        refine e_goto em_443 32 (ce_at ce_443 37 rfl) rfl ?_
        refine e_pk [0, 1] rfl rfl ?_
        exact e_out (fun r h => h)
theorem fm_chipTexts_32b (v1 : Int) (s : iS) : Fm (fun r : (Int × iS) ⊕ (iS) => r.elim (fun l => l.2) (fun e => e)) L_m_chipTexts G_m_chipTexts s (m_chipTexts_32b v1 s) := fm_gd (fm_if (fm_some md_refl) (fm_gd (fm_if (fm_bd (fm_sub (fm_chip _) (mem_sub_L rfl) (mem_sub_F rfl)) (fun r5 s5 => fm_gd (fm_gd (fm_if (fm_some md_refl) (fm_some md_refl))))) (fm_some md_refl))))
noncomputable def m_chipTexts_68 (s : iS) : Option (Int × iS) := gd (0 ≤ (s 121 122) ∧ (s 121 122) < 18) (lt' (up s 196 (s 121 122).toNat (s 121 125)) (fun s2 => gd (0 ≤ (s2 121 122) ∧ (s2 121 122) < 18) (lt' (up s2 201 (s2 121 122).toNat (s2 121 131)) (fun s4 => gd (0 ≤ (s4 121 122) ∧ (s4 121 122) < 18) (lt' (up s4 212 (s4 121 122).toNat (s4 121 144)) (fun s6 => gd (0 ≤ (s6 121 131) ∧ (s6 121 131) < 401) (lt' (up s6 203 (s6 121 131).toNat (s6 121 134)) (fun s8 => some (0, s8)))))))))
theorem tm_chipTexts_68 (w : ev_W) (d : Nat) (hd : 7 ≤ d) (s : iS) : Ew hT w d 443 68 [(0, .ref (tb_nK + 121))] [] s (Cv hT) (m_chipTexts_68 s) := by
  unfold m_chipTexts_68
  refine e_mv 69 em_443 (ce_at ce_443 38 rfl) rfl rfl ?_
  refine e_getr 72 em_443 (ce_at ce_443 39 rfl) tq_121 rfl rfl ?_
  refine e_mv 73 em_443 (ce_at ce_443 40 rfl) rfl rfl ?_
  refine e_get 76 em_443 (ce_at ce_443 41 rfl) tq_121 rfl rfl ?_
  refine e_mv 77 em_443 (ce_at ce_443 42 rfl) rfl rfl ?_
  refine e_get 80 em_443 (ce_at ce_443 43 rfl) tq_121 rfl rfl ?_
  refine e_gd fun g1 => ?_
  refine e_ist 81 em_443 (ce_at ce_443 44 rfl) tq_196 (by decide) g1 rfl (fun s2 => ?_)
  refine e_mv 82 em_443 (ce_at ce_443 45 rfl) rfl rfl ?_
  refine e_getr 85 em_443 (ce_at ce_443 46 rfl) tq_121 rfl rfl ?_
  refine e_mv 86 em_443 (ce_at ce_443 47 rfl) rfl rfl ?_
  refine e_get 89 em_443 (ce_at ce_443 48 rfl) tq_121 rfl rfl ?_
  refine e_mv 90 em_443 (ce_at ce_443 49 rfl) rfl rfl ?_
  refine e_get 93 em_443 (ce_at ce_443 50 rfl) tq_121 rfl rfl ?_
  refine e_gd fun g3 => ?_
  refine e_ist 94 em_443 (ce_at ce_443 51 rfl) tq_201 (by decide) g3 rfl (fun s4 => ?_)
  refine e_mv 95 em_443 (ce_at ce_443 52 rfl) rfl rfl ?_
  refine e_getr 98 em_443 (ce_at ce_443 53 rfl) tq_121 rfl rfl ?_
  refine e_mv 99 em_443 (ce_at ce_443 54 rfl) rfl rfl ?_
  refine e_get 102 em_443 (ce_at ce_443 55 rfl) tq_121 rfl rfl ?_
  refine e_mv 103 em_443 (ce_at ce_443 56 rfl) rfl rfl ?_
  refine e_get 106 em_443 (ce_at ce_443 57 rfl) tq_121 rfl rfl ?_
  refine e_gd fun g5 => ?_
  refine e_ist 107 em_443 (ce_at ce_443 58 rfl) tq_212 (by decide) g5 rfl (fun s6 => ?_)
  refine e_mv 108 em_443 (ce_at ce_443 59 rfl) rfl rfl ?_
  refine e_getr 111 em_443 (ce_at ce_443 60 rfl) tq_121 rfl rfl ?_
  refine e_mv 112 em_443 (ce_at ce_443 61 rfl) rfl rfl ?_
  refine e_get 115 em_443 (ce_at ce_443 62 rfl) tq_121 rfl rfl ?_
  refine e_mv 116 em_443 (ce_at ce_443 63 rfl) rfl rfl ?_
  refine e_get 119 em_443 (ce_at ce_443 64 rfl) tq_121 rfl rfl ?_
  refine e_gd fun g7 => ?_
  refine e_ist 120 em_443 (ce_at ce_443 65 rfl) tq_203 (by decide) g7 rfl (fun s8 => ?_)
  exact e_retv em_443 (ce_at ce_443 66 rfl)
theorem fm_chipTexts_68 (s : iS) : Fm Prod.snd L_m_chipTexts G_m_chipTexts s (m_chipTexts_68 s) := fm_gd (fm_lt (md_upL (mem_L rfl)) (fun s2 => fm_gd (fm_lt (md_upL (mem_L rfl)) (fun s4 => fm_gd (fm_lt (md_upL (mem_L rfl)) (fun s6 => fm_gd (fm_lt (md_upL (mem_L rfl)) (fun s8 => fm_some md_refl))))))))
noncomputable def m_chipTexts_32 (v1 : Int) (s : iS) : Option (Int × iS) := (lp (L := Int × iS) (E := iS) (fun l => m_chipTexts_32b (l.1) (l.2)) (v1, s)).bind (fun e => m_chipTexts_68 e)
theorem tm_chipTexts_32 (w : ev_W) (d : Nat) (hd : 7 ≤ d) (v1 : Int) (s : iS) : Ew hT w d 443 32 [(0, .ref (tb_nK + 121)), (1, iv v1)] [] s (Cv hT) (m_chipTexts_32 v1 s) := by
  unfold m_chipTexts_32
  refine e_lp (L := Int × iS) (E := iS) (LO := fun l => [(0, .ref (tb_nK + 121)), (1, iv (l.1))]) (LS := fun l => l.2) (CE := fun e r => ev w d 443 68 [(0, .ref (tb_nK + 121))] [] (hT (e)) r) (fun l => tm_chipTexts_32b w d hd _ _) ?_ (v1, s)
  intro e
  show Ew hT w d 443 68 [(0, .ref (tb_nK + 121))] [] e (Cv hT) _
  refine e_pk [0] rfl rfl ?_
  exact tm_chipTexts_68 w d hd _
theorem fm_chipTexts_32 (v1 : Int) (s : iS) : Fm Prod.snd L_m_chipTexts G_m_chipTexts s (m_chipTexts_32 v1 s) := by
  unfold m_chipTexts_32
  refine fm_lp (A := Int × iS) (E := iS) (LS := fun l => l.2) (LE := fun e => e) ?_ ?_ (v1, s)
  · exact fun l => fm_chipTexts_32b _ _
  · exact (fun e => fm_chipTexts_68 _)
noncomputable def m_chipTexts (s : iS) : Option (Int × iS) := lt' (up s 121 11 0) (fun s1 => lt' (up s1 121 122 0) (fun s2 => lt' (up s2 121 125 0) (fun s3 => lt' (up s3 121 131 0) (fun s4 => lt' (up s4 121 134 0) (fun s5 => lt' (up s5 121 144 0) (fun s6 => m_chipTexts_32 1 s6))))))
theorem tm_chipTexts (w : ev_W) (d : Nat) (hd : 7 ≤ d) (s : iS) : Ew hT w d 443 0 [(0, .ref (tb_nK + 121))] [] s (Cv hT) (m_chipTexts s) := by
  unfold m_chipTexts
  refine e_mv 1 em_443 (ce_at ce_443 0 rfl) rfl rfl ?_
  refine e_op 2 em_443 (ce_at ce_443 1 rfl) rfl rfl ?_
  refine e_put 5 em_443 (ce_at ce_443 2 rfl) tq_121 rfl rfl rfl (fun s1 => ?_)
  refine e_mv 6 em_443 (ce_at ce_443 3 rfl) rfl rfl ?_
  refine e_op 7 em_443 (ce_at ce_443 4 rfl) rfl rfl ?_
  refine e_put 10 em_443 (ce_at ce_443 5 rfl) tq_121 rfl rfl rfl (fun s2 => ?_)
  refine e_mv 11 em_443 (ce_at ce_443 6 rfl) rfl rfl ?_
  refine e_op 12 em_443 (ce_at ce_443 7 rfl) rfl rfl ?_
  refine e_put 15 em_443 (ce_at ce_443 8 rfl) tq_121 rfl rfl rfl (fun s3 => ?_)
  refine e_mv 16 em_443 (ce_at ce_443 9 rfl) rfl rfl ?_
  refine e_op 17 em_443 (ce_at ce_443 10 rfl) rfl rfl ?_
  refine e_put 20 em_443 (ce_at ce_443 11 rfl) tq_121 rfl rfl rfl (fun s4 => ?_)
  refine e_mv 21 em_443 (ce_at ce_443 12 rfl) rfl rfl ?_
  refine e_op 22 em_443 (ce_at ce_443 13 rfl) rfl rfl ?_
  refine e_put 25 em_443 (ce_at ce_443 14 rfl) tq_121 rfl rfl rfl (fun s5 => ?_)
  refine e_mv 26 em_443 (ce_at ce_443 15 rfl) rfl rfl ?_
  refine e_op 27 em_443 (ce_at ce_443 16 rfl) rfl rfl ?_
  refine e_put 30 em_443 (ce_at ce_443 17 rfl) tq_121 rfl rfl rfl (fun s6 => ?_)
  refine e_op 31 em_443 (ce_at ce_443 18 rfl) rfl rfl ?_
  refine e_mv 32 em_443 (ce_at ce_443 19 rfl) rfl rfl ?_
  refine e_pk [0, 1] rfl rfl ?_
  exact tm_chipTexts_32 w d hd _ _
theorem fm_chipTexts (s : iS) : Fm Prod.snd L_m_chipTexts G_m_chipTexts s (m_chipTexts s) := fm_lt (md_upF (mem_F rfl)) (fun s1 => fm_lt (md_upF (mem_F rfl)) (fun s2 => fm_lt (md_upF (mem_F rfl)) (fun s3 => fm_lt (md_upF (mem_F rfl)) (fun s4 => fm_lt (md_upF (mem_F rfl)) (fun s5 => fm_lt (md_upF (mem_F rfl)) (fun s6 => fm_chipTexts_32 _ _))))))
/-! m_gateOf -/
def L_m_gateOf : List Nat := []
def G_m_gateOf : List (Nat × Nat) := []
noncomputable def m_gateOf (v1 : Int) (s : iS) : Option (Int × iS) := gd (0 ≤ v1 ∧ v1 < 2002) (bd (m_wordOf 9 ka_11 (s 125 v1.toNat) (s 126 v1.toNat) s) (fun r2 s2 => some (r2, s2)))
theorem tm_gateOf (w : ev_W) (d : Nat) (hd : 1 ≤ d) (v1 : Int) (s : iS) : Ew hT w d 453 0 [(0, .ref (tb_nK + 121)), (1, iv v1)] [] s (Ci hT) (m_gateOf v1 s) := by
  unfold m_gateOf
  refine e_mv 1 em_453 (ce_at ce_453 0 rfl) rfl rfl ?_
  refine e_gst 4 em_453 (ce_at ce_453 1 rfl) rfl rfl ?_
  refine e_mv 5 em_453 (ce_at ce_453 2 rfl) rfl rfl ?_
  refine e_getr 8 em_453 (ce_at ce_453 3 rfl) tq_121 rfl rfl ?_
  refine e_mv 9 em_453 (ce_at ce_453 4 rfl) rfl rfl ?_
  refine e_gd fun g1 => ?_
  refine e_ild 10 em_453 (ce_at ce_453 5 rfl) tq_125 (by decide) g1 rfl ?_
  refine e_mv 11 em_453 (ce_at ce_453 6 rfl) rfl rfl ?_
  refine e_getr 14 em_453 (ce_at ce_453 7 rfl) tq_121 rfl rfl ?_
  refine e_mv 15 em_453 (ce_at ce_453 8 rfl) rfl rfl ?_
  refine e_ild 16 em_453 (ce_at ce_453 9 rfl) tq_126 (by decide) g1 rfl ?_
  refine e_ivi 19 em_453 (ce_at ce_453 10 rfl) (by omega) (iv_v3 (by decide) tq_121 rfl) em_309 (Nat.le_of_ble_eq_true rfl) rfl (tm_wordOf w (d - 1) (by omega) 9 ka_11 11 (by decide) (kt_11 _ _) (by decide) _ _ _) (fun r2 s2 => ?_)
  exact e_reti em_453 (ce_at ce_453 11 rfl)
theorem fm_gateOf (v1 : Int) (s : iS) : Fm Prod.snd L_m_gateOf G_m_gateOf s (m_gateOf v1 s) := fm_gd (fm_bd (fm_sub (fm_wordOf 9 ka_11 _ _ _) (mem_sub_L rfl) (mem_sub_F rfl)) (fun r2 s2 => fm_some md_refl))
/-! m_checkPins -/
def L_m_checkPins : List Nat := []
def G_m_checkPins : List (Nat × Nat) := [(121, 69), (121, 70)]
def m_checkPins_32C (w : ev_W) (d : Nat) (v1 : Int) : (Int × Int × iS) ⊕ (Int × iS) → am_E → Prop := fun q r => q.elim (fun l => ev w d 452 32 ((fun l => [(0, .ref (tb_nK + 121)), (1, iv v1), (2, iv (l.1)), (3, iv (l.2.1))]) l) [] (hT ((fun l => l.2.2) l)) r) (fun e => (fun e r => ev w d 452 72 [(0, .ref (tb_nK + 121)), (1, iv v1), (2, iv (e.1))] [] (hT (e.2)) r) e r)
noncomputable def m_checkPins_32b (v1 : Int) (v2 : Int) (v3 : Int) (s : iS) : Option ((Int × Int × iS) ⊕ (Int × iS)) := gd (rg v3) (gd (rg v1) (if v1 ≤ v3 then some (.inr (v2, s)) else gd (rg v2) (if v2 = 0 then gd (0 ≤ v3 ∧ v3 < 17) (gd (0 ≤ v1 ∧ v1 < 17) (bd (m_like (s 195 v3.toNat) (s 195 v1.toNat) s) (fun r8 s8 => gd (rg r8) (if r8 = 0 then some (.inl (0, (v3 + 1), s8)) else some (.inl (1, (v3 + 1), s8)))))) else some (.inl (1, (v3 + 1), s)))))
theorem tm_checkPins_32b (w : ev_W) (d : Nat) (hd : 2 ≤ d) (v1 : Int) (v2 : Int) (v3 : Int) (s : iS) : Ew hT w d 452 32 [(0, .ref (tb_nK + 121)), (1, iv v1), (2, iv v2), (3, iv v3)] [] s (m_checkPins_32C w d v1) (m_checkPins_32b v1 v2 v3 s) := by
  unfold m_checkPins_32b
  refine e_mv 33 em_452 (ce_at ce_452 20 rfl) rfl rfl ?_
  refine e_mv 34 em_452 (ce_at ce_452 21 rfl) rfl rfl ?_
  refine e_gd fun g1 => ?_
  refine e_gd fun g2 => ?_
  refine e_cmge 72 37 em_452 rfl rfl (ce_at ce_452 22 rfl) g1 g2 (fun h3 => ?_) (fun h3 => ?_)
  · refine e_pk [0, 1, 2] rfl rfl ?_
    exact e_out (fun r h => h)
  · refine e_mv 38 em_452 (ce_at ce_452 23 rfl) rfl rfl ?_
    refine e_gd fun g4 => ?_
    refine e_ifne 60 41 em_452 rfl rfl (ce_at ce_452 24 rfl) g4 (fun h5 => ?_) (fun h5 => ?_)
    · refine e_op 61 em_452 (ce_at ce_452 36 rfl) rfl rfl ?_
      refine e_goto em_452 65 (ce_at ce_452 37 rfl) rfl ?_
      refine e_mv 66 em_452 (ce_at ce_452 39 rfl) rfl rfl ?_
      refine e_iinc 69 em_452 (ce_at ce_452 40 rfl) rfl (by decide) rfl ?_
      refine e_goto em_452 32 (ce_at ce_452 41 rfl) rfl ?_
      refine e_pk [0, 1, 2, 3] rfl rfl ?_
      exact e_out (fun r h => h)
    · refine e_mv 42 em_452 (ce_at ce_452 25 rfl) rfl rfl ?_
      refine e_mv 43 em_452 (ce_at ce_452 26 rfl) rfl rfl ?_
      refine e_getr 46 em_452 (ce_at ce_452 27 rfl) tq_121 rfl rfl ?_
      refine e_mv 47 em_452 (ce_at ce_452 28 rfl) rfl rfl ?_
      refine e_gd fun g6 => ?_
      refine e_ild 48 em_452 (ce_at ce_452 29 rfl) tq_195 (by decide) g6 rfl ?_
      refine e_mv 49 em_452 (ce_at ce_452 30 rfl) rfl rfl ?_
      refine e_getr 52 em_452 (ce_at ce_452 31 rfl) tq_121 rfl rfl ?_
      refine e_mv 53 em_452 (ce_at ce_452 32 rfl) rfl rfl ?_
      refine e_gd fun g7 => ?_
      refine e_ild 54 em_452 (ce_at ce_452 33 rfl) tq_195 (by decide) g7 rfl ?_
      refine e_ivi 57 em_452 (ce_at ce_452 34 rfl) (by omega) (iv_v2 (by decide) tq_121 rfl) em_350 (Nat.le_of_ble_eq_true rfl) rfl (tm_like w (d - 1) (by omega) _ _ _) (fun r8 s8 => ?_)
      refine e_gd fun g9 => ?_
      refine e_ifeq 64 60 em_452 rfl rfl (ce_at ce_452 35 rfl) g9 (fun h10 => ?_) (fun h10 => ?_)
      · refine e_op 65 em_452 (ce_at ce_452 38 rfl) rfl rfl ?_
        refine e_mv 66 em_452 (ce_at ce_452 39 rfl) rfl rfl ?_
        refine e_iinc 69 em_452 (ce_at ce_452 40 rfl) rfl (by decide) rfl ?_
        refine e_goto em_452 32 (ce_at ce_452 41 rfl) rfl ?_
        refine e_pk [0, 1, 2, 3] rfl rfl ?_
        exact e_out (fun r h => h)
      · refine e_op 61 em_452 (ce_at ce_452 36 rfl) rfl rfl ?_
        refine e_goto em_452 65 (ce_at ce_452 37 rfl) rfl ?_
        refine e_mv 66 em_452 (ce_at ce_452 39 rfl) rfl rfl ?_
        refine e_iinc 69 em_452 (ce_at ce_452 40 rfl) rfl (by decide) rfl ?_
        refine e_goto em_452 32 (ce_at ce_452 41 rfl) rfl ?_
        refine e_pk [0, 1, 2, 3] rfl rfl ?_
        exact e_out (fun r h => h)
theorem fm_checkPins_32b (v1 : Int) (v2 : Int) (v3 : Int) (s : iS) : Fm (fun r : (Int × Int × iS) ⊕ (Int × iS) => r.elim (fun l => l.2.2) (fun e => e.2)) L_m_checkPins G_m_checkPins s (m_checkPins_32b v1 v2 v3 s) := fm_gd (fm_gd (fm_if (fm_some md_refl) (fm_gd (fm_if (fm_gd (fm_gd (fm_bd (fm_sub (fm_like _ _ _) (mem_sub_L rfl) (mem_sub_F rfl)) (fun r8 s8 => fm_gd (fm_if (fm_some md_refl) (fm_some md_refl)))))) (fm_some md_refl)))))
def m_checkPins_117C (w : ev_W) (d : Nat) (v1 : Int) (v3 : Int) : (Int × Int × iS) ⊕ (Int × iS) → am_E → Prop := fun q r => q.elim (fun l => ev w d 452 117 ((fun l => [(0, .ref (tb_nK + 121)), (1, iv v1), (3, iv v3), (4, iv (l.1)), (5, iv (l.2.1))]) l) [] (hT ((fun l => l.2.2) l)) r) (fun e => (fun e r => ev w d 452 161 [(0, .ref (tb_nK + 121)), (1, iv v1), (3, iv v3), (4, iv (e.1))] [] (hT (e.2)) r) e r)
noncomputable def m_checkPins_117b (v1 : Int) (v3 : Int) (v4 : Int) (v5 : Int) (s : iS) : Option ((Int × Int × iS) ⊕ (Int × iS)) := gd (rg v5) (gd (rg v3) (if v3 ≤ v5 then some (.inr (v4, s)) else gd (rg v4) (if v4 = 0 then gd (0 ≤ v5 ∧ v5 < 200) (gd (0 ≤ v3 ∧ v3 < 200) (bd (m_like (s 198 v5.toNat) (s 198 v3.toNat) s) (fun r8 s8 => gd (rg r8) (if r8 = 0 then some (.inl (0, (v5 + 1), s8)) else some (.inl (1, (v5 + 1), s8)))))) else some (.inl (1, (v5 + 1), s)))))
theorem tm_checkPins_117b (w : ev_W) (d : Nat) (hd : 2 ≤ d) (v1 : Int) (v3 : Int) (v4 : Int) (v5 : Int) (s : iS) : Ew hT w d 452 117 [(0, .ref (tb_nK + 121)), (1, iv v1), (3, iv v3), (4, iv v4), (5, iv v5)] [] s (m_checkPins_117C w d v1 v3) (m_checkPins_117b v1 v3 v4 v5 s) := by
  unfold m_checkPins_117b
  refine e_mv 119 em_452 (ce_at ce_452 71 rfl) rfl rfl ?_
  refine e_mv 120 em_452 (ce_at ce_452 72 rfl) rfl rfl ?_
  refine e_gd fun g1 => ?_
  refine e_gd fun g2 => ?_
  refine e_cmge 161 123 em_452 rfl rfl (ce_at ce_452 73 rfl) g1 g2 (fun h3 => ?_) (fun h3 => ?_)
  · refine e_pk [0, 1, 3, 4] rfl rfl ?_
    exact e_out (fun r h => h)
  · refine e_mv 125 em_452 (ce_at ce_452 74 rfl) rfl rfl ?_
    refine e_gd fun g4 => ?_
    refine e_ifne 148 128 em_452 rfl rfl (ce_at ce_452 75 rfl) g4 (fun h5 => ?_) (fun h5 => ?_)
    · refine e_op 149 em_452 (ce_at ce_452 87 rfl) rfl rfl ?_
      refine e_goto em_452 153 (ce_at ce_452 88 rfl) rfl ?_
      refine e_mv 155 em_452 (ce_at ce_452 90 rfl) rfl rfl ?_
      refine e_iinc 158 em_452 (ce_at ce_452 91 rfl) rfl (by decide) rfl ?_
      refine e_goto em_452 117 (ce_at ce_452 92 rfl) rfl ?_
      refine e_pk [0, 1, 3, 4, 5] rfl rfl ?_
      exact e_out (fun r h => h)
    · refine e_mv 129 em_452 (ce_at ce_452 76 rfl) rfl rfl ?_
      refine e_mv 130 em_452 (ce_at ce_452 77 rfl) rfl rfl ?_
      refine e_getr 133 em_452 (ce_at ce_452 78 rfl) tq_121 rfl rfl ?_
      refine e_mv 135 em_452 (ce_at ce_452 79 rfl) rfl rfl ?_
      refine e_gd fun g6 => ?_
      refine e_ild 136 em_452 (ce_at ce_452 80 rfl) tq_198 (by decide) g6 rfl ?_
      refine e_mv 137 em_452 (ce_at ce_452 81 rfl) rfl rfl ?_
      refine e_getr 140 em_452 (ce_at ce_452 82 rfl) tq_121 rfl rfl ?_
      refine e_mv 141 em_452 (ce_at ce_452 83 rfl) rfl rfl ?_
      refine e_gd fun g7 => ?_
      refine e_ild 142 em_452 (ce_at ce_452 84 rfl) tq_198 (by decide) g7 rfl ?_
      refine e_ivi 145 em_452 (ce_at ce_452 85 rfl) (by omega) (iv_v2 (by decide) tq_121 rfl) em_350 (Nat.le_of_ble_eq_true rfl) rfl (tm_like w (d - 1) (by omega) _ _ _) (fun r8 s8 => ?_)
      refine e_gd fun g9 => ?_
      refine e_ifeq 152 148 em_452 rfl rfl (ce_at ce_452 86 rfl) g9 (fun h10 => ?_) (fun h10 => ?_)
      · refine e_op 153 em_452 (ce_at ce_452 89 rfl) rfl rfl ?_
        refine e_mv 155 em_452 (ce_at ce_452 90 rfl) rfl rfl ?_
        refine e_iinc 158 em_452 (ce_at ce_452 91 rfl) rfl (by decide) rfl ?_
        refine e_goto em_452 117 (ce_at ce_452 92 rfl) rfl ?_
        refine e_pk [0, 1, 3, 4, 5] rfl rfl ?_
        exact e_out (fun r h => h)
      · refine e_op 149 em_452 (ce_at ce_452 87 rfl) rfl rfl ?_
        refine e_goto em_452 153 (ce_at ce_452 88 rfl) rfl ?_
        refine e_mv 155 em_452 (ce_at ce_452 90 rfl) rfl rfl ?_
        refine e_iinc 158 em_452 (ce_at ce_452 91 rfl) rfl (by decide) rfl ?_
        refine e_goto em_452 117 (ce_at ce_452 92 rfl) rfl ?_
        refine e_pk [0, 1, 3, 4, 5] rfl rfl ?_
        exact e_out (fun r h => h)
theorem fm_checkPins_117b (v1 : Int) (v3 : Int) (v4 : Int) (v5 : Int) (s : iS) : Fm (fun r : (Int × Int × iS) ⊕ (Int × iS) => r.elim (fun l => l.2.2) (fun e => e.2)) L_m_checkPins G_m_checkPins s (m_checkPins_117b v1 v3 v4 v5 s) := fm_gd (fm_gd (fm_if (fm_some md_refl) (fm_gd (fm_if (fm_gd (fm_gd (fm_bd (fm_sub (fm_like _ _ _) (mem_sub_L rfl) (mem_sub_F rfl)) (fun r8 s8 => fm_gd (fm_if (fm_some md_refl) (fm_some md_refl)))))) (fm_some md_refl)))))
def m_checkPins_94C (w : ev_W) (d : Nat) (v1 : Int) : (Int × iS) ⊕ (iS) → am_E → Prop := fun q r => q.elim (fun l => ev w d 452 94 ((fun l => [(0, .ref (tb_nK + 121)), (1, iv v1), (3, iv (l.1))]) l) [] (hT ((fun l => l.2) l)) r) (fun e => (fun e r => ev w d 452 235 [(0, .ref (tb_nK + 121)), (1, iv v1)] [] (hT (e)) r) e r)
noncomputable def m_checkPins_218 (v1 : Int) (v3 : Int) (s : iS) : Option ((Int × iS) ⊕ (iS)) := gd (0 ≤ v3 ∧ v3 < 200) (bd (m_note 5 (s 200 v3.toNat) s) (fun _ s2 => some (.inl ((v3 + 1), s2))))
theorem tm_checkPins_218 (w : ev_W) (d : Nat) (hd : 2 ≤ d) (v1 : Int) (v3 : Int) (s : iS) : Ew hT w d 452 218 [(0, .ref (tb_nK + 121)), (1, iv v1), (3, iv v3)] [] s (m_checkPins_94C w d v1) (m_checkPins_218 v1 v3 s) := by
  unfold m_checkPins_218
  refine e_mv 219 em_452 (ce_at ce_452 126 rfl) rfl rfl ?_
  refine e_op 220 em_452 (ce_at ce_452 127 rfl) rfl rfl ?_
  refine e_mv 221 em_452 (ce_at ce_452 128 rfl) rfl rfl ?_
  refine e_getr 224 em_452 (ce_at ce_452 129 rfl) tq_121 rfl rfl ?_
  refine e_mv 225 em_452 (ce_at ce_452 130 rfl) rfl rfl ?_
  refine e_gd fun g1 => ?_
  refine e_ild 226 em_452 (ce_at ce_452 131 rfl) tq_200 (by decide) g1 rfl ?_
  refine e_ivv 229 em_452 (ce_at ce_452 132 rfl) (by omega) (iv_v2 (by decide) tq_121 rfl) em_351 (Nat.le_of_ble_eq_true rfl) rfl (tm_note w (d - 1) (by omega) _ _ _) (fun r2 s2 => ?_)
  refine e_iinc 232 em_452 (ce_at ce_452 133 rfl) rfl (by decide) rfl ?_
  refine e_goto em_452 94 (ce_at ce_452 134 rfl) rfl ?_
  refine e_pk [0, 1, 3] rfl rfl ?_
  exact e_out (fun r h => h)
theorem fm_checkPins_218 (v1 : Int) (v3 : Int) (s : iS) : Fm (fun r : (Int × iS) ⊕ (iS) => r.elim (fun l => l.2) (fun e => e)) L_m_checkPins G_m_checkPins s (m_checkPins_218 v1 v3 s) := fm_gd (fm_bd (fm_sub (fm_note _ _ _) (mem_sub_L rfl) (mem_sub_F rfl)) (fun r2 s2 => fm_some md_refl))
noncomputable def m_checkPins_177 (v1 : Int) (v3 : Int) (s : iS) : Option ((Int × iS) ⊕ (iS)) := gd (0 ≤ v3 ∧ v3 < 200) (gd (rg (s 200 v3.toNat)) (if (s 200 v3.toNat) = (-1) then some (.inl ((v3 + 1), s)) else gd (0 ≤ (s 200 v3.toNat) ∧ (s 200 v3.toNat) < 2002) (gd (rg (s 127 (s 200 v3.toNat).toNat)) (if (s 127 (s 200 v3.toNat).toNat) < 1 then m_checkPins_218 v1 v3 s else if (s 127 (s 200 v3.toNat).toNat) ≤ 16 then some (.inl ((v3 + 1), s)) else m_checkPins_218 v1 v3 s))))
theorem tm_checkPins_177 (w : ev_W) (d : Nat) (hd : 2 ≤ d) (v1 : Int) (v3 : Int) (s : iS) : Ew hT w d 452 177 [(0, .ref (tb_nK + 121)), (1, iv v1), (3, iv v3)] [] s (m_checkPins_94C w d v1) (m_checkPins_177 v1 v3 s) := by
  unfold m_checkPins_177
  refine e_mv 178 em_452 (ce_at ce_452 102 rfl) rfl rfl ?_
  refine e_getr 181 em_452 (ce_at ce_452 103 rfl) tq_121 rfl rfl ?_
  refine e_mv 182 em_452 (ce_at ce_452 104 rfl) rfl rfl ?_
  refine e_gd fun g1 => ?_
  refine e_ild 183 em_452 (ce_at ce_452 105 rfl) tq_200 (by decide) g1 rfl ?_
  refine e_op 184 em_452 (ce_at ce_452 106 rfl) rfl rfl ?_
  refine e_gd fun g2 => ?_
  refine e_cmeq 229 187 em_452 rfl rfl (ce_at ce_452 107 rfl) g2 (by decide) (fun h3 => ?_) (fun h3 => ?_)
  · refine e_iinc 232 em_452 (ce_at ce_452 133 rfl) rfl (by decide) rfl ?_
    refine e_goto em_452 94 (ce_at ce_452 134 rfl) rfl ?_
    refine e_pk [0, 1, 3] rfl rfl ?_
    exact e_out (fun r h => h)
  · refine e_mv 188 em_452 (ce_at ce_452 108 rfl) rfl rfl ?_
    refine e_getr 191 em_452 (ce_at ce_452 109 rfl) tq_121 rfl rfl ?_
    refine e_mv 192 em_452 (ce_at ce_452 110 rfl) rfl rfl ?_
    refine e_getr 195 em_452 (ce_at ce_452 111 rfl) tq_121 rfl rfl ?_
    refine e_mv 196 em_452 (ce_at ce_452 112 rfl) rfl rfl ?_
    refine e_ild 197 em_452 (ce_at ce_452 113 rfl) tq_200 (by decide) g1 rfl ?_
    refine e_gd fun g4 => ?_
    refine e_ild 198 em_452 (ce_at ce_452 114 rfl) tq_127 (by decide) g4 rfl ?_
    refine e_op 199 em_452 (ce_at ce_452 115 rfl) rfl rfl ?_
    refine e_gd fun g5 => ?_
    refine e_cmlt 218 202 em_452 rfl rfl (ce_at ce_452 116 rfl) g5 (by decide) (fun h6 => ?_) (fun h6 => ?_)
    · refine e_pk [0, 1, 3] rfl rfl ?_
      exact tm_checkPins_218 w d hd _ _ _
    · refine e_mv 203 em_452 (ce_at ce_452 117 rfl) rfl rfl ?_
      refine e_getr 206 em_452 (ce_at ce_452 118 rfl) tq_121 rfl rfl ?_
      refine e_mv 207 em_452 (ce_at ce_452 119 rfl) rfl rfl ?_
      refine e_getr 210 em_452 (ce_at ce_452 120 rfl) tq_121 rfl rfl ?_
      refine e_mv 211 em_452 (ce_at ce_452 121 rfl) rfl rfl ?_
      refine e_ild 212 em_452 (ce_at ce_452 122 rfl) tq_200 (by decide) g1 rfl ?_
      refine e_ild 213 em_452 (ce_at ce_452 123 rfl) tq_127 (by decide) g4 rfl ?_
      refine e_bip 215 em_452 (ce_at ce_452 124 rfl) (by decide) rfl ?_
      refine e_cmle 229 218 em_452 rfl rfl (ce_at ce_452 125 rfl) g5 (by decide) (fun h7 => ?_) (fun h7 => ?_)
      · refine e_iinc 232 em_452 (ce_at ce_452 133 rfl) rfl (by decide) rfl ?_
        refine e_goto em_452 94 (ce_at ce_452 134 rfl) rfl ?_
        refine e_pk [0, 1, 3] rfl rfl ?_
        exact e_out (fun r h => h)
      · refine e_pk [0, 1, 3] rfl rfl ?_
        exact tm_checkPins_218 w d hd _ _ _
theorem fm_checkPins_177 (v1 : Int) (v3 : Int) (s : iS) : Fm (fun r : (Int × iS) ⊕ (iS) => r.elim (fun l => l.2) (fun e => e)) L_m_checkPins G_m_checkPins s (m_checkPins_177 v1 v3 s) := fm_gd (fm_gd (fm_if (fm_some md_refl) (fm_gd (fm_gd (fm_if (fm_checkPins_218 _ _ _) (fm_if (fm_some md_refl) (fm_checkPins_218 _ _ _)))))))
noncomputable def m_checkPins_161 (v1 : Int) (v3 : Int) (v4 : Int) (s : iS) : Option ((Int × iS) ⊕ (iS)) := gd (rg v4) (if v4 = 0 then m_checkPins_177 v1 v3 s else gd (0 ≤ v3 ∧ v3 < 200) (bd (m_note 3 (s 198 v3.toNat) s) (fun _ s4 => m_checkPins_177 v1 v3 s4)))
theorem tm_checkPins_161 (w : ev_W) (d : Nat) (hd : 2 ≤ d) (v1 : Int) (v3 : Int) (v4 : Int) (s : iS) : Ew hT w d 452 161 [(0, .ref (tb_nK + 121)), (1, iv v1), (3, iv v3), (4, iv v4)] [] s (m_checkPins_94C w d v1) (m_checkPins_161 v1 v3 v4 s) := by
  unfold m_checkPins_161
  refine e_mv 163 em_452 (ce_at ce_452 93 rfl) rfl rfl ?_
  refine e_gd fun g1 => ?_
  refine e_ifeq 177 166 em_452 rfl rfl (ce_at ce_452 94 rfl) g1 (fun h2 => ?_) (fun h2 => ?_)
  · refine e_pk [0, 1, 3] rfl rfl ?_
    exact tm_checkPins_177 w d hd _ _ _
  · refine e_mv 167 em_452 (ce_at ce_452 95 rfl) rfl rfl ?_
    refine e_op 168 em_452 (ce_at ce_452 96 rfl) rfl rfl ?_
    refine e_mv 169 em_452 (ce_at ce_452 97 rfl) rfl rfl ?_
    refine e_getr 172 em_452 (ce_at ce_452 98 rfl) tq_121 rfl rfl ?_
    refine e_mv 173 em_452 (ce_at ce_452 99 rfl) rfl rfl ?_
    refine e_gd fun g3 => ?_
    refine e_ild 174 em_452 (ce_at ce_452 100 rfl) tq_198 (by decide) g3 rfl ?_
    refine e_ivv 177 em_452 (ce_at ce_452 101 rfl) (by omega) (iv_v2 (by decide) tq_121 rfl) em_351 (Nat.le_of_ble_eq_true rfl) rfl (tm_note w (d - 1) (by omega) _ _ _) (fun r4 s4 => ?_)
    refine e_pk [0, 1, 3] rfl rfl ?_
    exact tm_checkPins_177 w d hd _ _ _
theorem fm_checkPins_161 (v1 : Int) (v3 : Int) (v4 : Int) (s : iS) : Fm (fun r : (Int × iS) ⊕ (iS) => r.elim (fun l => l.2) (fun e => e)) L_m_checkPins G_m_checkPins s (m_checkPins_161 v1 v3 v4 s) := fm_gd (fm_if (fm_checkPins_177 _ _ _) (fm_gd (fm_bd (fm_sub (fm_note _ _ _) (mem_sub_L rfl) (mem_sub_F rfl)) (fun r4 s4 => fm_checkPins_177 _ _ _))))
noncomputable def m_checkPins_117 (v1 : Int) (v3 : Int) (v4 : Int) (v5 : Int) (s : iS) : Option ((Int × iS) ⊕ (iS)) := (lp (L := Int × Int × iS) (E := Int × iS) (fun l => m_checkPins_117b v1 v3 (l.1) (l.2.1) (l.2.2)) (v4, v5, s)).bind (fun e => m_checkPins_161 v1 v3 (e.1) (e.2))
theorem tm_checkPins_117 (w : ev_W) (d : Nat) (hd : 2 ≤ d) (v1 : Int) (v3 : Int) (v4 : Int) (v5 : Int) (s : iS) : Ew hT w d 452 117 [(0, .ref (tb_nK + 121)), (1, iv v1), (3, iv v3), (4, iv v4), (5, iv v5)] [] s (m_checkPins_94C w d v1) (m_checkPins_117 v1 v3 v4 v5 s) := by
  unfold m_checkPins_117
  refine e_lp (L := Int × Int × iS) (E := Int × iS) (LO := fun l => [(0, .ref (tb_nK + 121)), (1, iv v1), (3, iv v3), (4, iv (l.1)), (5, iv (l.2.1))]) (LS := fun l => l.2.2) (CE := fun e r => ev w d 452 161 [(0, .ref (tb_nK + 121)), (1, iv v1), (3, iv v3), (4, iv (e.1))] [] (hT (e.2)) r) (fun l => tm_checkPins_117b w d hd _ _ _ _ _) ?_ (v4, v5, s)
  intro e
  show Ew hT w d 452 161 [(0, .ref (tb_nK + 121)), (1, iv v1), (3, iv v3), (4, iv (e.1))] [] e.2 (m_checkPins_94C w d v1) _
  refine e_pk [0, 1, 3, 4] rfl rfl ?_
  exact tm_checkPins_161 w d hd _ _ _ _
theorem fm_checkPins_117 (v1 : Int) (v3 : Int) (v4 : Int) (v5 : Int) (s : iS) : Fm (fun r : (Int × iS) ⊕ (iS) => r.elim (fun l => l.2) (fun e => e)) L_m_checkPins G_m_checkPins s (m_checkPins_117 v1 v3 v4 v5 s) := by
  unfold m_checkPins_117
  refine fm_lp (A := Int × Int × iS) (E := Int × iS) (LS := fun l => l.2.2) (LE := fun e => e.2) ?_ ?_ (v4, v5, s)
  · exact fun l => fm_checkPins_117b _ _ _ _ _
  · exact (fun e => fm_checkPins_161 _ _ _ _)
noncomputable def m_checkPins_94b (v1 : Int) (v3 : Int) (s : iS) : Option ((Int × iS) ⊕ (iS)) := gd (0 ≤ (v1 + 1) ∧ (v1 + 1) < 18) (gd (rg v3) (gd (rg (s 196 (v1 + 1).toNat)) (if (s 196 (v1 + 1).toNat) ≤ v3 then some (.inr s) else gd (0 ≤ v1 ∧ v1 < 18) (m_checkPins_117 v1 v3 0 (s 196 v1.toNat) s))))
theorem tm_checkPins_94b (w : ev_W) (d : Nat) (hd : 2 ≤ d) (v1 : Int) (v3 : Int) (s : iS) : Ew hT w d 452 94 [(0, .ref (tb_nK + 121)), (1, iv v1), (3, iv v3)] [] s (m_checkPins_94C w d v1) (m_checkPins_94b v1 v3 s) := by
  unfold m_checkPins_94b
  refine e_mv 95 em_452 (ce_at ce_452 56 rfl) rfl rfl ?_
  refine e_mv 96 em_452 (ce_at ce_452 57 rfl) rfl rfl ?_
  refine e_getr 99 em_452 (ce_at ce_452 58 rfl) tq_121 rfl rfl ?_
  refine e_mv 100 em_452 (ce_at ce_452 59 rfl) rfl rfl ?_
  refine e_op 101 em_452 (ce_at ce_452 60 rfl) rfl rfl ?_
  refine e_iadd 102 em_452 rfl (ce_at ce_452 61 rfl) ?_
  refine e_gd fun g1 => ?_
  refine e_ild 103 em_452 (ce_at ce_452 62 rfl) tq_196 (by decide) g1 rfl ?_
  refine e_gd fun g2 => ?_
  refine e_gd fun g3 => ?_
  refine e_cmge 235 106 em_452 rfl rfl (ce_at ce_452 63 rfl) g2 g3 (fun h4 => ?_) (fun h4 => ?_)
  · refine e_pk [0, 1] rfl rfl ?_
    exact e_out (fun r h => h)
  · refine e_op 107 em_452 (ce_at ce_452 64 rfl) rfl rfl ?_
    refine e_mv 109 em_452 (ce_at ce_452 65 rfl) rfl rfl ?_
    refine e_mv 110 em_452 (ce_at ce_452 66 rfl) rfl rfl ?_
    refine e_getr 113 em_452 (ce_at ce_452 67 rfl) tq_121 rfl rfl ?_
    refine e_mv 114 em_452 (ce_at ce_452 68 rfl) rfl rfl ?_
    refine e_gd fun g5 => ?_
    refine e_ild 115 em_452 (ce_at ce_452 69 rfl) tq_196 (by decide) g5 rfl ?_
    refine e_mv 117 em_452 (ce_at ce_452 70 rfl) rfl rfl ?_
    refine e_pk [0, 1, 3, 4, 5] rfl rfl ?_
    exact tm_checkPins_117 w d hd _ _ _ _ _
theorem fm_checkPins_94b (v1 : Int) (v3 : Int) (s : iS) : Fm (fun r : (Int × iS) ⊕ (iS) => r.elim (fun l => l.2) (fun e => e)) L_m_checkPins G_m_checkPins s (m_checkPins_94b v1 v3 s) := fm_gd (fm_gd (fm_gd (fm_if (fm_some md_refl) (fm_gd (fm_checkPins_117 _ _ _ _ _)))))
def m_checkPins_2C (w : ev_W) (d : Nat) : (Int × iS) ⊕ (iS) → am_E → Prop := fun q r => q.elim (fun l => ev w d 452 2 ((fun l => [(0, .ref (tb_nK + 121)), (1, iv (l.1))]) l) [] (hT ((fun l => l.2) l)) r) (fun e => (fun e r => ev w d 452 241 [] [] (hT (e)) r) e r)
noncomputable def m_checkPins_94 (v1 : Int) (v3 : Int) (s : iS) : Option ((Int × iS) ⊕ (iS)) := (lp (L := Int × iS) (E := iS) (fun l => m_checkPins_94b v1 (l.1) (l.2)) (v3, s)).bind (fun e => some (.inl ((v1 + 1), e)))
theorem tm_checkPins_94 (w : ev_W) (d : Nat) (hd : 2 ≤ d) (v1 : Int) (v3 : Int) (s : iS) : Ew hT w d 452 94 [(0, .ref (tb_nK + 121)), (1, iv v1), (3, iv v3)] [] s (m_checkPins_2C w d) (m_checkPins_94 v1 v3 s) := by
  unfold m_checkPins_94
  refine e_lp (L := Int × iS) (E := iS) (LO := fun l => [(0, .ref (tb_nK + 121)), (1, iv v1), (3, iv (l.1))]) (LS := fun l => l.2) (CE := fun e r => ev w d 452 235 [(0, .ref (tb_nK + 121)), (1, iv v1)] [] (hT (e)) r) (fun l => tm_checkPins_94b w d hd _ _ _) ?_ (v3, s)
  intro e
  show Ew hT w d 452 235 [(0, .ref (tb_nK + 121)), (1, iv v1)] [] e (m_checkPins_2C w d) _
  refine e_iinc 238 em_452 (ce_at ce_452 135 rfl) rfl (by decide) rfl ?_
  refine e_goto em_452 2 (ce_at ce_452 136 rfl) rfl ?_
  refine e_pk [0, 1] rfl rfl ?_
  exact e_out (fun r h => h)
theorem fm_checkPins_94 (v1 : Int) (v3 : Int) (s : iS) : Fm (fun r : (Int × iS) ⊕ (iS) => r.elim (fun l => l.2) (fun e => e)) L_m_checkPins G_m_checkPins s (m_checkPins_94 v1 v3 s) := by
  unfold m_checkPins_94
  refine fm_lp (A := Int × iS) (E := iS) (LS := fun l => l.2) (LE := fun e => e) ?_ ?_ (v3, s)
  · exact fun l => fm_checkPins_94b _ _ _
  · exact (fun e => fm_some md_refl)
noncomputable def m_checkPins_87 (v1 : Int) (s : iS) : Option ((Int × iS) ⊕ (iS)) := gd (0 ≤ v1 ∧ v1 < 18) (m_checkPins_94 v1 (s 196 v1.toNat) s)
theorem tm_checkPins_87 (w : ev_W) (d : Nat) (hd : 2 ≤ d) (v1 : Int) (s : iS) : Ew hT w d 452 87 [(0, .ref (tb_nK + 121)), (1, iv v1)] [] s (m_checkPins_2C w d) (m_checkPins_87 v1 s) := by
  unfold m_checkPins_87
  refine e_mv 88 em_452 (ce_at ce_452 51 rfl) rfl rfl ?_
  refine e_getr 91 em_452 (ce_at ce_452 52 rfl) tq_121 rfl rfl ?_
  refine e_mv 92 em_452 (ce_at ce_452 53 rfl) rfl rfl ?_
  refine e_gd fun g1 => ?_
  refine e_ild 93 em_452 (ce_at ce_452 54 rfl) tq_196 (by decide) g1 rfl ?_
  refine e_mv 94 em_452 (ce_at ce_452 55 rfl) rfl rfl ?_
  refine e_pk [0, 1, 3] rfl rfl ?_
  exact tm_checkPins_94 w d hd _ _ _
theorem fm_checkPins_87 (v1 : Int) (s : iS) : Fm (fun r : (Int × iS) ⊕ (iS) => r.elim (fun l => l.2) (fun e => e)) L_m_checkPins G_m_checkPins s (m_checkPins_87 v1 s) := fm_gd (fm_checkPins_94 _ _ _)
noncomputable def m_checkPins_72 (v1 : Int) (v2 : Int) (s : iS) : Option ((Int × iS) ⊕ (iS)) := gd (rg v2) (if v2 = 0 then m_checkPins_87 v1 s else gd (0 ≤ v1 ∧ v1 < 17) (bd (m_note 3 (s 195 v1.toNat) s) (fun _ s4 => m_checkPins_87 v1 s4)))
theorem tm_checkPins_72 (w : ev_W) (d : Nat) (hd : 2 ≤ d) (v1 : Int) (v2 : Int) (s : iS) : Ew hT w d 452 72 [(0, .ref (tb_nK + 121)), (1, iv v1), (2, iv v2)] [] s (m_checkPins_2C w d) (m_checkPins_72 v1 v2 s) := by
  unfold m_checkPins_72
  refine e_mv 73 em_452 (ce_at ce_452 42 rfl) rfl rfl ?_
  refine e_gd fun g1 => ?_
  refine e_ifeq 87 76 em_452 rfl rfl (ce_at ce_452 43 rfl) g1 (fun h2 => ?_) (fun h2 => ?_)
  · refine e_pk [0, 1] rfl rfl ?_
    exact tm_checkPins_87 w d hd _ _
  · refine e_mv 77 em_452 (ce_at ce_452 44 rfl) rfl rfl ?_
    refine e_op 78 em_452 (ce_at ce_452 45 rfl) rfl rfl ?_
    refine e_mv 79 em_452 (ce_at ce_452 46 rfl) rfl rfl ?_
    refine e_getr 82 em_452 (ce_at ce_452 47 rfl) tq_121 rfl rfl ?_
    refine e_mv 83 em_452 (ce_at ce_452 48 rfl) rfl rfl ?_
    refine e_gd fun g3 => ?_
    refine e_ild 84 em_452 (ce_at ce_452 49 rfl) tq_195 (by decide) g3 rfl ?_
    refine e_ivv 87 em_452 (ce_at ce_452 50 rfl) (by omega) (iv_v2 (by decide) tq_121 rfl) em_351 (Nat.le_of_ble_eq_true rfl) rfl (tm_note w (d - 1) (by omega) _ _ _) (fun r4 s4 => ?_)
    refine e_pk [0, 1] rfl rfl ?_
    exact tm_checkPins_87 w d hd _ _
theorem fm_checkPins_72 (v1 : Int) (v2 : Int) (s : iS) : Fm (fun r : (Int × iS) ⊕ (iS) => r.elim (fun l => l.2) (fun e => e)) L_m_checkPins G_m_checkPins s (m_checkPins_72 v1 v2 s) := fm_gd (fm_if (fm_checkPins_87 _ _) (fm_gd (fm_bd (fm_sub (fm_note _ _ _) (mem_sub_L rfl) (mem_sub_F rfl)) (fun r4 s4 => fm_checkPins_87 _ _))))
noncomputable def m_checkPins_32 (v1 : Int) (v2 : Int) (v3 : Int) (s : iS) : Option ((Int × iS) ⊕ (iS)) := (lp (L := Int × Int × iS) (E := Int × iS) (fun l => m_checkPins_32b v1 (l.1) (l.2.1) (l.2.2)) (v2, v3, s)).bind (fun e => m_checkPins_72 v1 (e.1) (e.2))
theorem tm_checkPins_32 (w : ev_W) (d : Nat) (hd : 2 ≤ d) (v1 : Int) (v2 : Int) (v3 : Int) (s : iS) : Ew hT w d 452 32 [(0, .ref (tb_nK + 121)), (1, iv v1), (2, iv v2), (3, iv v3)] [] s (m_checkPins_2C w d) (m_checkPins_32 v1 v2 v3 s) := by
  unfold m_checkPins_32
  refine e_lp (L := Int × Int × iS) (E := Int × iS) (LO := fun l => [(0, .ref (tb_nK + 121)), (1, iv v1), (2, iv (l.1)), (3, iv (l.2.1))]) (LS := fun l => l.2.2) (CE := fun e r => ev w d 452 72 [(0, .ref (tb_nK + 121)), (1, iv v1), (2, iv (e.1))] [] (hT (e.2)) r) (fun l => tm_checkPins_32b w d hd _ _ _ _) ?_ (v2, v3, s)
  intro e
  show Ew hT w d 452 72 [(0, .ref (tb_nK + 121)), (1, iv v1), (2, iv (e.1))] [] e.2 (m_checkPins_2C w d) _
  refine e_pk [0, 1, 2] rfl rfl ?_
  exact tm_checkPins_72 w d hd _ _ _
theorem fm_checkPins_32 (v1 : Int) (v2 : Int) (v3 : Int) (s : iS) : Fm (fun r : (Int × iS) ⊕ (iS) => r.elim (fun l => l.2) (fun e => e)) L_m_checkPins G_m_checkPins s (m_checkPins_32 v1 v2 v3 s) := by
  unfold m_checkPins_32
  refine fm_lp (A := Int × Int × iS) (E := Int × iS) (LS := fun l => l.2.2) (LE := fun e => e.2) ?_ ?_ (v2, v3, s)
  · exact fun l => fm_checkPins_32b _ _ _ _
  · exact (fun e => fm_checkPins_72 _ _ _)
noncomputable def m_checkPins_29 (v1 : Int) (t0 : Int) (s : iS) : Option ((Int × iS) ⊕ (iS)) := m_checkPins_32 v1 t0 0 s
theorem tm_checkPins_29 (w : ev_W) (d : Nat) (hd : 2 ≤ d) (v1 : Int) (t0 : Int) (s : iS) : Ew hT w d 452 29 [(0, .ref (tb_nK + 121)), (1, iv v1)] [iv t0] s (m_checkPins_2C w d) (m_checkPins_29 v1 t0 s) := by
  unfold m_checkPins_29
  refine e_mv 30 em_452 (ce_at ce_452 17 rfl) rfl rfl ?_
  refine e_op 31 em_452 (ce_at ce_452 18 rfl) rfl rfl ?_
  refine e_mv 32 em_452 (ce_at ce_452 19 rfl) rfl rfl ?_
  refine e_pk [0, 1, 2, 3] rfl rfl ?_
  exact tm_checkPins_32 w d hd _ _ _ _
theorem fm_checkPins_29 (v1 : Int) (t0 : Int) (s : iS) : Fm (fun r : (Int × iS) ⊕ (iS) => r.elim (fun l => l.2) (fun e => e)) L_m_checkPins G_m_checkPins s (m_checkPins_29 v1 t0 s) := fm_checkPins_32 _ _ _ _
noncomputable def m_checkPins_2b (v1 : Int) (s : iS) : Option ((Int × iS) ⊕ (iS)) := gd (rg v1) (gd (rg (s 121 122)) (if (s 121 122) ≤ v1 then some (.inr s) else gd (0 ≤ v1 ∧ v1 < 17) (bd (m_gateOf (s 195 v1.toNat) s) (fun r5 s5 => gd (rg r5) (if r5 = (-1) then m_checkPins_29 v1 0 s5 else m_checkPins_29 v1 1 s5)))))
theorem tm_checkPins_2b (w : ev_W) (d : Nat) (hd : 2 ≤ d) (v1 : Int) (s : iS) : Ew hT w d 452 2 [(0, .ref (tb_nK + 121)), (1, iv v1)] [] s (m_checkPins_2C w d) (m_checkPins_2b v1 s) := by
  unfold m_checkPins_2b
  refine e_mv 3 em_452 (ce_at ce_452 2 rfl) rfl rfl ?_
  refine e_mv 4 em_452 (ce_at ce_452 3 rfl) rfl rfl ?_
  refine e_get 7 em_452 (ce_at ce_452 4 rfl) tq_121 rfl rfl ?_
  refine e_gd fun g1 => ?_
  refine e_gd fun g2 => ?_
  refine e_cmge 241 10 em_452 rfl rfl (ce_at ce_452 5 rfl) g1 g2 (fun h3 => ?_) (fun h3 => ?_)
  · refine e_pk [] rfl rfl ?_
    exact e_out (fun r h => h)
  · refine e_mv 11 em_452 (ce_at ce_452 6 rfl) rfl rfl ?_
    refine e_mv 12 em_452 (ce_at ce_452 7 rfl) rfl rfl ?_
    refine e_getr 15 em_452 (ce_at ce_452 8 rfl) tq_121 rfl rfl ?_
    refine e_mv 16 em_452 (ce_at ce_452 9 rfl) rfl rfl ?_
    refine e_gd fun g4 => ?_
    refine e_ild 17 em_452 (ce_at ce_452 10 rfl) tq_195 (by decide) g4 rfl ?_
    refine e_ivi 20 em_452 (ce_at ce_452 11 rfl) (by omega) (iv_v1 (by decide) tq_121 rfl) em_453 (Nat.le_of_ble_eq_true rfl) rfl (tm_gateOf w (d - 1) (by omega) _ _) (fun r5 s5 => ?_)
    refine e_op 21 em_452 (ce_at ce_452 12 rfl) rfl rfl ?_
    refine e_gd fun g6 => ?_
    refine e_cmeq 28 24 em_452 rfl rfl (ce_at ce_452 13 rfl) g6 (by decide) (fun h7 => ?_) (fun h7 => ?_)
    · refine e_op 29 em_452 (ce_at ce_452 16 rfl) rfl rfl ?_
      refine e_pk [0, 1] rfl rfl ?_
      exact tm_checkPins_29 w d hd _ _ _
    · refine e_op 25 em_452 (ce_at ce_452 14 rfl) rfl rfl ?_
      refine e_goto em_452 29 (ce_at ce_452 15 rfl) rfl ?_
      refine e_pk [0, 1] rfl rfl ?_
      exact tm_checkPins_29 w d hd _ _ _
theorem fm_checkPins_2b (v1 : Int) (s : iS) : Fm (fun r : (Int × iS) ⊕ (iS) => r.elim (fun l => l.2) (fun e => e)) L_m_checkPins G_m_checkPins s (m_checkPins_2b v1 s) := fm_gd (fm_gd (fm_if (fm_some md_refl) (fm_gd (fm_bd (fm_sub (fm_gateOf _ _) (mem_sub_L rfl) (mem_sub_F rfl)) (fun r5 s5 => fm_gd (fm_if (fm_checkPins_29 _ _ _) (fm_checkPins_29 _ _ _)))))))
noncomputable def m_checkPins_2 (v1 : Int) (s : iS) : Option (Int × iS) := (lp (L := Int × iS) (E := iS) (fun l => m_checkPins_2b (l.1) (l.2)) (v1, s)).bind (fun e => some (0, e))
theorem tm_checkPins_2 (w : ev_W) (d : Nat) (hd : 2 ≤ d) (v1 : Int) (s : iS) : Ew hT w d 452 2 [(0, .ref (tb_nK + 121)), (1, iv v1)] [] s (Cv hT) (m_checkPins_2 v1 s) := by
  unfold m_checkPins_2
  refine e_lp (L := Int × iS) (E := iS) (LO := fun l => [(0, .ref (tb_nK + 121)), (1, iv (l.1))]) (LS := fun l => l.2) (CE := fun e r => ev w d 452 241 [] [] (hT (e)) r) (fun l => tm_checkPins_2b w d hd _ _) ?_ (v1, s)
  intro e
  show Ew hT w d 452 241 [] [] e (Cv hT) _
  exact e_retv em_452 (ce_at ce_452 137 rfl)
theorem fm_checkPins_2 (v1 : Int) (s : iS) : Fm Prod.snd L_m_checkPins G_m_checkPins s (m_checkPins_2 v1 s) := by
  unfold m_checkPins_2
  refine fm_lp (A := Int × iS) (E := iS) (LS := fun l => l.2) (LE := fun e => e) ?_ ?_ (v1, s)
  · exact fun l => fm_checkPins_2b _ _
  · exact (fun e => fm_some md_refl)
noncomputable def m_checkPins (s : iS) : Option (Int × iS) := m_checkPins_2 0 s
theorem tm_checkPins (w : ev_W) (d : Nat) (hd : 2 ≤ d) (s : iS) : Ew hT w d 452 0 [(0, .ref (tb_nK + 121))] [] s (Cv hT) (m_checkPins s) := by
  unfold m_checkPins
  refine e_op 1 em_452 (ce_at ce_452 0 rfl) rfl rfl ?_
  refine e_mv 2 em_452 (ce_at ce_452 1 rfl) rfl rfl ?_
  refine e_pk [0, 1] rfl rfl ?_
  exact tm_checkPins_2 w d hd _ _
theorem fm_checkPins (s : iS) : Fm Prod.snd L_m_checkPins G_m_checkPins s (m_checkPins s) := fm_checkPins_2 _ _
/-! m_chipOf -/
def L_m_chipOf : List Nat := []
def G_m_chipOf : List (Nat × Nat) := []
def m_chipOf_8C (w : ev_W) (d : Nat) (v1 : Int) : (Int × Int × iS) ⊕ (Int × iS) → am_E → Prop := fun q r => q.elim (fun l => ev w d 455 8 ((fun l => [(0, .ref (tb_nK + 121)), (1, iv v1), (2, iv (l.1)), (3, iv (l.2.1))]) l) [] (hT ((fun l => l.2.2) l)) r) (fun e => (fun e r => ev w d 455 49 [(2, iv (e.1))] [] (hT (e.2)) r) e r)
noncomputable def m_chipOf_8b (v1 : Int) (v2 : Int) (v3 : Int) (s : iS) : Option ((Int × Int × iS) ⊕ (Int × iS)) := gd (rg v3) (gd (rg (s 121 122)) (if (s 121 122) ≤ v3 then some (.inr (v2, s)) else gd (rg v2) (if v2 = (-1) then gd (0 ≤ v3 ∧ v3 < 17) (bd (m_like (s 195 v3.toNat) v1 s) (fun r7 s7 => gd (rg r7) (if r7 = 0 then some (.inl ((-1), (v3 + 1), s7)) else some (.inl ((2 + v3), (v3 + 1), s7))))) else some (.inr (v2, s)))))
theorem tm_chipOf_8b (w : ev_W) (d : Nat) (hd : 2 ≤ d) (v1 : Int) (v2 : Int) (v3 : Int) (s : iS) : Ew hT w d 455 8 [(0, .ref (tb_nK + 121)), (1, iv v1), (2, iv v2), (3, iv v3)] [] s (m_chipOf_8C w d v1) (m_chipOf_8b v1 v2 v3 s) := by
  unfold m_chipOf_8b
  refine e_mv 9 em_455 (ce_at ce_455 6 rfl) rfl rfl ?_
  refine e_mv 10 em_455 (ce_at ce_455 7 rfl) rfl rfl ?_
  refine e_get 13 em_455 (ce_at ce_455 8 rfl) tq_121 rfl rfl ?_
  refine e_gd fun g1 => ?_
  refine e_gd fun g2 => ?_
  refine e_cmge 49 16 em_455 rfl rfl (ce_at ce_455 9 rfl) g1 g2 (fun h3 => ?_) (fun h3 => ?_)
  · refine e_pk [2] rfl rfl ?_
    exact e_out (fun r h => h)
  · refine e_mv 17 em_455 (ce_at ce_455 10 rfl) rfl rfl ?_
    refine e_op 18 em_455 (ce_at ce_455 11 rfl) rfl rfl ?_
    refine e_gd fun g4 => ?_
    refine e_cmne 49 21 em_455 rfl rfl (ce_at ce_455 12 rfl) g4 (by decide) (fun h5 => ?_) (fun h5 => ?_)
    · refine e_pk [2] rfl rfl ?_
      exact e_out (fun r h => h)
    · refine e_mv 22 em_455 (ce_at ce_455 13 rfl) rfl rfl ?_
      refine e_mv 23 em_455 (ce_at ce_455 14 rfl) rfl rfl ?_
      refine e_getr 26 em_455 (ce_at ce_455 15 rfl) tq_121 rfl rfl ?_
      refine e_mv 27 em_455 (ce_at ce_455 16 rfl) rfl rfl ?_
      refine e_gd fun g6 => ?_
      refine e_ild 28 em_455 (ce_at ce_455 17 rfl) tq_195 (by decide) g6 rfl ?_
      refine e_mv 29 em_455 (ce_at ce_455 18 rfl) rfl rfl ?_
      refine e_ivi 32 em_455 (ce_at ce_455 19 rfl) (by omega) (iv_v2 (by decide) tq_121 rfl) em_350 (Nat.le_of_ble_eq_true rfl) rfl (tm_like w (d - 1) (by omega) _ _ _) (fun r7 s7 => ?_)
      refine e_gd fun g8 => ?_
      refine e_ifeq 41 35 em_455 rfl rfl (ce_at ce_455 20 rfl) g8 (fun h9 => ?_) (fun h9 => ?_)
      · refine e_op 42 em_455 (ce_at ce_455 25 rfl) rfl rfl ?_
        refine e_mv 43 em_455 (ce_at ce_455 26 rfl) rfl rfl ?_
        refine e_iinc 46 em_455 (ce_at ce_455 27 rfl) rfl (by decide) rfl ?_
        refine e_goto em_455 8 (ce_at ce_455 28 rfl) rfl ?_
        refine e_pk [0, 1, 2, 3] rfl rfl ?_
        exact e_out (fun r h => h)
      · refine e_op 36 em_455 (ce_at ce_455 21 rfl) rfl rfl ?_
        refine e_mv 37 em_455 (ce_at ce_455 22 rfl) rfl rfl ?_
        refine e_iadd 38 em_455 rfl (ce_at ce_455 23 rfl) ?_
        refine e_goto em_455 42 (ce_at ce_455 24 rfl) rfl ?_
        refine e_mv 43 em_455 (ce_at ce_455 26 rfl) rfl rfl ?_
        refine e_iinc 46 em_455 (ce_at ce_455 27 rfl) rfl (by decide) rfl ?_
        refine e_goto em_455 8 (ce_at ce_455 28 rfl) rfl ?_
        refine e_pk [0, 1, 2, 3] rfl rfl ?_
        exact e_out (fun r h => h)
theorem fm_chipOf_8b (v1 : Int) (v2 : Int) (v3 : Int) (s : iS) : Fm (fun r : (Int × Int × iS) ⊕ (Int × iS) => r.elim (fun l => l.2.2) (fun e => e.2)) L_m_chipOf G_m_chipOf s (m_chipOf_8b v1 v2 v3 s) := fm_gd (fm_gd (fm_if (fm_some md_refl) (fm_gd (fm_if (fm_gd (fm_bd (fm_sub (fm_like _ _ _) (mem_sub_L rfl) (mem_sub_F rfl)) (fun r7 s7 => fm_gd (fm_if (fm_some md_refl) (fm_some md_refl))))) (fm_some md_refl)))))
noncomputable def m_chipOf_8 (v1 : Int) (v2 : Int) (v3 : Int) (s : iS) : Option (Int × iS) := (lp (L := Int × Int × iS) (E := Int × iS) (fun l => m_chipOf_8b v1 (l.1) (l.2.1) (l.2.2)) (v2, v3, s)).bind (fun e => some (e.1, e.2))
theorem tm_chipOf_8 (w : ev_W) (d : Nat) (hd : 2 ≤ d) (v1 : Int) (v2 : Int) (v3 : Int) (s : iS) : Ew hT w d 455 8 [(0, .ref (tb_nK + 121)), (1, iv v1), (2, iv v2), (3, iv v3)] [] s (Ci hT) (m_chipOf_8 v1 v2 v3 s) := by
  unfold m_chipOf_8
  refine e_lp (L := Int × Int × iS) (E := Int × iS) (LO := fun l => [(0, .ref (tb_nK + 121)), (1, iv v1), (2, iv (l.1)), (3, iv (l.2.1))]) (LS := fun l => l.2.2) (CE := fun e r => ev w d 455 49 [(2, iv (e.1))] [] (hT (e.2)) r) (fun l => tm_chipOf_8b w d hd _ _ _ _) ?_ (v2, v3, s)
  intro e
  show Ew hT w d 455 49 [(2, iv (e.1))] [] e.2 (Ci hT) _
  refine e_mv 50 em_455 (ce_at ce_455 29 rfl) rfl rfl ?_
  exact e_reti em_455 (ce_at ce_455 30 rfl)
theorem fm_chipOf_8 (v1 : Int) (v2 : Int) (v3 : Int) (s : iS) : Fm Prod.snd L_m_chipOf G_m_chipOf s (m_chipOf_8 v1 v2 v3 s) := by
  unfold m_chipOf_8
  refine fm_lp (A := Int × Int × iS) (E := Int × iS) (LS := fun l => l.2.2) (LE := fun e => e.2) ?_ ?_ (v2, v3, s)
  · exact fun l => fm_chipOf_8b _ _ _ _
  · exact (fun e => fm_some md_refl)
noncomputable def m_chipOf (v1 : Int) (s : iS) : Option (Int × iS) := bd (m_gateOf v1 s) (fun r1 s1 => m_chipOf_8 v1 r1 0 s1)
theorem tm_chipOf (w : ev_W) (d : Nat) (hd : 2 ≤ d) (v1 : Int) (s : iS) : Ew hT w d 455 0 [(0, .ref (tb_nK + 121)), (1, iv v1)] [] s (Ci hT) (m_chipOf v1 s) := by
  unfold m_chipOf
  refine e_mv 1 em_455 (ce_at ce_455 0 rfl) rfl rfl ?_
  refine e_mv 2 em_455 (ce_at ce_455 1 rfl) rfl rfl ?_
  refine e_ivi 5 em_455 (ce_at ce_455 2 rfl) (by omega) (iv_v1 (by decide) tq_121 rfl) em_453 (Nat.le_of_ble_eq_true rfl) rfl (tm_gateOf w (d - 1) (by omega) _ _) (fun r1 s1 => ?_)
  refine e_mv 6 em_455 (ce_at ce_455 3 rfl) rfl rfl ?_
  refine e_op 7 em_455 (ce_at ce_455 4 rfl) rfl rfl ?_
  refine e_mv 8 em_455 (ce_at ce_455 5 rfl) rfl rfl ?_
  refine e_pk [0, 1, 2, 3] rfl rfl ?_
  exact tm_chipOf_8 w d hd _ _ _ _
theorem fm_chipOf (v1 : Int) (s : iS) : Fm Prod.snd L_m_chipOf G_m_chipOf s (m_chipOf v1 s) := fm_bd (fm_sub (fm_gateOf _ _) (mem_sub_L rfl) (mem_sub_F rfl)) (fun r1 s1 => fm_chipOf_8 _ _ _ _)
/-! m_pinOfPart -/
def L_m_pinOfPart : List Nat := []
def G_m_pinOfPart : List (Nat × Nat) := []
noncomputable def m_pinOfPart (v1 : Int) (v2 : Int) (s : iS) : Option (Int × iS) := gd (rg v1) (if v1 ≤ 1 then gd (0 ≤ v2 ∧ v2 < 2002) (bd (m_wordOf 11 ka_12 (s 125 v2.toNat) (s 126 v2.toNat) s) (fun r4 s4 => if v1 = 0 then gd (rg r4) (if r4 = 3 then some ((-1), s4) else some (r4, s4)) else gd (rg r4) (if r4 = 3 then some (0, s4) else if r4 = 2 then some (1, s4) else some ((-1), s4)))) else bd (m_pinOf (v1 - 2) v2 s) (fun r11 s11 => some (r11, s11)))
theorem tm_pinOfPart (w : ev_W) (d : Nat) (hd : 2 ≤ d) (v1 : Int) (v2 : Int) (s : iS) : Ew hT w d 456 0 [(0, .ref (tb_nK + 121)), (1, iv v1), (2, iv v2)] [] s (Ci hT) (m_pinOfPart v1 v2 s) := by
  unfold m_pinOfPart
  refine e_mv 1 em_456 (ce_at ce_456 0 rfl) rfl rfl ?_
  refine e_op 2 em_456 (ce_at ce_456 1 rfl) rfl rfl ?_
  refine e_gd fun g1 => ?_
  refine e_cmle 14 5 em_456 rfl rfl (ce_at ce_456 2 rfl) g1 (by decide) (fun h2 => ?_) (fun h2 => ?_)
  · refine e_mv 15 em_456 (ce_at ce_456 10 rfl) rfl rfl ?_
    refine e_gst 18 em_456 (ce_at ce_456 11 rfl) rfl rfl ?_
    refine e_mv 19 em_456 (ce_at ce_456 12 rfl) rfl rfl ?_
    refine e_getr 22 em_456 (ce_at ce_456 13 rfl) tq_121 rfl rfl ?_
    refine e_mv 23 em_456 (ce_at ce_456 14 rfl) rfl rfl ?_
    refine e_gd fun g3 => ?_
    refine e_ild 24 em_456 (ce_at ce_456 15 rfl) tq_125 (by decide) g3 rfl ?_
    refine e_mv 25 em_456 (ce_at ce_456 16 rfl) rfl rfl ?_
    refine e_getr 28 em_456 (ce_at ce_456 17 rfl) tq_121 rfl rfl ?_
    refine e_mv 29 em_456 (ce_at ce_456 18 rfl) rfl rfl ?_
    refine e_ild 30 em_456 (ce_at ce_456 19 rfl) tq_126 (by decide) g3 rfl ?_
    refine e_ivi 33 em_456 (ce_at ce_456 20 rfl) (by omega) (iv_v3 (by decide) tq_121 rfl) em_309 (Nat.le_of_ble_eq_true rfl) rfl (tm_wordOf w (d - 1) (by omega) 11 ka_12 12 (by decide) (kt_12 _ _) (by decide) _ _ _) (fun r4 s4 => ?_)
    refine e_mv 34 em_456 (ce_at ce_456 21 rfl) rfl rfl ?_
    refine e_mv 35 em_456 (ce_at ce_456 22 rfl) rfl rfl ?_
    refine e_ifne 49 38 em_456 rfl rfl (ce_at ce_456 23 rfl) g1 (fun h5 => ?_) (fun h5 => ?_)
    · refine e_mv 50 em_456 (ce_at ce_456 31 rfl) rfl rfl ?_
      refine e_op 51 em_456 (ce_at ce_456 32 rfl) rfl rfl ?_
      refine e_gd fun g6 => ?_
      refine e_cmne 58 54 em_456 rfl rfl (ce_at ce_456 33 rfl) g6 (by decide) (fun h7 => ?_) (fun h7 => ?_)
      · refine e_mv 59 em_456 (ce_at ce_456 36 rfl) rfl rfl ?_
        refine e_op 60 em_456 (ce_at ce_456 37 rfl) rfl rfl ?_
        refine e_cmne 67 63 em_456 rfl rfl (ce_at ce_456 38 rfl) g6 (by decide) (fun h8 => ?_) (fun h8 => ?_)
        · refine e_op 68 em_456 (ce_at ce_456 41 rfl) rfl rfl ?_
          exact e_reti em_456 (ce_at ce_456 42 rfl)
        · refine e_op 64 em_456 (ce_at ce_456 39 rfl) rfl rfl ?_
          refine e_goto em_456 68 (ce_at ce_456 40 rfl) rfl ?_
          exact e_reti em_456 (ce_at ce_456 42 rfl)
      · refine e_op 55 em_456 (ce_at ce_456 34 rfl) rfl rfl ?_
        refine e_goto em_456 68 (ce_at ce_456 35 rfl) rfl ?_
        exact e_reti em_456 (ce_at ce_456 42 rfl)
    · refine e_mv 39 em_456 (ce_at ce_456 24 rfl) rfl rfl ?_
      refine e_op 40 em_456 (ce_at ce_456 25 rfl) rfl rfl ?_
      refine e_gd fun g9 => ?_
      refine e_cmne 47 43 em_456 rfl rfl (ce_at ce_456 26 rfl) g9 (by decide) (fun h10 => ?_) (fun h10 => ?_)
      · refine e_mv 48 em_456 (ce_at ce_456 29 rfl) rfl rfl ?_
        exact e_reti em_456 (ce_at ce_456 30 rfl)
      · refine e_op 44 em_456 (ce_at ce_456 27 rfl) rfl rfl ?_
        refine e_goto em_456 48 (ce_at ce_456 28 rfl) rfl ?_
        exact e_reti em_456 (ce_at ce_456 30 rfl)
  · refine e_mv 6 em_456 (ce_at ce_456 3 rfl) rfl rfl ?_
    refine e_mv 7 em_456 (ce_at ce_456 4 rfl) rfl rfl ?_
    refine e_op 8 em_456 (ce_at ce_456 5 rfl) rfl rfl ?_
    refine e_isub 9 em_456 rfl (ce_at ce_456 6 rfl) ?_
    refine e_mv 10 em_456 (ce_at ce_456 7 rfl) rfl rfl ?_
    refine e_ivi 13 em_456 (ce_at ce_456 8 rfl) (by omega) (iv_v2 (by decide) tq_121 rfl) em_450 (Nat.le_of_ble_eq_true rfl) rfl (tm_pinOf w (d - 1) (by omega) _ _ _) (fun r11 s11 => ?_)
    exact e_reti em_456 (ce_at ce_456 9 rfl)
theorem fm_pinOfPart (v1 : Int) (v2 : Int) (s : iS) : Fm Prod.snd L_m_pinOfPart G_m_pinOfPart s (m_pinOfPart v1 v2 s) := fm_gd (fm_if (fm_gd (fm_bd (fm_sub (fm_wordOf 11 ka_12 _ _ _) (mem_sub_L rfl) (mem_sub_F rfl)) (fun r4 s4 => fm_if (fm_gd (fm_if (fm_some md_refl) (fm_some md_refl))) (fm_gd (fm_if (fm_some md_refl) (fm_if (fm_some md_refl) (fm_some md_refl))))))) (fm_bd (fm_sub (fm_pinOf _ _ _) (mem_sub_L rfl) (mem_sub_F rfl)) (fun r11 s11 => fm_some md_refl)))
/-! m_isOut -/
def L_m_isOut : List Nat := []
def G_m_isOut : List (Nat × Nat) := []
noncomputable def m_isOut (v1 : Int) (v2 : Int) (s : iS) : Option (Int × iS) := gd (rg v1) (if v1 ≤ 1 then if v1 = 0 then gd (rg v2) (if v2 = 2 then some (1, s) else some (0, s)) else gd (rg v2) (if v2 = 1 then some (1, s) else some (0, s)) else gd (0 ≤ v2 ∧ v2 < 200) (gd ((s 197 v2.toNat) = 0 ∨ (s 197 v2.toNat) = 1) (some ((s 197 v2.toNat), s))))
theorem tm_isOut (w : ev_W) (d : Nat) (hd : 0 ≤ d) (v1 : Int) (v2 : Int) (s : iS) : Ew hT w d 457 0 [(0, .ref (tb_nK + 121)), (1, iv v1), (2, iv v2)] [] s (Ci hT) (m_isOut v1 v2 s) := by
  unfold m_isOut
  refine e_mv 1 em_457 (ce_at ce_457 0 rfl) rfl rfl ?_
  refine e_op 2 em_457 (ce_at ce_457 1 rfl) rfl rfl ?_
  refine e_gd fun g1 => ?_
  refine e_cmle 14 5 em_457 rfl rfl (ce_at ce_457 2 rfl) g1 (by decide) (fun h2 => ?_) (fun h2 => ?_)
  · refine e_mv 15 em_457 (ce_at ce_457 8 rfl) rfl rfl ?_
    refine e_ifne 31 18 em_457 rfl rfl (ce_at ce_457 9 rfl) g1 (fun h3 => ?_) (fun h3 => ?_)
    · refine e_mv 32 em_457 (ce_at ce_457 17 rfl) rfl rfl ?_
      refine e_op 33 em_457 (ce_at ce_457 18 rfl) rfl rfl ?_
      refine e_gd fun g4 => ?_
      refine e_cmne 40 36 em_457 rfl rfl (ce_at ce_457 19 rfl) g4 (by decide) (fun h5 => ?_) (fun h5 => ?_)
      · refine e_op 41 em_457 (ce_at ce_457 22 rfl) rfl rfl ?_
        exact e_retz em_457 (ce_at ce_457 23 rfl) (by decide)
      · refine e_op 37 em_457 (ce_at ce_457 20 rfl) rfl rfl ?_
        refine e_goto em_457 41 (ce_at ce_457 21 rfl) rfl ?_
        exact e_retz em_457 (ce_at ce_457 23 rfl) (by decide)
    · refine e_mv 19 em_457 (ce_at ce_457 10 rfl) rfl rfl ?_
      refine e_op 20 em_457 (ce_at ce_457 11 rfl) rfl rfl ?_
      refine e_gd fun g6 => ?_
      refine e_cmne 27 23 em_457 rfl rfl (ce_at ce_457 12 rfl) g6 (by decide) (fun h7 => ?_) (fun h7 => ?_)
      · refine e_op 28 em_457 (ce_at ce_457 15 rfl) rfl rfl ?_
        refine e_goto em_457 41 (ce_at ce_457 16 rfl) rfl ?_
        exact e_retz em_457 (ce_at ce_457 23 rfl) (by decide)
      · refine e_op 24 em_457 (ce_at ce_457 13 rfl) rfl rfl ?_
        refine e_goto em_457 41 (ce_at ce_457 14 rfl) rfl ?_
        exact e_retz em_457 (ce_at ce_457 23 rfl) (by decide)
  · refine e_mv 6 em_457 (ce_at ce_457 3 rfl) rfl rfl ?_
    refine e_getr 9 em_457 (ce_at ce_457 4 rfl) tq_121 rfl rfl ?_
    refine e_mv 10 em_457 (ce_at ce_457 5 rfl) rfl rfl ?_
    refine e_gd fun g8 => ?_
    refine e_zld 11 em_457 (ce_at ce_457 6 rfl) tq_197 (by decide) g8 rfl ?_
    refine e_goto em_457 41 (ce_at ce_457 7 rfl) rfl ?_
    refine e_gd fun g9 => ?_
    exact e_retz em_457 (ce_at ce_457 23 rfl) g9
theorem fm_isOut (v1 : Int) (v2 : Int) (s : iS) : Fm Prod.snd L_m_isOut G_m_isOut s (m_isOut v1 v2 s) := fm_gd (fm_if (fm_if (fm_gd (fm_if (fm_some md_refl) (fm_some md_refl))) (fm_gd (fm_if (fm_some md_refl) (fm_some md_refl)))) (fm_gd (fm_gd (fm_some md_refl))))
/-! m_widthOf -/
def L_m_widthOf : List Nat := []
def G_m_widthOf : List (Nat × Nat) := []
noncomputable def m_widthOf (v1 : Int) (v2 : Int) (s : iS) : Option (Int × iS) := gd (rg v1) (if v1 ≤ 1 then some (1, s) else gd (0 ≤ v2 ∧ v2 < 200) (some ((s 199 v2.toNat), s)))
theorem tm_widthOf (w : ev_W) (d : Nat) (hd : 0 ≤ d) (v1 : Int) (v2 : Int) (s : iS) : Ew hT w d 458 0 [(0, .ref (tb_nK + 121)), (1, iv v1), (2, iv v2)] [] s (Ci hT) (m_widthOf v1 v2 s) := by
  unfold m_widthOf
  refine e_mv 1 em_458 (ce_at ce_458 0 rfl) rfl rfl ?_
  refine e_op 2 em_458 (ce_at ce_458 1 rfl) rfl rfl ?_
  refine e_gd fun g1 => ?_
  refine e_cmle 14 5 em_458 rfl rfl (ce_at ce_458 2 rfl) g1 (by decide) (fun h2 => ?_) (fun h2 => ?_)
  · refine e_op 15 em_458 (ce_at ce_458 8 rfl) rfl rfl ?_
    exact e_reti em_458 (ce_at ce_458 9 rfl)
  · refine e_mv 6 em_458 (ce_at ce_458 3 rfl) rfl rfl ?_
    refine e_getr 9 em_458 (ce_at ce_458 4 rfl) tq_121 rfl rfl ?_
    refine e_mv 10 em_458 (ce_at ce_458 5 rfl) rfl rfl ?_
    refine e_gd fun g3 => ?_
    refine e_ild 11 em_458 (ce_at ce_458 6 rfl) tq_199 (by decide) g3 rfl ?_
    refine e_goto em_458 15 (ce_at ce_458 7 rfl) rfl ?_
    exact e_reti em_458 (ce_at ce_458 9 rfl)
theorem fm_widthOf (v1 : Int) (v2 : Int) (s : iS) : Fm Prod.snd L_m_widthOf G_m_widthOf s (m_widthOf v1 v2 s) := fm_gd (fm_if (fm_some md_refl) (fm_gd (fm_some md_refl)))
/-! m_rangeFits -/
def L_m_rangeFits : List Nat := []
def G_m_rangeFits : List (Nat × Nat) := []
noncomputable def m_rangeFits (v1 : Int) (v2 : Int) (v3 : Int) (v4 : Int) (s : iS) : Option (Int × iS) := gd (rg v1) (if v1 = (-1) then some (1, s) else gd (rg v2) (gd (rg v3) (if v3 < v2 then some (0, s) else gd (rg v4) (if v4 ≤ v3 then some (0, s) else some (1, s)))))
theorem tm_rangeFits (w : ev_W) (d : Nat) (hd : 0 ≤ d) (v1 : Int) (v2 : Int) (v3 : Int) (v4 : Int) (s : iS) : Ew hT w d 459 0 [(0, .ref (tb_nK + 121)), (1, iv v1), (2, iv v2), (3, iv v3), (4, iv v4)] [] s (Ci hT) (m_rangeFits v1 v2 v3 v4 s) := by
  unfold m_rangeFits
  refine e_mv 1 em_459 (ce_at ce_459 0 rfl) rfl rfl ?_
  refine e_op 2 em_459 (ce_at ce_459 1 rfl) rfl rfl ?_
  refine e_gd fun g1 => ?_
  refine e_cmeq 16 5 em_459 rfl rfl (ce_at ce_459 2 rfl) g1 (by decide) (fun h2 => ?_) (fun h2 => ?_)
  · refine e_op 17 em_459 (ce_at ce_459 9 rfl) rfl rfl ?_
    refine e_goto em_459 21 (ce_at ce_459 10 rfl) rfl ?_
    exact e_retz em_459 (ce_at ce_459 12 rfl) (by decide)
  · refine e_mv 6 em_459 (ce_at ce_459 3 rfl) rfl rfl ?_
    refine e_mv 7 em_459 (ce_at ce_459 4 rfl) rfl rfl ?_
    refine e_gd fun g3 => ?_
    refine e_gd fun g4 => ?_
    refine e_cmgt 20 10 em_459 rfl rfl (ce_at ce_459 5 rfl) g3 g4 (fun h5 => ?_) (fun h5 => ?_)
    · refine e_op 21 em_459 (ce_at ce_459 11 rfl) rfl rfl ?_
      exact e_retz em_459 (ce_at ce_459 12 rfl) (by decide)
    · refine e_mv 11 em_459 (ce_at ce_459 6 rfl) rfl rfl ?_
      refine e_mv 13 em_459 (ce_at ce_459 7 rfl) rfl rfl ?_
      refine e_gd fun g6 => ?_
      refine e_cmge 20 16 em_459 rfl rfl (ce_at ce_459 8 rfl) g4 g6 (fun h7 => ?_) (fun h7 => ?_)
      · refine e_op 21 em_459 (ce_at ce_459 11 rfl) rfl rfl ?_
        exact e_retz em_459 (ce_at ce_459 12 rfl) (by decide)
      · refine e_op 17 em_459 (ce_at ce_459 9 rfl) rfl rfl ?_
        refine e_goto em_459 21 (ce_at ce_459 10 rfl) rfl ?_
        exact e_retz em_459 (ce_at ce_459 12 rfl) (by decide)
theorem fm_rangeFits (v1 : Int) (v2 : Int) (v3 : Int) (v4 : Int) (s : iS) : Fm Prod.snd L_m_rangeFits G_m_rangeFits s (m_rangeFits v1 v2 v3 v4 s) := fm_gd (fm_if (fm_some md_refl) (fm_gd (fm_gd (fm_if (fm_some md_refl) (fm_gd (fm_if (fm_some md_refl) (fm_some md_refl)))))))
/-! m_bitsOf -/
def L_m_bitsOf : List Nat := []
def G_m_bitsOf : List (Nat × Nat) := []
noncomputable def m_bitsOf (v1 : Int) (v2 : Int) (v3 : Int) (v4 : Int) (s : iS) : Option (Int × iS) := gd (rg v1) (if v1 = (-1) then some (v4, s) else some (((v3 - v2) + 1), s))
theorem tm_bitsOf (w : ev_W) (d : Nat) (hd : 0 ≤ d) (v1 : Int) (v2 : Int) (v3 : Int) (v4 : Int) (s : iS) : Ew hT w d 460 0 [(0, .ref (tb_nK + 121)), (1, iv v1), (2, iv v2), (3, iv v3), (4, iv v4)] [] s (Ci hT) (m_bitsOf v1 v2 v3 v4 s) := by
  unfold m_bitsOf
  refine e_mv 1 em_460 (ce_at ce_460 0 rfl) rfl rfl ?_
  refine e_op 2 em_460 (ce_at ce_460 1 rfl) rfl rfl ?_
  refine e_gd fun g1 => ?_
  refine e_cmne 10 5 em_460 rfl rfl (ce_at ce_460 2 rfl) g1 (by decide) (fun h2 => ?_) (fun h2 => ?_)
  · refine e_mv 11 em_460 (ce_at ce_460 5 rfl) rfl rfl ?_
    refine e_mv 12 em_460 (ce_at ce_460 6 rfl) rfl rfl ?_
    refine e_isub 13 em_460 rfl (ce_at ce_460 7 rfl) ?_
    refine e_op 14 em_460 (ce_at ce_460 8 rfl) rfl rfl ?_
    refine e_iadd 15 em_460 rfl (ce_at ce_460 9 rfl) ?_
    exact e_reti em_460 (ce_at ce_460 10 rfl)
  · refine e_mv 7 em_460 (ce_at ce_460 3 rfl) rfl rfl ?_
    refine e_goto em_460 15 (ce_at ce_460 4 rfl) rfl ?_
    exact e_reti em_460 (ce_at ce_460 10 rfl)
theorem fm_bitsOf (v1 : Int) (v2 : Int) (v3 : Int) (v4 : Int) (s : iS) : Fm Prod.snd L_m_bitsOf G_m_bitsOf s (m_bitsOf v1 v2 v3 v4 s) := fm_gd (fm_if (fm_some md_refl) (fm_some md_refl))
/-! m_findInner -/
def L_m_findInner : List Nat := [214, 215, 216]
def G_m_findInner : List (Nat × Nat) := []
def m_findInner_7C (w : ev_W) (d : Nat) (v1 : Int) : (Int × iS) ⊕ (iS) → am_E → Prop := fun q r => q.elim (fun l => ev w d 454 7 ((fun l => [(0, .ref (tb_nK + 121)), (1, iv v1), (2, iv (l.1))]) l) [] (hT ((fun l => l.2) l)) r) (fun e => (fun e r => ev w d 454 39 [(0, .ref (tb_nK + 121)), (1, iv v1)] [] (hT (e)) r) e r)
noncomputable def m_findInner_7b (v1 : Int) (v2 : Int) (s : iS) : Option ((Int × iS) ⊕ (iS)) := gd (0 ≤ (v1 + 1) ∧ (v1 + 1) < 18) (gd (rg v2) (gd (rg (s 212 (v1 + 1).toNat)) (if (s 212 (v1 + 1).toNat) ≤ v2 then some (.inr s) else gd (0 ≤ v2 ∧ v2 < 700) (lt' (up s 214 v2.toNat 0) (fun s6 => lt' (up s6 215 v2.toNat 0) (fun s7 => some (.inl ((v2 + 1), s7))))))))
theorem tm_findInner_7b (w : ev_W) (d : Nat) (hd : 3 ≤ d) (v1 : Int) (v2 : Int) (s : iS) : Ew hT w d 454 7 [(0, .ref (tb_nK + 121)), (1, iv v1), (2, iv v2)] [] s (m_findInner_7C w d v1) (m_findInner_7b v1 v2 s) := by
  unfold m_findInner_7b
  refine e_mv 8 em_454 (ce_at ce_454 5 rfl) rfl rfl ?_
  refine e_mv 9 em_454 (ce_at ce_454 6 rfl) rfl rfl ?_
  refine e_getr 12 em_454 (ce_at ce_454 7 rfl) tq_121 rfl rfl ?_
  refine e_mv 13 em_454 (ce_at ce_454 8 rfl) rfl rfl ?_
  refine e_op 14 em_454 (ce_at ce_454 9 rfl) rfl rfl ?_
  refine e_iadd 15 em_454 rfl (ce_at ce_454 10 rfl) ?_
  refine e_gd fun g1 => ?_
  refine e_ild 16 em_454 (ce_at ce_454 11 rfl) tq_212 (by decide) g1 rfl ?_
  refine e_gd fun g2 => ?_
  refine e_gd fun g3 => ?_
  refine e_cmge 39 19 em_454 rfl rfl (ce_at ce_454 12 rfl) g2 g3 (fun h4 => ?_) (fun h4 => ?_)
  · refine e_pk [0, 1] rfl rfl ?_
    exact e_out (fun r h => h)
  · refine e_mv 20 em_454 (ce_at ce_454 13 rfl) rfl rfl ?_
    refine e_getr 23 em_454 (ce_at ce_454 14 rfl) tq_121 rfl rfl ?_
    refine e_mv 24 em_454 (ce_at ce_454 15 rfl) rfl rfl ?_
    refine e_op 25 em_454 (ce_at ce_454 16 rfl) rfl rfl ?_
    refine e_gd fun g5 => ?_
    refine e_ist 26 em_454 (ce_at ce_454 17 rfl) tq_214 (by decide) g5 rfl (fun s6 => ?_)
    refine e_mv 27 em_454 (ce_at ce_454 18 rfl) rfl rfl ?_
    refine e_getr 30 em_454 (ce_at ce_454 19 rfl) tq_121 rfl rfl ?_
    refine e_mv 31 em_454 (ce_at ce_454 20 rfl) rfl rfl ?_
    refine e_op 32 em_454 (ce_at ce_454 21 rfl) rfl rfl ?_
    refine e_zst 33 em_454 (ce_at ce_454 22 rfl) tq_215 (by decide) g5 (by decide) rfl (fun s7 => ?_)
    refine e_iinc 36 em_454 (ce_at ce_454 23 rfl) rfl (by decide) rfl ?_
    refine e_goto em_454 7 (ce_at ce_454 24 rfl) rfl ?_
    refine e_pk [0, 1, 2] rfl rfl ?_
    exact e_out (fun r h => h)
theorem fm_findInner_7b (v1 : Int) (v2 : Int) (s : iS) : Fm (fun r : (Int × iS) ⊕ (iS) => r.elim (fun l => l.2) (fun e => e)) L_m_findInner G_m_findInner s (m_findInner_7b v1 v2 s) := fm_gd (fm_gd (fm_gd (fm_if (fm_some md_refl) (fm_gd (fm_lt (md_upL (mem_L rfl)) (fun s6 => fm_lt (md_upL (mem_L rfl)) (fun s7 => fm_some md_refl)))))))
def m_findInner_81C (w : ev_W) (d : Nat) (v1 : Int) (v2 : Int) : (Int × iS) ⊕ (iS) → am_E → Prop := fun q r => q.elim (fun l => ev w d 454 81 ((fun l => [(0, .ref (tb_nK + 121)), (1, iv v1), (2, iv v2), (3, iv (l.1))]) l) [] (hT ((fun l => l.2) l)) r) (fun e => (fun e r => ev w d 454 275 [(0, .ref (tb_nK + 121)), (1, iv v1), (2, iv v2)] [] (hT (e)) r) e r)
noncomputable def m_findInner_268 (v1 : Int) (v2 : Int) (v3 : Int) (t0 : Int) (t1 : Int) (s : iS) : Option ((Int × iS) ⊕ (iS)) := gd (0 ≤ t1 ∧ t1 < 700) (lt' (up s 214 t1.toNat t0) (fun s2 => some (.inl ((v3 + 1), s2))))
theorem tm_findInner_268 (w : ev_W) (d : Nat) (hd : 3 ≤ d) (v1 : Int) (v2 : Int) (v3 : Int) (t0 : Int) (t1 : Int) (s : iS) : Ew hT w d 454 268 [(0, .ref (tb_nK + 121)), (1, iv v1), (2, iv v2), (3, iv v3)] [iv t0, iv t1, .ref (tb_nK + 214)] s (m_findInner_81C w d v1 v2) (m_findInner_268 v1 v2 v3 t0 t1 s) := by
  unfold m_findInner_268
  refine e_gd fun g1 => ?_
  refine e_ist 269 em_454 (ce_at ce_454 161 rfl) tq_214 (by decide) g1 rfl (fun s2 => ?_)
  refine e_iinc 272 em_454 (ce_at ce_454 162 rfl) rfl (by decide) rfl ?_
  refine e_goto em_454 81 (ce_at ce_454 163 rfl) rfl ?_
  refine e_pk [0, 1, 2, 3] rfl rfl ?_
  exact e_out (fun r h => h)
theorem fm_findInner_268 (v1 : Int) (v2 : Int) (v3 : Int) (t0 : Int) (t1 : Int) (s : iS) : Fm (fun r : (Int × iS) ⊕ (iS) => r.elim (fun l => l.2) (fun e => e)) L_m_findInner G_m_findInner s (m_findInner_268 v1 v2 v3 t0 t1 s) := fm_gd (fm_lt (md_upL (mem_L rfl)) (fun s2 => fm_some md_refl))
noncomputable def m_findInner_151 (v1 : Int) (v2 : Int) (v3 : Int) (v4 : Int) (t0 : Int) (s : iS) : Option ((Int × iS) ⊕ (iS)) := gd (rg v4) (if v4 = (-1) then some (.inl ((v3 + 1), s)) else gd (rg t0) (if t0 = (-1) then some (.inl ((v3 + 1), s)) else gd (0 ≤ v2 ∧ v2 < 400) (bd (m_isOut (s 216 v2.toNat) v4 s) (fun r6 s6 => gd (rg r6) (if r6 = 0 then some (.inl ((v3 + 1), s6)) else gd (0 ≤ t0 ∧ t0 < 700) (gd (rg (s6 214 t0.toNat)) (if (s6 214 t0.toNat) = 0 then bd (m_widthOf (s6 216 v2.toNat) v4 s6) (fun r12 s12 => gd (0 ≤ v3 ∧ v3 < 700) (bd (m_rangeFits (s12 205 v3.toNat) (s12 206 v3.toNat) (s12 207 v3.toNat) r12 s12) (fun r14 s14 => gd (rg r14) (if r14 = 0 then m_findInner_268 v1 v2 v3 (-1) t0 s14 else bd (m_bitsOf (s14 205 v3.toNat) (s14 206 v3.toNat) (s14 207 v3.toNat) r12 s14) (fun r17 s17 => m_findInner_268 v1 v2 v3 r17 t0 s17))))) else some (.inl ((v3 + 1), s6)))))))))
theorem tm_findInner_151 (w : ev_W) (d : Nat) (hd : 3 ≤ d) (v1 : Int) (v2 : Int) (v3 : Int) (v4 : Int) (t0 : Int) (s : iS) : Ew hT w d 454 151 [(0, .ref (tb_nK + 121)), (1, iv v1), (2, iv v2), (3, iv v3), (4, iv v4)] [iv t0] s (m_findInner_81C w d v1 v2) (m_findInner_151 v1 v2 v3 v4 t0 s) := by
  unfold m_findInner_151
  refine e_mv 153 em_454 (ce_at ce_454 96 rfl) rfl rfl ?_
  refine e_mv 155 em_454 (ce_at ce_454 97 rfl) rfl rfl ?_
  refine e_op 156 em_454 (ce_at ce_454 98 rfl) rfl rfl ?_
  refine e_gd fun g1 => ?_
  refine e_cmeq 269 159 em_454 rfl rfl (ce_at ce_454 99 rfl) g1 (by decide) (fun h2 => ?_) (fun h2 => ?_)
  · refine e_iinc 272 em_454 (ce_at ce_454 162 rfl) rfl (by decide) rfl ?_
    refine e_goto em_454 81 (ce_at ce_454 163 rfl) rfl ?_
    refine e_pk [0, 1, 2, 3] rfl rfl ?_
    exact e_out (fun r h => h)
  · refine e_mv 161 em_454 (ce_at ce_454 100 rfl) rfl rfl ?_
    refine e_op 162 em_454 (ce_at ce_454 101 rfl) rfl rfl ?_
    refine e_gd fun g3 => ?_
    refine e_cmeq 269 165 em_454 rfl rfl (ce_at ce_454 102 rfl) g3 (by decide) (fun h4 => ?_) (fun h4 => ?_)
    · refine e_iinc 272 em_454 (ce_at ce_454 162 rfl) rfl (by decide) rfl ?_
      refine e_goto em_454 81 (ce_at ce_454 163 rfl) rfl ?_
      refine e_pk [0, 1, 2, 3] rfl rfl ?_
      exact e_out (fun r h => h)
    · refine e_mv 166 em_454 (ce_at ce_454 103 rfl) rfl rfl ?_
      refine e_mv 167 em_454 (ce_at ce_454 104 rfl) rfl rfl ?_
      refine e_getr 170 em_454 (ce_at ce_454 105 rfl) tq_121 rfl rfl ?_
      refine e_mv 171 em_454 (ce_at ce_454 106 rfl) rfl rfl ?_
      refine e_gd fun g5 => ?_
      refine e_ild 172 em_454 (ce_at ce_454 107 rfl) tq_216 (by decide) g5 rfl ?_
      refine e_mv 174 em_454 (ce_at ce_454 108 rfl) rfl rfl ?_
      refine e_ivi 177 em_454 (ce_at ce_454 109 rfl) (by omega) (iv_v2 (by decide) tq_121 rfl) em_457 (Nat.le_of_ble_eq_true rfl) rfl (tm_isOut w (d - 1) (by omega) _ _ _) (fun r6 s6 => ?_)
      refine e_gd fun g7 => ?_
      refine e_ifeq 269 180 em_454 rfl rfl (ce_at ce_454 110 rfl) g7 (fun h8 => ?_) (fun h8 => ?_)
      · refine e_iinc 272 em_454 (ce_at ce_454 162 rfl) rfl (by decide) rfl ?_
        refine e_goto em_454 81 (ce_at ce_454 163 rfl) rfl ?_
        refine e_pk [0, 1, 2, 3] rfl rfl ?_
        exact e_out (fun r h => h)
      · refine e_mv 181 em_454 (ce_at ce_454 111 rfl) rfl rfl ?_
        refine e_getr 184 em_454 (ce_at ce_454 112 rfl) tq_121 rfl rfl ?_
        refine e_mv 186 em_454 (ce_at ce_454 113 rfl) rfl rfl ?_
        refine e_gd fun g9 => ?_
        refine e_ild 187 em_454 (ce_at ce_454 114 rfl) tq_214 (by decide) g9 rfl ?_
        refine e_gd fun g10 => ?_
        refine e_ifeq 193 190 em_454 rfl rfl (ce_at ce_454 115 rfl) g10 (fun h11 => ?_) (fun h11 => ?_)
        · refine e_mv 194 em_454 (ce_at ce_454 117 rfl) rfl rfl ?_
          refine e_mv 195 em_454 (ce_at ce_454 118 rfl) rfl rfl ?_
          refine e_getr 198 em_454 (ce_at ce_454 119 rfl) tq_121 rfl rfl ?_
          refine e_mv 199 em_454 (ce_at ce_454 120 rfl) rfl rfl ?_
          refine e_ild 200 em_454 (ce_at ce_454 121 rfl) tq_216 (by decide) g5 rfl ?_
          refine e_mv 202 em_454 (ce_at ce_454 122 rfl) rfl rfl ?_
          refine e_ivi 205 em_454 (ce_at ce_454 123 rfl) (by omega) (iv_v2 (by decide) tq_121 rfl) em_458 (Nat.le_of_ble_eq_true rfl) rfl (tm_widthOf w (d - 1) (by omega) _ _ _) (fun r12 s12 => ?_)
          refine e_mv 207 em_454 (ce_at ce_454 124 rfl) rfl rfl ?_
          refine e_mv 208 em_454 (ce_at ce_454 125 rfl) rfl rfl ?_
          refine e_getr 211 em_454 (ce_at ce_454 126 rfl) tq_121 rfl rfl ?_
          refine e_mv 213 em_454 (ce_at ce_454 127 rfl) rfl rfl ?_
          refine e_mv 214 em_454 (ce_at ce_454 128 rfl) rfl rfl ?_
          refine e_mv 215 em_454 (ce_at ce_454 129 rfl) rfl rfl ?_
          refine e_getr 218 em_454 (ce_at ce_454 130 rfl) tq_121 rfl rfl ?_
          refine e_mv 219 em_454 (ce_at ce_454 131 rfl) rfl rfl ?_
          refine e_gd fun g13 => ?_
          refine e_ild 220 em_454 (ce_at ce_454 132 rfl) tq_205 (by decide) g13 rfl ?_
          refine e_mv 221 em_454 (ce_at ce_454 133 rfl) rfl rfl ?_
          refine e_getr 224 em_454 (ce_at ce_454 134 rfl) tq_121 rfl rfl ?_
          refine e_mv 225 em_454 (ce_at ce_454 135 rfl) rfl rfl ?_
          refine e_ild 226 em_454 (ce_at ce_454 136 rfl) tq_206 (by decide) g13 rfl ?_
          refine e_mv 227 em_454 (ce_at ce_454 137 rfl) rfl rfl ?_
          refine e_getr 230 em_454 (ce_at ce_454 138 rfl) tq_121 rfl rfl ?_
          refine e_mv 231 em_454 (ce_at ce_454 139 rfl) rfl rfl ?_
          refine e_ild 232 em_454 (ce_at ce_454 140 rfl) tq_207 (by decide) g13 rfl ?_
          refine e_mv 234 em_454 (ce_at ce_454 141 rfl) rfl rfl ?_
          refine e_ivi 237 em_454 (ce_at ce_454 142 rfl) (by omega) (iv_v4 (by decide) tq_121 rfl) em_459 (Nat.le_of_ble_eq_true rfl) rfl (tm_rangeFits w (d - 1) (by omega) _ _ _ _ _) (fun r14 s14 => ?_)
          refine e_gd fun g15 => ?_
          refine e_ifeq 267 240 em_454 rfl rfl (ce_at ce_454 143 rfl) g15 (fun h16 => ?_) (fun h16 => ?_)
          · refine e_op 268 em_454 (ce_at ce_454 160 rfl) rfl rfl ?_
            refine e_pk [0, 1, 2, 3] rfl rfl ?_
            exact tm_findInner_268 w d hd _ _ _ _ _ _
          · refine e_mv 241 em_454 (ce_at ce_454 144 rfl) rfl rfl ?_
            refine e_mv 242 em_454 (ce_at ce_454 145 rfl) rfl rfl ?_
            refine e_getr 245 em_454 (ce_at ce_454 146 rfl) tq_121 rfl rfl ?_
            refine e_mv 246 em_454 (ce_at ce_454 147 rfl) rfl rfl ?_
            refine e_ild 247 em_454 (ce_at ce_454 148 rfl) tq_205 (by decide) g13 rfl ?_
            refine e_mv 248 em_454 (ce_at ce_454 149 rfl) rfl rfl ?_
            refine e_getr 251 em_454 (ce_at ce_454 150 rfl) tq_121 rfl rfl ?_
            refine e_mv 252 em_454 (ce_at ce_454 151 rfl) rfl rfl ?_
            refine e_ild 253 em_454 (ce_at ce_454 152 rfl) tq_206 (by decide) g13 rfl ?_
            refine e_mv 254 em_454 (ce_at ce_454 153 rfl) rfl rfl ?_
            refine e_getr 257 em_454 (ce_at ce_454 154 rfl) tq_121 rfl rfl ?_
            refine e_mv 258 em_454 (ce_at ce_454 155 rfl) rfl rfl ?_
            refine e_ild 259 em_454 (ce_at ce_454 156 rfl) tq_207 (by decide) g13 rfl ?_
            refine e_mv 261 em_454 (ce_at ce_454 157 rfl) rfl rfl ?_
            refine e_ivi 264 em_454 (ce_at ce_454 158 rfl) (by omega) (iv_v4 (by decide) tq_121 rfl) em_460 (Nat.le_of_ble_eq_true rfl) rfl (tm_bitsOf w (d - 1) (by omega) _ _ _ _ _) (fun r17 s17 => ?_)
            refine e_goto em_454 268 (ce_at ce_454 159 rfl) rfl ?_
            refine e_pk [0, 1, 2, 3] rfl rfl ?_
            exact tm_findInner_268 w d hd _ _ _ _ _ _
        · refine e_goto em_454 269 (ce_at ce_454 116 rfl) rfl ?_
          refine e_iinc 272 em_454 (ce_at ce_454 162 rfl) rfl (by decide) rfl ?_
          refine e_goto em_454 81 (ce_at ce_454 163 rfl) rfl ?_
          refine e_pk [0, 1, 2, 3] rfl rfl ?_
          exact e_out (fun r h => h)
theorem fm_findInner_151 (v1 : Int) (v2 : Int) (v3 : Int) (v4 : Int) (t0 : Int) (s : iS) : Fm (fun r : (Int × iS) ⊕ (iS) => r.elim (fun l => l.2) (fun e => e)) L_m_findInner G_m_findInner s (m_findInner_151 v1 v2 v3 v4 t0 s) := fm_gd (fm_if (fm_some md_refl) (fm_gd (fm_if (fm_some md_refl) (fm_gd (fm_bd (fm_sub (fm_isOut _ _ _) (mem_sub_L rfl) (mem_sub_F rfl)) (fun r6 s6 => fm_gd (fm_if (fm_some md_refl) (fm_gd (fm_gd (fm_if (fm_bd (fm_sub (fm_widthOf _ _ _) (mem_sub_L rfl) (mem_sub_F rfl)) (fun r12 s12 => fm_gd (fm_bd (fm_sub (fm_rangeFits _ _ _ _ _) (mem_sub_L rfl) (mem_sub_F rfl)) (fun r14 s14 => fm_gd (fm_if (fm_findInner_268 _ _ _ _ _ _) (fm_bd (fm_sub (fm_bitsOf _ _ _ _ _) (mem_sub_L rfl) (mem_sub_F rfl)) (fun r17 s17 => fm_findInner_268 _ _ _ _ _ _))))))) (fm_some md_refl)))))))))))
noncomputable def m_findInner_81b (v1 : Int) (v2 : Int) (v3 : Int) (s : iS) : Option ((Int × iS) ⊕ (iS)) := gd (0 ≤ (v2 + 1) ∧ (v2 + 1) < 401) (gd (rg v3) (gd (rg (s 203 (v2 + 1).toNat)) (if (s 203 (v2 + 1).toNat) ≤ v3 then some (.inr s) else gd (0 ≤ v2 ∧ v2 < 400) (gd (rg (s 216 v2.toNat)) (if (s 216 v2.toNat) = (-1) then some (.inr s) else gd (0 ≤ v3 ∧ v3 < 700) (bd (m_pinOfPart (s 216 v2.toNat) (s 204 v3.toNat) s) (fun r9 s9 => gd (0 ≤ (s9 208 v3.toNat) ∧ (s9 208 v3.toNat) < 2002) (gd (rg (s9 124 (s9 208 v3.toNat).toNat)) (if (s9 124 (s9 208 v3.toNat).toNat) = 1 then bd (m_innerOf v1 (s9 208 v3.toNat) s9) (fun r13 s13 => m_findInner_151 v1 v2 v3 r9 r13 s13) else m_findInner_151 v1 v2 v3 r9 (-1) s9)))))))))
theorem tm_findInner_81b (w : ev_W) (d : Nat) (hd : 3 ≤ d) (v1 : Int) (v2 : Int) (v3 : Int) (s : iS) : Ew hT w d 454 81 [(0, .ref (tb_nK + 121)), (1, iv v1), (2, iv v2), (3, iv v3)] [] s (m_findInner_81C w d v1 v2) (m_findInner_81b v1 v2 v3 s) := by
  unfold m_findInner_81b
  refine e_mv 82 em_454 (ce_at ce_454 53 rfl) rfl rfl ?_
  refine e_mv 83 em_454 (ce_at ce_454 54 rfl) rfl rfl ?_
  refine e_getr 86 em_454 (ce_at ce_454 55 rfl) tq_121 rfl rfl ?_
  refine e_mv 87 em_454 (ce_at ce_454 56 rfl) rfl rfl ?_
  refine e_op 88 em_454 (ce_at ce_454 57 rfl) rfl rfl ?_
  refine e_iadd 89 em_454 rfl (ce_at ce_454 58 rfl) ?_
  refine e_gd fun g1 => ?_
  refine e_ild 90 em_454 (ce_at ce_454 59 rfl) tq_203 (by decide) g1 rfl ?_
  refine e_gd fun g2 => ?_
  refine e_gd fun g3 => ?_
  refine e_cmge 275 93 em_454 rfl rfl (ce_at ce_454 60 rfl) g2 g3 (fun h4 => ?_) (fun h4 => ?_)
  · refine e_pk [0, 1, 2] rfl rfl ?_
    exact e_out (fun r h => h)
  · refine e_mv 94 em_454 (ce_at ce_454 61 rfl) rfl rfl ?_
    refine e_getr 97 em_454 (ce_at ce_454 62 rfl) tq_121 rfl rfl ?_
    refine e_mv 98 em_454 (ce_at ce_454 63 rfl) rfl rfl ?_
    refine e_gd fun g5 => ?_
    refine e_ild 99 em_454 (ce_at ce_454 64 rfl) tq_216 (by decide) g5 rfl ?_
    refine e_op 100 em_454 (ce_at ce_454 65 rfl) rfl rfl ?_
    refine e_gd fun g6 => ?_
    refine e_cmeq 275 103 em_454 rfl rfl (ce_at ce_454 66 rfl) g6 (by decide) (fun h7 => ?_) (fun h7 => ?_)
    · refine e_pk [0, 1, 2] rfl rfl ?_
      exact e_out (fun r h => h)
    · refine e_mv 104 em_454 (ce_at ce_454 67 rfl) rfl rfl ?_
      refine e_mv 105 em_454 (ce_at ce_454 68 rfl) rfl rfl ?_
      refine e_getr 108 em_454 (ce_at ce_454 69 rfl) tq_121 rfl rfl ?_
      refine e_mv 109 em_454 (ce_at ce_454 70 rfl) rfl rfl ?_
      refine e_ild 110 em_454 (ce_at ce_454 71 rfl) tq_216 (by decide) g5 rfl ?_
      refine e_mv 111 em_454 (ce_at ce_454 72 rfl) rfl rfl ?_
      refine e_getr 114 em_454 (ce_at ce_454 73 rfl) tq_121 rfl rfl ?_
      refine e_mv 115 em_454 (ce_at ce_454 74 rfl) rfl rfl ?_
      refine e_gd fun g8 => ?_
      refine e_ild 116 em_454 (ce_at ce_454 75 rfl) tq_204 (by decide) g8 rfl ?_
      refine e_ivi 119 em_454 (ce_at ce_454 76 rfl) (by omega) (iv_v2 (by decide) tq_121 rfl) em_456 (Nat.le_of_ble_eq_true rfl) rfl (tm_pinOfPart w (d - 1) (by omega) _ _ _) (fun r9 s9 => ?_)
      refine e_mv 121 em_454 (ce_at ce_454 77 rfl) rfl rfl ?_
      refine e_mv 122 em_454 (ce_at ce_454 78 rfl) rfl rfl ?_
      refine e_getr 125 em_454 (ce_at ce_454 79 rfl) tq_121 rfl rfl ?_
      refine e_mv 126 em_454 (ce_at ce_454 80 rfl) rfl rfl ?_
      refine e_getr 129 em_454 (ce_at ce_454 81 rfl) tq_121 rfl rfl ?_
      refine e_mv 130 em_454 (ce_at ce_454 82 rfl) rfl rfl ?_
      refine e_ild 131 em_454 (ce_at ce_454 83 rfl) tq_208 (by decide) g8 rfl ?_
      refine e_gd fun g10 => ?_
      refine e_ild 132 em_454 (ce_at ce_454 84 rfl) tq_124 (by decide) g10 rfl ?_
      refine e_op 133 em_454 (ce_at ce_454 85 rfl) rfl rfl ?_
      refine e_gd fun g11 => ?_
      refine e_cmne 150 136 em_454 rfl rfl (ce_at ce_454 86 rfl) g11 (by decide) (fun h12 => ?_) (fun h12 => ?_)
      · refine e_op 151 em_454 (ce_at ce_454 95 rfl) rfl rfl ?_
        refine e_pk [0, 1, 2, 3, 4] rfl rfl ?_
        exact tm_findInner_151 w d hd _ _ _ _ _ _
      · refine e_mv 137 em_454 (ce_at ce_454 87 rfl) rfl rfl ?_
        refine e_mv 138 em_454 (ce_at ce_454 88 rfl) rfl rfl ?_
        refine e_mv 139 em_454 (ce_at ce_454 89 rfl) rfl rfl ?_
        refine e_getr 142 em_454 (ce_at ce_454 90 rfl) tq_121 rfl rfl ?_
        refine e_mv 143 em_454 (ce_at ce_454 91 rfl) rfl rfl ?_
        refine e_ild 144 em_454 (ce_at ce_454 92 rfl) tq_208 (by decide) g8 rfl ?_
        refine e_ivi 147 em_454 (ce_at ce_454 93 rfl) (by omega) (iv_v2 (by decide) tq_121 rfl) em_451 (Nat.le_of_ble_eq_true rfl) rfl (tm_innerOf w (d - 1) (by omega) _ _ _) (fun r13 s13 => ?_)
        refine e_goto em_454 151 (ce_at ce_454 94 rfl) rfl ?_
        refine e_pk [0, 1, 2, 3, 4] rfl rfl ?_
        exact tm_findInner_151 w d hd _ _ _ _ _ _
theorem fm_findInner_81b (v1 : Int) (v2 : Int) (v3 : Int) (s : iS) : Fm (fun r : (Int × iS) ⊕ (iS) => r.elim (fun l => l.2) (fun e => e)) L_m_findInner G_m_findInner s (m_findInner_81b v1 v2 v3 s) := fm_gd (fm_gd (fm_gd (fm_if (fm_some md_refl) (fm_gd (fm_gd (fm_if (fm_some md_refl) (fm_gd (fm_bd (fm_sub (fm_pinOfPart _ _ _) (mem_sub_L rfl) (mem_sub_F rfl)) (fun r9 s9 => fm_gd (fm_gd (fm_if (fm_bd (fm_sub (fm_innerOf _ _ _) (mem_sub_L rfl) (mem_sub_F rfl)) (fun r13 s13 => fm_findInner_151 _ _ _ _ _ _)) (fm_findInner_151 _ _ _ _ _ _))))))))))))
def m_findInner_46C (w : ev_W) (d : Nat) (v1 : Int) : (Int × iS) ⊕ (iS) → am_E → Prop := fun q r => q.elim (fun l => ev w d 454 46 ((fun l => [(0, .ref (tb_nK + 121)), (1, iv v1), (2, iv (l.1))]) l) [] (hT ((fun l => l.2) l)) r) (fun e => (fun e r => ev w d 454 281 [] [] (hT (e)) r) e r)
noncomputable def m_findInner_81 (v1 : Int) (v2 : Int) (v3 : Int) (s : iS) : Option ((Int × iS) ⊕ (iS)) := (lp (L := Int × iS) (E := iS) (fun l => m_findInner_81b v1 v2 (l.1) (l.2)) (v3, s)).bind (fun e => some (.inl ((v2 + 1), e)))
theorem tm_findInner_81 (w : ev_W) (d : Nat) (hd : 3 ≤ d) (v1 : Int) (v2 : Int) (v3 : Int) (s : iS) : Ew hT w d 454 81 [(0, .ref (tb_nK + 121)), (1, iv v1), (2, iv v2), (3, iv v3)] [] s (m_findInner_46C w d v1) (m_findInner_81 v1 v2 v3 s) := by
  unfold m_findInner_81
  refine e_lp (L := Int × iS) (E := iS) (LO := fun l => [(0, .ref (tb_nK + 121)), (1, iv v1), (2, iv v2), (3, iv (l.1))]) (LS := fun l => l.2) (CE := fun e r => ev w d 454 275 [(0, .ref (tb_nK + 121)), (1, iv v1), (2, iv v2)] [] (hT (e)) r) (fun l => tm_findInner_81b w d hd _ _ _ _) ?_ (v3, s)
  intro e
  show Ew hT w d 454 275 [(0, .ref (tb_nK + 121)), (1, iv v1), (2, iv v2)] [] e (m_findInner_46C w d v1) _
  refine e_iinc 278 em_454 (ce_at ce_454 164 rfl) rfl (by decide) rfl ?_
  refine e_goto em_454 46 (ce_at ce_454 165 rfl) rfl ?_
  refine e_pk [0, 1, 2] rfl rfl ?_
  exact e_out (fun r h => h)
theorem fm_findInner_81 (v1 : Int) (v2 : Int) (v3 : Int) (s : iS) : Fm (fun r : (Int × iS) ⊕ (iS) => r.elim (fun l => l.2) (fun e => e)) L_m_findInner G_m_findInner s (m_findInner_81 v1 v2 v3 s) := by
  unfold m_findInner_81
  refine fm_lp (A := Int × iS) (E := iS) (LS := fun l => l.2) (LE := fun e => e) ?_ ?_ (v3, s)
  · exact fun l => fm_findInner_81b _ _ _ _
  · exact (fun e => fm_some md_refl)
noncomputable def m_findInner_46b (v1 : Int) (v2 : Int) (s : iS) : Option ((Int × iS) ⊕ (iS)) := gd (0 ≤ (v1 + 1) ∧ (v1 + 1) < 18) (gd (rg v2) (gd (rg (s 201 (v1 + 1).toNat)) (if (s 201 (v1 + 1).toNat) ≤ v2 then some (.inr s) else gd (0 ≤ v2 ∧ v2 < 400) (bd (m_chipOf (s 202 v2.toNat) s) (fun r6 s6 => lt' (up s6 216 v2.toNat r6) (fun s7 => gd (0 ≤ v2 ∧ v2 < 401) (m_findInner_81 v1 v2 (s7 203 v2.toNat) s7)))))))
theorem tm_findInner_46b (w : ev_W) (d : Nat) (hd : 3 ≤ d) (v1 : Int) (v2 : Int) (s : iS) : Ew hT w d 454 46 [(0, .ref (tb_nK + 121)), (1, iv v1), (2, iv v2)] [] s (m_findInner_46C w d v1) (m_findInner_46b v1 v2 s) := by
  unfold m_findInner_46b
  refine e_mv 47 em_454 (ce_at ce_454 30 rfl) rfl rfl ?_
  refine e_mv 48 em_454 (ce_at ce_454 31 rfl) rfl rfl ?_
  refine e_getr 51 em_454 (ce_at ce_454 32 rfl) tq_121 rfl rfl ?_
  refine e_mv 52 em_454 (ce_at ce_454 33 rfl) rfl rfl ?_
  refine e_op 53 em_454 (ce_at ce_454 34 rfl) rfl rfl ?_
  refine e_iadd 54 em_454 rfl (ce_at ce_454 35 rfl) ?_
  refine e_gd fun g1 => ?_
  refine e_ild 55 em_454 (ce_at ce_454 36 rfl) tq_201 (by decide) g1 rfl ?_
  refine e_gd fun g2 => ?_
  refine e_gd fun g3 => ?_
  refine e_cmge 281 58 em_454 rfl rfl (ce_at ce_454 37 rfl) g2 g3 (fun h4 => ?_) (fun h4 => ?_)
  · refine e_pk [] rfl rfl ?_
    exact e_out (fun r h => h)
  · refine e_mv 59 em_454 (ce_at ce_454 38 rfl) rfl rfl ?_
    refine e_getr 62 em_454 (ce_at ce_454 39 rfl) tq_121 rfl rfl ?_
    refine e_mv 63 em_454 (ce_at ce_454 40 rfl) rfl rfl ?_
    refine e_mv 64 em_454 (ce_at ce_454 41 rfl) rfl rfl ?_
    refine e_mv 65 em_454 (ce_at ce_454 42 rfl) rfl rfl ?_
    refine e_getr 68 em_454 (ce_at ce_454 43 rfl) tq_121 rfl rfl ?_
    refine e_mv 69 em_454 (ce_at ce_454 44 rfl) rfl rfl ?_
    refine e_gd fun g5 => ?_
    refine e_ild 70 em_454 (ce_at ce_454 45 rfl) tq_202 (by decide) g5 rfl ?_
    refine e_ivi 73 em_454 (ce_at ce_454 46 rfl) (by omega) (iv_v1 (by decide) tq_121 rfl) em_455 (Nat.le_of_ble_eq_true rfl) rfl (tm_chipOf w (d - 1) (by omega) _ _) (fun r6 s6 => ?_)
    refine e_ist 74 em_454 (ce_at ce_454 47 rfl) tq_216 (by decide) g5 rfl (fun s7 => ?_)
    refine e_mv 75 em_454 (ce_at ce_454 48 rfl) rfl rfl ?_
    refine e_getr 78 em_454 (ce_at ce_454 49 rfl) tq_121 rfl rfl ?_
    refine e_mv 79 em_454 (ce_at ce_454 50 rfl) rfl rfl ?_
    refine e_gd fun g8 => ?_
    refine e_ild 80 em_454 (ce_at ce_454 51 rfl) tq_203 (by decide) g8 rfl ?_
    refine e_mv 81 em_454 (ce_at ce_454 52 rfl) rfl rfl ?_
    refine e_pk [0, 1, 2, 3] rfl rfl ?_
    exact tm_findInner_81 w d hd _ _ _ _
theorem fm_findInner_46b (v1 : Int) (v2 : Int) (s : iS) : Fm (fun r : (Int × iS) ⊕ (iS) => r.elim (fun l => l.2) (fun e => e)) L_m_findInner G_m_findInner s (m_findInner_46b v1 v2 s) := fm_gd (fm_gd (fm_gd (fm_if (fm_some md_refl) (fm_gd (fm_bd (fm_sub (fm_chipOf _ _) (mem_sub_L rfl) (mem_sub_F rfl)) (fun r6 s6 => fm_lt (md_upL (mem_L rfl)) (fun s7 => fm_gd (fm_findInner_81 _ _ _ _))))))))
noncomputable def m_findInner_46 (v1 : Int) (v2 : Int) (s : iS) : Option (Int × iS) := (lp (L := Int × iS) (E := iS) (fun l => m_findInner_46b v1 (l.1) (l.2)) (v2, s)).bind (fun e => some (0, e))
theorem tm_findInner_46 (w : ev_W) (d : Nat) (hd : 3 ≤ d) (v1 : Int) (v2 : Int) (s : iS) : Ew hT w d 454 46 [(0, .ref (tb_nK + 121)), (1, iv v1), (2, iv v2)] [] s (Cv hT) (m_findInner_46 v1 v2 s) := by
  unfold m_findInner_46
  refine e_lp (L := Int × iS) (E := iS) (LO := fun l => [(0, .ref (tb_nK + 121)), (1, iv v1), (2, iv (l.1))]) (LS := fun l => l.2) (CE := fun e r => ev w d 454 281 [] [] (hT (e)) r) (fun l => tm_findInner_46b w d hd _ _ _) ?_ (v2, s)
  intro e
  show Ew hT w d 454 281 [] [] e (Cv hT) _
  exact e_retv em_454 (ce_at ce_454 166 rfl)
theorem fm_findInner_46 (v1 : Int) (v2 : Int) (s : iS) : Fm Prod.snd L_m_findInner G_m_findInner s (m_findInner_46 v1 v2 s) := by
  unfold m_findInner_46
  refine fm_lp (A := Int × iS) (E := iS) (LS := fun l => l.2) (LE := fun e => e) ?_ ?_ (v2, s)
  · exact fun l => fm_findInner_46b _ _ _
  · exact (fun e => fm_some md_refl)
noncomputable def m_findInner_39 (v1 : Int) (s : iS) : Option (Int × iS) := gd (0 ≤ v1 ∧ v1 < 18) (m_findInner_46 v1 (s 201 v1.toNat) s)
theorem tm_findInner_39 (w : ev_W) (d : Nat) (hd : 3 ≤ d) (v1 : Int) (s : iS) : Ew hT w d 454 39 [(0, .ref (tb_nK + 121)), (1, iv v1)] [] s (Cv hT) (m_findInner_39 v1 s) := by
  unfold m_findInner_39
  refine e_mv 40 em_454 (ce_at ce_454 25 rfl) rfl rfl ?_
  refine e_getr 43 em_454 (ce_at ce_454 26 rfl) tq_121 rfl rfl ?_
  refine e_mv 44 em_454 (ce_at ce_454 27 rfl) rfl rfl ?_
  refine e_gd fun g1 => ?_
  refine e_ild 45 em_454 (ce_at ce_454 28 rfl) tq_201 (by decide) g1 rfl ?_
  refine e_mv 46 em_454 (ce_at ce_454 29 rfl) rfl rfl ?_
  refine e_pk [0, 1, 2] rfl rfl ?_
  exact tm_findInner_46 w d hd _ _ _
theorem fm_findInner_39 (v1 : Int) (s : iS) : Fm Prod.snd L_m_findInner G_m_findInner s (m_findInner_39 v1 s) := fm_gd (fm_findInner_46 _ _ _)
noncomputable def m_findInner_7 (v1 : Int) (v2 : Int) (s : iS) : Option (Int × iS) := (lp (L := Int × iS) (E := iS) (fun l => m_findInner_7b v1 (l.1) (l.2)) (v2, s)).bind (fun e => m_findInner_39 v1 e)
theorem tm_findInner_7 (w : ev_W) (d : Nat) (hd : 3 ≤ d) (v1 : Int) (v2 : Int) (s : iS) : Ew hT w d 454 7 [(0, .ref (tb_nK + 121)), (1, iv v1), (2, iv v2)] [] s (Cv hT) (m_findInner_7 v1 v2 s) := by
  unfold m_findInner_7
  refine e_lp (L := Int × iS) (E := iS) (LO := fun l => [(0, .ref (tb_nK + 121)), (1, iv v1), (2, iv (l.1))]) (LS := fun l => l.2) (CE := fun e r => ev w d 454 39 [(0, .ref (tb_nK + 121)), (1, iv v1)] [] (hT (e)) r) (fun l => tm_findInner_7b w d hd _ _ _) ?_ (v2, s)
  intro e
  show Ew hT w d 454 39 [(0, .ref (tb_nK + 121)), (1, iv v1)] [] e (Cv hT) _
  refine e_pk [0, 1] rfl rfl ?_
  exact tm_findInner_39 w d hd _ _
theorem fm_findInner_7 (v1 : Int) (v2 : Int) (s : iS) : Fm Prod.snd L_m_findInner G_m_findInner s (m_findInner_7 v1 v2 s) := by
  unfold m_findInner_7
  refine fm_lp (A := Int × iS) (E := iS) (LS := fun l => l.2) (LE := fun e => e) ?_ ?_ (v2, s)
  · exact fun l => fm_findInner_7b _ _ _
  · exact (fun e => fm_findInner_39 _ _)
noncomputable def m_findInner (v1 : Int) (s : iS) : Option (Int × iS) := gd (0 ≤ v1 ∧ v1 < 18) (m_findInner_7 v1 (s 212 v1.toNat) s)
theorem tm_findInner (w : ev_W) (d : Nat) (hd : 3 ≤ d) (v1 : Int) (s : iS) : Ew hT w d 454 0 [(0, .ref (tb_nK + 121)), (1, iv v1)] [] s (Cv hT) (m_findInner v1 s) := by
  unfold m_findInner
  refine e_mv 1 em_454 (ce_at ce_454 0 rfl) rfl rfl ?_
  refine e_getr 4 em_454 (ce_at ce_454 1 rfl) tq_121 rfl rfl ?_
  refine e_mv 5 em_454 (ce_at ce_454 2 rfl) rfl rfl ?_
  refine e_gd fun g1 => ?_
  refine e_ild 6 em_454 (ce_at ce_454 3 rfl) tq_212 (by decide) g1 rfl ?_
  refine e_mv 7 em_454 (ce_at ce_454 4 rfl) rfl rfl ?_
  refine e_pk [0, 1, 2] rfl rfl ?_
  exact tm_findInner_7 w d hd _ _ _
theorem fm_findInner (v1 : Int) (s : iS) : Fm Prod.snd L_m_findInner G_m_findInner s (m_findInner v1 s) := fm_gd (fm_findInner_7 _ _ _)
/-! m_checkRight -/
def L_m_checkRight : List Nat := [215, 218]
def G_m_checkRight : List (Nat × Nat) := [(121, 69), (121, 70)]
noncomputable def m_checkRight_361 (v6 : Int) (v9 : Int) (s : iS) : Option (Int × iS) := gd (0 ≤ v6 ∧ v6 < 200) (lt' (up s 218 v6.toNat (i_or (s 218 v6.toNat) v9)) (fun s2 => some (0, s2)))
theorem tm_checkRight_361 (w : ev_W) (d : Nat) (hd : 2 ≤ d) (v6 : Int) (v9 : Int) (s : iS) : Ew hT w d 462 361 [(0, .ref (tb_nK + 121)), (6, iv v6), (9, iv v9)] [] s (Cv hT) (m_checkRight_361 v6 v9 s) := by
  unfold m_checkRight_361
  refine e_mv 362 em_462 (ce_at ce_462 206 rfl) rfl rfl ?_
  refine e_getr 365 em_462 (ce_at ce_462 207 rfl) tq_121 rfl rfl ?_
  refine e_mv 367 em_462 (ce_at ce_462 208 rfl) rfl rfl ?_
  refine e_mv 368 em_462 (ce_at ce_462 209 rfl) rfl rfl ?_
  refine e_getr 371 em_462 (ce_at ce_462 210 rfl) tq_121 rfl rfl ?_
  refine e_mv 373 em_462 (ce_at ce_462 211 rfl) rfl rfl ?_
  refine e_gd fun g1 => ?_
  refine e_ild 374 em_462 (ce_at ce_462 212 rfl) tq_218 (by decide) g1 rfl ?_
  refine e_mv 376 em_462 (ce_at ce_462 213 rfl) rfl rfl ?_
  refine e_ior 377 em_462 rfl (ce_at ce_462 214 rfl) ?_
  refine e_ist 378 em_462 (ce_at ce_462 215 rfl) tq_218 (by decide) g1 rfl (fun s2 => ?_)
  exact e_retv em_462 (ce_at ce_462 216 rfl)
theorem fm_checkRight_361 (v6 : Int) (v9 : Int) (s : iS) : Fm Prod.snd L_m_checkRight G_m_checkRight s (m_checkRight_361 v6 v9 s) := fm_gd (fm_lt (md_upL (mem_L rfl)) (fun s2 => fm_some md_refl))
noncomputable def m_checkRight_338 (v5 : Int) (v6 : Int) (t0 : Int) (t1 : Int) (s : iS) : Option (Int × iS) := gd (0 ≤ v6 ∧ v6 < 200) (gd (rg (i_and (s 218 v6.toNat) (i_shl t1 t0))) (if (i_and (s 218 v6.toNat) (i_shl t1 t0)) = 0 then m_checkRight_361 v6 (i_shl t1 t0) s else bd (m_note 3 v5 s) (fun _ s4 => m_checkRight_361 v6 (i_shl t1 t0) s4)))
theorem tm_checkRight_338 (w : ev_W) (d : Nat) (hd : 2 ≤ d) (v5 : Int) (v6 : Int) (t0 : Int) (t1 : Int) (s : iS) : Ew hT w d 462 338 [(0, .ref (tb_nK + 121)), (5, iv v5), (6, iv v6)] [iv t0, iv t1] s (Cv hT) (m_checkRight_338 v5 v6 t0 t1 s) := by
  unfold m_checkRight_338
  refine e_ishl 339 em_462 rfl (ce_at ce_462 193 rfl) ?_
  refine e_mv 341 em_462 (ce_at ce_462 194 rfl) rfl rfl ?_
  refine e_mv 342 em_462 (ce_at ce_462 195 rfl) rfl rfl ?_
  refine e_getr 345 em_462 (ce_at ce_462 196 rfl) tq_121 rfl rfl ?_
  refine e_mv 347 em_462 (ce_at ce_462 197 rfl) rfl rfl ?_
  refine e_gd fun g1 => ?_
  refine e_ild 348 em_462 (ce_at ce_462 198 rfl) tq_218 (by decide) g1 rfl ?_
  refine e_mv 350 em_462 (ce_at ce_462 199 rfl) rfl rfl ?_
  refine e_iand 351 em_462 rfl (ce_at ce_462 200 rfl) ?_
  refine e_gd fun g2 => ?_
  refine e_ifeq 361 354 em_462 rfl rfl (ce_at ce_462 201 rfl) g2 (fun h3 => ?_) (fun h3 => ?_)
  · refine e_pk [0, 6, 9] rfl rfl ?_
    exact tm_checkRight_361 w d hd _ _ _
  · refine e_mv 355 em_462 (ce_at ce_462 202 rfl) rfl rfl ?_
    refine e_op 356 em_462 (ce_at ce_462 203 rfl) rfl rfl ?_
    refine e_mv 358 em_462 (ce_at ce_462 204 rfl) rfl rfl ?_
    refine e_ivv 361 em_462 (ce_at ce_462 205 rfl) (by omega) (iv_v2 (by decide) tq_121 rfl) em_351 (Nat.le_of_ble_eq_true rfl) rfl (tm_note w (d - 1) (by omega) _ _ _) (fun r4 s4 => ?_)
    refine e_pk [0, 6, 9] rfl rfl ?_
    exact tm_checkRight_361 w d hd _ _ _
theorem fm_checkRight_338 (v5 : Int) (v6 : Int) (t0 : Int) (t1 : Int) (s : iS) : Fm Prod.snd L_m_checkRight G_m_checkRight s (m_checkRight_338 v5 v6 t0 t1 s) := fm_gd (fm_gd (fm_if (fm_checkRight_361 _ _ _) (fm_bd (fm_sub (fm_note _ _ _) (mem_sub_L rfl) (mem_sub_F rfl)) (fun r4 s4 => fm_checkRight_361 _ _ _))))
noncomputable def m_checkRight_307 (v2 : Int) (v3 : Int) (v5 : Int) (v6 : Int) (v8 : Int) (s : iS) : Option (Int × iS) := gd (rg v3) (if v3 = 0 then some (0, s) else gd (0 ≤ v2 ∧ v2 < 700) (gd (rg (s 209 v2.toNat)) (if (s 209 v2.toNat) = (-1) then m_checkRight_338 v5 v6 0 ((i_shl 1 v8) - 1) s else m_checkRight_338 v5 v6 (s 210 v2.toNat) ((i_shl 1 v8) - 1) s)))
theorem tm_checkRight_307 (w : ev_W) (d : Nat) (hd : 2 ≤ d) (v2 : Int) (v3 : Int) (v5 : Int) (v6 : Int) (v8 : Int) (s : iS) : Ew hT w d 462 307 [(0, .ref (tb_nK + 121)), (2, iv v2), (3, iv v3), (5, iv v5), (6, iv v6), (8, iv v8)] [] s (Cv hT) (m_checkRight_307 v2 v3 v5 v6 v8 s) := by
  unfold m_checkRight_307
  refine e_mv 308 em_462 (ce_at ce_462 173 rfl) rfl rfl ?_
  refine e_gd fun g1 => ?_
  refine e_ifne 312 311 em_462 rfl rfl (ce_at ce_462 174 rfl) g1 (fun h2 => ?_) (fun h2 => ?_)
  · refine e_op 313 em_462 (ce_at ce_462 176 rfl) rfl rfl ?_
    refine e_mv 315 em_462 (ce_at ce_462 177 rfl) rfl rfl ?_
    refine e_ishl 316 em_462 rfl (ce_at ce_462 178 rfl) ?_
    refine e_op 317 em_462 (ce_at ce_462 179 rfl) rfl rfl ?_
    refine e_isub 318 em_462 rfl (ce_at ce_462 180 rfl) ?_
    refine e_mv 319 em_462 (ce_at ce_462 181 rfl) rfl rfl ?_
    refine e_getr 322 em_462 (ce_at ce_462 182 rfl) tq_121 rfl rfl ?_
    refine e_mv 323 em_462 (ce_at ce_462 183 rfl) rfl rfl ?_
    refine e_gd fun g3 => ?_
    refine e_ild 324 em_462 (ce_at ce_462 184 rfl) tq_209 (by decide) g3 rfl ?_
    refine e_op 325 em_462 (ce_at ce_462 185 rfl) rfl rfl ?_
    refine e_gd fun g4 => ?_
    refine e_cmne 332 328 em_462 rfl rfl (ce_at ce_462 186 rfl) g4 (by decide) (fun h5 => ?_) (fun h5 => ?_)
    · refine e_mv 333 em_462 (ce_at ce_462 189 rfl) rfl rfl ?_
      refine e_getr 336 em_462 (ce_at ce_462 190 rfl) tq_121 rfl rfl ?_
      refine e_mv 337 em_462 (ce_at ce_462 191 rfl) rfl rfl ?_
      refine e_ild 338 em_462 (ce_at ce_462 192 rfl) tq_210 (by decide) g3 rfl ?_
      refine e_pk [0, 5, 6] rfl rfl ?_
      exact tm_checkRight_338 w d hd _ _ _ _ _
    · refine e_op 329 em_462 (ce_at ce_462 187 rfl) rfl rfl ?_
      refine e_goto em_462 338 (ce_at ce_462 188 rfl) rfl ?_
      refine e_pk [0, 5, 6] rfl rfl ?_
      exact tm_checkRight_338 w d hd _ _ _ _ _
  · exact e_retv em_462 (ce_at ce_462 175 rfl)
theorem fm_checkRight_307 (v2 : Int) (v3 : Int) (v5 : Int) (v6 : Int) (v8 : Int) (s : iS) : Fm Prod.snd L_m_checkRight G_m_checkRight s (m_checkRight_307 v2 v3 v5 v6 v8 s) := fm_gd (fm_if (fm_some md_refl) (fm_gd (fm_gd (fm_if (fm_checkRight_338 _ _ _ _ _) (fm_checkRight_338 _ _ _ _ _)))))
noncomputable def m_checkRight_192 (t0 : Int) (t1 : Int) (s : iS) : Option (Int × iS) := gd (0 ≤ t1 ∧ t1 < 700) (gd (t0 = 0 ∨ t0 = 1) (lt' (up s 215 t1.toNat t0) (fun s3 => some (0, s3))))
theorem tm_checkRight_192 (w : ev_W) (d : Nat) (hd : 2 ≤ d) (t0 : Int) (t1 : Int) (s : iS) : Ew hT w d 462 192 [] [iv t0, iv t1, .ref (tb_nK + 215)] s (Cv hT) (m_checkRight_192 t0 t1 s) := by
  unfold m_checkRight_192
  refine e_gd fun g1 => ?_
  refine e_gd fun g2 => ?_
  refine e_zst 193 em_462 (ce_at ce_462 105 rfl) tq_215 (by decide) g1 g2 rfl (fun s3 => ?_)
  exact e_retv em_462 (ce_at ce_462 106 rfl)
theorem fm_checkRight_192 (t0 : Int) (t1 : Int) (s : iS) : Fm Prod.snd L_m_checkRight G_m_checkRight s (m_checkRight_192 t0 t1 s) := fm_gd (fm_gd (fm_lt (md_upL (mem_L rfl)) (fun s3 => fm_some md_refl)))
noncomputable def m_checkRight_187 (t0 : Int) (s : iS) : Option (Int × iS) := m_checkRight_192 1 t0 s
theorem tm_checkRight_187 (w : ev_W) (d : Nat) (hd : 2 ≤ d) (t0 : Int) (s : iS) : Ew hT w d 462 187 [] [iv t0, .ref (tb_nK + 215)] s (Cv hT) (m_checkRight_187 t0 s) := by
  unfold m_checkRight_187
  refine e_op 188 em_462 (ce_at ce_462 102 rfl) rfl rfl ?_
  refine e_goto em_462 192 (ce_at ce_462 103 rfl) rfl ?_
  refine e_pk [] rfl rfl ?_
  exact tm_checkRight_192 w d hd _ _ _
theorem fm_checkRight_187 (t0 : Int) (s : iS) : Fm Prod.snd L_m_checkRight G_m_checkRight s (m_checkRight_187 t0 s) := fm_checkRight_192 _ _ _
noncomputable def m_checkRight_167 (v3 : Int) (v7 : Int) (s : iS) : Option (Int × iS) := gd (0 ≤ v7 ∧ v7 < 700) (gd (rg (s 215 v7.toNat)) (if (s 215 v7.toNat) = 0 then gd (rg v3) (if v3 = 0 then m_checkRight_192 0 v7 s else m_checkRight_187 v7 s) else m_checkRight_187 v7 s))
theorem tm_checkRight_167 (w : ev_W) (d : Nat) (hd : 2 ≤ d) (v3 : Int) (v7 : Int) (s : iS) : Ew hT w d 462 167 [(0, .ref (tb_nK + 121)), (3, iv v3), (7, iv v7)] [] s (Cv hT) (m_checkRight_167 v3 v7 s) := by
  unfold m_checkRight_167
  refine e_mv 168 em_462 (ce_at ce_462 92 rfl) rfl rfl ?_
  refine e_getr 171 em_462 (ce_at ce_462 93 rfl) tq_121 rfl rfl ?_
  refine e_mv 173 em_462 (ce_at ce_462 94 rfl) rfl rfl ?_
  refine e_mv 174 em_462 (ce_at ce_462 95 rfl) rfl rfl ?_
  refine e_getr 177 em_462 (ce_at ce_462 96 rfl) tq_121 rfl rfl ?_
  refine e_mv 179 em_462 (ce_at ce_462 97 rfl) rfl rfl ?_
  refine e_gd fun g1 => ?_
  refine e_zld 180 em_462 (ce_at ce_462 98 rfl) tq_215 (by decide) g1 rfl ?_
  refine e_gd fun g2 => ?_
  refine e_ifne 187 183 em_462 rfl rfl (ce_at ce_462 99 rfl) g2 (fun h3 => ?_) (fun h3 => ?_)
  · refine e_pk [] rfl rfl ?_
    exact tm_checkRight_187 w d hd _ _
  · refine e_mv 184 em_462 (ce_at ce_462 100 rfl) rfl rfl ?_
    refine e_gd fun g4 => ?_
    refine e_ifeq 191 187 em_462 rfl rfl (ce_at ce_462 101 rfl) g4 (fun h5 => ?_) (fun h5 => ?_)
    · refine e_op 192 em_462 (ce_at ce_462 104 rfl) rfl rfl ?_
      refine e_pk [] rfl rfl ?_
      exact tm_checkRight_192 w d hd _ _ _
    · refine e_pk [] rfl rfl ?_
      exact tm_checkRight_187 w d hd _ _
theorem fm_checkRight_167 (v3 : Int) (v7 : Int) (s : iS) : Fm Prod.snd L_m_checkRight G_m_checkRight s (m_checkRight_167 v3 v7 s) := fm_gd (fm_gd (fm_if (fm_gd (fm_if (fm_checkRight_192 _ _ _) (fm_checkRight_187 _ _))) (fm_checkRight_187 _ _)))
noncomputable def m_checkRight_118 (v2 : Int) (v3 : Int) (v4 : Int) (v5 : Int) (v7 : Int) (s : iS) : Option (Int × iS) := gd (rg v3) (if v3 = 0 then gd (0 ≤ v7 ∧ v7 < 700) (gd (rg (s 214 v7.toNat)) (if (s 214 v7.toNat) ≤ 0 then m_checkRight_167 v3 v7 s else gd (0 ≤ v2 ∧ v2 < 700) (gd (rg (s 209 v2.toNat)) (if (s 209 v2.toNat) = (-1) then gd (rg v4) (if v4 = (-1) then m_checkRight_167 v3 v7 s else if (s 214 v7.toNat) = v4 then m_checkRight_167 v3 v7 s else bd (m_note 5 v5 s) (fun _ s12 => m_checkRight_167 v3 v7 s12)) else m_checkRight_167 v3 v7 s)))) else m_checkRight_167 v3 v7 s)
theorem tm_checkRight_118 (w : ev_W) (d : Nat) (hd : 2 ≤ d) (v2 : Int) (v3 : Int) (v4 : Int) (v5 : Int) (v7 : Int) (s : iS) : Ew hT w d 462 118 [(0, .ref (tb_nK + 121)), (2, iv v2), (3, iv v3), (4, iv v4), (5, iv v5), (7, iv v7)] [] s (Cv hT) (m_checkRight_118 v2 v3 v4 v5 v7 s) := by
  unfold m_checkRight_118
  refine e_mv 119 em_462 (ce_at ce_462 66 rfl) rfl rfl ?_
  refine e_gd fun g1 => ?_
  refine e_ifne 167 122 em_462 rfl rfl (ce_at ce_462 67 rfl) g1 (fun h2 => ?_) (fun h2 => ?_)
  · refine e_pk [0, 3, 7] rfl rfl ?_
    exact tm_checkRight_167 w d hd _ _ _
  · refine e_mv 123 em_462 (ce_at ce_462 68 rfl) rfl rfl ?_
    refine e_getr 126 em_462 (ce_at ce_462 69 rfl) tq_121 rfl rfl ?_
    refine e_mv 128 em_462 (ce_at ce_462 70 rfl) rfl rfl ?_
    refine e_gd fun g3 => ?_
    refine e_ild 129 em_462 (ce_at ce_462 71 rfl) tq_214 (by decide) g3 rfl ?_
    refine e_gd fun g4 => ?_
    refine e_ifle 167 132 em_462 rfl rfl (ce_at ce_462 72 rfl) g4 (fun h5 => ?_) (fun h5 => ?_)
    · refine e_pk [0, 3, 7] rfl rfl ?_
      exact tm_checkRight_167 w d hd _ _ _
    · refine e_mv 133 em_462 (ce_at ce_462 73 rfl) rfl rfl ?_
      refine e_getr 136 em_462 (ce_at ce_462 74 rfl) tq_121 rfl rfl ?_
      refine e_mv 137 em_462 (ce_at ce_462 75 rfl) rfl rfl ?_
      refine e_gd fun g6 => ?_
      refine e_ild 138 em_462 (ce_at ce_462 76 rfl) tq_209 (by decide) g6 rfl ?_
      refine e_op 139 em_462 (ce_at ce_462 77 rfl) rfl rfl ?_
      refine e_gd fun g7 => ?_
      refine e_cmne 167 142 em_462 rfl rfl (ce_at ce_462 78 rfl) g7 (by decide) (fun h8 => ?_) (fun h8 => ?_)
      · refine e_pk [0, 3, 7] rfl rfl ?_
        exact tm_checkRight_167 w d hd _ _ _
      · refine e_mv 144 em_462 (ce_at ce_462 79 rfl) rfl rfl ?_
        refine e_op 145 em_462 (ce_at ce_462 80 rfl) rfl rfl ?_
        refine e_gd fun g9 => ?_
        refine e_cmeq 167 148 em_462 rfl rfl (ce_at ce_462 81 rfl) g9 (by decide) (fun h10 => ?_) (fun h10 => ?_)
        · refine e_pk [0, 3, 7] rfl rfl ?_
          exact tm_checkRight_167 w d hd _ _ _
        · refine e_mv 149 em_462 (ce_at ce_462 82 rfl) rfl rfl ?_
          refine e_getr 152 em_462 (ce_at ce_462 83 rfl) tq_121 rfl rfl ?_
          refine e_mv 154 em_462 (ce_at ce_462 84 rfl) rfl rfl ?_
          refine e_ild 155 em_462 (ce_at ce_462 85 rfl) tq_214 (by decide) g3 rfl ?_
          refine e_mv 157 em_462 (ce_at ce_462 86 rfl) rfl rfl ?_
          refine e_cmeq 167 160 em_462 rfl rfl (ce_at ce_462 87 rfl) g4 g9 (fun h11 => ?_) (fun h11 => ?_)
          · refine e_pk [0, 3, 7] rfl rfl ?_
            exact tm_checkRight_167 w d hd _ _ _
          · refine e_mv 161 em_462 (ce_at ce_462 88 rfl) rfl rfl ?_
            refine e_op 162 em_462 (ce_at ce_462 89 rfl) rfl rfl ?_
            refine e_mv 164 em_462 (ce_at ce_462 90 rfl) rfl rfl ?_
            refine e_ivv 167 em_462 (ce_at ce_462 91 rfl) (by omega) (iv_v2 (by decide) tq_121 rfl) em_351 (Nat.le_of_ble_eq_true rfl) rfl (tm_note w (d - 1) (by omega) _ _ _) (fun r12 s12 => ?_)
            refine e_pk [0, 3, 7] rfl rfl ?_
            exact tm_checkRight_167 w d hd _ _ _
theorem fm_checkRight_118 (v2 : Int) (v3 : Int) (v4 : Int) (v5 : Int) (v7 : Int) (s : iS) : Fm Prod.snd L_m_checkRight G_m_checkRight s (m_checkRight_118 v2 v3 v4 v5 v7 s) := fm_gd (fm_if (fm_gd (fm_gd (fm_if (fm_checkRight_167 _ _ _) (fm_gd (fm_gd (fm_if (fm_gd (fm_if (fm_checkRight_167 _ _ _) (fm_if (fm_checkRight_167 _ _ _) (fm_bd (fm_sub (fm_note _ _ _) (mem_sub_L rfl) (mem_sub_F rfl)) (fun r12 s12 => fm_checkRight_167 _ _ _))))) (fm_checkRight_167 _ _ _))))))) (fm_checkRight_167 _ _ _))
noncomputable def m_checkRight_97 (v2 : Int) (v3 : Int) (v4 : Int) (v5 : Int) (v7 : Int) (s : iS) : Option (Int × iS) := gd (rg v3) (if v3 = 0 then gd (0 ≤ v7 ∧ v7 < 700) (gd (rg (s 214 v7.toNat)) (if (s 214 v7.toNat) = 0 then bd (m_note 4 v5 s) (fun _ s6 => m_checkRight_118 v2 v3 v4 v5 v7 s6) else m_checkRight_118 v2 v3 v4 v5 v7 s)) else m_checkRight_118 v2 v3 v4 v5 v7 s)
theorem tm_checkRight_97 (w : ev_W) (d : Nat) (hd : 2 ≤ d) (v2 : Int) (v3 : Int) (v4 : Int) (v5 : Int) (v7 : Int) (s : iS) : Ew hT w d 462 97 [(0, .ref (tb_nK + 121)), (2, iv v2), (3, iv v3), (4, iv v4), (5, iv v5), (7, iv v7)] [] s (Cv hT) (m_checkRight_97 v2 v3 v4 v5 v7 s) := by
  unfold m_checkRight_97
  refine e_mv 98 em_462 (ce_at ce_462 55 rfl) rfl rfl ?_
  refine e_gd fun g1 => ?_
  refine e_ifne 118 101 em_462 rfl rfl (ce_at ce_462 56 rfl) g1 (fun h2 => ?_) (fun h2 => ?_)
  · refine e_pk [0, 2, 3, 4, 5, 7] rfl rfl ?_
    exact tm_checkRight_118 w d hd _ _ _ _ _ _
  · refine e_mv 102 em_462 (ce_at ce_462 57 rfl) rfl rfl ?_
    refine e_getr 105 em_462 (ce_at ce_462 58 rfl) tq_121 rfl rfl ?_
    refine e_mv 107 em_462 (ce_at ce_462 59 rfl) rfl rfl ?_
    refine e_gd fun g3 => ?_
    refine e_ild 108 em_462 (ce_at ce_462 60 rfl) tq_214 (by decide) g3 rfl ?_
    refine e_gd fun g4 => ?_
    refine e_ifne 118 111 em_462 rfl rfl (ce_at ce_462 61 rfl) g4 (fun h5 => ?_) (fun h5 => ?_)
    · refine e_pk [0, 2, 3, 4, 5, 7] rfl rfl ?_
      exact tm_checkRight_118 w d hd _ _ _ _ _ _
    · refine e_mv 112 em_462 (ce_at ce_462 62 rfl) rfl rfl ?_
      refine e_op 113 em_462 (ce_at ce_462 63 rfl) rfl rfl ?_
      refine e_mv 115 em_462 (ce_at ce_462 64 rfl) rfl rfl ?_
      refine e_ivv 118 em_462 (ce_at ce_462 65 rfl) (by omega) (iv_v2 (by decide) tq_121 rfl) em_351 (Nat.le_of_ble_eq_true rfl) rfl (tm_note w (d - 1) (by omega) _ _ _) (fun r6 s6 => ?_)
      refine e_pk [0, 2, 3, 4, 5, 7] rfl rfl ?_
      exact tm_checkRight_118 w d hd _ _ _ _ _ _
theorem fm_checkRight_97 (v2 : Int) (v3 : Int) (v4 : Int) (v5 : Int) (v7 : Int) (s : iS) : Fm Prod.snd L_m_checkRight G_m_checkRight s (m_checkRight_97 v2 v3 v4 v5 v7 s) := fm_gd (fm_if (fm_gd (fm_gd (fm_if (fm_bd (fm_sub (fm_note _ _ _) (mem_sub_L rfl) (mem_sub_F rfl)) (fun r6 s6 => fm_checkRight_118 _ _ _ _ _ _)) (fm_checkRight_118 _ _ _ _ _ _)))) (fm_checkRight_118 _ _ _ _ _ _))
noncomputable def m_checkRight_76 (v2 : Int) (v3 : Int) (v4 : Int) (v5 : Int) (v7 : Int) (s : iS) : Option (Int × iS) := gd (rg v3) (if v3 = 0 then m_checkRight_97 v2 v3 v4 v5 v7 s else gd (0 ≤ v7 ∧ v7 < 700) (gd (rg (s 215 v7.toNat)) (if (s 215 v7.toNat) = 0 then m_checkRight_97 v2 v3 v4 v5 v7 s else bd (m_note 3 v5 s) (fun _ s6 => m_checkRight_97 v2 v3 v4 v5 v7 s6))))
theorem tm_checkRight_76 (w : ev_W) (d : Nat) (hd : 2 ≤ d) (v2 : Int) (v3 : Int) (v4 : Int) (v5 : Int) (v7 : Int) (s : iS) : Ew hT w d 462 76 [(0, .ref (tb_nK + 121)), (2, iv v2), (3, iv v3), (4, iv v4), (5, iv v5), (7, iv v7)] [] s (Cv hT) (m_checkRight_76 v2 v3 v4 v5 v7 s) := by
  unfold m_checkRight_76
  refine e_mv 77 em_462 (ce_at ce_462 44 rfl) rfl rfl ?_
  refine e_gd fun g1 => ?_
  refine e_ifeq 97 80 em_462 rfl rfl (ce_at ce_462 45 rfl) g1 (fun h2 => ?_) (fun h2 => ?_)
  · refine e_pk [0, 2, 3, 4, 5, 7] rfl rfl ?_
    exact tm_checkRight_97 w d hd _ _ _ _ _ _
  · refine e_mv 81 em_462 (ce_at ce_462 46 rfl) rfl rfl ?_
    refine e_getr 84 em_462 (ce_at ce_462 47 rfl) tq_121 rfl rfl ?_
    refine e_mv 86 em_462 (ce_at ce_462 48 rfl) rfl rfl ?_
    refine e_gd fun g3 => ?_
    refine e_zld 87 em_462 (ce_at ce_462 49 rfl) tq_215 (by decide) g3 rfl ?_
    refine e_gd fun g4 => ?_
    refine e_ifeq 97 90 em_462 rfl rfl (ce_at ce_462 50 rfl) g4 (fun h5 => ?_) (fun h5 => ?_)
    · refine e_pk [0, 2, 3, 4, 5, 7] rfl rfl ?_
      exact tm_checkRight_97 w d hd _ _ _ _ _ _
    · refine e_mv 91 em_462 (ce_at ce_462 51 rfl) rfl rfl ?_
      refine e_op 92 em_462 (ce_at ce_462 52 rfl) rfl rfl ?_
      refine e_mv 94 em_462 (ce_at ce_462 53 rfl) rfl rfl ?_
      refine e_ivv 97 em_462 (ce_at ce_462 54 rfl) (by omega) (iv_v2 (by decide) tq_121 rfl) em_351 (Nat.le_of_ble_eq_true rfl) rfl (tm_note w (d - 1) (by omega) _ _ _) (fun r6 s6 => ?_)
      refine e_pk [0, 2, 3, 4, 5, 7] rfl rfl ?_
      exact tm_checkRight_97 w d hd _ _ _ _ _ _
theorem fm_checkRight_76 (v2 : Int) (v3 : Int) (v4 : Int) (v5 : Int) (v7 : Int) (s : iS) : Fm Prod.snd L_m_checkRight G_m_checkRight s (m_checkRight_76 v2 v3 v4 v5 v7 s) := fm_gd (fm_if (fm_checkRight_97 _ _ _ _ _ _) (fm_gd (fm_gd (fm_if (fm_checkRight_97 _ _ _ _ _ _) (fm_bd (fm_sub (fm_note _ _ _) (mem_sub_L rfl) (mem_sub_F rfl)) (fun r6 s6 => fm_checkRight_97 _ _ _ _ _ _))))))
noncomputable def m_checkRight (v1 : Int) (v2 : Int) (v3 : Int) (v4 : Int) (s : iS) : Option (Int × iS) := gd (0 ≤ v2 ∧ v2 < 700) (gd (0 ≤ (s 208 v2.toNat) ∧ (s 208 v2.toNat) < 2002) (gd (rg (s 124 (s 208 v2.toNat).toNat)) (if (s 124 (s 208 v2.toNat).toNat) = 1 then bd (m_pinOf v1 (s 208 v2.toNat) s) (fun r5 s5 => gd (rg r5) (if r5 = (-1) then bd (m_innerOf v1 (s 208 v2.toNat) s5) (fun r23 s23 => gd (rg (s23 209 v2.toNat)) (if (s23 209 v2.toNat) = (-1) then m_checkRight_76 v2 v3 v4 (s 208 v2.toNat) r23 s23 else bd (m_note 5 (s23 209 v2.toNat) s23) (fun _ s26 => m_checkRight_76 v2 v3 v4 (s 208 v2.toNat) r23 s26))) else gd (0 ≤ r5 ∧ r5 < 200) (gd (rg (s5 197 r5.toNat)) (gd (rg v3) (if (s5 197 r5.toNat) = v3 then bd (m_rangeFits (s5 209 v2.toNat) (s5 210 v2.toNat) (s5 211 v2.toNat) (s5 199 r5.toNat) s5) (fun r12 s12 => gd (rg r12) (if r12 = 0 then bd (m_note 5 (s12 209 v2.toNat) s12) (fun _ s21 => some (0, s21)) else bd (m_bitsOf (s12 209 v2.toNat) (s12 210 v2.toNat) (s12 211 v2.toNat) (s5 199 r5.toNat) s12) (fun r15 s15 => gd (rg v4) (if v4 = (-1) then m_checkRight_307 v2 v3 (s 208 v2.toNat) r5 r15 s15 else gd (rg r15) (if r15 = v4 then m_checkRight_307 v2 v3 (s 208 v2.toNat) r5 r15 s15 else bd (m_note 5 (s 208 v2.toNat) s15) (fun _ s20 => m_checkRight_307 v2 v3 (s 208 v2.toNat) r5 r15 s20)))))) else bd (m_note 4 (s 208 v2.toNat) s5) (fun _ s22 => some (0, s22))))))) else gd (rg v3) (if v3 = 0 then some (0, s) else bd (m_note 4 (s 208 v2.toNat) s) (fun _ s29 => some (0, s29))))))
theorem tm_checkRight (w : ev_W) (d : Nat) (hd : 2 ≤ d) (v1 : Int) (v2 : Int) (v3 : Int) (v4 : Int) (s : iS) : Ew hT w d 462 0 [(0, .ref (tb_nK + 121)), (1, iv v1), (2, iv v2), (3, iv v3), (4, iv v4)] [] s (Cv hT) (m_checkRight v1 v2 v3 v4 s) := by
  unfold m_checkRight
  refine e_mv 1 em_462 (ce_at ce_462 0 rfl) rfl rfl ?_
  refine e_getr 4 em_462 (ce_at ce_462 1 rfl) tq_121 rfl rfl ?_
  refine e_mv 5 em_462 (ce_at ce_462 2 rfl) rfl rfl ?_
  refine e_gd fun g1 => ?_
  refine e_ild 6 em_462 (ce_at ce_462 3 rfl) tq_208 (by decide) g1 rfl ?_
  refine e_mv 8 em_462 (ce_at ce_462 4 rfl) rfl rfl ?_
  refine e_mv 9 em_462 (ce_at ce_462 5 rfl) rfl rfl ?_
  refine e_getr 12 em_462 (ce_at ce_462 6 rfl) tq_121 rfl rfl ?_
  refine e_mv 14 em_462 (ce_at ce_462 7 rfl) rfl rfl ?_
  refine e_gd fun g2 => ?_
  refine e_ild 15 em_462 (ce_at ce_462 8 rfl) tq_124 (by decide) g2 rfl ?_
  refine e_op 16 em_462 (ce_at ce_462 9 rfl) rfl rfl ?_
  refine e_gd fun g3 => ?_
  refine e_cmeq 31 19 em_462 rfl rfl (ce_at ce_462 10 rfl) g3 (by decide) (fun h4 => ?_) (fun h4 => ?_)
  · refine e_mv 32 em_462 (ce_at ce_462 18 rfl) rfl rfl ?_
    refine e_mv 33 em_462 (ce_at ce_462 19 rfl) rfl rfl ?_
    refine e_mv 35 em_462 (ce_at ce_462 20 rfl) rfl rfl ?_
    refine e_ivi 38 em_462 (ce_at ce_462 21 rfl) (by omega) (iv_v2 (by decide) tq_121 rfl) em_450 (Nat.le_of_ble_eq_true rfl) rfl (tm_pinOf w (d - 1) (by omega) _ _ _) (fun r5 s5 => ?_)
    refine e_mv 40 em_462 (ce_at ce_462 22 rfl) rfl rfl ?_
    refine e_mv 42 em_462 (ce_at ce_462 23 rfl) rfl rfl ?_
    refine e_op 43 em_462 (ce_at ce_462 24 rfl) rfl rfl ?_
    refine e_gd fun g6 => ?_
    refine e_cmne 194 46 em_462 rfl rfl (ce_at ce_462 25 rfl) g6 (by decide) (fun h7 => ?_) (fun h7 => ?_)
    · refine e_mv 195 em_462 (ce_at ce_462 107 rfl) rfl rfl ?_
      refine e_getr 198 em_462 (ce_at ce_462 108 rfl) tq_121 rfl rfl ?_
      refine e_mv 200 em_462 (ce_at ce_462 109 rfl) rfl rfl ?_
      refine e_gd fun g8 => ?_
      refine e_zld 201 em_462 (ce_at ce_462 110 rfl) tq_197 (by decide) g8 rfl ?_
      refine e_mv 202 em_462 (ce_at ce_462 111 rfl) rfl rfl ?_
      refine e_gd fun g9 => ?_
      refine e_gd fun g10 => ?_
      refine e_cmeq 213 205 em_462 rfl rfl (ce_at ce_462 112 rfl) g9 g10 (fun h11 => ?_) (fun h11 => ?_)
      · refine e_mv 214 em_462 (ce_at ce_462 118 rfl) rfl rfl ?_
        refine e_getr 217 em_462 (ce_at ce_462 119 rfl) tq_121 rfl rfl ?_
        refine e_mv 219 em_462 (ce_at ce_462 120 rfl) rfl rfl ?_
        refine e_ild 220 em_462 (ce_at ce_462 121 rfl) tq_199 (by decide) g8 rfl ?_
        refine e_mv 222 em_462 (ce_at ce_462 122 rfl) rfl rfl ?_
        refine e_mv 223 em_462 (ce_at ce_462 123 rfl) rfl rfl ?_
        refine e_mv 224 em_462 (ce_at ce_462 124 rfl) rfl rfl ?_
        refine e_getr 227 em_462 (ce_at ce_462 125 rfl) tq_121 rfl rfl ?_
        refine e_mv 228 em_462 (ce_at ce_462 126 rfl) rfl rfl ?_
        refine e_ild 229 em_462 (ce_at ce_462 127 rfl) tq_209 (by decide) g1 rfl ?_
        refine e_mv 230 em_462 (ce_at ce_462 128 rfl) rfl rfl ?_
        refine e_getr 233 em_462 (ce_at ce_462 129 rfl) tq_121 rfl rfl ?_
        refine e_mv 234 em_462 (ce_at ce_462 130 rfl) rfl rfl ?_
        refine e_ild 235 em_462 (ce_at ce_462 131 rfl) tq_210 (by decide) g1 rfl ?_
        refine e_mv 236 em_462 (ce_at ce_462 132 rfl) rfl rfl ?_
        refine e_getr 239 em_462 (ce_at ce_462 133 rfl) tq_121 rfl rfl ?_
        refine e_mv 240 em_462 (ce_at ce_462 134 rfl) rfl rfl ?_
        refine e_ild 241 em_462 (ce_at ce_462 135 rfl) tq_211 (by decide) g1 rfl ?_
        refine e_mv 243 em_462 (ce_at ce_462 136 rfl) rfl rfl ?_
        refine e_ivi 246 em_462 (ce_at ce_462 137 rfl) (by omega) (iv_v4 (by decide) tq_121 rfl) em_459 (Nat.le_of_ble_eq_true rfl) rfl (tm_rangeFits w (d - 1) (by omega) _ _ _ _ _) (fun r12 s12 => ?_)
        refine e_gd fun g13 => ?_
        refine e_ifne 261 249 em_462 rfl rfl (ce_at ce_462 138 rfl) g13 (fun h14 => ?_) (fun h14 => ?_)
        · refine e_mv 262 em_462 (ce_at ce_462 147 rfl) rfl rfl ?_
          refine e_mv 263 em_462 (ce_at ce_462 148 rfl) rfl rfl ?_
          refine e_getr 266 em_462 (ce_at ce_462 149 rfl) tq_121 rfl rfl ?_
          refine e_mv 267 em_462 (ce_at ce_462 150 rfl) rfl rfl ?_
          refine e_ild 268 em_462 (ce_at ce_462 151 rfl) tq_209 (by decide) g1 rfl ?_
          refine e_mv 269 em_462 (ce_at ce_462 152 rfl) rfl rfl ?_
          refine e_getr 272 em_462 (ce_at ce_462 153 rfl) tq_121 rfl rfl ?_
          refine e_mv 273 em_462 (ce_at ce_462 154 rfl) rfl rfl ?_
          refine e_ild 274 em_462 (ce_at ce_462 155 rfl) tq_210 (by decide) g1 rfl ?_
          refine e_mv 275 em_462 (ce_at ce_462 156 rfl) rfl rfl ?_
          refine e_getr 278 em_462 (ce_at ce_462 157 rfl) tq_121 rfl rfl ?_
          refine e_mv 279 em_462 (ce_at ce_462 158 rfl) rfl rfl ?_
          refine e_ild 280 em_462 (ce_at ce_462 159 rfl) tq_211 (by decide) g1 rfl ?_
          refine e_mv 282 em_462 (ce_at ce_462 160 rfl) rfl rfl ?_
          refine e_ivi 285 em_462 (ce_at ce_462 161 rfl) (by omega) (iv_v4 (by decide) tq_121 rfl) em_460 (Nat.le_of_ble_eq_true rfl) rfl (tm_bitsOf w (d - 1) (by omega) _ _ _ _ _) (fun r15 s15 => ?_)
          refine e_mv 287 em_462 (ce_at ce_462 162 rfl) rfl rfl ?_
          refine e_mv 289 em_462 (ce_at ce_462 163 rfl) rfl rfl ?_
          refine e_op 290 em_462 (ce_at ce_462 164 rfl) rfl rfl ?_
          refine e_gd fun g16 => ?_
          refine e_cmeq 307 293 em_462 rfl rfl (ce_at ce_462 165 rfl) g16 (by decide) (fun h17 => ?_) (fun h17 => ?_)
          · refine e_pk [0, 2, 3, 5, 6, 8] rfl rfl ?_
            exact tm_checkRight_307 w d hd _ _ _ _ _ _
          · refine e_mv 295 em_462 (ce_at ce_462 166 rfl) rfl rfl ?_
            refine e_mv 297 em_462 (ce_at ce_462 167 rfl) rfl rfl ?_
            refine e_gd fun g18 => ?_
            refine e_cmeq 307 300 em_462 rfl rfl (ce_at ce_462 168 rfl) g18 g16 (fun h19 => ?_) (fun h19 => ?_)
            · refine e_pk [0, 2, 3, 5, 6, 8] rfl rfl ?_
              exact tm_checkRight_307 w d hd _ _ _ _ _ _
            · refine e_mv 301 em_462 (ce_at ce_462 169 rfl) rfl rfl ?_
              refine e_op 302 em_462 (ce_at ce_462 170 rfl) rfl rfl ?_
              refine e_mv 304 em_462 (ce_at ce_462 171 rfl) rfl rfl ?_
              refine e_ivv 307 em_462 (ce_at ce_462 172 rfl) (by omega) (iv_v2 (by decide) tq_121 rfl) em_351 (Nat.le_of_ble_eq_true rfl) rfl (tm_note w (d - 1) (by omega) _ _ _) (fun r20 s20 => ?_)
              refine e_pk [0, 2, 3, 5, 6, 8] rfl rfl ?_
              exact tm_checkRight_307 w d hd _ _ _ _ _ _
        · refine e_mv 250 em_462 (ce_at ce_462 139 rfl) rfl rfl ?_
          refine e_op 251 em_462 (ce_at ce_462 140 rfl) rfl rfl ?_
          refine e_mv 252 em_462 (ce_at ce_462 141 rfl) rfl rfl ?_
          refine e_getr 255 em_462 (ce_at ce_462 142 rfl) tq_121 rfl rfl ?_
          refine e_mv 256 em_462 (ce_at ce_462 143 rfl) rfl rfl ?_
          refine e_ild 257 em_462 (ce_at ce_462 144 rfl) tq_209 (by decide) g1 rfl ?_
          refine e_ivv 260 em_462 (ce_at ce_462 145 rfl) (by omega) (iv_v2 (by decide) tq_121 rfl) em_351 (Nat.le_of_ble_eq_true rfl) rfl (tm_note w (d - 1) (by omega) _ _ _) (fun r21 s21 => ?_)
          exact e_retv em_462 (ce_at ce_462 146 rfl)
      · refine e_mv 206 em_462 (ce_at ce_462 113 rfl) rfl rfl ?_
        refine e_op 207 em_462 (ce_at ce_462 114 rfl) rfl rfl ?_
        refine e_mv 209 em_462 (ce_at ce_462 115 rfl) rfl rfl ?_
        refine e_ivv 212 em_462 (ce_at ce_462 116 rfl) (by omega) (iv_v2 (by decide) tq_121 rfl) em_351 (Nat.le_of_ble_eq_true rfl) rfl (tm_note w (d - 1) (by omega) _ _ _) (fun r22 s22 => ?_)
        exact e_retv em_462 (ce_at ce_462 117 rfl)
    · refine e_mv 47 em_462 (ce_at ce_462 26 rfl) rfl rfl ?_
      refine e_mv 48 em_462 (ce_at ce_462 27 rfl) rfl rfl ?_
      refine e_mv 50 em_462 (ce_at ce_462 28 rfl) rfl rfl ?_
      refine e_ivi 53 em_462 (ce_at ce_462 29 rfl) (by omega) (iv_v2 (by decide) tq_121 rfl) em_451 (Nat.le_of_ble_eq_true rfl) rfl (tm_innerOf w (d - 1) (by omega) _ _ _) (fun r23 s23 => ?_)
      refine e_mv 55 em_462 (ce_at ce_462 30 rfl) rfl rfl ?_
      refine e_mv 56 em_462 (ce_at ce_462 31 rfl) rfl rfl ?_
      refine e_getr 59 em_462 (ce_at ce_462 32 rfl) tq_121 rfl rfl ?_
      refine e_mv 60 em_462 (ce_at ce_462 33 rfl) rfl rfl ?_
      refine e_ild 61 em_462 (ce_at ce_462 34 rfl) tq_209 (by decide) g1 rfl ?_
      refine e_op 62 em_462 (ce_at ce_462 35 rfl) rfl rfl ?_
      refine e_gd fun g24 => ?_
      refine e_cmeq 76 65 em_462 rfl rfl (ce_at ce_462 36 rfl) g24 (by decide) (fun h25 => ?_) (fun h25 => ?_)
      · refine e_pk [0, 2, 3, 4, 5, 7] rfl rfl ?_
        exact tm_checkRight_76 w d hd _ _ _ _ _ _
      · refine e_mv 66 em_462 (ce_at ce_462 37 rfl) rfl rfl ?_
        refine e_op 67 em_462 (ce_at ce_462 38 rfl) rfl rfl ?_
        refine e_mv 68 em_462 (ce_at ce_462 39 rfl) rfl rfl ?_
        refine e_getr 71 em_462 (ce_at ce_462 40 rfl) tq_121 rfl rfl ?_
        refine e_mv 72 em_462 (ce_at ce_462 41 rfl) rfl rfl ?_
        refine e_ild 73 em_462 (ce_at ce_462 42 rfl) tq_209 (by decide) g1 rfl ?_
        refine e_ivv 76 em_462 (ce_at ce_462 43 rfl) (by omega) (iv_v2 (by decide) tq_121 rfl) em_351 (Nat.le_of_ble_eq_true rfl) rfl (tm_note w (d - 1) (by omega) _ _ _) (fun r26 s26 => ?_)
        refine e_pk [0, 2, 3, 4, 5, 7] rfl rfl ?_
        exact tm_checkRight_76 w d hd _ _ _ _ _ _
  · refine e_mv 20 em_462 (ce_at ce_462 11 rfl) rfl rfl ?_
    refine e_gd fun g27 => ?_
    refine e_ifeq 30 23 em_462 rfl rfl (ce_at ce_462 12 rfl) g27 (fun h28 => ?_) (fun h28 => ?_)
    · exact e_retv em_462 (ce_at ce_462 17 rfl)
    · refine e_mv 24 em_462 (ce_at ce_462 13 rfl) rfl rfl ?_
      refine e_op 25 em_462 (ce_at ce_462 14 rfl) rfl rfl ?_
      refine e_mv 27 em_462 (ce_at ce_462 15 rfl) rfl rfl ?_
      refine e_ivv 30 em_462 (ce_at ce_462 16 rfl) (by omega) (iv_v2 (by decide) tq_121 rfl) em_351 (Nat.le_of_ble_eq_true rfl) rfl (tm_note w (d - 1) (by omega) _ _ _) (fun r29 s29 => ?_)
      exact e_retv em_462 (ce_at ce_462 17 rfl)
theorem fm_checkRight (v1 : Int) (v2 : Int) (v3 : Int) (v4 : Int) (s : iS) : Fm Prod.snd L_m_checkRight G_m_checkRight s (m_checkRight v1 v2 v3 v4 s) := fm_gd (fm_gd (fm_gd (fm_if (fm_bd (fm_sub (fm_pinOf _ _ _) (mem_sub_L rfl) (mem_sub_F rfl)) (fun r5 s5 => fm_gd (fm_if (fm_bd (fm_sub (fm_innerOf _ _ _) (mem_sub_L rfl) (mem_sub_F rfl)) (fun r23 s23 => fm_gd (fm_if (fm_checkRight_76 _ _ _ _ _ _) (fm_bd (fm_sub (fm_note _ _ _) (mem_sub_L rfl) (mem_sub_F rfl)) (fun r26 s26 => fm_checkRight_76 _ _ _ _ _ _))))) (fm_gd (fm_gd (fm_gd (fm_if (fm_bd (fm_sub (fm_rangeFits _ _ _ _ _) (mem_sub_L rfl) (mem_sub_F rfl)) (fun r12 s12 => fm_gd (fm_if (fm_bd (fm_sub (fm_note _ _ _) (mem_sub_L rfl) (mem_sub_F rfl)) (fun r21 s21 => fm_some md_refl)) (fm_bd (fm_sub (fm_bitsOf _ _ _ _ _) (mem_sub_L rfl) (mem_sub_F rfl)) (fun r15 s15 => fm_gd (fm_if (fm_checkRight_307 _ _ _ _ _ _) (fm_gd (fm_if (fm_checkRight_307 _ _ _ _ _ _) (fm_bd (fm_sub (fm_note _ _ _) (mem_sub_L rfl) (mem_sub_F rfl)) (fun r20 s20 => fm_checkRight_307 _ _ _ _ _ _)))))))))) (fm_bd (fm_sub (fm_note _ _ _) (mem_sub_L rfl) (mem_sub_F rfl)) (fun r22 s22 => fm_some md_refl))))))))) (fm_gd (fm_if (fm_some md_refl) (fm_bd (fm_sub (fm_note _ _ _) (mem_sub_L rfl) (mem_sub_F rfl)) (fun r29 s29 => fm_some md_refl)))))))
