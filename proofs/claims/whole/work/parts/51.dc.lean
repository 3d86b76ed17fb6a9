/-! what the methods do, as functions, and that the machine does it; printed by wip/whole/dc.py -/
/-! m_row -/
def L_m_row : List Nat := []
def G_m_row : List (Nat × Nat) := []
def m_row_17C (w : ev_W) (d : Nat) (v1 : Int) : (Int × Int × iS) ⊕ (Int × iS) → am_E → Prop := fun q r => q.elim (fun l => ev w d 419 17 ((fun l => [(0, .ref (tb_nK + 121)), (1, iv v1), (2, lv (l.1)), (4, iv (l.2.1))]) l) [] (hT ((fun l => l.2.2) l)) r) (fun e => (fun e r => ev w d 419 54 [(2, lv (e.1))] [] (hT (e.2)) r) e r)
noncomputable def m_row_17b (v1 : Int) (v2 : Int) (v4 : Int) (s : iS) : Option ((Int × Int × iS) ⊕ (Int × iS)) := gd (rg v4) (if v4 < 0 then some (.inr (v2, s)) else gd (0 ≤ ((16384 + (4 * v1)) + v4) ∧ ((16384 + (4 * v1)) + v4) < 16512) (gd (rg (i_and (s 175 ((16384 + (4 * v1)) + v4).toNat) 65535)) (some (.inl ((l_or (l_shl v2 16) (i_and (s 175 ((16384 + (4 * v1)) + v4).toNat) 65535)), (v4 + (-1)), s)))))
theorem tm_row_17b (w : ev_W) (d : Nat) (hd : 0 ≤ d) (v1 : Int) (v2 : Int) (v4 : Int) (s : iS) : Ew hT w d 419 17 [(0, .ref (tb_nK + 121)), (1, iv v1), (2, lv v2), (4, iv v4)] [] s (m_row_17C w d v1) (m_row_17b v1 v2 v4 s) := by
  unfold m_row_17b
  refine e_mv 19 em_419 (ce_at ce_419 11 rfl) rfl rfl ?_
  refine e_gd fun g1 => ?_
  refine e_iflt 54 22 em_419 rfl rfl (ce_at ce_419 12 rfl) g1 (fun h2 => ?_) (fun h2 => ?_)
  · refine e_pk [2] rfl rfl ?_
    exact e_out (fun r h => h)
  · refine e_mv 23 em_419 (ce_at ce_419 13 rfl) rfl rfl ?_
    refine e_bip 25 em_419 (ce_at ce_419 14 rfl) (by decide) rfl ?_
    refine e_lshl 26 em_419 rfl (ce_at ce_419 15 rfl) ?_
    refine e_mv 27 em_419 (ce_at ce_419 16 rfl) rfl rfl ?_
    refine e_getr 30 em_419 (ce_at ce_419 17 rfl) tq_121 rfl rfl ?_
    refine e_sip 33 em_419 (ce_at ce_419 18 rfl) (by decide) rfl ?_
    refine e_op 34 em_419 (ce_at ce_419 19 rfl) rfl rfl ?_
    refine e_mv 35 em_419 (ce_at ce_419 20 rfl) rfl rfl ?_
    refine e_imul 36 em_419 rfl (ce_at ce_419 21 rfl) ?_
    refine e_iadd 37 em_419 rfl (ce_at ce_419 22 rfl) ?_
    refine e_mv 39 em_419 (ce_at ce_419 23 rfl) rfl rfl ?_
    refine e_iadd 40 em_419 rfl (ce_at ce_419 24 rfl) ?_
    refine e_gd fun g3 => ?_
    refine e_ild 41 em_419 (ce_at ce_419 25 rfl) tq_175 (by decide) g3 rfl ?_
    refine e_ldcw 44 em_419 (ce_at ce_419 26 rfl) (x := 65535) rfl rfl ?_
    refine e_iand 45 em_419 rfl (ce_at ce_419 27 rfl) ?_
    refine e_gd fun g4 => ?_
    refine e_i2l 46 em_419 rfl (ce_at ce_419 28 rfl) g4 ?_
    refine e_lor 47 em_419 rfl (ce_at ce_419 29 rfl) ?_
    refine e_mv 48 em_419 (ce_at ce_419 30 rfl) rfl rfl ?_
    refine e_iinc 51 em_419 (ce_at ce_419 31 rfl) rfl (by decide) rfl ?_
    refine e_goto em_419 17 (ce_at ce_419 32 rfl) rfl ?_
    refine e_pk [0, 1, 2, 4] rfl rfl ?_
    exact e_out (fun r h => h)
theorem fm_row_17b (v1 : Int) (v2 : Int) (v4 : Int) (s : iS) : Fm (fun r : (Int × Int × iS) ⊕ (Int × iS) => r.elim (fun l => l.2.2) (fun e => e.2)) L_m_row G_m_row s (m_row_17b v1 v2 v4 s) := fm_gd (fm_if (fm_some md_refl) (fm_gd (fm_gd (fm_some md_refl))))
noncomputable def m_row_17 (v1 : Int) (v2 : Int) (v4 : Int) (s : iS) : Option (Int × iS) := (lp (L := Int × Int × iS) (E := Int × iS) (fun l => m_row_17b v1 (l.1) (l.2.1) (l.2.2)) (v2, v4, s)).bind (fun e => some (e.1, e.2))
theorem tm_row_17 (w : ev_W) (d : Nat) (hd : 0 ≤ d) (v1 : Int) (v2 : Int) (v4 : Int) (s : iS) : Ew hT w d 419 17 [(0, .ref (tb_nK + 121)), (1, iv v1), (2, lv v2), (4, iv v4)] [] s (Cl hT) (m_row_17 v1 v2 v4 s) := by
  unfold m_row_17
  refine e_lp (L := Int × Int × iS) (E := Int × iS) (LO := fun l => [(0, .ref (tb_nK + 121)), (1, iv v1), (2, lv (l.1)), (4, iv (l.2.1))]) (LS := fun l => l.2.2) (CE := fun e r => ev w d 419 54 [(2, lv (e.1))] [] (hT (e.2)) r) (fun l => tm_row_17b w d hd _ _ _ _) ?_ (v2, v4, s)
  intro e
  show Ew hT w d 419 54 [(2, lv (e.1))] [] e.2 (Cl hT) _
  refine e_mv 55 em_419 (ce_at ce_419 33 rfl) rfl rfl ?_
  exact e_retl em_419 (ce_at ce_419 34 rfl)
theorem fm_row_17 (v1 : Int) (v2 : Int) (v4 : Int) (s : iS) : Fm Prod.snd L_m_row G_m_row s (m_row_17 v1 v2 v4 s) := by
  unfold m_row_17
  refine fm_lp (A := Int × Int × iS) (E := Int × iS) (LS := fun l => l.2.2) (LE := fun e => e.2) ?_ ?_ (v2, v4, s)
  · exact fun l => fm_row_17b _ _ _ _
  · exact (fun e => fm_some md_refl)
noncomputable def m_row (v1 : Int) (s : iS) : Option (Int × iS) := gd (rg v1) (if v1 < 0 then some (0, s) else if v1 ≤ 31 then m_row_17 v1 0 3 s else some (0, s))
theorem tm_row (w : ev_W) (d : Nat) (hd : 0 ≤ d) (v1 : Int) (s : iS) : Ew hT w d 419 0 [(0, .ref (tb_nK + 121)), (1, iv v1)] [] s (Cl hT) (m_row v1 s) := by
  unfold m_row
  refine e_mv 1 em_419 (ce_at ce_419 0 rfl) rfl rfl ?_
  refine e_gd fun g1 => ?_
  refine e_iflt 10 4 em_419 rfl rfl (ce_at ce_419 1 rfl) g1 (fun h2 => ?_) (fun h2 => ?_)
  · refine e_lcon 11 em_419 (ce_at ce_419 5 rfl) (x := 0) rfl rfl ?_
    exact e_retl em_419 (ce_at ce_419 6 rfl)
  · refine e_mv 5 em_419 (ce_at ce_419 2 rfl) rfl rfl ?_
    refine e_bip 7 em_419 (ce_at ce_419 3 rfl) (by decide) rfl ?_
    refine e_cmle 12 10 em_419 rfl rfl (ce_at ce_419 4 rfl) g1 (by decide) (fun h3 => ?_) (fun h3 => ?_)
    · refine e_lcon 13 em_419 (ce_at ce_419 7 rfl) (x := 0) rfl rfl ?_
      refine e_mv 14 em_419 (ce_at ce_419 8 rfl) rfl rfl ?_
      refine e_op 15 em_419 (ce_at ce_419 9 rfl) rfl rfl ?_
      refine e_mv 17 em_419 (ce_at ce_419 10 rfl) rfl rfl ?_
      refine e_pk [0, 1, 2, 4] rfl rfl ?_
      exact tm_row_17 w d hd _ _ _ _
    · refine e_lcon 11 em_419 (ce_at ce_419 5 rfl) (x := 0) rfl rfl ?_
      exact e_retl em_419 (ce_at ce_419 6 rfl)
theorem fm_row (v1 : Int) (s : iS) : Fm Prod.snd L_m_row G_m_row s (m_row v1 s) := fm_gd (fm_if (fm_some md_refl) (fm_if (fm_row_17 _ _ _ _) (fm_some md_refl)))
/-! m_word -/
def L_m_word : List Nat := []
def G_m_word : List (Nat × Nat) := []
noncomputable def m_word (v1 : Int) (s : iS) : Option (Int × iS) := bd (m_isPlace v1 s) (fun r1 s1 => gd (rg r1) (if r1 = 0 then some (100000, s1) else gd (0 ≤ v1 ∧ v1 < 16512) (some ((s1 175 v1.toNat), s1))))
theorem tm_word (w : ev_W) (d : Nat) (hd : 1 ≤ d) (v1 : Int) (s : iS) : Ew hT w d 420 0 [(0, .ref (tb_nK + 121)), (1, iv v1)] [] s (Ci hT) (m_word v1 s) := by
  unfold m_word
  refine e_mv 1 em_420 (ce_at ce_420 0 rfl) rfl rfl ?_
  refine e_ivi 4 em_420 (ce_at ce_420 1 rfl) (by omega) (iv_s1 rfl) em_384 (Nat.le_of_ble_eq_true rfl) rfl (tm_isPlace hT w (d - 1) (by omega) _ _) (fun r1 s1 => ?_)
  refine e_gd fun g2 => ?_
  refine e_ifeq 16 7 em_420 rfl rfl (ce_at ce_420 2 rfl) g2 (fun h3 => ?_) (fun h3 => ?_)
  · refine e_ldcw 19 em_420 (ce_at ce_420 8 rfl) (x := 100000) rfl rfl ?_
    exact e_reti em_420 (ce_at ce_420 9 rfl)
  · refine e_mv 8 em_420 (ce_at ce_420 3 rfl) rfl rfl ?_
    refine e_getr 11 em_420 (ce_at ce_420 4 rfl) tq_121 rfl rfl ?_
    refine e_mv 12 em_420 (ce_at ce_420 5 rfl) rfl rfl ?_
    refine e_gd fun g4 => ?_
    refine e_ild 13 em_420 (ce_at ce_420 6 rfl) tq_175 (by decide) g4 rfl ?_
    refine e_goto em_420 19 (ce_at ce_420 7 rfl) rfl ?_
    exact e_reti em_420 (ce_at ce_420 9 rfl)
theorem fm_word (v1 : Int) (s : iS) : Fm Prod.snd L_m_word G_m_word s (m_word v1 s) := fm_bd (fm_sub (fm_isPlace _ _) (mem_sub_L rfl) (mem_sub_F rfl)) (fun r1 s1 => fm_gd (fm_if (fm_some md_refl) (fm_gd (fm_some md_refl))))
/-! m_count -/
def L_m_count : List Nat := []
def G_m_count : List (Nat × Nat) := []
def m_count_67C (w : ev_W) (d : Nat) : (Int × Int × iS) ⊕ (Int × iS) → am_E → Prop := fun q r => q.elim (fun l => ev w d 421 67 ((fun l => [(0, .ref (tb_nK + 121)), (2, iv (l.1)), (3, iv (l.2.1))]) l) [] (hT ((fun l => l.2.2) l)) r) (fun e => (fun e r => ev w d 421 90 [(2, iv (e.1))] [] (hT (e.2)) r) e r)
noncomputable def m_count_67b (v2 : Int) (v3 : Int) (s : iS) : Option ((Int × Int × iS) ⊕ (Int × iS)) := gd (rg v3) (gd (rg (s 121 81)) (if (s 121 81) ≤ v3 then some (.inr (v2, s)) else gd (0 ≤ v3 ∧ v3 < 100) (some (.inl ((v2 + (s 177 v3.toNat)), (v3 + 1), s)))))
theorem tm_count_67b (w : ev_W) (d : Nat) (hd : 0 ≤ d) (v2 : Int) (v3 : Int) (s : iS) : Ew hT w d 421 67 [(0, .ref (tb_nK + 121)), (2, iv v2), (3, iv v3)] [] s (m_count_67C w d) (m_count_67b v2 v3 s) := by
  unfold m_count_67b
  refine e_mv 68 em_421 (ce_at ce_421 15 rfl) rfl rfl ?_
  refine e_mv 69 em_421 (ce_at ce_421 16 rfl) rfl rfl ?_
  refine e_get 72 em_421 (ce_at ce_421 17 rfl) tq_121 rfl rfl ?_
  refine e_gd fun g1 => ?_
  refine e_gd fun g2 => ?_
  refine e_cmge 90 75 em_421 rfl rfl (ce_at ce_421 18 rfl) g1 g2 (fun h3 => ?_) (fun h3 => ?_)
  · refine e_pk [2] rfl rfl ?_
    exact e_out (fun r h => h)
  · refine e_mv 76 em_421 (ce_at ce_421 19 rfl) rfl rfl ?_
    refine e_mv 77 em_421 (ce_at ce_421 20 rfl) rfl rfl ?_
    refine e_getr 80 em_421 (ce_at ce_421 21 rfl) tq_121 rfl rfl ?_
    refine e_mv 81 em_421 (ce_at ce_421 22 rfl) rfl rfl ?_
    refine e_gd fun g4 => ?_
    refine e_ild 82 em_421 (ce_at ce_421 23 rfl) tq_177 (by decide) g4 rfl ?_
    refine e_iadd 83 em_421 rfl (ce_at ce_421 24 rfl) ?_
    refine e_mv 84 em_421 (ce_at ce_421 25 rfl) rfl rfl ?_
    refine e_iinc 87 em_421 (ce_at ce_421 26 rfl) rfl (by decide) rfl ?_
    refine e_goto em_421 67 (ce_at ce_421 27 rfl) rfl ?_
    refine e_pk [0, 2, 3] rfl rfl ?_
    exact e_out (fun r h => h)
theorem fm_count_67b (v2 : Int) (v3 : Int) (s : iS) : Fm (fun r : (Int × Int × iS) ⊕ (Int × iS) => r.elim (fun l => l.2.2) (fun e => e.2)) L_m_count G_m_count s (m_count_67b v2 v3 s) := fm_gd (fm_gd (fm_if (fm_some md_refl) (fm_gd (fm_some md_refl))))
noncomputable def m_count_67 (v2 : Int) (v3 : Int) (s : iS) : Option (Int × iS) := (lp (L := Int × Int × iS) (E := Int × iS) (fun l => m_count_67b (l.1) (l.2.1) (l.2.2)) (v2, v3, s)).bind (fun e => some (e.1, e.2))
theorem tm_count_67 (w : ev_W) (d : Nat) (hd : 0 ≤ d) (v2 : Int) (v3 : Int) (s : iS) : Ew hT w d 421 67 [(0, .ref (tb_nK + 121)), (2, iv v2), (3, iv v3)] [] s (Ci hT) (m_count_67 v2 v3 s) := by
  unfold m_count_67
  refine e_lp (L := Int × Int × iS) (E := Int × iS) (LO := fun l => [(0, .ref (tb_nK + 121)), (2, iv (l.1)), (3, iv (l.2.1))]) (LS := fun l => l.2.2) (CE := fun e r => ev w d 421 90 [(2, iv (e.1))] [] (hT (e.2)) r) (fun l => tm_count_67b w d hd _ _ _) ?_ (v2, v3, s)
  intro e
  show Ew hT w d 421 90 [(2, iv (e.1))] [] e.2 (Ci hT) _
  refine e_mv 91 em_421 (ce_at ce_421 28 rfl) rfl rfl ?_
  exact e_reti em_421 (ce_at ce_421 29 rfl)
theorem fm_count_67 (v2 : Int) (v3 : Int) (s : iS) : Fm Prod.snd L_m_count G_m_count s (m_count_67 v2 v3 s) := by
  unfold m_count_67
  refine fm_lp (A := Int × Int × iS) (E := Int × iS) (LS := fun l => l.2.2) (LE := fun e => e.2) ?_ ?_ (v2, v3, s)
  · exact fun l => fm_count_67b _ _ _
  · exact (fun e => fm_some md_refl)
noncomputable def m_count (v1 : Int) (s : iS) : Option (Int × iS) := gd (rg v1) (if v1 = 0 then some ((s 121 1), s) else if v1 = 1 then some ((s 121 96), s) else if v1 = 2 then some ((s 121 89), s) else if v1 = 3 then m_count_67 0 0 s else if v1 = 4 then some ((s 121 81), s) else if v1 = 5 then some (((s 121 106) - (s 121 107)), s) else if v1 = 6 then some ((s 121 104), s) else if v1 = 7 then gd (rg (s 121 71)) (if (s 121 71) = 0 then some (0, s) else some (1, s)) else some ((-1), s))
theorem tm_count (w : ev_W) (d : Nat) (hd : 0 ≤ d) (v1 : Int) (s : iS) : Ew hT w d 421 0 [(0, .ref (tb_nK + 121)), (1, iv v1)] [] s (Ci hT) (m_count v1 s) := by
  unfold m_count
  refine e_mv 1 em_421 (ce_at ce_421 0 rfl) rfl rfl ?_
  refine e_gd fun g1 => ?_
  refine e_case 0 (fun h2 => ?_) (fun h2 => ?_)
  · refine e_sw em_421 48 (ce_at ce_421 1 rfl) (sw_in g1 (by omega) (by subst h2; rfl)) rfl ?_
    refine e_mv 49 em_421 (ce_at ce_421 2 rfl) rfl rfl ?_
    refine e_get 52 em_421 (ce_at ce_421 3 rfl) tq_121 rfl rfl ?_
    exact e_reti em_421 (ce_at ce_421 4 rfl)
  refine e_case 1 (fun h3 => ?_) (fun h3 => ?_)
  · refine e_sw em_421 53 (ce_at ce_421 1 rfl) (sw_in g1 (by omega) (by subst h3; rfl)) rfl ?_
    refine e_mv 54 em_421 (ce_at ce_421 5 rfl) rfl rfl ?_
    refine e_get 57 em_421 (ce_at ce_421 6 rfl) tq_121 rfl rfl ?_
    exact e_reti em_421 (ce_at ce_421 7 rfl)
  refine e_case 2 (fun h4 => ?_) (fun h4 => ?_)
  · refine e_sw em_421 58 (ce_at ce_421 1 rfl) (sw_in g1 (by omega) (by subst h4; rfl)) rfl ?_
    refine e_mv 59 em_421 (ce_at ce_421 8 rfl) rfl rfl ?_
    refine e_get 62 em_421 (ce_at ce_421 9 rfl) tq_121 rfl rfl ?_
    exact e_reti em_421 (ce_at ce_421 10 rfl)
  refine e_case 3 (fun h5 => ?_) (fun h5 => ?_)
  · refine e_sw em_421 63 (ce_at ce_421 1 rfl) (sw_in g1 (by omega) (by subst h5; rfl)) rfl ?_
    refine e_op 64 em_421 (ce_at ce_421 11 rfl) rfl rfl ?_
    refine e_mv 65 em_421 (ce_at ce_421 12 rfl) rfl rfl ?_
    refine e_op 66 em_421 (ce_at ce_421 13 rfl) rfl rfl ?_
    refine e_mv 67 em_421 (ce_at ce_421 14 rfl) rfl rfl ?_
    refine e_pk [0, 2, 3] rfl rfl ?_
    exact tm_count_67 w d hd _ _ _
  refine e_case 4 (fun h6 => ?_) (fun h6 => ?_)
  · refine e_sw em_421 92 (ce_at ce_421 1 rfl) (sw_in g1 (by omega) (by subst h6; rfl)) rfl ?_
    refine e_mv 93 em_421 (ce_at ce_421 30 rfl) rfl rfl ?_
    refine e_get 96 em_421 (ce_at ce_421 31 rfl) tq_121 rfl rfl ?_
    exact e_reti em_421 (ce_at ce_421 32 rfl)
  refine e_case 5 (fun h7 => ?_) (fun h7 => ?_)
  · refine e_sw em_421 97 (ce_at ce_421 1 rfl) (sw_in g1 (by omega) (by subst h7; rfl)) rfl ?_
    refine e_mv 98 em_421 (ce_at ce_421 33 rfl) rfl rfl ?_
    refine e_get 101 em_421 (ce_at ce_421 34 rfl) tq_121 rfl rfl ?_
    refine e_mv 102 em_421 (ce_at ce_421 35 rfl) rfl rfl ?_
    refine e_get 105 em_421 (ce_at ce_421 36 rfl) tq_121 rfl rfl ?_
    refine e_isub 106 em_421 rfl (ce_at ce_421 37 rfl) ?_
    exact e_reti em_421 (ce_at ce_421 38 rfl)
  refine e_case 6 (fun h8 => ?_) (fun h8 => ?_)
  · refine e_sw em_421 107 (ce_at ce_421 1 rfl) (sw_in g1 (by omega) (by subst h8; rfl)) rfl ?_
    refine e_mv 108 em_421 (ce_at ce_421 39 rfl) rfl rfl ?_
    refine e_get 111 em_421 (ce_at ce_421 40 rfl) tq_121 rfl rfl ?_
    exact e_reti em_421 (ce_at ce_421 41 rfl)
  refine e_case 7 (fun h9 => ?_) (fun h9 => ?_)
  · refine e_sw em_421 112 (ce_at ce_421 1 rfl) (sw_in g1 (by omega) (by subst h9; rfl)) rfl ?_
    refine e_mv 113 em_421 (ce_at ce_421 42 rfl) rfl rfl ?_
    refine e_get 116 em_421 (ce_at ce_421 43 rfl) tq_121 rfl rfl ?_
    refine e_gd fun g10 => ?_
    refine e_ifeq 123 119 em_421 rfl rfl (ce_at ce_421 44 rfl) g10 (fun h11 => ?_) (fun h11 => ?_)
    · refine e_op 124 em_421 (ce_at ce_421 47 rfl) rfl rfl ?_
      exact e_reti em_421 (ce_at ce_421 48 rfl)
    · refine e_op 120 em_421 (ce_at ce_421 45 rfl) rfl rfl ?_
      refine e_goto em_421 124 (ce_at ce_421 46 rfl) rfl ?_
      exact e_reti em_421 (ce_at ce_421 48 rfl)
  refine e_sw em_421 125 (ce_at ce_421 1 rfl) (sw_out g1 (by omega)) rfl ?_
  refine e_op 126 em_421 (ce_at ce_421 49 rfl) rfl rfl ?_
  exact e_reti em_421 (ce_at ce_421 50 rfl)
theorem fm_count (v1 : Int) (s : iS) : Fm Prod.snd L_m_count G_m_count s (m_count v1 s) := fm_gd (fm_if (fm_some md_refl) (fm_if (fm_some md_refl) (fm_if (fm_some md_refl) (fm_if (fm_count_67 _ _ _) (fm_if (fm_some md_refl) (fm_if (fm_some md_refl) (fm_if (fm_some md_refl) (fm_if (fm_gd (fm_if (fm_some md_refl) (fm_some md_refl))) (fm_some md_refl)))))))))
/-! m_resetProcessor -/
def L_m_resetProcessor : List Nat := [194]
def G_m_resetProcessor : List (Nat × Nat) := [(121, 110), (121, 112), (121, 118), (121, 119), (121, 120), (121, 121)]
def m_resetProcessor_2C (w : ev_W) (d : Nat) : (Int × iS) ⊕ (iS) → am_E → Prop := fun q r => q.elim (fun l => ev w d 423 2 ((fun l => [(0, .ref (tb_nK + 121)), (1, iv (l.1))]) l) [] (hT ((fun l => l.2) l)) r) (fun e => (fun e r => ev w d 423 21 [(0, .ref (tb_nK + 121))] [] (hT (e)) r) e r)
noncomputable def m_resetProcessor_2b (v1 : Int) (s : iS) : Option ((Int × iS) ⊕ (iS)) := gd (rg v1) (if 32768 ≤ v1 then some (.inr s) else gd (0 ≤ v1 ∧ v1 < 32768) (lt' (up s 194 v1.toNat 0) (fun s4 => some (.inl ((v1 + 1), s4)))))
theorem tm_resetProcessor_2b (w : ev_W) (d : Nat) (hd : 0 ≤ d) (v1 : Int) (s : iS) : Ew hT w d 423 2 [(0, .ref (tb_nK + 121)), (1, iv v1)] [] s (m_resetProcessor_2C w d) (m_resetProcessor_2b v1 s) := by
  unfold m_resetProcessor_2b
  refine e_mv 3 em_423 (ce_at ce_423 2 rfl) rfl rfl ?_
  refine e_ldc 5 em_423 (ce_at ce_423 3 rfl) (x := 32768) rfl rfl ?_
  refine e_gd fun g1 => ?_
  refine e_cmge 21 8 em_423 rfl rfl (ce_at ce_423 4 rfl) g1 (by decide) (fun h2 => ?_) (fun h2 => ?_)
  · refine e_pk [0] rfl rfl ?_
    exact e_out (fun r h => h)
  · refine e_mv 9 em_423 (ce_at ce_423 5 rfl) rfl rfl ?_
    refine e_getr 12 em_423 (ce_at ce_423 6 rfl) tq_121 rfl rfl ?_
    refine e_mv 13 em_423 (ce_at ce_423 7 rfl) rfl rfl ?_
    refine e_op 14 em_423 (ce_at ce_423 8 rfl) rfl rfl ?_
    refine e_gd fun g3 => ?_
    refine e_ist 15 em_423 (ce_at ce_423 9 rfl) tq_194 (by decide) g3 rfl (fun s4 => ?_)
    refine e_iinc 18 em_423 (ce_at ce_423 10 rfl) rfl (by decide) rfl ?_
    refine e_goto em_423 2 (ce_at ce_423 11 rfl) rfl ?_
    refine e_pk [0, 1] rfl rfl ?_
    exact e_out (fun r h => h)
theorem fm_resetProcessor_2b (v1 : Int) (s : iS) : Fm (fun r : (Int × iS) ⊕ (iS) => r.elim (fun l => l.2) (fun e => e)) L_m_resetProcessor G_m_resetProcessor s (m_resetProcessor_2b v1 s) := fm_gd (fm_if (fm_some md_refl) (fm_gd (fm_lt (md_upL (mem_L rfl)) (fun s4 => fm_some md_refl))))
noncomputable def m_resetProcessor_21 (s : iS) : Option (Int × iS) := lt' (up s 121 118 0) (fun s1 => lt' (up s1 121 119 0) (fun s2 => lt' (up s2 121 120 0) (fun s3 => lt' (up s3 121 121 0) (fun s4 => lt' (up s4 121 110 0) (fun s5 => lt' (up s5 121 112 0) (fun s6 => some (0, s6)))))))
theorem tm_resetProcessor_21 (w : ev_W) (d : Nat) (hd : 0 ≤ d) (s : iS) : Ew hT w d 423 21 [(0, .ref (tb_nK + 121))] [] s (Cv hT) (m_resetProcessor_21 s) := by
  unfold m_resetProcessor_21
  refine e_mv 22 em_423 (ce_at ce_423 12 rfl) rfl rfl ?_
  refine e_op 23 em_423 (ce_at ce_423 13 rfl) rfl rfl ?_
  refine e_put 26 em_423 (ce_at ce_423 14 rfl) tq_121 rfl rfl rfl (fun s1 => ?_)
  refine e_mv 27 em_423 (ce_at ce_423 15 rfl) rfl rfl ?_
  refine e_op 28 em_423 (ce_at ce_423 16 rfl) rfl rfl ?_
  refine e_put 31 em_423 (ce_at ce_423 17 rfl) tq_121 rfl rfl rfl (fun s2 => ?_)
  refine e_mv 32 em_423 (ce_at ce_423 18 rfl) rfl rfl ?_
  refine e_op 33 em_423 (ce_at ce_423 19 rfl) rfl rfl ?_
  refine e_put 36 em_423 (ce_at ce_423 20 rfl) tq_121 rfl rfl rfl (fun s3 => ?_)
  refine e_mv 37 em_423 (ce_at ce_423 21 rfl) rfl rfl ?_
  refine e_op 38 em_423 (ce_at ce_423 22 rfl) rfl rfl ?_
  refine e_put 41 em_423 (ce_at ce_423 23 rfl) tq_121 rfl rfl rfl (fun s4 => ?_)
  refine e_mv 42 em_423 (ce_at ce_423 24 rfl) rfl rfl ?_
  refine e_op 43 em_423 (ce_at ce_423 25 rfl) rfl rfl ?_
  refine e_put 46 em_423 (ce_at ce_423 26 rfl) tq_121 rfl rfl rfl (fun s5 => ?_)
  refine e_mv 47 em_423 (ce_at ce_423 27 rfl) rfl rfl ?_
  refine e_op 48 em_423 (ce_at ce_423 28 rfl) rfl rfl ?_
  refine e_put 51 em_423 (ce_at ce_423 29 rfl) tq_121 rfl rfl rfl (fun s6 => ?_)
  exact e_retv em_423 (ce_at ce_423 30 rfl)
theorem fm_resetProcessor_21 (s : iS) : Fm Prod.snd L_m_resetProcessor G_m_resetProcessor s (m_resetProcessor_21 s) := fm_lt (md_upF (mem_F rfl)) (fun s1 => fm_lt (md_upF (mem_F rfl)) (fun s2 => fm_lt (md_upF (mem_F rfl)) (fun s3 => fm_lt (md_upF (mem_F rfl)) (fun s4 => fm_lt (md_upF (mem_F rfl)) (fun s5 => fm_lt (md_upF (mem_F rfl)) (fun s6 => fm_some md_refl))))))
noncomputable def m_resetProcessor_2 (v1 : Int) (s : iS) : Option (Int × iS) := (lp (L := Int × iS) (E := iS) (fun l => m_resetProcessor_2b (l.1) (l.2)) (v1, s)).bind (fun e => m_resetProcessor_21 e)
theorem tm_resetProcessor_2 (w : ev_W) (d : Nat) (hd : 0 ≤ d) (v1 : Int) (s : iS) : Ew hT w d 423 2 [(0, .ref (tb_nK + 121)), (1, iv v1)] [] s (Cv hT) (m_resetProcessor_2 v1 s) := by
  unfold m_resetProcessor_2
  refine e_lp (L := Int × iS) (E := iS) (LO := fun l => [(0, .ref (tb_nK + 121)), (1, iv (l.1))]) (LS := fun l => l.2) (CE := fun e r => ev w d 423 21 [(0, .ref (tb_nK + 121))] [] (hT (e)) r) (fun l => tm_resetProcessor_2b w d hd _ _) ?_ (v1, s)
  intro e
  show Ew hT w d 423 21 [(0, .ref (tb_nK + 121))] [] e (Cv hT) _
  refine e_pk [0] rfl rfl ?_
  exact tm_resetProcessor_21 w d hd _
theorem fm_resetProcessor_2 (v1 : Int) (s : iS) : Fm Prod.snd L_m_resetProcessor G_m_resetProcessor s (m_resetProcessor_2 v1 s) := by
  unfold m_resetProcessor_2
  refine fm_lp (A := Int × iS) (E := iS) (LS := fun l => l.2) (LE := fun e => e) ?_ ?_ (v1, s)
  · exact fun l => fm_resetProcessor_2b _ _
  · exact (fun e => fm_resetProcessor_21 _)
noncomputable def m_resetProcessor (s : iS) : Option (Int × iS) := m_resetProcessor_2 0 s
theorem tm_resetProcessor (w : ev_W) (d : Nat) (hd : 0 ≤ d) (s : iS) : Ew hT w d 423 0 [(0, .ref (tb_nK + 121))] [] s (Cv hT) (m_resetProcessor s) := by
  unfold m_resetProcessor
  refine e_op 1 em_423 (ce_at ce_423 0 rfl) rfl rfl ?_
  refine e_mv 2 em_423 (ce_at ce_423 1 rfl) rfl rfl ?_
  refine e_pk [0, 1] rfl rfl ?_
  exact tm_resetProcessor_2 w d hd _ _
theorem fm_resetProcessor (s : iS) : Fm Prod.snd L_m_resetProcessor G_m_resetProcessor s (m_resetProcessor s) := fm_resetProcessor_2 _ _
/-! m_isBlank -/
def L_m_isBlank : List Nat := []
def G_m_isBlank : List (Nat × Nat) := []
noncomputable def m_isBlank (v0 : Int) (s : iS) : Option (Int × iS) := gd (rg v0) (if v0 = 9 then some (1, s) else if v0 = 13 then some (1, s) else if v0 = 32 then some (1, s) else some (0, s))
theorem tm_isBlank (H : iS → List am_C) (w : ev_W) (d : Nat) (hd : 0 ≤ d) (v0 : Int) (s : iS) : Ew H w d 424 0 [(0, iv v0)] [] s (Ci H) (m_isBlank v0 s) := by
  unfold m_isBlank
  refine e_mv 1 em_424 (ce_at ce_424 0 rfl) rfl rfl ?_
  refine e_bip 3 em_424 (ce_at ce_424 1 rfl) (by decide) rfl ?_
  refine e_gd fun g1 => ?_
  refine e_cmeq 18 6 em_424 rfl rfl (ce_at ce_424 2 rfl) g1 (by decide) (fun h2 => ?_) (fun h2 => ?_)
  · refine e_op 19 em_424 (ce_at ce_424 9 rfl) rfl rfl ?_
    refine e_goto em_424 23 (ce_at ce_424 10 rfl) rfl ?_
    exact e_retz em_424 (ce_at ce_424 12 rfl) (by decide)
  · refine e_mv 7 em_424 (ce_at ce_424 3 rfl) rfl rfl ?_
    refine e_bip 9 em_424 (ce_at ce_424 4 rfl) (by decide) rfl ?_
    refine e_cmeq 18 12 em_424 rfl rfl (ce_at ce_424 5 rfl) g1 (by decide) (fun h3 => ?_) (fun h3 => ?_)
    · refine e_op 19 em_424 (ce_at ce_424 9 rfl) rfl rfl ?_
      refine e_goto em_424 23 (ce_at ce_424 10 rfl) rfl ?_
      exact e_retz em_424 (ce_at ce_424 12 rfl) (by decide)
    · refine e_mv 13 em_424 (ce_at ce_424 6 rfl) rfl rfl ?_
      refine e_bip 15 em_424 (ce_at ce_424 7 rfl) (by decide) rfl ?_
      refine e_cmne 22 18 em_424 rfl rfl (ce_at ce_424 8 rfl) g1 (by decide) (fun h4 => ?_) (fun h4 => ?_)
      · refine e_op 23 em_424 (ce_at ce_424 11 rfl) rfl rfl ?_
        exact e_retz em_424 (ce_at ce_424 12 rfl) (by decide)
      · refine e_op 19 em_424 (ce_at ce_424 9 rfl) rfl rfl ?_
        refine e_goto em_424 23 (ce_at ce_424 10 rfl) rfl ?_
        exact e_retz em_424 (ce_at ce_424 12 rfl) (by decide)
theorem fm_isBlank (v0 : Int) (s : iS) : Fm Prod.snd L_m_isBlank G_m_isBlank s (m_isBlank v0 s) := fm_gd (fm_if (fm_some md_refl) (fm_if (fm_some md_refl) (fm_if (fm_some md_refl) (fm_some md_refl))))
/-! m_destOf -/
def L_m_destOf : List Nat := []
def G_m_destOf : List (Nat × Nat) := []
noncomputable def m_destOf (v1 : Int) (v2 : Int) (s : iS) : Option (Int × iS) := bd (m_wordOf 19 ka_9 v1 v2 s) (fun r1 s1 => gd (rg r1) (if r1 < 0 then some ((-1), s1) else gd (rg v2) (if v2 = 0 then some ((-1), s1) else some ((8 * (r1 + 1)), s1))))
theorem tm_destOf (w : ev_W) (d : Nat) (hd : 1 ≤ d) (v1 : Int) (v2 : Int) (s : iS) : Ew hT w d 433 0 [(0, .ref (tb_nK + 121)), (1, iv v1), (2, iv v2)] [] s (Ci hT) (m_destOf v1 v2 s) := by
  unfold m_destOf
  refine e_mv 1 em_433 (ce_at ce_433 0 rfl) rfl rfl ?_
  refine e_gst 4 em_433 (ce_at ce_433 1 rfl) rfl rfl ?_
  refine e_mv 5 em_433 (ce_at ce_433 2 rfl) rfl rfl ?_
  refine e_mv 6 em_433 (ce_at ce_433 3 rfl) rfl rfl ?_
  refine e_ivi 9 em_433 (ce_at ce_433 4 rfl) (by omega) (iv_v3 (by decide) tq_121 rfl) em_309 (Nat.le_of_ble_eq_true rfl) rfl (tm_wordOf w (d - 1) (by omega) 19 ka_9 9 (by decide) (kt_9 _ _) (by decide) _ _ _) (fun r1 s1 => ?_)
  refine e_mv 10 em_433 (ce_at ce_433 5 rfl) rfl rfl ?_
  refine e_mv 11 em_433 (ce_at ce_433 6 rfl) rfl rfl ?_
  refine e_gd fun g2 => ?_
  refine e_iflt 18 14 em_433 rfl rfl (ce_at ce_433 7 rfl) g2 (fun h3 => ?_) (fun h3 => ?_)
  · refine e_op 19 em_433 (ce_at ce_433 10 rfl) rfl rfl ?_
    refine e_goto em_433 28 (ce_at ce_433 11 rfl) rfl ?_
    exact e_reti em_433 (ce_at ce_433 17 rfl)
  · refine e_mv 15 em_433 (ce_at ce_433 8 rfl) rfl rfl ?_
    refine e_gd fun g4 => ?_
    refine e_ifne 22 18 em_433 rfl rfl (ce_at ce_433 9 rfl) g4 (fun h5 => ?_) (fun h5 => ?_)
    · refine e_bip 24 em_433 (ce_at ce_433 12 rfl) (by decide) rfl ?_
      refine e_mv 25 em_433 (ce_at ce_433 13 rfl) rfl rfl ?_
      refine e_op 26 em_433 (ce_at ce_433 14 rfl) rfl rfl ?_
      refine e_iadd 27 em_433 rfl (ce_at ce_433 15 rfl) ?_
      refine e_imul 28 em_433 rfl (ce_at ce_433 16 rfl) ?_
      exact e_reti em_433 (ce_at ce_433 17 rfl)
    · refine e_op 19 em_433 (ce_at ce_433 10 rfl) rfl rfl ?_
      refine e_goto em_433 28 (ce_at ce_433 11 rfl) rfl ?_
      exact e_reti em_433 (ce_at ce_433 17 rfl)
theorem fm_destOf (v1 : Int) (v2 : Int) (s : iS) : Fm Prod.snd L_m_destOf G_m_destOf s (m_destOf v1 v2 s) := fm_bd (fm_sub (fm_wordOf 19 ka_9 _ _ _) (mem_sub_L rfl) (mem_sub_F rfl)) (fun r1 s1 => fm_gd (fm_if (fm_some md_refl) (fm_gd (fm_if (fm_some md_refl) (fm_some md_refl)))))
/-! m_compOf -/
def L_m_compOf : List Nat := []
def G_m_compOf : List (Nat × Nat) := []
noncomputable def m_compOf_459 (v6 : Int) (v7 : Int) (s : iS) : Option (Int × iS) := gd (rg v7) (if v7 = (-1) then some ((-1), s) else some ((v7 + v6), s))
theorem tm_compOf_459 (w : ev_W) (d : Nat) (hd : 0 ≤ d) (v6 : Int) (v7 : Int) (s : iS) : Ew hT w d 434 459 [(6, iv v6), (7, iv v7)] [] s (Ci hT) (m_compOf_459 v6 v7 s) := by
  unfold m_compOf_459
  refine e_mv 461 em_434 (ce_at ce_434 224 rfl) rfl rfl ?_
  refine e_op 462 em_434 (ce_at ce_434 225 rfl) rfl rfl ?_
  refine e_gd fun g1 => ?_
  refine e_cmne 469 465 em_434 rfl rfl (ce_at ce_434 226 rfl) g1 (by decide) (fun h2 => ?_) (fun h2 => ?_)
  · refine e_mv 471 em_434 (ce_at ce_434 229 rfl) rfl rfl ?_
    refine e_mv 473 em_434 (ce_at ce_434 230 rfl) rfl rfl ?_
    refine e_iadd 474 em_434 rfl (ce_at ce_434 231 rfl) ?_
    exact e_reti em_434 (ce_at ce_434 232 rfl)
  · refine e_op 466 em_434 (ce_at ce_434 227 rfl) rfl rfl ?_
    refine e_goto em_434 474 (ce_at ce_434 228 rfl) rfl ?_
    exact e_reti em_434 (ce_at ce_434 232 rfl)
theorem fm_compOf_459 (v6 : Int) (v7 : Int) (s : iS) : Fm Prod.snd L_m_compOf G_m_compOf s (m_compOf_459 v6 v7 s) := fm_gd (fm_if (fm_some md_refl) (fm_some md_refl))
noncomputable def m_compOf_457 (v6 : Int) (t0 : Int) (s : iS) : Option (Int × iS) := m_compOf_459 v6 t0 s
theorem tm_compOf_457 (w : ev_W) (d : Nat) (hd : 0 ≤ d) (v6 : Int) (t0 : Int) (s : iS) : Ew hT w d 434 457 [(6, iv v6)] [iv t0] s (Ci hT) (m_compOf_457 v6 t0 s) := by
  unfold m_compOf_457
  refine e_mv 459 em_434 (ce_at ce_434 223 rfl) rfl rfl ?_
  refine e_pk [6, 7] rfl rfl ?_
  exact tm_compOf_459 w d hd _ _ _
theorem fm_compOf_457 (v6 : Int) (t0 : Int) (s : iS) : Fm Prod.snd L_m_compOf G_m_compOf s (m_compOf_457 v6 t0 s) := fm_compOf_459 _ _ _
noncomputable def m_compOf_426 (v2 : Int) (v3 : Int) (v4 : Int) (v5 : Int) (v6 : Int) (v7 : Int) (s : iS) : Option (Int × iS) := gd (rg v2) (if v2 = 3 then gd (rg v3) (if v3 = 65 then gd (rg v5) (if v5 = 68 then gd (rg v4) (if v4 = 45 then m_compOf_457 v6 7 s else m_compOf_457 v6 (-1) s) else m_compOf_459 v6 v7 s) else m_compOf_459 v6 v7 s) else m_compOf_459 v6 v7 s)
theorem tm_compOf_426 (w : ev_W) (d : Nat) (hd : 0 ≤ d) (v2 : Int) (v3 : Int) (v4 : Int) (v5 : Int) (v6 : Int) (v7 : Int) (s : iS) : Ew hT w d 434 426 [(2, iv v2), (3, iv v3), (4, iv v4), (5, iv v5), (6, iv v6), (7, iv v7)] [] s (Ci hT) (m_compOf_426 v2 v3 v4 v5 v6 v7 s) := by
  unfold m_compOf_426
  refine e_mv 427 em_434 (ce_at ce_434 208 rfl) rfl rfl ?_
  refine e_op 428 em_434 (ce_at ce_434 209 rfl) rfl rfl ?_
  refine e_gd fun g1 => ?_
  refine e_cmne 459 431 em_434 rfl rfl (ce_at ce_434 210 rfl) g1 (by decide) (fun h2 => ?_) (fun h2 => ?_)
  · refine e_pk [6, 7] rfl rfl ?_
    exact tm_compOf_459 w d hd _ _ _
  · refine e_mv 432 em_434 (ce_at ce_434 211 rfl) rfl rfl ?_
    refine e_bip 434 em_434 (ce_at ce_434 212 rfl) (by decide) rfl ?_
    refine e_gd fun g3 => ?_
    refine e_cmne 459 437 em_434 rfl rfl (ce_at ce_434 213 rfl) g3 (by decide) (fun h4 => ?_) (fun h4 => ?_)
    · refine e_pk [6, 7] rfl rfl ?_
      exact tm_compOf_459 w d hd _ _ _
    · refine e_mv 439 em_434 (ce_at ce_434 214 rfl) rfl rfl ?_
      refine e_bip 441 em_434 (ce_at ce_434 215 rfl) (by decide) rfl ?_
      refine e_gd fun g5 => ?_
      refine e_cmne 459 444 em_434 rfl rfl (ce_at ce_434 216 rfl) g5 (by decide) (fun h6 => ?_) (fun h6 => ?_)
      · refine e_pk [6, 7] rfl rfl ?_
        exact tm_compOf_459 w d hd _ _ _
      · refine e_mv 446 em_434 (ce_at ce_434 217 rfl) rfl rfl ?_
        refine e_bip 448 em_434 (ce_at ce_434 218 rfl) (by decide) rfl ?_
        refine e_gd fun g7 => ?_
        refine e_cmne 456 451 em_434 rfl rfl (ce_at ce_434 219 rfl) g7 (by decide) (fun h8 => ?_) (fun h8 => ?_)
        · refine e_op 457 em_434 (ce_at ce_434 222 rfl) rfl rfl ?_
          refine e_pk [6] rfl rfl ?_
          exact tm_compOf_457 w d hd _ _ _
        · refine e_bip 453 em_434 (ce_at ce_434 220 rfl) (by decide) rfl ?_
          refine e_goto em_434 457 (ce_at ce_434 221 rfl) rfl ?_
          refine e_pk [6] rfl rfl ?_
          exact tm_compOf_457 w d hd _ _ _
theorem fm_compOf_426 (v2 : Int) (v3 : Int) (v4 : Int) (v5 : Int) (v6 : Int) (v7 : Int) (s : iS) : Fm Prod.snd L_m_compOf G_m_compOf s (m_compOf_426 v2 v3 v4 v5 v6 v7 s) := fm_gd (fm_if (fm_gd (fm_if (fm_gd (fm_if (fm_gd (fm_if (fm_compOf_457 _ _ _) (fm_compOf_457 _ _ _))) (fm_compOf_459 _ _ _))) (fm_compOf_459 _ _ _))) (fm_compOf_459 _ _ _))
noncomputable def m_compOf_424 (v2 : Int) (v3 : Int) (v4 : Int) (v5 : Int) (v6 : Int) (t0 : Int) (s : iS) : Option (Int × iS) := m_compOf_426 v2 v3 v4 v5 v6 t0 s
theorem tm_compOf_424 (w : ev_W) (d : Nat) (hd : 0 ≤ d) (v2 : Int) (v3 : Int) (v4 : Int) (v5 : Int) (v6 : Int) (t0 : Int) (s : iS) : Ew hT w d 434 424 [(2, iv v2), (3, iv v3), (4, iv v4), (5, iv v5), (6, iv v6)] [iv t0] s (Ci hT) (m_compOf_424 v2 v3 v4 v5 v6 t0 s) := by
  unfold m_compOf_424
  refine e_mv 426 em_434 (ce_at ce_434 207 rfl) rfl rfl ?_
  refine e_pk [2, 3, 4, 5, 6, 7] rfl rfl ?_
  exact tm_compOf_426 w d hd _ _ _ _ _ _ _
theorem fm_compOf_424 (v2 : Int) (v3 : Int) (v4 : Int) (v5 : Int) (v6 : Int) (t0 : Int) (s : iS) : Fm Prod.snd L_m_compOf G_m_compOf s (m_compOf_424 v2 v3 v4 v5 v6 t0 s) := fm_compOf_426 _ _ _ _ _ _ _
noncomputable def m_compOf_359 (v2 : Int) (v3 : Int) (v4 : Int) (v5 : Int) (v6 : Int) (v7 : Int) (s : iS) : Option (Int × iS) := gd (rg v2) (if v2 = 3 then gd (rg v3) (if v3 = 68 then gd (rg v5) (if v5 = 65 then gd (rg v4) (if v4 = 43 then m_compOf_424 v2 v3 v4 v5 v6 2 s else if v4 = 45 then m_compOf_424 v2 v3 v4 v5 v6 19 s else if v4 = 38 then m_compOf_424 v2 v3 v4 v5 v6 0 s else if v4 = 124 then m_compOf_424 v2 v3 v4 v5 v6 21 s else m_compOf_424 v2 v3 v4 v5 v6 (-1) s) else m_compOf_426 v2 v3 v4 v5 v6 v7 s) else m_compOf_426 v2 v3 v4 v5 v6 v7 s) else m_compOf_426 v2 v3 v4 v5 v6 v7 s)
theorem tm_compOf_359 (w : ev_W) (d : Nat) (hd : 0 ≤ d) (v2 : Int) (v3 : Int) (v4 : Int) (v5 : Int) (v6 : Int) (v7 : Int) (s : iS) : Ew hT w d 434 359 [(2, iv v2), (3, iv v3), (4, iv v4), (5, iv v5), (6, iv v6), (7, iv v7)] [] s (Ci hT) (m_compOf_359 v2 v3 v4 v5 v6 v7 s) := by
  unfold m_compOf_359
  refine e_mv 360 em_434 (ce_at ce_434 177 rfl) rfl rfl ?_
  refine e_op 361 em_434 (ce_at ce_434 178 rfl) rfl rfl ?_
  refine e_gd fun g1 => ?_
  refine e_cmne 426 364 em_434 rfl rfl (ce_at ce_434 179 rfl) g1 (by decide) (fun h2 => ?_) (fun h2 => ?_)
  · refine e_pk [2, 3, 4, 5, 6, 7] rfl rfl ?_
    exact tm_compOf_426 w d hd _ _ _ _ _ _ _
  · refine e_mv 365 em_434 (ce_at ce_434 180 rfl) rfl rfl ?_
    refine e_bip 367 em_434 (ce_at ce_434 181 rfl) (by decide) rfl ?_
    refine e_gd fun g3 => ?_
    refine e_cmne 426 370 em_434 rfl rfl (ce_at ce_434 182 rfl) g3 (by decide) (fun h4 => ?_) (fun h4 => ?_)
    · refine e_pk [2, 3, 4, 5, 6, 7] rfl rfl ?_
      exact tm_compOf_426 w d hd _ _ _ _ _ _ _
    · refine e_mv 372 em_434 (ce_at ce_434 183 rfl) rfl rfl ?_
      refine e_bip 374 em_434 (ce_at ce_434 184 rfl) (by decide) rfl ?_
      refine e_gd fun g5 => ?_
      refine e_cmne 426 377 em_434 rfl rfl (ce_at ce_434 185 rfl) g5 (by decide) (fun h6 => ?_) (fun h6 => ?_)
      · refine e_pk [2, 3, 4, 5, 6, 7] rfl rfl ?_
        exact tm_compOf_426 w d hd _ _ _ _ _ _ _
      · refine e_mv 379 em_434 (ce_at ce_434 186 rfl) rfl rfl ?_
        refine e_bip 381 em_434 (ce_at ce_434 187 rfl) (by decide) rfl ?_
        refine e_gd fun g7 => ?_
        refine e_cmne 388 384 em_434 rfl rfl (ce_at ce_434 188 rfl) g7 (by decide) (fun h8 => ?_) (fun h8 => ?_)
        · refine e_mv 390 em_434 (ce_at ce_434 191 rfl) rfl rfl ?_
          refine e_bip 392 em_434 (ce_at ce_434 192 rfl) (by decide) rfl ?_
          refine e_cmne 400 395 em_434 rfl rfl (ce_at ce_434 193 rfl) g7 (by decide) (fun h9 => ?_) (fun h9 => ?_)
          · refine e_mv 402 em_434 (ce_at ce_434 196 rfl) rfl rfl ?_
            refine e_bip 404 em_434 (ce_at ce_434 197 rfl) (by decide) rfl ?_
            refine e_cmne 411 407 em_434 rfl rfl (ce_at ce_434 198 rfl) g7 (by decide) (fun h10 => ?_) (fun h10 => ?_)
            · refine e_mv 413 em_434 (ce_at ce_434 201 rfl) rfl rfl ?_
              refine e_bip 415 em_434 (ce_at ce_434 202 rfl) (by decide) rfl ?_
              refine e_cmne 423 418 em_434 rfl rfl (ce_at ce_434 203 rfl) g7 (by decide) (fun h11 => ?_) (fun h11 => ?_)
              · refine e_op 424 em_434 (ce_at ce_434 206 rfl) rfl rfl ?_
                refine e_pk [2, 3, 4, 5, 6] rfl rfl ?_
                exact tm_compOf_424 w d hd _ _ _ _ _ _ _
              · refine e_bip 420 em_434 (ce_at ce_434 204 rfl) (by decide) rfl ?_
                refine e_goto em_434 424 (ce_at ce_434 205 rfl) rfl ?_
                refine e_pk [2, 3, 4, 5, 6] rfl rfl ?_
                exact tm_compOf_424 w d hd _ _ _ _ _ _ _
            · refine e_op 408 em_434 (ce_at ce_434 199 rfl) rfl rfl ?_
              refine e_goto em_434 424 (ce_at ce_434 200 rfl) rfl ?_
              refine e_pk [2, 3, 4, 5, 6] rfl rfl ?_
              exact tm_compOf_424 w d hd _ _ _ _ _ _ _
          · refine e_bip 397 em_434 (ce_at ce_434 194 rfl) (by decide) rfl ?_
            refine e_goto em_434 424 (ce_at ce_434 195 rfl) rfl ?_
            refine e_pk [2, 3, 4, 5, 6] rfl rfl ?_
            exact tm_compOf_424 w d hd _ _ _ _ _ _ _
        · refine e_op 385 em_434 (ce_at ce_434 189 rfl) rfl rfl ?_
          refine e_goto em_434 424 (ce_at ce_434 190 rfl) rfl ?_
          refine e_pk [2, 3, 4, 5, 6] rfl rfl ?_
          exact tm_compOf_424 w d hd _ _ _ _ _ _ _
theorem fm_compOf_359 (v2 : Int) (v3 : Int) (v4 : Int) (v5 : Int) (v6 : Int) (v7 : Int) (s : iS) : Fm Prod.snd L_m_compOf G_m_compOf s (m_compOf_359 v2 v3 v4 v5 v6 v7 s) := fm_gd (fm_if (fm_gd (fm_if (fm_gd (fm_if (fm_gd (fm_if (fm_compOf_424 _ _ _ _ _ _ _) (fm_if (fm_compOf_424 _ _ _ _ _ _ _) (fm_if (fm_compOf_424 _ _ _ _ _ _ _) (fm_if (fm_compOf_424 _ _ _ _ _ _ _) (fm_compOf_424 _ _ _ _ _ _ _)))))) (fm_compOf_426 _ _ _ _ _ _ _))) (fm_compOf_426 _ _ _ _ _ _ _))) (fm_compOf_426 _ _ _ _ _ _ _))
noncomputable def m_compOf_357 (v2 : Int) (v3 : Int) (v4 : Int) (v5 : Int) (v6 : Int) (t0 : Int) (s : iS) : Option (Int × iS) := m_compOf_359 v2 v3 v4 v5 v6 t0 s
theorem tm_compOf_357 (w : ev_W) (d : Nat) (hd : 0 ≤ d) (v2 : Int) (v3 : Int) (v4 : Int) (v5 : Int) (v6 : Int) (t0 : Int) (s : iS) : Ew hT w d 434 357 [(2, iv v2), (3, iv v3), (4, iv v4), (5, iv v5), (6, iv v6)] [iv t0] s (Ci hT) (m_compOf_357 v2 v3 v4 v5 v6 t0 s) := by
  unfold m_compOf_357
  refine e_mv 359 em_434 (ce_at ce_434 176 rfl) rfl rfl ?_
  refine e_pk [2, 3, 4, 5, 6, 7] rfl rfl ?_
  exact tm_compOf_359 w d hd _ _ _ _ _ _ _
theorem fm_compOf_357 (v2 : Int) (v3 : Int) (v4 : Int) (v5 : Int) (v6 : Int) (t0 : Int) (s : iS) : Fm Prod.snd L_m_compOf G_m_compOf s (m_compOf_357 v2 v3 v4 v5 v6 t0 s) := fm_compOf_359 _ _ _ _ _ _ _
noncomputable def m_compOf_314 (v2 : Int) (v3 : Int) (v4 : Int) (v5 : Int) (v6 : Int) (v7 : Int) (s : iS) : Option (Int × iS) := gd (rg v2) (if v2 = 3 then gd (rg v3) (if v3 = 65 then gd (rg v5) (if v5 = 49 then gd (rg v4) (if v4 = 43 then m_compOf_357 v2 v3 v4 v5 v6 55 s else if v4 = 45 then m_compOf_357 v2 v3 v4 v5 v6 50 s else m_compOf_357 v2 v3 v4 v5 v6 (-1) s) else m_compOf_359 v2 v3 v4 v5 v6 v7 s) else m_compOf_359 v2 v3 v4 v5 v6 v7 s) else m_compOf_359 v2 v3 v4 v5 v6 v7 s)
theorem tm_compOf_314 (w : ev_W) (d : Nat) (hd : 0 ≤ d) (v2 : Int) (v3 : Int) (v4 : Int) (v5 : Int) (v6 : Int) (v7 : Int) (s : iS) : Ew hT w d 434 314 [(2, iv v2), (3, iv v3), (4, iv v4), (5, iv v5), (6, iv v6), (7, iv v7)] [] s (Ci hT) (m_compOf_314 v2 v3 v4 v5 v6 v7 s) := by
  unfold m_compOf_314
  refine e_mv 315 em_434 (ce_at ce_434 156 rfl) rfl rfl ?_
  refine e_op 316 em_434 (ce_at ce_434 157 rfl) rfl rfl ?_
  refine e_gd fun g1 => ?_
  refine e_cmne 359 319 em_434 rfl rfl (ce_at ce_434 158 rfl) g1 (by decide) (fun h2 => ?_) (fun h2 => ?_)
  · refine e_pk [2, 3, 4, 5, 6, 7] rfl rfl ?_
    exact tm_compOf_359 w d hd _ _ _ _ _ _ _
  · refine e_mv 320 em_434 (ce_at ce_434 159 rfl) rfl rfl ?_
    refine e_bip 322 em_434 (ce_at ce_434 160 rfl) (by decide) rfl ?_
    refine e_gd fun g3 => ?_
    refine e_cmne 359 325 em_434 rfl rfl (ce_at ce_434 161 rfl) g3 (by decide) (fun h4 => ?_) (fun h4 => ?_)
    · refine e_pk [2, 3, 4, 5, 6, 7] rfl rfl ?_
      exact tm_compOf_359 w d hd _ _ _ _ _ _ _
    · refine e_mv 327 em_434 (ce_at ce_434 162 rfl) rfl rfl ?_
      refine e_bip 329 em_434 (ce_at ce_434 163 rfl) (by decide) rfl ?_
      refine e_gd fun g5 => ?_
      refine e_cmne 359 332 em_434 rfl rfl (ce_at ce_434 164 rfl) g5 (by decide) (fun h6 => ?_) (fun h6 => ?_)
      · refine e_pk [2, 3, 4, 5, 6, 7] rfl rfl ?_
        exact tm_compOf_359 w d hd _ _ _ _ _ _ _
      · refine e_mv 334 em_434 (ce_at ce_434 165 rfl) rfl rfl ?_
        refine e_bip 336 em_434 (ce_at ce_434 166 rfl) (by decide) rfl ?_
        refine e_gd fun g7 => ?_
        refine e_cmne 344 339 em_434 rfl rfl (ce_at ce_434 167 rfl) g7 (by decide) (fun h8 => ?_) (fun h8 => ?_)
        · refine e_mv 346 em_434 (ce_at ce_434 170 rfl) rfl rfl ?_
          refine e_bip 348 em_434 (ce_at ce_434 171 rfl) (by decide) rfl ?_
          refine e_cmne 356 351 em_434 rfl rfl (ce_at ce_434 172 rfl) g7 (by decide) (fun h9 => ?_) (fun h9 => ?_)
          · refine e_op 357 em_434 (ce_at ce_434 175 rfl) rfl rfl ?_
            refine e_pk [2, 3, 4, 5, 6] rfl rfl ?_
            exact tm_compOf_357 w d hd _ _ _ _ _ _ _
          · refine e_bip 353 em_434 (ce_at ce_434 173 rfl) (by decide) rfl ?_
            refine e_goto em_434 357 (ce_at ce_434 174 rfl) rfl ?_
            refine e_pk [2, 3, 4, 5, 6] rfl rfl ?_
            exact tm_compOf_357 w d hd _ _ _ _ _ _ _
        · refine e_bip 341 em_434 (ce_at ce_434 168 rfl) (by decide) rfl ?_
          refine e_goto em_434 357 (ce_at ce_434 169 rfl) rfl ?_
          refine e_pk [2, 3, 4, 5, 6] rfl rfl ?_
          exact tm_compOf_357 w d hd _ _ _ _ _ _ _
theorem fm_compOf_314 (v2 : Int) (v3 : Int) (v4 : Int) (v5 : Int) (v6 : Int) (v7 : Int) (s : iS) : Fm Prod.snd L_m_compOf G_m_compOf s (m_compOf_314 v2 v3 v4 v5 v6 v7 s) := fm_gd (fm_if (fm_gd (fm_if (fm_gd (fm_if (fm_gd (fm_if (fm_compOf_357 _ _ _ _ _ _ _) (fm_if (fm_compOf_357 _ _ _ _ _ _ _) (fm_compOf_357 _ _ _ _ _ _ _)))) (fm_compOf_359 _ _ _ _ _ _ _))) (fm_compOf_359 _ _ _ _ _ _ _))) (fm_compOf_359 _ _ _ _ _ _ _))
noncomputable def m_compOf_312 (v2 : Int) (v3 : Int) (v4 : Int) (v5 : Int) (v6 : Int) (t0 : Int) (s : iS) : Option (Int × iS) := m_compOf_314 v2 v3 v4 v5 v6 t0 s
theorem tm_compOf_312 (w : ev_W) (d : Nat) (hd : 0 ≤ d) (v2 : Int) (v3 : Int) (v4 : Int) (v5 : Int) (v6 : Int) (t0 : Int) (s : iS) : Ew hT w d 434 312 [(2, iv v2), (3, iv v3), (4, iv v4), (5, iv v5), (6, iv v6)] [iv t0] s (Ci hT) (m_compOf_312 v2 v3 v4 v5 v6 t0 s) := by
  unfold m_compOf_312
  refine e_mv 314 em_434 (ce_at ce_434 155 rfl) rfl rfl ?_
  refine e_pk [2, 3, 4, 5, 6, 7] rfl rfl ?_
  exact tm_compOf_314 w d hd _ _ _ _ _ _ _
theorem fm_compOf_312 (v2 : Int) (v3 : Int) (v4 : Int) (v5 : Int) (v6 : Int) (t0 : Int) (s : iS) : Fm Prod.snd L_m_compOf G_m_compOf s (m_compOf_312 v2 v3 v4 v5 v6 t0 s) := fm_compOf_314 _ _ _ _ _ _ _
noncomputable def m_compOf_269 (v2 : Int) (v3 : Int) (v4 : Int) (v5 : Int) (v6 : Int) (v7 : Int) (s : iS) : Option (Int × iS) := gd (rg v2) (if v2 = 3 then gd (rg v3) (if v3 = 68 then gd (rg v5) (if v5 = 49 then gd (rg v4) (if v4 = 43 then m_compOf_312 v2 v3 v4 v5 v6 31 s else if v4 = 45 then m_compOf_312 v2 v3 v4 v5 v6 14 s else m_compOf_312 v2 v3 v4 v5 v6 (-1) s) else m_compOf_314 v2 v3 v4 v5 v6 v7 s) else m_compOf_314 v2 v3 v4 v5 v6 v7 s) else m_compOf_314 v2 v3 v4 v5 v6 v7 s)
theorem tm_compOf_269 (w : ev_W) (d : Nat) (hd : 0 ≤ d) (v2 : Int) (v3 : Int) (v4 : Int) (v5 : Int) (v6 : Int) (v7 : Int) (s : iS) : Ew hT w d 434 269 [(2, iv v2), (3, iv v3), (4, iv v4), (5, iv v5), (6, iv v6), (7, iv v7)] [] s (Ci hT) (m_compOf_269 v2 v3 v4 v5 v6 v7 s) := by
  unfold m_compOf_269
  refine e_mv 270 em_434 (ce_at ce_434 135 rfl) rfl rfl ?_
  refine e_op 271 em_434 (ce_at ce_434 136 rfl) rfl rfl ?_
  refine e_gd fun g1 => ?_
  refine e_cmne 314 274 em_434 rfl rfl (ce_at ce_434 137 rfl) g1 (by decide) (fun h2 => ?_) (fun h2 => ?_)
  · refine e_pk [2, 3, 4, 5, 6, 7] rfl rfl ?_
    exact tm_compOf_314 w d hd _ _ _ _ _ _ _
  · refine e_mv 275 em_434 (ce_at ce_434 138 rfl) rfl rfl ?_
    refine e_bip 277 em_434 (ce_at ce_434 139 rfl) (by decide) rfl ?_
    refine e_gd fun g3 => ?_
    refine e_cmne 314 280 em_434 rfl rfl (ce_at ce_434 140 rfl) g3 (by decide) (fun h4 => ?_) (fun h4 => ?_)
    · refine e_pk [2, 3, 4, 5, 6, 7] rfl rfl ?_
      exact tm_compOf_314 w d hd _ _ _ _ _ _ _
    · refine e_mv 282 em_434 (ce_at ce_434 141 rfl) rfl rfl ?_
      refine e_bip 284 em_434 (ce_at ce_434 142 rfl) (by decide) rfl ?_
      refine e_gd fun g5 => ?_
      refine e_cmne 314 287 em_434 rfl rfl (ce_at ce_434 143 rfl) g5 (by decide) (fun h6 => ?_) (fun h6 => ?_)
      · refine e_pk [2, 3, 4, 5, 6, 7] rfl rfl ?_
        exact tm_compOf_314 w d hd _ _ _ _ _ _ _
      · refine e_mv 289 em_434 (ce_at ce_434 144 rfl) rfl rfl ?_
        refine e_bip 291 em_434 (ce_at ce_434 145 rfl) (by decide) rfl ?_
        refine e_gd fun g7 => ?_
        refine e_cmne 299 294 em_434 rfl rfl (ce_at ce_434 146 rfl) g7 (by decide) (fun h8 => ?_) (fun h8 => ?_)
        · refine e_mv 301 em_434 (ce_at ce_434 149 rfl) rfl rfl ?_
          refine e_bip 303 em_434 (ce_at ce_434 150 rfl) (by decide) rfl ?_
          refine e_cmne 311 306 em_434 rfl rfl (ce_at ce_434 151 rfl) g7 (by decide) (fun h9 => ?_) (fun h9 => ?_)
          · refine e_op 312 em_434 (ce_at ce_434 154 rfl) rfl rfl ?_
            refine e_pk [2, 3, 4, 5, 6] rfl rfl ?_
            exact tm_compOf_312 w d hd _ _ _ _ _ _ _
          · refine e_bip 308 em_434 (ce_at ce_434 152 rfl) (by decide) rfl ?_
            refine e_goto em_434 312 (ce_at ce_434 153 rfl) rfl ?_
            refine e_pk [2, 3, 4, 5, 6] rfl rfl ?_
            exact tm_compOf_312 w d hd _ _ _ _ _ _ _
        · refine e_bip 296 em_434 (ce_at ce_434 147 rfl) (by decide) rfl ?_
          refine e_goto em_434 312 (ce_at ce_434 148 rfl) rfl ?_
          refine e_pk [2, 3, 4, 5, 6] rfl rfl ?_
          exact tm_compOf_312 w d hd _ _ _ _ _ _ _
theorem fm_compOf_269 (v2 : Int) (v3 : Int) (v4 : Int) (v5 : Int) (v6 : Int) (v7 : Int) (s : iS) : Fm Prod.snd L_m_compOf G_m_compOf s (m_compOf_269 v2 v3 v4 v5 v6 v7 s) := fm_gd (fm_if (fm_gd (fm_if (fm_gd (fm_if (fm_gd (fm_if (fm_compOf_312 _ _ _ _ _ _ _) (fm_if (fm_compOf_312 _ _ _ _ _ _ _) (fm_compOf_312 _ _ _ _ _ _ _)))) (fm_compOf_314 _ _ _ _ _ _ _))) (fm_compOf_314 _ _ _ _ _ _ _))) (fm_compOf_314 _ _ _ _ _ _ _))
noncomputable def m_compOf_267 (v2 : Int) (v3 : Int) (v4 : Int) (v5 : Int) (v6 : Int) (t0 : Int) (s : iS) : Option (Int × iS) := m_compOf_269 v2 v3 v4 v5 v6 t0 s
theorem tm_compOf_267 (w : ev_W) (d : Nat) (hd : 0 ≤ d) (v2 : Int) (v3 : Int) (v4 : Int) (v5 : Int) (v6 : Int) (t0 : Int) (s : iS) : Ew hT w d 434 267 [(2, iv v2), (3, iv v3), (4, iv v4), (5, iv v5), (6, iv v6)] [iv t0] s (Ci hT) (m_compOf_267 v2 v3 v4 v5 v6 t0 s) := by
  unfold m_compOf_267
  refine e_mv 269 em_434 (ce_at ce_434 134 rfl) rfl rfl ?_
  refine e_pk [2, 3, 4, 5, 6, 7] rfl rfl ?_
  exact tm_compOf_269 w d hd _ _ _ _ _ _ _
theorem fm_compOf_267 (v2 : Int) (v3 : Int) (v4 : Int) (v5 : Int) (v6 : Int) (t0 : Int) (s : iS) : Fm Prod.snd L_m_compOf G_m_compOf s (m_compOf_267 v2 v3 v4 v5 v6 t0 s) := fm_compOf_269 _ _ _ _ _ _ _
noncomputable def m_compOf_231 (v2 : Int) (v3 : Int) (v4 : Int) (v5 : Int) (v6 : Int) (v7 : Int) (s : iS) : Option (Int × iS) := gd (rg v2) (if v2 = 2 then gd (rg v3) (if v3 = 33 then gd (rg v4) (if v4 = 68 then m_compOf_267 v2 v3 v4 v5 v6 13 s else if v4 = 65 then m_compOf_267 v2 v3 v4 v5 v6 49 s else m_compOf_267 v2 v3 v4 v5 v6 (-1) s) else m_compOf_269 v2 v3 v4 v5 v6 v7 s) else m_compOf_269 v2 v3 v4 v5 v6 v7 s)
theorem tm_compOf_231 (w : ev_W) (d : Nat) (hd : 0 ≤ d) (v2 : Int) (v3 : Int) (v4 : Int) (v5 : Int) (v6 : Int) (v7 : Int) (s : iS) : Ew hT w d 434 231 [(2, iv v2), (3, iv v3), (4, iv v4), (5, iv v5), (6, iv v6), (7, iv v7)] [] s (Ci hT) (m_compOf_231 v2 v3 v4 v5 v6 v7 s) := by
  unfold m_compOf_231
  refine e_mv 232 em_434 (ce_at ce_434 117 rfl) rfl rfl ?_
  refine e_op 233 em_434 (ce_at ce_434 118 rfl) rfl rfl ?_
  refine e_gd fun g1 => ?_
  refine e_cmne 269 236 em_434 rfl rfl (ce_at ce_434 119 rfl) g1 (by decide) (fun h2 => ?_) (fun h2 => ?_)
  · refine e_pk [2, 3, 4, 5, 6, 7] rfl rfl ?_
    exact tm_compOf_269 w d hd _ _ _ _ _ _ _
  · refine e_mv 237 em_434 (ce_at ce_434 120 rfl) rfl rfl ?_
    refine e_bip 239 em_434 (ce_at ce_434 121 rfl) (by decide) rfl ?_
    refine e_gd fun g3 => ?_
    refine e_cmne 269 242 em_434 rfl rfl (ce_at ce_434 122 rfl) g3 (by decide) (fun h4 => ?_) (fun h4 => ?_)
    · refine e_pk [2, 3, 4, 5, 6, 7] rfl rfl ?_
      exact tm_compOf_269 w d hd _ _ _ _ _ _ _
    · refine e_mv 244 em_434 (ce_at ce_434 123 rfl) rfl rfl ?_
      refine e_bip 246 em_434 (ce_at ce_434 124 rfl) (by decide) rfl ?_
      refine e_gd fun g5 => ?_
      refine e_cmne 254 249 em_434 rfl rfl (ce_at ce_434 125 rfl) g5 (by decide) (fun h6 => ?_) (fun h6 => ?_)
      · refine e_mv 256 em_434 (ce_at ce_434 128 rfl) rfl rfl ?_
        refine e_bip 258 em_434 (ce_at ce_434 129 rfl) (by decide) rfl ?_
        refine e_cmne 266 261 em_434 rfl rfl (ce_at ce_434 130 rfl) g5 (by decide) (fun h7 => ?_) (fun h7 => ?_)
        · refine e_op 267 em_434 (ce_at ce_434 133 rfl) rfl rfl ?_
          refine e_pk [2, 3, 4, 5, 6] rfl rfl ?_
          exact tm_compOf_267 w d hd _ _ _ _ _ _ _
        · refine e_bip 263 em_434 (ce_at ce_434 131 rfl) (by decide) rfl ?_
          refine e_goto em_434 267 (ce_at ce_434 132 rfl) rfl ?_
          refine e_pk [2, 3, 4, 5, 6] rfl rfl ?_
          exact tm_compOf_267 w d hd _ _ _ _ _ _ _
      · refine e_bip 251 em_434 (ce_at ce_434 126 rfl) (by decide) rfl ?_
        refine e_goto em_434 267 (ce_at ce_434 127 rfl) rfl ?_
        refine e_pk [2, 3, 4, 5, 6] rfl rfl ?_
        exact tm_compOf_267 w d hd _ _ _ _ _ _ _
theorem fm_compOf_231 (v2 : Int) (v3 : Int) (v4 : Int) (v5 : Int) (v6 : Int) (v7 : Int) (s : iS) : Fm Prod.snd L_m_compOf G_m_compOf s (m_compOf_231 v2 v3 v4 v5 v6 v7 s) := fm_gd (fm_if (fm_gd (fm_if (fm_gd (fm_if (fm_compOf_267 _ _ _ _ _ _ _) (fm_if (fm_compOf_267 _ _ _ _ _ _ _) (fm_compOf_267 _ _ _ _ _ _ _)))) (fm_compOf_269 _ _ _ _ _ _ _))) (fm_compOf_269 _ _ _ _ _ _ _))
noncomputable def m_compOf_229 (v2 : Int) (v3 : Int) (v4 : Int) (v5 : Int) (v6 : Int) (t0 : Int) (s : iS) : Option (Int × iS) := m_compOf_231 v2 v3 v4 v5 v6 t0 s
theorem tm_compOf_229 (w : ev_W) (d : Nat) (hd : 0 ≤ d) (v2 : Int) (v3 : Int) (v4 : Int) (v5 : Int) (v6 : Int) (t0 : Int) (s : iS) : Ew hT w d 434 229 [(2, iv v2), (3, iv v3), (4, iv v4), (5, iv v5), (6, iv v6)] [iv t0] s (Ci hT) (m_compOf_229 v2 v3 v4 v5 v6 t0 s) := by
  unfold m_compOf_229
  refine e_mv 231 em_434 (ce_at ce_434 116 rfl) rfl rfl ?_
  refine e_pk [2, 3, 4, 5, 6, 7] rfl rfl ?_
  exact tm_compOf_231 w d hd _ _ _ _ _ _ _
theorem fm_compOf_229 (v2 : Int) (v3 : Int) (v4 : Int) (v5 : Int) (v6 : Int) (t0 : Int) (s : iS) : Fm Prod.snd L_m_compOf G_m_compOf s (m_compOf_229 v2 v3 v4 v5 v6 t0 s) := fm_compOf_231 _ _ _ _ _ _ _
noncomputable def m_compOf_181 (v2 : Int) (v3 : Int) (v4 : Int) (v5 : Int) (v6 : Int) (v7 : Int) (s : iS) : Option (Int × iS) := gd (rg v2) (if v2 = 2 then gd (rg v3) (if v3 = 45 then gd (rg v4) (if v4 = 49 then m_compOf_229 v2 v3 v4 v5 v6 58 s else if v4 = 68 then m_compOf_229 v2 v3 v4 v5 v6 15 s else if v4 = 65 then m_compOf_229 v2 v3 v4 v5 v6 51 s else m_compOf_229 v2 v3 v4 v5 v6 (-1) s) else m_compOf_231 v2 v3 v4 v5 v6 v7 s) else m_compOf_231 v2 v3 v4 v5 v6 v7 s)
theorem tm_compOf_181 (w : ev_W) (d : Nat) (hd : 0 ≤ d) (v2 : Int) (v3 : Int) (v4 : Int) (v5 : Int) (v6 : Int) (v7 : Int) (s : iS) : Ew hT w d 434 181 [(2, iv v2), (3, iv v3), (4, iv v4), (5, iv v5), (6, iv v6), (7, iv v7)] [] s (Ci hT) (m_compOf_181 v2 v3 v4 v5 v6 v7 s) := by
  unfold m_compOf_181
  refine e_mv 182 em_434 (ce_at ce_434 94 rfl) rfl rfl ?_
  refine e_op 183 em_434 (ce_at ce_434 95 rfl) rfl rfl ?_
  refine e_gd fun g1 => ?_
  refine e_cmne 231 186 em_434 rfl rfl (ce_at ce_434 96 rfl) g1 (by decide) (fun h2 => ?_) (fun h2 => ?_)
  · refine e_pk [2, 3, 4, 5, 6, 7] rfl rfl ?_
    exact tm_compOf_231 w d hd _ _ _ _ _ _ _
  · refine e_mv 187 em_434 (ce_at ce_434 97 rfl) rfl rfl ?_
    refine e_bip 189 em_434 (ce_at ce_434 98 rfl) (by decide) rfl ?_
    refine e_gd fun g3 => ?_
    refine e_cmne 231 192 em_434 rfl rfl (ce_at ce_434 99 rfl) g3 (by decide) (fun h4 => ?_) (fun h4 => ?_)
    · refine e_pk [2, 3, 4, 5, 6, 7] rfl rfl ?_
      exact tm_compOf_231 w d hd _ _ _ _ _ _ _
    · refine e_mv 194 em_434 (ce_at ce_434 100 rfl) rfl rfl ?_
      refine e_bip 196 em_434 (ce_at ce_434 101 rfl) (by decide) rfl ?_
      refine e_gd fun g5 => ?_
      refine e_cmne 204 199 em_434 rfl rfl (ce_at ce_434 102 rfl) g5 (by decide) (fun h6 => ?_) (fun h6 => ?_)
      · refine e_mv 206 em_434 (ce_at ce_434 105 rfl) rfl rfl ?_
        refine e_bip 208 em_434 (ce_at ce_434 106 rfl) (by decide) rfl ?_
        refine e_cmne 216 211 em_434 rfl rfl (ce_at ce_434 107 rfl) g5 (by decide) (fun h7 => ?_) (fun h7 => ?_)
        · refine e_mv 218 em_434 (ce_at ce_434 110 rfl) rfl rfl ?_
          refine e_bip 220 em_434 (ce_at ce_434 111 rfl) (by decide) rfl ?_
          refine e_cmne 228 223 em_434 rfl rfl (ce_at ce_434 112 rfl) g5 (by decide) (fun h8 => ?_) (fun h8 => ?_)
          · refine e_op 229 em_434 (ce_at ce_434 115 rfl) rfl rfl ?_
            refine e_pk [2, 3, 4, 5, 6] rfl rfl ?_
            exact tm_compOf_229 w d hd _ _ _ _ _ _ _
          · refine e_bip 225 em_434 (ce_at ce_434 113 rfl) (by decide) rfl ?_
            refine e_goto em_434 229 (ce_at ce_434 114 rfl) rfl ?_
            refine e_pk [2, 3, 4, 5, 6] rfl rfl ?_
            exact tm_compOf_229 w d hd _ _ _ _ _ _ _
        · refine e_bip 213 em_434 (ce_at ce_434 108 rfl) (by decide) rfl ?_
          refine e_goto em_434 229 (ce_at ce_434 109 rfl) rfl ?_
          refine e_pk [2, 3, 4, 5, 6] rfl rfl ?_
          exact tm_compOf_229 w d hd _ _ _ _ _ _ _
      · refine e_bip 201 em_434 (ce_at ce_434 103 rfl) (by decide) rfl ?_
        refine e_goto em_434 229 (ce_at ce_434 104 rfl) rfl ?_
        refine e_pk [2, 3, 4, 5, 6] rfl rfl ?_
        exact tm_compOf_229 w d hd _ _ _ _ _ _ _
theorem fm_compOf_181 (v2 : Int) (v3 : Int) (v4 : Int) (v5 : Int) (v6 : Int) (v7 : Int) (s : iS) : Fm Prod.snd L_m_compOf G_m_compOf s (m_compOf_181 v2 v3 v4 v5 v6 v7 s) := fm_gd (fm_if (fm_gd (fm_if (fm_gd (fm_if (fm_compOf_229 _ _ _ _ _ _ _) (fm_if (fm_compOf_229 _ _ _ _ _ _ _) (fm_if (fm_compOf_229 _ _ _ _ _ _ _) (fm_compOf_229 _ _ _ _ _ _ _))))) (fm_compOf_231 _ _ _ _ _ _ _))) (fm_compOf_231 _ _ _ _ _ _ _))
noncomputable def m_compOf_179 (v2 : Int) (v3 : Int) (v4 : Int) (v5 : Int) (v6 : Int) (t0 : Int) (s : iS) : Option (Int × iS) := m_compOf_181 v2 v3 v4 v5 v6 t0 s
theorem tm_compOf_179 (w : ev_W) (d : Nat) (hd : 0 ≤ d) (v2 : Int) (v3 : Int) (v4 : Int) (v5 : Int) (v6 : Int) (t0 : Int) (s : iS) : Ew hT w d 434 179 [(2, iv v2), (3, iv v3), (4, iv v4), (5, iv v5), (6, iv v6)] [iv t0] s (Ci hT) (m_compOf_179 v2 v3 v4 v5 v6 t0 s) := by
  unfold m_compOf_179
  refine e_mv 181 em_434 (ce_at ce_434 93 rfl) rfl rfl ?_
  refine e_pk [2, 3, 4, 5, 6, 7] rfl rfl ?_
  exact tm_compOf_181 w d hd _ _ _ _ _ _ _
theorem fm_compOf_179 (v2 : Int) (v3 : Int) (v4 : Int) (v5 : Int) (v6 : Int) (t0 : Int) (s : iS) : Fm Prod.snd L_m_compOf G_m_compOf s (m_compOf_179 v2 v3 v4 v5 v6 t0 s) := fm_compOf_181 _ _ _ _ _ _ _
noncomputable def m_compOf_124 (v2 : Int) (v3 : Int) (v4 : Int) (v6 : Int) (t0 : Int) (s : iS) : Option (Int × iS) := gd (rg v2) (if v2 = 1 then gd (rg v3) (if v3 = 48 then m_compOf_179 v2 v3 v4 t0 v6 42 s else if v3 = 49 then m_compOf_179 v2 v3 v4 t0 v6 63 s else if v3 = 68 then m_compOf_179 v2 v3 v4 t0 v6 12 s else if v3 = 65 then m_compOf_179 v2 v3 v4 t0 v6 48 s else m_compOf_179 v2 v3 v4 t0 v6 (-1) s) else m_compOf_181 v2 v3 v4 t0 v6 (-1) s)
theorem tm_compOf_124 (w : ev_W) (d : Nat) (hd : 0 ≤ d) (v2 : Int) (v3 : Int) (v4 : Int) (v6 : Int) (t0 : Int) (s : iS) : Ew hT w d 434 124 [(2, iv v2), (3, iv v3), (4, iv v4), (6, iv v6)] [iv t0] s (Ci hT) (m_compOf_124 v2 v3 v4 v6 t0 s) := by
  unfold m_compOf_124
  refine e_mv 126 em_434 (ce_at ce_434 66 rfl) rfl rfl ?_
  refine e_op 127 em_434 (ce_at ce_434 67 rfl) rfl rfl ?_
  refine e_mv 129 em_434 (ce_at ce_434 68 rfl) rfl rfl ?_
  refine e_mv 130 em_434 (ce_at ce_434 69 rfl) rfl rfl ?_
  refine e_op 131 em_434 (ce_at ce_434 70 rfl) rfl rfl ?_
  refine e_gd fun g1 => ?_
  refine e_cmne 181 134 em_434 rfl rfl (ce_at ce_434 71 rfl) g1 (by decide) (fun h2 => ?_) (fun h2 => ?_)
  · refine e_pk [2, 3, 4, 5, 6, 7] rfl rfl ?_
    exact tm_compOf_181 w d hd _ _ _ _ _ _ _
  · refine e_mv 135 em_434 (ce_at ce_434 72 rfl) rfl rfl ?_
    refine e_bip 137 em_434 (ce_at ce_434 73 rfl) (by decide) rfl ?_
    refine e_gd fun g3 => ?_
    refine e_cmne 145 140 em_434 rfl rfl (ce_at ce_434 74 rfl) g3 (by decide) (fun h4 => ?_) (fun h4 => ?_)
    · refine e_mv 146 em_434 (ce_at ce_434 77 rfl) rfl rfl ?_
      refine e_bip 148 em_434 (ce_at ce_434 78 rfl) (by decide) rfl ?_
      refine e_cmne 156 151 em_434 rfl rfl (ce_at ce_434 79 rfl) g3 (by decide) (fun h5 => ?_) (fun h5 => ?_)
      · refine e_mv 157 em_434 (ce_at ce_434 82 rfl) rfl rfl ?_
        refine e_bip 159 em_434 (ce_at ce_434 83 rfl) (by decide) rfl ?_
        refine e_cmne 167 162 em_434 rfl rfl (ce_at ce_434 84 rfl) g3 (by decide) (fun h6 => ?_) (fun h6 => ?_)
        · refine e_mv 168 em_434 (ce_at ce_434 87 rfl) rfl rfl ?_
          refine e_bip 170 em_434 (ce_at ce_434 88 rfl) (by decide) rfl ?_
          refine e_cmne 178 173 em_434 rfl rfl (ce_at ce_434 89 rfl) g3 (by decide) (fun h7 => ?_) (fun h7 => ?_)
          · refine e_op 179 em_434 (ce_at ce_434 92 rfl) rfl rfl ?_
            refine e_pk [2, 3, 4, 5, 6] rfl rfl ?_
            exact tm_compOf_179 w d hd _ _ _ _ _ _ _
          · refine e_bip 175 em_434 (ce_at ce_434 90 rfl) (by decide) rfl ?_
            refine e_goto em_434 179 (ce_at ce_434 91 rfl) rfl ?_
            refine e_pk [2, 3, 4, 5, 6] rfl rfl ?_
            exact tm_compOf_179 w d hd _ _ _ _ _ _ _
        · refine e_bip 164 em_434 (ce_at ce_434 85 rfl) (by decide) rfl ?_
          refine e_goto em_434 179 (ce_at ce_434 86 rfl) rfl ?_
          refine e_pk [2, 3, 4, 5, 6] rfl rfl ?_
          exact tm_compOf_179 w d hd _ _ _ _ _ _ _
      · refine e_bip 153 em_434 (ce_at ce_434 80 rfl) (by decide) rfl ?_
        refine e_goto em_434 179 (ce_at ce_434 81 rfl) rfl ?_
        refine e_pk [2, 3, 4, 5, 6] rfl rfl ?_
        exact tm_compOf_179 w d hd _ _ _ _ _ _ _
    · refine e_bip 142 em_434 (ce_at ce_434 75 rfl) (by decide) rfl ?_
      refine e_goto em_434 179 (ce_at ce_434 76 rfl) rfl ?_
      refine e_pk [2, 3, 4, 5, 6] rfl rfl ?_
      exact tm_compOf_179 w d hd _ _ _ _ _ _ _
theorem fm_compOf_124 (v2 : Int) (v3 : Int) (v4 : Int) (v6 : Int) (t0 : Int) (s : iS) : Fm Prod.snd L_m_compOf G_m_compOf s (m_compOf_124 v2 v3 v4 v6 t0 s) := fm_gd (fm_if (fm_gd (fm_if (fm_compOf_179 _ _ _ _ _ _ _) (fm_if (fm_compOf_179 _ _ _ _ _ _ _) (fm_if (fm_compOf_179 _ _ _ _ _ _ _) (fm_if (fm_compOf_179 _ _ _ _ _ _ _) (fm_compOf_179 _ _ _ _ _ _ _)))))) (fm_compOf_181 _ _ _ _ _ _ _))
noncomputable def m_compOf_108 (v2 : Int) (v3 : Int) (v5 : Int) (v6 : Int) (t0 : Int) (s : iS) : Option (Int × iS) := gd (rg v5) (if v5 = 77 then m_compOf_124 v2 v3 t0 v6 65 s else m_compOf_124 v2 v3 t0 v6 v5 s)
theorem tm_compOf_108 (w : ev_W) (d : Nat) (hd : 0 ≤ d) (v2 : Int) (v3 : Int) (v5 : Int) (v6 : Int) (t0 : Int) (s : iS) : Ew hT w d 434 108 [(2, iv v2), (3, iv v3), (5, iv v5), (6, iv v6)] [iv t0] s (Ci hT) (m_compOf_108 v2 v3 v5 v6 t0 s) := by
  unfold m_compOf_108
  refine e_mv 110 em_434 (ce_at ce_434 59 rfl) rfl rfl ?_
  refine e_mv 112 em_434 (ce_at ce_434 60 rfl) rfl rfl ?_
  refine e_bip 114 em_434 (ce_at ce_434 61 rfl) (by decide) rfl ?_
  refine e_gd fun g1 => ?_
  refine e_cmne 122 117 em_434 rfl rfl (ce_at ce_434 62 rfl) g1 (by decide) (fun h2 => ?_) (fun h2 => ?_)
  · refine e_mv 124 em_434 (ce_at ce_434 65 rfl) rfl rfl ?_
    refine e_pk [2, 3, 4, 6] rfl rfl ?_
    exact tm_compOf_124 w d hd _ _ _ _ _ _
  · refine e_bip 119 em_434 (ce_at ce_434 63 rfl) (by decide) rfl ?_
    refine e_goto em_434 124 (ce_at ce_434 64 rfl) rfl ?_
    refine e_pk [2, 3, 4, 6] rfl rfl ?_
    exact tm_compOf_124 w d hd _ _ _ _ _ _
theorem fm_compOf_108 (v2 : Int) (v3 : Int) (v5 : Int) (v6 : Int) (t0 : Int) (s : iS) : Fm Prod.snd L_m_compOf G_m_compOf s (m_compOf_108 v2 v3 v5 v6 t0 s) := fm_gd (fm_if (fm_compOf_124 _ _ _ _ _ _) (fm_compOf_124 _ _ _ _ _ _))
noncomputable def m_compOf_93 (v2 : Int) (v4 : Int) (v5 : Int) (v6 : Int) (t0 : Int) (s : iS) : Option (Int × iS) := gd (rg v4) (if v4 = 77 then m_compOf_108 v2 t0 v5 v6 65 s else m_compOf_108 v2 t0 v5 v6 v4 s)
theorem tm_compOf_93 (w : ev_W) (d : Nat) (hd : 0 ≤ d) (v2 : Int) (v4 : Int) (v5 : Int) (v6 : Int) (t0 : Int) (s : iS) : Ew hT w d 434 93 [(2, iv v2), (4, iv v4), (5, iv v5), (6, iv v6)] [iv t0] s (Ci hT) (m_compOf_93 v2 v4 v5 v6 t0 s) := by
  unfold m_compOf_93
  refine e_mv 94 em_434 (ce_at ce_434 52 rfl) rfl rfl ?_
  refine e_mv 96 em_434 (ce_at ce_434 53 rfl) rfl rfl ?_
  refine e_bip 98 em_434 (ce_at ce_434 54 rfl) (by decide) rfl ?_
  refine e_gd fun g1 => ?_
  refine e_cmne 106 101 em_434 rfl rfl (ce_at ce_434 55 rfl) g1 (by decide) (fun h2 => ?_) (fun h2 => ?_)
  · refine e_mv 108 em_434 (ce_at ce_434 58 rfl) rfl rfl ?_
    refine e_pk [2, 3, 5, 6] rfl rfl ?_
    exact tm_compOf_108 w d hd _ _ _ _ _ _
  · refine e_bip 103 em_434 (ce_at ce_434 56 rfl) (by decide) rfl ?_
    refine e_goto em_434 108 (ce_at ce_434 57 rfl) rfl ?_
    refine e_pk [2, 3, 5, 6] rfl rfl ?_
    exact tm_compOf_108 w d hd _ _ _ _ _ _
theorem fm_compOf_93 (v2 : Int) (v4 : Int) (v5 : Int) (v6 : Int) (t0 : Int) (s : iS) : Fm Prod.snd L_m_compOf G_m_compOf s (m_compOf_93 v2 v4 v5 v6 t0 s) := fm_gd (fm_if (fm_compOf_108 _ _ _ _ _ _) (fm_compOf_108 _ _ _ _ _ _))
noncomputable def m_compOf_79 (v2 : Int) (v3 : Int) (v4 : Int) (v5 : Int) (t0 : Int) (s : iS) : Option (Int × iS) := gd (rg v3) (if v3 = 77 then m_compOf_93 v2 v4 v5 t0 65 s else m_compOf_93 v2 v4 v5 t0 v3 s)
theorem tm_compOf_79 (w : ev_W) (d : Nat) (hd : 0 ≤ d) (v2 : Int) (v3 : Int) (v4 : Int) (v5 : Int) (t0 : Int) (s : iS) : Ew hT w d 434 79 [(2, iv v2), (3, iv v3), (4, iv v4), (5, iv v5)] [iv t0] s (Ci hT) (m_compOf_79 v2 v3 v4 v5 t0 s) := by
  unfold m_compOf_79
  refine e_mv 81 em_434 (ce_at ce_434 45 rfl) rfl rfl ?_
  refine e_mv 82 em_434 (ce_at ce_434 46 rfl) rfl rfl ?_
  refine e_bip 84 em_434 (ce_at ce_434 47 rfl) (by decide) rfl ?_
  refine e_gd fun g1 => ?_
  refine e_cmne 92 87 em_434 rfl rfl (ce_at ce_434 48 rfl) g1 (by decide) (fun h2 => ?_) (fun h2 => ?_)
  · refine e_mv 93 em_434 (ce_at ce_434 51 rfl) rfl rfl ?_
    refine e_pk [2, 4, 5, 6] rfl rfl ?_
    exact tm_compOf_93 w d hd _ _ _ _ _ _
  · refine e_bip 89 em_434 (ce_at ce_434 49 rfl) (by decide) rfl ?_
    refine e_goto em_434 93 (ce_at ce_434 50 rfl) rfl ?_
    refine e_pk [2, 4, 5, 6] rfl rfl ?_
    exact tm_compOf_93 w d hd _ _ _ _ _ _
theorem fm_compOf_79 (v2 : Int) (v3 : Int) (v4 : Int) (v5 : Int) (t0 : Int) (s : iS) : Fm Prod.snd L_m_compOf G_m_compOf s (m_compOf_79 v2 v3 v4 v5 t0 s) := fm_gd (fm_if (fm_compOf_93 _ _ _ _ _ _) (fm_compOf_93 _ _ _ _ _ _))
noncomputable def m_compOf_73 (v2 : Int) (v3 : Int) (v4 : Int) (v5 : Int) (s : iS) : Option (Int × iS) := m_compOf_79 v2 v3 v4 v5 64 s
theorem tm_compOf_73 (w : ev_W) (d : Nat) (hd : 0 ≤ d) (v2 : Int) (v3 : Int) (v4 : Int) (v5 : Int) (s : iS) : Ew hT w d 434 73 [(2, iv v2), (3, iv v3), (4, iv v4), (5, iv v5)] [] s (Ci hT) (m_compOf_73 v2 v3 v4 v5 s) := by
  unfold m_compOf_73
  refine e_bip 75 em_434 (ce_at ce_434 42 rfl) (by decide) rfl ?_
  refine e_goto em_434 79 (ce_at ce_434 43 rfl) rfl ?_
  refine e_pk [2, 3, 4, 5] rfl rfl ?_
  exact tm_compOf_79 w d hd _ _ _ _ _ _
theorem fm_compOf_73 (v2 : Int) (v3 : Int) (v4 : Int) (v5 : Int) (s : iS) : Fm Prod.snd L_m_compOf G_m_compOf s (m_compOf_73 v2 v3 v4 v5 s) := fm_compOf_79 _ _ _ _ _ _
noncomputable def m_compOf_51 (v2 : Int) (v3 : Int) (v4 : Int) (t0 : Int) (s : iS) : Option (Int × iS) := gd (rg v3) (if v3 = 77 then m_compOf_73 v2 v3 v4 t0 s else gd (rg v4) (if v4 = 77 then m_compOf_73 v2 v3 v4 t0 s else gd (rg t0) (if t0 = 77 then m_compOf_73 v2 v3 v4 t0 s else m_compOf_79 v2 v3 v4 t0 0 s)))
theorem tm_compOf_51 (w : ev_W) (d : Nat) (hd : 0 ≤ d) (v2 : Int) (v3 : Int) (v4 : Int) (t0 : Int) (s : iS) : Ew hT w d 434 51 [(2, iv v2), (3, iv v3), (4, iv v4)] [iv t0] s (Ci hT) (m_compOf_51 v2 v3 v4 t0 s) := by
  unfold m_compOf_51
  refine e_mv 53 em_434 (ce_at ce_434 32 rfl) rfl rfl ?_
  refine e_mv 54 em_434 (ce_at ce_434 33 rfl) rfl rfl ?_
  refine e_bip 56 em_434 (ce_at ce_434 34 rfl) (by decide) rfl ?_
  refine e_gd fun g1 => ?_
  refine e_cmeq 73 59 em_434 rfl rfl (ce_at ce_434 35 rfl) g1 (by decide) (fun h2 => ?_) (fun h2 => ?_)
  · refine e_pk [2, 3, 4, 5] rfl rfl ?_
    exact tm_compOf_73 w d hd _ _ _ _ _
  · refine e_mv 61 em_434 (ce_at ce_434 36 rfl) rfl rfl ?_
    refine e_bip 63 em_434 (ce_at ce_434 37 rfl) (by decide) rfl ?_
    refine e_gd fun g3 => ?_
    refine e_cmeq 73 66 em_434 rfl rfl (ce_at ce_434 38 rfl) g3 (by decide) (fun h4 => ?_) (fun h4 => ?_)
    · refine e_pk [2, 3, 4, 5] rfl rfl ?_
      exact tm_compOf_73 w d hd _ _ _ _ _
    · refine e_mv 68 em_434 (ce_at ce_434 39 rfl) rfl rfl ?_
      refine e_bip 70 em_434 (ce_at ce_434 40 rfl) (by decide) rfl ?_
      refine e_gd fun g5 => ?_
      refine e_cmne 78 73 em_434 rfl rfl (ce_at ce_434 41 rfl) g5 (by decide) (fun h6 => ?_) (fun h6 => ?_)
      · refine e_op 79 em_434 (ce_at ce_434 44 rfl) rfl rfl ?_
        refine e_pk [2, 3, 4, 5] rfl rfl ?_
        exact tm_compOf_79 w d hd _ _ _ _ _ _
      · refine e_pk [2, 3, 4, 5] rfl rfl ?_
        exact tm_compOf_73 w d hd _ _ _ _ _
theorem fm_compOf_51 (v2 : Int) (v3 : Int) (v4 : Int) (t0 : Int) (s : iS) : Fm Prod.snd L_m_compOf G_m_compOf s (m_compOf_51 v2 v3 v4 t0 s) := fm_gd (fm_if (fm_compOf_73 _ _ _ _ _) (fm_gd (fm_if (fm_compOf_73 _ _ _ _ _) (fm_gd (fm_if (fm_compOf_73 _ _ _ _ _) (fm_compOf_79 _ _ _ _ _ _))))))
noncomputable def m_compOf_32 (v1 : Int) (v2 : Int) (v3 : Int) (t0 : Int) (s : iS) : Option (Int × iS) := gd (rg v2) (if v2 ≤ 2 then m_compOf_51 v2 v3 t0 0 s else gd (0 ≤ (v1 + 2) ∧ (v1 + 2) < 4000) (m_compOf_51 v2 v3 t0 (s 123 (v1 + 2).toNat) s))
theorem tm_compOf_32 (w : ev_W) (d : Nat) (hd : 0 ≤ d) (v1 : Int) (v2 : Int) (v3 : Int) (t0 : Int) (s : iS) : Ew hT w d 434 32 [(0, .ref (tb_nK + 121)), (1, iv v1), (2, iv v2), (3, iv v3)] [iv t0] s (Ci hT) (m_compOf_32 v1 v2 v3 t0 s) := by
  unfold m_compOf_32
  refine e_mv 34 em_434 (ce_at ce_434 20 rfl) rfl rfl ?_
  refine e_mv 35 em_434 (ce_at ce_434 21 rfl) rfl rfl ?_
  refine e_op 36 em_434 (ce_at ce_434 22 rfl) rfl rfl ?_
  refine e_gd fun g1 => ?_
  refine e_cmle 50 39 em_434 rfl rfl (ce_at ce_434 23 rfl) g1 (by decide) (fun h2 => ?_) (fun h2 => ?_)
  · refine e_op 51 em_434 (ce_at ce_434 31 rfl) rfl rfl ?_
    refine e_pk [2, 3, 4] rfl rfl ?_
    exact tm_compOf_51 w d hd _ _ _ _ _
  · refine e_mv 40 em_434 (ce_at ce_434 24 rfl) rfl rfl ?_
    refine e_getr 43 em_434 (ce_at ce_434 25 rfl) tq_121 rfl rfl ?_
    refine e_mv 44 em_434 (ce_at ce_434 26 rfl) rfl rfl ?_
    refine e_op 45 em_434 (ce_at ce_434 27 rfl) rfl rfl ?_
    refine e_iadd 46 em_434 rfl (ce_at ce_434 28 rfl) ?_
    refine e_gd fun g3 => ?_
    refine e_ild 47 em_434 (ce_at ce_434 29 rfl) tq_123 (by decide) g3 rfl ?_
    refine e_goto em_434 51 (ce_at ce_434 30 rfl) rfl ?_
    refine e_pk [2, 3, 4] rfl rfl ?_
    exact tm_compOf_51 w d hd _ _ _ _ _
theorem fm_compOf_32 (v1 : Int) (v2 : Int) (v3 : Int) (t0 : Int) (s : iS) : Fm Prod.snd L_m_compOf G_m_compOf s (m_compOf_32 v1 v2 v3 t0 s) := fm_gd (fm_if (fm_compOf_51 _ _ _ _ _) (fm_gd (fm_compOf_51 _ _ _ _ _)))
noncomputable def m_compOf_14 (v1 : Int) (v2 : Int) (t0 : Int) (s : iS) : Option (Int × iS) := gd (rg v2) (if v2 ≤ 1 then m_compOf_32 v1 v2 t0 0 s else gd (0 ≤ (v1 + 1) ∧ (v1 + 1) < 4000) (m_compOf_32 v1 v2 t0 (s 123 (v1 + 1).toNat) s))
theorem tm_compOf_14 (w : ev_W) (d : Nat) (hd : 0 ≤ d) (v1 : Int) (v2 : Int) (t0 : Int) (s : iS) : Ew hT w d 434 14 [(0, .ref (tb_nK + 121)), (1, iv v1), (2, iv v2)] [iv t0] s (Ci hT) (m_compOf_14 v1 v2 t0 s) := by
  unfold m_compOf_14
  refine e_mv 15 em_434 (ce_at ce_434 8 rfl) rfl rfl ?_
  refine e_mv 16 em_434 (ce_at ce_434 9 rfl) rfl rfl ?_
  refine e_op 17 em_434 (ce_at ce_434 10 rfl) rfl rfl ?_
  refine e_gd fun g1 => ?_
  refine e_cmle 31 20 em_434 rfl rfl (ce_at ce_434 11 rfl) g1 (by decide) (fun h2 => ?_) (fun h2 => ?_)
  · refine e_op 32 em_434 (ce_at ce_434 19 rfl) rfl rfl ?_
    refine e_pk [0, 1, 2, 3] rfl rfl ?_
    exact tm_compOf_32 w d hd _ _ _ _ _
  · refine e_mv 21 em_434 (ce_at ce_434 12 rfl) rfl rfl ?_
    refine e_getr 24 em_434 (ce_at ce_434 13 rfl) tq_121 rfl rfl ?_
    refine e_mv 25 em_434 (ce_at ce_434 14 rfl) rfl rfl ?_
    refine e_op 26 em_434 (ce_at ce_434 15 rfl) rfl rfl ?_
    refine e_iadd 27 em_434 rfl (ce_at ce_434 16 rfl) ?_
    refine e_gd fun g3 => ?_
    refine e_ild 28 em_434 (ce_at ce_434 17 rfl) tq_123 (by decide) g3 rfl ?_
    refine e_goto em_434 32 (ce_at ce_434 18 rfl) rfl ?_
    refine e_pk [0, 1, 2, 3] rfl rfl ?_
    exact tm_compOf_32 w d hd _ _ _ _ _
theorem fm_compOf_14 (v1 : Int) (v2 : Int) (t0 : Int) (s : iS) : Fm Prod.snd L_m_compOf G_m_compOf s (m_compOf_14 v1 v2 t0 s) := fm_gd (fm_if (fm_compOf_32 _ _ _ _ _) (fm_gd (fm_compOf_32 _ _ _ _ _)))
noncomputable def m_compOf (v1 : Int) (v2 : Int) (s : iS) : Option (Int × iS) := gd (rg v2) (if v2 ≤ 0 then m_compOf_14 v1 v2 0 s else gd (0 ≤ v1 ∧ v1 < 4000) (m_compOf_14 v1 v2 (s 123 v1.toNat) s))
theorem tm_compOf (w : ev_W) (d : Nat) (hd : 0 ≤ d) (v1 : Int) (v2 : Int) (s : iS) : Ew hT w d 434 0 [(0, .ref (tb_nK + 121)), (1, iv v1), (2, iv v2)] [] s (Ci hT) (m_compOf v1 v2 s) := by
  unfold m_compOf
  refine e_mv 1 em_434 (ce_at ce_434 0 rfl) rfl rfl ?_
  refine e_gd fun g1 => ?_
  refine e_ifle 13 4 em_434 rfl rfl (ce_at ce_434 1 rfl) g1 (fun h2 => ?_) (fun h2 => ?_)
  · refine e_op 14 em_434 (ce_at ce_434 7 rfl) rfl rfl ?_
    refine e_pk [0, 1, 2] rfl rfl ?_
    exact tm_compOf_14 w d hd _ _ _ _
  · refine e_mv 5 em_434 (ce_at ce_434 2 rfl) rfl rfl ?_
    refine e_getr 8 em_434 (ce_at ce_434 3 rfl) tq_121 rfl rfl ?_
    refine e_mv 9 em_434 (ce_at ce_434 4 rfl) rfl rfl ?_
    refine e_gd fun g3 => ?_
    refine e_ild 10 em_434 (ce_at ce_434 5 rfl) tq_123 (by decide) g3 rfl ?_
    refine e_goto em_434 14 (ce_at ce_434 6 rfl) rfl ?_
    refine e_pk [0, 1, 2] rfl rfl ?_
    exact tm_compOf_14 w d hd _ _ _ _
theorem fm_compOf (v1 : Int) (v2 : Int) (s : iS) : Fm Prod.snd L_m_compOf G_m_compOf s (m_compOf v1 v2 s) := fm_gd (fm_if (fm_compOf_14 _ _ _ _) (fm_gd (fm_compOf_14 _ _ _ _)))
/-! m_computes -/
def L_m_computes : List Nat := [189, 193]
def G_m_computes : List (Nat × Nat) := [(121, 110)]
def m_computes_8C (w : ev_W) (d : Nat) (v1 : Int) (v2 : Int) : (Int × Int × Int × iS) ⊕ (Int × Int × iS) → am_E → Prop := fun q r => q.elim (fun l => ev w d 432 8 ((fun l => [(0, .ref (tb_nK + 121)), (1, iv v1), (2, iv v2), (3, iv (l.1)), (4, iv (l.2.1)), (5, iv (l.2.2.1))]) l) [] (hT ((fun l => l.2.2.2) l)) r) (fun e => (fun e r => ev w d 432 66 [(0, .ref (tb_nK + 121)), (1, iv v1), (2, iv v2), (3, iv (e.1)), (4, iv (e.2.1))] [] (hT (e.2.2)) r) e r)
noncomputable def m_computes_36 (v1 : Int) (v2 : Int) (v3 : Int) (v4 : Int) (v5 : Int) (s : iS) : Option ((Int × Int × Int × iS) ⊕ (Int × Int × iS)) := gd (0 ≤ (v1 + v5) ∧ (v1 + v5) < 4000) (gd (rg (s 123 (v1 + v5).toNat)) (if (s 123 (v1 + v5).toNat) = 59 then gd (rg v4) (if v4 = (-1) then some (.inl (v3, v5, (v5 + 1), s)) else some (.inl (v3, v4, (v5 + 1), s))) else some (.inl (v3, v4, (v5 + 1), s))))
theorem tm_computes_36 (w : ev_W) (d : Nat) (hd : 2 ≤ d) (v1 : Int) (v2 : Int) (v3 : Int) (v4 : Int) (v5 : Int) (s : iS) : Ew hT w d 432 36 [(0, .ref (tb_nK + 121)), (1, iv v1), (2, iv v2), (3, iv v3), (4, iv v4), (5, iv v5)] [] s (m_computes_8C w d v1 v2) (m_computes_36 v1 v2 v3 v4 v5 s) := by
  unfold m_computes_36
  refine e_mv 37 em_432 (ce_at ce_432 22 rfl) rfl rfl ?_
  refine e_getr 40 em_432 (ce_at ce_432 23 rfl) tq_121 rfl rfl ?_
  refine e_mv 41 em_432 (ce_at ce_432 24 rfl) rfl rfl ?_
  refine e_mv 43 em_432 (ce_at ce_432 25 rfl) rfl rfl ?_
  refine e_iadd 44 em_432 rfl (ce_at ce_432 26 rfl) ?_
  refine e_gd fun g1 => ?_
  refine e_ild 45 em_432 (ce_at ce_432 27 rfl) tq_123 (by decide) g1 rfl ?_
  refine e_bip 47 em_432 (ce_at ce_432 28 rfl) (by decide) rfl ?_
  refine e_gd fun g2 => ?_
  refine e_cmne 60 50 em_432 rfl rfl (ce_at ce_432 29 rfl) g2 (by decide) (fun h3 => ?_) (fun h3 => ?_)
  · refine e_iinc 63 em_432 (ce_at ce_432 35 rfl) rfl (by decide) rfl ?_
    refine e_goto em_432 8 (ce_at ce_432 36 rfl) rfl ?_
    refine e_pk [0, 1, 2, 3, 4, 5] rfl rfl ?_
    exact e_out (fun r h => h)
  · refine e_mv 52 em_432 (ce_at ce_432 30 rfl) rfl rfl ?_
    refine e_op 53 em_432 (ce_at ce_432 31 rfl) rfl rfl ?_
    refine e_gd fun g4 => ?_
    refine e_cmne 60 56 em_432 rfl rfl (ce_at ce_432 32 rfl) g4 (by decide) (fun h5 => ?_) (fun h5 => ?_)
    · refine e_iinc 63 em_432 (ce_at ce_432 35 rfl) rfl (by decide) rfl ?_
      refine e_goto em_432 8 (ce_at ce_432 36 rfl) rfl ?_
      refine e_pk [0, 1, 2, 3, 4, 5] rfl rfl ?_
      exact e_out (fun r h => h)
    · refine e_mv 58 em_432 (ce_at ce_432 33 rfl) rfl rfl ?_
      refine e_mv 60 em_432 (ce_at ce_432 34 rfl) rfl rfl ?_
      refine e_iinc 63 em_432 (ce_at ce_432 35 rfl) rfl (by decide) rfl ?_
      refine e_goto em_432 8 (ce_at ce_432 36 rfl) rfl ?_
      refine e_pk [0, 1, 2, 3, 4, 5] rfl rfl ?_
      exact e_out (fun r h => h)
theorem fm_computes_36 (v1 : Int) (v2 : Int) (v3 : Int) (v4 : Int) (v5 : Int) (s : iS) : Fm (fun r : (Int × Int × Int × iS) ⊕ (Int × Int × iS) => r.elim (fun l => l.2.2.2) (fun e => e.2.2)) L_m_computes G_m_computes s (m_computes_36 v1 v2 v3 v4 v5 s) := fm_gd (fm_gd (fm_if (fm_gd (fm_if (fm_some md_refl) (fm_some md_refl))) (fm_some md_refl)))
noncomputable def m_computes_8b (v1 : Int) (v2 : Int) (v3 : Int) (v4 : Int) (v5 : Int) (s : iS) : Option ((Int × Int × Int × iS) ⊕ (Int × Int × iS)) := gd (rg v5) (gd (rg v2) (if v2 ≤ v5 then some (.inr (v3, v4, s)) else gd (0 ≤ (v1 + v5) ∧ (v1 + v5) < 4000) (gd (rg (s 123 (v1 + v5).toNat)) (if (s 123 (v1 + v5).toNat) = 61 then gd (rg v3) (if v3 = (-1) then m_computes_36 v1 v2 v5 v4 v5 s else m_computes_36 v1 v2 v3 v4 v5 s) else m_computes_36 v1 v2 v3 v4 v5 s))))
theorem tm_computes_8b (w : ev_W) (d : Nat) (hd : 2 ≤ d) (v1 : Int) (v2 : Int) (v3 : Int) (v4 : Int) (v5 : Int) (s : iS) : Ew hT w d 432 8 [(0, .ref (tb_nK + 121)), (1, iv v1), (2, iv v2), (3, iv v3), (4, iv v4), (5, iv v5)] [] s (m_computes_8C w d v1 v2) (m_computes_8b v1 v2 v3 v4 v5 s) := by
  unfold m_computes_8b
  refine e_mv 10 em_432 (ce_at ce_432 6 rfl) rfl rfl ?_
  refine e_mv 11 em_432 (ce_at ce_432 7 rfl) rfl rfl ?_
  refine e_gd fun g1 => ?_
  refine e_gd fun g2 => ?_
  refine e_cmge 66 14 em_432 rfl rfl (ce_at ce_432 8 rfl) g1 g2 (fun h3 => ?_) (fun h3 => ?_)
  · refine e_pk [0, 1, 2, 3, 4] rfl rfl ?_
    exact e_out (fun r h => h)
  · refine e_mv 15 em_432 (ce_at ce_432 9 rfl) rfl rfl ?_
    refine e_getr 18 em_432 (ce_at ce_432 10 rfl) tq_121 rfl rfl ?_
    refine e_mv 19 em_432 (ce_at ce_432 11 rfl) rfl rfl ?_
    refine e_mv 21 em_432 (ce_at ce_432 12 rfl) rfl rfl ?_
    refine e_iadd 22 em_432 rfl (ce_at ce_432 13 rfl) ?_
    refine e_gd fun g4 => ?_
    refine e_ild 23 em_432 (ce_at ce_432 14 rfl) tq_123 (by decide) g4 rfl ?_
    refine e_bip 25 em_432 (ce_at ce_432 15 rfl) (by decide) rfl ?_
    refine e_gd fun g5 => ?_
    refine e_cmne 36 28 em_432 rfl rfl (ce_at ce_432 16 rfl) g5 (by decide) (fun h6 => ?_) (fun h6 => ?_)
    · refine e_pk [0, 1, 2, 3, 4, 5] rfl rfl ?_
      exact tm_computes_36 w d hd _ _ _ _ _ _
    · refine e_mv 29 em_432 (ce_at ce_432 17 rfl) rfl rfl ?_
      refine e_op 30 em_432 (ce_at ce_432 18 rfl) rfl rfl ?_
      refine e_gd fun g7 => ?_
      refine e_cmne 36 33 em_432 rfl rfl (ce_at ce_432 19 rfl) g7 (by decide) (fun h8 => ?_) (fun h8 => ?_)
      · refine e_pk [0, 1, 2, 3, 4, 5] rfl rfl ?_
        exact tm_computes_36 w d hd _ _ _ _ _ _
      · refine e_mv 35 em_432 (ce_at ce_432 20 rfl) rfl rfl ?_
        refine e_mv 36 em_432 (ce_at ce_432 21 rfl) rfl rfl ?_
        refine e_pk [0, 1, 2, 3, 4, 5] rfl rfl ?_
        exact tm_computes_36 w d hd _ _ _ _ _ _
theorem fm_computes_8b (v1 : Int) (v2 : Int) (v3 : Int) (v4 : Int) (v5 : Int) (s : iS) : Fm (fun r : (Int × Int × Int × iS) ⊕ (Int × Int × iS) => r.elim (fun l => l.2.2.2) (fun e => e.2.2)) L_m_computes G_m_computes s (m_computes_8b v1 v2 v3 v4 v5 s) := fm_gd (fm_gd (fm_if (fm_some md_refl) (fm_gd (fm_gd (fm_if (fm_gd (fm_if (fm_computes_36 _ _ _ _ _ _) (fm_computes_36 _ _ _ _ _ _))) (fm_computes_36 _ _ _ _ _ _))))))
noncomputable def m_computes_195 (v7 : Int) (v8 : Int) (v9 : Int) (s : iS) : Option (Int × iS) := gd (rg (s 121 110)) (if (s 121 110) = 1500 then some (2, s) else gd (0 ≤ (s 121 110) ∧ (s 121 110) < 2000) (lt' (up s 193 (s 121 110).toNat (-1)) (fun s4 => gd (0 ≤ (s4 121 110) ∧ (s4 121 110) < 2000) (lt' (up s4 189 (s4 121 110).toNat (((57344 + (64 * v8)) + v7) + v9)) (fun s6 => lt' (up s6 121 110 ((s6 121 110) + 1)) (fun s7 => some (0, s7)))))))
theorem tm_computes_195 (w : ev_W) (d : Nat) (hd : 2 ≤ d) (v7 : Int) (v8 : Int) (v9 : Int) (s : iS) : Ew hT w d 432 195 [(0, .ref (tb_nK + 121)), (7, iv v7), (8, iv v8), (9, iv v9)] [] s (Ci hT) (m_computes_195 v7 v8 v9 s) := by
  unfold m_computes_195
  refine e_mv 196 em_432 (ce_at ce_432 114 rfl) rfl rfl ?_
  refine e_get 199 em_432 (ce_at ce_432 115 rfl) tq_121 rfl rfl ?_
  refine e_sip 202 em_432 (ce_at ce_432 116 rfl) (by decide) rfl ?_
  refine e_gd fun g1 => ?_
  refine e_cmne 207 205 em_432 rfl rfl (ce_at ce_432 117 rfl) g1 (by decide) (fun h2 => ?_) (fun h2 => ?_)
  · refine e_mv 208 em_432 (ce_at ce_432 120 rfl) rfl rfl ?_
    refine e_getr 211 em_432 (ce_at ce_432 121 rfl) tq_121 rfl rfl ?_
    refine e_mv 212 em_432 (ce_at ce_432 122 rfl) rfl rfl ?_
    refine e_get 215 em_432 (ce_at ce_432 123 rfl) tq_121 rfl rfl ?_
    refine e_op 216 em_432 (ce_at ce_432 124 rfl) rfl rfl ?_
    refine e_gd fun g3 => ?_
    refine e_ist 217 em_432 (ce_at ce_432 125 rfl) tq_193 (by decide) g3 rfl (fun s4 => ?_)
    refine e_mv 218 em_432 (ce_at ce_432 126 rfl) rfl rfl ?_
    refine e_getr 221 em_432 (ce_at ce_432 127 rfl) tq_121 rfl rfl ?_
    refine e_mv 222 em_432 (ce_at ce_432 128 rfl) rfl rfl ?_
    refine e_get 225 em_432 (ce_at ce_432 129 rfl) tq_121 rfl rfl ?_
    refine e_ldcw 228 em_432 (ce_at ce_432 130 rfl) (x := 57344) rfl rfl ?_
    refine e_bip 230 em_432 (ce_at ce_432 131 rfl) (by decide) rfl ?_
    refine e_mv 232 em_432 (ce_at ce_432 132 rfl) rfl rfl ?_
    refine e_imul 233 em_432 rfl (ce_at ce_432 133 rfl) ?_
    refine e_iadd 234 em_432 rfl (ce_at ce_432 134 rfl) ?_
    refine e_mv 236 em_432 (ce_at ce_432 135 rfl) rfl rfl ?_
    refine e_iadd 237 em_432 rfl (ce_at ce_432 136 rfl) ?_
    refine e_mv 239 em_432 (ce_at ce_432 137 rfl) rfl rfl ?_
    refine e_iadd 240 em_432 rfl (ce_at ce_432 138 rfl) ?_
    refine e_gd fun g5 => ?_
    refine e_ist 241 em_432 (ce_at ce_432 139 rfl) tq_189 (by decide) g5 rfl (fun s6 => ?_)
    refine e_mv 242 em_432 (ce_at ce_432 140 rfl) rfl rfl ?_
    refine e_mv 243 em_432 (ce_at ce_432 141 rfl) rfl rfl ?_
    refine e_get 246 em_432 (ce_at ce_432 142 rfl) tq_121 rfl rfl ?_
    refine e_op 247 em_432 (ce_at ce_432 143 rfl) rfl rfl ?_
    refine e_iadd 248 em_432 rfl (ce_at ce_432 144 rfl) ?_
    refine e_put 251 em_432 (ce_at ce_432 145 rfl) tq_121 rfl rfl rfl (fun s7 => ?_)
    refine e_op 252 em_432 (ce_at ce_432 146 rfl) rfl rfl ?_
    exact e_reti em_432 (ce_at ce_432 147 rfl)
  · refine e_op 206 em_432 (ce_at ce_432 118 rfl) rfl rfl ?_
    exact e_reti em_432 (ce_at ce_432 119 rfl)
theorem fm_computes_195 (v7 : Int) (v8 : Int) (v9 : Int) (s : iS) : Fm Prod.snd L_m_computes G_m_computes s (m_computes_195 v7 v8 v9 s) := fm_gd (fm_if (fm_some md_refl) (fm_gd (fm_lt (md_upL (mem_L rfl)) (fun s4 => fm_gd (fm_lt (md_upL (mem_L rfl)) (fun s6 => fm_lt (md_upF (mem_F rfl)) (fun s7 => fm_some md_refl)))))))
noncomputable def m_computes_157 (v2 : Int) (v4 : Int) (v7 : Int) (v8 : Int) (t0 : Int) (s : iS) : Option (Int × iS) := gd (rg v7) (if v7 = (-1) then some (1, s) else gd (rg v8) (if v8 = (-1) then some (1, s) else gd (rg v4) (if v4 = (-1) then m_computes_195 v7 v8 t0 s else gd (rg t0) (if t0 < 1 then some (1, s) else gd (rg ((v2 - v4) - 1)) (if ((v2 - v4) - 1) = 3 then m_computes_195 v7 v8 t0 s else some (1, s))))))
theorem tm_computes_157 (w : ev_W) (d : Nat) (hd : 2 ≤ d) (v2 : Int) (v4 : Int) (v7 : Int) (v8 : Int) (t0 : Int) (s : iS) : Ew hT w d 432 157 [(0, .ref (tb_nK + 121)), (2, iv v2), (4, iv v4), (7, iv v7), (8, iv v8)] [iv t0] s (Ci hT) (m_computes_157 v2 v4 v7 v8 t0 s) := by
  unfold m_computes_157
  refine e_mv 159 em_432 (ce_at ce_432 92 rfl) rfl rfl ?_
  refine e_mv 161 em_432 (ce_at ce_432 93 rfl) rfl rfl ?_
  refine e_op 162 em_432 (ce_at ce_432 94 rfl) rfl rfl ?_
  refine e_gd fun g1 => ?_
  refine e_cmeq 193 165 em_432 rfl rfl (ce_at ce_432 95 rfl) g1 (by decide) (fun h2 => ?_) (fun h2 => ?_)
  · refine e_op 194 em_432 (ce_at ce_432 112 rfl) rfl rfl ?_
    exact e_reti em_432 (ce_at ce_432 113 rfl)
  · refine e_mv 167 em_432 (ce_at ce_432 96 rfl) rfl rfl ?_
    refine e_op 168 em_432 (ce_at ce_432 97 rfl) rfl rfl ?_
    refine e_gd fun g3 => ?_
    refine e_cmeq 193 171 em_432 rfl rfl (ce_at ce_432 98 rfl) g3 (by decide) (fun h4 => ?_) (fun h4 => ?_)
    · refine e_op 194 em_432 (ce_at ce_432 112 rfl) rfl rfl ?_
      exact e_reti em_432 (ce_at ce_432 113 rfl)
    · refine e_mv 173 em_432 (ce_at ce_432 99 rfl) rfl rfl ?_
      refine e_op 174 em_432 (ce_at ce_432 100 rfl) rfl rfl ?_
      refine e_gd fun g5 => ?_
      refine e_cmeq 195 177 em_432 rfl rfl (ce_at ce_432 101 rfl) g5 (by decide) (fun h6 => ?_) (fun h6 => ?_)
      · refine e_pk [0, 7, 8, 9] rfl rfl ?_
        exact tm_computes_195 w d hd _ _ _ _
      · refine e_mv 179 em_432 (ce_at ce_432 102 rfl) rfl rfl ?_
        refine e_op 180 em_432 (ce_at ce_432 103 rfl) rfl rfl ?_
        refine e_gd fun g7 => ?_
        refine e_cmlt 193 183 em_432 rfl rfl (ce_at ce_432 104 rfl) g7 (by decide) (fun h8 => ?_) (fun h8 => ?_)
        · refine e_op 194 em_432 (ce_at ce_432 112 rfl) rfl rfl ?_
          exact e_reti em_432 (ce_at ce_432 113 rfl)
        · refine e_mv 184 em_432 (ce_at ce_432 105 rfl) rfl rfl ?_
          refine e_mv 186 em_432 (ce_at ce_432 106 rfl) rfl rfl ?_
          refine e_isub 187 em_432 rfl (ce_at ce_432 107 rfl) ?_
          refine e_op 188 em_432 (ce_at ce_432 108 rfl) rfl rfl ?_
          refine e_isub 189 em_432 rfl (ce_at ce_432 109 rfl) ?_
          refine e_op 190 em_432 (ce_at ce_432 110 rfl) rfl rfl ?_
          refine e_gd fun g9 => ?_
          refine e_cmeq 195 193 em_432 rfl rfl (ce_at ce_432 111 rfl) g9 (by decide) (fun h10 => ?_) (fun h10 => ?_)
          · refine e_pk [0, 7, 8, 9] rfl rfl ?_
            exact tm_computes_195 w d hd _ _ _ _
          · refine e_op 194 em_432 (ce_at ce_432 112 rfl) rfl rfl ?_
            exact e_reti em_432 (ce_at ce_432 113 rfl)
theorem fm_computes_157 (v2 : Int) (v4 : Int) (v7 : Int) (v8 : Int) (t0 : Int) (s : iS) : Fm Prod.snd L_m_computes G_m_computes s (m_computes_157 v2 v4 v7 v8 t0 s) := fm_gd (fm_if (fm_some md_refl) (fm_gd (fm_if (fm_some md_refl) (fm_gd (fm_if (fm_computes_195 _ _ _ _) (fm_gd (fm_if (fm_some md_refl) (fm_gd (fm_if (fm_computes_195 _ _ _ _) (fm_some md_refl))))))))))
noncomputable def m_computes_109 (v1 : Int) (v2 : Int) (v4 : Int) (v5 : Int) (v6 : Int) (t0 : Int) (s : iS) : Option (Int × iS) := bd (m_compOf (v1 + v5) (v6 - v5) s) (fun r1 s1 => gd (rg v4) (if v4 = (-1) then m_computes_157 v2 v4 t0 r1 0 s1 else bd (m_wordOf 28 ka_10 ((v1 + v4) + 1) ((v2 - v4) - 1) s1) (fun r4 s4 => m_computes_157 v2 v4 t0 r1 (1 + r4) s4)))
theorem tm_computes_109 (w : ev_W) (d : Nat) (hd : 2 ≤ d) (v1 : Int) (v2 : Int) (v4 : Int) (v5 : Int) (v6 : Int) (t0 : Int) (s : iS) : Ew hT w d 432 109 [(0, .ref (tb_nK + 121)), (1, iv v1), (2, iv v2), (4, iv v4), (5, iv v5), (6, iv v6)] [iv t0] s (Ci hT) (m_computes_109 v1 v2 v4 v5 v6 t0 s) := by
  unfold m_computes_109
  refine e_mv 111 em_432 (ce_at ce_432 62 rfl) rfl rfl ?_
  refine e_mv 112 em_432 (ce_at ce_432 63 rfl) rfl rfl ?_
  refine e_mv 113 em_432 (ce_at ce_432 64 rfl) rfl rfl ?_
  refine e_mv 115 em_432 (ce_at ce_432 65 rfl) rfl rfl ?_
  refine e_iadd 116 em_432 rfl (ce_at ce_432 66 rfl) ?_
  refine e_mv 118 em_432 (ce_at ce_432 67 rfl) rfl rfl ?_
  refine e_mv 120 em_432 (ce_at ce_432 68 rfl) rfl rfl ?_
  refine e_isub 121 em_432 rfl (ce_at ce_432 69 rfl) ?_
  refine e_ivi 124 em_432 (ce_at ce_432 70 rfl) (by omega) (iv_v2 (by decide) tq_121 rfl) em_434 (Nat.le_of_ble_eq_true rfl) rfl (tm_compOf w (d - 1) (by omega) _ _ _) (fun r1 s1 => ?_)
  refine e_mv 126 em_432 (ce_at ce_432 71 rfl) rfl rfl ?_
  refine e_mv 128 em_432 (ce_at ce_432 72 rfl) rfl rfl ?_
  refine e_op 129 em_432 (ce_at ce_432 73 rfl) rfl rfl ?_
  refine e_gd fun g2 => ?_
  refine e_cmne 136 132 em_432 rfl rfl (ce_at ce_432 74 rfl) g2 (by decide) (fun h3 => ?_) (fun h3 => ?_)
  · refine e_op 137 em_432 (ce_at ce_432 77 rfl) rfl rfl ?_
    refine e_mv 138 em_432 (ce_at ce_432 78 rfl) rfl rfl ?_
    refine e_gst 141 em_432 (ce_at ce_432 79 rfl) rfl rfl ?_
    refine e_mv 142 em_432 (ce_at ce_432 80 rfl) rfl rfl ?_
    refine e_mv 144 em_432 (ce_at ce_432 81 rfl) rfl rfl ?_
    refine e_iadd 145 em_432 rfl (ce_at ce_432 82 rfl) ?_
    refine e_op 146 em_432 (ce_at ce_432 83 rfl) rfl rfl ?_
    refine e_iadd 147 em_432 rfl (ce_at ce_432 84 rfl) ?_
    refine e_mv 148 em_432 (ce_at ce_432 85 rfl) rfl rfl ?_
    refine e_mv 150 em_432 (ce_at ce_432 86 rfl) rfl rfl ?_
    refine e_isub 151 em_432 rfl (ce_at ce_432 87 rfl) ?_
    refine e_op 152 em_432 (ce_at ce_432 88 rfl) rfl rfl ?_
    refine e_isub 153 em_432 rfl (ce_at ce_432 89 rfl) ?_
    refine e_ivi 156 em_432 (ce_at ce_432 90 rfl) (by omega) (iv_v3 (by decide) tq_121 rfl) em_309 (Nat.le_of_ble_eq_true rfl) rfl (tm_wordOf w (d - 1) (by omega) 28 ka_10 10 (by decide) (kt_10 _ _) (by decide) _ _ _) (fun r4 s4 => ?_)
    refine e_iadd 157 em_432 rfl (ce_at ce_432 91 rfl) ?_
    refine e_pk [0, 2, 4, 7, 8] rfl rfl ?_
    exact tm_computes_157 w d hd _ _ _ _ _ _
  · refine e_op 133 em_432 (ce_at ce_432 75 rfl) rfl rfl ?_
    refine e_goto em_432 157 (ce_at ce_432 76 rfl) rfl ?_
    refine e_pk [0, 2, 4, 7, 8] rfl rfl ?_
    exact tm_computes_157 w d hd _ _ _ _ _ _
theorem fm_computes_109 (v1 : Int) (v2 : Int) (v4 : Int) (v5 : Int) (v6 : Int) (t0 : Int) (s : iS) : Fm Prod.snd L_m_computes G_m_computes s (m_computes_109 v1 v2 v4 v5 v6 t0 s) := fm_bd (fm_sub (fm_compOf _ _ _) (mem_sub_L rfl) (mem_sub_F rfl)) (fun r1 s1 => fm_gd (fm_if (fm_computes_157 _ _ _ _ _ _) (fm_bd (fm_sub (fm_wordOf 28 ka_10 _ _ _) (mem_sub_L rfl) (mem_sub_F rfl)) (fun r4 s4 => fm_computes_157 _ _ _ _ _ _))))
noncomputable def m_computes_83 (v1 : Int) (v2 : Int) (v3 : Int) (v4 : Int) (v5 : Int) (t0 : Int) (s : iS) : Option (Int × iS) := gd (rg t0) (gd (rg v5) (if v5 ≤ t0 then gd (rg v3) (if v3 = (-1) then m_computes_109 v1 v2 v4 v5 t0 0 s else bd (m_destOf v1 v3 s) (fun r6 s6 => m_computes_109 v1 v2 v4 v5 t0 r6 s6)) else some (1, s)))
theorem tm_computes_83 (w : ev_W) (d : Nat) (hd : 2 ≤ d) (v1 : Int) (v2 : Int) (v3 : Int) (v4 : Int) (v5 : Int) (t0 : Int) (s : iS) : Ew hT w d 432 83 [(0, .ref (tb_nK + 121)), (1, iv v1), (2, iv v2), (3, iv v3), (4, iv v4), (5, iv v5)] [iv t0] s (Ci hT) (m_computes_83 v1 v2 v3 v4 v5 t0 s) := by
  unfold m_computes_83
  refine e_mv 85 em_432 (ce_at ce_432 47 rfl) rfl rfl ?_
  refine e_mv 87 em_432 (ce_at ce_432 48 rfl) rfl rfl ?_
  refine e_mv 89 em_432 (ce_at ce_432 49 rfl) rfl rfl ?_
  refine e_gd fun g1 => ?_
  refine e_gd fun g2 => ?_
  refine e_cmge 94 92 em_432 rfl rfl (ce_at ce_432 50 rfl) g1 g2 (fun h3 => ?_) (fun h3 => ?_)
  · refine e_mv 95 em_432 (ce_at ce_432 53 rfl) rfl rfl ?_
    refine e_op 96 em_432 (ce_at ce_432 54 rfl) rfl rfl ?_
    refine e_gd fun g4 => ?_
    refine e_cmne 103 99 em_432 rfl rfl (ce_at ce_432 55 rfl) g4 (by decide) (fun h5 => ?_) (fun h5 => ?_)
    · refine e_mv 104 em_432 (ce_at ce_432 58 rfl) rfl rfl ?_
      refine e_mv 105 em_432 (ce_at ce_432 59 rfl) rfl rfl ?_
      refine e_mv 106 em_432 (ce_at ce_432 60 rfl) rfl rfl ?_
      refine e_ivi 109 em_432 (ce_at ce_432 61 rfl) (by omega) (iv_v2 (by decide) tq_121 rfl) em_433 (Nat.le_of_ble_eq_true rfl) rfl (tm_destOf w (d - 1) (by omega) _ _ _) (fun r6 s6 => ?_)
      refine e_pk [0, 1, 2, 4, 5, 6] rfl rfl ?_
      exact tm_computes_109 w d hd _ _ _ _ _ _ _
    · refine e_op 100 em_432 (ce_at ce_432 56 rfl) rfl rfl ?_
      refine e_goto em_432 109 (ce_at ce_432 57 rfl) rfl ?_
      refine e_pk [0, 1, 2, 4, 5, 6] rfl rfl ?_
      exact tm_computes_109 w d hd _ _ _ _ _ _ _
  · refine e_op 93 em_432 (ce_at ce_432 51 rfl) rfl rfl ?_
    exact e_reti em_432 (ce_at ce_432 52 rfl)
theorem fm_computes_83 (v1 : Int) (v2 : Int) (v3 : Int) (v4 : Int) (v5 : Int) (t0 : Int) (s : iS) : Fm Prod.snd L_m_computes G_m_computes s (m_computes_83 v1 v2 v3 v4 v5 t0 s) := fm_gd (fm_gd (fm_if (fm_gd (fm_if (fm_computes_109 _ _ _ _ _ _ _) (fm_bd (fm_sub (fm_destOf _ _ _) (mem_sub_L rfl) (mem_sub_F rfl)) (fun r6 s6 => fm_computes_109 _ _ _ _ _ _ _)))) (fm_some md_refl)))
noncomputable def m_computes_66 (v1 : Int) (v2 : Int) (v3 : Int) (v4 : Int) (s : iS) : Option (Int × iS) := gd (rg v4) (if v4 = (-1) then m_computes_83 v1 v2 v3 v4 (v3 + 1) v2 s else m_computes_83 v1 v2 v3 v4 (v3 + 1) v4 s)
theorem tm_computes_66 (w : ev_W) (d : Nat) (hd : 2 ≤ d) (v1 : Int) (v2 : Int) (v3 : Int) (v4 : Int) (s : iS) : Ew hT w d 432 66 [(0, .ref (tb_nK + 121)), (1, iv v1), (2, iv v2), (3, iv v3), (4, iv v4)] [] s (Ci hT) (m_computes_66 v1 v2 v3 v4 s) := by
  unfold m_computes_66
  refine e_mv 67 em_432 (ce_at ce_432 37 rfl) rfl rfl ?_
  refine e_op 68 em_432 (ce_at ce_432 38 rfl) rfl rfl ?_
  refine e_iadd 69 em_432 rfl (ce_at ce_432 39 rfl) ?_
  refine e_mv 71 em_432 (ce_at ce_432 40 rfl) rfl rfl ?_
  refine e_mv 73 em_432 (ce_at ce_432 41 rfl) rfl rfl ?_
  refine e_op 74 em_432 (ce_at ce_432 42 rfl) rfl rfl ?_
  refine e_gd fun g1 => ?_
  refine e_cmne 81 77 em_432 rfl rfl (ce_at ce_432 43 rfl) g1 (by decide) (fun h2 => ?_) (fun h2 => ?_)
  · refine e_mv 83 em_432 (ce_at ce_432 46 rfl) rfl rfl ?_
    refine e_pk [0, 1, 2, 3, 4, 5] rfl rfl ?_
    exact tm_computes_83 w d hd _ _ _ _ _ _ _
  · refine e_mv 78 em_432 (ce_at ce_432 44 rfl) rfl rfl ?_
    refine e_goto em_432 83 (ce_at ce_432 45 rfl) rfl ?_
    refine e_pk [0, 1, 2, 3, 4, 5] rfl rfl ?_
    exact tm_computes_83 w d hd _ _ _ _ _ _ _
theorem fm_computes_66 (v1 : Int) (v2 : Int) (v3 : Int) (v4 : Int) (s : iS) : Fm Prod.snd L_m_computes G_m_computes s (m_computes_66 v1 v2 v3 v4 s) := fm_gd (fm_if (fm_computes_83 _ _ _ _ _ _ _) (fm_computes_83 _ _ _ _ _ _ _))
noncomputable def m_computes_8 (v1 : Int) (v2 : Int) (v3 : Int) (v4 : Int) (v5 : Int) (s : iS) : Option (Int × iS) := (lp (L := Int × Int × Int × iS) (E := Int × Int × iS) (fun l => m_computes_8b v1 v2 (l.1) (l.2.1) (l.2.2.1) (l.2.2.2)) (v3, v4, v5, s)).bind (fun e => m_computes_66 v1 v2 (e.1) (e.2.1) (e.2.2))
theorem tm_computes_8 (w : ev_W) (d : Nat) (hd : 2 ≤ d) (v1 : Int) (v2 : Int) (v3 : Int) (v4 : Int) (v5 : Int) (s : iS) : Ew hT w d 432 8 [(0, .ref (tb_nK + 121)), (1, iv v1), (2, iv v2), (3, iv v3), (4, iv v4), (5, iv v5)] [] s (Ci hT) (m_computes_8 v1 v2 v3 v4 v5 s) := by
  unfold m_computes_8
  refine e_lp (L := Int × Int × Int × iS) (E := Int × Int × iS) (LO := fun l => [(0, .ref (tb_nK + 121)), (1, iv v1), (2, iv v2), (3, iv (l.1)), (4, iv (l.2.1)), (5, iv (l.2.2.1))]) (LS := fun l => l.2.2.2) (CE := fun e r => ev w d 432 66 [(0, .ref (tb_nK + 121)), (1, iv v1), (2, iv v2), (3, iv (e.1)), (4, iv (e.2.1))] [] (hT (e.2.2)) r) (fun l => tm_computes_8b w d hd _ _ _ _ _ _) ?_ (v3, v4, v5, s)
  intro e
  show Ew hT w d 432 66 [(0, .ref (tb_nK + 121)), (1, iv v1), (2, iv v2), (3, iv (e.1)), (4, iv (e.2.1))] [] e.2.2 (Ci hT) _
  refine e_pk [0, 1, 2, 3, 4] rfl rfl ?_
  exact tm_computes_66 w d hd _ _ _ _ _
theorem fm_computes_8 (v1 : Int) (v2 : Int) (v3 : Int) (v4 : Int) (v5 : Int) (s : iS) : Fm Prod.snd L_m_computes G_m_computes s (m_computes_8 v1 v2 v3 v4 v5 s) := by
  unfold m_computes_8
  refine fm_lp (A := Int × Int × Int × iS) (E := Int × Int × iS) (LS := fun l => l.2.2.2) (LE := fun e => e.2.2) ?_ ?_ (v3, v4, v5, s)
  · exact fun l => fm_computes_8b _ _ _ _ _ _
  · exact (fun e => fm_computes_66 _ _ _ _ _)
noncomputable def m_computes (v1 : Int) (v2 : Int) (s : iS) : Option (Int × iS) := m_computes_8 v1 v2 (-1) (-1) 0 s
theorem tm_computes (w : ev_W) (d : Nat) (hd : 2 ≤ d) (v1 : Int) (v2 : Int) (s : iS) : Ew hT w d 432 0 [(0, .ref (tb_nK + 121)), (1, iv v1), (2, iv v2)] [] s (Ci hT) (m_computes v1 v2 s) := by
  unfold m_computes
  refine e_op 1 em_432 (ce_at ce_432 0 rfl) rfl rfl ?_
  refine e_mv 2 em_432 (ce_at ce_432 1 rfl) rfl rfl ?_
  refine e_op 3 em_432 (ce_at ce_432 2 rfl) rfl rfl ?_
  refine e_mv 5 em_432 (ce_at ce_432 3 rfl) rfl rfl ?_
  refine e_op 6 em_432 (ce_at ce_432 4 rfl) rfl rfl ?_
  refine e_mv 8 em_432 (ce_at ce_432 5 rfl) rfl rfl ?_
  refine e_pk [0, 1, 2, 3, 4, 5] rfl rfl ?_
  exact tm_computes_8 w d hd _ _ _ _ _ _
theorem fm_computes (v1 : Int) (v2 : Int) (s : iS) : Fm Prod.snd L_m_computes G_m_computes s (m_computes v1 v2 s) := fm_computes_8 _ _ _ _ _ _
/-! m_knownOf -/
def L_m_knownOf : List Nat := []
def G_m_knownOf : List (Nat × Nat) := []
noncomputable def m_knownOf_159 (v4 : Int) (s : iS) : Option (Int × iS) := gd (rg v4) (if v4 ≤ 15 then some (v4, s) else some ((-1), s))
theorem tm_knownOf_159 (w : ev_W) (d : Nat) (hd : 1 ≤ d) (v4 : Int) (s : iS) : Ew hT w d 429 159 [(4, iv v4)] [] s (Ci hT) (m_knownOf_159 v4 s) := by
  unfold m_knownOf_159
  refine e_mv 161 em_429 (ce_at ce_429 96 rfl) rfl rfl ?_
  refine e_bip 163 em_429 (ce_at ce_429 97 rfl) (by decide) rfl ?_
  refine e_gd fun g1 => ?_
  refine e_cmle 170 166 em_429 rfl rfl (ce_at ce_429 98 rfl) g1 (by decide) (fun h2 => ?_) (fun h2 => ?_)
  · refine e_mv 172 em_429 (ce_at ce_429 101 rfl) rfl rfl ?_
    exact e_reti em_429 (ce_at ce_429 102 rfl)
  · refine e_op 167 em_429 (ce_at ce_429 99 rfl) rfl rfl ?_
    refine e_goto em_429 172 (ce_at ce_429 100 rfl) rfl ?_
    exact e_reti em_429 (ce_at ce_429 102 rfl)
theorem fm_knownOf_159 (v4 : Int) (s : iS) : Fm Prod.snd L_m_knownOf G_m_knownOf s (m_knownOf_159 v4 s) := fm_gd (fm_if (fm_some md_refl) (fm_some md_refl))
noncomputable def m_knownOf_139 (v1 : Int) (v2 : Int) (t0 : Int) (s : iS) : Option (Int × iS) := gd (rg v2) (if v2 = 3 then gd (0 ≤ (v1 + 1) ∧ (v1 + 1) < 4000) (gd (rg (s 123 (v1 + 1).toNat)) (if (s 123 (v1 + 1).toNat) = 49 then m_knownOf_159 t0 s else some ((-1), s))) else m_knownOf_159 t0 s)
theorem tm_knownOf_139 (w : ev_W) (d : Nat) (hd : 1 ≤ d) (v1 : Int) (v2 : Int) (t0 : Int) (s : iS) : Ew hT w d 429 139 [(0, .ref (tb_nK + 121)), (1, iv v1), (2, iv v2)] [iv t0] s (Ci hT) (m_knownOf_139 v1 v2 t0 s) := by
  unfold m_knownOf_139
  refine e_mv 141 em_429 (ce_at ce_429 84 rfl) rfl rfl ?_
  refine e_mv 142 em_429 (ce_at ce_429 85 rfl) rfl rfl ?_
  refine e_op 143 em_429 (ce_at ce_429 86 rfl) rfl rfl ?_
  refine e_gd fun g1 => ?_
  refine e_cmne 159 146 em_429 rfl rfl (ce_at ce_429 87 rfl) g1 (by decide) (fun h2 => ?_) (fun h2 => ?_)
  · refine e_pk [4] rfl rfl ?_
    exact tm_knownOf_159 w d hd _ _
  · refine e_mv 147 em_429 (ce_at ce_429 88 rfl) rfl rfl ?_
    refine e_getr 150 em_429 (ce_at ce_429 89 rfl) tq_121 rfl rfl ?_
    refine e_mv 151 em_429 (ce_at ce_429 90 rfl) rfl rfl ?_
    refine e_op 152 em_429 (ce_at ce_429 91 rfl) rfl rfl ?_
    refine e_iadd 153 em_429 rfl (ce_at ce_429 92 rfl) ?_
    refine e_gd fun g3 => ?_
    refine e_ild 154 em_429 (ce_at ce_429 93 rfl) tq_123 (by decide) g3 rfl ?_
    refine e_bip 156 em_429 (ce_at ce_429 94 rfl) (by decide) rfl ?_
    refine e_gd fun g4 => ?_
    refine e_cmne 166 159 em_429 rfl rfl (ce_at ce_429 95 rfl) g4 (by decide) (fun h5 => ?_) (fun h5 => ?_)
    · refine e_op 167 em_429 (ce_at ce_429 99 rfl) rfl rfl ?_
      refine e_goto em_429 172 (ce_at ce_429 100 rfl) rfl ?_
      exact e_reti em_429 (ce_at ce_429 102 rfl)
    · refine e_pk [4] rfl rfl ?_
      exact tm_knownOf_159 w d hd _ _
theorem fm_knownOf_139 (v1 : Int) (v2 : Int) (t0 : Int) (s : iS) : Fm Prod.snd L_m_knownOf G_m_knownOf s (m_knownOf_139 v1 v2 t0 s) := fm_gd (fm_if (fm_gd (fm_gd (fm_if (fm_knownOf_159 _ _) (fm_some md_refl)))) (fm_knownOf_159 _ _))
noncomputable def m_knownOf_94 (v1 : Int) (v2 : Int) (s : iS) : Option (Int × iS) := gd (rg v2) (if v2 = 2 then gd (0 ≤ (v1 + 1) ∧ (v1 + 1) < 4000) (m_knownOf_139 v1 v2 ((s 123 (v1 + 1).toNat) - 48) s) else gd (0 ≤ (v1 + 1) ∧ (v1 + 1) < 4000) (gd (0 ≤ (v1 + 2) ∧ (v1 + 2) < 4000) (m_knownOf_139 v1 v2 (((10 * ((s 123 (v1 + 1).toNat) - 48)) + (s 123 (v1 + 2).toNat)) - 48) s)))
theorem tm_knownOf_94 (w : ev_W) (d : Nat) (hd : 1 ≤ d) (v1 : Int) (v2 : Int) (s : iS) : Ew hT w d 429 94 [(0, .ref (tb_nK + 121)), (1, iv v1), (2, iv v2)] [] s (Ci hT) (m_knownOf_94 v1 v2 s) := by
  unfold m_knownOf_94
  refine e_mv 95 em_429 (ce_at ce_429 53 rfl) rfl rfl ?_
  refine e_op 96 em_429 (ce_at ce_429 54 rfl) rfl rfl ?_
  refine e_gd fun g1 => ?_
  refine e_cmne 113 99 em_429 rfl rfl (ce_at ce_429 55 rfl) g1 (by decide) (fun h2 => ?_) (fun h2 => ?_)
  · refine e_bip 115 em_429 (ce_at ce_429 65 rfl) (by decide) rfl ?_
    refine e_mv 116 em_429 (ce_at ce_429 66 rfl) rfl rfl ?_
    refine e_getr 119 em_429 (ce_at ce_429 67 rfl) tq_121 rfl rfl ?_
    refine e_mv 120 em_429 (ce_at ce_429 68 rfl) rfl rfl ?_
    refine e_op 121 em_429 (ce_at ce_429 69 rfl) rfl rfl ?_
    refine e_iadd 122 em_429 rfl (ce_at ce_429 70 rfl) ?_
    refine e_gd fun g3 => ?_
    refine e_ild 123 em_429 (ce_at ce_429 71 rfl) tq_123 (by decide) g3 rfl ?_
    refine e_bip 125 em_429 (ce_at ce_429 72 rfl) (by decide) rfl ?_
    refine e_isub 126 em_429 rfl (ce_at ce_429 73 rfl) ?_
    refine e_imul 127 em_429 rfl (ce_at ce_429 74 rfl) ?_
    refine e_mv 128 em_429 (ce_at ce_429 75 rfl) rfl rfl ?_
    refine e_getr 131 em_429 (ce_at ce_429 76 rfl) tq_121 rfl rfl ?_
    refine e_mv 132 em_429 (ce_at ce_429 77 rfl) rfl rfl ?_
    refine e_op 133 em_429 (ce_at ce_429 78 rfl) rfl rfl ?_
    refine e_iadd 134 em_429 rfl (ce_at ce_429 79 rfl) ?_
    refine e_gd fun g4 => ?_
    refine e_ild 135 em_429 (ce_at ce_429 80 rfl) tq_123 (by decide) g4 rfl ?_
    refine e_iadd 136 em_429 rfl (ce_at ce_429 81 rfl) ?_
    refine e_bip 138 em_429 (ce_at ce_429 82 rfl) (by decide) rfl ?_
    refine e_isub 139 em_429 rfl (ce_at ce_429 83 rfl) ?_
    refine e_pk [0, 1, 2] rfl rfl ?_
    exact tm_knownOf_139 w d hd _ _ _ _
  · refine e_mv 100 em_429 (ce_at ce_429 56 rfl) rfl rfl ?_
    refine e_getr 103 em_429 (ce_at ce_429 57 rfl) tq_121 rfl rfl ?_
    refine e_mv 104 em_429 (ce_at ce_429 58 rfl) rfl rfl ?_
    refine e_op 105 em_429 (ce_at ce_429 59 rfl) rfl rfl ?_
    refine e_iadd 106 em_429 rfl (ce_at ce_429 60 rfl) ?_
    refine e_gd fun g5 => ?_
    refine e_ild 107 em_429 (ce_at ce_429 61 rfl) tq_123 (by decide) g5 rfl ?_
    refine e_bip 109 em_429 (ce_at ce_429 62 rfl) (by decide) rfl ?_
    refine e_isub 110 em_429 rfl (ce_at ce_429 63 rfl) ?_
    refine e_goto em_429 139 (ce_at ce_429 64 rfl) rfl ?_
    refine e_pk [0, 1, 2] rfl rfl ?_
    exact tm_knownOf_139 w d hd _ _ _ _
theorem fm_knownOf_94 (v1 : Int) (v2 : Int) (s : iS) : Fm Prod.snd L_m_knownOf G_m_knownOf s (m_knownOf_94 v1 v2 s) := fm_gd (fm_if (fm_gd (fm_knownOf_139 _ _ _ _)) (fm_gd (fm_gd (fm_knownOf_139 _ _ _ _))))
noncomputable def m_knownOf (v1 : Int) (v2 : Int) (s : iS) : Option (Int × iS) := bd (m_wordOf 32 ka_8 v1 v2 s) (fun r1 s1 => gd (rg r1) (if r1 < 0 then gd (0 ≤ v1 ∧ v1 < 4000) (gd (rg (s1 123 v1.toNat)) (if (s1 123 v1.toNat) = 82 then gd (rg v2) (if v2 < 2 then some ((-1), s1) else if 3 < v2 then some ((-1), s1) else gd (0 ≤ (v1 + 1) ∧ (v1 + 1) < 4000) (bd (m_isDigit (s1 123 (v1 + 1).toNat) s1) (fun r11 s11 => gd (rg r11) (if r11 = 0 then some ((-1), s11) else if v2 = 3 then gd (0 ≤ (v1 + 2) ∧ (v1 + 2) < 4000) (bd (m_isDigit (s11 123 (v1 + 2).toNat) s11) (fun r16 s16 => gd (rg r16) (if r16 = 0 then some ((-1), s16) else m_knownOf_94 v1 v2 s16))) else m_knownOf_94 v1 v2 s11)))) else some ((-1), s1))) else if 5 ≤ r1 then if r1 = 5 then some (16384, s1) else some (24576, s1) else some (r1, s1)))
theorem tm_knownOf (w : ev_W) (d : Nat) (hd : 1 ≤ d) (v1 : Int) (v2 : Int) (s : iS) : Ew hT w d 429 0 [(0, .ref (tb_nK + 121)), (1, iv v1), (2, iv v2)] [] s (Ci hT) (m_knownOf v1 v2 s) := by
  unfold m_knownOf
  refine e_mv 1 em_429 (ce_at ce_429 0 rfl) rfl rfl ?_
  refine e_gst 4 em_429 (ce_at ce_429 1 rfl) rfl rfl ?_
  refine e_mv 5 em_429 (ce_at ce_429 2 rfl) rfl rfl ?_
  refine e_mv 6 em_429 (ce_at ce_429 3 rfl) rfl rfl ?_
  refine e_ivi 9 em_429 (ce_at ce_429 4 rfl) (by omega) (iv_v3 (by decide) tq_121 rfl) em_309 (Nat.le_of_ble_eq_true rfl) rfl (tm_wordOf w (d - 1) (by omega) 32 ka_8 8 (by decide) (kt_8 _ _) (by decide) _ _ _) (fun r1 s1 => ?_)
  refine e_mv 10 em_429 (ce_at ce_429 5 rfl) rfl rfl ?_
  refine e_mv 11 em_429 (ce_at ce_429 6 rfl) rfl rfl ?_
  refine e_gd fun g2 => ?_
  refine e_iflt 38 14 em_429 rfl rfl (ce_at ce_429 7 rfl) g2 (fun h3 => ?_) (fun h3 => ?_)
  · refine e_mv 39 em_429 (ce_at ce_429 20 rfl) rfl rfl ?_
    refine e_getr 42 em_429 (ce_at ce_429 21 rfl) tq_121 rfl rfl ?_
    refine e_mv 43 em_429 (ce_at ce_429 22 rfl) rfl rfl ?_
    refine e_gd fun g4 => ?_
    refine e_ild 44 em_429 (ce_at ce_429 23 rfl) tq_123 (by decide) g4 rfl ?_
    refine e_bip 46 em_429 (ce_at ce_429 24 rfl) (by decide) rfl ?_
    refine e_gd fun g5 => ?_
    refine e_cmne 92 49 em_429 rfl rfl (ce_at ce_429 25 rfl) g5 (by decide) (fun h6 => ?_) (fun h6 => ?_)
    · refine e_op 93 em_429 (ce_at ce_429 51 rfl) rfl rfl ?_
      exact e_reti em_429 (ce_at ce_429 52 rfl)
    · refine e_mv 50 em_429 (ce_at ce_429 26 rfl) rfl rfl ?_
      refine e_op 51 em_429 (ce_at ce_429 27 rfl) rfl rfl ?_
      refine e_gd fun g7 => ?_
      refine e_cmlt 92 54 em_429 rfl rfl (ce_at ce_429 28 rfl) g7 (by decide) (fun h8 => ?_) (fun h8 => ?_)
      · refine e_op 93 em_429 (ce_at ce_429 51 rfl) rfl rfl ?_
        exact e_reti em_429 (ce_at ce_429 52 rfl)
      · refine e_mv 55 em_429 (ce_at ce_429 29 rfl) rfl rfl ?_
        refine e_op 56 em_429 (ce_at ce_429 30 rfl) rfl rfl ?_
        refine e_cmgt 92 59 em_429 rfl rfl (ce_at ce_429 31 rfl) g7 (by decide) (fun h9 => ?_) (fun h9 => ?_)
        · refine e_op 93 em_429 (ce_at ce_429 51 rfl) rfl rfl ?_
          exact e_reti em_429 (ce_at ce_429 52 rfl)
        · refine e_mv 60 em_429 (ce_at ce_429 32 rfl) rfl rfl ?_
          refine e_getr 63 em_429 (ce_at ce_429 33 rfl) tq_121 rfl rfl ?_
          refine e_mv 64 em_429 (ce_at ce_429 34 rfl) rfl rfl ?_
          refine e_op 65 em_429 (ce_at ce_429 35 rfl) rfl rfl ?_
          refine e_iadd 66 em_429 rfl (ce_at ce_429 36 rfl) ?_
          refine e_gd fun g10 => ?_
          refine e_ild 67 em_429 (ce_at ce_429 37 rfl) tq_123 (by decide) g10 rfl ?_
          refine e_ivi 70 em_429 (ce_at ce_429 38 rfl) (by omega) (iv_s1 rfl) em_308 (Nat.le_of_ble_eq_true rfl) rfl (tm_isDigit hT w (d - 1) (by omega) _ _) (fun r11 s11 => ?_)
          refine e_gd fun g12 => ?_
          refine e_ifeq 92 73 em_429 rfl rfl (ce_at ce_429 39 rfl) g12 (fun h13 => ?_) (fun h13 => ?_)
          · refine e_op 93 em_429 (ce_at ce_429 51 rfl) rfl rfl ?_
            exact e_reti em_429 (ce_at ce_429 52 rfl)
          · refine e_mv 74 em_429 (ce_at ce_429 40 rfl) rfl rfl ?_
            refine e_op 75 em_429 (ce_at ce_429 41 rfl) rfl rfl ?_
            refine e_cmne 94 78 em_429 rfl rfl (ce_at ce_429 42 rfl) g7 (by decide) (fun h14 => ?_) (fun h14 => ?_)
            · refine e_pk [0, 1, 2] rfl rfl ?_
              exact tm_knownOf_94 w d hd _ _ _
            · refine e_mv 79 em_429 (ce_at ce_429 43 rfl) rfl rfl ?_
              refine e_getr 82 em_429 (ce_at ce_429 44 rfl) tq_121 rfl rfl ?_
              refine e_mv 83 em_429 (ce_at ce_429 45 rfl) rfl rfl ?_
              refine e_op 84 em_429 (ce_at ce_429 46 rfl) rfl rfl ?_
              refine e_iadd 85 em_429 rfl (ce_at ce_429 47 rfl) ?_
              refine e_gd fun g15 => ?_
              refine e_ild 86 em_429 (ce_at ce_429 48 rfl) tq_123 (by decide) g15 rfl ?_
              refine e_ivi 89 em_429 (ce_at ce_429 49 rfl) (by omega) (iv_s1 rfl) em_308 (Nat.le_of_ble_eq_true rfl) rfl (tm_isDigit hT w (d - 1) (by omega) _ _) (fun r16 s16 => ?_)
              refine e_gd fun g17 => ?_
              refine e_ifne 94 92 em_429 rfl rfl (ce_at ce_429 50 rfl) g17 (fun h18 => ?_) (fun h18 => ?_)
              · refine e_pk [0, 1, 2] rfl rfl ?_
                exact tm_knownOf_94 w d hd _ _ _
              · refine e_op 93 em_429 (ce_at ce_429 51 rfl) rfl rfl ?_
                exact e_reti em_429 (ce_at ce_429 52 rfl)
  · refine e_mv 15 em_429 (ce_at ce_429 8 rfl) rfl rfl ?_
    refine e_op 16 em_429 (ce_at ce_429 9 rfl) rfl rfl ?_
    refine e_cmge 23 19 em_429 rfl rfl (ce_at ce_429 10 rfl) g2 (by decide) (fun h19 => ?_) (fun h19 => ?_)
    · refine e_mv 24 em_429 (ce_at ce_429 13 rfl) rfl rfl ?_
      refine e_op 25 em_429 (ce_at ce_429 14 rfl) rfl rfl ?_
      refine e_cmne 34 28 em_429 rfl rfl (ce_at ce_429 15 rfl) g2 (by decide) (fun h20 => ?_) (fun h20 => ?_)
      · refine e_sip 37 em_429 (ce_at ce_429 18 rfl) (by decide) rfl ?_
        exact e_reti em_429 (ce_at ce_429 19 rfl)
      · refine e_sip 31 em_429 (ce_at ce_429 16 rfl) (by decide) rfl ?_
        refine e_goto em_429 37 (ce_at ce_429 17 rfl) rfl ?_
        exact e_reti em_429 (ce_at ce_429 19 rfl)
    · refine e_mv 20 em_429 (ce_at ce_429 11 rfl) rfl rfl ?_
      refine e_goto em_429 37 (ce_at ce_429 12 rfl) rfl ?_
      exact e_reti em_429 (ce_at ce_429 19 rfl)
theorem fm_knownOf (v1 : Int) (v2 : Int) (s : iS) : Fm Prod.snd L_m_knownOf G_m_knownOf s (m_knownOf v1 v2 s) := fm_bd (fm_sub (fm_wordOf 32 ka_8 _ _ _) (mem_sub_L rfl) (mem_sub_F rfl)) (fun r1 s1 => fm_gd (fm_if (fm_gd (fm_gd (fm_if (fm_gd (fm_if (fm_some md_refl) (fm_if (fm_some md_refl) (fm_gd (fm_bd (fm_sub (fm_isDigit _ _) (mem_sub_L rfl) (mem_sub_F rfl)) (fun r11 s11 => fm_gd (fm_if (fm_some md_refl) (fm_if (fm_gd (fm_bd (fm_sub (fm_isDigit _ _) (mem_sub_L rfl) (mem_sub_F rfl)) (fun r16 s16 => fm_gd (fm_if (fm_some md_refl) (fm_knownOf_94 _ _ _))))) (fm_knownOf_94 _ _ _))))))))) (fm_some md_refl)))) (fm_if (fm_if (fm_some md_refl) (fm_some md_refl)) (fm_some md_refl))))
/-! m_symbolOf -/
def L_m_symbolOf : List Nat := [190, 191, 192]
def G_m_symbolOf : List (Nat × Nat) := [(121, 112)]
def m_symbolOf_13C (w : ev_W) (d : Nat) (v1 : Int) (v2 : Int) (v3 : Int) : (Int × iS) ⊕ (Int × iS) → am_E → Prop := fun q r => q.elim (fun l => ev w d 430 13 ((fun l => [(0, .ref (tb_nK + 121)), (1, iv v1), (2, iv v2), (3, iv v3), (4, iv (l.1))]) l) [] (hT ((fun l => l.2) l)) r) (fun e => (fun e r => ev w d 430 64 [(0, .ref (tb_nK + 121)), (1, iv v1), (2, iv v2), (3, iv v3), (4, iv (e.1))] [] (hT (e.2)) r) e r)
noncomputable def m_symbolOf_13b (v1 : Int) (v2 : Int) (v3 : Int) (v4 : Int) (s : iS) : Option ((Int × iS) ⊕ (Int × iS)) := gd (rg v4) (gd (rg v2) (if v2 ≤ v4 then some (.inr (v4, s)) else gd (0 ≤ v3 ∧ v3 < 100) (gd (rg (s 191 v3.toNat)) (if (s 191 v3.toNat) = v2 then gd (0 ≤ ((s 190 v3.toNat) + v4) ∧ ((s 190 v3.toNat) + v4) < 4000) (gd (0 ≤ (v1 + v4) ∧ (v1 + v4) < 4000) (gd (rg (s 123 ((s 190 v3.toNat) + v4).toNat)) (gd (rg (s 123 (v1 + v4).toNat)) (if (s 123 ((s 190 v3.toNat) + v4).toNat) = (s 123 (v1 + v4).toNat) then some (.inl ((v4 + 1), s)) else some (.inr (v4, s)))))) else some (.inr (v4, s))))))
theorem tm_symbolOf_13b (w : ev_W) (d : Nat) (hd : 0 ≤ d) (v1 : Int) (v2 : Int) (v3 : Int) (v4 : Int) (s : iS) : Ew hT w d 430 13 [(0, .ref (tb_nK + 121)), (1, iv v1), (2, iv v2), (3, iv v3), (4, iv v4)] [] s (m_symbolOf_13C w d v1 v2 v3) (m_symbolOf_13b v1 v2 v3 v4 s) := by
  unfold m_symbolOf_13b
  refine e_mv 15 em_430 (ce_at ce_430 8 rfl) rfl rfl ?_
  refine e_mv 16 em_430 (ce_at ce_430 9 rfl) rfl rfl ?_
  refine e_gd fun g1 => ?_
  refine e_gd fun g2 => ?_
  refine e_cmge 64 19 em_430 rfl rfl (ce_at ce_430 10 rfl) g1 g2 (fun h3 => ?_) (fun h3 => ?_)
  · refine e_pk [0, 1, 2, 3, 4] rfl rfl ?_
    exact e_out (fun r h => h)
  · refine e_mv 20 em_430 (ce_at ce_430 11 rfl) rfl rfl ?_
    refine e_getr 23 em_430 (ce_at ce_430 12 rfl) tq_121 rfl rfl ?_
    refine e_mv 24 em_430 (ce_at ce_430 13 rfl) rfl rfl ?_
    refine e_gd fun g4 => ?_
    refine e_ild 25 em_430 (ce_at ce_430 14 rfl) tq_191 (by decide) g4 rfl ?_
    refine e_mv 26 em_430 (ce_at ce_430 15 rfl) rfl rfl ?_
    refine e_gd fun g5 => ?_
    refine e_cmne 64 29 em_430 rfl rfl (ce_at ce_430 16 rfl) g5 g2 (fun h6 => ?_) (fun h6 => ?_)
    · refine e_pk [0, 1, 2, 3, 4] rfl rfl ?_
      exact e_out (fun r h => h)
    · refine e_mv 30 em_430 (ce_at ce_430 17 rfl) rfl rfl ?_
      refine e_getr 33 em_430 (ce_at ce_430 18 rfl) tq_121 rfl rfl ?_
      refine e_mv 34 em_430 (ce_at ce_430 19 rfl) rfl rfl ?_
      refine e_getr 37 em_430 (ce_at ce_430 20 rfl) tq_121 rfl rfl ?_
      refine e_mv 38 em_430 (ce_at ce_430 21 rfl) rfl rfl ?_
      refine e_ild 39 em_430 (ce_at ce_430 22 rfl) tq_190 (by decide) g4 rfl ?_
      refine e_mv 41 em_430 (ce_at ce_430 23 rfl) rfl rfl ?_
      refine e_iadd 42 em_430 rfl (ce_at ce_430 24 rfl) ?_
      refine e_gd fun g7 => ?_
      refine e_ild 43 em_430 (ce_at ce_430 25 rfl) tq_123 (by decide) g7 rfl ?_
      refine e_mv 44 em_430 (ce_at ce_430 26 rfl) rfl rfl ?_
      refine e_getr 47 em_430 (ce_at ce_430 27 rfl) tq_121 rfl rfl ?_
      refine e_mv 48 em_430 (ce_at ce_430 28 rfl) rfl rfl ?_
      refine e_mv 50 em_430 (ce_at ce_430 29 rfl) rfl rfl ?_
      refine e_iadd 51 em_430 rfl (ce_at ce_430 30 rfl) ?_
      refine e_gd fun g8 => ?_
      refine e_ild 52 em_430 (ce_at ce_430 31 rfl) tq_123 (by decide) g8 rfl ?_
      refine e_gd fun g9 => ?_
      refine e_gd fun g10 => ?_
      refine e_cmne 64 55 em_430 rfl rfl (ce_at ce_430 32 rfl) g9 g10 (fun h11 => ?_) (fun h11 => ?_)
      · refine e_pk [0, 1, 2, 3, 4] rfl rfl ?_
        exact e_out (fun r h => h)
      · refine e_mv 57 em_430 (ce_at ce_430 33 rfl) rfl rfl ?_
        refine e_op 58 em_430 (ce_at ce_430 34 rfl) rfl rfl ?_
        refine e_iadd 59 em_430 rfl (ce_at ce_430 35 rfl) ?_
        refine e_mv 61 em_430 (ce_at ce_430 36 rfl) rfl rfl ?_
        refine e_goto em_430 13 (ce_at ce_430 37 rfl) rfl ?_
        refine e_pk [0, 1, 2, 3, 4] rfl rfl ?_
        exact e_out (fun r h => h)
theorem fm_symbolOf_13b (v1 : Int) (v2 : Int) (v3 : Int) (v4 : Int) (s : iS) : Fm (fun r : (Int × iS) ⊕ (Int × iS) => r.elim (fun l => l.2) (fun e => e.2)) L_m_symbolOf G_m_symbolOf s (m_symbolOf_13b v1 v2 v3 v4 s) := fm_gd (fm_gd (fm_if (fm_some md_refl) (fm_gd (fm_gd (fm_if (fm_gd (fm_gd (fm_gd (fm_gd (fm_if (fm_some md_refl) (fm_some md_refl)))))) (fm_some md_refl))))))
def m_symbolOf_2C (w : ev_W) (d : Nat) (v1 : Int) (v2 : Int) : (Int × iS) ⊕ ((Int × iS) ⊕ (iS)) → am_E → Prop := fun q r => q.elim (fun l => ev w d 430 2 ((fun l => [(0, .ref (tb_nK + 121)), (1, iv v1), (2, iv v2), (3, iv (l.1))]) l) [] (hT ((fun l => l.2) l)) r) (fun e => (fun e r => e.elim (fun e => ev w d 430 70 [(3, iv (e.1))] [] (hT (e.2)) r) (fun e => ev w d 430 78 [(0, .ref (tb_nK + 121)), (1, iv v1), (2, iv v2)] [] (hT (e)) r)) e r)
noncomputable def m_symbolOf_64 (v1 : Int) (v2 : Int) (v3 : Int) (v4 : Int) (s : iS) : Option ((Int × iS) ⊕ ((Int × iS) ⊕ (iS))) := gd (rg v4) (gd (rg v2) (if v4 = v2 then some (.inr (.inl (v3, s))) else some (.inl ((v3 + 1), s))))
theorem tm_symbolOf_64 (w : ev_W) (d : Nat) (hd : 0 ≤ d) (v1 : Int) (v2 : Int) (v3 : Int) (v4 : Int) (s : iS) : Ew hT w d 430 64 [(0, .ref (tb_nK + 121)), (1, iv v1), (2, iv v2), (3, iv v3), (4, iv v4)] [] s (m_symbolOf_2C w d v1 v2) (m_symbolOf_64 v1 v2 v3 v4 s) := by
  unfold m_symbolOf_64
  refine e_mv 66 em_430 (ce_at ce_430 38 rfl) rfl rfl ?_
  refine e_mv 67 em_430 (ce_at ce_430 39 rfl) rfl rfl ?_
  refine e_gd fun g1 => ?_
  refine e_gd fun g2 => ?_
  refine e_cmne 72 70 em_430 rfl rfl (ce_at ce_430 40 rfl) g1 g2 (fun h3 => ?_) (fun h3 => ?_)
  · refine e_iinc 75 em_430 (ce_at ce_430 43 rfl) rfl (by decide) rfl ?_
    refine e_goto em_430 2 (ce_at ce_430 44 rfl) rfl ?_
    refine e_pk [0, 1, 2, 3] rfl rfl ?_
    exact e_out (fun r h => h)
  · refine e_pk [3] rfl rfl ?_
    exact e_out (fun r h => h)
theorem fm_symbolOf_64 (v1 : Int) (v2 : Int) (v3 : Int) (v4 : Int) (s : iS) : Fm (fun r : (Int × iS) ⊕ ((Int × iS) ⊕ (iS)) => r.elim (fun l => l.2) (fun e => e.elim (fun e => e.2) (fun e => e))) L_m_symbolOf G_m_symbolOf s (m_symbolOf_64 v1 v2 v3 v4 s) := fm_gd (fm_gd (fm_if (fm_some md_refl) (fm_some md_refl)))
noncomputable def m_symbolOf_13 (v1 : Int) (v2 : Int) (v3 : Int) (v4 : Int) (s : iS) : Option ((Int × iS) ⊕ ((Int × iS) ⊕ (iS))) := (lp (L := Int × iS) (E := Int × iS) (fun l => m_symbolOf_13b v1 v2 v3 (l.1) (l.2)) (v4, s)).bind (fun e => m_symbolOf_64 v1 v2 v3 (e.1) (e.2))
theorem tm_symbolOf_13 (w : ev_W) (d : Nat) (hd : 0 ≤ d) (v1 : Int) (v2 : Int) (v3 : Int) (v4 : Int) (s : iS) : Ew hT w d 430 13 [(0, .ref (tb_nK + 121)), (1, iv v1), (2, iv v2), (3, iv v3), (4, iv v4)] [] s (m_symbolOf_2C w d v1 v2) (m_symbolOf_13 v1 v2 v3 v4 s) := by
  unfold m_symbolOf_13
  refine e_lp (L := Int × iS) (E := Int × iS) (LO := fun l => [(0, .ref (tb_nK + 121)), (1, iv v1), (2, iv v2), (3, iv v3), (4, iv (l.1))]) (LS := fun l => l.2) (CE := fun e r => ev w d 430 64 [(0, .ref (tb_nK + 121)), (1, iv v1), (2, iv v2), (3, iv v3), (4, iv (e.1))] [] (hT (e.2)) r) (fun l => tm_symbolOf_13b w d hd _ _ _ _ _) ?_ (v4, s)
  intro e
  show Ew hT w d 430 64 [(0, .ref (tb_nK + 121)), (1, iv v1), (2, iv v2), (3, iv v3), (4, iv (e.1))] [] e.2 (m_symbolOf_2C w d v1 v2) _
  refine e_pk [0, 1, 2, 3, 4] rfl rfl ?_
  exact tm_symbolOf_64 w d hd _ _ _ _ _
theorem fm_symbolOf_13 (v1 : Int) (v2 : Int) (v3 : Int) (v4 : Int) (s : iS) : Fm (fun r : (Int × iS) ⊕ ((Int × iS) ⊕ (iS)) => r.elim (fun l => l.2) (fun e => e.elim (fun e => e.2) (fun e => e))) L_m_symbolOf G_m_symbolOf s (m_symbolOf_13 v1 v2 v3 v4 s) := by
  unfold m_symbolOf_13
  refine fm_lp (A := Int × iS) (E := Int × iS) (LS := fun l => l.2) (LE := fun e => e.2) ?_ ?_ (v4, s)
  · exact fun l => fm_symbolOf_13b _ _ _ _ _
  · exact (fun e => fm_symbolOf_64 _ _ _ _ _)
noncomputable def m_symbolOf_2b (v1 : Int) (v2 : Int) (v3 : Int) (s : iS) : Option ((Int × iS) ⊕ ((Int × iS) ⊕ (iS))) := gd (rg v3) (gd (rg (s 121 112)) (if (s 121 112) ≤ v3 then some (.inr (.inr s)) else m_symbolOf_13 v1 v2 v3 0 s))
theorem tm_symbolOf_2b (w : ev_W) (d : Nat) (hd : 0 ≤ d) (v1 : Int) (v2 : Int) (v3 : Int) (s : iS) : Ew hT w d 430 2 [(0, .ref (tb_nK + 121)), (1, iv v1), (2, iv v2), (3, iv v3)] [] s (m_symbolOf_2C w d v1 v2) (m_symbolOf_2b v1 v2 v3 s) := by
  unfold m_symbolOf_2b
  refine e_mv 3 em_430 (ce_at ce_430 2 rfl) rfl rfl ?_
  refine e_mv 4 em_430 (ce_at ce_430 3 rfl) rfl rfl ?_
  refine e_get 7 em_430 (ce_at ce_430 4 rfl) tq_121 rfl rfl ?_
  refine e_gd fun g1 => ?_
  refine e_gd fun g2 => ?_
  refine e_cmge 78 10 em_430 rfl rfl (ce_at ce_430 5 rfl) g1 g2 (fun h3 => ?_) (fun h3 => ?_)
  · refine e_pk [0, 1, 2] rfl rfl ?_
    exact e_out (fun r h => h)
  · refine e_op 11 em_430 (ce_at ce_430 6 rfl) rfl rfl ?_
    refine e_mv 13 em_430 (ce_at ce_430 7 rfl) rfl rfl ?_
    refine e_pk [0, 1, 2, 3, 4] rfl rfl ?_
    exact tm_symbolOf_13 w d hd _ _ _ _ _
theorem fm_symbolOf_2b (v1 : Int) (v2 : Int) (v3 : Int) (s : iS) : Fm (fun r : (Int × iS) ⊕ ((Int × iS) ⊕ (iS)) => r.elim (fun l => l.2) (fun e => e.elim (fun e => e.2) (fun e => e))) L_m_symbolOf G_m_symbolOf s (m_symbolOf_2b v1 v2 v3 s) := fm_gd (fm_gd (fm_if (fm_some md_refl) (fm_symbolOf_13 _ _ _ _ _)))
noncomputable def m_symbolOf_78 (v1 : Int) (v2 : Int) (s : iS) : Option (Int × iS) := gd (rg (s 121 112)) (if (s 121 112) = 100 then some ((-1), s) else gd (0 ≤ (s 121 112) ∧ (s 121 112) < 100) (lt' (up s 190 (s 121 112).toNat v1) (fun s4 => gd (0 ≤ (s4 121 112) ∧ (s4 121 112) < 100) (lt' (up s4 191 (s4 121 112).toNat v2) (fun s6 => gd (0 ≤ (s6 121 112) ∧ (s6 121 112) < 100) (lt' (up s6 192 (s6 121 112).toNat (-1)) (fun s8 => lt' (up s8 121 112 ((s8 121 112) + 1)) (fun s9 => some (((s9 121 112) - 1), s9)))))))))
theorem tm_symbolOf_78 (w : ev_W) (d : Nat) (hd : 0 ≤ d) (v1 : Int) (v2 : Int) (s : iS) : Ew hT w d 430 78 [(0, .ref (tb_nK + 121)), (1, iv v1), (2, iv v2)] [] s (Ci hT) (m_symbolOf_78 v1 v2 s) := by
  unfold m_symbolOf_78
  refine e_mv 79 em_430 (ce_at ce_430 45 rfl) rfl rfl ?_
  refine e_get 82 em_430 (ce_at ce_430 46 rfl) tq_121 rfl rfl ?_
  refine e_bip 84 em_430 (ce_at ce_430 47 rfl) (by decide) rfl ?_
  refine e_gd fun g1 => ?_
  refine e_cmne 89 87 em_430 rfl rfl (ce_at ce_430 48 rfl) g1 (by decide) (fun h2 => ?_) (fun h2 => ?_)
  · refine e_mv 90 em_430 (ce_at ce_430 51 rfl) rfl rfl ?_
    refine e_getr 93 em_430 (ce_at ce_430 52 rfl) tq_121 rfl rfl ?_
    refine e_mv 94 em_430 (ce_at ce_430 53 rfl) rfl rfl ?_
    refine e_get 97 em_430 (ce_at ce_430 54 rfl) tq_121 rfl rfl ?_
    refine e_mv 98 em_430 (ce_at ce_430 55 rfl) rfl rfl ?_
    refine e_gd fun g3 => ?_
    refine e_ist 99 em_430 (ce_at ce_430 56 rfl) tq_190 (by decide) g3 rfl (fun s4 => ?_)
    refine e_mv 100 em_430 (ce_at ce_430 57 rfl) rfl rfl ?_
    refine e_getr 103 em_430 (ce_at ce_430 58 rfl) tq_121 rfl rfl ?_
    refine e_mv 104 em_430 (ce_at ce_430 59 rfl) rfl rfl ?_
    refine e_get 107 em_430 (ce_at ce_430 60 rfl) tq_121 rfl rfl ?_
    refine e_mv 108 em_430 (ce_at ce_430 61 rfl) rfl rfl ?_
    refine e_gd fun g5 => ?_
    refine e_ist 109 em_430 (ce_at ce_430 62 rfl) tq_191 (by decide) g5 rfl (fun s6 => ?_)
    refine e_mv 110 em_430 (ce_at ce_430 63 rfl) rfl rfl ?_
    refine e_getr 113 em_430 (ce_at ce_430 64 rfl) tq_121 rfl rfl ?_
    refine e_mv 114 em_430 (ce_at ce_430 65 rfl) rfl rfl ?_
    refine e_get 117 em_430 (ce_at ce_430 66 rfl) tq_121 rfl rfl ?_
    refine e_op 118 em_430 (ce_at ce_430 67 rfl) rfl rfl ?_
    refine e_gd fun g7 => ?_
    refine e_ist 119 em_430 (ce_at ce_430 68 rfl) tq_192 (by decide) g7 rfl (fun s8 => ?_)
    refine e_mv 120 em_430 (ce_at ce_430 69 rfl) rfl rfl ?_
    refine e_mv 121 em_430 (ce_at ce_430 70 rfl) rfl rfl ?_
    refine e_get 124 em_430 (ce_at ce_430 71 rfl) tq_121 rfl rfl ?_
    refine e_op 125 em_430 (ce_at ce_430 72 rfl) rfl rfl ?_
    refine e_iadd 126 em_430 rfl (ce_at ce_430 73 rfl) ?_
    refine e_put 129 em_430 (ce_at ce_430 74 rfl) tq_121 rfl rfl rfl (fun s9 => ?_)
    refine e_mv 130 em_430 (ce_at ce_430 75 rfl) rfl rfl ?_
    refine e_get 133 em_430 (ce_at ce_430 76 rfl) tq_121 rfl rfl ?_
    refine e_op 134 em_430 (ce_at ce_430 77 rfl) rfl rfl ?_
    refine e_isub 135 em_430 rfl (ce_at ce_430 78 rfl) ?_
    exact e_reti em_430 (ce_at ce_430 79 rfl)
  · refine e_op 88 em_430 (ce_at ce_430 49 rfl) rfl rfl ?_
    exact e_reti em_430 (ce_at ce_430 50 rfl)
theorem fm_symbolOf_78 (v1 : Int) (v2 : Int) (s : iS) : Fm Prod.snd L_m_symbolOf G_m_symbolOf s (m_symbolOf_78 v1 v2 s) := fm_gd (fm_if (fm_some md_refl) (fm_gd (fm_lt (md_upL (mem_L rfl)) (fun s4 => fm_gd (fm_lt (md_upL (mem_L rfl)) (fun s6 => fm_gd (fm_lt (md_upL (mem_L rfl)) (fun s8 => fm_lt (md_upF (mem_F rfl)) (fun s9 => fm_some md_refl)))))))))
noncomputable def m_symbolOf_2 (v1 : Int) (v2 : Int) (v3 : Int) (s : iS) : Option (Int × iS) := (lp (L := Int × iS) (E := (Int × iS) ⊕ (iS)) (fun l => m_symbolOf_2b v1 v2 (l.1) (l.2)) (v3, s)).bind (fun e => e.elim (fun e => some (e.1, e.2)) (fun e => m_symbolOf_78 v1 v2 e))
theorem tm_symbolOf_2 (w : ev_W) (d : Nat) (hd : 0 ≤ d) (v1 : Int) (v2 : Int) (v3 : Int) (s : iS) : Ew hT w d 430 2 [(0, .ref (tb_nK + 121)), (1, iv v1), (2, iv v2), (3, iv v3)] [] s (Ci hT) (m_symbolOf_2 v1 v2 v3 s) := by
  unfold m_symbolOf_2
  refine e_lp (L := Int × iS) (E := (Int × iS) ⊕ (iS)) (LO := fun l => [(0, .ref (tb_nK + 121)), (1, iv v1), (2, iv v2), (3, iv (l.1))]) (LS := fun l => l.2) (CE := fun e r => e.elim (fun e => ev w d 430 70 [(3, iv (e.1))] [] (hT (e.2)) r) (fun e => ev w d 430 78 [(0, .ref (tb_nK + 121)), (1, iv v1), (2, iv v2)] [] (hT (e)) r)) (fun l => tm_symbolOf_2b w d hd _ _ _ _) ?_ (v3, s)
  rintro (e | e)
  · show Ew hT w d 430 70 [(3, iv (e.1))] [] e.2 (Ci hT) _
    refine e_mv 71 em_430 (ce_at ce_430 41 rfl) rfl rfl ?_
    exact e_reti em_430 (ce_at ce_430 42 rfl)
  · show Ew hT w d 430 78 [(0, .ref (tb_nK + 121)), (1, iv v1), (2, iv v2)] [] e (Ci hT) _
    refine e_pk [0, 1, 2] rfl rfl ?_
    exact tm_symbolOf_78 w d hd _ _ _
theorem fm_symbolOf_2 (v1 : Int) (v2 : Int) (v3 : Int) (s : iS) : Fm Prod.snd L_m_symbolOf G_m_symbolOf s (m_symbolOf_2 v1 v2 v3 s) := by
  unfold m_symbolOf_2
  refine fm_lp (A := Int × iS) (E := (Int × iS) ⊕ (iS)) (LS := fun l => l.2) (LE := fun e => e.elim (fun e => e.2) (fun e => e)) ?_ ?_ (v3, s)
  · exact fun l => fm_symbolOf_2b _ _ _ _
  · exact (by rintro (e | e); exact fm_some md_refl; exact fm_symbolOf_78 _ _ _)
noncomputable def m_symbolOf (v1 : Int) (v2 : Int) (s : iS) : Option (Int × iS) := m_symbolOf_2 v1 v2 0 s
theorem tm_symbolOf (w : ev_W) (d : Nat) (hd : 0 ≤ d) (v1 : Int) (v2 : Int) (s : iS) : Ew hT w d 430 0 [(0, .ref (tb_nK + 121)), (1, iv v1), (2, iv v2)] [] s (Ci hT) (m_symbolOf v1 v2 s) := by
  unfold m_symbolOf
  refine e_op 1 em_430 (ce_at ce_430 0 rfl) rfl rfl ?_
  refine e_mv 2 em_430 (ce_at ce_430 1 rfl) rfl rfl ?_
  refine e_pk [0, 1, 2, 3] rfl rfl ?_
  exact tm_symbolOf_2 w d hd _ _ _ _
theorem fm_symbolOf (v1 : Int) (v2 : Int) (s : iS) : Fm Prod.snd L_m_symbolOf G_m_symbolOf s (m_symbolOf v1 v2 s) := fm_symbolOf_2 _ _ _ _
/-! m_isSymbolByte -/
def L_m_isSymbolByte : List Nat := []
def G_m_isSymbolByte : List (Nat × Nat) := []
noncomputable def m_isSymbolByte (v0 : Int) (s : iS) : Option (Int × iS) := bd (m_isWordByte v0 s) (fun r1 s1 => gd (rg r1) (if r1 = 0 then gd (rg v0) (if v0 = 46 then some (1, s1) else if v0 = 36 then some (1, s1) else if v0 = 58 then some (1, s1) else some (0, s1)) else some (1, s1)))
theorem tm_isSymbolByte (H : iS → List am_C) (w : ev_W) (d : Nat) (hd : 2 ≤ d) (v0 : Int) (s : iS) : Ew H w d 428 0 [(0, iv v0)] [] s (Ci H) (m_isSymbolByte v0 s) := by
  unfold m_isSymbolByte
  refine e_mv 1 em_428 (ce_at ce_428 0 rfl) rfl rfl ?_
  refine e_ivi 4 em_428 (ce_at ce_428 1 rfl) (by omega) (iv_s1 rfl) em_307 (Nat.le_of_ble_eq_true rfl) rfl (tm_isWordByte H w (d - 1) (by omega) _ _) (fun r1 s1 => ?_)
  refine e_gd fun g2 => ?_
  refine e_ifne 25 7 em_428 rfl rfl (ce_at ce_428 2 rfl) g2 (fun h3 => ?_) (fun h3 => ?_)
  · refine e_op 26 em_428 (ce_at ce_428 12 rfl) rfl rfl ?_
    refine e_goto em_428 30 (ce_at ce_428 13 rfl) rfl ?_
    exact e_retz em_428 (ce_at ce_428 15 rfl) (by decide)
  · refine e_mv 8 em_428 (ce_at ce_428 3 rfl) rfl rfl ?_
    refine e_bip 10 em_428 (ce_at ce_428 4 rfl) (by decide) rfl ?_
    refine e_gd fun g4 => ?_
    refine e_cmeq 25 13 em_428 rfl rfl (ce_at ce_428 5 rfl) g4 (by decide) (fun h5 => ?_) (fun h5 => ?_)
    · refine e_op 26 em_428 (ce_at ce_428 12 rfl) rfl rfl ?_
      refine e_goto em_428 30 (ce_at ce_428 13 rfl) rfl ?_
      exact e_retz em_428 (ce_at ce_428 15 rfl) (by decide)
    · refine e_mv 14 em_428 (ce_at ce_428 6 rfl) rfl rfl ?_
      refine e_bip 16 em_428 (ce_at ce_428 7 rfl) (by decide) rfl ?_
      refine e_cmeq 25 19 em_428 rfl rfl (ce_at ce_428 8 rfl) g4 (by decide) (fun h6 => ?_) (fun h6 => ?_)
      · refine e_op 26 em_428 (ce_at ce_428 12 rfl) rfl rfl ?_
        refine e_goto em_428 30 (ce_at ce_428 13 rfl) rfl ?_
        exact e_retz em_428 (ce_at ce_428 15 rfl) (by decide)
      · refine e_mv 20 em_428 (ce_at ce_428 9 rfl) rfl rfl ?_
        refine e_bip 22 em_428 (ce_at ce_428 10 rfl) (by decide) rfl ?_
        refine e_cmne 29 25 em_428 rfl rfl (ce_at ce_428 11 rfl) g4 (by decide) (fun h7 => ?_) (fun h7 => ?_)
        · refine e_op 30 em_428 (ce_at ce_428 14 rfl) rfl rfl ?_
          exact e_retz em_428 (ce_at ce_428 15 rfl) (by decide)
        · refine e_op 26 em_428 (ce_at ce_428 12 rfl) rfl rfl ?_
          refine e_goto em_428 30 (ce_at ce_428 13 rfl) rfl ?_
          exact e_retz em_428 (ce_at ce_428 15 rfl) (by decide)
theorem fm_isSymbolByte (v0 : Int) (s : iS) : Fm Prod.snd L_m_isSymbolByte G_m_isSymbolByte s (m_isSymbolByte v0 s) := fm_bd (fm_sub (fm_isWordByte _ _) (mem_sub_L rfl) (mem_sub_F rfl)) (fun r1 s1 => fm_gd (fm_if (fm_gd (fm_if (fm_some md_refl) (fm_if (fm_some md_refl) (fm_if (fm_some md_refl) (fm_some md_refl))))) (fm_some md_refl)))
/-! m_isSymbol -/
def L_m_isSymbol : List Nat := []
def G_m_isSymbol : List (Nat × Nat) := []
def m_isSymbol_30C (w : ev_W) (d : Nat) (v1 : Int) (v2 : Int) : (Int × Int × iS) ⊕ (Int × iS) → am_E → Prop := fun q r => q.elim (fun l => ev w d 427 30 ((fun l => [(0, .ref (tb_nK + 121)), (1, iv v1), (2, iv v2), (3, iv (l.1)), (4, iv (l.2.1))]) l) [] (hT ((fun l => l.2.2) l)) r) (fun e => (fun e r => ev w d 427 67 [(3, iv (e.1))] [] (hT (e.2)) r) e r)
noncomputable def m_isSymbol_30b (v1 : Int) (v2 : Int) (v3 : Int) (v4 : Int) (s : iS) : Option ((Int × Int × iS) ⊕ (Int × iS)) := gd (rg v4) (gd (rg v2) (if v2 ≤ v4 then some (.inr (v3, s)) else gd (rg v3) (if v3 = 0 then some (.inl (0, (v4 + 1), s)) else gd (0 ≤ (v1 + v4) ∧ (v1 + v4) < 4000) (bd (m_isSymbolByte (s 123 (v1 + v4).toNat) s) (fun r7 s7 => gd (rg r7) (if r7 = 0 then some (.inl (0, (v4 + 1), s7)) else some (.inl (1, (v4 + 1), s7))))))))
theorem tm_isSymbol_30b (w : ev_W) (d : Nat) (hd : 3 ≤ d) (v1 : Int) (v2 : Int) (v3 : Int) (v4 : Int) (s : iS) : Ew hT w d 427 30 [(0, .ref (tb_nK + 121)), (1, iv v1), (2, iv v2), (3, iv v3), (4, iv v4)] [] s (m_isSymbol_30C w d v1 v2) (m_isSymbol_30b v1 v2 v3 v4 s) := by
  unfold m_isSymbol_30b
  refine e_mv 32 em_427 (ce_at ce_427 18 rfl) rfl rfl ?_
  refine e_mv 33 em_427 (ce_at ce_427 19 rfl) rfl rfl ?_
  refine e_gd fun g1 => ?_
  refine e_gd fun g2 => ?_
  refine e_cmge 67 36 em_427 rfl rfl (ce_at ce_427 20 rfl) g1 g2 (fun h3 => ?_) (fun h3 => ?_)
  · refine e_pk [3] rfl rfl ?_
    exact e_out (fun r h => h)
  · refine e_mv 37 em_427 (ce_at ce_427 21 rfl) rfl rfl ?_
    refine e_gd fun g4 => ?_
    refine e_ifeq 59 40 em_427 rfl rfl (ce_at ce_427 22 rfl) g4 (fun h5 => ?_) (fun h5 => ?_)
    · refine e_op 60 em_427 (ce_at ce_427 33 rfl) rfl rfl ?_
      refine e_mv 61 em_427 (ce_at ce_427 34 rfl) rfl rfl ?_
      refine e_iinc 64 em_427 (ce_at ce_427 35 rfl) rfl (by decide) rfl ?_
      refine e_goto em_427 30 (ce_at ce_427 36 rfl) rfl ?_
      refine e_pk [0, 1, 2, 3, 4] rfl rfl ?_
      exact e_out (fun r h => h)
    · refine e_mv 41 em_427 (ce_at ce_427 23 rfl) rfl rfl ?_
      refine e_getr 44 em_427 (ce_at ce_427 24 rfl) tq_121 rfl rfl ?_
      refine e_mv 45 em_427 (ce_at ce_427 25 rfl) rfl rfl ?_
      refine e_mv 47 em_427 (ce_at ce_427 26 rfl) rfl rfl ?_
      refine e_iadd 48 em_427 rfl (ce_at ce_427 27 rfl) ?_
      refine e_gd fun g6 => ?_
      refine e_ild 49 em_427 (ce_at ce_427 28 rfl) tq_123 (by decide) g6 rfl ?_
      refine e_ivi 52 em_427 (ce_at ce_427 29 rfl) (by omega) (iv_s1 rfl) em_428 (Nat.le_of_ble_eq_true rfl) rfl (tm_isSymbolByte hT w (d - 1) (by omega) _ _) (fun r7 s7 => ?_)
      refine e_gd fun g8 => ?_
      refine e_ifeq 59 55 em_427 rfl rfl (ce_at ce_427 30 rfl) g8 (fun h9 => ?_) (fun h9 => ?_)
      · refine e_op 60 em_427 (ce_at ce_427 33 rfl) rfl rfl ?_
        refine e_mv 61 em_427 (ce_at ce_427 34 rfl) rfl rfl ?_
        refine e_iinc 64 em_427 (ce_at ce_427 35 rfl) rfl (by decide) rfl ?_
        refine e_goto em_427 30 (ce_at ce_427 36 rfl) rfl ?_
        refine e_pk [0, 1, 2, 3, 4] rfl rfl ?_
        exact e_out (fun r h => h)
      · refine e_op 56 em_427 (ce_at ce_427 31 rfl) rfl rfl ?_
        refine e_goto em_427 60 (ce_at ce_427 32 rfl) rfl ?_
        refine e_mv 61 em_427 (ce_at ce_427 34 rfl) rfl rfl ?_
        refine e_iinc 64 em_427 (ce_at ce_427 35 rfl) rfl (by decide) rfl ?_
        refine e_goto em_427 30 (ce_at ce_427 36 rfl) rfl ?_
        refine e_pk [0, 1, 2, 3, 4] rfl rfl ?_
        exact e_out (fun r h => h)
theorem fm_isSymbol_30b (v1 : Int) (v2 : Int) (v3 : Int) (v4 : Int) (s : iS) : Fm (fun r : (Int × Int × iS) ⊕ (Int × iS) => r.elim (fun l => l.2.2) (fun e => e.2)) L_m_isSymbol G_m_isSymbol s (m_isSymbol_30b v1 v2 v3 v4 s) := fm_gd (fm_gd (fm_if (fm_some md_refl) (fm_gd (fm_if (fm_some md_refl) (fm_gd (fm_bd (fm_sub (fm_isSymbolByte _ _) (mem_sub_L rfl) (mem_sub_F rfl)) (fun r7 s7 => fm_gd (fm_if (fm_some md_refl) (fm_some md_refl)))))))))
noncomputable def m_isSymbol_30 (v1 : Int) (v2 : Int) (v3 : Int) (v4 : Int) (s : iS) : Option (Int × iS) := (lp (L := Int × Int × iS) (E := Int × iS) (fun l => m_isSymbol_30b v1 v2 (l.1) (l.2.1) (l.2.2)) (v3, v4, s)).bind (fun e => gd ((e.1) = 0 ∨ (e.1) = 1) (some (e.1, e.2)))
theorem tm_isSymbol_30 (w : ev_W) (d : Nat) (hd : 3 ≤ d) (v1 : Int) (v2 : Int) (v3 : Int) (v4 : Int) (s : iS) : Ew hT w d 427 30 [(0, .ref (tb_nK + 121)), (1, iv v1), (2, iv v2), (3, iv v3), (4, iv v4)] [] s (Ci hT) (m_isSymbol_30 v1 v2 v3 v4 s) := by
  unfold m_isSymbol_30
  refine e_lp (L := Int × Int × iS) (E := Int × iS) (LO := fun l => [(0, .ref (tb_nK + 121)), (1, iv v1), (2, iv v2), (3, iv (l.1)), (4, iv (l.2.1))]) (LS := fun l => l.2.2) (CE := fun e r => ev w d 427 67 [(3, iv (e.1))] [] (hT (e.2)) r) (fun l => tm_isSymbol_30b w d hd _ _ _ _ _) ?_ (v3, v4, s)
  intro e
  show Ew hT w d 427 67 [(3, iv (e.1))] [] e.2 (Ci hT) _
  refine e_mv 68 em_427 (ce_at ce_427 37 rfl) rfl rfl ?_
  refine e_gd fun g10 => ?_
  exact e_retz em_427 (ce_at ce_427 38 rfl) g10
theorem fm_isSymbol_30 (v1 : Int) (v2 : Int) (v3 : Int) (v4 : Int) (s : iS) : Fm Prod.snd L_m_isSymbol G_m_isSymbol s (m_isSymbol_30 v1 v2 v3 v4 s) := by
  unfold m_isSymbol_30
  refine fm_lp (A := Int × Int × iS) (E := Int × iS) (LS := fun l => l.2.2) (LE := fun e => e.2) ?_ ?_ (v3, v4, s)
  · exact fun l => fm_isSymbol_30b _ _ _ _ _
  · exact (fun e => fm_gd (fm_some md_refl))
noncomputable def m_isSymbol (v1 : Int) (v2 : Int) (s : iS) : Option (Int × iS) := gd (rg v2) (if v2 < 1 then some (0, s) else if 16 < v2 then some (0, s) else gd (0 ≤ v1 ∧ v1 < 4000) (bd (m_isDigit (s 123 v1.toNat) s) (fun r5 s5 => gd (rg r5) (if r5 = 0 then m_isSymbol_30 v1 v2 1 0 s5 else some (0, s5)))))
theorem tm_isSymbol (w : ev_W) (d : Nat) (hd : 3 ≤ d) (v1 : Int) (v2 : Int) (s : iS) : Ew hT w d 427 0 [(0, .ref (tb_nK + 121)), (1, iv v1), (2, iv v2)] [] s (Ci hT) (m_isSymbol v1 v2 s) := by
  unfold m_isSymbol
  refine e_mv 1 em_427 (ce_at ce_427 0 rfl) rfl rfl ?_
  refine e_op 2 em_427 (ce_at ce_427 1 rfl) rfl rfl ?_
  refine e_gd fun g1 => ?_
  refine e_cmlt 23 5 em_427 rfl rfl (ce_at ce_427 2 rfl) g1 (by decide) (fun h2 => ?_) (fun h2 => ?_)
  · refine e_op 24 em_427 (ce_at ce_427 12 rfl) rfl rfl ?_
    exact e_retz em_427 (ce_at ce_427 13 rfl) (by decide)
  · refine e_mv 6 em_427 (ce_at ce_427 3 rfl) rfl rfl ?_
    refine e_bip 8 em_427 (ce_at ce_427 4 rfl) (by decide) rfl ?_
    refine e_cmgt 23 11 em_427 rfl rfl (ce_at ce_427 5 rfl) g1 (by decide) (fun h3 => ?_) (fun h3 => ?_)
    · refine e_op 24 em_427 (ce_at ce_427 12 rfl) rfl rfl ?_
      exact e_retz em_427 (ce_at ce_427 13 rfl) (by decide)
    · refine e_mv 12 em_427 (ce_at ce_427 6 rfl) rfl rfl ?_
      refine e_getr 15 em_427 (ce_at ce_427 7 rfl) tq_121 rfl rfl ?_
      refine e_mv 16 em_427 (ce_at ce_427 8 rfl) rfl rfl ?_
      refine e_gd fun g4 => ?_
      refine e_ild 17 em_427 (ce_at ce_427 9 rfl) tq_123 (by decide) g4 rfl ?_
      refine e_ivi 20 em_427 (ce_at ce_427 10 rfl) (by omega) (iv_s1 rfl) em_308 (Nat.le_of_ble_eq_true rfl) rfl (tm_isDigit hT w (d - 1) (by omega) _ _) (fun r5 s5 => ?_)
      refine e_gd fun g6 => ?_
      refine e_ifeq 25 23 em_427 rfl rfl (ce_at ce_427 11 rfl) g6 (fun h7 => ?_) (fun h7 => ?_)
      · refine e_op 26 em_427 (ce_at ce_427 14 rfl) rfl rfl ?_
        refine e_mv 27 em_427 (ce_at ce_427 15 rfl) rfl rfl ?_
        refine e_op 28 em_427 (ce_at ce_427 16 rfl) rfl rfl ?_
        refine e_mv 30 em_427 (ce_at ce_427 17 rfl) rfl rfl ?_
        refine e_pk [0, 1, 2, 3, 4] rfl rfl ?_
        exact tm_isSymbol_30 w d hd _ _ _ _ _
      · refine e_op 24 em_427 (ce_at ce_427 12 rfl) rfl rfl ?_
        exact e_retz em_427 (ce_at ce_427 13 rfl) (by decide)
theorem fm_isSymbol (v1 : Int) (v2 : Int) (s : iS) : Fm Prod.snd L_m_isSymbol G_m_isSymbol s (m_isSymbol v1 v2 s) := fm_gd (fm_if (fm_some md_refl) (fm_if (fm_some md_refl) (fm_gd (fm_bd (fm_sub (fm_isDigit _ _) (mem_sub_L rfl) (mem_sub_F rfl)) (fun r5 s5 => fm_gd (fm_if (fm_isSymbol_30 _ _ _ _ _) (fm_some md_refl)))))))
/-! m_address -/
def L_m_address : List Nat := [189, 190, 191, 192, 193]
def G_m_address : List (Nat × Nat) := [(121, 110), (121, 112)]
def m_address_21C (w : ev_W) (d : Nat) (v1 : Int) (v2 : Int) : (Int × Int × Int × iS) ⊕ (Int × Int × iS) → am_E → Prop := fun q r => q.elim (fun l => ev w d 431 21 ((fun l => [(0, .ref (tb_nK + 121)), (1, iv v1), (2, iv v2), (3, iv (l.1)), (4, iv (l.2.1)), (5, iv (l.2.2.1))]) l) [] (hT ((fun l => l.2.2.2) l)) r) (fun e => (fun e r => ev w d 431 70 [(0, .ref (tb_nK + 121)), (1, iv v1), (2, iv v2), (3, iv (e.1)), (4, iv (e.2.1))] [] (hT (e.2.2)) r) e r)
noncomputable def m_address_21b (v1 : Int) (v2 : Int) (v3 : Int) (v4 : Int) (v5 : Int) (s : iS) : Option ((Int × Int × Int × iS) ⊕ (Int × Int × iS)) := gd (rg v5) (gd (rg v2) (if v2 ≤ v5 then some (.inr (v3, v4, s)) else gd (rg v3) (if v3 = 0 then some (.inr (v3, v4, s)) else gd (0 ≤ (v1 + v5) ∧ (v1 + v5) < 4000) (bd (m_isDigit (s 123 (v1 + v5).toNat) s) (fun r7 s7 => some (.inl (r7, (((10 * v4) + (s7 123 (v1 + v5).toNat)) - 48), (v5 + 1), s7)))))))
theorem tm_address_21b (w : ev_W) (d : Nat) (hd : 4 ≤ d) (v1 : Int) (v2 : Int) (v3 : Int) (v4 : Int) (v5 : Int) (s : iS) : Ew hT w d 431 21 [(0, .ref (tb_nK + 121)), (1, iv v1), (2, iv v2), (3, iv v3), (4, iv v4), (5, iv v5)] [] s (m_address_21C w d v1 v2) (m_address_21b v1 v2 v3 v4 v5 s) := by
  unfold m_address_21b
  refine e_mv 23 em_431 (ce_at ce_431 13 rfl) rfl rfl ?_
  refine e_mv 24 em_431 (ce_at ce_431 14 rfl) rfl rfl ?_
  refine e_gd fun g1 => ?_
  refine e_gd fun g2 => ?_
  refine e_cmge 70 27 em_431 rfl rfl (ce_at ce_431 15 rfl) g1 g2 (fun h3 => ?_) (fun h3 => ?_)
  · refine e_pk [0, 1, 2, 3, 4] rfl rfl ?_
    exact e_out (fun r h => h)
  · refine e_mv 28 em_431 (ce_at ce_431 16 rfl) rfl rfl ?_
    refine e_gd fun g4 => ?_
    refine e_ifeq 70 31 em_431 rfl rfl (ce_at ce_431 17 rfl) g4 (fun h5 => ?_) (fun h5 => ?_)
    · refine e_pk [0, 1, 2, 3, 4] rfl rfl ?_
      exact e_out (fun r h => h)
    · refine e_mv 32 em_431 (ce_at ce_431 18 rfl) rfl rfl ?_
      refine e_getr 35 em_431 (ce_at ce_431 19 rfl) tq_121 rfl rfl ?_
      refine e_mv 36 em_431 (ce_at ce_431 20 rfl) rfl rfl ?_
      refine e_mv 38 em_431 (ce_at ce_431 21 rfl) rfl rfl ?_
      refine e_iadd 39 em_431 rfl (ce_at ce_431 22 rfl) ?_
      refine e_gd fun g6 => ?_
      refine e_ild 40 em_431 (ce_at ce_431 23 rfl) tq_123 (by decide) g6 rfl ?_
      refine e_ivi 43 em_431 (ce_at ce_431 24 rfl) (by omega) (iv_s1 rfl) em_308 (Nat.le_of_ble_eq_true rfl) rfl (tm_isDigit hT w (d - 1) (by omega) _ _) (fun r7 s7 => ?_)
      refine e_mv 44 em_431 (ce_at ce_431 25 rfl) rfl rfl ?_
      refine e_bip 46 em_431 (ce_at ce_431 26 rfl) (by decide) rfl ?_
      refine e_mv 48 em_431 (ce_at ce_431 27 rfl) rfl rfl ?_
      refine e_imul 49 em_431 rfl (ce_at ce_431 28 rfl) ?_
      refine e_mv 50 em_431 (ce_at ce_431 29 rfl) rfl rfl ?_
      refine e_getr 53 em_431 (ce_at ce_431 30 rfl) tq_121 rfl rfl ?_
      refine e_mv 54 em_431 (ce_at ce_431 31 rfl) rfl rfl ?_
      refine e_mv 56 em_431 (ce_at ce_431 32 rfl) rfl rfl ?_
      refine e_iadd 57 em_431 rfl (ce_at ce_431 33 rfl) ?_
      refine e_ild 58 em_431 (ce_at ce_431 34 rfl) tq_123 (by decide) g6 rfl ?_
      refine e_iadd 59 em_431 rfl (ce_at ce_431 35 rfl) ?_
      refine e_bip 61 em_431 (ce_at ce_431 36 rfl) (by decide) rfl ?_
      refine e_isub 62 em_431 rfl (ce_at ce_431 37 rfl) ?_
      refine e_mv 64 em_431 (ce_at ce_431 38 rfl) rfl rfl ?_
      refine e_iinc 67 em_431 (ce_at ce_431 39 rfl) rfl (by decide) rfl ?_
      refine e_goto em_431 21 (ce_at ce_431 40 rfl) rfl ?_
      refine e_pk [0, 1, 2, 3, 4, 5] rfl rfl ?_
      exact e_out (fun r h => h)
theorem fm_address_21b (v1 : Int) (v2 : Int) (v3 : Int) (v4 : Int) (v5 : Int) (s : iS) : Fm (fun r : (Int × Int × Int × iS) ⊕ (Int × Int × iS) => r.elim (fun l => l.2.2.2) (fun e => e.2.2)) L_m_address G_m_address s (m_address_21b v1 v2 v3 v4 v5 s) := fm_gd (fm_gd (fm_if (fm_some md_refl) (fm_gd (fm_if (fm_some md_refl) (fm_gd (fm_bd (fm_sub (fm_isDigit _ _) (mem_sub_L rfl) (mem_sub_F rfl)) (fun r7 s7 => fm_some md_refl)))))))
noncomputable def m_address_192 (t0 : Int) (t1 : Int) (s : iS) : Option (Int × iS) := gd (0 ≤ t1 ∧ t1 < 2000) (lt' (up s 189 t1.toNat t0) (fun s2 => lt' (up s2 121 110 ((s2 121 110) + 1)) (fun s3 => some (0, s3))))
theorem tm_address_192 (w : ev_W) (d : Nat) (hd : 4 ≤ d) (t0 : Int) (t1 : Int) (s : iS) : Ew hT w d 431 192 [(0, .ref (tb_nK + 121))] [iv t0, iv t1, .ref (tb_nK + 189)] s (Ci hT) (m_address_192 t0 t1 s) := by
  unfold m_address_192
  refine e_gd fun g1 => ?_
  refine e_ist 193 em_431 (ce_at ce_431 107 rfl) tq_189 (by decide) g1 rfl (fun s2 => ?_)
  refine e_mv 194 em_431 (ce_at ce_431 108 rfl) rfl rfl ?_
  refine e_mv 195 em_431 (ce_at ce_431 109 rfl) rfl rfl ?_
  refine e_get 198 em_431 (ce_at ce_431 110 rfl) tq_121 rfl rfl ?_
  refine e_op 199 em_431 (ce_at ce_431 111 rfl) rfl rfl ?_
  refine e_iadd 200 em_431 rfl (ce_at ce_431 112 rfl) ?_
  refine e_put 203 em_431 (ce_at ce_431 113 rfl) tq_121 rfl rfl rfl (fun s3 => ?_)
  refine e_op 204 em_431 (ce_at ce_431 114 rfl) rfl rfl ?_
  exact e_reti em_431 (ce_at ce_431 115 rfl)
theorem fm_address_192 (t0 : Int) (t1 : Int) (s : iS) : Fm Prod.snd L_m_address G_m_address s (m_address_192 t0 t1 s) := fm_gd (fm_lt (md_upL (mem_L rfl)) (fun s2 => fm_lt (md_upF (mem_F rfl)) (fun s3 => fm_some md_refl)))
noncomputable def m_address_172 (v5 : Int) (s : iS) : Option (Int × iS) := gd (rg v5) (if v5 = (-1) then m_address_192 0 (s 121 110) s else m_address_192 v5 (s 121 110) s)
theorem tm_address_172 (w : ev_W) (d : Nat) (hd : 4 ≤ d) (v5 : Int) (s : iS) : Ew hT w d 431 172 [(0, .ref (tb_nK + 121)), (5, iv v5)] [] s (Ci hT) (m_address_172 v5 s) := by
  unfold m_address_172
  refine e_mv 173 em_431 (ce_at ce_431 97 rfl) rfl rfl ?_
  refine e_getr 176 em_431 (ce_at ce_431 98 rfl) tq_121 rfl rfl ?_
  refine e_mv 177 em_431 (ce_at ce_431 99 rfl) rfl rfl ?_
  refine e_get 180 em_431 (ce_at ce_431 100 rfl) tq_121 rfl rfl ?_
  refine e_mv 182 em_431 (ce_at ce_431 101 rfl) rfl rfl ?_
  refine e_op 183 em_431 (ce_at ce_431 102 rfl) rfl rfl ?_
  refine e_gd fun g1 => ?_
  refine e_cmne 190 186 em_431 rfl rfl (ce_at ce_431 103 rfl) g1 (by decide) (fun h2 => ?_) (fun h2 => ?_)
  · refine e_mv 192 em_431 (ce_at ce_431 106 rfl) rfl rfl ?_
    refine e_pk [0] rfl rfl ?_
    exact tm_address_192 w d hd _ _ _
  · refine e_op 187 em_431 (ce_at ce_431 104 rfl) rfl rfl ?_
    refine e_goto em_431 192 (ce_at ce_431 105 rfl) rfl ?_
    refine e_pk [0] rfl rfl ?_
    exact tm_address_192 w d hd _ _ _
theorem fm_address_172 (v5 : Int) (s : iS) : Fm Prod.snd L_m_address G_m_address s (m_address_172 v5 s) := fm_gd (fm_if (fm_address_192 _ _ _) (fm_address_192 _ _ _))
noncomputable def m_address_134 (v1 : Int) (v2 : Int) (t0 : Int) (s : iS) : Option (Int × iS) := gd (rg t0) (if t0 = (-1) then bd (m_symbolOf v1 v2 s) (fun r3 s3 => gd (0 ≤ (s 121 110) ∧ (s 121 110) < 2000) (lt' (up s3 193 (s 121 110).toNat r3) (fun s5 => gd (0 ≤ (s5 121 110) ∧ (s5 121 110) < 2000) (gd (rg (s5 193 (s5 121 110).toNat)) (if (s5 193 (s5 121 110).toNat) = (-1) then some (2, s5) else m_address_172 t0 s5))))) else m_address_172 t0 s)
theorem tm_address_134 (w : ev_W) (d : Nat) (hd : 4 ≤ d) (v1 : Int) (v2 : Int) (t0 : Int) (s : iS) : Ew hT w d 431 134 [(0, .ref (tb_nK + 121)), (1, iv v1), (2, iv v2)] [iv t0] s (Ci hT) (m_address_134 v1 v2 t0 s) := by
  unfold m_address_134
  refine e_mv 136 em_431 (ce_at ce_431 75 rfl) rfl rfl ?_
  refine e_mv 138 em_431 (ce_at ce_431 76 rfl) rfl rfl ?_
  refine e_op 139 em_431 (ce_at ce_431 77 rfl) rfl rfl ?_
  refine e_gd fun g1 => ?_
  refine e_cmne 172 142 em_431 rfl rfl (ce_at ce_431 78 rfl) g1 (by decide) (fun h2 => ?_) (fun h2 => ?_)
  · refine e_pk [0, 5] rfl rfl ?_
    exact tm_address_172 w d hd _ _
  · refine e_mv 143 em_431 (ce_at ce_431 79 rfl) rfl rfl ?_
    refine e_getr 146 em_431 (ce_at ce_431 80 rfl) tq_121 rfl rfl ?_
    refine e_mv 147 em_431 (ce_at ce_431 81 rfl) rfl rfl ?_
    refine e_get 150 em_431 (ce_at ce_431 82 rfl) tq_121 rfl rfl ?_
    refine e_mv 151 em_431 (ce_at ce_431 83 rfl) rfl rfl ?_
    refine e_mv 152 em_431 (ce_at ce_431 84 rfl) rfl rfl ?_
    refine e_mv 153 em_431 (ce_at ce_431 85 rfl) rfl rfl ?_
    refine e_ivi 156 em_431 (ce_at ce_431 86 rfl) (by omega) (iv_v2 (by decide) tq_121 rfl) em_430 (Nat.le_of_ble_eq_true rfl) rfl (tm_symbolOf w (d - 1) (by omega) _ _ _) (fun r3 s3 => ?_)
    refine e_gd fun g4 => ?_
    refine e_ist 157 em_431 (ce_at ce_431 87 rfl) tq_193 (by decide) g4 rfl (fun s5 => ?_)
    refine e_mv 158 em_431 (ce_at ce_431 88 rfl) rfl rfl ?_
    refine e_getr 161 em_431 (ce_at ce_431 89 rfl) tq_121 rfl rfl ?_
    refine e_mv 162 em_431 (ce_at ce_431 90 rfl) rfl rfl ?_
    refine e_get 165 em_431 (ce_at ce_431 91 rfl) tq_121 rfl rfl ?_
    refine e_gd fun g6 => ?_
    refine e_ild 166 em_431 (ce_at ce_431 92 rfl) tq_193 (by decide) g6 rfl ?_
    refine e_op 167 em_431 (ce_at ce_431 93 rfl) rfl rfl ?_
    refine e_gd fun g7 => ?_
    refine e_cmne 172 170 em_431 rfl rfl (ce_at ce_431 94 rfl) g7 (by decide) (fun h8 => ?_) (fun h8 => ?_)
    · refine e_pk [0, 5] rfl rfl ?_
      exact tm_address_172 w d hd _ _
    · refine e_op 171 em_431 (ce_at ce_431 95 rfl) rfl rfl ?_
      exact e_reti em_431 (ce_at ce_431 96 rfl)
theorem fm_address_134 (v1 : Int) (v2 : Int) (t0 : Int) (s : iS) : Fm Prod.snd L_m_address G_m_address s (m_address_134 v1 v2 t0 s) := fm_gd (fm_if (fm_bd (fm_sub (fm_symbolOf _ _ _) (mem_sub_L rfl) (mem_sub_F rfl)) (fun r3 s3 => fm_gd (fm_lt (md_upL (mem_L rfl)) (fun s5 => fm_gd (fm_gd (fm_if (fm_some md_refl) (fm_address_172 _ _))))))) (fm_address_172 _ _))
noncomputable def m_address_97 (v1 : Int) (v2 : Int) (v3 : Int) (v4 : Int) (s : iS) : Option (Int × iS) := gd (rg (s 121 110)) (if (s 121 110) = 1500 then some (2, s) else gd (0 ≤ (s 121 110) ∧ (s 121 110) < 2000) (lt' (up s 193 (s 121 110).toNat (-1)) (fun s4 => gd (rg v3) (if v3 = 0 then bd (m_knownOf v1 v2 s4) (fun r7 s7 => m_address_134 v1 v2 r7 s7) else m_address_134 v1 v2 v4 s4))))
theorem tm_address_97 (w : ev_W) (d : Nat) (hd : 4 ≤ d) (v1 : Int) (v2 : Int) (v3 : Int) (v4 : Int) (s : iS) : Ew hT w d 431 97 [(0, .ref (tb_nK + 121)), (1, iv v1), (2, iv v2), (3, iv v3), (4, iv v4)] [] s (Ci hT) (m_address_97 v1 v2 v3 v4 s) := by
  unfold m_address_97
  refine e_mv 98 em_431 (ce_at ce_431 55 rfl) rfl rfl ?_
  refine e_get 101 em_431 (ce_at ce_431 56 rfl) tq_121 rfl rfl ?_
  refine e_sip 104 em_431 (ce_at ce_431 57 rfl) (by decide) rfl ?_
  refine e_gd fun g1 => ?_
  refine e_cmne 109 107 em_431 rfl rfl (ce_at ce_431 58 rfl) g1 (by decide) (fun h2 => ?_) (fun h2 => ?_)
  · refine e_mv 110 em_431 (ce_at ce_431 61 rfl) rfl rfl ?_
    refine e_getr 113 em_431 (ce_at ce_431 62 rfl) tq_121 rfl rfl ?_
    refine e_mv 114 em_431 (ce_at ce_431 63 rfl) rfl rfl ?_
    refine e_get 117 em_431 (ce_at ce_431 64 rfl) tq_121 rfl rfl ?_
    refine e_op 118 em_431 (ce_at ce_431 65 rfl) rfl rfl ?_
    refine e_gd fun g3 => ?_
    refine e_ist 119 em_431 (ce_at ce_431 66 rfl) tq_193 (by decide) g3 rfl (fun s4 => ?_)
    refine e_mv 120 em_431 (ce_at ce_431 67 rfl) rfl rfl ?_
    refine e_gd fun g5 => ?_
    refine e_ifeq 128 123 em_431 rfl rfl (ce_at ce_431 68 rfl) g5 (fun h6 => ?_) (fun h6 => ?_)
    · refine e_mv 129 em_431 (ce_at ce_431 71 rfl) rfl rfl ?_
      refine e_mv 130 em_431 (ce_at ce_431 72 rfl) rfl rfl ?_
      refine e_mv 131 em_431 (ce_at ce_431 73 rfl) rfl rfl ?_
      refine e_ivi 134 em_431 (ce_at ce_431 74 rfl) (by omega) (iv_v2 (by decide) tq_121 rfl) em_429 (Nat.le_of_ble_eq_true rfl) rfl (tm_knownOf w (d - 1) (by omega) _ _ _) (fun r7 s7 => ?_)
      refine e_pk [0, 1, 2] rfl rfl ?_
      exact tm_address_134 w d hd _ _ _ _
    · refine e_mv 125 em_431 (ce_at ce_431 69 rfl) rfl rfl ?_
      refine e_goto em_431 134 (ce_at ce_431 70 rfl) rfl ?_
      refine e_pk [0, 1, 2] rfl rfl ?_
      exact tm_address_134 w d hd _ _ _ _
  · refine e_op 108 em_431 (ce_at ce_431 59 rfl) rfl rfl ?_
    exact e_reti em_431 (ce_at ce_431 60 rfl)
theorem fm_address_97 (v1 : Int) (v2 : Int) (v3 : Int) (v4 : Int) (s : iS) : Fm Prod.snd L_m_address G_m_address s (m_address_97 v1 v2 v3 v4 s) := fm_gd (fm_if (fm_some md_refl) (fm_gd (fm_lt (md_upL (mem_L rfl)) (fun s4 => fm_gd (fm_if (fm_bd (fm_sub (fm_knownOf _ _ _) (mem_sub_L rfl) (mem_sub_F rfl)) (fun r7 s7 => fm_address_134 _ _ _ _)) (fm_address_134 _ _ _ _))))))
noncomputable def m_address_82 (v1 : Int) (v2 : Int) (v3 : Int) (v4 : Int) (s : iS) : Option (Int × iS) := gd (rg v3) (if v3 = 0 then bd (m_isSymbol v1 v2 s) (fun r3 s3 => gd (rg r3) (if r3 = 0 then some (1, s3) else m_address_97 v1 v2 v3 v4 s3)) else m_address_97 v1 v2 v3 v4 s)
theorem tm_address_82 (w : ev_W) (d : Nat) (hd : 4 ≤ d) (v1 : Int) (v2 : Int) (v3 : Int) (v4 : Int) (s : iS) : Ew hT w d 431 82 [(0, .ref (tb_nK + 121)), (1, iv v1), (2, iv v2), (3, iv v3), (4, iv v4)] [] s (Ci hT) (m_address_82 v1 v2 v3 v4 s) := by
  unfold m_address_82
  refine e_mv 83 em_431 (ce_at ce_431 46 rfl) rfl rfl ?_
  refine e_gd fun g1 => ?_
  refine e_ifne 97 86 em_431 rfl rfl (ce_at ce_431 47 rfl) g1 (fun h2 => ?_) (fun h2 => ?_)
  · refine e_pk [0, 1, 2, 3, 4] rfl rfl ?_
    exact tm_address_97 w d hd _ _ _ _ _
  · refine e_mv 87 em_431 (ce_at ce_431 48 rfl) rfl rfl ?_
    refine e_mv 88 em_431 (ce_at ce_431 49 rfl) rfl rfl ?_
    refine e_mv 89 em_431 (ce_at ce_431 50 rfl) rfl rfl ?_
    refine e_ivi 92 em_431 (ce_at ce_431 51 rfl) (by omega) (iv_v2 (by decide) tq_121 rfl) em_427 (Nat.le_of_ble_eq_true rfl) rfl (tm_isSymbol w (d - 1) (by omega) _ _ _) (fun r3 s3 => ?_)
    refine e_gd fun g4 => ?_
    refine e_ifne 97 95 em_431 rfl rfl (ce_at ce_431 52 rfl) g4 (fun h5 => ?_) (fun h5 => ?_)
    · refine e_pk [0, 1, 2, 3, 4] rfl rfl ?_
      exact tm_address_97 w d hd _ _ _ _ _
    · refine e_op 96 em_431 (ce_at ce_431 53 rfl) rfl rfl ?_
      exact e_reti em_431 (ce_at ce_431 54 rfl)
theorem fm_address_82 (v1 : Int) (v2 : Int) (v3 : Int) (v4 : Int) (s : iS) : Fm Prod.snd L_m_address G_m_address s (m_address_82 v1 v2 v3 v4 s) := fm_gd (fm_if (fm_bd (fm_sub (fm_isSymbol _ _ _) (mem_sub_L rfl) (mem_sub_F rfl)) (fun r3 s3 => fm_gd (fm_if (fm_some md_refl) (fm_address_97 _ _ _ _ _)))) (fm_address_97 _ _ _ _ _))
noncomputable def m_address_70 (v1 : Int) (v2 : Int) (v3 : Int) (v4 : Int) (s : iS) : Option (Int × iS) := gd (rg v3) (if v3 = 0 then m_address_82 v1 v2 v3 v4 s else gd (rg v4) (if 32767 < v4 then some (1, s) else m_address_82 v1 v2 v3 v4 s))
theorem tm_address_70 (w : ev_W) (d : Nat) (hd : 4 ≤ d) (v1 : Int) (v2 : Int) (v3 : Int) (v4 : Int) (s : iS) : Ew hT w d 431 70 [(0, .ref (tb_nK + 121)), (1, iv v1), (2, iv v2), (3, iv v3), (4, iv v4)] [] s (Ci hT) (m_address_70 v1 v2 v3 v4 s) := by
  unfold m_address_70
  refine e_mv 71 em_431 (ce_at ce_431 41 rfl) rfl rfl ?_
  refine e_gd fun g1 => ?_
  refine e_ifeq 82 74 em_431 rfl rfl (ce_at ce_431 42 rfl) g1 (fun h2 => ?_) (fun h2 => ?_)
  · refine e_pk [0, 1, 2, 3, 4] rfl rfl ?_
    exact tm_address_82 w d hd _ _ _ _ _
  · refine e_mv 76 em_431 (ce_at ce_431 43 rfl) rfl rfl ?_
    refine e_sip 79 em_431 (ce_at ce_431 44 rfl) (by decide) rfl ?_
    refine e_gd fun g3 => ?_
    refine e_cmgt 95 82 em_431 rfl rfl (ce_at ce_431 45 rfl) g3 (by decide) (fun h4 => ?_) (fun h4 => ?_)
    · refine e_op 96 em_431 (ce_at ce_431 53 rfl) rfl rfl ?_
      exact e_reti em_431 (ce_at ce_431 54 rfl)
    · refine e_pk [0, 1, 2, 3, 4] rfl rfl ?_
      exact tm_address_82 w d hd _ _ _ _ _
theorem fm_address_70 (v1 : Int) (v2 : Int) (v3 : Int) (v4 : Int) (s : iS) : Fm Prod.snd L_m_address G_m_address s (m_address_70 v1 v2 v3 v4 s) := fm_gd (fm_if (fm_address_82 _ _ _ _ _) (fm_gd (fm_if (fm_some md_refl) (fm_address_82 _ _ _ _ _))))
noncomputable def m_address_21 (v1 : Int) (v2 : Int) (v3 : Int) (v4 : Int) (v5 : Int) (s : iS) : Option (Int × iS) := (lp (L := Int × Int × Int × iS) (E := Int × Int × iS) (fun l => m_address_21b v1 v2 (l.1) (l.2.1) (l.2.2.1) (l.2.2.2)) (v3, v4, v5, s)).bind (fun e => m_address_70 v1 v2 (e.1) (e.2.1) (e.2.2))
theorem tm_address_21 (w : ev_W) (d : Nat) (hd : 4 ≤ d) (v1 : Int) (v2 : Int) (v3 : Int) (v4 : Int) (v5 : Int) (s : iS) : Ew hT w d 431 21 [(0, .ref (tb_nK + 121)), (1, iv v1), (2, iv v2), (3, iv v3), (4, iv v4), (5, iv v5)] [] s (Ci hT) (m_address_21 v1 v2 v3 v4 v5 s) := by
  unfold m_address_21
  refine e_lp (L := Int × Int × Int × iS) (E := Int × Int × iS) (LO := fun l => [(0, .ref (tb_nK + 121)), (1, iv v1), (2, iv v2), (3, iv (l.1)), (4, iv (l.2.1)), (5, iv (l.2.2.1))]) (LS := fun l => l.2.2.2) (CE := fun e r => ev w d 431 70 [(0, .ref (tb_nK + 121)), (1, iv v1), (2, iv v2), (3, iv (e.1)), (4, iv (e.2.1))] [] (hT (e.2.2)) r) (fun l => tm_address_21b w d hd _ _ _ _ _ _) ?_ (v3, v4, v5, s)
  intro e
  show Ew hT w d 431 70 [(0, .ref (tb_nK + 121)), (1, iv v1), (2, iv v2), (3, iv (e.1)), (4, iv (e.2.1))] [] e.2.2 (Ci hT) _
  refine e_pk [0, 1, 2, 3, 4] rfl rfl ?_
  exact tm_address_70 w d hd _ _ _ _ _
theorem fm_address_21 (v1 : Int) (v2 : Int) (v3 : Int) (v4 : Int) (v5 : Int) (s : iS) : Fm Prod.snd L_m_address G_m_address s (m_address_21 v1 v2 v3 v4 v5 s) := by
  unfold m_address_21
  refine fm_lp (A := Int × Int × Int × iS) (E := Int × Int × iS) (LS := fun l => l.2.2.2) (LE := fun e => e.2.2) ?_ ?_ (v3, v4, v5, s)
  · exact fun l => fm_address_21b _ _ _ _ _ _
  · exact (fun e => fm_address_70 _ _ _ _ _)
noncomputable def m_address_14 (v1 : Int) (v2 : Int) (t0 : Int) (s : iS) : Option (Int × iS) := m_address_21 v1 v2 t0 0 0 s
theorem tm_address_14 (w : ev_W) (d : Nat) (hd : 4 ≤ d) (v1 : Int) (v2 : Int) (t0 : Int) (s : iS) : Ew hT w d 431 14 [(0, .ref (tb_nK + 121)), (1, iv v1), (2, iv v2)] [iv t0] s (Ci hT) (m_address_14 v1 v2 t0 s) := by
  unfold m_address_14
  refine e_mv 15 em_431 (ce_at ce_431 8 rfl) rfl rfl ?_
  refine e_op 16 em_431 (ce_at ce_431 9 rfl) rfl rfl ?_
  refine e_mv 18 em_431 (ce_at ce_431 10 rfl) rfl rfl ?_
  refine e_op 19 em_431 (ce_at ce_431 11 rfl) rfl rfl ?_
  refine e_mv 21 em_431 (ce_at ce_431 12 rfl) rfl rfl ?_
  refine e_pk [0, 1, 2, 3, 4, 5] rfl rfl ?_
  exact tm_address_21 w d hd _ _ _ _ _ _
theorem fm_address_14 (v1 : Int) (v2 : Int) (t0 : Int) (s : iS) : Fm Prod.snd L_m_address G_m_address s (m_address_14 v1 v2 t0 s) := fm_address_21 _ _ _ _ _ _
noncomputable def m_address_13 (v1 : Int) (v2 : Int) (s : iS) : Option (Int × iS) := m_address_14 v1 v2 0 s
theorem tm_address_13 (w : ev_W) (d : Nat) (hd : 4 ≤ d) (v1 : Int) (v2 : Int) (s : iS) : Ew hT w d 431 13 [(0, .ref (tb_nK + 121)), (1, iv v1), (2, iv v2)] [] s (Ci hT) (m_address_13 v1 v2 s) := by
  unfold m_address_13
  refine e_op 14 em_431 (ce_at ce_431 7 rfl) rfl rfl ?_
  refine e_pk [0, 1, 2] rfl rfl ?_
  exact tm_address_14 w d hd _ _ _ _
theorem fm_address_13 (v1 : Int) (v2 : Int) (s : iS) : Fm Prod.snd L_m_address G_m_address s (m_address_13 v1 v2 s) := fm_address_14 _ _ _ _
noncomputable def m_address (v1 : Int) (v2 : Int) (s : iS) : Option (Int × iS) := gd (rg v2) (if v2 ≤ 0 then m_address_13 v1 v2 s else if 5 < v2 then m_address_13 v1 v2 s else m_address_14 v1 v2 1 s)
theorem tm_address (w : ev_W) (d : Nat) (hd : 4 ≤ d) (v1 : Int) (v2 : Int) (s : iS) : Ew hT w d 431 0 [(0, .ref (tb_nK + 121)), (1, iv v1), (2, iv v2)] [] s (Ci hT) (m_address v1 v2 s) := by
  unfold m_address
  refine e_mv 1 em_431 (ce_at ce_431 0 rfl) rfl rfl ?_
  refine e_gd fun g1 => ?_
  refine e_ifle 13 4 em_431 rfl rfl (ce_at ce_431 1 rfl) g1 (fun h2 => ?_) (fun h2 => ?_)
  · refine e_pk [0, 1, 2] rfl rfl ?_
    exact tm_address_13 w d hd _ _ _
  · refine e_mv 5 em_431 (ce_at ce_431 2 rfl) rfl rfl ?_
    refine e_op 6 em_431 (ce_at ce_431 3 rfl) rfl rfl ?_
    refine e_cmgt 13 9 em_431 rfl rfl (ce_at ce_431 4 rfl) g1 (by decide) (fun h3 => ?_) (fun h3 => ?_)
    · refine e_pk [0, 1, 2] rfl rfl ?_
      exact tm_address_13 w d hd _ _ _
    · refine e_op 10 em_431 (ce_at ce_431 5 rfl) rfl rfl ?_
      refine e_goto em_431 14 (ce_at ce_431 6 rfl) rfl ?_
      refine e_pk [0, 1, 2] rfl rfl ?_
      exact tm_address_14 w d hd _ _ _ _
theorem fm_address (v1 : Int) (v2 : Int) (s : iS) : Fm Prod.snd L_m_address G_m_address s (m_address v1 v2 s) := fm_gd (fm_if (fm_address_13 _ _ _) (fm_if (fm_address_13 _ _ _) (fm_address_14 _ _ _ _)))
/-! m_label -/
def L_m_label : List Nat := [190, 191, 192]
def G_m_label : List (Nat × Nat) := [(121, 112)]
noncomputable def m_label (v1 : Int) (v2 : Int) (s : iS) : Option (Int × iS) := gd (rg v2) (if v2 < 3 then some (1, s) else gd (0 ≤ ((v1 + v2) - 1) ∧ ((v1 + v2) - 1) < 4000) (gd (rg (s 123 ((v1 + v2) - 1).toNat)) (if (s 123 ((v1 + v2) - 1).toNat) = 41 then bd (m_isSymbol (v1 + 1) (v2 - 2) s) (fun r6 s6 => gd (rg r6) (if r6 = 0 then some (1, s6) else bd (m_knownOf (v1 + 1) (v2 - 2) s6) (fun r9 s9 => gd (rg r9) (if r9 = (-1) then bd (m_symbolOf (v1 + 1) (v2 - 2) s9) (fun r12 s12 => gd (rg r12) (if r12 = (-1) then some (2, s12) else gd (0 ≤ r12 ∧ r12 < 100) (gd (rg (s12 192 r12.toNat)) (if (s12 192 r12.toNat) = (-1) then lt' (up s12 192 r12.toNat (s12 121 110)) (fun s18 => some (0, s18)) else some (3, s12))))) else some (3, s9))))) else some (1, s))))
theorem tm_label (w : ev_W) (d : Nat) (hd : 4 ≤ d) (v1 : Int) (v2 : Int) (s : iS) : Ew hT w d 426 0 [(0, .ref (tb_nK + 121)), (1, iv v1), (2, iv v2)] [] s (Ci hT) (m_label v1 v2 s) := by
  unfold m_label
  refine e_mv 1 em_426 (ce_at ce_426 0 rfl) rfl rfl ?_
  refine e_op 2 em_426 (ce_at ce_426 1 rfl) rfl rfl ?_
  refine e_gd fun g1 => ?_
  refine e_cmlt 33 5 em_426 rfl rfl (ce_at ce_426 2 rfl) g1 (by decide) (fun h2 => ?_) (fun h2 => ?_)
  · refine e_op 34 em_426 (ce_at ce_426 22 rfl) rfl rfl ?_
    exact e_reti em_426 (ce_at ce_426 23 rfl)
  · refine e_mv 6 em_426 (ce_at ce_426 3 rfl) rfl rfl ?_
    refine e_getr 9 em_426 (ce_at ce_426 4 rfl) tq_121 rfl rfl ?_
    refine e_mv 10 em_426 (ce_at ce_426 5 rfl) rfl rfl ?_
    refine e_mv 11 em_426 (ce_at ce_426 6 rfl) rfl rfl ?_
    refine e_iadd 12 em_426 rfl (ce_at ce_426 7 rfl) ?_
    refine e_op 13 em_426 (ce_at ce_426 8 rfl) rfl rfl ?_
    refine e_isub 14 em_426 rfl (ce_at ce_426 9 rfl) ?_
    refine e_gd fun g3 => ?_
    refine e_ild 15 em_426 (ce_at ce_426 10 rfl) tq_123 (by decide) g3 rfl ?_
    refine e_bip 17 em_426 (ce_at ce_426 11 rfl) (by decide) rfl ?_
    refine e_gd fun g4 => ?_
    refine e_cmne 33 20 em_426 rfl rfl (ce_at ce_426 12 rfl) g4 (by decide) (fun h5 => ?_) (fun h5 => ?_)
    · refine e_op 34 em_426 (ce_at ce_426 22 rfl) rfl rfl ?_
      exact e_reti em_426 (ce_at ce_426 23 rfl)
    · refine e_mv 21 em_426 (ce_at ce_426 13 rfl) rfl rfl ?_
      refine e_mv 22 em_426 (ce_at ce_426 14 rfl) rfl rfl ?_
      refine e_op 23 em_426 (ce_at ce_426 15 rfl) rfl rfl ?_
      refine e_iadd 24 em_426 rfl (ce_at ce_426 16 rfl) ?_
      refine e_mv 25 em_426 (ce_at ce_426 17 rfl) rfl rfl ?_
      refine e_op 26 em_426 (ce_at ce_426 18 rfl) rfl rfl ?_
      refine e_isub 27 em_426 rfl (ce_at ce_426 19 rfl) ?_
      refine e_ivi 30 em_426 (ce_at ce_426 20 rfl) (by omega) (iv_v2 (by decide) tq_121 rfl) em_427 (Nat.le_of_ble_eq_true rfl) rfl (tm_isSymbol w (d - 1) (by omega) _ _ _) (fun r6 s6 => ?_)
      refine e_gd fun g7 => ?_
      refine e_ifne 35 33 em_426 rfl rfl (ce_at ce_426 21 rfl) g7 (fun h8 => ?_) (fun h8 => ?_)
      · refine e_mv 36 em_426 (ce_at ce_426 24 rfl) rfl rfl ?_
        refine e_mv 37 em_426 (ce_at ce_426 25 rfl) rfl rfl ?_
        refine e_op 38 em_426 (ce_at ce_426 26 rfl) rfl rfl ?_
        refine e_iadd 39 em_426 rfl (ce_at ce_426 27 rfl) ?_
        refine e_mv 40 em_426 (ce_at ce_426 28 rfl) rfl rfl ?_
        refine e_op 41 em_426 (ce_at ce_426 29 rfl) rfl rfl ?_
        refine e_isub 42 em_426 rfl (ce_at ce_426 30 rfl) ?_
        refine e_ivi 45 em_426 (ce_at ce_426 31 rfl) (by omega) (iv_v2 (by decide) tq_121 rfl) em_429 (Nat.le_of_ble_eq_true rfl) rfl (tm_knownOf w (d - 1) (by omega) _ _ _) (fun r9 s9 => ?_)
        refine e_op 46 em_426 (ce_at ce_426 32 rfl) rfl rfl ?_
        refine e_gd fun g10 => ?_
        refine e_cmeq 51 49 em_426 rfl rfl (ce_at ce_426 33 rfl) g10 (by decide) (fun h11 => ?_) (fun h11 => ?_)
        · refine e_mv 52 em_426 (ce_at ce_426 36 rfl) rfl rfl ?_
          refine e_mv 53 em_426 (ce_at ce_426 37 rfl) rfl rfl ?_
          refine e_op 54 em_426 (ce_at ce_426 38 rfl) rfl rfl ?_
          refine e_iadd 55 em_426 rfl (ce_at ce_426 39 rfl) ?_
          refine e_mv 56 em_426 (ce_at ce_426 40 rfl) rfl rfl ?_
          refine e_op 57 em_426 (ce_at ce_426 41 rfl) rfl rfl ?_
          refine e_isub 58 em_426 rfl (ce_at ce_426 42 rfl) ?_
          refine e_ivi 61 em_426 (ce_at ce_426 43 rfl) (by omega) (iv_v2 (by decide) tq_121 rfl) em_430 (Nat.le_of_ble_eq_true rfl) rfl (tm_symbolOf w (d - 1) (by omega) _ _ _) (fun r12 s12 => ?_)
          refine e_mv 62 em_426 (ce_at ce_426 44 rfl) rfl rfl ?_
          refine e_mv 63 em_426 (ce_at ce_426 45 rfl) rfl rfl ?_
          refine e_op 64 em_426 (ce_at ce_426 46 rfl) rfl rfl ?_
          refine e_gd fun g13 => ?_
          refine e_cmne 69 67 em_426 rfl rfl (ce_at ce_426 47 rfl) g13 (by decide) (fun h14 => ?_) (fun h14 => ?_)
          · refine e_mv 70 em_426 (ce_at ce_426 50 rfl) rfl rfl ?_
            refine e_getr 73 em_426 (ce_at ce_426 51 rfl) tq_121 rfl rfl ?_
            refine e_mv 74 em_426 (ce_at ce_426 52 rfl) rfl rfl ?_
            refine e_gd fun g15 => ?_
            refine e_ild 75 em_426 (ce_at ce_426 53 rfl) tq_192 (by decide) g15 rfl ?_
            refine e_op 76 em_426 (ce_at ce_426 54 rfl) rfl rfl ?_
            refine e_gd fun g16 => ?_
            refine e_cmeq 81 79 em_426 rfl rfl (ce_at ce_426 55 rfl) g16 (by decide) (fun h17 => ?_) (fun h17 => ?_)
            · refine e_mv 82 em_426 (ce_at ce_426 58 rfl) rfl rfl ?_
              refine e_getr 85 em_426 (ce_at ce_426 59 rfl) tq_121 rfl rfl ?_
              refine e_mv 86 em_426 (ce_at ce_426 60 rfl) rfl rfl ?_
              refine e_mv 87 em_426 (ce_at ce_426 61 rfl) rfl rfl ?_
              refine e_get 90 em_426 (ce_at ce_426 62 rfl) tq_121 rfl rfl ?_
              refine e_ist 91 em_426 (ce_at ce_426 63 rfl) tq_192 (by decide) g15 rfl (fun s18 => ?_)
              refine e_op 92 em_426 (ce_at ce_426 64 rfl) rfl rfl ?_
              exact e_reti em_426 (ce_at ce_426 65 rfl)
            · refine e_op 80 em_426 (ce_at ce_426 56 rfl) rfl rfl ?_
              exact e_reti em_426 (ce_at ce_426 57 rfl)
          · refine e_op 68 em_426 (ce_at ce_426 48 rfl) rfl rfl ?_
            exact e_reti em_426 (ce_at ce_426 49 rfl)
        · refine e_op 50 em_426 (ce_at ce_426 34 rfl) rfl rfl ?_
          exact e_reti em_426 (ce_at ce_426 35 rfl)
      · refine e_op 34 em_426 (ce_at ce_426 22 rfl) rfl rfl ?_
        exact e_reti em_426 (ce_at ce_426 23 rfl)
theorem fm_label (v1 : Int) (v2 : Int) (s : iS) : Fm Prod.snd L_m_label G_m_label s (m_label v1 v2 s) := fm_gd (fm_if (fm_some md_refl) (fm_gd (fm_gd (fm_if (fm_bd (fm_sub (fm_isSymbol _ _ _) (mem_sub_L rfl) (mem_sub_F rfl)) (fun r6 s6 => fm_gd (fm_if (fm_some md_refl) (fm_bd (fm_sub (fm_knownOf _ _ _) (mem_sub_L rfl) (mem_sub_F rfl)) (fun r9 s9 => fm_gd (fm_if (fm_bd (fm_sub (fm_symbolOf _ _ _) (mem_sub_L rfl) (mem_sub_F rfl)) (fun r12 s12 => fm_gd (fm_if (fm_some md_refl) (fm_gd (fm_gd (fm_if (fm_lt (md_upL (mem_L rfl)) (fun s18 => fm_some md_refl)) (fm_some md_refl))))))) (fm_some md_refl))))))) (fm_some md_refl)))))
/-! m_instruction -/
def L_m_instruction : List Nat := [189, 190, 191, 192, 193]
def G_m_instruction : List (Nat × Nat) := [(121, 110), (121, 112)]
noncomputable def m_instruction (v1 : Int) (v2 : Int) (v3 : Int) (s : iS) : Option (Int × iS) := gd (rg v3) (if v3 = 0 then gd (0 ≤ v1 ∧ v1 < 4000) (gd (rg (s 123 v1.toNat)) (if (s 123 v1.toNat) = 40 then bd (m_label v1 v2 s) (fun r9 s9 => some (r9, s9)) else if (s 123 v1.toNat) = 64 then bd (m_address (v1 + 1) (v2 - 1) s) (fun r8 s8 => some (r8, s8)) else bd (m_computes v1 v2 s) (fun r7 s7 => some (r7, s7)))) else some (1, s))
theorem tm_instruction (w : ev_W) (d : Nat) (hd : 5 ≤ d) (v1 : Int) (v2 : Int) (v3 : Int) (s : iS) : Ew hT w d 425 0 [(0, .ref (tb_nK + 121)), (1, iv v1), (2, iv v2), (3, iv v3)] [] s (Ci hT) (m_instruction v1 v2 v3 s) := by
  unfold m_instruction
  refine e_mv 1 em_425 (ce_at ce_425 0 rfl) rfl rfl ?_
  refine e_gd fun g1 => ?_
  refine e_ifeq 6 4 em_425 rfl rfl (ce_at ce_425 1 rfl) g1 (fun h2 => ?_) (fun h2 => ?_)
  · refine e_mv 7 em_425 (ce_at ce_425 4 rfl) rfl rfl ?_
    refine e_getr 10 em_425 (ce_at ce_425 5 rfl) tq_121 rfl rfl ?_
    refine e_mv 11 em_425 (ce_at ce_425 6 rfl) rfl rfl ?_
    refine e_gd fun g3 => ?_
    refine e_ild 12 em_425 (ce_at ce_425 7 rfl) tq_123 (by decide) g3 rfl ?_
    refine e_bip 14 em_425 (ce_at ce_425 8 rfl) (by decide) rfl ?_
    refine e_gd fun g4 => ?_
    refine e_cmne 24 17 em_425 rfl rfl (ce_at ce_425 9 rfl) g4 (by decide) (fun h5 => ?_) (fun h5 => ?_)
    · refine e_mv 25 em_425 (ce_at ce_425 15 rfl) rfl rfl ?_
      refine e_getr 28 em_425 (ce_at ce_425 16 rfl) tq_121 rfl rfl ?_
      refine e_mv 29 em_425 (ce_at ce_425 17 rfl) rfl rfl ?_
      refine e_ild 30 em_425 (ce_at ce_425 18 rfl) tq_123 (by decide) g3 rfl ?_
      refine e_bip 32 em_425 (ce_at ce_425 19 rfl) (by decide) rfl ?_
      refine e_cmne 48 35 em_425 rfl rfl (ce_at ce_425 20 rfl) g4 (by decide) (fun h6 => ?_) (fun h6 => ?_)
      · refine e_mv 49 em_425 (ce_at ce_425 30 rfl) rfl rfl ?_
        refine e_mv 50 em_425 (ce_at ce_425 31 rfl) rfl rfl ?_
        refine e_mv 51 em_425 (ce_at ce_425 32 rfl) rfl rfl ?_
        refine e_ivi 54 em_425 (ce_at ce_425 33 rfl) (by omega) (iv_v2 (by decide) tq_121 rfl) em_432 (Nat.le_of_ble_eq_true rfl) rfl (tm_computes w (d - 1) (by omega) _ _ _) (fun r7 s7 => ?_)
        exact e_reti em_425 (ce_at ce_425 34 rfl)
      · refine e_mv 36 em_425 (ce_at ce_425 21 rfl) rfl rfl ?_
        refine e_mv 37 em_425 (ce_at ce_425 22 rfl) rfl rfl ?_
        refine e_op 38 em_425 (ce_at ce_425 23 rfl) rfl rfl ?_
        refine e_iadd 39 em_425 rfl (ce_at ce_425 24 rfl) ?_
        refine e_mv 40 em_425 (ce_at ce_425 25 rfl) rfl rfl ?_
        refine e_op 41 em_425 (ce_at ce_425 26 rfl) rfl rfl ?_
        refine e_isub 42 em_425 rfl (ce_at ce_425 27 rfl) ?_
        refine e_ivi 45 em_425 (ce_at ce_425 28 rfl) (by omega) (iv_v2 (by decide) tq_121 rfl) em_431 (Nat.le_of_ble_eq_true rfl) rfl (tm_address w (d - 1) (by omega) _ _ _) (fun r8 s8 => ?_)
        refine e_goto em_425 54 (ce_at ce_425 29 rfl) rfl ?_
        exact e_reti em_425 (ce_at ce_425 34 rfl)
    · refine e_mv 18 em_425 (ce_at ce_425 10 rfl) rfl rfl ?_
      refine e_mv 19 em_425 (ce_at ce_425 11 rfl) rfl rfl ?_
      refine e_mv 20 em_425 (ce_at ce_425 12 rfl) rfl rfl ?_
      refine e_ivi 23 em_425 (ce_at ce_425 13 rfl) (by omega) (iv_v2 (by decide) tq_121 rfl) em_426 (Nat.le_of_ble_eq_true rfl) rfl (tm_label w (d - 1) (by omega) _ _ _) (fun r9 s9 => ?_)
      exact e_reti em_425 (ce_at ce_425 14 rfl)
  · refine e_op 5 em_425 (ce_at ce_425 2 rfl) rfl rfl ?_
    exact e_reti em_425 (ce_at ce_425 3 rfl)
theorem fm_instruction (v1 : Int) (v2 : Int) (v3 : Int) (s : iS) : Fm Prod.snd L_m_instruction G_m_instruction s (m_instruction v1 v2 v3 s) := fm_gd (fm_if (fm_gd (fm_gd (fm_if (fm_bd (fm_sub (fm_label _ _ _) (mem_sub_L rfl) (mem_sub_F rfl)) (fun r9 s9 => fm_some md_refl)) (fm_if (fm_bd (fm_sub (fm_address _ _ _) (mem_sub_L rfl) (mem_sub_F rfl)) (fun r8 s8 => fm_some md_refl)) (fm_bd (fm_sub (fm_computes _ _ _) (mem_sub_L rfl) (mem_sub_F rfl)) (fun r7 s7 => fm_some md_refl)))))) (fm_some md_refl))
/-! m_signs -/
def L_m_signs : List Nat := [123, 189, 190, 191, 192, 193, 194]
def G_m_signs : List (Nat × Nat) := [(121, 1), (121, 3), (121, 4), (121, 110), (121, 112), (121, 118), (121, 119), (121, 120), (121, 121)]
def m_signs_73C (w : ev_W) (d : Nat) (v2 : Int) (v3 : Int) : (Int × iS) ⊕ (Int × iS) → am_E → Prop := fun q r => q.elim (fun l => ev w d 422 73 ((fun l => [(0, .ref (tb_nK + 121)), (2, iv v2), (3, iv v3), (5, iv (l.1))]) l) [] (hT ((fun l => l.2) l)) r) (fun e => (fun e r => ev w d 422 141 [(0, .ref (tb_nK + 121)), (2, iv v2), (3, iv v3), (5, iv (e.1))] [] (hT (e.2)) r) e r)
noncomputable def m_signs_73b (v2 : Int) (v3 : Int) (v5 : Int) (s : iS) : Option ((Int × iS) ⊕ (Int × iS)) := gd (rg v5) (gd (rg (s 121 3)) (if (s 121 3) ≤ v5 then some (.inr (v5, s)) else gd (0 ≤ v5 ∧ v5 < 4000) (gd (rg (s 123 v5.toNat)) (if (s 123 v5.toNat) = 10 then some (.inr (v5, s)) else bd (m_isBlank (s 123 v5.toNat) s) (fun r7 s7 => gd (rg r7) (if r7 = 0 then gd (rg (s7 123 v5.toNat)) (if (s7 123 v5.toNat) = 47 then bd (m_at (v5 + 1) s7) (fun r12 s12 => gd (rg r12) (if r12 = 47 then some (.inr (v5, s12)) else some (.inl ((v5 + 1), s12)))) else some (.inl ((v5 + 1), s7))) else some (.inr (v5, s7))))))))
theorem tm_signs_73b (w : ev_W) (d : Nat) (hd : 6 ≤ d) (v2 : Int) (v3 : Int) (v5 : Int) (s : iS) : Ew hT w d 422 73 [(0, .ref (tb_nK + 121)), (2, iv v2), (3, iv v3), (5, iv v5)] [] s (m_signs_73C w d v2 v3) (m_signs_73b v2 v3 v5 s) := by
  unfold m_signs_73b
  refine e_mv 75 em_422 (ce_at ce_422 42 rfl) rfl rfl ?_
  refine e_mv 76 em_422 (ce_at ce_422 43 rfl) rfl rfl ?_
  refine e_get 79 em_422 (ce_at ce_422 44 rfl) tq_121 rfl rfl ?_
  refine e_gd fun g1 => ?_
  refine e_gd fun g2 => ?_
  refine e_cmge 141 82 em_422 rfl rfl (ce_at ce_422 45 rfl) g1 g2 (fun h3 => ?_) (fun h3 => ?_)
  · refine e_pk [0, 2, 3, 5] rfl rfl ?_
    exact e_out (fun r h => h)
  · refine e_mv 83 em_422 (ce_at ce_422 46 rfl) rfl rfl ?_
    refine e_getr 86 em_422 (ce_at ce_422 47 rfl) tq_121 rfl rfl ?_
    refine e_mv 88 em_422 (ce_at ce_422 48 rfl) rfl rfl ?_
    refine e_gd fun g4 => ?_
    refine e_ild 89 em_422 (ce_at ce_422 49 rfl) tq_123 (by decide) g4 rfl ?_
    refine e_bip 91 em_422 (ce_at ce_422 50 rfl) (by decide) rfl ?_
    refine e_gd fun g5 => ?_
    refine e_cmeq 141 94 em_422 rfl rfl (ce_at ce_422 51 rfl) g5 (by decide) (fun h6 => ?_) (fun h6 => ?_)
    · refine e_pk [0, 2, 3, 5] rfl rfl ?_
      exact e_out (fun r h => h)
    · refine e_mv 95 em_422 (ce_at ce_422 52 rfl) rfl rfl ?_
      refine e_getr 98 em_422 (ce_at ce_422 53 rfl) tq_121 rfl rfl ?_
      refine e_mv 100 em_422 (ce_at ce_422 54 rfl) rfl rfl ?_
      refine e_ild 101 em_422 (ce_at ce_422 55 rfl) tq_123 (by decide) g4 rfl ?_
      refine e_ivi 104 em_422 (ce_at ce_422 56 rfl) (by omega) (iv_s1 rfl) em_424 (Nat.le_of_ble_eq_true rfl) rfl (tm_isBlank hT w (d - 1) (by omega) _ _) (fun r7 s7 => ?_)
      refine e_gd fun g8 => ?_
      refine e_ifne 141 107 em_422 rfl rfl (ce_at ce_422 57 rfl) g8 (fun h9 => ?_) (fun h9 => ?_)
      · refine e_pk [0, 2, 3, 5] rfl rfl ?_
        exact e_out (fun r h => h)
      · refine e_mv 108 em_422 (ce_at ce_422 58 rfl) rfl rfl ?_
        refine e_getr 111 em_422 (ce_at ce_422 59 rfl) tq_121 rfl rfl ?_
        refine e_mv 113 em_422 (ce_at ce_422 60 rfl) rfl rfl ?_
        refine e_ild 114 em_422 (ce_at ce_422 61 rfl) tq_123 (by decide) g4 rfl ?_
        refine e_bip 116 em_422 (ce_at ce_422 62 rfl) (by decide) rfl ?_
        refine e_gd fun g10 => ?_
        refine e_cmne 132 119 em_422 rfl rfl (ce_at ce_422 63 rfl) g10 (by decide) (fun h11 => ?_) (fun h11 => ?_)
        · refine e_mv 134 em_422 (ce_at ce_422 71 rfl) rfl rfl ?_
          refine e_op 135 em_422 (ce_at ce_422 72 rfl) rfl rfl ?_
          refine e_iadd 136 em_422 rfl (ce_at ce_422 73 rfl) ?_
          refine e_mv 138 em_422 (ce_at ce_422 74 rfl) rfl rfl ?_
          refine e_goto em_422 73 (ce_at ce_422 75 rfl) rfl ?_
          refine e_pk [0, 2, 3, 5] rfl rfl ?_
          exact e_out (fun r h => h)
        · refine e_mv 120 em_422 (ce_at ce_422 64 rfl) rfl rfl ?_
          refine e_mv 122 em_422 (ce_at ce_422 65 rfl) rfl rfl ?_
          refine e_op 123 em_422 (ce_at ce_422 66 rfl) rfl rfl ?_
          refine e_iadd 124 em_422 rfl (ce_at ce_422 67 rfl) ?_
          refine e_ivi 127 em_422 (ce_at ce_422 68 rfl) (by omega) (iv_v1 (by decide) tq_121 rfl) em_302 (Nat.le_of_ble_eq_true rfl) rfl (tm_at w (d - 1) (by omega) _ _) (fun r12 s12 => ?_)
          refine e_bip 129 em_422 (ce_at ce_422 69 rfl) (by decide) rfl ?_
          refine e_gd fun g13 => ?_
          refine e_cmeq 141 132 em_422 rfl rfl (ce_at ce_422 70 rfl) g13 (by decide) (fun h14 => ?_) (fun h14 => ?_)
          · refine e_pk [0, 2, 3, 5] rfl rfl ?_
            exact e_out (fun r h => h)
          · refine e_mv 134 em_422 (ce_at ce_422 71 rfl) rfl rfl ?_
            refine e_op 135 em_422 (ce_at ce_422 72 rfl) rfl rfl ?_
            refine e_iadd 136 em_422 rfl (ce_at ce_422 73 rfl) ?_
            refine e_mv 138 em_422 (ce_at ce_422 74 rfl) rfl rfl ?_
            refine e_goto em_422 73 (ce_at ce_422 75 rfl) rfl ?_
            refine e_pk [0, 2, 3, 5] rfl rfl ?_
            exact e_out (fun r h => h)
theorem fm_signs_73b (v2 : Int) (v3 : Int) (v5 : Int) (s : iS) : Fm (fun r : (Int × iS) ⊕ (Int × iS) => r.elim (fun l => l.2) (fun e => e.2)) L_m_signs G_m_signs s (m_signs_73b v2 v3 v5 s) := fm_gd (fm_gd (fm_if (fm_some md_refl) (fm_gd (fm_gd (fm_if (fm_some md_refl) (fm_bd (fm_sub (fm_isBlank _ _) (mem_sub_L rfl) (mem_sub_F rfl)) (fun r7 s7 => fm_gd (fm_if (fm_gd (fm_if (fm_bd (fm_sub (fm_at _ _) (mem_sub_L rfl) (mem_sub_F rfl)) (fun r12 s12 => fm_gd (fm_if (fm_some md_refl) (fm_some md_refl)))) (fm_some md_refl))) (fm_some md_refl)))))))))
def m_signs_147C (w : ev_W) (d : Nat) (v2 : Int) : (Int × iS) ⊕ (Int × iS) → am_E → Prop := fun q r => q.elim (fun l => ev w d 422 147 ((fun l => [(0, .ref (tb_nK + 121)), (2, iv v2), (3, iv (l.1))]) l) [] (hT ((fun l => l.2) l)) r) (fun e => (fun e r => ev w d 422 23 [(0, .ref (tb_nK + 121)), (2, iv v2), (3, iv (e.1))] [] (hT (e.2)) r) e r)
noncomputable def m_signs_147b (v2 : Int) (v3 : Int) (s : iS) : Option ((Int × iS) ⊕ (Int × iS)) := gd (rg v3) (gd (rg (s 121 3)) (if (s 121 3) ≤ v3 then some (.inr (v3, s)) else gd (0 ≤ v3 ∧ v3 < 4000) (gd (rg (s 123 v3.toNat)) (if (s 123 v3.toNat) = 10 then some (.inr (v3, s)) else some (.inl ((v3 + 1), s))))))
theorem tm_signs_147b (w : ev_W) (d : Nat) (hd : 6 ≤ d) (v2 : Int) (v3 : Int) (s : iS) : Ew hT w d 422 147 [(0, .ref (tb_nK + 121)), (2, iv v2), (3, iv v3)] [] s (m_signs_147C w d v2) (m_signs_147b v2 v3 s) := by
  unfold m_signs_147b
  refine e_mv 148 em_422 (ce_at ce_422 79 rfl) rfl rfl ?_
  refine e_mv 149 em_422 (ce_at ce_422 80 rfl) rfl rfl ?_
  refine e_get 152 em_422 (ce_at ce_422 81 rfl) tq_121 rfl rfl ?_
  refine e_gd fun g1 => ?_
  refine e_gd fun g2 => ?_
  refine e_cmge 23 155 em_422 rfl rfl (ce_at ce_422 82 rfl) g1 g2 (fun h3 => ?_) (fun h3 => ?_)
  · refine e_pk [0, 2, 3] rfl rfl ?_
    exact e_out (fun r h => h)
  · refine e_mv 156 em_422 (ce_at ce_422 83 rfl) rfl rfl ?_
    refine e_getr 159 em_422 (ce_at ce_422 84 rfl) tq_121 rfl rfl ?_
    refine e_mv 160 em_422 (ce_at ce_422 85 rfl) rfl rfl ?_
    refine e_gd fun g4 => ?_
    refine e_ild 161 em_422 (ce_at ce_422 86 rfl) tq_123 (by decide) g4 rfl ?_
    refine e_bip 163 em_422 (ce_at ce_422 87 rfl) (by decide) rfl ?_
    refine e_gd fun g5 => ?_
    refine e_cmeq 23 166 em_422 rfl rfl (ce_at ce_422 88 rfl) g5 (by decide) (fun h6 => ?_) (fun h6 => ?_)
    · refine e_pk [0, 2, 3] rfl rfl ?_
      exact e_out (fun r h => h)
    · refine e_mv 167 em_422 (ce_at ce_422 89 rfl) rfl rfl ?_
      refine e_op 168 em_422 (ce_at ce_422 90 rfl) rfl rfl ?_
      refine e_iadd 169 em_422 rfl (ce_at ce_422 91 rfl) ?_
      refine e_mv 170 em_422 (ce_at ce_422 92 rfl) rfl rfl ?_
      refine e_goto em_422 147 (ce_at ce_422 93 rfl) rfl ?_
      refine e_pk [0, 2, 3] rfl rfl ?_
      exact e_out (fun r h => h)
theorem fm_signs_147b (v2 : Int) (v3 : Int) (s : iS) : Fm (fun r : (Int × iS) ⊕ (Int × iS) => r.elim (fun l => l.2) (fun e => e.2)) L_m_signs G_m_signs s (m_signs_147b v2 v3 s) := fm_gd (fm_gd (fm_if (fm_some md_refl) (fm_gd (fm_gd (fm_if (fm_some md_refl) (fm_some md_refl))))))
def m_signs_23C (w : ev_W) (d : Nat) : (Int × Int × iS) ⊕ ((Int × Int × iS) ⊕ (iS)) → am_E → Prop := fun q r => q.elim (fun l => ev w d 422 23 ((fun l => [(0, .ref (tb_nK + 121)), (2, iv (l.1)), (3, iv (l.2.1))]) l) [] (hT ((fun l => l.2.2) l)) r) (fun e => (fun e r => e.elim (fun e => ev w d 422 190 [(0, .ref (tb_nK + 121)), (3, iv (e.1)), (6, iv (e.2.1))] [] (hT (e.2.2)) r) (fun e => ev w d 422 216 [(0, .ref (tb_nK + 121))] [] (hT (e)) r)) e r)
noncomputable def m_signs_147 (v2 : Int) (v3 : Int) (s : iS) : Option ((Int × Int × iS) ⊕ ((Int × Int × iS) ⊕ (iS))) := (lp (L := Int × iS) (E := Int × iS) (fun l => m_signs_147b v2 (l.1) (l.2)) (v3, s)).bind (fun e => some (.inl (v2, e.1, e.2)))
theorem tm_signs_147 (w : ev_W) (d : Nat) (hd : 6 ≤ d) (v2 : Int) (v3 : Int) (s : iS) : Ew hT w d 422 147 [(0, .ref (tb_nK + 121)), (2, iv v2), (3, iv v3)] [] s (m_signs_23C w d) (m_signs_147 v2 v3 s) := by
  unfold m_signs_147
  refine e_lp (L := Int × iS) (E := Int × iS) (LO := fun l => [(0, .ref (tb_nK + 121)), (2, iv v2), (3, iv (l.1))]) (LS := fun l => l.2) (CE := fun e r => ev w d 422 23 [(0, .ref (tb_nK + 121)), (2, iv v2), (3, iv (e.1))] [] (hT (e.2)) r) (fun l => tm_signs_147b w d hd _ _ _) ?_ (v3, s)
  intro e
  show Ew hT w d 422 23 [(0, .ref (tb_nK + 121)), (2, iv v2), (3, iv (e.1))] [] e.2 (m_signs_23C w d) _
  refine e_pk [0, 2, 3] rfl rfl ?_
  exact e_out (fun r h => h)
theorem fm_signs_147 (v2 : Int) (v3 : Int) (s : iS) : Fm (fun r : (Int × Int × iS) ⊕ ((Int × Int × iS) ⊕ (iS)) => r.elim (fun l => l.2.2) (fun e => e.elim (fun e => e.2.2) (fun e => e))) L_m_signs G_m_signs s (m_signs_147 v2 v3 s) := by
  unfold m_signs_147
  refine fm_lp (A := Int × iS) (E := Int × iS) (LS := fun l => l.2) (LE := fun e => e.2) ?_ ?_ (v3, s)
  · exact fun l => fm_signs_147b _ _ _
  · exact (fun e => fm_some md_refl)
noncomputable def m_signs_141 (v2 : Int) (v3 : Int) (v5 : Int) (s : iS) : Option ((Int × Int × iS) ⊕ ((Int × Int × iS) ⊕ (iS))) := gd (rg v5) (gd (rg v3) (if v5 = v3 then m_signs_147 v2 v3 s else bd (m_instruction v3 (v5 - v3) v2 s) (fun r4 s4 => gd (rg r4) (if r4 ≤ 0 then some (.inl (1, v5, s4)) else some (.inr (.inl (v3, r4, s4)))))))
theorem tm_signs_141 (w : ev_W) (d : Nat) (hd : 6 ≤ d) (v2 : Int) (v3 : Int) (v5 : Int) (s : iS) : Ew hT w d 422 141 [(0, .ref (tb_nK + 121)), (2, iv v2), (3, iv v3), (5, iv v5)] [] s (m_signs_23C w d) (m_signs_141 v2 v3 v5 s) := by
  unfold m_signs_141
  refine e_mv 143 em_422 (ce_at ce_422 76 rfl) rfl rfl ?_
  refine e_mv 144 em_422 (ce_at ce_422 77 rfl) rfl rfl ?_
  refine e_gd fun g1 => ?_
  refine e_gd fun g2 => ?_
  refine e_cmne 173 147 em_422 rfl rfl (ce_at ce_422 78 rfl) g1 g2 (fun h3 => ?_) (fun h3 => ?_)
  · refine e_mv 174 em_422 (ce_at ce_422 94 rfl) rfl rfl ?_
    refine e_mv 175 em_422 (ce_at ce_422 95 rfl) rfl rfl ?_
    refine e_mv 177 em_422 (ce_at ce_422 96 rfl) rfl rfl ?_
    refine e_mv 178 em_422 (ce_at ce_422 97 rfl) rfl rfl ?_
    refine e_isub 179 em_422 rfl (ce_at ce_422 98 rfl) ?_
    refine e_mv 180 em_422 (ce_at ce_422 99 rfl) rfl rfl ?_
    refine e_ivi 183 em_422 (ce_at ce_422 100 rfl) (by omega) (iv_v3 (by decide) tq_121 rfl) em_425 (Nat.le_of_ble_eq_true rfl) rfl (tm_instruction w (d - 1) (by omega) _ _ _ _) (fun r4 s4 => ?_)
    refine e_mv 185 em_422 (ce_at ce_422 101 rfl) rfl rfl ?_
    refine e_mv 187 em_422 (ce_at ce_422 102 rfl) rfl rfl ?_
    refine e_gd fun g5 => ?_
    refine e_ifle 208 190 em_422 rfl rfl (ce_at ce_422 103 rfl) g5 (fun h6 => ?_) (fun h6 => ?_)
    · refine e_op 209 em_422 (ce_at ce_422 115 rfl) rfl rfl ?_
      refine e_mv 210 em_422 (ce_at ce_422 116 rfl) rfl rfl ?_
      refine e_mv 212 em_422 (ce_at ce_422 117 rfl) rfl rfl ?_
      refine e_mv 213 em_422 (ce_at ce_422 118 rfl) rfl rfl ?_
      refine e_goto em_422 23 (ce_at ce_422 119 rfl) rfl ?_
      refine e_pk [0, 2, 3] rfl rfl ?_
      exact e_out (fun r h => h)
    · refine e_pk [0, 3, 6] rfl rfl ?_
      exact e_out (fun r h => h)
  · refine e_pk [0, 2, 3] rfl rfl ?_
    exact tm_signs_147 w d hd _ _ _
theorem fm_signs_141 (v2 : Int) (v3 : Int) (v5 : Int) (s : iS) : Fm (fun r : (Int × Int × iS) ⊕ ((Int × Int × iS) ⊕ (iS)) => r.elim (fun l => l.2.2) (fun e => e.elim (fun e => e.2.2) (fun e => e))) L_m_signs G_m_signs s (m_signs_141 v2 v3 v5 s) := fm_gd (fm_gd (fm_if (fm_signs_147 _ _ _) (fm_bd (fm_sub (fm_instruction _ _ _ _) (mem_sub_L rfl) (mem_sub_F rfl)) (fun r4 s4 => fm_gd (fm_if (fm_some md_refl) (fm_some md_refl))))))
noncomputable def m_signs_73 (v2 : Int) (v3 : Int) (v5 : Int) (s : iS) : Option ((Int × Int × iS) ⊕ ((Int × Int × iS) ⊕ (iS))) := (lp (L := Int × iS) (E := Int × iS) (fun l => m_signs_73b v2 v3 (l.1) (l.2)) (v5, s)).bind (fun e => m_signs_141 v2 v3 (e.1) (e.2))
theorem tm_signs_73 (w : ev_W) (d : Nat) (hd : 6 ≤ d) (v2 : Int) (v3 : Int) (v5 : Int) (s : iS) : Ew hT w d 422 73 [(0, .ref (tb_nK + 121)), (2, iv v2), (3, iv v3), (5, iv v5)] [] s (m_signs_23C w d) (m_signs_73 v2 v3 v5 s) := by
  unfold m_signs_73
  refine e_lp (L := Int × iS) (E := Int × iS) (LO := fun l => [(0, .ref (tb_nK + 121)), (2, iv v2), (3, iv v3), (5, iv (l.1))]) (LS := fun l => l.2) (CE := fun e r => ev w d 422 141 [(0, .ref (tb_nK + 121)), (2, iv v2), (3, iv v3), (5, iv (e.1))] [] (hT (e.2)) r) (fun l => tm_signs_73b w d hd _ _ _ _) ?_ (v5, s)
  intro e
  show Ew hT w d 422 141 [(0, .ref (tb_nK + 121)), (2, iv v2), (3, iv v3), (5, iv (e.1))] [] e.2 (m_signs_23C w d) _
  refine e_pk [0, 2, 3, 5] rfl rfl ?_
  exact tm_signs_141 w d hd _ _ _ _
theorem fm_signs_73 (v2 : Int) (v3 : Int) (v5 : Int) (s : iS) : Fm (fun r : (Int × Int × iS) ⊕ ((Int × Int × iS) ⊕ (iS)) => r.elim (fun l => l.2.2) (fun e => e.elim (fun e => e.2.2) (fun e => e))) L_m_signs G_m_signs s (m_signs_73 v2 v3 v5 s) := by
  unfold m_signs_73
  refine fm_lp (A := Int × iS) (E := Int × iS) (LS := fun l => l.2) (LE := fun e => e.2) ?_ ?_ (v5, s)
  · exact fun l => fm_signs_73b _ _ _ _
  · exact (fun e => fm_signs_141 _ _ _ _)
noncomputable def m_signs_48 (v2 : Int) (v3 : Int) (v4 : Int) (s : iS) : Option ((Int × Int × iS) ⊕ ((Int × Int × iS) ⊕ (iS))) := gd (rg v4) (if v4 = 10 then some (.inl (v2, (v3 + 1), s)) else bd (m_isBlank v4 s) (fun r3 s3 => gd (rg r3) (if r3 = 0 then m_signs_73 v2 v3 v3 s3 else some (.inl (v2, (v3 + 1), s3)))))
theorem tm_signs_48 (w : ev_W) (d : Nat) (hd : 6 ≤ d) (v2 : Int) (v3 : Int) (v4 : Int) (s : iS) : Ew hT w d 422 48 [(0, .ref (tb_nK + 121)), (2, iv v2), (3, iv v3), (4, iv v4)] [] s (m_signs_23C w d) (m_signs_48 v2 v3 v4 s) := by
  unfold m_signs_48
  refine e_mv 50 em_422 (ce_at ce_422 29 rfl) rfl rfl ?_
  refine e_bip 52 em_422 (ce_at ce_422 30 rfl) (by decide) rfl ?_
  refine e_gd fun g1 => ?_
  refine e_cmeq 63 55 em_422 rfl rfl (ce_at ce_422 31 rfl) g1 (by decide) (fun h2 => ?_) (fun h2 => ?_)
  · refine e_mv 64 em_422 (ce_at ce_422 35 rfl) rfl rfl ?_
    refine e_op 65 em_422 (ce_at ce_422 36 rfl) rfl rfl ?_
    refine e_iadd 66 em_422 rfl (ce_at ce_422 37 rfl) ?_
    refine e_mv 67 em_422 (ce_at ce_422 38 rfl) rfl rfl ?_
    refine e_goto em_422 23 (ce_at ce_422 39 rfl) rfl ?_
    refine e_pk [0, 2, 3] rfl rfl ?_
    exact e_out (fun r h => h)
  · refine e_mv 57 em_422 (ce_at ce_422 32 rfl) rfl rfl ?_
    refine e_ivi 60 em_422 (ce_at ce_422 33 rfl) (by omega) (iv_s1 rfl) em_424 (Nat.le_of_ble_eq_true rfl) rfl (tm_isBlank hT w (d - 1) (by omega) _ _) (fun r3 s3 => ?_)
    refine e_gd fun g4 => ?_
    refine e_ifeq 70 63 em_422 rfl rfl (ce_at ce_422 34 rfl) g4 (fun h5 => ?_) (fun h5 => ?_)
    · refine e_mv 71 em_422 (ce_at ce_422 40 rfl) rfl rfl ?_
      refine e_mv 73 em_422 (ce_at ce_422 41 rfl) rfl rfl ?_
      refine e_pk [0, 2, 3, 5] rfl rfl ?_
      exact tm_signs_73 w d hd _ _ _ _
    · refine e_mv 64 em_422 (ce_at ce_422 35 rfl) rfl rfl ?_
      refine e_op 65 em_422 (ce_at ce_422 36 rfl) rfl rfl ?_
      refine e_iadd 66 em_422 rfl (ce_at ce_422 37 rfl) ?_
      refine e_mv 67 em_422 (ce_at ce_422 38 rfl) rfl rfl ?_
      refine e_goto em_422 23 (ce_at ce_422 39 rfl) rfl ?_
      refine e_pk [0, 2, 3] rfl rfl ?_
      exact e_out (fun r h => h)
theorem fm_signs_48 (v2 : Int) (v3 : Int) (v4 : Int) (s : iS) : Fm (fun r : (Int × Int × iS) ⊕ ((Int × Int × iS) ⊕ (iS)) => r.elim (fun l => l.2.2) (fun e => e.elim (fun e => e.2.2) (fun e => e))) L_m_signs G_m_signs s (m_signs_48 v2 v3 v4 s) := fm_gd (fm_if (fm_some md_refl) (fm_bd (fm_sub (fm_isBlank _ _) (mem_sub_L rfl) (mem_sub_F rfl)) (fun r3 s3 => fm_gd (fm_if (fm_signs_73 _ _ _ _) (fm_some md_refl)))))
noncomputable def m_signs_23b (v2 : Int) (v3 : Int) (s : iS) : Option ((Int × Int × iS) ⊕ ((Int × Int × iS) ⊕ (iS))) := gd (rg v3) (gd (rg (s 121 3)) (if (s 121 3) ≤ v3 then some (.inr (.inr s)) else gd (0 ≤ v3 ∧ v3 < 4000) (gd (rg (s 123 v3.toNat)) (if (s 123 v3.toNat) = 10 then m_signs_48 0 v3 (s 123 v3.toNat) s else m_signs_48 v2 v3 (s 123 v3.toNat) s))))
theorem tm_signs_23b (w : ev_W) (d : Nat) (hd : 6 ≤ d) (v2 : Int) (v3 : Int) (s : iS) : Ew hT w d 422 23 [(0, .ref (tb_nK + 121)), (2, iv v2), (3, iv v3)] [] s (m_signs_23C w d) (m_signs_23b v2 v3 s) := by
  unfold m_signs_23b
  refine e_mv 24 em_422 (ce_at ce_422 15 rfl) rfl rfl ?_
  refine e_mv 25 em_422 (ce_at ce_422 16 rfl) rfl rfl ?_
  refine e_get 28 em_422 (ce_at ce_422 17 rfl) tq_121 rfl rfl ?_
  refine e_gd fun g1 => ?_
  refine e_gd fun g2 => ?_
  refine e_cmge 216 31 em_422 rfl rfl (ce_at ce_422 18 rfl) g1 g2 (fun h3 => ?_) (fun h3 => ?_)
  · refine e_pk [0] rfl rfl ?_
    exact e_out (fun r h => h)
  · refine e_mv 32 em_422 (ce_at ce_422 19 rfl) rfl rfl ?_
    refine e_getr 35 em_422 (ce_at ce_422 20 rfl) tq_121 rfl rfl ?_
    refine e_mv 36 em_422 (ce_at ce_422 21 rfl) rfl rfl ?_
    refine e_gd fun g4 => ?_
    refine e_ild 37 em_422 (ce_at ce_422 22 rfl) tq_123 (by decide) g4 rfl ?_
    refine e_mv 39 em_422 (ce_at ce_422 23 rfl) rfl rfl ?_
    refine e_mv 41 em_422 (ce_at ce_422 24 rfl) rfl rfl ?_
    refine e_bip 43 em_422 (ce_at ce_422 25 rfl) (by decide) rfl ?_
    refine e_gd fun g5 => ?_
    refine e_cmne 48 46 em_422 rfl rfl (ce_at ce_422 26 rfl) g5 (by decide) (fun h6 => ?_) (fun h6 => ?_)
    · refine e_pk [0, 2, 3, 4] rfl rfl ?_
      exact tm_signs_48 w d hd _ _ _ _
    · refine e_op 47 em_422 (ce_at ce_422 27 rfl) rfl rfl ?_
      refine e_mv 48 em_422 (ce_at ce_422 28 rfl) rfl rfl ?_
      refine e_pk [0, 2, 3, 4] rfl rfl ?_
      exact tm_signs_48 w d hd _ _ _ _
theorem fm_signs_23b (v2 : Int) (v3 : Int) (s : iS) : Fm (fun r : (Int × Int × iS) ⊕ ((Int × Int × iS) ⊕ (iS)) => r.elim (fun l => l.2.2) (fun e => e.elim (fun e => e.2.2) (fun e => e))) L_m_signs G_m_signs s (m_signs_23b v2 v3 s) := fm_gd (fm_gd (fm_if (fm_some md_refl) (fm_gd (fm_gd (fm_if (fm_signs_48 _ _ _ _) (fm_signs_48 _ _ _ _))))))
noncomputable def m_signs_190 (v3 : Int) (v6 : Int) (s : iS) : Option (Int × iS) := lt' (up s 121 4 v3) (fun s1 => lt' (up s1 121 110 0) (fun s2 => lt' (up s2 121 112 0) (fun s3 => some (v6, s3))))
theorem tm_signs_190 (w : ev_W) (d : Nat) (hd : 6 ≤ d) (v3 : Int) (v6 : Int) (s : iS) : Ew hT w d 422 190 [(0, .ref (tb_nK + 121)), (3, iv v3), (6, iv v6)] [] s (Ci hT) (m_signs_190 v3 v6 s) := by
  unfold m_signs_190
  refine e_mv 191 em_422 (ce_at ce_422 104 rfl) rfl rfl ?_
  refine e_mv 192 em_422 (ce_at ce_422 105 rfl) rfl rfl ?_
  refine e_put 195 em_422 (ce_at ce_422 106 rfl) tq_121 rfl rfl rfl (fun s1 => ?_)
  refine e_mv 196 em_422 (ce_at ce_422 107 rfl) rfl rfl ?_
  refine e_op 197 em_422 (ce_at ce_422 108 rfl) rfl rfl ?_
  refine e_put 200 em_422 (ce_at ce_422 109 rfl) tq_121 rfl rfl rfl (fun s2 => ?_)
  refine e_mv 201 em_422 (ce_at ce_422 110 rfl) rfl rfl ?_
  refine e_op 202 em_422 (ce_at ce_422 111 rfl) rfl rfl ?_
  refine e_put 205 em_422 (ce_at ce_422 112 rfl) tq_121 rfl rfl rfl (fun s3 => ?_)
  refine e_mv 207 em_422 (ce_at ce_422 113 rfl) rfl rfl ?_
  exact e_reti em_422 (ce_at ce_422 114 rfl)
theorem fm_signs_190 (v3 : Int) (v6 : Int) (s : iS) : Fm Prod.snd L_m_signs G_m_signs s (m_signs_190 v3 v6 s) := fm_lt (md_upF (mem_F rfl)) (fun s1 => fm_lt (md_upF (mem_F rfl)) (fun s2 => fm_lt (md_upF (mem_F rfl)) (fun s3 => fm_some md_refl)))
def m_signs_223C (w : ev_W) (d : Nat) : (Int × Int × iS) ⊕ (iS) → am_E → Prop := fun q r => q.elim (fun l => ev w d 422 223 ((fun l => [(0, .ref (tb_nK + 121)), (4, iv (l.1)), (5, iv (l.2.1))]) l) [] (hT ((fun l => l.2.2) l)) r) (fun e => (fun e r => ev w d 422 267 [(0, .ref (tb_nK + 121))] [] (hT (e)) r) e r)
noncomputable def m_signs_223b (v4 : Int) (v5 : Int) (s : iS) : Option ((Int × Int × iS) ⊕ (iS)) := gd (rg v5) (gd (rg (s 121 112)) (if (s 121 112) ≤ v5 then some (.inr s) else gd (0 ≤ v5 ∧ v5 < 100) (gd (rg (s 192 v5.toNat)) (if (s 192 v5.toNat) = (-1) then lt' (up s 192 v5.toNat v4) (fun s7 => some (.inl ((v4 + 1), (v5 + 1), s7))) else some (.inl (v4, (v5 + 1), s))))))
theorem tm_signs_223b (w : ev_W) (d : Nat) (hd : 6 ≤ d) (v4 : Int) (v5 : Int) (s : iS) : Ew hT w d 422 223 [(0, .ref (tb_nK + 121)), (4, iv v4), (5, iv v5)] [] s (m_signs_223C w d) (m_signs_223b v4 v5 s) := by
  unfold m_signs_223b
  refine e_mv 225 em_422 (ce_at ce_422 124 rfl) rfl rfl ?_
  refine e_mv 226 em_422 (ce_at ce_422 125 rfl) rfl rfl ?_
  refine e_get 229 em_422 (ce_at ce_422 126 rfl) tq_121 rfl rfl ?_
  refine e_gd fun g1 => ?_
  refine e_gd fun g2 => ?_
  refine e_cmge 267 232 em_422 rfl rfl (ce_at ce_422 127 rfl) g1 g2 (fun h3 => ?_) (fun h3 => ?_)
  · refine e_pk [0] rfl rfl ?_
    exact e_out (fun r h => h)
  · refine e_mv 233 em_422 (ce_at ce_422 128 rfl) rfl rfl ?_
    refine e_getr 236 em_422 (ce_at ce_422 129 rfl) tq_121 rfl rfl ?_
    refine e_mv 238 em_422 (ce_at ce_422 130 rfl) rfl rfl ?_
    refine e_gd fun g4 => ?_
    refine e_ild 239 em_422 (ce_at ce_422 131 rfl) tq_192 (by decide) g4 rfl ?_
    refine e_op 240 em_422 (ce_at ce_422 132 rfl) rfl rfl ?_
    refine e_gd fun g5 => ?_
    refine e_cmeq 246 243 em_422 rfl rfl (ce_at ce_422 133 rfl) g5 (by decide) (fun h6 => ?_) (fun h6 => ?_)
    · refine e_mv 247 em_422 (ce_at ce_422 135 rfl) rfl rfl ?_
      refine e_getr 250 em_422 (ce_at ce_422 136 rfl) tq_121 rfl rfl ?_
      refine e_mv 252 em_422 (ce_at ce_422 137 rfl) rfl rfl ?_
      refine e_mv 254 em_422 (ce_at ce_422 138 rfl) rfl rfl ?_
      refine e_ist 255 em_422 (ce_at ce_422 139 rfl) tq_192 (by decide) g4 rfl (fun s7 => ?_)
      refine e_mv 257 em_422 (ce_at ce_422 140 rfl) rfl rfl ?_
      refine e_op 258 em_422 (ce_at ce_422 141 rfl) rfl rfl ?_
      refine e_iadd 259 em_422 rfl (ce_at ce_422 142 rfl) ?_
      refine e_mv 261 em_422 (ce_at ce_422 143 rfl) rfl rfl ?_
      refine e_iinc 264 em_422 (ce_at ce_422 144 rfl) rfl (by decide) rfl ?_
      refine e_goto em_422 223 (ce_at ce_422 145 rfl) rfl ?_
      refine e_pk [0, 4, 5] rfl rfl ?_
      exact e_out (fun r h => h)
    · refine e_goto em_422 261 (ce_at ce_422 134 rfl) rfl ?_
      refine e_iinc 264 em_422 (ce_at ce_422 144 rfl) rfl (by decide) rfl ?_
      refine e_goto em_422 223 (ce_at ce_422 145 rfl) rfl ?_
      refine e_pk [0, 4, 5] rfl rfl ?_
      exact e_out (fun r h => h)
theorem fm_signs_223b (v4 : Int) (v5 : Int) (s : iS) : Fm (fun r : (Int × Int × iS) ⊕ (iS) => r.elim (fun l => l.2.2) (fun e => e)) L_m_signs G_m_signs s (m_signs_223b v4 v5 s) := fm_gd (fm_gd (fm_if (fm_some md_refl) (fm_gd (fm_gd (fm_if (fm_lt (md_upL (mem_L rfl)) (fun s7 => fm_some md_refl)) (fm_some md_refl))))))
def m_signs_270C (w : ev_W) (d : Nat) : (Int × iS) ⊕ (iS) → am_E → Prop := fun q r => q.elim (fun l => ev w d 422 270 ((fun l => [(0, .ref (tb_nK + 121)), (5, iv (l.1))]) l) [] (hT ((fun l => l.2) l)) r) (fun e => (fun e r => ev w d 422 325 [] [] (hT (e)) r) e r)
noncomputable def m_signs_318 (v5 : Int) (t0 : Int) (t1 : Int) (s : iS) : Option ((Int × iS) ⊕ (iS)) := gd (0 ≤ t1 ∧ t1 < 2000) (lt' (up s 189 t1.toNat t0) (fun s2 => some (.inl ((v5 + 1), s2))))
theorem tm_signs_318 (w : ev_W) (d : Nat) (hd : 6 ≤ d) (v5 : Int) (t0 : Int) (t1 : Int) (s : iS) : Ew hT w d 422 318 [(0, .ref (tb_nK + 121)), (5, iv v5)] [iv t0, iv t1, .ref (tb_nK + 189)] s (m_signs_270C w d) (m_signs_318 v5 t0 t1 s) := by
  unfold m_signs_318
  refine e_gd fun g1 => ?_
  refine e_ist 319 em_422 (ce_at ce_422 173 rfl) tq_189 (by decide) g1 rfl (fun s2 => ?_)
  refine e_iinc 322 em_422 (ce_at ce_422 174 rfl) rfl (by decide) rfl ?_
  refine e_goto em_422 270 (ce_at ce_422 175 rfl) rfl ?_
  refine e_pk [0, 5] rfl rfl ?_
  exact e_out (fun r h => h)
theorem fm_signs_318 (v5 : Int) (t0 : Int) (t1 : Int) (s : iS) : Fm (fun r : (Int × iS) ⊕ (iS) => r.elim (fun l => l.2) (fun e => e)) L_m_signs G_m_signs s (m_signs_318 v5 t0 t1 s) := fm_gd (fm_lt (md_upL (mem_L rfl)) (fun s2 => fm_some md_refl))
noncomputable def m_signs_270b (v5 : Int) (s : iS) : Option ((Int × iS) ⊕ (iS)) := gd (rg v5) (gd (rg (s 121 110)) (if (s 121 110) ≤ v5 then some (.inr s) else gd (0 ≤ v5 ∧ v5 < 2000) (gd (rg (s 193 v5.toNat)) (if (s 193 v5.toNat) = (-1) then m_signs_318 v5 (s 189 v5.toNat) v5 s else gd (0 ≤ (s 193 v5.toNat) ∧ (s 193 v5.toNat) < 100) (m_signs_318 v5 (s 192 (s 193 v5.toNat).toNat) v5 s)))))
theorem tm_signs_270b (w : ev_W) (d : Nat) (hd : 6 ≤ d) (v5 : Int) (s : iS) : Ew hT w d 422 270 [(0, .ref (tb_nK + 121)), (5, iv v5)] [] s (m_signs_270C w d) (m_signs_270b v5 s) := by
  unfold m_signs_270b
  refine e_mv 272 em_422 (ce_at ce_422 148 rfl) rfl rfl ?_
  refine e_mv 273 em_422 (ce_at ce_422 149 rfl) rfl rfl ?_
  refine e_get 276 em_422 (ce_at ce_422 150 rfl) tq_121 rfl rfl ?_
  refine e_gd fun g1 => ?_
  refine e_gd fun g2 => ?_
  refine e_cmge 325 279 em_422 rfl rfl (ce_at ce_422 151 rfl) g1 g2 (fun h3 => ?_) (fun h3 => ?_)
  · refine e_pk [] rfl rfl ?_
    exact e_out (fun r h => h)
  · refine e_mv 280 em_422 (ce_at ce_422 152 rfl) rfl rfl ?_
    refine e_getr 283 em_422 (ce_at ce_422 153 rfl) tq_121 rfl rfl ?_
    refine e_mv 285 em_422 (ce_at ce_422 154 rfl) rfl rfl ?_
    refine e_mv 286 em_422 (ce_at ce_422 155 rfl) rfl rfl ?_
    refine e_getr 289 em_422 (ce_at ce_422 156 rfl) tq_121 rfl rfl ?_
    refine e_mv 291 em_422 (ce_at ce_422 157 rfl) rfl rfl ?_
    refine e_gd fun g4 => ?_
    refine e_ild 292 em_422 (ce_at ce_422 158 rfl) tq_193 (by decide) g4 rfl ?_
    refine e_op 293 em_422 (ce_at ce_422 159 rfl) rfl rfl ?_
    refine e_gd fun g5 => ?_
    refine e_cmne 306 296 em_422 rfl rfl (ce_at ce_422 160 rfl) g5 (by decide) (fun h6 => ?_) (fun h6 => ?_)
    · refine e_mv 307 em_422 (ce_at ce_422 166 rfl) rfl rfl ?_
      refine e_getr 310 em_422 (ce_at ce_422 167 rfl) tq_121 rfl rfl ?_
      refine e_mv 311 em_422 (ce_at ce_422 168 rfl) rfl rfl ?_
      refine e_getr 314 em_422 (ce_at ce_422 169 rfl) tq_121 rfl rfl ?_
      refine e_mv 316 em_422 (ce_at ce_422 170 rfl) rfl rfl ?_
      refine e_ild 317 em_422 (ce_at ce_422 171 rfl) tq_193 (by decide) g4 rfl ?_
      refine e_gd fun g7 => ?_
      refine e_ild 318 em_422 (ce_at ce_422 172 rfl) tq_192 (by decide) g7 rfl ?_
      refine e_pk [0, 5] rfl rfl ?_
      exact tm_signs_318 w d hd _ _ _ _
    · refine e_mv 297 em_422 (ce_at ce_422 161 rfl) rfl rfl ?_
      refine e_getr 300 em_422 (ce_at ce_422 162 rfl) tq_121 rfl rfl ?_
      refine e_mv 302 em_422 (ce_at ce_422 163 rfl) rfl rfl ?_
      refine e_ild 303 em_422 (ce_at ce_422 164 rfl) tq_189 (by decide) g4 rfl ?_
      refine e_goto em_422 318 (ce_at ce_422 165 rfl) rfl ?_
      refine e_pk [0, 5] rfl rfl ?_
      exact tm_signs_318 w d hd _ _ _ _
theorem fm_signs_270b (v5 : Int) (s : iS) : Fm (fun r : (Int × iS) ⊕ (iS) => r.elim (fun l => l.2) (fun e => e)) L_m_signs G_m_signs s (m_signs_270b v5 s) := fm_gd (fm_gd (fm_if (fm_some md_refl) (fm_gd (fm_gd (fm_if (fm_signs_318 _ _ _ _) (fm_gd (fm_signs_318 _ _ _ _)))))))
noncomputable def m_signs_270 (v5 : Int) (s : iS) : Option (Int × iS) := (lp (L := Int × iS) (E := iS) (fun l => m_signs_270b (l.1) (l.2)) (v5, s)).bind (fun e => some (0, e))
theorem tm_signs_270 (w : ev_W) (d : Nat) (hd : 6 ≤ d) (v5 : Int) (s : iS) : Ew hT w d 422 270 [(0, .ref (tb_nK + 121)), (5, iv v5)] [] s (Ci hT) (m_signs_270 v5 s) := by
  unfold m_signs_270
  refine e_lp (L := Int × iS) (E := iS) (LO := fun l => [(0, .ref (tb_nK + 121)), (5, iv (l.1))]) (LS := fun l => l.2) (CE := fun e r => ev w d 422 325 [] [] (hT (e)) r) (fun l => tm_signs_270b w d hd _ _) ?_ (v5, s)
  intro e
  show Ew hT w d 422 325 [] [] e (Ci hT) _
  refine e_op 326 em_422 (ce_at ce_422 176 rfl) rfl rfl ?_
  exact e_reti em_422 (ce_at ce_422 177 rfl)
theorem fm_signs_270 (v5 : Int) (s : iS) : Fm Prod.snd L_m_signs G_m_signs s (m_signs_270 v5 s) := by
  unfold m_signs_270
  refine fm_lp (A := Int × iS) (E := iS) (LS := fun l => l.2) (LE := fun e => e) ?_ ?_ (v5, s)
  · exact fun l => fm_signs_270b _ _
  · exact (fun e => fm_some md_refl)
noncomputable def m_signs_267 (s : iS) : Option (Int × iS) := m_signs_270 0 s
theorem tm_signs_267 (w : ev_W) (d : Nat) (hd : 6 ≤ d) (s : iS) : Ew hT w d 422 267 [(0, .ref (tb_nK + 121))] [] s (Ci hT) (m_signs_267 s) := by
  unfold m_signs_267
  refine e_op 268 em_422 (ce_at ce_422 146 rfl) rfl rfl ?_
  refine e_mv 270 em_422 (ce_at ce_422 147 rfl) rfl rfl ?_
  refine e_pk [0, 5] rfl rfl ?_
  exact tm_signs_270 w d hd _ _
theorem fm_signs_267 (s : iS) : Fm Prod.snd L_m_signs G_m_signs s (m_signs_267 s) := fm_signs_270 _ _
noncomputable def m_signs_223 (v4 : Int) (v5 : Int) (s : iS) : Option (Int × iS) := (lp (L := Int × Int × iS) (E := iS) (fun l => m_signs_223b (l.1) (l.2.1) (l.2.2)) (v4, v5, s)).bind (fun e => m_signs_267 e)
theorem tm_signs_223 (w : ev_W) (d : Nat) (hd : 6 ≤ d) (v4 : Int) (v5 : Int) (s : iS) : Ew hT w d 422 223 [(0, .ref (tb_nK + 121)), (4, iv v4), (5, iv v5)] [] s (Ci hT) (m_signs_223 v4 v5 s) := by
  unfold m_signs_223
  refine e_lp (L := Int × Int × iS) (E := iS) (LO := fun l => [(0, .ref (tb_nK + 121)), (4, iv (l.1)), (5, iv (l.2.1))]) (LS := fun l => l.2.2) (CE := fun e r => ev w d 422 267 [(0, .ref (tb_nK + 121))] [] (hT (e)) r) (fun l => tm_signs_223b w d hd _ _ _) ?_ (v4, v5, s)
  intro e
  show Ew hT w d 422 267 [(0, .ref (tb_nK + 121))] [] e (Ci hT) _
  refine e_pk [0] rfl rfl ?_
  exact tm_signs_267 w d hd _
theorem fm_signs_223 (v4 : Int) (v5 : Int) (s : iS) : Fm Prod.snd L_m_signs G_m_signs s (m_signs_223 v4 v5 s) := by
  unfold m_signs_223
  refine fm_lp (A := Int × Int × iS) (E := iS) (LS := fun l => l.2.2) (LE := fun e => e) ?_ ?_ (v4, v5, s)
  · exact fun l => fm_signs_223b _ _ _
  · exact (fun e => fm_signs_267 _)
noncomputable def m_signs_216 (s : iS) : Option (Int × iS) := m_signs_223 16 0 s
theorem tm_signs_216 (w : ev_W) (d : Nat) (hd : 6 ≤ d) (s : iS) : Ew hT w d 422 216 [(0, .ref (tb_nK + 121))] [] s (Ci hT) (m_signs_216 s) := by
  unfold m_signs_216
  refine e_bip 218 em_422 (ce_at ce_422 120 rfl) (by decide) rfl ?_
  refine e_mv 220 em_422 (ce_at ce_422 121 rfl) rfl rfl ?_
  refine e_op 221 em_422 (ce_at ce_422 122 rfl) rfl rfl ?_
  refine e_mv 223 em_422 (ce_at ce_422 123 rfl) rfl rfl ?_
  refine e_pk [0, 4, 5] rfl rfl ?_
  exact tm_signs_223 w d hd _ _ _
theorem fm_signs_216 (s : iS) : Fm Prod.snd L_m_signs G_m_signs s (m_signs_216 s) := fm_signs_223 _ _ _
noncomputable def m_signs_23 (v2 : Int) (v3 : Int) (s : iS) : Option (Int × iS) := (lp (L := Int × Int × iS) (E := (Int × Int × iS) ⊕ (iS)) (fun l => m_signs_23b (l.1) (l.2.1) (l.2.2)) (v2, v3, s)).bind (fun e => e.elim (fun e => m_signs_190 (e.1) (e.2.1) (e.2.2)) (fun e => m_signs_216 e))
theorem tm_signs_23 (w : ev_W) (d : Nat) (hd : 6 ≤ d) (v2 : Int) (v3 : Int) (s : iS) : Ew hT w d 422 23 [(0, .ref (tb_nK + 121)), (2, iv v2), (3, iv v3)] [] s (Ci hT) (m_signs_23 v2 v3 s) := by
  unfold m_signs_23
  refine e_lp (L := Int × Int × iS) (E := (Int × Int × iS) ⊕ (iS)) (LO := fun l => [(0, .ref (tb_nK + 121)), (2, iv (l.1)), (3, iv (l.2.1))]) (LS := fun l => l.2.2) (CE := fun e r => e.elim (fun e => ev w d 422 190 [(0, .ref (tb_nK + 121)), (3, iv (e.1)), (6, iv (e.2.1))] [] (hT (e.2.2)) r) (fun e => ev w d 422 216 [(0, .ref (tb_nK + 121))] [] (hT (e)) r)) (fun l => tm_signs_23b w d hd _ _ _) ?_ (v2, v3, s)
  rintro (e | e)
  · show Ew hT w d 422 190 [(0, .ref (tb_nK + 121)), (3, iv (e.1)), (6, iv (e.2.1))] [] e.2.2 (Ci hT) _
    refine e_pk [0, 3, 6] rfl rfl ?_
    exact tm_signs_190 w d hd _ _ _
  · show Ew hT w d 422 216 [(0, .ref (tb_nK + 121))] [] e (Ci hT) _
    refine e_pk [0] rfl rfl ?_
    exact tm_signs_216 w d hd _
theorem fm_signs_23 (v2 : Int) (v3 : Int) (s : iS) : Fm Prod.snd L_m_signs G_m_signs s (m_signs_23 v2 v3 s) := by
  unfold m_signs_23
  refine fm_lp (A := Int × Int × iS) (E := (Int × Int × iS) ⊕ (iS)) (LS := fun l => l.2.2) (LE := fun e => e.elim (fun e => e.2.2) (fun e => e)) ?_ ?_ (v2, v3, s)
  · exact fun l => fm_signs_23b _ _ _
  · exact (by rintro (e | e); exact fm_signs_190 _ _ _; exact fm_signs_216 _)
noncomputable def m_signs (v1 : Int) (s : iS) : Option (Int × iS) := bd (m_takes v1 s) (fun r1 s1 => gd (rg r1) (if r1 = 0 then some ((-1), s1) else bd (m_resetProcessor s1) (fun _ s4 => lt' (up s4 121 4 (-1)) (fun s5 => m_signs_23 0 0 s5))))
theorem tm_signs (w : ev_W) (d : Nat) (hd : 6 ≤ d) (v1 : Int) (s : iS) : Ew hT w d 422 0 [(0, .ref (tb_nK + 121)), (1, iv v1)] [] s (Ci hT) (m_signs v1 s) := by
  unfold m_signs
  refine e_mv 1 em_422 (ce_at ce_422 0 rfl) rfl rfl ?_
  refine e_mv 2 em_422 (ce_at ce_422 1 rfl) rfl rfl ?_
  refine e_ivi 5 em_422 (ce_at ce_422 2 rfl) (by omega) (iv_v1 (by decide) tq_121 rfl) em_299 (Nat.le_of_ble_eq_true rfl) rfl (tm_takes w (d - 1) (by omega) _ _) (fun r1 s1 => ?_)
  refine e_gd fun g2 => ?_
  refine e_ifne 10 8 em_422 rfl rfl (ce_at ce_422 3 rfl) g2 (fun h3 => ?_) (fun h3 => ?_)
  · refine e_mv 11 em_422 (ce_at ce_422 6 rfl) rfl rfl ?_
    refine e_ivv 14 em_422 (ce_at ce_422 7 rfl) (by omega) (iv_v0 (by decide) tq_121 rfl) em_423 (Nat.le_of_ble_eq_true rfl) rfl (tm_resetProcessor w (d - 1) (by omega) _) (fun r4 s4 => ?_)
    refine e_mv 15 em_422 (ce_at ce_422 8 rfl) rfl rfl ?_
    refine e_op 16 em_422 (ce_at ce_422 9 rfl) rfl rfl ?_
    refine e_put 19 em_422 (ce_at ce_422 10 rfl) tq_121 rfl rfl rfl (fun s5 => ?_)
    refine e_op 20 em_422 (ce_at ce_422 11 rfl) rfl rfl ?_
    refine e_mv 21 em_422 (ce_at ce_422 12 rfl) rfl rfl ?_
    refine e_op 22 em_422 (ce_at ce_422 13 rfl) rfl rfl ?_
    refine e_mv 23 em_422 (ce_at ce_422 14 rfl) rfl rfl ?_
    refine e_pk [0, 2, 3] rfl rfl ?_
    exact tm_signs_23 w d hd _ _ _
  · refine e_op 9 em_422 (ce_at ce_422 4 rfl) rfl rfl ?_
    exact e_reti em_422 (ce_at ce_422 5 rfl)
theorem fm_signs (v1 : Int) (s : iS) : Fm Prod.snd L_m_signs G_m_signs s (m_signs v1 s) := fm_bd (fm_sub (fm_takes _ _) (mem_sub_L rfl) (mem_sub_F rfl)) (fun r1 s1 => fm_gd (fm_if (fm_some md_refl) (fm_bd (fm_sub (fm_resetProcessor _) (mem_sub_L rfl) (mem_sub_F rfl)) (fun r4 s4 => fm_lt (md_upF (mem_F rfl)) (fun s5 => fm_signs_23 _ _ _)))))
/-! m_code -/
def L_m_code : List Nat := []
def G_m_code : List (Nat × Nat) := []
noncomputable def m_code (v1 : Int) (s : iS) : Option (Int × iS) := gd (rg v1) (if v1 < 0 then some ((-1), s) else gd (rg (s 121 110)) (if v1 < (s 121 110) then gd (0 ≤ v1 ∧ v1 < 2000) (some ((s 189 v1.toNat), s)) else some ((-1), s)))
theorem tm_code (w : ev_W) (d : Nat) (hd : 0 ≤ d) (v1 : Int) (s : iS) : Ew hT w d 435 0 [(0, .ref (tb_nK + 121)), (1, iv v1)] [] s (Ci hT) (m_code v1 s) := by
  unfold m_code
  refine e_mv 1 em_435 (ce_at ce_435 0 rfl) rfl rfl ?_
  refine e_gd fun g1 => ?_
  refine e_iflt 12 4 em_435 rfl rfl (ce_at ce_435 1 rfl) g1 (fun h2 => ?_) (fun h2 => ?_)
  · refine e_op 13 em_435 (ce_at ce_435 6 rfl) rfl rfl ?_
    refine e_goto em_435 22 (ce_at ce_435 7 rfl) rfl ?_
    exact e_reti em_435 (ce_at ce_435 12 rfl)
  · refine e_mv 5 em_435 (ce_at ce_435 2 rfl) rfl rfl ?_
    refine e_mv 6 em_435 (ce_at ce_435 3 rfl) rfl rfl ?_
    refine e_get 9 em_435 (ce_at ce_435 4 rfl) tq_121 rfl rfl ?_
    refine e_gd fun g3 => ?_
    refine e_cmlt 16 12 em_435 rfl rfl (ce_at ce_435 5 rfl) g1 g3 (fun h4 => ?_) (fun h4 => ?_)
    · refine e_mv 17 em_435 (ce_at ce_435 8 rfl) rfl rfl ?_
      refine e_getr 20 em_435 (ce_at ce_435 9 rfl) tq_121 rfl rfl ?_
      refine e_mv 21 em_435 (ce_at ce_435 10 rfl) rfl rfl ?_
      refine e_gd fun g5 => ?_
      refine e_ild 22 em_435 (ce_at ce_435 11 rfl) tq_189 (by decide) g5 rfl ?_
      exact e_reti em_435 (ce_at ce_435 12 rfl)
    · refine e_op 13 em_435 (ce_at ce_435 6 rfl) rfl rfl ?_
      refine e_goto em_435 22 (ce_at ce_435 7 rfl) rfl ?_
      exact e_reti em_435 (ce_at ce_435 12 rfl)
theorem fm_code (v1 : Int) (s : iS) : Fm Prod.snd L_m_code G_m_code s (m_code v1 s) := fm_gd (fm_if (fm_some md_refl) (fm_gd (fm_if (fm_gd (fm_some md_refl)) (fm_some md_refl))))
/-! m_unit -/
def L_m_unit : List Nat := []
def G_m_unit : List (Nat × Nat) := []
noncomputable def m_unit_76 (v0 : Int) (t0 : Int) (s : iS) : Option (Int × iS) := gd (rg (i_and v0 1)) (if (i_and v0 1) = 0 then some ((i_s t0), s) else some ((i_s (i_xor t0 (-1))), s))
theorem tm_unit_76 (H : iS → List am_C) (w : ev_W) (d : Nat) (hd : 0 ≤ d) (v0 : Int) (t0 : Int) (s : iS) : Ew H w d 438 76 [(0, iv v0)] [iv t0] s (Ci H) (m_unit_76 v0 t0 s) := by
  unfold m_unit_76
  refine e_mv 78 em_438 (ce_at ce_438 47 rfl) rfl rfl ?_
  refine e_mv 79 em_438 (ce_at ce_438 48 rfl) rfl rfl ?_
  refine e_op 80 em_438 (ce_at ce_438 49 rfl) rfl rfl ?_
  refine e_iand 81 em_438 rfl (ce_at ce_438 50 rfl) ?_
  refine e_gd fun g1 => ?_
  refine e_ifne 89 84 em_438 rfl rfl (ce_at ce_438 51 rfl) g1 (fun h2 => ?_) (fun h2 => ?_)
  · refine e_mv 91 em_438 (ce_at ce_438 54 rfl) rfl rfl ?_
    refine e_op 92 em_438 (ce_at ce_438 55 rfl) rfl rfl ?_
    refine e_ixor 93 em_438 rfl (ce_at ce_438 56 rfl) ?_
    refine e_i2s 94 em_438 rfl (ce_at ce_438 57 rfl) ?_
    exact e_reti em_438 (ce_at ce_438 58 rfl)
  · refine e_mv 86 em_438 (ce_at ce_438 52 rfl) rfl rfl ?_
    refine e_goto em_438 93 (ce_at ce_438 53 rfl) rfl ?_
    refine e_i2s 94 em_438 rfl (ce_at ce_438 57 rfl) ?_
    exact e_reti em_438 (ce_at ce_438 58 rfl)
theorem fm_unit_76 (v0 : Int) (t0 : Int) (s : iS) : Fm Prod.snd L_m_unit G_m_unit s (m_unit_76 v0 t0 s) := fm_gd (fm_if (fm_some md_refl) (fm_some md_refl))
noncomputable def m_unit_57 (v0 : Int) (v3 : Int) (t0 : Int) (s : iS) : Option (Int × iS) := gd (rg (i_and v0 2)) (if (i_and v0 2) = 0 then m_unit_76 v0 (i_and v3 t0) s else m_unit_76 v0 (v3 + t0) s)
theorem tm_unit_57 (H : iS → List am_C) (w : ev_W) (d : Nat) (hd : 0 ≤ d) (v0 : Int) (v3 : Int) (t0 : Int) (s : iS) : Ew H w d 438 57 [(0, iv v0), (3, iv v3)] [iv t0] s (Ci H) (m_unit_57 v0 v3 t0 s) := by
  unfold m_unit_57
  refine e_mv 59 em_438 (ce_at ce_438 35 rfl) rfl rfl ?_
  refine e_mv 60 em_438 (ce_at ce_438 36 rfl) rfl rfl ?_
  refine e_op 61 em_438 (ce_at ce_438 37 rfl) rfl rfl ?_
  refine e_iand 62 em_438 rfl (ce_at ce_438 38 rfl) ?_
  refine e_gd fun g1 => ?_
  refine e_ifne 72 65 em_438 rfl rfl (ce_at ce_438 39 rfl) g1 (fun h2 => ?_) (fun h2 => ?_)
  · refine e_mv 73 em_438 (ce_at ce_438 44 rfl) rfl rfl ?_
    refine e_mv 75 em_438 (ce_at ce_438 45 rfl) rfl rfl ?_
    refine e_iadd 76 em_438 rfl (ce_at ce_438 46 rfl) ?_
    refine e_pk [0] rfl rfl ?_
    exact tm_unit_76 H w d hd _ _ _
  · refine e_mv 66 em_438 (ce_at ce_438 40 rfl) rfl rfl ?_
    refine e_mv 68 em_438 (ce_at ce_438 41 rfl) rfl rfl ?_
    refine e_iand 69 em_438 rfl (ce_at ce_438 42 rfl) ?_
    refine e_goto em_438 76 (ce_at ce_438 43 rfl) rfl ?_
    refine e_pk [0] rfl rfl ?_
    exact tm_unit_76 H w d hd _ _ _
theorem fm_unit_57 (v0 : Int) (v3 : Int) (t0 : Int) (s : iS) : Fm Prod.snd L_m_unit G_m_unit s (m_unit_57 v0 v3 t0 s) := fm_gd (fm_if (fm_unit_76 _ _ _) (fm_unit_76 _ _ _))
noncomputable def m_unit_40 (v0 : Int) (v3 : Int) (t0 : Int) (s : iS) : Option (Int × iS) := gd (rg (i_and v0 4)) (if (i_and v0 4) = 0 then m_unit_57 v0 v3 t0 s else m_unit_57 v0 v3 (i_xor t0 (-1)) s)
theorem tm_unit_40 (H : iS → List am_C) (w : ev_W) (d : Nat) (hd : 0 ≤ d) (v0 : Int) (v3 : Int) (t0 : Int) (s : iS) : Ew H w d 438 40 [(0, iv v0), (3, iv v3)] [iv t0] s (Ci H) (m_unit_40 v0 v3 t0 s) := by
  unfold m_unit_40
  refine e_mv 42 em_438 (ce_at ce_438 25 rfl) rfl rfl ?_
  refine e_mv 43 em_438 (ce_at ce_438 26 rfl) rfl rfl ?_
  refine e_op 44 em_438 (ce_at ce_438 27 rfl) rfl rfl ?_
  refine e_iand 45 em_438 rfl (ce_at ce_438 28 rfl) ?_
  refine e_gd fun g1 => ?_
  refine e_ifne 53 48 em_438 rfl rfl (ce_at ce_438 29 rfl) g1 (fun h2 => ?_) (fun h2 => ?_)
  · refine e_mv 55 em_438 (ce_at ce_438 32 rfl) rfl rfl ?_
    refine e_op 56 em_438 (ce_at ce_438 33 rfl) rfl rfl ?_
    refine e_ixor 57 em_438 rfl (ce_at ce_438 34 rfl) ?_
    refine e_pk [0, 3] rfl rfl ?_
    exact tm_unit_57 H w d hd _ _ _ _
  · refine e_mv 50 em_438 (ce_at ce_438 30 rfl) rfl rfl ?_
    refine e_goto em_438 57 (ce_at ce_438 31 rfl) rfl ?_
    refine e_pk [0, 3] rfl rfl ?_
    exact tm_unit_57 H w d hd _ _ _ _
theorem fm_unit_40 (v0 : Int) (v3 : Int) (t0 : Int) (s : iS) : Fm Prod.snd L_m_unit G_m_unit s (m_unit_40 v0 v3 t0 s) := fm_gd (fm_if (fm_unit_57 _ _ _ _) (fm_unit_57 _ _ _ _))
noncomputable def m_unit_27 (v0 : Int) (v2 : Int) (t0 : Int) (s : iS) : Option (Int × iS) := gd (rg (i_and v0 8)) (if (i_and v0 8) = 0 then m_unit_40 v0 t0 v2 s else m_unit_40 v0 t0 0 s)
theorem tm_unit_27 (H : iS → List am_C) (w : ev_W) (d : Nat) (hd : 0 ≤ d) (v0 : Int) (v2 : Int) (t0 : Int) (s : iS) : Ew H w d 438 27 [(0, iv v0), (2, iv v2)] [iv t0] s (Ci H) (m_unit_27 v0 v2 t0 s) := by
  unfold m_unit_27
  refine e_mv 28 em_438 (ce_at ce_438 17 rfl) rfl rfl ?_
  refine e_mv 29 em_438 (ce_at ce_438 18 rfl) rfl rfl ?_
  refine e_bip 31 em_438 (ce_at ce_438 19 rfl) (by decide) rfl ?_
  refine e_iand 32 em_438 rfl (ce_at ce_438 20 rfl) ?_
  refine e_gd fun g1 => ?_
  refine e_ifne 39 35 em_438 rfl rfl (ce_at ce_438 21 rfl) g1 (fun h2 => ?_) (fun h2 => ?_)
  · refine e_op 40 em_438 (ce_at ce_438 24 rfl) rfl rfl ?_
    refine e_pk [0, 3] rfl rfl ?_
    exact tm_unit_40 H w d hd _ _ _ _
  · refine e_mv 36 em_438 (ce_at ce_438 22 rfl) rfl rfl ?_
    refine e_goto em_438 40 (ce_at ce_438 23 rfl) rfl ?_
    refine e_pk [0, 3] rfl rfl ?_
    exact tm_unit_40 H w d hd _ _ _ _
theorem fm_unit_27 (v0 : Int) (v2 : Int) (t0 : Int) (s : iS) : Fm Prod.snd L_m_unit G_m_unit s (m_unit_27 v0 v2 t0 s) := fm_gd (fm_if (fm_unit_40 _ _ _ _) (fm_unit_40 _ _ _ _))
noncomputable def m_unit_12 (v0 : Int) (v2 : Int) (t0 : Int) (s : iS) : Option (Int × iS) := gd (rg (i_and v0 16)) (if (i_and v0 16) = 0 then m_unit_27 v0 v2 t0 s else m_unit_27 v0 v2 (i_xor t0 (-1)) s)
theorem tm_unit_12 (H : iS → List am_C) (w : ev_W) (d : Nat) (hd : 0 ≤ d) (v0 : Int) (v2 : Int) (t0 : Int) (s : iS) : Ew H w d 438 12 [(0, iv v0), (2, iv v2)] [iv t0] s (Ci H) (m_unit_12 v0 v2 t0 s) := by
  unfold m_unit_12
  refine e_mv 13 em_438 (ce_at ce_438 7 rfl) rfl rfl ?_
  refine e_mv 14 em_438 (ce_at ce_438 8 rfl) rfl rfl ?_
  refine e_bip 16 em_438 (ce_at ce_438 9 rfl) (by decide) rfl ?_
  refine e_iand 17 em_438 rfl (ce_at ce_438 10 rfl) ?_
  refine e_gd fun g1 => ?_
  refine e_ifne 24 20 em_438 rfl rfl (ce_at ce_438 11 rfl) g1 (fun h2 => ?_) (fun h2 => ?_)
  · refine e_mv 25 em_438 (ce_at ce_438 14 rfl) rfl rfl ?_
    refine e_op 26 em_438 (ce_at ce_438 15 rfl) rfl rfl ?_
    refine e_ixor 27 em_438 rfl (ce_at ce_438 16 rfl) ?_
    refine e_pk [0, 2] rfl rfl ?_
    exact tm_unit_27 H w d hd _ _ _ _
  · refine e_mv 21 em_438 (ce_at ce_438 12 rfl) rfl rfl ?_
    refine e_goto em_438 27 (ce_at ce_438 13 rfl) rfl ?_
    refine e_pk [0, 2] rfl rfl ?_
    exact tm_unit_27 H w d hd _ _ _ _
theorem fm_unit_12 (v0 : Int) (v2 : Int) (t0 : Int) (s : iS) : Fm Prod.snd L_m_unit G_m_unit s (m_unit_12 v0 v2 t0 s) := fm_gd (fm_if (fm_unit_27 _ _ _ _) (fm_unit_27 _ _ _ _))
noncomputable def m_unit (v0 : Int) (v1 : Int) (v2 : Int) (s : iS) : Option (Int × iS) := gd (rg (i_and v0 32)) (if (i_and v0 32) = 0 then m_unit_12 v0 v2 v1 s else m_unit_12 v0 v2 0 s)
theorem tm_unit (H : iS → List am_C) (w : ev_W) (d : Nat) (hd : 0 ≤ d) (v0 : Int) (v1 : Int) (v2 : Int) (s : iS) : Ew H w d 438 0 [(0, iv v0), (1, iv v1), (2, iv v2)] [] s (Ci H) (m_unit v0 v1 v2 s) := by
  unfold m_unit
  refine e_mv 1 em_438 (ce_at ce_438 0 rfl) rfl rfl ?_
  refine e_bip 3 em_438 (ce_at ce_438 1 rfl) (by decide) rfl ?_
  refine e_iand 4 em_438 rfl (ce_at ce_438 2 rfl) ?_
  refine e_gd fun g1 => ?_
  refine e_ifne 11 7 em_438 rfl rfl (ce_at ce_438 3 rfl) g1 (fun h2 => ?_) (fun h2 => ?_)
  · refine e_op 12 em_438 (ce_at ce_438 6 rfl) rfl rfl ?_
    refine e_pk [0, 2] rfl rfl ?_
    exact tm_unit_12 H w d hd _ _ _ _
  · refine e_mv 8 em_438 (ce_at ce_438 4 rfl) rfl rfl ?_
    refine e_goto em_438 12 (ce_at ce_438 5 rfl) rfl ?_
    refine e_pk [0, 2] rfl rfl ?_
    exact tm_unit_12 H w d hd _ _ _ _
theorem fm_unit (v0 : Int) (v1 : Int) (v2 : Int) (s : iS) : Fm Prod.snd L_m_unit G_m_unit s (m_unit v0 v1 v2 s) := fm_gd (fm_if (fm_unit_12 _ _ _ _) (fm_unit_12 _ _ _ _))
/-! m_oneCode -/
def L_m_oneCode : List Nat := [194]
def G_m_oneCode : List (Nat × Nat) := [(121, 118), (121, 119), (121, 120), (121, 121)]
noncomputable def m_oneCode_142 (v1 : Int) (v2 : Int) (t0 : Int) (s : iS) : Option (Int × iS) := gd (rg (i_and v1 t0)) (if (i_and v1 t0) = 0 then some (0, s) else lt' (up s 121 120 v2) (fun s3 => some (0, s3)))
theorem tm_oneCode_142 (w : ev_W) (d : Nat) (hd : 1 ≤ d) (v1 : Int) (v2 : Int) (t0 : Int) (s : iS) : Ew hT w d 437 142 [(0, .ref (tb_nK + 121)), (1, iv v1), (2, iv v2)] [iv t0] s (Cv hT) (m_oneCode_142 v1 v2 t0 s) := by
  unfold m_oneCode_142
  refine e_mv 144 em_437 (ce_at ce_437 82 rfl) rfl rfl ?_
  refine e_mv 145 em_437 (ce_at ce_437 83 rfl) rfl rfl ?_
  refine e_mv 147 em_437 (ce_at ce_437 84 rfl) rfl rfl ?_
  refine e_iand 148 em_437 rfl (ce_at ce_437 85 rfl) ?_
  refine e_gd fun g1 => ?_
  refine e_ifeq 156 151 em_437 rfl rfl (ce_at ce_437 86 rfl) g1 (fun h2 => ?_) (fun h2 => ?_)
  · exact e_retv em_437 (ce_at ce_437 90 rfl)
  · refine e_mv 152 em_437 (ce_at ce_437 87 rfl) rfl rfl ?_
    refine e_mv 153 em_437 (ce_at ce_437 88 rfl) rfl rfl ?_
    refine e_put 156 em_437 (ce_at ce_437 89 rfl) tq_121 rfl rfl rfl (fun s3 => ?_)
    exact e_retv em_437 (ce_at ce_437 90 rfl)
theorem fm_oneCode_142 (v1 : Int) (v2 : Int) (t0 : Int) (s : iS) : Fm Prod.snd L_m_oneCode G_m_oneCode s (m_oneCode_142 v1 v2 t0 s) := fm_gd (fm_if (fm_some md_refl) (fm_lt (md_upF (mem_F rfl)) (fun s3 => fm_some md_refl)))
noncomputable def m_oneCode_125 (v1 : Int) (v2 : Int) (v3 : Int) (s : iS) : Option (Int × iS) := gd (rg v3) (if v3 ≤ 0 then if v3 = 0 then m_oneCode_142 v1 v2 2 s else m_oneCode_142 v1 v2 4 s else m_oneCode_142 v1 v2 1 s)
theorem tm_oneCode_125 (w : ev_W) (d : Nat) (hd : 1 ≤ d) (v1 : Int) (v2 : Int) (v3 : Int) (s : iS) : Ew hT w d 437 125 [(0, .ref (tb_nK + 121)), (1, iv v1), (2, iv v2), (3, iv v3)] [] s (Cv hT) (m_oneCode_125 v1 v2 v3 s) := by
  unfold m_oneCode_125
  refine e_mv 126 em_437 (ce_at ce_437 73 rfl) rfl rfl ?_
  refine e_gd fun g1 => ?_
  refine e_ifle 133 129 em_437 rfl rfl (ce_at ce_437 74 rfl) g1 (fun h2 => ?_) (fun h2 => ?_)
  · refine e_mv 134 em_437 (ce_at ce_437 77 rfl) rfl rfl ?_
    refine e_ifne 141 137 em_437 rfl rfl (ce_at ce_437 78 rfl) g1 (fun h3 => ?_) (fun h3 => ?_)
    · refine e_op 142 em_437 (ce_at ce_437 81 rfl) rfl rfl ?_
      refine e_pk [0, 1, 2] rfl rfl ?_
      exact tm_oneCode_142 w d hd _ _ _ _
    · refine e_op 138 em_437 (ce_at ce_437 79 rfl) rfl rfl ?_
      refine e_goto em_437 142 (ce_at ce_437 80 rfl) rfl ?_
      refine e_pk [0, 1, 2] rfl rfl ?_
      exact tm_oneCode_142 w d hd _ _ _ _
  · refine e_op 130 em_437 (ce_at ce_437 75 rfl) rfl rfl ?_
    refine e_goto em_437 142 (ce_at ce_437 76 rfl) rfl ?_
    refine e_pk [0, 1, 2] rfl rfl ?_
    exact tm_oneCode_142 w d hd _ _ _ _
theorem fm_oneCode_125 (v1 : Int) (v2 : Int) (v3 : Int) (s : iS) : Fm Prod.snd L_m_oneCode G_m_oneCode s (m_oneCode_125 v1 v2 v3 s) := fm_gd (fm_if (fm_if (fm_oneCode_142 _ _ _ _) (fm_oneCode_142 _ _ _ _)) (fm_oneCode_142 _ _ _ _))
noncomputable def m_oneCode_113 (v1 : Int) (v2 : Int) (v3 : Int) (s : iS) : Option (Int × iS) := gd (rg (i_and v1 16)) (if (i_and v1 16) = 0 then m_oneCode_125 v1 v2 v3 s else lt' (up s 121 119 v3) (fun s3 => m_oneCode_125 v1 v2 v3 s3))
theorem tm_oneCode_113 (w : ev_W) (d : Nat) (hd : 1 ≤ d) (v1 : Int) (v2 : Int) (v3 : Int) (s : iS) : Ew hT w d 437 113 [(0, .ref (tb_nK + 121)), (1, iv v1), (2, iv v2), (3, iv v3)] [] s (Cv hT) (m_oneCode_113 v1 v2 v3 s) := by
  unfold m_oneCode_113
  refine e_mv 114 em_437 (ce_at ce_437 66 rfl) rfl rfl ?_
  refine e_bip 116 em_437 (ce_at ce_437 67 rfl) (by decide) rfl ?_
  refine e_iand 117 em_437 rfl (ce_at ce_437 68 rfl) ?_
  refine e_gd fun g1 => ?_
  refine e_ifeq 125 120 em_437 rfl rfl (ce_at ce_437 69 rfl) g1 (fun h2 => ?_) (fun h2 => ?_)
  · refine e_pk [0, 1, 2, 3] rfl rfl ?_
    exact tm_oneCode_125 w d hd _ _ _ _
  · refine e_mv 121 em_437 (ce_at ce_437 70 rfl) rfl rfl ?_
    refine e_mv 122 em_437 (ce_at ce_437 71 rfl) rfl rfl ?_
    refine e_put 125 em_437 (ce_at ce_437 72 rfl) tq_121 rfl rfl rfl (fun s3 => ?_)
    refine e_pk [0, 1, 2, 3] rfl rfl ?_
    exact tm_oneCode_125 w d hd _ _ _ _
theorem fm_oneCode_113 (v1 : Int) (v2 : Int) (v3 : Int) (s : iS) : Fm Prod.snd L_m_oneCode G_m_oneCode s (m_oneCode_113 v1 v2 v3 s) := fm_gd (fm_if (fm_oneCode_125 _ _ _ _) (fm_lt (md_upF (mem_F rfl)) (fun s3 => fm_oneCode_125 _ _ _ _)))
noncomputable def m_oneCode_101 (v1 : Int) (v2 : Int) (v3 : Int) (s : iS) : Option (Int × iS) := gd (rg (i_and v1 32)) (if (i_and v1 32) = 0 then m_oneCode_113 v1 v2 v3 s else lt' (up s 121 118 v3) (fun s3 => m_oneCode_113 v1 v2 v3 s3))
theorem tm_oneCode_101 (w : ev_W) (d : Nat) (hd : 1 ≤ d) (v1 : Int) (v2 : Int) (v3 : Int) (s : iS) : Ew hT w d 437 101 [(0, .ref (tb_nK + 121)), (1, iv v1), (2, iv v2), (3, iv v3)] [] s (Cv hT) (m_oneCode_101 v1 v2 v3 s) := by
  unfold m_oneCode_101
  refine e_mv 102 em_437 (ce_at ce_437 59 rfl) rfl rfl ?_
  refine e_bip 104 em_437 (ce_at ce_437 60 rfl) (by decide) rfl ?_
  refine e_iand 105 em_437 rfl (ce_at ce_437 61 rfl) ?_
  refine e_gd fun g1 => ?_
  refine e_ifeq 113 108 em_437 rfl rfl (ce_at ce_437 62 rfl) g1 (fun h2 => ?_) (fun h2 => ?_)
  · refine e_pk [0, 1, 2, 3] rfl rfl ?_
    exact tm_oneCode_113 w d hd _ _ _ _
  · refine e_mv 109 em_437 (ce_at ce_437 63 rfl) rfl rfl ?_
    refine e_mv 110 em_437 (ce_at ce_437 64 rfl) rfl rfl ?_
    refine e_put 113 em_437 (ce_at ce_437 65 rfl) tq_121 rfl rfl rfl (fun s3 => ?_)
    refine e_pk [0, 1, 2, 3] rfl rfl ?_
    exact tm_oneCode_113 w d hd _ _ _ _
theorem fm_oneCode_101 (v1 : Int) (v2 : Int) (v3 : Int) (s : iS) : Fm Prod.snd L_m_oneCode G_m_oneCode s (m_oneCode_101 v1 v2 v3 s) := fm_gd (fm_if (fm_oneCode_113 _ _ _ _) (fm_lt (md_upF (mem_F rfl)) (fun s3 => fm_oneCode_113 _ _ _ _)))
noncomputable def m_oneCode_83 (v1 : Int) (v2 : Int) (t0 : Int) (t1 : Int) (t2 : Int) (s : iS) : Option (Int × iS) := bd (m_unit t2 t1 t0 s) (fun r1 s1 => gd (rg (i_and v1 8)) (if (i_and v1 8) = 0 then m_oneCode_101 v1 v2 r1 s1 else gd (0 ≤ v2 ∧ v2 < 32768) (lt' (up s1 194 v2.toNat r1) (fun s5 => m_oneCode_101 v1 v2 r1 s5))))
theorem tm_oneCode_83 (w : ev_W) (d : Nat) (hd : 1 ≤ d) (v1 : Int) (v2 : Int) (t0 : Int) (t1 : Int) (t2 : Int) (s : iS) : Ew hT w d 437 83 [(0, .ref (tb_nK + 121)), (1, iv v1), (2, iv v2)] [iv t0, iv t1, iv t2] s (Cv hT) (m_oneCode_83 v1 v2 t0 t1 t2 s) := by
  unfold m_oneCode_83
  refine e_ivi 86 em_437 (ce_at ce_437 48 rfl) (by omega) (iv_s3 rfl) em_438 (Nat.le_of_ble_eq_true rfl) rfl (tm_unit hT w (d - 1) (by omega) _ _ _ _) (fun r1 s1 => ?_)
  refine e_mv 87 em_437 (ce_at ce_437 49 rfl) rfl rfl ?_
  refine e_mv 88 em_437 (ce_at ce_437 50 rfl) rfl rfl ?_
  refine e_bip 90 em_437 (ce_at ce_437 51 rfl) (by decide) rfl ?_
  refine e_iand 91 em_437 rfl (ce_at ce_437 52 rfl) ?_
  refine e_gd fun g2 => ?_
  refine e_ifeq 101 94 em_437 rfl rfl (ce_at ce_437 53 rfl) g2 (fun h3 => ?_) (fun h3 => ?_)
  · refine e_pk [0, 1, 2, 3] rfl rfl ?_
    exact tm_oneCode_101 w d hd _ _ _ _
  · refine e_mv 95 em_437 (ce_at ce_437 54 rfl) rfl rfl ?_
    refine e_getr 98 em_437 (ce_at ce_437 55 rfl) tq_121 rfl rfl ?_
    refine e_mv 99 em_437 (ce_at ce_437 56 rfl) rfl rfl ?_
    refine e_mv 100 em_437 (ce_at ce_437 57 rfl) rfl rfl ?_
    refine e_gd fun g4 => ?_
    refine e_ist 101 em_437 (ce_at ce_437 58 rfl) tq_194 (by decide) g4 rfl (fun s5 => ?_)
    refine e_pk [0, 1, 2, 3] rfl rfl ?_
    exact tm_oneCode_101 w d hd _ _ _ _
theorem fm_oneCode_83 (v1 : Int) (v2 : Int) (t0 : Int) (t1 : Int) (t2 : Int) (s : iS) : Fm Prod.snd L_m_oneCode G_m_oneCode s (m_oneCode_83 v1 v2 t0 t1 t2 s) := fm_bd (fm_sub (fm_unit _ _ _ _) (mem_sub_L rfl) (mem_sub_F rfl)) (fun r1 s1 => fm_gd (fm_if (fm_oneCode_101 _ _ _ _) (fm_gd (fm_lt (md_upL (mem_L rfl)) (fun s5 => fm_oneCode_101 _ _ _ _)))))
noncomputable def m_oneCode (s : iS) : Option (Int × iS) := gd (0 ≤ (s 121 120) ∧ (s 121 120) < 2000) (lt' (up s 121 120 ((s 121 120) + 1)) (fun s2 => lt' (up s2 121 121 ((s2 121 121) + 1)) (fun s3 => gd (rg (s 189 (s 121 120).toNat)) (if 32768 ≤ (s 189 (s 121 120).toNat) then gd (rg (i_and (s 189 (s 121 120).toNat) 4096)) (if (i_and (s 189 (s 121 120).toNat) 4096) = 0 then m_oneCode_83 (s 189 (s 121 120).toNat) (i_and (s3 121 118) 32767) (s3 121 118) (s3 121 119) (i_and (i_shr (s 189 (s 121 120).toNat) 6) 63) s3 else gd (0 ≤ (i_and (s3 121 118) 32767) ∧ (i_and (s3 121 118) 32767) < 32768) (m_oneCode_83 (s 189 (s 121 120).toNat) (i_and (s3 121 118) 32767) (s3 194 (i_and (s3 121 118) 32767).toNat) (s3 121 119) (i_and (i_shr (s 189 (s 121 120).toNat) 6) 63) s3)) else lt' (up s3 121 118 (s 189 (s 121 120).toNat)) (fun s9 => some (0, s9))))))
theorem tm_oneCode (w : ev_W) (d : Nat) (hd : 1 ≤ d) (s : iS) : Ew hT w d 437 0 [(0, .ref (tb_nK + 121))] [] s (Cv hT) (m_oneCode s) := by
  unfold m_oneCode
  refine e_mv 1 em_437 (ce_at ce_437 0 rfl) rfl rfl ?_
  refine e_getr 4 em_437 (ce_at ce_437 1 rfl) tq_121 rfl rfl ?_
  refine e_mv 5 em_437 (ce_at ce_437 2 rfl) rfl rfl ?_
  refine e_get 8 em_437 (ce_at ce_437 3 rfl) tq_121 rfl rfl ?_
  refine e_gd fun g1 => ?_
  refine e_ild 9 em_437 (ce_at ce_437 4 rfl) tq_189 (by decide) g1 rfl ?_
  refine e_mv 10 em_437 (ce_at ce_437 5 rfl) rfl rfl ?_
  refine e_mv 11 em_437 (ce_at ce_437 6 rfl) rfl rfl ?_
  refine e_mv 12 em_437 (ce_at ce_437 7 rfl) rfl rfl ?_
  refine e_get 15 em_437 (ce_at ce_437 8 rfl) tq_121 rfl rfl ?_
  refine e_op 16 em_437 (ce_at ce_437 9 rfl) rfl rfl ?_
  refine e_iadd 17 em_437 rfl (ce_at ce_437 10 rfl) ?_
  refine e_put 20 em_437 (ce_at ce_437 11 rfl) tq_121 rfl rfl rfl (fun s2 => ?_)
  refine e_mv 21 em_437 (ce_at ce_437 12 rfl) rfl rfl ?_
  refine e_mv 22 em_437 (ce_at ce_437 13 rfl) rfl rfl ?_
  refine e_get 25 em_437 (ce_at ce_437 14 rfl) tq_121 rfl rfl ?_
  refine e_op 26 em_437 (ce_at ce_437 15 rfl) rfl rfl ?_
  refine e_iadd 27 em_437 rfl (ce_at ce_437 16 rfl) ?_
  refine e_put 30 em_437 (ce_at ce_437 17 rfl) tq_121 rfl rfl rfl (fun s3 => ?_)
  refine e_mv 31 em_437 (ce_at ce_437 18 rfl) rfl rfl ?_
  refine e_ldc 33 em_437 (ce_at ce_437 19 rfl) (x := 32768) rfl rfl ?_
  refine e_gd fun g4 => ?_
  refine e_cmge 42 36 em_437 rfl rfl (ce_at ce_437 20 rfl) g4 (by decide) (fun h5 => ?_) (fun h5 => ?_)
  · refine e_mv 43 em_437 (ce_at ce_437 25 rfl) rfl rfl ?_
    refine e_get 46 em_437 (ce_at ce_437 26 rfl) tq_121 rfl rfl ?_
    refine e_sip 49 em_437 (ce_at ce_437 27 rfl) (by decide) rfl ?_
    refine e_iand 50 em_437 rfl (ce_at ce_437 28 rfl) ?_
    refine e_mv 51 em_437 (ce_at ce_437 29 rfl) rfl rfl ?_
    refine e_mv 52 em_437 (ce_at ce_437 30 rfl) rfl rfl ?_
    refine e_bip 54 em_437 (ce_at ce_437 31 rfl) (by decide) rfl ?_
    refine e_ishr 55 em_437 rfl (ce_at ce_437 32 rfl) ?_
    refine e_bip 57 em_437 (ce_at ce_437 33 rfl) (by decide) rfl ?_
    refine e_iand 58 em_437 rfl (ce_at ce_437 34 rfl) ?_
    refine e_mv 59 em_437 (ce_at ce_437 35 rfl) rfl rfl ?_
    refine e_get 62 em_437 (ce_at ce_437 36 rfl) tq_121 rfl rfl ?_
    refine e_mv 63 em_437 (ce_at ce_437 37 rfl) rfl rfl ?_
    refine e_sip 66 em_437 (ce_at ce_437 38 rfl) (by decide) rfl ?_
    refine e_iand 67 em_437 rfl (ce_at ce_437 39 rfl) ?_
    refine e_gd fun g6 => ?_
    refine e_ifne 77 70 em_437 rfl rfl (ce_at ce_437 40 rfl) g6 (fun h7 => ?_) (fun h7 => ?_)
    · refine e_mv 78 em_437 (ce_at ce_437 44 rfl) rfl rfl ?_
      refine e_getr 81 em_437 (ce_at ce_437 45 rfl) tq_121 rfl rfl ?_
      refine e_mv 82 em_437 (ce_at ce_437 46 rfl) rfl rfl ?_
      refine e_gd fun g8 => ?_
      refine e_ild 83 em_437 (ce_at ce_437 47 rfl) tq_194 (by decide) g8 rfl ?_
      refine e_pk [0, 1, 2] rfl rfl ?_
      exact tm_oneCode_83 w d hd _ _ _ _ _ _
    · refine e_mv 71 em_437 (ce_at ce_437 41 rfl) rfl rfl ?_
      refine e_get 74 em_437 (ce_at ce_437 42 rfl) tq_121 rfl rfl ?_
      refine e_goto em_437 83 (ce_at ce_437 43 rfl) rfl ?_
      refine e_pk [0, 1, 2] rfl rfl ?_
      exact tm_oneCode_83 w d hd _ _ _ _ _ _
  · refine e_mv 37 em_437 (ce_at ce_437 21 rfl) rfl rfl ?_
    refine e_mv 38 em_437 (ce_at ce_437 22 rfl) rfl rfl ?_
    refine e_put 41 em_437 (ce_at ce_437 23 rfl) tq_121 rfl rfl rfl (fun s9 => ?_)
    exact e_retv em_437 (ce_at ce_437 24 rfl)
theorem fm_oneCode (s : iS) : Fm Prod.snd L_m_oneCode G_m_oneCode s (m_oneCode s) := fm_gd (fm_lt (md_upF (mem_F rfl)) (fun s2 => fm_lt (md_upF (mem_F rfl)) (fun s3 => fm_gd (fm_if (fm_gd (fm_if (fm_oneCode_83 _ _ _ _ _ _) (fm_gd (fm_oneCode_83 _ _ _ _ _ _)))) (fm_lt (md_upF (mem_F rfl)) (fun s9 => fm_some md_refl))))))
