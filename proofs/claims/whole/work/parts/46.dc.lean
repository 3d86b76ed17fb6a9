/-! what the methods do, as functions, and that the machine does it; printed by wip/whole/dc.py -/
/-! cck_findRings -/
def L_cck_findRings : List Nat := [107]
def G_cck_findRings : List (Nat × Nat) := [(2, 13), (2, 14)]
def cck_findRings_35C (w : ev_W) (d : Nat) (v1 : Int) (v2 : Int) : (Int × iS) ⊕ (iS) → am_E → Prop := fun q r => q.elim (fun l => ev w d 264 35 ((fun l => [(0, .ref (tb_nK + 90)), (1, iv v1), (2, iv v2), (3, iv (l.1))]) l) [] (hT ((fun l => l.2) l)) r) (fun e => (fun e r => ev w d 264 73 [(0, .ref (tb_nK + 90)), (1, iv v1), (2, iv v2)] [] (hT (e)) r) e r)
noncomputable def cck_findRings_35b (v1 : Int) (v2 : Int) (v3 : Int) (s : iS) : Option ((Int × iS) ⊕ (iS)) := gd (0 ≤ (v2 + 1) ∧ (v2 + 1) < 19) (gd (rg v3) (gd (rg (s 78 (v2 + 1).toNat)) (if (s 78 (v2 + 1).toNat) ≤ v3 then some (.inr s) else gd (0 ≤ v2 ∧ v2 < 18) (gd (0 ≤ v3 ∧ v3 < 384) (lt' (up s 107 v2.toNat (i_or (s 107 v2.toNat) (i_shl 1 (s 94 v3.toNat)))) (fun s7 => some (.inl ((v3 + 1), s7))))))))
theorem tcck_findRings_35b (w : ev_W) (d : Nat) (hd : 1 ≤ d) (v1 : Int) (v2 : Int) (v3 : Int) (s : iS) : Ew hT w d 264 35 [(0, .ref (tb_nK + 90)), (1, iv v1), (2, iv v2), (3, iv v3)] [] s (cck_findRings_35C w d v1 v2) (cck_findRings_35b v1 v2 v3 s) := by
  unfold cck_findRings_35b
  refine e_mv 36 em_264 (ce_at ce_264 21 rfl) rfl rfl ?_
  refine e_mv 37 em_264 (ce_at ce_264 22 rfl) rfl rfl ?_
  refine e_getr 40 em_264 (ce_at ce_264 23 rfl) tq_90 rfl rfl ?_
  refine e_getr 43 em_264 (ce_at ce_264 24 rfl) tq_71 rfl rfl ?_
  refine e_mv 44 em_264 (ce_at ce_264 25 rfl) rfl rfl ?_
  refine e_op 45 em_264 (ce_at ce_264 26 rfl) rfl rfl ?_
  refine e_iadd 46 em_264 rfl (ce_at ce_264 27 rfl) ?_
  refine e_gd fun g1 => ?_
  refine e_ild 47 em_264 (ce_at ce_264 28 rfl) tq_78 (by decide) g1 rfl ?_
  refine e_gd fun g2 => ?_
  refine e_gd fun g3 => ?_
  refine e_cmge 73 50 em_264 rfl rfl (ce_at ce_264 29 rfl) g2 g3 (fun h4 => ?_) (fun h4 => ?_)
  · refine e_pk [0, 1, 2] rfl rfl ?_
    exact e_out (fun r h => h)
  · refine e_mv 51 em_264 (ce_at ce_264 30 rfl) rfl rfl ?_
    refine e_getr 54 em_264 (ce_at ce_264 31 rfl) tq_90 rfl rfl ?_
    refine e_mv 55 em_264 (ce_at ce_264 32 rfl) rfl rfl ?_
    refine e_op 56 em_264 (ce_at ce_264 33 rfl) rfl rfl ?_
    refine e_gd fun g5 => ?_
    refine e_ild 57 em_264 (ce_at ce_264 34 rfl) tq_107 (by decide) g5 rfl ?_
    refine e_op 58 em_264 (ce_at ce_264 35 rfl) rfl rfl ?_
    refine e_mv 59 em_264 (ce_at ce_264 36 rfl) rfl rfl ?_
    refine e_getr 62 em_264 (ce_at ce_264 37 rfl) tq_90 rfl rfl ?_
    refine e_mv 63 em_264 (ce_at ce_264 38 rfl) rfl rfl ?_
    refine e_gd fun g6 => ?_
    refine e_ild 64 em_264 (ce_at ce_264 39 rfl) tq_94 (by decide) g6 rfl ?_
    refine e_ishl 65 em_264 rfl (ce_at ce_264 40 rfl) ?_
    refine e_ior 66 em_264 rfl (ce_at ce_264 41 rfl) ?_
    refine e_ist 67 em_264 (ce_at ce_264 42 rfl) tq_107 (by decide) g5 rfl (fun s7 => ?_)
    refine e_iinc 70 em_264 (ce_at ce_264 43 rfl) rfl (by decide) rfl ?_
    refine e_goto em_264 35 (ce_at ce_264 44 rfl) rfl ?_
    refine e_pk [0, 1, 2, 3] rfl rfl ?_
    exact e_out (fun r h => h)
theorem fcck_findRings_35b (v1 : Int) (v2 : Int) (v3 : Int) (s : iS) : Fm (fun r : (Int × iS) ⊕ (iS) => r.elim (fun l => l.2) (fun e => e)) L_cck_findRings G_cck_findRings s (cck_findRings_35b v1 v2 v3 s) := fm_gd (fm_gd (fm_gd (fm_if (fm_some md_refl) (fm_gd (fm_gd (fm_lt (md_upL (mem_L rfl)) (fun s7 => fm_some md_refl)))))))
def cck_findRings_13C (w : ev_W) (d : Nat) (v1 : Int) : (Int × iS) ⊕ (iS) → am_E → Prop := fun q r => q.elim (fun l => ev w d 264 13 ((fun l => [(0, .ref (tb_nK + 90)), (1, iv v1), (2, iv (l.1))]) l) [] (hT ((fun l => l.2) l)) r) (fun e => (fun e r => ev w d 264 79 [(0, .ref (tb_nK + 90)), (1, iv v1)] [] (hT (e)) r) e r)
noncomputable def cck_findRings_35 (v1 : Int) (v2 : Int) (v3 : Int) (s : iS) : Option ((Int × iS) ⊕ (iS)) := (lp (L := Int × iS) (E := iS) (fun l => cck_findRings_35b v1 v2 (l.1) (l.2)) (v3, s)).bind (fun e => some (.inl ((v2 + 1), e)))
theorem tcck_findRings_35 (w : ev_W) (d : Nat) (hd : 1 ≤ d) (v1 : Int) (v2 : Int) (v3 : Int) (s : iS) : Ew hT w d 264 35 [(0, .ref (tb_nK + 90)), (1, iv v1), (2, iv v2), (3, iv v3)] [] s (cck_findRings_13C w d v1) (cck_findRings_35 v1 v2 v3 s) := by
  unfold cck_findRings_35
  refine e_lp (L := Int × iS) (E := iS) (LO := fun l => [(0, .ref (tb_nK + 90)), (1, iv v1), (2, iv v2), (3, iv (l.1))]) (LS := fun l => l.2) (CE := fun e r => ev w d 264 73 [(0, .ref (tb_nK + 90)), (1, iv v1), (2, iv v2)] [] (hT (e)) r) (fun l => tcck_findRings_35b w d hd _ _ _ _) ?_ (v3, s)
  intro e
  show Ew hT w d 264 73 [(0, .ref (tb_nK + 90)), (1, iv v1), (2, iv v2)] [] e (cck_findRings_13C w d v1) _
  refine e_iinc 76 em_264 (ce_at ce_264 45 rfl) rfl (by decide) rfl ?_
  refine e_goto em_264 13 (ce_at ce_264 46 rfl) rfl ?_
  refine e_pk [0, 1, 2] rfl rfl ?_
  exact e_out (fun r h => h)
theorem fcck_findRings_35 (v1 : Int) (v2 : Int) (v3 : Int) (s : iS) : Fm (fun r : (Int × iS) ⊕ (iS) => r.elim (fun l => l.2) (fun e => e)) L_cck_findRings G_cck_findRings s (cck_findRings_35 v1 v2 v3 s) := by
  unfold cck_findRings_35
  refine fm_lp (A := Int × iS) (E := iS) (LS := fun l => l.2) (LE := fun e => e) ?_ ?_ (v3, s)
  · exact fun l => fcck_findRings_35b _ _ _ _
  · exact (fun e => fm_some md_refl)
noncomputable def cck_findRings_13b (v1 : Int) (v2 : Int) (s : iS) : Option ((Int × iS) ⊕ (iS)) := gd (rg v2) (gd (rg v1) (if v1 ≤ v2 then some (.inr s) else gd (0 ≤ v2 ∧ v2 < 18) (lt' (up s 107 v2.toNat 0) (fun s5 => gd (0 ≤ v2 ∧ v2 < 19) (cck_findRings_35 v1 v2 (s5 78 v2.toNat) s5)))))
theorem tcck_findRings_13b (w : ev_W) (d : Nat) (hd : 1 ≤ d) (v1 : Int) (v2 : Int) (s : iS) : Ew hT w d 264 13 [(0, .ref (tb_nK + 90)), (1, iv v1), (2, iv v2)] [] s (cck_findRings_13C w d v1) (cck_findRings_13b v1 v2 s) := by
  unfold cck_findRings_13b
  refine e_mv 14 em_264 (ce_at ce_264 7 rfl) rfl rfl ?_
  refine e_mv 15 em_264 (ce_at ce_264 8 rfl) rfl rfl ?_
  refine e_gd fun g1 => ?_
  refine e_gd fun g2 => ?_
  refine e_cmge 79 18 em_264 rfl rfl (ce_at ce_264 9 rfl) g1 g2 (fun h3 => ?_) (fun h3 => ?_)
  · refine e_pk [0, 1] rfl rfl ?_
    exact e_out (fun r h => h)
  · refine e_mv 19 em_264 (ce_at ce_264 10 rfl) rfl rfl ?_
    refine e_getr 22 em_264 (ce_at ce_264 11 rfl) tq_90 rfl rfl ?_
    refine e_mv 23 em_264 (ce_at ce_264 12 rfl) rfl rfl ?_
    refine e_op 24 em_264 (ce_at ce_264 13 rfl) rfl rfl ?_
    refine e_gd fun g4 => ?_
    refine e_ist 25 em_264 (ce_at ce_264 14 rfl) tq_107 (by decide) g4 rfl (fun s5 => ?_)
    refine e_mv 26 em_264 (ce_at ce_264 15 rfl) rfl rfl ?_
    refine e_getr 29 em_264 (ce_at ce_264 16 rfl) tq_90 rfl rfl ?_
    refine e_getr 32 em_264 (ce_at ce_264 17 rfl) tq_71 rfl rfl ?_
    refine e_mv 33 em_264 (ce_at ce_264 18 rfl) rfl rfl ?_
    refine e_gd fun g6 => ?_
    refine e_ild 34 em_264 (ce_at ce_264 19 rfl) tq_78 (by decide) g6 rfl ?_
    refine e_mv 35 em_264 (ce_at ce_264 20 rfl) rfl rfl ?_
    refine e_pk [0, 1, 2, 3] rfl rfl ?_
    exact tcck_findRings_35 w d hd _ _ _ _
theorem fcck_findRings_13b (v1 : Int) (v2 : Int) (s : iS) : Fm (fun r : (Int × iS) ⊕ (iS) => r.elim (fun l => l.2) (fun e => e)) L_cck_findRings G_cck_findRings s (cck_findRings_13b v1 v2 s) := fm_gd (fm_gd (fm_if (fm_some md_refl) (fm_gd (fm_lt (md_upL (mem_L rfl)) (fun s5 => fm_gd (fcck_findRings_35 _ _ _ _))))))
def cck_findRings_88C (w : ev_W) (d : Nat) (v1 : Int) (v2 : Int) : (Int × iS) ⊕ (iS) → am_E → Prop := fun q r => q.elim (fun l => ev w d 264 88 ((fun l => [(0, .ref (tb_nK + 90)), (1, iv v1), (2, iv v2), (3, iv (l.1))]) l) [] (hT ((fun l => l.2) l)) r) (fun e => (fun e r => ev w d 264 127 [(0, .ref (tb_nK + 90)), (1, iv v1), (2, iv v2)] [] (hT (e)) r) e r)
noncomputable def cck_findRings_88b (v1 : Int) (v2 : Int) (v3 : Int) (s : iS) : Option ((Int × iS) ⊕ (iS)) := gd (rg v3) (gd (rg v1) (if v1 ≤ v3 then some (.inr s) else gd (0 ≤ v3 ∧ v3 < 18) (gd (rg (i_and (i_shr (s 107 v3.toNat) v2) 1)) (if (i_and (i_shr (s 107 v3.toNat) v2) 1) = 0 then some (.inl ((v3 + 1), s)) else gd (0 ≤ v2 ∧ v2 < 18) (lt' (up s 107 v3.toNat (i_or (s 107 v3.toNat) (s 107 v2.toNat))) (fun s8 => some (.inl ((v3 + 1), s8))))))))
theorem tcck_findRings_88b (w : ev_W) (d : Nat) (hd : 1 ≤ d) (v1 : Int) (v2 : Int) (v3 : Int) (s : iS) : Ew hT w d 264 88 [(0, .ref (tb_nK + 90)), (1, iv v1), (2, iv v2), (3, iv v3)] [] s (cck_findRings_88C w d v1 v2) (cck_findRings_88b v1 v2 v3 s) := by
  unfold cck_findRings_88b
  refine e_mv 89 em_264 (ce_at ce_264 54 rfl) rfl rfl ?_
  refine e_mv 90 em_264 (ce_at ce_264 55 rfl) rfl rfl ?_
  refine e_gd fun g1 => ?_
  refine e_gd fun g2 => ?_
  refine e_cmge 127 93 em_264 rfl rfl (ce_at ce_264 56 rfl) g1 g2 (fun h3 => ?_) (fun h3 => ?_)
  · refine e_pk [0, 1, 2] rfl rfl ?_
    exact e_out (fun r h => h)
  · refine e_mv 94 em_264 (ce_at ce_264 57 rfl) rfl rfl ?_
    refine e_getr 97 em_264 (ce_at ce_264 58 rfl) tq_90 rfl rfl ?_
    refine e_mv 98 em_264 (ce_at ce_264 59 rfl) rfl rfl ?_
    refine e_gd fun g4 => ?_
    refine e_ild 99 em_264 (ce_at ce_264 60 rfl) tq_107 (by decide) g4 rfl ?_
    refine e_mv 100 em_264 (ce_at ce_264 61 rfl) rfl rfl ?_
    refine e_ishr 101 em_264 rfl (ce_at ce_264 62 rfl) ?_
    refine e_op 102 em_264 (ce_at ce_264 63 rfl) rfl rfl ?_
    refine e_iand 103 em_264 rfl (ce_at ce_264 64 rfl) ?_
    refine e_gd fun g5 => ?_
    refine e_ifeq 121 106 em_264 rfl rfl (ce_at ce_264 65 rfl) g5 (fun h6 => ?_) (fun h6 => ?_)
    · refine e_iinc 124 em_264 (ce_at ce_264 77 rfl) rfl (by decide) rfl ?_
      refine e_goto em_264 88 (ce_at ce_264 78 rfl) rfl ?_
      refine e_pk [0, 1, 2, 3] rfl rfl ?_
      exact e_out (fun r h => h)
    · refine e_mv 107 em_264 (ce_at ce_264 66 rfl) rfl rfl ?_
      refine e_getr 110 em_264 (ce_at ce_264 67 rfl) tq_90 rfl rfl ?_
      refine e_mv 111 em_264 (ce_at ce_264 68 rfl) rfl rfl ?_
      refine e_op 112 em_264 (ce_at ce_264 69 rfl) rfl rfl ?_
      refine e_ild 113 em_264 (ce_at ce_264 70 rfl) tq_107 (by decide) g4 rfl ?_
      refine e_mv 114 em_264 (ce_at ce_264 71 rfl) rfl rfl ?_
      refine e_getr 117 em_264 (ce_at ce_264 72 rfl) tq_90 rfl rfl ?_
      refine e_mv 118 em_264 (ce_at ce_264 73 rfl) rfl rfl ?_
      refine e_gd fun g7 => ?_
      refine e_ild 119 em_264 (ce_at ce_264 74 rfl) tq_107 (by decide) g7 rfl ?_
      refine e_ior 120 em_264 rfl (ce_at ce_264 75 rfl) ?_
      refine e_ist 121 em_264 (ce_at ce_264 76 rfl) tq_107 (by decide) g4 rfl (fun s8 => ?_)
      refine e_iinc 124 em_264 (ce_at ce_264 77 rfl) rfl (by decide) rfl ?_
      refine e_goto em_264 88 (ce_at ce_264 78 rfl) rfl ?_
      refine e_pk [0, 1, 2, 3] rfl rfl ?_
      exact e_out (fun r h => h)
theorem fcck_findRings_88b (v1 : Int) (v2 : Int) (v3 : Int) (s : iS) : Fm (fun r : (Int × iS) ⊕ (iS) => r.elim (fun l => l.2) (fun e => e)) L_cck_findRings G_cck_findRings s (cck_findRings_88b v1 v2 v3 s) := fm_gd (fm_gd (fm_if (fm_some md_refl) (fm_gd (fm_gd (fm_if (fm_some md_refl) (fm_gd (fm_lt (md_upL (mem_L rfl)) (fun s8 => fm_some md_refl))))))))
def cck_findRings_81C (w : ev_W) (d : Nat) (v1 : Int) : (Int × iS) ⊕ (iS) → am_E → Prop := fun q r => q.elim (fun l => ev w d 264 81 ((fun l => [(0, .ref (tb_nK + 90)), (1, iv v1), (2, iv (l.1))]) l) [] (hT ((fun l => l.2) l)) r) (fun e => (fun e r => ev w d 264 133 [(0, .ref (tb_nK + 90)), (1, iv v1)] [] (hT (e)) r) e r)
noncomputable def cck_findRings_88 (v1 : Int) (v2 : Int) (v3 : Int) (s : iS) : Option ((Int × iS) ⊕ (iS)) := (lp (L := Int × iS) (E := iS) (fun l => cck_findRings_88b v1 v2 (l.1) (l.2)) (v3, s)).bind (fun e => some (.inl ((v2 + 1), e)))
theorem tcck_findRings_88 (w : ev_W) (d : Nat) (hd : 1 ≤ d) (v1 : Int) (v2 : Int) (v3 : Int) (s : iS) : Ew hT w d 264 88 [(0, .ref (tb_nK + 90)), (1, iv v1), (2, iv v2), (3, iv v3)] [] s (cck_findRings_81C w d v1) (cck_findRings_88 v1 v2 v3 s) := by
  unfold cck_findRings_88
  refine e_lp (L := Int × iS) (E := iS) (LO := fun l => [(0, .ref (tb_nK + 90)), (1, iv v1), (2, iv v2), (3, iv (l.1))]) (LS := fun l => l.2) (CE := fun e r => ev w d 264 127 [(0, .ref (tb_nK + 90)), (1, iv v1), (2, iv v2)] [] (hT (e)) r) (fun l => tcck_findRings_88b w d hd _ _ _ _) ?_ (v3, s)
  intro e
  show Ew hT w d 264 127 [(0, .ref (tb_nK + 90)), (1, iv v1), (2, iv v2)] [] e (cck_findRings_81C w d v1) _
  refine e_iinc 130 em_264 (ce_at ce_264 79 rfl) rfl (by decide) rfl ?_
  refine e_goto em_264 81 (ce_at ce_264 80 rfl) rfl ?_
  refine e_pk [0, 1, 2] rfl rfl ?_
  exact e_out (fun r h => h)
theorem fcck_findRings_88 (v1 : Int) (v2 : Int) (v3 : Int) (s : iS) : Fm (fun r : (Int × iS) ⊕ (iS) => r.elim (fun l => l.2) (fun e => e)) L_cck_findRings G_cck_findRings s (cck_findRings_88 v1 v2 v3 s) := by
  unfold cck_findRings_88
  refine fm_lp (A := Int × iS) (E := iS) (LS := fun l => l.2) (LE := fun e => e) ?_ ?_ (v3, s)
  · exact fun l => fcck_findRings_88b _ _ _ _
  · exact (fun e => fm_some md_refl)
noncomputable def cck_findRings_81b (v1 : Int) (v2 : Int) (s : iS) : Option ((Int × iS) ⊕ (iS)) := gd (rg v2) (gd (rg v1) (if v1 ≤ v2 then some (.inr s) else cck_findRings_88 v1 v2 0 s))
theorem tcck_findRings_81b (w : ev_W) (d : Nat) (hd : 1 ≤ d) (v1 : Int) (v2 : Int) (s : iS) : Ew hT w d 264 81 [(0, .ref (tb_nK + 90)), (1, iv v1), (2, iv v2)] [] s (cck_findRings_81C w d v1) (cck_findRings_81b v1 v2 s) := by
  unfold cck_findRings_81b
  refine e_mv 82 em_264 (ce_at ce_264 49 rfl) rfl rfl ?_
  refine e_mv 83 em_264 (ce_at ce_264 50 rfl) rfl rfl ?_
  refine e_gd fun g1 => ?_
  refine e_gd fun g2 => ?_
  refine e_cmge 133 86 em_264 rfl rfl (ce_at ce_264 51 rfl) g1 g2 (fun h3 => ?_) (fun h3 => ?_)
  · refine e_pk [0, 1] rfl rfl ?_
    exact e_out (fun r h => h)
  · refine e_op 87 em_264 (ce_at ce_264 52 rfl) rfl rfl ?_
    refine e_mv 88 em_264 (ce_at ce_264 53 rfl) rfl rfl ?_
    refine e_pk [0, 1, 2, 3] rfl rfl ?_
    exact tcck_findRings_88 w d hd _ _ _ _
theorem fcck_findRings_81b (v1 : Int) (v2 : Int) (s : iS) : Fm (fun r : (Int × iS) ⊕ (iS) => r.elim (fun l => l.2) (fun e => e)) L_cck_findRings G_cck_findRings s (cck_findRings_81b v1 v2 s) := fm_gd (fm_gd (fm_if (fm_some md_refl) (fcck_findRings_88 _ _ _ _)))
def cck_findRings_135C (w : ev_W) (d : Nat) (v1 : Int) : (Int × iS) ⊕ (iS) → am_E → Prop := fun q r => q.elim (fun l => ev w d 264 135 ((fun l => [(0, .ref (tb_nK + 90)), (1, iv v1), (2, iv (l.1))]) l) [] (hT ((fun l => l.2) l)) r) (fun e => (fun e r => ev w d 264 177 [] [] (hT (e)) r) e r)
noncomputable def cck_findRings_135b (v1 : Int) (v2 : Int) (s : iS) : Option ((Int × iS) ⊕ (iS)) := gd (rg v2) (gd (rg v1) (if v1 ≤ v2 then some (.inr s) else gd (0 ≤ v2 ∧ v2 < 18) (gd (rg (i_and (i_shr (s 107 v2.toNat) v2) 1)) (if (i_and (i_shr (s 107 v2.toNat) v2) 1) = 0 then some (.inl ((v2 + 1), s)) else bd (tok_blame 6 (s 75 v2.toNat) s) (fun _ s7 => some (.inl ((v2 + 1), s7)))))))
theorem tcck_findRings_135b (w : ev_W) (d : Nat) (hd : 1 ≤ d) (v1 : Int) (v2 : Int) (s : iS) : Ew hT w d 264 135 [(0, .ref (tb_nK + 90)), (1, iv v1), (2, iv v2)] [] s (cck_findRings_135C w d v1) (cck_findRings_135b v1 v2 s) := by
  unfold cck_findRings_135b
  refine e_mv 136 em_264 (ce_at ce_264 83 rfl) rfl rfl ?_
  refine e_mv 137 em_264 (ce_at ce_264 84 rfl) rfl rfl ?_
  refine e_gd fun g1 => ?_
  refine e_gd fun g2 => ?_
  refine e_cmge 177 140 em_264 rfl rfl (ce_at ce_264 85 rfl) g1 g2 (fun h3 => ?_) (fun h3 => ?_)
  · refine e_pk [] rfl rfl ?_
    exact e_out (fun r h => h)
  · refine e_mv 141 em_264 (ce_at ce_264 86 rfl) rfl rfl ?_
    refine e_getr 144 em_264 (ce_at ce_264 87 rfl) tq_90 rfl rfl ?_
    refine e_mv 145 em_264 (ce_at ce_264 88 rfl) rfl rfl ?_
    refine e_gd fun g4 => ?_
    refine e_ild 146 em_264 (ce_at ce_264 89 rfl) tq_107 (by decide) g4 rfl ?_
    refine e_mv 147 em_264 (ce_at ce_264 90 rfl) rfl rfl ?_
    refine e_ishr 148 em_264 rfl (ce_at ce_264 91 rfl) ?_
    refine e_op 149 em_264 (ce_at ce_264 92 rfl) rfl rfl ?_
    refine e_iand 150 em_264 rfl (ce_at ce_264 93 rfl) ?_
    refine e_gd fun g5 => ?_
    refine e_ifeq 171 153 em_264 rfl rfl (ce_at ce_264 94 rfl) g5 (fun h6 => ?_) (fun h6 => ?_)
    · refine e_iinc 174 em_264 (ce_at ce_264 104 rfl) rfl (by decide) rfl ?_
      refine e_goto em_264 135 (ce_at ce_264 105 rfl) rfl ?_
      refine e_pk [0, 1, 2] rfl rfl ?_
      exact e_out (fun r h => h)
    · refine e_mv 154 em_264 (ce_at ce_264 95 rfl) rfl rfl ?_
      refine e_getr 157 em_264 (ce_at ce_264 96 rfl) tq_90 rfl rfl ?_
      refine e_bip 159 em_264 (ce_at ce_264 97 rfl) (by decide) rfl ?_
      refine e_mv 160 em_264 (ce_at ce_264 98 rfl) rfl rfl ?_
      refine e_getr 163 em_264 (ce_at ce_264 99 rfl) tq_90 rfl rfl ?_
      refine e_getr 166 em_264 (ce_at ce_264 100 rfl) tq_71 rfl rfl ?_
      refine e_mv 167 em_264 (ce_at ce_264 101 rfl) rfl rfl ?_
      refine e_ild 168 em_264 (ce_at ce_264 102 rfl) tq_75 (by decide) g4 rfl ?_
      refine e_ivv 171 em_264 (ce_at ce_264 103 rfl) (by omega) (iv_v2 (by decide) tq_2 rfl) em_77 (Nat.le_of_ble_eq_true rfl) rfl (ttok_blame w (d - 1) (by omega) _ _ _) (fun r7 s7 => ?_)
      refine e_iinc 174 em_264 (ce_at ce_264 104 rfl) rfl (by decide) rfl ?_
      refine e_goto em_264 135 (ce_at ce_264 105 rfl) rfl ?_
      refine e_pk [0, 1, 2] rfl rfl ?_
      exact e_out (fun r h => h)
theorem fcck_findRings_135b (v1 : Int) (v2 : Int) (s : iS) : Fm (fun r : (Int × iS) ⊕ (iS) => r.elim (fun l => l.2) (fun e => e)) L_cck_findRings G_cck_findRings s (cck_findRings_135b v1 v2 s) := fm_gd (fm_gd (fm_if (fm_some md_refl) (fm_gd (fm_gd (fm_if (fm_some md_refl) (fm_bd (fm_sub (ftok_blame _ _ _) (mem_sub_L rfl) (mem_sub_F rfl)) (fun r7 s7 => fm_some md_refl)))))))
noncomputable def cck_findRings_135 (v1 : Int) (v2 : Int) (s : iS) : Option (Int × iS) := (lp (L := Int × iS) (E := iS) (fun l => cck_findRings_135b v1 (l.1) (l.2)) (v2, s)).bind (fun e => some (0, e))
theorem tcck_findRings_135 (w : ev_W) (d : Nat) (hd : 1 ≤ d) (v1 : Int) (v2 : Int) (s : iS) : Ew hT w d 264 135 [(0, .ref (tb_nK + 90)), (1, iv v1), (2, iv v2)] [] s (Cv hT) (cck_findRings_135 v1 v2 s) := by
  unfold cck_findRings_135
  refine e_lp (L := Int × iS) (E := iS) (LO := fun l => [(0, .ref (tb_nK + 90)), (1, iv v1), (2, iv (l.1))]) (LS := fun l => l.2) (CE := fun e r => ev w d 264 177 [] [] (hT (e)) r) (fun l => tcck_findRings_135b w d hd _ _ _) ?_ (v2, s)
  intro e
  show Ew hT w d 264 177 [] [] e (Cv hT) _
  exact e_retv em_264 (ce_at ce_264 106 rfl)
theorem fcck_findRings_135 (v1 : Int) (v2 : Int) (s : iS) : Fm Prod.snd L_cck_findRings G_cck_findRings s (cck_findRings_135 v1 v2 s) := by
  unfold cck_findRings_135
  refine fm_lp (A := Int × iS) (E := iS) (LS := fun l => l.2) (LE := fun e => e) ?_ ?_ (v2, s)
  · exact fun l => fcck_findRings_135b _ _ _
  · exact (fun e => fm_some md_refl)
noncomputable def cck_findRings_133 (v1 : Int) (s : iS) : Option (Int × iS) := cck_findRings_135 v1 0 s
theorem tcck_findRings_133 (w : ev_W) (d : Nat) (hd : 1 ≤ d) (v1 : Int) (s : iS) : Ew hT w d 264 133 [(0, .ref (tb_nK + 90)), (1, iv v1)] [] s (Cv hT) (cck_findRings_133 v1 s) := by
  unfold cck_findRings_133
  refine e_op 134 em_264 (ce_at ce_264 81 rfl) rfl rfl ?_
  refine e_mv 135 em_264 (ce_at ce_264 82 rfl) rfl rfl ?_
  refine e_pk [0, 1, 2] rfl rfl ?_
  exact tcck_findRings_135 w d hd _ _ _
theorem fcck_findRings_133 (v1 : Int) (s : iS) : Fm Prod.snd L_cck_findRings G_cck_findRings s (cck_findRings_133 v1 s) := fcck_findRings_135 _ _ _
noncomputable def cck_findRings_81 (v1 : Int) (v2 : Int) (s : iS) : Option (Int × iS) := (lp (L := Int × iS) (E := iS) (fun l => cck_findRings_81b v1 (l.1) (l.2)) (v2, s)).bind (fun e => cck_findRings_133 v1 e)
theorem tcck_findRings_81 (w : ev_W) (d : Nat) (hd : 1 ≤ d) (v1 : Int) (v2 : Int) (s : iS) : Ew hT w d 264 81 [(0, .ref (tb_nK + 90)), (1, iv v1), (2, iv v2)] [] s (Cv hT) (cck_findRings_81 v1 v2 s) := by
  unfold cck_findRings_81
  refine e_lp (L := Int × iS) (E := iS) (LO := fun l => [(0, .ref (tb_nK + 90)), (1, iv v1), (2, iv (l.1))]) (LS := fun l => l.2) (CE := fun e r => ev w d 264 133 [(0, .ref (tb_nK + 90)), (1, iv v1)] [] (hT (e)) r) (fun l => tcck_findRings_81b w d hd _ _ _) ?_ (v2, s)
  intro e
  show Ew hT w d 264 133 [(0, .ref (tb_nK + 90)), (1, iv v1)] [] e (Cv hT) _
  refine e_pk [0, 1] rfl rfl ?_
  exact tcck_findRings_133 w d hd _ _
theorem fcck_findRings_81 (v1 : Int) (v2 : Int) (s : iS) : Fm Prod.snd L_cck_findRings G_cck_findRings s (cck_findRings_81 v1 v2 s) := by
  unfold cck_findRings_81
  refine fm_lp (A := Int × iS) (E := iS) (LS := fun l => l.2) (LE := fun e => e) ?_ ?_ (v2, s)
  · exact fun l => fcck_findRings_81b _ _ _
  · exact (fun e => fcck_findRings_133 _ _)
noncomputable def cck_findRings_79 (v1 : Int) (s : iS) : Option (Int × iS) := cck_findRings_81 v1 0 s
theorem tcck_findRings_79 (w : ev_W) (d : Nat) (hd : 1 ≤ d) (v1 : Int) (s : iS) : Ew hT w d 264 79 [(0, .ref (tb_nK + 90)), (1, iv v1)] [] s (Cv hT) (cck_findRings_79 v1 s) := by
  unfold cck_findRings_79
  refine e_op 80 em_264 (ce_at ce_264 47 rfl) rfl rfl ?_
  refine e_mv 81 em_264 (ce_at ce_264 48 rfl) rfl rfl ?_
  refine e_pk [0, 1, 2] rfl rfl ?_
  exact tcck_findRings_81 w d hd _ _ _
theorem fcck_findRings_79 (v1 : Int) (s : iS) : Fm Prod.snd L_cck_findRings G_cck_findRings s (cck_findRings_79 v1 s) := fcck_findRings_81 _ _ _
noncomputable def cck_findRings_13 (v1 : Int) (v2 : Int) (s : iS) : Option (Int × iS) := (lp (L := Int × iS) (E := iS) (fun l => cck_findRings_13b v1 (l.1) (l.2)) (v2, s)).bind (fun e => cck_findRings_79 v1 e)
theorem tcck_findRings_13 (w : ev_W) (d : Nat) (hd : 1 ≤ d) (v1 : Int) (v2 : Int) (s : iS) : Ew hT w d 264 13 [(0, .ref (tb_nK + 90)), (1, iv v1), (2, iv v2)] [] s (Cv hT) (cck_findRings_13 v1 v2 s) := by
  unfold cck_findRings_13
  refine e_lp (L := Int × iS) (E := iS) (LO := fun l => [(0, .ref (tb_nK + 90)), (1, iv v1), (2, iv (l.1))]) (LS := fun l => l.2) (CE := fun e r => ev w d 264 79 [(0, .ref (tb_nK + 90)), (1, iv v1)] [] (hT (e)) r) (fun l => tcck_findRings_13b w d hd _ _ _) ?_ (v2, s)
  intro e
  show Ew hT w d 264 79 [(0, .ref (tb_nK + 90)), (1, iv v1)] [] e (Cv hT) _
  refine e_pk [0, 1] rfl rfl ?_
  exact tcck_findRings_79 w d hd _ _
theorem fcck_findRings_13 (v1 : Int) (v2 : Int) (s : iS) : Fm Prod.snd L_cck_findRings G_cck_findRings s (cck_findRings_13 v1 v2 s) := by
  unfold cck_findRings_13
  refine fm_lp (A := Int × iS) (E := iS) (LS := fun l => l.2) (LE := fun e => e) ?_ ?_ (v2, s)
  · exact fun l => fcck_findRings_13b _ _ _
  · exact (fun e => fcck_findRings_79 _ _)
noncomputable def cck_findRings (s : iS) : Option (Int × iS) := cck_findRings_13 (s 72 2) 0 s
theorem tcck_findRings (w : ev_W) (d : Nat) (hd : 1 ≤ d) (s : iS) : Ew hT w d 264 0 [(0, .ref (tb_nK + 90))] [] s (Cv hT) (cck_findRings s) := by
  unfold cck_findRings
  refine e_mv 1 em_264 (ce_at ce_264 0 rfl) rfl rfl ?_
  refine e_getr 4 em_264 (ce_at ce_264 1 rfl) tq_90 rfl rfl ?_
  refine e_getr 7 em_264 (ce_at ce_264 2 rfl) tq_71 rfl rfl ?_
  refine e_get 10 em_264 (ce_at ce_264 3 rfl) tq_72 rfl rfl ?_
  refine e_mv 11 em_264 (ce_at ce_264 4 rfl) rfl rfl ?_
  refine e_op 12 em_264 (ce_at ce_264 5 rfl) rfl rfl ?_
  refine e_mv 13 em_264 (ce_at ce_264 6 rfl) rfl rfl ?_
  refine e_pk [0, 1, 2] rfl rfl ?_
  exact tcck_findRings_13 w d hd _ _ _
theorem fcck_findRings (s : iS) : Fm Prod.snd L_cck_findRings G_cck_findRings s (cck_findRings s) := fcck_findRings_13 _ _ _
/-! cck_check -/
def L_cck_check : List Nat := [91, 92, 93, 94, 95, 96, 97, 98, 100, 101, 102, 103, 104, 105, 106, 107]
def G_cck_check : List (Nat × Nat) := [(2, 13), (2, 14), (99, 2)]
def cck_check_2C (w : ev_W) (d : Nat) : (Int × iS) ⊕ (iS) → am_E → Prop := fun q r => q.elim (fun l => ev w d 245 2 ((fun l => [(0, .ref (tb_nK + 90)), (1, iv (l.1))]) l) [] (hT ((fun l => l.2) l)) r) (fun e => (fun e r => ev w d 245 73 [(0, .ref (tb_nK + 90))] [] (hT (e)) r) e r)
noncomputable def cck_check_62 (v1 : Int) (s : iS) : Option ((Int × iS) ⊕ (iS)) := bd (cck_checkPins v1 s) (fun _ s1 => some (.inl ((v1 + 1), s1)))
theorem tcck_check_62 (w : ev_W) (d : Nat) (hd : 7 ≤ d) (v1 : Int) (s : iS) : Ew hT w d 245 62 [(0, .ref (tb_nK + 90)), (1, iv v1)] [] s (cck_check_2C w d) (cck_check_62 v1 s) := by
  unfold cck_check_62
  refine e_mv 63 em_245 (ce_at ce_245 32 rfl) rfl rfl ?_
  refine e_mv 64 em_245 (ce_at ce_245 33 rfl) rfl rfl ?_
  refine e_ivv 67 em_245 (ce_at ce_245 34 rfl) (by omega) (iv_v1 (by decide) tq_90 rfl) em_246 (Nat.le_of_ble_eq_true rfl) rfl (tcck_checkPins w (d - 1) (by omega) _ _) (fun r1 s1 => ?_)
  refine e_iinc 70 em_245 (ce_at ce_245 35 rfl) rfl (by decide) rfl ?_
  refine e_goto em_245 2 (ce_at ce_245 36 rfl) rfl ?_
  refine e_pk [0, 1] rfl rfl ?_
  exact e_out (fun r h => h)
theorem fcck_check_62 (v1 : Int) (s : iS) : Fm (fun r : (Int × iS) ⊕ (iS) => r.elim (fun l => l.2) (fun e => e)) L_cck_check G_cck_check s (cck_check_62 v1 s) := fm_bd (fm_sub (fcck_checkPins _ _) (mem_sub_L rfl) (mem_sub_F rfl)) (fun r1 s1 => fm_some md_refl)
noncomputable def cck_check_2b (v1 : Int) (s : iS) : Option ((Int × iS) ⊕ (iS)) := gd (rg v1) (gd (rg (s 72 2)) (if (s 72 2) ≤ v1 then some (.inr s) else gd (0 ≤ v1 ∧ v1 < 18) (bd (tok_findIn 72 73 74 18 (s 75 v1.toNat) 0 v1 s) (fun r5 s5 => gd (rg r5) (if r5 = (-1) then cck_check_62 v1 s5 else bd (tok_blame 3 (s5 75 v1.toNat) s5) (fun _ s8 => cck_check_62 v1 s8))))))
theorem tcck_check_2b (w : ev_W) (d : Nat) (hd : 7 ≤ d) (v1 : Int) (s : iS) : Ew hT w d 245 2 [(0, .ref (tb_nK + 90)), (1, iv v1)] [] s (cck_check_2C w d) (cck_check_2b v1 s) := by
  unfold cck_check_2b
  refine e_mv 3 em_245 (ce_at ce_245 2 rfl) rfl rfl ?_
  refine e_mv 4 em_245 (ce_at ce_245 3 rfl) rfl rfl ?_
  refine e_getr 7 em_245 (ce_at ce_245 4 rfl) tq_90 rfl rfl ?_
  refine e_getr 10 em_245 (ce_at ce_245 5 rfl) tq_71 rfl rfl ?_
  refine e_get 13 em_245 (ce_at ce_245 6 rfl) tq_72 rfl rfl ?_
  refine e_gd fun g1 => ?_
  refine e_gd fun g2 => ?_
  refine e_cmge 73 16 em_245 rfl rfl (ce_at ce_245 7 rfl) g1 g2 (fun h3 => ?_) (fun h3 => ?_)
  · refine e_pk [0] rfl rfl ?_
    exact e_out (fun r h => h)
  · refine e_mv 17 em_245 (ce_at ce_245 8 rfl) rfl rfl ?_
    refine e_getr 20 em_245 (ce_at ce_245 9 rfl) tq_90 rfl rfl ?_
    refine e_mv 21 em_245 (ce_at ce_245 10 rfl) rfl rfl ?_
    refine e_getr 24 em_245 (ce_at ce_245 11 rfl) tq_90 rfl rfl ?_
    refine e_getr 27 em_245 (ce_at ce_245 12 rfl) tq_71 rfl rfl ?_
    refine e_mv 28 em_245 (ce_at ce_245 13 rfl) rfl rfl ?_
    refine e_getr 31 em_245 (ce_at ce_245 14 rfl) tq_90 rfl rfl ?_
    refine e_getr 34 em_245 (ce_at ce_245 15 rfl) tq_71 rfl rfl ?_
    refine e_mv 35 em_245 (ce_at ce_245 16 rfl) rfl rfl ?_
    refine e_gd fun g4 => ?_
    refine e_ild 36 em_245 (ce_at ce_245 17 rfl) tq_75 (by decide) g4 rfl ?_
    refine e_op 37 em_245 (ce_at ce_245 18 rfl) rfl rfl ?_
    refine e_mv 38 em_245 (ce_at ce_245 19 rfl) rfl rfl ?_
    refine e_ivi 41 em_245 (ce_at ce_245 20 rfl) (by omega) (iv_v4 (by decide) tq_2 rfl) em_76 (Nat.le_of_ble_eq_true rfl) rfl (ttok_findIn w (d - 1) (by omega) 72 73 74 18 tq_72 tq_73 tq_74 (by decide) _ _ _ _) (fun r5 s5 => ?_)
    refine e_op 42 em_245 (ce_at ce_245 21 rfl) rfl rfl ?_
    refine e_gd fun g6 => ?_
    refine e_cmeq 62 45 em_245 rfl rfl (ce_at ce_245 22 rfl) g6 (by decide) (fun h7 => ?_) (fun h7 => ?_)
    · refine e_pk [0, 1] rfl rfl ?_
      exact tcck_check_62 w d hd _ _
    · refine e_mv 46 em_245 (ce_at ce_245 23 rfl) rfl rfl ?_
      refine e_getr 49 em_245 (ce_at ce_245 24 rfl) tq_90 rfl rfl ?_
      refine e_op 50 em_245 (ce_at ce_245 25 rfl) rfl rfl ?_
      refine e_mv 51 em_245 (ce_at ce_245 26 rfl) rfl rfl ?_
      refine e_getr 54 em_245 (ce_at ce_245 27 rfl) tq_90 rfl rfl ?_
      refine e_getr 57 em_245 (ce_at ce_245 28 rfl) tq_71 rfl rfl ?_
      refine e_mv 58 em_245 (ce_at ce_245 29 rfl) rfl rfl ?_
      refine e_ild 59 em_245 (ce_at ce_245 30 rfl) tq_75 (by decide) g4 rfl ?_
      refine e_ivv 62 em_245 (ce_at ce_245 31 rfl) (by omega) (iv_v2 (by decide) tq_2 rfl) em_77 (Nat.le_of_ble_eq_true rfl) rfl (ttok_blame w (d - 1) (by omega) _ _ _) (fun r8 s8 => ?_)
      refine e_pk [0, 1] rfl rfl ?_
      exact tcck_check_62 w d hd _ _
theorem fcck_check_2b (v1 : Int) (s : iS) : Fm (fun r : (Int × iS) ⊕ (iS) => r.elim (fun l => l.2) (fun e => e)) L_cck_check G_cck_check s (cck_check_2b v1 s) := fm_gd (fm_gd (fm_if (fm_some md_refl) (fm_gd (fm_bd (fm_sub (ftok_findIn 72 73 74 18 _ _ _ _) (mem_sub_L rfl) (mem_sub_F rfl)) (fun r5 s5 => fm_gd (fm_if (fcck_check_62 _ _) (fm_bd (fm_sub (ftok_blame _ _ _) (mem_sub_L rfl) (mem_sub_F rfl)) (fun r8 s8 => fcck_check_62 _ _))))))))
def cck_check_75C (w : ev_W) (d : Nat) : (Int × iS) ⊕ (iS) → am_E → Prop := fun q r => q.elim (fun l => ev w d 245 75 ((fun l => [(0, .ref (tb_nK + 90)), (1, iv (l.1))]) l) [] (hT ((fun l => l.2) l)) r) (fun e => (fun e r => ev w d 245 110 [(0, .ref (tb_nK + 90))] [] (hT (e)) r) e r)
noncomputable def cck_check_75b (v1 : Int) (s : iS) : Option ((Int × iS) ⊕ (iS)) := gd (rg v1) (gd (rg (s 72 2)) (if (s 72 2) ≤ v1 then some (.inr s) else bd (cck_findParts v1 s) (fun _ s4 => bd (cck_gatherInner v1 s4) (fun _ s5 => bd (cck_checkParts v1 s5) (fun _ s6 => some (.inl ((v1 + 1), s6)))))))
theorem tcck_check_75b (w : ev_W) (d : Nat) (hd : 7 ≤ d) (v1 : Int) (s : iS) : Ew hT w d 245 75 [(0, .ref (tb_nK + 90)), (1, iv v1)] [] s (cck_check_75C w d) (cck_check_75b v1 s) := by
  unfold cck_check_75b
  refine e_mv 76 em_245 (ce_at ce_245 39 rfl) rfl rfl ?_
  refine e_mv 77 em_245 (ce_at ce_245 40 rfl) rfl rfl ?_
  refine e_getr 80 em_245 (ce_at ce_245 41 rfl) tq_90 rfl rfl ?_
  refine e_getr 83 em_245 (ce_at ce_245 42 rfl) tq_71 rfl rfl ?_
  refine e_get 86 em_245 (ce_at ce_245 43 rfl) tq_72 rfl rfl ?_
  refine e_gd fun g1 => ?_
  refine e_gd fun g2 => ?_
  refine e_cmge 110 89 em_245 rfl rfl (ce_at ce_245 44 rfl) g1 g2 (fun h3 => ?_) (fun h3 => ?_)
  · refine e_pk [0] rfl rfl ?_
    exact e_out (fun r h => h)
  · refine e_mv 90 em_245 (ce_at ce_245 45 rfl) rfl rfl ?_
    refine e_mv 91 em_245 (ce_at ce_245 46 rfl) rfl rfl ?_
    refine e_ivv 94 em_245 (ce_at ce_245 47 rfl) (by omega) (iv_v1 (by decide) tq_90 rfl) em_247 (Nat.le_of_ble_eq_true rfl) rfl (tcck_findParts w (d - 1) (by omega) _ _) (fun r4 s4 => ?_)
    refine e_mv 95 em_245 (ce_at ce_245 48 rfl) rfl rfl ?_
    refine e_mv 96 em_245 (ce_at ce_245 49 rfl) rfl rfl ?_
    refine e_ivv 99 em_245 (ce_at ce_245 50 rfl) (by omega) (iv_v1 (by decide) tq_90 rfl) em_248 (Nat.le_of_ble_eq_true rfl) rfl (tcck_gatherInner w (d - 1) (by omega) _ _) (fun r5 s5 => ?_)
    refine e_mv 100 em_245 (ce_at ce_245 51 rfl) rfl rfl ?_
    refine e_mv 101 em_245 (ce_at ce_245 52 rfl) rfl rfl ?_
    refine e_ivv 104 em_245 (ce_at ce_245 53 rfl) (by omega) (iv_v1 (by decide) tq_90 rfl) em_256 (Nat.le_of_ble_eq_true rfl) rfl (tcck_checkParts w (d - 1) (by omega) _ _) (fun r6 s6 => ?_)
    refine e_iinc 107 em_245 (ce_at ce_245 54 rfl) rfl (by decide) rfl ?_
    refine e_goto em_245 75 (ce_at ce_245 55 rfl) rfl ?_
    refine e_pk [0, 1] rfl rfl ?_
    exact e_out (fun r h => h)
theorem fcck_check_75b (v1 : Int) (s : iS) : Fm (fun r : (Int × iS) ⊕ (iS) => r.elim (fun l => l.2) (fun e => e)) L_cck_check G_cck_check s (cck_check_75b v1 s) := fm_gd (fm_gd (fm_if (fm_some md_refl) (fm_bd (fm_sub (fcck_findParts _ _) (mem_sub_L rfl) (mem_sub_F rfl)) (fun r4 s4 => fm_bd (fm_sub (fcck_gatherInner _ _) (mem_sub_L rfl) (mem_sub_F rfl)) (fun r5 s5 => fm_bd (fm_sub (fcck_checkParts _ _) (mem_sub_L rfl) (mem_sub_F rfl)) (fun r6 s6 => fm_some md_refl))))))
noncomputable def cck_check_110 (s : iS) : Option (Int × iS) := gd (rg (s 2 13)) (if (s 2 13) = 0 then bd (cck_findRings s) (fun _ s3 => some (0, s3)) else some (0, s))
theorem tcck_check_110 (w : ev_W) (d : Nat) (hd : 7 ≤ d) (s : iS) : Ew hT w d 245 110 [(0, .ref (tb_nK + 90))] [] s (Cv hT) (cck_check_110 s) := by
  unfold cck_check_110
  refine e_mv 111 em_245 (ce_at ce_245 56 rfl) rfl rfl ?_
  refine e_getr 114 em_245 (ce_at ce_245 57 rfl) tq_90 rfl rfl ?_
  refine e_get 117 em_245 (ce_at ce_245 58 rfl) tq_2 rfl rfl ?_
  refine e_gd fun g1 => ?_
  refine e_ifne 124 120 em_245 rfl rfl (ce_at ce_245 59 rfl) g1 (fun h2 => ?_) (fun h2 => ?_)
  · exact e_retv em_245 (ce_at ce_245 62 rfl)
  · refine e_mv 121 em_245 (ce_at ce_245 60 rfl) rfl rfl ?_
    refine e_ivv 124 em_245 (ce_at ce_245 61 rfl) (by omega) (iv_v0 (by decide) tq_90 rfl) em_264 (Nat.le_of_ble_eq_true rfl) rfl (tcck_findRings w (d - 1) (by omega) _) (fun r3 s3 => ?_)
    exact e_retv em_245 (ce_at ce_245 62 rfl)
theorem fcck_check_110 (s : iS) : Fm Prod.snd L_cck_check G_cck_check s (cck_check_110 s) := fm_gd (fm_if (fm_bd (fm_sub (fcck_findRings _) (mem_sub_L rfl) (mem_sub_F rfl)) (fun r3 s3 => fm_some md_refl)) (fm_some md_refl))
noncomputable def cck_check_75 (v1 : Int) (s : iS) : Option (Int × iS) := (lp (L := Int × iS) (E := iS) (fun l => cck_check_75b (l.1) (l.2)) (v1, s)).bind (fun e => cck_check_110 e)
theorem tcck_check_75 (w : ev_W) (d : Nat) (hd : 7 ≤ d) (v1 : Int) (s : iS) : Ew hT w d 245 75 [(0, .ref (tb_nK + 90)), (1, iv v1)] [] s (Cv hT) (cck_check_75 v1 s) := by
  unfold cck_check_75
  refine e_lp (L := Int × iS) (E := iS) (LO := fun l => [(0, .ref (tb_nK + 90)), (1, iv (l.1))]) (LS := fun l => l.2) (CE := fun e r => ev w d 245 110 [(0, .ref (tb_nK + 90))] [] (hT (e)) r) (fun l => tcck_check_75b w d hd _ _) ?_ (v1, s)
  intro e
  show Ew hT w d 245 110 [(0, .ref (tb_nK + 90))] [] e (Cv hT) _
  refine e_pk [0] rfl rfl ?_
  exact tcck_check_110 w d hd _
theorem fcck_check_75 (v1 : Int) (s : iS) : Fm Prod.snd L_cck_check G_cck_check s (cck_check_75 v1 s) := by
  unfold cck_check_75
  refine fm_lp (A := Int × iS) (E := iS) (LS := fun l => l.2) (LE := fun e => e) ?_ ?_ (v1, s)
  · exact fun l => fcck_check_75b _ _
  · exact (fun e => fcck_check_110 _)
noncomputable def cck_check_73 (s : iS) : Option (Int × iS) := cck_check_75 2 s
theorem tcck_check_73 (w : ev_W) (d : Nat) (hd : 7 ≤ d) (s : iS) : Ew hT w d 245 73 [(0, .ref (tb_nK + 90))] [] s (Cv hT) (cck_check_73 s) := by
  unfold cck_check_73
  refine e_op 74 em_245 (ce_at ce_245 37 rfl) rfl rfl ?_
  refine e_mv 75 em_245 (ce_at ce_245 38 rfl) rfl rfl ?_
  refine e_pk [0, 1] rfl rfl ?_
  exact tcck_check_75 w d hd _ _
theorem fcck_check_73 (s : iS) : Fm Prod.snd L_cck_check G_cck_check s (cck_check_73 s) := fcck_check_75 _ _
noncomputable def cck_check_2 (v1 : Int) (s : iS) : Option (Int × iS) := (lp (L := Int × iS) (E := iS) (fun l => cck_check_2b (l.1) (l.2)) (v1, s)).bind (fun e => cck_check_73 e)
theorem tcck_check_2 (w : ev_W) (d : Nat) (hd : 7 ≤ d) (v1 : Int) (s : iS) : Ew hT w d 245 2 [(0, .ref (tb_nK + 90)), (1, iv v1)] [] s (Cv hT) (cck_check_2 v1 s) := by
  unfold cck_check_2
  refine e_lp (L := Int × iS) (E := iS) (LO := fun l => [(0, .ref (tb_nK + 90)), (1, iv (l.1))]) (LS := fun l => l.2) (CE := fun e r => ev w d 245 73 [(0, .ref (tb_nK + 90))] [] (hT (e)) r) (fun l => tcck_check_2b w d hd _ _) ?_ (v1, s)
  intro e
  show Ew hT w d 245 73 [(0, .ref (tb_nK + 90))] [] e (Cv hT) _
  refine e_pk [0] rfl rfl ?_
  exact tcck_check_73 w d hd _
theorem fcck_check_2 (v1 : Int) (s : iS) : Fm Prod.snd L_cck_check G_cck_check s (cck_check_2 v1 s) := by
  unfold cck_check_2
  refine fm_lp (A := Int × iS) (E := iS) (LS := fun l => l.2) (LE := fun e => e) ?_ ?_ (v1, s)
  · exact fun l => fcck_check_2b _ _
  · exact (fun e => fcck_check_73 _)
noncomputable def cck_check (s : iS) : Option (Int × iS) := cck_check_2 2 s
theorem tcck_check (w : ev_W) (d : Nat) (hd : 7 ≤ d) (s : iS) : Ew hT w d 245 0 [(0, .ref (tb_nK + 90))] [] s (Cv hT) (cck_check s) := by
  unfold cck_check
  refine e_op 1 em_245 (ce_at ce_245 0 rfl) rfl rfl ?_
  refine e_mv 2 em_245 (ce_at ce_245 1 rfl) rfl rfl ?_
  refine e_pk [0, 1] rfl rfl ?_
  exact tcck_check_2 w d hd _ _
theorem fcck_check (s : iS) : Fm Prod.snd L_cck_check G_cck_check s (cck_check s) := fcck_check_2 _ _
/-! x_chips -/
def L_x_chips : List Nat := [9, 10, 11, 12, 13, 73, 74, 75, 76, 77, 78, 80, 81, 82, 83, 84, 85, 86, 88, 89, 91, 92, 93, 94, 95, 96, 97, 98, 100, 101, 102, 103, 104, 105, 106, 107, 109, 110, 111, 112, 113, 114, 115, 116, 117, 118, 119, 120]
def G_x_chips : List (Nat × Nat) := [(0, 1), (0, 2), (2, 8), (2, 9), (2, 10), (2, 11), (2, 12), (2, 13), (2, 14), (71, 13), (71, 14), (72, 2), (79, 2), (87, 2), (99, 2), (108, 14), (108, 15), (108, 16), (108, 17), (108, 18)]
noncomputable def x_chips_97 (s : iS) : Option (Int × iS) := bd (tok_placeOf (s 2 14) s) (fun r1 s1 => lt' (up s1 0 2 r1) (fun s2 => some ((s2 2 13), s2)))
theorem tx_chips_97 (w : ev_W) (d : Nat) (hd : 26 ≤ d) (s : iS) : Ew hT w d 234 97 [(0, .ref (tb_nK + 0))] [] s (Ci hT) (x_chips_97 s) := by
  unfold x_chips_97
  refine e_mv 98 em_234 (ce_at ce_234 46 rfl) rfl rfl ?_
  refine e_mv 99 em_234 (ce_at ce_234 47 rfl) rfl rfl ?_
  refine e_getr 102 em_234 (ce_at ce_234 48 rfl) tq_0 rfl rfl ?_
  refine e_mv 103 em_234 (ce_at ce_234 49 rfl) rfl rfl ?_
  refine e_getr 106 em_234 (ce_at ce_234 50 rfl) tq_0 rfl rfl ?_
  refine e_get 109 em_234 (ce_at ce_234 51 rfl) tq_2 rfl rfl ?_
  refine e_ivi 112 em_234 (ce_at ce_234 52 rfl) (by omega) (iv_v1 (by decide) tq_2 rfl) em_67 (Nat.le_of_ble_eq_true rfl) rfl (ttok_placeOf w (d - 1) (by omega) _ _) (fun r1 s1 => ?_)
  refine e_put 115 em_234 (ce_at ce_234 53 rfl) tq_0 rfl rfl rfl (fun s2 => ?_)
  refine e_mv 116 em_234 (ce_at ce_234 54 rfl) rfl rfl ?_
  refine e_getr 119 em_234 (ce_at ce_234 55 rfl) tq_0 rfl rfl ?_
  refine e_get 122 em_234 (ce_at ce_234 56 rfl) tq_2 rfl rfl ?_
  exact e_reti em_234 (ce_at ce_234 57 rfl)
theorem fx_chips_97 (s : iS) : Fm Prod.snd L_x_chips G_x_chips s (x_chips_97 s) := fm_bd (fm_sub (ftok_placeOf _ _) (mem_sub_L rfl) (mem_sub_F rfl)) (fun r1 s1 => fm_lt (md_upF (mem_F rfl)) (fun s2 => fm_some md_refl))
noncomputable def x_chips_59 (s : iS) : Option (Int × iS) := gd (rg (s 2 13)) (if (s 2 13) = 0 then bd (brd_build s) (fun r3 s3 => gd (rg r3) (if r3 = 0 then bd (tok_blame 6 ((s3 2 8) - 1) s3) (fun _ s6 => x_chips_97 s6) else x_chips_97 s3)) else x_chips_97 s)
theorem tx_chips_59 (w : ev_W) (d : Nat) (hd : 26 ≤ d) (s : iS) : Ew hT w d 234 59 [(0, .ref (tb_nK + 0))] [] s (Ci hT) (x_chips_59 s) := by
  unfold x_chips_59
  refine e_mv 60 em_234 (ce_at ce_234 29 rfl) rfl rfl ?_
  refine e_getr 63 em_234 (ce_at ce_234 30 rfl) tq_0 rfl rfl ?_
  refine e_get 66 em_234 (ce_at ce_234 31 rfl) tq_2 rfl rfl ?_
  refine e_gd fun g1 => ?_
  refine e_ifne 97 69 em_234 rfl rfl (ce_at ce_234 32 rfl) g1 (fun h2 => ?_) (fun h2 => ?_)
  · refine e_pk [0] rfl rfl ?_
    exact tx_chips_97 w d hd _
  · refine e_mv 70 em_234 (ce_at ce_234 33 rfl) rfl rfl ?_
    refine e_getr 73 em_234 (ce_at ce_234 34 rfl) tq_0 rfl rfl ?_
    refine e_ivi 76 em_234 (ce_at ce_234 35 rfl) (by omega) (iv_v0 (by decide) tq_108 rfl) em_265 (Nat.le_of_ble_eq_true rfl) rfl (tbrd_build w (d - 1) (by omega) _) (fun r3 s3 => ?_)
    refine e_gd fun g4 => ?_
    refine e_ifne 97 79 em_234 rfl rfl (ce_at ce_234 36 rfl) g4 (fun h5 => ?_) (fun h5 => ?_)
    · refine e_pk [0] rfl rfl ?_
      exact tx_chips_97 w d hd _
    · refine e_mv 80 em_234 (ce_at ce_234 37 rfl) rfl rfl ?_
      refine e_getr 83 em_234 (ce_at ce_234 38 rfl) tq_0 rfl rfl ?_
      refine e_bip 85 em_234 (ce_at ce_234 39 rfl) (by decide) rfl ?_
      refine e_mv 86 em_234 (ce_at ce_234 40 rfl) rfl rfl ?_
      refine e_getr 89 em_234 (ce_at ce_234 41 rfl) tq_0 rfl rfl ?_
      refine e_get 92 em_234 (ce_at ce_234 42 rfl) tq_2 rfl rfl ?_
      refine e_op 93 em_234 (ce_at ce_234 43 rfl) rfl rfl ?_
      refine e_isub 94 em_234 rfl (ce_at ce_234 44 rfl) ?_
      refine e_ivv 97 em_234 (ce_at ce_234 45 rfl) (by omega) (iv_v2 (by decide) tq_2 rfl) em_77 (Nat.le_of_ble_eq_true rfl) rfl (ttok_blame w (d - 1) (by omega) _ _ _) (fun r6 s6 => ?_)
      refine e_pk [0] rfl rfl ?_
      exact tx_chips_97 w d hd _
theorem fx_chips_59 (s : iS) : Fm Prod.snd L_x_chips G_x_chips s (x_chips_59 s) := fm_gd (fm_if (fm_bd (fm_sub (fbrd_build _) (mem_sub_L rfl) (mem_sub_F rfl)) (fun r3 s3 => fm_gd (fm_if (fm_bd (fm_sub (ftok_blame _ _ _) (mem_sub_L rfl) (mem_sub_F rfl)) (fun r6 s6 => fx_chips_97 _)) (fx_chips_97 _)))) (fx_chips_97 _))
noncomputable def x_chips (v1 : Int) (s : iS) : Option (Int × iS) := gd (rg v1) (if v1 < 0 then some ((-1), s) else gd (rg (s 0 1)) (if v1 ≤ (s 0 1) then lt' (up s 0 1 0) (fun s5 => bd (tok_scan v1 1 s5) (fun _ s6 => bd (brd_remove s6) (fun _ s7 => bd (crd_read s7) (fun _ s8 => gd (rg (s8 2 13)) (if (s8 2 13) = 0 then bd (cck_check s8) (fun _ s11 => x_chips_59 s11) else x_chips_59 s8))))) else some ((-1), s)))
theorem tx_chips (w : ev_W) (d : Nat) (hd : 26 ≤ d) (v1 : Int) (s : iS) : Ew hT w d 234 0 [(0, .ref (tb_nK + 0)), (1, iv v1)] [] s (Ci hT) (x_chips v1 s) := by
  unfold x_chips
  refine e_mv 1 em_234 (ce_at ce_234 0 rfl) rfl rfl ?_
  refine e_gd fun g1 => ?_
  refine e_iflt 12 4 em_234 rfl rfl (ce_at ce_234 1 rfl) g1 (fun h2 => ?_) (fun h2 => ?_)
  · refine e_op 13 em_234 (ce_at ce_234 6 rfl) rfl rfl ?_
    exact e_reti em_234 (ce_at ce_234 7 rfl)
  · refine e_mv 5 em_234 (ce_at ce_234 2 rfl) rfl rfl ?_
    refine e_mv 6 em_234 (ce_at ce_234 3 rfl) rfl rfl ?_
    refine e_get 9 em_234 (ce_at ce_234 4 rfl) tq_0 rfl rfl ?_
    refine e_gd fun g3 => ?_
    refine e_cmle 14 12 em_234 rfl rfl (ce_at ce_234 5 rfl) g1 g3 (fun h4 => ?_) (fun h4 => ?_)
    · refine e_mv 15 em_234 (ce_at ce_234 8 rfl) rfl rfl ?_
      refine e_op 16 em_234 (ce_at ce_234 9 rfl) rfl rfl ?_
      refine e_put 19 em_234 (ce_at ce_234 10 rfl) tq_0 rfl rfl rfl (fun s5 => ?_)
      refine e_mv 20 em_234 (ce_at ce_234 11 rfl) rfl rfl ?_
      refine e_getr 23 em_234 (ce_at ce_234 12 rfl) tq_0 rfl rfl ?_
      refine e_mv 24 em_234 (ce_at ce_234 13 rfl) rfl rfl ?_
      refine e_op 25 em_234 (ce_at ce_234 14 rfl) rfl rfl ?_
      refine e_ivv 28 em_234 (ce_at ce_234 15 rfl) (by omega) (iv_v2 (by decide) tq_2 rfl) em_32 (Nat.le_of_ble_eq_true rfl) rfl (ttok_scan w (d - 1) (by omega) _ _ _) (fun r6 s6 => ?_)
      refine e_mv 29 em_234 (ce_at ce_234 16 rfl) rfl rfl ?_
      refine e_getr 32 em_234 (ce_at ce_234 17 rfl) tq_0 rfl rfl ?_
      refine e_ivv 35 em_234 (ce_at ce_234 18 rfl) (by omega) (iv_v0 (by decide) tq_108 rfl) em_235 (Nat.le_of_ble_eq_true rfl) rfl (tbrd_remove w (d - 1) (by omega) _) (fun r7 s7 => ?_)
      refine e_mv 36 em_234 (ce_at ce_234 19 rfl) rfl rfl ?_
      refine e_getr 39 em_234 (ce_at ce_234 20 rfl) tq_0 rfl rfl ?_
      refine e_ivv 42 em_234 (ce_at ce_234 21 rfl) (by omega) (iv_v0 (by decide) tq_71 rfl) em_236 (Nat.le_of_ble_eq_true rfl) rfl (tcrd_read w (d - 1) (by omega) _) (fun r8 s8 => ?_)
      refine e_mv 43 em_234 (ce_at ce_234 22 rfl) rfl rfl ?_
      refine e_getr 46 em_234 (ce_at ce_234 23 rfl) tq_0 rfl rfl ?_
      refine e_get 49 em_234 (ce_at ce_234 24 rfl) tq_2 rfl rfl ?_
      refine e_gd fun g9 => ?_
      refine e_ifne 59 52 em_234 rfl rfl (ce_at ce_234 25 rfl) g9 (fun h10 => ?_) (fun h10 => ?_)
      · refine e_pk [0] rfl rfl ?_
        exact tx_chips_59 w d hd _
      · refine e_mv 53 em_234 (ce_at ce_234 26 rfl) rfl rfl ?_
        refine e_getr 56 em_234 (ce_at ce_234 27 rfl) tq_0 rfl rfl ?_
        refine e_ivv 59 em_234 (ce_at ce_234 28 rfl) (by omega) (iv_v0 (by decide) tq_90 rfl) em_245 (Nat.le_of_ble_eq_true rfl) rfl (tcck_check w (d - 1) (by omega) _) (fun r11 s11 => ?_)
        refine e_pk [0] rfl rfl ?_
        exact tx_chips_59 w d hd _
    · refine e_op 13 em_234 (ce_at ce_234 6 rfl) rfl rfl ?_
      exact e_reti em_234 (ce_at ce_234 7 rfl)
theorem fx_chips (v1 : Int) (s : iS) : Fm Prod.snd L_x_chips G_x_chips s (x_chips v1 s) := fm_gd (fm_if (fm_some md_refl) (fm_gd (fm_if (fm_lt (md_upF (mem_F rfl)) (fun s5 => fm_bd (fm_sub (ftok_scan _ _ _) (mem_sub_L rfl) (mem_sub_F rfl)) (fun r6 s6 => fm_bd (fm_sub (fbrd_remove _) (mem_sub_L rfl) (mem_sub_F rfl)) (fun r7 s7 => fm_bd (fm_sub (fcrd_read _) (mem_sub_L rfl) (mem_sub_F rfl)) (fun r8 s8 => fm_gd (fm_if (fm_bd (fm_sub (fcck_check _) (mem_sub_L rfl) (mem_sub_F rfl)) (fun r11 s11 => fx_chips_59 _)) (fx_chips_59 _))))))) (fm_some md_refl))))
/-! brd_inPins -/
def L_brd_inPins : List Nat := []
def G_brd_inPins : List (Nat × Nat) := []
noncomputable def brd_inPins (s : iS) : Option (Int × iS) := bd (brd_lastChip s) (fun r1 s1 => gd (0 ≤ r1 ∧ r1 < 18) (bd (brd_lastChip s1) (fun r3 s3 => gd (0 ≤ r3 ∧ r3 < 19) (some (((s1 77 r1.toNat) - (s3 76 r3.toNat)), s3)))))
theorem tbrd_inPins (w : ev_W) (d : Nat) (hd : 1 ≤ d) (s : iS) : Ew hT w d 284 0 [(0, .ref (tb_nK + 108))] [] s (Ci hT) (brd_inPins s) := by
  unfold brd_inPins
  refine e_mv 1 em_284 (ce_at ce_284 0 rfl) rfl rfl ?_
  refine e_getr 4 em_284 (ce_at ce_284 1 rfl) tq_108 rfl rfl ?_
  refine e_getr 7 em_284 (ce_at ce_284 2 rfl) tq_71 rfl rfl ?_
  refine e_mv 8 em_284 (ce_at ce_284 3 rfl) rfl rfl ?_
  refine e_ivi 11 em_284 (ce_at ce_284 4 rfl) (by omega) (iv_v0 (by decide) tq_108 rfl) em_267 (Nat.le_of_ble_eq_true rfl) rfl (tbrd_lastChip w (d - 1) (by omega) _) (fun r1 s1 => ?_)
  refine e_gd fun g2 => ?_
  refine e_ild 12 em_284 (ce_at ce_284 5 rfl) tq_77 (by decide) g2 rfl ?_
  refine e_mv 13 em_284 (ce_at ce_284 6 rfl) rfl rfl ?_
  refine e_getr 16 em_284 (ce_at ce_284 7 rfl) tq_108 rfl rfl ?_
  refine e_getr 19 em_284 (ce_at ce_284 8 rfl) tq_71 rfl rfl ?_
  refine e_mv 20 em_284 (ce_at ce_284 9 rfl) rfl rfl ?_
  refine e_ivi 23 em_284 (ce_at ce_284 10 rfl) (by omega) (iv_v0 (by decide) tq_108 rfl) em_267 (Nat.le_of_ble_eq_true rfl) rfl (tbrd_lastChip w (d - 1) (by omega) _) (fun r3 s3 => ?_)
  refine e_gd fun g4 => ?_
  refine e_ild 24 em_284 (ce_at ce_284 11 rfl) tq_76 (by decide) g4 rfl ?_
  refine e_isub 25 em_284 rfl (ce_at ce_284 12 rfl) ?_
  exact e_reti em_284 (ce_at ce_284 13 rfl)
theorem fbrd_inPins (s : iS) : Fm Prod.snd L_brd_inPins G_brd_inPins s (brd_inPins s) := fm_bd (fm_sub (fbrd_lastChip _) (mem_sub_L rfl) (mem_sub_F rfl)) (fun r1 s1 => fm_gd (fm_bd (fm_sub (fbrd_lastChip _) (mem_sub_L rfl) (mem_sub_F rfl)) (fun r3 s3 => fm_gd (fm_some md_refl))))
/-! brd_driveInput -/
def L_brd_driveInput : List Nat := [112]
def G_brd_driveInput : List (Nat × Nat) := []
def brd_driveInput_47C (w : ev_W) (d : Nat) (v1 : Int) (v2 : Int) (v3 : Int) : (Int × iS) ⊕ (iS) → am_E → Prop := fun q r => q.elim (fun l => ev w d 283 47 ((fun l => [(0, .ref (tb_nK + 108)), (1, iv v1), (2, iv v2), (3, iv v3), (4, iv (l.1))]) l) [] (hT ((fun l => l.2) l)) r) (fun e => (fun e r => ev w d 283 78 [(0, .ref (tb_nK + 108))] [] (hT (e)) r) e r)
noncomputable def brd_driveInput_47b (v1 : Int) (v2 : Int) (v3 : Int) (v4 : Int) (s : iS) : Option ((Int × iS) ⊕ (iS)) := gd (rg v4) (gd (rg v3) (if v3 ≤ v4 then some (.inr s) else bd (brd_slotOf v1 v4 s) (fun r4 s4 => gd (0 ≤ (2 + r4) ∧ (2 + r4) < 1694) (lt' (up s4 112 (2 + r4).toNat (i_and (i_shr v2 v4) 1)) (fun s6 => some (.inl ((v4 + 1), s6)))))))
theorem tbrd_driveInput_47b (w : ev_W) (d : Nat) (hd : 2 ≤ d) (v1 : Int) (v2 : Int) (v3 : Int) (v4 : Int) (s : iS) : Ew hT w d 283 47 [(0, .ref (tb_nK + 108)), (1, iv v1), (2, iv v2), (3, iv v3), (4, iv v4)] [] s (brd_driveInput_47C w d v1 v2 v3) (brd_driveInput_47b v1 v2 v3 v4 s) := by
  unfold brd_driveInput_47b
  refine e_mv 49 em_283 (ce_at ce_283 26 rfl) rfl rfl ?_
  refine e_mv 50 em_283 (ce_at ce_283 27 rfl) rfl rfl ?_
  refine e_gd fun g1 => ?_
  refine e_gd fun g2 => ?_
  refine e_cmge 78 53 em_283 rfl rfl (ce_at ce_283 28 rfl) g1 g2 (fun h3 => ?_) (fun h3 => ?_)
  · refine e_pk [0] rfl rfl ?_
    exact e_out (fun r h => h)
  · refine e_mv 54 em_283 (ce_at ce_283 29 rfl) rfl rfl ?_
    refine e_getr 57 em_283 (ce_at ce_283 30 rfl) tq_108 rfl rfl ?_
    refine e_op 58 em_283 (ce_at ce_283 31 rfl) rfl rfl ?_
    refine e_mv 59 em_283 (ce_at ce_283 32 rfl) rfl rfl ?_
    refine e_mv 61 em_283 (ce_at ce_283 33 rfl) rfl rfl ?_
    refine e_ivi 64 em_283 (ce_at ce_283 34 rfl) (by omega) (iv_s2 rfl) em_269 (Nat.le_of_ble_eq_true rfl) rfl (tbrd_slotOf hT w (d - 1) (by omega) _ _ _) (fun r4 s4 => ?_)
    refine e_iadd 65 em_283 rfl (ce_at ce_283 35 rfl) ?_
    refine e_mv 66 em_283 (ce_at ce_283 36 rfl) rfl rfl ?_
    refine e_mv 68 em_283 (ce_at ce_283 37 rfl) rfl rfl ?_
    refine e_ishr 69 em_283 rfl (ce_at ce_283 38 rfl) ?_
    refine e_op 70 em_283 (ce_at ce_283 39 rfl) rfl rfl ?_
    refine e_iand 71 em_283 rfl (ce_at ce_283 40 rfl) ?_
    refine e_gd fun g5 => ?_
    refine e_ist 72 em_283 (ce_at ce_283 41 rfl) tq_112 (by decide) g5 rfl (fun s6 => ?_)
    refine e_iinc 75 em_283 (ce_at ce_283 42 rfl) rfl (by decide) rfl ?_
    refine e_goto em_283 47 (ce_at ce_283 43 rfl) rfl ?_
    refine e_pk [0, 1, 2, 3, 4] rfl rfl ?_
    exact e_out (fun r h => h)
theorem fbrd_driveInput_47b (v1 : Int) (v2 : Int) (v3 : Int) (v4 : Int) (s : iS) : Fm (fun r : (Int × iS) ⊕ (iS) => r.elim (fun l => l.2) (fun e => e)) L_brd_driveInput G_brd_driveInput s (brd_driveInput_47b v1 v2 v3 v4 s) := fm_gd (fm_gd (fm_if (fm_some md_refl) (fm_bd (fm_sub (fbrd_slotOf _ _ _) (mem_sub_L rfl) (mem_sub_F rfl)) (fun r4 s4 => fm_gd (fm_lt (md_upL (mem_L rfl)) (fun s6 => fm_some md_refl))))))
noncomputable def brd_driveInput_78 (s : iS) : Option (Int × iS) := bd (brd_settle s) (fun _ s1 => some (1, s1))
theorem tbrd_driveInput_78 (w : ev_W) (d : Nat) (hd : 2 ≤ d) (s : iS) : Ew hT w d 283 78 [(0, .ref (tb_nK + 108))] [] s (Ci hT) (brd_driveInput_78 s) := by
  unfold brd_driveInput_78
  refine e_mv 79 em_283 (ce_at ce_283 44 rfl) rfl rfl ?_
  refine e_ivv 82 em_283 (ce_at ce_283 45 rfl) (by omega) (iv_v0 (by decide) tq_108 rfl) em_281 (Nat.le_of_ble_eq_true rfl) rfl (tbrd_settle w (d - 1) (by omega) _) (fun r1 s1 => ?_)
  refine e_op 83 em_283 (ce_at ce_283 46 rfl) rfl rfl ?_
  exact e_retz em_283 (ce_at ce_283 47 rfl) (by decide)
theorem fbrd_driveInput_78 (s : iS) : Fm Prod.snd L_brd_driveInput G_brd_driveInput s (brd_driveInput_78 s) := fm_bd (fm_sub (fbrd_settle _) (mem_sub_L rfl) (mem_sub_F rfl)) (fun r1 s1 => fm_some md_refl)
noncomputable def brd_driveInput_47 (v1 : Int) (v2 : Int) (v3 : Int) (v4 : Int) (s : iS) : Option (Int × iS) := (lp (L := Int × iS) (E := iS) (fun l => brd_driveInput_47b v1 v2 v3 (l.1) (l.2)) (v4, s)).bind (fun e => brd_driveInput_78 e)
theorem tbrd_driveInput_47 (w : ev_W) (d : Nat) (hd : 2 ≤ d) (v1 : Int) (v2 : Int) (v3 : Int) (v4 : Int) (s : iS) : Ew hT w d 283 47 [(0, .ref (tb_nK + 108)), (1, iv v1), (2, iv v2), (3, iv v3), (4, iv v4)] [] s (Ci hT) (brd_driveInput_47 v1 v2 v3 v4 s) := by
  unfold brd_driveInput_47
  refine e_lp (L := Int × iS) (E := iS) (LO := fun l => [(0, .ref (tb_nK + 108)), (1, iv v1), (2, iv v2), (3, iv v3), (4, iv (l.1))]) (LS := fun l => l.2) (CE := fun e r => ev w d 283 78 [(0, .ref (tb_nK + 108))] [] (hT (e)) r) (fun l => tbrd_driveInput_47b w d hd _ _ _ _ _) ?_ (v4, s)
  intro e
  show Ew hT w d 283 78 [(0, .ref (tb_nK + 108))] [] e (Ci hT) _
  refine e_pk [0] rfl rfl ?_
  exact tbrd_driveInput_78 w d hd _
theorem fbrd_driveInput_47 (v1 : Int) (v2 : Int) (v3 : Int) (v4 : Int) (s : iS) : Fm Prod.snd L_brd_driveInput G_brd_driveInput s (brd_driveInput_47 v1 v2 v3 v4 s) := by
  unfold brd_driveInput_47
  refine fm_lp (A := Int × iS) (E := iS) (LS := fun l => l.2) (LE := fun e => e) ?_ ?_ (v4, s)
  · exact fun l => fbrd_driveInput_47b _ _ _ _ _
  · exact (fun e => fbrd_driveInput_78 _)
noncomputable def brd_driveInput (v1 : Int) (v2 : Int) (s : iS) : Option (Int × iS) := gd (rg (s 108 18)) (if (s 108 18) = 0 then some (0, s) else gd (rg v1) (if v1 < 0 then some (0, s) else bd (brd_inPins s) (fun r5 s5 => gd (rg r5) (if v1 < r5 then bd (brd_lastChip s5) (fun r8 s8 => gd (0 ≤ r8 ∧ r8 < 19) (gd (0 ≤ ((s8 76 r8.toNat) + v1) ∧ ((s8 76 r8.toNat) + v1) < 197) (brd_driveInput_47 v1 v2 (s8 91 ((s8 76 r8.toNat) + v1).toNat) 0 s8))) else some (0, s5)))))
theorem tbrd_driveInput (w : ev_W) (d : Nat) (hd : 2 ≤ d) (v1 : Int) (v2 : Int) (s : iS) : Ew hT w d 283 0 [(0, .ref (tb_nK + 108)), (1, iv v1), (2, iv v2)] [] s (Ci hT) (brd_driveInput v1 v2 s) := by
  unfold brd_driveInput
  refine e_mv 1 em_283 (ce_at ce_283 0 rfl) rfl rfl ?_
  refine e_get 4 em_283 (ce_at ce_283 1 rfl) tq_108 rfl rfl ?_
  refine e_gd fun g1 => ?_
  refine e_ifeq 19 7 em_283 rfl rfl (ce_at ce_283 2 rfl) g1 (fun h2 => ?_) (fun h2 => ?_)
  · refine e_op 20 em_283 (ce_at ce_283 9 rfl) rfl rfl ?_
    exact e_retz em_283 (ce_at ce_283 10 rfl) (by decide)
  · refine e_mv 8 em_283 (ce_at ce_283 3 rfl) rfl rfl ?_
    refine e_gd fun g3 => ?_
    refine e_iflt 19 11 em_283 rfl rfl (ce_at ce_283 4 rfl) g3 (fun h4 => ?_) (fun h4 => ?_)
    · refine e_op 20 em_283 (ce_at ce_283 9 rfl) rfl rfl ?_
      exact e_retz em_283 (ce_at ce_283 10 rfl) (by decide)
    · refine e_mv 12 em_283 (ce_at ce_283 5 rfl) rfl rfl ?_
      refine e_mv 13 em_283 (ce_at ce_283 6 rfl) rfl rfl ?_
      refine e_ivi 16 em_283 (ce_at ce_283 7 rfl) (by omega) (iv_v0 (by decide) tq_108 rfl) em_284 (Nat.le_of_ble_eq_true rfl) rfl (tbrd_inPins w (d - 1) (by omega) _) (fun r5 s5 => ?_)
      refine e_gd fun g6 => ?_
      refine e_cmlt 21 19 em_283 rfl rfl (ce_at ce_283 8 rfl) g3 g6 (fun h7 => ?_) (fun h7 => ?_)
      · refine e_mv 22 em_283 (ce_at ce_283 11 rfl) rfl rfl ?_
        refine e_getr 25 em_283 (ce_at ce_283 12 rfl) tq_108 rfl rfl ?_
        refine e_getr 28 em_283 (ce_at ce_283 13 rfl) tq_90 rfl rfl ?_
        refine e_mv 29 em_283 (ce_at ce_283 14 rfl) rfl rfl ?_
        refine e_getr 32 em_283 (ce_at ce_283 15 rfl) tq_108 rfl rfl ?_
        refine e_getr 35 em_283 (ce_at ce_283 16 rfl) tq_71 rfl rfl ?_
        refine e_mv 36 em_283 (ce_at ce_283 17 rfl) rfl rfl ?_
        refine e_ivi 39 em_283 (ce_at ce_283 18 rfl) (by omega) (iv_v0 (by decide) tq_108 rfl) em_267 (Nat.le_of_ble_eq_true rfl) rfl (tbrd_lastChip w (d - 1) (by omega) _) (fun r8 s8 => ?_)
        refine e_gd fun g9 => ?_
        refine e_ild 40 em_283 (ce_at ce_283 19 rfl) tq_76 (by decide) g9 rfl ?_
        refine e_mv 41 em_283 (ce_at ce_283 20 rfl) rfl rfl ?_
        refine e_iadd 42 em_283 rfl (ce_at ce_283 21 rfl) ?_
        refine e_gd fun g10 => ?_
        refine e_ild 43 em_283 (ce_at ce_283 22 rfl) tq_91 (by decide) g10 rfl ?_
        refine e_mv 44 em_283 (ce_at ce_283 23 rfl) rfl rfl ?_
        refine e_op 45 em_283 (ce_at ce_283 24 rfl) rfl rfl ?_
        refine e_mv 47 em_283 (ce_at ce_283 25 rfl) rfl rfl ?_
        refine e_pk [0, 1, 2, 3, 4] rfl rfl ?_
        exact tbrd_driveInput_47 w d hd _ _ _ _ _
      · refine e_op 20 em_283 (ce_at ce_283 9 rfl) rfl rfl ?_
        exact e_retz em_283 (ce_at ce_283 10 rfl) (by decide)
theorem fbrd_driveInput (v1 : Int) (v2 : Int) (s : iS) : Fm Prod.snd L_brd_driveInput G_brd_driveInput s (brd_driveInput v1 v2 s) := fm_gd (fm_if (fm_some md_refl) (fm_gd (fm_if (fm_some md_refl) (fm_bd (fm_sub (fbrd_inPins _) (mem_sub_L rfl) (mem_sub_F rfl)) (fun r5 s5 => fm_gd (fm_if (fm_bd (fm_sub (fbrd_lastChip _) (mem_sub_L rfl) (mem_sub_F rfl)) (fun r8 s8 => fm_gd (fm_gd (fbrd_driveInput_47 _ _ _ _ _)))) (fm_some md_refl)))))))
/-! x_drive -/
def L_x_drive : List Nat := [112]
def G_x_drive : List (Nat × Nat) := []
noncomputable def x_drive (v1 : Int) (v2 : Int) (s : iS) : Option (Int × iS) := bd (brd_driveInput v1 v2 s) (fun r1 s1 => gd (r1 = 0 ∨ r1 = 1) (some (r1, s1)))
theorem tx_drive (w : ev_W) (d : Nat) (hd : 3 ≤ d) (v1 : Int) (v2 : Int) (s : iS) : Ew hT w d 282 0 [(0, .ref (tb_nK + 0)), (1, iv v1), (2, iv v2)] [] s (Ci hT) (x_drive v1 v2 s) := by
  unfold x_drive
  refine e_mv 1 em_282 (ce_at ce_282 0 rfl) rfl rfl ?_
  refine e_getr 4 em_282 (ce_at ce_282 1 rfl) tq_0 rfl rfl ?_
  refine e_mv 5 em_282 (ce_at ce_282 2 rfl) rfl rfl ?_
  refine e_mv 6 em_282 (ce_at ce_282 3 rfl) rfl rfl ?_
  refine e_ivi 9 em_282 (ce_at ce_282 4 rfl) (by omega) (iv_v2 (by decide) tq_108 rfl) em_283 (Nat.le_of_ble_eq_true rfl) rfl (tbrd_driveInput w (d - 1) (by omega) _ _ _) (fun r1 s1 => ?_)
  refine e_gd fun g2 => ?_
  exact e_retz em_282 (ce_at ce_282 5 rfl) g2
theorem fx_drive (v1 : Int) (v2 : Int) (s : iS) : Fm Prod.snd L_x_drive G_x_drive s (x_drive v1 v2 s) := fm_bd (fm_sub (fbrd_driveInput _ _ _) (mem_sub_L rfl) (mem_sub_F rfl)) (fun r1 s1 => fm_gd (fm_some md_refl))
/-! brd_outPins -/
def L_brd_outPins : List Nat := []
def G_brd_outPins : List (Nat × Nat) := []
noncomputable def brd_outPins (s : iS) : Option (Int × iS) := bd (brd_lastChip s) (fun r1 s1 => gd (0 ≤ (r1 + 1) ∧ (r1 + 1) < 19) (bd (brd_lastChip s1) (fun r3 s3 => gd (0 ≤ r3 ∧ r3 < 18) (some (((s1 76 (r1 + 1).toNat) - (s3 77 r3.toNat)), s3)))))
theorem tbrd_outPins (w : ev_W) (d : Nat) (hd : 1 ≤ d) (s : iS) : Ew hT w d 287 0 [(0, .ref (tb_nK + 108))] [] s (Ci hT) (brd_outPins s) := by
  unfold brd_outPins
  refine e_mv 1 em_287 (ce_at ce_287 0 rfl) rfl rfl ?_
  refine e_getr 4 em_287 (ce_at ce_287 1 rfl) tq_108 rfl rfl ?_
  refine e_getr 7 em_287 (ce_at ce_287 2 rfl) tq_71 rfl rfl ?_
  refine e_mv 8 em_287 (ce_at ce_287 3 rfl) rfl rfl ?_
  refine e_ivi 11 em_287 (ce_at ce_287 4 rfl) (by omega) (iv_v0 (by decide) tq_108 rfl) em_267 (Nat.le_of_ble_eq_true rfl) rfl (tbrd_lastChip w (d - 1) (by omega) _) (fun r1 s1 => ?_)
  refine e_op 12 em_287 (ce_at ce_287 5 rfl) rfl rfl ?_
  refine e_iadd 13 em_287 rfl (ce_at ce_287 6 rfl) ?_
  refine e_gd fun g2 => ?_
  refine e_ild 14 em_287 (ce_at ce_287 7 rfl) tq_76 (by decide) g2 rfl ?_
  refine e_mv 15 em_287 (ce_at ce_287 8 rfl) rfl rfl ?_
  refine e_getr 18 em_287 (ce_at ce_287 9 rfl) tq_108 rfl rfl ?_
  refine e_getr 21 em_287 (ce_at ce_287 10 rfl) tq_71 rfl rfl ?_
  refine e_mv 22 em_287 (ce_at ce_287 11 rfl) rfl rfl ?_
  refine e_ivi 25 em_287 (ce_at ce_287 12 rfl) (by omega) (iv_v0 (by decide) tq_108 rfl) em_267 (Nat.le_of_ble_eq_true rfl) rfl (tbrd_lastChip w (d - 1) (by omega) _) (fun r3 s3 => ?_)
  refine e_gd fun g4 => ?_
  refine e_ild 26 em_287 (ce_at ce_287 13 rfl) tq_77 (by decide) g4 rfl ?_
  refine e_isub 27 em_287 rfl (ce_at ce_287 14 rfl) ?_
  exact e_reti em_287 (ce_at ce_287 15 rfl)
theorem fbrd_outPins (s : iS) : Fm Prod.snd L_brd_outPins G_brd_outPins s (brd_outPins s) := fm_bd (fm_sub (fbrd_lastChip _) (mem_sub_L rfl) (mem_sub_F rfl)) (fun r1 s1 => fm_gd (fm_bd (fm_sub (fbrd_lastChip _) (mem_sub_L rfl) (mem_sub_F rfl)) (fun r3 s3 => fm_gd (fm_some md_refl))))
/-! brd_readOutput -/
def L_brd_readOutput : List Nat := []
def G_brd_readOutput : List (Nat × Nat) := []
def brd_readOutput_49C (w : ev_W) (d : Nat) (v1 : Int) (v3 : Int) : (Int × Int × iS) ⊕ (Int × iS) → am_E → Prop := fun q r => q.elim (fun l => ev w d 286 49 ((fun l => [(0, .ref (tb_nK + 108)), (1, iv v1), (2, iv (l.1)), (3, iv v3), (4, iv (l.2.1))]) l) [] (hT ((fun l => l.2.2) l)) r) (fun e => (fun e r => ev w d 286 83 [(2, iv (e.1))] [] (hT (e.2)) r) e r)
noncomputable def brd_readOutput_49b (v1 : Int) (v2 : Int) (v3 : Int) (v4 : Int) (s : iS) : Option ((Int × Int × iS) ⊕ (Int × iS)) := gd (rg v4) (gd (rg v3) (if v3 ≤ v4 then some (.inr (v2, s)) else bd (brd_slotOf v1 v4 s) (fun r4 s4 => gd (0 ≤ r4 ∧ r4 < 192) (gd (0 ≤ (s4 115 r4.toNat) ∧ (s4 115 r4.toNat) < 1694) (some (.inl ((i_or v2 (i_shl (s4 112 (s4 115 r4.toNat).toNat) v4)), (v4 + 1), s4)))))))
theorem tbrd_readOutput_49b (w : ev_W) (d : Nat) (hd : 2 ≤ d) (v1 : Int) (v2 : Int) (v3 : Int) (v4 : Int) (s : iS) : Ew hT w d 286 49 [(0, .ref (tb_nK + 108)), (1, iv v1), (2, iv v2), (3, iv v3), (4, iv v4)] [] s (brd_readOutput_49C w d v1 v3) (brd_readOutput_49b v1 v2 v3 v4 s) := by
  unfold brd_readOutput_49b
  refine e_mv 51 em_286 (ce_at ce_286 28 rfl) rfl rfl ?_
  refine e_mv 52 em_286 (ce_at ce_286 29 rfl) rfl rfl ?_
  refine e_gd fun g1 => ?_
  refine e_gd fun g2 => ?_
  refine e_cmge 83 55 em_286 rfl rfl (ce_at ce_286 30 rfl) g1 g2 (fun h3 => ?_) (fun h3 => ?_)
  · refine e_pk [2] rfl rfl ?_
    exact e_out (fun r h => h)
  · refine e_mv 56 em_286 (ce_at ce_286 31 rfl) rfl rfl ?_
    refine e_mv 57 em_286 (ce_at ce_286 32 rfl) rfl rfl ?_
    refine e_getr 60 em_286 (ce_at ce_286 33 rfl) tq_108 rfl rfl ?_
    refine e_mv 61 em_286 (ce_at ce_286 34 rfl) rfl rfl ?_
    refine e_getr 64 em_286 (ce_at ce_286 35 rfl) tq_108 rfl rfl ?_
    refine e_mv 65 em_286 (ce_at ce_286 36 rfl) rfl rfl ?_
    refine e_mv 67 em_286 (ce_at ce_286 37 rfl) rfl rfl ?_
    refine e_ivi 70 em_286 (ce_at ce_286 38 rfl) (by omega) (iv_s2 rfl) em_269 (Nat.le_of_ble_eq_true rfl) rfl (tbrd_slotOf hT w (d - 1) (by omega) _ _ _) (fun r4 s4 => ?_)
    refine e_gd fun g5 => ?_
    refine e_ild 71 em_286 (ce_at ce_286 39 rfl) tq_115 (by decide) g5 rfl ?_
    refine e_gd fun g6 => ?_
    refine e_ild 72 em_286 (ce_at ce_286 40 rfl) tq_112 (by decide) g6 rfl ?_
    refine e_mv 74 em_286 (ce_at ce_286 41 rfl) rfl rfl ?_
    refine e_ishl 75 em_286 rfl (ce_at ce_286 42 rfl) ?_
    refine e_ior 76 em_286 rfl (ce_at ce_286 43 rfl) ?_
    refine e_mv 77 em_286 (ce_at ce_286 44 rfl) rfl rfl ?_
    refine e_iinc 80 em_286 (ce_at ce_286 45 rfl) rfl (by decide) rfl ?_
    refine e_goto em_286 49 (ce_at ce_286 46 rfl) rfl ?_
    refine e_pk [0, 1, 2, 3, 4] rfl rfl ?_
    exact e_out (fun r h => h)
theorem fbrd_readOutput_49b (v1 : Int) (v2 : Int) (v3 : Int) (v4 : Int) (s : iS) : Fm (fun r : (Int × Int × iS) ⊕ (Int × iS) => r.elim (fun l => l.2.2) (fun e => e.2)) L_brd_readOutput G_brd_readOutput s (brd_readOutput_49b v1 v2 v3 v4 s) := fm_gd (fm_gd (fm_if (fm_some md_refl) (fm_bd (fm_sub (fbrd_slotOf _ _ _) (mem_sub_L rfl) (mem_sub_F rfl)) (fun r4 s4 => fm_gd (fm_gd (fm_some md_refl))))))
noncomputable def brd_readOutput_49 (v1 : Int) (v2 : Int) (v3 : Int) (v4 : Int) (s : iS) : Option (Int × iS) := (lp (L := Int × Int × iS) (E := Int × iS) (fun l => brd_readOutput_49b v1 (l.1) v3 (l.2.1) (l.2.2)) (v2, v4, s)).bind (fun e => some (e.1, e.2))
theorem tbrd_readOutput_49 (w : ev_W) (d : Nat) (hd : 2 ≤ d) (v1 : Int) (v2 : Int) (v3 : Int) (v4 : Int) (s : iS) : Ew hT w d 286 49 [(0, .ref (tb_nK + 108)), (1, iv v1), (2, iv v2), (3, iv v3), (4, iv v4)] [] s (Ci hT) (brd_readOutput_49 v1 v2 v3 v4 s) := by
  unfold brd_readOutput_49
  refine e_lp (L := Int × Int × iS) (E := Int × iS) (LO := fun l => [(0, .ref (tb_nK + 108)), (1, iv v1), (2, iv (l.1)), (3, iv v3), (4, iv (l.2.1))]) (LS := fun l => l.2.2) (CE := fun e r => ev w d 286 83 [(2, iv (e.1))] [] (hT (e.2)) r) (fun l => tbrd_readOutput_49b w d hd _ _ _ _ _) ?_ (v2, v4, s)
  intro e
  show Ew hT w d 286 83 [(2, iv (e.1))] [] e.2 (Ci hT) _
  refine e_mv 84 em_286 (ce_at ce_286 47 rfl) rfl rfl ?_
  exact e_reti em_286 (ce_at ce_286 48 rfl)
theorem fbrd_readOutput_49 (v1 : Int) (v2 : Int) (v3 : Int) (v4 : Int) (s : iS) : Fm Prod.snd L_brd_readOutput G_brd_readOutput s (brd_readOutput_49 v1 v2 v3 v4 s) := by
  unfold brd_readOutput_49
  refine fm_lp (A := Int × Int × iS) (E := Int × iS) (LS := fun l => l.2.2) (LE := fun e => e.2) ?_ ?_ (v2, v4, s)
  · exact fun l => fbrd_readOutput_49b _ _ _ _ _
  · exact (fun e => fm_some md_refl)
noncomputable def brd_readOutput (v1 : Int) (s : iS) : Option (Int × iS) := gd (rg (s 108 18)) (if (s 108 18) = 0 then some ((-1), s) else gd (rg v1) (if v1 < 0 then some ((-1), s) else bd (brd_outPins s) (fun r5 s5 => gd (rg r5) (if v1 < r5 then bd (brd_lastChip s5) (fun r8 s8 => gd (0 ≤ r8 ∧ r8 < 18) (gd (0 ≤ ((s8 77 r8.toNat) + v1) ∧ ((s8 77 r8.toNat) + v1) < 197) (brd_readOutput_49 v1 0 (s8 91 ((s8 77 r8.toNat) + v1).toNat) 0 s8))) else some ((-1), s5)))))
theorem tbrd_readOutput (w : ev_W) (d : Nat) (hd : 2 ≤ d) (v1 : Int) (s : iS) : Ew hT w d 286 0 [(0, .ref (tb_nK + 108)), (1, iv v1)] [] s (Ci hT) (brd_readOutput v1 s) := by
  unfold brd_readOutput
  refine e_mv 1 em_286 (ce_at ce_286 0 rfl) rfl rfl ?_
  refine e_get 4 em_286 (ce_at ce_286 1 rfl) tq_108 rfl rfl ?_
  refine e_gd fun g1 => ?_
  refine e_ifeq 19 7 em_286 rfl rfl (ce_at ce_286 2 rfl) g1 (fun h2 => ?_) (fun h2 => ?_)
  · refine e_op 20 em_286 (ce_at ce_286 9 rfl) rfl rfl ?_
    exact e_reti em_286 (ce_at ce_286 10 rfl)
  · refine e_mv 8 em_286 (ce_at ce_286 3 rfl) rfl rfl ?_
    refine e_gd fun g3 => ?_
    refine e_iflt 19 11 em_286 rfl rfl (ce_at ce_286 4 rfl) g3 (fun h4 => ?_) (fun h4 => ?_)
    · refine e_op 20 em_286 (ce_at ce_286 9 rfl) rfl rfl ?_
      exact e_reti em_286 (ce_at ce_286 10 rfl)
    · refine e_mv 12 em_286 (ce_at ce_286 5 rfl) rfl rfl ?_
      refine e_mv 13 em_286 (ce_at ce_286 6 rfl) rfl rfl ?_
      refine e_ivi 16 em_286 (ce_at ce_286 7 rfl) (by omega) (iv_v0 (by decide) tq_108 rfl) em_287 (Nat.le_of_ble_eq_true rfl) rfl (tbrd_outPins w (d - 1) (by omega) _) (fun r5 s5 => ?_)
      refine e_gd fun g6 => ?_
      refine e_cmlt 21 19 em_286 rfl rfl (ce_at ce_286 8 rfl) g3 g6 (fun h7 => ?_) (fun h7 => ?_)
      · refine e_op 22 em_286 (ce_at ce_286 11 rfl) rfl rfl ?_
        refine e_mv 23 em_286 (ce_at ce_286 12 rfl) rfl rfl ?_
        refine e_mv 24 em_286 (ce_at ce_286 13 rfl) rfl rfl ?_
        refine e_getr 27 em_286 (ce_at ce_286 14 rfl) tq_108 rfl rfl ?_
        refine e_getr 30 em_286 (ce_at ce_286 15 rfl) tq_90 rfl rfl ?_
        refine e_mv 31 em_286 (ce_at ce_286 16 rfl) rfl rfl ?_
        refine e_getr 34 em_286 (ce_at ce_286 17 rfl) tq_108 rfl rfl ?_
        refine e_getr 37 em_286 (ce_at ce_286 18 rfl) tq_71 rfl rfl ?_
        refine e_mv 38 em_286 (ce_at ce_286 19 rfl) rfl rfl ?_
        refine e_ivi 41 em_286 (ce_at ce_286 20 rfl) (by omega) (iv_v0 (by decide) tq_108 rfl) em_267 (Nat.le_of_ble_eq_true rfl) rfl (tbrd_lastChip w (d - 1) (by omega) _) (fun r8 s8 => ?_)
        refine e_gd fun g9 => ?_
        refine e_ild 42 em_286 (ce_at ce_286 21 rfl) tq_77 (by decide) g9 rfl ?_
        refine e_mv 43 em_286 (ce_at ce_286 22 rfl) rfl rfl ?_
        refine e_iadd 44 em_286 rfl (ce_at ce_286 23 rfl) ?_
        refine e_gd fun g10 => ?_
        refine e_ild 45 em_286 (ce_at ce_286 24 rfl) tq_91 (by decide) g10 rfl ?_
        refine e_mv 46 em_286 (ce_at ce_286 25 rfl) rfl rfl ?_
        refine e_op 47 em_286 (ce_at ce_286 26 rfl) rfl rfl ?_
        refine e_mv 49 em_286 (ce_at ce_286 27 rfl) rfl rfl ?_
        refine e_pk [0, 1, 2, 3, 4] rfl rfl ?_
        exact tbrd_readOutput_49 w d hd _ _ _ _ _
      · refine e_op 20 em_286 (ce_at ce_286 9 rfl) rfl rfl ?_
        exact e_reti em_286 (ce_at ce_286 10 rfl)
theorem fbrd_readOutput (v1 : Int) (s : iS) : Fm Prod.snd L_brd_readOutput G_brd_readOutput s (brd_readOutput v1 s) := fm_gd (fm_if (fm_some md_refl) (fm_gd (fm_if (fm_some md_refl) (fm_bd (fm_sub (fbrd_outPins _) (mem_sub_L rfl) (mem_sub_F rfl)) (fun r5 s5 => fm_gd (fm_if (fm_bd (fm_sub (fbrd_lastChip _) (mem_sub_L rfl) (mem_sub_F rfl)) (fun r8 s8 => fm_gd (fm_gd (fbrd_readOutput_49 _ _ _ _ _)))) (fm_some md_refl)))))))
/-! x_pin -/
def L_x_pin : List Nat := []
def G_x_pin : List (Nat × Nat) := []
noncomputable def x_pin (v1 : Int) (s : iS) : Option (Int × iS) := bd (brd_readOutput v1 s) (fun r1 s1 => some (r1, s1))
theorem tx_pin (w : ev_W) (d : Nat) (hd : 3 ≤ d) (v1 : Int) (s : iS) : Ew hT w d 285 0 [(0, .ref (tb_nK + 0)), (1, iv v1)] [] s (Ci hT) (x_pin v1 s) := by
  unfold x_pin
  refine e_mv 1 em_285 (ce_at ce_285 0 rfl) rfl rfl ?_
  refine e_getr 4 em_285 (ce_at ce_285 1 rfl) tq_0 rfl rfl ?_
  refine e_mv 5 em_285 (ce_at ce_285 2 rfl) rfl rfl ?_
  refine e_ivi 8 em_285 (ce_at ce_285 3 rfl) (by omega) (iv_v1 (by decide) tq_108 rfl) em_286 (Nat.le_of_ble_eq_true rfl) rfl (tbrd_readOutput w (d - 1) (by omega) _ _) (fun r1 s1 => ?_)
  exact e_reti em_285 (ce_at ce_285 4 rfl)
theorem fx_pin (v1 : Int) (s : iS) : Fm Prod.snd L_x_pin G_x_pin s (x_pin v1 s) := fm_bd (fm_sub (fbrd_readOutput _ _) (mem_sub_L rfl) (mem_sub_F rfl)) (fun r1 s1 => fm_some md_refl)
/-! brd_clock -/
def L_brd_clock : List Nat := [112, 118]
def G_brd_clock : List (Nat × Nat) := [(108, 17)]
def brd_clock_11C (w : ev_W) (d : Nat) : (Int × iS) ⊕ (iS) → am_E → Prop := fun q r => q.elim (fun l => ev w d 289 11 ((fun l => [(0, .ref (tb_nK + 108)), (1, iv (l.1))]) l) [] (hT ((fun l => l.2) l)) r) (fun e => (fun e r => ev w d 289 42 [(0, .ref (tb_nK + 108))] [] (hT (e)) r) e r)
noncomputable def brd_clock_11b (v1 : Int) (s : iS) : Option ((Int × iS) ⊕ (iS)) := gd (rg v1) (gd (rg (s 108 14)) (if (s 108 14) ≤ v1 then some (.inr s) else gd (0 ≤ v1 ∧ v1 < 1500) (gd (0 ≤ (s 113 v1.toNat) ∧ (s 113 v1.toNat) < 1694) (lt' (up s 118 v1.toNat (s 112 (s 113 v1.toNat).toNat)) (fun s6 => some (.inl ((v1 + 1), s6)))))))
theorem tbrd_clock_11b (w : ev_W) (d : Nat) (hd : 1 ≤ d) (v1 : Int) (s : iS) : Ew hT w d 289 11 [(0, .ref (tb_nK + 108)), (1, iv v1)] [] s (brd_clock_11C w d) (brd_clock_11b v1 s) := by
  unfold brd_clock_11b
  refine e_mv 12 em_289 (ce_at ce_289 7 rfl) rfl rfl ?_
  refine e_mv 13 em_289 (ce_at ce_289 8 rfl) rfl rfl ?_
  refine e_get 16 em_289 (ce_at ce_289 9 rfl) tq_108 rfl rfl ?_
  refine e_gd fun g1 => ?_
  refine e_gd fun g2 => ?_
  refine e_cmge 42 19 em_289 rfl rfl (ce_at ce_289 10 rfl) g1 g2 (fun h3 => ?_) (fun h3 => ?_)
  · refine e_pk [0] rfl rfl ?_
    exact e_out (fun r h => h)
  · refine e_mv 20 em_289 (ce_at ce_289 11 rfl) rfl rfl ?_
    refine e_getr 23 em_289 (ce_at ce_289 12 rfl) tq_108 rfl rfl ?_
    refine e_mv 24 em_289 (ce_at ce_289 13 rfl) rfl rfl ?_
    refine e_mv 25 em_289 (ce_at ce_289 14 rfl) rfl rfl ?_
    refine e_getr 28 em_289 (ce_at ce_289 15 rfl) tq_108 rfl rfl ?_
    refine e_mv 29 em_289 (ce_at ce_289 16 rfl) rfl rfl ?_
    refine e_getr 32 em_289 (ce_at ce_289 17 rfl) tq_108 rfl rfl ?_
    refine e_mv 33 em_289 (ce_at ce_289 18 rfl) rfl rfl ?_
    refine e_gd fun g4 => ?_
    refine e_ild 34 em_289 (ce_at ce_289 19 rfl) tq_113 (by decide) g4 rfl ?_
    refine e_gd fun g5 => ?_
    refine e_ild 35 em_289 (ce_at ce_289 20 rfl) tq_112 (by decide) g5 rfl ?_
    refine e_ist 36 em_289 (ce_at ce_289 21 rfl) tq_118 (by decide) g4 rfl (fun s6 => ?_)
    refine e_iinc 39 em_289 (ce_at ce_289 22 rfl) rfl (by decide) rfl ?_
    refine e_goto em_289 11 (ce_at ce_289 23 rfl) rfl ?_
    refine e_pk [0, 1] rfl rfl ?_
    exact e_out (fun r h => h)
theorem fbrd_clock_11b (v1 : Int) (s : iS) : Fm (fun r : (Int × iS) ⊕ (iS) => r.elim (fun l => l.2) (fun e => e)) L_brd_clock G_brd_clock s (brd_clock_11b v1 s) := fm_gd (fm_gd (fm_if (fm_some md_refl) (fm_gd (fm_gd (fm_lt (md_upL (mem_L rfl)) (fun s6 => fm_some md_refl))))))
def brd_clock_46C (w : ev_W) (d : Nat) : (Int × Int × iS) ⊕ (Int × iS) → am_E → Prop := fun q r => q.elim (fun l => ev w d 289 46 ((fun l => [(0, .ref (tb_nK + 108)), (1, iv (l.1)), (2, iv (l.2.1))]) l) [] (hT ((fun l => l.2.2) l)) r) (fun e => (fun e r => ev w d 289 106 [(0, .ref (tb_nK + 108)), (1, iv (e.1))] [] (hT (e.2)) r) e r)
noncomputable def brd_clock_46b (v1 : Int) (v2 : Int) (s : iS) : Option ((Int × Int × iS) ⊕ (Int × iS)) := gd (rg v2) (gd (rg (s 108 14)) (if (s 108 14) ≤ v2 then some (.inr (v1, s)) else bd (brd_isNand v2 s) (fun r4 s4 => gd (rg r4) (if r4 = 0 then gd (0 ≤ (194 + v2) ∧ (194 + v2) < 1694) (gd (0 ≤ v2 ∧ v2 < 1500) (gd (rg (s4 112 (194 + v2).toNat)) (gd (rg (s4 118 v2.toNat)) (if (s4 112 (194 + v2).toNat) = (s4 118 v2.toNat) then some (.inl (v1, (v2 + 1), s4)) else lt' (up s4 112 (194 + v2).toNat (s4 118 v2.toNat)) (fun s12 => some (.inl ((v1 + 1), (v2 + 1), s12))))))) else some (.inl (v1, (v2 + 1), s4))))))
theorem tbrd_clock_46b (w : ev_W) (d : Nat) (hd : 1 ≤ d) (v1 : Int) (v2 : Int) (s : iS) : Ew hT w d 289 46 [(0, .ref (tb_nK + 108)), (1, iv v1), (2, iv v2)] [] s (brd_clock_46C w d) (brd_clock_46b v1 v2 s) := by
  unfold brd_clock_46b
  refine e_mv 47 em_289 (ce_at ce_289 28 rfl) rfl rfl ?_
  refine e_mv 48 em_289 (ce_at ce_289 29 rfl) rfl rfl ?_
  refine e_get 51 em_289 (ce_at ce_289 30 rfl) tq_108 rfl rfl ?_
  refine e_gd fun g1 => ?_
  refine e_gd fun g2 => ?_
  refine e_cmge 106 54 em_289 rfl rfl (ce_at ce_289 31 rfl) g1 g2 (fun h3 => ?_) (fun h3 => ?_)
  · refine e_pk [0, 1] rfl rfl ?_
    exact e_out (fun r h => h)
  · refine e_mv 55 em_289 (ce_at ce_289 32 rfl) rfl rfl ?_
    refine e_mv 56 em_289 (ce_at ce_289 33 rfl) rfl rfl ?_
    refine e_ivi 59 em_289 (ce_at ce_289 34 rfl) (by omega) (iv_v1 (by decide) tq_108 rfl) em_277 (Nat.le_of_ble_eq_true rfl) rfl (tbrd_isNand w (d - 1) (by omega) _ _) (fun r4 s4 => ?_)
    refine e_gd fun g5 => ?_
    refine e_ifne 100 62 em_289 rfl rfl (ce_at ce_289 35 rfl) g5 (fun h6 => ?_) (fun h6 => ?_)
    · refine e_iinc 103 em_289 (ce_at ce_289 58 rfl) rfl (by decide) rfl ?_
      refine e_goto em_289 46 (ce_at ce_289 59 rfl) rfl ?_
      refine e_pk [0, 1, 2] rfl rfl ?_
      exact e_out (fun r h => h)
    · refine e_mv 63 em_289 (ce_at ce_289 36 rfl) rfl rfl ?_
      refine e_getr 66 em_289 (ce_at ce_289 37 rfl) tq_108 rfl rfl ?_
      refine e_sip 69 em_289 (ce_at ce_289 38 rfl) (by decide) rfl ?_
      refine e_mv 70 em_289 (ce_at ce_289 39 rfl) rfl rfl ?_
      refine e_iadd 71 em_289 rfl (ce_at ce_289 40 rfl) ?_
      refine e_gd fun g7 => ?_
      refine e_ild 72 em_289 (ce_at ce_289 41 rfl) tq_112 (by decide) g7 rfl ?_
      refine e_mv 73 em_289 (ce_at ce_289 42 rfl) rfl rfl ?_
      refine e_getr 76 em_289 (ce_at ce_289 43 rfl) tq_108 rfl rfl ?_
      refine e_mv 77 em_289 (ce_at ce_289 44 rfl) rfl rfl ?_
      refine e_gd fun g8 => ?_
      refine e_ild 78 em_289 (ce_at ce_289 45 rfl) tq_118 (by decide) g8 rfl ?_
      refine e_gd fun g9 => ?_
      refine e_gd fun g10 => ?_
      refine e_cmeq 100 81 em_289 rfl rfl (ce_at ce_289 46 rfl) g9 g10 (fun h11 => ?_) (fun h11 => ?_)
      · refine e_iinc 103 em_289 (ce_at ce_289 58 rfl) rfl (by decide) rfl ?_
        refine e_goto em_289 46 (ce_at ce_289 59 rfl) rfl ?_
        refine e_pk [0, 1, 2] rfl rfl ?_
        exact e_out (fun r h => h)
      · refine e_mv 82 em_289 (ce_at ce_289 47 rfl) rfl rfl ?_
        refine e_getr 85 em_289 (ce_at ce_289 48 rfl) tq_108 rfl rfl ?_
        refine e_sip 88 em_289 (ce_at ce_289 49 rfl) (by decide) rfl ?_
        refine e_mv 89 em_289 (ce_at ce_289 50 rfl) rfl rfl ?_
        refine e_iadd 90 em_289 rfl (ce_at ce_289 51 rfl) ?_
        refine e_mv 91 em_289 (ce_at ce_289 52 rfl) rfl rfl ?_
        refine e_getr 94 em_289 (ce_at ce_289 53 rfl) tq_108 rfl rfl ?_
        refine e_mv 95 em_289 (ce_at ce_289 54 rfl) rfl rfl ?_
        refine e_ild 96 em_289 (ce_at ce_289 55 rfl) tq_118 (by decide) g8 rfl ?_
        refine e_ist 97 em_289 (ce_at ce_289 56 rfl) tq_112 (by decide) g7 rfl (fun s12 => ?_)
        refine e_iinc 100 em_289 (ce_at ce_289 57 rfl) rfl (by decide) rfl ?_
        refine e_iinc 103 em_289 (ce_at ce_289 58 rfl) rfl (by decide) rfl ?_
        refine e_goto em_289 46 (ce_at ce_289 59 rfl) rfl ?_
        refine e_pk [0, 1, 2] rfl rfl ?_
        exact e_out (fun r h => h)
theorem fbrd_clock_46b (v1 : Int) (v2 : Int) (s : iS) : Fm (fun r : (Int × Int × iS) ⊕ (Int × iS) => r.elim (fun l => l.2.2) (fun e => e.2)) L_brd_clock G_brd_clock s (brd_clock_46b v1 v2 s) := fm_gd (fm_gd (fm_if (fm_some md_refl) (fm_bd (fm_sub (fbrd_isNand _ _) (mem_sub_L rfl) (mem_sub_F rfl)) (fun r4 s4 => fm_gd (fm_if (fm_gd (fm_gd (fm_gd (fm_gd (fm_if (fm_some md_refl) (fm_lt (md_upL (mem_L rfl)) (fun s12 => fm_some md_refl))))))) (fm_some md_refl))))))
noncomputable def brd_clock_106 (v1 : Int) (s : iS) : Option (Int × iS) := lt' (up s 108 17 ((s 108 17) + 1)) (fun s1 => bd (brd_settle s1) (fun _ s2 => some (v1, s2)))
theorem tbrd_clock_106 (w : ev_W) (d : Nat) (hd : 1 ≤ d) (v1 : Int) (s : iS) : Ew hT w d 289 106 [(0, .ref (tb_nK + 108)), (1, iv v1)] [] s (Ci hT) (brd_clock_106 v1 s) := by
  unfold brd_clock_106
  refine e_mv 107 em_289 (ce_at ce_289 60 rfl) rfl rfl ?_
  refine e_op 108 em_289 (ce_at ce_289 61 rfl) rfl rfl ?_
  refine e_get 111 em_289 (ce_at ce_289 62 rfl) tq_108 rfl rfl ?_
  refine e_op 112 em_289 (ce_at ce_289 63 rfl) rfl rfl ?_
  refine e_iadd 113 em_289 rfl (ce_at ce_289 64 rfl) ?_
  refine e_put 116 em_289 (ce_at ce_289 65 rfl) tq_108 rfl rfl rfl (fun s1 => ?_)
  refine e_mv 117 em_289 (ce_at ce_289 66 rfl) rfl rfl ?_
  refine e_ivv 120 em_289 (ce_at ce_289 67 rfl) (by omega) (iv_v0 (by decide) tq_108 rfl) em_281 (Nat.le_of_ble_eq_true rfl) rfl (tbrd_settle w (d - 1) (by omega) _) (fun r2 s2 => ?_)
  refine e_mv 121 em_289 (ce_at ce_289 68 rfl) rfl rfl ?_
  exact e_reti em_289 (ce_at ce_289 69 rfl)
theorem fbrd_clock_106 (v1 : Int) (s : iS) : Fm Prod.snd L_brd_clock G_brd_clock s (brd_clock_106 v1 s) := fm_lt (md_upF (mem_F rfl)) (fun s1 => fm_bd (fm_sub (fbrd_settle _) (mem_sub_L rfl) (mem_sub_F rfl)) (fun r2 s2 => fm_some md_refl))
noncomputable def brd_clock_46 (v1 : Int) (v2 : Int) (s : iS) : Option (Int × iS) := (lp (L := Int × Int × iS) (E := Int × iS) (fun l => brd_clock_46b (l.1) (l.2.1) (l.2.2)) (v1, v2, s)).bind (fun e => brd_clock_106 (e.1) (e.2))
theorem tbrd_clock_46 (w : ev_W) (d : Nat) (hd : 1 ≤ d) (v1 : Int) (v2 : Int) (s : iS) : Ew hT w d 289 46 [(0, .ref (tb_nK + 108)), (1, iv v1), (2, iv v2)] [] s (Ci hT) (brd_clock_46 v1 v2 s) := by
  unfold brd_clock_46
  refine e_lp (L := Int × Int × iS) (E := Int × iS) (LO := fun l => [(0, .ref (tb_nK + 108)), (1, iv (l.1)), (2, iv (l.2.1))]) (LS := fun l => l.2.2) (CE := fun e r => ev w d 289 106 [(0, .ref (tb_nK + 108)), (1, iv (e.1))] [] (hT (e.2)) r) (fun l => tbrd_clock_46b w d hd _ _ _) ?_ (v1, v2, s)
  intro e
  show Ew hT w d 289 106 [(0, .ref (tb_nK + 108)), (1, iv (e.1))] [] e.2 (Ci hT) _
  refine e_pk [0, 1] rfl rfl ?_
  exact tbrd_clock_106 w d hd _ _
theorem fbrd_clock_46 (v1 : Int) (v2 : Int) (s : iS) : Fm Prod.snd L_brd_clock G_brd_clock s (brd_clock_46 v1 v2 s) := by
  unfold brd_clock_46
  refine fm_lp (A := Int × Int × iS) (E := Int × iS) (LS := fun l => l.2.2) (LE := fun e => e.2) ?_ ?_ (v1, v2, s)
  · exact fun l => fbrd_clock_46b _ _ _
  · exact (fun e => fbrd_clock_106 _ _)
noncomputable def brd_clock_42 (s : iS) : Option (Int × iS) := brd_clock_46 0 0 s
theorem tbrd_clock_42 (w : ev_W) (d : Nat) (hd : 1 ≤ d) (s : iS) : Ew hT w d 289 42 [(0, .ref (tb_nK + 108))] [] s (Ci hT) (brd_clock_42 s) := by
  unfold brd_clock_42
  refine e_op 43 em_289 (ce_at ce_289 24 rfl) rfl rfl ?_
  refine e_mv 44 em_289 (ce_at ce_289 25 rfl) rfl rfl ?_
  refine e_op 45 em_289 (ce_at ce_289 26 rfl) rfl rfl ?_
  refine e_mv 46 em_289 (ce_at ce_289 27 rfl) rfl rfl ?_
  refine e_pk [0, 1, 2] rfl rfl ?_
  exact tbrd_clock_46 w d hd _ _ _
theorem fbrd_clock_42 (s : iS) : Fm Prod.snd L_brd_clock G_brd_clock s (brd_clock_42 s) := fbrd_clock_46 _ _ _
noncomputable def brd_clock_11 (v1 : Int) (s : iS) : Option (Int × iS) := (lp (L := Int × iS) (E := iS) (fun l => brd_clock_11b (l.1) (l.2)) (v1, s)).bind (fun e => brd_clock_42 e)
theorem tbrd_clock_11 (w : ev_W) (d : Nat) (hd : 1 ≤ d) (v1 : Int) (s : iS) : Ew hT w d 289 11 [(0, .ref (tb_nK + 108)), (1, iv v1)] [] s (Ci hT) (brd_clock_11 v1 s) := by
  unfold brd_clock_11
  refine e_lp (L := Int × iS) (E := iS) (LO := fun l => [(0, .ref (tb_nK + 108)), (1, iv (l.1))]) (LS := fun l => l.2) (CE := fun e r => ev w d 289 42 [(0, .ref (tb_nK + 108))] [] (hT (e)) r) (fun l => tbrd_clock_11b w d hd _ _) ?_ (v1, s)
  intro e
  show Ew hT w d 289 42 [(0, .ref (tb_nK + 108))] [] e (Ci hT) _
  refine e_pk [0] rfl rfl ?_
  exact tbrd_clock_42 w d hd _
theorem fbrd_clock_11 (v1 : Int) (s : iS) : Fm Prod.snd L_brd_clock G_brd_clock s (brd_clock_11 v1 s) := by
  unfold brd_clock_11
  refine fm_lp (A := Int × iS) (E := iS) (LS := fun l => l.2) (LE := fun e => e) ?_ ?_ (v1, s)
  · exact fun l => fbrd_clock_11b _ _
  · exact (fun e => fbrd_clock_42 _)
noncomputable def brd_clock (s : iS) : Option (Int × iS) := gd (rg (s 108 18)) (if (s 108 18) = 0 then some ((-1), s) else brd_clock_11 0 s)
theorem tbrd_clock (w : ev_W) (d : Nat) (hd : 1 ≤ d) (s : iS) : Ew hT w d 289 0 [(0, .ref (tb_nK + 108))] [] s (Ci hT) (brd_clock s) := by
  unfold brd_clock
  refine e_mv 1 em_289 (ce_at ce_289 0 rfl) rfl rfl ?_
  refine e_get 4 em_289 (ce_at ce_289 1 rfl) tq_108 rfl rfl ?_
  refine e_gd fun g1 => ?_
  refine e_ifne 9 7 em_289 rfl rfl (ce_at ce_289 2 rfl) g1 (fun h2 => ?_) (fun h2 => ?_)
  · refine e_op 10 em_289 (ce_at ce_289 5 rfl) rfl rfl ?_
    refine e_mv 11 em_289 (ce_at ce_289 6 rfl) rfl rfl ?_
    refine e_pk [0, 1] rfl rfl ?_
    exact tbrd_clock_11 w d hd _ _
  · refine e_op 8 em_289 (ce_at ce_289 3 rfl) rfl rfl ?_
    exact e_reti em_289 (ce_at ce_289 4 rfl)
theorem fbrd_clock (s : iS) : Fm Prod.snd L_brd_clock G_brd_clock s (brd_clock s) := fm_gd (fm_if (fm_some md_refl) (fbrd_clock_11 _ _))
/-! x_tick -/
def L_x_tick : List Nat := [112, 118]
def G_x_tick : List (Nat × Nat) := [(108, 17)]
noncomputable def x_tick (s : iS) : Option (Int × iS) := bd (brd_clock s) (fun r1 s1 => some (r1, s1))
theorem tx_tick (w : ev_W) (d : Nat) (hd : 2 ≤ d) (s : iS) : Ew hT w d 288 0 [(0, .ref (tb_nK + 0))] [] s (Ci hT) (x_tick s) := by
  unfold x_tick
  refine e_mv 1 em_288 (ce_at ce_288 0 rfl) rfl rfl ?_
  refine e_getr 4 em_288 (ce_at ce_288 1 rfl) tq_0 rfl rfl ?_
  refine e_ivi 7 em_288 (ce_at ce_288 2 rfl) (by omega) (iv_v0 (by decide) tq_108 rfl) em_289 (Nat.le_of_ble_eq_true rfl) rfl (tbrd_clock w (d - 1) (by omega) _) (fun r1 s1 => ?_)
  exact e_reti em_288 (ce_at ce_288 3 rfl)
theorem fx_tick (s : iS) : Fm Prod.snd L_x_tick G_x_tick s (x_tick s) := fm_bd (fm_sub (fbrd_clock _) (mem_sub_L rfl) (mem_sub_F rfl)) (fun r1 s1 => fm_some md_refl)
/-! brd_longestChain -/
def L_brd_longestChain : List Nat := []
def G_brd_longestChain : List (Nat × Nat) := []
def brd_longestChain_4C (w : ev_W) (d : Nat) : (Int × Int × iS) ⊕ (Int × iS) → am_E → Prop := fun q r => q.elim (fun l => ev w d 292 4 ((fun l => [(0, .ref (tb_nK + 108)), (1, iv (l.1)), (2, iv (l.2.1))]) l) [] (hT ((fun l => l.2.2) l)) r) (fun e => (fun e r => ev w d 292 34 [(1, iv (e.1))] [] (hT (e.2)) r) e r)
noncomputable def brd_longestChain_4b (v1 : Int) (v2 : Int) (s : iS) : Option ((Int × Int × iS) ⊕ (Int × iS)) := gd (rg v2) (gd (rg (s 108 16)) (if (s 108 16) ≤ v2 then some (.inr (v1, s)) else gd (0 ≤ v2 ∧ v2 < 1500) (gd (0 ≤ (s 116 v2.toNat) ∧ (s 116 v2.toNat) < 1500) (bd (mth_max v1 (s 117 (s 116 v2.toNat).toNat) s) (fun r6 s6 => some (.inl (r6, (v2 + 1), s6)))))))
theorem tbrd_longestChain_4b (w : ev_W) (d : Nat) (hd : 1 ≤ d) (v1 : Int) (v2 : Int) (s : iS) : Ew hT w d 292 4 [(0, .ref (tb_nK + 108)), (1, iv v1), (2, iv v2)] [] s (brd_longestChain_4C w d) (brd_longestChain_4b v1 v2 s) := by
  unfold brd_longestChain_4b
  refine e_mv 5 em_292 (ce_at ce_292 4 rfl) rfl rfl ?_
  refine e_mv 6 em_292 (ce_at ce_292 5 rfl) rfl rfl ?_
  refine e_get 9 em_292 (ce_at ce_292 6 rfl) tq_108 rfl rfl ?_
  refine e_gd fun g1 => ?_
  refine e_gd fun g2 => ?_
  refine e_cmge 34 12 em_292 rfl rfl (ce_at ce_292 7 rfl) g1 g2 (fun h3 => ?_) (fun h3 => ?_)
  · refine e_pk [1] rfl rfl ?_
    exact e_out (fun r h => h)
  · refine e_mv 13 em_292 (ce_at ce_292 8 rfl) rfl rfl ?_
    refine e_mv 14 em_292 (ce_at ce_292 9 rfl) rfl rfl ?_
    refine e_getr 17 em_292 (ce_at ce_292 10 rfl) tq_108 rfl rfl ?_
    refine e_mv 18 em_292 (ce_at ce_292 11 rfl) rfl rfl ?_
    refine e_getr 21 em_292 (ce_at ce_292 12 rfl) tq_108 rfl rfl ?_
    refine e_mv 22 em_292 (ce_at ce_292 13 rfl) rfl rfl ?_
    refine e_gd fun g4 => ?_
    refine e_ild 23 em_292 (ce_at ce_292 14 rfl) tq_116 (by decide) g4 rfl ?_
    refine e_gd fun g5 => ?_
    refine e_ild 24 em_292 (ce_at ce_292 15 rfl) tq_117 (by decide) g5 rfl ?_
    refine e_ivi 27 em_292 (ce_at ce_292 16 rfl) (by omega) (iv_s2 rfl) em_45 (Nat.le_of_ble_eq_true rfl) rfl (tmth_max hT w (d - 1) (by omega) _ _ _) (fun r6 s6 => ?_)
    refine e_mv 28 em_292 (ce_at ce_292 17 rfl) rfl rfl ?_
    refine e_iinc 31 em_292 (ce_at ce_292 18 rfl) rfl (by decide) rfl ?_
    refine e_goto em_292 4 (ce_at ce_292 19 rfl) rfl ?_
    refine e_pk [0, 1, 2] rfl rfl ?_
    exact e_out (fun r h => h)
theorem fbrd_longestChain_4b (v1 : Int) (v2 : Int) (s : iS) : Fm (fun r : (Int × Int × iS) ⊕ (Int × iS) => r.elim (fun l => l.2.2) (fun e => e.2)) L_brd_longestChain G_brd_longestChain s (brd_longestChain_4b v1 v2 s) := fm_gd (fm_gd (fm_if (fm_some md_refl) (fm_gd (fm_gd (fm_bd (fm_sub (fmth_max _ _ _) (mem_sub_L rfl) (mem_sub_F rfl)) (fun r6 s6 => fm_some md_refl))))))
noncomputable def brd_longestChain_4 (v1 : Int) (v2 : Int) (s : iS) : Option (Int × iS) := (lp (L := Int × Int × iS) (E := Int × iS) (fun l => brd_longestChain_4b (l.1) (l.2.1) (l.2.2)) (v1, v2, s)).bind (fun e => some (e.1, e.2))
theorem tbrd_longestChain_4 (w : ev_W) (d : Nat) (hd : 1 ≤ d) (v1 : Int) (v2 : Int) (s : iS) : Ew hT w d 292 4 [(0, .ref (tb_nK + 108)), (1, iv v1), (2, iv v2)] [] s (Ci hT) (brd_longestChain_4 v1 v2 s) := by
  unfold brd_longestChain_4
  refine e_lp (L := Int × Int × iS) (E := Int × iS) (LO := fun l => [(0, .ref (tb_nK + 108)), (1, iv (l.1)), (2, iv (l.2.1))]) (LS := fun l => l.2.2) (CE := fun e r => ev w d 292 34 [(1, iv (e.1))] [] (hT (e.2)) r) (fun l => tbrd_longestChain_4b w d hd _ _ _) ?_ (v1, v2, s)
  intro e
  show Ew hT w d 292 34 [(1, iv (e.1))] [] e.2 (Ci hT) _
  refine e_mv 35 em_292 (ce_at ce_292 20 rfl) rfl rfl ?_
  exact e_reti em_292 (ce_at ce_292 21 rfl)
theorem fbrd_longestChain_4 (v1 : Int) (v2 : Int) (s : iS) : Fm Prod.snd L_brd_longestChain G_brd_longestChain s (brd_longestChain_4 v1 v2 s) := by
  unfold brd_longestChain_4
  refine fm_lp (A := Int × Int × iS) (E := Int × iS) (LS := fun l => l.2.2) (LE := fun e => e.2) ?_ ?_ (v1, v2, s)
  · exact fun l => fbrd_longestChain_4b _ _ _
  · exact (fun e => fm_some md_refl)
noncomputable def brd_longestChain (s : iS) : Option (Int × iS) := brd_longestChain_4 0 0 s
theorem tbrd_longestChain (w : ev_W) (d : Nat) (hd : 1 ≤ d) (s : iS) : Ew hT w d 292 0 [(0, .ref (tb_nK + 108))] [] s (Ci hT) (brd_longestChain s) := by
  unfold brd_longestChain
  refine e_op 1 em_292 (ce_at ce_292 0 rfl) rfl rfl ?_
  refine e_mv 2 em_292 (ce_at ce_292 1 rfl) rfl rfl ?_
  refine e_op 3 em_292 (ce_at ce_292 2 rfl) rfl rfl ?_
  refine e_mv 4 em_292 (ce_at ce_292 3 rfl) rfl rfl ?_
  refine e_pk [0, 1, 2] rfl rfl ?_
  exact tbrd_longestChain_4 w d hd _ _ _
theorem fbrd_longestChain (s : iS) : Fm Prod.snd L_brd_longestChain G_brd_longestChain s (brd_longestChain s) := fbrd_longestChain_4 _ _ _
/-! brd_givingOne -/
def L_brd_givingOne : List Nat := []
def G_brd_givingOne : List (Nat × Nat) := []
def brd_givingOne_4C (w : ev_W) (d : Nat) : (Int × Int × iS) ⊕ (Int × iS) → am_E → Prop := fun q r => q.elim (fun l => ev w d 293 4 ((fun l => [(0, .ref (tb_nK + 108)), (1, iv (l.1)), (2, iv (l.2.1))]) l) [] (hT ((fun l => l.2.2) l)) r) (fun e => (fun e r => ev w d 293 36 [(1, iv (e.1))] [] (hT (e.2)) r) e r)
noncomputable def brd_givingOne_4b (v1 : Int) (v2 : Int) (s : iS) : Option ((Int × Int × iS) ⊕ (Int × iS)) := gd (rg v2) (gd (rg (s 108 16)) (if (s 108 16) ≤ v2 then some (.inr (v1, s)) else gd (0 ≤ v2 ∧ v2 < 1500) (gd (0 ≤ (194 + (s 116 v2.toNat)) ∧ (194 + (s 116 v2.toNat)) < 1694) (some (.inl ((v1 + (s 112 (194 + (s 116 v2.toNat)).toNat)), (v2 + 1), s))))))
theorem tbrd_givingOne_4b (w : ev_W) (d : Nat) (hd : 0 ≤ d) (v1 : Int) (v2 : Int) (s : iS) : Ew hT w d 293 4 [(0, .ref (tb_nK + 108)), (1, iv v1), (2, iv v2)] [] s (brd_givingOne_4C w d) (brd_givingOne_4b v1 v2 s) := by
  unfold brd_givingOne_4b
  refine e_mv 5 em_293 (ce_at ce_293 4 rfl) rfl rfl ?_
  refine e_mv 6 em_293 (ce_at ce_293 5 rfl) rfl rfl ?_
  refine e_get 9 em_293 (ce_at ce_293 6 rfl) tq_108 rfl rfl ?_
  refine e_gd fun g1 => ?_
  refine e_gd fun g2 => ?_
  refine e_cmge 36 12 em_293 rfl rfl (ce_at ce_293 7 rfl) g1 g2 (fun h3 => ?_) (fun h3 => ?_)
  · refine e_pk [1] rfl rfl ?_
    exact e_out (fun r h => h)
  · refine e_mv 13 em_293 (ce_at ce_293 8 rfl) rfl rfl ?_
    refine e_mv 14 em_293 (ce_at ce_293 9 rfl) rfl rfl ?_
    refine e_getr 17 em_293 (ce_at ce_293 10 rfl) tq_108 rfl rfl ?_
    refine e_sip 20 em_293 (ce_at ce_293 11 rfl) (by decide) rfl ?_
    refine e_mv 21 em_293 (ce_at ce_293 12 rfl) rfl rfl ?_
    refine e_getr 24 em_293 (ce_at ce_293 13 rfl) tq_108 rfl rfl ?_
    refine e_mv 25 em_293 (ce_at ce_293 14 rfl) rfl rfl ?_
    refine e_gd fun g4 => ?_
    refine e_ild 26 em_293 (ce_at ce_293 15 rfl) tq_116 (by decide) g4 rfl ?_
    refine e_iadd 27 em_293 rfl (ce_at ce_293 16 rfl) ?_
    refine e_gd fun g5 => ?_
    refine e_ild 28 em_293 (ce_at ce_293 17 rfl) tq_112 (by decide) g5 rfl ?_
    refine e_iadd 29 em_293 rfl (ce_at ce_293 18 rfl) ?_
    refine e_mv 30 em_293 (ce_at ce_293 19 rfl) rfl rfl ?_
    refine e_iinc 33 em_293 (ce_at ce_293 20 rfl) rfl (by decide) rfl ?_
    refine e_goto em_293 4 (ce_at ce_293 21 rfl) rfl ?_
    refine e_pk [0, 1, 2] rfl rfl ?_
    exact e_out (fun r h => h)
theorem fbrd_givingOne_4b (v1 : Int) (v2 : Int) (s : iS) : Fm (fun r : (Int × Int × iS) ⊕ (Int × iS) => r.elim (fun l => l.2.2) (fun e => e.2)) L_brd_givingOne G_brd_givingOne s (brd_givingOne_4b v1 v2 s) := fm_gd (fm_gd (fm_if (fm_some md_refl) (fm_gd (fm_gd (fm_some md_refl)))))
noncomputable def brd_givingOne_4 (v1 : Int) (v2 : Int) (s : iS) : Option (Int × iS) := (lp (L := Int × Int × iS) (E := Int × iS) (fun l => brd_givingOne_4b (l.1) (l.2.1) (l.2.2)) (v1, v2, s)).bind (fun e => some (e.1, e.2))
theorem tbrd_givingOne_4 (w : ev_W) (d : Nat) (hd : 0 ≤ d) (v1 : Int) (v2 : Int) (s : iS) : Ew hT w d 293 4 [(0, .ref (tb_nK + 108)), (1, iv v1), (2, iv v2)] [] s (Ci hT) (brd_givingOne_4 v1 v2 s) := by
  unfold brd_givingOne_4
  refine e_lp (L := Int × Int × iS) (E := Int × iS) (LO := fun l => [(0, .ref (tb_nK + 108)), (1, iv (l.1)), (2, iv (l.2.1))]) (LS := fun l => l.2.2) (CE := fun e r => ev w d 293 36 [(1, iv (e.1))] [] (hT (e.2)) r) (fun l => tbrd_givingOne_4b w d hd _ _ _) ?_ (v1, v2, s)
  intro e
  show Ew hT w d 293 36 [(1, iv (e.1))] [] e.2 (Ci hT) _
  refine e_mv 37 em_293 (ce_at ce_293 22 rfl) rfl rfl ?_
  exact e_reti em_293 (ce_at ce_293 23 rfl)
theorem fbrd_givingOne_4 (v1 : Int) (v2 : Int) (s : iS) : Fm Prod.snd L_brd_givingOne G_brd_givingOne s (brd_givingOne_4 v1 v2 s) := by
  unfold brd_givingOne_4
  refine fm_lp (A := Int × Int × iS) (E := Int × iS) (LS := fun l => l.2.2) (LE := fun e => e.2) ?_ ?_ (v1, v2, s)
  · exact fun l => fbrd_givingOne_4b _ _ _
  · exact (fun e => fm_some md_refl)
noncomputable def brd_givingOne (s : iS) : Option (Int × iS) := brd_givingOne_4 0 0 s
theorem tbrd_givingOne (w : ev_W) (d : Nat) (hd : 0 ≤ d) (s : iS) : Ew hT w d 293 0 [(0, .ref (tb_nK + 108))] [] s (Ci hT) (brd_givingOne s) := by
  unfold brd_givingOne
  refine e_op 1 em_293 (ce_at ce_293 0 rfl) rfl rfl ?_
  refine e_mv 2 em_293 (ce_at ce_293 1 rfl) rfl rfl ?_
  refine e_op 3 em_293 (ce_at ce_293 2 rfl) rfl rfl ?_
  refine e_mv 4 em_293 (ce_at ce_293 3 rfl) rfl rfl ?_
  refine e_pk [0, 1, 2] rfl rfl ?_
  exact tbrd_givingOne_4 w d hd _ _ _
theorem fbrd_givingOne (s : iS) : Fm Prod.snd L_brd_givingOne G_brd_givingOne s (brd_givingOne s) := fbrd_givingOne_4 _ _ _
/-! brd_measure -/
def L_brd_measure : List Nat := []
def G_brd_measure : List (Nat × Nat) := []
noncomputable def brd_measure (v1 : Int) (s : iS) : Option (Int × iS) := gd (rg (s 108 18)) (if (s 108 18) = 0 then some ((-1), s) else gd (rg v1) (if v1 = 0 then some ((s 108 16), s) else if v1 = 1 then some (((s 108 14) - (s 108 16)), s) else if v1 = 2 then bd (brd_inPins s) (fun r7 s7 => some (r7, s7)) else if v1 = 3 then bd (brd_outPins s) (fun r9 s9 => some (r9, s9)) else if v1 = 4 then some (((s 72 2) - 2), s) else if v1 = 5 then bd (brd_longestChain s) (fun r12 s12 => some (r12, s12)) else if v1 = 6 then some ((s 108 17), s) else if v1 = 7 then bd (brd_givingOne s) (fun r15 s15 => some (r15, s15)) else some ((-1), s)))
theorem tbrd_measure (w : ev_W) (d : Nat) (hd : 2 ≤ d) (v1 : Int) (s : iS) : Ew hT w d 291 0 [(0, .ref (tb_nK + 108)), (1, iv v1)] [] s (Ci hT) (brd_measure v1 s) := by
  unfold brd_measure
  refine e_mv 1 em_291 (ce_at ce_291 0 rfl) rfl rfl ?_
  refine e_get 4 em_291 (ce_at ce_291 1 rfl) tq_108 rfl rfl ?_
  refine e_gd fun g1 => ?_
  refine e_ifne 9 7 em_291 rfl rfl (ce_at ce_291 2 rfl) g1 (fun h2 => ?_) (fun h2 => ?_)
  · refine e_mv 10 em_291 (ce_at ce_291 5 rfl) rfl rfl ?_
    refine e_gd fun g3 => ?_
    refine e_case 0 (fun h4 => ?_) (fun h4 => ?_)
    · refine e_sw em_291 56 (ce_at ce_291 6 rfl) (sw_in g3 (by omega) (by subst h4; rfl)) rfl ?_
      refine e_mv 57 em_291 (ce_at ce_291 7 rfl) rfl rfl ?_
      refine e_get 60 em_291 (ce_at ce_291 8 rfl) tq_108 rfl rfl ?_
      exact e_reti em_291 (ce_at ce_291 9 rfl)
    refine e_case 1 (fun h5 => ?_) (fun h5 => ?_)
    · refine e_sw em_291 61 (ce_at ce_291 6 rfl) (sw_in g3 (by omega) (by subst h5; rfl)) rfl ?_
      refine e_mv 62 em_291 (ce_at ce_291 10 rfl) rfl rfl ?_
      refine e_get 65 em_291 (ce_at ce_291 11 rfl) tq_108 rfl rfl ?_
      refine e_mv 66 em_291 (ce_at ce_291 12 rfl) rfl rfl ?_
      refine e_get 69 em_291 (ce_at ce_291 13 rfl) tq_108 rfl rfl ?_
      refine e_isub 70 em_291 rfl (ce_at ce_291 14 rfl) ?_
      exact e_reti em_291 (ce_at ce_291 15 rfl)
    refine e_case 2 (fun h6 => ?_) (fun h6 => ?_)
    · refine e_sw em_291 71 (ce_at ce_291 6 rfl) (sw_in g3 (by omega) (by subst h6; rfl)) rfl ?_
      refine e_mv 72 em_291 (ce_at ce_291 16 rfl) rfl rfl ?_
      refine e_ivi 75 em_291 (ce_at ce_291 17 rfl) (by omega) (iv_v0 (by decide) tq_108 rfl) em_284 (Nat.le_of_ble_eq_true rfl) rfl (tbrd_inPins w (d - 1) (by omega) _) (fun r7 s7 => ?_)
      exact e_reti em_291 (ce_at ce_291 18 rfl)
    refine e_case 3 (fun h8 => ?_) (fun h8 => ?_)
    · refine e_sw em_291 76 (ce_at ce_291 6 rfl) (sw_in g3 (by omega) (by subst h8; rfl)) rfl ?_
      refine e_mv 77 em_291 (ce_at ce_291 19 rfl) rfl rfl ?_
      refine e_ivi 80 em_291 (ce_at ce_291 20 rfl) (by omega) (iv_v0 (by decide) tq_108 rfl) em_287 (Nat.le_of_ble_eq_true rfl) rfl (tbrd_outPins w (d - 1) (by omega) _) (fun r9 s9 => ?_)
      exact e_reti em_291 (ce_at ce_291 21 rfl)
    refine e_case 4 (fun h10 => ?_) (fun h10 => ?_)
    · refine e_sw em_291 81 (ce_at ce_291 6 rfl) (sw_in g3 (by omega) (by subst h10; rfl)) rfl ?_
      refine e_mv 82 em_291 (ce_at ce_291 22 rfl) rfl rfl ?_
      refine e_getr 85 em_291 (ce_at ce_291 23 rfl) tq_108 rfl rfl ?_
      refine e_getr 88 em_291 (ce_at ce_291 24 rfl) tq_71 rfl rfl ?_
      refine e_get 91 em_291 (ce_at ce_291 25 rfl) tq_72 rfl rfl ?_
      refine e_op 92 em_291 (ce_at ce_291 26 rfl) rfl rfl ?_
      refine e_isub 93 em_291 rfl (ce_at ce_291 27 rfl) ?_
      exact e_reti em_291 (ce_at ce_291 28 rfl)
    refine e_case 5 (fun h11 => ?_) (fun h11 => ?_)
    · refine e_sw em_291 94 (ce_at ce_291 6 rfl) (sw_in g3 (by omega) (by subst h11; rfl)) rfl ?_
      refine e_mv 95 em_291 (ce_at ce_291 29 rfl) rfl rfl ?_
      refine e_ivi 98 em_291 (ce_at ce_291 30 rfl) (by omega) (iv_v0 (by decide) tq_108 rfl) em_292 (Nat.le_of_ble_eq_true rfl) rfl (tbrd_longestChain w (d - 1) (by omega) _) (fun r12 s12 => ?_)
      exact e_reti em_291 (ce_at ce_291 31 rfl)
    refine e_case 6 (fun h13 => ?_) (fun h13 => ?_)
    · refine e_sw em_291 99 (ce_at ce_291 6 rfl) (sw_in g3 (by omega) (by subst h13; rfl)) rfl ?_
      refine e_mv 100 em_291 (ce_at ce_291 32 rfl) rfl rfl ?_
      refine e_get 103 em_291 (ce_at ce_291 33 rfl) tq_108 rfl rfl ?_
      exact e_reti em_291 (ce_at ce_291 34 rfl)
    refine e_case 7 (fun h14 => ?_) (fun h14 => ?_)
    · refine e_sw em_291 104 (ce_at ce_291 6 rfl) (sw_in g3 (by omega) (by subst h14; rfl)) rfl ?_
      refine e_mv 105 em_291 (ce_at ce_291 35 rfl) rfl rfl ?_
      refine e_ivi 108 em_291 (ce_at ce_291 36 rfl) (by omega) (iv_v0 (by decide) tq_108 rfl) em_293 (Nat.le_of_ble_eq_true rfl) rfl (tbrd_givingOne w (d - 1) (by omega) _) (fun r15 s15 => ?_)
      exact e_reti em_291 (ce_at ce_291 37 rfl)
    refine e_sw em_291 109 (ce_at ce_291 6 rfl) (sw_out g3 (by omega)) rfl ?_
    refine e_op 110 em_291 (ce_at ce_291 38 rfl) rfl rfl ?_
    exact e_reti em_291 (ce_at ce_291 39 rfl)
  · refine e_op 8 em_291 (ce_at ce_291 3 rfl) rfl rfl ?_
    exact e_reti em_291 (ce_at ce_291 4 rfl)
theorem fbrd_measure (v1 : Int) (s : iS) : Fm Prod.snd L_brd_measure G_brd_measure s (brd_measure v1 s) := fm_gd (fm_if (fm_some md_refl) (fm_gd (fm_if (fm_some md_refl) (fm_if (fm_some md_refl) (fm_if (fm_bd (fm_sub (fbrd_inPins _) (mem_sub_L rfl) (mem_sub_F rfl)) (fun r7 s7 => fm_some md_refl)) (fm_if (fm_bd (fm_sub (fbrd_outPins _) (mem_sub_L rfl) (mem_sub_F rfl)) (fun r9 s9 => fm_some md_refl)) (fm_if (fm_some md_refl) (fm_if (fm_bd (fm_sub (fbrd_longestChain _) (mem_sub_L rfl) (mem_sub_F rfl)) (fun r12 s12 => fm_some md_refl)) (fm_if (fm_some md_refl) (fm_if (fm_bd (fm_sub (fbrd_givingOne _) (mem_sub_L rfl) (mem_sub_F rfl)) (fun r15 s15 => fm_some md_refl)) (fm_some md_refl)))))))))))
/-! x_gates -/
def L_x_gates : List Nat := []
def G_x_gates : List (Nat × Nat) := []
noncomputable def x_gates (v1 : Int) (s : iS) : Option (Int × iS) := bd (brd_measure v1 s) (fun r1 s1 => some (r1, s1))
theorem tx_gates (w : ev_W) (d : Nat) (hd : 3 ≤ d) (v1 : Int) (s : iS) : Ew hT w d 290 0 [(0, .ref (tb_nK + 0)), (1, iv v1)] [] s (Ci hT) (x_gates v1 s) := by
  unfold x_gates
  refine e_mv 1 em_290 (ce_at ce_290 0 rfl) rfl rfl ?_
  refine e_getr 4 em_290 (ce_at ce_290 1 rfl) tq_0 rfl rfl ?_
  refine e_mv 5 em_290 (ce_at ce_290 2 rfl) rfl rfl ?_
  refine e_ivi 8 em_290 (ce_at ce_290 3 rfl) (by omega) (iv_v1 (by decide) tq_108 rfl) em_291 (Nat.le_of_ble_eq_true rfl) rfl (tbrd_measure w (d - 1) (by omega) _ _) (fun r1 s1 => ?_)
  exact e_reti em_290 (ce_at ce_290 4 rfl)
theorem fx_gates (v1 : Int) (s : iS) : Fm Prod.snd L_x_gates G_x_gates s (x_gates v1 s) := fm_bd (fm_sub (fbrd_measure _ _) (mem_sub_L rfl) (mem_sub_F rfl)) (fun r1 s1 => fm_some md_refl)
/-! m_lay -/
def L_m_lay : List Nat := [122]
def G_m_lay : List (Nat × Nat) := [(121, 1)]
def m_lay_2C (w : ev_W) (d : Nat) (v1 : Int) : (Int × iS) ⊕ (iS) → am_E → Prop := fun q r => q.elim (fun l => ev w d 297 2 ((fun l => [(0, .ref (tb_nK + 121)), (1, iv v1), (2, iv (l.1))]) l) [] (hT ((fun l => l.2) l)) r) (fun e => (fun e r => ev w d 297 37 [(0, .ref (tb_nK + 121))] [] (hT (e)) r) e r)
noncomputable def m_lay_2b (v1 : Int) (v2 : Int) (s : iS) : Option ((Int × iS) ⊕ (iS)) := gd (rg v2) (if 4 ≤ v2 then some (.inr s) else gd (0 ≤ ((s 121 1) + v2) ∧ ((s 121 1) + v2) < 4000) (lt' (up s 122 ((s 121 1) + v2).toNat (i_and (i_shr v1 (24 - (8 * v2))) 255)) (fun s4 => some (.inl ((v2 + 1), s4)))))
theorem tm_lay_2b (w : ev_W) (d : Nat) (hd : 0 ≤ d) (v1 : Int) (v2 : Int) (s : iS) : Ew hT w d 297 2 [(0, .ref (tb_nK + 121)), (1, iv v1), (2, iv v2)] [] s (m_lay_2C w d v1) (m_lay_2b v1 v2 s) := by
  unfold m_lay_2b
  refine e_mv 3 em_297 (ce_at ce_297 2 rfl) rfl rfl ?_
  refine e_op 4 em_297 (ce_at ce_297 3 rfl) rfl rfl ?_
  refine e_gd fun g1 => ?_
  refine e_cmge 37 7 em_297 rfl rfl (ce_at ce_297 4 rfl) g1 (by decide) (fun h2 => ?_) (fun h2 => ?_)
  · refine e_pk [0] rfl rfl ?_
    exact e_out (fun r h => h)
  · refine e_mv 8 em_297 (ce_at ce_297 5 rfl) rfl rfl ?_
    refine e_getr 11 em_297 (ce_at ce_297 6 rfl) tq_121 rfl rfl ?_
    refine e_mv 12 em_297 (ce_at ce_297 7 rfl) rfl rfl ?_
    refine e_get 15 em_297 (ce_at ce_297 8 rfl) tq_121 rfl rfl ?_
    refine e_mv 16 em_297 (ce_at ce_297 9 rfl) rfl rfl ?_
    refine e_iadd 17 em_297 rfl (ce_at ce_297 10 rfl) ?_
    refine e_mv 18 em_297 (ce_at ce_297 11 rfl) rfl rfl ?_
    refine e_bip 20 em_297 (ce_at ce_297 12 rfl) (by decide) rfl ?_
    refine e_bip 22 em_297 (ce_at ce_297 13 rfl) (by decide) rfl ?_
    refine e_mv 23 em_297 (ce_at ce_297 14 rfl) rfl rfl ?_
    refine e_imul 24 em_297 rfl (ce_at ce_297 15 rfl) ?_
    refine e_isub 25 em_297 rfl (ce_at ce_297 16 rfl) ?_
    refine e_ishr 26 em_297 rfl (ce_at ce_297 17 rfl) ?_
    refine e_sip 29 em_297 (ce_at ce_297 18 rfl) (by decide) rfl ?_
    refine e_iand 30 em_297 rfl (ce_at ce_297 19 rfl) ?_
    refine e_gd fun g3 => ?_
    refine e_ist 31 em_297 (ce_at ce_297 20 rfl) tq_122 (by decide) g3 rfl (fun s4 => ?_)
    refine e_iinc 34 em_297 (ce_at ce_297 21 rfl) rfl (by decide) rfl ?_
    refine e_goto em_297 2 (ce_at ce_297 22 rfl) rfl ?_
    refine e_pk [0, 1, 2] rfl rfl ?_
    exact e_out (fun r h => h)
theorem fm_lay_2b (v1 : Int) (v2 : Int) (s : iS) : Fm (fun r : (Int × iS) ⊕ (iS) => r.elim (fun l => l.2) (fun e => e)) L_m_lay G_m_lay s (m_lay_2b v1 v2 s) := fm_gd (fm_if (fm_some md_refl) (fm_gd (fm_lt (md_upL (mem_L rfl)) (fun s4 => fm_some md_refl))))
noncomputable def m_lay_37 (s : iS) : Option (Int × iS) := lt' (up s 121 1 ((s 121 1) + 4)) (fun s1 => some (0, s1))
theorem tm_lay_37 (w : ev_W) (d : Nat) (hd : 0 ≤ d) (s : iS) : Ew hT w d 297 37 [(0, .ref (tb_nK + 121))] [] s (Cv hT) (m_lay_37 s) := by
  unfold m_lay_37
  refine e_mv 38 em_297 (ce_at ce_297 23 rfl) rfl rfl ?_
  refine e_mv 39 em_297 (ce_at ce_297 24 rfl) rfl rfl ?_
  refine e_get 42 em_297 (ce_at ce_297 25 rfl) tq_121 rfl rfl ?_
  refine e_op 43 em_297 (ce_at ce_297 26 rfl) rfl rfl ?_
  refine e_iadd 44 em_297 rfl (ce_at ce_297 27 rfl) ?_
  refine e_put 47 em_297 (ce_at ce_297 28 rfl) tq_121 rfl rfl rfl (fun s1 => ?_)
  exact e_retv em_297 (ce_at ce_297 29 rfl)
theorem fm_lay_37 (s : iS) : Fm Prod.snd L_m_lay G_m_lay s (m_lay_37 s) := fm_lt (md_upF (mem_F rfl)) (fun s1 => fm_some md_refl)
noncomputable def m_lay_2 (v1 : Int) (v2 : Int) (s : iS) : Option (Int × iS) := (lp (L := Int × iS) (E := iS) (fun l => m_lay_2b v1 (l.1) (l.2)) (v2, s)).bind (fun e => m_lay_37 e)
theorem tm_lay_2 (w : ev_W) (d : Nat) (hd : 0 ≤ d) (v1 : Int) (v2 : Int) (s : iS) : Ew hT w d 297 2 [(0, .ref (tb_nK + 121)), (1, iv v1), (2, iv v2)] [] s (Cv hT) (m_lay_2 v1 v2 s) := by
  unfold m_lay_2
  refine e_lp (L := Int × iS) (E := iS) (LO := fun l => [(0, .ref (tb_nK + 121)), (1, iv v1), (2, iv (l.1))]) (LS := fun l => l.2) (CE := fun e r => ev w d 297 37 [(0, .ref (tb_nK + 121))] [] (hT (e)) r) (fun l => tm_lay_2b w d hd _ _ _) ?_ (v2, s)
  intro e
  show Ew hT w d 297 37 [(0, .ref (tb_nK + 121))] [] e (Cv hT) _
  refine e_pk [0] rfl rfl ?_
  exact tm_lay_37 w d hd _
theorem fm_lay_2 (v1 : Int) (v2 : Int) (s : iS) : Fm Prod.snd L_m_lay G_m_lay s (m_lay_2 v1 v2 s) := by
  unfold m_lay_2
  refine fm_lp (A := Int × iS) (E := iS) (LS := fun l => l.2) (LE := fun e => e) ?_ ?_ (v2, s)
  · exact fun l => fm_lay_2b _ _ _
  · exact (fun e => fm_lay_37 _)
noncomputable def m_lay (v1 : Int) (s : iS) : Option (Int × iS) := m_lay_2 v1 0 s
theorem tm_lay (w : ev_W) (d : Nat) (hd : 0 ≤ d) (v1 : Int) (s : iS) : Ew hT w d 297 0 [(0, .ref (tb_nK + 121)), (1, iv v1)] [] s (Cv hT) (m_lay v1 s) := by
  unfold m_lay
  refine e_op 1 em_297 (ce_at ce_297 0 rfl) rfl rfl ?_
  refine e_mv 2 em_297 (ce_at ce_297 1 rfl) rfl rfl ?_
  refine e_pk [0, 1, 2] rfl rfl ?_
  exact tm_lay_2 w d hd _ _ _
theorem fm_lay (v1 : Int) (s : iS) : Fm Prod.snd L_m_lay G_m_lay s (m_lay v1 s) := fm_lay_2 _ _ _
/-! m_feed -/
def L_m_feed : List Nat := [122]
def G_m_feed : List (Nat × Nat) := [(121, 1)]
noncomputable def m_feed (v1 : Int) (v2 : Int) (v3 : Int) (v4 : Int) (v5 : Int) (s : iS) : Option (Int × iS) := gd (rg ((s 121 1) + 20)) (if ((s 121 1) + 20) ≤ 4000 then bd (m_lay v1 s) (fun _ s3 => bd (m_lay v2 s3) (fun _ s4 => bd (m_lay v3 s4) (fun _ s5 => bd (m_lay v4 s5) (fun _ s6 => bd (m_lay v5 s6) (fun _ s7 => some (1, s7)))))) else some (0, s))
theorem tm_feed (w : ev_W) (d : Nat) (hd : 1 ≤ d) (v1 : Int) (v2 : Int) (v3 : Int) (v4 : Int) (v5 : Int) (s : iS) : Ew hT w d 296 0 [(0, .ref (tb_nK + 121)), (1, iv v1), (2, iv v2), (3, iv v3), (4, iv v4), (5, iv v5)] [] s (Ci hT) (m_feed v1 v2 v3 v4 v5 s) := by
  unfold m_feed
  refine e_mv 1 em_296 (ce_at ce_296 0 rfl) rfl rfl ?_
  refine e_get 4 em_296 (ce_at ce_296 1 rfl) tq_121 rfl rfl ?_
  refine e_bip 6 em_296 (ce_at ce_296 2 rfl) (by decide) rfl ?_
  refine e_iadd 7 em_296 rfl (ce_at ce_296 3 rfl) ?_
  refine e_sip 10 em_296 (ce_at ce_296 4 rfl) (by decide) rfl ?_
  refine e_gd fun g1 => ?_
  refine e_cmle 15 13 em_296 rfl rfl (ce_at ce_296 5 rfl) g1 (by decide) (fun h2 => ?_) (fun h2 => ?_)
  · refine e_mv 16 em_296 (ce_at ce_296 8 rfl) rfl rfl ?_
    refine e_mv 17 em_296 (ce_at ce_296 9 rfl) rfl rfl ?_
    refine e_ivv 20 em_296 (ce_at ce_296 10 rfl) (by omega) (iv_v1 (by decide) tq_121 rfl) em_297 (Nat.le_of_ble_eq_true rfl) rfl (tm_lay w (d - 1) (by omega) _ _) (fun r3 s3 => ?_)
    refine e_mv 21 em_296 (ce_at ce_296 11 rfl) rfl rfl ?_
    refine e_mv 22 em_296 (ce_at ce_296 12 rfl) rfl rfl ?_
    refine e_ivv 25 em_296 (ce_at ce_296 13 rfl) (by omega) (iv_v1 (by decide) tq_121 rfl) em_297 (Nat.le_of_ble_eq_true rfl) rfl (tm_lay w (d - 1) (by omega) _ _) (fun r4 s4 => ?_)
    refine e_mv 26 em_296 (ce_at ce_296 14 rfl) rfl rfl ?_
    refine e_mv 27 em_296 (ce_at ce_296 15 rfl) rfl rfl ?_
    refine e_ivv 30 em_296 (ce_at ce_296 16 rfl) (by omega) (iv_v1 (by decide) tq_121 rfl) em_297 (Nat.le_of_ble_eq_true rfl) rfl (tm_lay w (d - 1) (by omega) _ _) (fun r5 s5 => ?_)
    refine e_mv 31 em_296 (ce_at ce_296 17 rfl) rfl rfl ?_
    refine e_mv 33 em_296 (ce_at ce_296 18 rfl) rfl rfl ?_
    refine e_ivv 36 em_296 (ce_at ce_296 19 rfl) (by omega) (iv_v1 (by decide) tq_121 rfl) em_297 (Nat.le_of_ble_eq_true rfl) rfl (tm_lay w (d - 1) (by omega) _ _) (fun r6 s6 => ?_)
    refine e_mv 37 em_296 (ce_at ce_296 20 rfl) rfl rfl ?_
    refine e_mv 39 em_296 (ce_at ce_296 21 rfl) rfl rfl ?_
    refine e_ivv 42 em_296 (ce_at ce_296 22 rfl) (by omega) (iv_v1 (by decide) tq_121 rfl) em_297 (Nat.le_of_ble_eq_true rfl) rfl (tm_lay w (d - 1) (by omega) _ _) (fun r7 s7 => ?_)
    refine e_op 43 em_296 (ce_at ce_296 23 rfl) rfl rfl ?_
    exact e_retz em_296 (ce_at ce_296 24 rfl) (by decide)
  · refine e_op 14 em_296 (ce_at ce_296 6 rfl) rfl rfl ?_
    exact e_retz em_296 (ce_at ce_296 7 rfl) (by decide)
theorem fm_feed (v1 : Int) (v2 : Int) (v3 : Int) (v4 : Int) (v5 : Int) (s : iS) : Fm Prod.snd L_m_feed G_m_feed s (m_feed v1 v2 v3 v4 v5 s) := fm_gd (fm_if (fm_bd (fm_sub (fm_lay _ _) (mem_sub_L rfl) (mem_sub_F rfl)) (fun r3 s3 => fm_bd (fm_sub (fm_lay _ _) (mem_sub_L rfl) (mem_sub_F rfl)) (fun r4 s4 => fm_bd (fm_sub (fm_lay _ _) (mem_sub_L rfl) (mem_sub_F rfl)) (fun r5 s5 => fm_bd (fm_sub (fm_lay _ _) (mem_sub_L rfl) (mem_sub_F rfl)) (fun r6 s6 => fm_bd (fm_sub (fm_lay _ _) (mem_sub_L rfl) (mem_sub_F rfl)) (fun r7 s7 => fm_some md_refl)))))) (fm_some md_refl))
/-! m_takes -/
def L_m_takes : List Nat := [123]
def G_m_takes : List (Nat × Nat) := [(121, 1), (121, 3)]
def m_takes_21C (w : ev_W) (d : Nat) (v1 : Int) : (Int × iS) ⊕ (iS) → am_E → Prop := fun q r => q.elim (fun l => ev w d 299 21 ((fun l => [(0, .ref (tb_nK + 121)), (1, iv v1), (2, iv (l.1))]) l) [] (hT ((fun l => l.2) l)) r) (fun e => (fun e r => ev w d 299 44 [(0, .ref (tb_nK + 121))] [] (hT (e)) r) e r)
noncomputable def m_takes_21b (v1 : Int) (v2 : Int) (s : iS) : Option ((Int × iS) ⊕ (iS)) := gd (rg v2) (gd (rg v1) (if v1 ≤ v2 then some (.inr s) else gd (0 ≤ v2 ∧ v2 < 4000) (lt' (up s 123 v2.toNat (s 122 v2.toNat)) (fun s5 => some (.inl ((v2 + 1), s5))))))
theorem tm_takes_21b (w : ev_W) (d : Nat) (hd : 0 ≤ d) (v1 : Int) (v2 : Int) (s : iS) : Ew hT w d 299 21 [(0, .ref (tb_nK + 121)), (1, iv v1), (2, iv v2)] [] s (m_takes_21C w d v1) (m_takes_21b v1 v2 s) := by
  unfold m_takes_21b
  refine e_mv 22 em_299 (ce_at ce_299 13 rfl) rfl rfl ?_
  refine e_mv 23 em_299 (ce_at ce_299 14 rfl) rfl rfl ?_
  refine e_gd fun g1 => ?_
  refine e_gd fun g2 => ?_
  refine e_cmge 44 26 em_299 rfl rfl (ce_at ce_299 15 rfl) g1 g2 (fun h3 => ?_) (fun h3 => ?_)
  · refine e_pk [0] rfl rfl ?_
    exact e_out (fun r h => h)
  · refine e_mv 27 em_299 (ce_at ce_299 16 rfl) rfl rfl ?_
    refine e_getr 30 em_299 (ce_at ce_299 17 rfl) tq_121 rfl rfl ?_
    refine e_mv 31 em_299 (ce_at ce_299 18 rfl) rfl rfl ?_
    refine e_mv 32 em_299 (ce_at ce_299 19 rfl) rfl rfl ?_
    refine e_getr 35 em_299 (ce_at ce_299 20 rfl) tq_121 rfl rfl ?_
    refine e_mv 36 em_299 (ce_at ce_299 21 rfl) rfl rfl ?_
    refine e_gd fun g4 => ?_
    refine e_ild 37 em_299 (ce_at ce_299 22 rfl) tq_122 (by decide) g4 rfl ?_
    refine e_ist 38 em_299 (ce_at ce_299 23 rfl) tq_123 (by decide) g4 rfl (fun s5 => ?_)
    refine e_iinc 41 em_299 (ce_at ce_299 24 rfl) rfl (by decide) rfl ?_
    refine e_goto em_299 21 (ce_at ce_299 25 rfl) rfl ?_
    refine e_pk [0, 1, 2] rfl rfl ?_
    exact e_out (fun r h => h)
theorem fm_takes_21b (v1 : Int) (v2 : Int) (s : iS) : Fm (fun r : (Int × iS) ⊕ (iS) => r.elim (fun l => l.2) (fun e => e)) L_m_takes G_m_takes s (m_takes_21b v1 v2 s) := fm_gd (fm_gd (fm_if (fm_some md_refl) (fm_gd (fm_lt (md_upL (mem_L rfl)) (fun s5 => fm_some md_refl)))))
noncomputable def m_takes_44 (s : iS) : Option (Int × iS) := lt' (up s 121 1 0) (fun s1 => some (1, s1))
theorem tm_takes_44 (w : ev_W) (d : Nat) (hd : 0 ≤ d) (s : iS) : Ew hT w d 299 44 [(0, .ref (tb_nK + 121))] [] s (Ci hT) (m_takes_44 s) := by
  unfold m_takes_44
  refine e_mv 45 em_299 (ce_at ce_299 26 rfl) rfl rfl ?_
  refine e_op 46 em_299 (ce_at ce_299 27 rfl) rfl rfl ?_
  refine e_put 49 em_299 (ce_at ce_299 28 rfl) tq_121 rfl rfl rfl (fun s1 => ?_)
  refine e_op 50 em_299 (ce_at ce_299 29 rfl) rfl rfl ?_
  exact e_retz em_299 (ce_at ce_299 30 rfl) (by decide)
theorem fm_takes_44 (s : iS) : Fm Prod.snd L_m_takes G_m_takes s (m_takes_44 s) := fm_lt (md_upF (mem_F rfl)) (fun s1 => fm_some md_refl)
noncomputable def m_takes_21 (v1 : Int) (v2 : Int) (s : iS) : Option (Int × iS) := (lp (L := Int × iS) (E := iS) (fun l => m_takes_21b v1 (l.1) (l.2)) (v2, s)).bind (fun e => m_takes_44 e)
theorem tm_takes_21 (w : ev_W) (d : Nat) (hd : 0 ≤ d) (v1 : Int) (v2 : Int) (s : iS) : Ew hT w d 299 21 [(0, .ref (tb_nK + 121)), (1, iv v1), (2, iv v2)] [] s (Ci hT) (m_takes_21 v1 v2 s) := by
  unfold m_takes_21
  refine e_lp (L := Int × iS) (E := iS) (LO := fun l => [(0, .ref (tb_nK + 121)), (1, iv v1), (2, iv (l.1))]) (LS := fun l => l.2) (CE := fun e r => ev w d 299 44 [(0, .ref (tb_nK + 121))] [] (hT (e)) r) (fun l => tm_takes_21b w d hd _ _ _) ?_ (v2, s)
  intro e
  show Ew hT w d 299 44 [(0, .ref (tb_nK + 121))] [] e (Ci hT) _
  refine e_pk [0] rfl rfl ?_
  exact tm_takes_44 w d hd _
theorem fm_takes_21 (v1 : Int) (v2 : Int) (s : iS) : Fm Prod.snd L_m_takes G_m_takes s (m_takes_21 v1 v2 s) := by
  unfold m_takes_21
  refine fm_lp (A := Int × iS) (E := iS) (LS := fun l => l.2) (LE := fun e => e) ?_ ?_ (v2, s)
  · exact fun l => fm_takes_21b _ _ _
  · exact (fun e => fm_takes_44 _)
noncomputable def m_takes (v1 : Int) (s : iS) : Option (Int × iS) := gd (rg v1) (if v1 < 0 then some (0, s) else gd (rg (s 121 1)) (if v1 ≤ (s 121 1) then lt' (up s 121 3 v1) (fun s5 => m_takes_21 v1 0 s5) else some (0, s)))
theorem tm_takes (w : ev_W) (d : Nat) (hd : 0 ≤ d) (v1 : Int) (s : iS) : Ew hT w d 299 0 [(0, .ref (tb_nK + 121)), (1, iv v1)] [] s (Ci hT) (m_takes v1 s) := by
  unfold m_takes
  refine e_mv 1 em_299 (ce_at ce_299 0 rfl) rfl rfl ?_
  refine e_gd fun g1 => ?_
  refine e_iflt 12 4 em_299 rfl rfl (ce_at ce_299 1 rfl) g1 (fun h2 => ?_) (fun h2 => ?_)
  · refine e_op 13 em_299 (ce_at ce_299 6 rfl) rfl rfl ?_
    exact e_retz em_299 (ce_at ce_299 7 rfl) (by decide)
  · refine e_mv 5 em_299 (ce_at ce_299 2 rfl) rfl rfl ?_
    refine e_mv 6 em_299 (ce_at ce_299 3 rfl) rfl rfl ?_
    refine e_get 9 em_299 (ce_at ce_299 4 rfl) tq_121 rfl rfl ?_
    refine e_gd fun g3 => ?_
    refine e_cmle 14 12 em_299 rfl rfl (ce_at ce_299 5 rfl) g1 g3 (fun h4 => ?_) (fun h4 => ?_)
    · refine e_mv 15 em_299 (ce_at ce_299 8 rfl) rfl rfl ?_
      refine e_mv 16 em_299 (ce_at ce_299 9 rfl) rfl rfl ?_
      refine e_put 19 em_299 (ce_at ce_299 10 rfl) tq_121 rfl rfl rfl (fun s5 => ?_)
      refine e_op 20 em_299 (ce_at ce_299 11 rfl) rfl rfl ?_
      refine e_mv 21 em_299 (ce_at ce_299 12 rfl) rfl rfl ?_
      refine e_pk [0, 1, 2] rfl rfl ?_
      exact tm_takes_21 w d hd _ _ _
    · refine e_op 13 em_299 (ce_at ce_299 6 rfl) rfl rfl ?_
      exact e_retz em_299 (ce_at ce_299 7 rfl) (by decide)
theorem fm_takes (v1 : Int) (s : iS) : Fm Prod.snd L_m_takes G_m_takes s (m_takes v1 s) := fm_gd (fm_if (fm_some md_refl) (fm_gd (fm_if (fm_lt (md_upF (mem_F rfl)) (fun s5 => fm_takes_21 _ _ _)) (fm_some md_refl))))
/-! m_at -/
def L_m_at : List Nat := []
def G_m_at : List (Nat × Nat) := []
noncomputable def m_at (v1 : Int) (s : iS) : Option (Int × iS) := gd (rg v1) (gd (rg (s 121 3)) (if (s 121 3) ≤ v1 then some ((-1), s) else gd (0 ≤ v1 ∧ v1 < 4000) (some ((s 123 v1.toNat), s))))
theorem tm_at (w : ev_W) (d : Nat) (hd : 0 ≤ d) (v1 : Int) (s : iS) : Ew hT w d 302 0 [(0, .ref (tb_nK + 121)), (1, iv v1)] [] s (Ci hT) (m_at v1 s) := by
  unfold m_at
  refine e_mv 1 em_302 (ce_at ce_302 0 rfl) rfl rfl ?_
  refine e_mv 2 em_302 (ce_at ce_302 1 rfl) rfl rfl ?_
  refine e_get 5 em_302 (ce_at ce_302 2 rfl) tq_121 rfl rfl ?_
  refine e_gd fun g1 => ?_
  refine e_gd fun g2 => ?_
  refine e_cmge 17 8 em_302 rfl rfl (ce_at ce_302 3 rfl) g1 g2 (fun h3 => ?_) (fun h3 => ?_)
  · refine e_op 18 em_302 (ce_at ce_302 9 rfl) rfl rfl ?_
    exact e_reti em_302 (ce_at ce_302 10 rfl)
  · refine e_mv 9 em_302 (ce_at ce_302 4 rfl) rfl rfl ?_
    refine e_getr 12 em_302 (ce_at ce_302 5 rfl) tq_121 rfl rfl ?_
    refine e_mv 13 em_302 (ce_at ce_302 6 rfl) rfl rfl ?_
    refine e_gd fun g4 => ?_
    refine e_ild 14 em_302 (ce_at ce_302 7 rfl) tq_123 (by decide) g4 rfl ?_
    refine e_goto em_302 18 (ce_at ce_302 8 rfl) rfl ?_
    exact e_reti em_302 (ce_at ce_302 10 rfl)
theorem fm_at (v1 : Int) (s : iS) : Fm Prod.snd L_m_at G_m_at s (m_at v1 s) := fm_gd (fm_gd (fm_if (fm_some md_refl) (fm_gd (fm_some md_refl))))
/-! m_skip -/
def L_m_skip : List Nat := []
def G_m_skip : List (Nat × Nat) := []
def m_skip_2C (w : ev_W) (d : Nat) : (Int × iS) ⊕ ((Int × iS) ⊕ ((Int × iS) ⊕ (Int × iS))) → am_E → Prop := fun q r => q.elim (fun l => ev w d 301 2 ((fun l => [(0, .ref (tb_nK + 121)), (2, iv (l.1))]) l) [] (hT ((fun l => l.2) l)) r) (fun e => (fun e r => e.elim (fun e => ev w d 301 167 [(2, iv (e.1))] [] (hT (e.2)) r) (fun e => e.elim (fun e => ev w d 301 180 [(2, iv (e.1))] [] (hT (e.2)) r) (fun e => ev w d 301 185 [(2, iv (e.1))] [] (hT (e.2)) r))) e r)
noncomputable def m_skip_41 (v2 : Int) (s : iS) : Option ((Int × iS) ⊕ ((Int × iS) ⊕ ((Int × iS) ⊕ (Int × iS)))) := some (.inl ((v2 + 1), s))
theorem tm_skip_41 (w : ev_W) (d : Nat) (hd : 1 ≤ d) (v2 : Int) (s : iS) : Ew hT w d 301 41 [(0, .ref (tb_nK + 121)), (2, iv v2)] [] s (m_skip_2C w d) (m_skip_41 v2 s) := by
  unfold m_skip_41
  refine e_mv 42 em_301 (ce_at ce_301 23 rfl) rfl rfl ?_
  refine e_op 43 em_301 (ce_at ce_301 24 rfl) rfl rfl ?_
  refine e_iadd 44 em_301 rfl (ce_at ce_301 25 rfl) ?_
  refine e_mv 45 em_301 (ce_at ce_301 26 rfl) rfl rfl ?_
  refine e_goto em_301 182 (ce_at ce_301 27 rfl) rfl ?_
  refine e_goto em_301 2 (ce_at ce_301 104 rfl) rfl ?_
  refine e_pk [0, 2] rfl rfl ?_
  exact e_out (fun r h => h)
theorem fm_skip_41 (v2 : Int) (s : iS) : Fm (fun r : (Int × iS) ⊕ ((Int × iS) ⊕ ((Int × iS) ⊕ (Int × iS))) => r.elim (fun l => l.2) (fun e => e.elim (fun e => e.2) (fun e => e.elim (fun e => e.2) (fun e => e.2)))) L_m_skip G_m_skip s (m_skip_41 v2 s) := fm_some md_refl
def m_skip_115C (w : ev_W) (d : Nat) (v2 : Int) : (Int × iS) ⊕ (Int × iS) → am_E → Prop := fun q r => q.elim (fun l => ev w d 301 115 ((fun l => [(0, .ref (tb_nK + 121)), (2, iv v2), (4, iv (l.1))]) l) [] (hT ((fun l => l.2) l)) r) (fun e => (fun e r => ev w d 301 158 [(0, .ref (tb_nK + 121)), (2, iv v2), (4, iv (e.1))] [] (hT (e.2)) r) e r)
noncomputable def m_skip_115b (v2 : Int) (v4 : Int) (s : iS) : Option ((Int × iS) ⊕ (Int × iS)) := gd (rg v4) (gd (rg (s 121 3)) (if (s 121 3) ≤ v4 then some (.inr (v4, s)) else gd (0 ≤ v4 ∧ v4 < 4000) (gd (rg (s 123 v4.toNat)) (if (s 123 v4.toNat) = 42 then bd (m_at (v4 + 1) s) (fun r7 s7 => gd (rg r7) (if r7 = 47 then some (.inr (v4, s7)) else some (.inl ((v4 + 1), s7)))) else some (.inl ((v4 + 1), s))))))
theorem tm_skip_115b (w : ev_W) (d : Nat) (hd : 1 ≤ d) (v2 : Int) (v4 : Int) (s : iS) : Ew hT w d 301 115 [(0, .ref (tb_nK + 121)), (2, iv v2), (4, iv v4)] [] s (m_skip_115C w d v2) (m_skip_115b v2 v4 s) := by
  unfold m_skip_115b
  refine e_mv 117 em_301 (ce_at ce_301 67 rfl) rfl rfl ?_
  refine e_mv 118 em_301 (ce_at ce_301 68 rfl) rfl rfl ?_
  refine e_get 121 em_301 (ce_at ce_301 69 rfl) tq_121 rfl rfl ?_
  refine e_gd fun g1 => ?_
  refine e_gd fun g2 => ?_
  refine e_cmge 158 124 em_301 rfl rfl (ce_at ce_301 70 rfl) g1 g2 (fun h3 => ?_) (fun h3 => ?_)
  · refine e_pk [0, 2, 4] rfl rfl ?_
    exact e_out (fun r h => h)
  · refine e_mv 125 em_301 (ce_at ce_301 71 rfl) rfl rfl ?_
    refine e_getr 128 em_301 (ce_at ce_301 72 rfl) tq_121 rfl rfl ?_
    refine e_mv 130 em_301 (ce_at ce_301 73 rfl) rfl rfl ?_
    refine e_gd fun g4 => ?_
    refine e_ild 131 em_301 (ce_at ce_301 74 rfl) tq_123 (by decide) g4 rfl ?_
    refine e_bip 133 em_301 (ce_at ce_301 75 rfl) (by decide) rfl ?_
    refine e_gd fun g5 => ?_
    refine e_cmne 149 136 em_301 rfl rfl (ce_at ce_301 76 rfl) g5 (by decide) (fun h6 => ?_) (fun h6 => ?_)
    · refine e_mv 151 em_301 (ce_at ce_301 84 rfl) rfl rfl ?_
      refine e_op 152 em_301 (ce_at ce_301 85 rfl) rfl rfl ?_
      refine e_iadd 153 em_301 rfl (ce_at ce_301 86 rfl) ?_
      refine e_mv 155 em_301 (ce_at ce_301 87 rfl) rfl rfl ?_
      refine e_goto em_301 115 (ce_at ce_301 88 rfl) rfl ?_
      refine e_pk [0, 2, 4] rfl rfl ?_
      exact e_out (fun r h => h)
    · refine e_mv 137 em_301 (ce_at ce_301 77 rfl) rfl rfl ?_
      refine e_mv 139 em_301 (ce_at ce_301 78 rfl) rfl rfl ?_
      refine e_op 140 em_301 (ce_at ce_301 79 rfl) rfl rfl ?_
      refine e_iadd 141 em_301 rfl (ce_at ce_301 80 rfl) ?_
      refine e_ivi 144 em_301 (ce_at ce_301 81 rfl) (by omega) (iv_v1 (by decide) tq_121 rfl) em_302 (Nat.le_of_ble_eq_true rfl) rfl (tm_at w (d - 1) (by omega) _ _) (fun r7 s7 => ?_)
      refine e_bip 146 em_301 (ce_at ce_301 82 rfl) (by decide) rfl ?_
      refine e_gd fun g8 => ?_
      refine e_cmeq 158 149 em_301 rfl rfl (ce_at ce_301 83 rfl) g8 (by decide) (fun h9 => ?_) (fun h9 => ?_)
      · refine e_pk [0, 2, 4] rfl rfl ?_
        exact e_out (fun r h => h)
      · refine e_mv 151 em_301 (ce_at ce_301 84 rfl) rfl rfl ?_
        refine e_op 152 em_301 (ce_at ce_301 85 rfl) rfl rfl ?_
        refine e_iadd 153 em_301 rfl (ce_at ce_301 86 rfl) ?_
        refine e_mv 155 em_301 (ce_at ce_301 87 rfl) rfl rfl ?_
        refine e_goto em_301 115 (ce_at ce_301 88 rfl) rfl ?_
        refine e_pk [0, 2, 4] rfl rfl ?_
        exact e_out (fun r h => h)
theorem fm_skip_115b (v2 : Int) (v4 : Int) (s : iS) : Fm (fun r : (Int × iS) ⊕ (Int × iS) => r.elim (fun l => l.2) (fun e => e.2)) L_m_skip G_m_skip s (m_skip_115b v2 v4 s) := fm_gd (fm_gd (fm_if (fm_some md_refl) (fm_gd (fm_gd (fm_if (fm_bd (fm_sub (fm_at _ _) (mem_sub_L rfl) (mem_sub_F rfl)) (fun r7 s7 => fm_gd (fm_if (fm_some md_refl) (fm_some md_refl)))) (fm_some md_refl))))))
noncomputable def m_skip_158 (v2 : Int) (v4 : Int) (s : iS) : Option ((Int × iS) ⊕ ((Int × iS) ⊕ ((Int × iS) ⊕ (Int × iS)))) := gd (rg v4) (gd (rg (s 121 3)) (if v4 < (s 121 3) then some (.inl ((v4 + 2), s)) else some (.inr (.inl (v2, s)))))
theorem tm_skip_158 (w : ev_W) (d : Nat) (hd : 1 ≤ d) (v2 : Int) (v4 : Int) (s : iS) : Ew hT w d 301 158 [(0, .ref (tb_nK + 121)), (2, iv v2), (4, iv v4)] [] s (m_skip_2C w d) (m_skip_158 v2 v4 s) := by
  unfold m_skip_158
  refine e_mv 160 em_301 (ce_at ce_301 89 rfl) rfl rfl ?_
  refine e_mv 161 em_301 (ce_at ce_301 90 rfl) rfl rfl ?_
  refine e_get 164 em_301 (ce_at ce_301 91 rfl) tq_121 rfl rfl ?_
  refine e_gd fun g1 => ?_
  refine e_gd fun g2 => ?_
  refine e_cmlt 172 167 em_301 rfl rfl (ce_at ce_301 92 rfl) g1 g2 (fun h3 => ?_) (fun h3 => ?_)
  · refine e_mv 174 em_301 (ce_at ce_301 97 rfl) rfl rfl ?_
    refine e_op 175 em_301 (ce_at ce_301 98 rfl) rfl rfl ?_
    refine e_iadd 176 em_301 rfl (ce_at ce_301 99 rfl) ?_
    refine e_mv 177 em_301 (ce_at ce_301 100 rfl) rfl rfl ?_
    refine e_goto em_301 182 (ce_at ce_301 101 rfl) rfl ?_
    refine e_goto em_301 2 (ce_at ce_301 104 rfl) rfl ?_
    refine e_pk [0, 2] rfl rfl ?_
    exact e_out (fun r h => h)
  · refine e_pk [2] rfl rfl ?_
    exact e_out (fun r h => h)
theorem fm_skip_158 (v2 : Int) (v4 : Int) (s : iS) : Fm (fun r : (Int × iS) ⊕ ((Int × iS) ⊕ ((Int × iS) ⊕ (Int × iS))) => r.elim (fun l => l.2) (fun e => e.elim (fun e => e.2) (fun e => e.elim (fun e => e.2) (fun e => e.2)))) L_m_skip G_m_skip s (m_skip_158 v2 v4 s) := fm_gd (fm_gd (fm_if (fm_some md_refl) (fm_some md_refl)))
noncomputable def m_skip_115 (v2 : Int) (v4 : Int) (s : iS) : Option ((Int × iS) ⊕ ((Int × iS) ⊕ ((Int × iS) ⊕ (Int × iS)))) := (lp (L := Int × iS) (E := Int × iS) (fun l => m_skip_115b v2 (l.1) (l.2)) (v4, s)).bind (fun e => m_skip_158 v2 (e.1) (e.2))
theorem tm_skip_115 (w : ev_W) (d : Nat) (hd : 1 ≤ d) (v2 : Int) (v4 : Int) (s : iS) : Ew hT w d 301 115 [(0, .ref (tb_nK + 121)), (2, iv v2), (4, iv v4)] [] s (m_skip_2C w d) (m_skip_115 v2 v4 s) := by
  unfold m_skip_115
  refine e_lp (L := Int × iS) (E := Int × iS) (LO := fun l => [(0, .ref (tb_nK + 121)), (2, iv v2), (4, iv (l.1))]) (LS := fun l => l.2) (CE := fun e r => ev w d 301 158 [(0, .ref (tb_nK + 121)), (2, iv v2), (4, iv (e.1))] [] (hT (e.2)) r) (fun l => tm_skip_115b w d hd _ _ _) ?_ (v4, s)
  intro e
  show Ew hT w d 301 158 [(0, .ref (tb_nK + 121)), (2, iv v2), (4, iv (e.1))] [] e.2 (m_skip_2C w d) _
  refine e_pk [0, 2, 4] rfl rfl ?_
  exact tm_skip_158 w d hd _ _ _
theorem fm_skip_115 (v2 : Int) (v4 : Int) (s : iS) : Fm (fun r : (Int × iS) ⊕ ((Int × iS) ⊕ ((Int × iS) ⊕ (Int × iS))) => r.elim (fun l => l.2) (fun e => e.elim (fun e => e.2) (fun e => e.elim (fun e => e.2) (fun e => e.2)))) L_m_skip G_m_skip s (m_skip_115 v2 v4 s) := by
  unfold m_skip_115
  refine fm_lp (A := Int × iS) (E := Int × iS) (LS := fun l => l.2) (LE := fun e => e.2) ?_ ?_ (v4, s)
  · exact fun l => fm_skip_115b _ _ _
  · exact (fun e => fm_skip_158 _ _ _)
noncomputable def m_skip_92 (v2 : Int) (v3 : Int) (s : iS) : Option ((Int × iS) ⊕ ((Int × iS) ⊕ ((Int × iS) ⊕ (Int × iS)))) := gd (rg v3) (if v3 = 47 then bd (m_at (v2 + 1) s) (fun r3 s3 => gd (rg r3) (if r3 = 42 then m_skip_115 v2 (v2 + 2) s3 else some (.inr (.inr (.inl (v2, s3)))))) else some (.inr (.inr (.inl (v2, s)))))
theorem tm_skip_92 (w : ev_W) (d : Nat) (hd : 1 ≤ d) (v2 : Int) (v3 : Int) (s : iS) : Ew hT w d 301 92 [(0, .ref (tb_nK + 121)), (2, iv v2), (3, iv v3)] [] s (m_skip_2C w d) (m_skip_92 v2 v3 s) := by
  unfold m_skip_92
  refine e_mv 93 em_301 (ce_at ce_301 53 rfl) rfl rfl ?_
  refine e_bip 95 em_301 (ce_at ce_301 54 rfl) (by decide) rfl ?_
  refine e_gd fun g1 => ?_
  refine e_cmne 180 98 em_301 rfl rfl (ce_at ce_301 55 rfl) g1 (by decide) (fun h2 => ?_) (fun h2 => ?_)
  · refine e_pk [2] rfl rfl ?_
    exact e_out (fun r h => h)
  · refine e_mv 99 em_301 (ce_at ce_301 56 rfl) rfl rfl ?_
    refine e_mv 100 em_301 (ce_at ce_301 57 rfl) rfl rfl ?_
    refine e_op 101 em_301 (ce_at ce_301 58 rfl) rfl rfl ?_
    refine e_iadd 102 em_301 rfl (ce_at ce_301 59 rfl) ?_
    refine e_ivi 105 em_301 (ce_at ce_301 60 rfl) (by omega) (iv_v1 (by decide) tq_121 rfl) em_302 (Nat.le_of_ble_eq_true rfl) rfl (tm_at w (d - 1) (by omega) _ _) (fun r3 s3 => ?_)
    refine e_bip 107 em_301 (ce_at ce_301 61 rfl) (by decide) rfl ?_
    refine e_gd fun g4 => ?_
    refine e_cmne 180 110 em_301 rfl rfl (ce_at ce_301 62 rfl) g4 (by decide) (fun h5 => ?_) (fun h5 => ?_)
    · refine e_pk [2] rfl rfl ?_
      exact e_out (fun r h => h)
    · refine e_mv 111 em_301 (ce_at ce_301 63 rfl) rfl rfl ?_
      refine e_op 112 em_301 (ce_at ce_301 64 rfl) rfl rfl ?_
      refine e_iadd 113 em_301 rfl (ce_at ce_301 65 rfl) ?_
      refine e_mv 115 em_301 (ce_at ce_301 66 rfl) rfl rfl ?_
      refine e_pk [0, 2, 4] rfl rfl ?_
      exact tm_skip_115 w d hd _ _ _
theorem fm_skip_92 (v2 : Int) (v3 : Int) (s : iS) : Fm (fun r : (Int × iS) ⊕ ((Int × iS) ⊕ ((Int × iS) ⊕ (Int × iS))) => r.elim (fun l => l.2) (fun e => e.elim (fun e => e.2) (fun e => e.elim (fun e => e.2) (fun e => e.2)))) L_m_skip G_m_skip s (m_skip_92 v2 v3 s) := fm_gd (fm_if (fm_bd (fm_sub (fm_at _ _) (mem_sub_L rfl) (mem_sub_F rfl)) (fun r3 s3 => fm_gd (fm_if (fm_skip_115 _ _ _) (fm_some md_refl)))) (fm_some md_refl))
def m_skip_66C (w : ev_W) (d : Nat) : (Int × iS) ⊕ (Int × iS) → am_E → Prop := fun q r => q.elim (fun l => ev w d 301 66 ((fun l => [(0, .ref (tb_nK + 121)), (2, iv (l.1))]) l) [] (hT ((fun l => l.2) l)) r) (fun e => (fun e r => ev w d 301 182 [(0, .ref (tb_nK + 121)), (2, iv (e.1))] [] (hT (e.2)) r) e r)
noncomputable def m_skip_66b (v2 : Int) (s : iS) : Option ((Int × iS) ⊕ (Int × iS)) := gd (rg v2) (gd (rg (s 121 3)) (if (s 121 3) ≤ v2 then some (.inr (v2, s)) else gd (0 ≤ v2 ∧ v2 < 4000) (gd (rg (s 123 v2.toNat)) (if (s 123 v2.toNat) = 10 then some (.inr (v2, s)) else some (.inl ((v2 + 1), s))))))
theorem tm_skip_66b (w : ev_W) (d : Nat) (hd : 1 ≤ d) (v2 : Int) (s : iS) : Ew hT w d 301 66 [(0, .ref (tb_nK + 121)), (2, iv v2)] [] s (m_skip_66C w d) (m_skip_66b v2 s) := by
  unfold m_skip_66b
  refine e_mv 67 em_301 (ce_at ce_301 38 rfl) rfl rfl ?_
  refine e_mv 68 em_301 (ce_at ce_301 39 rfl) rfl rfl ?_
  refine e_get 71 em_301 (ce_at ce_301 40 rfl) tq_121 rfl rfl ?_
  refine e_gd fun g1 => ?_
  refine e_gd fun g2 => ?_
  refine e_cmge 182 74 em_301 rfl rfl (ce_at ce_301 41 rfl) g1 g2 (fun h3 => ?_) (fun h3 => ?_)
  · refine e_pk [0, 2] rfl rfl ?_
    exact e_out (fun r h => h)
  · refine e_mv 75 em_301 (ce_at ce_301 42 rfl) rfl rfl ?_
    refine e_getr 78 em_301 (ce_at ce_301 43 rfl) tq_121 rfl rfl ?_
    refine e_mv 79 em_301 (ce_at ce_301 44 rfl) rfl rfl ?_
    refine e_gd fun g4 => ?_
    refine e_ild 80 em_301 (ce_at ce_301 45 rfl) tq_123 (by decide) g4 rfl ?_
    refine e_bip 82 em_301 (ce_at ce_301 46 rfl) (by decide) rfl ?_
    refine e_gd fun g5 => ?_
    refine e_cmeq 182 85 em_301 rfl rfl (ce_at ce_301 47 rfl) g5 (by decide) (fun h6 => ?_) (fun h6 => ?_)
    · refine e_pk [0, 2] rfl rfl ?_
      exact e_out (fun r h => h)
    · refine e_mv 86 em_301 (ce_at ce_301 48 rfl) rfl rfl ?_
      refine e_op 87 em_301 (ce_at ce_301 49 rfl) rfl rfl ?_
      refine e_iadd 88 em_301 rfl (ce_at ce_301 50 rfl) ?_
      refine e_mv 89 em_301 (ce_at ce_301 51 rfl) rfl rfl ?_
      refine e_goto em_301 66 (ce_at ce_301 52 rfl) rfl ?_
      refine e_pk [0, 2] rfl rfl ?_
      exact e_out (fun r h => h)
theorem fm_skip_66b (v2 : Int) (s : iS) : Fm (fun r : (Int × iS) ⊕ (Int × iS) => r.elim (fun l => l.2) (fun e => e.2)) L_m_skip G_m_skip s (m_skip_66b v2 s) := fm_gd (fm_gd (fm_if (fm_some md_refl) (fm_gd (fm_gd (fm_if (fm_some md_refl) (fm_some md_refl))))))
noncomputable def m_skip_66 (v2 : Int) (s : iS) : Option ((Int × iS) ⊕ ((Int × iS) ⊕ ((Int × iS) ⊕ (Int × iS)))) := (lp (L := Int × iS) (E := Int × iS) (fun l => m_skip_66b (l.1) (l.2)) (v2, s)).bind (fun e => some (.inl (e.1, e.2)))
theorem tm_skip_66 (w : ev_W) (d : Nat) (hd : 1 ≤ d) (v2 : Int) (s : iS) : Ew hT w d 301 66 [(0, .ref (tb_nK + 121)), (2, iv v2)] [] s (m_skip_2C w d) (m_skip_66 v2 s) := by
  unfold m_skip_66
  refine e_lp (L := Int × iS) (E := Int × iS) (LO := fun l => [(0, .ref (tb_nK + 121)), (2, iv (l.1))]) (LS := fun l => l.2) (CE := fun e r => ev w d 301 182 [(0, .ref (tb_nK + 121)), (2, iv (e.1))] [] (hT (e.2)) r) (fun l => tm_skip_66b w d hd _ _) ?_ (v2, s)
  intro e
  show Ew hT w d 301 182 [(0, .ref (tb_nK + 121)), (2, iv (e.1))] [] e.2 (m_skip_2C w d) _
  refine e_goto em_301 2 (ce_at ce_301 104 rfl) rfl ?_
  refine e_pk [0, 2] rfl rfl ?_
  exact e_out (fun r h => h)
theorem fm_skip_66 (v2 : Int) (s : iS) : Fm (fun r : (Int × iS) ⊕ ((Int × iS) ⊕ ((Int × iS) ⊕ (Int × iS))) => r.elim (fun l => l.2) (fun e => e.elim (fun e => e.2) (fun e => e.elim (fun e => e.2) (fun e => e.2)))) L_m_skip G_m_skip s (m_skip_66 v2 s) := by
  unfold m_skip_66
  refine fm_lp (A := Int × iS) (E := Int × iS) (LS := fun l => l.2) (LE := fun e => e.2) ?_ ?_ (v2, s)
  · exact fun l => fm_skip_66b _ _
  · exact (fun e => fm_some md_refl)
noncomputable def m_skip_2b (v2 : Int) (s : iS) : Option ((Int × iS) ⊕ ((Int × iS) ⊕ ((Int × iS) ⊕ (Int × iS)))) := gd (rg v2) (gd (rg (s 121 3)) (if (s 121 3) ≤ v2 then some (.inr (.inr (.inr (v2, s)))) else gd (0 ≤ v2 ∧ v2 < 4000) (gd (rg (s 123 v2.toNat)) (if (s 123 v2.toNat) = 9 then m_skip_41 v2 s else if (s 123 v2.toNat) = 10 then m_skip_41 v2 s else if (s 123 v2.toNat) = 13 then m_skip_41 v2 s else if (s 123 v2.toNat) = 32 then m_skip_41 v2 s else if (s 123 v2.toNat) = 47 then bd (m_at (v2 + 1) s) (fun r11 s11 => gd (rg r11) (if r11 = 47 then m_skip_66 v2 s11 else m_skip_92 v2 (s 123 v2.toNat) s11)) else m_skip_92 v2 (s 123 v2.toNat) s))))
theorem tm_skip_2b (w : ev_W) (d : Nat) (hd : 1 ≤ d) (v2 : Int) (s : iS) : Ew hT w d 301 2 [(0, .ref (tb_nK + 121)), (2, iv v2)] [] s (m_skip_2C w d) (m_skip_2b v2 s) := by
  unfold m_skip_2b
  refine e_mv 3 em_301 (ce_at ce_301 2 rfl) rfl rfl ?_
  refine e_mv 4 em_301 (ce_at ce_301 3 rfl) rfl rfl ?_
  refine e_get 7 em_301 (ce_at ce_301 4 rfl) tq_121 rfl rfl ?_
  refine e_gd fun g1 => ?_
  refine e_gd fun g2 => ?_
  refine e_cmge 185 10 em_301 rfl rfl (ce_at ce_301 5 rfl) g1 g2 (fun h3 => ?_) (fun h3 => ?_)
  · refine e_pk [2] rfl rfl ?_
    exact e_out (fun r h => h)
  · refine e_mv 11 em_301 (ce_at ce_301 6 rfl) rfl rfl ?_
    refine e_getr 14 em_301 (ce_at ce_301 7 rfl) tq_121 rfl rfl ?_
    refine e_mv 15 em_301 (ce_at ce_301 8 rfl) rfl rfl ?_
    refine e_gd fun g4 => ?_
    refine e_ild 16 em_301 (ce_at ce_301 9 rfl) tq_123 (by decide) g4 rfl ?_
    refine e_mv 17 em_301 (ce_at ce_301 10 rfl) rfl rfl ?_
    refine e_mv 18 em_301 (ce_at ce_301 11 rfl) rfl rfl ?_
    refine e_bip 20 em_301 (ce_at ce_301 12 rfl) (by decide) rfl ?_
    refine e_gd fun g5 => ?_
    refine e_cmeq 41 23 em_301 rfl rfl (ce_at ce_301 13 rfl) g5 (by decide) (fun h6 => ?_) (fun h6 => ?_)
    · refine e_pk [0, 2] rfl rfl ?_
      exact tm_skip_41 w d hd _ _
    · refine e_mv 24 em_301 (ce_at ce_301 14 rfl) rfl rfl ?_
      refine e_bip 26 em_301 (ce_at ce_301 15 rfl) (by decide) rfl ?_
      refine e_cmeq 41 29 em_301 rfl rfl (ce_at ce_301 16 rfl) g5 (by decide) (fun h7 => ?_) (fun h7 => ?_)
      · refine e_pk [0, 2] rfl rfl ?_
        exact tm_skip_41 w d hd _ _
      · refine e_mv 30 em_301 (ce_at ce_301 17 rfl) rfl rfl ?_
        refine e_bip 32 em_301 (ce_at ce_301 18 rfl) (by decide) rfl ?_
        refine e_cmeq 41 35 em_301 rfl rfl (ce_at ce_301 19 rfl) g5 (by decide) (fun h8 => ?_) (fun h8 => ?_)
        · refine e_pk [0, 2] rfl rfl ?_
          exact tm_skip_41 w d hd _ _
        · refine e_mv 36 em_301 (ce_at ce_301 20 rfl) rfl rfl ?_
          refine e_bip 38 em_301 (ce_at ce_301 21 rfl) (by decide) rfl ?_
          refine e_cmne 48 41 em_301 rfl rfl (ce_at ce_301 22 rfl) g5 (by decide) (fun h9 => ?_) (fun h9 => ?_)
          · refine e_mv 49 em_301 (ce_at ce_301 28 rfl) rfl rfl ?_
            refine e_bip 51 em_301 (ce_at ce_301 29 rfl) (by decide) rfl ?_
            refine e_cmne 92 54 em_301 rfl rfl (ce_at ce_301 30 rfl) g5 (by decide) (fun h10 => ?_) (fun h10 => ?_)
            · refine e_pk [0, 2, 3] rfl rfl ?_
              exact tm_skip_92 w d hd _ _ _
            · refine e_mv 55 em_301 (ce_at ce_301 31 rfl) rfl rfl ?_
              refine e_mv 56 em_301 (ce_at ce_301 32 rfl) rfl rfl ?_
              refine e_op 57 em_301 (ce_at ce_301 33 rfl) rfl rfl ?_
              refine e_iadd 58 em_301 rfl (ce_at ce_301 34 rfl) ?_
              refine e_ivi 61 em_301 (ce_at ce_301 35 rfl) (by omega) (iv_v1 (by decide) tq_121 rfl) em_302 (Nat.le_of_ble_eq_true rfl) rfl (tm_at w (d - 1) (by omega) _ _) (fun r11 s11 => ?_)
              refine e_bip 63 em_301 (ce_at ce_301 36 rfl) (by decide) rfl ?_
              refine e_gd fun g12 => ?_
              refine e_cmne 92 66 em_301 rfl rfl (ce_at ce_301 37 rfl) g12 (by decide) (fun h13 => ?_) (fun h13 => ?_)
              · refine e_pk [0, 2, 3] rfl rfl ?_
                exact tm_skip_92 w d hd _ _ _
              · refine e_pk [0, 2] rfl rfl ?_
                exact tm_skip_66 w d hd _ _
          · refine e_pk [0, 2] rfl rfl ?_
            exact tm_skip_41 w d hd _ _
theorem fm_skip_2b (v2 : Int) (s : iS) : Fm (fun r : (Int × iS) ⊕ ((Int × iS) ⊕ ((Int × iS) ⊕ (Int × iS))) => r.elim (fun l => l.2) (fun e => e.elim (fun e => e.2) (fun e => e.elim (fun e => e.2) (fun e => e.2)))) L_m_skip G_m_skip s (m_skip_2b v2 s) := fm_gd (fm_gd (fm_if (fm_some md_refl) (fm_gd (fm_gd (fm_if (fm_skip_41 _ _) (fm_if (fm_skip_41 _ _) (fm_if (fm_skip_41 _ _) (fm_if (fm_skip_41 _ _) (fm_if (fm_bd (fm_sub (fm_at _ _) (mem_sub_L rfl) (mem_sub_F rfl)) (fun r11 s11 => fm_gd (fm_if (fm_skip_66 _ _) (fm_skip_92 _ _ _)))) (fm_skip_92 _ _ _))))))))))
noncomputable def m_skip_2 (v2 : Int) (s : iS) : Option (Int × iS) := (lp (L := Int × iS) (E := (Int × iS) ⊕ ((Int × iS) ⊕ (Int × iS))) (fun l => m_skip_2b (l.1) (l.2)) (v2, s)).bind (fun e => e.elim (fun e => some (((-2) - e.1), e.2)) (fun e => e.elim (fun e => some (e.1, e.2)) (fun e => some (e.1, e.2))))
theorem tm_skip_2 (w : ev_W) (d : Nat) (hd : 1 ≤ d) (v2 : Int) (s : iS) : Ew hT w d 301 2 [(0, .ref (tb_nK + 121)), (2, iv v2)] [] s (Ci hT) (m_skip_2 v2 s) := by
  unfold m_skip_2
  refine e_lp (L := Int × iS) (E := (Int × iS) ⊕ ((Int × iS) ⊕ (Int × iS))) (LO := fun l => [(0, .ref (tb_nK + 121)), (2, iv (l.1))]) (LS := fun l => l.2) (CE := fun e r => e.elim (fun e => ev w d 301 167 [(2, iv (e.1))] [] (hT (e.2)) r) (fun e => e.elim (fun e => ev w d 301 180 [(2, iv (e.1))] [] (hT (e.2)) r) (fun e => ev w d 301 185 [(2, iv (e.1))] [] (hT (e.2)) r))) (fun l => tm_skip_2b w d hd _ _) ?_ (v2, s)
  rintro (e | e | e)
  · show Ew hT w d 301 167 [(2, iv (e.1))] [] e.2 (Ci hT) _
    refine e_bip 169 em_301 (ce_at ce_301 93 rfl) (by decide) rfl ?_
    refine e_mv 170 em_301 (ce_at ce_301 94 rfl) rfl rfl ?_
    refine e_isub 171 em_301 rfl (ce_at ce_301 95 rfl) ?_
    exact e_reti em_301 (ce_at ce_301 96 rfl)
  · show Ew hT w d 301 180 [(2, iv (e.1))] [] e.2 (Ci hT) _
    refine e_mv 181 em_301 (ce_at ce_301 102 rfl) rfl rfl ?_
    exact e_reti em_301 (ce_at ce_301 103 rfl)
  · show Ew hT w d 301 185 [(2, iv (e.1))] [] e.2 (Ci hT) _
    refine e_mv 186 em_301 (ce_at ce_301 105 rfl) rfl rfl ?_
    exact e_reti em_301 (ce_at ce_301 106 rfl)
theorem fm_skip_2 (v2 : Int) (s : iS) : Fm Prod.snd L_m_skip G_m_skip s (m_skip_2 v2 s) := by
  unfold m_skip_2
  refine fm_lp (A := Int × iS) (E := (Int × iS) ⊕ ((Int × iS) ⊕ (Int × iS))) (LS := fun l => l.2) (LE := fun e => e.elim (fun e => e.2) (fun e => e.elim (fun e => e.2) (fun e => e.2))) ?_ ?_ (v2, s)
  · exact fun l => fm_skip_2b _ _
  · exact (by rintro (e | e | e); exact fm_some md_refl; exact fm_some md_refl; exact fm_some md_refl)
noncomputable def m_skip (v1 : Int) (s : iS) : Option (Int × iS) := m_skip_2 v1 s
theorem tm_skip (w : ev_W) (d : Nat) (hd : 1 ≤ d) (v1 : Int) (s : iS) : Ew hT w d 301 0 [(0, .ref (tb_nK + 121)), (1, iv v1)] [] s (Ci hT) (m_skip v1 s) := by
  unfold m_skip
  refine e_mv 1 em_301 (ce_at ce_301 0 rfl) rfl rfl ?_
  refine e_mv 2 em_301 (ce_at ce_301 1 rfl) rfl rfl ?_
  refine e_pk [0, 2] rfl rfl ?_
  exact tm_skip_2 w d hd _ _
theorem fm_skip (v1 : Int) (s : iS) : Fm Prod.snd L_m_skip G_m_skip s (m_skip v1 s) := fm_skip_2 _ _
/-! m_isLetter -/
def L_m_isLetter : List Nat := []
def G_m_isLetter : List (Nat × Nat) := []
noncomputable def m_isLetter_12 (v0 : Int) (s : iS) : Option (Int × iS) := gd (rg v0) (if v0 < 65 then some (0, s) else if 90 < v0 then some (0, s) else some (1, s))
theorem tm_isLetter_12 (H : iS → List am_C) (w : ev_W) (d : Nat) (hd : 0 ≤ d) (v0 : Int) (s : iS) : Ew H w d 305 12 [(0, iv v0)] [] s (Ci H) (m_isLetter_12 v0 s) := by
  unfold m_isLetter_12
  refine e_mv 13 em_305 (ce_at ce_305 6 rfl) rfl rfl ?_
  refine e_bip 15 em_305 (ce_at ce_305 7 rfl) (by decide) rfl ?_
  refine e_gd fun g1 => ?_
  refine e_cmlt 28 18 em_305 rfl rfl (ce_at ce_305 8 rfl) g1 (by decide) (fun h2 => ?_) (fun h2 => ?_)
  · refine e_op 29 em_305 (ce_at ce_305 14 rfl) rfl rfl ?_
    exact e_retz em_305 (ce_at ce_305 15 rfl) (by decide)
  · refine e_mv 19 em_305 (ce_at ce_305 9 rfl) rfl rfl ?_
    refine e_bip 21 em_305 (ce_at ce_305 10 rfl) (by decide) rfl ?_
    refine e_cmgt 28 24 em_305 rfl rfl (ce_at ce_305 11 rfl) g1 (by decide) (fun h3 => ?_) (fun h3 => ?_)
    · refine e_op 29 em_305 (ce_at ce_305 14 rfl) rfl rfl ?_
      exact e_retz em_305 (ce_at ce_305 15 rfl) (by decide)
    · refine e_op 25 em_305 (ce_at ce_305 12 rfl) rfl rfl ?_
      refine e_goto em_305 29 (ce_at ce_305 13 rfl) rfl ?_
      exact e_retz em_305 (ce_at ce_305 15 rfl) (by decide)
theorem fm_isLetter_12 (v0 : Int) (s : iS) : Fm Prod.snd L_m_isLetter G_m_isLetter s (m_isLetter_12 v0 s) := fm_gd (fm_if (fm_some md_refl) (fm_if (fm_some md_refl) (fm_some md_refl)))
noncomputable def m_isLetter (v0 : Int) (s : iS) : Option (Int × iS) := gd (rg v0) (if v0 < 97 then m_isLetter_12 v0 s else if v0 ≤ 122 then some (1, s) else m_isLetter_12 v0 s)
theorem tm_isLetter (H : iS → List am_C) (w : ev_W) (d : Nat) (hd : 0 ≤ d) (v0 : Int) (s : iS) : Ew H w d 305 0 [(0, iv v0)] [] s (Ci H) (m_isLetter v0 s) := by
  unfold m_isLetter
  refine e_mv 1 em_305 (ce_at ce_305 0 rfl) rfl rfl ?_
  refine e_bip 3 em_305 (ce_at ce_305 1 rfl) (by decide) rfl ?_
  refine e_gd fun g1 => ?_
  refine e_cmlt 12 6 em_305 rfl rfl (ce_at ce_305 2 rfl) g1 (by decide) (fun h2 => ?_) (fun h2 => ?_)
  · refine e_pk [0] rfl rfl ?_
    exact tm_isLetter_12 H w d hd _ _
  · refine e_mv 7 em_305 (ce_at ce_305 3 rfl) rfl rfl ?_
    refine e_bip 9 em_305 (ce_at ce_305 4 rfl) (by decide) rfl ?_
    refine e_cmle 24 12 em_305 rfl rfl (ce_at ce_305 5 rfl) g1 (by decide) (fun h3 => ?_) (fun h3 => ?_)
    · refine e_op 25 em_305 (ce_at ce_305 12 rfl) rfl rfl ?_
      refine e_goto em_305 29 (ce_at ce_305 13 rfl) rfl ?_
      exact e_retz em_305 (ce_at ce_305 15 rfl) (by decide)
    · refine e_pk [0] rfl rfl ?_
      exact tm_isLetter_12 H w d hd _ _
theorem fm_isLetter (v0 : Int) (s : iS) : Fm Prod.snd L_m_isLetter G_m_isLetter s (m_isLetter v0 s) := fm_gd (fm_if (fm_isLetter_12 _ _) (fm_if (fm_some md_refl) (fm_isLetter_12 _ _)))
/-! m_isDigit -/
def L_m_isDigit : List Nat := []
def G_m_isDigit : List (Nat × Nat) := []
noncomputable def m_isDigit (v0 : Int) (s : iS) : Option (Int × iS) := gd (rg v0) (if v0 < 48 then some (0, s) else if 57 < v0 then some (0, s) else some (1, s))
theorem tm_isDigit (H : iS → List am_C) (w : ev_W) (d : Nat) (hd : 0 ≤ d) (v0 : Int) (s : iS) : Ew H w d 308 0 [(0, iv v0)] [] s (Ci H) (m_isDigit v0 s) := by
  unfold m_isDigit
  refine e_mv 1 em_308 (ce_at ce_308 0 rfl) rfl rfl ?_
  refine e_bip 3 em_308 (ce_at ce_308 1 rfl) (by decide) rfl ?_
  refine e_gd fun g1 => ?_
  refine e_cmlt 16 6 em_308 rfl rfl (ce_at ce_308 2 rfl) g1 (by decide) (fun h2 => ?_) (fun h2 => ?_)
  · refine e_op 17 em_308 (ce_at ce_308 8 rfl) rfl rfl ?_
    exact e_retz em_308 (ce_at ce_308 9 rfl) (by decide)
  · refine e_mv 7 em_308 (ce_at ce_308 3 rfl) rfl rfl ?_
    refine e_bip 9 em_308 (ce_at ce_308 4 rfl) (by decide) rfl ?_
    refine e_cmgt 16 12 em_308 rfl rfl (ce_at ce_308 5 rfl) g1 (by decide) (fun h3 => ?_) (fun h3 => ?_)
    · refine e_op 17 em_308 (ce_at ce_308 8 rfl) rfl rfl ?_
      exact e_retz em_308 (ce_at ce_308 9 rfl) (by decide)
    · refine e_op 13 em_308 (ce_at ce_308 6 rfl) rfl rfl ?_
      refine e_goto em_308 17 (ce_at ce_308 7 rfl) rfl ?_
      exact e_retz em_308 (ce_at ce_308 9 rfl) (by decide)
theorem fm_isDigit (v0 : Int) (s : iS) : Fm Prod.snd L_m_isDigit G_m_isDigit s (m_isDigit v0 s) := fm_gd (fm_if (fm_some md_refl) (fm_if (fm_some md_refl) (fm_some md_refl)))
/-! m_isWordByte -/
def L_m_isWordByte : List Nat := []
def G_m_isWordByte : List (Nat × Nat) := []
noncomputable def m_isWordByte (v0 : Int) (s : iS) : Option (Int × iS) := bd (m_isLetter v0 s) (fun r1 s1 => gd (rg r1) (if r1 = 0 then bd (m_isDigit v0 s1) (fun r4 s4 => gd (rg r4) (if r4 = 0 then gd (rg v0) (if v0 = 95 then some (1, s4) else some (0, s4)) else some (1, s4))) else some (1, s1)))
theorem tm_isWordByte (H : iS → List am_C) (w : ev_W) (d : Nat) (hd : 1 ≤ d) (v0 : Int) (s : iS) : Ew H w d 307 0 [(0, iv v0)] [] s (Ci H) (m_isWordByte v0 s) := by
  unfold m_isWordByte
  refine e_mv 1 em_307 (ce_at ce_307 0 rfl) rfl rfl ?_
  refine e_ivi 4 em_307 (ce_at ce_307 1 rfl) (by omega) (iv_s1 rfl) em_305 (Nat.le_of_ble_eq_true rfl) rfl (tm_isLetter H w (d - 1) (by omega) _ _) (fun r1 s1 => ?_)
  refine e_gd fun g2 => ?_
  refine e_ifne 20 7 em_307 rfl rfl (ce_at ce_307 2 rfl) g2 (fun h3 => ?_) (fun h3 => ?_)
  · refine e_op 21 em_307 (ce_at ce_307 9 rfl) rfl rfl ?_
    refine e_goto em_307 25 (ce_at ce_307 10 rfl) rfl ?_
    exact e_retz em_307 (ce_at ce_307 12 rfl) (by decide)
  · refine e_mv 8 em_307 (ce_at ce_307 3 rfl) rfl rfl ?_
    refine e_ivi 11 em_307 (ce_at ce_307 4 rfl) (by omega) (iv_s1 rfl) em_308 (Nat.le_of_ble_eq_true rfl) rfl (tm_isDigit H w (d - 1) (by omega) _ _) (fun r4 s4 => ?_)
    refine e_gd fun g5 => ?_
    refine e_ifne 20 14 em_307 rfl rfl (ce_at ce_307 5 rfl) g5 (fun h6 => ?_) (fun h6 => ?_)
    · refine e_op 21 em_307 (ce_at ce_307 9 rfl) rfl rfl ?_
      refine e_goto em_307 25 (ce_at ce_307 10 rfl) rfl ?_
      exact e_retz em_307 (ce_at ce_307 12 rfl) (by decide)
    · refine e_mv 15 em_307 (ce_at ce_307 6 rfl) rfl rfl ?_
      refine e_bip 17 em_307 (ce_at ce_307 7 rfl) (by decide) rfl ?_
      refine e_gd fun g7 => ?_
      refine e_cmne 24 20 em_307 rfl rfl (ce_at ce_307 8 rfl) g7 (by decide) (fun h8 => ?_) (fun h8 => ?_)
      · refine e_op 25 em_307 (ce_at ce_307 11 rfl) rfl rfl ?_
        exact e_retz em_307 (ce_at ce_307 12 rfl) (by decide)
      · refine e_op 21 em_307 (ce_at ce_307 9 rfl) rfl rfl ?_
        refine e_goto em_307 25 (ce_at ce_307 10 rfl) rfl ?_
        exact e_retz em_307 (ce_at ce_307 12 rfl) (by decide)
theorem fm_isWordByte (v0 : Int) (s : iS) : Fm Prod.snd L_m_isWordByte G_m_isWordByte s (m_isWordByte v0 s) := fm_bd (fm_sub (fm_isLetter _ _) (mem_sub_L rfl) (mem_sub_F rfl)) (fun r1 s1 => fm_gd (fm_if (fm_bd (fm_sub (fm_isDigit _ _) (mem_sub_L rfl) (mem_sub_F rfl)) (fun r4 s4 => fm_gd (fm_if (fm_gd (fm_if (fm_some md_refl) (fm_some md_refl))) (fm_some md_refl)))) (fm_some md_refl)))
/-! m_wordOf -/
def L_m_wordOf : List Nat := []
def G_m_wordOf : List (Nat × Nat) := []
def m_wordOf_16C (w : ev_W) (d : Nat) (rr1 : Nat) (nn1 : Nat) (gg1 : Nat → Int32) (v2 : Int) (v3 : Int) (v4 : Int) (v5 : Int) : (Int × iS) ⊕ (Int × iS) → am_E → Prop := fun q r => q.elim (fun l => ev w d 309 16 ((fun l => [(0, .ref (tb_nK + 121)), (1, .ref rr1), (2, iv v2), (3, iv v3), (4, iv v4), (5, iv v5), (6, iv (l.1))]) l) [] (hT ((fun l => l.2) l)) r) (fun e => (fun e r => ev w d 309 50 [(0, .ref (tb_nK + 121)), (1, .ref rr1), (2, iv v2), (3, iv v3), (4, iv v4), (5, iv v5), (6, iv (e.1))] [] (hT (e.2)) r) e r)
noncomputable def m_wordOf_16b (nn1 : Nat) (gg1 : Nat → Int32) (v2 : Int) (v3 : Int) (v4 : Int) (v5 : Int) (v6 : Int) (s : iS) : Option ((Int × iS) ⊕ (Int × iS)) := gd (rg v6) (gd (rg v3) (if v3 ≤ v6 then some (.inr (v6, s)) else gd (0 ≤ (v5 + v6) ∧ (v5 + v6) < (nn1 : Int)) (gd (0 ≤ (v2 + v6) ∧ (v2 + v6) < 4000) (gd (rg ((gg1 (v5 + v6).toNat).toInt)) (gd (rg (s 123 (v2 + v6).toNat)) (if (gg1 (v5 + v6).toNat).toInt = (s 123 (v2 + v6).toNat) then some (.inl ((v6 + 1), s)) else some (.inr (v6, s))))))))
theorem tm_wordOf_16b (w : ev_W) (d : Nat) (hd : 0 ≤ d) (nn1 : Nat) (gg1 : Nat → Int32) (rr1 : Nat) (h_rr1 : rr1 < tb_nK) (hk_rr1 : (tb_KT w.2.1 w.2.2)[rr1]? = some (.char, nn1, gg1)) (hl_nn1 : nn1 < 2147483648) (v2 : Int) (v3 : Int) (v4 : Int) (v5 : Int) (v6 : Int) (s : iS) : Ew hT w d 309 16 [(0, .ref (tb_nK + 121)), (1, .ref rr1), (2, iv v2), (3, iv v3), (4, iv v4), (5, iv v5), (6, iv v6)] [] s (m_wordOf_16C w d rr1 nn1 gg1 v2 v3 v4 v5) (m_wordOf_16b nn1 gg1 v2 v3 v4 v5 v6 s) := by
  unfold m_wordOf_16b
  refine e_mv 18 em_309 (ce_at ce_309 10 rfl) rfl rfl ?_
  refine e_mv 19 em_309 (ce_at ce_309 11 rfl) rfl rfl ?_
  refine e_gd fun g1 => ?_
  refine e_gd fun g2 => ?_
  refine e_cmge 50 22 em_309 rfl rfl (ce_at ce_309 12 rfl) g1 g2 (fun h3 => ?_) (fun h3 => ?_)
  · refine e_pk [0, 1, 2, 3, 4, 5, 6] rfl rfl ?_
    exact e_out (fun r h => h)
  · refine e_mv 23 em_309 (ce_at ce_309 13 rfl) rfl rfl ?_
    refine e_mv 25 em_309 (ce_at ce_309 14 rfl) rfl rfl ?_
    refine e_mv 27 em_309 (ce_at ce_309 15 rfl) rfl rfl ?_
    refine e_iadd 28 em_309 rfl (ce_at ce_309 16 rfl) ?_
    refine e_gd fun g4 => ?_
    refine e_cldk 29 em_309 (ce_at ce_309 17 rfl) h_rr1 hk_rr1 hl_nn1 g4 rfl ?_
    refine e_mv 30 em_309 (ce_at ce_309 18 rfl) rfl rfl ?_
    refine e_getr 33 em_309 (ce_at ce_309 19 rfl) tq_121 rfl rfl ?_
    refine e_mv 34 em_309 (ce_at ce_309 20 rfl) rfl rfl ?_
    refine e_mv 36 em_309 (ce_at ce_309 21 rfl) rfl rfl ?_
    refine e_iadd 37 em_309 rfl (ce_at ce_309 22 rfl) ?_
    refine e_gd fun g5 => ?_
    refine e_ild 38 em_309 (ce_at ce_309 23 rfl) tq_123 (by decide) g5 rfl ?_
    refine e_gd fun g6 => ?_
    refine e_gd fun g7 => ?_
    refine e_cmne 50 41 em_309 rfl rfl (ce_at ce_309 24 rfl) g6 g7 (fun h8 => ?_) (fun h8 => ?_)
    · refine e_pk [0, 1, 2, 3, 4, 5, 6] rfl rfl ?_
      exact e_out (fun r h => h)
    · refine e_mv 43 em_309 (ce_at ce_309 25 rfl) rfl rfl ?_
      refine e_op 44 em_309 (ce_at ce_309 26 rfl) rfl rfl ?_
      refine e_iadd 45 em_309 rfl (ce_at ce_309 27 rfl) ?_
      refine e_mv 47 em_309 (ce_at ce_309 28 rfl) rfl rfl ?_
      refine e_goto em_309 16 (ce_at ce_309 29 rfl) rfl ?_
      refine e_pk [0, 1, 2, 3, 4, 5, 6] rfl rfl ?_
      exact e_out (fun r h => h)
theorem fm_wordOf_16b (nn1 : Nat) (gg1 : Nat → Int32) (v2 : Int) (v3 : Int) (v4 : Int) (v5 : Int) (v6 : Int) (s : iS) : Fm (fun r : (Int × iS) ⊕ (Int × iS) => r.elim (fun l => l.2) (fun e => e.2)) L_m_wordOf G_m_wordOf s (m_wordOf_16b nn1 gg1 v2 v3 v4 v5 v6 s) := fm_gd (fm_gd (fm_if (fm_some md_refl) (fm_gd (fm_gd (fm_gd (fm_gd (fm_if (fm_some md_refl) (fm_some md_refl))))))))
def m_wordOf_71C (w : ev_W) (d : Nat) (rr1 : Nat) (nn1 : Nat) (gg1 : Nat → Int32) (v2 : Int) (v3 : Int) (v4 : Int) : (Int × iS) ⊕ (Int × iS) → am_E → Prop := fun q r => q.elim (fun l => ev w d 309 71 ((fun l => [(0, .ref (tb_nK + 121)), (1, .ref rr1), (2, iv v2), (3, iv v3), (4, iv v4), (5, iv (l.1))]) l) [] (hT ((fun l => l.2) l)) r) (fun e => (fun e r => ev w d 309 89 [(0, .ref (tb_nK + 121)), (1, .ref rr1), (2, iv v2), (3, iv v3), (4, iv v4), (5, iv (e.1))] [] (hT (e.2)) r) e r)
noncomputable def m_wordOf_71b (nn1 : Nat) (gg1 : Nat → Int32) (v2 : Int) (v3 : Int) (v4 : Int) (v5 : Int) (s : iS) : Option ((Int × iS) ⊕ (Int × iS)) := gd (0 ≤ v5 ∧ v5 < (nn1 : Int)) (gd (rg ((gg1 v5.toNat).toInt)) (if (gg1 v5.toNat).toInt = 32 then some (.inr (v5, s)) else some (.inl ((v5 + 1), s))))
theorem tm_wordOf_71b (w : ev_W) (d : Nat) (hd : 0 ≤ d) (nn1 : Nat) (gg1 : Nat → Int32) (rr1 : Nat) (h_rr1 : rr1 < tb_nK) (hk_rr1 : (tb_KT w.2.1 w.2.2)[rr1]? = some (.char, nn1, gg1)) (hl_nn1 : nn1 < 2147483648) (v2 : Int) (v3 : Int) (v4 : Int) (v5 : Int) (s : iS) : Ew hT w d 309 71 [(0, .ref (tb_nK + 121)), (1, .ref rr1), (2, iv v2), (3, iv v3), (4, iv v4), (5, iv v5)] [] s (m_wordOf_71C w d rr1 nn1 gg1 v2 v3 v4) (m_wordOf_71b nn1 gg1 v2 v3 v4 v5 s) := by
  unfold m_wordOf_71b
  refine e_mv 72 em_309 (ce_at ce_309 42 rfl) rfl rfl ?_
  refine e_mv 74 em_309 (ce_at ce_309 43 rfl) rfl rfl ?_
  refine e_gd fun g1 => ?_
  refine e_cldk 75 em_309 (ce_at ce_309 44 rfl) h_rr1 hk_rr1 hl_nn1 g1 rfl ?_
  refine e_bip 77 em_309 (ce_at ce_309 45 rfl) (by decide) rfl ?_
  refine e_gd fun g2 => ?_
  refine e_cmeq 89 80 em_309 rfl rfl (ce_at ce_309 46 rfl) g2 (by decide) (fun h3 => ?_) (fun h3 => ?_)
  · refine e_pk [0, 1, 2, 3, 4, 5] rfl rfl ?_
    exact e_out (fun r h => h)
  · refine e_mv 82 em_309 (ce_at ce_309 47 rfl) rfl rfl ?_
    refine e_op 83 em_309 (ce_at ce_309 48 rfl) rfl rfl ?_
    refine e_iadd 84 em_309 rfl (ce_at ce_309 49 rfl) ?_
    refine e_mv 86 em_309 (ce_at ce_309 50 rfl) rfl rfl ?_
    refine e_goto em_309 71 (ce_at ce_309 51 rfl) rfl ?_
    refine e_pk [0, 1, 2, 3, 4, 5] rfl rfl ?_
    exact e_out (fun r h => h)
theorem fm_wordOf_71b (nn1 : Nat) (gg1 : Nat → Int32) (v2 : Int) (v3 : Int) (v4 : Int) (v5 : Int) (s : iS) : Fm (fun r : (Int × iS) ⊕ (Int × iS) => r.elim (fun l => l.2) (fun e => e.2)) L_m_wordOf G_m_wordOf s (m_wordOf_71b nn1 gg1 v2 v3 v4 v5 s) := fm_gd (fm_gd (fm_if (fm_some md_refl) (fm_some md_refl)))
def m_wordOf_6C (w : ev_W) (d : Nat) (rr1 : Nat) (nn1 : Nat) (gg1 : Nat → Int32) (v2 : Int) (v3 : Int) : (Int × Int × iS) ⊕ ((Int × iS) ⊕ (iS)) → am_E → Prop := fun q r => q.elim (fun l => ev w d 309 6 ((fun l => [(0, .ref (tb_nK + 121)), (1, .ref rr1), (2, iv v2), (3, iv v3), (4, iv (l.1)), (5, iv (l.2.1))]) l) [] (hT ((fun l => l.2.2) l)) r) (fun e => (fun e r => e.elim (fun e => ev w d 309 68 [(4, iv (e.1))] [] (hT (e.2)) r) (fun e => ev w d 309 104 [] [] (hT (e)) r)) e r)
noncomputable def m_wordOf_89 (nn1 : Nat) (gg1 : Nat → Int32) (v2 : Int) (v3 : Int) (v4 : Int) (v5 : Int) (s : iS) : Option ((Int × Int × iS) ⊕ ((Int × iS) ⊕ (iS))) := some (.inl ((v4 + 1), (v5 + 1), s))
theorem tm_wordOf_89 (w : ev_W) (d : Nat) (hd : 0 ≤ d) (nn1 : Nat) (gg1 : Nat → Int32) (rr1 : Nat) (h_rr1 : rr1 < tb_nK) (hk_rr1 : (tb_KT w.2.1 w.2.2)[rr1]? = some (.char, nn1, gg1)) (hl_nn1 : nn1 < 2147483648) (v2 : Int) (v3 : Int) (v4 : Int) (v5 : Int) (s : iS) : Ew hT w d 309 89 [(0, .ref (tb_nK + 121)), (1, .ref rr1), (2, iv v2), (3, iv v3), (4, iv v4), (5, iv v5)] [] s (m_wordOf_6C w d rr1 nn1 gg1 v2 v3) (m_wordOf_89 nn1 gg1 v2 v3 v4 v5 s) := by
  unfold m_wordOf_89
  refine e_mv 91 em_309 (ce_at ce_309 52 rfl) rfl rfl ?_
  refine e_op 92 em_309 (ce_at ce_309 53 rfl) rfl rfl ?_
  refine e_iadd 93 em_309 rfl (ce_at ce_309 54 rfl) ?_
  refine e_mv 95 em_309 (ce_at ce_309 55 rfl) rfl rfl ?_
  refine e_mv 97 em_309 (ce_at ce_309 56 rfl) rfl rfl ?_
  refine e_op 98 em_309 (ce_at ce_309 57 rfl) rfl rfl ?_
  refine e_iadd 99 em_309 rfl (ce_at ce_309 58 rfl) ?_
  refine e_mv 101 em_309 (ce_at ce_309 59 rfl) rfl rfl ?_
  refine e_goto em_309 6 (ce_at ce_309 60 rfl) rfl ?_
  refine e_pk [0, 1, 2, 3, 4, 5] rfl rfl ?_
  exact e_out (fun r h => h)
theorem fm_wordOf_89 (nn1 : Nat) (gg1 : Nat → Int32) (v2 : Int) (v3 : Int) (v4 : Int) (v5 : Int) (s : iS) : Fm (fun r : (Int × Int × iS) ⊕ ((Int × iS) ⊕ (iS)) => r.elim (fun l => l.2.2) (fun e => e.elim (fun e => e.2) (fun e => e))) L_m_wordOf G_m_wordOf s (m_wordOf_89 nn1 gg1 v2 v3 v4 v5 s) := fm_some md_refl
noncomputable def m_wordOf_71 (nn1 : Nat) (gg1 : Nat → Int32) (v2 : Int) (v3 : Int) (v4 : Int) (v5 : Int) (s : iS) : Option ((Int × Int × iS) ⊕ ((Int × iS) ⊕ (iS))) := (lp (L := Int × iS) (E := Int × iS) (fun l => m_wordOf_71b nn1 gg1 v2 v3 v4 (l.1) (l.2)) (v5, s)).bind (fun e => m_wordOf_89 nn1 gg1 v2 v3 v4 (e.1) (e.2))
theorem tm_wordOf_71 (w : ev_W) (d : Nat) (hd : 0 ≤ d) (nn1 : Nat) (gg1 : Nat → Int32) (rr1 : Nat) (h_rr1 : rr1 < tb_nK) (hk_rr1 : (tb_KT w.2.1 w.2.2)[rr1]? = some (.char, nn1, gg1)) (hl_nn1 : nn1 < 2147483648) (v2 : Int) (v3 : Int) (v4 : Int) (v5 : Int) (s : iS) : Ew hT w d 309 71 [(0, .ref (tb_nK + 121)), (1, .ref rr1), (2, iv v2), (3, iv v3), (4, iv v4), (5, iv v5)] [] s (m_wordOf_6C w d rr1 nn1 gg1 v2 v3) (m_wordOf_71 nn1 gg1 v2 v3 v4 v5 s) := by
  unfold m_wordOf_71
  refine e_lp (L := Int × iS) (E := Int × iS) (LO := fun l => [(0, .ref (tb_nK + 121)), (1, .ref rr1), (2, iv v2), (3, iv v3), (4, iv v4), (5, iv (l.1))]) (LS := fun l => l.2) (CE := fun e r => ev w d 309 89 [(0, .ref (tb_nK + 121)), (1, .ref rr1), (2, iv v2), (3, iv v3), (4, iv v4), (5, iv (e.1))] [] (hT (e.2)) r) (fun l => tm_wordOf_71b w d hd nn1 gg1 rr1 h_rr1 hk_rr1 hl_nn1 _ _ _ _ _) ?_ (v5, s)
  intro e
  show Ew hT w d 309 89 [(0, .ref (tb_nK + 121)), (1, .ref rr1), (2, iv v2), (3, iv v3), (4, iv v4), (5, iv (e.1))] [] e.2 (m_wordOf_6C w d rr1 nn1 gg1 v2 v3) _
  refine e_pk [0, 1, 2, 3, 4, 5] rfl rfl ?_
  exact tm_wordOf_89 w d hd nn1 gg1 rr1 h_rr1 hk_rr1 hl_nn1 _ _ _ _ _
theorem fm_wordOf_71 (nn1 : Nat) (gg1 : Nat → Int32) (v2 : Int) (v3 : Int) (v4 : Int) (v5 : Int) (s : iS) : Fm (fun r : (Int × Int × iS) ⊕ ((Int × iS) ⊕ (iS)) => r.elim (fun l => l.2.2) (fun e => e.elim (fun e => e.2) (fun e => e))) L_m_wordOf G_m_wordOf s (m_wordOf_71 nn1 gg1 v2 v3 v4 v5 s) := by
  unfold m_wordOf_71
  refine fm_lp (A := Int × iS) (E := Int × iS) (LS := fun l => l.2) (LE := fun e => e.2) ?_ ?_ (v5, s)
  · exact fun l => fm_wordOf_71b nn1 gg1 _ _ _ _ _
  · exact (fun e => fm_wordOf_89 nn1 gg1 _ _ _ _ _)
noncomputable def m_wordOf_50 (nn1 : Nat) (gg1 : Nat → Int32) (v2 : Int) (v3 : Int) (v4 : Int) (v5 : Int) (v6 : Int) (s : iS) : Option ((Int × Int × iS) ⊕ ((Int × iS) ⊕ (iS))) := gd (rg v6) (gd (rg v3) (if v6 = v3 then gd (0 ≤ (v5 + v6) ∧ (v5 + v6) < (nn1 : Int)) (gd (rg ((gg1 (v5 + v6).toNat).toInt)) (if (gg1 (v5 + v6).toNat).toInt = 32 then some (.inr (.inl (v4, s))) else m_wordOf_71 nn1 gg1 v2 v3 v4 v5 s)) else m_wordOf_71 nn1 gg1 v2 v3 v4 v5 s))
theorem tm_wordOf_50 (w : ev_W) (d : Nat) (hd : 0 ≤ d) (nn1 : Nat) (gg1 : Nat → Int32) (rr1 : Nat) (h_rr1 : rr1 < tb_nK) (hk_rr1 : (tb_KT w.2.1 w.2.2)[rr1]? = some (.char, nn1, gg1)) (hl_nn1 : nn1 < 2147483648) (v2 : Int) (v3 : Int) (v4 : Int) (v5 : Int) (v6 : Int) (s : iS) : Ew hT w d 309 50 [(0, .ref (tb_nK + 121)), (1, .ref rr1), (2, iv v2), (3, iv v3), (4, iv v4), (5, iv v5), (6, iv v6)] [] s (m_wordOf_6C w d rr1 nn1 gg1 v2 v3) (m_wordOf_50 nn1 gg1 v2 v3 v4 v5 v6 s) := by
  unfold m_wordOf_50
  refine e_mv 52 em_309 (ce_at ce_309 30 rfl) rfl rfl ?_
  refine e_mv 53 em_309 (ce_at ce_309 31 rfl) rfl rfl ?_
  refine e_gd fun g1 => ?_
  refine e_gd fun g2 => ?_
  refine e_cmne 71 56 em_309 rfl rfl (ce_at ce_309 32 rfl) g1 g2 (fun h3 => ?_) (fun h3 => ?_)
  · refine e_pk [0, 1, 2, 3, 4, 5] rfl rfl ?_
    exact tm_wordOf_71 w d hd nn1 gg1 rr1 h_rr1 hk_rr1 hl_nn1 _ _ _ _ _
  · refine e_mv 57 em_309 (ce_at ce_309 33 rfl) rfl rfl ?_
    refine e_mv 59 em_309 (ce_at ce_309 34 rfl) rfl rfl ?_
    refine e_mv 61 em_309 (ce_at ce_309 35 rfl) rfl rfl ?_
    refine e_iadd 62 em_309 rfl (ce_at ce_309 36 rfl) ?_
    refine e_gd fun g4 => ?_
    refine e_cldk 63 em_309 (ce_at ce_309 37 rfl) h_rr1 hk_rr1 hl_nn1 g4 rfl ?_
    refine e_bip 65 em_309 (ce_at ce_309 38 rfl) (by decide) rfl ?_
    refine e_gd fun g5 => ?_
    refine e_cmne 71 68 em_309 rfl rfl (ce_at ce_309 39 rfl) g5 (by decide) (fun h6 => ?_) (fun h6 => ?_)
    · refine e_pk [0, 1, 2, 3, 4, 5] rfl rfl ?_
      exact tm_wordOf_71 w d hd nn1 gg1 rr1 h_rr1 hk_rr1 hl_nn1 _ _ _ _ _
    · refine e_pk [4] rfl rfl ?_
      exact e_out (fun r h => h)
theorem fm_wordOf_50 (nn1 : Nat) (gg1 : Nat → Int32) (v2 : Int) (v3 : Int) (v4 : Int) (v5 : Int) (v6 : Int) (s : iS) : Fm (fun r : (Int × Int × iS) ⊕ ((Int × iS) ⊕ (iS)) => r.elim (fun l => l.2.2) (fun e => e.elim (fun e => e.2) (fun e => e))) L_m_wordOf G_m_wordOf s (m_wordOf_50 nn1 gg1 v2 v3 v4 v5 v6 s) := fm_gd (fm_gd (fm_if (fm_gd (fm_gd (fm_if (fm_some md_refl) (fm_wordOf_71 nn1 gg1 _ _ _ _ _)))) (fm_wordOf_71 nn1 gg1 _ _ _ _ _)))
noncomputable def m_wordOf_16 (nn1 : Nat) (gg1 : Nat → Int32) (v2 : Int) (v3 : Int) (v4 : Int) (v5 : Int) (v6 : Int) (s : iS) : Option ((Int × Int × iS) ⊕ ((Int × iS) ⊕ (iS))) := (lp (L := Int × iS) (E := Int × iS) (fun l => m_wordOf_16b nn1 gg1 v2 v3 v4 v5 (l.1) (l.2)) (v6, s)).bind (fun e => m_wordOf_50 nn1 gg1 v2 v3 v4 v5 (e.1) (e.2))
theorem tm_wordOf_16 (w : ev_W) (d : Nat) (hd : 0 ≤ d) (nn1 : Nat) (gg1 : Nat → Int32) (rr1 : Nat) (h_rr1 : rr1 < tb_nK) (hk_rr1 : (tb_KT w.2.1 w.2.2)[rr1]? = some (.char, nn1, gg1)) (hl_nn1 : nn1 < 2147483648) (v2 : Int) (v3 : Int) (v4 : Int) (v5 : Int) (v6 : Int) (s : iS) : Ew hT w d 309 16 [(0, .ref (tb_nK + 121)), (1, .ref rr1), (2, iv v2), (3, iv v3), (4, iv v4), (5, iv v5), (6, iv v6)] [] s (m_wordOf_6C w d rr1 nn1 gg1 v2 v3) (m_wordOf_16 nn1 gg1 v2 v3 v4 v5 v6 s) := by
  unfold m_wordOf_16
  refine e_lp (L := Int × iS) (E := Int × iS) (LO := fun l => [(0, .ref (tb_nK + 121)), (1, .ref rr1), (2, iv v2), (3, iv v3), (4, iv v4), (5, iv v5), (6, iv (l.1))]) (LS := fun l => l.2) (CE := fun e r => ev w d 309 50 [(0, .ref (tb_nK + 121)), (1, .ref rr1), (2, iv v2), (3, iv v3), (4, iv v4), (5, iv v5), (6, iv (e.1))] [] (hT (e.2)) r) (fun l => tm_wordOf_16b w d hd nn1 gg1 rr1 h_rr1 hk_rr1 hl_nn1 _ _ _ _ _ _) ?_ (v6, s)
  intro e
  show Ew hT w d 309 50 [(0, .ref (tb_nK + 121)), (1, .ref rr1), (2, iv v2), (3, iv v3), (4, iv v4), (5, iv v5), (6, iv (e.1))] [] e.2 (m_wordOf_6C w d rr1 nn1 gg1 v2 v3) _
  refine e_pk [0, 1, 2, 3, 4, 5, 6] rfl rfl ?_
  exact tm_wordOf_50 w d hd nn1 gg1 rr1 h_rr1 hk_rr1 hl_nn1 _ _ _ _ _ _
theorem fm_wordOf_16 (nn1 : Nat) (gg1 : Nat → Int32) (v2 : Int) (v3 : Int) (v4 : Int) (v5 : Int) (v6 : Int) (s : iS) : Fm (fun r : (Int × Int × iS) ⊕ ((Int × iS) ⊕ (iS)) => r.elim (fun l => l.2.2) (fun e => e.elim (fun e => e.2) (fun e => e))) L_m_wordOf G_m_wordOf s (m_wordOf_16 nn1 gg1 v2 v3 v4 v5 v6 s) := by
  unfold m_wordOf_16
  refine fm_lp (A := Int × iS) (E := Int × iS) (LS := fun l => l.2) (LE := fun e => e.2) ?_ ?_ (v6, s)
  · exact fun l => fm_wordOf_16b nn1 gg1 _ _ _ _ _ _
  · exact (fun e => fm_wordOf_50 nn1 gg1 _ _ _ _ _ _)
noncomputable def m_wordOf_6b (nn1 : Nat) (gg1 : Nat → Int32) (v2 : Int) (v3 : Int) (v4 : Int) (v5 : Int) (s : iS) : Option ((Int × Int × iS) ⊕ ((Int × iS) ⊕ (iS))) := gd (rg v5) (gd (rg (nn1 : Int)) (if (nn1 : Int) ≤ v5 then some (.inr (.inr s)) else m_wordOf_16 nn1 gg1 v2 v3 v4 v5 0 s))
theorem tm_wordOf_6b (w : ev_W) (d : Nat) (hd : 0 ≤ d) (nn1 : Nat) (gg1 : Nat → Int32) (rr1 : Nat) (h_rr1 : rr1 < tb_nK) (hk_rr1 : (tb_KT w.2.1 w.2.2)[rr1]? = some (.char, nn1, gg1)) (hl_nn1 : nn1 < 2147483648) (v2 : Int) (v3 : Int) (v4 : Int) (v5 : Int) (s : iS) : Ew hT w d 309 6 [(0, .ref (tb_nK + 121)), (1, .ref rr1), (2, iv v2), (3, iv v3), (4, iv v4), (5, iv v5)] [] s (m_wordOf_6C w d rr1 nn1 gg1 v2 v3) (m_wordOf_6b nn1 gg1 v2 v3 v4 v5 s) := by
  unfold m_wordOf_6b
  refine e_mv 8 em_309 (ce_at ce_309 4 rfl) rfl rfl ?_
  refine e_mv 9 em_309 (ce_at ce_309 5 rfl) rfl rfl ?_
  refine e_alenk 10 em_309 (ce_at ce_309 6 rfl) h_rr1 hk_rr1 (by decide) rfl rfl ?_
  refine e_gd fun g1 => ?_
  refine e_gd fun g2 => ?_
  refine e_cmge 104 13 em_309 rfl rfl (ce_at ce_309 7 rfl) g1 g2 (fun h3 => ?_) (fun h3 => ?_)
  · refine e_pk [] rfl rfl ?_
    exact e_out (fun r h => h)
  · refine e_op 14 em_309 (ce_at ce_309 8 rfl) rfl rfl ?_
    refine e_mv 16 em_309 (ce_at ce_309 9 rfl) rfl rfl ?_
    refine e_pk [0, 1, 2, 3, 4, 5, 6] rfl rfl ?_
    exact tm_wordOf_16 w d hd nn1 gg1 rr1 h_rr1 hk_rr1 hl_nn1 _ _ _ _ _ _
theorem fm_wordOf_6b (nn1 : Nat) (gg1 : Nat → Int32) (v2 : Int) (v3 : Int) (v4 : Int) (v5 : Int) (s : iS) : Fm (fun r : (Int × Int × iS) ⊕ ((Int × iS) ⊕ (iS)) => r.elim (fun l => l.2.2) (fun e => e.elim (fun e => e.2) (fun e => e))) L_m_wordOf G_m_wordOf s (m_wordOf_6b nn1 gg1 v2 v3 v4 v5 s) := fm_gd (fm_gd (fm_if (fm_some md_refl) (fm_wordOf_16 nn1 gg1 _ _ _ _ _ _)))
noncomputable def m_wordOf_6 (nn1 : Nat) (gg1 : Nat → Int32) (v2 : Int) (v3 : Int) (v4 : Int) (v5 : Int) (s : iS) : Option (Int × iS) := (lp (L := Int × Int × iS) (E := (Int × iS) ⊕ (iS)) (fun l => m_wordOf_6b nn1 gg1 v2 v3 (l.1) (l.2.1) (l.2.2)) (v4, v5, s)).bind (fun e => e.elim (fun e => some (e.1, e.2)) (fun e => some ((-1), e)))
theorem tm_wordOf_6 (w : ev_W) (d : Nat) (hd : 0 ≤ d) (nn1 : Nat) (gg1 : Nat → Int32) (rr1 : Nat) (h_rr1 : rr1 < tb_nK) (hk_rr1 : (tb_KT w.2.1 w.2.2)[rr1]? = some (.char, nn1, gg1)) (hl_nn1 : nn1 < 2147483648) (v2 : Int) (v3 : Int) (v4 : Int) (v5 : Int) (s : iS) : Ew hT w d 309 6 [(0, .ref (tb_nK + 121)), (1, .ref rr1), (2, iv v2), (3, iv v3), (4, iv v4), (5, iv v5)] [] s (Ci hT) (m_wordOf_6 nn1 gg1 v2 v3 v4 v5 s) := by
  unfold m_wordOf_6
  refine e_lp (L := Int × Int × iS) (E := (Int × iS) ⊕ (iS)) (LO := fun l => [(0, .ref (tb_nK + 121)), (1, .ref rr1), (2, iv v2), (3, iv v3), (4, iv (l.1)), (5, iv (l.2.1))]) (LS := fun l => l.2.2) (CE := fun e r => e.elim (fun e => ev w d 309 68 [(4, iv (e.1))] [] (hT (e.2)) r) (fun e => ev w d 309 104 [] [] (hT (e)) r)) (fun l => tm_wordOf_6b w d hd nn1 gg1 rr1 h_rr1 hk_rr1 hl_nn1 _ _ _ _ _) ?_ (v4, v5, s)
  rintro (e | e)
  · show Ew hT w d 309 68 [(4, iv (e.1))] [] e.2 (Ci hT) _
    refine e_mv 70 em_309 (ce_at ce_309 40 rfl) rfl rfl ?_
    exact e_reti em_309 (ce_at ce_309 41 rfl)
  · show Ew hT w d 309 104 [] [] e (Ci hT) _
    refine e_op 105 em_309 (ce_at ce_309 61 rfl) rfl rfl ?_
    exact e_reti em_309 (ce_at ce_309 62 rfl)
theorem fm_wordOf_6 (nn1 : Nat) (gg1 : Nat → Int32) (v2 : Int) (v3 : Int) (v4 : Int) (v5 : Int) (s : iS) : Fm Prod.snd L_m_wordOf G_m_wordOf s (m_wordOf_6 nn1 gg1 v2 v3 v4 v5 s) := by
  unfold m_wordOf_6
  refine fm_lp (A := Int × Int × iS) (E := (Int × iS) ⊕ (iS)) (LS := fun l => l.2.2) (LE := fun e => e.elim (fun e => e.2) (fun e => e)) ?_ ?_ (v4, v5, s)
  · exact fun l => fm_wordOf_6b nn1 gg1 _ _ _ _ _
  · exact (by rintro (e | e); exact fm_some md_refl; exact fm_some md_refl)
noncomputable def m_wordOf (nn1 : Nat) (gg1 : Nat → Int32) (v2 : Int) (v3 : Int) (s : iS) : Option (Int × iS) := m_wordOf_6 nn1 gg1 v2 v3 0 0 s
theorem tm_wordOf (w : ev_W) (d : Nat) (hd : 0 ≤ d) (nn1 : Nat) (gg1 : Nat → Int32) (rr1 : Nat) (h_rr1 : rr1 < tb_nK) (hk_rr1 : (tb_KT w.2.1 w.2.2)[rr1]? = some (.char, nn1, gg1)) (hl_nn1 : nn1 < 2147483648) (v2 : Int) (v3 : Int) (s : iS) : Ew hT w d 309 0 [(0, .ref (tb_nK + 121)), (1, .ref rr1), (2, iv v2), (3, iv v3)] [] s (Ci hT) (m_wordOf nn1 gg1 v2 v3 s) := by
  unfold m_wordOf
  refine e_op 1 em_309 (ce_at ce_309 0 rfl) rfl rfl ?_
  refine e_mv 3 em_309 (ce_at ce_309 1 rfl) rfl rfl ?_
  refine e_op 4 em_309 (ce_at ce_309 2 rfl) rfl rfl ?_
  refine e_mv 6 em_309 (ce_at ce_309 3 rfl) rfl rfl ?_
  refine e_pk [0, 1, 2, 3, 4, 5] rfl rfl ?_
  exact tm_wordOf_6 w d hd nn1 gg1 rr1 h_rr1 hk_rr1 hl_nn1 _ _ _ _ _
theorem fm_wordOf (nn1 : Nat) (gg1 : Nat → Int32) (v2 : Int) (v3 : Int) (s : iS) : Fm Prod.snd L_m_wordOf G_m_wordOf s (m_wordOf nn1 gg1 v2 v3 s) := fm_wordOf_6 nn1 gg1 _ _ _ _ _
/-! m_token -/
def L_m_token : List Nat := [124, 125, 126, 127]
def G_m_token : List (Nat × Nat) := [(121, 9)]
noncomputable def m_token (v1 : Int) (v2 : Int) (v3 : Int) (v4 : Int) (s : iS) : Option (Int × iS) := gd (0 ≤ (s 121 9) ∧ (s 121 9) < 2002) (lt' (up s 124 (s 121 9).toNat v1) (fun s2 => gd (0 ≤ (s2 121 9) ∧ (s2 121 9) < 2002) (lt' (up s2 125 (s2 121 9).toNat v2) (fun s4 => gd (0 ≤ (s4 121 9) ∧ (s4 121 9) < 2002) (lt' (up s4 126 (s4 121 9).toNat (v3 - v2)) (fun s6 => gd (0 ≤ (s6 121 9) ∧ (s6 121 9) < 2002) (lt' (up s6 127 (s6 121 9).toNat v4) (fun s8 => lt' (up s8 121 9 ((s8 121 9) + 1)) (fun s9 => some (0, s9))))))))))
theorem tm_token (w : ev_W) (d : Nat) (hd : 0 ≤ d) (v1 : Int) (v2 : Int) (v3 : Int) (v4 : Int) (s : iS) : Ew hT w d 303 0 [(0, .ref (tb_nK + 121)), (1, iv v1), (2, iv v2), (3, iv v3), (4, iv v4)] [] s (Cv hT) (m_token v1 v2 v3 v4 s) := by
  unfold m_token
  refine e_mv 1 em_303 (ce_at ce_303 0 rfl) rfl rfl ?_
  refine e_getr 4 em_303 (ce_at ce_303 1 rfl) tq_121 rfl rfl ?_
  refine e_mv 5 em_303 (ce_at ce_303 2 rfl) rfl rfl ?_
  refine e_get 8 em_303 (ce_at ce_303 3 rfl) tq_121 rfl rfl ?_
  refine e_mv 9 em_303 (ce_at ce_303 4 rfl) rfl rfl ?_
  refine e_gd fun g1 => ?_
  refine e_ist 10 em_303 (ce_at ce_303 5 rfl) tq_124 (by decide) g1 rfl (fun s2 => ?_)
  refine e_mv 11 em_303 (ce_at ce_303 6 rfl) rfl rfl ?_
  refine e_getr 14 em_303 (ce_at ce_303 7 rfl) tq_121 rfl rfl ?_
  refine e_mv 15 em_303 (ce_at ce_303 8 rfl) rfl rfl ?_
  refine e_get 18 em_303 (ce_at ce_303 9 rfl) tq_121 rfl rfl ?_
  refine e_mv 19 em_303 (ce_at ce_303 10 rfl) rfl rfl ?_
  refine e_gd fun g3 => ?_
  refine e_ist 20 em_303 (ce_at ce_303 11 rfl) tq_125 (by decide) g3 rfl (fun s4 => ?_)
  refine e_mv 21 em_303 (ce_at ce_303 12 rfl) rfl rfl ?_
  refine e_getr 24 em_303 (ce_at ce_303 13 rfl) tq_121 rfl rfl ?_
  refine e_mv 25 em_303 (ce_at ce_303 14 rfl) rfl rfl ?_
  refine e_get 28 em_303 (ce_at ce_303 15 rfl) tq_121 rfl rfl ?_
  refine e_mv 29 em_303 (ce_at ce_303 16 rfl) rfl rfl ?_
  refine e_mv 30 em_303 (ce_at ce_303 17 rfl) rfl rfl ?_
  refine e_isub 31 em_303 rfl (ce_at ce_303 18 rfl) ?_
  refine e_gd fun g5 => ?_
  refine e_ist 32 em_303 (ce_at ce_303 19 rfl) tq_126 (by decide) g5 rfl (fun s6 => ?_)
  refine e_mv 33 em_303 (ce_at ce_303 20 rfl) rfl rfl ?_
  refine e_getr 36 em_303 (ce_at ce_303 21 rfl) tq_121 rfl rfl ?_
  refine e_mv 37 em_303 (ce_at ce_303 22 rfl) rfl rfl ?_
  refine e_get 40 em_303 (ce_at ce_303 23 rfl) tq_121 rfl rfl ?_
  refine e_mv 42 em_303 (ce_at ce_303 24 rfl) rfl rfl ?_
  refine e_gd fun g7 => ?_
  refine e_ist 43 em_303 (ce_at ce_303 25 rfl) tq_127 (by decide) g7 rfl (fun s8 => ?_)
  refine e_mv 44 em_303 (ce_at ce_303 26 rfl) rfl rfl ?_
  refine e_mv 45 em_303 (ce_at ce_303 27 rfl) rfl rfl ?_
  refine e_get 48 em_303 (ce_at ce_303 28 rfl) tq_121 rfl rfl ?_
  refine e_op 49 em_303 (ce_at ce_303 29 rfl) rfl rfl ?_
  refine e_iadd 50 em_303 rfl (ce_at ce_303 30 rfl) ?_
  refine e_put 53 em_303 (ce_at ce_303 31 rfl) tq_121 rfl rfl rfl (fun s9 => ?_)
  exact e_retv em_303 (ce_at ce_303 32 rfl)
theorem fm_token (v1 : Int) (v2 : Int) (v3 : Int) (v4 : Int) (s : iS) : Fm Prod.snd L_m_token G_m_token s (m_token v1 v2 v3 v4 s) := fm_gd (fm_lt (md_upL (mem_L rfl)) (fun s2 => fm_gd (fm_lt (md_upL (mem_L rfl)) (fun s4 => fm_gd (fm_lt (md_upL (mem_L rfl)) (fun s6 => fm_gd (fm_lt (md_upL (mem_L rfl)) (fun s8 => fm_lt (md_upF (mem_F rfl)) (fun s9 => fm_some md_refl)))))))))
/-! m_wordToken -/
def L_m_wordToken : List Nat := [124, 125, 126, 127]
def G_m_wordToken : List (Nat × Nat) := [(121, 9)]
def m_wordToken_3C (w : ev_W) (d : Nat) (rr2 : Nat) (nn2 : Nat) (gg2 : Nat → Int32) (v1 : Int) (v3 : Int) : (Int × iS) ⊕ (Int × iS) → am_E → Prop := fun q r => q.elim (fun l => ev w d 306 3 ((fun l => [(0, .ref (tb_nK + 121)), (1, iv v1), (2, .ref rr2), (3, iv v3), (4, iv (l.1))]) l) [] (hT ((fun l => l.2) l)) r) (fun e => (fun e r => ev w d 306 24 [(0, .ref (tb_nK + 121)), (1, iv v1), (2, .ref rr2), (3, iv v3), (4, iv (e.1))] [] (hT (e.2)) r) e r)
noncomputable def m_wordToken_3b (nn2 : Nat) (gg2 : Nat → Int32) (v1 : Int) (v3 : Int) (v4 : Int) (s : iS) : Option ((Int × iS) ⊕ (Int × iS)) := bd (m_at v4 s) (fun r1 s1 => bd (m_isWordByte r1 s1) (fun r2 s2 => gd (rg r2) (if r2 = 0 then some (.inr (v4, s2)) else some (.inl ((v4 + 1), s2)))))
theorem tm_wordToken_3b (w : ev_W) (d : Nat) (hd : 2 ≤ d) (nn2 : Nat) (gg2 : Nat → Int32) (rr2 : Nat) (h_rr2 : rr2 < tb_nK) (hk_rr2 : (tb_KT w.2.1 w.2.2)[rr2]? = some (.char, nn2, gg2)) (hl_nn2 : nn2 < 2147483648) (v1 : Int) (v3 : Int) (v4 : Int) (s : iS) : Ew hT w d 306 3 [(0, .ref (tb_nK + 121)), (1, iv v1), (2, .ref rr2), (3, iv v3), (4, iv v4)] [] s (m_wordToken_3C w d rr2 nn2 gg2 v1 v3) (m_wordToken_3b nn2 gg2 v1 v3 v4 s) := by
  unfold m_wordToken_3b
  refine e_mv 4 em_306 (ce_at ce_306 2 rfl) rfl rfl ?_
  refine e_mv 6 em_306 (ce_at ce_306 3 rfl) rfl rfl ?_
  refine e_ivi 9 em_306 (ce_at ce_306 4 rfl) (by omega) (iv_v1 (by decide) tq_121 rfl) em_302 (Nat.le_of_ble_eq_true rfl) rfl (tm_at w (d - 1) (by omega) _ _) (fun r1 s1 => ?_)
  refine e_ivi 12 em_306 (ce_at ce_306 5 rfl) (by omega) (iv_s1 rfl) em_307 (Nat.le_of_ble_eq_true rfl) rfl (tm_isWordByte hT w (d - 1) (by omega) _ _) (fun r2 s2 => ?_)
  refine e_gd fun g3 => ?_
  refine e_ifeq 24 15 em_306 rfl rfl (ce_at ce_306 6 rfl) g3 (fun h4 => ?_) (fun h4 => ?_)
  · refine e_pk [0, 1, 2, 3, 4] rfl rfl ?_
    exact e_out (fun r h => h)
  · refine e_mv 17 em_306 (ce_at ce_306 7 rfl) rfl rfl ?_
    refine e_op 18 em_306 (ce_at ce_306 8 rfl) rfl rfl ?_
    refine e_iadd 19 em_306 rfl (ce_at ce_306 9 rfl) ?_
    refine e_mv 21 em_306 (ce_at ce_306 10 rfl) rfl rfl ?_
    refine e_goto em_306 3 (ce_at ce_306 11 rfl) rfl ?_
    refine e_pk [0, 1, 2, 3, 4] rfl rfl ?_
    exact e_out (fun r h => h)
theorem fm_wordToken_3b (nn2 : Nat) (gg2 : Nat → Int32) (v1 : Int) (v3 : Int) (v4 : Int) (s : iS) : Fm (fun r : (Int × iS) ⊕ (Int × iS) => r.elim (fun l => l.2) (fun e => e.2)) L_m_wordToken G_m_wordToken s (m_wordToken_3b nn2 gg2 v1 v3 v4 s) := fm_bd (fm_sub (fm_at _ _) (mem_sub_L rfl) (mem_sub_F rfl)) (fun r1 s1 => fm_bd (fm_sub (fm_isWordByte _ _) (mem_sub_L rfl) (mem_sub_F rfl)) (fun r2 s2 => fm_gd (fm_if (fm_some md_refl) (fm_some md_refl))))
noncomputable def m_wordToken_73 (nn2 : Nat) (gg2 : Nat → Int32) (v1 : Int) (v4 : Int) (v5 : Int) (t0 : Int) (s : iS) : Option (Int × iS) := bd (m_token t0 v1 v4 v5 s) (fun _ s1 => some (v4, s1))
theorem tm_wordToken_73 (w : ev_W) (d : Nat) (hd : 2 ≤ d) (nn2 : Nat) (gg2 : Nat → Int32) (rr2 : Nat) (h_rr2 : rr2 < tb_nK) (hk_rr2 : (tb_KT w.2.1 w.2.2)[rr2]? = some (.char, nn2, gg2)) (hl_nn2 : nn2 < 2147483648) (v1 : Int) (v4 : Int) (v5 : Int) (t0 : Int) (s : iS) : Ew hT w d 306 73 [(1, iv v1), (4, iv v4), (5, iv v5)] [iv t0, .ref (tb_nK + 121)] s (Ci hT) (m_wordToken_73 nn2 gg2 v1 v4 v5 t0 s) := by
  unfold m_wordToken_73
  refine e_mv 74 em_306 (ce_at ce_306 41 rfl) rfl rfl ?_
  refine e_mv 76 em_306 (ce_at ce_306 42 rfl) rfl rfl ?_
  refine e_mv 78 em_306 (ce_at ce_306 43 rfl) rfl rfl ?_
  refine e_ivv 81 em_306 (ce_at ce_306 44 rfl) (by omega) (iv_v4 (by decide) tq_121 rfl) em_303 (Nat.le_of_ble_eq_true rfl) rfl (tm_token w (d - 1) (by omega) _ _ _ _ _) (fun r1 s1 => ?_)
  refine e_mv 83 em_306 (ce_at ce_306 45 rfl) rfl rfl ?_
  exact e_reti em_306 (ce_at ce_306 46 rfl)
theorem fm_wordToken_73 (nn2 : Nat) (gg2 : Nat → Int32) (v1 : Int) (v4 : Int) (v5 : Int) (t0 : Int) (s : iS) : Fm Prod.snd L_m_wordToken G_m_wordToken s (m_wordToken_73 nn2 gg2 v1 v4 v5 t0 s) := fm_bd (fm_sub (fm_token _ _ _ _ _) (mem_sub_L rfl) (mem_sub_F rfl)) (fun r1 s1 => fm_some md_refl)
noncomputable def m_wordToken_50 (nn2 : Nat) (gg2 : Nat → Int32) (v1 : Int) (v4 : Int) (s : iS) : Option (Int × iS) := bd (m_wordOf nn2 gg2 v1 (v4 - v1) s) (fun r1 s1 => gd (rg r1) (if r1 < 0 then m_wordToken_73 nn2 gg2 v1 v4 r1 1 s1 else m_wordToken_73 nn2 gg2 v1 v4 r1 5 s1))
theorem tm_wordToken_50 (w : ev_W) (d : Nat) (hd : 2 ≤ d) (nn2 : Nat) (gg2 : Nat → Int32) (rr2 : Nat) (h_rr2 : rr2 < tb_nK) (hk_rr2 : (tb_KT w.2.1 w.2.2)[rr2]? = some (.char, nn2, gg2)) (hl_nn2 : nn2 < 2147483648) (v1 : Int) (v4 : Int) (s : iS) : Ew hT w d 306 50 [(0, .ref (tb_nK + 121)), (1, iv v1), (2, .ref rr2), (4, iv v4)] [] s (Ci hT) (m_wordToken_50 nn2 gg2 v1 v4 s) := by
  unfold m_wordToken_50
  refine e_mv 51 em_306 (ce_at ce_306 27 rfl) rfl rfl ?_
  refine e_mv 52 em_306 (ce_at ce_306 28 rfl) rfl rfl ?_
  refine e_mv 53 em_306 (ce_at ce_306 29 rfl) rfl rfl ?_
  refine e_mv 55 em_306 (ce_at ce_306 30 rfl) rfl rfl ?_
  refine e_mv 56 em_306 (ce_at ce_306 31 rfl) rfl rfl ?_
  refine e_isub 57 em_306 rfl (ce_at ce_306 32 rfl) ?_
  refine e_ivi 60 em_306 (ce_at ce_306 33 rfl) (by omega) (iv_v3 (by decide) tq_121 rfl) em_309 (Nat.le_of_ble_eq_true rfl) rfl (tm_wordOf w (d - 1) (by omega) nn2 gg2 rr2 h_rr2 hk_rr2 hl_nn2 _ _ _) (fun r1 s1 => ?_)
  refine e_mv 62 em_306 (ce_at ce_306 34 rfl) rfl rfl ?_
  refine e_mv 63 em_306 (ce_at ce_306 35 rfl) rfl rfl ?_
  refine e_mv 65 em_306 (ce_at ce_306 36 rfl) rfl rfl ?_
  refine e_gd fun g2 => ?_
  refine e_iflt 72 68 em_306 rfl rfl (ce_at ce_306 37 rfl) g2 (fun h3 => ?_) (fun h3 => ?_)
  · refine e_op 73 em_306 (ce_at ce_306 40 rfl) rfl rfl ?_
    refine e_pk [1, 4, 5] rfl rfl ?_
    exact tm_wordToken_73 w d hd nn2 gg2 rr2 h_rr2 hk_rr2 hl_nn2 _ _ _ _ _
  · refine e_op 69 em_306 (ce_at ce_306 38 rfl) rfl rfl ?_
    refine e_goto em_306 73 (ce_at ce_306 39 rfl) rfl ?_
    refine e_pk [1, 4, 5] rfl rfl ?_
    exact tm_wordToken_73 w d hd nn2 gg2 rr2 h_rr2 hk_rr2 hl_nn2 _ _ _ _ _
theorem fm_wordToken_50 (nn2 : Nat) (gg2 : Nat → Int32) (v1 : Int) (v4 : Int) (s : iS) : Fm Prod.snd L_m_wordToken G_m_wordToken s (m_wordToken_50 nn2 gg2 v1 v4 s) := fm_bd (fm_sub (fm_wordOf nn2 gg2 _ _ _) (mem_sub_L rfl) (mem_sub_F rfl)) (fun r1 s1 => fm_gd (fm_if (fm_wordToken_73 nn2 gg2 _ _ _ _ _) (fm_wordToken_73 nn2 gg2 _ _ _ _ _)))
noncomputable def m_wordToken_24 (nn2 : Nat) (gg2 : Nat → Int32) (v1 : Int) (v3 : Int) (v4 : Int) (s : iS) : Option (Int × iS) := gd (rg (v4 - v1)) (if 16 < (v4 - v1) then some ((-1), s) else gd (rg v3) (if v3 = 0 then m_wordToken_50 nn2 gg2 v1 v4 s else gd (0 ≤ v1 ∧ v1 < 4000) (gd (rg (s 123 v1.toNat)) (if (s 123 v1.toNat) = 95 then some ((-1), s) else m_wordToken_50 nn2 gg2 v1 v4 s))))
theorem tm_wordToken_24 (w : ev_W) (d : Nat) (hd : 2 ≤ d) (nn2 : Nat) (gg2 : Nat → Int32) (rr2 : Nat) (h_rr2 : rr2 < tb_nK) (hk_rr2 : (tb_KT w.2.1 w.2.2)[rr2]? = some (.char, nn2, gg2)) (hl_nn2 : nn2 < 2147483648) (v1 : Int) (v3 : Int) (v4 : Int) (s : iS) : Ew hT w d 306 24 [(0, .ref (tb_nK + 121)), (1, iv v1), (2, .ref rr2), (3, iv v3), (4, iv v4)] [] s (Ci hT) (m_wordToken_24 nn2 gg2 v1 v3 v4 s) := by
  unfold m_wordToken_24
  refine e_mv 26 em_306 (ce_at ce_306 12 rfl) rfl rfl ?_
  refine e_mv 27 em_306 (ce_at ce_306 13 rfl) rfl rfl ?_
  refine e_isub 28 em_306 rfl (ce_at ce_306 14 rfl) ?_
  refine e_bip 30 em_306 (ce_at ce_306 15 rfl) (by decide) rfl ?_
  refine e_gd fun g1 => ?_
  refine e_cmgt 48 33 em_306 rfl rfl (ce_at ce_306 16 rfl) g1 (by decide) (fun h2 => ?_) (fun h2 => ?_)
  · refine e_op 49 em_306 (ce_at ce_306 25 rfl) rfl rfl ?_
    exact e_reti em_306 (ce_at ce_306 26 rfl)
  · refine e_mv 34 em_306 (ce_at ce_306 17 rfl) rfl rfl ?_
    refine e_gd fun g3 => ?_
    refine e_ifeq 50 37 em_306 rfl rfl (ce_at ce_306 18 rfl) g3 (fun h4 => ?_) (fun h4 => ?_)
    · refine e_pk [0, 1, 2, 4] rfl rfl ?_
      exact tm_wordToken_50 w d hd nn2 gg2 rr2 h_rr2 hk_rr2 hl_nn2 _ _ _
    · refine e_mv 38 em_306 (ce_at ce_306 19 rfl) rfl rfl ?_
      refine e_getr 41 em_306 (ce_at ce_306 20 rfl) tq_121 rfl rfl ?_
      refine e_mv 42 em_306 (ce_at ce_306 21 rfl) rfl rfl ?_
      refine e_gd fun g5 => ?_
      refine e_ild 43 em_306 (ce_at ce_306 22 rfl) tq_123 (by decide) g5 rfl ?_
      refine e_bip 45 em_306 (ce_at ce_306 23 rfl) (by decide) rfl ?_
      refine e_gd fun g6 => ?_
      refine e_cmne 50 48 em_306 rfl rfl (ce_at ce_306 24 rfl) g6 (by decide) (fun h7 => ?_) (fun h7 => ?_)
      · refine e_pk [0, 1, 2, 4] rfl rfl ?_
        exact tm_wordToken_50 w d hd nn2 gg2 rr2 h_rr2 hk_rr2 hl_nn2 _ _ _
      · refine e_op 49 em_306 (ce_at ce_306 25 rfl) rfl rfl ?_
        exact e_reti em_306 (ce_at ce_306 26 rfl)
theorem fm_wordToken_24 (nn2 : Nat) (gg2 : Nat → Int32) (v1 : Int) (v3 : Int) (v4 : Int) (s : iS) : Fm Prod.snd L_m_wordToken G_m_wordToken s (m_wordToken_24 nn2 gg2 v1 v3 v4 s) := fm_gd (fm_if (fm_some md_refl) (fm_gd (fm_if (fm_wordToken_50 nn2 gg2 _ _ _) (fm_gd (fm_gd (fm_if (fm_some md_refl) (fm_wordToken_50 nn2 gg2 _ _ _)))))))
noncomputable def m_wordToken_3 (nn2 : Nat) (gg2 : Nat → Int32) (v1 : Int) (v3 : Int) (v4 : Int) (s : iS) : Option (Int × iS) := (lp (L := Int × iS) (E := Int × iS) (fun l => m_wordToken_3b nn2 gg2 v1 v3 (l.1) (l.2)) (v4, s)).bind (fun e => m_wordToken_24 nn2 gg2 v1 v3 (e.1) (e.2))
theorem tm_wordToken_3 (w : ev_W) (d : Nat) (hd : 2 ≤ d) (nn2 : Nat) (gg2 : Nat → Int32) (rr2 : Nat) (h_rr2 : rr2 < tb_nK) (hk_rr2 : (tb_KT w.2.1 w.2.2)[rr2]? = some (.char, nn2, gg2)) (hl_nn2 : nn2 < 2147483648) (v1 : Int) (v3 : Int) (v4 : Int) (s : iS) : Ew hT w d 306 3 [(0, .ref (tb_nK + 121)), (1, iv v1), (2, .ref rr2), (3, iv v3), (4, iv v4)] [] s (Ci hT) (m_wordToken_3 nn2 gg2 v1 v3 v4 s) := by
  unfold m_wordToken_3
  refine e_lp (L := Int × iS) (E := Int × iS) (LO := fun l => [(0, .ref (tb_nK + 121)), (1, iv v1), (2, .ref rr2), (3, iv v3), (4, iv (l.1))]) (LS := fun l => l.2) (CE := fun e r => ev w d 306 24 [(0, .ref (tb_nK + 121)), (1, iv v1), (2, .ref rr2), (3, iv v3), (4, iv (e.1))] [] (hT (e.2)) r) (fun l => tm_wordToken_3b w d hd nn2 gg2 rr2 h_rr2 hk_rr2 hl_nn2 _ _ _ _) ?_ (v4, s)
  intro e
  show Ew hT w d 306 24 [(0, .ref (tb_nK + 121)), (1, iv v1), (2, .ref rr2), (3, iv v3), (4, iv (e.1))] [] e.2 (Ci hT) _
  refine e_pk [0, 1, 2, 3, 4] rfl rfl ?_
  exact tm_wordToken_24 w d hd nn2 gg2 rr2 h_rr2 hk_rr2 hl_nn2 _ _ _ _
theorem fm_wordToken_3 (nn2 : Nat) (gg2 : Nat → Int32) (v1 : Int) (v3 : Int) (v4 : Int) (s : iS) : Fm Prod.snd L_m_wordToken G_m_wordToken s (m_wordToken_3 nn2 gg2 v1 v3 v4 s) := by
  unfold m_wordToken_3
  refine fm_lp (A := Int × iS) (E := Int × iS) (LS := fun l => l.2) (LE := fun e => e.2) ?_ ?_ (v4, s)
  · exact fun l => fm_wordToken_3b nn2 gg2 _ _ _ _
  · exact (fun e => fm_wordToken_24 nn2 gg2 _ _ _ _)
noncomputable def m_wordToken (nn2 : Nat) (gg2 : Nat → Int32) (v1 : Int) (v3 : Int) (s : iS) : Option (Int × iS) := m_wordToken_3 nn2 gg2 v1 v3 v1 s
theorem tm_wordToken (w : ev_W) (d : Nat) (hd : 2 ≤ d) (nn2 : Nat) (gg2 : Nat → Int32) (rr2 : Nat) (h_rr2 : rr2 < tb_nK) (hk_rr2 : (tb_KT w.2.1 w.2.2)[rr2]? = some (.char, nn2, gg2)) (hl_nn2 : nn2 < 2147483648) (v1 : Int) (v3 : Int) (s : iS) : Ew hT w d 306 0 [(0, .ref (tb_nK + 121)), (1, iv v1), (2, .ref rr2), (3, iv v3)] [] s (Ci hT) (m_wordToken nn2 gg2 v1 v3 s) := by
  unfold m_wordToken
  refine e_mv 1 em_306 (ce_at ce_306 0 rfl) rfl rfl ?_
  refine e_mv 3 em_306 (ce_at ce_306 1 rfl) rfl rfl ?_
  refine e_pk [0, 1, 2, 3, 4] rfl rfl ?_
  exact tm_wordToken_3 w d hd nn2 gg2 rr2 h_rr2 hk_rr2 hl_nn2 _ _ _ _
theorem fm_wordToken (nn2 : Nat) (gg2 : Nat → Int32) (v1 : Int) (v3 : Int) (s : iS) : Fm Prod.snd L_m_wordToken G_m_wordToken s (m_wordToken nn2 gg2 v1 v3 s) := fm_wordToken_3 nn2 gg2 _ _ _ _
/-! m_numberToken -/
def L_m_numberToken : List Nat := [124, 125, 126, 127]
def G_m_numberToken : List (Nat × Nat) := [(121, 9)]
def m_numberToken_6C (w : ev_W) (d : Nat) (v1 : Int) (v2 : Int) (v3 : Int) : (Int × Int × iS) ⊕ (Int × Int × iS) → am_E → Prop := fun q r => q.elim (fun l => ev w d 310 6 ((fun l => [(0, .ref (tb_nK + 121)), (1, iv v1), (2, iv v2), (3, iv v3), (4, iv (l.1)), (5, iv (l.2.1))]) l) [] (hT ((fun l => l.2.2) l)) r) (fun e => (fun e r => ev w d 310 53 [(0, .ref (tb_nK + 121)), (1, iv v1), (2, iv v2), (3, iv v3), (4, iv (e.1)), (5, iv (e.2.1))] [] (hT (e.2.2)) r) e r)
noncomputable def m_numberToken_6b (v1 : Int) (v2 : Int) (v3 : Int) (v4 : Int) (v5 : Int) (s : iS) : Option ((Int × Int × iS) ⊕ (Int × Int × iS)) := bd (m_at v4 s) (fun r1 s1 => bd (m_isDigit r1 s1) (fun r2 s2 => gd (rg r2) (if r2 = 0 then some (.inr (v4, v5, s2)) else gd (rg (v4 - v1)) (gd (rg v2) (if v2 < (v4 - v1) then some (.inr (v4, v5, s2)) else gd (0 ≤ v4 ∧ v4 < 4000) (some (.inl ((v4 + 1), (((10 * v5) + (s2 123 v4.toNat)) - 48), s2))))))))
theorem tm_numberToken_6b (w : ev_W) (d : Nat) (hd : 2 ≤ d) (v1 : Int) (v2 : Int) (v3 : Int) (v4 : Int) (v5 : Int) (s : iS) : Ew hT w d 310 6 [(0, .ref (tb_nK + 121)), (1, iv v1), (2, iv v2), (3, iv v3), (4, iv v4), (5, iv v5)] [] s (m_numberToken_6C w d v1 v2 v3) (m_numberToken_6b v1 v2 v3 v4 v5 s) := by
  unfold m_numberToken_6b
  refine e_mv 7 em_310 (ce_at ce_310 4 rfl) rfl rfl ?_
  refine e_mv 9 em_310 (ce_at ce_310 5 rfl) rfl rfl ?_
  refine e_ivi 12 em_310 (ce_at ce_310 6 rfl) (by omega) (iv_v1 (by decide) tq_121 rfl) em_302 (Nat.le_of_ble_eq_true rfl) rfl (tm_at w (d - 1) (by omega) _ _) (fun r1 s1 => ?_)
  refine e_ivi 15 em_310 (ce_at ce_310 7 rfl) (by omega) (iv_s1 rfl) em_308 (Nat.le_of_ble_eq_true rfl) rfl (tm_isDigit hT w (d - 1) (by omega) _ _) (fun r2 s2 => ?_)
  refine e_gd fun g3 => ?_
  refine e_ifeq 53 18 em_310 rfl rfl (ce_at ce_310 8 rfl) g3 (fun h4 => ?_) (fun h4 => ?_)
  · refine e_pk [0, 1, 2, 3, 4, 5] rfl rfl ?_
    exact e_out (fun r h => h)
  · refine e_mv 20 em_310 (ce_at ce_310 9 rfl) rfl rfl ?_
    refine e_mv 21 em_310 (ce_at ce_310 10 rfl) rfl rfl ?_
    refine e_isub 22 em_310 rfl (ce_at ce_310 11 rfl) ?_
    refine e_mv 23 em_310 (ce_at ce_310 12 rfl) rfl rfl ?_
    refine e_gd fun g5 => ?_
    refine e_gd fun g6 => ?_
    refine e_cmgt 53 26 em_310 rfl rfl (ce_at ce_310 13 rfl) g5 g6 (fun h7 => ?_) (fun h7 => ?_)
    · refine e_pk [0, 1, 2, 3, 4, 5] rfl rfl ?_
      exact e_out (fun r h => h)
    · refine e_bip 28 em_310 (ce_at ce_310 14 rfl) (by decide) rfl ?_
      refine e_mv 30 em_310 (ce_at ce_310 15 rfl) rfl rfl ?_
      refine e_imul 31 em_310 rfl (ce_at ce_310 16 rfl) ?_
      refine e_mv 32 em_310 (ce_at ce_310 17 rfl) rfl rfl ?_
      refine e_getr 35 em_310 (ce_at ce_310 18 rfl) tq_121 rfl rfl ?_
      refine e_mv 37 em_310 (ce_at ce_310 19 rfl) rfl rfl ?_
      refine e_gd fun g8 => ?_
      refine e_ild 38 em_310 (ce_at ce_310 20 rfl) tq_123 (by decide) g8 rfl ?_
      refine e_iadd 39 em_310 rfl (ce_at ce_310 21 rfl) ?_
      refine e_bip 41 em_310 (ce_at ce_310 22 rfl) (by decide) rfl ?_
      refine e_isub 42 em_310 rfl (ce_at ce_310 23 rfl) ?_
      refine e_mv 44 em_310 (ce_at ce_310 24 rfl) rfl rfl ?_
      refine e_mv 46 em_310 (ce_at ce_310 25 rfl) rfl rfl ?_
      refine e_op 47 em_310 (ce_at ce_310 26 rfl) rfl rfl ?_
      refine e_iadd 48 em_310 rfl (ce_at ce_310 27 rfl) ?_
      refine e_mv 50 em_310 (ce_at ce_310 28 rfl) rfl rfl ?_
      refine e_goto em_310 6 (ce_at ce_310 29 rfl) rfl ?_
      refine e_pk [0, 1, 2, 3, 4, 5] rfl rfl ?_
      exact e_out (fun r h => h)
theorem fm_numberToken_6b (v1 : Int) (v2 : Int) (v3 : Int) (v4 : Int) (v5 : Int) (s : iS) : Fm (fun r : (Int × Int × iS) ⊕ (Int × Int × iS) => r.elim (fun l => l.2.2) (fun e => e.2.2)) L_m_numberToken G_m_numberToken s (m_numberToken_6b v1 v2 v3 v4 v5 s) := fm_bd (fm_sub (fm_at _ _) (mem_sub_L rfl) (mem_sub_F rfl)) (fun r1 s1 => fm_bd (fm_sub (fm_isDigit _ _) (mem_sub_L rfl) (mem_sub_F rfl)) (fun r2 s2 => fm_gd (fm_if (fm_some md_refl) (fm_gd (fm_gd (fm_if (fm_some md_refl) (fm_gd (fm_some md_refl))))))))
noncomputable def m_numberToken_53 (v1 : Int) (v2 : Int) (v3 : Int) (v4 : Int) (v5 : Int) (s : iS) : Option (Int × iS) := gd (rg (v4 - v1)) (gd (rg v2) (if v2 < (v4 - v1) then some ((-1), s) else bd (m_at v4 s) (fun r4 s4 => bd (m_isWordByte r4 s4) (fun r5 s5 => gd (rg r5) (if r5 = 0 then gd (rg v5) (gd (rg v3) (if v5 ≤ v3 then bd (m_token 2 v1 v4 v5 s5) (fun _ s11 => some (v4, s11)) else some ((-1), s5))) else some ((-1), s5))))))
theorem tm_numberToken_53 (w : ev_W) (d : Nat) (hd : 2 ≤ d) (v1 : Int) (v2 : Int) (v3 : Int) (v4 : Int) (v5 : Int) (s : iS) : Ew hT w d 310 53 [(0, .ref (tb_nK + 121)), (1, iv v1), (2, iv v2), (3, iv v3), (4, iv v4), (5, iv v5)] [] s (Ci hT) (m_numberToken_53 v1 v2 v3 v4 v5 s) := by
  unfold m_numberToken_53
  refine e_mv 55 em_310 (ce_at ce_310 30 rfl) rfl rfl ?_
  refine e_mv 56 em_310 (ce_at ce_310 31 rfl) rfl rfl ?_
  refine e_isub 57 em_310 rfl (ce_at ce_310 32 rfl) ?_
  refine e_mv 58 em_310 (ce_at ce_310 33 rfl) rfl rfl ?_
  refine e_gd fun g1 => ?_
  refine e_gd fun g2 => ?_
  refine e_cmgt 79 61 em_310 rfl rfl (ce_at ce_310 34 rfl) g1 g2 (fun h3 => ?_) (fun h3 => ?_)
  · refine e_op 80 em_310 (ce_at ce_310 43 rfl) rfl rfl ?_
    exact e_reti em_310 (ce_at ce_310 44 rfl)
  · refine e_mv 62 em_310 (ce_at ce_310 35 rfl) rfl rfl ?_
    refine e_mv 64 em_310 (ce_at ce_310 36 rfl) rfl rfl ?_
    refine e_ivi 67 em_310 (ce_at ce_310 37 rfl) (by omega) (iv_v1 (by decide) tq_121 rfl) em_302 (Nat.le_of_ble_eq_true rfl) rfl (tm_at w (d - 1) (by omega) _ _) (fun r4 s4 => ?_)
    refine e_ivi 70 em_310 (ce_at ce_310 38 rfl) (by omega) (iv_s1 rfl) em_307 (Nat.le_of_ble_eq_true rfl) rfl (tm_isWordByte hT w (d - 1) (by omega) _ _) (fun r5 s5 => ?_)
    refine e_gd fun g6 => ?_
    refine e_ifne 79 73 em_310 rfl rfl (ce_at ce_310 39 rfl) g6 (fun h7 => ?_) (fun h7 => ?_)
    · refine e_op 80 em_310 (ce_at ce_310 43 rfl) rfl rfl ?_
      exact e_reti em_310 (ce_at ce_310 44 rfl)
    · refine e_mv 75 em_310 (ce_at ce_310 40 rfl) rfl rfl ?_
      refine e_mv 76 em_310 (ce_at ce_310 41 rfl) rfl rfl ?_
      refine e_gd fun g8 => ?_
      refine e_gd fun g9 => ?_
      refine e_cmle 81 79 em_310 rfl rfl (ce_at ce_310 42 rfl) g8 g9 (fun h10 => ?_) (fun h10 => ?_)
      · refine e_mv 82 em_310 (ce_at ce_310 45 rfl) rfl rfl ?_
        refine e_op 83 em_310 (ce_at ce_310 46 rfl) rfl rfl ?_
        refine e_mv 84 em_310 (ce_at ce_310 47 rfl) rfl rfl ?_
        refine e_mv 86 em_310 (ce_at ce_310 48 rfl) rfl rfl ?_
        refine e_mv 88 em_310 (ce_at ce_310 49 rfl) rfl rfl ?_
        refine e_ivv 91 em_310 (ce_at ce_310 50 rfl) (by omega) (iv_v4 (by decide) tq_121 rfl) em_303 (Nat.le_of_ble_eq_true rfl) rfl (tm_token w (d - 1) (by omega) _ _ _ _ _) (fun r11 s11 => ?_)
        refine e_mv 93 em_310 (ce_at ce_310 51 rfl) rfl rfl ?_
        exact e_reti em_310 (ce_at ce_310 52 rfl)
      · refine e_op 80 em_310 (ce_at ce_310 43 rfl) rfl rfl ?_
        exact e_reti em_310 (ce_at ce_310 44 rfl)
theorem fm_numberToken_53 (v1 : Int) (v2 : Int) (v3 : Int) (v4 : Int) (v5 : Int) (s : iS) : Fm Prod.snd L_m_numberToken G_m_numberToken s (m_numberToken_53 v1 v2 v3 v4 v5 s) := fm_gd (fm_gd (fm_if (fm_some md_refl) (fm_bd (fm_sub (fm_at _ _) (mem_sub_L rfl) (mem_sub_F rfl)) (fun r4 s4 => fm_bd (fm_sub (fm_isWordByte _ _) (mem_sub_L rfl) (mem_sub_F rfl)) (fun r5 s5 => fm_gd (fm_if (fm_gd (fm_gd (fm_if (fm_bd (fm_sub (fm_token _ _ _ _ _) (mem_sub_L rfl) (mem_sub_F rfl)) (fun r11 s11 => fm_some md_refl)) (fm_some md_refl)))) (fm_some md_refl)))))))
noncomputable def m_numberToken_6 (v1 : Int) (v2 : Int) (v3 : Int) (v4 : Int) (v5 : Int) (s : iS) : Option (Int × iS) := (lp (L := Int × Int × iS) (E := Int × Int × iS) (fun l => m_numberToken_6b v1 v2 v3 (l.1) (l.2.1) (l.2.2)) (v4, v5, s)).bind (fun e => m_numberToken_53 v1 v2 v3 (e.1) (e.2.1) (e.2.2))
theorem tm_numberToken_6 (w : ev_W) (d : Nat) (hd : 2 ≤ d) (v1 : Int) (v2 : Int) (v3 : Int) (v4 : Int) (v5 : Int) (s : iS) : Ew hT w d 310 6 [(0, .ref (tb_nK + 121)), (1, iv v1), (2, iv v2), (3, iv v3), (4, iv v4), (5, iv v5)] [] s (Ci hT) (m_numberToken_6 v1 v2 v3 v4 v5 s) := by
  unfold m_numberToken_6
  refine e_lp (L := Int × Int × iS) (E := Int × Int × iS) (LO := fun l => [(0, .ref (tb_nK + 121)), (1, iv v1), (2, iv v2), (3, iv v3), (4, iv (l.1)), (5, iv (l.2.1))]) (LS := fun l => l.2.2) (CE := fun e r => ev w d 310 53 [(0, .ref (tb_nK + 121)), (1, iv v1), (2, iv v2), (3, iv v3), (4, iv (e.1)), (5, iv (e.2.1))] [] (hT (e.2.2)) r) (fun l => tm_numberToken_6b w d hd _ _ _ _ _ _) ?_ (v4, v5, s)
  intro e
  show Ew hT w d 310 53 [(0, .ref (tb_nK + 121)), (1, iv v1), (2, iv v2), (3, iv v3), (4, iv (e.1)), (5, iv (e.2.1))] [] e.2.2 (Ci hT) _
  refine e_pk [0, 1, 2, 3, 4, 5] rfl rfl ?_
  exact tm_numberToken_53 w d hd _ _ _ _ _ _
theorem fm_numberToken_6 (v1 : Int) (v2 : Int) (v3 : Int) (v4 : Int) (v5 : Int) (s : iS) : Fm Prod.snd L_m_numberToken G_m_numberToken s (m_numberToken_6 v1 v2 v3 v4 v5 s) := by
  unfold m_numberToken_6
  refine fm_lp (A := Int × Int × iS) (E := Int × Int × iS) (LS := fun l => l.2.2) (LE := fun e => e.2.2) ?_ ?_ (v4, v5, s)
  · exact fun l => fm_numberToken_6b _ _ _ _ _ _
  · exact (fun e => fm_numberToken_53 _ _ _ _ _ _)
noncomputable def m_numberToken (v1 : Int) (v2 : Int) (v3 : Int) (s : iS) : Option (Int × iS) := m_numberToken_6 v1 v2 v3 v1 0 s
theorem tm_numberToken (w : ev_W) (d : Nat) (hd : 2 ≤ d) (v1 : Int) (v2 : Int) (v3 : Int) (s : iS) : Ew hT w d 310 0 [(0, .ref (tb_nK + 121)), (1, iv v1), (2, iv v2), (3, iv v3)] [] s (Ci hT) (m_numberToken v1 v2 v3 s) := by
  unfold m_numberToken
  refine e_mv 1 em_310 (ce_at ce_310 0 rfl) rfl rfl ?_
  refine e_mv 3 em_310 (ce_at ce_310 1 rfl) rfl rfl ?_
  refine e_op 4 em_310 (ce_at ce_310 2 rfl) rfl rfl ?_
  refine e_mv 6 em_310 (ce_at ce_310 3 rfl) rfl rfl ?_
  refine e_pk [0, 1, 2, 3, 4, 5] rfl rfl ?_
  exact tm_numberToken_6 w d hd _ _ _ _ _ _
theorem fm_numberToken (v1 : Int) (v2 : Int) (v3 : Int) (s : iS) : Fm Prod.snd L_m_numberToken G_m_numberToken s (m_numberToken v1 v2 v3 s) := fm_numberToken_6 _ _ _ _ _ _
/-! m_languageToken -/
def L_m_languageToken : List Nat := [124, 125, 126, 127]
def G_m_languageToken : List (Nat × Nat) := [(121, 9)]
noncomputable def m_languageToken_20 (v1 : Int) (s : iS) : Option (Int × iS) := bd (m_wordToken 122 ka_7 v1 0 s) (fun r1 s1 => some (r1, s1))
theorem tm_languageToken_20 (w : ev_W) (d : Nat) (hd : 3 ≤ d) (v1 : Int) (s : iS) : Ew hT w d 311 20 [(0, .ref (tb_nK + 121)), (1, iv v1)] [] s (Ci hT) (m_languageToken_20 v1 s) := by
  unfold m_languageToken_20
  refine e_mv 21 em_311 (ce_at ce_311 11 rfl) rfl rfl ?_
  refine e_mv 22 em_311 (ce_at ce_311 12 rfl) rfl rfl ?_
  refine e_gst 25 em_311 (ce_at ce_311 13 rfl) rfl rfl ?_
  refine e_op 26 em_311 (ce_at ce_311 14 rfl) rfl rfl ?_
  refine e_ivi 29 em_311 (ce_at ce_311 15 rfl) (by omega) (iv_v3 (by decide) tq_121 rfl) em_306 (Nat.le_of_ble_eq_true rfl) rfl (tm_wordToken w (d - 1) (by omega) 122 ka_7 7 (by decide) (kt_7 _ _) (by decide) _ _ _) (fun r1 s1 => ?_)
  exact e_reti em_311 (ce_at ce_311 16 rfl)
theorem fm_languageToken_20 (v1 : Int) (s : iS) : Fm Prod.snd L_m_languageToken G_m_languageToken s (m_languageToken_20 v1 s) := fm_bd (fm_sub (fm_wordToken 122 ka_7 _ _ _) (mem_sub_L rfl) (mem_sub_F rfl)) (fun r1 s1 => fm_some md_refl)
def m_languageToken_57C (w : ev_W) (d : Nat) (v1 : Int) : (Int × iS) ⊕ (Int × iS) → am_E → Prop := fun q r => q.elim (fun l => ev w d 311 57 ((fun l => [(0, .ref (tb_nK + 121)), (1, iv v1), (3, iv (l.1))]) l) [] (hT ((fun l => l.2) l)) r) (fun e => (fun e r => ev w d 311 113 [(0, .ref (tb_nK + 121)), (1, iv v1), (3, iv (e.1))] [] (hT (e.2)) r) e r)
noncomputable def m_languageToken_57b (v1 : Int) (v3 : Int) (s : iS) : Option ((Int × iS) ⊕ (Int × iS)) := gd (rg v3) (gd (rg (s 121 3)) (if (s 121 3) ≤ v3 then some (.inr (v3, s)) else gd (0 ≤ v3 ∧ v3 < 4000) (gd (rg (s 123 v3.toNat)) (if (s 123 v3.toNat) = 34 then some (.inr (v3, s)) else if (s 123 v3.toNat) < 32 then some (.inr (v3, s)) else if 126 < (s 123 v3.toNat) then some (.inr (v3, s)) else gd (rg (v3 - v1)) (if 61 < (v3 - v1) then some (.inr (v3, s)) else some (.inl ((v3 + 1), s)))))))
theorem tm_languageToken_57b (w : ev_W) (d : Nat) (hd : 3 ≤ d) (v1 : Int) (v3 : Int) (s : iS) : Ew hT w d 311 57 [(0, .ref (tb_nK + 121)), (1, iv v1), (3, iv v3)] [] s (m_languageToken_57C w d v1) (m_languageToken_57b v1 v3 s) := by
  unfold m_languageToken_57b
  refine e_mv 58 em_311 (ce_at ce_311 33 rfl) rfl rfl ?_
  refine e_mv 59 em_311 (ce_at ce_311 34 rfl) rfl rfl ?_
  refine e_get 62 em_311 (ce_at ce_311 35 rfl) tq_121 rfl rfl ?_
  refine e_gd fun g1 => ?_
  refine e_gd fun g2 => ?_
  refine e_cmge 113 65 em_311 rfl rfl (ce_at ce_311 36 rfl) g1 g2 (fun h3 => ?_) (fun h3 => ?_)
  · refine e_pk [0, 1, 3] rfl rfl ?_
    exact e_out (fun r h => h)
  · refine e_mv 66 em_311 (ce_at ce_311 37 rfl) rfl rfl ?_
    refine e_getr 69 em_311 (ce_at ce_311 38 rfl) tq_121 rfl rfl ?_
    refine e_mv 70 em_311 (ce_at ce_311 39 rfl) rfl rfl ?_
    refine e_gd fun g4 => ?_
    refine e_ild 71 em_311 (ce_at ce_311 40 rfl) tq_123 (by decide) g4 rfl ?_
    refine e_bip 73 em_311 (ce_at ce_311 41 rfl) (by decide) rfl ?_
    refine e_gd fun g5 => ?_
    refine e_cmeq 113 76 em_311 rfl rfl (ce_at ce_311 42 rfl) g5 (by decide) (fun h6 => ?_) (fun h6 => ?_)
    · refine e_pk [0, 1, 3] rfl rfl ?_
      exact e_out (fun r h => h)
    · refine e_mv 77 em_311 (ce_at ce_311 43 rfl) rfl rfl ?_
      refine e_getr 80 em_311 (ce_at ce_311 44 rfl) tq_121 rfl rfl ?_
      refine e_mv 81 em_311 (ce_at ce_311 45 rfl) rfl rfl ?_
      refine e_ild 82 em_311 (ce_at ce_311 46 rfl) tq_123 (by decide) g4 rfl ?_
      refine e_bip 84 em_311 (ce_at ce_311 47 rfl) (by decide) rfl ?_
      refine e_cmlt 113 87 em_311 rfl rfl (ce_at ce_311 48 rfl) g5 (by decide) (fun h7 => ?_) (fun h7 => ?_)
      · refine e_pk [0, 1, 3] rfl rfl ?_
        exact e_out (fun r h => h)
      · refine e_mv 88 em_311 (ce_at ce_311 49 rfl) rfl rfl ?_
        refine e_getr 91 em_311 (ce_at ce_311 50 rfl) tq_121 rfl rfl ?_
        refine e_mv 92 em_311 (ce_at ce_311 51 rfl) rfl rfl ?_
        refine e_ild 93 em_311 (ce_at ce_311 52 rfl) tq_123 (by decide) g4 rfl ?_
        refine e_bip 95 em_311 (ce_at ce_311 53 rfl) (by decide) rfl ?_
        refine e_cmgt 113 98 em_311 rfl rfl (ce_at ce_311 54 rfl) g5 (by decide) (fun h8 => ?_) (fun h8 => ?_)
        · refine e_pk [0, 1, 3] rfl rfl ?_
          exact e_out (fun r h => h)
        · refine e_mv 99 em_311 (ce_at ce_311 55 rfl) rfl rfl ?_
          refine e_mv 100 em_311 (ce_at ce_311 56 rfl) rfl rfl ?_
          refine e_isub 101 em_311 rfl (ce_at ce_311 57 rfl) ?_
          refine e_bip 103 em_311 (ce_at ce_311 58 rfl) (by decide) rfl ?_
          refine e_gd fun g9 => ?_
          refine e_cmgt 113 106 em_311 rfl rfl (ce_at ce_311 59 rfl) g9 (by decide) (fun h10 => ?_) (fun h10 => ?_)
          · refine e_pk [0, 1, 3] rfl rfl ?_
            exact e_out (fun r h => h)
          · refine e_mv 107 em_311 (ce_at ce_311 60 rfl) rfl rfl ?_
            refine e_op 108 em_311 (ce_at ce_311 61 rfl) rfl rfl ?_
            refine e_iadd 109 em_311 rfl (ce_at ce_311 62 rfl) ?_
            refine e_mv 110 em_311 (ce_at ce_311 63 rfl) rfl rfl ?_
            refine e_goto em_311 57 (ce_at ce_311 64 rfl) rfl ?_
            refine e_pk [0, 1, 3] rfl rfl ?_
            exact e_out (fun r h => h)
theorem fm_languageToken_57b (v1 : Int) (v3 : Int) (s : iS) : Fm (fun r : (Int × iS) ⊕ (Int × iS) => r.elim (fun l => l.2) (fun e => e.2)) L_m_languageToken G_m_languageToken s (m_languageToken_57b v1 v3 s) := fm_gd (fm_gd (fm_if (fm_some md_refl) (fm_gd (fm_gd (fm_if (fm_some md_refl) (fm_if (fm_some md_refl) (fm_if (fm_some md_refl) (fm_gd (fm_if (fm_some md_refl) (fm_some md_refl))))))))))
noncomputable def m_languageToken_113 (v1 : Int) (v3 : Int) (s : iS) : Option (Int × iS) := bd (m_at v3 s) (fun r1 s1 => gd (rg r1) (if r1 = 34 then gd (rg (v3 - v1)) (if (v3 - v1) ≤ 61 then bd (m_token 3 v1 (v3 + 1) ((v3 - v1) - 1) s1) (fun _ s6 => some ((v3 + 1), s6)) else some ((-1), s1)) else some ((-1), s1)))
theorem tm_languageToken_113 (w : ev_W) (d : Nat) (hd : 3 ≤ d) (v1 : Int) (v3 : Int) (s : iS) : Ew hT w d 311 113 [(0, .ref (tb_nK + 121)), (1, iv v1), (3, iv v3)] [] s (Ci hT) (m_languageToken_113 v1 v3 s) := by
  unfold m_languageToken_113
  refine e_mv 114 em_311 (ce_at ce_311 65 rfl) rfl rfl ?_
  refine e_mv 115 em_311 (ce_at ce_311 66 rfl) rfl rfl ?_
  refine e_ivi 118 em_311 (ce_at ce_311 67 rfl) (by omega) (iv_v1 (by decide) tq_121 rfl) em_302 (Nat.le_of_ble_eq_true rfl) rfl (tm_at w (d - 1) (by omega) _ _) (fun r1 s1 => ?_)
  refine e_bip 120 em_311 (ce_at ce_311 68 rfl) (by decide) rfl ?_
  refine e_gd fun g2 => ?_
  refine e_cmne 131 123 em_311 rfl rfl (ce_at ce_311 69 rfl) g2 (by decide) (fun h3 => ?_) (fun h3 => ?_)
  · refine e_op 132 em_311 (ce_at ce_311 75 rfl) rfl rfl ?_
    exact e_reti em_311 (ce_at ce_311 76 rfl)
  · refine e_mv 124 em_311 (ce_at ce_311 70 rfl) rfl rfl ?_
    refine e_mv 125 em_311 (ce_at ce_311 71 rfl) rfl rfl ?_
    refine e_isub 126 em_311 rfl (ce_at ce_311 72 rfl) ?_
    refine e_bip 128 em_311 (ce_at ce_311 73 rfl) (by decide) rfl ?_
    refine e_gd fun g4 => ?_
    refine e_cmle 133 131 em_311 rfl rfl (ce_at ce_311 74 rfl) g4 (by decide) (fun h5 => ?_) (fun h5 => ?_)
    · refine e_mv 134 em_311 (ce_at ce_311 77 rfl) rfl rfl ?_
      refine e_op 135 em_311 (ce_at ce_311 78 rfl) rfl rfl ?_
      refine e_mv 136 em_311 (ce_at ce_311 79 rfl) rfl rfl ?_
      refine e_mv 137 em_311 (ce_at ce_311 80 rfl) rfl rfl ?_
      refine e_op 138 em_311 (ce_at ce_311 81 rfl) rfl rfl ?_
      refine e_iadd 139 em_311 rfl (ce_at ce_311 82 rfl) ?_
      refine e_mv 140 em_311 (ce_at ce_311 83 rfl) rfl rfl ?_
      refine e_mv 141 em_311 (ce_at ce_311 84 rfl) rfl rfl ?_
      refine e_isub 142 em_311 rfl (ce_at ce_311 85 rfl) ?_
      refine e_op 143 em_311 (ce_at ce_311 86 rfl) rfl rfl ?_
      refine e_isub 144 em_311 rfl (ce_at ce_311 87 rfl) ?_
      refine e_ivv 147 em_311 (ce_at ce_311 88 rfl) (by omega) (iv_v4 (by decide) tq_121 rfl) em_303 (Nat.le_of_ble_eq_true rfl) rfl (tm_token w (d - 1) (by omega) _ _ _ _ _) (fun r6 s6 => ?_)
      refine e_mv 148 em_311 (ce_at ce_311 89 rfl) rfl rfl ?_
      refine e_op 149 em_311 (ce_at ce_311 90 rfl) rfl rfl ?_
      refine e_iadd 150 em_311 rfl (ce_at ce_311 91 rfl) ?_
      exact e_reti em_311 (ce_at ce_311 92 rfl)
    · refine e_op 132 em_311 (ce_at ce_311 75 rfl) rfl rfl ?_
      exact e_reti em_311 (ce_at ce_311 76 rfl)
theorem fm_languageToken_113 (v1 : Int) (v3 : Int) (s : iS) : Fm Prod.snd L_m_languageToken G_m_languageToken s (m_languageToken_113 v1 v3 s) := fm_bd (fm_sub (fm_at _ _) (mem_sub_L rfl) (mem_sub_F rfl)) (fun r1 s1 => fm_gd (fm_if (fm_gd (fm_if (fm_bd (fm_sub (fm_token _ _ _ _ _) (mem_sub_L rfl) (mem_sub_F rfl)) (fun r6 s6 => fm_some md_refl)) (fm_some md_refl))) (fm_some md_refl)))
noncomputable def m_languageToken_57 (v1 : Int) (v3 : Int) (s : iS) : Option (Int × iS) := (lp (L := Int × iS) (E := Int × iS) (fun l => m_languageToken_57b v1 (l.1) (l.2)) (v3, s)).bind (fun e => m_languageToken_113 v1 (e.1) (e.2))
theorem tm_languageToken_57 (w : ev_W) (d : Nat) (hd : 3 ≤ d) (v1 : Int) (v3 : Int) (s : iS) : Ew hT w d 311 57 [(0, .ref (tb_nK + 121)), (1, iv v1), (3, iv v3)] [] s (Ci hT) (m_languageToken_57 v1 v3 s) := by
  unfold m_languageToken_57
  refine e_lp (L := Int × iS) (E := Int × iS) (LO := fun l => [(0, .ref (tb_nK + 121)), (1, iv v1), (3, iv (l.1))]) (LS := fun l => l.2) (CE := fun e r => ev w d 311 113 [(0, .ref (tb_nK + 121)), (1, iv v1), (3, iv (e.1))] [] (hT (e.2)) r) (fun l => tm_languageToken_57b w d hd _ _ _) ?_ (v3, s)
  intro e
  show Ew hT w d 311 113 [(0, .ref (tb_nK + 121)), (1, iv v1), (3, iv (e.1))] [] e.2 (Ci hT) _
  refine e_pk [0, 1, 3] rfl rfl ?_
  exact tm_languageToken_113 w d hd _ _ _
theorem fm_languageToken_57 (v1 : Int) (v3 : Int) (s : iS) : Fm Prod.snd L_m_languageToken G_m_languageToken s (m_languageToken_57 v1 v3 s) := by
  unfold m_languageToken_57
  refine fm_lp (A := Int × iS) (E := Int × iS) (LS := fun l => l.2) (LE := fun e => e.2) ?_ ?_ (v3, s)
  · exact fun l => fm_languageToken_57b _ _ _
  · exact (fun e => fm_languageToken_113 _ _ _)
noncomputable def m_languageToken (v1 : Int) (s : iS) : Option (Int × iS) := gd (0 ≤ v1 ∧ v1 < 4000) (bd (m_isLetter (s 123 v1.toNat) s) (fun r2 s2 => gd (rg r2) (if r2 = 0 then gd (rg (s 123 v1.toNat)) (if (s 123 v1.toNat) = 95 then m_languageToken_20 v1 s2 else bd (m_isDigit (s 123 v1.toNat) s2) (fun r7 s7 => gd (rg r7) (if r7 = 0 then if (s 123 v1.toNat) = 34 then m_languageToken_57 v1 (v1 + 1) s7 else if (s 123 v1.toNat) = 38 then bd (m_token 4 v1 (v1 + 1) (s 123 v1.toNat) s7) (fun _ s12 => some ((v1 + 1), s12)) else if (s 123 v1.toNat) = 40 then bd (m_token 4 v1 (v1 + 1) (s 123 v1.toNat) s7) (fun _ s14 => some ((v1 + 1), s14)) else if (s 123 v1.toNat) = 41 then bd (m_token 4 v1 (v1 + 1) (s 123 v1.toNat) s7) (fun _ s16 => some ((v1 + 1), s16)) else if (s 123 v1.toNat) = 42 then bd (m_token 4 v1 (v1 + 1) (s 123 v1.toNat) s7) (fun _ s18 => some ((v1 + 1), s18)) else if (s 123 v1.toNat) = 43 then bd (m_token 4 v1 (v1 + 1) (s 123 v1.toNat) s7) (fun _ s20 => some ((v1 + 1), s20)) else if (s 123 v1.toNat) = 44 then bd (m_token 4 v1 (v1 + 1) (s 123 v1.toNat) s7) (fun _ s22 => some ((v1 + 1), s22)) else if (s 123 v1.toNat) = 45 then bd (m_token 4 v1 (v1 + 1) (s 123 v1.toNat) s7) (fun _ s24 => some ((v1 + 1), s24)) else if (s 123 v1.toNat) = 46 then bd (m_token 4 v1 (v1 + 1) (s 123 v1.toNat) s7) (fun _ s26 => some ((v1 + 1), s26)) else if (s 123 v1.toNat) = 47 then bd (m_token 4 v1 (v1 + 1) (s 123 v1.toNat) s7) (fun _ s28 => some ((v1 + 1), s28)) else if (s 123 v1.toNat) = 59 then bd (m_token 4 v1 (v1 + 1) (s 123 v1.toNat) s7) (fun _ s30 => some ((v1 + 1), s30)) else if (s 123 v1.toNat) = 60 then bd (m_token 4 v1 (v1 + 1) (s 123 v1.toNat) s7) (fun _ s32 => some ((v1 + 1), s32)) else if (s 123 v1.toNat) = 61 then bd (m_token 4 v1 (v1 + 1) (s 123 v1.toNat) s7) (fun _ s34 => some ((v1 + 1), s34)) else if (s 123 v1.toNat) = 62 then bd (m_token 4 v1 (v1 + 1) (s 123 v1.toNat) s7) (fun _ s36 => some ((v1 + 1), s36)) else if (s 123 v1.toNat) = 91 then bd (m_token 4 v1 (v1 + 1) (s 123 v1.toNat) s7) (fun _ s38 => some ((v1 + 1), s38)) else if (s 123 v1.toNat) = 93 then bd (m_token 4 v1 (v1 + 1) (s 123 v1.toNat) s7) (fun _ s40 => some ((v1 + 1), s40)) else if (s 123 v1.toNat) = 123 then bd (m_token 4 v1 (v1 + 1) (s 123 v1.toNat) s7) (fun _ s42 => some ((v1 + 1), s42)) else if (s 123 v1.toNat) = 124 then bd (m_token 4 v1 (v1 + 1) (s 123 v1.toNat) s7) (fun _ s44 => some ((v1 + 1), s44)) else if (s 123 v1.toNat) = 125 then bd (m_token 4 v1 (v1 + 1) (s 123 v1.toNat) s7) (fun _ s46 => some ((v1 + 1), s46)) else if (s 123 v1.toNat) = 126 then bd (m_token 4 v1 (v1 + 1) (s 123 v1.toNat) s7) (fun _ s48 => some ((v1 + 1), s48)) else some ((-1), s7) else bd (m_numberToken v1 5 32767 s7) (fun r49 s49 => some (r49, s49))))) else m_languageToken_20 v1 s2)))
theorem tm_languageToken (w : ev_W) (d : Nat) (hd : 3 ≤ d) (v1 : Int) (s : iS) : Ew hT w d 311 0 [(0, .ref (tb_nK + 121)), (1, iv v1)] [] s (Ci hT) (m_languageToken v1 s) := by
  unfold m_languageToken
  refine e_mv 1 em_311 (ce_at ce_311 0 rfl) rfl rfl ?_
  refine e_getr 4 em_311 (ce_at ce_311 1 rfl) tq_121 rfl rfl ?_
  refine e_mv 5 em_311 (ce_at ce_311 2 rfl) rfl rfl ?_
  refine e_gd fun g1 => ?_
  refine e_ild 6 em_311 (ce_at ce_311 3 rfl) tq_123 (by decide) g1 rfl ?_
  refine e_mv 7 em_311 (ce_at ce_311 4 rfl) rfl rfl ?_
  refine e_mv 8 em_311 (ce_at ce_311 5 rfl) rfl rfl ?_
  refine e_ivi 11 em_311 (ce_at ce_311 6 rfl) (by omega) (iv_s1 rfl) em_305 (Nat.le_of_ble_eq_true rfl) rfl (tm_isLetter hT w (d - 1) (by omega) _ _) (fun r2 s2 => ?_)
  refine e_gd fun g3 => ?_
  refine e_ifne 20 14 em_311 rfl rfl (ce_at ce_311 7 rfl) g3 (fun h4 => ?_) (fun h4 => ?_)
  · refine e_pk [0, 1] rfl rfl ?_
    exact tm_languageToken_20 w d hd _ _
  · refine e_mv 15 em_311 (ce_at ce_311 8 rfl) rfl rfl ?_
    refine e_bip 17 em_311 (ce_at ce_311 9 rfl) (by decide) rfl ?_
    refine e_gd fun g5 => ?_
    refine e_cmne 30 20 em_311 rfl rfl (ce_at ce_311 10 rfl) g5 (by decide) (fun h6 => ?_) (fun h6 => ?_)
    · refine e_mv 31 em_311 (ce_at ce_311 17 rfl) rfl rfl ?_
      refine e_ivi 34 em_311 (ce_at ce_311 18 rfl) (by omega) (iv_s1 rfl) em_308 (Nat.le_of_ble_eq_true rfl) rfl (tm_isDigit hT w (d - 1) (by omega) _ _) (fun r7 s7 => ?_)
      refine e_gd fun g8 => ?_
      refine e_ifeq 47 37 em_311 rfl rfl (ce_at ce_311 19 rfl) g8 (fun h9 => ?_) (fun h9 => ?_)
      · refine e_mv 48 em_311 (ce_at ce_311 26 rfl) rfl rfl ?_
        refine e_bip 50 em_311 (ce_at ce_311 27 rfl) (by decide) rfl ?_
        refine e_cmne 151 53 em_311 rfl rfl (ce_at ce_311 28 rfl) g5 (by decide) (fun h10 => ?_) (fun h10 => ?_)
        · refine e_mv 152 em_311 (ce_at ce_311 93 rfl) rfl rfl ?_
          refine e_case 38 (fun h11 => ?_) (fun h11 => ?_)
          · refine e_sw em_311 316 (ce_at ce_311 94 rfl) (sw_lk g5 rfl (by rw [h11])) rfl ?_
            refine e_mv 317 em_311 (ce_at ce_311 95 rfl) rfl rfl ?_
            refine e_op 318 em_311 (ce_at ce_311 96 rfl) rfl rfl ?_
            refine e_mv 319 em_311 (ce_at ce_311 97 rfl) rfl rfl ?_
            refine e_mv 320 em_311 (ce_at ce_311 98 rfl) rfl rfl ?_
            refine e_op 321 em_311 (ce_at ce_311 99 rfl) rfl rfl ?_
            refine e_iadd 322 em_311 rfl (ce_at ce_311 100 rfl) ?_
            refine e_mv 323 em_311 (ce_at ce_311 101 rfl) rfl rfl ?_
            refine e_ivv 326 em_311 (ce_at ce_311 102 rfl) (by omega) (iv_v4 (by decide) tq_121 rfl) em_303 (Nat.le_of_ble_eq_true rfl) rfl (tm_token w (d - 1) (by omega) _ _ _ _ _) (fun r12 s12 => ?_)
            refine e_mv 327 em_311 (ce_at ce_311 103 rfl) rfl rfl ?_
            refine e_op 328 em_311 (ce_at ce_311 104 rfl) rfl rfl ?_
            refine e_iadd 329 em_311 rfl (ce_at ce_311 105 rfl) ?_
            exact e_reti em_311 (ce_at ce_311 106 rfl)
          refine e_case 40 (fun h13 => ?_) (fun h13 => ?_)
          · refine e_sw em_311 316 (ce_at ce_311 94 rfl) (sw_lk g5 rfl (by rw [h13])) rfl ?_
            refine e_mv 317 em_311 (ce_at ce_311 95 rfl) rfl rfl ?_
            refine e_op 318 em_311 (ce_at ce_311 96 rfl) rfl rfl ?_
            refine e_mv 319 em_311 (ce_at ce_311 97 rfl) rfl rfl ?_
            refine e_mv 320 em_311 (ce_at ce_311 98 rfl) rfl rfl ?_
            refine e_op 321 em_311 (ce_at ce_311 99 rfl) rfl rfl ?_
            refine e_iadd 322 em_311 rfl (ce_at ce_311 100 rfl) ?_
            refine e_mv 323 em_311 (ce_at ce_311 101 rfl) rfl rfl ?_
            refine e_ivv 326 em_311 (ce_at ce_311 102 rfl) (by omega) (iv_v4 (by decide) tq_121 rfl) em_303 (Nat.le_of_ble_eq_true rfl) rfl (tm_token w (d - 1) (by omega) _ _ _ _ _) (fun r14 s14 => ?_)
            refine e_mv 327 em_311 (ce_at ce_311 103 rfl) rfl rfl ?_
            refine e_op 328 em_311 (ce_at ce_311 104 rfl) rfl rfl ?_
            refine e_iadd 329 em_311 rfl (ce_at ce_311 105 rfl) ?_
            exact e_reti em_311 (ce_at ce_311 106 rfl)
          refine e_case 41 (fun h15 => ?_) (fun h15 => ?_)
          · refine e_sw em_311 316 (ce_at ce_311 94 rfl) (sw_lk g5 rfl (by rw [h15])) rfl ?_
            refine e_mv 317 em_311 (ce_at ce_311 95 rfl) rfl rfl ?_
            refine e_op 318 em_311 (ce_at ce_311 96 rfl) rfl rfl ?_
            refine e_mv 319 em_311 (ce_at ce_311 97 rfl) rfl rfl ?_
            refine e_mv 320 em_311 (ce_at ce_311 98 rfl) rfl rfl ?_
            refine e_op 321 em_311 (ce_at ce_311 99 rfl) rfl rfl ?_
            refine e_iadd 322 em_311 rfl (ce_at ce_311 100 rfl) ?_
            refine e_mv 323 em_311 (ce_at ce_311 101 rfl) rfl rfl ?_
            refine e_ivv 326 em_311 (ce_at ce_311 102 rfl) (by omega) (iv_v4 (by decide) tq_121 rfl) em_303 (Nat.le_of_ble_eq_true rfl) rfl (tm_token w (d - 1) (by omega) _ _ _ _ _) (fun r16 s16 => ?_)
            refine e_mv 327 em_311 (ce_at ce_311 103 rfl) rfl rfl ?_
            refine e_op 328 em_311 (ce_at ce_311 104 rfl) rfl rfl ?_
            refine e_iadd 329 em_311 rfl (ce_at ce_311 105 rfl) ?_
            exact e_reti em_311 (ce_at ce_311 106 rfl)
          refine e_case 42 (fun h17 => ?_) (fun h17 => ?_)
          · refine e_sw em_311 316 (ce_at ce_311 94 rfl) (sw_lk g5 rfl (by rw [h17])) rfl ?_
            refine e_mv 317 em_311 (ce_at ce_311 95 rfl) rfl rfl ?_
            refine e_op 318 em_311 (ce_at ce_311 96 rfl) rfl rfl ?_
            refine e_mv 319 em_311 (ce_at ce_311 97 rfl) rfl rfl ?_
            refine e_mv 320 em_311 (ce_at ce_311 98 rfl) rfl rfl ?_
            refine e_op 321 em_311 (ce_at ce_311 99 rfl) rfl rfl ?_
            refine e_iadd 322 em_311 rfl (ce_at ce_311 100 rfl) ?_
            refine e_mv 323 em_311 (ce_at ce_311 101 rfl) rfl rfl ?_
            refine e_ivv 326 em_311 (ce_at ce_311 102 rfl) (by omega) (iv_v4 (by decide) tq_121 rfl) em_303 (Nat.le_of_ble_eq_true rfl) rfl (tm_token w (d - 1) (by omega) _ _ _ _ _) (fun r18 s18 => ?_)
            refine e_mv 327 em_311 (ce_at ce_311 103 rfl) rfl rfl ?_
            refine e_op 328 em_311 (ce_at ce_311 104 rfl) rfl rfl ?_
            refine e_iadd 329 em_311 rfl (ce_at ce_311 105 rfl) ?_
            exact e_reti em_311 (ce_at ce_311 106 rfl)
          refine e_case 43 (fun h19 => ?_) (fun h19 => ?_)
          · refine e_sw em_311 316 (ce_at ce_311 94 rfl) (sw_lk g5 rfl (by rw [h19])) rfl ?_
            refine e_mv 317 em_311 (ce_at ce_311 95 rfl) rfl rfl ?_
            refine e_op 318 em_311 (ce_at ce_311 96 rfl) rfl rfl ?_
            refine e_mv 319 em_311 (ce_at ce_311 97 rfl) rfl rfl ?_
            refine e_mv 320 em_311 (ce_at ce_311 98 rfl) rfl rfl ?_
            refine e_op 321 em_311 (ce_at ce_311 99 rfl) rfl rfl ?_
            refine e_iadd 322 em_311 rfl (ce_at ce_311 100 rfl) ?_
            refine e_mv 323 em_311 (ce_at ce_311 101 rfl) rfl rfl ?_
            refine e_ivv 326 em_311 (ce_at ce_311 102 rfl) (by omega) (iv_v4 (by decide) tq_121 rfl) em_303 (Nat.le_of_ble_eq_true rfl) rfl (tm_token w (d - 1) (by omega) _ _ _ _ _) (fun r20 s20 => ?_)
            refine e_mv 327 em_311 (ce_at ce_311 103 rfl) rfl rfl ?_
            refine e_op 328 em_311 (ce_at ce_311 104 rfl) rfl rfl ?_
            refine e_iadd 329 em_311 rfl (ce_at ce_311 105 rfl) ?_
            exact e_reti em_311 (ce_at ce_311 106 rfl)
          refine e_case 44 (fun h21 => ?_) (fun h21 => ?_)
          · refine e_sw em_311 316 (ce_at ce_311 94 rfl) (sw_lk g5 rfl (by rw [h21])) rfl ?_
            refine e_mv 317 em_311 (ce_at ce_311 95 rfl) rfl rfl ?_
            refine e_op 318 em_311 (ce_at ce_311 96 rfl) rfl rfl ?_
            refine e_mv 319 em_311 (ce_at ce_311 97 rfl) rfl rfl ?_
            refine e_mv 320 em_311 (ce_at ce_311 98 rfl) rfl rfl ?_
            refine e_op 321 em_311 (ce_at ce_311 99 rfl) rfl rfl ?_
            refine e_iadd 322 em_311 rfl (ce_at ce_311 100 rfl) ?_
            refine e_mv 323 em_311 (ce_at ce_311 101 rfl) rfl rfl ?_
            refine e_ivv 326 em_311 (ce_at ce_311 102 rfl) (by omega) (iv_v4 (by decide) tq_121 rfl) em_303 (Nat.le_of_ble_eq_true rfl) rfl (tm_token w (d - 1) (by omega) _ _ _ _ _) (fun r22 s22 => ?_)
            refine e_mv 327 em_311 (ce_at ce_311 103 rfl) rfl rfl ?_
            refine e_op 328 em_311 (ce_at ce_311 104 rfl) rfl rfl ?_
            refine e_iadd 329 em_311 rfl (ce_at ce_311 105 rfl) ?_
            exact e_reti em_311 (ce_at ce_311 106 rfl)
          refine e_case 45 (fun h23 => ?_) (fun h23 => ?_)
          · refine e_sw em_311 316 (ce_at ce_311 94 rfl) (sw_lk g5 rfl (by rw [h23])) rfl ?_
            refine e_mv 317 em_311 (ce_at ce_311 95 rfl) rfl rfl ?_
            refine e_op 318 em_311 (ce_at ce_311 96 rfl) rfl rfl ?_
            refine e_mv 319 em_311 (ce_at ce_311 97 rfl) rfl rfl ?_
            refine e_mv 320 em_311 (ce_at ce_311 98 rfl) rfl rfl ?_
            refine e_op 321 em_311 (ce_at ce_311 99 rfl) rfl rfl ?_
            refine e_iadd 322 em_311 rfl (ce_at ce_311 100 rfl) ?_
            refine e_mv 323 em_311 (ce_at ce_311 101 rfl) rfl rfl ?_
            refine e_ivv 326 em_311 (ce_at ce_311 102 rfl) (by omega) (iv_v4 (by decide) tq_121 rfl) em_303 (Nat.le_of_ble_eq_true rfl) rfl (tm_token w (d - 1) (by omega) _ _ _ _ _) (fun r24 s24 => ?_)
            refine e_mv 327 em_311 (ce_at ce_311 103 rfl) rfl rfl ?_
            refine e_op 328 em_311 (ce_at ce_311 104 rfl) rfl rfl ?_
            refine e_iadd 329 em_311 rfl (ce_at ce_311 105 rfl) ?_
            exact e_reti em_311 (ce_at ce_311 106 rfl)
          refine e_case 46 (fun h25 => ?_) (fun h25 => ?_)
          · refine e_sw em_311 316 (ce_at ce_311 94 rfl) (sw_lk g5 rfl (by rw [h25])) rfl ?_
            refine e_mv 317 em_311 (ce_at ce_311 95 rfl) rfl rfl ?_
            refine e_op 318 em_311 (ce_at ce_311 96 rfl) rfl rfl ?_
            refine e_mv 319 em_311 (ce_at ce_311 97 rfl) rfl rfl ?_
            refine e_mv 320 em_311 (ce_at ce_311 98 rfl) rfl rfl ?_
            refine e_op 321 em_311 (ce_at ce_311 99 rfl) rfl rfl ?_
            refine e_iadd 322 em_311 rfl (ce_at ce_311 100 rfl) ?_
            refine e_mv 323 em_311 (ce_at ce_311 101 rfl) rfl rfl ?_
            refine e_ivv 326 em_311 (ce_at ce_311 102 rfl) (by omega) (iv_v4 (by decide) tq_121 rfl) em_303 (Nat.le_of_ble_eq_true rfl) rfl (tm_token w (d - 1) (by omega) _ _ _ _ _) (fun r26 s26 => ?_)
            refine e_mv 327 em_311 (ce_at ce_311 103 rfl) rfl rfl ?_
            refine e_op 328 em_311 (ce_at ce_311 104 rfl) rfl rfl ?_
            refine e_iadd 329 em_311 rfl (ce_at ce_311 105 rfl) ?_
            exact e_reti em_311 (ce_at ce_311 106 rfl)
          refine e_case 47 (fun h27 => ?_) (fun h27 => ?_)
          · refine e_sw em_311 316 (ce_at ce_311 94 rfl) (sw_lk g5 rfl (by rw [h27])) rfl ?_
            refine e_mv 317 em_311 (ce_at ce_311 95 rfl) rfl rfl ?_
            refine e_op 318 em_311 (ce_at ce_311 96 rfl) rfl rfl ?_
            refine e_mv 319 em_311 (ce_at ce_311 97 rfl) rfl rfl ?_
            refine e_mv 320 em_311 (ce_at ce_311 98 rfl) rfl rfl ?_
            refine e_op 321 em_311 (ce_at ce_311 99 rfl) rfl rfl ?_
            refine e_iadd 322 em_311 rfl (ce_at ce_311 100 rfl) ?_
            refine e_mv 323 em_311 (ce_at ce_311 101 rfl) rfl rfl ?_
            refine e_ivv 326 em_311 (ce_at ce_311 102 rfl) (by omega) (iv_v4 (by decide) tq_121 rfl) em_303 (Nat.le_of_ble_eq_true rfl) rfl (tm_token w (d - 1) (by omega) _ _ _ _ _) (fun r28 s28 => ?_)
            refine e_mv 327 em_311 (ce_at ce_311 103 rfl) rfl rfl ?_
            refine e_op 328 em_311 (ce_at ce_311 104 rfl) rfl rfl ?_
            refine e_iadd 329 em_311 rfl (ce_at ce_311 105 rfl) ?_
            exact e_reti em_311 (ce_at ce_311 106 rfl)
          refine e_case 59 (fun h29 => ?_) (fun h29 => ?_)
          · refine e_sw em_311 316 (ce_at ce_311 94 rfl) (sw_lk g5 rfl (by rw [h29])) rfl ?_
            refine e_mv 317 em_311 (ce_at ce_311 95 rfl) rfl rfl ?_
            refine e_op 318 em_311 (ce_at ce_311 96 rfl) rfl rfl ?_
            refine e_mv 319 em_311 (ce_at ce_311 97 rfl) rfl rfl ?_
            refine e_mv 320 em_311 (ce_at ce_311 98 rfl) rfl rfl ?_
            refine e_op 321 em_311 (ce_at ce_311 99 rfl) rfl rfl ?_
            refine e_iadd 322 em_311 rfl (ce_at ce_311 100 rfl) ?_
            refine e_mv 323 em_311 (ce_at ce_311 101 rfl) rfl rfl ?_
            refine e_ivv 326 em_311 (ce_at ce_311 102 rfl) (by omega) (iv_v4 (by decide) tq_121 rfl) em_303 (Nat.le_of_ble_eq_true rfl) rfl (tm_token w (d - 1) (by omega) _ _ _ _ _) (fun r30 s30 => ?_)
            refine e_mv 327 em_311 (ce_at ce_311 103 rfl) rfl rfl ?_
            refine e_op 328 em_311 (ce_at ce_311 104 rfl) rfl rfl ?_
            refine e_iadd 329 em_311 rfl (ce_at ce_311 105 rfl) ?_
            exact e_reti em_311 (ce_at ce_311 106 rfl)
          refine e_case 60 (fun h31 => ?_) (fun h31 => ?_)
          · refine e_sw em_311 316 (ce_at ce_311 94 rfl) (sw_lk g5 rfl (by rw [h31])) rfl ?_
            refine e_mv 317 em_311 (ce_at ce_311 95 rfl) rfl rfl ?_
            refine e_op 318 em_311 (ce_at ce_311 96 rfl) rfl rfl ?_
            refine e_mv 319 em_311 (ce_at ce_311 97 rfl) rfl rfl ?_
            refine e_mv 320 em_311 (ce_at ce_311 98 rfl) rfl rfl ?_
            refine e_op 321 em_311 (ce_at ce_311 99 rfl) rfl rfl ?_
            refine e_iadd 322 em_311 rfl (ce_at ce_311 100 rfl) ?_
            refine e_mv 323 em_311 (ce_at ce_311 101 rfl) rfl rfl ?_
            refine e_ivv 326 em_311 (ce_at ce_311 102 rfl) (by omega) (iv_v4 (by decide) tq_121 rfl) em_303 (Nat.le_of_ble_eq_true rfl) rfl (tm_token w (d - 1) (by omega) _ _ _ _ _) (fun r32 s32 => ?_)
            refine e_mv 327 em_311 (ce_at ce_311 103 rfl) rfl rfl ?_
            refine e_op 328 em_311 (ce_at ce_311 104 rfl) rfl rfl ?_
            refine e_iadd 329 em_311 rfl (ce_at ce_311 105 rfl) ?_
            exact e_reti em_311 (ce_at ce_311 106 rfl)
          refine e_case 61 (fun h33 => ?_) (fun h33 => ?_)
          · refine e_sw em_311 316 (ce_at ce_311 94 rfl) (sw_lk g5 rfl (by rw [h33])) rfl ?_
            refine e_mv 317 em_311 (ce_at ce_311 95 rfl) rfl rfl ?_
            refine e_op 318 em_311 (ce_at ce_311 96 rfl) rfl rfl ?_
            refine e_mv 319 em_311 (ce_at ce_311 97 rfl) rfl rfl ?_
            refine e_mv 320 em_311 (ce_at ce_311 98 rfl) rfl rfl ?_
            refine e_op 321 em_311 (ce_at ce_311 99 rfl) rfl rfl ?_
            refine e_iadd 322 em_311 rfl (ce_at ce_311 100 rfl) ?_
            refine e_mv 323 em_311 (ce_at ce_311 101 rfl) rfl rfl ?_
            refine e_ivv 326 em_311 (ce_at ce_311 102 rfl) (by omega) (iv_v4 (by decide) tq_121 rfl) em_303 (Nat.le_of_ble_eq_true rfl) rfl (tm_token w (d - 1) (by omega) _ _ _ _ _) (fun r34 s34 => ?_)
            refine e_mv 327 em_311 (ce_at ce_311 103 rfl) rfl rfl ?_
            refine e_op 328 em_311 (ce_at ce_311 104 rfl) rfl rfl ?_
            refine e_iadd 329 em_311 rfl (ce_at ce_311 105 rfl) ?_
            exact e_reti em_311 (ce_at ce_311 106 rfl)
          refine e_case 62 (fun h35 => ?_) (fun h35 => ?_)
          · refine e_sw em_311 316 (ce_at ce_311 94 rfl) (sw_lk g5 rfl (by rw [h35])) rfl ?_
            refine e_mv 317 em_311 (ce_at ce_311 95 rfl) rfl rfl ?_
            refine e_op 318 em_311 (ce_at ce_311 96 rfl) rfl rfl ?_
            refine e_mv 319 em_311 (ce_at ce_311 97 rfl) rfl rfl ?_
            refine e_mv 320 em_311 (ce_at ce_311 98 rfl) rfl rfl ?_
            refine e_op 321 em_311 (ce_at ce_311 99 rfl) rfl rfl ?_
            refine e_iadd 322 em_311 rfl (ce_at ce_311 100 rfl) ?_
            refine e_mv 323 em_311 (ce_at ce_311 101 rfl) rfl rfl ?_
            refine e_ivv 326 em_311 (ce_at ce_311 102 rfl) (by omega) (iv_v4 (by decide) tq_121 rfl) em_303 (Nat.le_of_ble_eq_true rfl) rfl (tm_token w (d - 1) (by omega) _ _ _ _ _) (fun r36 s36 => ?_)
            refine e_mv 327 em_311 (ce_at ce_311 103 rfl) rfl rfl ?_
            refine e_op 328 em_311 (ce_at ce_311 104 rfl) rfl rfl ?_
            refine e_iadd 329 em_311 rfl (ce_at ce_311 105 rfl) ?_
            exact e_reti em_311 (ce_at ce_311 106 rfl)
          refine e_case 91 (fun h37 => ?_) (fun h37 => ?_)
          · refine e_sw em_311 316 (ce_at ce_311 94 rfl) (sw_lk g5 rfl (by rw [h37])) rfl ?_
            refine e_mv 317 em_311 (ce_at ce_311 95 rfl) rfl rfl ?_
            refine e_op 318 em_311 (ce_at ce_311 96 rfl) rfl rfl ?_
            refine e_mv 319 em_311 (ce_at ce_311 97 rfl) rfl rfl ?_
            refine e_mv 320 em_311 (ce_at ce_311 98 rfl) rfl rfl ?_
            refine e_op 321 em_311 (ce_at ce_311 99 rfl) rfl rfl ?_
            refine e_iadd 322 em_311 rfl (ce_at ce_311 100 rfl) ?_
            refine e_mv 323 em_311 (ce_at ce_311 101 rfl) rfl rfl ?_
            refine e_ivv 326 em_311 (ce_at ce_311 102 rfl) (by omega) (iv_v4 (by decide) tq_121 rfl) em_303 (Nat.le_of_ble_eq_true rfl) rfl (tm_token w (d - 1) (by omega) _ _ _ _ _) (fun r38 s38 => ?_)
            refine e_mv 327 em_311 (ce_at ce_311 103 rfl) rfl rfl ?_
            refine e_op 328 em_311 (ce_at ce_311 104 rfl) rfl rfl ?_
            refine e_iadd 329 em_311 rfl (ce_at ce_311 105 rfl) ?_
            exact e_reti em_311 (ce_at ce_311 106 rfl)
          refine e_case 93 (fun h39 => ?_) (fun h39 => ?_)
          · refine e_sw em_311 316 (ce_at ce_311 94 rfl) (sw_lk g5 rfl (by rw [h39])) rfl ?_
            refine e_mv 317 em_311 (ce_at ce_311 95 rfl) rfl rfl ?_
            refine e_op 318 em_311 (ce_at ce_311 96 rfl) rfl rfl ?_
            refine e_mv 319 em_311 (ce_at ce_311 97 rfl) rfl rfl ?_
            refine e_mv 320 em_311 (ce_at ce_311 98 rfl) rfl rfl ?_
            refine e_op 321 em_311 (ce_at ce_311 99 rfl) rfl rfl ?_
            refine e_iadd 322 em_311 rfl (ce_at ce_311 100 rfl) ?_
            refine e_mv 323 em_311 (ce_at ce_311 101 rfl) rfl rfl ?_
            refine e_ivv 326 em_311 (ce_at ce_311 102 rfl) (by omega) (iv_v4 (by decide) tq_121 rfl) em_303 (Nat.le_of_ble_eq_true rfl) rfl (tm_token w (d - 1) (by omega) _ _ _ _ _) (fun r40 s40 => ?_)
            refine e_mv 327 em_311 (ce_at ce_311 103 rfl) rfl rfl ?_
            refine e_op 328 em_311 (ce_at ce_311 104 rfl) rfl rfl ?_
            refine e_iadd 329 em_311 rfl (ce_at ce_311 105 rfl) ?_
            exact e_reti em_311 (ce_at ce_311 106 rfl)
          refine e_case 123 (fun h41 => ?_) (fun h41 => ?_)
          · refine e_sw em_311 316 (ce_at ce_311 94 rfl) (sw_lk g5 rfl (by rw [h41])) rfl ?_
            refine e_mv 317 em_311 (ce_at ce_311 95 rfl) rfl rfl ?_
            refine e_op 318 em_311 (ce_at ce_311 96 rfl) rfl rfl ?_
            refine e_mv 319 em_311 (ce_at ce_311 97 rfl) rfl rfl ?_
            refine e_mv 320 em_311 (ce_at ce_311 98 rfl) rfl rfl ?_
            refine e_op 321 em_311 (ce_at ce_311 99 rfl) rfl rfl ?_
            refine e_iadd 322 em_311 rfl (ce_at ce_311 100 rfl) ?_
            refine e_mv 323 em_311 (ce_at ce_311 101 rfl) rfl rfl ?_
            refine e_ivv 326 em_311 (ce_at ce_311 102 rfl) (by omega) (iv_v4 (by decide) tq_121 rfl) em_303 (Nat.le_of_ble_eq_true rfl) rfl (tm_token w (d - 1) (by omega) _ _ _ _ _) (fun r42 s42 => ?_)
            refine e_mv 327 em_311 (ce_at ce_311 103 rfl) rfl rfl ?_
            refine e_op 328 em_311 (ce_at ce_311 104 rfl) rfl rfl ?_
            refine e_iadd 329 em_311 rfl (ce_at ce_311 105 rfl) ?_
            exact e_reti em_311 (ce_at ce_311 106 rfl)
          refine e_case 124 (fun h43 => ?_) (fun h43 => ?_)
          · refine e_sw em_311 316 (ce_at ce_311 94 rfl) (sw_lk g5 rfl (by rw [h43])) rfl ?_
            refine e_mv 317 em_311 (ce_at ce_311 95 rfl) rfl rfl ?_
            refine e_op 318 em_311 (ce_at ce_311 96 rfl) rfl rfl ?_
            refine e_mv 319 em_311 (ce_at ce_311 97 rfl) rfl rfl ?_
            refine e_mv 320 em_311 (ce_at ce_311 98 rfl) rfl rfl ?_
            refine e_op 321 em_311 (ce_at ce_311 99 rfl) rfl rfl ?_
            refine e_iadd 322 em_311 rfl (ce_at ce_311 100 rfl) ?_
            refine e_mv 323 em_311 (ce_at ce_311 101 rfl) rfl rfl ?_
            refine e_ivv 326 em_311 (ce_at ce_311 102 rfl) (by omega) (iv_v4 (by decide) tq_121 rfl) em_303 (Nat.le_of_ble_eq_true rfl) rfl (tm_token w (d - 1) (by omega) _ _ _ _ _) (fun r44 s44 => ?_)
            refine e_mv 327 em_311 (ce_at ce_311 103 rfl) rfl rfl ?_
            refine e_op 328 em_311 (ce_at ce_311 104 rfl) rfl rfl ?_
            refine e_iadd 329 em_311 rfl (ce_at ce_311 105 rfl) ?_
            exact e_reti em_311 (ce_at ce_311 106 rfl)
          refine e_case 125 (fun h45 => ?_) (fun h45 => ?_)
          · refine e_sw em_311 316 (ce_at ce_311 94 rfl) (sw_lk g5 rfl (by rw [h45])) rfl ?_
            refine e_mv 317 em_311 (ce_at ce_311 95 rfl) rfl rfl ?_
            refine e_op 318 em_311 (ce_at ce_311 96 rfl) rfl rfl ?_
            refine e_mv 319 em_311 (ce_at ce_311 97 rfl) rfl rfl ?_
            refine e_mv 320 em_311 (ce_at ce_311 98 rfl) rfl rfl ?_
            refine e_op 321 em_311 (ce_at ce_311 99 rfl) rfl rfl ?_
            refine e_iadd 322 em_311 rfl (ce_at ce_311 100 rfl) ?_
            refine e_mv 323 em_311 (ce_at ce_311 101 rfl) rfl rfl ?_
            refine e_ivv 326 em_311 (ce_at ce_311 102 rfl) (by omega) (iv_v4 (by decide) tq_121 rfl) em_303 (Nat.le_of_ble_eq_true rfl) rfl (tm_token w (d - 1) (by omega) _ _ _ _ _) (fun r46 s46 => ?_)
            refine e_mv 327 em_311 (ce_at ce_311 103 rfl) rfl rfl ?_
            refine e_op 328 em_311 (ce_at ce_311 104 rfl) rfl rfl ?_
            refine e_iadd 329 em_311 rfl (ce_at ce_311 105 rfl) ?_
            exact e_reti em_311 (ce_at ce_311 106 rfl)
          refine e_case 126 (fun h47 => ?_) (fun h47 => ?_)
          · refine e_sw em_311 316 (ce_at ce_311 94 rfl) (sw_lk g5 rfl (by rw [h47])) rfl ?_
            refine e_mv 317 em_311 (ce_at ce_311 95 rfl) rfl rfl ?_
            refine e_op 318 em_311 (ce_at ce_311 96 rfl) rfl rfl ?_
            refine e_mv 319 em_311 (ce_at ce_311 97 rfl) rfl rfl ?_
            refine e_mv 320 em_311 (ce_at ce_311 98 rfl) rfl rfl ?_
            refine e_op 321 em_311 (ce_at ce_311 99 rfl) rfl rfl ?_
            refine e_iadd 322 em_311 rfl (ce_at ce_311 100 rfl) ?_
            refine e_mv 323 em_311 (ce_at ce_311 101 rfl) rfl rfl ?_
            refine e_ivv 326 em_311 (ce_at ce_311 102 rfl) (by omega) (iv_v4 (by decide) tq_121 rfl) em_303 (Nat.le_of_ble_eq_true rfl) rfl (tm_token w (d - 1) (by omega) _ _ _ _ _) (fun r48 s48 => ?_)
            refine e_mv 327 em_311 (ce_at ce_311 103 rfl) rfl rfl ?_
            refine e_op 328 em_311 (ce_at ce_311 104 rfl) rfl rfl ?_
            refine e_iadd 329 em_311 rfl (ce_at ce_311 105 rfl) ?_
            exact e_reti em_311 (ce_at ce_311 106 rfl)
          refine e_sw em_311 330 (ce_at ce_311 94 rfl) (sw_lk g5 rfl (lk_step h11 (lk_step h13 (lk_step h15 (lk_step h17 (lk_step h19 (lk_step h21 (lk_step h23 (lk_step h25 (lk_step h27 (lk_step h29 (lk_step h31 (lk_step h33 (lk_step h35 (lk_step h37 (lk_step h39 (lk_step h41 (lk_step h43 (lk_step h45 (lk_step h47 rfl)))))))))))))))))))) rfl ?_
          refine e_op 331 em_311 (ce_at ce_311 107 rfl) rfl rfl ?_
          exact e_reti em_311 (ce_at ce_311 108 rfl)
        · refine e_mv 54 em_311 (ce_at ce_311 29 rfl) rfl rfl ?_
          refine e_op 55 em_311 (ce_at ce_311 30 rfl) rfl rfl ?_
          refine e_iadd 56 em_311 rfl (ce_at ce_311 31 rfl) ?_
          refine e_mv 57 em_311 (ce_at ce_311 32 rfl) rfl rfl ?_
          refine e_pk [0, 1, 3] rfl rfl ?_
          exact tm_languageToken_57 w d hd _ _ _
      · refine e_mv 38 em_311 (ce_at ce_311 20 rfl) rfl rfl ?_
        refine e_mv 39 em_311 (ce_at ce_311 21 rfl) rfl rfl ?_
        refine e_op 40 em_311 (ce_at ce_311 22 rfl) rfl rfl ?_
        refine e_sip 43 em_311 (ce_at ce_311 23 rfl) (by decide) rfl ?_
        refine e_ivi 46 em_311 (ce_at ce_311 24 rfl) (by omega) (iv_v3 (by decide) tq_121 rfl) em_310 (Nat.le_of_ble_eq_true rfl) rfl (tm_numberToken w (d - 1) (by omega) _ _ _ _) (fun r49 s49 => ?_)
        exact e_reti em_311 (ce_at ce_311 25 rfl)
    · refine e_pk [0, 1] rfl rfl ?_
      exact tm_languageToken_20 w d hd _ _
theorem fm_languageToken (v1 : Int) (s : iS) : Fm Prod.snd L_m_languageToken G_m_languageToken s (m_languageToken v1 s) := fm_gd (fm_bd (fm_sub (fm_isLetter _ _) (mem_sub_L rfl) (mem_sub_F rfl)) (fun r2 s2 => fm_gd (fm_if (fm_gd (fm_if (fm_languageToken_20 _ _) (fm_bd (fm_sub (fm_isDigit _ _) (mem_sub_L rfl) (mem_sub_F rfl)) (fun r7 s7 => fm_gd (fm_if (fm_if (fm_languageToken_57 _ _ _) (fm_if (fm_bd (fm_sub (fm_token _ _ _ _ _) (mem_sub_L rfl) (mem_sub_F rfl)) (fun r12 s12 => fm_some md_refl)) (fm_if (fm_bd (fm_sub (fm_token _ _ _ _ _) (mem_sub_L rfl) (mem_sub_F rfl)) (fun r14 s14 => fm_some md_refl)) (fm_if (fm_bd (fm_sub (fm_token _ _ _ _ _) (mem_sub_L rfl) (mem_sub_F rfl)) (fun r16 s16 => fm_some md_refl)) (fm_if (fm_bd (fm_sub (fm_token _ _ _ _ _) (mem_sub_L rfl) (mem_sub_F rfl)) (fun r18 s18 => fm_some md_refl)) (fm_if (fm_bd (fm_sub (fm_token _ _ _ _ _) (mem_sub_L rfl) (mem_sub_F rfl)) (fun r20 s20 => fm_some md_refl)) (fm_if (fm_bd (fm_sub (fm_token _ _ _ _ _) (mem_sub_L rfl) (mem_sub_F rfl)) (fun r22 s22 => fm_some md_refl)) (fm_if (fm_bd (fm_sub (fm_token _ _ _ _ _) (mem_sub_L rfl) (mem_sub_F rfl)) (fun r24 s24 => fm_some md_refl)) (fm_if (fm_bd (fm_sub (fm_token _ _ _ _ _) (mem_sub_L rfl) (mem_sub_F rfl)) (fun r26 s26 => fm_some md_refl)) (fm_if (fm_bd (fm_sub (fm_token _ _ _ _ _) (mem_sub_L rfl) (mem_sub_F rfl)) (fun r28 s28 => fm_some md_refl)) (fm_if (fm_bd (fm_sub (fm_token _ _ _ _ _) (mem_sub_L rfl) (mem_sub_F rfl)) (fun r30 s30 => fm_some md_refl)) (fm_if (fm_bd (fm_sub (fm_token _ _ _ _ _) (mem_sub_L rfl) (mem_sub_F rfl)) (fun r32 s32 => fm_some md_refl)) (fm_if (fm_bd (fm_sub (fm_token _ _ _ _ _) (mem_sub_L rfl) (mem_sub_F rfl)) (fun r34 s34 => fm_some md_refl)) (fm_if (fm_bd (fm_sub (fm_token _ _ _ _ _) (mem_sub_L rfl) (mem_sub_F rfl)) (fun r36 s36 => fm_some md_refl)) (fm_if (fm_bd (fm_sub (fm_token _ _ _ _ _) (mem_sub_L rfl) (mem_sub_F rfl)) (fun r38 s38 => fm_some md_refl)) (fm_if (fm_bd (fm_sub (fm_token _ _ _ _ _) (mem_sub_L rfl) (mem_sub_F rfl)) (fun r40 s40 => fm_some md_refl)) (fm_if (fm_bd (fm_sub (fm_token _ _ _ _ _) (mem_sub_L rfl) (mem_sub_F rfl)) (fun r42 s42 => fm_some md_refl)) (fm_if (fm_bd (fm_sub (fm_token _ _ _ _ _) (mem_sub_L rfl) (mem_sub_F rfl)) (fun r44 s44 => fm_some md_refl)) (fm_if (fm_bd (fm_sub (fm_token _ _ _ _ _) (mem_sub_L rfl) (mem_sub_F rfl)) (fun r46 s46 => fm_some md_refl)) (fm_if (fm_bd (fm_sub (fm_token _ _ _ _ _) (mem_sub_L rfl) (mem_sub_F rfl)) (fun r48 s48 => fm_some md_refl)) (fm_some md_refl))))))))))))))))))))) (fm_bd (fm_sub (fm_numberToken _ _ _ _) (mem_sub_L rfl) (mem_sub_F rfl)) (fun r49 s49 => fm_some md_refl))))))) (fm_languageToken_20 _ _))))
/-! m_chipToken -/
def L_m_chipToken : List Nat := [124, 125, 126, 127]
def G_m_chipToken : List (Nat × Nat) := [(121, 9)]
noncomputable def m_chipToken (v1 : Int) (s : iS) : Option (Int × iS) := gd (0 ≤ v1 ∧ v1 < 4000) (bd (m_isLetter (s 123 v1.toNat) s) (fun r2 s2 => gd (rg r2) (if r2 = 0 then bd (m_isDigit (s 123 v1.toNat) s2) (fun r5 s5 => gd (rg r5) (if r5 = 0 then gd (rg (s 123 v1.toNat)) (if (s 123 v1.toNat) = 40 then bd (m_token 4 v1 (v1 + 1) (s 123 v1.toNat) s5) (fun _ s10 => some ((v1 + 1), s10)) else if (s 123 v1.toNat) = 41 then bd (m_token 4 v1 (v1 + 1) (s 123 v1.toNat) s5) (fun _ s12 => some ((v1 + 1), s12)) else if (s 123 v1.toNat) = 44 then bd (m_token 4 v1 (v1 + 1) (s 123 v1.toNat) s5) (fun _ s14 => some ((v1 + 1), s14)) else if (s 123 v1.toNat) = 46 then bd (m_at (v1 + 1) s5) (fun r16 s16 => gd (rg r16) (if r16 = 46 then bd (m_token 4 v1 (v1 + 2) (s 123 v1.toNat) s16) (fun _ s19 => some ((v1 + 2), s19)) else some ((-1), s16))) else if (s 123 v1.toNat) = 58 then bd (m_token 4 v1 (v1 + 1) (s 123 v1.toNat) s5) (fun _ s21 => some ((v1 + 1), s21)) else if (s 123 v1.toNat) = 59 then bd (m_token 4 v1 (v1 + 1) (s 123 v1.toNat) s5) (fun _ s23 => some ((v1 + 1), s23)) else if (s 123 v1.toNat) = 61 then bd (m_token 4 v1 (v1 + 1) (s 123 v1.toNat) s5) (fun _ s25 => some ((v1 + 1), s25)) else if (s 123 v1.toNat) = 91 then bd (m_token 4 v1 (v1 + 1) (s 123 v1.toNat) s5) (fun _ s27 => some ((v1 + 1), s27)) else if (s 123 v1.toNat) = 93 then bd (m_token 4 v1 (v1 + 1) (s 123 v1.toNat) s5) (fun _ s29 => some ((v1 + 1), s29)) else if (s 123 v1.toNat) = 123 then bd (m_token 4 v1 (v1 + 1) (s 123 v1.toNat) s5) (fun _ s31 => some ((v1 + 1), s31)) else if (s 123 v1.toNat) = 125 then bd (m_token 4 v1 (v1 + 1) (s 123 v1.toNat) s5) (fun _ s33 => some ((v1 + 1), s33)) else some ((-1), s5)) else bd (m_numberToken v1 2 99 s5) (fun r34 s34 => some (r34, s34)))) else bd (m_wordToken 29 ka_6 v1 1 s2) (fun r35 s35 => some (r35, s35)))))
theorem tm_chipToken (w : ev_W) (d : Nat) (hd : 3 ≤ d) (v1 : Int) (s : iS) : Ew hT w d 304 0 [(0, .ref (tb_nK + 121)), (1, iv v1)] [] s (Ci hT) (m_chipToken v1 s) := by
  unfold m_chipToken
  refine e_mv 1 em_304 (ce_at ce_304 0 rfl) rfl rfl ?_
  refine e_getr 4 em_304 (ce_at ce_304 1 rfl) tq_121 rfl rfl ?_
  refine e_mv 5 em_304 (ce_at ce_304 2 rfl) rfl rfl ?_
  refine e_gd fun g1 => ?_
  refine e_ild 6 em_304 (ce_at ce_304 3 rfl) tq_123 (by decide) g1 rfl ?_
  refine e_mv 7 em_304 (ce_at ce_304 4 rfl) rfl rfl ?_
  refine e_mv 8 em_304 (ce_at ce_304 5 rfl) rfl rfl ?_
  refine e_ivi 11 em_304 (ce_at ce_304 6 rfl) (by omega) (iv_s1 rfl) em_305 (Nat.le_of_ble_eq_true rfl) rfl (tm_isLetter hT w (d - 1) (by omega) _ _) (fun r2 s2 => ?_)
  refine e_gd fun g3 => ?_
  refine e_ifeq 24 14 em_304 rfl rfl (ce_at ce_304 7 rfl) g3 (fun h4 => ?_) (fun h4 => ?_)
  · refine e_mv 25 em_304 (ce_at ce_304 14 rfl) rfl rfl ?_
    refine e_ivi 28 em_304 (ce_at ce_304 15 rfl) (by omega) (iv_s1 rfl) em_308 (Nat.le_of_ble_eq_true rfl) rfl (tm_isDigit hT w (d - 1) (by omega) _ _) (fun r5 s5 => ?_)
    refine e_gd fun g6 => ?_
    refine e_ifeq 40 31 em_304 rfl rfl (ce_at ce_304 16 rfl) g6 (fun h7 => ?_) (fun h7 => ?_)
    · refine e_mv 41 em_304 (ce_at ce_304 23 rfl) rfl rfl ?_
      refine e_gd fun g8 => ?_
      refine e_case 40 (fun h9 => ?_) (fun h9 => ?_)
      · refine e_sw em_304 140 (ce_at ce_304 24 rfl) (sw_lk g8 rfl (by rw [h9])) rfl ?_
        refine e_mv 141 em_304 (ce_at ce_304 25 rfl) rfl rfl ?_
        refine e_op 142 em_304 (ce_at ce_304 26 rfl) rfl rfl ?_
        refine e_mv 143 em_304 (ce_at ce_304 27 rfl) rfl rfl ?_
        refine e_mv 144 em_304 (ce_at ce_304 28 rfl) rfl rfl ?_
        refine e_op 145 em_304 (ce_at ce_304 29 rfl) rfl rfl ?_
        refine e_iadd 146 em_304 rfl (ce_at ce_304 30 rfl) ?_
        refine e_mv 147 em_304 (ce_at ce_304 31 rfl) rfl rfl ?_
        refine e_ivv 150 em_304 (ce_at ce_304 32 rfl) (by omega) (iv_v4 (by decide) tq_121 rfl) em_303 (Nat.le_of_ble_eq_true rfl) rfl (tm_token w (d - 1) (by omega) _ _ _ _ _) (fun r10 s10 => ?_)
        refine e_mv 151 em_304 (ce_at ce_304 33 rfl) rfl rfl ?_
        refine e_op 152 em_304 (ce_at ce_304 34 rfl) rfl rfl ?_
        refine e_iadd 153 em_304 rfl (ce_at ce_304 35 rfl) ?_
        exact e_reti em_304 (ce_at ce_304 36 rfl)
      refine e_case 41 (fun h11 => ?_) (fun h11 => ?_)
      · refine e_sw em_304 140 (ce_at ce_304 24 rfl) (sw_lk g8 rfl (by rw [h11])) rfl ?_
        refine e_mv 141 em_304 (ce_at ce_304 25 rfl) rfl rfl ?_
        refine e_op 142 em_304 (ce_at ce_304 26 rfl) rfl rfl ?_
        refine e_mv 143 em_304 (ce_at ce_304 27 rfl) rfl rfl ?_
        refine e_mv 144 em_304 (ce_at ce_304 28 rfl) rfl rfl ?_
        refine e_op 145 em_304 (ce_at ce_304 29 rfl) rfl rfl ?_
        refine e_iadd 146 em_304 rfl (ce_at ce_304 30 rfl) ?_
        refine e_mv 147 em_304 (ce_at ce_304 31 rfl) rfl rfl ?_
        refine e_ivv 150 em_304 (ce_at ce_304 32 rfl) (by omega) (iv_v4 (by decide) tq_121 rfl) em_303 (Nat.le_of_ble_eq_true rfl) rfl (tm_token w (d - 1) (by omega) _ _ _ _ _) (fun r12 s12 => ?_)
        refine e_mv 151 em_304 (ce_at ce_304 33 rfl) rfl rfl ?_
        refine e_op 152 em_304 (ce_at ce_304 34 rfl) rfl rfl ?_
        refine e_iadd 153 em_304 rfl (ce_at ce_304 35 rfl) ?_
        exact e_reti em_304 (ce_at ce_304 36 rfl)
      refine e_case 44 (fun h13 => ?_) (fun h13 => ?_)
      · refine e_sw em_304 140 (ce_at ce_304 24 rfl) (sw_lk g8 rfl (by rw [h13])) rfl ?_
        refine e_mv 141 em_304 (ce_at ce_304 25 rfl) rfl rfl ?_
        refine e_op 142 em_304 (ce_at ce_304 26 rfl) rfl rfl ?_
        refine e_mv 143 em_304 (ce_at ce_304 27 rfl) rfl rfl ?_
        refine e_mv 144 em_304 (ce_at ce_304 28 rfl) rfl rfl ?_
        refine e_op 145 em_304 (ce_at ce_304 29 rfl) rfl rfl ?_
        refine e_iadd 146 em_304 rfl (ce_at ce_304 30 rfl) ?_
        refine e_mv 147 em_304 (ce_at ce_304 31 rfl) rfl rfl ?_
        refine e_ivv 150 em_304 (ce_at ce_304 32 rfl) (by omega) (iv_v4 (by decide) tq_121 rfl) em_303 (Nat.le_of_ble_eq_true rfl) rfl (tm_token w (d - 1) (by omega) _ _ _ _ _) (fun r14 s14 => ?_)
        refine e_mv 151 em_304 (ce_at ce_304 33 rfl) rfl rfl ?_
        refine e_op 152 em_304 (ce_at ce_304 34 rfl) rfl rfl ?_
        refine e_iadd 153 em_304 rfl (ce_at ce_304 35 rfl) ?_
        exact e_reti em_304 (ce_at ce_304 36 rfl)
      refine e_case 46 (fun h15 => ?_) (fun h15 => ?_)
      · refine e_sw em_304 154 (ce_at ce_304 24 rfl) (sw_lk g8 rfl (by rw [h15])) rfl ?_
        refine e_mv 155 em_304 (ce_at ce_304 37 rfl) rfl rfl ?_
        refine e_mv 156 em_304 (ce_at ce_304 38 rfl) rfl rfl ?_
        refine e_op 157 em_304 (ce_at ce_304 39 rfl) rfl rfl ?_
        refine e_iadd 158 em_304 rfl (ce_at ce_304 40 rfl) ?_
        refine e_ivi 161 em_304 (ce_at ce_304 41 rfl) (by omega) (iv_v1 (by decide) tq_121 rfl) em_302 (Nat.le_of_ble_eq_true rfl) rfl (tm_at w (d - 1) (by omega) _ _) (fun r16 s16 => ?_)
        refine e_bip 163 em_304 (ce_at ce_304 42 rfl) (by decide) rfl ?_
        refine e_gd fun g17 => ?_
        refine e_cmeq 168 166 em_304 rfl rfl (ce_at ce_304 43 rfl) g17 (by decide) (fun h18 => ?_) (fun h18 => ?_)
        · refine e_mv 169 em_304 (ce_at ce_304 46 rfl) rfl rfl ?_
          refine e_op 170 em_304 (ce_at ce_304 47 rfl) rfl rfl ?_
          refine e_mv 171 em_304 (ce_at ce_304 48 rfl) rfl rfl ?_
          refine e_mv 172 em_304 (ce_at ce_304 49 rfl) rfl rfl ?_
          refine e_op 173 em_304 (ce_at ce_304 50 rfl) rfl rfl ?_
          refine e_iadd 174 em_304 rfl (ce_at ce_304 51 rfl) ?_
          refine e_mv 175 em_304 (ce_at ce_304 52 rfl) rfl rfl ?_
          refine e_ivv 178 em_304 (ce_at ce_304 53 rfl) (by omega) (iv_v4 (by decide) tq_121 rfl) em_303 (Nat.le_of_ble_eq_true rfl) rfl (tm_token w (d - 1) (by omega) _ _ _ _ _) (fun r19 s19 => ?_)
          refine e_mv 179 em_304 (ce_at ce_304 54 rfl) rfl rfl ?_
          refine e_op 180 em_304 (ce_at ce_304 55 rfl) rfl rfl ?_
          refine e_iadd 181 em_304 rfl (ce_at ce_304 56 rfl) ?_
          exact e_reti em_304 (ce_at ce_304 57 rfl)
        · refine e_op 167 em_304 (ce_at ce_304 44 rfl) rfl rfl ?_
          exact e_reti em_304 (ce_at ce_304 45 rfl)
      refine e_case 58 (fun h20 => ?_) (fun h20 => ?_)
      · refine e_sw em_304 140 (ce_at ce_304 24 rfl) (sw_lk g8 rfl (by rw [h20])) rfl ?_
        refine e_mv 141 em_304 (ce_at ce_304 25 rfl) rfl rfl ?_
        refine e_op 142 em_304 (ce_at ce_304 26 rfl) rfl rfl ?_
        refine e_mv 143 em_304 (ce_at ce_304 27 rfl) rfl rfl ?_
        refine e_mv 144 em_304 (ce_at ce_304 28 rfl) rfl rfl ?_
        refine e_op 145 em_304 (ce_at ce_304 29 rfl) rfl rfl ?_
        refine e_iadd 146 em_304 rfl (ce_at ce_304 30 rfl) ?_
        refine e_mv 147 em_304 (ce_at ce_304 31 rfl) rfl rfl ?_
        refine e_ivv 150 em_304 (ce_at ce_304 32 rfl) (by omega) (iv_v4 (by decide) tq_121 rfl) em_303 (Nat.le_of_ble_eq_true rfl) rfl (tm_token w (d - 1) (by omega) _ _ _ _ _) (fun r21 s21 => ?_)
        refine e_mv 151 em_304 (ce_at ce_304 33 rfl) rfl rfl ?_
        refine e_op 152 em_304 (ce_at ce_304 34 rfl) rfl rfl ?_
        refine e_iadd 153 em_304 rfl (ce_at ce_304 35 rfl) ?_
        exact e_reti em_304 (ce_at ce_304 36 rfl)
      refine e_case 59 (fun h22 => ?_) (fun h22 => ?_)
      · refine e_sw em_304 140 (ce_at ce_304 24 rfl) (sw_lk g8 rfl (by rw [h22])) rfl ?_
        refine e_mv 141 em_304 (ce_at ce_304 25 rfl) rfl rfl ?_
        refine e_op 142 em_304 (ce_at ce_304 26 rfl) rfl rfl ?_
        refine e_mv 143 em_304 (ce_at ce_304 27 rfl) rfl rfl ?_
        refine e_mv 144 em_304 (ce_at ce_304 28 rfl) rfl rfl ?_
        refine e_op 145 em_304 (ce_at ce_304 29 rfl) rfl rfl ?_
        refine e_iadd 146 em_304 rfl (ce_at ce_304 30 rfl) ?_
        refine e_mv 147 em_304 (ce_at ce_304 31 rfl) rfl rfl ?_
        refine e_ivv 150 em_304 (ce_at ce_304 32 rfl) (by omega) (iv_v4 (by decide) tq_121 rfl) em_303 (Nat.le_of_ble_eq_true rfl) rfl (tm_token w (d - 1) (by omega) _ _ _ _ _) (fun r23 s23 => ?_)
        refine e_mv 151 em_304 (ce_at ce_304 33 rfl) rfl rfl ?_
        refine e_op 152 em_304 (ce_at ce_304 34 rfl) rfl rfl ?_
        refine e_iadd 153 em_304 rfl (ce_at ce_304 35 rfl) ?_
        exact e_reti em_304 (ce_at ce_304 36 rfl)
      refine e_case 61 (fun h24 => ?_) (fun h24 => ?_)
      · refine e_sw em_304 140 (ce_at ce_304 24 rfl) (sw_lk g8 rfl (by rw [h24])) rfl ?_
        refine e_mv 141 em_304 (ce_at ce_304 25 rfl) rfl rfl ?_
        refine e_op 142 em_304 (ce_at ce_304 26 rfl) rfl rfl ?_
        refine e_mv 143 em_304 (ce_at ce_304 27 rfl) rfl rfl ?_
        refine e_mv 144 em_304 (ce_at ce_304 28 rfl) rfl rfl ?_
        refine e_op 145 em_304 (ce_at ce_304 29 rfl) rfl rfl ?_
        refine e_iadd 146 em_304 rfl (ce_at ce_304 30 rfl) ?_
        refine e_mv 147 em_304 (ce_at ce_304 31 rfl) rfl rfl ?_
        refine e_ivv 150 em_304 (ce_at ce_304 32 rfl) (by omega) (iv_v4 (by decide) tq_121 rfl) em_303 (Nat.le_of_ble_eq_true rfl) rfl (tm_token w (d - 1) (by omega) _ _ _ _ _) (fun r25 s25 => ?_)
        refine e_mv 151 em_304 (ce_at ce_304 33 rfl) rfl rfl ?_
        refine e_op 152 em_304 (ce_at ce_304 34 rfl) rfl rfl ?_
        refine e_iadd 153 em_304 rfl (ce_at ce_304 35 rfl) ?_
        exact e_reti em_304 (ce_at ce_304 36 rfl)
      refine e_case 91 (fun h26 => ?_) (fun h26 => ?_)
      · refine e_sw em_304 140 (ce_at ce_304 24 rfl) (sw_lk g8 rfl (by rw [h26])) rfl ?_
        refine e_mv 141 em_304 (ce_at ce_304 25 rfl) rfl rfl ?_
        refine e_op 142 em_304 (ce_at ce_304 26 rfl) rfl rfl ?_
        refine e_mv 143 em_304 (ce_at ce_304 27 rfl) rfl rfl ?_
        refine e_mv 144 em_304 (ce_at ce_304 28 rfl) rfl rfl ?_
        refine e_op 145 em_304 (ce_at ce_304 29 rfl) rfl rfl ?_
        refine e_iadd 146 em_304 rfl (ce_at ce_304 30 rfl) ?_
        refine e_mv 147 em_304 (ce_at ce_304 31 rfl) rfl rfl ?_
        refine e_ivv 150 em_304 (ce_at ce_304 32 rfl) (by omega) (iv_v4 (by decide) tq_121 rfl) em_303 (Nat.le_of_ble_eq_true rfl) rfl (tm_token w (d - 1) (by omega) _ _ _ _ _) (fun r27 s27 => ?_)
        refine e_mv 151 em_304 (ce_at ce_304 33 rfl) rfl rfl ?_
        refine e_op 152 em_304 (ce_at ce_304 34 rfl) rfl rfl ?_
        refine e_iadd 153 em_304 rfl (ce_at ce_304 35 rfl) ?_
        exact e_reti em_304 (ce_at ce_304 36 rfl)
      refine e_case 93 (fun h28 => ?_) (fun h28 => ?_)
      · refine e_sw em_304 140 (ce_at ce_304 24 rfl) (sw_lk g8 rfl (by rw [h28])) rfl ?_
        refine e_mv 141 em_304 (ce_at ce_304 25 rfl) rfl rfl ?_
        refine e_op 142 em_304 (ce_at ce_304 26 rfl) rfl rfl ?_
        refine e_mv 143 em_304 (ce_at ce_304 27 rfl) rfl rfl ?_
        refine e_mv 144 em_304 (ce_at ce_304 28 rfl) rfl rfl ?_
        refine e_op 145 em_304 (ce_at ce_304 29 rfl) rfl rfl ?_
        refine e_iadd 146 em_304 rfl (ce_at ce_304 30 rfl) ?_
        refine e_mv 147 em_304 (ce_at ce_304 31 rfl) rfl rfl ?_
        refine e_ivv 150 em_304 (ce_at ce_304 32 rfl) (by omega) (iv_v4 (by decide) tq_121 rfl) em_303 (Nat.le_of_ble_eq_true rfl) rfl (tm_token w (d - 1) (by omega) _ _ _ _ _) (fun r29 s29 => ?_)
        refine e_mv 151 em_304 (ce_at ce_304 33 rfl) rfl rfl ?_
        refine e_op 152 em_304 (ce_at ce_304 34 rfl) rfl rfl ?_
        refine e_iadd 153 em_304 rfl (ce_at ce_304 35 rfl) ?_
        exact e_reti em_304 (ce_at ce_304 36 rfl)
      refine e_case 123 (fun h30 => ?_) (fun h30 => ?_)
      · refine e_sw em_304 140 (ce_at ce_304 24 rfl) (sw_lk g8 rfl (by rw [h30])) rfl ?_
        refine e_mv 141 em_304 (ce_at ce_304 25 rfl) rfl rfl ?_
        refine e_op 142 em_304 (ce_at ce_304 26 rfl) rfl rfl ?_
        refine e_mv 143 em_304 (ce_at ce_304 27 rfl) rfl rfl ?_
        refine e_mv 144 em_304 (ce_at ce_304 28 rfl) rfl rfl ?_
        refine e_op 145 em_304 (ce_at ce_304 29 rfl) rfl rfl ?_
        refine e_iadd 146 em_304 rfl (ce_at ce_304 30 rfl) ?_
        refine e_mv 147 em_304 (ce_at ce_304 31 rfl) rfl rfl ?_
        refine e_ivv 150 em_304 (ce_at ce_304 32 rfl) (by omega) (iv_v4 (by decide) tq_121 rfl) em_303 (Nat.le_of_ble_eq_true rfl) rfl (tm_token w (d - 1) (by omega) _ _ _ _ _) (fun r31 s31 => ?_)
        refine e_mv 151 em_304 (ce_at ce_304 33 rfl) rfl rfl ?_
        refine e_op 152 em_304 (ce_at ce_304 34 rfl) rfl rfl ?_
        refine e_iadd 153 em_304 rfl (ce_at ce_304 35 rfl) ?_
        exact e_reti em_304 (ce_at ce_304 36 rfl)
      refine e_case 125 (fun h32 => ?_) (fun h32 => ?_)
      · refine e_sw em_304 140 (ce_at ce_304 24 rfl) (sw_lk g8 rfl (by rw [h32])) rfl ?_
        refine e_mv 141 em_304 (ce_at ce_304 25 rfl) rfl rfl ?_
        refine e_op 142 em_304 (ce_at ce_304 26 rfl) rfl rfl ?_
        refine e_mv 143 em_304 (ce_at ce_304 27 rfl) rfl rfl ?_
        refine e_mv 144 em_304 (ce_at ce_304 28 rfl) rfl rfl ?_
        refine e_op 145 em_304 (ce_at ce_304 29 rfl) rfl rfl ?_
        refine e_iadd 146 em_304 rfl (ce_at ce_304 30 rfl) ?_
        refine e_mv 147 em_304 (ce_at ce_304 31 rfl) rfl rfl ?_
        refine e_ivv 150 em_304 (ce_at ce_304 32 rfl) (by omega) (iv_v4 (by decide) tq_121 rfl) em_303 (Nat.le_of_ble_eq_true rfl) rfl (tm_token w (d - 1) (by omega) _ _ _ _ _) (fun r33 s33 => ?_)
        refine e_mv 151 em_304 (ce_at ce_304 33 rfl) rfl rfl ?_
        refine e_op 152 em_304 (ce_at ce_304 34 rfl) rfl rfl ?_
        refine e_iadd 153 em_304 rfl (ce_at ce_304 35 rfl) ?_
        exact e_reti em_304 (ce_at ce_304 36 rfl)
      refine e_sw em_304 182 (ce_at ce_304 24 rfl) (sw_lk g8 rfl (lk_step h9 (lk_step h11 (lk_step h13 (lk_step h15 (lk_step h20 (lk_step h22 (lk_step h24 (lk_step h26 (lk_step h28 (lk_step h30 (lk_step h32 rfl)))))))))))) rfl ?_
      refine e_op 183 em_304 (ce_at ce_304 58 rfl) rfl rfl ?_
      exact e_reti em_304 (ce_at ce_304 59 rfl)
    · refine e_mv 32 em_304 (ce_at ce_304 17 rfl) rfl rfl ?_
      refine e_mv 33 em_304 (ce_at ce_304 18 rfl) rfl rfl ?_
      refine e_op 34 em_304 (ce_at ce_304 19 rfl) rfl rfl ?_
      refine e_bip 36 em_304 (ce_at ce_304 20 rfl) (by decide) rfl ?_
      refine e_ivi 39 em_304 (ce_at ce_304 21 rfl) (by omega) (iv_v3 (by decide) tq_121 rfl) em_310 (Nat.le_of_ble_eq_true rfl) rfl (tm_numberToken w (d - 1) (by omega) _ _ _ _) (fun r34 s34 => ?_)
      exact e_reti em_304 (ce_at ce_304 22 rfl)
  · refine e_mv 15 em_304 (ce_at ce_304 8 rfl) rfl rfl ?_
    refine e_mv 16 em_304 (ce_at ce_304 9 rfl) rfl rfl ?_
    refine e_gst 19 em_304 (ce_at ce_304 10 rfl) rfl rfl ?_
    refine e_op 20 em_304 (ce_at ce_304 11 rfl) rfl rfl ?_
    refine e_ivi 23 em_304 (ce_at ce_304 12 rfl) (by omega) (iv_v3 (by decide) tq_121 rfl) em_306 (Nat.le_of_ble_eq_true rfl) rfl (tm_wordToken w (d - 1) (by omega) 29 ka_6 6 (by decide) (kt_6 _ _) (by decide) _ _ _) (fun r35 s35 => ?_)
    exact e_reti em_304 (ce_at ce_304 13 rfl)
theorem fm_chipToken (v1 : Int) (s : iS) : Fm Prod.snd L_m_chipToken G_m_chipToken s (m_chipToken v1 s) := fm_gd (fm_bd (fm_sub (fm_isLetter _ _) (mem_sub_L rfl) (mem_sub_F rfl)) (fun r2 s2 => fm_gd (fm_if (fm_bd (fm_sub (fm_isDigit _ _) (mem_sub_L rfl) (mem_sub_F rfl)) (fun r5 s5 => fm_gd (fm_if (fm_gd (fm_if (fm_bd (fm_sub (fm_token _ _ _ _ _) (mem_sub_L rfl) (mem_sub_F rfl)) (fun r10 s10 => fm_some md_refl)) (fm_if (fm_bd (fm_sub (fm_token _ _ _ _ _) (mem_sub_L rfl) (mem_sub_F rfl)) (fun r12 s12 => fm_some md_refl)) (fm_if (fm_bd (fm_sub (fm_token _ _ _ _ _) (mem_sub_L rfl) (mem_sub_F rfl)) (fun r14 s14 => fm_some md_refl)) (fm_if (fm_bd (fm_sub (fm_at _ _) (mem_sub_L rfl) (mem_sub_F rfl)) (fun r16 s16 => fm_gd (fm_if (fm_bd (fm_sub (fm_token _ _ _ _ _) (mem_sub_L rfl) (mem_sub_F rfl)) (fun r19 s19 => fm_some md_refl)) (fm_some md_refl)))) (fm_if (fm_bd (fm_sub (fm_token _ _ _ _ _) (mem_sub_L rfl) (mem_sub_F rfl)) (fun r21 s21 => fm_some md_refl)) (fm_if (fm_bd (fm_sub (fm_token _ _ _ _ _) (mem_sub_L rfl) (mem_sub_F rfl)) (fun r23 s23 => fm_some md_refl)) (fm_if (fm_bd (fm_sub (fm_token _ _ _ _ _) (mem_sub_L rfl) (mem_sub_F rfl)) (fun r25 s25 => fm_some md_refl)) (fm_if (fm_bd (fm_sub (fm_token _ _ _ _ _) (mem_sub_L rfl) (mem_sub_F rfl)) (fun r27 s27 => fm_some md_refl)) (fm_if (fm_bd (fm_sub (fm_token _ _ _ _ _) (mem_sub_L rfl) (mem_sub_F rfl)) (fun r29 s29 => fm_some md_refl)) (fm_if (fm_bd (fm_sub (fm_token _ _ _ _ _) (mem_sub_L rfl) (mem_sub_F rfl)) (fun r31 s31 => fm_some md_refl)) (fm_if (fm_bd (fm_sub (fm_token _ _ _ _ _) (mem_sub_L rfl) (mem_sub_F rfl)) (fun r33 s33 => fm_some md_refl)) (fm_some md_refl))))))))))))) (fm_bd (fm_sub (fm_numberToken _ _ _ _) (mem_sub_L rfl) (mem_sub_F rfl)) (fun r34 s34 => fm_some md_refl))))) (fm_bd (fm_sub (fm_wordToken 29 ka_6 _ _ _) (mem_sub_L rfl) (mem_sub_F rfl)) (fun r35 s35 => fm_some md_refl)))))
