/-! what the methods do, as functions, and that the machine does it; printed by wip/whole/dc.py -/
/-! m_boardPin -/
def L_m_boardPin : List Nat := []
def G_m_boardPin : List (Nat × Nat) := []
def m_boardPin_13C (w : ev_W) (d : Nat) (v1 : Int) (v2 : Int) : (Int × Int × iS) ⊕ ((Int × iS) ⊕ (iS)) → am_E → Prop := fun q r => q.elim (fun l => ev w d 479 13 ((fun l => [(0, .ref (tb_nK + 121)), (1, iv v1), (2, iv v2), (3, iv (l.1)), (4, iv (l.2.1))]) l) [] (hT ((fun l => l.2.2) l)) r) (fun e => (fun e r => e.elim (fun e => ev w d 479 58 [(4, iv (e.1))] [] (hT (e.2)) r) (fun e => ev w d 479 71 [] [] (hT (e)) r)) e r)
noncomputable def m_boardPin_13b (v1 : Int) (v2 : Int) (v3 : Int) (v4 : Int) (s : iS) : Option ((Int × Int × iS) ⊕ ((Int × iS) ⊕ (iS))) := gd (rg (s 121 152)) (if (s 121 152) = 0 then some (.inr (.inr s)) else gd (rg v1) (if v1 < 0 then some (.inr (.inr s)) else gd (0 ≤ ((s 121 174) + 1) ∧ ((s 121 174) + 1) < 18) (gd (rg v4) (gd (rg (s 196 ((s 121 174) + 1).toNat)) (if (s 196 ((s 121 174) + 1).toNat) ≤ v4 then some (.inr (.inr s)) else gd (0 ≤ v4 ∧ v4 < 200) (gd (rg (s 197 v4.toNat)) (gd (rg v2) (if (s 197 v4.toNat) = v2 then gd (rg v3) (if v3 = 0 then some (.inr (.inl (v4, s))) else some (.inl ((v3 - 1), (v4 + 1), s))) else some (.inl (v3, (v4 + 1), s))))))))))
theorem tm_boardPin_13b (w : ev_W) (d : Nat) (hd : 0 ≤ d) (v1 : Int) (v2 : Int) (v3 : Int) (v4 : Int) (s : iS) : Ew hT w d 479 13 [(0, .ref (tb_nK + 121)), (1, iv v1), (2, iv v2), (3, iv v3), (4, iv v4)] [] s (m_boardPin_13C w d v1 v2) (m_boardPin_13b v1 v2 v3 v4 s) := by
  unfold m_boardPin_13b
  refine e_mv 14 em_479 (ce_at ce_479 8 rfl) rfl rfl ?_
  refine e_get 17 em_479 (ce_at ce_479 9 rfl) tq_121 rfl rfl ?_
  refine e_gd fun g1 => ?_
  refine e_ifeq 71 20 em_479 rfl rfl (ce_at ce_479 10 rfl) g1 (fun h2 => ?_) (fun h2 => ?_)
  · refine e_pk [] rfl rfl ?_
    exact e_out (fun r h => h)
  · refine e_mv 21 em_479 (ce_at ce_479 11 rfl) rfl rfl ?_
    refine e_gd fun g3 => ?_
    refine e_iflt 71 24 em_479 rfl rfl (ce_at ce_479 12 rfl) g3 (fun h4 => ?_) (fun h4 => ?_)
    · refine e_pk [] rfl rfl ?_
      exact e_out (fun r h => h)
    · refine e_mv 26 em_479 (ce_at ce_479 13 rfl) rfl rfl ?_
      refine e_mv 27 em_479 (ce_at ce_479 14 rfl) rfl rfl ?_
      refine e_getr 30 em_479 (ce_at ce_479 15 rfl) tq_121 rfl rfl ?_
      refine e_mv 31 em_479 (ce_at ce_479 16 rfl) rfl rfl ?_
      refine e_get 34 em_479 (ce_at ce_479 17 rfl) tq_121 rfl rfl ?_
      refine e_op 35 em_479 (ce_at ce_479 18 rfl) rfl rfl ?_
      refine e_iadd 36 em_479 rfl (ce_at ce_479 19 rfl) ?_
      refine e_gd fun g5 => ?_
      refine e_ild 37 em_479 (ce_at ce_479 20 rfl) tq_196 (by decide) g5 rfl ?_
      refine e_gd fun g6 => ?_
      refine e_gd fun g7 => ?_
      refine e_cmge 71 40 em_479 rfl rfl (ce_at ce_479 21 rfl) g6 g7 (fun h8 => ?_) (fun h8 => ?_)
      · refine e_pk [] rfl rfl ?_
        exact e_out (fun r h => h)
      · refine e_mv 41 em_479 (ce_at ce_479 22 rfl) rfl rfl ?_
        refine e_getr 44 em_479 (ce_at ce_479 23 rfl) tq_121 rfl rfl ?_
        refine e_mv 46 em_479 (ce_at ce_479 24 rfl) rfl rfl ?_
        refine e_gd fun g9 => ?_
        refine e_zld 47 em_479 (ce_at ce_479 25 rfl) tq_197 (by decide) g9 rfl ?_
        refine e_mv 48 em_479 (ce_at ce_479 26 rfl) rfl rfl ?_
        refine e_gd fun g10 => ?_
        refine e_gd fun g11 => ?_
        refine e_cmeq 54 51 em_479 rfl rfl (ce_at ce_479 27 rfl) g10 g11 (fun h12 => ?_) (fun h12 => ?_)
        · refine e_mv 55 em_479 (ce_at ce_479 29 rfl) rfl rfl ?_
          refine e_gd fun g13 => ?_
          refine e_ifne 61 58 em_479 rfl rfl (ce_at ce_479 30 rfl) g13 (fun h14 => ?_) (fun h14 => ?_)
          · refine e_mv 62 em_479 (ce_at ce_479 33 rfl) rfl rfl ?_
            refine e_op 63 em_479 (ce_at ce_479 34 rfl) rfl rfl ?_
            refine e_isub 64 em_479 rfl (ce_at ce_479 35 rfl) ?_
            refine e_mv 65 em_479 (ce_at ce_479 36 rfl) rfl rfl ?_
            refine e_iinc 68 em_479 (ce_at ce_479 37 rfl) rfl (by decide) rfl ?_
            refine e_goto em_479 13 (ce_at ce_479 38 rfl) rfl ?_
            refine e_pk [0, 1, 2, 3, 4] rfl rfl ?_
            exact e_out (fun r h => h)
          · refine e_pk [4] rfl rfl ?_
            exact e_out (fun r h => h)
        · refine e_goto em_479 65 (ce_at ce_479 28 rfl) rfl ?_
          refine e_iinc 68 em_479 (ce_at ce_479 37 rfl) rfl (by decide) rfl ?_
          refine e_goto em_479 13 (ce_at ce_479 38 rfl) rfl ?_
          refine e_pk [0, 1, 2, 3, 4] rfl rfl ?_
          exact e_out (fun r h => h)
theorem fm_boardPin_13b (v1 : Int) (v2 : Int) (v3 : Int) (v4 : Int) (s : iS) : Fm (fun r : (Int × Int × iS) ⊕ ((Int × iS) ⊕ (iS)) => r.elim (fun l => l.2.2) (fun e => e.elim (fun e => e.2) (fun e => e))) L_m_boardPin G_m_boardPin s (m_boardPin_13b v1 v2 v3 v4 s) := fm_gd (fm_if (fm_some md_refl) (fm_gd (fm_if (fm_some md_refl) (fm_gd (fm_gd (fm_gd (fm_if (fm_some md_refl) (fm_gd (fm_gd (fm_gd (fm_if (fm_gd (fm_if (fm_some md_refl) (fm_some md_refl))) (fm_some md_refl))))))))))))
noncomputable def m_boardPin_13 (v1 : Int) (v2 : Int) (v3 : Int) (v4 : Int) (s : iS) : Option (Int × iS) := (lp (L := Int × Int × iS) (E := (Int × iS) ⊕ (iS)) (fun l => m_boardPin_13b v1 v2 (l.1) (l.2.1) (l.2.2)) (v3, v4, s)).bind (fun e => e.elim (fun e => some (e.1, e.2)) (fun e => some ((-1), e)))
theorem tm_boardPin_13 (w : ev_W) (d : Nat) (hd : 0 ≤ d) (v1 : Int) (v2 : Int) (v3 : Int) (v4 : Int) (s : iS) : Ew hT w d 479 13 [(0, .ref (tb_nK + 121)), (1, iv v1), (2, iv v2), (3, iv v3), (4, iv v4)] [] s (Ci hT) (m_boardPin_13 v1 v2 v3 v4 s) := by
  unfold m_boardPin_13
  refine e_lp (L := Int × Int × iS) (E := (Int × iS) ⊕ (iS)) (LO := fun l => [(0, .ref (tb_nK + 121)), (1, iv v1), (2, iv v2), (3, iv (l.1)), (4, iv (l.2.1))]) (LS := fun l => l.2.2) (CE := fun e r => e.elim (fun e => ev w d 479 58 [(4, iv (e.1))] [] (hT (e.2)) r) (fun e => ev w d 479 71 [] [] (hT (e)) r)) (fun l => tm_boardPin_13b w d hd _ _ _ _ _) ?_ (v3, v4, s)
  rintro (e | e)
  · show Ew hT w d 479 58 [(4, iv (e.1))] [] e.2 (Ci hT) _
    refine e_mv 60 em_479 (ce_at ce_479 31 rfl) rfl rfl ?_
    exact e_reti em_479 (ce_at ce_479 32 rfl)
  · show Ew hT w d 479 71 [] [] e (Ci hT) _
    refine e_op 72 em_479 (ce_at ce_479 39 rfl) rfl rfl ?_
    exact e_reti em_479 (ce_at ce_479 40 rfl)
theorem fm_boardPin_13 (v1 : Int) (v2 : Int) (v3 : Int) (v4 : Int) (s : iS) : Fm Prod.snd L_m_boardPin G_m_boardPin s (m_boardPin_13 v1 v2 v3 v4 s) := by
  unfold m_boardPin_13
  refine fm_lp (A := Int × Int × iS) (E := (Int × iS) ⊕ (iS)) (LS := fun l => l.2.2) (LE := fun e => e.elim (fun e => e.2) (fun e => e)) ?_ ?_ (v3, v4, s)
  · exact fun l => fm_boardPin_13b _ _ _ _ _
  · exact (by rintro (e | e); exact fm_some md_refl; exact fm_some md_refl)
noncomputable def m_boardPin (v1 : Int) (v2 : Int) (s : iS) : Option (Int × iS) := gd (0 ≤ (s 121 174) ∧ (s 121 174) < 18) (m_boardPin_13 v1 v2 v1 (s 196 (s 121 174).toNat) s)
theorem tm_boardPin (w : ev_W) (d : Nat) (hd : 0 ≤ d) (v1 : Int) (v2 : Int) (s : iS) : Ew hT w d 479 0 [(0, .ref (tb_nK + 121)), (1, iv v1), (2, iv v2)] [] s (Ci hT) (m_boardPin v1 v2 s) := by
  unfold m_boardPin
  refine e_mv 1 em_479 (ce_at ce_479 0 rfl) rfl rfl ?_
  refine e_mv 2 em_479 (ce_at ce_479 1 rfl) rfl rfl ?_
  refine e_mv 3 em_479 (ce_at ce_479 2 rfl) rfl rfl ?_
  refine e_getr 6 em_479 (ce_at ce_479 3 rfl) tq_121 rfl rfl ?_
  refine e_mv 7 em_479 (ce_at ce_479 4 rfl) rfl rfl ?_
  refine e_get 10 em_479 (ce_at ce_479 5 rfl) tq_121 rfl rfl ?_
  refine e_gd fun g1 => ?_
  refine e_ild 11 em_479 (ce_at ce_479 6 rfl) tq_196 (by decide) g1 rfl ?_
  refine e_mv 13 em_479 (ce_at ce_479 7 rfl) rfl rfl ?_
  refine e_pk [0, 1, 2, 3, 4] rfl rfl ?_
  exact tm_boardPin_13 w d hd _ _ _ _ _
theorem fm_boardPin (v1 : Int) (v2 : Int) (s : iS) : Fm Prod.snd L_m_boardPin G_m_boardPin s (m_boardPin v1 v2 s) := fm_gd (fm_boardPin_13 _ _ _ _ _)
/-! m_drive -/
def L_m_drive : List Nat := [230]
def G_m_drive : List (Nat × Nat) := []
def m_drive_17C (w : ev_W) (d : Nat) (v2 : Int) (v3 : Int) : (Int × iS) ⊕ (iS) → am_E → Prop := fun q r => q.elim (fun l => ev w d 478 17 ((fun l => [(0, .ref (tb_nK + 121)), (2, iv v2), (3, iv v3), (4, iv (l.1))]) l) [] (hT ((fun l => l.2) l)) r) (fun e => (fun e r => ev w d 478 57 [(0, .ref (tb_nK + 121))] [] (hT (e)) r) e r)
noncomputable def m_drive_17b (v2 : Int) (v3 : Int) (v4 : Int) (s : iS) : Option ((Int × iS) ⊕ (iS)) := gd (0 ≤ v3 ∧ v3 < 200) (gd (rg v4) (gd (rg (s 199 v3.toNat)) (if (s 199 v3.toNat) ≤ v4 then some (.inr s) else bd (m_pinPlace (s 121 174) v3 s) (fun r5 s5 => gd (0 ≤ (r5 + v4) ∧ (r5 + v4) < 40000) (lt' (up s5 230 (r5 + v4).toNat (i_and (i_shr v2 v4) 1)) (fun s7 => some (.inl ((v4 + 1), s7))))))))
theorem tm_drive_17b (w : ev_W) (d : Nat) (hd : 2 ≤ d) (v2 : Int) (v3 : Int) (v4 : Int) (s : iS) : Ew hT w d 478 17 [(0, .ref (tb_nK + 121)), (2, iv v2), (3, iv v3), (4, iv v4)] [] s (m_drive_17C w d v2 v3) (m_drive_17b v2 v3 v4 s) := by
  unfold m_drive_17b
  refine e_mv 19 em_478 (ce_at ce_478 12 rfl) rfl rfl ?_
  refine e_mv 20 em_478 (ce_at ce_478 13 rfl) rfl rfl ?_
  refine e_getr 23 em_478 (ce_at ce_478 14 rfl) tq_121 rfl rfl ?_
  refine e_mv 24 em_478 (ce_at ce_478 15 rfl) rfl rfl ?_
  refine e_gd fun g1 => ?_
  refine e_ild 25 em_478 (ce_at ce_478 16 rfl) tq_199 (by decide) g1 rfl ?_
  refine e_gd fun g2 => ?_
  refine e_gd fun g3 => ?_
  refine e_cmge 57 28 em_478 rfl rfl (ce_at ce_478 17 rfl) g2 g3 (fun h4 => ?_) (fun h4 => ?_)
  · refine e_pk [0] rfl rfl ?_
    exact e_out (fun r h => h)
  · refine e_mv 29 em_478 (ce_at ce_478 18 rfl) rfl rfl ?_
    refine e_getr 32 em_478 (ce_at ce_478 19 rfl) tq_121 rfl rfl ?_
    refine e_mv 33 em_478 (ce_at ce_478 20 rfl) rfl rfl ?_
    refine e_mv 34 em_478 (ce_at ce_478 21 rfl) rfl rfl ?_
    refine e_get 37 em_478 (ce_at ce_478 22 rfl) tq_121 rfl rfl ?_
    refine e_mv 38 em_478 (ce_at ce_478 23 rfl) rfl rfl ?_
    refine e_ivi 41 em_478 (ce_at ce_478 24 rfl) (by omega) (iv_v2 (by decide) tq_121 rfl) em_469 (Nat.le_of_ble_eq_true rfl) rfl (tm_pinPlace w (d - 1) (by omega) _ _ _) (fun r5 s5 => ?_)
    refine e_mv 43 em_478 (ce_at ce_478 25 rfl) rfl rfl ?_
    refine e_iadd 44 em_478 rfl (ce_at ce_478 26 rfl) ?_
    refine e_mv 45 em_478 (ce_at ce_478 27 rfl) rfl rfl ?_
    refine e_mv 47 em_478 (ce_at ce_478 28 rfl) rfl rfl ?_
    refine e_ishr 48 em_478 rfl (ce_at ce_478 29 rfl) ?_
    refine e_op 49 em_478 (ce_at ce_478 30 rfl) rfl rfl ?_
    refine e_iand 50 em_478 rfl (ce_at ce_478 31 rfl) ?_
    refine e_gd fun g6 => ?_
    refine e_ist 51 em_478 (ce_at ce_478 32 rfl) tq_230 (by decide) g6 rfl (fun s7 => ?_)
    refine e_iinc 54 em_478 (ce_at ce_478 33 rfl) rfl (by decide) rfl ?_
    refine e_goto em_478 17 (ce_at ce_478 34 rfl) rfl ?_
    refine e_pk [0, 2, 3, 4] rfl rfl ?_
    exact e_out (fun r h => h)
theorem fm_drive_17b (v2 : Int) (v3 : Int) (v4 : Int) (s : iS) : Fm (fun r : (Int × iS) ⊕ (iS) => r.elim (fun l => l.2) (fun e => e)) L_m_drive G_m_drive s (m_drive_17b v2 v3 v4 s) := fm_gd (fm_gd (fm_gd (fm_if (fm_some md_refl) (fm_bd (fm_sub (fm_pinPlace _ _ _) (mem_sub_L rfl) (mem_sub_F rfl)) (fun r5 s5 => fm_gd (fm_lt (md_upL (mem_L rfl)) (fun s7 => fm_some md_refl)))))))
noncomputable def m_drive_57 (s : iS) : Option (Int × iS) := bd (m_settle s) (fun _ s1 => some (1, s1))
theorem tm_drive_57 (w : ev_W) (d : Nat) (hd : 2 ≤ d) (s : iS) : Ew hT w d 478 57 [(0, .ref (tb_nK + 121))] [] s (Ci hT) (m_drive_57 s) := by
  unfold m_drive_57
  refine e_mv 58 em_478 (ce_at ce_478 35 rfl) rfl rfl ?_
  refine e_ivv 61 em_478 (ce_at ce_478 36 rfl) (by omega) (iv_v0 (by decide) tq_121 rfl) em_476 (Nat.le_of_ble_eq_true rfl) rfl (tm_settle w (d - 1) (by omega) _) (fun r1 s1 => ?_)
  refine e_op 62 em_478 (ce_at ce_478 37 rfl) rfl rfl ?_
  exact e_retz em_478 (ce_at ce_478 38 rfl) (by decide)
theorem fm_drive_57 (s : iS) : Fm Prod.snd L_m_drive G_m_drive s (m_drive_57 s) := fm_bd (fm_sub (fm_settle _) (mem_sub_L rfl) (mem_sub_F rfl)) (fun r1 s1 => fm_some md_refl)
noncomputable def m_drive_17 (v2 : Int) (v3 : Int) (v4 : Int) (s : iS) : Option (Int × iS) := (lp (L := Int × iS) (E := iS) (fun l => m_drive_17b v2 v3 (l.1) (l.2)) (v4, s)).bind (fun e => m_drive_57 e)
theorem tm_drive_17 (w : ev_W) (d : Nat) (hd : 2 ≤ d) (v2 : Int) (v3 : Int) (v4 : Int) (s : iS) : Ew hT w d 478 17 [(0, .ref (tb_nK + 121)), (2, iv v2), (3, iv v3), (4, iv v4)] [] s (Ci hT) (m_drive_17 v2 v3 v4 s) := by
  unfold m_drive_17
  refine e_lp (L := Int × iS) (E := iS) (LO := fun l => [(0, .ref (tb_nK + 121)), (2, iv v2), (3, iv v3), (4, iv (l.1))]) (LS := fun l => l.2) (CE := fun e r => ev w d 478 57 [(0, .ref (tb_nK + 121))] [] (hT (e)) r) (fun l => tm_drive_17b w d hd _ _ _ _) ?_ (v4, s)
  intro e
  show Ew hT w d 478 57 [(0, .ref (tb_nK + 121))] [] e (Ci hT) _
  refine e_pk [0] rfl rfl ?_
  exact tm_drive_57 w d hd _
theorem fm_drive_17 (v2 : Int) (v3 : Int) (v4 : Int) (s : iS) : Fm Prod.snd L_m_drive G_m_drive s (m_drive_17 v2 v3 v4 s) := by
  unfold m_drive_17
  refine fm_lp (A := Int × iS) (E := iS) (LS := fun l => l.2) (LE := fun e => e) ?_ ?_ (v4, s)
  · exact fun l => fm_drive_17b _ _ _ _
  · exact (fun e => fm_drive_57 _)
noncomputable def m_drive (v1 : Int) (v2 : Int) (s : iS) : Option (Int × iS) := bd (m_boardPin v1 0 s) (fun r1 s1 => gd (rg r1) (if r1 = (-1) then some (0, s1) else m_drive_17 v2 r1 0 s1))
theorem tm_drive (w : ev_W) (d : Nat) (hd : 2 ≤ d) (v1 : Int) (v2 : Int) (s : iS) : Ew hT w d 478 0 [(0, .ref (tb_nK + 121)), (1, iv v1), (2, iv v2)] [] s (Ci hT) (m_drive v1 v2 s) := by
  unfold m_drive
  refine e_mv 1 em_478 (ce_at ce_478 0 rfl) rfl rfl ?_
  refine e_mv 2 em_478 (ce_at ce_478 1 rfl) rfl rfl ?_
  refine e_op 3 em_478 (ce_at ce_478 2 rfl) rfl rfl ?_
  refine e_ivi 6 em_478 (ce_at ce_478 3 rfl) (by omega) (iv_v2 (by decide) tq_121 rfl) em_479 (Nat.le_of_ble_eq_true rfl) rfl (tm_boardPin w (d - 1) (by omega) _ _ _) (fun r1 s1 => ?_)
  refine e_mv 7 em_478 (ce_at ce_478 4 rfl) rfl rfl ?_
  refine e_mv 8 em_478 (ce_at ce_478 5 rfl) rfl rfl ?_
  refine e_op 9 em_478 (ce_at ce_478 6 rfl) rfl rfl ?_
  refine e_gd fun g2 => ?_
  refine e_cmne 14 12 em_478 rfl rfl (ce_at ce_478 7 rfl) g2 (by decide) (fun h3 => ?_) (fun h3 => ?_)
  · refine e_op 15 em_478 (ce_at ce_478 10 rfl) rfl rfl ?_
    refine e_mv 17 em_478 (ce_at ce_478 11 rfl) rfl rfl ?_
    refine e_pk [0, 2, 3, 4] rfl rfl ?_
    exact tm_drive_17 w d hd _ _ _ _
  · refine e_op 13 em_478 (ce_at ce_478 8 rfl) rfl rfl ?_
    exact e_retz em_478 (ce_at ce_478 9 rfl) (by decide)
theorem fm_drive (v1 : Int) (v2 : Int) (s : iS) : Fm Prod.snd L_m_drive G_m_drive s (m_drive v1 v2 s) := fm_bd (fm_sub (fm_boardPin _ _ _) (mem_sub_L rfl) (mem_sub_F rfl)) (fun r1 s1 => fm_gd (fm_if (fm_some md_refl) (fm_drive_17 _ _ _ _)))
/-! m_pin -/
def L_m_pin : List Nat := []
def G_m_pin : List (Nat × Nat) := []
def m_pin_26C (w : ev_W) (d : Nat) (v2 : Int) : (Int × Int × iS) ⊕ (Int × iS) → am_E → Prop := fun q r => q.elim (fun l => ev w d 480 26 ((fun l => [(0, .ref (tb_nK + 121)), (2, iv v2), (3, iv (l.1)), (4, iv (l.2.1))]) l) [] (hT ((fun l => l.2.2) l)) r) (fun e => (fun e r => ev w d 480 62 [(3, iv (e.1))] [] (hT (e.2)) r) e r)
noncomputable def m_pin_26b (v2 : Int) (v3 : Int) (v4 : Int) (s : iS) : Option ((Int × Int × iS) ⊕ (Int × iS)) := gd (rg v4) (if v4 < 0 then some (.inr (v3, s)) else bd (m_pinPlace (s 121 174) v2 s) (fun r3 s3 => bd (m_source (r3 + v4) s3) (fun r4 s4 => bd (m_valueOf r4 s4) (fun r5 s5 => some (.inl (((2 * v3) + r5), (v4 + (-1)), s5))))))
theorem tm_pin_26b (w : ev_W) (d : Nat) (hd : 1 ≤ d) (v2 : Int) (v3 : Int) (v4 : Int) (s : iS) : Ew hT w d 480 26 [(0, .ref (tb_nK + 121)), (2, iv v2), (3, iv v3), (4, iv v4)] [] s (m_pin_26C w d v2) (m_pin_26b v2 v3 v4 s) := by
  unfold m_pin_26b
  refine e_mv 28 em_480 (ce_at ce_480 19 rfl) rfl rfl ?_
  refine e_gd fun g1 => ?_
  refine e_iflt 62 31 em_480 rfl rfl (ce_at ce_480 20 rfl) g1 (fun h2 => ?_) (fun h2 => ?_)
  · refine e_pk [3] rfl rfl ?_
    exact e_out (fun r h => h)
  · refine e_op 32 em_480 (ce_at ce_480 21 rfl) rfl rfl ?_
    refine e_mv 33 em_480 (ce_at ce_480 22 rfl) rfl rfl ?_
    refine e_imul 34 em_480 rfl (ce_at ce_480 23 rfl) ?_
    refine e_mv 35 em_480 (ce_at ce_480 24 rfl) rfl rfl ?_
    refine e_mv 36 em_480 (ce_at ce_480 25 rfl) rfl rfl ?_
    refine e_mv 37 em_480 (ce_at ce_480 26 rfl) rfl rfl ?_
    refine e_mv 38 em_480 (ce_at ce_480 27 rfl) rfl rfl ?_
    refine e_get 41 em_480 (ce_at ce_480 28 rfl) tq_121 rfl rfl ?_
    refine e_mv 42 em_480 (ce_at ce_480 29 rfl) rfl rfl ?_
    refine e_ivi 45 em_480 (ce_at ce_480 30 rfl) (by omega) (iv_v2 (by decide) tq_121 rfl) em_469 (Nat.le_of_ble_eq_true rfl) rfl (tm_pinPlace w (d - 1) (by omega) _ _ _) (fun r3 s3 => ?_)
    refine e_mv 47 em_480 (ce_at ce_480 31 rfl) rfl rfl ?_
    refine e_iadd 48 em_480 rfl (ce_at ce_480 32 rfl) ?_
    refine e_ivi 51 em_480 (ce_at ce_480 33 rfl) (by omega) (iv_v1 (by decide) tq_121 rfl) em_473 (Nat.le_of_ble_eq_true rfl) rfl (tm_source w (d - 1) (by omega) _ _) (fun r4 s4 => ?_)
    refine e_ivi 54 em_480 (ce_at ce_480 34 rfl) (by omega) (iv_v1 (by decide) tq_121 rfl) em_477 (Nat.le_of_ble_eq_true rfl) rfl (tm_valueOf w (d - 1) (by omega) _ _) (fun r5 s5 => ?_)
    refine e_iadd 55 em_480 rfl (ce_at ce_480 35 rfl) ?_
    refine e_mv 56 em_480 (ce_at ce_480 36 rfl) rfl rfl ?_
    refine e_iinc 59 em_480 (ce_at ce_480 37 rfl) rfl (by decide) rfl ?_
    refine e_goto em_480 26 (ce_at ce_480 38 rfl) rfl ?_
    refine e_pk [0, 2, 3, 4] rfl rfl ?_
    exact e_out (fun r h => h)
theorem fm_pin_26b (v2 : Int) (v3 : Int) (v4 : Int) (s : iS) : Fm (fun r : (Int × Int × iS) ⊕ (Int × iS) => r.elim (fun l => l.2.2) (fun e => e.2)) L_m_pin G_m_pin s (m_pin_26b v2 v3 v4 s) := fm_gd (fm_if (fm_some md_refl) (fm_bd (fm_sub (fm_pinPlace _ _ _) (mem_sub_L rfl) (mem_sub_F rfl)) (fun r3 s3 => fm_bd (fm_sub (fm_source _ _) (mem_sub_L rfl) (mem_sub_F rfl)) (fun r4 s4 => fm_bd (fm_sub (fm_valueOf _ _) (mem_sub_L rfl) (mem_sub_F rfl)) (fun r5 s5 => fm_some md_refl)))))
noncomputable def m_pin_26 (v2 : Int) (v3 : Int) (v4 : Int) (s : iS) : Option (Int × iS) := (lp (L := Int × Int × iS) (E := Int × iS) (fun l => m_pin_26b v2 (l.1) (l.2.1) (l.2.2)) (v3, v4, s)).bind (fun e => some (e.1, e.2))
theorem tm_pin_26 (w : ev_W) (d : Nat) (hd : 1 ≤ d) (v2 : Int) (v3 : Int) (v4 : Int) (s : iS) : Ew hT w d 480 26 [(0, .ref (tb_nK + 121)), (2, iv v2), (3, iv v3), (4, iv v4)] [] s (Ci hT) (m_pin_26 v2 v3 v4 s) := by
  unfold m_pin_26
  refine e_lp (L := Int × Int × iS) (E := Int × iS) (LO := fun l => [(0, .ref (tb_nK + 121)), (2, iv v2), (3, iv (l.1)), (4, iv (l.2.1))]) (LS := fun l => l.2.2) (CE := fun e r => ev w d 480 62 [(3, iv (e.1))] [] (hT (e.2)) r) (fun l => tm_pin_26b w d hd _ _ _ _) ?_ (v3, v4, s)
  intro e
  show Ew hT w d 480 62 [(3, iv (e.1))] [] e.2 (Ci hT) _
  refine e_mv 63 em_480 (ce_at ce_480 39 rfl) rfl rfl ?_
  exact e_reti em_480 (ce_at ce_480 40 rfl)
theorem fm_pin_26 (v2 : Int) (v3 : Int) (v4 : Int) (s : iS) : Fm Prod.snd L_m_pin G_m_pin s (m_pin_26 v2 v3 v4 s) := by
  unfold m_pin_26
  refine fm_lp (A := Int × Int × iS) (E := Int × iS) (LS := fun l => l.2.2) (LE := fun e => e.2) ?_ ?_ (v3, v4, s)
  · exact fun l => fm_pin_26b _ _ _ _
  · exact (fun e => fm_some md_refl)
noncomputable def m_pin (v1 : Int) (s : iS) : Option (Int × iS) := bd (m_boardPin v1 1 s) (fun r1 s1 => gd (rg r1) (if r1 = (-1) then some ((-1), s1) else gd (0 ≤ r1 ∧ r1 < 200) (m_pin_26 r1 0 ((s1 199 r1.toNat) - 1) s1)))
theorem tm_pin (w : ev_W) (d : Nat) (hd : 1 ≤ d) (v1 : Int) (s : iS) : Ew hT w d 480 0 [(0, .ref (tb_nK + 121)), (1, iv v1)] [] s (Ci hT) (m_pin v1 s) := by
  unfold m_pin
  refine e_mv 1 em_480 (ce_at ce_480 0 rfl) rfl rfl ?_
  refine e_mv 2 em_480 (ce_at ce_480 1 rfl) rfl rfl ?_
  refine e_op 3 em_480 (ce_at ce_480 2 rfl) rfl rfl ?_
  refine e_ivi 6 em_480 (ce_at ce_480 3 rfl) (by omega) (iv_v2 (by decide) tq_121 rfl) em_479 (Nat.le_of_ble_eq_true rfl) rfl (tm_boardPin w (d - 1) (by omega) _ _ _) (fun r1 s1 => ?_)
  refine e_mv 7 em_480 (ce_at ce_480 4 rfl) rfl rfl ?_
  refine e_mv 8 em_480 (ce_at ce_480 5 rfl) rfl rfl ?_
  refine e_op 9 em_480 (ce_at ce_480 6 rfl) rfl rfl ?_
  refine e_gd fun g2 => ?_
  refine e_cmne 14 12 em_480 rfl rfl (ce_at ce_480 7 rfl) g2 (by decide) (fun h3 => ?_) (fun h3 => ?_)
  · refine e_op 15 em_480 (ce_at ce_480 10 rfl) rfl rfl ?_
    refine e_mv 16 em_480 (ce_at ce_480 11 rfl) rfl rfl ?_
    refine e_mv 17 em_480 (ce_at ce_480 12 rfl) rfl rfl ?_
    refine e_getr 20 em_480 (ce_at ce_480 13 rfl) tq_121 rfl rfl ?_
    refine e_mv 21 em_480 (ce_at ce_480 14 rfl) rfl rfl ?_
    refine e_gd fun g4 => ?_
    refine e_ild 22 em_480 (ce_at ce_480 15 rfl) tq_199 (by decide) g4 rfl ?_
    refine e_op 23 em_480 (ce_at ce_480 16 rfl) rfl rfl ?_
    refine e_isub 24 em_480 rfl (ce_at ce_480 17 rfl) ?_
    refine e_mv 26 em_480 (ce_at ce_480 18 rfl) rfl rfl ?_
    refine e_pk [0, 2, 3, 4] rfl rfl ?_
    exact tm_pin_26 w d hd _ _ _ _
  · refine e_op 13 em_480 (ce_at ce_480 8 rfl) rfl rfl ?_
    exact e_reti em_480 (ce_at ce_480 9 rfl)
theorem fm_pin (v1 : Int) (s : iS) : Fm Prod.snd L_m_pin G_m_pin s (m_pin v1 s) := fm_bd (fm_sub (fm_boardPin _ _ _) (mem_sub_L rfl) (mem_sub_F rfl)) (fun r1 s1 => fm_gd (fm_if (fm_some md_refl) (fm_gd (fm_pin_26 _ _ _ _))))
/-! m_tick -/
def L_m_tick : List Nat := [230, 233]
def G_m_tick : List (Nat × Nat) := [(121, 173)]
def m_tick_13C (w : ev_W) (d : Nat) (v1 : Int) : (Int × iS) ⊕ (iS) → am_E → Prop := fun q r => q.elim (fun l => ev w d 481 13 ((fun l => [(0, .ref (tb_nK + 121)), (1, iv v1), (2, iv (l.1))]) l) [] (hT ((fun l => l.2) l)) r) (fun e => (fun e r => ev w d 481 43 [(0, .ref (tb_nK + 121)), (1, iv v1)] [] (hT (e)) r) e r)
noncomputable def m_tick_13b (v1 : Int) (v2 : Int) (s : iS) : Option ((Int × iS) ⊕ (iS)) := gd (rg v2) (gd (rg (s 121 161)) (if (s 121 161) ≤ v2 then some (.inr s) else gd (0 ≤ v2 ∧ v2 < 1500) (bd (m_valueOf (s 228 v2.toNat) s) (fun r5 s5 => lt' (up s5 233 v2.toNat r5) (fun s6 => some (.inl ((v2 + 1), s6)))))))
theorem tm_tick_13b (w : ev_W) (d : Nat) (hd : 2 ≤ d) (v1 : Int) (v2 : Int) (s : iS) : Ew hT w d 481 13 [(0, .ref (tb_nK + 121)), (1, iv v1), (2, iv v2)] [] s (m_tick_13C w d v1) (m_tick_13b v1 v2 s) := by
  unfold m_tick_13b
  refine e_mv 14 em_481 (ce_at ce_481 9 rfl) rfl rfl ?_
  refine e_mv 15 em_481 (ce_at ce_481 10 rfl) rfl rfl ?_
  refine e_get 18 em_481 (ce_at ce_481 11 rfl) tq_121 rfl rfl ?_
  refine e_gd fun g1 => ?_
  refine e_gd fun g2 => ?_
  refine e_cmge 43 21 em_481 rfl rfl (ce_at ce_481 12 rfl) g1 g2 (fun h3 => ?_) (fun h3 => ?_)
  · refine e_pk [0, 1] rfl rfl ?_
    exact e_out (fun r h => h)
  · refine e_mv 22 em_481 (ce_at ce_481 13 rfl) rfl rfl ?_
    refine e_getr 25 em_481 (ce_at ce_481 14 rfl) tq_121 rfl rfl ?_
    refine e_mv 26 em_481 (ce_at ce_481 15 rfl) rfl rfl ?_
    refine e_mv 27 em_481 (ce_at ce_481 16 rfl) rfl rfl ?_
    refine e_mv 28 em_481 (ce_at ce_481 17 rfl) rfl rfl ?_
    refine e_getr 31 em_481 (ce_at ce_481 18 rfl) tq_121 rfl rfl ?_
    refine e_mv 32 em_481 (ce_at ce_481 19 rfl) rfl rfl ?_
    refine e_gd fun g4 => ?_
    refine e_ild 33 em_481 (ce_at ce_481 20 rfl) tq_228 (by decide) g4 rfl ?_
    refine e_ivi 36 em_481 (ce_at ce_481 21 rfl) (by omega) (iv_v1 (by decide) tq_121 rfl) em_477 (Nat.le_of_ble_eq_true rfl) rfl (tm_valueOf w (d - 1) (by omega) _ _) (fun r5 s5 => ?_)
    refine e_ist 37 em_481 (ce_at ce_481 22 rfl) tq_233 (by decide) g4 rfl (fun s6 => ?_)
    refine e_iinc 40 em_481 (ce_at ce_481 23 rfl) rfl (by decide) rfl ?_
    refine e_goto em_481 13 (ce_at ce_481 24 rfl) rfl ?_
    refine e_pk [0, 1, 2] rfl rfl ?_
    exact e_out (fun r h => h)
theorem fm_tick_13b (v1 : Int) (v2 : Int) (s : iS) : Fm (fun r : (Int × iS) ⊕ (iS) => r.elim (fun l => l.2) (fun e => e)) L_m_tick G_m_tick s (m_tick_13b v1 v2 s) := fm_gd (fm_gd (fm_if (fm_some md_refl) (fm_gd (fm_bd (fm_sub (fm_valueOf _ _) (mem_sub_L rfl) (mem_sub_F rfl)) (fun r5 s5 => fm_lt (md_upL (mem_L rfl)) (fun s6 => fm_some md_refl))))))
def m_tick_45C (w : ev_W) (d : Nat) : (Int × Int × iS) ⊕ (Int × iS) → am_E → Prop := fun q r => q.elim (fun l => ev w d 481 45 ((fun l => [(0, .ref (tb_nK + 121)), (1, iv (l.1)), (2, iv (l.2.1))]) l) [] (hT ((fun l => l.2.2) l)) r) (fun e => (fun e r => ev w d 481 116 [(0, .ref (tb_nK + 121)), (1, iv (e.1))] [] (hT (e.2)) r) e r)
noncomputable def m_tick_91 (v1 : Int) (v2 : Int) (s : iS) : Option ((Int × Int × iS) ⊕ (Int × iS)) := gd (0 ≤ v2 ∧ v2 < 1500) (gd (0 ≤ ((s 225 v2.toNat) + 1) ∧ ((s 225 v2.toNat) + 1) < 40000) (lt' (up s 230 ((s 225 v2.toNat) + 1).toNat (s 233 v2.toNat)) (fun s3 => some (.inl (v1, (v2 + 1), s3)))))
theorem tm_tick_91 (w : ev_W) (d : Nat) (hd : 2 ≤ d) (v1 : Int) (v2 : Int) (s : iS) : Ew hT w d 481 91 [(0, .ref (tb_nK + 121)), (1, iv v1), (2, iv v2)] [] s (m_tick_45C w d) (m_tick_91 v1 v2 s) := by
  unfold m_tick_91
  refine e_mv 92 em_481 (ce_at ce_481 55 rfl) rfl rfl ?_
  refine e_getr 95 em_481 (ce_at ce_481 56 rfl) tq_121 rfl rfl ?_
  refine e_mv 96 em_481 (ce_at ce_481 57 rfl) rfl rfl ?_
  refine e_getr 99 em_481 (ce_at ce_481 58 rfl) tq_121 rfl rfl ?_
  refine e_mv 100 em_481 (ce_at ce_481 59 rfl) rfl rfl ?_
  refine e_gd fun g1 => ?_
  refine e_ild 101 em_481 (ce_at ce_481 60 rfl) tq_225 (by decide) g1 rfl ?_
  refine e_op 102 em_481 (ce_at ce_481 61 rfl) rfl rfl ?_
  refine e_iadd 103 em_481 rfl (ce_at ce_481 62 rfl) ?_
  refine e_mv 104 em_481 (ce_at ce_481 63 rfl) rfl rfl ?_
  refine e_getr 107 em_481 (ce_at ce_481 64 rfl) tq_121 rfl rfl ?_
  refine e_mv 108 em_481 (ce_at ce_481 65 rfl) rfl rfl ?_
  refine e_ild 109 em_481 (ce_at ce_481 66 rfl) tq_233 (by decide) g1 rfl ?_
  refine e_gd fun g2 => ?_
  refine e_ist 110 em_481 (ce_at ce_481 67 rfl) tq_230 (by decide) g2 rfl (fun s3 => ?_)
  refine e_iinc 113 em_481 (ce_at ce_481 68 rfl) rfl (by decide) rfl ?_
  refine e_goto em_481 45 (ce_at ce_481 69 rfl) rfl ?_
  refine e_pk [0, 1, 2] rfl rfl ?_
  exact e_out (fun r h => h)
theorem fm_tick_91 (v1 : Int) (v2 : Int) (s : iS) : Fm (fun r : (Int × Int × iS) ⊕ (Int × iS) => r.elim (fun l => l.2.2) (fun e => e.2)) L_m_tick G_m_tick s (m_tick_91 v1 v2 s) := fm_gd (fm_gd (fm_lt (md_upL (mem_L rfl)) (fun s3 => fm_some md_refl)))
noncomputable def m_tick_45b (v1 : Int) (v2 : Int) (s : iS) : Option ((Int × Int × iS) ⊕ (Int × iS)) := gd (rg v2) (gd (rg (s 121 161)) (if (s 121 161) ≤ v2 then some (.inr (v1, s)) else gd (0 ≤ v2 ∧ v2 < 1500) (gd (rg (s 224 v2.toNat)) (if (s 224 v2.toNat) = 0 then some (.inl (v1, (v2 + 1), s)) else gd (0 ≤ ((s 225 v2.toNat) + 1) ∧ ((s 225 v2.toNat) + 1) < 40000) (gd (rg (s 230 ((s 225 v2.toNat) + 1).toNat)) (gd (rg (s 233 v2.toNat)) (if (s 230 ((s 225 v2.toNat) + 1).toNat) = (s 233 v2.toNat) then m_tick_91 v1 v2 s else m_tick_91 (v1 + 1) v2 s)))))))
theorem tm_tick_45b (w : ev_W) (d : Nat) (hd : 2 ≤ d) (v1 : Int) (v2 : Int) (s : iS) : Ew hT w d 481 45 [(0, .ref (tb_nK + 121)), (1, iv v1), (2, iv v2)] [] s (m_tick_45C w d) (m_tick_45b v1 v2 s) := by
  unfold m_tick_45b
  refine e_mv 46 em_481 (ce_at ce_481 27 rfl) rfl rfl ?_
  refine e_mv 47 em_481 (ce_at ce_481 28 rfl) rfl rfl ?_
  refine e_get 50 em_481 (ce_at ce_481 29 rfl) tq_121 rfl rfl ?_
  refine e_gd fun g1 => ?_
  refine e_gd fun g2 => ?_
  refine e_cmge 116 53 em_481 rfl rfl (ce_at ce_481 30 rfl) g1 g2 (fun h3 => ?_) (fun h3 => ?_)
  · refine e_pk [0, 1] rfl rfl ?_
    exact e_out (fun r h => h)
  · refine e_mv 54 em_481 (ce_at ce_481 31 rfl) rfl rfl ?_
    refine e_getr 57 em_481 (ce_at ce_481 32 rfl) tq_121 rfl rfl ?_
    refine e_mv 58 em_481 (ce_at ce_481 33 rfl) rfl rfl ?_
    refine e_gd fun g4 => ?_
    refine e_zld 59 em_481 (ce_at ce_481 34 rfl) tq_224 (by decide) g4 rfl ?_
    refine e_gd fun g5 => ?_
    refine e_ifne 65 62 em_481 rfl rfl (ce_at ce_481 35 rfl) g5 (fun h6 => ?_) (fun h6 => ?_)
    · refine e_mv 66 em_481 (ce_at ce_481 37 rfl) rfl rfl ?_
      refine e_getr 69 em_481 (ce_at ce_481 38 rfl) tq_121 rfl rfl ?_
      refine e_mv 70 em_481 (ce_at ce_481 39 rfl) rfl rfl ?_
      refine e_getr 73 em_481 (ce_at ce_481 40 rfl) tq_121 rfl rfl ?_
      refine e_mv 74 em_481 (ce_at ce_481 41 rfl) rfl rfl ?_
      refine e_ild 75 em_481 (ce_at ce_481 42 rfl) tq_225 (by decide) g4 rfl ?_
      refine e_op 76 em_481 (ce_at ce_481 43 rfl) rfl rfl ?_
      refine e_iadd 77 em_481 rfl (ce_at ce_481 44 rfl) ?_
      refine e_gd fun g7 => ?_
      refine e_ild 78 em_481 (ce_at ce_481 45 rfl) tq_230 (by decide) g7 rfl ?_
      refine e_mv 79 em_481 (ce_at ce_481 46 rfl) rfl rfl ?_
      refine e_getr 82 em_481 (ce_at ce_481 47 rfl) tq_121 rfl rfl ?_
      refine e_mv 83 em_481 (ce_at ce_481 48 rfl) rfl rfl ?_
      refine e_ild 84 em_481 (ce_at ce_481 49 rfl) tq_233 (by decide) g4 rfl ?_
      refine e_gd fun g8 => ?_
      refine e_gd fun g9 => ?_
      refine e_cmeq 91 87 em_481 rfl rfl (ce_at ce_481 50 rfl) g8 g9 (fun h10 => ?_) (fun h10 => ?_)
      · refine e_pk [0, 1, 2] rfl rfl ?_
        exact tm_tick_91 w d hd _ _ _
      · refine e_mv 88 em_481 (ce_at ce_481 51 rfl) rfl rfl ?_
        refine e_op 89 em_481 (ce_at ce_481 52 rfl) rfl rfl ?_
        refine e_iadd 90 em_481 rfl (ce_at ce_481 53 rfl) ?_
        refine e_mv 91 em_481 (ce_at ce_481 54 rfl) rfl rfl ?_
        refine e_pk [0, 1, 2] rfl rfl ?_
        exact tm_tick_91 w d hd _ _ _
    · refine e_goto em_481 110 (ce_at ce_481 36 rfl) rfl ?_
      refine e_iinc 113 em_481 (ce_at ce_481 68 rfl) rfl (by decide) rfl ?_
      refine e_goto em_481 45 (ce_at ce_481 69 rfl) rfl ?_
      refine e_pk [0, 1, 2] rfl rfl ?_
      exact e_out (fun r h => h)
theorem fm_tick_45b (v1 : Int) (v2 : Int) (s : iS) : Fm (fun r : (Int × Int × iS) ⊕ (Int × iS) => r.elim (fun l => l.2.2) (fun e => e.2)) L_m_tick G_m_tick s (m_tick_45b v1 v2 s) := fm_gd (fm_gd (fm_if (fm_some md_refl) (fm_gd (fm_gd (fm_if (fm_some md_refl) (fm_gd (fm_gd (fm_gd (fm_if (fm_tick_91 _ _ _) (fm_tick_91 _ _ _))))))))))
noncomputable def m_tick_116 (v1 : Int) (s : iS) : Option (Int × iS) := lt' (up s 121 173 ((s 121 173) + 1)) (fun s1 => bd (m_settle s1) (fun _ s2 => some (v1, s2)))
theorem tm_tick_116 (w : ev_W) (d : Nat) (hd : 2 ≤ d) (v1 : Int) (s : iS) : Ew hT w d 481 116 [(0, .ref (tb_nK + 121)), (1, iv v1)] [] s (Ci hT) (m_tick_116 v1 s) := by
  unfold m_tick_116
  refine e_mv 117 em_481 (ce_at ce_481 70 rfl) rfl rfl ?_
  refine e_mv 118 em_481 (ce_at ce_481 71 rfl) rfl rfl ?_
  refine e_get 121 em_481 (ce_at ce_481 72 rfl) tq_121 rfl rfl ?_
  refine e_op 122 em_481 (ce_at ce_481 73 rfl) rfl rfl ?_
  refine e_iadd 123 em_481 rfl (ce_at ce_481 74 rfl) ?_
  refine e_put 126 em_481 (ce_at ce_481 75 rfl) tq_121 rfl rfl rfl (fun s1 => ?_)
  refine e_mv 127 em_481 (ce_at ce_481 76 rfl) rfl rfl ?_
  refine e_ivv 130 em_481 (ce_at ce_481 77 rfl) (by omega) (iv_v0 (by decide) tq_121 rfl) em_476 (Nat.le_of_ble_eq_true rfl) rfl (tm_settle w (d - 1) (by omega) _) (fun r2 s2 => ?_)
  refine e_mv 131 em_481 (ce_at ce_481 78 rfl) rfl rfl ?_
  exact e_reti em_481 (ce_at ce_481 79 rfl)
theorem fm_tick_116 (v1 : Int) (s : iS) : Fm Prod.snd L_m_tick G_m_tick s (m_tick_116 v1 s) := fm_lt (md_upF (mem_F rfl)) (fun s1 => fm_bd (fm_sub (fm_settle _) (mem_sub_L rfl) (mem_sub_F rfl)) (fun r2 s2 => fm_some md_refl))
noncomputable def m_tick_45 (v1 : Int) (v2 : Int) (s : iS) : Option (Int × iS) := (lp (L := Int × Int × iS) (E := Int × iS) (fun l => m_tick_45b (l.1) (l.2.1) (l.2.2)) (v1, v2, s)).bind (fun e => m_tick_116 (e.1) (e.2))
theorem tm_tick_45 (w : ev_W) (d : Nat) (hd : 2 ≤ d) (v1 : Int) (v2 : Int) (s : iS) : Ew hT w d 481 45 [(0, .ref (tb_nK + 121)), (1, iv v1), (2, iv v2)] [] s (Ci hT) (m_tick_45 v1 v2 s) := by
  unfold m_tick_45
  refine e_lp (L := Int × Int × iS) (E := Int × iS) (LO := fun l => [(0, .ref (tb_nK + 121)), (1, iv (l.1)), (2, iv (l.2.1))]) (LS := fun l => l.2.2) (CE := fun e r => ev w d 481 116 [(0, .ref (tb_nK + 121)), (1, iv (e.1))] [] (hT (e.2)) r) (fun l => tm_tick_45b w d hd _ _ _) ?_ (v1, v2, s)
  intro e
  show Ew hT w d 481 116 [(0, .ref (tb_nK + 121)), (1, iv (e.1))] [] e.2 (Ci hT) _
  refine e_pk [0, 1] rfl rfl ?_
  exact tm_tick_116 w d hd _ _
theorem fm_tick_45 (v1 : Int) (v2 : Int) (s : iS) : Fm Prod.snd L_m_tick G_m_tick s (m_tick_45 v1 v2 s) := by
  unfold m_tick_45
  refine fm_lp (A := Int × Int × iS) (E := Int × iS) (LS := fun l => l.2.2) (LE := fun e => e.2) ?_ ?_ (v1, v2, s)
  · exact fun l => fm_tick_45b _ _ _
  · exact (fun e => fm_tick_116 _ _)
noncomputable def m_tick_43 (v1 : Int) (s : iS) : Option (Int × iS) := m_tick_45 v1 0 s
theorem tm_tick_43 (w : ev_W) (d : Nat) (hd : 2 ≤ d) (v1 : Int) (s : iS) : Ew hT w d 481 43 [(0, .ref (tb_nK + 121)), (1, iv v1)] [] s (Ci hT) (m_tick_43 v1 s) := by
  unfold m_tick_43
  refine e_op 44 em_481 (ce_at ce_481 25 rfl) rfl rfl ?_
  refine e_mv 45 em_481 (ce_at ce_481 26 rfl) rfl rfl ?_
  refine e_pk [0, 1, 2] rfl rfl ?_
  exact tm_tick_45 w d hd _ _ _
theorem fm_tick_43 (v1 : Int) (s : iS) : Fm Prod.snd L_m_tick G_m_tick s (m_tick_43 v1 s) := fm_tick_45 _ _ _
noncomputable def m_tick_13 (v1 : Int) (v2 : Int) (s : iS) : Option (Int × iS) := (lp (L := Int × iS) (E := iS) (fun l => m_tick_13b v1 (l.1) (l.2)) (v2, s)).bind (fun e => m_tick_43 v1 e)
theorem tm_tick_13 (w : ev_W) (d : Nat) (hd : 2 ≤ d) (v1 : Int) (v2 : Int) (s : iS) : Ew hT w d 481 13 [(0, .ref (tb_nK + 121)), (1, iv v1), (2, iv v2)] [] s (Ci hT) (m_tick_13 v1 v2 s) := by
  unfold m_tick_13
  refine e_lp (L := Int × iS) (E := iS) (LO := fun l => [(0, .ref (tb_nK + 121)), (1, iv v1), (2, iv (l.1))]) (LS := fun l => l.2) (CE := fun e r => ev w d 481 43 [(0, .ref (tb_nK + 121)), (1, iv v1)] [] (hT (e)) r) (fun l => tm_tick_13b w d hd _ _ _) ?_ (v2, s)
  intro e
  show Ew hT w d 481 43 [(0, .ref (tb_nK + 121)), (1, iv v1)] [] e (Ci hT) _
  refine e_pk [0, 1] rfl rfl ?_
  exact tm_tick_43 w d hd _ _
theorem fm_tick_13 (v1 : Int) (v2 : Int) (s : iS) : Fm Prod.snd L_m_tick G_m_tick s (m_tick_13 v1 v2 s) := by
  unfold m_tick_13
  refine fm_lp (A := Int × iS) (E := iS) (LS := fun l => l.2) (LE := fun e => e) ?_ ?_ (v2, s)
  · exact fun l => fm_tick_13b _ _ _
  · exact (fun e => fm_tick_43 _ _)
noncomputable def m_tick (s : iS) : Option (Int × iS) := gd (rg (s 121 152)) (if (s 121 152) = 0 then some ((-1), s) else m_tick_13 0 0 s)
theorem tm_tick (w : ev_W) (d : Nat) (hd : 2 ≤ d) (s : iS) : Ew hT w d 481 0 [(0, .ref (tb_nK + 121))] [] s (Ci hT) (m_tick s) := by
  unfold m_tick
  refine e_mv 1 em_481 (ce_at ce_481 0 rfl) rfl rfl ?_
  refine e_get 4 em_481 (ce_at ce_481 1 rfl) tq_121 rfl rfl ?_
  refine e_gd fun g1 => ?_
  refine e_ifne 9 7 em_481 rfl rfl (ce_at ce_481 2 rfl) g1 (fun h2 => ?_) (fun h2 => ?_)
  · refine e_op 10 em_481 (ce_at ce_481 5 rfl) rfl rfl ?_
    refine e_mv 11 em_481 (ce_at ce_481 6 rfl) rfl rfl ?_
    refine e_op 12 em_481 (ce_at ce_481 7 rfl) rfl rfl ?_
    refine e_mv 13 em_481 (ce_at ce_481 8 rfl) rfl rfl ?_
    refine e_pk [0, 1, 2] rfl rfl ?_
    exact tm_tick_13 w d hd _ _ _
  · refine e_op 8 em_481 (ce_at ce_481 3 rfl) rfl rfl ?_
    exact e_reti em_481 (ce_at ce_481 4 rfl)
theorem fm_tick (s : iS) : Fm Prod.snd L_m_tick G_m_tick s (m_tick s) := fm_gd (fm_if (fm_some md_refl) (fm_tick_13 _ _ _))
/-! m_countPins -/
def L_m_countPins : List Nat := []
def G_m_countPins : List (Nat × Nat) := []
def m_countPins_12C (w : ev_W) (d : Nat) (v1 : Int) : (Int × Int × iS) ⊕ (Int × iS) → am_E → Prop := fun q r => q.elim (fun l => ev w d 483 12 ((fun l => [(0, .ref (tb_nK + 121)), (1, iv v1), (2, iv (l.1)), (3, iv (l.2.1))]) l) [] (hT ((fun l => l.2.2) l)) r) (fun e => (fun e r => ev w d 483 51 [(2, iv (e.1))] [] (hT (e.2)) r) e r)
noncomputable def m_countPins_12b (v1 : Int) (v2 : Int) (v3 : Int) (s : iS) : Option ((Int × Int × iS) ⊕ (Int × iS)) := gd (0 ≤ ((s 121 174) + 1) ∧ ((s 121 174) + 1) < 18) (gd (rg v3) (gd (rg (s 196 ((s 121 174) + 1).toNat)) (if (s 196 ((s 121 174) + 1).toNat) ≤ v3 then some (.inr (v2, s)) else gd (0 ≤ v3 ∧ v3 < 200) (gd (rg (s 197 v3.toNat)) (gd (rg v1) (if (s 197 v3.toNat) = v1 then some (.inl ((v2 + 1), (v3 + 1), s)) else some (.inl (v2, (v3 + 1), s))))))))
theorem tm_countPins_12b (w : ev_W) (d : Nat) (hd : 0 ≤ d) (v1 : Int) (v2 : Int) (v3 : Int) (s : iS) : Ew hT w d 483 12 [(0, .ref (tb_nK + 121)), (1, iv v1), (2, iv v2), (3, iv v3)] [] s (m_countPins_12C w d v1) (m_countPins_12b v1 v2 v3 s) := by
  unfold m_countPins_12b
  refine e_mv 13 em_483 (ce_at ce_483 8 rfl) rfl rfl ?_
  refine e_mv 14 em_483 (ce_at ce_483 9 rfl) rfl rfl ?_
  refine e_getr 17 em_483 (ce_at ce_483 10 rfl) tq_121 rfl rfl ?_
  refine e_mv 18 em_483 (ce_at ce_483 11 rfl) rfl rfl ?_
  refine e_get 21 em_483 (ce_at ce_483 12 rfl) tq_121 rfl rfl ?_
  refine e_op 22 em_483 (ce_at ce_483 13 rfl) rfl rfl ?_
  refine e_iadd 23 em_483 rfl (ce_at ce_483 14 rfl) ?_
  refine e_gd fun g1 => ?_
  refine e_ild 24 em_483 (ce_at ce_483 15 rfl) tq_196 (by decide) g1 rfl ?_
  refine e_gd fun g2 => ?_
  refine e_gd fun g3 => ?_
  refine e_cmge 51 27 em_483 rfl rfl (ce_at ce_483 16 rfl) g2 g3 (fun h4 => ?_) (fun h4 => ?_)
  · refine e_pk [2] rfl rfl ?_
    exact e_out (fun r h => h)
  · refine e_mv 28 em_483 (ce_at ce_483 17 rfl) rfl rfl ?_
    refine e_getr 31 em_483 (ce_at ce_483 18 rfl) tq_121 rfl rfl ?_
    refine e_mv 32 em_483 (ce_at ce_483 19 rfl) rfl rfl ?_
    refine e_gd fun g5 => ?_
    refine e_zld 33 em_483 (ce_at ce_483 20 rfl) tq_197 (by decide) g5 rfl ?_
    refine e_mv 34 em_483 (ce_at ce_483 21 rfl) rfl rfl ?_
    refine e_gd fun g6 => ?_
    refine e_gd fun g7 => ?_
    refine e_cmne 43 37 em_483 rfl rfl (ce_at ce_483 22 rfl) g6 g7 (fun h8 => ?_) (fun h8 => ?_)
    · refine e_mv 44 em_483 (ce_at ce_483 27 rfl) rfl rfl ?_
      refine e_mv 45 em_483 (ce_at ce_483 28 rfl) rfl rfl ?_
      refine e_iinc 48 em_483 (ce_at ce_483 29 rfl) rfl (by decide) rfl ?_
      refine e_goto em_483 12 (ce_at ce_483 30 rfl) rfl ?_
      refine e_pk [0, 1, 2, 3] rfl rfl ?_
      exact e_out (fun r h => h)
    · refine e_mv 38 em_483 (ce_at ce_483 23 rfl) rfl rfl ?_
      refine e_op 39 em_483 (ce_at ce_483 24 rfl) rfl rfl ?_
      refine e_iadd 40 em_483 rfl (ce_at ce_483 25 rfl) ?_
      refine e_goto em_483 44 (ce_at ce_483 26 rfl) rfl ?_
      refine e_mv 45 em_483 (ce_at ce_483 28 rfl) rfl rfl ?_
      refine e_iinc 48 em_483 (ce_at ce_483 29 rfl) rfl (by decide) rfl ?_
      refine e_goto em_483 12 (ce_at ce_483 30 rfl) rfl ?_
      refine e_pk [0, 1, 2, 3] rfl rfl ?_
      exact e_out (fun r h => h)
theorem fm_countPins_12b (v1 : Int) (v2 : Int) (v3 : Int) (s : iS) : Fm (fun r : (Int × Int × iS) ⊕ (Int × iS) => r.elim (fun l => l.2.2) (fun e => e.2)) L_m_countPins G_m_countPins s (m_countPins_12b v1 v2 v3 s) := fm_gd (fm_gd (fm_gd (fm_if (fm_some md_refl) (fm_gd (fm_gd (fm_gd (fm_if (fm_some md_refl) (fm_some md_refl))))))))
noncomputable def m_countPins_12 (v1 : Int) (v2 : Int) (v3 : Int) (s : iS) : Option (Int × iS) := (lp (L := Int × Int × iS) (E := Int × iS) (fun l => m_countPins_12b v1 (l.1) (l.2.1) (l.2.2)) (v2, v3, s)).bind (fun e => some (e.1, e.2))
theorem tm_countPins_12 (w : ev_W) (d : Nat) (hd : 0 ≤ d) (v1 : Int) (v2 : Int) (v3 : Int) (s : iS) : Ew hT w d 483 12 [(0, .ref (tb_nK + 121)), (1, iv v1), (2, iv v2), (3, iv v3)] [] s (Ci hT) (m_countPins_12 v1 v2 v3 s) := by
  unfold m_countPins_12
  refine e_lp (L := Int × Int × iS) (E := Int × iS) (LO := fun l => [(0, .ref (tb_nK + 121)), (1, iv v1), (2, iv (l.1)), (3, iv (l.2.1))]) (LS := fun l => l.2.2) (CE := fun e r => ev w d 483 51 [(2, iv (e.1))] [] (hT (e.2)) r) (fun l => tm_countPins_12b w d hd _ _ _ _) ?_ (v2, v3, s)
  intro e
  show Ew hT w d 483 51 [(2, iv (e.1))] [] e.2 (Ci hT) _
  refine e_mv 52 em_483 (ce_at ce_483 31 rfl) rfl rfl ?_
  exact e_reti em_483 (ce_at ce_483 32 rfl)
theorem fm_countPins_12 (v1 : Int) (v2 : Int) (v3 : Int) (s : iS) : Fm Prod.snd L_m_countPins G_m_countPins s (m_countPins_12 v1 v2 v3 s) := by
  unfold m_countPins_12
  refine fm_lp (A := Int × Int × iS) (E := Int × iS) (LS := fun l => l.2.2) (LE := fun e => e.2) ?_ ?_ (v2, v3, s)
  · exact fun l => fm_countPins_12b _ _ _ _
  · exact (fun e => fm_some md_refl)
noncomputable def m_countPins (v1 : Int) (s : iS) : Option (Int × iS) := gd (0 ≤ (s 121 174) ∧ (s 121 174) < 18) (m_countPins_12 v1 0 (s 196 (s 121 174).toNat) s)
theorem tm_countPins (w : ev_W) (d : Nat) (hd : 0 ≤ d) (v1 : Int) (s : iS) : Ew hT w d 483 0 [(0, .ref (tb_nK + 121)), (1, iv v1)] [] s (Ci hT) (m_countPins v1 s) := by
  unfold m_countPins
  refine e_op 1 em_483 (ce_at ce_483 0 rfl) rfl rfl ?_
  refine e_mv 2 em_483 (ce_at ce_483 1 rfl) rfl rfl ?_
  refine e_mv 3 em_483 (ce_at ce_483 2 rfl) rfl rfl ?_
  refine e_getr 6 em_483 (ce_at ce_483 3 rfl) tq_121 rfl rfl ?_
  refine e_mv 7 em_483 (ce_at ce_483 4 rfl) rfl rfl ?_
  refine e_get 10 em_483 (ce_at ce_483 5 rfl) tq_121 rfl rfl ?_
  refine e_gd fun g1 => ?_
  refine e_ild 11 em_483 (ce_at ce_483 6 rfl) tq_196 (by decide) g1 rfl ?_
  refine e_mv 12 em_483 (ce_at ce_483 7 rfl) rfl rfl ?_
  refine e_pk [0, 1, 2, 3] rfl rfl ?_
  exact tm_countPins_12 w d hd _ _ _ _
theorem fm_countPins (v1 : Int) (s : iS) : Fm Prod.snd L_m_countPins G_m_countPins s (m_countPins v1 s) := fm_gd (fm_countPins_12 _ _ _ _)
/-! m_gates -/
def L_m_gates : List Nat := []
def G_m_gates : List (Nat × Nat) := []
def m_gates_26C (w : ev_W) (d : Nat) (v1 : Int) : (Int × Int × Int × iS) ⊕ (Int × Int × iS) → am_E → Prop := fun q r => q.elim (fun l => ev w d 482 26 ((fun l => [(0, .ref (tb_nK + 121)), (1, iv v1), (2, iv (l.1)), (3, iv (l.2.1)), (4, iv (l.2.2.1))]) l) [] (hT ((fun l => l.2.2.2) l)) r) (fun e => (fun e r => ev w d 482 90 [(0, .ref (tb_nK + 121)), (1, iv v1), (2, iv (e.1)), (3, iv (e.2.1))] [] (hT (e.2.2)) r) e r)
noncomputable def m_gates_26b (v1 : Int) (v2 : Int) (v3 : Int) (v4 : Int) (s : iS) : Option ((Int × Int × Int × iS) ⊕ (Int × Int × iS)) := gd (rg v4) (gd (rg (s 121 166)) (if (s 121 166) ≤ v4 then some (.inr (v2, v3, s)) else gd (0 ≤ v4 ∧ v4 < 1500) (gd (0 ≤ (s 227 v4.toNat) ∧ (s 227 v4.toNat) < 1500) (gd (0 ≤ ((s 225 (s 227 v4.toNat).toNat) + 2) ∧ ((s 225 (s 227 v4.toNat).toNat) + 2) < 40000) (gd (rg (s 226 (s 227 v4.toNat).toNat)) (gd (rg v3) (if (s 226 (s 227 v4.toNat).toNat) ≤ v3 then some (.inl ((v2 + (s 230 ((s 225 (s 227 v4.toNat).toNat) + 2).toNat)), v3, (v4 + 1), s)) else some (.inl ((v2 + (s 230 ((s 225 (s 227 v4.toNat).toNat) + 2).toNat)), (s 226 (s 227 v4.toNat).toNat), (v4 + 1), s)))))))))
theorem tm_gates_26b (w : ev_W) (d : Nat) (hd : 1 ≤ d) (v1 : Int) (v2 : Int) (v3 : Int) (v4 : Int) (s : iS) : Ew hT w d 482 26 [(0, .ref (tb_nK + 121)), (1, iv v1), (2, iv v2), (3, iv v3), (4, iv v4)] [] s (m_gates_26C w d v1) (m_gates_26b v1 v2 v3 v4 s) := by
  unfold m_gates_26b
  refine e_mv 28 em_482 (ce_at ce_482 16 rfl) rfl rfl ?_
  refine e_mv 29 em_482 (ce_at ce_482 17 rfl) rfl rfl ?_
  refine e_get 32 em_482 (ce_at ce_482 18 rfl) tq_121 rfl rfl ?_
  refine e_gd fun g1 => ?_
  refine e_gd fun g2 => ?_
  refine e_cmge 90 35 em_482 rfl rfl (ce_at ce_482 19 rfl) g1 g2 (fun h3 => ?_) (fun h3 => ?_)
  · refine e_pk [0, 1, 2, 3] rfl rfl ?_
    exact e_out (fun r h => h)
  · refine e_mv 36 em_482 (ce_at ce_482 20 rfl) rfl rfl ?_
    refine e_getr 39 em_482 (ce_at ce_482 21 rfl) tq_121 rfl rfl ?_
    refine e_mv 41 em_482 (ce_at ce_482 22 rfl) rfl rfl ?_
    refine e_gd fun g4 => ?_
    refine e_ild 42 em_482 (ce_at ce_482 23 rfl) tq_227 (by decide) g4 rfl ?_
    refine e_mv 44 em_482 (ce_at ce_482 24 rfl) rfl rfl ?_
    refine e_mv 45 em_482 (ce_at ce_482 25 rfl) rfl rfl ?_
    refine e_mv 46 em_482 (ce_at ce_482 26 rfl) rfl rfl ?_
    refine e_getr 49 em_482 (ce_at ce_482 27 rfl) tq_121 rfl rfl ?_
    refine e_mv 50 em_482 (ce_at ce_482 28 rfl) rfl rfl ?_
    refine e_getr 53 em_482 (ce_at ce_482 29 rfl) tq_121 rfl rfl ?_
    refine e_mv 55 em_482 (ce_at ce_482 30 rfl) rfl rfl ?_
    refine e_gd fun g5 => ?_
    refine e_ild 56 em_482 (ce_at ce_482 31 rfl) tq_225 (by decide) g5 rfl ?_
    refine e_op 57 em_482 (ce_at ce_482 32 rfl) rfl rfl ?_
    refine e_iadd 58 em_482 rfl (ce_at ce_482 33 rfl) ?_
    refine e_gd fun g6 => ?_
    refine e_ild 59 em_482 (ce_at ce_482 34 rfl) tq_230 (by decide) g6 rfl ?_
    refine e_iadd 60 em_482 rfl (ce_at ce_482 35 rfl) ?_
    refine e_mv 61 em_482 (ce_at ce_482 36 rfl) rfl rfl ?_
    refine e_mv 62 em_482 (ce_at ce_482 37 rfl) rfl rfl ?_
    refine e_getr 65 em_482 (ce_at ce_482 38 rfl) tq_121 rfl rfl ?_
    refine e_mv 67 em_482 (ce_at ce_482 39 rfl) rfl rfl ?_
    refine e_ild 68 em_482 (ce_at ce_482 40 rfl) tq_226 (by decide) g5 rfl ?_
    refine e_mv 69 em_482 (ce_at ce_482 41 rfl) rfl rfl ?_
    refine e_gd fun g7 => ?_
    refine e_gd fun g8 => ?_
    refine e_cmle 82 72 em_482 rfl rfl (ce_at ce_482 42 rfl) g7 g8 (fun h9 => ?_) (fun h9 => ?_)
    · refine e_mv 83 em_482 (ce_at ce_482 48 rfl) rfl rfl ?_
      refine e_mv 84 em_482 (ce_at ce_482 49 rfl) rfl rfl ?_
      refine e_iinc 87 em_482 (ce_at ce_482 50 rfl) rfl (by decide) rfl ?_
      refine e_goto em_482 26 (ce_at ce_482 51 rfl) rfl ?_
      refine e_pk [0, 1, 2, 3, 4] rfl rfl ?_
      exact e_out (fun r h => h)
    · refine e_mv 73 em_482 (ce_at ce_482 43 rfl) rfl rfl ?_
      refine e_getr 76 em_482 (ce_at ce_482 44 rfl) tq_121 rfl rfl ?_
      refine e_mv 78 em_482 (ce_at ce_482 45 rfl) rfl rfl ?_
      refine e_ild 79 em_482 (ce_at ce_482 46 rfl) tq_226 (by decide) g5 rfl ?_
      refine e_goto em_482 83 (ce_at ce_482 47 rfl) rfl ?_
      refine e_mv 84 em_482 (ce_at ce_482 49 rfl) rfl rfl ?_
      refine e_iinc 87 em_482 (ce_at ce_482 50 rfl) rfl (by decide) rfl ?_
      refine e_goto em_482 26 (ce_at ce_482 51 rfl) rfl ?_
      refine e_pk [0, 1, 2, 3, 4] rfl rfl ?_
      exact e_out (fun r h => h)
theorem fm_gates_26b (v1 : Int) (v2 : Int) (v3 : Int) (v4 : Int) (s : iS) : Fm (fun r : (Int × Int × Int × iS) ⊕ (Int × Int × iS) => r.elim (fun l => l.2.2.2) (fun e => e.2.2)) L_m_gates G_m_gates s (m_gates_26b v1 v2 v3 v4 s) := fm_gd (fm_gd (fm_if (fm_some md_refl) (fm_gd (fm_gd (fm_gd (fm_gd (fm_gd (fm_if (fm_some md_refl) (fm_some md_refl)))))))))
noncomputable def m_gates_90 (v1 : Int) (v2 : Int) (v3 : Int) (s : iS) : Option (Int × iS) := gd (rg v1) (if v1 = 0 then some ((s 121 166), s) else if v1 = 1 then some (((s 121 161) - (s 121 166)), s) else if v1 = 2 then bd (m_countPins 0 s) (fun r5 s5 => some (r5, s5)) else if v1 = 3 then bd (m_countPins 1 s) (fun r7 s7 => some (r7, s7)) else if v1 = 4 then some ((s 121 122), s) else if v1 = 5 then some (v3, s) else if v1 = 6 then some ((s 121 173), s) else some (v2, s))
theorem tm_gates_90 (w : ev_W) (d : Nat) (hd : 1 ≤ d) (v1 : Int) (v2 : Int) (v3 : Int) (s : iS) : Ew hT w d 482 90 [(0, .ref (tb_nK + 121)), (1, iv v1), (2, iv v2), (3, iv v3)] [] s (Ci hT) (m_gates_90 v1 v2 v3 s) := by
  unfold m_gates_90
  refine e_mv 91 em_482 (ce_at ce_482 52 rfl) rfl rfl ?_
  refine e_gd fun g1 => ?_
  refine e_case 0 (fun h2 => ?_) (fun h2 => ?_)
  · refine e_sw em_482 132 (ce_at ce_482 53 rfl) (sw_in g1 (by omega) (by subst h2; rfl)) rfl ?_
    refine e_mv 133 em_482 (ce_at ce_482 54 rfl) rfl rfl ?_
    refine e_get 136 em_482 (ce_at ce_482 55 rfl) tq_121 rfl rfl ?_
    exact e_reti em_482 (ce_at ce_482 56 rfl)
  refine e_case 1 (fun h3 => ?_) (fun h3 => ?_)
  · refine e_sw em_482 137 (ce_at ce_482 53 rfl) (sw_in g1 (by omega) (by subst h3; rfl)) rfl ?_
    refine e_mv 138 em_482 (ce_at ce_482 57 rfl) rfl rfl ?_
    refine e_get 141 em_482 (ce_at ce_482 58 rfl) tq_121 rfl rfl ?_
    refine e_mv 142 em_482 (ce_at ce_482 59 rfl) rfl rfl ?_
    refine e_get 145 em_482 (ce_at ce_482 60 rfl) tq_121 rfl rfl ?_
    refine e_isub 146 em_482 rfl (ce_at ce_482 61 rfl) ?_
    exact e_reti em_482 (ce_at ce_482 62 rfl)
  refine e_case 2 (fun h4 => ?_) (fun h4 => ?_)
  · refine e_sw em_482 147 (ce_at ce_482 53 rfl) (sw_in g1 (by omega) (by subst h4; rfl)) rfl ?_
    refine e_mv 148 em_482 (ce_at ce_482 63 rfl) rfl rfl ?_
    refine e_op 149 em_482 (ce_at ce_482 64 rfl) rfl rfl ?_
    refine e_ivi 152 em_482 (ce_at ce_482 65 rfl) (by omega) (iv_v1 (by decide) tq_121 rfl) em_483 (Nat.le_of_ble_eq_true rfl) rfl (tm_countPins w (d - 1) (by omega) _ _) (fun r5 s5 => ?_)
    exact e_reti em_482 (ce_at ce_482 66 rfl)
  refine e_case 3 (fun h6 => ?_) (fun h6 => ?_)
  · refine e_sw em_482 153 (ce_at ce_482 53 rfl) (sw_in g1 (by omega) (by subst h6; rfl)) rfl ?_
    refine e_mv 154 em_482 (ce_at ce_482 67 rfl) rfl rfl ?_
    refine e_op 155 em_482 (ce_at ce_482 68 rfl) rfl rfl ?_
    refine e_ivi 158 em_482 (ce_at ce_482 69 rfl) (by omega) (iv_v1 (by decide) tq_121 rfl) em_483 (Nat.le_of_ble_eq_true rfl) rfl (tm_countPins w (d - 1) (by omega) _ _) (fun r7 s7 => ?_)
    exact e_reti em_482 (ce_at ce_482 70 rfl)
  refine e_case 4 (fun h8 => ?_) (fun h8 => ?_)
  · refine e_sw em_482 159 (ce_at ce_482 53 rfl) (sw_in g1 (by omega) (by subst h8; rfl)) rfl ?_
    refine e_mv 160 em_482 (ce_at ce_482 71 rfl) rfl rfl ?_
    refine e_get 163 em_482 (ce_at ce_482 72 rfl) tq_121 rfl rfl ?_
    exact e_reti em_482 (ce_at ce_482 73 rfl)
  refine e_case 5 (fun h9 => ?_) (fun h9 => ?_)
  · refine e_sw em_482 164 (ce_at ce_482 53 rfl) (sw_in g1 (by omega) (by subst h9; rfl)) rfl ?_
    refine e_mv 165 em_482 (ce_at ce_482 74 rfl) rfl rfl ?_
    exact e_reti em_482 (ce_at ce_482 75 rfl)
  refine e_case 6 (fun h10 => ?_) (fun h10 => ?_)
  · refine e_sw em_482 166 (ce_at ce_482 53 rfl) (sw_in g1 (by omega) (by subst h10; rfl)) rfl ?_
    refine e_mv 167 em_482 (ce_at ce_482 76 rfl) rfl rfl ?_
    refine e_get 170 em_482 (ce_at ce_482 77 rfl) tq_121 rfl rfl ?_
    exact e_reti em_482 (ce_at ce_482 78 rfl)
  refine e_sw em_482 171 (ce_at ce_482 53 rfl) (sw_out g1 (by omega)) rfl ?_
  refine e_mv 172 em_482 (ce_at ce_482 79 rfl) rfl rfl ?_
  exact e_reti em_482 (ce_at ce_482 80 rfl)
theorem fm_gates_90 (v1 : Int) (v2 : Int) (v3 : Int) (s : iS) : Fm Prod.snd L_m_gates G_m_gates s (m_gates_90 v1 v2 v3 s) := fm_gd (fm_if (fm_some md_refl) (fm_if (fm_some md_refl) (fm_if (fm_bd (fm_sub (fm_countPins _ _) (mem_sub_L rfl) (mem_sub_F rfl)) (fun r5 s5 => fm_some md_refl)) (fm_if (fm_bd (fm_sub (fm_countPins _ _) (mem_sub_L rfl) (mem_sub_F rfl)) (fun r7 s7 => fm_some md_refl)) (fm_if (fm_some md_refl) (fm_if (fm_some md_refl) (fm_if (fm_some md_refl) (fm_some md_refl))))))))
noncomputable def m_gates_26 (v1 : Int) (v2 : Int) (v3 : Int) (v4 : Int) (s : iS) : Option (Int × iS) := (lp (L := Int × Int × Int × iS) (E := Int × Int × iS) (fun l => m_gates_26b v1 (l.1) (l.2.1) (l.2.2.1) (l.2.2.2)) (v2, v3, v4, s)).bind (fun e => m_gates_90 v1 (e.1) (e.2.1) (e.2.2))
theorem tm_gates_26 (w : ev_W) (d : Nat) (hd : 1 ≤ d) (v1 : Int) (v2 : Int) (v3 : Int) (v4 : Int) (s : iS) : Ew hT w d 482 26 [(0, .ref (tb_nK + 121)), (1, iv v1), (2, iv v2), (3, iv v3), (4, iv v4)] [] s (Ci hT) (m_gates_26 v1 v2 v3 v4 s) := by
  unfold m_gates_26
  refine e_lp (L := Int × Int × Int × iS) (E := Int × Int × iS) (LO := fun l => [(0, .ref (tb_nK + 121)), (1, iv v1), (2, iv (l.1)), (3, iv (l.2.1)), (4, iv (l.2.2.1))]) (LS := fun l => l.2.2.2) (CE := fun e r => ev w d 482 90 [(0, .ref (tb_nK + 121)), (1, iv v1), (2, iv (e.1)), (3, iv (e.2.1))] [] (hT (e.2.2)) r) (fun l => tm_gates_26b w d hd _ _ _ _ _) ?_ (v2, v3, v4, s)
  intro e
  show Ew hT w d 482 90 [(0, .ref (tb_nK + 121)), (1, iv v1), (2, iv (e.1)), (3, iv (e.2.1))] [] e.2.2 (Ci hT) _
  refine e_pk [0, 1, 2, 3] rfl rfl ?_
  exact tm_gates_90 w d hd _ _ _ _
theorem fm_gates_26 (v1 : Int) (v2 : Int) (v3 : Int) (v4 : Int) (s : iS) : Fm Prod.snd L_m_gates G_m_gates s (m_gates_26 v1 v2 v3 v4 s) := by
  unfold m_gates_26
  refine fm_lp (A := Int × Int × Int × iS) (E := Int × Int × iS) (LS := fun l => l.2.2.2) (LE := fun e => e.2.2) ?_ ?_ (v2, v3, v4, s)
  · exact fun l => fm_gates_26b _ _ _ _ _
  · exact (fun e => fm_gates_90 _ _ _ _)
noncomputable def m_gates (v1 : Int) (s : iS) : Option (Int × iS) := gd (rg (s 121 152)) (if (s 121 152) = 0 then some ((-1), s) else gd (rg v1) (if v1 < 0 then some ((-1), s) else if v1 ≤ 7 then m_gates_26 v1 0 0 0 s else some ((-1), s)))
theorem tm_gates (w : ev_W) (d : Nat) (hd : 1 ≤ d) (v1 : Int) (s : iS) : Ew hT w d 482 0 [(0, .ref (tb_nK + 121)), (1, iv v1)] [] s (Ci hT) (m_gates v1 s) := by
  unfold m_gates
  refine e_mv 1 em_482 (ce_at ce_482 0 rfl) rfl rfl ?_
  refine e_get 4 em_482 (ce_at ce_482 1 rfl) tq_121 rfl rfl ?_
  refine e_gd fun g1 => ?_
  refine e_ifeq 17 7 em_482 rfl rfl (ce_at ce_482 2 rfl) g1 (fun h2 => ?_) (fun h2 => ?_)
  · refine e_op 18 em_482 (ce_at ce_482 8 rfl) rfl rfl ?_
    exact e_reti em_482 (ce_at ce_482 9 rfl)
  · refine e_mv 8 em_482 (ce_at ce_482 3 rfl) rfl rfl ?_
    refine e_gd fun g3 => ?_
    refine e_iflt 17 11 em_482 rfl rfl (ce_at ce_482 4 rfl) g3 (fun h4 => ?_) (fun h4 => ?_)
    · refine e_op 18 em_482 (ce_at ce_482 8 rfl) rfl rfl ?_
      exact e_reti em_482 (ce_at ce_482 9 rfl)
    · refine e_mv 12 em_482 (ce_at ce_482 5 rfl) rfl rfl ?_
      refine e_bip 14 em_482 (ce_at ce_482 6 rfl) (by decide) rfl ?_
      refine e_cmle 19 17 em_482 rfl rfl (ce_at ce_482 7 rfl) g3 (by decide) (fun h5 => ?_) (fun h5 => ?_)
      · refine e_op 20 em_482 (ce_at ce_482 10 rfl) rfl rfl ?_
        refine e_mv 21 em_482 (ce_at ce_482 11 rfl) rfl rfl ?_
        refine e_op 22 em_482 (ce_at ce_482 12 rfl) rfl rfl ?_
        refine e_mv 23 em_482 (ce_at ce_482 13 rfl) rfl rfl ?_
        refine e_op 24 em_482 (ce_at ce_482 14 rfl) rfl rfl ?_
        refine e_mv 26 em_482 (ce_at ce_482 15 rfl) rfl rfl ?_
        refine e_pk [0, 1, 2, 3, 4] rfl rfl ?_
        exact tm_gates_26 w d hd _ _ _ _ _
      · refine e_op 18 em_482 (ce_at ce_482 8 rfl) rfl rfl ?_
        exact e_reti em_482 (ce_at ce_482 9 rfl)
theorem fm_gates (v1 : Int) (s : iS) : Fm Prod.snd L_m_gates G_m_gates s (m_gates v1 s) := fm_gd (fm_if (fm_some md_refl) (fm_gd (fm_if (fm_some md_refl) (fm_if (fm_gates_26 _ _ _ _ _) (fm_some md_refl)))))
/-! scp_tail -/
def L_scp_tail : List Nat := [32]
def G_scp_tail : List (Nat × Nat) := []
def scp_tail_195C (H : iS → List am_C) (w : ev_W) (d : Nat) : (Int × iS) ⊕ (iS) → am_E → Prop := fun q r => q.elim (fun l => ev w d 19 195 ((fun l => [(0, .ref (tb_nK + 23)), (1, iv (l.1))]) l) [] (H ((fun l => l.2) l)) r) (fun e => (fun e r => ev w d 19 250 [] [] (H (e)) r) e r)
noncomputable def scp_tail_243 (v1 : Int) (t0 : Int) (t1 : Int) (s : iS) : Option ((Int × iS) ⊕ (iS)) := gd (0 ≤ t1 ∧ t1 < 100) (lt' (up s 32 t1.toNat t0) (fun s2 => some (.inl ((v1 + 1), s2))))
theorem tscp_tail_243 (H : iS → List am_C) (w : ev_W) (d : Nat) (hd : 0 ≤ d) (hc_23 : Ho H 23 5 [some 24, some 27, some 30, some 31, some 32, some 33, some 36, some 37, some 38, some 39, some 40, none, none, none, none, none]) (hc_32 : Ha H 32 0 100) (v1 : Int) (t0 : Int) (t1 : Int) (s : iS) : Ew H w d 19 243 [(0, .ref (tb_nK + 23)), (1, iv v1)] [iv t0, iv t1, .ref (tb_nK + 32)] s (scp_tail_195C H w d) (scp_tail_243 v1 t0 t1 s) := by
  unfold scp_tail_243
  refine e_gd fun g1 => ?_
  refine e_ist 244 em_19 (ce_at ce_19 115 rfl) hc_32 (by decide) g1 rfl (fun s2 => ?_)
  refine e_iinc 247 em_19 (ce_at ce_19 116 rfl) rfl (by decide) rfl ?_
  refine e_goto em_19 195 (ce_at ce_19 117 rfl) rfl ?_
  refine e_pk [0, 1] rfl rfl ?_
  exact e_out (fun r h => h)
theorem fscp_tail_243 (v1 : Int) (t0 : Int) (t1 : Int) (s : iS) : Fm (fun r : (Int × iS) ⊕ (iS) => r.elim (fun l => l.2) (fun e => e)) L_scp_tail G_scp_tail s (scp_tail_243 v1 t0 t1 s) := fm_gd (fm_lt (md_upL (mem_L rfl)) (fun s2 => fm_some md_refl))
noncomputable def scp_tail_224 (v1 : Int) (t0 : Int) (s : iS) : Option ((Int × iS) ⊕ (iS)) := gd (rg t0) (if t0 = 0 then scp_tail_243 v1 258 v1 s else scp_tail_243 v1 259 v1 s)
theorem tscp_tail_224 (H : iS → List am_C) (w : ev_W) (d : Nat) (hd : 0 ≤ d) (hc_23 : Ho H 23 5 [some 24, some 27, some 30, some 31, some 32, some 33, some 36, some 37, some 38, some 39, some 40, none, none, none, none, none]) (hc_32 : Ha H 32 0 100) (v1 : Int) (t0 : Int) (s : iS) : Ew H w d 19 224 [(0, .ref (tb_nK + 23)), (1, iv v1)] [iv t0] s (scp_tail_195C H w d) (scp_tail_224 v1 t0 s) := by
  unfold scp_tail_224
  refine e_mv 225 em_19 (ce_at ce_19 106 rfl) rfl rfl ?_
  refine e_mv 226 em_19 (ce_at ce_19 107 rfl) rfl rfl ?_
  refine e_getr 229 em_19 (ce_at ce_19 108 rfl) hc_23 rfl rfl ?_
  refine e_mv 230 em_19 (ce_at ce_19 109 rfl) rfl rfl ?_
  refine e_mv 231 em_19 (ce_at ce_19 110 rfl) rfl rfl ?_
  refine e_gd fun g1 => ?_
  refine e_ifeq 240 234 em_19 rfl rfl (ce_at ce_19 111 rfl) g1 (fun h2 => ?_) (fun h2 => ?_)
  · refine e_sip 243 em_19 (ce_at ce_19 114 rfl) (by decide) rfl ?_
    refine e_pk [0, 1] rfl rfl ?_
    exact tscp_tail_243 H w d hd hc_23 hc_32 _ _ _ _
  · refine e_sip 237 em_19 (ce_at ce_19 112 rfl) (by decide) rfl ?_
    refine e_goto em_19 243 (ce_at ce_19 113 rfl) rfl ?_
    refine e_pk [0, 1] rfl rfl ?_
    exact tscp_tail_243 H w d hd hc_23 hc_32 _ _ _ _
theorem fscp_tail_224 (v1 : Int) (t0 : Int) (s : iS) : Fm (fun r : (Int × iS) ⊕ (iS) => r.elim (fun l => l.2) (fun e => e)) L_scp_tail G_scp_tail s (scp_tail_224 v1 t0 s) := fm_gd (fm_if (fscp_tail_243 _ _ _ _) (fscp_tail_243 _ _ _ _))
noncomputable def scp_tail_219 (v1 : Int) (s : iS) : Option ((Int × iS) ⊕ (iS)) := scp_tail_224 v1 1 s
theorem tscp_tail_219 (H : iS → List am_C) (w : ev_W) (d : Nat) (hd : 0 ≤ d) (hc_23 : Ho H 23 5 [some 24, some 27, some 30, some 31, some 32, some 33, some 36, some 37, some 38, some 39, some 40, none, none, none, none, none]) (hc_32 : Ha H 32 0 100) (v1 : Int) (s : iS) : Ew H w d 19 219 [(0, .ref (tb_nK + 23)), (1, iv v1)] [] s (scp_tail_195C H w d) (scp_tail_219 v1 s) := by
  unfold scp_tail_219
  refine e_op 220 em_19 (ce_at ce_19 103 rfl) rfl rfl ?_
  refine e_goto em_19 224 (ce_at ce_19 104 rfl) rfl ?_
  refine e_pk [0, 1] rfl rfl ?_
  exact tscp_tail_224 H w d hd hc_23 hc_32 _ _ _
theorem fscp_tail_219 (v1 : Int) (s : iS) : Fm (fun r : (Int × iS) ⊕ (iS) => r.elim (fun l => l.2) (fun e => e)) L_scp_tail G_scp_tail s (scp_tail_219 v1 s) := fscp_tail_224 _ _ _
noncomputable def scp_tail_223 (v1 : Int) (s : iS) : Option ((Int × iS) ⊕ (iS)) := scp_tail_224 v1 0 s
theorem tscp_tail_223 (H : iS → List am_C) (w : ev_W) (d : Nat) (hd : 0 ≤ d) (hc_23 : Ho H 23 5 [some 24, some 27, some 30, some 31, some 32, some 33, some 36, some 37, some 38, some 39, some 40, none, none, none, none, none]) (hc_32 : Ha H 32 0 100) (v1 : Int) (s : iS) : Ew H w d 19 223 [(0, .ref (tb_nK + 23)), (1, iv v1)] [] s (scp_tail_195C H w d) (scp_tail_223 v1 s) := by
  unfold scp_tail_223
  refine e_op 224 em_19 (ce_at ce_19 105 rfl) rfl rfl ?_
  refine e_pk [0, 1] rfl rfl ?_
  exact tscp_tail_224 H w d hd hc_23 hc_32 _ _ _
theorem fscp_tail_223 (v1 : Int) (s : iS) : Fm (fun r : (Int × iS) ⊕ (iS) => r.elim (fun l => l.2) (fun e => e)) L_scp_tail G_scp_tail s (scp_tail_223 v1 s) := fscp_tail_224 _ _ _
noncomputable def scp_tail_195b (v1 : Int) (s : iS) : Option ((Int × iS) ⊕ (iS)) := gd (rg v1) (if 40 ≤ v1 then some (.inr s) else if v1 = 11 then scp_tail_219 v1 s else if v1 < 13 then scp_tail_223 v1 s else if 20 < v1 then scp_tail_223 v1 s else scp_tail_219 v1 s)
theorem tscp_tail_195b (H : iS → List am_C) (w : ev_W) (d : Nat) (hd : 0 ≤ d) (hc_23 : Ho H 23 5 [some 24, some 27, some 30, some 31, some 32, some 33, some 36, some 37, some 38, some 39, some 40, none, none, none, none, none]) (hc_32 : Ha H 32 0 100) (v1 : Int) (s : iS) : Ew H w d 19 195 [(0, .ref (tb_nK + 23)), (1, iv v1)] [] s (scp_tail_195C H w d) (scp_tail_195b v1 s) := by
  unfold scp_tail_195b
  refine e_mv 196 em_19 (ce_at ce_19 91 rfl) rfl rfl ?_
  refine e_bip 198 em_19 (ce_at ce_19 92 rfl) (by decide) rfl ?_
  refine e_gd fun g1 => ?_
  refine e_cmge 250 201 em_19 rfl rfl (ce_at ce_19 93 rfl) g1 (by decide) (fun h2 => ?_) (fun h2 => ?_)
  · refine e_pk [] rfl rfl ?_
    exact e_out (fun r h => h)
  · refine e_mv 202 em_19 (ce_at ce_19 94 rfl) rfl rfl ?_
    refine e_bip 204 em_19 (ce_at ce_19 95 rfl) (by decide) rfl ?_
    refine e_cmeq 219 207 em_19 rfl rfl (ce_at ce_19 96 rfl) g1 (by decide) (fun h3 => ?_) (fun h3 => ?_)
    · refine e_pk [0, 1] rfl rfl ?_
      exact tscp_tail_219 H w d hd hc_23 hc_32 _ _
    · refine e_mv 208 em_19 (ce_at ce_19 97 rfl) rfl rfl ?_
      refine e_bip 210 em_19 (ce_at ce_19 98 rfl) (by decide) rfl ?_
      refine e_cmlt 223 213 em_19 rfl rfl (ce_at ce_19 99 rfl) g1 (by decide) (fun h4 => ?_) (fun h4 => ?_)
      · refine e_pk [0, 1] rfl rfl ?_
        exact tscp_tail_223 H w d hd hc_23 hc_32 _ _
      · refine e_mv 214 em_19 (ce_at ce_19 100 rfl) rfl rfl ?_
        refine e_bip 216 em_19 (ce_at ce_19 101 rfl) (by decide) rfl ?_
        refine e_cmgt 223 219 em_19 rfl rfl (ce_at ce_19 102 rfl) g1 (by decide) (fun h5 => ?_) (fun h5 => ?_)
        · refine e_pk [0, 1] rfl rfl ?_
          exact tscp_tail_223 H w d hd hc_23 hc_32 _ _
        · refine e_pk [0, 1] rfl rfl ?_
          exact tscp_tail_219 H w d hd hc_23 hc_32 _ _
theorem fscp_tail_195b (v1 : Int) (s : iS) : Fm (fun r : (Int × iS) ⊕ (iS) => r.elim (fun l => l.2) (fun e => e)) L_scp_tail G_scp_tail s (scp_tail_195b v1 s) := fm_gd (fm_if (fm_some md_refl) (fm_if (fscp_tail_219 _ _) (fm_if (fscp_tail_223 _ _) (fm_if (fscp_tail_223 _ _) (fscp_tail_219 _ _)))))
noncomputable def scp_tail_195 (v1 : Int) (s : iS) : Option (Int × iS) := (lp (L := Int × iS) (E := iS) (fun l => scp_tail_195b (l.1) (l.2)) (v1, s)).bind (fun e => some (0, e))
theorem tscp_tail_195 (H : iS → List am_C) (w : ev_W) (d : Nat) (hd : 0 ≤ d) (hc_23 : Ho H 23 5 [some 24, some 27, some 30, some 31, some 32, some 33, some 36, some 37, some 38, some 39, some 40, none, none, none, none, none]) (hc_32 : Ha H 32 0 100) (v1 : Int) (s : iS) : Ew H w d 19 195 [(0, .ref (tb_nK + 23)), (1, iv v1)] [] s (Cv H) (scp_tail_195 v1 s) := by
  unfold scp_tail_195
  refine e_lp (L := Int × iS) (E := iS) (LO := fun l => [(0, .ref (tb_nK + 23)), (1, iv (l.1))]) (LS := fun l => l.2) (CE := fun e r => ev w d 19 250 [] [] (H (e)) r) (fun l => tscp_tail_195b H w d hd hc_23 hc_32 _ _) ?_ (v1, s)
  intro e
  show Ew H w d 19 250 [] [] e (Cv H) _
  exact e_retv em_19 (ce_at ce_19 118 rfl)
theorem fscp_tail_195 (v1 : Int) (s : iS) : Fm Prod.snd L_scp_tail G_scp_tail s (scp_tail_195 v1 s) := by
  unfold scp_tail_195
  refine fm_lp (A := Int × iS) (E := iS) (LS := fun l => l.2) (LE := fun e => e) ?_ ?_ (v1, s)
  · exact fun l => fscp_tail_195b _ _
  · exact (fun e => fm_some md_refl)
noncomputable def scp_tail_193 (s : iS) : Option (Int × iS) := scp_tail_195 0 s
theorem tscp_tail_193 (H : iS → List am_C) (w : ev_W) (d : Nat) (hd : 0 ≤ d) (hc_23 : Ho H 23 5 [some 24, some 27, some 30, some 31, some 32, some 33, some 36, some 37, some 38, some 39, some 40, none, none, none, none, none]) (hc_32 : Ha H 32 0 100) (s : iS) : Ew H w d 19 193 [(0, .ref (tb_nK + 23))] [] s (Cv H) (scp_tail_193 s) := by
  unfold scp_tail_193
  refine e_op 194 em_19 (ce_at ce_19 89 rfl) rfl rfl ?_
  refine e_mv 195 em_19 (ce_at ce_19 90 rfl) rfl rfl ?_
  refine e_pk [0, 1] rfl rfl ?_
  exact tscp_tail_195 H w d hd hc_23 hc_32 _ _
theorem fscp_tail_193 (s : iS) : Fm Prod.snd L_scp_tail G_scp_tail s (scp_tail_193 s) := fscp_tail_195 _ _
/-! crd_tail -/
def L_crd_tail : List Nat := [76, 77]
def G_crd_tail : List (Nat × Nat) := []
noncomputable def crd_tail_132 (s : iS) : Option (Int × iS) := lt' (up s 76 1 3) (fun s1 => lt' (up s1 76 2 5) (fun s2 => lt' (up s2 77 0 2) (fun s3 => lt' (up s3 77 1 4) (fun s4 => some (0, s4)))))
theorem tcrd_tail_132 (H : iS → List am_C) (w : ev_W) (d : Nat) (hd : 0 ≤ d) (hc_71 : Ho H 71 10 [some 2, some 72, some 75, some 76, some 77, some 78, some 79, some 82, some 83, some 84, some 85, some 86, some 87, none, none]) (hc_76 : Ha H 76 0 19) (hc_77 : Ha H 77 0 18) (s : iS) : Ew H w d 26 132 [(0, .ref (tb_nK + 71))] [] s (Cv H) (crd_tail_132 s) := by
  unfold crd_tail_132
  refine e_mv 133 em_26 (ce_at ce_26 62 rfl) rfl rfl ?_
  refine e_getr 136 em_26 (ce_at ce_26 63 rfl) hc_71 rfl rfl ?_
  refine e_op 137 em_26 (ce_at ce_26 64 rfl) rfl rfl ?_
  refine e_op 138 em_26 (ce_at ce_26 65 rfl) rfl rfl ?_
  refine e_ist 139 em_26 (ce_at ce_26 66 rfl) hc_76 (by decide) (by decide) rfl (fun s1 => ?_)
  refine e_mv 140 em_26 (ce_at ce_26 67 rfl) rfl rfl ?_
  refine e_getr 143 em_26 (ce_at ce_26 68 rfl) hc_71 rfl rfl ?_
  refine e_op 144 em_26 (ce_at ce_26 69 rfl) rfl rfl ?_
  refine e_op 145 em_26 (ce_at ce_26 70 rfl) rfl rfl ?_
  refine e_ist 146 em_26 (ce_at ce_26 71 rfl) hc_76 (by decide) (by decide) rfl (fun s2 => ?_)
  refine e_mv 147 em_26 (ce_at ce_26 72 rfl) rfl rfl ?_
  refine e_getr 150 em_26 (ce_at ce_26 73 rfl) hc_71 rfl rfl ?_
  refine e_op 151 em_26 (ce_at ce_26 74 rfl) rfl rfl ?_
  refine e_op 152 em_26 (ce_at ce_26 75 rfl) rfl rfl ?_
  refine e_ist 153 em_26 (ce_at ce_26 76 rfl) hc_77 (by decide) (by decide) rfl (fun s3 => ?_)
  refine e_mv 154 em_26 (ce_at ce_26 77 rfl) rfl rfl ?_
  refine e_getr 157 em_26 (ce_at ce_26 78 rfl) hc_71 rfl rfl ?_
  refine e_op 158 em_26 (ce_at ce_26 79 rfl) rfl rfl ?_
  refine e_op 159 em_26 (ce_at ce_26 80 rfl) rfl rfl ?_
  refine e_ist 160 em_26 (ce_at ce_26 81 rfl) hc_77 (by decide) (by decide) rfl (fun s4 => ?_)
  exact e_retv em_26 (ce_at ce_26 82 rfl)
theorem fcrd_tail_132 (s : iS) : Fm Prod.snd L_crd_tail G_crd_tail s (crd_tail_132 s) := fm_lt (md_upL (mem_L rfl)) (fun s1 => fm_lt (md_upL (mem_L rfl)) (fun s2 => fm_lt (md_upL (mem_L rfl)) (fun s3 => fm_lt (md_upL (mem_L rfl)) (fun s4 => fm_some md_refl))))
/-! cck_tail -/
def L_cck_tail : List Nat := [91, 92, 93]
def G_cck_tail : List (Nat × Nat) := []
def cck_tail_150C (H : iS → List am_C) (w : ev_W) (d : Nat) : (Int × iS) ⊕ (iS) → am_E → Prop := fun q r => q.elim (fun l => ev w d 27 150 ((fun l => [(0, .ref (tb_nK + 90)), (3, iv (l.1))]) l) [] (H ((fun l => l.2) l)) r) (fun e => (fun e r => ev w d 27 186 [(0, .ref (tb_nK + 90))] [] (H (e)) r) e r)
noncomputable def cck_tail_178 (v3 : Int) (t0 : Int) (t1 : Int) (t2 : Int) (s : iS) : Option ((Int × iS) ⊕ (iS)) := gd (0 ≤ t2 ∧ t2 < 197) (lt' (up s 92 t2.toNat (t1 - t0)) (fun s2 => some (.inl ((v3 + 1), s2))))
theorem tcck_tail_178 (H : iS → List am_C) (w : ev_W) (d : Nat) (hd : 0 ≤ d) (hc_90 : Ho H 90 11 [some 2, some 71, some 91, some 92, some 93, some 94, some 95, some 96, some 97, some 98, some 99, some 102, some 103, some 104, some 105, some 106, some 107]) (hc_91 : Ha H 91 0 197) (hc_92 : Ha H 92 0 197) (hc_93 : Ha H 93 0 18) (v3 : Int) (t0 : Int) (t1 : Int) (t2 : Int) (s : iS) : Ew H w d 27 178 [(0, .ref (tb_nK + 90)), (3, iv v3)] [iv t0, iv t1, iv t2, .ref (tb_nK + 92)] s (cck_tail_150C H w d) (cck_tail_178 v3 t0 t1 t2 s) := by
  unfold cck_tail_178
  refine e_isub 179 em_27 rfl (ce_at ce_27 91 rfl) ?_
  refine e_gd fun g1 => ?_
  refine e_ist 180 em_27 (ce_at ce_27 92 rfl) hc_92 (by decide) g1 rfl (fun s2 => ?_)
  refine e_iinc 183 em_27 (ce_at ce_27 93 rfl) rfl (by decide) rfl ?_
  refine e_goto em_27 150 (ce_at ce_27 94 rfl) rfl ?_
  refine e_pk [0, 3] rfl rfl ?_
  exact e_out (fun r h => h)
theorem fcck_tail_178 (v3 : Int) (t0 : Int) (t1 : Int) (t2 : Int) (s : iS) : Fm (fun r : (Int × iS) ⊕ (iS) => r.elim (fun l => l.2) (fun e => e)) L_cck_tail G_cck_tail s (cck_tail_178 v3 t0 t1 t2 s) := fm_gd (fm_lt (md_upL (mem_L rfl)) (fun s2 => fm_some md_refl))
noncomputable def cck_tail_150b (v3 : Int) (s : iS) : Option ((Int × iS) ⊕ (iS)) := gd (rg v3) (if 5 ≤ v3 then some (.inr s) else gd (0 ≤ v3 ∧ v3 < 197) (lt' (up s 91 v3.toNat 1) (fun s4 => if 3 ≤ v3 then cck_tail_178 v3 3 v3 v3 s4 else cck_tail_178 v3 0 v3 v3 s4)))
theorem tcck_tail_150b (H : iS → List am_C) (w : ev_W) (d : Nat) (hd : 0 ≤ d) (hc_90 : Ho H 90 11 [some 2, some 71, some 91, some 92, some 93, some 94, some 95, some 96, some 97, some 98, some 99, some 102, some 103, some 104, some 105, some 106, some 107]) (hc_91 : Ha H 91 0 197) (hc_92 : Ha H 92 0 197) (hc_93 : Ha H 93 0 18) (v3 : Int) (s : iS) : Ew H w d 27 150 [(0, .ref (tb_nK + 90)), (3, iv v3)] [] s (cck_tail_150C H w d) (cck_tail_150b v3 s) := by
  unfold cck_tail_150b
  refine e_mv 151 em_27 (ce_at ce_27 73 rfl) rfl rfl ?_
  refine e_op 152 em_27 (ce_at ce_27 74 rfl) rfl rfl ?_
  refine e_gd fun g1 => ?_
  refine e_cmge 186 155 em_27 rfl rfl (ce_at ce_27 75 rfl) g1 (by decide) (fun h2 => ?_) (fun h2 => ?_)
  · refine e_pk [0] rfl rfl ?_
    exact e_out (fun r h => h)
  · refine e_mv 156 em_27 (ce_at ce_27 76 rfl) rfl rfl ?_
    refine e_getr 159 em_27 (ce_at ce_27 77 rfl) hc_90 rfl rfl ?_
    refine e_mv 160 em_27 (ce_at ce_27 78 rfl) rfl rfl ?_
    refine e_op 161 em_27 (ce_at ce_27 79 rfl) rfl rfl ?_
    refine e_gd fun g3 => ?_
    refine e_ist 162 em_27 (ce_at ce_27 80 rfl) hc_91 (by decide) g3 rfl (fun s4 => ?_)
    refine e_mv 163 em_27 (ce_at ce_27 81 rfl) rfl rfl ?_
    refine e_getr 166 em_27 (ce_at ce_27 82 rfl) hc_90 rfl rfl ?_
    refine e_mv 167 em_27 (ce_at ce_27 83 rfl) rfl rfl ?_
    refine e_mv 168 em_27 (ce_at ce_27 84 rfl) rfl rfl ?_
    refine e_mv 169 em_27 (ce_at ce_27 85 rfl) rfl rfl ?_
    refine e_op 170 em_27 (ce_at ce_27 86 rfl) rfl rfl ?_
    refine e_cmge 177 173 em_27 rfl rfl (ce_at ce_27 87 rfl) g1 (by decide) (fun h5 => ?_) (fun h5 => ?_)
    · refine e_op 178 em_27 (ce_at ce_27 90 rfl) rfl rfl ?_
      refine e_pk [0, 3] rfl rfl ?_
      exact tcck_tail_178 H w d hd hc_90 hc_91 hc_92 hc_93 _ _ _ _ _
    · refine e_op 174 em_27 (ce_at ce_27 88 rfl) rfl rfl ?_
      refine e_goto em_27 178 (ce_at ce_27 89 rfl) rfl ?_
      refine e_pk [0, 3] rfl rfl ?_
      exact tcck_tail_178 H w d hd hc_90 hc_91 hc_92 hc_93 _ _ _ _ _
theorem fcck_tail_150b (v3 : Int) (s : iS) : Fm (fun r : (Int × iS) ⊕ (iS) => r.elim (fun l => l.2) (fun e => e)) L_cck_tail G_cck_tail s (cck_tail_150b v3 s) := fm_gd (fm_if (fm_some md_refl) (fm_gd (fm_lt (md_upL (mem_L rfl)) (fun s4 => fm_if (fcck_tail_178 _ _ _ _ _) (fcck_tail_178 _ _ _ _ _)))))
noncomputable def cck_tail_186 (s : iS) : Option (Int × iS) := lt' (up s 93 0 3) (fun s1 => lt' (up s1 93 1 2) (fun s2 => some (0, s2)))
theorem tcck_tail_186 (H : iS → List am_C) (w : ev_W) (d : Nat) (hd : 0 ≤ d) (hc_90 : Ho H 90 11 [some 2, some 71, some 91, some 92, some 93, some 94, some 95, some 96, some 97, some 98, some 99, some 102, some 103, some 104, some 105, some 106, some 107]) (hc_91 : Ha H 91 0 197) (hc_92 : Ha H 92 0 197) (hc_93 : Ha H 93 0 18) (s : iS) : Ew H w d 27 186 [(0, .ref (tb_nK + 90))] [] s (Cv H) (cck_tail_186 s) := by
  unfold cck_tail_186
  refine e_mv 187 em_27 (ce_at ce_27 95 rfl) rfl rfl ?_
  refine e_getr 190 em_27 (ce_at ce_27 96 rfl) hc_90 rfl rfl ?_
  refine e_op 191 em_27 (ce_at ce_27 97 rfl) rfl rfl ?_
  refine e_op 192 em_27 (ce_at ce_27 98 rfl) rfl rfl ?_
  refine e_ist 193 em_27 (ce_at ce_27 99 rfl) hc_93 (by decide) (by decide) rfl (fun s1 => ?_)
  refine e_mv 194 em_27 (ce_at ce_27 100 rfl) rfl rfl ?_
  refine e_getr 197 em_27 (ce_at ce_27 101 rfl) hc_90 rfl rfl ?_
  refine e_op 198 em_27 (ce_at ce_27 102 rfl) rfl rfl ?_
  refine e_op 199 em_27 (ce_at ce_27 103 rfl) rfl rfl ?_
  refine e_ist 200 em_27 (ce_at ce_27 104 rfl) hc_93 (by decide) (by decide) rfl (fun s2 => ?_)
  exact e_retv em_27 (ce_at ce_27 105 rfl)
theorem fcck_tail_186 (s : iS) : Fm Prod.snd L_cck_tail G_cck_tail s (cck_tail_186 s) := fm_lt (md_upL (mem_L rfl)) (fun s1 => fm_lt (md_upL (mem_L rfl)) (fun s2 => fm_some md_refl))
noncomputable def cck_tail_150 (v3 : Int) (s : iS) : Option (Int × iS) := (lp (L := Int × iS) (E := iS) (fun l => cck_tail_150b (l.1) (l.2)) (v3, s)).bind (fun e => cck_tail_186 e)
theorem tcck_tail_150 (H : iS → List am_C) (w : ev_W) (d : Nat) (hd : 0 ≤ d) (hc_90 : Ho H 90 11 [some 2, some 71, some 91, some 92, some 93, some 94, some 95, some 96, some 97, some 98, some 99, some 102, some 103, some 104, some 105, some 106, some 107]) (hc_91 : Ha H 91 0 197) (hc_92 : Ha H 92 0 197) (hc_93 : Ha H 93 0 18) (v3 : Int) (s : iS) : Ew H w d 27 150 [(0, .ref (tb_nK + 90)), (3, iv v3)] [] s (Cv H) (cck_tail_150 v3 s) := by
  unfold cck_tail_150
  refine e_lp (L := Int × iS) (E := iS) (LO := fun l => [(0, .ref (tb_nK + 90)), (3, iv (l.1))]) (LS := fun l => l.2) (CE := fun e r => ev w d 27 186 [(0, .ref (tb_nK + 90))] [] (H (e)) r) (fun l => tcck_tail_150b H w d hd hc_90 hc_91 hc_92 hc_93 _ _) ?_ (v3, s)
  intro e
  show Ew H w d 27 186 [(0, .ref (tb_nK + 90))] [] e (Cv H) _
  refine e_pk [0] rfl rfl ?_
  exact tcck_tail_186 H w d hd hc_90 hc_91 hc_92 hc_93 _
theorem fcck_tail_150 (v3 : Int) (s : iS) : Fm Prod.snd L_cck_tail G_cck_tail s (cck_tail_150 v3 s) := by
  unfold cck_tail_150
  refine fm_lp (A := Int × iS) (E := iS) (LS := fun l => l.2) (LE := fun e => e) ?_ ?_ (v3, s)
  · exact fun l => fcck_tail_150b _ _
  · exact (fun e => fcck_tail_186 _)
noncomputable def cck_tail_148 (s : iS) : Option (Int × iS) := cck_tail_150 0 s
theorem tcck_tail_148 (H : iS → List am_C) (w : ev_W) (d : Nat) (hd : 0 ≤ d) (hc_90 : Ho H 90 11 [some 2, some 71, some 91, some 92, some 93, some 94, some 95, some 96, some 97, some 98, some 99, some 102, some 103, some 104, some 105, some 106, some 107]) (hc_91 : Ha H 91 0 197) (hc_92 : Ha H 92 0 197) (hc_93 : Ha H 93 0 18) (s : iS) : Ew H w d 27 148 [(0, .ref (tb_nK + 90))] [] s (Cv H) (cck_tail_148 s) := by
  unfold cck_tail_148
  refine e_op 149 em_27 (ce_at ce_27 71 rfl) rfl rfl ?_
  refine e_mv 150 em_27 (ce_at ce_27 72 rfl) rfl rfl ?_
  refine e_pk [0, 3] rfl rfl ?_
  exact tcck_tail_150 H w d hd hc_90 hc_91 hc_92 hc_93 _ _
theorem fcck_tail_148 (s : iS) : Fm Prod.snd L_cck_tail G_cck_tail s (cck_tail_148 s) := fcck_tail_150 _ _
/-! str_coder_v3 -/
def L_str_coder_v3 : List Nat := []
def G_str_coder_v3 : List (Nat × Nat) := []
noncomputable def str_coder_v3 (nn0 : Nat) (gg0 : Nat → Int32) (s : iS) : Option (Int × iS) := some (0, s)
theorem tstr_coder_v3 (H : iS → List am_C) (w : ev_W) (d : Nat) (hd : 0 ≤ d) (nn0 : Nat) (gg0 : Nat → Int32) (rr0 : Nat) (h_rr0 : rr0 < tb_nK) (fl_rr0 : List Value) (hf_rr0 : tb_KF[rr0]? = some fl_rr0) (bb0 : Nat) (h0_rr0 : fl_rr0[0]? = some (.ref bb0)) (h1_rr0 : fl_rr0[1]? = some (iv 0)) (ho_rr0 : tb_KO[rr0]? = some "java/lang/String") (h_bb0 : bb0 < tb_nK) (hk_bb0 : (tb_KT w.2.1 w.2.2)[bb0]? = some (.byte, nn0, gg0)) (hl_nn0 : nn0 < 2147483648) (s : iS) : Ew H w d 5 0 [(0, .ref rr0)] [] s (Ci H) (str_coder_v3 nn0 gg0 s) := by
  unfold str_coder_v3
  refine e_gst 3 em_5 (ce_at ce_5 0 rfl) rfl rfl ?_
  refine e_jF 6 em_5 (ce_at ce_5 1 rfl) rfl (by rfl) rfl ?_
  refine e_mv 7 em_5 (ce_at ce_5 2 rfl) rfl rfl ?_
  refine e_getk 10 em_5 (ce_at ce_5 3 rfl) h_rr0 hf_rr0 h1_rr0 rfl ?_
  refine e_goto em_5 14 (ce_at ce_5 4 rfl) rfl ?_
  exact e_retb em_5 (ce_at ce_5 6 rfl) (by decide)
theorem fstr_coder_v3 (nn0 : Nat) (gg0 : Nat → Int32) (s : iS) : Fm Prod.snd L_str_coder_v3 G_str_coder_v3 s (str_coder_v3 nn0 gg0 s) := fm_some md_refl
/-! str_length_v3 -/
def L_str_length_v3 : List Nat := []
def G_str_length_v3 : List (Nat × Nat) := []
noncomputable def str_length_v3 (nn0 : Nat) (gg0 : Nat → Int32) (s : iS) : Option (Int × iS) := some ((i_shr (nn0 : Int) 0), s)
theorem tstr_length_v3 (H : iS → List am_C) (w : ev_W) (d : Nat) (hd : 1 ≤ d) (nn0 : Nat) (gg0 : Nat → Int32) (rr0 : Nat) (h_rr0 : rr0 < tb_nK) (fl_rr0 : List Value) (hf_rr0 : tb_KF[rr0]? = some fl_rr0) (bb0 : Nat) (h0_rr0 : fl_rr0[0]? = some (.ref bb0)) (h1_rr0 : fl_rr0[1]? = some (iv 0)) (ho_rr0 : tb_KO[rr0]? = some "java/lang/String") (h_bb0 : bb0 < tb_nK) (hk_bb0 : (tb_KT w.2.1 w.2.2)[bb0]? = some (.byte, nn0, gg0)) (hl_nn0 : nn0 < 2147483648) (s : iS) : Ew H w d 4 0 [(0, .ref rr0)] [] s (Ci H) (str_length_v3 nn0 gg0 s) := by
  unfold str_length_v3
  refine e_mv 1 em_4 (ce_at ce_4 0 rfl) rfl rfl ?_
  refine e_getk 4 em_4 (ce_at ce_4 1 rfl) h_rr0 hf_rr0 h0_rr0 rfl ?_
  refine e_alenk 5 em_4 (ce_at ce_4 2 rfl) h_bb0 hk_bb0 (by decide) rfl rfl ?_
  refine e_mv 6 em_4 (ce_at ce_4 3 rfl) rfl rfl ?_
  refine e_ivc 9 em_4 (ce_at ce_4 4 rfl) (by omega) (iv_k0 h_rr0 ho_rr0 rfl) em_5 (Nat.le_of_ble_eq_true rfl) rfl (tstr_coder_v3 H w (d - 1) (by omega) nn0 gg0 rr0 h_rr0 fl_rr0 hf_rr0 bb0 h0_rr0 h1_rr0 ho_rr0 h_bb0 hk_bb0 hl_nn0 _) (x := 0) rfl ?_
  refine e_ishr 10 em_4 rfl (ce_at ce_4 5 rfl) ?_
  exact e_reti em_4 (ce_at ce_4 6 rfl)
theorem fstr_length_v3 (nn0 : Nat) (gg0 : Nat → Int32) (s : iS) : Fm Prod.snd L_str_length_v3 G_str_length_v3 s (str_length_v3 nn0 gg0 s) := fm_some md_refl
/-! str_isLatin1_v3 -/
def L_str_isLatin1_v3 : List Nat := []
def G_str_isLatin1_v3 : List (Nat × Nat) := []
noncomputable def str_isLatin1_v3 (nn0 : Nat) (gg0 : Nat → Int32) (s : iS) : Option (Int × iS) := some (1, s)
theorem tstr_isLatin1_v3 (H : iS → List am_C) (w : ev_W) (d : Nat) (hd : 0 ≤ d) (nn0 : Nat) (gg0 : Nat → Int32) (rr0 : Nat) (h_rr0 : rr0 < tb_nK) (fl_rr0 : List Value) (hf_rr0 : tb_KF[rr0]? = some fl_rr0) (bb0 : Nat) (h0_rr0 : fl_rr0[0]? = some (.ref bb0)) (h1_rr0 : fl_rr0[1]? = some (iv 0)) (ho_rr0 : tb_KO[rr0]? = some "java/lang/String") (h_bb0 : bb0 < tb_nK) (hk_bb0 : (tb_KT w.2.1 w.2.2)[bb0]? = some (.byte, nn0, gg0)) (hl_nn0 : nn0 < 2147483648) (s : iS) : Ew H w d 7 0 [(0, .ref rr0)] [] s (Ci H) (str_isLatin1_v3 nn0 gg0 s) := by
  unfold str_isLatin1_v3
  refine e_gst 3 em_7 (ce_at ce_7 0 rfl) rfl rfl ?_
  refine e_jF 6 em_7 (ce_at ce_7 1 rfl) rfl (by rfl) rfl ?_
  refine e_mv 7 em_7 (ce_at ce_7 2 rfl) rfl rfl ?_
  refine e_getk 10 em_7 (ce_at ce_7 3 rfl) h_rr0 hf_rr0 h1_rr0 rfl ?_
  refine e_jF 13 em_7 (ce_at ce_7 4 rfl) rfl (by rfl) rfl ?_
  refine e_op 14 em_7 (ce_at ce_7 5 rfl) rfl rfl ?_
  refine e_goto em_7 18 (ce_at ce_7 6 rfl) rfl ?_
  exact e_retz em_7 (ce_at ce_7 8 rfl) (by decide)
theorem fstr_isLatin1_v3 (nn0 : Nat) (gg0 : Nat → Int32) (s : iS) : Fm Prod.snd L_str_isLatin1_v3 G_str_isLatin1_v3 s (str_isLatin1_v3 nn0 gg0 s) := fm_some md_refl
/-! jdk_internal_util_Preconditions_checkIndex -/
def L_jdk_internal_util_Preconditions_checkIndex : List Nat := []
def G_jdk_internal_util_Preconditions_checkIndex : List (Nat × Nat) := []
noncomputable def jdk_internal_util_Preconditions_checkIndex_9 (v0 : Int) (v1 : Int) (s : iS) : Option (Int × iS) := none
theorem tjdk_internal_util_Preconditions_checkIndex_9 (H : iS → List am_C) (w : ev_W) (d : Nat) (hd : 0 ≤ d) (v0 : Int) (v1 : Int) (s : iS) : Ew H w d 10 9 [(0, iv v0), (1, iv v1), (2, w.1)] [] s (Ci H) (jdk_internal_util_Preconditions_checkIndex_9 v0 v1 s) := by
  unfold jdk_internal_util_Preconditions_checkIndex_9
  exact e_none
theorem fjdk_internal_util_Preconditions_checkIndex_9 (v0 : Int) (v1 : Int) (s : iS) : Fm Prod.snd L_jdk_internal_util_Preconditions_checkIndex G_jdk_internal_util_Preconditions_checkIndex s (jdk_internal_util_Preconditions_checkIndex_9 v0 v1 s) := fm_none
noncomputable def jdk_internal_util_Preconditions_checkIndex (v0 : Int) (v1 : Int) (s : iS) : Option (Int × iS) := gd (rg v0) (if v0 < 0 then jdk_internal_util_Preconditions_checkIndex_9 v0 v1 s else gd (rg v1) (if v0 < v1 then some (v0, s) else jdk_internal_util_Preconditions_checkIndex_9 v0 v1 s))
theorem tjdk_internal_util_Preconditions_checkIndex (H : iS → List am_C) (w : ev_W) (d : Nat) (hd : 0 ≤ d) (v0 : Int) (v1 : Int) (s : iS) : Ew H w d 10 0 [(0, iv v0), (1, iv v1), (2, w.1)] [] s (Ci H) (jdk_internal_util_Preconditions_checkIndex v0 v1 s) := by
  unfold jdk_internal_util_Preconditions_checkIndex
  refine e_mv 1 em_10 (ce_at ce_10 0 rfl) rfl rfl ?_
  refine e_gd fun g1 => ?_
  refine e_iflt 9 4 em_10 rfl rfl (ce_at ce_10 1 rfl) g1 (fun h2 => ?_) (fun h2 => ?_)
  · refine e_pk [0, 1, 2] rfl rfl ?_
    exact tjdk_internal_util_Preconditions_checkIndex_9 H w d hd _ _ _
  · refine e_mv 5 em_10 (ce_at ce_10 2 rfl) rfl rfl ?_
    refine e_mv 6 em_10 (ce_at ce_10 3 rfl) rfl rfl ?_
    refine e_gd fun g3 => ?_
    refine e_cmlt 16 9 em_10 rfl rfl (ce_at ce_10 4 rfl) g1 g3 (fun h4 => ?_) (fun h4 => ?_)
    · refine e_mv 17 em_10 (ce_at ce_10 8 rfl) rfl rfl ?_
      exact e_reti em_10 (ce_at ce_10 9 rfl)
    · refine e_pk [0, 1, 2] rfl rfl ?_
      exact tjdk_internal_util_Preconditions_checkIndex_9 H w d hd _ _ _
theorem fjdk_internal_util_Preconditions_checkIndex (v0 : Int) (v1 : Int) (s : iS) : Fm Prod.snd L_jdk_internal_util_Preconditions_checkIndex G_jdk_internal_util_Preconditions_checkIndex s (jdk_internal_util_Preconditions_checkIndex v0 v1 s) := fm_gd (fm_if (fjdk_internal_util_Preconditions_checkIndex_9 _ _ _) (fm_gd (fm_if (fm_some md_refl) (fjdk_internal_util_Preconditions_checkIndex_9 _ _ _))))
/-! str_checkIndex -/
def L_str_checkIndex : List Nat := []
def G_str_checkIndex : List (Nat × Nat) := []
noncomputable def str_checkIndex (v0 : Int) (v1 : Int) (s : iS) : Option (Int × iS) := bd (jdk_internal_util_Preconditions_checkIndex v0 v1 s) (fun r1 s1 => some (0, s1))
theorem tstr_checkIndex (H : iS → List am_C) (w : ev_W) (d : Nat) (hd : 1 ≤ d) (hw : w.1 = .null ∨ w.1 = .ref 65) (v0 : Int) (v1 : Int) (s : iS) : Ew H w d 9 0 [(0, iv v0), (1, iv v1)] [] s (Cv H) (str_checkIndex v0 v1 s) := by
  unfold str_checkIndex
  refine e_mv 1 em_9 (ce_at ce_9 0 rfl) rfl rfl ?_
  refine e_mv 2 em_9 (ce_at ce_9 1 rfl) rfl rfl ?_
  refine e_gst 5 em_9 (ce_at ce_9 2 rfl) rfl rfl ?_
  refine e_ivi 8 em_9 (ce_at ce_9 3 rfl) (by omega) (iv_s3 rfl) em_10 (by rcases hw with h | h <;> (show (lg_sl [iv v0, iv v1, w.1]).length ≤ 3; rw [h]; exact Nat.le_of_ble_eq_true rfl)) rfl (tjdk_internal_util_Preconditions_checkIndex H w (d - 1) (by omega) _ _ _) (fun r1 s1 => ?_)
  refine e_op 9 em_9 (ce_at ce_9 4 rfl) rfl rfl ?_
  exact e_retv em_9 (ce_at ce_9 5 rfl)
theorem fstr_checkIndex (v0 : Int) (v1 : Int) (s : iS) : Fm Prod.snd L_str_checkIndex G_str_checkIndex s (str_checkIndex v0 v1 s) := fm_bd (fm_sub (fjdk_internal_util_Preconditions_checkIndex _ _ _) (mem_sub_L rfl) (mem_sub_F rfl)) (fun r1 s1 => fm_some md_refl)
/-! sl1_charAt -/
def L_sl1_charAt : List Nat := []
def G_sl1_charAt : List (Nat × Nat) := []
noncomputable def sl1_charAt (nn0 : Nat) (gg0 : Nat → Int32) (v1 : Int) (s : iS) : Option (Int × iS) := bd (str_checkIndex v1 (nn0 : Int) s) (fun _ s1 => gd (0 ≤ v1 ∧ v1 < (nn0 : Int)) (gd (0 ≤ (i_c (i_and ((gg0 v1.toNat).toInt) 255)) ∧ (i_c (i_and ((gg0 v1.toNat).toInt) 255)) < 65536) (some ((i_c (i_and ((gg0 v1.toNat).toInt) 255)), s1))))
theorem tsl1_charAt (H : iS → List am_C) (w : ev_W) (d : Nat) (hd : 2 ≤ d) (nn0 : Nat) (gg0 : Nat → Int32) (bb0 : Nat) (h_bb0 : bb0 < tb_nK) (hk_bb0 : (tb_KT w.2.1 w.2.2)[bb0]? = some (.byte, nn0, gg0)) (hl_nn0 : nn0 < 2147483648) (hw : w.1 = .null ∨ w.1 = .ref 65) (v1 : Int) (s : iS) : Ew H w d 8 0 [(0, .ref bb0), (1, iv v1)] [] s (Ci H) (sl1_charAt nn0 gg0 v1 s) := by
  unfold sl1_charAt
  refine e_mv 1 em_8 (ce_at ce_8 0 rfl) rfl rfl ?_
  refine e_mv 2 em_8 (ce_at ce_8 1 rfl) rfl rfl ?_
  refine e_alenk 3 em_8 (ce_at ce_8 2 rfl) h_bb0 hk_bb0 (by decide) rfl rfl ?_
  refine e_ivv 6 em_8 (ce_at ce_8 3 rfl) (by omega) (iv_s2 rfl) em_9 (Nat.le_of_ble_eq_true rfl) rfl (tstr_checkIndex H w (d - 1) (by omega) hw _ _ _) (fun r1 s1 => ?_)
  refine e_mv 7 em_8 (ce_at ce_8 4 rfl) rfl rfl ?_
  refine e_mv 8 em_8 (ce_at ce_8 5 rfl) rfl rfl ?_
  refine e_gd fun g2 => ?_
  refine e_bldk 9 em_8 (ce_at ce_8 6 rfl) h_bb0 hk_bb0 hl_nn0 g2 rfl ?_
  refine e_sip 12 em_8 (ce_at ce_8 7 rfl) (by decide) rfl ?_
  refine e_iand 13 em_8 rfl (ce_at ce_8 8 rfl) ?_
  refine e_i2c 14 em_8 rfl (ce_at ce_8 9 rfl) ?_
  refine e_gd fun g3 => ?_
  exact e_retc em_8 (ce_at ce_8 10 rfl) g3
theorem fsl1_charAt (nn0 : Nat) (gg0 : Nat → Int32) (v1 : Int) (s : iS) : Fm Prod.snd L_sl1_charAt G_sl1_charAt s (sl1_charAt nn0 gg0 v1 s) := fm_bd (fm_sub (fstr_checkIndex _ _ _) (mem_sub_L rfl) (mem_sub_F rfl)) (fun r1 s1 => fm_gd (fm_gd (fm_some md_refl)))
/-! str_charAt -/
def L_str_charAt : List Nat := []
def G_str_charAt : List (Nat × Nat) := []
noncomputable def str_charAt (nn0 : Nat) (gg0 : Nat → Int32) (v1 : Int) (s : iS) : Option (Int × iS) := bd (sl1_charAt nn0 gg0 v1 s) (fun r2 s2 => gd (0 ≤ r2 ∧ r2 < 65536) (some (r2, s2)))
theorem tstr_charAt (H : iS → List am_C) (w : ev_W) (d : Nat) (hd : 3 ≤ d) (nn0 : Nat) (gg0 : Nat → Int32) (rr0 : Nat) (h_rr0 : rr0 < tb_nK) (fl_rr0 : List Value) (hf_rr0 : tb_KF[rr0]? = some fl_rr0) (bb0 : Nat) (h0_rr0 : fl_rr0[0]? = some (.ref bb0)) (h1_rr0 : fl_rr0[1]? = some (iv 0)) (ho_rr0 : tb_KO[rr0]? = some "java/lang/String") (h_bb0 : bb0 < tb_nK) (hk_bb0 : (tb_KT w.2.1 w.2.2)[bb0]? = some (.byte, nn0, gg0)) (hl_nn0 : nn0 < 2147483648) (hw : w.1 = .null ∨ w.1 = .ref 65) (v1 : Int) (s : iS) : Ew H w d 6 0 [(0, .ref rr0), (1, iv v1)] [] s (Ci H) (str_charAt nn0 gg0 v1 s) := by
  unfold str_charAt
  refine e_mv 1 em_6 (ce_at ce_6 0 rfl) rfl rfl ?_
  refine e_ivc 4 em_6 (ce_at ce_6 1 rfl) (by omega) (iv_k0 h_rr0 ho_rr0 rfl) em_7 (Nat.le_of_ble_eq_true rfl) rfl (tstr_isLatin1_v3 H w (d - 1) (by omega) nn0 gg0 rr0 h_rr0 fl_rr0 hf_rr0 bb0 h0_rr0 h1_rr0 ho_rr0 h_bb0 hk_bb0 hl_nn0 _) (x := 1) rfl ?_
  refine e_jF 7 em_6 (ce_at ce_6 2 rfl) rfl (by rfl) rfl ?_
  refine e_mv 8 em_6 (ce_at ce_6 3 rfl) rfl rfl ?_
  refine e_getk 11 em_6 (ce_at ce_6 4 rfl) h_rr0 hf_rr0 h0_rr0 rfl ?_
  refine e_mv 12 em_6 (ce_at ce_6 5 rfl) rfl rfl ?_
  refine e_ivi 15 em_6 (ce_at ce_6 6 rfl) (by omega) (iv_s2 rfl) em_8 (Nat.le_of_ble_eq_true rfl) rfl (tsl1_charAt H w (d - 1) (by omega) nn0 gg0 bb0 h_bb0 hk_bb0 hl_nn0 hw _ _) (fun r2 s2 => ?_)
  refine e_gd fun g3 => ?_
  exact e_retc em_6 (ce_at ce_6 7 rfl) g3
theorem fstr_charAt (nn0 : Nat) (gg0 : Nat → Int32) (v1 : Int) (s : iS) : Fm Prod.snd L_str_charAt G_str_charAt s (str_charAt nn0 gg0 v1 s) := fm_bd (fm_sub (fsl1_charAt nn0 gg0 _ _) (mem_sub_L rfl) (mem_sub_F rfl)) (fun r2 s2 => fm_gd (fm_some md_refl))
/-! nam_half -/
def L_nam_half : List Nat := []
def G_nam_half : List (Nat × Nat) := []
def nam_half_5C (H : iS → List am_C) (w : ev_W) (d : Nat) (rr0 : Nat) (nn0 : Nat) (gg0 : Nat → Int32) (v1 : Int) (v2 : Int) : (Int × Int × iS) ⊕ (Int × iS) → am_E → Prop := fun q r => q.elim (fun l => ev w d 15 5 ((fun l => [(0, .ref rr0), (1, iv v1), (2, iv v2), (3, lv (l.1)), (5, iv (l.2.1))]) l) [] (H ((fun l => l.2.2) l)) r) (fun e => (fun e r => ev w d 15 43 [(3, lv (e.1))] [] (H (e.2)) r) e r)
noncomputable def nam_half_5b (nn0 : Nat) (gg0 : Nat → Int32) (v1 : Int) (v2 : Int) (v3 : Int) (v5 : Int) (s : iS) : Option ((Int × Int × iS) ⊕ (Int × iS)) := gd (rg v5) (gd (rg (v1 + 8)) (if (v1 + 8) ≤ v5 then some (.inr (v3, s)) else gd (rg v2) (if v2 ≤ v5 then some (.inl ((l_or (l_shl v3 8) 0), (v5 + 1), s)) else bd (str_charAt nn0 gg0 v5 s) (fun r6 s6 => gd (rg r6) (some (.inl ((l_or (l_shl v3 8) r6), (v5 + 1), s6)))))))
theorem tnam_half_5b (H : iS → List am_C) (w : ev_W) (d : Nat) (hd : 4 ≤ d) (nn0 : Nat) (gg0 : Nat → Int32) (rr0 : Nat) (h_rr0 : rr0 < tb_nK) (fl_rr0 : List Value) (hf_rr0 : tb_KF[rr0]? = some fl_rr0) (bb0 : Nat) (h0_rr0 : fl_rr0[0]? = some (.ref bb0)) (h1_rr0 : fl_rr0[1]? = some (iv 0)) (ho_rr0 : tb_KO[rr0]? = some "java/lang/String") (h_bb0 : bb0 < tb_nK) (hk_bb0 : (tb_KT w.2.1 w.2.2)[bb0]? = some (.byte, nn0, gg0)) (hl_nn0 : nn0 < 2147483648) (hw : w.1 = .null ∨ w.1 = .ref 65) (v1 : Int) (v2 : Int) (v3 : Int) (v5 : Int) (s : iS) : Ew H w d 15 5 [(0, .ref rr0), (1, iv v1), (2, iv v2), (3, lv v3), (5, iv v5)] [] s (nam_half_5C H w d rr0 nn0 gg0 v1 v2) (nam_half_5b nn0 gg0 v1 v2 v3 v5 s) := by
  unfold nam_half_5b
  refine e_mv 7 em_15 (ce_at ce_15 4 rfl) rfl rfl ?_
  refine e_mv 8 em_15 (ce_at ce_15 5 rfl) rfl rfl ?_
  refine e_bip 10 em_15 (ce_at ce_15 6 rfl) (by decide) rfl ?_
  refine e_iadd 11 em_15 rfl (ce_at ce_15 7 rfl) ?_
  refine e_gd fun g1 => ?_
  refine e_gd fun g2 => ?_
  refine e_cmge 43 14 em_15 rfl rfl (ce_at ce_15 8 rfl) g1 g2 (fun h3 => ?_) (fun h3 => ?_)
  · refine e_pk [3] rfl rfl ?_
    exact e_out (fun r h => h)
  · refine e_mv 15 em_15 (ce_at ce_15 9 rfl) rfl rfl ?_
    refine e_bip 17 em_15 (ce_at ce_15 10 rfl) (by decide) rfl ?_
    refine e_lshl 18 em_15 rfl (ce_at ce_15 11 rfl) ?_
    refine e_mv 20 em_15 (ce_at ce_15 12 rfl) rfl rfl ?_
    refine e_mv 21 em_15 (ce_at ce_15 13 rfl) rfl rfl ?_
    refine e_gd fun g4 => ?_
    refine e_cmge 33 24 em_15 rfl rfl (ce_at ce_15 14 rfl) g1 g4 (fun h5 => ?_) (fun h5 => ?_)
    · refine e_op 34 em_15 (ce_at ce_15 19 rfl) rfl rfl ?_
      refine e_i2l 35 em_15 rfl (ce_at ce_15 20 rfl) (by decide) ?_
      refine e_lor 36 em_15 rfl (ce_at ce_15 21 rfl) ?_
      refine e_mv 37 em_15 (ce_at ce_15 22 rfl) rfl rfl ?_
      refine e_iinc 40 em_15 (ce_at ce_15 23 rfl) rfl (by decide) rfl ?_
      refine e_goto em_15 5 (ce_at ce_15 24 rfl) rfl ?_
      refine e_pk [0, 1, 2, 3, 5] rfl rfl ?_
      exact e_out (fun r h => h)
    · refine e_mv 25 em_15 (ce_at ce_15 15 rfl) rfl rfl ?_
      refine e_mv 27 em_15 (ce_at ce_15 16 rfl) rfl rfl ?_
      refine e_ivi 30 em_15 (ce_at ce_15 17 rfl) (by omega) (iv_k1 h_rr0 ho_rr0 rfl) em_6 (Nat.le_of_ble_eq_true rfl) rfl (tstr_charAt H w (d - 1) (by omega) nn0 gg0 rr0 h_rr0 fl_rr0 hf_rr0 bb0 h0_rr0 h1_rr0 ho_rr0 h_bb0 hk_bb0 hl_nn0 hw _ _) (fun r6 s6 => ?_)
      refine e_goto em_15 34 (ce_at ce_15 18 rfl) rfl ?_
      refine e_gd fun g7 => ?_
      refine e_i2l 35 em_15 rfl (ce_at ce_15 20 rfl) g7 ?_
      refine e_lor 36 em_15 rfl (ce_at ce_15 21 rfl) ?_
      refine e_mv 37 em_15 (ce_at ce_15 22 rfl) rfl rfl ?_
      refine e_iinc 40 em_15 (ce_at ce_15 23 rfl) rfl (by decide) rfl ?_
      refine e_goto em_15 5 (ce_at ce_15 24 rfl) rfl ?_
      refine e_pk [0, 1, 2, 3, 5] rfl rfl ?_
      exact e_out (fun r h => h)
theorem fnam_half_5b (nn0 : Nat) (gg0 : Nat → Int32) (v1 : Int) (v2 : Int) (v3 : Int) (v5 : Int) (s : iS) : Fm (fun r : (Int × Int × iS) ⊕ (Int × iS) => r.elim (fun l => l.2.2) (fun e => e.2)) L_nam_half G_nam_half s (nam_half_5b nn0 gg0 v1 v2 v3 v5 s) := fm_gd (fm_gd (fm_if (fm_some md_refl) (fm_gd (fm_if (fm_some md_refl) (fm_bd (fm_sub (fstr_charAt nn0 gg0 _ _) (mem_sub_L rfl) (mem_sub_F rfl)) (fun r6 s6 => fm_gd (fm_some md_refl)))))))
noncomputable def nam_half_5 (nn0 : Nat) (gg0 : Nat → Int32) (v1 : Int) (v2 : Int) (v3 : Int) (v5 : Int) (s : iS) : Option (Int × iS) := (lp (L := Int × Int × iS) (E := Int × iS) (fun l => nam_half_5b nn0 gg0 v1 v2 (l.1) (l.2.1) (l.2.2)) (v3, v5, s)).bind (fun e => some (e.1, e.2))
theorem tnam_half_5 (H : iS → List am_C) (w : ev_W) (d : Nat) (hd : 4 ≤ d) (nn0 : Nat) (gg0 : Nat → Int32) (rr0 : Nat) (h_rr0 : rr0 < tb_nK) (fl_rr0 : List Value) (hf_rr0 : tb_KF[rr0]? = some fl_rr0) (bb0 : Nat) (h0_rr0 : fl_rr0[0]? = some (.ref bb0)) (h1_rr0 : fl_rr0[1]? = some (iv 0)) (ho_rr0 : tb_KO[rr0]? = some "java/lang/String") (h_bb0 : bb0 < tb_nK) (hk_bb0 : (tb_KT w.2.1 w.2.2)[bb0]? = some (.byte, nn0, gg0)) (hl_nn0 : nn0 < 2147483648) (hw : w.1 = .null ∨ w.1 = .ref 65) (v1 : Int) (v2 : Int) (v3 : Int) (v5 : Int) (s : iS) : Ew H w d 15 5 [(0, .ref rr0), (1, iv v1), (2, iv v2), (3, lv v3), (5, iv v5)] [] s (Cl H) (nam_half_5 nn0 gg0 v1 v2 v3 v5 s) := by
  unfold nam_half_5
  refine e_lp (L := Int × Int × iS) (E := Int × iS) (LO := fun l => [(0, .ref rr0), (1, iv v1), (2, iv v2), (3, lv (l.1)), (5, iv (l.2.1))]) (LS := fun l => l.2.2) (CE := fun e r => ev w d 15 43 [(3, lv (e.1))] [] (H (e.2)) r) (fun l => tnam_half_5b H w d hd nn0 gg0 rr0 h_rr0 fl_rr0 hf_rr0 bb0 h0_rr0 h1_rr0 ho_rr0 h_bb0 hk_bb0 hl_nn0 hw _ _ _ _ _) ?_ (v3, v5, s)
  intro e
  show Ew H w d 15 43 [(3, lv (e.1))] [] e.2 (Cl H) _
  refine e_mv 44 em_15 (ce_at ce_15 25 rfl) rfl rfl ?_
  exact e_retl em_15 (ce_at ce_15 26 rfl)
theorem fnam_half_5 (nn0 : Nat) (gg0 : Nat → Int32) (v1 : Int) (v2 : Int) (v3 : Int) (v5 : Int) (s : iS) : Fm Prod.snd L_nam_half G_nam_half s (nam_half_5 nn0 gg0 v1 v2 v3 v5 s) := by
  unfold nam_half_5
  refine fm_lp (A := Int × Int × iS) (E := Int × iS) (LS := fun l => l.2.2) (LE := fun e => e.2) ?_ ?_ (v3, v5, s)
  · exact fun l => fnam_half_5b nn0 gg0 _ _ _ _ _
  · exact (fun e => fm_some md_refl)
noncomputable def nam_half (nn0 : Nat) (gg0 : Nat → Int32) (v1 : Int) (v2 : Int) (s : iS) : Option (Int × iS) := nam_half_5 nn0 gg0 v1 v2 0 v1 s
theorem tnam_half (H : iS → List am_C) (w : ev_W) (d : Nat) (hd : 4 ≤ d) (nn0 : Nat) (gg0 : Nat → Int32) (rr0 : Nat) (h_rr0 : rr0 < tb_nK) (fl_rr0 : List Value) (hf_rr0 : tb_KF[rr0]? = some fl_rr0) (bb0 : Nat) (h0_rr0 : fl_rr0[0]? = some (.ref bb0)) (h1_rr0 : fl_rr0[1]? = some (iv 0)) (ho_rr0 : tb_KO[rr0]? = some "java/lang/String") (h_bb0 : bb0 < tb_nK) (hk_bb0 : (tb_KT w.2.1 w.2.2)[bb0]? = some (.byte, nn0, gg0)) (hl_nn0 : nn0 < 2147483648) (hw : w.1 = .null ∨ w.1 = .ref 65) (v1 : Int) (v2 : Int) (s : iS) : Ew H w d 15 0 [(0, .ref rr0), (1, iv v1), (2, iv v2)] [] s (Cl H) (nam_half nn0 gg0 v1 v2 s) := by
  unfold nam_half
  refine e_lcon 1 em_15 (ce_at ce_15 0 rfl) (x := 0) rfl rfl ?_
  refine e_mv 2 em_15 (ce_at ce_15 1 rfl) rfl rfl ?_
  refine e_mv 3 em_15 (ce_at ce_15 2 rfl) rfl rfl ?_
  refine e_mv 5 em_15 (ce_at ce_15 3 rfl) rfl rfl ?_
  refine e_pk [0, 1, 2, 3, 5] rfl rfl ?_
  exact tnam_half_5 H w d hd nn0 gg0 rr0 h_rr0 fl_rr0 hf_rr0 bb0 h0_rr0 h1_rr0 ho_rr0 h_bb0 hk_bb0 hl_nn0 hw _ _ _ _ _
theorem fnam_half (nn0 : Nat) (gg0 : Nat → Int32) (v1 : Int) (v2 : Int) (s : iS) : Fm Prod.snd L_nam_half G_nam_half s (nam_half nn0 gg0 v1 v2 s) := fnam_half_5 nn0 gg0 _ _ _ _ _
/-! nam_addWords -/
def nam_addWords_4C (H : iS → List am_C) (w : ev_W) (d : Nat) (rr1 : Nat) (c0 : Nat) (a0 : Nat) (b0 : Nat) (n0 : Nat) (nn1 : Nat) (gg1 : Nat → Int32) : (Int × Int × iS) ⊕ (iS) → am_E → Prop := fun q r => q.elim (fun l => ev w d 3 4 ((fun l => [(0, .ref (tb_nK + c0)), (1, .ref rr1), (2, iv (l.1)), (3, iv (l.2.1))]) l) [] (H ((fun l => l.2.2) l)) r) (fun e => (fun e r => ev w d 3 64 [] [] (H (e)) r) e r)
noncomputable def nam_addWords_54 (c0 : Nat) (a0 : Nat) (b0 : Nat) (n0 : Nat) (nn1 : Nat) (gg1 : Nat → Int32) (v3 : Int) (s : iS) : Option ((Int × Int × iS) ⊕ (iS)) := some (.inl ((v3 + 1), (v3 + 1), s))
theorem tnam_addWords_54 (H : iS → List am_C) (w : ev_W) (d : Nat) (hd : 5 ≤ d) (c0 : Nat) (a0 : Nat) (b0 : Nat) (n0 : Nat) (nn1 : Nat) (gg1 : Nat → Int32) (h_c0 : Ho H c0 2 [some a0, some b0, none]) (h_a0 : Ha H a0 1 n0) (h_b0 : Ha H b0 1 n0) (hl_n0 : n0 < 2147483648) (rr1 : Nat) (h_rr1 : rr1 < tb_nK) (fl_rr1 : List Value) (hf_rr1 : tb_KF[rr1]? = some fl_rr1) (bb1 : Nat) (h0_rr1 : fl_rr1[0]? = some (.ref bb1)) (h1_rr1 : fl_rr1[1]? = some (iv 0)) (ho_rr1 : tb_KO[rr1]? = some "java/lang/String") (h_bb1 : bb1 < tb_nK) (hk_bb1 : (tb_KT w.2.1 w.2.2)[bb1]? = some (.byte, nn1, gg1)) (hl_nn1 : nn1 < 2147483648) (hw : w.1 = .null ∨ w.1 = .ref 65) (v3 : Int) (s : iS) : Ew H w d 3 54 [(0, .ref (tb_nK + c0)), (1, .ref rr1), (3, iv v3)] [] s (nam_addWords_4C H w d rr1 c0 a0 b0 n0 nn1 gg1) (nam_addWords_54 c0 a0 b0 n0 nn1 gg1 v3 s) := by
  unfold nam_addWords_54
  refine e_mv 55 em_3 (ce_at ce_3 32 rfl) rfl rfl ?_
  refine e_op 56 em_3 (ce_at ce_3 33 rfl) rfl rfl ?_
  refine e_iadd 57 em_3 rfl (ce_at ce_3 34 rfl) ?_
  refine e_mv 58 em_3 (ce_at ce_3 35 rfl) rfl rfl ?_
  refine e_iinc 61 em_3 (ce_at ce_3 36 rfl) rfl (by decide) rfl ?_
  refine e_goto em_3 4 (ce_at ce_3 37 rfl) rfl ?_
  refine e_pk [0, 1, 2, 3] rfl rfl ?_
  exact e_out (fun r h => h)
theorem fnam_addWords_54 (c0 : Nat) (a0 : Nat) (b0 : Nat) (n0 : Nat) (nn1 : Nat) (gg1 : Nat → Int32) (v3 : Int) (s : iS) : Fm (fun r : (Int × Int × iS) ⊕ (iS) => r.elim (fun l => l.2.2) (fun e => e)) [a0, b0] [(c0, 2)] s (nam_addWords_54 c0 a0 b0 n0 nn1 gg1 v3 s) := fm_some md_refl
noncomputable def nam_addWords_30 (c0 : Nat) (a0 : Nat) (b0 : Nat) (n0 : Nat) (nn1 : Nat) (gg1 : Nat → Int32) (v2 : Int) (v3 : Int) (s : iS) : Option ((Int × Int × iS) ⊕ (iS)) := gd (rg v3) (gd (rg v2) (if v3 ≤ v2 then nam_addWords_54 c0 a0 b0 n0 nn1 gg1 v3 s else bd (nam_half nn1 gg1 v2 v3 s) (fun r4 s4 => bd (nam_half nn1 gg1 (v2 + 8) v3 s4) (fun r5 s5 => bd (nam_add c0 a0 b0 n0 r4 r5 s5) (fun _ s6 => nam_addWords_54 c0 a0 b0 n0 nn1 gg1 v3 s6)))))
theorem tnam_addWords_30 (H : iS → List am_C) (w : ev_W) (d : Nat) (hd : 5 ≤ d) (c0 : Nat) (a0 : Nat) (b0 : Nat) (n0 : Nat) (nn1 : Nat) (gg1 : Nat → Int32) (h_c0 : Ho H c0 2 [some a0, some b0, none]) (h_a0 : Ha H a0 1 n0) (h_b0 : Ha H b0 1 n0) (hl_n0 : n0 < 2147483648) (rr1 : Nat) (h_rr1 : rr1 < tb_nK) (fl_rr1 : List Value) (hf_rr1 : tb_KF[rr1]? = some fl_rr1) (bb1 : Nat) (h0_rr1 : fl_rr1[0]? = some (.ref bb1)) (h1_rr1 : fl_rr1[1]? = some (iv 0)) (ho_rr1 : tb_KO[rr1]? = some "java/lang/String") (h_bb1 : bb1 < tb_nK) (hk_bb1 : (tb_KT w.2.1 w.2.2)[bb1]? = some (.byte, nn1, gg1)) (hl_nn1 : nn1 < 2147483648) (hw : w.1 = .null ∨ w.1 = .ref 65) (v2 : Int) (v3 : Int) (s : iS) : Ew H w d 3 30 [(0, .ref (tb_nK + c0)), (1, .ref rr1), (2, iv v2), (3, iv v3)] [] s (nam_addWords_4C H w d rr1 c0 a0 b0 n0 nn1 gg1) (nam_addWords_30 c0 a0 b0 n0 nn1 gg1 v2 v3 s) := by
  unfold nam_addWords_30
  refine e_mv 31 em_3 (ce_at ce_3 17 rfl) rfl rfl ?_
  refine e_mv 32 em_3 (ce_at ce_3 18 rfl) rfl rfl ?_
  refine e_gd fun g1 => ?_
  refine e_gd fun g2 => ?_
  refine e_cmle 54 35 em_3 rfl rfl (ce_at ce_3 19 rfl) g1 g2 (fun h3 => ?_) (fun h3 => ?_)
  · refine e_pk [0, 1, 3] rfl rfl ?_
    exact tnam_addWords_54 H w d hd c0 a0 b0 n0 nn1 gg1 h_c0 h_a0 h_b0 hl_n0 rr1 h_rr1 fl_rr1 hf_rr1 bb1 h0_rr1 h1_rr1 ho_rr1 h_bb1 hk_bb1 hl_nn1 hw _ _
  · refine e_mv 36 em_3 (ce_at ce_3 20 rfl) rfl rfl ?_
    refine e_mv 37 em_3 (ce_at ce_3 21 rfl) rfl rfl ?_
    refine e_mv 38 em_3 (ce_at ce_3 22 rfl) rfl rfl ?_
    refine e_mv 39 em_3 (ce_at ce_3 23 rfl) rfl rfl ?_
    refine e_ivl 42 em_3 (ce_at ce_3 24 rfl) (by omega) (iv_s3 rfl) em_15 (Nat.le_of_ble_eq_true rfl) rfl (tnam_half H w (d - 1) (by omega) nn1 gg1 rr1 h_rr1 fl_rr1 hf_rr1 bb1 h0_rr1 h1_rr1 ho_rr1 h_bb1 hk_bb1 hl_nn1 hw _ _ _) (fun r4 s4 => ?_)
    refine e_mv 43 em_3 (ce_at ce_3 25 rfl) rfl rfl ?_
    refine e_mv 44 em_3 (ce_at ce_3 26 rfl) rfl rfl ?_
    refine e_bip 46 em_3 (ce_at ce_3 27 rfl) (by decide) rfl ?_
    refine e_iadd 47 em_3 rfl (ce_at ce_3 28 rfl) ?_
    refine e_mv 48 em_3 (ce_at ce_3 29 rfl) rfl rfl ?_
    refine e_ivl 51 em_3 (ce_at ce_3 30 rfl) (by omega) (iv_s3 rfl) em_15 (Nat.le_of_ble_eq_true rfl) rfl (tnam_half H w (d - 1) (by omega) nn1 gg1 rr1 h_rr1 fl_rr1 hf_rr1 bb1 h0_rr1 h1_rr1 ho_rr1 h_bb1 hk_bb1 hl_nn1 hw _ _ _) (fun r5 s5 => ?_)
    refine e_ivv 54 em_3 (ce_at ce_3 31 rfl) (by omega) (iv_v2 (by decide) h_c0 rfl) em_16 (Nat.le_of_ble_eq_true rfl) rfl (tnam_add H w (d - 1) (by omega) c0 a0 b0 n0 h_c0 h_a0 h_b0 hl_n0 _ _ _) (fun r6 s6 => ?_)
    refine e_pk [0, 1, 3] rfl rfl ?_
    exact tnam_addWords_54 H w d hd c0 a0 b0 n0 nn1 gg1 h_c0 h_a0 h_b0 hl_n0 rr1 h_rr1 fl_rr1 hf_rr1 bb1 h0_rr1 h1_rr1 ho_rr1 h_bb1 hk_bb1 hl_nn1 hw _ _
theorem fnam_addWords_30 (c0 : Nat) (a0 : Nat) (b0 : Nat) (n0 : Nat) (nn1 : Nat) (gg1 : Nat → Int32) (v2 : Int) (v3 : Int) (s : iS) : Fm (fun r : (Int × Int × iS) ⊕ (iS) => r.elim (fun l => l.2.2) (fun e => e)) [a0, b0] [(c0, 2)] s (nam_addWords_30 c0 a0 b0 n0 nn1 gg1 v2 v3 s) := fm_gd (fm_gd (fm_if (fnam_addWords_54 c0 a0 b0 n0 nn1 gg1 _ _) (fm_bd (fm_sub (fnam_half nn1 gg1 _ _ _) (fun _ h => by cases h) (fun _ h => by cases h)) (fun r4 s4 => fm_bd (fm_sub (fnam_half nn1 gg1 _ _ _) (fun _ h => by cases h) (fun _ h => by cases h)) (fun r5 s5 => fm_bd (fnam_add c0 a0 b0 n0 _ _ _) (fun r6 s6 => fnam_addWords_54 c0 a0 b0 n0 nn1 gg1 _ _))))))
noncomputable def nam_addWords_4b (c0 : Nat) (a0 : Nat) (b0 : Nat) (n0 : Nat) (nn1 : Nat) (gg1 : Nat → Int32) (v2 : Int) (v3 : Int) (s : iS) : Option ((Int × Int × iS) ⊕ (iS)) := bd (str_length_v3 nn1 gg1 s) (fun r1 s1 => gd (rg v3) (gd (rg r1) (if r1 < v3 then some (.inr s1) else bd (str_length_v3 nn1 gg1 s1) (fun r5 s5 => gd (rg r5) (if v3 = r5 then nam_addWords_30 c0 a0 b0 n0 nn1 gg1 v2 v3 s5 else bd (str_charAt nn1 gg1 v3 s5) (fun r8 s8 => gd (rg r8) (if r8 = 32 then nam_addWords_30 c0 a0 b0 n0 nn1 gg1 v2 v3 s8 else some (.inl (v2, (v3 + 1), s8)))))))))
theorem tnam_addWords_4b (H : iS → List am_C) (w : ev_W) (d : Nat) (hd : 5 ≤ d) (c0 : Nat) (a0 : Nat) (b0 : Nat) (n0 : Nat) (nn1 : Nat) (gg1 : Nat → Int32) (h_c0 : Ho H c0 2 [some a0, some b0, none]) (h_a0 : Ha H a0 1 n0) (h_b0 : Ha H b0 1 n0) (hl_n0 : n0 < 2147483648) (rr1 : Nat) (h_rr1 : rr1 < tb_nK) (fl_rr1 : List Value) (hf_rr1 : tb_KF[rr1]? = some fl_rr1) (bb1 : Nat) (h0_rr1 : fl_rr1[0]? = some (.ref bb1)) (h1_rr1 : fl_rr1[1]? = some (iv 0)) (ho_rr1 : tb_KO[rr1]? = some "java/lang/String") (h_bb1 : bb1 < tb_nK) (hk_bb1 : (tb_KT w.2.1 w.2.2)[bb1]? = some (.byte, nn1, gg1)) (hl_nn1 : nn1 < 2147483648) (hw : w.1 = .null ∨ w.1 = .ref 65) (v2 : Int) (v3 : Int) (s : iS) : Ew H w d 3 4 [(0, .ref (tb_nK + c0)), (1, .ref rr1), (2, iv v2), (3, iv v3)] [] s (nam_addWords_4C H w d rr1 c0 a0 b0 n0 nn1 gg1) (nam_addWords_4b c0 a0 b0 n0 nn1 gg1 v2 v3 s) := by
  unfold nam_addWords_4b
  refine e_mv 5 em_3 (ce_at ce_3 4 rfl) rfl rfl ?_
  refine e_mv 6 em_3 (ce_at ce_3 5 rfl) rfl rfl ?_
  refine e_ivi 9 em_3 (ce_at ce_3 6 rfl) (by omega) (iv_k0 h_rr1 ho_rr1 rfl) em_4 (Nat.le_of_ble_eq_true rfl) rfl (tstr_length_v3 H w (d - 1) (by omega) nn1 gg1 rr1 h_rr1 fl_rr1 hf_rr1 bb1 h0_rr1 h1_rr1 ho_rr1 h_bb1 hk_bb1 hl_nn1 _) (fun r1 s1 => ?_)
  refine e_gd fun g2 => ?_
  refine e_gd fun g3 => ?_
  refine e_cmgt 64 12 em_3 rfl rfl (ce_at ce_3 7 rfl) g2 g3 (fun h4 => ?_) (fun h4 => ?_)
  · refine e_pk [] rfl rfl ?_
    exact e_out (fun r h => h)
  · refine e_mv 13 em_3 (ce_at ce_3 8 rfl) rfl rfl ?_
    refine e_mv 14 em_3 (ce_at ce_3 9 rfl) rfl rfl ?_
    refine e_ivi 17 em_3 (ce_at ce_3 10 rfl) (by omega) (iv_k0 h_rr1 ho_rr1 rfl) em_4 (Nat.le_of_ble_eq_true rfl) rfl (tstr_length_v3 H w (d - 1) (by omega) nn1 gg1 rr1 h_rr1 fl_rr1 hf_rr1 bb1 h0_rr1 h1_rr1 ho_rr1 h_bb1 hk_bb1 hl_nn1 _) (fun r5 s5 => ?_)
    refine e_gd fun g6 => ?_
    refine e_cmeq 30 20 em_3 rfl rfl (ce_at ce_3 11 rfl) g2 g6 (fun h7 => ?_) (fun h7 => ?_)
    · refine e_pk [0, 1, 2, 3] rfl rfl ?_
      exact tnam_addWords_30 H w d hd c0 a0 b0 n0 nn1 gg1 h_c0 h_a0 h_b0 hl_n0 rr1 h_rr1 fl_rr1 hf_rr1 bb1 h0_rr1 h1_rr1 ho_rr1 h_bb1 hk_bb1 hl_nn1 hw _ _ _
    · refine e_mv 21 em_3 (ce_at ce_3 12 rfl) rfl rfl ?_
      refine e_mv 22 em_3 (ce_at ce_3 13 rfl) rfl rfl ?_
      refine e_ivi 25 em_3 (ce_at ce_3 14 rfl) (by omega) (iv_k1 h_rr1 ho_rr1 rfl) em_6 (Nat.le_of_ble_eq_true rfl) rfl (tstr_charAt H w (d - 1) (by omega) nn1 gg1 rr1 h_rr1 fl_rr1 hf_rr1 bb1 h0_rr1 h1_rr1 ho_rr1 h_bb1 hk_bb1 hl_nn1 hw _ _) (fun r8 s8 => ?_)
      refine e_bip 27 em_3 (ce_at ce_3 15 rfl) (by decide) rfl ?_
      refine e_gd fun g9 => ?_
      refine e_cmne 58 30 em_3 rfl rfl (ce_at ce_3 16 rfl) g9 (by decide) (fun h10 => ?_) (fun h10 => ?_)
      · refine e_iinc 61 em_3 (ce_at ce_3 36 rfl) rfl (by decide) rfl ?_
        refine e_goto em_3 4 (ce_at ce_3 37 rfl) rfl ?_
        refine e_pk [0, 1, 2, 3] rfl rfl ?_
        exact e_out (fun r h => h)
      · refine e_pk [0, 1, 2, 3] rfl rfl ?_
        exact tnam_addWords_30 H w d hd c0 a0 b0 n0 nn1 gg1 h_c0 h_a0 h_b0 hl_n0 rr1 h_rr1 fl_rr1 hf_rr1 bb1 h0_rr1 h1_rr1 ho_rr1 h_bb1 hk_bb1 hl_nn1 hw _ _ _
theorem fnam_addWords_4b (c0 : Nat) (a0 : Nat) (b0 : Nat) (n0 : Nat) (nn1 : Nat) (gg1 : Nat → Int32) (v2 : Int) (v3 : Int) (s : iS) : Fm (fun r : (Int × Int × iS) ⊕ (iS) => r.elim (fun l => l.2.2) (fun e => e)) [a0, b0] [(c0, 2)] s (nam_addWords_4b c0 a0 b0 n0 nn1 gg1 v2 v3 s) := fm_bd (fm_sub (fstr_length_v3 nn1 gg1 _) (fun _ h => by cases h) (fun _ h => by cases h)) (fun r1 s1 => fm_gd (fm_gd (fm_if (fm_some md_refl) (fm_bd (fm_sub (fstr_length_v3 nn1 gg1 _) (fun _ h => by cases h) (fun _ h => by cases h)) (fun r5 s5 => fm_gd (fm_if (fnam_addWords_30 c0 a0 b0 n0 nn1 gg1 _ _ _) (fm_bd (fm_sub (fstr_charAt nn1 gg1 _ _) (fun _ h => by cases h) (fun _ h => by cases h)) (fun r8 s8 => fm_gd (fm_if (fnam_addWords_30 c0 a0 b0 n0 nn1 gg1 _ _ _) (fm_some md_refl))))))))))
noncomputable def nam_addWords_4 (c0 : Nat) (a0 : Nat) (b0 : Nat) (n0 : Nat) (nn1 : Nat) (gg1 : Nat → Int32) (v2 : Int) (v3 : Int) (s : iS) : Option (Int × iS) := (lp (L := Int × Int × iS) (E := iS) (fun l => nam_addWords_4b c0 a0 b0 n0 nn1 gg1 (l.1) (l.2.1) (l.2.2)) (v2, v3, s)).bind (fun e => some (0, e))
theorem tnam_addWords_4 (H : iS → List am_C) (w : ev_W) (d : Nat) (hd : 5 ≤ d) (c0 : Nat) (a0 : Nat) (b0 : Nat) (n0 : Nat) (nn1 : Nat) (gg1 : Nat → Int32) (h_c0 : Ho H c0 2 [some a0, some b0, none]) (h_a0 : Ha H a0 1 n0) (h_b0 : Ha H b0 1 n0) (hl_n0 : n0 < 2147483648) (rr1 : Nat) (h_rr1 : rr1 < tb_nK) (fl_rr1 : List Value) (hf_rr1 : tb_KF[rr1]? = some fl_rr1) (bb1 : Nat) (h0_rr1 : fl_rr1[0]? = some (.ref bb1)) (h1_rr1 : fl_rr1[1]? = some (iv 0)) (ho_rr1 : tb_KO[rr1]? = some "java/lang/String") (h_bb1 : bb1 < tb_nK) (hk_bb1 : (tb_KT w.2.1 w.2.2)[bb1]? = some (.byte, nn1, gg1)) (hl_nn1 : nn1 < 2147483648) (hw : w.1 = .null ∨ w.1 = .ref 65) (v2 : Int) (v3 : Int) (s : iS) : Ew H w d 3 4 [(0, .ref (tb_nK + c0)), (1, .ref rr1), (2, iv v2), (3, iv v3)] [] s (Cv H) (nam_addWords_4 c0 a0 b0 n0 nn1 gg1 v2 v3 s) := by
  unfold nam_addWords_4
  refine e_lp (L := Int × Int × iS) (E := iS) (LO := fun l => [(0, .ref (tb_nK + c0)), (1, .ref rr1), (2, iv (l.1)), (3, iv (l.2.1))]) (LS := fun l => l.2.2) (CE := fun e r => ev w d 3 64 [] [] (H (e)) r) (fun l => tnam_addWords_4b H w d hd c0 a0 b0 n0 nn1 gg1 h_c0 h_a0 h_b0 hl_n0 rr1 h_rr1 fl_rr1 hf_rr1 bb1 h0_rr1 h1_rr1 ho_rr1 h_bb1 hk_bb1 hl_nn1 hw _ _ _) ?_ (v2, v3, s)
  intro e
  show Ew H w d 3 64 [] [] e (Cv H) _
  exact e_retv em_3 (ce_at ce_3 38 rfl)
theorem fnam_addWords_4 (c0 : Nat) (a0 : Nat) (b0 : Nat) (n0 : Nat) (nn1 : Nat) (gg1 : Nat → Int32) (v2 : Int) (v3 : Int) (s : iS) : Fm Prod.snd [a0, b0] [(c0, 2)] s (nam_addWords_4 c0 a0 b0 n0 nn1 gg1 v2 v3 s) := by
  unfold nam_addWords_4
  refine fm_lp (A := Int × Int × iS) (E := iS) (LS := fun l => l.2.2) (LE := fun e => e) ?_ ?_ (v2, v3, s)
  · exact fun l => fnam_addWords_4b c0 a0 b0 n0 nn1 gg1 _ _ _
  · exact (fun e => fm_some md_refl)
noncomputable def nam_addWords (c0 : Nat) (a0 : Nat) (b0 : Nat) (n0 : Nat) (nn1 : Nat) (gg1 : Nat → Int32) (s : iS) : Option (Int × iS) := nam_addWords_4 c0 a0 b0 n0 nn1 gg1 0 0 s
theorem tnam_addWords (H : iS → List am_C) (w : ev_W) (d : Nat) (hd : 5 ≤ d) (c0 : Nat) (a0 : Nat) (b0 : Nat) (n0 : Nat) (nn1 : Nat) (gg1 : Nat → Int32) (h_c0 : Ho H c0 2 [some a0, some b0, none]) (h_a0 : Ha H a0 1 n0) (h_b0 : Ha H b0 1 n0) (hl_n0 : n0 < 2147483648) (rr1 : Nat) (h_rr1 : rr1 < tb_nK) (fl_rr1 : List Value) (hf_rr1 : tb_KF[rr1]? = some fl_rr1) (bb1 : Nat) (h0_rr1 : fl_rr1[0]? = some (.ref bb1)) (h1_rr1 : fl_rr1[1]? = some (iv 0)) (ho_rr1 : tb_KO[rr1]? = some "java/lang/String") (h_bb1 : bb1 < tb_nK) (hk_bb1 : (tb_KT w.2.1 w.2.2)[bb1]? = some (.byte, nn1, gg1)) (hl_nn1 : nn1 < 2147483648) (hw : w.1 = .null ∨ w.1 = .ref 65) (s : iS) : Ew H w d 3 0 [(0, .ref (tb_nK + c0)), (1, .ref rr1)] [] s (Cv H) (nam_addWords c0 a0 b0 n0 nn1 gg1 s) := by
  unfold nam_addWords
  refine e_op 1 em_3 (ce_at ce_3 0 rfl) rfl rfl ?_
  refine e_mv 2 em_3 (ce_at ce_3 1 rfl) rfl rfl ?_
  refine e_op 3 em_3 (ce_at ce_3 2 rfl) rfl rfl ?_
  refine e_mv 4 em_3 (ce_at ce_3 3 rfl) rfl rfl ?_
  refine e_pk [0, 1, 2, 3] rfl rfl ?_
  exact tnam_addWords_4 H w d hd c0 a0 b0 n0 nn1 gg1 h_c0 h_a0 h_b0 hl_n0 rr1 h_rr1 fl_rr1 hf_rr1 bb1 h0_rr1 h1_rr1 ho_rr1 h_bb1 hk_bb1 hl_nn1 hw _ _ _
theorem fnam_addWords (c0 : Nat) (a0 : Nat) (b0 : Nat) (n0 : Nat) (nn1 : Nat) (gg1 : Nat → Int32) (s : iS) : Fm Prod.snd [a0, b0] [(c0, 2)] s (nam_addWords c0 a0 b0 n0 nn1 gg1 s) := fnam_addWords_4 c0 a0 b0 n0 nn1 gg1 _ _ _
/-! m_system -/
def L_m_system : List Nat := [164, 165, 166, 167, 168]
def G_m_system : List (Nat × Nat) := []
def m_system_97C (H : iS → List am_C) (w : ev_W) (d : Nat) (v1 : Int) (v2 : Int) : (Int × iS) ⊕ (Int × iS) → am_E → Prop := fun q r => q.elim (fun l => ev w d 295 97 ((fun l => [(0, .ref (tb_nK + 121)), (1, iv v1), (2, iv v2), (3, iv (l.1))]) l) [] (H ((fun l => l.2) l)) r) (fun e => (fun e r => ev w d 295 114 [(0, .ref (tb_nK + 121)), (1, iv v1), (2, iv v2), (3, iv (e.1))] [] (H (e.2)) r) e r)
noncomputable def m_system_97b (v1 : Int) (v2 : Int) (v3 : Int) (s : iS) : Option ((Int × iS) ⊕ (Int × iS)) := gd (0 ≤ v3 ∧ v3 < 465) (gd (rg ((ka_5 v3.toNat).toInt)) (if (ka_5 v3.toNat).toInt = 32 then some (.inr (v3, s)) else some (.inl ((v3 + 1), s))))
theorem tm_system_97b (H : iS → List am_C) (w : ev_W) (d : Nat) (hd : 0 ≤ d) (hc_121 : Ho H 121 13 [some 122, none, some 123, none, none, some 124, some 125, some 126, some 127, none, none, none, none, some 128, none, some 129, none, none, some 130, some 131, some 132, some 133, some 134, some 135, some 136, none, some 137, some 138, some 139, some 140, some 141, some 142, some 143, none, some 144, some 145, some 146, some 147, some 148, none, some 149, some 150, some 151, some 152, some 153, some 154, some 155, some 156, none, none, none, none, some 157, some 158, some 159, none, some 160, some 161, some 162, some 163, none, none, none, some 164, some 165, some 166, some 167, some 168, some 169, none, none, none, none, some 170, none, some 171, none, some 172, some 173, some 174, some 175, none, some 176, some 177, some 178, some 179, some 180, none, none, none, some 181, some 182, some 183, some 184, some 185, none, none, none, none, none, none, some 186, none, none, none, some 187, none, none, none, some 188, none, some 189, none, some 190, some 191, some 192, some 193, some 194, none, none, none, none, none, some 195, some 196, none, some 197, some 198, some 199, some 200, some 201, none, some 202, some 203, none, some 204, some 205, some 206, some 207, some 208, some 209, some 210, some 211, some 212, none, some 213, some 214, some 215, none, none, none, some 216, none, some 217, some 218, some 219, some 220, some 221, none, some 222, some 223, none, some 224, some 225, some 226, some 227, none, some 228, some 229, some 230, none, some 231, some 232, none, none, some 233]) (hc_164 : Ha H 164 0 9) (hc_165 : Ha H 165 0 8) (hc_166 : Ha H 166 0 60) (hc_167 : Ha H 167 4 60) (hc_168 : Ha H 168 0 60) (v1 : Int) (v2 : Int) (v3 : Int) (s : iS) : Ew H w d 295 97 [(0, .ref (tb_nK + 121)), (1, iv v1), (2, iv v2), (3, iv v3)] [] s (m_system_97C H w d v1 v2) (m_system_97b v1 v2 v3 s) := by
  unfold m_system_97b
  refine e_gst 100 em_295 (ce_at ce_295 66 rfl) rfl rfl ?_
  refine e_mv 101 em_295 (ce_at ce_295 67 rfl) rfl rfl ?_
  refine e_gd fun g1 => ?_
  refine e_cldk 102 em_295 (ce_at ce_295 68 rfl) (by decide) (kt_5 _ _) (by decide) g1 rfl ?_
  refine e_bip 104 em_295 (ce_at ce_295 69 rfl) (by decide) rfl ?_
  refine e_gd fun g2 => ?_
  refine e_cmeq 114 107 em_295 rfl rfl (ce_at ce_295 70 rfl) g2 (by decide) (fun h3 => ?_) (fun h3 => ?_)
  · refine e_pk [0, 1, 2, 3] rfl rfl ?_
    exact e_out (fun r h => h)
  · refine e_mv 108 em_295 (ce_at ce_295 71 rfl) rfl rfl ?_
    refine e_op 109 em_295 (ce_at ce_295 72 rfl) rfl rfl ?_
    refine e_iadd 110 em_295 rfl (ce_at ce_295 73 rfl) ?_
    refine e_mv 111 em_295 (ce_at ce_295 74 rfl) rfl rfl ?_
    refine e_goto em_295 97 (ce_at ce_295 75 rfl) rfl ?_
    refine e_pk [0, 1, 2, 3] rfl rfl ?_
    exact e_out (fun r h => h)
theorem fm_system_97b (v1 : Int) (v2 : Int) (v3 : Int) (s : iS) : Fm (fun r : (Int × iS) ⊕ (Int × iS) => r.elim (fun l => l.2) (fun e => e.2)) L_m_system G_m_system s (m_system_97b v1 v2 v3 s) := fm_gd (fm_gd (fm_if (fm_some md_refl) (fm_some md_refl)))
def m_system_6C (H : iS → List am_C) (w : ev_W) (d : Nat) : (Int × Int × Int × iS) ⊕ (Int × iS) → am_E → Prop := fun q r => q.elim (fun l => ev w d 295 6 ((fun l => [(0, .ref (tb_nK + 121)), (1, iv (l.1)), (2, iv (l.2.1)), (3, iv (l.2.2.1))]) l) [] (H ((fun l => l.2.2.2) l)) r) (fun e => (fun e r => ev w d 295 121 [(0, .ref (tb_nK + 121)), (2, iv (e.1))] [] (H (e.2)) r) e r)
noncomputable def m_system_97 (v1 : Int) (v2 : Int) (v3 : Int) (s : iS) : Option ((Int × Int × Int × iS) ⊕ (Int × iS)) := (lp (L := Int × iS) (E := Int × iS) (fun l => m_system_97b v1 v2 (l.1) (l.2)) (v3, s)).bind (fun e => some (.inl (v1, v2, (e.1 + 1), e.2)))
theorem tm_system_97 (H : iS → List am_C) (w : ev_W) (d : Nat) (hd : 0 ≤ d) (hc_121 : Ho H 121 13 [some 122, none, some 123, none, none, some 124, some 125, some 126, some 127, none, none, none, none, some 128, none, some 129, none, none, some 130, some 131, some 132, some 133, some 134, some 135, some 136, none, some 137, some 138, some 139, some 140, some 141, some 142, some 143, none, some 144, some 145, some 146, some 147, some 148, none, some 149, some 150, some 151, some 152, some 153, some 154, some 155, some 156, none, none, none, none, some 157, some 158, some 159, none, some 160, some 161, some 162, some 163, none, none, none, some 164, some 165, some 166, some 167, some 168, some 169, none, none, none, none, some 170, none, some 171, none, some 172, some 173, some 174, some 175, none, some 176, some 177, some 178, some 179, some 180, none, none, none, some 181, some 182, some 183, some 184, some 185, none, none, none, none, none, none, some 186, none, none, none, some 187, none, none, none, some 188, none, some 189, none, some 190, some 191, some 192, some 193, some 194, none, none, none, none, none, some 195, some 196, none, some 197, some 198, some 199, some 200, some 201, none, some 202, some 203, none, some 204, some 205, some 206, some 207, some 208, some 209, some 210, some 211, some 212, none, some 213, some 214, some 215, none, none, none, some 216, none, some 217, some 218, some 219, some 220, some 221, none, some 222, some 223, none, some 224, some 225, some 226, some 227, none, some 228, some 229, some 230, none, some 231, some 232, none, none, some 233]) (hc_164 : Ha H 164 0 9) (hc_165 : Ha H 165 0 8) (hc_166 : Ha H 166 0 60) (hc_167 : Ha H 167 4 60) (hc_168 : Ha H 168 0 60) (v1 : Int) (v2 : Int) (v3 : Int) (s : iS) : Ew H w d 295 97 [(0, .ref (tb_nK + 121)), (1, iv v1), (2, iv v2), (3, iv v3)] [] s (m_system_6C H w d) (m_system_97 v1 v2 v3 s) := by
  unfold m_system_97
  refine e_lp (L := Int × iS) (E := Int × iS) (LO := fun l => [(0, .ref (tb_nK + 121)), (1, iv v1), (2, iv v2), (3, iv (l.1))]) (LS := fun l => l.2) (CE := fun e r => ev w d 295 114 [(0, .ref (tb_nK + 121)), (1, iv v1), (2, iv v2), (3, iv (e.1))] [] (H (e.2)) r) (fun l => tm_system_97b H w d hd hc_121 hc_164 hc_165 hc_166 hc_167 hc_168 _ _ _ _) ?_ (v3, s)
  intro e
  show Ew H w d 295 114 [(0, .ref (tb_nK + 121)), (1, iv v1), (2, iv v2), (3, iv (e.1))] [] e.2 (m_system_6C H w d) _
  refine e_mv 115 em_295 (ce_at ce_295 76 rfl) rfl rfl ?_
  refine e_op 116 em_295 (ce_at ce_295 77 rfl) rfl rfl ?_
  refine e_iadd 117 em_295 rfl (ce_at ce_295 78 rfl) ?_
  refine e_mv 118 em_295 (ce_at ce_295 79 rfl) rfl rfl ?_
  refine e_goto em_295 6 (ce_at ce_295 80 rfl) rfl ?_
  refine e_pk [0, 1, 2, 3] rfl rfl ?_
  exact e_out (fun r h => h)
theorem fm_system_97 (v1 : Int) (v2 : Int) (v3 : Int) (s : iS) : Fm (fun r : (Int × Int × Int × iS) ⊕ (Int × iS) => r.elim (fun l => l.2.2.2) (fun e => e.2)) L_m_system G_m_system s (m_system_97 v1 v2 v3 s) := by
  unfold m_system_97
  refine fm_lp (A := Int × iS) (E := Int × iS) (LS := fun l => l.2) (LE := fun e => e.2) ?_ ?_ (v3, s)
  · exact fun l => fm_system_97b _ _ _ _
  · exact (fun e => fm_some md_refl)
noncomputable def m_system_67 (v1 : Int) (v2 : Int) (v3 : Int) (t0 : Int) (t1 : Int) (s : iS) : Option ((Int × Int × Int × iS) ⊕ (Int × iS)) := gd (0 ≤ t1 ∧ t1 < 60) (gd (t0 = 0 ∨ t0 = 1) (lt' (up s 167 t1.toNat t0) (fun s3 => gd (0 ≤ (v3 + 1) ∧ (v3 + 1) < 465) (gd (0 ≤ v2 ∧ v2 < 60) (lt' (up s3 168 v2.toNat ((ka_5 ((v3 + 1).toNat)).toInt - 48)) (fun s6 => lt' (up s6 166 v2.toNat (v3 + 2)) (fun s7 => m_system_97 v1 (v2 + 1) v3 s7)))))))
theorem tm_system_67 (H : iS → List am_C) (w : ev_W) (d : Nat) (hd : 0 ≤ d) (hc_121 : Ho H 121 13 [some 122, none, some 123, none, none, some 124, some 125, some 126, some 127, none, none, none, none, some 128, none, some 129, none, none, some 130, some 131, some 132, some 133, some 134, some 135, some 136, none, some 137, some 138, some 139, some 140, some 141, some 142, some 143, none, some 144, some 145, some 146, some 147, some 148, none, some 149, some 150, some 151, some 152, some 153, some 154, some 155, some 156, none, none, none, none, some 157, some 158, some 159, none, some 160, some 161, some 162, some 163, none, none, none, some 164, some 165, some 166, some 167, some 168, some 169, none, none, none, none, some 170, none, some 171, none, some 172, some 173, some 174, some 175, none, some 176, some 177, some 178, some 179, some 180, none, none, none, some 181, some 182, some 183, some 184, some 185, none, none, none, none, none, none, some 186, none, none, none, some 187, none, none, none, some 188, none, some 189, none, some 190, some 191, some 192, some 193, some 194, none, none, none, none, none, some 195, some 196, none, some 197, some 198, some 199, some 200, some 201, none, some 202, some 203, none, some 204, some 205, some 206, some 207, some 208, some 209, some 210, some 211, some 212, none, some 213, some 214, some 215, none, none, none, some 216, none, some 217, some 218, some 219, some 220, some 221, none, some 222, some 223, none, some 224, some 225, some 226, some 227, none, some 228, some 229, some 230, none, some 231, some 232, none, none, some 233]) (hc_164 : Ha H 164 0 9) (hc_165 : Ha H 165 0 8) (hc_166 : Ha H 166 0 60) (hc_167 : Ha H 167 4 60) (hc_168 : Ha H 168 0 60) (v1 : Int) (v2 : Int) (v3 : Int) (t0 : Int) (t1 : Int) (s : iS) : Ew H w d 295 67 [(0, .ref (tb_nK + 121)), (1, iv v1), (2, iv v2), (3, iv v3)] [iv t0, iv t1, .ref (tb_nK + 167)] s (m_system_6C H w d) (m_system_67 v1 v2 v3 t0 t1 s) := by
  unfold m_system_67
  refine e_gd fun g1 => ?_
  refine e_gd fun g2 => ?_
  refine e_zst 68 em_295 (ce_at ce_295 43 rfl) hc_167 (by decide) g1 g2 rfl (fun s3 => ?_)
  refine e_mv 69 em_295 (ce_at ce_295 44 rfl) rfl rfl ?_
  refine e_getr 72 em_295 (ce_at ce_295 45 rfl) hc_121 rfl rfl ?_
  refine e_mv 73 em_295 (ce_at ce_295 46 rfl) rfl rfl ?_
  refine e_gst 76 em_295 (ce_at ce_295 47 rfl) rfl rfl ?_
  refine e_mv 77 em_295 (ce_at ce_295 48 rfl) rfl rfl ?_
  refine e_op 78 em_295 (ce_at ce_295 49 rfl) rfl rfl ?_
  refine e_iadd 79 em_295 rfl (ce_at ce_295 50 rfl) ?_
  refine e_gd fun g4 => ?_
  refine e_cldk 80 em_295 (ce_at ce_295 51 rfl) (by decide) (kt_5 _ _) (by decide) g4 rfl ?_
  refine e_bip 82 em_295 (ce_at ce_295 52 rfl) (by decide) rfl ?_
  refine e_isub 83 em_295 rfl (ce_at ce_295 53 rfl) ?_
  refine e_gd fun g5 => ?_
  refine e_ist 84 em_295 (ce_at ce_295 54 rfl) hc_168 (by decide) g5 rfl (fun s6 => ?_)
  refine e_mv 85 em_295 (ce_at ce_295 55 rfl) rfl rfl ?_
  refine e_getr 88 em_295 (ce_at ce_295 56 rfl) hc_121 rfl rfl ?_
  refine e_mv 89 em_295 (ce_at ce_295 57 rfl) rfl rfl ?_
  refine e_mv 90 em_295 (ce_at ce_295 58 rfl) rfl rfl ?_
  refine e_op 91 em_295 (ce_at ce_295 59 rfl) rfl rfl ?_
  refine e_iadd 92 em_295 rfl (ce_at ce_295 60 rfl) ?_
  refine e_ist 93 em_295 (ce_at ce_295 61 rfl) hc_166 (by decide) g5 rfl (fun s7 => ?_)
  refine e_mv 94 em_295 (ce_at ce_295 62 rfl) rfl rfl ?_
  refine e_op 95 em_295 (ce_at ce_295 63 rfl) rfl rfl ?_
  refine e_iadd 96 em_295 rfl (ce_at ce_295 64 rfl) ?_
  refine e_mv 97 em_295 (ce_at ce_295 65 rfl) rfl rfl ?_
  refine e_pk [0, 1, 2, 3] rfl rfl ?_
  exact tm_system_97 H w d hd hc_121 hc_164 hc_165 hc_166 hc_167 hc_168 _ _ _ _
theorem fm_system_67 (v1 : Int) (v2 : Int) (v3 : Int) (t0 : Int) (t1 : Int) (s : iS) : Fm (fun r : (Int × Int × Int × iS) ⊕ (Int × iS) => r.elim (fun l => l.2.2.2) (fun e => e.2)) L_m_system G_m_system s (m_system_67 v1 v2 v3 t0 t1 s) := fm_gd (fm_gd (fm_lt (md_upL (mem_L rfl)) (fun s3 => fm_gd (fm_gd (fm_lt (md_upL (mem_L rfl)) (fun s6 => fm_lt (md_upL (mem_L rfl)) (fun s7 => fm_system_97 _ _ _ _)))))))
noncomputable def m_system_6b (v1 : Int) (v2 : Int) (v3 : Int) (s : iS) : Option ((Int × Int × Int × iS) ⊕ (Int × iS)) := gd (rg v3) (if 465 ≤ v3 then some (.inr (v2, s)) else gd (0 ≤ v3 ∧ v3 < 465) (gd (rg ((ka_5 v3.toNat).toInt)) (if (ka_5 v3.toNat).toInt = 33 then gd (0 ≤ v1 ∧ v1 < 8) (lt' (up s 165 v1.toNat (v3 + 1)) (fun s8 => gd (0 ≤ v1 ∧ v1 < 9) (lt' (up s8 164 v1.toNat v2) (fun s10 => m_system_97 (v1 + 1) v2 v3 s10)))) else if (ka_5 v3.toNat).toInt = 35 then m_system_67 v1 v2 v3 1 v2 s else m_system_67 v1 v2 v3 0 v2 s)))
theorem tm_system_6b (H : iS → List am_C) (w : ev_W) (d : Nat) (hd : 0 ≤ d) (hc_121 : Ho H 121 13 [some 122, none, some 123, none, none, some 124, some 125, some 126, some 127, none, none, none, none, some 128, none, some 129, none, none, some 130, some 131, some 132, some 133, some 134, some 135, some 136, none, some 137, some 138, some 139, some 140, some 141, some 142, some 143, none, some 144, some 145, some 146, some 147, some 148, none, some 149, some 150, some 151, some 152, some 153, some 154, some 155, some 156, none, none, none, none, some 157, some 158, some 159, none, some 160, some 161, some 162, some 163, none, none, none, some 164, some 165, some 166, some 167, some 168, some 169, none, none, none, none, some 170, none, some 171, none, some 172, some 173, some 174, some 175, none, some 176, some 177, some 178, some 179, some 180, none, none, none, some 181, some 182, some 183, some 184, some 185, none, none, none, none, none, none, some 186, none, none, none, some 187, none, none, none, some 188, none, some 189, none, some 190, some 191, some 192, some 193, some 194, none, none, none, none, none, some 195, some 196, none, some 197, some 198, some 199, some 200, some 201, none, some 202, some 203, none, some 204, some 205, some 206, some 207, some 208, some 209, some 210, some 211, some 212, none, some 213, some 214, some 215, none, none, none, some 216, none, some 217, some 218, some 219, some 220, some 221, none, some 222, some 223, none, some 224, some 225, some 226, some 227, none, some 228, some 229, some 230, none, some 231, some 232, none, none, some 233]) (hc_164 : Ha H 164 0 9) (hc_165 : Ha H 165 0 8) (hc_166 : Ha H 166 0 60) (hc_167 : Ha H 167 4 60) (hc_168 : Ha H 168 0 60) (v1 : Int) (v2 : Int) (v3 : Int) (s : iS) : Ew H w d 295 6 [(0, .ref (tb_nK + 121)), (1, iv v1), (2, iv v2), (3, iv v3)] [] s (m_system_6C H w d) (m_system_6b v1 v2 v3 s) := by
  unfold m_system_6b
  refine e_mv 7 em_295 (ce_at ce_295 6 rfl) rfl rfl ?_
  refine e_gst 10 em_295 (ce_at ce_295 7 rfl) rfl rfl ?_
  refine e_alenk 11 em_295 (ce_at ce_295 8 rfl) (by decide) (kt_5 _ _) (by decide) rfl rfl ?_
  refine e_gd fun g1 => ?_
  refine e_cmge 121 14 em_295 rfl rfl (ce_at ce_295 9 rfl) g1 (by decide) (fun h2 => ?_) (fun h2 => ?_)
  · refine e_pk [0, 2] rfl rfl ?_
    exact e_out (fun r h => h)
  · refine e_gst 17 em_295 (ce_at ce_295 10 rfl) rfl rfl ?_
    refine e_mv 18 em_295 (ce_at ce_295 11 rfl) rfl rfl ?_
    refine e_gd fun g3 => ?_
    refine e_cldk 19 em_295 (ce_at ce_295 12 rfl) (by decide) (kt_5 _ _) (by decide) g3 rfl ?_
    refine e_bip 21 em_295 (ce_at ce_295 13 rfl) (by decide) rfl ?_
    refine e_gd fun g4 => ?_
    refine e_cmne 47 24 em_295 rfl rfl (ce_at ce_295 14 rfl) g4 (by decide) (fun h5 => ?_) (fun h5 => ?_)
    · refine e_mv 48 em_295 (ce_at ce_295 32 rfl) rfl rfl ?_
      refine e_getr 51 em_295 (ce_at ce_295 33 rfl) hc_121 rfl rfl ?_
      refine e_mv 52 em_295 (ce_at ce_295 34 rfl) rfl rfl ?_
      refine e_gst 55 em_295 (ce_at ce_295 35 rfl) rfl rfl ?_
      refine e_mv 56 em_295 (ce_at ce_295 36 rfl) rfl rfl ?_
      refine e_cldk 57 em_295 (ce_at ce_295 37 rfl) (by decide) (kt_5 _ _) (by decide) g3 rfl ?_
      refine e_bip 59 em_295 (ce_at ce_295 38 rfl) (by decide) rfl ?_
      refine e_cmne 66 62 em_295 rfl rfl (ce_at ce_295 39 rfl) g4 (by decide) (fun h6 => ?_) (fun h6 => ?_)
      · refine e_op 67 em_295 (ce_at ce_295 42 rfl) rfl rfl ?_
        refine e_pk [0, 1, 2, 3] rfl rfl ?_
        exact tm_system_67 H w d hd hc_121 hc_164 hc_165 hc_166 hc_167 hc_168 _ _ _ _ _ _
      · refine e_op 63 em_295 (ce_at ce_295 40 rfl) rfl rfl ?_
        refine e_goto em_295 67 (ce_at ce_295 41 rfl) rfl ?_
        refine e_pk [0, 1, 2, 3] rfl rfl ?_
        exact tm_system_67 H w d hd hc_121 hc_164 hc_165 hc_166 hc_167 hc_168 _ _ _ _ _ _
    · refine e_mv 25 em_295 (ce_at ce_295 15 rfl) rfl rfl ?_
      refine e_getr 28 em_295 (ce_at ce_295 16 rfl) hc_121 rfl rfl ?_
      refine e_mv 29 em_295 (ce_at ce_295 17 rfl) rfl rfl ?_
      refine e_mv 30 em_295 (ce_at ce_295 18 rfl) rfl rfl ?_
      refine e_op 31 em_295 (ce_at ce_295 19 rfl) rfl rfl ?_
      refine e_iadd 32 em_295 rfl (ce_at ce_295 20 rfl) ?_
      refine e_gd fun g7 => ?_
      refine e_ist 33 em_295 (ce_at ce_295 21 rfl) hc_165 (by decide) g7 rfl (fun s8 => ?_)
      refine e_mv 34 em_295 (ce_at ce_295 22 rfl) rfl rfl ?_
      refine e_getr 37 em_295 (ce_at ce_295 23 rfl) hc_121 rfl rfl ?_
      refine e_mv 38 em_295 (ce_at ce_295 24 rfl) rfl rfl ?_
      refine e_mv 39 em_295 (ce_at ce_295 25 rfl) rfl rfl ?_
      refine e_gd fun g9 => ?_
      refine e_ist 40 em_295 (ce_at ce_295 26 rfl) hc_164 (by decide) g9 rfl (fun s10 => ?_)
      refine e_mv 41 em_295 (ce_at ce_295 27 rfl) rfl rfl ?_
      refine e_op 42 em_295 (ce_at ce_295 28 rfl) rfl rfl ?_
      refine e_iadd 43 em_295 rfl (ce_at ce_295 29 rfl) ?_
      refine e_mv 44 em_295 (ce_at ce_295 30 rfl) rfl rfl ?_
      refine e_goto em_295 97 (ce_at ce_295 31 rfl) rfl ?_
      refine e_pk [0, 1, 2, 3] rfl rfl ?_
      exact tm_system_97 H w d hd hc_121 hc_164 hc_165 hc_166 hc_167 hc_168 _ _ _ _
theorem fm_system_6b (v1 : Int) (v2 : Int) (v3 : Int) (s : iS) : Fm (fun r : (Int × Int × Int × iS) ⊕ (Int × iS) => r.elim (fun l => l.2.2.2) (fun e => e.2)) L_m_system G_m_system s (m_system_6b v1 v2 v3 s) := fm_gd (fm_if (fm_some md_refl) (fm_gd (fm_gd (fm_if (fm_gd (fm_lt (md_upL (mem_L rfl)) (fun s8 => fm_gd (fm_lt (md_upL (mem_L rfl)) (fun s10 => fm_system_97 _ _ _ _))))) (fm_if (fm_system_67 _ _ _ _ _ _) (fm_system_67 _ _ _ _ _ _))))))
noncomputable def m_system_121 (v2 : Int) (s : iS) : Option (Int × iS) := lt' (up s 164 8 v2) (fun s1 => some (0, s1))
theorem tm_system_121 (H : iS → List am_C) (w : ev_W) (d : Nat) (hd : 0 ≤ d) (hc_121 : Ho H 121 13 [some 122, none, some 123, none, none, some 124, some 125, some 126, some 127, none, none, none, none, some 128, none, some 129, none, none, some 130, some 131, some 132, some 133, some 134, some 135, some 136, none, some 137, some 138, some 139, some 140, some 141, some 142, some 143, none, some 144, some 145, some 146, some 147, some 148, none, some 149, some 150, some 151, some 152, some 153, some 154, some 155, some 156, none, none, none, none, some 157, some 158, some 159, none, some 160, some 161, some 162, some 163, none, none, none, some 164, some 165, some 166, some 167, some 168, some 169, none, none, none, none, some 170, none, some 171, none, some 172, some 173, some 174, some 175, none, some 176, some 177, some 178, some 179, some 180, none, none, none, some 181, some 182, some 183, some 184, some 185, none, none, none, none, none, none, some 186, none, none, none, some 187, none, none, none, some 188, none, some 189, none, some 190, some 191, some 192, some 193, some 194, none, none, none, none, none, some 195, some 196, none, some 197, some 198, some 199, some 200, some 201, none, some 202, some 203, none, some 204, some 205, some 206, some 207, some 208, some 209, some 210, some 211, some 212, none, some 213, some 214, some 215, none, none, none, some 216, none, some 217, some 218, some 219, some 220, some 221, none, some 222, some 223, none, some 224, some 225, some 226, some 227, none, some 228, some 229, some 230, none, some 231, some 232, none, none, some 233]) (hc_164 : Ha H 164 0 9) (hc_165 : Ha H 165 0 8) (hc_166 : Ha H 166 0 60) (hc_167 : Ha H 167 4 60) (hc_168 : Ha H 168 0 60) (v2 : Int) (s : iS) : Ew H w d 295 121 [(0, .ref (tb_nK + 121)), (2, iv v2)] [] s (Cv H) (m_system_121 v2 s) := by
  unfold m_system_121
  refine e_mv 122 em_295 (ce_at ce_295 81 rfl) rfl rfl ?_
  refine e_getr 125 em_295 (ce_at ce_295 82 rfl) hc_121 rfl rfl ?_
  refine e_bip 127 em_295 (ce_at ce_295 83 rfl) (by decide) rfl ?_
  refine e_mv 128 em_295 (ce_at ce_295 84 rfl) rfl rfl ?_
  refine e_ist 129 em_295 (ce_at ce_295 85 rfl) hc_164 (by decide) (by decide) rfl (fun s1 => ?_)
  exact e_retv em_295 (ce_at ce_295 86 rfl)
theorem fm_system_121 (v2 : Int) (s : iS) : Fm Prod.snd L_m_system G_m_system s (m_system_121 v2 s) := fm_lt (md_upL (mem_L rfl)) (fun s1 => fm_some md_refl)
noncomputable def m_system_6 (v1 : Int) (v2 : Int) (v3 : Int) (s : iS) : Option (Int × iS) := (lp (L := Int × Int × Int × iS) (E := Int × iS) (fun l => m_system_6b (l.1) (l.2.1) (l.2.2.1) (l.2.2.2)) (v1, v2, v3, s)).bind (fun e => m_system_121 (e.1) (e.2))
theorem tm_system_6 (H : iS → List am_C) (w : ev_W) (d : Nat) (hd : 0 ≤ d) (hc_121 : Ho H 121 13 [some 122, none, some 123, none, none, some 124, some 125, some 126, some 127, none, none, none, none, some 128, none, some 129, none, none, some 130, some 131, some 132, some 133, some 134, some 135, some 136, none, some 137, some 138, some 139, some 140, some 141, some 142, some 143, none, some 144, some 145, some 146, some 147, some 148, none, some 149, some 150, some 151, some 152, some 153, some 154, some 155, some 156, none, none, none, none, some 157, some 158, some 159, none, some 160, some 161, some 162, some 163, none, none, none, some 164, some 165, some 166, some 167, some 168, some 169, none, none, none, none, some 170, none, some 171, none, some 172, some 173, some 174, some 175, none, some 176, some 177, some 178, some 179, some 180, none, none, none, some 181, some 182, some 183, some 184, some 185, none, none, none, none, none, none, some 186, none, none, none, some 187, none, none, none, some 188, none, some 189, none, some 190, some 191, some 192, some 193, some 194, none, none, none, none, none, some 195, some 196, none, some 197, some 198, some 199, some 200, some 201, none, some 202, some 203, none, some 204, some 205, some 206, some 207, some 208, some 209, some 210, some 211, some 212, none, some 213, some 214, some 215, none, none, none, some 216, none, some 217, some 218, some 219, some 220, some 221, none, some 222, some 223, none, some 224, some 225, some 226, some 227, none, some 228, some 229, some 230, none, some 231, some 232, none, none, some 233]) (hc_164 : Ha H 164 0 9) (hc_165 : Ha H 165 0 8) (hc_166 : Ha H 166 0 60) (hc_167 : Ha H 167 4 60) (hc_168 : Ha H 168 0 60) (v1 : Int) (v2 : Int) (v3 : Int) (s : iS) : Ew H w d 295 6 [(0, .ref (tb_nK + 121)), (1, iv v1), (2, iv v2), (3, iv v3)] [] s (Cv H) (m_system_6 v1 v2 v3 s) := by
  unfold m_system_6
  refine e_lp (L := Int × Int × Int × iS) (E := Int × iS) (LO := fun l => [(0, .ref (tb_nK + 121)), (1, iv (l.1)), (2, iv (l.2.1)), (3, iv (l.2.2.1))]) (LS := fun l => l.2.2.2) (CE := fun e r => ev w d 295 121 [(0, .ref (tb_nK + 121)), (2, iv (e.1))] [] (H (e.2)) r) (fun l => tm_system_6b H w d hd hc_121 hc_164 hc_165 hc_166 hc_167 hc_168 _ _ _ _) ?_ (v1, v2, v3, s)
  intro e
  show Ew H w d 295 121 [(0, .ref (tb_nK + 121)), (2, iv (e.1))] [] e.2 (Cv H) _
  refine e_pk [0, 2] rfl rfl ?_
  exact tm_system_121 H w d hd hc_121 hc_164 hc_165 hc_166 hc_167 hc_168 _ _
theorem fm_system_6 (v1 : Int) (v2 : Int) (v3 : Int) (s : iS) : Fm Prod.snd L_m_system G_m_system s (m_system_6 v1 v2 v3 s) := by
  unfold m_system_6
  refine fm_lp (A := Int × Int × Int × iS) (E := Int × iS) (LS := fun l => l.2.2.2) (LE := fun e => e.2) ?_ ?_ (v1, v2, v3, s)
  · exact fun l => fm_system_6b _ _ _ _
  · exact (fun e => fm_system_121 _ _)
noncomputable def m_system (s : iS) : Option (Int × iS) := m_system_6 0 0 0 s
theorem tm_system (H : iS → List am_C) (w : ev_W) (d : Nat) (hd : 0 ≤ d) (hc_121 : Ho H 121 13 [some 122, none, some 123, none, none, some 124, some 125, some 126, some 127, none, none, none, none, some 128, none, some 129, none, none, some 130, some 131, some 132, some 133, some 134, some 135, some 136, none, some 137, some 138, some 139, some 140, some 141, some 142, some 143, none, some 144, some 145, some 146, some 147, some 148, none, some 149, some 150, some 151, some 152, some 153, some 154, some 155, some 156, none, none, none, none, some 157, some 158, some 159, none, some 160, some 161, some 162, some 163, none, none, none, some 164, some 165, some 166, some 167, some 168, some 169, none, none, none, none, some 170, none, some 171, none, some 172, some 173, some 174, some 175, none, some 176, some 177, some 178, some 179, some 180, none, none, none, some 181, some 182, some 183, some 184, some 185, none, none, none, none, none, none, some 186, none, none, none, some 187, none, none, none, some 188, none, some 189, none, some 190, some 191, some 192, some 193, some 194, none, none, none, none, none, some 195, some 196, none, some 197, some 198, some 199, some 200, some 201, none, some 202, some 203, none, some 204, some 205, some 206, some 207, some 208, some 209, some 210, some 211, some 212, none, some 213, some 214, some 215, none, none, none, some 216, none, some 217, some 218, some 219, some 220, some 221, none, some 222, some 223, none, some 224, some 225, some 226, some 227, none, some 228, some 229, some 230, none, some 231, some 232, none, none, some 233]) (hc_164 : Ha H 164 0 9) (hc_165 : Ha H 165 0 8) (hc_166 : Ha H 166 0 60) (hc_167 : Ha H 167 4 60) (hc_168 : Ha H 168 0 60) (s : iS) : Ew H w d 295 0 [(0, .ref (tb_nK + 121))] [] s (Cv H) (m_system s) := by
  unfold m_system
  refine e_op 1 em_295 (ce_at ce_295 0 rfl) rfl rfl ?_
  refine e_mv 2 em_295 (ce_at ce_295 1 rfl) rfl rfl ?_
  refine e_op 3 em_295 (ce_at ce_295 2 rfl) rfl rfl ?_
  refine e_mv 4 em_295 (ce_at ce_295 3 rfl) rfl rfl ?_
  refine e_op 5 em_295 (ce_at ce_295 4 rfl) rfl rfl ?_
  refine e_mv 6 em_295 (ce_at ce_295 5 rfl) rfl rfl ?_
  refine e_pk [0, 1, 2, 3] rfl rfl ?_
  exact tm_system_6 H w d hd hc_121 hc_164 hc_165 hc_166 hc_167 hc_168 _ _ _ _
theorem fm_system (s : iS) : Fm Prod.snd L_m_system G_m_system s (m_system s) := fm_system_6 _ _ _ _
/-! law -/
def L_law : List Nat := [1, 9, 10, 11, 12, 13, 15, 16, 17, 18, 19, 20, 21, 25, 26, 28, 29, 30, 31, 32, 34, 35, 36, 37, 38, 39, 40, 45, 46, 47, 49, 50, 52, 53, 54, 66, 67, 68, 69, 70, 73, 74, 75, 76, 77, 78, 80, 81, 82, 83, 84, 85, 86, 88, 89, 91, 92, 93, 94, 95, 96, 97, 98, 100, 101, 102, 103, 104, 105, 106, 107, 109, 110, 111, 112, 113, 114, 115, 116, 117, 118, 119, 120, 122, 123, 124, 125, 126, 127, 128, 129, 130, 131, 132, 133, 134, 135, 136, 137, 138, 139, 140, 141, 142, 143, 144, 145, 146, 147, 148, 149, 150, 151, 152, 153, 154, 155, 156, 157, 158, 159, 160, 161, 162, 163, 169, 170, 171, 172, 173, 174, 175, 176, 177, 178, 179, 180, 181, 182, 183, 184, 185, 186, 187, 188, 189, 190, 191, 192, 193, 194, 195, 196, 197, 198, 199, 200, 201, 202, 203, 204, 205, 206, 207, 208, 209, 210, 211, 212, 213, 214, 215, 216, 217, 218, 219, 220, 221, 222, 223, 224, 225, 226, 227, 228, 229, 230, 231, 232, 233]
def G_law : List (Nat × Nat) := [(0, 1), (0, 2), (0, 3), (2, 8), (2, 9), (2, 10), (2, 11), (2, 12), (2, 13), (2, 14), (14, 7), (14, 8), (14, 9), (14, 10), (14, 11), (14, 12), (22, 4), (22, 5), (22, 6), (22, 7), (23, 11), (23, 12), (23, 13), (23, 14), (23, 15), (24, 2), (27, 2), (33, 2), (44, 3), (44, 4), (44, 5), (44, 6), (48, 3), (48, 4), (48, 5), (48, 6), (48, 7), (48, 8), (48, 9), (51, 6), (51, 7), (51, 8), (51, 9), (51, 10), (51, 11), (51, 12), (51, 13), (51, 14), (51, 15), (51, 16), (51, 17), (51, 18), (55, 8), (55, 9), (55, 10), (55, 11), (55, 12), (55, 13), (55, 14), (55, 15), (65, 2), (71, 13), (71, 14), (72, 2), (79, 2), (87, 2), (99, 2), (108, 14), (108, 15), (108, 16), (108, 17), (108, 18), (121, 1), (121, 3), (121, 4), (121, 9), (121, 10), (121, 11), (121, 12), (121, 14), (121, 16), (121, 17), (121, 25), (121, 33), (121, 39), (121, 48), (121, 49), (121, 50), (121, 51), (121, 55), (121, 60), (121, 61), (121, 62), (121, 69), (121, 70), (121, 71), (121, 72), (121, 74), (121, 76), (121, 81), (121, 87), (121, 88), (121, 89), (121, 95), (121, 96), (121, 97), (121, 98), (121, 99), (121, 100), (121, 102), (121, 103), (121, 104), (121, 106), (121, 107), (121, 108), (121, 110), (121, 112), (121, 118), (121, 119), (121, 120), (121, 121), (121, 122), (121, 125), (121, 131), (121, 134), (121, 144), (121, 148), (121, 149), (121, 150), (121, 152), (121, 158), (121, 161), (121, 166), (121, 170), (121, 173), (121, 174)]
def law_18C (w : ev_W) (d : Nat) (rr0 : Nat) (nn0 : Nat) (gg0 : Nat → Int32) : (Int × iS) ⊕ ((iS) ⊕ ((iS) ⊕ ((iS) ⊕ ((iS) ⊕ ((iS) ⊕ ((iS) ⊕ ((iS) ⊕ ((iS) ⊕ ((iS) ⊕ ((iS) ⊕ ((iS) ⊕ ((iS) ⊕ ((iS) ⊕ ((iS) ⊕ ((iS) ⊕ ((iS) ⊕ ((iS) ⊕ ((iS) ⊕ ((iS) ⊕ ((iS) ⊕ ((iS) ⊕ ((iS) ⊕ (iS))))))))))))))))))))))) → am_E → Prop := fun q r => q.elim (fun l => ev w d 484 18 ((fun l => [(0, .ref rr0), (1, .ref (tb_nK + 0)), (2, .ref (tb_nK + 121)), (3, iv (l.1))]) l) [] (hT ((fun l => l.2) l)) r) (fun e => (fun e r => e.elim (fun e => ev w d 484 197 [] [] (hT (e)) r) (fun e => e.elim (fun e => ev w d 484 220 [] [] (hT (e)) r) (fun e => e.elim (fun e => ev w d 484 243 [] [] (hT (e)) r) (fun e => e.elim (fun e => ev w d 484 266 [] [] (hT (e)) r) (fun e => e.elim (fun e => ev w d 484 279 [] [] (hT (e)) r) (fun e => e.elim (fun e => ev w d 484 292 [] [] (hT (e)) r) (fun e => e.elim (fun e => ev w d 484 306 [] [] (hT (e)) r) (fun e => e.elim (fun e => ev w d 484 330 [] [] (hT (e)) r) (fun e => e.elim (fun e => ev w d 484 353 [] [] (hT (e)) r) (fun e => e.elim (fun e => ev w d 484 376 [] [] (hT (e)) r) (fun e => e.elim (fun e => ev w d 484 409 [] [] (hT (e)) r) (fun e => e.elim (fun e => ev w d 484 432 [] [] (hT (e)) r) (fun e => e.elim (fun e => ev w d 484 455 [] [] (hT (e)) r) (fun e => e.elim (fun e => ev w d 484 478 [] [] (hT (e)) r) (fun e => e.elim (fun e => ev w d 484 511 [] [] (hT (e)) r) (fun e => e.elim (fun e => ev w d 484 534 [] [] (hT (e)) r) (fun e => e.elim (fun e => ev w d 484 557 [] [] (hT (e)) r) (fun e => e.elim (fun e => ev w d 484 580 [] [] (hT (e)) r) (fun e => e.elim (fun e => ev w d 484 613 [] [] (hT (e)) r) (fun e => e.elim (fun e => ev w d 484 636 [] [] (hT (e)) r) (fun e => e.elim (fun e => ev w d 484 649 [] [] (hT (e)) r) (fun e => e.elim (fun e => ev w d 484 672 [] [] (hT (e)) r) (fun e => ev w d 484 680 [] [] (hT (e)) r))))))))))))))))))))))) e r)
noncomputable def law_18b (nn0 : Nat) (gg0 : Nat → Int32) (v3 : Int) (s : iS) : Option ((Int × iS) ⊕ ((iS) ⊕ ((iS) ⊕ ((iS) ⊕ ((iS) ⊕ ((iS) ⊕ ((iS) ⊕ ((iS) ⊕ ((iS) ⊕ ((iS) ⊕ ((iS) ⊕ ((iS) ⊕ ((iS) ⊕ ((iS) ⊕ ((iS) ⊕ ((iS) ⊕ ((iS) ⊕ ((iS) ⊕ ((iS) ⊕ ((iS) ⊕ ((iS) ⊕ ((iS) ⊕ ((iS) ⊕ (iS)))))))))))))))))))))))) := gd (rg v3) (gd (rg ((nn0 : Int) - 6)) (if ((nn0 : Int) - 6) < v3 then some (.inr (.inr (.inr (.inr (.inr (.inr (.inr (.inr (.inr (.inr (.inr (.inr (.inr (.inr (.inr (.inr (.inr (.inr (.inr (.inr (.inr (.inr (.inr s))))))))))))))))))))))) else gd (0 ≤ v3 ∧ v3 < (nn0 : Int)) (gd (rg (i_and ((gg0 v3.toNat).toInt) 31)) (if (i_and ((gg0 v3.toNat).toInt) 31) = 0 then gd (0 ≤ (v3 + 1) ∧ (v3 + 1) < (nn0 : Int)) (gd (0 ≤ (v3 + 2) ∧ (v3 + 2) < (nn0 : Int)) (gd (0 ≤ (v3 + 3) ∧ (v3 + 3) < (nn0 : Int)) (gd (0 ≤ (v3 + 4) ∧ (v3 + 4) < (nn0 : Int)) (gd (0 ≤ (v3 + 5) ∧ (v3 + 5) < (nn0 : Int)) (bd (x_feed ((gg0 (v3 + 1).toNat).toInt) ((gg0 (v3 + 2).toNat).toInt) ((gg0 (v3 + 3).toNat).toInt) ((gg0 (v3 + 4).toNat).toInt) ((gg0 (v3 + 5).toNat).toInt) s) (fun r12 s12 => bd (m_feed ((gg0 (v3 + 1).toNat).toInt) ((gg0 (v3 + 2).toNat).toInt) ((gg0 (v3 + 3).toNat).toInt) ((gg0 (v3 + 4).toNat).toInt) ((gg0 (v3 + 5).toNat).toInt) s12) (fun r13 s13 => gd (rg r12) (gd (rg r13) (if r12 = r13 then some (.inl ((v3 + 6), s13)) else some (.inr (.inl s13))))))))))) else if (i_and ((gg0 v3.toNat).toInt) 31) = 1 then gd (0 ≤ (v3 + 1) ∧ (v3 + 1) < (nn0 : Int)) (bd (x_load ((gg0 (v3 + 1).toNat).toInt) s) (fun r19 s19 => bd (m_load ((gg0 (v3 + 1).toNat).toInt) s19) (fun r20 s20 => gd (rg r19) (gd (rg r20) (if r19 = r20 then some (.inl ((v3 + 6), s20)) else some (.inr (.inr (.inl s20)))))))) else if (i_and ((gg0 v3.toNat).toInt) 31) = 2 then gd (0 ≤ (v3 + 1) ∧ (v3 + 1) < (nn0 : Int)) (bd (x_keys ((gg0 (v3 + 1).toNat).toInt) s) (fun r26 s26 => bd (m_keys ((gg0 (v3 + 1).toNat).toInt) s26) (fun r27 s27 => gd (rg r26) (gd (rg r27) (if r26 = r27 then some (.inl ((v3 + 6), s27)) else some (.inr (.inr (.inr (.inl s27))))))))) else if (i_and ((gg0 v3.toNat).toInt) 31) = 3 then gd (0 ≤ (v3 + 1) ∧ (v3 + 1) < (nn0 : Int)) (bd (x_run ((gg0 (v3 + 1).toNat).toInt) s) (fun r33 s33 => bd (m_run ((gg0 (v3 + 1).toNat).toInt) s33) (fun r34 s34 => gd (rg r33) (gd (rg r34) (if r33 = r34 then some (.inl ((v3 + 6), s34)) else some (.inr (.inr (.inr (.inr (.inl s34)))))))))) else if (i_and ((gg0 v3.toNat).toInt) 31) = 4 then bd (x_place s) (fun r39 s39 => bd (m_place s39) (fun r40 s40 => gd (rg r39) (gd (rg r40) (if r39 = r40 then some (.inl ((v3 + 6), s40)) else some (.inr (.inr (.inr (.inr (.inr (.inl s40)))))))))) else if (i_and ((gg0 v3.toNat).toInt) 31) = 5 then bd (x_error s) (fun r45 s45 => bd (m_error s45) (fun r46 s46 => gd (rg r45) (gd (rg r46) (if r45 = r46 then some (.inl ((v3 + 6), s46)) else some (.inr (.inr (.inr (.inr (.inr (.inr (.inl s46))))))))))) else if (i_and ((gg0 v3.toNat).toInt) 31) = 6 then bd (x_fetch s) (fun r51 s51 => bd (m_fetch s51) (fun r52 s52 => gd (rg (l_cmp r51 r52)) (if (l_cmp r51 r52) = 0 then some (.inl ((v3 + 6), s52)) else some (.inr (.inr (.inr (.inr (.inr (.inr (.inr (.inl s52))))))))))) else if (i_and ((gg0 v3.toNat).toInt) 31) = 7 then gd (0 ≤ (v3 + 1) ∧ (v3 + 1) < (nn0 : Int)) (bd (x_row ((gg0 (v3 + 1).toNat).toInt) s) (fun r57 s57 => bd (m_row ((gg0 (v3 + 1).toNat).toInt) s57) (fun r58 s58 => gd (rg (l_cmp r57 r58)) (if (l_cmp r57 r58) = 0 then some (.inl ((v3 + 6), s58)) else some (.inr (.inr (.inr (.inr (.inr (.inr (.inr (.inr (.inl s58))))))))))))) else if (i_and ((gg0 v3.toNat).toInt) 31) = 8 then gd (0 ≤ (v3 + 1) ∧ (v3 + 1) < (nn0 : Int)) (bd (x_word ((gg0 (v3 + 1).toNat).toInt) s) (fun r63 s63 => bd (m_word ((gg0 (v3 + 1).toNat).toInt) s63) (fun r64 s64 => gd (rg r63) (gd (rg r64) (if r63 = r64 then some (.inl ((v3 + 6), s64)) else some (.inr (.inr (.inr (.inr (.inr (.inr (.inr (.inr (.inr (.inl s64))))))))))))))) else if (i_and ((gg0 v3.toNat).toInt) 31) = 9 then gd (0 ≤ (v3 + 1) ∧ (v3 + 1) < (nn0 : Int)) (bd (x_count ((gg0 (v3 + 1).toNat).toInt) s) (fun r70 s70 => bd (m_count ((gg0 (v3 + 1).toNat).toInt) s70) (fun r71 s71 => gd (rg r70) (gd (rg r71) (if r70 = r71 then some (.inl ((v3 + 6), s71)) else some (.inr (.inr (.inr (.inr (.inr (.inr (.inr (.inr (.inr (.inr (.inl s71)))))))))))))))) else if (i_and ((gg0 v3.toNat).toInt) 31) = 10 then gd (0 ≤ (v3 + 1) ∧ (v3 + 1) < (nn0 : Int)) (gd (0 ≤ (v3 + 2) ∧ (v3 + 2) < (nn0 : Int)) (bd (x_command ((gg0 (v3 + 1).toNat).toInt) ((gg0 (v3 + 2).toNat).toInt) s) (fun r78 s78 => bd (m_command_369 ((gg0 (v3 + 1).toNat).toInt) ((gg0 (v3 + 2).toNat).toInt) s78) (fun r79 s79 => gd (rg r78) (gd (rg r79) (if r78 = r79 then some (.inl ((v3 + 6), s79)) else some (.inr (.inr (.inr (.inr (.inr (.inr (.inr (.inr (.inr (.inr (.inr (.inl s79)))))))))))))))))) else if (i_and ((gg0 v3.toNat).toInt) 31) = 11 then gd (0 ≤ (v3 + 1) ∧ (v3 + 1) < (nn0 : Int)) (bd (x_signs ((gg0 (v3 + 1).toNat).toInt) s) (fun r85 s85 => bd (m_signs ((gg0 (v3 + 1).toNat).toInt) s85) (fun r86 s86 => gd (rg r85) (gd (rg r86) (if r85 = r86 then some (.inl ((v3 + 6), s86)) else some (.inr (.inr (.inr (.inr (.inr (.inr (.inr (.inr (.inr (.inr (.inr (.inr (.inl s86)))))))))))))))))) else if (i_and ((gg0 v3.toNat).toInt) 31) = 12 then gd (0 ≤ (v3 + 1) ∧ (v3 + 1) < (nn0 : Int)) (bd (x_code ((gg0 (v3 + 1).toNat).toInt) s) (fun r92 s92 => bd (m_code ((gg0 (v3 + 1).toNat).toInt) s92) (fun r93 s93 => gd (rg r92) (gd (rg r93) (if r92 = r93 then some (.inl ((v3 + 6), s93)) else some (.inr (.inr (.inr (.inr (.inr (.inr (.inr (.inr (.inr (.inr (.inr (.inr (.inr (.inl s93))))))))))))))))))) else if (i_and ((gg0 v3.toNat).toInt) 31) = 13 then gd (0 ≤ (v3 + 1) ∧ (v3 + 1) < (nn0 : Int)) (bd (x_go ((gg0 (v3 + 1).toNat).toInt) s) (fun r99 s99 => bd (m_go_436 ((gg0 (v3 + 1).toNat).toInt) s99) (fun r100 s100 => gd (rg r99) (gd (rg r100) (if r99 = r100 then some (.inl ((v3 + 6), s100)) else some (.inr (.inr (.inr (.inr (.inr (.inr (.inr (.inr (.inr (.inr (.inr (.inr (.inr (.inr (.inl s100)))))))))))))))))))) else if (i_and ((gg0 v3.toNat).toInt) 31) = 14 then gd (0 ≤ (v3 + 1) ∧ (v3 + 1) < (nn0 : Int)) (gd (0 ≤ (v3 + 2) ∧ (v3 + 2) < (nn0 : Int)) (bd (x_set ((gg0 (v3 + 1).toNat).toInt) ((gg0 (v3 + 2).toNat).toInt) s) (fun r107 s107 => bd (m_set ((gg0 (v3 + 1).toNat).toInt) ((gg0 (v3 + 2).toNat).toInt) s107) (fun r108 s108 => gd (rg r107) (gd (rg r108) (if r107 = r108 then some (.inl ((v3 + 6), s108)) else some (.inr (.inr (.inr (.inr (.inr (.inr (.inr (.inr (.inr (.inr (.inr (.inr (.inr (.inr (.inr (.inl s108)))))))))))))))))))))) else if (i_and ((gg0 v3.toNat).toInt) 31) = 15 then gd (0 ≤ (v3 + 1) ∧ (v3 + 1) < (nn0 : Int)) (bd (x_store ((gg0 (v3 + 1).toNat).toInt) s) (fun r114 s114 => bd (m_store ((gg0 (v3 + 1).toNat).toInt) s114) (fun r115 s115 => gd (rg r114) (gd (rg r115) (if r114 = r115 then some (.inl ((v3 + 6), s115)) else some (.inr (.inr (.inr (.inr (.inr (.inr (.inr (.inr (.inr (.inr (.inr (.inr (.inr (.inr (.inr (.inr (.inl s115)))))))))))))))))))))) else if (i_and ((gg0 v3.toNat).toInt) 31) = 16 then gd (0 ≤ (v3 + 1) ∧ (v3 + 1) < (nn0 : Int)) (bd (x_register ((gg0 (v3 + 1).toNat).toInt) s) (fun r121 s121 => bd (m_register ((gg0 (v3 + 1).toNat).toInt) s121) (fun r122 s122 => gd (rg r121) (gd (rg r122) (if r121 = r122 then some (.inl ((v3 + 6), s122)) else some (.inr (.inr (.inr (.inr (.inr (.inr (.inr (.inr (.inr (.inr (.inr (.inr (.inr (.inr (.inr (.inr (.inr (.inl s122))))))))))))))))))))))) else if (i_and ((gg0 v3.toNat).toInt) 31) = 17 then gd (0 ≤ (v3 + 1) ∧ (v3 + 1) < (nn0 : Int)) (bd (x_chips ((gg0 (v3 + 1).toNat).toInt) s) (fun r128 s128 => bd (m_chips ((gg0 (v3 + 1).toNat).toInt) s128) (fun r129 s129 => gd (rg r128) (gd (rg r129) (if r128 = r129 then some (.inl ((v3 + 6), s129)) else some (.inr (.inr (.inr (.inr (.inr (.inr (.inr (.inr (.inr (.inr (.inr (.inr (.inr (.inr (.inr (.inr (.inr (.inr (.inl s129)))))))))))))))))))))))) else if (i_and ((gg0 v3.toNat).toInt) 31) = 18 then gd (0 ≤ (v3 + 1) ∧ (v3 + 1) < (nn0 : Int)) (gd (0 ≤ (v3 + 2) ∧ (v3 + 2) < (nn0 : Int)) (bd (x_drive ((gg0 (v3 + 1).toNat).toInt) ((gg0 (v3 + 2).toNat).toInt) s) (fun r136 s136 => bd (m_drive ((gg0 (v3 + 1).toNat).toInt) ((gg0 (v3 + 2).toNat).toInt) s136) (fun r137 s137 => gd (rg r136) (gd (rg r137) (if r136 = r137 then some (.inl ((v3 + 6), s137)) else some (.inr (.inr (.inr (.inr (.inr (.inr (.inr (.inr (.inr (.inr (.inr (.inr (.inr (.inr (.inr (.inr (.inr (.inr (.inr (.inl s137)))))))))))))))))))))))))) else if (i_and ((gg0 v3.toNat).toInt) 31) = 19 then gd (0 ≤ (v3 + 1) ∧ (v3 + 1) < (nn0 : Int)) (bd (x_pin ((gg0 (v3 + 1).toNat).toInt) s) (fun r143 s143 => bd (m_pin ((gg0 (v3 + 1).toNat).toInt) s143) (fun r144 s144 => gd (rg r143) (gd (rg r144) (if r143 = r144 then some (.inl ((v3 + 6), s144)) else some (.inr (.inr (.inr (.inr (.inr (.inr (.inr (.inr (.inr (.inr (.inr (.inr (.inr (.inr (.inr (.inr (.inr (.inr (.inr (.inr (.inl s144)))))))))))))))))))))))))) else if (i_and ((gg0 v3.toNat).toInt) 31) = 20 then bd (x_tick s) (fun r149 s149 => bd (m_tick s149) (fun r150 s150 => gd (rg r149) (gd (rg r150) (if r149 = r150 then some (.inl ((v3 + 6), s150)) else some (.inr (.inr (.inr (.inr (.inr (.inr (.inr (.inr (.inr (.inr (.inr (.inr (.inr (.inr (.inr (.inr (.inr (.inr (.inr (.inr (.inr (.inl s150)))))))))))))))))))))))))) else if (i_and ((gg0 v3.toNat).toInt) 31) = 21 then gd (0 ≤ (v3 + 1) ∧ (v3 + 1) < (nn0 : Int)) (bd (x_gates ((gg0 (v3 + 1).toNat).toInt) s) (fun r156 s156 => bd (m_gates ((gg0 (v3 + 1).toNat).toInt) s156) (fun r157 s157 => gd (rg r156) (gd (rg r157) (if r156 = r157 then some (.inl ((v3 + 6), s157)) else some (.inr (.inr (.inr (.inr (.inr (.inr (.inr (.inr (.inr (.inr (.inr (.inr (.inr (.inr (.inr (.inr (.inr (.inr (.inr (.inr (.inr (.inr (.inl s157)))))))))))))))))))))))))))) else some (.inl ((v3 + 6), s))))))
theorem tlaw_18b (w : ev_W) (d : Nat) (hd : 251 ≤ d) (nn0 : Nat) (gg0 : Nat → Int32) (rr0 : Nat) (h_rr0 : rr0 < tb_nK) (hk_rr0 : (tb_KT w.2.1 w.2.2)[rr0]? = some (.int, nn0, gg0)) (hl_nn0 : nn0 < 2147483648) (v3 : Int) (s : iS) : Ew hT w d 484 18 [(0, .ref rr0), (1, .ref (tb_nK + 0)), (2, .ref (tb_nK + 121)), (3, iv v3)] [] s (law_18C w d rr0 nn0 gg0) (law_18b nn0 gg0 v3 s) := by
  unfold law_18b
  refine e_mv 19 em_484 (ce_at ce_484 10 rfl) rfl rfl ?_
  refine e_mv 20 em_484 (ce_at ce_484 11 rfl) rfl rfl ?_
  refine e_alenk 21 em_484 (ce_at ce_484 12 rfl) h_rr0 hk_rr0 (by decide) rfl rfl ?_
  refine e_bip 23 em_484 (ce_at ce_484 13 rfl) (by decide) rfl ?_
  refine e_isub 24 em_484 rfl (ce_at ce_484 14 rfl) ?_
  refine e_gd fun g1 => ?_
  refine e_gd fun g2 => ?_
  refine e_cmgt 680 27 em_484 rfl rfl (ce_at ce_484 15 rfl) g1 g2 (fun h3 => ?_) (fun h3 => ?_)
  · refine e_pk [] rfl rfl ?_
    exact e_out (fun r h => h)
  · refine e_mv 28 em_484 (ce_at ce_484 16 rfl) rfl rfl ?_
    refine e_mv 29 em_484 (ce_at ce_484 17 rfl) rfl rfl ?_
    refine e_gd fun g4 => ?_
    refine e_ildk 30 em_484 (ce_at ce_484 18 rfl) h_rr0 hk_rr0 hl_nn0 g4 rfl ?_
    refine e_bip 32 em_484 (ce_at ce_484 19 rfl) (by decide) rfl ?_
    refine e_iand 33 em_484 rfl (ce_at ce_484 20 rfl) ?_
    refine e_gd fun g5 => ?_
    refine e_case 0 (fun h6 => ?_) (fun h6 => ?_)
    · refine e_sw em_484 136 (ce_at ce_484 21 rfl) (sw_in g5 (by omega) (by rw [h6]; rfl)) rfl ?_
      refine e_mv 137 em_484 (ce_at ce_484 22 rfl) rfl rfl ?_
      refine e_mv 138 em_484 (ce_at ce_484 23 rfl) rfl rfl ?_
      refine e_mv 139 em_484 (ce_at ce_484 24 rfl) rfl rfl ?_
      refine e_op 140 em_484 (ce_at ce_484 25 rfl) rfl rfl ?_
      refine e_iadd 141 em_484 rfl (ce_at ce_484 26 rfl) ?_
      refine e_gd fun g7 => ?_
      refine e_ildk 142 em_484 (ce_at ce_484 27 rfl) h_rr0 hk_rr0 hl_nn0 g7 rfl ?_
      refine e_mv 143 em_484 (ce_at ce_484 28 rfl) rfl rfl ?_
      refine e_mv 144 em_484 (ce_at ce_484 29 rfl) rfl rfl ?_
      refine e_op 145 em_484 (ce_at ce_484 30 rfl) rfl rfl ?_
      refine e_iadd 146 em_484 rfl (ce_at ce_484 31 rfl) ?_
      refine e_gd fun g8 => ?_
      refine e_ildk 147 em_484 (ce_at ce_484 32 rfl) h_rr0 hk_rr0 hl_nn0 g8 rfl ?_
      refine e_mv 148 em_484 (ce_at ce_484 33 rfl) rfl rfl ?_
      refine e_mv 149 em_484 (ce_at ce_484 34 rfl) rfl rfl ?_
      refine e_op 150 em_484 (ce_at ce_484 35 rfl) rfl rfl ?_
      refine e_iadd 151 em_484 rfl (ce_at ce_484 36 rfl) ?_
      refine e_gd fun g9 => ?_
      refine e_ildk 152 em_484 (ce_at ce_484 37 rfl) h_rr0 hk_rr0 hl_nn0 g9 rfl ?_
      refine e_mv 153 em_484 (ce_at ce_484 38 rfl) rfl rfl ?_
      refine e_mv 154 em_484 (ce_at ce_484 39 rfl) rfl rfl ?_
      refine e_op 155 em_484 (ce_at ce_484 40 rfl) rfl rfl ?_
      refine e_iadd 156 em_484 rfl (ce_at ce_484 41 rfl) ?_
      refine e_gd fun g10 => ?_
      refine e_ildk 157 em_484 (ce_at ce_484 42 rfl) h_rr0 hk_rr0 hl_nn0 g10 rfl ?_
      refine e_mv 158 em_484 (ce_at ce_484 43 rfl) rfl rfl ?_
      refine e_mv 159 em_484 (ce_at ce_484 44 rfl) rfl rfl ?_
      refine e_op 160 em_484 (ce_at ce_484 45 rfl) rfl rfl ?_
      refine e_iadd 161 em_484 rfl (ce_at ce_484 46 rfl) ?_
      refine e_gd fun g11 => ?_
      refine e_ildk 162 em_484 (ce_at ce_484 47 rfl) h_rr0 hk_rr0 hl_nn0 g11 rfl ?_
      refine e_ivi 165 em_484 (ce_at ce_484 48 rfl) (by omega) (iv_v5 (by decide) tq_0 rfl) em_29 (Nat.le_of_ble_eq_true rfl) rfl (tx_feed w (d - 1) (by omega) _ _ _ _ _ _) (fun r12 s12 => ?_)
      refine e_mv 166 em_484 (ce_at ce_484 49 rfl) rfl rfl ?_
      refine e_mv 167 em_484 (ce_at ce_484 50 rfl) rfl rfl ?_
      refine e_mv 168 em_484 (ce_at ce_484 51 rfl) rfl rfl ?_
      refine e_op 169 em_484 (ce_at ce_484 52 rfl) rfl rfl ?_
      refine e_iadd 170 em_484 rfl (ce_at ce_484 53 rfl) ?_
      refine e_ildk 171 em_484 (ce_at ce_484 54 rfl) h_rr0 hk_rr0 hl_nn0 g7 rfl ?_
      refine e_mv 172 em_484 (ce_at ce_484 55 rfl) rfl rfl ?_
      refine e_mv 173 em_484 (ce_at ce_484 56 rfl) rfl rfl ?_
      refine e_op 174 em_484 (ce_at ce_484 57 rfl) rfl rfl ?_
      refine e_iadd 175 em_484 rfl (ce_at ce_484 58 rfl) ?_
      refine e_ildk 176 em_484 (ce_at ce_484 59 rfl) h_rr0 hk_rr0 hl_nn0 g8 rfl ?_
      refine e_mv 177 em_484 (ce_at ce_484 60 rfl) rfl rfl ?_
      refine e_mv 178 em_484 (ce_at ce_484 61 rfl) rfl rfl ?_
      refine e_op 179 em_484 (ce_at ce_484 62 rfl) rfl rfl ?_
      refine e_iadd 180 em_484 rfl (ce_at ce_484 63 rfl) ?_
      refine e_ildk 181 em_484 (ce_at ce_484 64 rfl) h_rr0 hk_rr0 hl_nn0 g9 rfl ?_
      refine e_mv 182 em_484 (ce_at ce_484 65 rfl) rfl rfl ?_
      refine e_mv 183 em_484 (ce_at ce_484 66 rfl) rfl rfl ?_
      refine e_op 184 em_484 (ce_at ce_484 67 rfl) rfl rfl ?_
      refine e_iadd 185 em_484 rfl (ce_at ce_484 68 rfl) ?_
      refine e_ildk 186 em_484 (ce_at ce_484 69 rfl) h_rr0 hk_rr0 hl_nn0 g10 rfl ?_
      refine e_mv 187 em_484 (ce_at ce_484 70 rfl) rfl rfl ?_
      refine e_mv 188 em_484 (ce_at ce_484 71 rfl) rfl rfl ?_
      refine e_op 189 em_484 (ce_at ce_484 72 rfl) rfl rfl ?_
      refine e_iadd 190 em_484 rfl (ce_at ce_484 73 rfl) ?_
      refine e_ildk 191 em_484 (ce_at ce_484 74 rfl) h_rr0 hk_rr0 hl_nn0 g11 rfl ?_
      refine e_ivi 194 em_484 (ce_at ce_484 75 rfl) (by omega) (iv_v5 (by decide) tq_121 rfl) em_296 (Nat.le_of_ble_eq_true rfl) rfl (tm_feed w (d - 1) (by omega) _ _ _ _ _ _) (fun r13 s13 => ?_)
      refine e_gd fun g14 => ?_
      refine e_gd fun g15 => ?_
      refine e_cmeq 674 197 em_484 rfl rfl (ce_at ce_484 76 rfl) g14 g15 (fun h16 => ?_) (fun h16 => ?_)
      · refine e_iinc 677 em_484 (ce_at ce_484 428 rfl) rfl (by decide) rfl ?_
        refine e_goto em_484 18 (ce_at ce_484 429 rfl) rfl ?_
        refine e_pk [0, 1, 2, 3] rfl rfl ?_
        exact e_out (fun r h => h)
      · refine e_pk [] rfl rfl ?_
        exact e_out (fun r h => h)
    refine e_case 1 (fun h17 => ?_) (fun h17 => ?_)
    · refine e_sw em_484 199 (ce_at ce_484 21 rfl) (sw_in g5 (by omega) (by rw [h17]; rfl)) rfl ?_
      refine e_mv 200 em_484 (ce_at ce_484 79 rfl) rfl rfl ?_
      refine e_mv 201 em_484 (ce_at ce_484 80 rfl) rfl rfl ?_
      refine e_mv 202 em_484 (ce_at ce_484 81 rfl) rfl rfl ?_
      refine e_op 203 em_484 (ce_at ce_484 82 rfl) rfl rfl ?_
      refine e_iadd 204 em_484 rfl (ce_at ce_484 83 rfl) ?_
      refine e_gd fun g18 => ?_
      refine e_ildk 205 em_484 (ce_at ce_484 84 rfl) h_rr0 hk_rr0 hl_nn0 g18 rfl ?_
      refine e_ivi 208 em_484 (ce_at ce_484 85 rfl) (by omega) (iv_v1 (by decide) tq_0 rfl) em_31 (Nat.le_of_ble_eq_true rfl) rfl (tx_load w (d - 1) (by omega) _ _) (fun r19 s19 => ?_)
      refine e_mv 209 em_484 (ce_at ce_484 86 rfl) rfl rfl ?_
      refine e_mv 210 em_484 (ce_at ce_484 87 rfl) rfl rfl ?_
      refine e_mv 211 em_484 (ce_at ce_484 88 rfl) rfl rfl ?_
      refine e_op 212 em_484 (ce_at ce_484 89 rfl) rfl rfl ?_
      refine e_iadd 213 em_484 rfl (ce_at ce_484 90 rfl) ?_
      refine e_ildk 214 em_484 (ce_at ce_484 91 rfl) h_rr0 hk_rr0 hl_nn0 g18 rfl ?_
      refine e_ivi 217 em_484 (ce_at ce_484 92 rfl) (by omega) (iv_v1 (by decide) tq_121 rfl) em_298 (Nat.le_of_ble_eq_true rfl) rfl (tm_load w (d - 1) (by omega) _ _) (fun r20 s20 => ?_)
      refine e_gd fun g21 => ?_
      refine e_gd fun g22 => ?_
      refine e_cmeq 674 220 em_484 rfl rfl (ce_at ce_484 93 rfl) g21 g22 (fun h23 => ?_) (fun h23 => ?_)
      · refine e_iinc 677 em_484 (ce_at ce_484 428 rfl) rfl (by decide) rfl ?_
        refine e_goto em_484 18 (ce_at ce_484 429 rfl) rfl ?_
        refine e_pk [0, 1, 2, 3] rfl rfl ?_
        exact e_out (fun r h => h)
      · refine e_pk [] rfl rfl ?_
        exact e_out (fun r h => h)
    refine e_case 2 (fun h24 => ?_) (fun h24 => ?_)
    · refine e_sw em_484 222 (ce_at ce_484 21 rfl) (sw_in g5 (by omega) (by rw [h24]; rfl)) rfl ?_
      refine e_mv 223 em_484 (ce_at ce_484 96 rfl) rfl rfl ?_
      refine e_mv 224 em_484 (ce_at ce_484 97 rfl) rfl rfl ?_
      refine e_mv 225 em_484 (ce_at ce_484 98 rfl) rfl rfl ?_
      refine e_op 226 em_484 (ce_at ce_484 99 rfl) rfl rfl ?_
      refine e_iadd 227 em_484 rfl (ce_at ce_484 100 rfl) ?_
      refine e_gd fun g25 => ?_
      refine e_ildk 228 em_484 (ce_at ce_484 101 rfl) h_rr0 hk_rr0 hl_nn0 g25 rfl ?_
      refine e_ivi 231 em_484 (ce_at ce_484 102 rfl) (by omega) (iv_v1 (by decide) tq_0 rfl) em_137 (Nat.le_of_ble_eq_true rfl) rfl (tx_keys w (d - 1) (by omega) _ _) (fun r26 s26 => ?_)
      refine e_mv 232 em_484 (ce_at ce_484 103 rfl) rfl rfl ?_
      refine e_mv 233 em_484 (ce_at ce_484 104 rfl) rfl rfl ?_
      refine e_mv 234 em_484 (ce_at ce_484 105 rfl) rfl rfl ?_
      refine e_op 235 em_484 (ce_at ce_484 106 rfl) rfl rfl ?_
      refine e_iadd 236 em_484 rfl (ce_at ce_484 107 rfl) ?_
      refine e_ildk 237 em_484 (ce_at ce_484 108 rfl) h_rr0 hk_rr0 hl_nn0 g25 rfl ?_
      refine e_ivi 240 em_484 (ce_at ce_484 109 rfl) (by omega) (iv_v1 (by decide) tq_121 rfl) em_370 (Nat.le_of_ble_eq_true rfl) rfl (tm_keys w (d - 1) (by omega) _ _) (fun r27 s27 => ?_)
      refine e_gd fun g28 => ?_
      refine e_gd fun g29 => ?_
      refine e_cmeq 674 243 em_484 rfl rfl (ce_at ce_484 110 rfl) g28 g29 (fun h30 => ?_) (fun h30 => ?_)
      · refine e_iinc 677 em_484 (ce_at ce_484 428 rfl) rfl (by decide) rfl ?_
        refine e_goto em_484 18 (ce_at ce_484 429 rfl) rfl ?_
        refine e_pk [0, 1, 2, 3] rfl rfl ?_
        exact e_out (fun r h => h)
      · refine e_pk [] rfl rfl ?_
        exact e_out (fun r h => h)
    refine e_case 3 (fun h31 => ?_) (fun h31 => ?_)
    · refine e_sw em_484 245 (ce_at ce_484 21 rfl) (sw_in g5 (by omega) (by rw [h31]; rfl)) rfl ?_
      refine e_mv 246 em_484 (ce_at ce_484 113 rfl) rfl rfl ?_
      refine e_mv 247 em_484 (ce_at ce_484 114 rfl) rfl rfl ?_
      refine e_mv 248 em_484 (ce_at ce_484 115 rfl) rfl rfl ?_
      refine e_op 249 em_484 (ce_at ce_484 116 rfl) rfl rfl ?_
      refine e_iadd 250 em_484 rfl (ce_at ce_484 117 rfl) ?_
      refine e_gd fun g32 => ?_
      refine e_ildk 251 em_484 (ce_at ce_484 118 rfl) h_rr0 hk_rr0 hl_nn0 g32 rfl ?_
      refine e_ivi 254 em_484 (ce_at ce_484 119 rfl) (by omega) (iv_v1 (by decide) tq_0 rfl) em_139 (Nat.le_of_ble_eq_true rfl) rfl (tx_run w (d - 1) (by omega) _ _) (fun r33 s33 => ?_)
      refine e_mv 255 em_484 (ce_at ce_484 120 rfl) rfl rfl ?_
      refine e_mv 256 em_484 (ce_at ce_484 121 rfl) rfl rfl ?_
      refine e_mv 257 em_484 (ce_at ce_484 122 rfl) rfl rfl ?_
      refine e_op 258 em_484 (ce_at ce_484 123 rfl) rfl rfl ?_
      refine e_iadd 259 em_484 rfl (ce_at ce_484 124 rfl) ?_
      refine e_ildk 260 em_484 (ce_at ce_484 125 rfl) h_rr0 hk_rr0 hl_nn0 g32 rfl ?_
      refine e_ivi 263 em_484 (ce_at ce_484 126 rfl) (by omega) (iv_v1 (by decide) tq_121 rfl) em_371 (Nat.le_of_ble_eq_true rfl) rfl (tm_run w (d - 1) (by omega) _ _) (fun r34 s34 => ?_)
      refine e_gd fun g35 => ?_
      refine e_gd fun g36 => ?_
      refine e_cmeq 674 266 em_484 rfl rfl (ce_at ce_484 127 rfl) g35 g36 (fun h37 => ?_) (fun h37 => ?_)
      · refine e_iinc 677 em_484 (ce_at ce_484 428 rfl) rfl (by decide) rfl ?_
        refine e_goto em_484 18 (ce_at ce_484 429 rfl) rfl ?_
        refine e_pk [0, 1, 2, 3] rfl rfl ?_
        exact e_out (fun r h => h)
      · refine e_pk [] rfl rfl ?_
        exact e_out (fun r h => h)
    refine e_case 4 (fun h38 => ?_) (fun h38 => ?_)
    · refine e_sw em_484 268 (ce_at ce_484 21 rfl) (sw_in g5 (by omega) (by rw [h38]; rfl)) rfl ?_
      refine e_mv 269 em_484 (ce_at ce_484 130 rfl) rfl rfl ?_
      refine e_ivi 272 em_484 (ce_at ce_484 131 rfl) (by omega) (iv_v0 (by decide) tq_0 rfl) em_192 (Nat.le_of_ble_eq_true rfl) rfl (tx_place w (d - 1) (by omega) _) (fun r39 s39 => ?_)
      refine e_mv 273 em_484 (ce_at ce_484 132 rfl) rfl rfl ?_
      refine e_ivi 276 em_484 (ce_at ce_484 133 rfl) (by omega) (iv_v0 (by decide) tq_121 rfl) em_416 (Nat.le_of_ble_eq_true rfl) rfl (tm_place w (d - 1) (by omega) _) (fun r40 s40 => ?_)
      refine e_gd fun g41 => ?_
      refine e_gd fun g42 => ?_
      refine e_cmeq 674 279 em_484 rfl rfl (ce_at ce_484 134 rfl) g41 g42 (fun h43 => ?_) (fun h43 => ?_)
      · refine e_iinc 677 em_484 (ce_at ce_484 428 rfl) rfl (by decide) rfl ?_
        refine e_goto em_484 18 (ce_at ce_484 429 rfl) rfl ?_
        refine e_pk [0, 1, 2, 3] rfl rfl ?_
        exact e_out (fun r h => h)
      · refine e_pk [] rfl rfl ?_
        exact e_out (fun r h => h)
    refine e_case 5 (fun h44 => ?_) (fun h44 => ?_)
    · refine e_sw em_484 281 (ce_at ce_484 21 rfl) (sw_in g5 (by omega) (by rw [h44]; rfl)) rfl ?_
      refine e_mv 282 em_484 (ce_at ce_484 137 rfl) rfl rfl ?_
      refine e_ivi 285 em_484 (ce_at ce_484 138 rfl) (by omega) (iv_v0 (by decide) tq_0 rfl) em_193 (Nat.le_of_ble_eq_true rfl) rfl (tx_error w (d - 1) (by omega) _) (fun r45 s45 => ?_)
      refine e_mv 286 em_484 (ce_at ce_484 139 rfl) rfl rfl ?_
      refine e_ivi 289 em_484 (ce_at ce_484 140 rfl) (by omega) (iv_v0 (by decide) tq_121 rfl) em_417 (Nat.le_of_ble_eq_true rfl) rfl (tm_error w (d - 1) (by omega) _) (fun r46 s46 => ?_)
      refine e_gd fun g47 => ?_
      refine e_gd fun g48 => ?_
      refine e_cmeq 674 292 em_484 rfl rfl (ce_at ce_484 141 rfl) g47 g48 (fun h49 => ?_) (fun h49 => ?_)
      · refine e_iinc 677 em_484 (ce_at ce_484 428 rfl) rfl (by decide) rfl ?_
        refine e_goto em_484 18 (ce_at ce_484 429 rfl) rfl ?_
        refine e_pk [0, 1, 2, 3] rfl rfl ?_
        exact e_out (fun r h => h)
      · refine e_pk [] rfl rfl ?_
        exact e_out (fun r h => h)
    refine e_case 6 (fun h50 => ?_) (fun h50 => ?_)
    · refine e_sw em_484 294 (ce_at ce_484 21 rfl) (sw_in g5 (by omega) (by rw [h50]; rfl)) rfl ?_
      refine e_mv 295 em_484 (ce_at ce_484 144 rfl) rfl rfl ?_
      refine e_ivl 298 em_484 (ce_at ce_484 145 rfl) (by omega) (iv_v0 (by decide) tq_0 rfl) em_194 (Nat.le_of_ble_eq_true rfl) rfl (tx_fetch w (d - 1) (by omega) _) (fun r51 s51 => ?_)
      refine e_mv 299 em_484 (ce_at ce_484 146 rfl) rfl rfl ?_
      refine e_ivl 302 em_484 (ce_at ce_484 147 rfl) (by omega) (iv_v0 (by decide) tq_121 rfl) em_418 (Nat.le_of_ble_eq_true rfl) rfl (tm_fetch w (d - 1) (by omega) _) (fun r52 s52 => ?_)
      refine e_lcmp 303 em_484 rfl (ce_at ce_484 148 rfl) ?_
      refine e_gd fun g53 => ?_
      refine e_ifeq 674 306 em_484 rfl rfl (ce_at ce_484 149 rfl) g53 (fun h54 => ?_) (fun h54 => ?_)
      · refine e_iinc 677 em_484 (ce_at ce_484 428 rfl) rfl (by decide) rfl ?_
        refine e_goto em_484 18 (ce_at ce_484 429 rfl) rfl ?_
        refine e_pk [0, 1, 2, 3] rfl rfl ?_
        exact e_out (fun r h => h)
      · refine e_pk [] rfl rfl ?_
        exact e_out (fun r h => h)
    refine e_case 7 (fun h55 => ?_) (fun h55 => ?_)
    · refine e_sw em_484 308 (ce_at ce_484 21 rfl) (sw_in g5 (by omega) (by rw [h55]; rfl)) rfl ?_
      refine e_mv 309 em_484 (ce_at ce_484 152 rfl) rfl rfl ?_
      refine e_mv 310 em_484 (ce_at ce_484 153 rfl) rfl rfl ?_
      refine e_mv 311 em_484 (ce_at ce_484 154 rfl) rfl rfl ?_
      refine e_op 312 em_484 (ce_at ce_484 155 rfl) rfl rfl ?_
      refine e_iadd 313 em_484 rfl (ce_at ce_484 156 rfl) ?_
      refine e_gd fun g56 => ?_
      refine e_ildk 314 em_484 (ce_at ce_484 157 rfl) h_rr0 hk_rr0 hl_nn0 g56 rfl ?_
      refine e_ivl 317 em_484 (ce_at ce_484 158 rfl) (by omega) (iv_v1 (by decide) tq_0 rfl) em_197 (Nat.le_of_ble_eq_true rfl) rfl (tx_row w (d - 1) (by omega) _ _) (fun r57 s57 => ?_)
      refine e_mv 318 em_484 (ce_at ce_484 159 rfl) rfl rfl ?_
      refine e_mv 319 em_484 (ce_at ce_484 160 rfl) rfl rfl ?_
      refine e_mv 320 em_484 (ce_at ce_484 161 rfl) rfl rfl ?_
      refine e_op 321 em_484 (ce_at ce_484 162 rfl) rfl rfl ?_
      refine e_iadd 322 em_484 rfl (ce_at ce_484 163 rfl) ?_
      refine e_ildk 323 em_484 (ce_at ce_484 164 rfl) h_rr0 hk_rr0 hl_nn0 g56 rfl ?_
      refine e_ivl 326 em_484 (ce_at ce_484 165 rfl) (by omega) (iv_v1 (by decide) tq_121 rfl) em_419 (Nat.le_of_ble_eq_true rfl) rfl (tm_row w (d - 1) (by omega) _ _) (fun r58 s58 => ?_)
      refine e_lcmp 327 em_484 rfl (ce_at ce_484 166 rfl) ?_
      refine e_gd fun g59 => ?_
      refine e_ifeq 674 330 em_484 rfl rfl (ce_at ce_484 167 rfl) g59 (fun h60 => ?_) (fun h60 => ?_)
      · refine e_iinc 677 em_484 (ce_at ce_484 428 rfl) rfl (by decide) rfl ?_
        refine e_goto em_484 18 (ce_at ce_484 429 rfl) rfl ?_
        refine e_pk [0, 1, 2, 3] rfl rfl ?_
        exact e_out (fun r h => h)
      · refine e_pk [] rfl rfl ?_
        exact e_out (fun r h => h)
    refine e_case 8 (fun h61 => ?_) (fun h61 => ?_)
    · refine e_sw em_484 332 (ce_at ce_484 21 rfl) (sw_in g5 (by omega) (by rw [h61]; rfl)) rfl ?_
      refine e_mv 333 em_484 (ce_at ce_484 170 rfl) rfl rfl ?_
      refine e_mv 334 em_484 (ce_at ce_484 171 rfl) rfl rfl ?_
      refine e_mv 335 em_484 (ce_at ce_484 172 rfl) rfl rfl ?_
      refine e_op 336 em_484 (ce_at ce_484 173 rfl) rfl rfl ?_
      refine e_iadd 337 em_484 rfl (ce_at ce_484 174 rfl) ?_
      refine e_gd fun g62 => ?_
      refine e_ildk 338 em_484 (ce_at ce_484 175 rfl) h_rr0 hk_rr0 hl_nn0 g62 rfl ?_
      refine e_ivi 341 em_484 (ce_at ce_484 176 rfl) (by omega) (iv_v1 (by decide) tq_0 rfl) em_199 (Nat.le_of_ble_eq_true rfl) rfl (tx_word w (d - 1) (by omega) _ _) (fun r63 s63 => ?_)
      refine e_mv 342 em_484 (ce_at ce_484 177 rfl) rfl rfl ?_
      refine e_mv 343 em_484 (ce_at ce_484 178 rfl) rfl rfl ?_
      refine e_mv 344 em_484 (ce_at ce_484 179 rfl) rfl rfl ?_
      refine e_op 345 em_484 (ce_at ce_484 180 rfl) rfl rfl ?_
      refine e_iadd 346 em_484 rfl (ce_at ce_484 181 rfl) ?_
      refine e_ildk 347 em_484 (ce_at ce_484 182 rfl) h_rr0 hk_rr0 hl_nn0 g62 rfl ?_
      refine e_ivi 350 em_484 (ce_at ce_484 183 rfl) (by omega) (iv_v1 (by decide) tq_121 rfl) em_420 (Nat.le_of_ble_eq_true rfl) rfl (tm_word w (d - 1) (by omega) _ _) (fun r64 s64 => ?_)
      refine e_gd fun g65 => ?_
      refine e_gd fun g66 => ?_
      refine e_cmeq 674 353 em_484 rfl rfl (ce_at ce_484 184 rfl) g65 g66 (fun h67 => ?_) (fun h67 => ?_)
      · refine e_iinc 677 em_484 (ce_at ce_484 428 rfl) rfl (by decide) rfl ?_
        refine e_goto em_484 18 (ce_at ce_484 429 rfl) rfl ?_
        refine e_pk [0, 1, 2, 3] rfl rfl ?_
        exact e_out (fun r h => h)
      · refine e_pk [] rfl rfl ?_
        exact e_out (fun r h => h)
    refine e_case 9 (fun h68 => ?_) (fun h68 => ?_)
    · refine e_sw em_484 355 (ce_at ce_484 21 rfl) (sw_in g5 (by omega) (by rw [h68]; rfl)) rfl ?_
      refine e_mv 356 em_484 (ce_at ce_484 187 rfl) rfl rfl ?_
      refine e_mv 357 em_484 (ce_at ce_484 188 rfl) rfl rfl ?_
      refine e_mv 358 em_484 (ce_at ce_484 189 rfl) rfl rfl ?_
      refine e_op 359 em_484 (ce_at ce_484 190 rfl) rfl rfl ?_
      refine e_iadd 360 em_484 rfl (ce_at ce_484 191 rfl) ?_
      refine e_gd fun g69 => ?_
      refine e_ildk 361 em_484 (ce_at ce_484 192 rfl) h_rr0 hk_rr0 hl_nn0 g69 rfl ?_
      refine e_ivi 364 em_484 (ce_at ce_484 193 rfl) (by omega) (iv_v1 (by decide) tq_0 rfl) em_201 (Nat.le_of_ble_eq_true rfl) rfl (tx_count w (d - 1) (by omega) _ _) (fun r70 s70 => ?_)
      refine e_mv 365 em_484 (ce_at ce_484 194 rfl) rfl rfl ?_
      refine e_mv 366 em_484 (ce_at ce_484 195 rfl) rfl rfl ?_
      refine e_mv 367 em_484 (ce_at ce_484 196 rfl) rfl rfl ?_
      refine e_op 368 em_484 (ce_at ce_484 197 rfl) rfl rfl ?_
      refine e_iadd 369 em_484 rfl (ce_at ce_484 198 rfl) ?_
      refine e_ildk 370 em_484 (ce_at ce_484 199 rfl) h_rr0 hk_rr0 hl_nn0 g69 rfl ?_
      refine e_ivi 373 em_484 (ce_at ce_484 200 rfl) (by omega) (iv_v1 (by decide) tq_121 rfl) em_421 (Nat.le_of_ble_eq_true rfl) rfl (tm_count w (d - 1) (by omega) _ _) (fun r71 s71 => ?_)
      refine e_gd fun g72 => ?_
      refine e_gd fun g73 => ?_
      refine e_cmeq 674 376 em_484 rfl rfl (ce_at ce_484 201 rfl) g72 g73 (fun h74 => ?_) (fun h74 => ?_)
      · refine e_iinc 677 em_484 (ce_at ce_484 428 rfl) rfl (by decide) rfl ?_
        refine e_goto em_484 18 (ce_at ce_484 429 rfl) rfl ?_
        refine e_pk [0, 1, 2, 3] rfl rfl ?_
        exact e_out (fun r h => h)
      · refine e_pk [] rfl rfl ?_
        exact e_out (fun r h => h)
    refine e_case 10 (fun h75 => ?_) (fun h75 => ?_)
    · refine e_sw em_484 378 (ce_at ce_484 21 rfl) (sw_in g5 (by omega) (by rw [h75]; rfl)) rfl ?_
      refine e_mv 379 em_484 (ce_at ce_484 204 rfl) rfl rfl ?_
      refine e_mv 380 em_484 (ce_at ce_484 205 rfl) rfl rfl ?_
      refine e_mv 381 em_484 (ce_at ce_484 206 rfl) rfl rfl ?_
      refine e_op 382 em_484 (ce_at ce_484 207 rfl) rfl rfl ?_
      refine e_iadd 383 em_484 rfl (ce_at ce_484 208 rfl) ?_
      refine e_gd fun g76 => ?_
      refine e_ildk 384 em_484 (ce_at ce_484 209 rfl) h_rr0 hk_rr0 hl_nn0 g76 rfl ?_
      refine e_mv 385 em_484 (ce_at ce_484 210 rfl) rfl rfl ?_
      refine e_mv 386 em_484 (ce_at ce_484 211 rfl) rfl rfl ?_
      refine e_op 387 em_484 (ce_at ce_484 212 rfl) rfl rfl ?_
      refine e_iadd 388 em_484 rfl (ce_at ce_484 213 rfl) ?_
      refine e_gd fun g77 => ?_
      refine e_ildk 389 em_484 (ce_at ce_484 214 rfl) h_rr0 hk_rr0 hl_nn0 g77 rfl ?_
      refine e_ivi 392 em_484 (ce_at ce_484 215 rfl) (by omega) (iv_v2 (by decide) tq_0 rfl) em_202 (Nat.le_of_ble_eq_true rfl) rfl (tx_command w (d - 1) (by omega) _ _ _) (fun r78 s78 => ?_)
      refine e_mv 393 em_484 (ce_at ce_484 216 rfl) rfl rfl ?_
      refine e_mv 394 em_484 (ce_at ce_484 217 rfl) rfl rfl ?_
      refine e_mv 395 em_484 (ce_at ce_484 218 rfl) rfl rfl ?_
      refine e_op 396 em_484 (ce_at ce_484 219 rfl) rfl rfl ?_
      refine e_iadd 397 em_484 rfl (ce_at ce_484 220 rfl) ?_
      refine e_ildk 398 em_484 (ce_at ce_484 221 rfl) h_rr0 hk_rr0 hl_nn0 g76 rfl ?_
      refine e_mv 399 em_484 (ce_at ce_484 222 rfl) rfl rfl ?_
      refine e_mv 400 em_484 (ce_at ce_484 223 rfl) rfl rfl ?_
      refine e_op 401 em_484 (ce_at ce_484 224 rfl) rfl rfl ?_
      refine e_iadd 402 em_484 rfl (ce_at ce_484 225 rfl) ?_
      refine e_ildk 403 em_484 (ce_at ce_484 226 rfl) h_rr0 hk_rr0 hl_nn0 g77 rfl ?_
      refine e_ivi 406 em_484 (ce_at ce_484 227 rfl) (by omega) (iv_v2 (by decide) tq_121 rfl) em_369 (Nat.le_of_ble_eq_true rfl) rfl (tm_command_369 w (d - 1) (by omega) _ _ _) (fun r79 s79 => ?_)
      refine e_gd fun g80 => ?_
      refine e_gd fun g81 => ?_
      refine e_cmeq 674 409 em_484 rfl rfl (ce_at ce_484 228 rfl) g80 g81 (fun h82 => ?_) (fun h82 => ?_)
      · refine e_iinc 677 em_484 (ce_at ce_484 428 rfl) rfl (by decide) rfl ?_
        refine e_goto em_484 18 (ce_at ce_484 429 rfl) rfl ?_
        refine e_pk [0, 1, 2, 3] rfl rfl ?_
        exact e_out (fun r h => h)
      · refine e_pk [] rfl rfl ?_
        exact e_out (fun r h => h)
    refine e_case 11 (fun h83 => ?_) (fun h83 => ?_)
    · refine e_sw em_484 411 (ce_at ce_484 21 rfl) (sw_in g5 (by omega) (by rw [h83]; rfl)) rfl ?_
      refine e_mv 412 em_484 (ce_at ce_484 231 rfl) rfl rfl ?_
      refine e_mv 413 em_484 (ce_at ce_484 232 rfl) rfl rfl ?_
      refine e_mv 414 em_484 (ce_at ce_484 233 rfl) rfl rfl ?_
      refine e_op 415 em_484 (ce_at ce_484 234 rfl) rfl rfl ?_
      refine e_iadd 416 em_484 rfl (ce_at ce_484 235 rfl) ?_
      refine e_gd fun g84 => ?_
      refine e_ildk 417 em_484 (ce_at ce_484 236 rfl) h_rr0 hk_rr0 hl_nn0 g84 rfl ?_
      refine e_ivi 420 em_484 (ce_at ce_484 237 rfl) (by omega) (iv_v1 (by decide) tq_0 rfl) em_204 (Nat.le_of_ble_eq_true rfl) rfl (tx_signs w (d - 1) (by omega) _ _) (fun r85 s85 => ?_)
      refine e_mv 421 em_484 (ce_at ce_484 238 rfl) rfl rfl ?_
      refine e_mv 422 em_484 (ce_at ce_484 239 rfl) rfl rfl ?_
      refine e_mv 423 em_484 (ce_at ce_484 240 rfl) rfl rfl ?_
      refine e_op 424 em_484 (ce_at ce_484 241 rfl) rfl rfl ?_
      refine e_iadd 425 em_484 rfl (ce_at ce_484 242 rfl) ?_
      refine e_ildk 426 em_484 (ce_at ce_484 243 rfl) h_rr0 hk_rr0 hl_nn0 g84 rfl ?_
      refine e_ivi 429 em_484 (ce_at ce_484 244 rfl) (by omega) (iv_v1 (by decide) tq_121 rfl) em_422 (Nat.le_of_ble_eq_true rfl) rfl (tm_signs w (d - 1) (by omega) _ _) (fun r86 s86 => ?_)
      refine e_gd fun g87 => ?_
      refine e_gd fun g88 => ?_
      refine e_cmeq 674 432 em_484 rfl rfl (ce_at ce_484 245 rfl) g87 g88 (fun h89 => ?_) (fun h89 => ?_)
      · refine e_iinc 677 em_484 (ce_at ce_484 428 rfl) rfl (by decide) rfl ?_
        refine e_goto em_484 18 (ce_at ce_484 429 rfl) rfl ?_
        refine e_pk [0, 1, 2, 3] rfl rfl ?_
        exact e_out (fun r h => h)
      · refine e_pk [] rfl rfl ?_
        exact e_out (fun r h => h)
    refine e_case 12 (fun h90 => ?_) (fun h90 => ?_)
    · refine e_sw em_484 434 (ce_at ce_484 21 rfl) (sw_in g5 (by omega) (by rw [h90]; rfl)) rfl ?_
      refine e_mv 435 em_484 (ce_at ce_484 248 rfl) rfl rfl ?_
      refine e_mv 436 em_484 (ce_at ce_484 249 rfl) rfl rfl ?_
      refine e_mv 437 em_484 (ce_at ce_484 250 rfl) rfl rfl ?_
      refine e_op 438 em_484 (ce_at ce_484 251 rfl) rfl rfl ?_
      refine e_iadd 439 em_484 rfl (ce_at ce_484 252 rfl) ?_
      refine e_gd fun g91 => ?_
      refine e_ildk 440 em_484 (ce_at ce_484 253 rfl) h_rr0 hk_rr0 hl_nn0 g91 rfl ?_
      refine e_ivi 443 em_484 (ce_at ce_484 254 rfl) (by omega) (iv_v1 (by decide) tq_0 rfl) em_224 (Nat.le_of_ble_eq_true rfl) rfl (tx_code w (d - 1) (by omega) _ _) (fun r92 s92 => ?_)
      refine e_mv 444 em_484 (ce_at ce_484 255 rfl) rfl rfl ?_
      refine e_mv 445 em_484 (ce_at ce_484 256 rfl) rfl rfl ?_
      refine e_mv 446 em_484 (ce_at ce_484 257 rfl) rfl rfl ?_
      refine e_op 447 em_484 (ce_at ce_484 258 rfl) rfl rfl ?_
      refine e_iadd 448 em_484 rfl (ce_at ce_484 259 rfl) ?_
      refine e_ildk 449 em_484 (ce_at ce_484 260 rfl) h_rr0 hk_rr0 hl_nn0 g91 rfl ?_
      refine e_ivi 452 em_484 (ce_at ce_484 261 rfl) (by omega) (iv_v1 (by decide) tq_121 rfl) em_435 (Nat.le_of_ble_eq_true rfl) rfl (tm_code w (d - 1) (by omega) _ _) (fun r93 s93 => ?_)
      refine e_gd fun g94 => ?_
      refine e_gd fun g95 => ?_
      refine e_cmeq 674 455 em_484 rfl rfl (ce_at ce_484 262 rfl) g94 g95 (fun h96 => ?_) (fun h96 => ?_)
      · refine e_iinc 677 em_484 (ce_at ce_484 428 rfl) rfl (by decide) rfl ?_
        refine e_goto em_484 18 (ce_at ce_484 429 rfl) rfl ?_
        refine e_pk [0, 1, 2, 3] rfl rfl ?_
        exact e_out (fun r h => h)
      · refine e_pk [] rfl rfl ?_
        exact e_out (fun r h => h)
    refine e_case 13 (fun h97 => ?_) (fun h97 => ?_)
    · refine e_sw em_484 457 (ce_at ce_484 21 rfl) (sw_in g5 (by omega) (by rw [h97]; rfl)) rfl ?_
      refine e_mv 458 em_484 (ce_at ce_484 265 rfl) rfl rfl ?_
      refine e_mv 459 em_484 (ce_at ce_484 266 rfl) rfl rfl ?_
      refine e_mv 460 em_484 (ce_at ce_484 267 rfl) rfl rfl ?_
      refine e_op 461 em_484 (ce_at ce_484 268 rfl) rfl rfl ?_
      refine e_iadd 462 em_484 rfl (ce_at ce_484 269 rfl) ?_
      refine e_gd fun g98 => ?_
      refine e_ildk 463 em_484 (ce_at ce_484 270 rfl) h_rr0 hk_rr0 hl_nn0 g98 rfl ?_
      refine e_ivi 466 em_484 (ce_at ce_484 271 rfl) (by omega) (iv_v1 (by decide) tq_0 rfl) em_225 (Nat.le_of_ble_eq_true rfl) rfl (tx_go w (d - 1) (by omega) _ _) (fun r99 s99 => ?_)
      refine e_mv 467 em_484 (ce_at ce_484 272 rfl) rfl rfl ?_
      refine e_mv 468 em_484 (ce_at ce_484 273 rfl) rfl rfl ?_
      refine e_mv 469 em_484 (ce_at ce_484 274 rfl) rfl rfl ?_
      refine e_op 470 em_484 (ce_at ce_484 275 rfl) rfl rfl ?_
      refine e_iadd 471 em_484 rfl (ce_at ce_484 276 rfl) ?_
      refine e_ildk 472 em_484 (ce_at ce_484 277 rfl) h_rr0 hk_rr0 hl_nn0 g98 rfl ?_
      refine e_ivi 475 em_484 (ce_at ce_484 278 rfl) (by omega) (iv_v1 (by decide) tq_121 rfl) em_436 (Nat.le_of_ble_eq_true rfl) rfl (tm_go_436 w (d - 1) (by omega) _ _) (fun r100 s100 => ?_)
      refine e_gd fun g101 => ?_
      refine e_gd fun g102 => ?_
      refine e_cmeq 674 478 em_484 rfl rfl (ce_at ce_484 279 rfl) g101 g102 (fun h103 => ?_) (fun h103 => ?_)
      · refine e_iinc 677 em_484 (ce_at ce_484 428 rfl) rfl (by decide) rfl ?_
        refine e_goto em_484 18 (ce_at ce_484 429 rfl) rfl ?_
        refine e_pk [0, 1, 2, 3] rfl rfl ?_
        exact e_out (fun r h => h)
      · refine e_pk [] rfl rfl ?_
        exact e_out (fun r h => h)
    refine e_case 14 (fun h104 => ?_) (fun h104 => ?_)
    · refine e_sw em_484 480 (ce_at ce_484 21 rfl) (sw_in g5 (by omega) (by rw [h104]; rfl)) rfl ?_
      refine e_mv 481 em_484 (ce_at ce_484 282 rfl) rfl rfl ?_
      refine e_mv 482 em_484 (ce_at ce_484 283 rfl) rfl rfl ?_
      refine e_mv 483 em_484 (ce_at ce_484 284 rfl) rfl rfl ?_
      refine e_op 484 em_484 (ce_at ce_484 285 rfl) rfl rfl ?_
      refine e_iadd 485 em_484 rfl (ce_at ce_484 286 rfl) ?_
      refine e_gd fun g105 => ?_
      refine e_ildk 486 em_484 (ce_at ce_484 287 rfl) h_rr0 hk_rr0 hl_nn0 g105 rfl ?_
      refine e_mv 487 em_484 (ce_at ce_484 288 rfl) rfl rfl ?_
      refine e_mv 488 em_484 (ce_at ce_484 289 rfl) rfl rfl ?_
      refine e_op 489 em_484 (ce_at ce_484 290 rfl) rfl rfl ?_
      refine e_iadd 490 em_484 rfl (ce_at ce_484 291 rfl) ?_
      refine e_gd fun g106 => ?_
      refine e_ildk 491 em_484 (ce_at ce_484 292 rfl) h_rr0 hk_rr0 hl_nn0 g106 rfl ?_
      refine e_ivi 494 em_484 (ce_at ce_484 293 rfl) (by omega) (iv_v2 (by decide) tq_0 rfl) em_229 (Nat.le_of_ble_eq_true rfl) rfl (tx_set w (d - 1) (by omega) _ _ _) (fun r107 s107 => ?_)
      refine e_mv 495 em_484 (ce_at ce_484 294 rfl) rfl rfl ?_
      refine e_mv 496 em_484 (ce_at ce_484 295 rfl) rfl rfl ?_
      refine e_mv 497 em_484 (ce_at ce_484 296 rfl) rfl rfl ?_
      refine e_op 498 em_484 (ce_at ce_484 297 rfl) rfl rfl ?_
      refine e_iadd 499 em_484 rfl (ce_at ce_484 298 rfl) ?_
      refine e_ildk 500 em_484 (ce_at ce_484 299 rfl) h_rr0 hk_rr0 hl_nn0 g105 rfl ?_
      refine e_mv 501 em_484 (ce_at ce_484 300 rfl) rfl rfl ?_
      refine e_mv 502 em_484 (ce_at ce_484 301 rfl) rfl rfl ?_
      refine e_op 503 em_484 (ce_at ce_484 302 rfl) rfl rfl ?_
      refine e_iadd 504 em_484 rfl (ce_at ce_484 303 rfl) ?_
      refine e_ildk 505 em_484 (ce_at ce_484 304 rfl) h_rr0 hk_rr0 hl_nn0 g106 rfl ?_
      refine e_ivi 508 em_484 (ce_at ce_484 305 rfl) (by omega) (iv_v2 (by decide) tq_121 rfl) em_439 (Nat.le_of_ble_eq_true rfl) rfl (tm_set w (d - 1) (by omega) _ _ _) (fun r108 s108 => ?_)
      refine e_gd fun g109 => ?_
      refine e_gd fun g110 => ?_
      refine e_cmeq 674 511 em_484 rfl rfl (ce_at ce_484 306 rfl) g109 g110 (fun h111 => ?_) (fun h111 => ?_)
      · refine e_iinc 677 em_484 (ce_at ce_484 428 rfl) rfl (by decide) rfl ?_
        refine e_goto em_484 18 (ce_at ce_484 429 rfl) rfl ?_
        refine e_pk [0, 1, 2, 3] rfl rfl ?_
        exact e_out (fun r h => h)
      · refine e_pk [] rfl rfl ?_
        exact e_out (fun r h => h)
    refine e_case 15 (fun h112 => ?_) (fun h112 => ?_)
    · refine e_sw em_484 513 (ce_at ce_484 21 rfl) (sw_in g5 (by omega) (by rw [h112]; rfl)) rfl ?_
      refine e_mv 514 em_484 (ce_at ce_484 309 rfl) rfl rfl ?_
      refine e_mv 515 em_484 (ce_at ce_484 310 rfl) rfl rfl ?_
      refine e_mv 516 em_484 (ce_at ce_484 311 rfl) rfl rfl ?_
      refine e_op 517 em_484 (ce_at ce_484 312 rfl) rfl rfl ?_
      refine e_iadd 518 em_484 rfl (ce_at ce_484 313 rfl) ?_
      refine e_gd fun g113 => ?_
      refine e_ildk 519 em_484 (ce_at ce_484 314 rfl) h_rr0 hk_rr0 hl_nn0 g113 rfl ?_
      refine e_ivi 522 em_484 (ce_at ce_484 315 rfl) (by omega) (iv_v1 (by decide) tq_0 rfl) em_231 (Nat.le_of_ble_eq_true rfl) rfl (tx_store w (d - 1) (by omega) _ _) (fun r114 s114 => ?_)
      refine e_mv 523 em_484 (ce_at ce_484 316 rfl) rfl rfl ?_
      refine e_mv 524 em_484 (ce_at ce_484 317 rfl) rfl rfl ?_
      refine e_mv 525 em_484 (ce_at ce_484 318 rfl) rfl rfl ?_
      refine e_op 526 em_484 (ce_at ce_484 319 rfl) rfl rfl ?_
      refine e_iadd 527 em_484 rfl (ce_at ce_484 320 rfl) ?_
      refine e_ildk 528 em_484 (ce_at ce_484 321 rfl) h_rr0 hk_rr0 hl_nn0 g113 rfl ?_
      refine e_ivi 531 em_484 (ce_at ce_484 322 rfl) (by omega) (iv_v1 (by decide) tq_121 rfl) em_440 (Nat.le_of_ble_eq_true rfl) rfl (tm_store w (d - 1) (by omega) _ _) (fun r115 s115 => ?_)
      refine e_gd fun g116 => ?_
      refine e_gd fun g117 => ?_
      refine e_cmeq 674 534 em_484 rfl rfl (ce_at ce_484 323 rfl) g116 g117 (fun h118 => ?_) (fun h118 => ?_)
      · refine e_iinc 677 em_484 (ce_at ce_484 428 rfl) rfl (by decide) rfl ?_
        refine e_goto em_484 18 (ce_at ce_484 429 rfl) rfl ?_
        refine e_pk [0, 1, 2, 3] rfl rfl ?_
        exact e_out (fun r h => h)
      · refine e_pk [] rfl rfl ?_
        exact e_out (fun r h => h)
    refine e_case 16 (fun h119 => ?_) (fun h119 => ?_)
    · refine e_sw em_484 536 (ce_at ce_484 21 rfl) (sw_in g5 (by omega) (by rw [h119]; rfl)) rfl ?_
      refine e_mv 537 em_484 (ce_at ce_484 326 rfl) rfl rfl ?_
      refine e_mv 538 em_484 (ce_at ce_484 327 rfl) rfl rfl ?_
      refine e_mv 539 em_484 (ce_at ce_484 328 rfl) rfl rfl ?_
      refine e_op 540 em_484 (ce_at ce_484 329 rfl) rfl rfl ?_
      refine e_iadd 541 em_484 rfl (ce_at ce_484 330 rfl) ?_
      refine e_gd fun g120 => ?_
      refine e_ildk 542 em_484 (ce_at ce_484 331 rfl) h_rr0 hk_rr0 hl_nn0 g120 rfl ?_
      refine e_ivi 545 em_484 (ce_at ce_484 332 rfl) (by omega) (iv_v1 (by decide) tq_0 rfl) em_232 (Nat.le_of_ble_eq_true rfl) rfl (tx_register w (d - 1) (by omega) _ _) (fun r121 s121 => ?_)
      refine e_mv 546 em_484 (ce_at ce_484 333 rfl) rfl rfl ?_
      refine e_mv 547 em_484 (ce_at ce_484 334 rfl) rfl rfl ?_
      refine e_mv 548 em_484 (ce_at ce_484 335 rfl) rfl rfl ?_
      refine e_op 549 em_484 (ce_at ce_484 336 rfl) rfl rfl ?_
      refine e_iadd 550 em_484 rfl (ce_at ce_484 337 rfl) ?_
      refine e_ildk 551 em_484 (ce_at ce_484 338 rfl) h_rr0 hk_rr0 hl_nn0 g120 rfl ?_
      refine e_ivi 554 em_484 (ce_at ce_484 339 rfl) (by omega) (iv_v1 (by decide) tq_121 rfl) em_441 (Nat.le_of_ble_eq_true rfl) rfl (tm_register w (d - 1) (by omega) _ _) (fun r122 s122 => ?_)
      refine e_gd fun g123 => ?_
      refine e_gd fun g124 => ?_
      refine e_cmeq 674 557 em_484 rfl rfl (ce_at ce_484 340 rfl) g123 g124 (fun h125 => ?_) (fun h125 => ?_)
      · refine e_iinc 677 em_484 (ce_at ce_484 428 rfl) rfl (by decide) rfl ?_
        refine e_goto em_484 18 (ce_at ce_484 429 rfl) rfl ?_
        refine e_pk [0, 1, 2, 3] rfl rfl ?_
        exact e_out (fun r h => h)
      · refine e_pk [] rfl rfl ?_
        exact e_out (fun r h => h)
    refine e_case 17 (fun h126 => ?_) (fun h126 => ?_)
    · refine e_sw em_484 559 (ce_at ce_484 21 rfl) (sw_in g5 (by omega) (by rw [h126]; rfl)) rfl ?_
      refine e_mv 560 em_484 (ce_at ce_484 343 rfl) rfl rfl ?_
      refine e_mv 561 em_484 (ce_at ce_484 344 rfl) rfl rfl ?_
      refine e_mv 562 em_484 (ce_at ce_484 345 rfl) rfl rfl ?_
      refine e_op 563 em_484 (ce_at ce_484 346 rfl) rfl rfl ?_
      refine e_iadd 564 em_484 rfl (ce_at ce_484 347 rfl) ?_
      refine e_gd fun g127 => ?_
      refine e_ildk 565 em_484 (ce_at ce_484 348 rfl) h_rr0 hk_rr0 hl_nn0 g127 rfl ?_
      refine e_ivi 568 em_484 (ce_at ce_484 349 rfl) (by omega) (iv_v1 (by decide) tq_0 rfl) em_234 (Nat.le_of_ble_eq_true rfl) rfl (tx_chips w (d - 1) (by omega) _ _) (fun r128 s128 => ?_)
      refine e_mv 569 em_484 (ce_at ce_484 350 rfl) rfl rfl ?_
      refine e_mv 570 em_484 (ce_at ce_484 351 rfl) rfl rfl ?_
      refine e_mv 571 em_484 (ce_at ce_484 352 rfl) rfl rfl ?_
      refine e_op 572 em_484 (ce_at ce_484 353 rfl) rfl rfl ?_
      refine e_iadd 573 em_484 rfl (ce_at ce_484 354 rfl) ?_
      refine e_ildk 574 em_484 (ce_at ce_484 355 rfl) h_rr0 hk_rr0 hl_nn0 g127 rfl ?_
      refine e_ivi 577 em_484 (ce_at ce_484 356 rfl) (by omega) (iv_v1 (by decide) tq_121 rfl) em_442 (Nat.le_of_ble_eq_true rfl) rfl (tm_chips w (d - 1) (by omega) _ _) (fun r129 s129 => ?_)
      refine e_gd fun g130 => ?_
      refine e_gd fun g131 => ?_
      refine e_cmeq 674 580 em_484 rfl rfl (ce_at ce_484 357 rfl) g130 g131 (fun h132 => ?_) (fun h132 => ?_)
      · refine e_iinc 677 em_484 (ce_at ce_484 428 rfl) rfl (by decide) rfl ?_
        refine e_goto em_484 18 (ce_at ce_484 429 rfl) rfl ?_
        refine e_pk [0, 1, 2, 3] rfl rfl ?_
        exact e_out (fun r h => h)
      · refine e_pk [] rfl rfl ?_
        exact e_out (fun r h => h)
    refine e_case 18 (fun h133 => ?_) (fun h133 => ?_)
    · refine e_sw em_484 582 (ce_at ce_484 21 rfl) (sw_in g5 (by omega) (by rw [h133]; rfl)) rfl ?_
      refine e_mv 583 em_484 (ce_at ce_484 360 rfl) rfl rfl ?_
      refine e_mv 584 em_484 (ce_at ce_484 361 rfl) rfl rfl ?_
      refine e_mv 585 em_484 (ce_at ce_484 362 rfl) rfl rfl ?_
      refine e_op 586 em_484 (ce_at ce_484 363 rfl) rfl rfl ?_
      refine e_iadd 587 em_484 rfl (ce_at ce_484 364 rfl) ?_
      refine e_gd fun g134 => ?_
      refine e_ildk 588 em_484 (ce_at ce_484 365 rfl) h_rr0 hk_rr0 hl_nn0 g134 rfl ?_
      refine e_mv 589 em_484 (ce_at ce_484 366 rfl) rfl rfl ?_
      refine e_mv 590 em_484 (ce_at ce_484 367 rfl) rfl rfl ?_
      refine e_op 591 em_484 (ce_at ce_484 368 rfl) rfl rfl ?_
      refine e_iadd 592 em_484 rfl (ce_at ce_484 369 rfl) ?_
      refine e_gd fun g135 => ?_
      refine e_ildk 593 em_484 (ce_at ce_484 370 rfl) h_rr0 hk_rr0 hl_nn0 g135 rfl ?_
      refine e_ivi 596 em_484 (ce_at ce_484 371 rfl) (by omega) (iv_v2 (by decide) tq_0 rfl) em_282 (Nat.le_of_ble_eq_true rfl) rfl (tx_drive w (d - 1) (by omega) _ _ _) (fun r136 s136 => ?_)
      refine e_mv 597 em_484 (ce_at ce_484 372 rfl) rfl rfl ?_
      refine e_mv 598 em_484 (ce_at ce_484 373 rfl) rfl rfl ?_
      refine e_mv 599 em_484 (ce_at ce_484 374 rfl) rfl rfl ?_
      refine e_op 600 em_484 (ce_at ce_484 375 rfl) rfl rfl ?_
      refine e_iadd 601 em_484 rfl (ce_at ce_484 376 rfl) ?_
      refine e_ildk 602 em_484 (ce_at ce_484 377 rfl) h_rr0 hk_rr0 hl_nn0 g134 rfl ?_
      refine e_mv 603 em_484 (ce_at ce_484 378 rfl) rfl rfl ?_
      refine e_mv 604 em_484 (ce_at ce_484 379 rfl) rfl rfl ?_
      refine e_op 605 em_484 (ce_at ce_484 380 rfl) rfl rfl ?_
      refine e_iadd 606 em_484 rfl (ce_at ce_484 381 rfl) ?_
      refine e_ildk 607 em_484 (ce_at ce_484 382 rfl) h_rr0 hk_rr0 hl_nn0 g135 rfl ?_
      refine e_ivi 610 em_484 (ce_at ce_484 383 rfl) (by omega) (iv_v2 (by decide) tq_121 rfl) em_478 (Nat.le_of_ble_eq_true rfl) rfl (tm_drive w (d - 1) (by omega) _ _ _) (fun r137 s137 => ?_)
      refine e_gd fun g138 => ?_
      refine e_gd fun g139 => ?_
      refine e_cmeq 674 613 em_484 rfl rfl (ce_at ce_484 384 rfl) g138 g139 (fun h140 => ?_) (fun h140 => ?_)
      · refine e_iinc 677 em_484 (ce_at ce_484 428 rfl) rfl (by decide) rfl ?_
        refine e_goto em_484 18 (ce_at ce_484 429 rfl) rfl ?_
        refine e_pk [0, 1, 2, 3] rfl rfl ?_
        exact e_out (fun r h => h)
      · refine e_pk [] rfl rfl ?_
        exact e_out (fun r h => h)
    refine e_case 19 (fun h141 => ?_) (fun h141 => ?_)
    · refine e_sw em_484 615 (ce_at ce_484 21 rfl) (sw_in g5 (by omega) (by rw [h141]; rfl)) rfl ?_
      refine e_mv 616 em_484 (ce_at ce_484 387 rfl) rfl rfl ?_
      refine e_mv 617 em_484 (ce_at ce_484 388 rfl) rfl rfl ?_
      refine e_mv 618 em_484 (ce_at ce_484 389 rfl) rfl rfl ?_
      refine e_op 619 em_484 (ce_at ce_484 390 rfl) rfl rfl ?_
      refine e_iadd 620 em_484 rfl (ce_at ce_484 391 rfl) ?_
      refine e_gd fun g142 => ?_
      refine e_ildk 621 em_484 (ce_at ce_484 392 rfl) h_rr0 hk_rr0 hl_nn0 g142 rfl ?_
      refine e_ivi 624 em_484 (ce_at ce_484 393 rfl) (by omega) (iv_v1 (by decide) tq_0 rfl) em_285 (Nat.le_of_ble_eq_true rfl) rfl (tx_pin w (d - 1) (by omega) _ _) (fun r143 s143 => ?_)
      refine e_mv 625 em_484 (ce_at ce_484 394 rfl) rfl rfl ?_
      refine e_mv 626 em_484 (ce_at ce_484 395 rfl) rfl rfl ?_
      refine e_mv 627 em_484 (ce_at ce_484 396 rfl) rfl rfl ?_
      refine e_op 628 em_484 (ce_at ce_484 397 rfl) rfl rfl ?_
      refine e_iadd 629 em_484 rfl (ce_at ce_484 398 rfl) ?_
      refine e_ildk 630 em_484 (ce_at ce_484 399 rfl) h_rr0 hk_rr0 hl_nn0 g142 rfl ?_
      refine e_ivi 633 em_484 (ce_at ce_484 400 rfl) (by omega) (iv_v1 (by decide) tq_121 rfl) em_480 (Nat.le_of_ble_eq_true rfl) rfl (tm_pin w (d - 1) (by omega) _ _) (fun r144 s144 => ?_)
      refine e_gd fun g145 => ?_
      refine e_gd fun g146 => ?_
      refine e_cmeq 674 636 em_484 rfl rfl (ce_at ce_484 401 rfl) g145 g146 (fun h147 => ?_) (fun h147 => ?_)
      · refine e_iinc 677 em_484 (ce_at ce_484 428 rfl) rfl (by decide) rfl ?_
        refine e_goto em_484 18 (ce_at ce_484 429 rfl) rfl ?_
        refine e_pk [0, 1, 2, 3] rfl rfl ?_
        exact e_out (fun r h => h)
      · refine e_pk [] rfl rfl ?_
        exact e_out (fun r h => h)
    refine e_case 20 (fun h148 => ?_) (fun h148 => ?_)
    · refine e_sw em_484 638 (ce_at ce_484 21 rfl) (sw_in g5 (by omega) (by rw [h148]; rfl)) rfl ?_
      refine e_mv 639 em_484 (ce_at ce_484 404 rfl) rfl rfl ?_
      refine e_ivi 642 em_484 (ce_at ce_484 405 rfl) (by omega) (iv_v0 (by decide) tq_0 rfl) em_288 (Nat.le_of_ble_eq_true rfl) rfl (tx_tick w (d - 1) (by omega) _) (fun r149 s149 => ?_)
      refine e_mv 643 em_484 (ce_at ce_484 406 rfl) rfl rfl ?_
      refine e_ivi 646 em_484 (ce_at ce_484 407 rfl) (by omega) (iv_v0 (by decide) tq_121 rfl) em_481 (Nat.le_of_ble_eq_true rfl) rfl (tm_tick w (d - 1) (by omega) _) (fun r150 s150 => ?_)
      refine e_gd fun g151 => ?_
      refine e_gd fun g152 => ?_
      refine e_cmeq 674 649 em_484 rfl rfl (ce_at ce_484 408 rfl) g151 g152 (fun h153 => ?_) (fun h153 => ?_)
      · refine e_iinc 677 em_484 (ce_at ce_484 428 rfl) rfl (by decide) rfl ?_
        refine e_goto em_484 18 (ce_at ce_484 429 rfl) rfl ?_
        refine e_pk [0, 1, 2, 3] rfl rfl ?_
        exact e_out (fun r h => h)
      · refine e_pk [] rfl rfl ?_
        exact e_out (fun r h => h)
    refine e_case 21 (fun h154 => ?_) (fun h154 => ?_)
    · refine e_sw em_484 651 (ce_at ce_484 21 rfl) (sw_in g5 (by omega) (by rw [h154]; rfl)) rfl ?_
      refine e_mv 652 em_484 (ce_at ce_484 411 rfl) rfl rfl ?_
      refine e_mv 653 em_484 (ce_at ce_484 412 rfl) rfl rfl ?_
      refine e_mv 654 em_484 (ce_at ce_484 413 rfl) rfl rfl ?_
      refine e_op 655 em_484 (ce_at ce_484 414 rfl) rfl rfl ?_
      refine e_iadd 656 em_484 rfl (ce_at ce_484 415 rfl) ?_
      refine e_gd fun g155 => ?_
      refine e_ildk 657 em_484 (ce_at ce_484 416 rfl) h_rr0 hk_rr0 hl_nn0 g155 rfl ?_
      refine e_ivi 660 em_484 (ce_at ce_484 417 rfl) (by omega) (iv_v1 (by decide) tq_0 rfl) em_290 (Nat.le_of_ble_eq_true rfl) rfl (tx_gates w (d - 1) (by omega) _ _) (fun r156 s156 => ?_)
      refine e_mv 661 em_484 (ce_at ce_484 418 rfl) rfl rfl ?_
      refine e_mv 662 em_484 (ce_at ce_484 419 rfl) rfl rfl ?_
      refine e_mv 663 em_484 (ce_at ce_484 420 rfl) rfl rfl ?_
      refine e_op 664 em_484 (ce_at ce_484 421 rfl) rfl rfl ?_
      refine e_iadd 665 em_484 rfl (ce_at ce_484 422 rfl) ?_
      refine e_ildk 666 em_484 (ce_at ce_484 423 rfl) h_rr0 hk_rr0 hl_nn0 g155 rfl ?_
      refine e_ivi 669 em_484 (ce_at ce_484 424 rfl) (by omega) (iv_v1 (by decide) tq_121 rfl) em_482 (Nat.le_of_ble_eq_true rfl) rfl (tm_gates w (d - 1) (by omega) _ _) (fun r157 s157 => ?_)
      refine e_gd fun g158 => ?_
      refine e_gd fun g159 => ?_
      refine e_cmeq 674 672 em_484 rfl rfl (ce_at ce_484 425 rfl) g158 g159 (fun h160 => ?_) (fun h160 => ?_)
      · refine e_iinc 677 em_484 (ce_at ce_484 428 rfl) rfl (by decide) rfl ?_
        refine e_goto em_484 18 (ce_at ce_484 429 rfl) rfl ?_
        refine e_pk [0, 1, 2, 3] rfl rfl ?_
        exact e_out (fun r h => h)
      · refine e_pk [] rfl rfl ?_
        exact e_out (fun r h => h)
    refine e_sw em_484 674 (ce_at ce_484 21 rfl) (sw_out g5 (by omega)) rfl ?_
    refine e_iinc 677 em_484 (ce_at ce_484 428 rfl) rfl (by decide) rfl ?_
    refine e_goto em_484 18 (ce_at ce_484 429 rfl) rfl ?_
    refine e_pk [0, 1, 2, 3] rfl rfl ?_
    exact e_out (fun r h => h)
theorem flaw_18b (nn0 : Nat) (gg0 : Nat → Int32) (v3 : Int) (s : iS) : Fm (fun r : (Int × iS) ⊕ ((iS) ⊕ ((iS) ⊕ ((iS) ⊕ ((iS) ⊕ ((iS) ⊕ ((iS) ⊕ ((iS) ⊕ ((iS) ⊕ ((iS) ⊕ ((iS) ⊕ ((iS) ⊕ ((iS) ⊕ ((iS) ⊕ ((iS) ⊕ ((iS) ⊕ ((iS) ⊕ ((iS) ⊕ ((iS) ⊕ ((iS) ⊕ ((iS) ⊕ ((iS) ⊕ ((iS) ⊕ (iS))))))))))))))))))))))) => r.elim (fun l => l.2) (fun e => e.elim (fun e => e) (fun e => e.elim (fun e => e) (fun e => e.elim (fun e => e) (fun e => e.elim (fun e => e) (fun e => e.elim (fun e => e) (fun e => e.elim (fun e => e) (fun e => e.elim (fun e => e) (fun e => e.elim (fun e => e) (fun e => e.elim (fun e => e) (fun e => e.elim (fun e => e) (fun e => e.elim (fun e => e) (fun e => e.elim (fun e => e) (fun e => e.elim (fun e => e) (fun e => e.elim (fun e => e) (fun e => e.elim (fun e => e) (fun e => e.elim (fun e => e) (fun e => e.elim (fun e => e) (fun e => e.elim (fun e => e) (fun e => e.elim (fun e => e) (fun e => e.elim (fun e => e) (fun e => e.elim (fun e => e) (fun e => e.elim (fun e => e) (fun e => e)))))))))))))))))))))))) L_law G_law s (law_18b nn0 gg0 v3 s) := fm_gd (fm_gd (fm_if (fm_some md_refl) (fm_gd (fm_gd (fm_if (fm_gd (fm_gd (fm_gd (fm_gd (fm_gd (fm_bd (fm_sub (fx_feed _ _ _ _ _ _) (mem_sub_L rfl) (mem_sub_F rfl)) (fun r12 s12 => fm_bd (fm_sub (fm_feed _ _ _ _ _ _) (mem_sub_L rfl) (mem_sub_F rfl)) (fun r13 s13 => fm_gd (fm_gd (fm_if (fm_some md_refl) (fm_some md_refl))))))))))) (fm_if (fm_gd (fm_bd (fm_sub (fx_load _ _) (mem_sub_L rfl) (mem_sub_F rfl)) (fun r19 s19 => fm_bd (fm_sub (fm_load _ _) (mem_sub_L rfl) (mem_sub_F rfl)) (fun r20 s20 => fm_gd (fm_gd (fm_if (fm_some md_refl) (fm_some md_refl))))))) (fm_if (fm_gd (fm_bd (fm_sub (fx_keys _ _) (mem_sub_L rfl) (mem_sub_F rfl)) (fun r26 s26 => fm_bd (fm_sub (fm_keys _ _) (mem_sub_L rfl) (mem_sub_F rfl)) (fun r27 s27 => fm_gd (fm_gd (fm_if (fm_some md_refl) (fm_some md_refl))))))) (fm_if (fm_gd (fm_bd (fm_sub (fx_run _ _) (mem_sub_L rfl) (mem_sub_F rfl)) (fun r33 s33 => fm_bd (fm_sub (fm_run _ _) (mem_sub_L rfl) (mem_sub_F rfl)) (fun r34 s34 => fm_gd (fm_gd (fm_if (fm_some md_refl) (fm_some md_refl))))))) (fm_if (fm_bd (fm_sub (fx_place _) (mem_sub_L rfl) (mem_sub_F rfl)) (fun r39 s39 => fm_bd (fm_sub (fm_place _) (mem_sub_L rfl) (mem_sub_F rfl)) (fun r40 s40 => fm_gd (fm_gd (fm_if (fm_some md_refl) (fm_some md_refl)))))) (fm_if (fm_bd (fm_sub (fx_error _) (mem_sub_L rfl) (mem_sub_F rfl)) (fun r45 s45 => fm_bd (fm_sub (fm_error _) (mem_sub_L rfl) (mem_sub_F rfl)) (fun r46 s46 => fm_gd (fm_gd (fm_if (fm_some md_refl) (fm_some md_refl)))))) (fm_if (fm_bd (fm_sub (fx_fetch _) (mem_sub_L rfl) (mem_sub_F rfl)) (fun r51 s51 => fm_bd (fm_sub (fm_fetch _) (mem_sub_L rfl) (mem_sub_F rfl)) (fun r52 s52 => fm_gd (fm_if (fm_some md_refl) (fm_some md_refl))))) (fm_if (fm_gd (fm_bd (fm_sub (fx_row _ _) (mem_sub_L rfl) (mem_sub_F rfl)) (fun r57 s57 => fm_bd (fm_sub (fm_row _ _) (mem_sub_L rfl) (mem_sub_F rfl)) (fun r58 s58 => fm_gd (fm_if (fm_some md_refl) (fm_some md_refl)))))) (fm_if (fm_gd (fm_bd (fm_sub (fx_word _ _) (mem_sub_L rfl) (mem_sub_F rfl)) (fun r63 s63 => fm_bd (fm_sub (fm_word _ _) (mem_sub_L rfl) (mem_sub_F rfl)) (fun r64 s64 => fm_gd (fm_gd (fm_if (fm_some md_refl) (fm_some md_refl))))))) (fm_if (fm_gd (fm_bd (fm_sub (fx_count _ _) (mem_sub_L rfl) (mem_sub_F rfl)) (fun r70 s70 => fm_bd (fm_sub (fm_count _ _) (mem_sub_L rfl) (mem_sub_F rfl)) (fun r71 s71 => fm_gd (fm_gd (fm_if (fm_some md_refl) (fm_some md_refl))))))) (fm_if (fm_gd (fm_gd (fm_bd (fm_sub (fx_command _ _ _) (mem_sub_L rfl) (mem_sub_F rfl)) (fun r78 s78 => fm_bd (fm_sub (fm_command_369 _ _ _) (mem_sub_L rfl) (mem_sub_F rfl)) (fun r79 s79 => fm_gd (fm_gd (fm_if (fm_some md_refl) (fm_some md_refl)))))))) (fm_if (fm_gd (fm_bd (fm_sub (fx_signs _ _) (mem_sub_L rfl) (mem_sub_F rfl)) (fun r85 s85 => fm_bd (fm_sub (fm_signs _ _) (mem_sub_L rfl) (mem_sub_F rfl)) (fun r86 s86 => fm_gd (fm_gd (fm_if (fm_some md_refl) (fm_some md_refl))))))) (fm_if (fm_gd (fm_bd (fm_sub (fx_code _ _) (mem_sub_L rfl) (mem_sub_F rfl)) (fun r92 s92 => fm_bd (fm_sub (fm_code _ _) (mem_sub_L rfl) (mem_sub_F rfl)) (fun r93 s93 => fm_gd (fm_gd (fm_if (fm_some md_refl) (fm_some md_refl))))))) (fm_if (fm_gd (fm_bd (fm_sub (fx_go _ _) (mem_sub_L rfl) (mem_sub_F rfl)) (fun r99 s99 => fm_bd (fm_sub (fm_go_436 _ _) (mem_sub_L rfl) (mem_sub_F rfl)) (fun r100 s100 => fm_gd (fm_gd (fm_if (fm_some md_refl) (fm_some md_refl))))))) (fm_if (fm_gd (fm_gd (fm_bd (fm_sub (fx_set _ _ _) (mem_sub_L rfl) (mem_sub_F rfl)) (fun r107 s107 => fm_bd (fm_sub (fm_set _ _ _) (mem_sub_L rfl) (mem_sub_F rfl)) (fun r108 s108 => fm_gd (fm_gd (fm_if (fm_some md_refl) (fm_some md_refl)))))))) (fm_if (fm_gd (fm_bd (fm_sub (fx_store _ _) (mem_sub_L rfl) (mem_sub_F rfl)) (fun r114 s114 => fm_bd (fm_sub (fm_store _ _) (mem_sub_L rfl) (mem_sub_F rfl)) (fun r115 s115 => fm_gd (fm_gd (fm_if (fm_some md_refl) (fm_some md_refl))))))) (fm_if (fm_gd (fm_bd (fm_sub (fx_register _ _) (mem_sub_L rfl) (mem_sub_F rfl)) (fun r121 s121 => fm_bd (fm_sub (fm_register _ _) (mem_sub_L rfl) (mem_sub_F rfl)) (fun r122 s122 => fm_gd (fm_gd (fm_if (fm_some md_refl) (fm_some md_refl))))))) (fm_if (fm_gd (fm_bd (fm_sub (fx_chips _ _) (mem_sub_L rfl) (mem_sub_F rfl)) (fun r128 s128 => fm_bd (fm_sub (fm_chips _ _) (mem_sub_L rfl) (mem_sub_F rfl)) (fun r129 s129 => fm_gd (fm_gd (fm_if (fm_some md_refl) (fm_some md_refl))))))) (fm_if (fm_gd (fm_gd (fm_bd (fm_sub (fx_drive _ _ _) (mem_sub_L rfl) (mem_sub_F rfl)) (fun r136 s136 => fm_bd (fm_sub (fm_drive _ _ _) (mem_sub_L rfl) (mem_sub_F rfl)) (fun r137 s137 => fm_gd (fm_gd (fm_if (fm_some md_refl) (fm_some md_refl)))))))) (fm_if (fm_gd (fm_bd (fm_sub (fx_pin _ _) (mem_sub_L rfl) (mem_sub_F rfl)) (fun r143 s143 => fm_bd (fm_sub (fm_pin _ _) (mem_sub_L rfl) (mem_sub_F rfl)) (fun r144 s144 => fm_gd (fm_gd (fm_if (fm_some md_refl) (fm_some md_refl))))))) (fm_if (fm_bd (fm_sub (fx_tick _) (mem_sub_L rfl) (mem_sub_F rfl)) (fun r149 s149 => fm_bd (fm_sub (fm_tick _) (mem_sub_L rfl) (mem_sub_F rfl)) (fun r150 s150 => fm_gd (fm_gd (fm_if (fm_some md_refl) (fm_some md_refl)))))) (fm_if (fm_gd (fm_bd (fm_sub (fx_gates _ _) (mem_sub_L rfl) (mem_sub_F rfl)) (fun r156 s156 => fm_bd (fm_sub (fm_gates _ _) (mem_sub_L rfl) (mem_sub_F rfl)) (fun r157 s157 => fm_gd (fm_gd (fm_if (fm_some md_refl) (fm_some md_refl))))))) (fm_some md_refl)))))))))))))))))))))))))))
noncomputable def law_18 (nn0 : Nat) (gg0 : Nat → Int32) (v3 : Int) (s : iS) : Option (Int × iS) := (lp (L := Int × iS) (E := (iS) ⊕ ((iS) ⊕ ((iS) ⊕ ((iS) ⊕ ((iS) ⊕ ((iS) ⊕ ((iS) ⊕ ((iS) ⊕ ((iS) ⊕ ((iS) ⊕ ((iS) ⊕ ((iS) ⊕ ((iS) ⊕ ((iS) ⊕ ((iS) ⊕ ((iS) ⊕ ((iS) ⊕ ((iS) ⊕ ((iS) ⊕ ((iS) ⊕ ((iS) ⊕ ((iS) ⊕ (iS))))))))))))))))))))))) (fun l => law_18b nn0 gg0 (l.1) (l.2)) (v3, s)).bind (fun e => e.elim (fun e => some (0, e)) (fun e => e.elim (fun e => some (0, e)) (fun e => e.elim (fun e => some (0, e)) (fun e => e.elim (fun e => some (0, e)) (fun e => e.elim (fun e => some (0, e)) (fun e => e.elim (fun e => some (0, e)) (fun e => e.elim (fun e => some (0, e)) (fun e => e.elim (fun e => some (0, e)) (fun e => e.elim (fun e => some (0, e)) (fun e => e.elim (fun e => some (0, e)) (fun e => e.elim (fun e => some (0, e)) (fun e => e.elim (fun e => some (0, e)) (fun e => e.elim (fun e => some (0, e)) (fun e => e.elim (fun e => some (0, e)) (fun e => e.elim (fun e => some (0, e)) (fun e => e.elim (fun e => some (0, e)) (fun e => e.elim (fun e => some (0, e)) (fun e => e.elim (fun e => some (0, e)) (fun e => e.elim (fun e => some (0, e)) (fun e => e.elim (fun e => some (0, e)) (fun e => e.elim (fun e => some (0, e)) (fun e => e.elim (fun e => some (0, e)) (fun e => some (1, e))))))))))))))))))))))))
theorem tlaw_18 (w : ev_W) (d : Nat) (hd : 251 ≤ d) (nn0 : Nat) (gg0 : Nat → Int32) (rr0 : Nat) (h_rr0 : rr0 < tb_nK) (hk_rr0 : (tb_KT w.2.1 w.2.2)[rr0]? = some (.int, nn0, gg0)) (hl_nn0 : nn0 < 2147483648) (v3 : Int) (s : iS) : Ew hT w d 484 18 [(0, .ref rr0), (1, .ref (tb_nK + 0)), (2, .ref (tb_nK + 121)), (3, iv v3)] [] s (Ci hT) (law_18 nn0 gg0 v3 s) := by
  unfold law_18
  refine e_lp (L := Int × iS) (E := (iS) ⊕ ((iS) ⊕ ((iS) ⊕ ((iS) ⊕ ((iS) ⊕ ((iS) ⊕ ((iS) ⊕ ((iS) ⊕ ((iS) ⊕ ((iS) ⊕ ((iS) ⊕ ((iS) ⊕ ((iS) ⊕ ((iS) ⊕ ((iS) ⊕ ((iS) ⊕ ((iS) ⊕ ((iS) ⊕ ((iS) ⊕ ((iS) ⊕ ((iS) ⊕ ((iS) ⊕ (iS))))))))))))))))))))))) (LO := fun l => [(0, .ref rr0), (1, .ref (tb_nK + 0)), (2, .ref (tb_nK + 121)), (3, iv (l.1))]) (LS := fun l => l.2) (CE := fun e r => e.elim (fun e => ev w d 484 197 [] [] (hT (e)) r) (fun e => e.elim (fun e => ev w d 484 220 [] [] (hT (e)) r) (fun e => e.elim (fun e => ev w d 484 243 [] [] (hT (e)) r) (fun e => e.elim (fun e => ev w d 484 266 [] [] (hT (e)) r) (fun e => e.elim (fun e => ev w d 484 279 [] [] (hT (e)) r) (fun e => e.elim (fun e => ev w d 484 292 [] [] (hT (e)) r) (fun e => e.elim (fun e => ev w d 484 306 [] [] (hT (e)) r) (fun e => e.elim (fun e => ev w d 484 330 [] [] (hT (e)) r) (fun e => e.elim (fun e => ev w d 484 353 [] [] (hT (e)) r) (fun e => e.elim (fun e => ev w d 484 376 [] [] (hT (e)) r) (fun e => e.elim (fun e => ev w d 484 409 [] [] (hT (e)) r) (fun e => e.elim (fun e => ev w d 484 432 [] [] (hT (e)) r) (fun e => e.elim (fun e => ev w d 484 455 [] [] (hT (e)) r) (fun e => e.elim (fun e => ev w d 484 478 [] [] (hT (e)) r) (fun e => e.elim (fun e => ev w d 484 511 [] [] (hT (e)) r) (fun e => e.elim (fun e => ev w d 484 534 [] [] (hT (e)) r) (fun e => e.elim (fun e => ev w d 484 557 [] [] (hT (e)) r) (fun e => e.elim (fun e => ev w d 484 580 [] [] (hT (e)) r) (fun e => e.elim (fun e => ev w d 484 613 [] [] (hT (e)) r) (fun e => e.elim (fun e => ev w d 484 636 [] [] (hT (e)) r) (fun e => e.elim (fun e => ev w d 484 649 [] [] (hT (e)) r) (fun e => e.elim (fun e => ev w d 484 672 [] [] (hT (e)) r) (fun e => ev w d 484 680 [] [] (hT (e)) r))))))))))))))))))))))) (fun l => tlaw_18b w d hd nn0 gg0 rr0 h_rr0 hk_rr0 hl_nn0 _ _) ?_ (v3, s)
  rintro (e | e | e | e | e | e | e | e | e | e | e | e | e | e | e | e | e | e | e | e | e | e | e)
  · show Ew hT w d 484 197 [] [] e (Ci hT) _
    refine e_op 198 em_484 (ce_at ce_484 77 rfl) rfl rfl ?_
    exact e_retz em_484 (ce_at ce_484 78 rfl) (by decide)
  · show Ew hT w d 484 220 [] [] e (Ci hT) _
    refine e_op 221 em_484 (ce_at ce_484 94 rfl) rfl rfl ?_
    exact e_retz em_484 (ce_at ce_484 95 rfl) (by decide)
  · show Ew hT w d 484 243 [] [] e (Ci hT) _
    refine e_op 244 em_484 (ce_at ce_484 111 rfl) rfl rfl ?_
    exact e_retz em_484 (ce_at ce_484 112 rfl) (by decide)
  · show Ew hT w d 484 266 [] [] e (Ci hT) _
    refine e_op 267 em_484 (ce_at ce_484 128 rfl) rfl rfl ?_
    exact e_retz em_484 (ce_at ce_484 129 rfl) (by decide)
  · show Ew hT w d 484 279 [] [] e (Ci hT) _
    refine e_op 280 em_484 (ce_at ce_484 135 rfl) rfl rfl ?_
    exact e_retz em_484 (ce_at ce_484 136 rfl) (by decide)
  · show Ew hT w d 484 292 [] [] e (Ci hT) _
    refine e_op 293 em_484 (ce_at ce_484 142 rfl) rfl rfl ?_
    exact e_retz em_484 (ce_at ce_484 143 rfl) (by decide)
  · show Ew hT w d 484 306 [] [] e (Ci hT) _
    refine e_op 307 em_484 (ce_at ce_484 150 rfl) rfl rfl ?_
    exact e_retz em_484 (ce_at ce_484 151 rfl) (by decide)
  · show Ew hT w d 484 330 [] [] e (Ci hT) _
    refine e_op 331 em_484 (ce_at ce_484 168 rfl) rfl rfl ?_
    exact e_retz em_484 (ce_at ce_484 169 rfl) (by decide)
  · show Ew hT w d 484 353 [] [] e (Ci hT) _
    refine e_op 354 em_484 (ce_at ce_484 185 rfl) rfl rfl ?_
    exact e_retz em_484 (ce_at ce_484 186 rfl) (by decide)
  · show Ew hT w d 484 376 [] [] e (Ci hT) _
    refine e_op 377 em_484 (ce_at ce_484 202 rfl) rfl rfl ?_
    exact e_retz em_484 (ce_at ce_484 203 rfl) (by decide)
  · show Ew hT w d 484 409 [] [] e (Ci hT) _
    refine e_op 410 em_484 (ce_at ce_484 229 rfl) rfl rfl ?_
    exact e_retz em_484 (ce_at ce_484 230 rfl) (by decide)
  · show Ew hT w d 484 432 [] [] e (Ci hT) _
    refine e_op 433 em_484 (ce_at ce_484 246 rfl) rfl rfl ?_
    exact e_retz em_484 (ce_at ce_484 247 rfl) (by decide)
  · show Ew hT w d 484 455 [] [] e (Ci hT) _
    refine e_op 456 em_484 (ce_at ce_484 263 rfl) rfl rfl ?_
    exact e_retz em_484 (ce_at ce_484 264 rfl) (by decide)
  · show Ew hT w d 484 478 [] [] e (Ci hT) _
    refine e_op 479 em_484 (ce_at ce_484 280 rfl) rfl rfl ?_
    exact e_retz em_484 (ce_at ce_484 281 rfl) (by decide)
  · show Ew hT w d 484 511 [] [] e (Ci hT) _
    refine e_op 512 em_484 (ce_at ce_484 307 rfl) rfl rfl ?_
    exact e_retz em_484 (ce_at ce_484 308 rfl) (by decide)
  · show Ew hT w d 484 534 [] [] e (Ci hT) _
    refine e_op 535 em_484 (ce_at ce_484 324 rfl) rfl rfl ?_
    exact e_retz em_484 (ce_at ce_484 325 rfl) (by decide)
  · show Ew hT w d 484 557 [] [] e (Ci hT) _
    refine e_op 558 em_484 (ce_at ce_484 341 rfl) rfl rfl ?_
    exact e_retz em_484 (ce_at ce_484 342 rfl) (by decide)
  · show Ew hT w d 484 580 [] [] e (Ci hT) _
    refine e_op 581 em_484 (ce_at ce_484 358 rfl) rfl rfl ?_
    exact e_retz em_484 (ce_at ce_484 359 rfl) (by decide)
  · show Ew hT w d 484 613 [] [] e (Ci hT) _
    refine e_op 614 em_484 (ce_at ce_484 385 rfl) rfl rfl ?_
    exact e_retz em_484 (ce_at ce_484 386 rfl) (by decide)
  · show Ew hT w d 484 636 [] [] e (Ci hT) _
    refine e_op 637 em_484 (ce_at ce_484 402 rfl) rfl rfl ?_
    exact e_retz em_484 (ce_at ce_484 403 rfl) (by decide)
  · show Ew hT w d 484 649 [] [] e (Ci hT) _
    refine e_op 650 em_484 (ce_at ce_484 409 rfl) rfl rfl ?_
    exact e_retz em_484 (ce_at ce_484 410 rfl) (by decide)
  · show Ew hT w d 484 672 [] [] e (Ci hT) _
    refine e_op 673 em_484 (ce_at ce_484 426 rfl) rfl rfl ?_
    exact e_retz em_484 (ce_at ce_484 427 rfl) (by decide)
  · show Ew hT w d 484 680 [] [] e (Ci hT) _
    refine e_op 681 em_484 (ce_at ce_484 430 rfl) rfl rfl ?_
    exact e_retz em_484 (ce_at ce_484 431 rfl) (by decide)
theorem flaw_18 (nn0 : Nat) (gg0 : Nat → Int32) (v3 : Int) (s : iS) : Fm Prod.snd L_law G_law s (law_18 nn0 gg0 v3 s) := by
  unfold law_18
  refine fm_lp (A := Int × iS) (E := (iS) ⊕ ((iS) ⊕ ((iS) ⊕ ((iS) ⊕ ((iS) ⊕ ((iS) ⊕ ((iS) ⊕ ((iS) ⊕ ((iS) ⊕ ((iS) ⊕ ((iS) ⊕ ((iS) ⊕ ((iS) ⊕ ((iS) ⊕ ((iS) ⊕ ((iS) ⊕ ((iS) ⊕ ((iS) ⊕ ((iS) ⊕ ((iS) ⊕ ((iS) ⊕ ((iS) ⊕ (iS))))))))))))))))))))))) (LS := fun l => l.2) (LE := fun e => e.elim (fun e => e) (fun e => e.elim (fun e => e) (fun e => e.elim (fun e => e) (fun e => e.elim (fun e => e) (fun e => e.elim (fun e => e) (fun e => e.elim (fun e => e) (fun e => e.elim (fun e => e) (fun e => e.elim (fun e => e) (fun e => e.elim (fun e => e) (fun e => e.elim (fun e => e) (fun e => e.elim (fun e => e) (fun e => e.elim (fun e => e) (fun e => e.elim (fun e => e) (fun e => e.elim (fun e => e) (fun e => e.elim (fun e => e) (fun e => e.elim (fun e => e) (fun e => e.elim (fun e => e) (fun e => e.elim (fun e => e) (fun e => e.elim (fun e => e) (fun e => e.elim (fun e => e) (fun e => e.elim (fun e => e) (fun e => e.elim (fun e => e) (fun e => e))))))))))))))))))))))) ?_ ?_ (v3, s)
  · exact fun l => flaw_18b nn0 gg0 _ _
  · exact (by rintro (e | e | e | e | e | e | e | e | e | e | e | e | e | e | e | e | e | e | e | e | e | e | e); exact fm_some md_refl; exact fm_some md_refl; exact fm_some md_refl; exact fm_some md_refl; exact fm_some md_refl; exact fm_some md_refl; exact fm_some md_refl; exact fm_some md_refl; exact fm_some md_refl; exact fm_some md_refl; exact fm_some md_refl; exact fm_some md_refl; exact fm_some md_refl; exact fm_some md_refl; exact fm_some md_refl; exact fm_some md_refl; exact fm_some md_refl; exact fm_some md_refl; exact fm_some md_refl; exact fm_some md_refl; exact fm_some md_refl; exact fm_some md_refl; exact fm_some md_refl)
noncomputable def law_16 (nn0 : Nat) (gg0 : Nat → Int32) (s : iS) : Option (Int × iS) := law_18 nn0 gg0 0 s
theorem tlaw_16 (w : ev_W) (d : Nat) (hd : 251 ≤ d) (nn0 : Nat) (gg0 : Nat → Int32) (rr0 : Nat) (h_rr0 : rr0 < tb_nK) (hk_rr0 : (tb_KT w.2.1 w.2.2)[rr0]? = some (.int, nn0, gg0)) (hl_nn0 : nn0 < 2147483648) (s : iS) : Ew hT w d 484 16 [(0, .ref rr0), (1, .ref (tb_nK + 0)), (2, .ref (tb_nK + 121))] [] s (Ci hT) (law_16 nn0 gg0 s) := by
  unfold law_16
  refine e_op 17 em_484 (ce_at ce_484 8 rfl) rfl rfl ?_
  refine e_mv 18 em_484 (ce_at ce_484 9 rfl) rfl rfl ?_
  refine e_pk [0, 1, 2, 3] rfl rfl ?_
  exact tlaw_18 w d hd nn0 gg0 rr0 h_rr0 hk_rr0 hl_nn0 _ _
theorem flaw_16 (nn0 : Nat) (gg0 : Nat → Int32) (s : iS) : Fm Prod.snd L_law G_law s (law_16 nn0 gg0 s) := flaw_18 nn0 gg0 _ _
