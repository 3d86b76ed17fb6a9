/-! what the methods do, as functions, and that the machine does it; printed by wip/whole/dc.py -/
/-! pro_find -/
def L_pro_find : List Nat := []
def G_pro_find : List (Nat × Nat) := []
def pro_find_3C (w : ev_W) (d : Nat) (v1 : Int) (v3 : Int) : (Int × iS) ⊕ ((Int × iS) ⊕ (iS)) → am_E → Prop := fun q r => q.elim (fun l => ev w d 222 3 ((fun l => [(0, .ref (tb_nK + 55)), (1, iv v1), (3, iv v3), (4, iv (l.1))]) l) [] (hT ((fun l => l.2) l)) r) (fun e => (fun e r => e.elim (fun e => ev w d 222 20 [(4, iv (e.1))] [] (hT (e.2)) r) (fun e => ev w d 222 29 [] [] (hT (e)) r)) e r)
noncomputable def pro_find_3b (v1 : Int) (v3 : Int) (v4 : Int) (s : iS) : Option ((Int × iS) ⊕ ((Int × iS) ⊕ (iS))) := gd (rg v4) (gd (rg v3) (if v3 ≤ v4 then some (.inr (.inr s)) else gd (0 ≤ v4 ∧ v4 < 4000) (gd (rg (s 1 v4.toNat)) (gd (rg v1) (if (s 1 v4.toNat) = v1 then some (.inr (.inl (v4, s))) else some (.inl ((v4 + 1), s)))))))
theorem tpro_find_3b (w : ev_W) (d : Nat) (hd : 0 ≤ d) (v1 : Int) (v3 : Int) (v4 : Int) (s : iS) : Ew hT w d 222 3 [(0, .ref (tb_nK + 55)), (1, iv v1), (3, iv v3), (4, iv v4)] [] s (pro_find_3C w d v1 v3) (pro_find_3b v1 v3 v4 s) := by
  unfold pro_find_3b
  refine e_mv 5 em_222 (ce_at ce_222 2 rfl) rfl rfl ?_
  refine e_mv 6 em_222 (ce_at ce_222 3 rfl) rfl rfl ?_
  refine e_gd fun g1 => ?_
  refine e_gd fun g2 => ?_
  refine e_cmge 29 9 em_222 rfl rfl (ce_at ce_222 4 rfl) g1 g2 (fun h3 => ?_) (fun h3 => ?_)
  · refine e_pk [] rfl rfl ?_
    exact e_out (fun r h => h)
  · refine e_mv 10 em_222 (ce_at ce_222 5 rfl) rfl rfl ?_
    refine e_getr 13 em_222 (ce_at ce_222 6 rfl) tq_55 rfl rfl ?_
    refine e_mv 15 em_222 (ce_at ce_222 7 rfl) rfl rfl ?_
    refine e_gd fun g4 => ?_
    refine e_ild 16 em_222 (ce_at ce_222 8 rfl) tq_1 (by decide) g4 rfl ?_
    refine e_mv 17 em_222 (ce_at ce_222 9 rfl) rfl rfl ?_
    refine e_gd fun g5 => ?_
    refine e_gd fun g6 => ?_
    refine e_cmne 23 20 em_222 rfl rfl (ce_at ce_222 10 rfl) g5 g6 (fun h7 => ?_) (fun h7 => ?_)
    · refine e_iinc 26 em_222 (ce_at ce_222 13 rfl) rfl (by decide) rfl ?_
      refine e_goto em_222 3 (ce_at ce_222 14 rfl) rfl ?_
      refine e_pk [0, 1, 3, 4] rfl rfl ?_
      exact e_out (fun r h => h)
    · refine e_pk [4] rfl rfl ?_
      exact e_out (fun r h => h)
theorem fpro_find_3b (v1 : Int) (v3 : Int) (v4 : Int) (s : iS) : Fm (fun r : (Int × iS) ⊕ ((Int × iS) ⊕ (iS)) => r.elim (fun l => l.2) (fun e => e.elim (fun e => e.2) (fun e => e))) L_pro_find G_pro_find s (pro_find_3b v1 v3 v4 s) := fm_gd (fm_gd (fm_if (fm_some md_refl) (fm_gd (fm_gd (fm_gd (fm_if (fm_some md_refl) (fm_some md_refl)))))))
noncomputable def pro_find_3 (v1 : Int) (v3 : Int) (v4 : Int) (s : iS) : Option (Int × iS) := (lp (L := Int × iS) (E := (Int × iS) ⊕ (iS)) (fun l => pro_find_3b v1 v3 (l.1) (l.2)) (v4, s)).bind (fun e => e.elim (fun e => some (e.1, e.2)) (fun e => some ((-1), e)))
theorem tpro_find_3 (w : ev_W) (d : Nat) (hd : 0 ≤ d) (v1 : Int) (v3 : Int) (v4 : Int) (s : iS) : Ew hT w d 222 3 [(0, .ref (tb_nK + 55)), (1, iv v1), (3, iv v3), (4, iv v4)] [] s (Ci hT) (pro_find_3 v1 v3 v4 s) := by
  unfold pro_find_3
  refine e_lp (L := Int × iS) (E := (Int × iS) ⊕ (iS)) (LO := fun l => [(0, .ref (tb_nK + 55)), (1, iv v1), (3, iv v3), (4, iv (l.1))]) (LS := fun l => l.2) (CE := fun e r => e.elim (fun e => ev w d 222 20 [(4, iv (e.1))] [] (hT (e.2)) r) (fun e => ev w d 222 29 [] [] (hT (e)) r)) (fun l => tpro_find_3b w d hd _ _ _ _) ?_ (v4, s)
  rintro (e | e)
  · show Ew hT w d 222 20 [(4, iv (e.1))] [] e.2 (Ci hT) _
    refine e_mv 22 em_222 (ce_at ce_222 11 rfl) rfl rfl ?_
    exact e_reti em_222 (ce_at ce_222 12 rfl)
  · show Ew hT w d 222 29 [] [] e (Ci hT) _
    refine e_op 30 em_222 (ce_at ce_222 15 rfl) rfl rfl ?_
    exact e_reti em_222 (ce_at ce_222 16 rfl)
theorem fpro_find_3 (v1 : Int) (v3 : Int) (v4 : Int) (s : iS) : Fm Prod.snd L_pro_find G_pro_find s (pro_find_3 v1 v3 v4 s) := by
  unfold pro_find_3
  refine fm_lp (A := Int × iS) (E := (Int × iS) ⊕ (iS)) (LS := fun l => l.2) (LE := fun e => e.elim (fun e => e.2) (fun e => e)) ?_ ?_ (v4, s)
  · exact fun l => fpro_find_3b _ _ _ _
  · exact (by rintro (e | e); exact fm_some md_refl; exact fm_some md_refl)
noncomputable def pro_find (v1 : Int) (v2 : Int) (v3 : Int) (s : iS) : Option (Int × iS) := pro_find_3 v1 v3 v2 s
theorem tpro_find (w : ev_W) (d : Nat) (hd : 0 ≤ d) (v1 : Int) (v2 : Int) (v3 : Int) (s : iS) : Ew hT w d 222 0 [(0, .ref (tb_nK + 55)), (1, iv v1), (2, iv v2), (3, iv v3)] [] s (Ci hT) (pro_find v1 v2 v3 s) := by
  unfold pro_find
  refine e_mv 1 em_222 (ce_at ce_222 0 rfl) rfl rfl ?_
  refine e_mv 3 em_222 (ce_at ce_222 1 rfl) rfl rfl ?_
  refine e_pk [0, 1, 3, 4] rfl rfl ?_
  exact tpro_find_3 w d hd _ _ _ _
theorem fpro_find (v1 : Int) (v2 : Int) (v3 : Int) (s : iS) : Fm Prod.snd L_pro_find G_pro_find s (pro_find v1 v2 v3 s) := fpro_find_3 _ _ _ _
/-! nam_findBytes -/
def nam_findBytes_28C (w : ev_W) (d : Nat) (c0 : Nat) (a0 : Nat) (b0 : Nat) (n0 : Nat) (v2 : Int) (v3 : Int) : (Int × iS) ⊕ ((iS) ⊕ (iS)) → am_E → Prop := fun q r => q.elim (fun l => ev w d 219 28 ((fun l => [(0, .ref (tb_nK + c0)), (1, .ref (tb_nK + 1)), (2, iv v2), (3, iv v3), (4, iv (l.1))]) l) [] (hT ((fun l => l.2) l)) r) (fun e => (fun e r => e.elim (fun e => ev w d 219 41 [] [] (hT (e)) r) (fun e => ev w d 219 49 [(0, .ref (tb_nK + c0)), (1, .ref (tb_nK + 1)), (2, iv v2), (3, iv v3)] [] (hT (e)) r)) e r)
noncomputable def nam_findBytes_28b (c0 : Nat) (a0 : Nat) (b0 : Nat) (n0 : Nat) (v2 : Int) (v3 : Int) (v4 : Int) (s : iS) : Option ((Int × iS) ⊕ ((iS) ⊕ (iS))) := gd (rg v4) (gd (rg v3) (if v3 ≤ v4 then some (.inr (.inr s)) else gd (0 ≤ v4 ∧ v4 < 4000) (gd (rg (s 1 v4.toNat)) (if (s 1 v4.toNat) = 0 then some (.inr (.inl s)) else some (.inl ((v4 + 1), s))))))
theorem tnam_findBytes_28b (w : ev_W) (d : Nat) (hd : 2 ≤ d) (c0 : Nat) (a0 : Nat) (b0 : Nat) (n0 : Nat) (h_c0 : Ho hT c0 2 [some a0, some b0, none]) (h_a0 : Ha hT a0 1 n0) (h_b0 : Ha hT b0 1 n0) (hl_n0 : n0 < 2147483648) (v2 : Int) (v3 : Int) (v4 : Int) (s : iS) : Ew hT w d 219 28 [(0, .ref (tb_nK + c0)), (1, .ref (tb_nK + 1)), (2, iv v2), (3, iv v3), (4, iv v4)] [] s (nam_findBytes_28C w d c0 a0 b0 n0 v2 v3) (nam_findBytes_28b c0 a0 b0 n0 v2 v3 v4 s) := by
  unfold nam_findBytes_28b
  refine e_mv 30 em_219 (ce_at ce_219 18 rfl) rfl rfl ?_
  refine e_mv 31 em_219 (ce_at ce_219 19 rfl) rfl rfl ?_
  refine e_gd fun g1 => ?_
  refine e_gd fun g2 => ?_
  refine e_cmge 49 34 em_219 rfl rfl (ce_at ce_219 20 rfl) g1 g2 (fun h3 => ?_) (fun h3 => ?_)
  · refine e_pk [0, 1, 2, 3] rfl rfl ?_
    exact e_out (fun r h => h)
  · refine e_mv 35 em_219 (ce_at ce_219 21 rfl) rfl rfl ?_
    refine e_mv 37 em_219 (ce_at ce_219 22 rfl) rfl rfl ?_
    refine e_gd fun g4 => ?_
    refine e_ild 38 em_219 (ce_at ce_219 23 rfl) tq_1 (by decide) g4 rfl ?_
    refine e_gd fun g5 => ?_
    refine e_ifne 43 41 em_219 rfl rfl (ce_at ce_219 24 rfl) g5 (fun h6 => ?_) (fun h6 => ?_)
    · refine e_iinc 46 em_219 (ce_at ce_219 27 rfl) rfl (by decide) rfl ?_
      refine e_goto em_219 28 (ce_at ce_219 28 rfl) rfl ?_
      refine e_pk [0, 1, 2, 3, 4] rfl rfl ?_
      exact e_out (fun r h => h)
    · refine e_pk [] rfl rfl ?_
      exact e_out (fun r h => h)
theorem fnam_findBytes_28b (c0 : Nat) (a0 : Nat) (b0 : Nat) (n0 : Nat) (v2 : Int) (v3 : Int) (v4 : Int) (s : iS) : Fm (fun r : (Int × iS) ⊕ ((iS) ⊕ (iS)) => r.elim (fun l => l.2) (fun e => e.elim (fun e => e) (fun e => e))) [] [] s (nam_findBytes_28b c0 a0 b0 n0 v2 v3 v4 s) := fm_gd (fm_gd (fm_if (fm_some md_refl) (fm_gd (fm_gd (fm_if (fm_some md_refl) (fm_some md_refl))))))
noncomputable def nam_findBytes_49 (c0 : Nat) (a0 : Nat) (b0 : Nat) (n0 : Nat) (v2 : Int) (v3 : Int) (s : iS) : Option (Int × iS) := bd (nam_half_43 v2 v3 s) (fun r1 s1 => bd (nam_half_43 (v2 + 8) v3 s1) (fun r2 s2 => bd (nam_find c0 a0 b0 n0 r1 r2 0 (s2 c0 2) s2) (fun r3 s3 => some (r3, s3))))
theorem tnam_findBytes_49 (w : ev_W) (d : Nat) (hd : 2 ≤ d) (c0 : Nat) (a0 : Nat) (b0 : Nat) (n0 : Nat) (h_c0 : Ho hT c0 2 [some a0, some b0, none]) (h_a0 : Ha hT a0 1 n0) (h_b0 : Ha hT b0 1 n0) (hl_n0 : n0 < 2147483648) (v2 : Int) (v3 : Int) (s : iS) : Ew hT w d 219 49 [(0, .ref (tb_nK + c0)), (1, .ref (tb_nK + 1)), (2, iv v2), (3, iv v3)] [] s (Ci hT) (nam_findBytes_49 c0 a0 b0 n0 v2 v3 s) := by
  unfold nam_findBytes_49
  refine e_mv 50 em_219 (ce_at ce_219 29 rfl) rfl rfl ?_
  refine e_mv 51 em_219 (ce_at ce_219 30 rfl) rfl rfl ?_
  refine e_mv 52 em_219 (ce_at ce_219 31 rfl) rfl rfl ?_
  refine e_mv 53 em_219 (ce_at ce_219 32 rfl) rfl rfl ?_
  refine e_ivl 56 em_219 (ce_at ce_219 33 rfl) (by omega) (iv_s3 rfl) em_43 (Nat.le_of_ble_eq_true rfl) rfl (tnam_half_43 w (d - 1) (by omega) _ _ _) (fun r1 s1 => ?_)
  refine e_mv 57 em_219 (ce_at ce_219 34 rfl) rfl rfl ?_
  refine e_mv 58 em_219 (ce_at ce_219 35 rfl) rfl rfl ?_
  refine e_bip 60 em_219 (ce_at ce_219 36 rfl) (by decide) rfl ?_
  refine e_iadd 61 em_219 rfl (ce_at ce_219 37 rfl) ?_
  refine e_mv 62 em_219 (ce_at ce_219 38 rfl) rfl rfl ?_
  refine e_ivl 65 em_219 (ce_at ce_219 39 rfl) (by omega) (iv_s3 rfl) em_43 (Nat.le_of_ble_eq_true rfl) rfl (tnam_half_43 w (d - 1) (by omega) _ _ _) (fun r2 s2 => ?_)
  refine e_op 66 em_219 (ce_at ce_219 40 rfl) rfl rfl ?_
  refine e_mv 67 em_219 (ce_at ce_219 41 rfl) rfl rfl ?_
  refine e_get 70 em_219 (ce_at ce_219 42 rfl) h_c0 rfl rfl ?_
  refine e_ivi 73 em_219 (ce_at ce_219 43 rfl) (by omega) (iv_v4 (by decide) h_c0 rfl) em_44 (Nat.le_of_ble_eq_true rfl) rfl (tnam_find hT w (d - 1) (by omega) c0 a0 b0 n0 h_c0 h_a0 h_b0 hl_n0 _ _ _ _ _) (fun r3 s3 => ?_)
  exact e_reti em_219 (ce_at ce_219 44 rfl)
theorem fnam_findBytes_49 (c0 : Nat) (a0 : Nat) (b0 : Nat) (n0 : Nat) (v2 : Int) (v3 : Int) (s : iS) : Fm Prod.snd [] [] s (nam_findBytes_49 c0 a0 b0 n0 v2 v3 s) := fm_bd (fm_sub (fnam_half_43 _ _ _) (fun _ h => by cases h) (fun _ h => by cases h)) (fun r1 s1 => fm_bd (fm_sub (fnam_half_43 _ _ _) (fun _ h => by cases h) (fun _ h => by cases h)) (fun r2 s2 => fm_bd (fm_sub (fnam_find c0 a0 b0 n0 _ _ _ _ _) (fun _ h => by cases h) (fun _ h => by cases h)) (fun r3 s3 => fm_some md_refl)))
noncomputable def nam_findBytes_28 (c0 : Nat) (a0 : Nat) (b0 : Nat) (n0 : Nat) (v2 : Int) (v3 : Int) (v4 : Int) (s : iS) : Option (Int × iS) := (lp (L := Int × iS) (E := (iS) ⊕ (iS)) (fun l => nam_findBytes_28b c0 a0 b0 n0 v2 v3 (l.1) (l.2)) (v4, s)).bind (fun e => e.elim (fun e => some ((-1), e)) (fun e => nam_findBytes_49 c0 a0 b0 n0 v2 v3 e))
theorem tnam_findBytes_28 (w : ev_W) (d : Nat) (hd : 2 ≤ d) (c0 : Nat) (a0 : Nat) (b0 : Nat) (n0 : Nat) (h_c0 : Ho hT c0 2 [some a0, some b0, none]) (h_a0 : Ha hT a0 1 n0) (h_b0 : Ha hT b0 1 n0) (hl_n0 : n0 < 2147483648) (v2 : Int) (v3 : Int) (v4 : Int) (s : iS) : Ew hT w d 219 28 [(0, .ref (tb_nK + c0)), (1, .ref (tb_nK + 1)), (2, iv v2), (3, iv v3), (4, iv v4)] [] s (Ci hT) (nam_findBytes_28 c0 a0 b0 n0 v2 v3 v4 s) := by
  unfold nam_findBytes_28
  refine e_lp (L := Int × iS) (E := (iS) ⊕ (iS)) (LO := fun l => [(0, .ref (tb_nK + c0)), (1, .ref (tb_nK + 1)), (2, iv v2), (3, iv v3), (4, iv (l.1))]) (LS := fun l => l.2) (CE := fun e r => e.elim (fun e => ev w d 219 41 [] [] (hT (e)) r) (fun e => ev w d 219 49 [(0, .ref (tb_nK + c0)), (1, .ref (tb_nK + 1)), (2, iv v2), (3, iv v3)] [] (hT (e)) r)) (fun l => tnam_findBytes_28b w d hd c0 a0 b0 n0 h_c0 h_a0 h_b0 hl_n0 _ _ _ _) ?_ (v4, s)
  rintro (e | e)
  · show Ew hT w d 219 41 [] [] e (Ci hT) _
    refine e_op 42 em_219 (ce_at ce_219 25 rfl) rfl rfl ?_
    exact e_reti em_219 (ce_at ce_219 26 rfl)
  · show Ew hT w d 219 49 [(0, .ref (tb_nK + c0)), (1, .ref (tb_nK + 1)), (2, iv v2), (3, iv v3)] [] e (Ci hT) _
    refine e_pk [0, 1, 2, 3] rfl rfl ?_
    exact tnam_findBytes_49 w d hd c0 a0 b0 n0 h_c0 h_a0 h_b0 hl_n0 _ _ _
theorem fnam_findBytes_28 (c0 : Nat) (a0 : Nat) (b0 : Nat) (n0 : Nat) (v2 : Int) (v3 : Int) (v4 : Int) (s : iS) : Fm Prod.snd [] [] s (nam_findBytes_28 c0 a0 b0 n0 v2 v3 v4 s) := by
  unfold nam_findBytes_28
  refine fm_lp (A := Int × iS) (E := (iS) ⊕ (iS)) (LS := fun l => l.2) (LE := fun e => e.elim (fun e => e) (fun e => e)) ?_ ?_ (v4, s)
  · exact fun l => fnam_findBytes_28b c0 a0 b0 n0 _ _ _ _
  · exact (by rintro (e | e); exact fm_some md_refl; exact fnam_findBytes_49 c0 a0 b0 n0 _ _ _)
noncomputable def nam_findBytes (c0 : Nat) (a0 : Nat) (b0 : Nat) (n0 : Nat) (v2 : Int) (v3 : Int) (s : iS) : Option (Int × iS) := gd (rg v2) (if v2 < 0 then some ((-1), s) else gd (rg v3) (if 4000 < v3 then some ((-1), s) else if v3 ≤ v2 then some ((-1), s) else gd (rg (v3 - v2)) (if (v3 - v2) ≤ 16 then nam_findBytes_28 c0 a0 b0 n0 v2 v3 v2 s else some ((-1), s))))
theorem tnam_findBytes (w : ev_W) (d : Nat) (hd : 2 ≤ d) (c0 : Nat) (a0 : Nat) (b0 : Nat) (n0 : Nat) (h_c0 : Ho hT c0 2 [some a0, some b0, none]) (h_a0 : Ha hT a0 1 n0) (h_b0 : Ha hT b0 1 n0) (hl_n0 : n0 < 2147483648) (v2 : Int) (v3 : Int) (s : iS) : Ew hT w d 219 0 [(0, .ref (tb_nK + c0)), (1, .ref (tb_nK + 1)), (2, iv v2), (3, iv v3)] [] s (Ci hT) (nam_findBytes c0 a0 b0 n0 v2 v3 s) := by
  unfold nam_findBytes
  refine e_mv 1 em_219 (ce_at ce_219 0 rfl) rfl rfl ?_
  refine e_gd fun g1 => ?_
  refine e_iflt 23 4 em_219 rfl rfl (ce_at ce_219 1 rfl) g1 (fun h2 => ?_) (fun h2 => ?_)
  · refine e_op 24 em_219 (ce_at ce_219 14 rfl) rfl rfl ?_
    exact e_reti em_219 (ce_at ce_219 15 rfl)
  · refine e_mv 5 em_219 (ce_at ce_219 2 rfl) rfl rfl ?_
    refine e_mv 6 em_219 (ce_at ce_219 3 rfl) rfl rfl ?_
    refine e_alen 7 em_219 (ce_at ce_219 4 rfl) tq_1 (by decide) rfl rfl ?_
    refine e_gd fun g3 => ?_
    refine e_cmgt 23 10 em_219 rfl rfl (ce_at ce_219 5 rfl) g3 (by decide) (fun h4 => ?_) (fun h4 => ?_)
    · refine e_op 24 em_219 (ce_at ce_219 14 rfl) rfl rfl ?_
      exact e_reti em_219 (ce_at ce_219 15 rfl)
    · refine e_mv 11 em_219 (ce_at ce_219 6 rfl) rfl rfl ?_
      refine e_mv 12 em_219 (ce_at ce_219 7 rfl) rfl rfl ?_
      refine e_cmle 23 15 em_219 rfl rfl (ce_at ce_219 8 rfl) g3 g1 (fun h5 => ?_) (fun h5 => ?_)
      · refine e_op 24 em_219 (ce_at ce_219 14 rfl) rfl rfl ?_
        exact e_reti em_219 (ce_at ce_219 15 rfl)
      · refine e_mv 16 em_219 (ce_at ce_219 9 rfl) rfl rfl ?_
        refine e_mv 17 em_219 (ce_at ce_219 10 rfl) rfl rfl ?_
        refine e_isub 18 em_219 rfl (ce_at ce_219 11 rfl) ?_
        refine e_bip 20 em_219 (ce_at ce_219 12 rfl) (by decide) rfl ?_
        refine e_gd fun g6 => ?_
        refine e_cmle 25 23 em_219 rfl rfl (ce_at ce_219 13 rfl) g6 (by decide) (fun h7 => ?_) (fun h7 => ?_)
        · refine e_mv 26 em_219 (ce_at ce_219 16 rfl) rfl rfl ?_
          refine e_mv 28 em_219 (ce_at ce_219 17 rfl) rfl rfl ?_
          refine e_pk [0, 1, 2, 3, 4] rfl rfl ?_
          exact tnam_findBytes_28 w d hd c0 a0 b0 n0 h_c0 h_a0 h_b0 hl_n0 _ _ _ _
        · refine e_op 24 em_219 (ce_at ce_219 14 rfl) rfl rfl ?_
          exact e_reti em_219 (ce_at ce_219 15 rfl)
theorem fnam_findBytes (c0 : Nat) (a0 : Nat) (b0 : Nat) (n0 : Nat) (v2 : Int) (v3 : Int) (s : iS) : Fm Prod.snd [] [] s (nam_findBytes c0 a0 b0 n0 v2 v3 s) := fm_gd (fm_if (fm_some md_refl) (fm_gd (fm_if (fm_some md_refl) (fm_if (fm_some md_refl) (fm_gd (fm_if (fnam_findBytes_28 c0 a0 b0 n0 _ _ _ _) (fm_some md_refl)))))))
/-! pro_stopAt -/
def L_pro_stopAt : List Nat := []
def G_pro_stopAt : List (Nat × Nat) := [(55, 14), (55, 15)]
noncomputable def pro_stopAt (v1 : Int) (v2 : Int) (s : iS) : Option (Int × iS) := gd (rg (s 55 14)) (if (s 55 14) = 0 then lt' (up s 55 14 v2) (fun s3 => lt' (up s3 55 15 v1) (fun s4 => some (0, s4))) else some (0, s))
theorem tpro_stopAt (w : ev_W) (d : Nat) (hd : 0 ≤ d) (v1 : Int) (v2 : Int) (s : iS) : Ew hT w d 216 0 [(0, .ref (tb_nK + 55)), (1, iv v1), (2, iv v2)] [] s (Cv hT) (pro_stopAt v1 v2 s) := by
  unfold pro_stopAt
  refine e_mv 1 em_216 (ce_at ce_216 0 rfl) rfl rfl ?_
  refine e_get 4 em_216 (ce_at ce_216 1 rfl) tq_55 rfl rfl ?_
  refine e_gd fun g1 => ?_
  refine e_ifne 17 7 em_216 rfl rfl (ce_at ce_216 2 rfl) g1 (fun h2 => ?_) (fun h2 => ?_)
  · exact e_retv em_216 (ce_at ce_216 9 rfl)
  · refine e_mv 8 em_216 (ce_at ce_216 3 rfl) rfl rfl ?_
    refine e_mv 9 em_216 (ce_at ce_216 4 rfl) rfl rfl ?_
    refine e_put 12 em_216 (ce_at ce_216 5 rfl) tq_55 rfl rfl rfl (fun s3 => ?_)
    refine e_mv 13 em_216 (ce_at ce_216 6 rfl) rfl rfl ?_
    refine e_mv 14 em_216 (ce_at ce_216 7 rfl) rfl rfl ?_
    refine e_put 17 em_216 (ce_at ce_216 8 rfl) tq_55 rfl rfl rfl (fun s4 => ?_)
    exact e_retv em_216 (ce_at ce_216 9 rfl)
theorem fpro_stopAt (v1 : Int) (v2 : Int) (s : iS) : Fm Prod.snd L_pro_stopAt G_pro_stopAt s (pro_stopAt v1 v2 s) := fm_gd (fm_if (fm_lt (md_upF (mem_F rfl)) (fun s3 => fm_lt (md_upF (mem_F rfl)) (fun s4 => fm_some md_refl))) (fm_some md_refl))
/-! pro_addWord -/
def L_pro_addWord : List Nat := [69]
def G_pro_addWord : List (Nat × Nat) := [(55, 8), (55, 14), (55, 15)]
noncomputable def pro_addWord (v1 : Int) (v2 : Int) (s : iS) : Option (Int × iS) := gd (rg (s 55 8)) (if (s 55 8) < 1500 then gd (0 ≤ (s 55 8) ∧ (s 55 8) < 1500) (lt' (up s 69 (s 55 8).toNat v2) (fun s4 => lt' (up s4 55 8 ((s4 55 8) + 1)) (fun s5 => some (0, s5)))) else bd (pro_stopAt v1 2 s) (fun _ s6 => some (0, s6)))
theorem tpro_addWord (w : ev_W) (d : Nat) (hd : 1 ≤ d) (v1 : Int) (v2 : Int) (s : iS) : Ew hT w d 215 0 [(0, .ref (tb_nK + 55)), (1, iv v1), (2, iv v2)] [] s (Cv hT) (pro_addWord v1 v2 s) := by
  unfold pro_addWord
  refine e_mv 1 em_215 (ce_at ce_215 0 rfl) rfl rfl ?_
  refine e_get 4 em_215 (ce_at ce_215 1 rfl) tq_55 rfl rfl ?_
  refine e_sip 7 em_215 (ce_at ce_215 2 rfl) (by decide) rfl ?_
  refine e_gd fun g1 => ?_
  refine e_cmlt 19 10 em_215 rfl rfl (ce_at ce_215 3 rfl) g1 (by decide) (fun h2 => ?_) (fun h2 => ?_)
  · refine e_mv 20 em_215 (ce_at ce_215 9 rfl) rfl rfl ?_
    refine e_getr 23 em_215 (ce_at ce_215 10 rfl) tq_55 rfl rfl ?_
    refine e_mv 24 em_215 (ce_at ce_215 11 rfl) rfl rfl ?_
    refine e_get 27 em_215 (ce_at ce_215 12 rfl) tq_55 rfl rfl ?_
    refine e_mv 28 em_215 (ce_at ce_215 13 rfl) rfl rfl ?_
    refine e_gd fun g3 => ?_
    refine e_ist 29 em_215 (ce_at ce_215 14 rfl) tq_69 (by decide) g3 rfl (fun s4 => ?_)
    refine e_mv 30 em_215 (ce_at ce_215 15 rfl) rfl rfl ?_
    refine e_op 31 em_215 (ce_at ce_215 16 rfl) rfl rfl ?_
    refine e_get 34 em_215 (ce_at ce_215 17 rfl) tq_55 rfl rfl ?_
    refine e_op 35 em_215 (ce_at ce_215 18 rfl) rfl rfl ?_
    refine e_iadd 36 em_215 rfl (ce_at ce_215 19 rfl) ?_
    refine e_put 39 em_215 (ce_at ce_215 20 rfl) tq_55 rfl rfl rfl (fun s5 => ?_)
    exact e_retv em_215 (ce_at ce_215 21 rfl)
  · refine e_mv 11 em_215 (ce_at ce_215 4 rfl) rfl rfl ?_
    refine e_mv 12 em_215 (ce_at ce_215 5 rfl) rfl rfl ?_
    refine e_op 13 em_215 (ce_at ce_215 6 rfl) rfl rfl ?_
    refine e_ivv 16 em_215 (ce_at ce_215 7 rfl) (by omega) (iv_v2 (by decide) tq_55 rfl) em_216 (Nat.le_of_ble_eq_true rfl) rfl (tpro_stopAt w (d - 1) (by omega) _ _ _) (fun r6 s6 => ?_)
    refine e_goto em_215 39 (ce_at ce_215 8 rfl) rfl ?_
    exact e_retv em_215 (ce_at ce_215 21 rfl)
theorem fpro_addWord (v1 : Int) (v2 : Int) (s : iS) : Fm Prod.snd L_pro_addWord G_pro_addWord s (pro_addWord v1 v2 s) := fm_gd (fm_if (fm_gd (fm_lt (md_upL (mem_L rfl)) (fun s4 => fm_lt (md_upF (mem_F rfl)) (fun s5 => fm_some md_refl)))) (fm_bd (fm_sub (fpro_stopAt _ _ _) (mem_sub_L rfl) (mem_sub_F rfl)) (fun r6 s6 => fm_some md_refl)))
/-! pro_readComputation -/
def L_pro_readComputation : List Nat := [69]
def G_pro_readComputation : List (Nat × Nat) := [(55, 8), (55, 14), (55, 15)]
noncomputable def pro_readComputation_172 (v1 : Int) (s : iS) : Option (Int × iS) := bd (pro_stopAt v1 1 s) (fun _ s1 => some (0, s1))
theorem tpro_readComputation_172 (w : ev_W) (d : Nat) (hd : 3 ≤ d) (v1 : Int) (s : iS) : Ew hT w d 221 172 [(0, .ref (tb_nK + 55)), (1, iv v1)] [] s (Cv hT) (pro_readComputation_172 v1 s) := by
  unfold pro_readComputation_172
  refine e_mv 173 em_221 (ce_at ce_221 93 rfl) rfl rfl ?_
  refine e_mv 174 em_221 (ce_at ce_221 94 rfl) rfl rfl ?_
  refine e_op 175 em_221 (ce_at ce_221 95 rfl) rfl rfl ?_
  refine e_ivv 178 em_221 (ce_at ce_221 96 rfl) (by omega) (iv_v2 (by decide) tq_55 rfl) em_216 (Nat.le_of_ble_eq_true rfl) rfl (tpro_stopAt w (d - 1) (by omega) _ _ _) (fun r1 s1 => ?_)
  refine e_goto em_221 207 (ce_at ce_221 97 rfl) rfl ?_
  exact e_retv em_221 (ce_at ce_221 114 rfl)
theorem fpro_readComputation_172 (v1 : Int) (s : iS) : Fm Prod.snd L_pro_readComputation G_pro_readComputation s (pro_readComputation_172 v1 s) := fm_bd (fm_sub (fpro_stopAt _ _ _) (mem_sub_L rfl) (mem_sub_F rfl)) (fun r1 s1 => fm_some md_refl)
noncomputable def pro_readComputation_145 (v1 : Int) (v5 : Int) (v6 : Int) (v7 : Int) (v8 : Int) (t0 : Int) (s : iS) : Option (Int × iS) := gd (rg v7) (if v7 = (-1) then pro_readComputation_172 v1 s else if 28 ≤ v7 then pro_readComputation_172 v1 s else gd (rg v8) (if v8 = 0 then gd (rg t0) (if t0 = 0 then gd (0 ≤ v7 ∧ v7 < 28) (bd (pro_addWord v1 (((57344 + (64 * (ka_4 v7.toNat).toInt)) + (8 * v5)) + v6) s) (fun _ s9 => some (0, s9))) else pro_readComputation_172 v1 s) else pro_readComputation_172 v1 s))
theorem tpro_readComputation_145 (w : ev_W) (d : Nat) (hd : 3 ≤ d) (v1 : Int) (v5 : Int) (v6 : Int) (v7 : Int) (v8 : Int) (t0 : Int) (s : iS) : Ew hT w d 221 145 [(0, .ref (tb_nK + 55)), (1, iv v1), (5, iv v5), (6, iv v6), (7, iv v7), (8, iv v8)] [iv t0] s (Cv hT) (pro_readComputation_145 v1 v5 v6 v7 v8 t0 s) := by
  unfold pro_readComputation_145
  refine e_mv 147 em_221 (ce_at ce_221 81 rfl) rfl rfl ?_
  refine e_mv 149 em_221 (ce_at ce_221 82 rfl) rfl rfl ?_
  refine e_op 150 em_221 (ce_at ce_221 83 rfl) rfl rfl ?_
  refine e_gd fun g1 => ?_
  refine e_cmeq 172 153 em_221 rfl rfl (ce_at ce_221 84 rfl) g1 (by decide) (fun h2 => ?_) (fun h2 => ?_)
  · refine e_pk [0, 1] rfl rfl ?_
    exact tpro_readComputation_172 w d hd _ _
  · refine e_mv 155 em_221 (ce_at ce_221 85 rfl) rfl rfl ?_
    refine e_gst 158 em_221 (ce_at ce_221 86 rfl) rfl rfl ?_
    refine e_alenk 159 em_221 (ce_at ce_221 87 rfl) (by decide) (kt_4 _ _) (by decide) rfl rfl ?_
    refine e_cmge 172 162 em_221 rfl rfl (ce_at ce_221 88 rfl) g1 (by decide) (fun h3 => ?_) (fun h3 => ?_)
    · refine e_pk [0, 1] rfl rfl ?_
      exact tpro_readComputation_172 w d hd _ _
    · refine e_mv 164 em_221 (ce_at ce_221 89 rfl) rfl rfl ?_
      refine e_gd fun g4 => ?_
      refine e_ifne 172 167 em_221 rfl rfl (ce_at ce_221 90 rfl) g4 (fun h5 => ?_) (fun h5 => ?_)
      · refine e_pk [0, 1] rfl rfl ?_
        exact tpro_readComputation_172 w d hd _ _
      · refine e_mv 169 em_221 (ce_at ce_221 91 rfl) rfl rfl ?_
        refine e_gd fun g6 => ?_
        refine e_ifeq 181 172 em_221 rfl rfl (ce_at ce_221 92 rfl) g6 (fun h7 => ?_) (fun h7 => ?_)
        · refine e_mv 182 em_221 (ce_at ce_221 98 rfl) rfl rfl ?_
          refine e_mv 183 em_221 (ce_at ce_221 99 rfl) rfl rfl ?_
          refine e_ldc 185 em_221 (ce_at ce_221 100 rfl) (x := 57344) rfl rfl ?_
          refine e_bip 187 em_221 (ce_at ce_221 101 rfl) (by decide) rfl ?_
          refine e_gst 190 em_221 (ce_at ce_221 102 rfl) rfl rfl ?_
          refine e_mv 192 em_221 (ce_at ce_221 103 rfl) rfl rfl ?_
          refine e_gd fun g8 => ?_
          refine e_ildk 193 em_221 (ce_at ce_221 104 rfl) (by decide) (kt_4 _ _) (by decide) g8 rfl ?_
          refine e_imul 194 em_221 rfl (ce_at ce_221 105 rfl) ?_
          refine e_iadd 195 em_221 rfl (ce_at ce_221 106 rfl) ?_
          refine e_bip 197 em_221 (ce_at ce_221 107 rfl) (by decide) rfl ?_
          refine e_mv 199 em_221 (ce_at ce_221 108 rfl) rfl rfl ?_
          refine e_imul 200 em_221 rfl (ce_at ce_221 109 rfl) ?_
          refine e_iadd 201 em_221 rfl (ce_at ce_221 110 rfl) ?_
          refine e_mv 203 em_221 (ce_at ce_221 111 rfl) rfl rfl ?_
          refine e_iadd 204 em_221 rfl (ce_at ce_221 112 rfl) ?_
          refine e_ivv 207 em_221 (ce_at ce_221 113 rfl) (by omega) (iv_v2 (by decide) tq_55 rfl) em_215 (Nat.le_of_ble_eq_true rfl) rfl (tpro_addWord w (d - 1) (by omega) _ _ _) (fun r9 s9 => ?_)
          exact e_retv em_221 (ce_at ce_221 114 rfl)
        · refine e_pk [0, 1] rfl rfl ?_
          exact tpro_readComputation_172 w d hd _ _
theorem fpro_readComputation_145 (v1 : Int) (v5 : Int) (v6 : Int) (v7 : Int) (v8 : Int) (t0 : Int) (s : iS) : Fm Prod.snd L_pro_readComputation G_pro_readComputation s (pro_readComputation_145 v1 v5 v6 v7 v8 t0 s) := fm_gd (fm_if (fpro_readComputation_172 _ _) (fm_if (fpro_readComputation_172 _ _) (fm_gd (fm_if (fm_gd (fm_if (fm_gd (fm_bd (fm_sub (fpro_addWord _ _ _) (mem_sub_L rfl) (mem_sub_F rfl)) (fun r9 s9 => fm_some md_refl))) (fpro_readComputation_172 _ _))) (fpro_readComputation_172 _ _)))))
noncomputable def pro_readComputation_144 (v1 : Int) (v5 : Int) (v6 : Int) (v7 : Int) (v8 : Int) (s : iS) : Option (Int × iS) := pro_readComputation_145 v1 v5 v6 v7 v8 0 s
theorem tpro_readComputation_144 (w : ev_W) (d : Nat) (hd : 3 ≤ d) (v1 : Int) (v5 : Int) (v6 : Int) (v7 : Int) (v8 : Int) (s : iS) : Ew hT w d 221 144 [(0, .ref (tb_nK + 55)), (1, iv v1), (5, iv v5), (6, iv v6), (7, iv v7), (8, iv v8)] [] s (Cv hT) (pro_readComputation_144 v1 v5 v6 v7 v8 s) := by
  unfold pro_readComputation_144
  refine e_op 145 em_221 (ce_at ce_221 80 rfl) rfl rfl ?_
  refine e_pk [0, 1, 5, 6, 7, 8] rfl rfl ?_
  exact tpro_readComputation_145 w d hd _ _ _ _ _ _ _
theorem fpro_readComputation_144 (v1 : Int) (v5 : Int) (v6 : Int) (v7 : Int) (v8 : Int) (s : iS) : Fm Prod.snd L_pro_readComputation G_pro_readComputation s (pro_readComputation_144 v1 v5 v6 v7 v8 s) := fpro_readComputation_145 _ _ _ _ _ _ _
noncomputable def pro_readComputation_127 (v1 : Int) (v4 : Int) (v5 : Int) (v6 : Int) (v7 : Int) (t0 : Int) (s : iS) : Option (Int × iS) := gd (rg v4) (if v4 = (-1) then pro_readComputation_144 v1 v5 v6 v7 t0 s else gd (rg v6) (if v6 = 0 then pro_readComputation_145 v1 v5 v6 v7 t0 1 s else pro_readComputation_144 v1 v5 v6 v7 t0 s))
theorem tpro_readComputation_127 (w : ev_W) (d : Nat) (hd : 3 ≤ d) (v1 : Int) (v4 : Int) (v5 : Int) (v6 : Int) (v7 : Int) (t0 : Int) (s : iS) : Ew hT w d 221 127 [(0, .ref (tb_nK + 55)), (1, iv v1), (4, iv v4), (5, iv v5), (6, iv v6), (7, iv v7)] [iv t0] s (Cv hT) (pro_readComputation_127 v1 v4 v5 v6 v7 t0 s) := by
  unfold pro_readComputation_127
  refine e_mv 129 em_221 (ce_at ce_221 72 rfl) rfl rfl ?_
  refine e_mv 131 em_221 (ce_at ce_221 73 rfl) rfl rfl ?_
  refine e_op 132 em_221 (ce_at ce_221 74 rfl) rfl rfl ?_
  refine e_gd fun g1 => ?_
  refine e_cmeq 144 135 em_221 rfl rfl (ce_at ce_221 75 rfl) g1 (by decide) (fun h2 => ?_) (fun h2 => ?_)
  · refine e_pk [0, 1, 5, 6, 7, 8] rfl rfl ?_
    exact tpro_readComputation_144 w d hd _ _ _ _ _ _
  · refine e_mv 137 em_221 (ce_at ce_221 76 rfl) rfl rfl ?_
    refine e_gd fun g3 => ?_
    refine e_ifne 144 140 em_221 rfl rfl (ce_at ce_221 77 rfl) g3 (fun h4 => ?_) (fun h4 => ?_)
    · refine e_pk [0, 1, 5, 6, 7, 8] rfl rfl ?_
      exact tpro_readComputation_144 w d hd _ _ _ _ _ _
    · refine e_op 141 em_221 (ce_at ce_221 78 rfl) rfl rfl ?_
      refine e_goto em_221 145 (ce_at ce_221 79 rfl) rfl ?_
      refine e_pk [0, 1, 5, 6, 7, 8] rfl rfl ?_
      exact tpro_readComputation_145 w d hd _ _ _ _ _ _ _
theorem fpro_readComputation_127 (v1 : Int) (v4 : Int) (v5 : Int) (v6 : Int) (v7 : Int) (t0 : Int) (s : iS) : Fm Prod.snd L_pro_readComputation G_pro_readComputation s (pro_readComputation_127 v1 v4 v5 v6 v7 t0 s) := fm_gd (fm_if (fpro_readComputation_144 _ _ _ _ _ _) (fm_gd (fm_if (fpro_readComputation_145 _ _ _ _ _ _ _) (fpro_readComputation_144 _ _ _ _ _ _))))
noncomputable def pro_readComputation_126 (v1 : Int) (v4 : Int) (v5 : Int) (v6 : Int) (v7 : Int) (s : iS) : Option (Int × iS) := pro_readComputation_127 v1 v4 v5 v6 v7 0 s
theorem tpro_readComputation_126 (w : ev_W) (d : Nat) (hd : 3 ≤ d) (v1 : Int) (v4 : Int) (v5 : Int) (v6 : Int) (v7 : Int) (s : iS) : Ew hT w d 221 126 [(0, .ref (tb_nK + 55)), (1, iv v1), (4, iv v4), (5, iv v5), (6, iv v6), (7, iv v7)] [] s (Cv hT) (pro_readComputation_126 v1 v4 v5 v6 v7 s) := by
  unfold pro_readComputation_126
  refine e_op 127 em_221 (ce_at ce_221 71 rfl) rfl rfl ?_
  refine e_pk [0, 1, 4, 5, 6, 7] rfl rfl ?_
  exact tpro_readComputation_127 w d hd _ _ _ _ _ _ _
theorem fpro_readComputation_126 (v1 : Int) (v4 : Int) (v5 : Int) (v6 : Int) (v7 : Int) (s : iS) : Fm Prod.snd L_pro_readComputation G_pro_readComputation s (pro_readComputation_126 v1 v4 v5 v6 v7 s) := fpro_readComputation_127 _ _ _ _ _ _ _
noncomputable def pro_readComputation_107 (v1 : Int) (v3 : Int) (v4 : Int) (v5 : Int) (v6 : Int) (t0 : Int) (t1 : Int) (s : iS) : Option (Int × iS) := bd (nam_findBytes 56 57 58 28 t1 t0 s) (fun r1 s1 => gd (rg v3) (if v3 = (-1) then pro_readComputation_126 v1 v4 v5 v6 r1 s1 else gd (rg v5) (if v5 = 0 then pro_readComputation_127 v1 v4 v5 v6 r1 1 s1 else pro_readComputation_126 v1 v4 v5 v6 r1 s1)))
theorem tpro_readComputation_107 (w : ev_W) (d : Nat) (hd : 3 ≤ d) (v1 : Int) (v3 : Int) (v4 : Int) (v5 : Int) (v6 : Int) (t0 : Int) (t1 : Int) (s : iS) : Ew hT w d 221 107 [(0, .ref (tb_nK + 55)), (1, iv v1), (3, iv v3), (4, iv v4), (5, iv v5), (6, iv v6)] [iv t0, iv t1, .ref (tb_nK + 1), .ref (tb_nK + 56)] s (Cv hT) (pro_readComputation_107 v1 v3 v4 v5 v6 t0 t1 s) := by
  unfold pro_readComputation_107
  refine e_ivi 110 em_221 (ce_at ce_221 62 rfl) (by omega) (iv_v3 (by decide) tq_56 rfl) em_219 (Nat.le_of_ble_eq_true rfl) rfl (tnam_findBytes w (d - 1) (by omega) 56 57 58 28 tq_56 tq_57 tq_58 (by decide) _ _ _) (fun r1 s1 => ?_)
  refine e_mv 112 em_221 (ce_at ce_221 63 rfl) rfl rfl ?_
  refine e_mv 113 em_221 (ce_at ce_221 64 rfl) rfl rfl ?_
  refine e_op 114 em_221 (ce_at ce_221 65 rfl) rfl rfl ?_
  refine e_gd fun g2 => ?_
  refine e_cmeq 126 117 em_221 rfl rfl (ce_at ce_221 66 rfl) g2 (by decide) (fun h3 => ?_) (fun h3 => ?_)
  · refine e_pk [0, 1, 4, 5, 6, 7] rfl rfl ?_
    exact tpro_readComputation_126 w d hd _ _ _ _ _ _
  · refine e_mv 119 em_221 (ce_at ce_221 67 rfl) rfl rfl ?_
    refine e_gd fun g4 => ?_
    refine e_ifne 126 122 em_221 rfl rfl (ce_at ce_221 68 rfl) g4 (fun h5 => ?_) (fun h5 => ?_)
    · refine e_pk [0, 1, 4, 5, 6, 7] rfl rfl ?_
      exact tpro_readComputation_126 w d hd _ _ _ _ _ _
    · refine e_op 123 em_221 (ce_at ce_221 69 rfl) rfl rfl ?_
      refine e_goto em_221 127 (ce_at ce_221 70 rfl) rfl ?_
      refine e_pk [0, 1, 4, 5, 6, 7] rfl rfl ?_
      exact tpro_readComputation_127 w d hd _ _ _ _ _ _ _
theorem fpro_readComputation_107 (v1 : Int) (v3 : Int) (v4 : Int) (v5 : Int) (v6 : Int) (t0 : Int) (t1 : Int) (s : iS) : Fm Prod.snd L_pro_readComputation G_pro_readComputation s (pro_readComputation_107 v1 v3 v4 v5 v6 t0 t1 s) := fm_bd (fm_sub (fnam_findBytes 56 57 58 28 _ _ _) (mem_sub_L rfl) (mem_sub_F rfl)) (fun r1 s1 => fm_gd (fm_if (fpro_readComputation_126 _ _ _ _ _ _) (fm_gd (fm_if (fpro_readComputation_127 _ _ _ _ _ _ _) (fpro_readComputation_126 _ _ _ _ _ _)))))
noncomputable def pro_readComputation_95 (v1 : Int) (v2 : Int) (v3 : Int) (v4 : Int) (v5 : Int) (v6 : Int) (t0 : Int) (s : iS) : Option (Int × iS) := gd (rg v4) (if v4 = (-1) then pro_readComputation_107 v1 v3 v4 v5 v6 v2 t0 s else pro_readComputation_107 v1 v3 v4 v5 v6 v4 t0 s)
theorem tpro_readComputation_95 (w : ev_W) (d : Nat) (hd : 3 ≤ d) (v1 : Int) (v2 : Int) (v3 : Int) (v4 : Int) (v5 : Int) (v6 : Int) (t0 : Int) (s : iS) : Ew hT w d 221 95 [(0, .ref (tb_nK + 55)), (1, iv v1), (2, iv v2), (3, iv v3), (4, iv v4), (5, iv v5), (6, iv v6)] [iv t0, .ref (tb_nK + 1), .ref (tb_nK + 56)] s (Cv hT) (pro_readComputation_95 v1 v2 v3 v4 v5 v6 t0 s) := by
  unfold pro_readComputation_95
  refine e_mv 97 em_221 (ce_at ce_221 56 rfl) rfl rfl ?_
  refine e_op 98 em_221 (ce_at ce_221 57 rfl) rfl rfl ?_
  refine e_gd fun g1 => ?_
  refine e_cmne 105 101 em_221 rfl rfl (ce_at ce_221 58 rfl) g1 (by decide) (fun h2 => ?_) (fun h2 => ?_)
  · refine e_mv 107 em_221 (ce_at ce_221 61 rfl) rfl rfl ?_
    refine e_pk [0, 1, 3, 4, 5, 6] rfl rfl ?_
    exact tpro_readComputation_107 w d hd _ _ _ _ _ _ _ _
  · refine e_mv 102 em_221 (ce_at ce_221 59 rfl) rfl rfl ?_
    refine e_goto em_221 107 (ce_at ce_221 60 rfl) rfl ?_
    refine e_pk [0, 1, 3, 4, 5, 6] rfl rfl ?_
    exact tpro_readComputation_107 w d hd _ _ _ _ _ _ _ _
theorem fpro_readComputation_95 (v1 : Int) (v2 : Int) (v3 : Int) (v4 : Int) (v5 : Int) (v6 : Int) (t0 : Int) (s : iS) : Fm Prod.snd L_pro_readComputation G_pro_readComputation s (pro_readComputation_95 v1 v2 v3 v4 v5 v6 t0 s) := fm_gd (fm_if (fpro_readComputation_107 _ _ _ _ _ _ _ _) (fpro_readComputation_107 _ _ _ _ _ _ _ _))
noncomputable def pro_readComputation_73 (v1 : Int) (v2 : Int) (v3 : Int) (v4 : Int) (v5 : Int) (t0 : Int) (s : iS) : Option (Int × iS) := gd (rg v3) (if v3 = (-1) then pro_readComputation_95 v1 v2 v3 v4 v5 t0 v1 s else pro_readComputation_95 v1 v2 v3 v4 v5 t0 (v3 + 1) s)
theorem tpro_readComputation_73 (w : ev_W) (d : Nat) (hd : 3 ≤ d) (v1 : Int) (v2 : Int) (v3 : Int) (v4 : Int) (v5 : Int) (t0 : Int) (s : iS) : Ew hT w d 221 73 [(0, .ref (tb_nK + 55)), (1, iv v1), (2, iv v2), (3, iv v3), (4, iv v4), (5, iv v5)] [iv t0] s (Cv hT) (pro_readComputation_73 v1 v2 v3 v4 v5 t0 s) := by
  unfold pro_readComputation_73
  refine e_mv 75 em_221 (ce_at ce_221 43 rfl) rfl rfl ?_
  refine e_mv 76 em_221 (ce_at ce_221 44 rfl) rfl rfl ?_
  refine e_getr 79 em_221 (ce_at ce_221 45 rfl) tq_55 rfl rfl ?_
  refine e_mv 80 em_221 (ce_at ce_221 46 rfl) rfl rfl ?_
  refine e_getr 83 em_221 (ce_at ce_221 47 rfl) tq_55 rfl rfl ?_
  refine e_mv 84 em_221 (ce_at ce_221 48 rfl) rfl rfl ?_
  refine e_op 85 em_221 (ce_at ce_221 49 rfl) rfl rfl ?_
  refine e_gd fun g1 => ?_
  refine e_cmne 92 88 em_221 rfl rfl (ce_at ce_221 50 rfl) g1 (by decide) (fun h2 => ?_) (fun h2 => ?_)
  · refine e_mv 93 em_221 (ce_at ce_221 53 rfl) rfl rfl ?_
    refine e_op 94 em_221 (ce_at ce_221 54 rfl) rfl rfl ?_
    refine e_iadd 95 em_221 rfl (ce_at ce_221 55 rfl) ?_
    refine e_pk [0, 1, 2, 3, 4, 5, 6] rfl rfl ?_
    exact tpro_readComputation_95 w d hd _ _ _ _ _ _ _ _
  · refine e_mv 89 em_221 (ce_at ce_221 51 rfl) rfl rfl ?_
    refine e_goto em_221 95 (ce_at ce_221 52 rfl) rfl ?_
    refine e_pk [0, 1, 2, 3, 4, 5, 6] rfl rfl ?_
    exact tpro_readComputation_95 w d hd _ _ _ _ _ _ _ _
theorem fpro_readComputation_73 (v1 : Int) (v2 : Int) (v3 : Int) (v4 : Int) (v5 : Int) (t0 : Int) (s : iS) : Fm Prod.snd L_pro_readComputation G_pro_readComputation s (pro_readComputation_73 v1 v2 v3 v4 v5 t0 s) := fm_gd (fm_if (fpro_readComputation_95 _ _ _ _ _ _ _ _) (fpro_readComputation_95 _ _ _ _ _ _ _ _))
noncomputable def pro_readComputation_43 (v1 : Int) (v2 : Int) (v3 : Int) (v4 : Int) (t0 : Int) (s : iS) : Option (Int × iS) := gd (rg v4) (if v4 = (-1) then pro_readComputation_73 v1 v2 v3 v4 t0 0 s else bd (nam_findBytes 62 63 64 7 (v4 + 1) v2 s) (fun r3 s3 => pro_readComputation_73 v1 v2 v3 v4 t0 (1 + r3) s3))
theorem tpro_readComputation_43 (w : ev_W) (d : Nat) (hd : 3 ≤ d) (v1 : Int) (v2 : Int) (v3 : Int) (v4 : Int) (t0 : Int) (s : iS) : Ew hT w d 221 43 [(0, .ref (tb_nK + 55)), (1, iv v1), (2, iv v2), (3, iv v3), (4, iv v4)] [iv t0] s (Cv hT) (pro_readComputation_43 v1 v2 v3 v4 t0 s) := by
  unfold pro_readComputation_43
  refine e_mv 45 em_221 (ce_at ce_221 26 rfl) rfl rfl ?_
  refine e_mv 47 em_221 (ce_at ce_221 27 rfl) rfl rfl ?_
  refine e_op 48 em_221 (ce_at ce_221 28 rfl) rfl rfl ?_
  refine e_gd fun g1 => ?_
  refine e_cmne 55 51 em_221 rfl rfl (ce_at ce_221 29 rfl) g1 (by decide) (fun h2 => ?_) (fun h2 => ?_)
  · refine e_op 56 em_221 (ce_at ce_221 32 rfl) rfl rfl ?_
    refine e_mv 57 em_221 (ce_at ce_221 33 rfl) rfl rfl ?_
    refine e_getr 60 em_221 (ce_at ce_221 34 rfl) tq_55 rfl rfl ?_
    refine e_mv 61 em_221 (ce_at ce_221 35 rfl) rfl rfl ?_
    refine e_getr 64 em_221 (ce_at ce_221 36 rfl) tq_55 rfl rfl ?_
    refine e_mv 66 em_221 (ce_at ce_221 37 rfl) rfl rfl ?_
    refine e_op 67 em_221 (ce_at ce_221 38 rfl) rfl rfl ?_
    refine e_iadd 68 em_221 rfl (ce_at ce_221 39 rfl) ?_
    refine e_mv 69 em_221 (ce_at ce_221 40 rfl) rfl rfl ?_
    refine e_ivi 72 em_221 (ce_at ce_221 41 rfl) (by omega) (iv_v3 (by decide) tq_62 rfl) em_219 (Nat.le_of_ble_eq_true rfl) rfl (tnam_findBytes w (d - 1) (by omega) 62 63 64 7 tq_62 tq_63 tq_64 (by decide) _ _ _) (fun r3 s3 => ?_)
    refine e_iadd 73 em_221 rfl (ce_at ce_221 42 rfl) ?_
    refine e_pk [0, 1, 2, 3, 4, 5] rfl rfl ?_
    exact tpro_readComputation_73 w d hd _ _ _ _ _ _ _
  · refine e_op 52 em_221 (ce_at ce_221 30 rfl) rfl rfl ?_
    refine e_goto em_221 73 (ce_at ce_221 31 rfl) rfl ?_
    refine e_pk [0, 1, 2, 3, 4, 5] rfl rfl ?_
    exact tpro_readComputation_73 w d hd _ _ _ _ _ _ _
theorem fpro_readComputation_43 (v1 : Int) (v2 : Int) (v3 : Int) (v4 : Int) (t0 : Int) (s : iS) : Fm Prod.snd L_pro_readComputation G_pro_readComputation s (pro_readComputation_43 v1 v2 v3 v4 t0 s) := fm_gd (fm_if (fpro_readComputation_73 _ _ _ _ _ _ _) (fm_bd (fm_sub (fnam_findBytes 62 63 64 7 _ _ _) (mem_sub_L rfl) (mem_sub_F rfl)) (fun r3 s3 => fpro_readComputation_73 _ _ _ _ _ _ _)))
noncomputable def pro_readComputation (v1 : Int) (v2 : Int) (s : iS) : Option (Int × iS) := bd (pro_find 61 v1 v2 s) (fun r1 s1 => bd (pro_find 59 v1 v2 s1) (fun r2 s2 => gd (rg r1) (if r1 = (-1) then pro_readComputation_43 v1 v2 r1 r2 0 s2 else bd (nam_findBytes 59 60 61 7 v1 r1 s2) (fun r5 s5 => pro_readComputation_43 v1 v2 r1 r2 (1 + r5) s5))))
theorem tpro_readComputation (w : ev_W) (d : Nat) (hd : 3 ≤ d) (v1 : Int) (v2 : Int) (s : iS) : Ew hT w d 221 0 [(0, .ref (tb_nK + 55)), (1, iv v1), (2, iv v2)] [] s (Cv hT) (pro_readComputation v1 v2 s) := by
  unfold pro_readComputation
  refine e_mv 1 em_221 (ce_at ce_221 0 rfl) rfl rfl ?_
  refine e_bip 3 em_221 (ce_at ce_221 1 rfl) (by decide) rfl ?_
  refine e_mv 4 em_221 (ce_at ce_221 2 rfl) rfl rfl ?_
  refine e_mv 5 em_221 (ce_at ce_221 3 rfl) rfl rfl ?_
  refine e_ivi 8 em_221 (ce_at ce_221 4 rfl) (by omega) (iv_v3 (by decide) tq_55 rfl) em_222 (Nat.le_of_ble_eq_true rfl) rfl (tpro_find w (d - 1) (by omega) _ _ _ _) (fun r1 s1 => ?_)
  refine e_mv 9 em_221 (ce_at ce_221 5 rfl) rfl rfl ?_
  refine e_mv 10 em_221 (ce_at ce_221 6 rfl) rfl rfl ?_
  refine e_bip 12 em_221 (ce_at ce_221 7 rfl) (by decide) rfl ?_
  refine e_mv 13 em_221 (ce_at ce_221 8 rfl) rfl rfl ?_
  refine e_mv 14 em_221 (ce_at ce_221 9 rfl) rfl rfl ?_
  refine e_ivi 17 em_221 (ce_at ce_221 10 rfl) (by omega) (iv_v3 (by decide) tq_55 rfl) em_222 (Nat.le_of_ble_eq_true rfl) rfl (tpro_find w (d - 1) (by omega) _ _ _ _) (fun r2 s2 => ?_)
  refine e_mv 19 em_221 (ce_at ce_221 11 rfl) rfl rfl ?_
  refine e_mv 20 em_221 (ce_at ce_221 12 rfl) rfl rfl ?_
  refine e_op 21 em_221 (ce_at ce_221 13 rfl) rfl rfl ?_
  refine e_gd fun g3 => ?_
  refine e_cmne 28 24 em_221 rfl rfl (ce_at ce_221 14 rfl) g3 (by decide) (fun h4 => ?_) (fun h4 => ?_)
  · refine e_op 29 em_221 (ce_at ce_221 17 rfl) rfl rfl ?_
    refine e_mv 30 em_221 (ce_at ce_221 18 rfl) rfl rfl ?_
    refine e_getr 33 em_221 (ce_at ce_221 19 rfl) tq_55 rfl rfl ?_
    refine e_mv 34 em_221 (ce_at ce_221 20 rfl) rfl rfl ?_
    refine e_getr 37 em_221 (ce_at ce_221 21 rfl) tq_55 rfl rfl ?_
    refine e_mv 38 em_221 (ce_at ce_221 22 rfl) rfl rfl ?_
    refine e_mv 39 em_221 (ce_at ce_221 23 rfl) rfl rfl ?_
    refine e_ivi 42 em_221 (ce_at ce_221 24 rfl) (by omega) (iv_v3 (by decide) tq_59 rfl) em_219 (Nat.le_of_ble_eq_true rfl) rfl (tnam_findBytes w (d - 1) (by omega) 59 60 61 7 tq_59 tq_60 tq_61 (by decide) _ _ _) (fun r5 s5 => ?_)
    refine e_iadd 43 em_221 rfl (ce_at ce_221 25 rfl) ?_
    refine e_pk [0, 1, 2, 3, 4] rfl rfl ?_
    exact tpro_readComputation_43 w d hd _ _ _ _ _ _
  · refine e_op 25 em_221 (ce_at ce_221 15 rfl) rfl rfl ?_
    refine e_goto em_221 43 (ce_at ce_221 16 rfl) rfl ?_
    refine e_pk [0, 1, 2, 3, 4] rfl rfl ?_
    exact tpro_readComputation_43 w d hd _ _ _ _ _ _
theorem fpro_readComputation (v1 : Int) (v2 : Int) (s : iS) : Fm Prod.snd L_pro_readComputation G_pro_readComputation s (pro_readComputation v1 v2 s) := fm_bd (fm_sub (fpro_find _ _ _ _) (mem_sub_L rfl) (mem_sub_F rfl)) (fun r1 s1 => fm_bd (fm_sub (fpro_find _ _ _ _) (mem_sub_L rfl) (mem_sub_F rfl)) (fun r2 s2 => fm_gd (fm_if (fpro_readComputation_43 _ _ _ _ _ _) (fm_bd (fm_sub (fnam_findBytes 59 60 61 7 _ _ _) (mem_sub_L rfl) (mem_sub_F rfl)) (fun r5 s5 => fpro_readComputation_43 _ _ _ _ _ _)))))
/-! pro_isSymbol -/
def L_pro_isSymbol : List Nat := []
def G_pro_isSymbol : List (Nat × Nat) := []
def pro_isSymbol_29C (w : ev_W) (d : Nat) (v2 : Int) : (Int × iS) ⊕ ((iS) ⊕ (iS)) → am_E → Prop := fun q r => q.elim (fun l => ev w d 217 29 ((fun l => [(0, .ref (tb_nK + 55)), (2, iv v2), (3, iv (l.1))]) l) [] (hT ((fun l => l.2) l)) r) (fun e => (fun e r => e.elim (fun e => ev w d 217 114 [] [] (hT (e)) r) (fun e => ev w d 217 122 [] [] (hT (e)) r)) e r)
noncomputable def pro_isSymbol_83 (v2 : Int) (v3 : Int) (t0 : Int) (s : iS) : Option ((Int × iS) ⊕ ((iS) ⊕ (iS))) := gd (rg t0) (if t0 = 0 then gd (0 ≤ v3 ∧ v3 < 4000) (bd (x_isLetter (s 1 v3.toNat) s) (fun r4 s4 => gd (rg r4) (if r4 = 0 then bd (x_isDigit (s4 1 v3.toNat) s4) (fun r7 s7 => gd (rg r7) (if r7 = 0 then some (.inr (.inl s7)) else some (.inl ((v3 + 1), s7)))) else some (.inl ((v3 + 1), s4))))) else some (.inl ((v3 + 1), s)))
theorem tpro_isSymbol_83 (w : ev_W) (d : Nat) (hd : 1 ≤ d) (v2 : Int) (v3 : Int) (t0 : Int) (s : iS) : Ew hT w d 217 83 [(0, .ref (tb_nK + 55)), (2, iv v2), (3, iv v3)] [iv t0] s (pro_isSymbol_29C w d v2) (pro_isSymbol_83 v2 v3 t0 s) := by
  unfold pro_isSymbol_83
  refine e_mv 85 em_217 (ce_at ce_217 48 rfl) rfl rfl ?_
  refine e_mv 87 em_217 (ce_at ce_217 49 rfl) rfl rfl ?_
  refine e_gd fun g1 => ?_
  refine e_ifne 116 90 em_217 rfl rfl (ce_at ce_217 50 rfl) g1 (fun h2 => ?_) (fun h2 => ?_)
  · refine e_iinc 119 em_217 (ce_at ce_217 65 rfl) rfl (by decide) rfl ?_
    refine e_goto em_217 29 (ce_at ce_217 66 rfl) rfl ?_
    refine e_pk [0, 2, 3] rfl rfl ?_
    exact e_out (fun r h => h)
  · refine e_mv 91 em_217 (ce_at ce_217 51 rfl) rfl rfl ?_
    refine e_getr 94 em_217 (ce_at ce_217 52 rfl) tq_55 rfl rfl ?_
    refine e_mv 95 em_217 (ce_at ce_217 53 rfl) rfl rfl ?_
    refine e_gd fun g3 => ?_
    refine e_ild 96 em_217 (ce_at ce_217 54 rfl) tq_1 (by decide) g3 rfl ?_
    refine e_ivi 99 em_217 (ce_at ce_217 55 rfl) (by omega) (iv_s1 rfl) em_41 (Nat.le_of_ble_eq_true rfl) rfl (tx_isLetter hT w (d - 1) (by omega) _ _) (fun r4 s4 => ?_)
    refine e_gd fun g5 => ?_
    refine e_ifne 116 102 em_217 rfl rfl (ce_at ce_217 56 rfl) g5 (fun h6 => ?_) (fun h6 => ?_)
    · refine e_iinc 119 em_217 (ce_at ce_217 65 rfl) rfl (by decide) rfl ?_
      refine e_goto em_217 29 (ce_at ce_217 66 rfl) rfl ?_
      refine e_pk [0, 2, 3] rfl rfl ?_
      exact e_out (fun r h => h)
    · refine e_mv 103 em_217 (ce_at ce_217 57 rfl) rfl rfl ?_
      refine e_getr 106 em_217 (ce_at ce_217 58 rfl) tq_55 rfl rfl ?_
      refine e_mv 107 em_217 (ce_at ce_217 59 rfl) rfl rfl ?_
      refine e_ild 108 em_217 (ce_at ce_217 60 rfl) tq_1 (by decide) g3 rfl ?_
      refine e_ivi 111 em_217 (ce_at ce_217 61 rfl) (by omega) (iv_s1 rfl) em_38 (Nat.le_of_ble_eq_true rfl) rfl (tx_isDigit hT w (d - 1) (by omega) _ _) (fun r7 s7 => ?_)
      refine e_gd fun g8 => ?_
      refine e_ifne 116 114 em_217 rfl rfl (ce_at ce_217 62 rfl) g8 (fun h9 => ?_) (fun h9 => ?_)
      · refine e_iinc 119 em_217 (ce_at ce_217 65 rfl) rfl (by decide) rfl ?_
        refine e_goto em_217 29 (ce_at ce_217 66 rfl) rfl ?_
        refine e_pk [0, 2, 3] rfl rfl ?_
        exact e_out (fun r h => h)
      · refine e_pk [] rfl rfl ?_
        exact e_out (fun r h => h)
theorem fpro_isSymbol_83 (v2 : Int) (v3 : Int) (t0 : Int) (s : iS) : Fm (fun r : (Int × iS) ⊕ ((iS) ⊕ (iS)) => r.elim (fun l => l.2) (fun e => e.elim (fun e => e) (fun e => e))) L_pro_isSymbol G_pro_isSymbol s (pro_isSymbol_83 v2 v3 t0 s) := fm_gd (fm_if (fm_gd (fm_bd (fm_sub (fx_isLetter _ _) (mem_sub_L rfl) (mem_sub_F rfl)) (fun r4 s4 => fm_gd (fm_if (fm_bd (fm_sub (fx_isDigit _ _) (mem_sub_L rfl) (mem_sub_F rfl)) (fun r7 s7 => fm_gd (fm_if (fm_some md_refl) (fm_some md_refl)))) (fm_some md_refl))))) (fm_some md_refl))
noncomputable def pro_isSymbol_78 (v2 : Int) (v3 : Int) (s : iS) : Option ((Int × iS) ⊕ ((iS) ⊕ (iS))) := pro_isSymbol_83 v2 v3 1 s
theorem tpro_isSymbol_78 (w : ev_W) (d : Nat) (hd : 1 ≤ d) (v2 : Int) (v3 : Int) (s : iS) : Ew hT w d 217 78 [(0, .ref (tb_nK + 55)), (2, iv v2), (3, iv v3)] [] s (pro_isSymbol_29C w d v2) (pro_isSymbol_78 v2 v3 s) := by
  unfold pro_isSymbol_78
  refine e_op 79 em_217 (ce_at ce_217 45 rfl) rfl rfl ?_
  refine e_goto em_217 83 (ce_at ce_217 46 rfl) rfl ?_
  refine e_pk [0, 2, 3] rfl rfl ?_
  exact tpro_isSymbol_83 w d hd _ _ _ _
theorem fpro_isSymbol_78 (v2 : Int) (v3 : Int) (s : iS) : Fm (fun r : (Int × iS) ⊕ ((iS) ⊕ (iS)) => r.elim (fun l => l.2) (fun e => e.elim (fun e => e) (fun e => e))) L_pro_isSymbol G_pro_isSymbol s (pro_isSymbol_78 v2 v3 s) := fpro_isSymbol_83 _ _ _ _
noncomputable def pro_isSymbol_29b (v2 : Int) (v3 : Int) (s : iS) : Option ((Int × iS) ⊕ ((iS) ⊕ (iS))) := gd (rg v3) (gd (rg v2) (if v2 ≤ v3 then some (.inr (.inr s)) else gd (0 ≤ v3 ∧ v3 < 4000) (gd (rg (s 1 v3.toNat)) (if (s 1 v3.toNat) = 95 then pro_isSymbol_78 v2 v3 s else if (s 1 v3.toNat) = 46 then pro_isSymbol_78 v2 v3 s else if (s 1 v3.toNat) = 36 then pro_isSymbol_78 v2 v3 s else if (s 1 v3.toNat) = 58 then pro_isSymbol_78 v2 v3 s else pro_isSymbol_83 v2 v3 0 s))))
theorem tpro_isSymbol_29b (w : ev_W) (d : Nat) (hd : 1 ≤ d) (v2 : Int) (v3 : Int) (s : iS) : Ew hT w d 217 29 [(0, .ref (tb_nK + 55)), (2, iv v2), (3, iv v3)] [] s (pro_isSymbol_29C w d v2) (pro_isSymbol_29b v2 v3 s) := by
  unfold pro_isSymbol_29b
  refine e_mv 30 em_217 (ce_at ce_217 18 rfl) rfl rfl ?_
  refine e_mv 31 em_217 (ce_at ce_217 19 rfl) rfl rfl ?_
  refine e_gd fun g1 => ?_
  refine e_gd fun g2 => ?_
  refine e_cmge 122 34 em_217 rfl rfl (ce_at ce_217 20 rfl) g1 g2 (fun h3 => ?_) (fun h3 => ?_)
  · refine e_pk [] rfl rfl ?_
    exact e_out (fun r h => h)
  · refine e_mv 35 em_217 (ce_at ce_217 21 rfl) rfl rfl ?_
    refine e_getr 38 em_217 (ce_at ce_217 22 rfl) tq_55 rfl rfl ?_
    refine e_mv 39 em_217 (ce_at ce_217 23 rfl) rfl rfl ?_
    refine e_gd fun g4 => ?_
    refine e_ild 40 em_217 (ce_at ce_217 24 rfl) tq_1 (by decide) g4 rfl ?_
    refine e_bip 42 em_217 (ce_at ce_217 25 rfl) (by decide) rfl ?_
    refine e_gd fun g5 => ?_
    refine e_cmeq 78 45 em_217 rfl rfl (ce_at ce_217 26 rfl) g5 (by decide) (fun h6 => ?_) (fun h6 => ?_)
    · refine e_pk [0, 2, 3] rfl rfl ?_
      exact tpro_isSymbol_78 w d hd _ _ _
    · refine e_mv 46 em_217 (ce_at ce_217 27 rfl) rfl rfl ?_
      refine e_getr 49 em_217 (ce_at ce_217 28 rfl) tq_55 rfl rfl ?_
      refine e_mv 50 em_217 (ce_at ce_217 29 rfl) rfl rfl ?_
      refine e_ild 51 em_217 (ce_at ce_217 30 rfl) tq_1 (by decide) g4 rfl ?_
      refine e_bip 53 em_217 (ce_at ce_217 31 rfl) (by decide) rfl ?_
      refine e_cmeq 78 56 em_217 rfl rfl (ce_at ce_217 32 rfl) g5 (by decide) (fun h7 => ?_) (fun h7 => ?_)
      · refine e_pk [0, 2, 3] rfl rfl ?_
        exact tpro_isSymbol_78 w d hd _ _ _
      · refine e_mv 57 em_217 (ce_at ce_217 33 rfl) rfl rfl ?_
        refine e_getr 60 em_217 (ce_at ce_217 34 rfl) tq_55 rfl rfl ?_
        refine e_mv 61 em_217 (ce_at ce_217 35 rfl) rfl rfl ?_
        refine e_ild 62 em_217 (ce_at ce_217 36 rfl) tq_1 (by decide) g4 rfl ?_
        refine e_bip 64 em_217 (ce_at ce_217 37 rfl) (by decide) rfl ?_
        refine e_cmeq 78 67 em_217 rfl rfl (ce_at ce_217 38 rfl) g5 (by decide) (fun h8 => ?_) (fun h8 => ?_)
        · refine e_pk [0, 2, 3] rfl rfl ?_
          exact tpro_isSymbol_78 w d hd _ _ _
        · refine e_mv 68 em_217 (ce_at ce_217 39 rfl) rfl rfl ?_
          refine e_getr 71 em_217 (ce_at ce_217 40 rfl) tq_55 rfl rfl ?_
          refine e_mv 72 em_217 (ce_at ce_217 41 rfl) rfl rfl ?_
          refine e_ild 73 em_217 (ce_at ce_217 42 rfl) tq_1 (by decide) g4 rfl ?_
          refine e_bip 75 em_217 (ce_at ce_217 43 rfl) (by decide) rfl ?_
          refine e_cmne 82 78 em_217 rfl rfl (ce_at ce_217 44 rfl) g5 (by decide) (fun h9 => ?_) (fun h9 => ?_)
          · refine e_op 83 em_217 (ce_at ce_217 47 rfl) rfl rfl ?_
            refine e_pk [0, 2, 3] rfl rfl ?_
            exact tpro_isSymbol_83 w d hd _ _ _ _
          · refine e_pk [0, 2, 3] rfl rfl ?_
            exact tpro_isSymbol_78 w d hd _ _ _
theorem fpro_isSymbol_29b (v2 : Int) (v3 : Int) (s : iS) : Fm (fun r : (Int × iS) ⊕ ((iS) ⊕ (iS)) => r.elim (fun l => l.2) (fun e => e.elim (fun e => e) (fun e => e))) L_pro_isSymbol G_pro_isSymbol s (pro_isSymbol_29b v2 v3 s) := fm_gd (fm_gd (fm_if (fm_some md_refl) (fm_gd (fm_gd (fm_if (fpro_isSymbol_78 _ _ _) (fm_if (fpro_isSymbol_78 _ _ _) (fm_if (fpro_isSymbol_78 _ _ _) (fm_if (fpro_isSymbol_78 _ _ _) (fpro_isSymbol_83 _ _ _ _)))))))))
noncomputable def pro_isSymbol_29 (v2 : Int) (v3 : Int) (s : iS) : Option (Int × iS) := (lp (L := Int × iS) (E := (iS) ⊕ (iS)) (fun l => pro_isSymbol_29b v2 (l.1) (l.2)) (v3, s)).bind (fun e => e.elim (fun e => some (0, e)) (fun e => some (1, e)))
theorem tpro_isSymbol_29 (w : ev_W) (d : Nat) (hd : 1 ≤ d) (v2 : Int) (v3 : Int) (s : iS) : Ew hT w d 217 29 [(0, .ref (tb_nK + 55)), (2, iv v2), (3, iv v3)] [] s (Ci hT) (pro_isSymbol_29 v2 v3 s) := by
  unfold pro_isSymbol_29
  refine e_lp (L := Int × iS) (E := (iS) ⊕ (iS)) (LO := fun l => [(0, .ref (tb_nK + 55)), (2, iv v2), (3, iv (l.1))]) (LS := fun l => l.2) (CE := fun e r => e.elim (fun e => ev w d 217 114 [] [] (hT (e)) r) (fun e => ev w d 217 122 [] [] (hT (e)) r)) (fun l => tpro_isSymbol_29b w d hd _ _ _) ?_ (v3, s)
  rintro (e | e)
  · show Ew hT w d 217 114 [] [] e (Ci hT) _
    refine e_op 115 em_217 (ce_at ce_217 63 rfl) rfl rfl ?_
    exact e_retz em_217 (ce_at ce_217 64 rfl) (by decide)
  · show Ew hT w d 217 122 [] [] e (Ci hT) _
    refine e_op 123 em_217 (ce_at ce_217 67 rfl) rfl rfl ?_
    exact e_retz em_217 (ce_at ce_217 68 rfl) (by decide)
theorem fpro_isSymbol_29 (v2 : Int) (v3 : Int) (s : iS) : Fm Prod.snd L_pro_isSymbol G_pro_isSymbol s (pro_isSymbol_29 v2 v3 s) := by
  unfold pro_isSymbol_29
  refine fm_lp (A := Int × iS) (E := (iS) ⊕ (iS)) (LS := fun l => l.2) (LE := fun e => e.elim (fun e => e) (fun e => e)) ?_ ?_ (v3, s)
  · exact fun l => fpro_isSymbol_29b _ _ _
  · exact (by rintro (e | e); exact fm_some md_refl; exact fm_some md_refl)
noncomputable def pro_isSymbol (v1 : Int) (v2 : Int) (s : iS) : Option (Int × iS) := gd (rg v2) (gd (rg v1) (if v2 ≤ v1 then some (0, s) else gd (rg (v2 - v1)) (if 16 < (v2 - v1) then some (0, s) else gd (0 ≤ v1 ∧ v1 < 4000) (bd (x_isDigit (s 1 v1.toNat) s) (fun r7 s7 => gd (rg r7) (if r7 = 0 then pro_isSymbol_29 v2 v1 s7 else some (0, s7)))))))
theorem tpro_isSymbol (w : ev_W) (d : Nat) (hd : 1 ≤ d) (v1 : Int) (v2 : Int) (s : iS) : Ew hT w d 217 0 [(0, .ref (tb_nK + 55)), (1, iv v1), (2, iv v2)] [] s (Ci hT) (pro_isSymbol v1 v2 s) := by
  unfold pro_isSymbol
  refine e_mv 1 em_217 (ce_at ce_217 0 rfl) rfl rfl ?_
  refine e_mv 2 em_217 (ce_at ce_217 1 rfl) rfl rfl ?_
  refine e_gd fun g1 => ?_
  refine e_gd fun g2 => ?_
  refine e_cmle 25 5 em_217 rfl rfl (ce_at ce_217 2 rfl) g1 g2 (fun h3 => ?_) (fun h3 => ?_)
  · refine e_op 26 em_217 (ce_at ce_217 14 rfl) rfl rfl ?_
    exact e_retz em_217 (ce_at ce_217 15 rfl) (by decide)
  · refine e_mv 6 em_217 (ce_at ce_217 3 rfl) rfl rfl ?_
    refine e_mv 7 em_217 (ce_at ce_217 4 rfl) rfl rfl ?_
    refine e_isub 8 em_217 rfl (ce_at ce_217 5 rfl) ?_
    refine e_bip 10 em_217 (ce_at ce_217 6 rfl) (by decide) rfl ?_
    refine e_gd fun g4 => ?_
    refine e_cmgt 25 13 em_217 rfl rfl (ce_at ce_217 7 rfl) g4 (by decide) (fun h5 => ?_) (fun h5 => ?_)
    · refine e_op 26 em_217 (ce_at ce_217 14 rfl) rfl rfl ?_
      exact e_retz em_217 (ce_at ce_217 15 rfl) (by decide)
    · refine e_mv 14 em_217 (ce_at ce_217 8 rfl) rfl rfl ?_
      refine e_getr 17 em_217 (ce_at ce_217 9 rfl) tq_55 rfl rfl ?_
      refine e_mv 18 em_217 (ce_at ce_217 10 rfl) rfl rfl ?_
      refine e_gd fun g6 => ?_
      refine e_ild 19 em_217 (ce_at ce_217 11 rfl) tq_1 (by decide) g6 rfl ?_
      refine e_ivi 22 em_217 (ce_at ce_217 12 rfl) (by omega) (iv_s1 rfl) em_38 (Nat.le_of_ble_eq_true rfl) rfl (tx_isDigit hT w (d - 1) (by omega) _ _) (fun r7 s7 => ?_)
      refine e_gd fun g8 => ?_
      refine e_ifeq 27 25 em_217 rfl rfl (ce_at ce_217 13 rfl) g8 (fun h9 => ?_) (fun h9 => ?_)
      · refine e_mv 28 em_217 (ce_at ce_217 16 rfl) rfl rfl ?_
        refine e_mv 29 em_217 (ce_at ce_217 17 rfl) rfl rfl ?_
        refine e_pk [0, 2, 3] rfl rfl ?_
        exact tpro_isSymbol_29 w d hd _ _ _
      · refine e_op 26 em_217 (ce_at ce_217 14 rfl) rfl rfl ?_
        exact e_retz em_217 (ce_at ce_217 15 rfl) (by decide)
theorem fpro_isSymbol (v1 : Int) (v2 : Int) (s : iS) : Fm Prod.snd L_pro_isSymbol G_pro_isSymbol s (pro_isSymbol v1 v2 s) := fm_gd (fm_gd (fm_if (fm_some md_refl) (fm_gd (fm_if (fm_some md_refl) (fm_gd (fm_bd (fm_sub (fx_isDigit _ _) (mem_sub_L rfl) (mem_sub_F rfl)) (fun r7 s7 => fm_gd (fm_if (fpro_isSymbol_29 _ _ _) (fm_some md_refl)))))))))
/-! pro_takeSymbol -/
def L_pro_takeSymbol : List Nat := [66, 67, 68]
def G_pro_takeSymbol : List (Nat × Nat) := [(55, 14), (55, 15), (65, 2)]
noncomputable def pro_takeSymbol (v1 : Int) (v2 : Int) (v3 : Int) (s : iS) : Option (Int × iS) := bd (nam_findBytes 65 66 67 123 v2 v3 s) (fun r1 s1 => gd (rg r1) (if r1 = (-1) then gd (rg (s1 65 2)) (if (s1 65 2) < 123 then bd (nam_half_43 v2 v3 s1) (fun r6 s6 => bd (nam_half_43 (v2 + 8) v3 s6) (fun r7 s7 => bd (nam_add 65 66 67 123 r6 r7 s7) (fun _ s8 => gd (0 ≤ (s1 65 2) ∧ (s1 65 2) < 123) (lt' (up s8 68 (s1 65 2).toNat (-1)) (fun s10 => some ((s1 65 2), s10)))))) else bd (pro_stopAt v1 2 s1) (fun _ s11 => some (0, s11))) else some (r1, s1)))
theorem tpro_takeSymbol (w : ev_W) (d : Nat) (hd : 3 ≤ d) (v1 : Int) (v2 : Int) (v3 : Int) (s : iS) : Ew hT w d 218 0 [(0, .ref (tb_nK + 55)), (1, iv v1), (2, iv v2), (3, iv v3)] [] s (Ci hT) (pro_takeSymbol v1 v2 v3 s) := by
  unfold pro_takeSymbol
  refine e_mv 1 em_218 (ce_at ce_218 0 rfl) rfl rfl ?_
  refine e_getr 4 em_218 (ce_at ce_218 1 rfl) tq_55 rfl rfl ?_
  refine e_mv 5 em_218 (ce_at ce_218 2 rfl) rfl rfl ?_
  refine e_getr 8 em_218 (ce_at ce_218 3 rfl) tq_55 rfl rfl ?_
  refine e_mv 9 em_218 (ce_at ce_218 4 rfl) rfl rfl ?_
  refine e_mv 10 em_218 (ce_at ce_218 5 rfl) rfl rfl ?_
  refine e_ivi 13 em_218 (ce_at ce_218 6 rfl) (by omega) (iv_v3 (by decide) tq_65 rfl) em_219 (Nat.le_of_ble_eq_true rfl) rfl (tnam_findBytes w (d - 1) (by omega) 65 66 67 123 tq_65 tq_66 tq_67 (by decide) _ _ _) (fun r1 s1 => ?_)
  refine e_mv 15 em_218 (ce_at ce_218 7 rfl) rfl rfl ?_
  refine e_mv 17 em_218 (ce_at ce_218 8 rfl) rfl rfl ?_
  refine e_op 18 em_218 (ce_at ce_218 9 rfl) rfl rfl ?_
  refine e_gd fun g2 => ?_
  refine e_cmeq 24 21 em_218 rfl rfl (ce_at ce_218 10 rfl) g2 (by decide) (fun h3 => ?_) (fun h3 => ?_)
  · refine e_mv 25 em_218 (ce_at ce_218 13 rfl) rfl rfl ?_
    refine e_getr 28 em_218 (ce_at ce_218 14 rfl) tq_55 rfl rfl ?_
    refine e_get 31 em_218 (ce_at ce_218 15 rfl) tq_65 rfl rfl ?_
    refine e_mv 33 em_218 (ce_at ce_218 16 rfl) rfl rfl ?_
    refine e_mv 35 em_218 (ce_at ce_218 17 rfl) rfl rfl ?_
    refine e_mv 36 em_218 (ce_at ce_218 18 rfl) rfl rfl ?_
    refine e_getr 39 em_218 (ce_at ce_218 19 rfl) tq_55 rfl rfl ?_
    refine e_alen 40 em_218 (ce_at ce_218 20 rfl) tq_68 (by decide) rfl rfl ?_
    refine e_gd fun g4 => ?_
    refine e_cmlt 51 43 em_218 rfl rfl (ce_at ce_218 21 rfl) g4 (by decide) (fun h5 => ?_) (fun h5 => ?_)
    · refine e_mv 52 em_218 (ce_at ce_218 28 rfl) rfl rfl ?_
      refine e_getr 55 em_218 (ce_at ce_218 29 rfl) tq_55 rfl rfl ?_
      refine e_mv 56 em_218 (ce_at ce_218 30 rfl) rfl rfl ?_
      refine e_getr 59 em_218 (ce_at ce_218 31 rfl) tq_55 rfl rfl ?_
      refine e_mv 60 em_218 (ce_at ce_218 32 rfl) rfl rfl ?_
      refine e_mv 61 em_218 (ce_at ce_218 33 rfl) rfl rfl ?_
      refine e_ivl 64 em_218 (ce_at ce_218 34 rfl) (by omega) (iv_s3 rfl) em_43 (Nat.le_of_ble_eq_true rfl) rfl (tnam_half_43 w (d - 1) (by omega) _ _ _) (fun r6 s6 => ?_)
      refine e_mv 65 em_218 (ce_at ce_218 35 rfl) rfl rfl ?_
      refine e_getr 68 em_218 (ce_at ce_218 36 rfl) tq_55 rfl rfl ?_
      refine e_mv 69 em_218 (ce_at ce_218 37 rfl) rfl rfl ?_
      refine e_bip 71 em_218 (ce_at ce_218 38 rfl) (by decide) rfl ?_
      refine e_iadd 72 em_218 rfl (ce_at ce_218 39 rfl) ?_
      refine e_mv 73 em_218 (ce_at ce_218 40 rfl) rfl rfl ?_
      refine e_ivl 76 em_218 (ce_at ce_218 41 rfl) (by omega) (iv_s3 rfl) em_43 (Nat.le_of_ble_eq_true rfl) rfl (tnam_half_43 w (d - 1) (by omega) _ _ _) (fun r7 s7 => ?_)
      refine e_ivv 79 em_218 (ce_at ce_218 42 rfl) (by omega) (iv_v2 (by decide) tq_65 rfl) em_16 (Nat.le_of_ble_eq_true rfl) rfl (tnam_add hT w (d - 1) (by omega) 65 66 67 123 tq_65 tq_66 tq_67 (by decide) _ _ _) (fun r8 s8 => ?_)
      refine e_mv 80 em_218 (ce_at ce_218 43 rfl) rfl rfl ?_
      refine e_getr 83 em_218 (ce_at ce_218 44 rfl) tq_55 rfl rfl ?_
      refine e_mv 85 em_218 (ce_at ce_218 45 rfl) rfl rfl ?_
      refine e_op 86 em_218 (ce_at ce_218 46 rfl) rfl rfl ?_
      refine e_gd fun g9 => ?_
      refine e_ist 87 em_218 (ce_at ce_218 47 rfl) tq_68 (by decide) g9 rfl (fun s10 => ?_)
      refine e_mv 89 em_218 (ce_at ce_218 48 rfl) rfl rfl ?_
      exact e_reti em_218 (ce_at ce_218 49 rfl)
    · refine e_mv 44 em_218 (ce_at ce_218 22 rfl) rfl rfl ?_
      refine e_mv 45 em_218 (ce_at ce_218 23 rfl) rfl rfl ?_
      refine e_op 46 em_218 (ce_at ce_218 24 rfl) rfl rfl ?_
      refine e_ivv 49 em_218 (ce_at ce_218 25 rfl) (by omega) (iv_v2 (by decide) tq_55 rfl) em_216 (Nat.le_of_ble_eq_true rfl) rfl (tpro_stopAt w (d - 1) (by omega) _ _ _) (fun r11 s11 => ?_)
      refine e_op 50 em_218 (ce_at ce_218 26 rfl) rfl rfl ?_
      exact e_reti em_218 (ce_at ce_218 27 rfl)
  · refine e_mv 23 em_218 (ce_at ce_218 11 rfl) rfl rfl ?_
    exact e_reti em_218 (ce_at ce_218 12 rfl)
theorem fpro_takeSymbol (v1 : Int) (v2 : Int) (v3 : Int) (s : iS) : Fm Prod.snd L_pro_takeSymbol G_pro_takeSymbol s (pro_takeSymbol v1 v2 v3 s) := fm_bd (fm_sub (fnam_findBytes 65 66 67 123 _ _ _) (mem_sub_L rfl) (mem_sub_F rfl)) (fun r1 s1 => fm_gd (fm_if (fm_gd (fm_if (fm_bd (fm_sub (fnam_half_43 _ _ _) (mem_sub_L rfl) (mem_sub_F rfl)) (fun r6 s6 => fm_bd (fm_sub (fnam_half_43 _ _ _) (mem_sub_L rfl) (mem_sub_F rfl)) (fun r7 s7 => fm_bd (fm_sub (fnam_add 65 66 67 123 _ _ _) (mem_sub_L rfl) (mem_sub_F rfl)) (fun r8 s8 => fm_gd (fm_lt (md_upL (mem_L rfl)) (fun s10 => fm_some md_refl)))))) (fm_bd (fm_sub (fpro_stopAt _ _ _) (mem_sub_L rfl) (mem_sub_F rfl)) (fun r11 s11 => fm_some md_refl)))) (fm_some md_refl)))
/-! pro_readLabel -/
def L_pro_readLabel : List Nat := [66, 67, 68]
def G_pro_readLabel : List (Nat × Nat) := [(55, 14), (55, 15), (65, 2)]
noncomputable def pro_readLabel_26 (v1 : Int) (s : iS) : Option (Int × iS) := bd (pro_stopAt v1 1 s) (fun _ s1 => some (0, s1))
theorem tpro_readLabel_26 (w : ev_W) (d : Nat) (hd : 4 ≤ d) (v1 : Int) (s : iS) : Ew hT w d 220 26 [(0, .ref (tb_nK + 55)), (1, iv v1)] [] s (Cv hT) (pro_readLabel_26 v1 s) := by
  unfold pro_readLabel_26
  refine e_mv 27 em_220 (ce_at ce_220 17 rfl) rfl rfl ?_
  refine e_mv 28 em_220 (ce_at ce_220 18 rfl) rfl rfl ?_
  refine e_op 29 em_220 (ce_at ce_220 19 rfl) rfl rfl ?_
  refine e_ivv 32 em_220 (ce_at ce_220 20 rfl) (by omega) (iv_v2 (by decide) tq_55 rfl) em_216 (Nat.le_of_ble_eq_true rfl) rfl (tpro_stopAt w (d - 1) (by omega) _ _ _) (fun r1 s1 => ?_)
  exact e_retv em_220 (ce_at ce_220 21 rfl)
theorem fpro_readLabel_26 (v1 : Int) (s : iS) : Fm Prod.snd L_pro_readLabel G_pro_readLabel s (pro_readLabel_26 v1 s) := fm_bd (fm_sub (fpro_stopAt _ _ _) (mem_sub_L rfl) (mem_sub_F rfl)) (fun r1 s1 => fm_some md_refl)
noncomputable def pro_readLabel (v1 : Int) (v2 : Int) (s : iS) : Option (Int × iS) := gd (0 ≤ (v2 - 1) ∧ (v2 - 1) < 4000) (gd (rg (s 1 (v2 - 1).toNat)) (if (s 1 (v2 - 1).toNat) = 41 then bd (pro_isSymbol (v1 + 1) (v2 - 1) s) (fun r4 s4 => gd (rg r4) (if r4 = 0 then pro_readLabel_26 v1 s4 else bd (pro_takeSymbol v1 (v1 + 1) (v2 - 1) s4) (fun r7 s7 => gd (0 ≤ r7 ∧ r7 < 123) (gd (rg (s7 68 r7.toNat)) (if (s7 68 r7.toNat) = (-1) then lt' (up s7 68 r7.toNat (s7 55 8)) (fun s11 => some (0, s11)) else bd (pro_stopAt v1 3 s7) (fun _ s12 => some (0, s12))))))) else pro_readLabel_26 v1 s))
theorem tpro_readLabel (w : ev_W) (d : Nat) (hd : 4 ≤ d) (v1 : Int) (v2 : Int) (s : iS) : Ew hT w d 220 0 [(0, .ref (tb_nK + 55)), (1, iv v1), (2, iv v2)] [] s (Cv hT) (pro_readLabel v1 v2 s) := by
  unfold pro_readLabel
  refine e_mv 1 em_220 (ce_at ce_220 0 rfl) rfl rfl ?_
  refine e_getr 4 em_220 (ce_at ce_220 1 rfl) tq_55 rfl rfl ?_
  refine e_mv 5 em_220 (ce_at ce_220 2 rfl) rfl rfl ?_
  refine e_op 6 em_220 (ce_at ce_220 3 rfl) rfl rfl ?_
  refine e_isub 7 em_220 rfl (ce_at ce_220 4 rfl) ?_
  refine e_gd fun g1 => ?_
  refine e_ild 8 em_220 (ce_at ce_220 5 rfl) tq_1 (by decide) g1 rfl ?_
  refine e_bip 10 em_220 (ce_at ce_220 6 rfl) (by decide) rfl ?_
  refine e_gd fun g2 => ?_
  refine e_cmne 26 13 em_220 rfl rfl (ce_at ce_220 7 rfl) g2 (by decide) (fun h3 => ?_) (fun h3 => ?_)
  · refine e_pk [0, 1] rfl rfl ?_
    exact tpro_readLabel_26 w d hd _ _
  · refine e_mv 14 em_220 (ce_at ce_220 8 rfl) rfl rfl ?_
    refine e_mv 15 em_220 (ce_at ce_220 9 rfl) rfl rfl ?_
    refine e_op 16 em_220 (ce_at ce_220 10 rfl) rfl rfl ?_
    refine e_iadd 17 em_220 rfl (ce_at ce_220 11 rfl) ?_
    refine e_mv 18 em_220 (ce_at ce_220 12 rfl) rfl rfl ?_
    refine e_op 19 em_220 (ce_at ce_220 13 rfl) rfl rfl ?_
    refine e_isub 20 em_220 rfl (ce_at ce_220 14 rfl) ?_
    refine e_ivi 23 em_220 (ce_at ce_220 15 rfl) (by omega) (iv_v2 (by decide) tq_55 rfl) em_217 (Nat.le_of_ble_eq_true rfl) rfl (tpro_isSymbol w (d - 1) (by omega) _ _ _) (fun r4 s4 => ?_)
    refine e_gd fun g5 => ?_
    refine e_ifne 33 26 em_220 rfl rfl (ce_at ce_220 16 rfl) g5 (fun h6 => ?_) (fun h6 => ?_)
    · refine e_mv 34 em_220 (ce_at ce_220 22 rfl) rfl rfl ?_
      refine e_mv 35 em_220 (ce_at ce_220 23 rfl) rfl rfl ?_
      refine e_mv 36 em_220 (ce_at ce_220 24 rfl) rfl rfl ?_
      refine e_op 37 em_220 (ce_at ce_220 25 rfl) rfl rfl ?_
      refine e_iadd 38 em_220 rfl (ce_at ce_220 26 rfl) ?_
      refine e_mv 39 em_220 (ce_at ce_220 27 rfl) rfl rfl ?_
      refine e_op 40 em_220 (ce_at ce_220 28 rfl) rfl rfl ?_
      refine e_isub 41 em_220 rfl (ce_at ce_220 29 rfl) ?_
      refine e_ivi 44 em_220 (ce_at ce_220 30 rfl) (by omega) (iv_v3 (by decide) tq_55 rfl) em_218 (Nat.le_of_ble_eq_true rfl) rfl (tpro_takeSymbol w (d - 1) (by omega) _ _ _ _) (fun r7 s7 => ?_)
      refine e_mv 45 em_220 (ce_at ce_220 31 rfl) rfl rfl ?_
      refine e_mv 46 em_220 (ce_at ce_220 32 rfl) rfl rfl ?_
      refine e_getr 49 em_220 (ce_at ce_220 33 rfl) tq_55 rfl rfl ?_
      refine e_mv 50 em_220 (ce_at ce_220 34 rfl) rfl rfl ?_
      refine e_gd fun g8 => ?_
      refine e_ild 51 em_220 (ce_at ce_220 35 rfl) tq_68 (by decide) g8 rfl ?_
      refine e_op 52 em_220 (ce_at ce_220 36 rfl) rfl rfl ?_
      refine e_gd fun g9 => ?_
      refine e_cmeq 64 55 em_220 rfl rfl (ce_at ce_220 37 rfl) g9 (by decide) (fun h10 => ?_) (fun h10 => ?_)
      · refine e_mv 65 em_220 (ce_at ce_220 43 rfl) rfl rfl ?_
        refine e_getr 68 em_220 (ce_at ce_220 44 rfl) tq_55 rfl rfl ?_
        refine e_mv 69 em_220 (ce_at ce_220 45 rfl) rfl rfl ?_
        refine e_mv 70 em_220 (ce_at ce_220 46 rfl) rfl rfl ?_
        refine e_get 73 em_220 (ce_at ce_220 47 rfl) tq_55 rfl rfl ?_
        refine e_ist 74 em_220 (ce_at ce_220 48 rfl) tq_68 (by decide) g8 rfl (fun s11 => ?_)
        exact e_retv em_220 (ce_at ce_220 49 rfl)
      · refine e_mv 56 em_220 (ce_at ce_220 38 rfl) rfl rfl ?_
        refine e_mv 57 em_220 (ce_at ce_220 39 rfl) rfl rfl ?_
        refine e_op 58 em_220 (ce_at ce_220 40 rfl) rfl rfl ?_
        refine e_ivv 61 em_220 (ce_at ce_220 41 rfl) (by omega) (iv_v2 (by decide) tq_55 rfl) em_216 (Nat.le_of_ble_eq_true rfl) rfl (tpro_stopAt w (d - 1) (by omega) _ _ _) (fun r12 s12 => ?_)
        refine e_goto em_220 74 (ce_at ce_220 42 rfl) rfl ?_
        exact e_retv em_220 (ce_at ce_220 49 rfl)
    · refine e_pk [0, 1] rfl rfl ?_
      exact tpro_readLabel_26 w d hd _ _
theorem fpro_readLabel (v1 : Int) (v2 : Int) (s : iS) : Fm Prod.snd L_pro_readLabel G_pro_readLabel s (pro_readLabel v1 v2 s) := fm_gd (fm_gd (fm_if (fm_bd (fm_sub (fpro_isSymbol _ _ _) (mem_sub_L rfl) (mem_sub_F rfl)) (fun r4 s4 => fm_gd (fm_if (fpro_readLabel_26 _ _) (fm_bd (fm_sub (fpro_takeSymbol _ _ _ _) (mem_sub_L rfl) (mem_sub_F rfl)) (fun r7 s7 => fm_gd (fm_gd (fm_if (fm_lt (md_upL (mem_L rfl)) (fun s11 => fm_some md_refl)) (fm_bd (fm_sub (fpro_stopAt _ _ _) (mem_sub_L rfl) (mem_sub_F rfl)) (fun r12 s12 => fm_some md_refl))))))))) (fpro_readLabel_26 _ _)))
/-! pro_numberIn -/
def L_pro_numberIn : List Nat := []
def G_pro_numberIn : List (Nat × Nat) := []
def pro_numberIn_19C (w : ev_W) (d : Nat) (v2 : Int) : (Int × Int × iS) ⊕ ((iS) ⊕ (Int × iS)) → am_E → Prop := fun q r => q.elim (fun l => ev w d 214 19 ((fun l => [(0, .ref (tb_nK + 55)), (2, iv v2), (3, iv (l.1)), (4, iv (l.2.1))]) l) [] (hT ((fun l => l.2.2) l)) r) (fun e => (fun e r => e.elim (fun e => ev w d 214 38 [] [] (hT (e)) r) (fun e => ev w d 214 62 [(3, iv (e.1))] [] (hT (e.2)) r)) e r)
noncomputable def pro_numberIn_19b (v2 : Int) (v3 : Int) (v4 : Int) (s : iS) : Option ((Int × Int × iS) ⊕ ((iS) ⊕ (Int × iS))) := gd (rg v4) (gd (rg v2) (if v2 ≤ v4 then some (.inr (.inr (v3, s))) else gd (0 ≤ v4 ∧ v4 < 4000) (bd (x_isDigit (s 1 v4.toNat) s) (fun r5 s5 => gd (rg r5) (if r5 = 0 then some (.inr (.inl s5)) else some (.inl ((((10 * v3) + (s5 1 v4.toNat)) - 48), (v4 + 1), s5)))))))
theorem tpro_numberIn_19b (w : ev_W) (d : Nat) (hd : 1 ≤ d) (v2 : Int) (v3 : Int) (v4 : Int) (s : iS) : Ew hT w d 214 19 [(0, .ref (tb_nK + 55)), (2, iv v2), (3, iv v3), (4, iv v4)] [] s (pro_numberIn_19C w d v2) (pro_numberIn_19b v2 v3 v4 s) := by
  unfold pro_numberIn_19b
  refine e_mv 21 em_214 (ce_at ce_214 14 rfl) rfl rfl ?_
  refine e_mv 22 em_214 (ce_at ce_214 15 rfl) rfl rfl ?_
  refine e_gd fun g1 => ?_
  refine e_gd fun g2 => ?_
  refine e_cmge 62 25 em_214 rfl rfl (ce_at ce_214 16 rfl) g1 g2 (fun h3 => ?_) (fun h3 => ?_)
  · refine e_pk [3] rfl rfl ?_
    exact e_out (fun r h => h)
  · refine e_mv 26 em_214 (ce_at ce_214 17 rfl) rfl rfl ?_
    refine e_getr 29 em_214 (ce_at ce_214 18 rfl) tq_55 rfl rfl ?_
    refine e_mv 31 em_214 (ce_at ce_214 19 rfl) rfl rfl ?_
    refine e_gd fun g4 => ?_
    refine e_ild 32 em_214 (ce_at ce_214 20 rfl) tq_1 (by decide) g4 rfl ?_
    refine e_ivi 35 em_214 (ce_at ce_214 21 rfl) (by omega) (iv_s1 rfl) em_38 (Nat.le_of_ble_eq_true rfl) rfl (tx_isDigit hT w (d - 1) (by omega) _ _) (fun r5 s5 => ?_)
    refine e_gd fun g6 => ?_
    refine e_ifne 40 38 em_214 rfl rfl (ce_at ce_214 22 rfl) g6 (fun h7 => ?_) (fun h7 => ?_)
    · refine e_bip 42 em_214 (ce_at ce_214 25 rfl) (by decide) rfl ?_
      refine e_mv 43 em_214 (ce_at ce_214 26 rfl) rfl rfl ?_
      refine e_imul 44 em_214 rfl (ce_at ce_214 27 rfl) ?_
      refine e_mv 45 em_214 (ce_at ce_214 28 rfl) rfl rfl ?_
      refine e_getr 48 em_214 (ce_at ce_214 29 rfl) tq_55 rfl rfl ?_
      refine e_mv 50 em_214 (ce_at ce_214 30 rfl) rfl rfl ?_
      refine e_ild 51 em_214 (ce_at ce_214 31 rfl) tq_1 (by decide) g4 rfl ?_
      refine e_iadd 52 em_214 rfl (ce_at ce_214 32 rfl) ?_
      refine e_bip 54 em_214 (ce_at ce_214 33 rfl) (by decide) rfl ?_
      refine e_isub 55 em_214 rfl (ce_at ce_214 34 rfl) ?_
      refine e_mv 56 em_214 (ce_at ce_214 35 rfl) rfl rfl ?_
      refine e_iinc 59 em_214 (ce_at ce_214 36 rfl) rfl (by decide) rfl ?_
      refine e_goto em_214 19 (ce_at ce_214 37 rfl) rfl ?_
      refine e_pk [0, 2, 3, 4] rfl rfl ?_
      exact e_out (fun r h => h)
    · refine e_pk [] rfl rfl ?_
      exact e_out (fun r h => h)
theorem fpro_numberIn_19b (v2 : Int) (v3 : Int) (v4 : Int) (s : iS) : Fm (fun r : (Int × Int × iS) ⊕ ((iS) ⊕ (Int × iS)) => r.elim (fun l => l.2.2) (fun e => e.elim (fun e => e) (fun e => e.2))) L_pro_numberIn G_pro_numberIn s (pro_numberIn_19b v2 v3 v4 s) := fm_gd (fm_gd (fm_if (fm_some md_refl) (fm_gd (fm_bd (fm_sub (fx_isDigit _ _) (mem_sub_L rfl) (mem_sub_F rfl)) (fun r5 s5 => fm_gd (fm_if (fm_some md_refl) (fm_some md_refl)))))))
noncomputable def pro_numberIn_62 (v3 : Int) (s : iS) : Option (Int × iS) := gd (rg v3) (if v3 ≤ 32767 then some (v3, s) else some ((-1), s))
theorem tpro_numberIn_62 (w : ev_W) (d : Nat) (hd : 1 ≤ d) (v3 : Int) (s : iS) : Ew hT w d 214 62 [(3, iv v3)] [] s (Ci hT) (pro_numberIn_62 v3 s) := by
  unfold pro_numberIn_62
  refine e_mv 63 em_214 (ce_at ce_214 38 rfl) rfl rfl ?_
  refine e_sip 66 em_214 (ce_at ce_214 39 rfl) (by decide) rfl ?_
  refine e_gd fun g1 => ?_
  refine e_cmle 73 69 em_214 rfl rfl (ce_at ce_214 40 rfl) g1 (by decide) (fun h2 => ?_) (fun h2 => ?_)
  · refine e_mv 74 em_214 (ce_at ce_214 43 rfl) rfl rfl ?_
    exact e_reti em_214 (ce_at ce_214 44 rfl)
  · refine e_op 70 em_214 (ce_at ce_214 41 rfl) rfl rfl ?_
    refine e_goto em_214 74 (ce_at ce_214 42 rfl) rfl ?_
    exact e_reti em_214 (ce_at ce_214 44 rfl)
theorem fpro_numberIn_62 (v3 : Int) (s : iS) : Fm Prod.snd L_pro_numberIn G_pro_numberIn s (pro_numberIn_62 v3 s) := fm_gd (fm_if (fm_some md_refl) (fm_some md_refl))
noncomputable def pro_numberIn_19 (v2 : Int) (v3 : Int) (v4 : Int) (s : iS) : Option (Int × iS) := (lp (L := Int × Int × iS) (E := (iS) ⊕ (Int × iS)) (fun l => pro_numberIn_19b v2 (l.1) (l.2.1) (l.2.2)) (v3, v4, s)).bind (fun e => e.elim (fun e => some ((-1), e)) (fun e => pro_numberIn_62 (e.1) (e.2)))
theorem tpro_numberIn_19 (w : ev_W) (d : Nat) (hd : 1 ≤ d) (v2 : Int) (v3 : Int) (v4 : Int) (s : iS) : Ew hT w d 214 19 [(0, .ref (tb_nK + 55)), (2, iv v2), (3, iv v3), (4, iv v4)] [] s (Ci hT) (pro_numberIn_19 v2 v3 v4 s) := by
  unfold pro_numberIn_19
  refine e_lp (L := Int × Int × iS) (E := (iS) ⊕ (Int × iS)) (LO := fun l => [(0, .ref (tb_nK + 55)), (2, iv v2), (3, iv (l.1)), (4, iv (l.2.1))]) (LS := fun l => l.2.2) (CE := fun e r => e.elim (fun e => ev w d 214 38 [] [] (hT (e)) r) (fun e => ev w d 214 62 [(3, iv (e.1))] [] (hT (e.2)) r)) (fun l => tpro_numberIn_19b w d hd _ _ _ _) ?_ (v3, v4, s)
  rintro (e | e)
  · show Ew hT w d 214 38 [] [] e (Ci hT) _
    refine e_op 39 em_214 (ce_at ce_214 23 rfl) rfl rfl ?_
    exact e_reti em_214 (ce_at ce_214 24 rfl)
  · show Ew hT w d 214 62 [(3, iv (e.1))] [] e.2 (Ci hT) _
    refine e_pk [3] rfl rfl ?_
    exact tpro_numberIn_62 w d hd _ _
theorem fpro_numberIn_19 (v2 : Int) (v3 : Int) (v4 : Int) (s : iS) : Fm Prod.snd L_pro_numberIn G_pro_numberIn s (pro_numberIn_19 v2 v3 v4 s) := by
  unfold pro_numberIn_19
  refine fm_lp (A := Int × Int × iS) (E := (iS) ⊕ (Int × iS)) (LS := fun l => l.2.2) (LE := fun e => e.elim (fun e => e) (fun e => e.2)) ?_ ?_ (v3, v4, s)
  · exact fun l => fpro_numberIn_19b _ _ _ _
  · exact (by rintro (e | e); exact fm_some md_refl; exact fpro_numberIn_62 _ _)
noncomputable def pro_numberIn (v1 : Int) (v2 : Int) (s : iS) : Option (Int × iS) := gd (rg v2) (gd (rg v1) (if v2 ≤ v1 then some ((-1), s) else gd (rg (v2 - v1)) (if (v2 - v1) ≤ 5 then pro_numberIn_19 v2 0 v1 s else some ((-1), s))))
theorem tpro_numberIn (w : ev_W) (d : Nat) (hd : 1 ≤ d) (v1 : Int) (v2 : Int) (s : iS) : Ew hT w d 214 0 [(0, .ref (tb_nK + 55)), (1, iv v1), (2, iv v2)] [] s (Ci hT) (pro_numberIn v1 v2 s) := by
  unfold pro_numberIn
  refine e_mv 1 em_214 (ce_at ce_214 0 rfl) rfl rfl ?_
  refine e_mv 2 em_214 (ce_at ce_214 1 rfl) rfl rfl ?_
  refine e_gd fun g1 => ?_
  refine e_gd fun g2 => ?_
  refine e_cmle 12 5 em_214 rfl rfl (ce_at ce_214 2 rfl) g1 g2 (fun h3 => ?_) (fun h3 => ?_)
  · refine e_op 13 em_214 (ce_at ce_214 8 rfl) rfl rfl ?_
    exact e_reti em_214 (ce_at ce_214 9 rfl)
  · refine e_mv 6 em_214 (ce_at ce_214 3 rfl) rfl rfl ?_
    refine e_mv 7 em_214 (ce_at ce_214 4 rfl) rfl rfl ?_
    refine e_isub 8 em_214 rfl (ce_at ce_214 5 rfl) ?_
    refine e_op 9 em_214 (ce_at ce_214 6 rfl) rfl rfl ?_
    refine e_gd fun g4 => ?_
    refine e_cmle 14 12 em_214 rfl rfl (ce_at ce_214 7 rfl) g4 (by decide) (fun h5 => ?_) (fun h5 => ?_)
    · refine e_op 15 em_214 (ce_at ce_214 10 rfl) rfl rfl ?_
      refine e_mv 16 em_214 (ce_at ce_214 11 rfl) rfl rfl ?_
      refine e_mv 17 em_214 (ce_at ce_214 12 rfl) rfl rfl ?_
      refine e_mv 19 em_214 (ce_at ce_214 13 rfl) rfl rfl ?_
      refine e_pk [0, 2, 3, 4] rfl rfl ?_
      exact tpro_numberIn_19 w d hd _ _ _ _
    · refine e_op 13 em_214 (ce_at ce_214 8 rfl) rfl rfl ?_
      exact e_reti em_214 (ce_at ce_214 9 rfl)
theorem fpro_numberIn (v1 : Int) (v2 : Int) (s : iS) : Fm Prod.snd L_pro_numberIn G_pro_numberIn s (pro_numberIn v1 v2 s) := fm_gd (fm_gd (fm_if (fm_some md_refl) (fm_gd (fm_if (fpro_numberIn_19 _ _ _ _) (fm_some md_refl)))))
/-! pro_readAddress -/
def L_pro_readAddress : List Nat := [66, 67, 68, 69]
def G_pro_readAddress : List (Nat × Nat) := [(55, 8), (55, 14), (55, 15), (65, 2)]
noncomputable def pro_readAddress (v1 : Int) (v2 : Int) (s : iS) : Option (Int × iS) := bd (pro_numberIn (v1 + 1) v2 s) (fun r1 s1 => gd (rg r1) (if r1 < 0 then bd (pro_isSymbol (v1 + 1) v2 s1) (fun r4 s4 => gd (rg r4) (if r4 = 0 then bd (pro_stopAt v1 1 s4) (fun _ s7 => some (0, s7)) else bd (pro_takeSymbol v1 (v1 + 1) v2 s4) (fun r8 s8 => bd (pro_addWord v1 ((-1) - r8) s8) (fun _ s9 => some (0, s9))))) else bd (pro_addWord v1 r1 s1) (fun _ s10 => some (0, s10))))
theorem tpro_readAddress (w : ev_W) (d : Nat) (hd : 4 ≤ d) (v1 : Int) (v2 : Int) (s : iS) : Ew hT w d 213 0 [(0, .ref (tb_nK + 55)), (1, iv v1), (2, iv v2)] [] s (Cv hT) (pro_readAddress v1 v2 s) := by
  unfold pro_readAddress
  refine e_mv 1 em_213 (ce_at ce_213 0 rfl) rfl rfl ?_
  refine e_mv 2 em_213 (ce_at ce_213 1 rfl) rfl rfl ?_
  refine e_op 3 em_213 (ce_at ce_213 2 rfl) rfl rfl ?_
  refine e_iadd 4 em_213 rfl (ce_at ce_213 3 rfl) ?_
  refine e_mv 5 em_213 (ce_at ce_213 4 rfl) rfl rfl ?_
  refine e_ivi 8 em_213 (ce_at ce_213 5 rfl) (by omega) (iv_v2 (by decide) tq_55 rfl) em_214 (Nat.le_of_ble_eq_true rfl) rfl (tpro_numberIn w (d - 1) (by omega) _ _ _) (fun r1 s1 => ?_)
  refine e_mv 9 em_213 (ce_at ce_213 6 rfl) rfl rfl ?_
  refine e_mv 10 em_213 (ce_at ce_213 7 rfl) rfl rfl ?_
  refine e_gd fun g2 => ?_
  refine e_iflt 22 13 em_213 rfl rfl (ce_at ce_213 8 rfl) g2 (fun h3 => ?_) (fun h3 => ?_)
  · refine e_mv 23 em_213 (ce_at ce_213 14 rfl) rfl rfl ?_
    refine e_mv 24 em_213 (ce_at ce_213 15 rfl) rfl rfl ?_
    refine e_op 25 em_213 (ce_at ce_213 16 rfl) rfl rfl ?_
    refine e_iadd 26 em_213 rfl (ce_at ce_213 17 rfl) ?_
    refine e_mv 27 em_213 (ce_at ce_213 18 rfl) rfl rfl ?_
    refine e_ivi 30 em_213 (ce_at ce_213 19 rfl) (by omega) (iv_v2 (by decide) tq_55 rfl) em_217 (Nat.le_of_ble_eq_true rfl) rfl (tpro_isSymbol w (d - 1) (by omega) _ _ _) (fun r4 s4 => ?_)
    refine e_gd fun g5 => ?_
    refine e_ifeq 52 33 em_213 rfl rfl (ce_at ce_213 20 rfl) g5 (fun h6 => ?_) (fun h6 => ?_)
    · refine e_mv 53 em_213 (ce_at ce_213 34 rfl) rfl rfl ?_
      refine e_mv 54 em_213 (ce_at ce_213 35 rfl) rfl rfl ?_
      refine e_op 55 em_213 (ce_at ce_213 36 rfl) rfl rfl ?_
      refine e_ivv 58 em_213 (ce_at ce_213 37 rfl) (by omega) (iv_v2 (by decide) tq_55 rfl) em_216 (Nat.le_of_ble_eq_true rfl) rfl (tpro_stopAt w (d - 1) (by omega) _ _ _) (fun r7 s7 => ?_)
      exact e_retv em_213 (ce_at ce_213 38 rfl)
    · refine e_mv 34 em_213 (ce_at ce_213 21 rfl) rfl rfl ?_
      refine e_mv 35 em_213 (ce_at ce_213 22 rfl) rfl rfl ?_
      refine e_op 36 em_213 (ce_at ce_213 23 rfl) rfl rfl ?_
      refine e_mv 37 em_213 (ce_at ce_213 24 rfl) rfl rfl ?_
      refine e_mv 38 em_213 (ce_at ce_213 25 rfl) rfl rfl ?_
      refine e_mv 39 em_213 (ce_at ce_213 26 rfl) rfl rfl ?_
      refine e_op 40 em_213 (ce_at ce_213 27 rfl) rfl rfl ?_
      refine e_iadd 41 em_213 rfl (ce_at ce_213 28 rfl) ?_
      refine e_mv 42 em_213 (ce_at ce_213 29 rfl) rfl rfl ?_
      refine e_ivi 45 em_213 (ce_at ce_213 30 rfl) (by omega) (iv_v3 (by decide) tq_55 rfl) em_218 (Nat.le_of_ble_eq_true rfl) rfl (tpro_takeSymbol w (d - 1) (by omega) _ _ _ _) (fun r8 s8 => ?_)
      refine e_isub 46 em_213 rfl (ce_at ce_213 31 rfl) ?_
      refine e_ivv 49 em_213 (ce_at ce_213 32 rfl) (by omega) (iv_v2 (by decide) tq_55 rfl) em_215 (Nat.le_of_ble_eq_true rfl) rfl (tpro_addWord w (d - 1) (by omega) _ _ _) (fun r9 s9 => ?_)
      refine e_goto em_213 58 (ce_at ce_213 33 rfl) rfl ?_
      exact e_retv em_213 (ce_at ce_213 38 rfl)
  · refine e_mv 14 em_213 (ce_at ce_213 9 rfl) rfl rfl ?_
    refine e_mv 15 em_213 (ce_at ce_213 10 rfl) rfl rfl ?_
    refine e_mv 16 em_213 (ce_at ce_213 11 rfl) rfl rfl ?_
    refine e_ivv 19 em_213 (ce_at ce_213 12 rfl) (by omega) (iv_v2 (by decide) tq_55 rfl) em_215 (Nat.le_of_ble_eq_true rfl) rfl (tpro_addWord w (d - 1) (by omega) _ _ _) (fun r10 s10 => ?_)
    refine e_goto em_213 58 (ce_at ce_213 13 rfl) rfl ?_
    exact e_retv em_213 (ce_at ce_213 38 rfl)
theorem fpro_readAddress (v1 : Int) (v2 : Int) (s : iS) : Fm Prod.snd L_pro_readAddress G_pro_readAddress s (pro_readAddress v1 v2 s) := fm_bd (fm_sub (fpro_numberIn _ _ _) (mem_sub_L rfl) (mem_sub_F rfl)) (fun r1 s1 => fm_gd (fm_if (fm_bd (fm_sub (fpro_isSymbol _ _ _) (mem_sub_L rfl) (mem_sub_F rfl)) (fun r4 s4 => fm_gd (fm_if (fm_bd (fm_sub (fpro_stopAt _ _ _) (mem_sub_L rfl) (mem_sub_F rfl)) (fun r7 s7 => fm_some md_refl)) (fm_bd (fm_sub (fpro_takeSymbol _ _ _ _) (mem_sub_L rfl) (mem_sub_F rfl)) (fun r8 s8 => fm_bd (fm_sub (fpro_addWord _ _ _) (mem_sub_L rfl) (mem_sub_F rfl)) (fun r9 s9 => fm_some md_refl)))))) (fm_bd (fm_sub (fpro_addWord _ _ _) (mem_sub_L rfl) (mem_sub_F rfl)) (fun r10 s10 => fm_some md_refl))))
/-! pro_readInstruction -/
def L_pro_readInstruction : List Nat := [66, 67, 68, 69]
def G_pro_readInstruction : List (Nat × Nat) := [(55, 8), (55, 14), (55, 15), (65, 2)]
noncomputable def pro_readInstruction (v1 : Int) (v2 : Int) (s : iS) : Option (Int × iS) := gd (0 ≤ v1 ∧ v1 < 4000) (gd (rg (s 1 v1.toNat)) (if (s 1 v1.toNat) = 64 then bd (pro_readAddress v1 v2 s) (fun _ s7 => some (0, s7)) else if (s 1 v1.toNat) = 40 then bd (pro_readLabel v1 v2 s) (fun _ s6 => some (0, s6)) else bd (pro_readComputation v1 v2 s) (fun _ s5 => some (0, s5))))
theorem tpro_readInstruction (w : ev_W) (d : Nat) (hd : 5 ≤ d) (v1 : Int) (v2 : Int) (s : iS) : Ew hT w d 212 0 [(0, .ref (tb_nK + 55)), (1, iv v1), (2, iv v2)] [] s (Cv hT) (pro_readInstruction v1 v2 s) := by
  unfold pro_readInstruction
  refine e_mv 1 em_212 (ce_at ce_212 0 rfl) rfl rfl ?_
  refine e_getr 4 em_212 (ce_at ce_212 1 rfl) tq_55 rfl rfl ?_
  refine e_mv 5 em_212 (ce_at ce_212 2 rfl) rfl rfl ?_
  refine e_gd fun g1 => ?_
  refine e_ild 6 em_212 (ce_at ce_212 3 rfl) tq_1 (by decide) g1 rfl ?_
  refine e_bip 8 em_212 (ce_at ce_212 4 rfl) (by decide) rfl ?_
  refine e_gd fun g2 => ?_
  refine e_cmne 20 11 em_212 rfl rfl (ce_at ce_212 5 rfl) g2 (by decide) (fun h3 => ?_) (fun h3 => ?_)
  · refine e_mv 21 em_212 (ce_at ce_212 11 rfl) rfl rfl ?_
    refine e_getr 24 em_212 (ce_at ce_212 12 rfl) tq_55 rfl rfl ?_
    refine e_mv 25 em_212 (ce_at ce_212 13 rfl) rfl rfl ?_
    refine e_ild 26 em_212 (ce_at ce_212 14 rfl) tq_1 (by decide) g1 rfl ?_
    refine e_bip 28 em_212 (ce_at ce_212 15 rfl) (by decide) rfl ?_
    refine e_cmne 40 31 em_212 rfl rfl (ce_at ce_212 16 rfl) g2 (by decide) (fun h4 => ?_) (fun h4 => ?_)
    · refine e_mv 41 em_212 (ce_at ce_212 22 rfl) rfl rfl ?_
      refine e_mv 42 em_212 (ce_at ce_212 23 rfl) rfl rfl ?_
      refine e_mv 43 em_212 (ce_at ce_212 24 rfl) rfl rfl ?_
      refine e_ivv 46 em_212 (ce_at ce_212 25 rfl) (by omega) (iv_v2 (by decide) tq_55 rfl) em_221 (Nat.le_of_ble_eq_true rfl) rfl (tpro_readComputation w (d - 1) (by omega) _ _ _) (fun r5 s5 => ?_)
      exact e_retv em_212 (ce_at ce_212 26 rfl)
    · refine e_mv 32 em_212 (ce_at ce_212 17 rfl) rfl rfl ?_
      refine e_mv 33 em_212 (ce_at ce_212 18 rfl) rfl rfl ?_
      refine e_mv 34 em_212 (ce_at ce_212 19 rfl) rfl rfl ?_
      refine e_ivv 37 em_212 (ce_at ce_212 20 rfl) (by omega) (iv_v2 (by decide) tq_55 rfl) em_220 (Nat.le_of_ble_eq_true rfl) rfl (tpro_readLabel w (d - 1) (by omega) _ _ _) (fun r6 s6 => ?_)
      refine e_goto em_212 46 (ce_at ce_212 21 rfl) rfl ?_
      exact e_retv em_212 (ce_at ce_212 26 rfl)
  · refine e_mv 12 em_212 (ce_at ce_212 6 rfl) rfl rfl ?_
    refine e_mv 13 em_212 (ce_at ce_212 7 rfl) rfl rfl ?_
    refine e_mv 14 em_212 (ce_at ce_212 8 rfl) rfl rfl ?_
    refine e_ivv 17 em_212 (ce_at ce_212 9 rfl) (by omega) (iv_v2 (by decide) tq_55 rfl) em_213 (Nat.le_of_ble_eq_true rfl) rfl (tpro_readAddress w (d - 1) (by omega) _ _ _) (fun r7 s7 => ?_)
    refine e_goto em_212 46 (ce_at ce_212 10 rfl) rfl ?_
    exact e_retv em_212 (ce_at ce_212 26 rfl)
theorem fpro_readInstruction (v1 : Int) (v2 : Int) (s : iS) : Fm Prod.snd L_pro_readInstruction G_pro_readInstruction s (pro_readInstruction v1 v2 s) := fm_gd (fm_gd (fm_if (fm_bd (fm_sub (fpro_readAddress _ _ _) (mem_sub_L rfl) (mem_sub_F rfl)) (fun r7 s7 => fm_some md_refl)) (fm_if (fm_bd (fm_sub (fpro_readLabel _ _ _) (mem_sub_L rfl) (mem_sub_F rfl)) (fun r6 s6 => fm_some md_refl)) (fm_bd (fm_sub (fpro_readComputation _ _ _) (mem_sub_L rfl) (mem_sub_F rfl)) (fun r5 s5 => fm_some md_refl)))))
/-! pro_readLine -/
def L_pro_readLine : List Nat := [66, 67, 68, 69]
def G_pro_readLine : List (Nat × Nat) := [(55, 8), (55, 14), (55, 15), (65, 2)]
def pro_readLine_51C (w : ev_W) (d : Nat) : (Int × iS) ⊕ (Int × iS) → am_E → Prop := fun q r => q.elim (fun l => ev w d 207 51 ((fun l => [(0, .ref (tb_nK + 55)), (4, iv (l.1))]) l) [] (hT ((fun l => l.2) l)) r) (fun e => (fun e r => ev w d 207 78 [(4, iv (e.1))] [] (hT (e.2)) r) e r)
noncomputable def pro_readLine_51b (v4 : Int) (s : iS) : Option ((Int × iS) ⊕ (Int × iS)) := gd (rg v4) (gd (rg (s 55 13)) (if (s 55 13) ≤ v4 then some (.inr (v4, s)) else gd (0 ≤ v4 ∧ v4 < 4000) (gd (rg (s 1 v4.toNat)) (if (s 1 v4.toNat) = 10 then some (.inr (v4, s)) else some (.inl ((v4 + 1), s))))))
theorem tpro_readLine_51b (w : ev_W) (d : Nat) (hd : 6 ≤ d) (v4 : Int) (s : iS) : Ew hT w d 207 51 [(0, .ref (tb_nK + 55)), (4, iv v4)] [] s (pro_readLine_51C w d) (pro_readLine_51b v4 s) := by
  unfold pro_readLine_51b
  refine e_mv 53 em_207 (ce_at ce_207 30 rfl) rfl rfl ?_
  refine e_mv 54 em_207 (ce_at ce_207 31 rfl) rfl rfl ?_
  refine e_get 57 em_207 (ce_at ce_207 32 rfl) tq_55 rfl rfl ?_
  refine e_gd fun g1 => ?_
  refine e_gd fun g2 => ?_
  refine e_cmge 78 60 em_207 rfl rfl (ce_at ce_207 33 rfl) g1 g2 (fun h3 => ?_) (fun h3 => ?_)
  · refine e_pk [4] rfl rfl ?_
    exact e_out (fun r h => h)
  · refine e_mv 61 em_207 (ce_at ce_207 34 rfl) rfl rfl ?_
    refine e_getr 64 em_207 (ce_at ce_207 35 rfl) tq_55 rfl rfl ?_
    refine e_mv 66 em_207 (ce_at ce_207 36 rfl) rfl rfl ?_
    refine e_gd fun g4 => ?_
    refine e_ild 67 em_207 (ce_at ce_207 37 rfl) tq_1 (by decide) g4 rfl ?_
    refine e_bip 69 em_207 (ce_at ce_207 38 rfl) (by decide) rfl ?_
    refine e_gd fun g5 => ?_
    refine e_cmeq 78 72 em_207 rfl rfl (ce_at ce_207 39 rfl) g5 (by decide) (fun h6 => ?_) (fun h6 => ?_)
    · refine e_pk [4] rfl rfl ?_
      exact e_out (fun r h => h)
    · refine e_iinc 75 em_207 (ce_at ce_207 40 rfl) rfl (by decide) rfl ?_
      refine e_goto em_207 51 (ce_at ce_207 41 rfl) rfl ?_
      refine e_pk [0, 4] rfl rfl ?_
      exact e_out (fun r h => h)
theorem fpro_readLine_51b (v4 : Int) (s : iS) : Fm (fun r : (Int × iS) ⊕ (Int × iS) => r.elim (fun l => l.2) (fun e => e.2)) L_pro_readLine G_pro_readLine s (pro_readLine_51b v4 s) := fm_gd (fm_gd (fm_if (fm_some md_refl) (fm_gd (fm_gd (fm_if (fm_some md_refl) (fm_some md_refl))))))
noncomputable def pro_readLine_51 (v4 : Int) (s : iS) : Option (Int × iS) := (lp (L := Int × iS) (E := Int × iS) (fun l => pro_readLine_51b (l.1) (l.2)) (v4, s)).bind (fun e => some ((e.1 + 1), e.2))
theorem tpro_readLine_51 (w : ev_W) (d : Nat) (hd : 6 ≤ d) (v4 : Int) (s : iS) : Ew hT w d 207 51 [(0, .ref (tb_nK + 55)), (4, iv v4)] [] s (Ci hT) (pro_readLine_51 v4 s) := by
  unfold pro_readLine_51
  refine e_lp (L := Int × iS) (E := Int × iS) (LO := fun l => [(0, .ref (tb_nK + 55)), (4, iv (l.1))]) (LS := fun l => l.2) (CE := fun e r => ev w d 207 78 [(4, iv (e.1))] [] (hT (e.2)) r) (fun l => tpro_readLine_51b w d hd _ _) ?_ (v4, s)
  intro e
  show Ew hT w d 207 78 [(4, iv (e.1))] [] e.2 (Ci hT) _
  refine e_mv 80 em_207 (ce_at ce_207 42 rfl) rfl rfl ?_
  refine e_op 81 em_207 (ce_at ce_207 43 rfl) rfl rfl ?_
  refine e_iadd 82 em_207 rfl (ce_at ce_207 44 rfl) ?_
  exact e_reti em_207 (ce_at ce_207 45 rfl)
theorem fpro_readLine_51 (v4 : Int) (s : iS) : Fm Prod.snd L_pro_readLine G_pro_readLine s (pro_readLine_51 v4 s) := by
  unfold pro_readLine_51
  refine fm_lp (A := Int × iS) (E := Int × iS) (LS := fun l => l.2) (LE := fun e => e.2) ?_ ?_ (v4, s)
  · exact fun l => fpro_readLine_51b _ _
  · exact (fun e => fm_some md_refl)
noncomputable def pro_readLine_48 (v3 : Int) (s : iS) : Option (Int × iS) := pro_readLine_51 v3 s
theorem tpro_readLine_48 (w : ev_W) (d : Nat) (hd : 6 ≤ d) (v3 : Int) (s : iS) : Ew hT w d 207 48 [(0, .ref (tb_nK + 55)), (3, iv v3)] [] s (Ci hT) (pro_readLine_48 v3 s) := by
  unfold pro_readLine_48
  refine e_mv 49 em_207 (ce_at ce_207 28 rfl) rfl rfl ?_
  refine e_mv 51 em_207 (ce_at ce_207 29 rfl) rfl rfl ?_
  refine e_pk [0, 4] rfl rfl ?_
  exact tpro_readLine_51 w d hd _ _
theorem fpro_readLine_48 (v3 : Int) (s : iS) : Fm Prod.snd L_pro_readLine G_pro_readLine s (pro_readLine_48 v3 s) := fpro_readLine_51 _ _
noncomputable def pro_readLine (v1 : Int) (s : iS) : Option (Int × iS) := bd (pro_skipBlanks v1 s) (fun r1 s1 => bd (pro_instructionEnd r1 s1) (fun r2 s2 => gd (rg r2) (gd (rg r1) (if r2 ≤ r1 then pro_readLine_48 r2 s2 else bd (pro_readInstruction r1 r2 s2) (fun _ s6 => bd (pro_skipBlanks r2 s6) (fun r7 s7 => bd (pro_instructionEnd r7 s7) (fun r8 s8 => gd (rg r8) (gd (rg r7) (if r8 ≤ r7 then pro_readLine_48 r2 s8 else bd (pro_stopAt r7 1 s8) (fun _ s12 => pro_readLine_48 r2 s12))))))))))
theorem tpro_readLine (w : ev_W) (d : Nat) (hd : 6 ≤ d) (v1 : Int) (s : iS) : Ew hT w d 207 0 [(0, .ref (tb_nK + 55)), (1, iv v1)] [] s (Ci hT) (pro_readLine v1 s) := by
  unfold pro_readLine
  refine e_mv 1 em_207 (ce_at ce_207 0 rfl) rfl rfl ?_
  refine e_mv 2 em_207 (ce_at ce_207 1 rfl) rfl rfl ?_
  refine e_ivi 5 em_207 (ce_at ce_207 2 rfl) (by omega) (iv_v1 (by decide) tq_55 rfl) em_208 (Nat.le_of_ble_eq_true rfl) rfl (tpro_skipBlanks w (d - 1) (by omega) _ _) (fun r1 s1 => ?_)
  refine e_mv 6 em_207 (ce_at ce_207 3 rfl) rfl rfl ?_
  refine e_mv 7 em_207 (ce_at ce_207 4 rfl) rfl rfl ?_
  refine e_mv 8 em_207 (ce_at ce_207 5 rfl) rfl rfl ?_
  refine e_ivi 11 em_207 (ce_at ce_207 6 rfl) (by omega) (iv_v1 (by decide) tq_55 rfl) em_210 (Nat.le_of_ble_eq_true rfl) rfl (tpro_instructionEnd w (d - 1) (by omega) _ _) (fun r2 s2 => ?_)
  refine e_mv 12 em_207 (ce_at ce_207 7 rfl) rfl rfl ?_
  refine e_mv 13 em_207 (ce_at ce_207 8 rfl) rfl rfl ?_
  refine e_mv 14 em_207 (ce_at ce_207 9 rfl) rfl rfl ?_
  refine e_gd fun g3 => ?_
  refine e_gd fun g4 => ?_
  refine e_cmle 48 17 em_207 rfl rfl (ce_at ce_207 10 rfl) g3 g4 (fun h5 => ?_) (fun h5 => ?_)
  · refine e_pk [0, 3] rfl rfl ?_
    exact tpro_readLine_48 w d hd _ _
  · refine e_mv 18 em_207 (ce_at ce_207 11 rfl) rfl rfl ?_
    refine e_mv 19 em_207 (ce_at ce_207 12 rfl) rfl rfl ?_
    refine e_mv 20 em_207 (ce_at ce_207 13 rfl) rfl rfl ?_
    refine e_ivv 23 em_207 (ce_at ce_207 14 rfl) (by omega) (iv_v2 (by decide) tq_55 rfl) em_212 (Nat.le_of_ble_eq_true rfl) rfl (tpro_readInstruction w (d - 1) (by omega) _ _ _) (fun r6 s6 => ?_)
    refine e_mv 24 em_207 (ce_at ce_207 15 rfl) rfl rfl ?_
    refine e_mv 25 em_207 (ce_at ce_207 16 rfl) rfl rfl ?_
    refine e_ivi 28 em_207 (ce_at ce_207 17 rfl) (by omega) (iv_v1 (by decide) tq_55 rfl) em_208 (Nat.le_of_ble_eq_true rfl) rfl (tpro_skipBlanks w (d - 1) (by omega) _ _) (fun r7 s7 => ?_)
    refine e_mv 30 em_207 (ce_at ce_207 18 rfl) rfl rfl ?_
    refine e_mv 31 em_207 (ce_at ce_207 19 rfl) rfl rfl ?_
    refine e_mv 33 em_207 (ce_at ce_207 20 rfl) rfl rfl ?_
    refine e_ivi 36 em_207 (ce_at ce_207 21 rfl) (by omega) (iv_v1 (by decide) tq_55 rfl) em_210 (Nat.le_of_ble_eq_true rfl) rfl (tpro_instructionEnd w (d - 1) (by omega) _ _) (fun r8 s8 => ?_)
    refine e_mv 38 em_207 (ce_at ce_207 22 rfl) rfl rfl ?_
    refine e_gd fun g9 => ?_
    refine e_gd fun g10 => ?_
    refine e_cmle 48 41 em_207 rfl rfl (ce_at ce_207 23 rfl) g9 g10 (fun h11 => ?_) (fun h11 => ?_)
    · refine e_pk [0, 3] rfl rfl ?_
      exact tpro_readLine_48 w d hd _ _
    · refine e_mv 42 em_207 (ce_at ce_207 24 rfl) rfl rfl ?_
      refine e_mv 44 em_207 (ce_at ce_207 25 rfl) rfl rfl ?_
      refine e_op 45 em_207 (ce_at ce_207 26 rfl) rfl rfl ?_
      refine e_ivv 48 em_207 (ce_at ce_207 27 rfl) (by omega) (iv_v2 (by decide) tq_55 rfl) em_216 (Nat.le_of_ble_eq_true rfl) rfl (tpro_stopAt w (d - 1) (by omega) _ _ _) (fun r12 s12 => ?_)
      refine e_pk [0, 3] rfl rfl ?_
      exact tpro_readLine_48 w d hd _ _
theorem fpro_readLine (v1 : Int) (s : iS) : Fm Prod.snd L_pro_readLine G_pro_readLine s (pro_readLine v1 s) := fm_bd (fm_sub (fpro_skipBlanks _ _) (mem_sub_L rfl) (mem_sub_F rfl)) (fun r1 s1 => fm_bd (fm_sub (fpro_instructionEnd _ _) (mem_sub_L rfl) (mem_sub_F rfl)) (fun r2 s2 => fm_gd (fm_gd (fm_if (fpro_readLine_48 _ _) (fm_bd (fm_sub (fpro_readInstruction _ _ _) (mem_sub_L rfl) (mem_sub_F rfl)) (fun r6 s6 => fm_bd (fm_sub (fpro_skipBlanks _ _) (mem_sub_L rfl) (mem_sub_F rfl)) (fun r7 s7 => fm_bd (fm_sub (fpro_instructionEnd _ _) (mem_sub_L rfl) (mem_sub_F rfl)) (fun r8 s8 => fm_gd (fm_gd (fm_if (fpro_readLine_48 _ _) (fm_bd (fm_sub (fpro_stopAt _ _ _) (mem_sub_L rfl) (mem_sub_F rfl)) (fun r12 s12 => fpro_readLine_48 _ _))))))))))))
/-! pro_settleSymbols -/
def L_pro_settleSymbols : List Nat := [68, 69]
def G_pro_settleSymbols : List (Nat × Nat) := []
def pro_settleSymbols_5C (w : ev_W) (d : Nat) : (Int × Int × iS) ⊕ (iS) → am_E → Prop := fun q r => q.elim (fun l => ev w d 223 5 ((fun l => [(0, .ref (tb_nK + 55)), (1, iv (l.1)), (2, iv (l.2.1))]) l) [] (hT ((fun l => l.2.2) l)) r) (fun e => (fun e r => ev w d 223 73 [] [] (hT (e)) r) e r)
noncomputable def pro_settleSymbols_55 (v1 : Int) (v2 : Int) (v3 : Int) (s : iS) : Option ((Int × Int × iS) ⊕ (iS)) := gd (0 ≤ v3 ∧ v3 < 123) (gd (0 ≤ v2 ∧ v2 < 1500) (lt' (up s 69 v2.toNat (s 68 v3.toNat)) (fun s3 => some (.inl (v1, (v2 + 1), s3)))))
theorem tpro_settleSymbols_55 (w : ev_W) (d : Nat) (hd : 0 ≤ d) (v1 : Int) (v2 : Int) (v3 : Int) (s : iS) : Ew hT w d 223 55 [(0, .ref (tb_nK + 55)), (1, iv v1), (2, iv v2), (3, iv v3)] [] s (pro_settleSymbols_5C w d) (pro_settleSymbols_55 v1 v2 v3 s) := by
  unfold pro_settleSymbols_55
  refine e_mv 56 em_223 (ce_at ce_223 34 rfl) rfl rfl ?_
  refine e_getr 59 em_223 (ce_at ce_223 35 rfl) tq_55 rfl rfl ?_
  refine e_mv 60 em_223 (ce_at ce_223 36 rfl) rfl rfl ?_
  refine e_mv 61 em_223 (ce_at ce_223 37 rfl) rfl rfl ?_
  refine e_getr 64 em_223 (ce_at ce_223 38 rfl) tq_55 rfl rfl ?_
  refine e_mv 65 em_223 (ce_at ce_223 39 rfl) rfl rfl ?_
  refine e_gd fun g1 => ?_
  refine e_ild 66 em_223 (ce_at ce_223 40 rfl) tq_68 (by decide) g1 rfl ?_
  refine e_gd fun g2 => ?_
  refine e_ist 67 em_223 (ce_at ce_223 41 rfl) tq_69 (by decide) g2 rfl (fun s3 => ?_)
  refine e_iinc 70 em_223 (ce_at ce_223 42 rfl) rfl (by decide) rfl ?_
  refine e_goto em_223 5 (ce_at ce_223 43 rfl) rfl ?_
  refine e_pk [0, 1, 2] rfl rfl ?_
  exact e_out (fun r h => h)
theorem fpro_settleSymbols_55 (v1 : Int) (v2 : Int) (v3 : Int) (s : iS) : Fm (fun r : (Int × Int × iS) ⊕ (iS) => r.elim (fun l => l.2.2) (fun e => e)) L_pro_settleSymbols G_pro_settleSymbols s (pro_settleSymbols_55 v1 v2 v3 s) := fm_gd (fm_gd (fm_lt (md_upL (mem_L rfl)) (fun s3 => fm_some md_refl)))
noncomputable def pro_settleSymbols_5b (v1 : Int) (v2 : Int) (s : iS) : Option ((Int × Int × iS) ⊕ (iS)) := gd (rg v2) (gd (rg (s 55 8)) (if (s 55 8) ≤ v2 then some (.inr s) else gd (0 ≤ v2 ∧ v2 < 1500) (gd (rg ((-1) - (s 69 v2.toNat))) (if ((-1) - (s 69 v2.toNat)) < 0 then some (.inl (v1, (v2 + 1), s)) else if 123 ≤ ((-1) - (s 69 v2.toNat)) then some (.inl (v1, (v2 + 1), s)) else gd (0 ≤ ((-1) - (s 69 v2.toNat)) ∧ ((-1) - (s 69 v2.toNat)) < 123) (gd (rg (s 68 ((-1) - (s 69 v2.toNat)).toNat)) (if (s 68 ((-1) - (s 69 v2.toNat)).toNat) = (-1) then lt' (up s 68 ((-1) - (s 69 v2.toNat)).toNat v1) (fun s11 => pro_settleSymbols_55 (v1 + 1) v2 ((-1) - (s 69 v2.toNat)) s11) else pro_settleSymbols_55 v1 v2 ((-1) - (s 69 v2.toNat)) s))))))
theorem tpro_settleSymbols_5b (w : ev_W) (d : Nat) (hd : 0 ≤ d) (v1 : Int) (v2 : Int) (s : iS) : Ew hT w d 223 5 [(0, .ref (tb_nK + 55)), (1, iv v1), (2, iv v2)] [] s (pro_settleSymbols_5C w d) (pro_settleSymbols_5b v1 v2 s) := by
  unfold pro_settleSymbols_5b
  refine e_mv 6 em_223 (ce_at ce_223 4 rfl) rfl rfl ?_
  refine e_mv 7 em_223 (ce_at ce_223 5 rfl) rfl rfl ?_
  refine e_get 10 em_223 (ce_at ce_223 6 rfl) tq_55 rfl rfl ?_
  refine e_gd fun g1 => ?_
  refine e_gd fun g2 => ?_
  refine e_cmge 73 13 em_223 rfl rfl (ce_at ce_223 7 rfl) g1 g2 (fun h3 => ?_) (fun h3 => ?_)
  · refine e_pk [] rfl rfl ?_
    exact e_out (fun r h => h)
  · refine e_op 14 em_223 (ce_at ce_223 8 rfl) rfl rfl ?_
    refine e_mv 15 em_223 (ce_at ce_223 9 rfl) rfl rfl ?_
    refine e_getr 18 em_223 (ce_at ce_223 10 rfl) tq_55 rfl rfl ?_
    refine e_mv 19 em_223 (ce_at ce_223 11 rfl) rfl rfl ?_
    refine e_gd fun g4 => ?_
    refine e_ild 20 em_223 (ce_at ce_223 12 rfl) tq_69 (by decide) g4 rfl ?_
    refine e_isub 21 em_223 rfl (ce_at ce_223 13 rfl) ?_
    refine e_mv 22 em_223 (ce_at ce_223 14 rfl) rfl rfl ?_
    refine e_mv 23 em_223 (ce_at ce_223 15 rfl) rfl rfl ?_
    refine e_gd fun g5 => ?_
    refine e_iflt 67 26 em_223 rfl rfl (ce_at ce_223 16 rfl) g5 (fun h6 => ?_) (fun h6 => ?_)
    · refine e_iinc 70 em_223 (ce_at ce_223 42 rfl) rfl (by decide) rfl ?_
      refine e_goto em_223 5 (ce_at ce_223 43 rfl) rfl ?_
      refine e_pk [0, 1, 2] rfl rfl ?_
      exact e_out (fun r h => h)
    · refine e_mv 27 em_223 (ce_at ce_223 17 rfl) rfl rfl ?_
      refine e_mv 28 em_223 (ce_at ce_223 18 rfl) rfl rfl ?_
      refine e_getr 31 em_223 (ce_at ce_223 19 rfl) tq_55 rfl rfl ?_
      refine e_alen 32 em_223 (ce_at ce_223 20 rfl) tq_68 (by decide) rfl rfl ?_
      refine e_cmge 67 35 em_223 rfl rfl (ce_at ce_223 21 rfl) g5 (by decide) (fun h7 => ?_) (fun h7 => ?_)
      · refine e_iinc 70 em_223 (ce_at ce_223 42 rfl) rfl (by decide) rfl ?_
        refine e_goto em_223 5 (ce_at ce_223 43 rfl) rfl ?_
        refine e_pk [0, 1, 2] rfl rfl ?_
        exact e_out (fun r h => h)
      · refine e_mv 36 em_223 (ce_at ce_223 22 rfl) rfl rfl ?_
        refine e_getr 39 em_223 (ce_at ce_223 23 rfl) tq_55 rfl rfl ?_
        refine e_mv 40 em_223 (ce_at ce_223 24 rfl) rfl rfl ?_
        refine e_gd fun g8 => ?_
        refine e_ild 41 em_223 (ce_at ce_223 25 rfl) tq_68 (by decide) g8 rfl ?_
        refine e_op 42 em_223 (ce_at ce_223 26 rfl) rfl rfl ?_
        refine e_gd fun g9 => ?_
        refine e_cmne 55 45 em_223 rfl rfl (ce_at ce_223 27 rfl) g9 (by decide) (fun h10 => ?_) (fun h10 => ?_)
        · refine e_pk [0, 1, 2, 3] rfl rfl ?_
          exact tpro_settleSymbols_55 w d hd _ _ _ _
        · refine e_mv 46 em_223 (ce_at ce_223 28 rfl) rfl rfl ?_
          refine e_getr 49 em_223 (ce_at ce_223 29 rfl) tq_55 rfl rfl ?_
          refine e_mv 50 em_223 (ce_at ce_223 30 rfl) rfl rfl ?_
          refine e_mv 51 em_223 (ce_at ce_223 31 rfl) rfl rfl ?_
          refine e_ist 52 em_223 (ce_at ce_223 32 rfl) tq_68 (by decide) g8 rfl (fun s11 => ?_)
          refine e_iinc 55 em_223 (ce_at ce_223 33 rfl) rfl (by decide) rfl ?_
          refine e_pk [0, 1, 2, 3] rfl rfl ?_
          exact tpro_settleSymbols_55 w d hd _ _ _ _
theorem fpro_settleSymbols_5b (v1 : Int) (v2 : Int) (s : iS) : Fm (fun r : (Int × Int × iS) ⊕ (iS) => r.elim (fun l => l.2.2) (fun e => e)) L_pro_settleSymbols G_pro_settleSymbols s (pro_settleSymbols_5b v1 v2 s) := fm_gd (fm_gd (fm_if (fm_some md_refl) (fm_gd (fm_gd (fm_if (fm_some md_refl) (fm_if (fm_some md_refl) (fm_gd (fm_gd (fm_if (fm_lt (md_upL (mem_L rfl)) (fun s11 => fpro_settleSymbols_55 _ _ _ _)) (fpro_settleSymbols_55 _ _ _ _))))))))))
noncomputable def pro_settleSymbols_5 (v1 : Int) (v2 : Int) (s : iS) : Option (Int × iS) := (lp (L := Int × Int × iS) (E := iS) (fun l => pro_settleSymbols_5b (l.1) (l.2.1) (l.2.2)) (v1, v2, s)).bind (fun e => some (0, e))
theorem tpro_settleSymbols_5 (w : ev_W) (d : Nat) (hd : 0 ≤ d) (v1 : Int) (v2 : Int) (s : iS) : Ew hT w d 223 5 [(0, .ref (tb_nK + 55)), (1, iv v1), (2, iv v2)] [] s (Cv hT) (pro_settleSymbols_5 v1 v2 s) := by
  unfold pro_settleSymbols_5
  refine e_lp (L := Int × Int × iS) (E := iS) (LO := fun l => [(0, .ref (tb_nK + 55)), (1, iv (l.1)), (2, iv (l.2.1))]) (LS := fun l => l.2.2) (CE := fun e r => ev w d 223 73 [] [] (hT (e)) r) (fun l => tpro_settleSymbols_5b w d hd _ _ _) ?_ (v1, v2, s)
  intro e
  show Ew hT w d 223 73 [] [] e (Cv hT) _
  exact e_retv em_223 (ce_at ce_223 44 rfl)
theorem fpro_settleSymbols_5 (v1 : Int) (v2 : Int) (s : iS) : Fm Prod.snd L_pro_settleSymbols G_pro_settleSymbols s (pro_settleSymbols_5 v1 v2 s) := by
  unfold pro_settleSymbols_5
  refine fm_lp (A := Int × Int × iS) (E := iS) (LS := fun l => l.2.2) (LE := fun e => e) ?_ ?_ (v1, v2, s)
  · exact fun l => fpro_settleSymbols_5b _ _ _
  · exact (fun e => fm_some md_refl)
noncomputable def pro_settleSymbols (s : iS) : Option (Int × iS) := pro_settleSymbols_5 16 0 s
theorem tpro_settleSymbols (w : ev_W) (d : Nat) (hd : 0 ≤ d) (s : iS) : Ew hT w d 223 0 [(0, .ref (tb_nK + 55))] [] s (Cv hT) (pro_settleSymbols s) := by
  unfold pro_settleSymbols
  refine e_bip 2 em_223 (ce_at ce_223 0 rfl) (by decide) rfl ?_
  refine e_mv 3 em_223 (ce_at ce_223 1 rfl) rfl rfl ?_
  refine e_op 4 em_223 (ce_at ce_223 2 rfl) rfl rfl ?_
  refine e_mv 5 em_223 (ce_at ce_223 3 rfl) rfl rfl ?_
  refine e_pk [0, 1, 2] rfl rfl ?_
  exact tpro_settleSymbols_5 w d hd _ _ _
theorem fpro_settleSymbols (s : iS) : Fm Prod.snd L_pro_settleSymbols G_pro_settleSymbols s (pro_settleSymbols s) := fpro_settleSymbols_5 _ _ _
/-! pro_assemble -/
def L_pro_assemble : List Nat := [66, 67, 68, 69, 70]
def G_pro_assemble : List (Nat × Nat) := [(55, 8), (55, 9), (55, 10), (55, 11), (55, 12), (55, 13), (55, 14), (55, 15), (65, 2)]
def pro_assemble_21C (w : ev_W) (d : Nat) : (Int × Int × iS) ⊕ (iS) → am_E → Prop := fun q r => q.elim (fun l => ev w d 205 21 ((fun l => [(0, .ref (tb_nK + 55)), (2, iv (l.1)), (3, iv (l.2.1))]) l) [] (hT ((fun l => l.2.2) l)) r) (fun e => (fun e r => ev w d 205 56 [(0, .ref (tb_nK + 55))] [] (hT (e)) r) e r)
noncomputable def pro_assemble_21b (v2 : Int) (v3 : Int) (s : iS) : Option ((Int × Int × iS) ⊕ (iS)) := gd (rg v3) (gd (rg (s 55 13)) (if (s 55 13) ≤ v3 then some (.inr s) else gd (rg v2) (if (s 55 13) ≤ v2 then some (.inr s) else gd (rg (s 55 14)) (if (s 55 14) = 0 then bd (pro_readLine v2 s) (fun r8 s8 => some (.inl (r8, (v3 + 1), s8))) else some (.inr s)))))
theorem tpro_assemble_21b (w : ev_W) (d : Nat) (hd : 7 ≤ d) (v2 : Int) (v3 : Int) (s : iS) : Ew hT w d 205 21 [(0, .ref (tb_nK + 55)), (2, iv v2), (3, iv v3)] [] s (pro_assemble_21C w d) (pro_assemble_21b v2 v3 s) := by
  unfold pro_assemble_21b
  refine e_mv 22 em_205 (ce_at ce_205 13 rfl) rfl rfl ?_
  refine e_mv 23 em_205 (ce_at ce_205 14 rfl) rfl rfl ?_
  refine e_get 26 em_205 (ce_at ce_205 15 rfl) tq_55 rfl rfl ?_
  refine e_gd fun g1 => ?_
  refine e_gd fun g2 => ?_
  refine e_cmge 56 29 em_205 rfl rfl (ce_at ce_205 16 rfl) g1 g2 (fun h3 => ?_) (fun h3 => ?_)
  · refine e_pk [0] rfl rfl ?_
    exact e_out (fun r h => h)
  · refine e_mv 30 em_205 (ce_at ce_205 17 rfl) rfl rfl ?_
    refine e_mv 31 em_205 (ce_at ce_205 18 rfl) rfl rfl ?_
    refine e_get 34 em_205 (ce_at ce_205 19 rfl) tq_55 rfl rfl ?_
    refine e_gd fun g4 => ?_
    refine e_cmge 56 37 em_205 rfl rfl (ce_at ce_205 20 rfl) g4 g2 (fun h5 => ?_) (fun h5 => ?_)
    · refine e_pk [0] rfl rfl ?_
      exact e_out (fun r h => h)
    · refine e_mv 38 em_205 (ce_at ce_205 21 rfl) rfl rfl ?_
      refine e_get 41 em_205 (ce_at ce_205 22 rfl) tq_55 rfl rfl ?_
      refine e_gd fun g6 => ?_
      refine e_ifne 56 44 em_205 rfl rfl (ce_at ce_205 23 rfl) g6 (fun h7 => ?_) (fun h7 => ?_)
      · refine e_pk [0] rfl rfl ?_
        exact e_out (fun r h => h)
      · refine e_mv 45 em_205 (ce_at ce_205 24 rfl) rfl rfl ?_
        refine e_mv 46 em_205 (ce_at ce_205 25 rfl) rfl rfl ?_
        refine e_ivi 49 em_205 (ce_at ce_205 26 rfl) (by omega) (iv_v1 (by decide) tq_55 rfl) em_207 (Nat.le_of_ble_eq_true rfl) rfl (tpro_readLine w (d - 1) (by omega) _ _) (fun r8 s8 => ?_)
        refine e_mv 50 em_205 (ce_at ce_205 27 rfl) rfl rfl ?_
        refine e_iinc 53 em_205 (ce_at ce_205 28 rfl) rfl (by decide) rfl ?_
        refine e_goto em_205 21 (ce_at ce_205 29 rfl) rfl ?_
        refine e_pk [0, 2, 3] rfl rfl ?_
        exact e_out (fun r h => h)
theorem fpro_assemble_21b (v2 : Int) (v3 : Int) (s : iS) : Fm (fun r : (Int × Int × iS) ⊕ (iS) => r.elim (fun l => l.2.2) (fun e => e)) L_pro_assemble G_pro_assemble s (pro_assemble_21b v2 v3 s) := fm_gd (fm_gd (fm_if (fm_some md_refl) (fm_gd (fm_if (fm_some md_refl) (fm_gd (fm_if (fm_bd (fm_sub (fpro_readLine _ _) (mem_sub_L rfl) (mem_sub_F rfl)) (fun r8 s8 => fm_some md_refl)) (fm_some md_refl)))))))
noncomputable def pro_assemble_56 (s : iS) : Option (Int × iS) := gd (rg (s 55 14)) (if (s 55 14) = 0 then bd (pro_settleSymbols s) (fun _ s5 => some ((s5 55 14), s5)) else lt' (up s 55 8 0) (fun s3 => bd (nam_keep 65 66 67 123 23 s3) (fun _ s4 => some ((s4 55 14), s4))))
theorem tpro_assemble_56 (w : ev_W) (d : Nat) (hd : 7 ≤ d) (s : iS) : Ew hT w d 205 56 [(0, .ref (tb_nK + 55))] [] s (Ci hT) (pro_assemble_56 s) := by
  unfold pro_assemble_56
  refine e_mv 57 em_205 (ce_at ce_205 30 rfl) rfl rfl ?_
  refine e_get 60 em_205 (ce_at ce_205 31 rfl) tq_55 rfl rfl ?_
  refine e_gd fun g1 => ?_
  refine e_ifne 70 63 em_205 rfl rfl (ce_at ce_205 32 rfl) g1 (fun h2 => ?_) (fun h2 => ?_)
  · refine e_mv 71 em_205 (ce_at ce_205 36 rfl) rfl rfl ?_
    refine e_op 72 em_205 (ce_at ce_205 37 rfl) rfl rfl ?_
    refine e_put 75 em_205 (ce_at ce_205 38 rfl) tq_55 rfl rfl rfl (fun s3 => ?_)
    refine e_mv 76 em_205 (ce_at ce_205 39 rfl) rfl rfl ?_
    refine e_getr 79 em_205 (ce_at ce_205 40 rfl) tq_55 rfl rfl ?_
    refine e_bip 81 em_205 (ce_at ce_205 41 rfl) (by decide) rfl ?_
    refine e_ivv 84 em_205 (ce_at ce_205 42 rfl) (by omega) (iv_v1 (by decide) tq_65 rfl) em_66 (Nat.le_of_ble_eq_true rfl) rfl (tnam_keep hT w (d - 1) (by omega) 65 66 67 123 tq_65 tq_66 tq_67 (by decide) _ _) (fun r4 s4 => ?_)
    refine e_mv 85 em_205 (ce_at ce_205 43 rfl) rfl rfl ?_
    refine e_get 88 em_205 (ce_at ce_205 44 rfl) tq_55 rfl rfl ?_
    exact e_reti em_205 (ce_at ce_205 45 rfl)
  · refine e_mv 64 em_205 (ce_at ce_205 33 rfl) rfl rfl ?_
    refine e_ivv 67 em_205 (ce_at ce_205 34 rfl) (by omega) (iv_v0 (by decide) tq_55 rfl) em_223 (Nat.le_of_ble_eq_true rfl) rfl (tpro_settleSymbols w (d - 1) (by omega) _) (fun r5 s5 => ?_)
    refine e_goto em_205 84 (ce_at ce_205 35 rfl) rfl ?_
    refine e_mv 85 em_205 (ce_at ce_205 43 rfl) rfl rfl ?_
    refine e_get 88 em_205 (ce_at ce_205 44 rfl) tq_55 rfl rfl ?_
    exact e_reti em_205 (ce_at ce_205 45 rfl)
theorem fpro_assemble_56 (s : iS) : Fm Prod.snd L_pro_assemble G_pro_assemble s (pro_assemble_56 s) := fm_gd (fm_if (fm_bd (fm_sub (fpro_settleSymbols _) (mem_sub_L rfl) (mem_sub_F rfl)) (fun r5 s5 => fm_some md_refl)) (fm_lt (md_upF (mem_F rfl)) (fun s3 => fm_bd (fm_sub (fnam_keep 65 66 67 123 _ _) (mem_sub_L rfl) (mem_sub_F rfl)) (fun r4 s4 => fm_some md_refl))))
noncomputable def pro_assemble_21 (v2 : Int) (v3 : Int) (s : iS) : Option (Int × iS) := (lp (L := Int × Int × iS) (E := iS) (fun l => pro_assemble_21b (l.1) (l.2.1) (l.2.2)) (v2, v3, s)).bind (fun e => pro_assemble_56 e)
theorem tpro_assemble_21 (w : ev_W) (d : Nat) (hd : 7 ≤ d) (v2 : Int) (v3 : Int) (s : iS) : Ew hT w d 205 21 [(0, .ref (tb_nK + 55)), (2, iv v2), (3, iv v3)] [] s (Ci hT) (pro_assemble_21 v2 v3 s) := by
  unfold pro_assemble_21
  refine e_lp (L := Int × Int × iS) (E := iS) (LO := fun l => [(0, .ref (tb_nK + 55)), (2, iv (l.1)), (3, iv (l.2.1))]) (LS := fun l => l.2.2) (CE := fun e r => ev w d 205 56 [(0, .ref (tb_nK + 55))] [] (hT (e)) r) (fun l => tpro_assemble_21b w d hd _ _ _) ?_ (v2, v3, s)
  intro e
  show Ew hT w d 205 56 [(0, .ref (tb_nK + 55))] [] e (Ci hT) _
  refine e_pk [0] rfl rfl ?_
  exact tpro_assemble_56 w d hd _
theorem fpro_assemble_21 (v2 : Int) (v3 : Int) (s : iS) : Fm Prod.snd L_pro_assemble G_pro_assemble s (pro_assemble_21 v2 v3 s) := by
  unfold pro_assemble_21
  refine fm_lp (A := Int × Int × iS) (E := iS) (LS := fun l => l.2.2) (LE := fun e => e) ?_ ?_ (v2, v3, s)
  · exact fun l => fpro_assemble_21b _ _ _
  · exact (fun e => fpro_assemble_56 _)
noncomputable def pro_assemble (v1 : Int) (s : iS) : Option (Int × iS) := bd (pro_reset s) (fun _ s1 => bd (mth_min v1 4000 s1) (fun r2 s2 => lt' (up s2 55 13 r2) (fun s3 => pro_assemble_21 0 0 s3)))
theorem tpro_assemble (w : ev_W) (d : Nat) (hd : 7 ≤ d) (v1 : Int) (s : iS) : Ew hT w d 205 0 [(0, .ref (tb_nK + 55)), (1, iv v1)] [] s (Ci hT) (pro_assemble v1 s) := by
  unfold pro_assemble
  refine e_mv 1 em_205 (ce_at ce_205 0 rfl) rfl rfl ?_
  refine e_ivv 4 em_205 (ce_at ce_205 1 rfl) (by omega) (iv_v0 (by decide) tq_55 rfl) em_206 (Nat.le_of_ble_eq_true rfl) rfl (tpro_reset w (d - 1) (by omega) _) (fun r1 s1 => ?_)
  refine e_mv 5 em_205 (ce_at ce_205 2 rfl) rfl rfl ?_
  refine e_mv 6 em_205 (ce_at ce_205 3 rfl) rfl rfl ?_
  refine e_mv 7 em_205 (ce_at ce_205 4 rfl) rfl rfl ?_
  refine e_getr 10 em_205 (ce_at ce_205 5 rfl) tq_55 rfl rfl ?_
  refine e_alen 11 em_205 (ce_at ce_205 6 rfl) tq_1 (by decide) rfl rfl ?_
  refine e_ivi 14 em_205 (ce_at ce_205 7 rfl) (by omega) (iv_s2 rfl) em_21 (Nat.le_of_ble_eq_true rfl) rfl (tmth_min hT w (d - 1) (by omega) _ _ _) (fun r2 s2 => ?_)
  refine e_put 17 em_205 (ce_at ce_205 8 rfl) tq_55 rfl rfl rfl (fun s3 => ?_)
  refine e_op 18 em_205 (ce_at ce_205 9 rfl) rfl rfl ?_
  refine e_mv 19 em_205 (ce_at ce_205 10 rfl) rfl rfl ?_
  refine e_op 20 em_205 (ce_at ce_205 11 rfl) rfl rfl ?_
  refine e_mv 21 em_205 (ce_at ce_205 12 rfl) rfl rfl ?_
  refine e_pk [0, 2, 3] rfl rfl ?_
  exact tpro_assemble_21 w d hd _ _ _
theorem fpro_assemble (v1 : Int) (s : iS) : Fm Prod.snd L_pro_assemble G_pro_assemble s (pro_assemble v1 s) := fm_bd (fm_sub (fpro_reset _) (mem_sub_L rfl) (mem_sub_F rfl)) (fun r1 s1 => fm_bd (fm_sub (fmth_min _ _ _) (mem_sub_L rfl) (mem_sub_F rfl)) (fun r2 s2 => fm_lt (md_upF (mem_F rfl)) (fun s3 => fpro_assemble_21 _ _ _)))
/-! x_signs -/
def L_x_signs : List Nat := [66, 67, 68, 69, 70]
def G_x_signs : List (Nat × Nat) := [(0, 1), (0, 2), (55, 8), (55, 9), (55, 10), (55, 11), (55, 12), (55, 13), (55, 14), (55, 15), (65, 2)]
noncomputable def x_signs (v1 : Int) (s : iS) : Option (Int × iS) := gd (rg v1) (if v1 < 0 then some ((-1), s) else gd (rg (s 0 1)) (if v1 ≤ (s 0 1) then lt' (up s 0 1 0) (fun s5 => bd (pro_assemble v1 s5) (fun r6 s6 => lt' (up s6 0 2 (s6 55 15)) (fun s7 => some (r6, s7)))) else some ((-1), s)))
theorem tx_signs (w : ev_W) (d : Nat) (hd : 8 ≤ d) (v1 : Int) (s : iS) : Ew hT w d 204 0 [(0, .ref (tb_nK + 0)), (1, iv v1)] [] s (Ci hT) (x_signs v1 s) := by
  unfold x_signs
  refine e_mv 1 em_204 (ce_at ce_204 0 rfl) rfl rfl ?_
  refine e_gd fun g1 => ?_
  refine e_iflt 12 4 em_204 rfl rfl (ce_at ce_204 1 rfl) g1 (fun h2 => ?_) (fun h2 => ?_)
  · refine e_op 13 em_204 (ce_at ce_204 6 rfl) rfl rfl ?_
    exact e_reti em_204 (ce_at ce_204 7 rfl)
  · refine e_mv 5 em_204 (ce_at ce_204 2 rfl) rfl rfl ?_
    refine e_mv 6 em_204 (ce_at ce_204 3 rfl) rfl rfl ?_
    refine e_get 9 em_204 (ce_at ce_204 4 rfl) tq_0 rfl rfl ?_
    refine e_gd fun g3 => ?_
    refine e_cmle 14 12 em_204 rfl rfl (ce_at ce_204 5 rfl) g1 g3 (fun h4 => ?_) (fun h4 => ?_)
    · refine e_mv 15 em_204 (ce_at ce_204 8 rfl) rfl rfl ?_
      refine e_op 16 em_204 (ce_at ce_204 9 rfl) rfl rfl ?_
      refine e_put 19 em_204 (ce_at ce_204 10 rfl) tq_0 rfl rfl rfl (fun s5 => ?_)
      refine e_mv 20 em_204 (ce_at ce_204 11 rfl) rfl rfl ?_
      refine e_getr 23 em_204 (ce_at ce_204 12 rfl) tq_0 rfl rfl ?_
      refine e_mv 24 em_204 (ce_at ce_204 13 rfl) rfl rfl ?_
      refine e_ivi 27 em_204 (ce_at ce_204 14 rfl) (by omega) (iv_v1 (by decide) tq_55 rfl) em_205 (Nat.le_of_ble_eq_true rfl) rfl (tpro_assemble w (d - 1) (by omega) _ _) (fun r6 s6 => ?_)
      refine e_mv 28 em_204 (ce_at ce_204 15 rfl) rfl rfl ?_
      refine e_mv 29 em_204 (ce_at ce_204 16 rfl) rfl rfl ?_
      refine e_mv 30 em_204 (ce_at ce_204 17 rfl) rfl rfl ?_
      refine e_getr 33 em_204 (ce_at ce_204 18 rfl) tq_0 rfl rfl ?_
      refine e_get 36 em_204 (ce_at ce_204 19 rfl) tq_55 rfl rfl ?_
      refine e_put 39 em_204 (ce_at ce_204 20 rfl) tq_0 rfl rfl rfl (fun s7 => ?_)
      refine e_mv 40 em_204 (ce_at ce_204 21 rfl) rfl rfl ?_
      exact e_reti em_204 (ce_at ce_204 22 rfl)
    · refine e_op 13 em_204 (ce_at ce_204 6 rfl) rfl rfl ?_
      exact e_reti em_204 (ce_at ce_204 7 rfl)
theorem fx_signs (v1 : Int) (s : iS) : Fm Prod.snd L_x_signs G_x_signs s (x_signs v1 s) := fm_gd (fm_if (fm_some md_refl) (fm_gd (fm_if (fm_lt (md_upF (mem_F rfl)) (fun s5 => fm_bd (fm_sub (fpro_assemble _ _) (mem_sub_L rfl) (mem_sub_F rfl)) (fun r6 s6 => fm_lt (md_upF (mem_F rfl)) (fun s7 => fm_some md_refl)))) (fm_some md_refl))))
/-! x_code -/
def L_x_code : List Nat := []
def G_x_code : List (Nat × Nat) := []
noncomputable def x_code (v1 : Int) (s : iS) : Option (Int × iS) := gd (rg v1) (if v1 < 0 then some ((-1), s) else gd (rg (s 55 8)) (if (s 55 8) ≤ v1 then some ((-1), s) else gd (0 ≤ v1 ∧ v1 < 1500) (some ((s 69 v1.toNat), s))))
theorem tx_code (w : ev_W) (d : Nat) (hd : 0 ≤ d) (v1 : Int) (s : iS) : Ew hT w d 224 0 [(0, .ref (tb_nK + 0)), (1, iv v1)] [] s (Ci hT) (x_code v1 s) := by
  unfold x_code
  refine e_mv 1 em_224 (ce_at ce_224 0 rfl) rfl rfl ?_
  refine e_gd fun g1 => ?_
  refine e_iflt 27 4 em_224 rfl rfl (ce_at ce_224 1 rfl) g1 (fun h2 => ?_) (fun h2 => ?_)
  · refine e_op 28 em_224 (ce_at ce_224 13 rfl) rfl rfl ?_
    exact e_reti em_224 (ce_at ce_224 14 rfl)
  · refine e_mv 5 em_224 (ce_at ce_224 2 rfl) rfl rfl ?_
    refine e_mv 6 em_224 (ce_at ce_224 3 rfl) rfl rfl ?_
    refine e_getr 9 em_224 (ce_at ce_224 4 rfl) tq_0 rfl rfl ?_
    refine e_get 12 em_224 (ce_at ce_224 5 rfl) tq_55 rfl rfl ?_
    refine e_gd fun g3 => ?_
    refine e_cmge 27 15 em_224 rfl rfl (ce_at ce_224 6 rfl) g1 g3 (fun h4 => ?_) (fun h4 => ?_)
    · refine e_op 28 em_224 (ce_at ce_224 13 rfl) rfl rfl ?_
      exact e_reti em_224 (ce_at ce_224 14 rfl)
    · refine e_mv 16 em_224 (ce_at ce_224 7 rfl) rfl rfl ?_
      refine e_getr 19 em_224 (ce_at ce_224 8 rfl) tq_0 rfl rfl ?_
      refine e_getr 22 em_224 (ce_at ce_224 9 rfl) tq_55 rfl rfl ?_
      refine e_mv 23 em_224 (ce_at ce_224 10 rfl) rfl rfl ?_
      refine e_gd fun g5 => ?_
      refine e_ild 24 em_224 (ce_at ce_224 11 rfl) tq_69 (by decide) g5 rfl ?_
      refine e_goto em_224 28 (ce_at ce_224 12 rfl) rfl ?_
      exact e_reti em_224 (ce_at ce_224 14 rfl)
theorem fx_code (v1 : Int) (s : iS) : Fm Prod.snd L_x_code G_x_code s (x_code v1 s) := fm_gd (fm_if (fm_some md_refl) (fm_gd (fm_if (fm_some md_refl) (fm_gd (fm_some md_refl)))))
/-! pro_compute -/
def L_pro_compute : List Nat := []
def G_pro_compute : List (Nat × Nat) := []
noncomputable def pro_compute_67 (v0 : Int) (t0 : Int) (s : iS) : Option (Int × iS) := gd (rg (i_and v0 1)) (if (i_and v0 1) = 0 then some ((i_s t0), s) else some ((i_s (i_xor t0 (-1))), s))
theorem tpro_compute_67 (H : iS → List am_C) (w : ev_W) (d : Nat) (hd : 0 ≤ d) (v0 : Int) (t0 : Int) (s : iS) : Ew H w d 228 67 [(0, iv v0)] [iv t0] s (Ci H) (pro_compute_67 v0 t0 s) := by
  unfold pro_compute_67
  refine e_mv 69 em_228 (ce_at ce_228 43 rfl) rfl rfl ?_
  refine e_mv 70 em_228 (ce_at ce_228 44 rfl) rfl rfl ?_
  refine e_op 71 em_228 (ce_at ce_228 45 rfl) rfl rfl ?_
  refine e_iand 72 em_228 rfl (ce_at ce_228 46 rfl) ?_
  refine e_gd fun g1 => ?_
  refine e_ifeq 82 75 em_228 rfl rfl (ce_at ce_228 47 rfl) g1 (fun h2 => ?_) (fun h2 => ?_)
  · refine e_mv 84 em_228 (ce_at ce_228 52 rfl) rfl rfl ?_
    refine e_i2s 85 em_228 rfl (ce_at ce_228 53 rfl) ?_
    exact e_reti em_228 (ce_at ce_228 54 rfl)
  · refine e_mv 77 em_228 (ce_at ce_228 48 rfl) rfl rfl ?_
    refine e_op 78 em_228 (ce_at ce_228 49 rfl) rfl rfl ?_
    refine e_ixor 79 em_228 rfl (ce_at ce_228 50 rfl) ?_
    refine e_goto em_228 84 (ce_at ce_228 51 rfl) rfl ?_
    refine e_i2s 85 em_228 rfl (ce_at ce_228 53 rfl) ?_
    exact e_reti em_228 (ce_at ce_228 54 rfl)
theorem fpro_compute_67 (v0 : Int) (t0 : Int) (s : iS) : Fm Prod.snd L_pro_compute G_pro_compute s (pro_compute_67 v0 t0 s) := fm_gd (fm_if (fm_some md_refl) (fm_some md_refl))
noncomputable def pro_compute_50 (v0 : Int) (v3 : Int) (v4 : Int) (s : iS) : Option (Int × iS) := gd (rg (i_and v0 2)) (if (i_and v0 2) = 0 then pro_compute_67 v0 (i_and v3 v4) s else pro_compute_67 v0 (v3 + v4) s)
theorem tpro_compute_50 (H : iS → List am_C) (w : ev_W) (d : Nat) (hd : 0 ≤ d) (v0 : Int) (v3 : Int) (v4 : Int) (s : iS) : Ew H w d 228 50 [(0, iv v0), (3, iv v3), (4, iv v4)] [] s (Ci H) (pro_compute_50 v0 v3 v4 s) := by
  unfold pro_compute_50
  refine e_mv 51 em_228 (ce_at ce_228 32 rfl) rfl rfl ?_
  refine e_op 52 em_228 (ce_at ce_228 33 rfl) rfl rfl ?_
  refine e_iand 53 em_228 rfl (ce_at ce_228 34 rfl) ?_
  refine e_gd fun g1 => ?_
  refine e_ifeq 63 56 em_228 rfl rfl (ce_at ce_228 35 rfl) g1 (fun h2 => ?_) (fun h2 => ?_)
  · refine e_mv 64 em_228 (ce_at ce_228 40 rfl) rfl rfl ?_
    refine e_mv 66 em_228 (ce_at ce_228 41 rfl) rfl rfl ?_
    refine e_iand 67 em_228 rfl (ce_at ce_228 42 rfl) ?_
    refine e_pk [0] rfl rfl ?_
    exact tpro_compute_67 H w d hd _ _ _
  · refine e_mv 57 em_228 (ce_at ce_228 36 rfl) rfl rfl ?_
    refine e_mv 59 em_228 (ce_at ce_228 37 rfl) rfl rfl ?_
    refine e_iadd 60 em_228 rfl (ce_at ce_228 38 rfl) ?_
    refine e_goto em_228 67 (ce_at ce_228 39 rfl) rfl ?_
    refine e_pk [0] rfl rfl ?_
    exact tpro_compute_67 H w d hd _ _ _
theorem fpro_compute_50 (v0 : Int) (v3 : Int) (v4 : Int) (s : iS) : Fm Prod.snd L_pro_compute G_pro_compute s (pro_compute_50 v0 v3 v4 s) := fm_gd (fm_if (fpro_compute_67 _ _ _) (fpro_compute_67 _ _ _))
noncomputable def pro_compute_38 (v0 : Int) (v3 : Int) (v4 : Int) (s : iS) : Option (Int × iS) := gd (rg (i_and v0 4)) (if (i_and v0 4) = 0 then pro_compute_50 v0 v3 v4 s else pro_compute_50 v0 v3 (i_xor v4 (-1)) s)
theorem tpro_compute_38 (H : iS → List am_C) (w : ev_W) (d : Nat) (hd : 0 ≤ d) (v0 : Int) (v3 : Int) (v4 : Int) (s : iS) : Ew H w d 228 38 [(0, iv v0), (3, iv v3), (4, iv v4)] [] s (Ci H) (pro_compute_38 v0 v3 v4 s) := by
  unfold pro_compute_38
  refine e_mv 39 em_228 (ce_at ce_228 24 rfl) rfl rfl ?_
  refine e_op 40 em_228 (ce_at ce_228 25 rfl) rfl rfl ?_
  refine e_iand 41 em_228 rfl (ce_at ce_228 26 rfl) ?_
  refine e_gd fun g1 => ?_
  refine e_ifeq 50 44 em_228 rfl rfl (ce_at ce_228 27 rfl) g1 (fun h2 => ?_) (fun h2 => ?_)
  · refine e_pk [0, 3, 4] rfl rfl ?_
    exact tpro_compute_50 H w d hd _ _ _ _
  · refine e_mv 46 em_228 (ce_at ce_228 28 rfl) rfl rfl ?_
    refine e_op 47 em_228 (ce_at ce_228 29 rfl) rfl rfl ?_
    refine e_ixor 48 em_228 rfl (ce_at ce_228 30 rfl) ?_
    refine e_mv 50 em_228 (ce_at ce_228 31 rfl) rfl rfl ?_
    refine e_pk [0, 3, 4] rfl rfl ?_
    exact tpro_compute_50 H w d hd _ _ _ _
theorem fpro_compute_38 (v0 : Int) (v3 : Int) (v4 : Int) (s : iS) : Fm Prod.snd L_pro_compute G_pro_compute s (pro_compute_38 v0 v3 v4 s) := fm_gd (fm_if (fpro_compute_50 _ _ _ _) (fpro_compute_50 _ _ _ _))
noncomputable def pro_compute_25 (v0 : Int) (v3 : Int) (t0 : Int) (s : iS) : Option (Int × iS) := gd (rg (i_and v0 16)) (if (i_and v0 16) = 0 then pro_compute_38 v0 v3 t0 s else pro_compute_38 v0 (i_xor v3 (-1)) t0 s)
theorem tpro_compute_25 (H : iS → List am_C) (w : ev_W) (d : Nat) (hd : 0 ≤ d) (v0 : Int) (v3 : Int) (t0 : Int) (s : iS) : Ew H w d 228 25 [(0, iv v0), (3, iv v3)] [iv t0] s (Ci H) (pro_compute_25 v0 v3 t0 s) := by
  unfold pro_compute_25
  refine e_mv 27 em_228 (ce_at ce_228 15 rfl) rfl rfl ?_
  refine e_mv 28 em_228 (ce_at ce_228 16 rfl) rfl rfl ?_
  refine e_bip 30 em_228 (ce_at ce_228 17 rfl) (by decide) rfl ?_
  refine e_iand 31 em_228 rfl (ce_at ce_228 18 rfl) ?_
  refine e_gd fun g1 => ?_
  refine e_ifeq 38 34 em_228 rfl rfl (ce_at ce_228 19 rfl) g1 (fun h2 => ?_) (fun h2 => ?_)
  · refine e_pk [0, 3, 4] rfl rfl ?_
    exact tpro_compute_38 H w d hd _ _ _ _
  · refine e_mv 35 em_228 (ce_at ce_228 20 rfl) rfl rfl ?_
    refine e_op 36 em_228 (ce_at ce_228 21 rfl) rfl rfl ?_
    refine e_ixor 37 em_228 rfl (ce_at ce_228 22 rfl) ?_
    refine e_mv 38 em_228 (ce_at ce_228 23 rfl) rfl rfl ?_
    refine e_pk [0, 3, 4] rfl rfl ?_
    exact tpro_compute_38 H w d hd _ _ _ _
theorem fpro_compute_25 (v0 : Int) (v3 : Int) (t0 : Int) (s : iS) : Fm Prod.snd L_pro_compute G_pro_compute s (pro_compute_25 v0 v3 t0 s) := fm_gd (fm_if (fpro_compute_38 _ _ _ _) (fpro_compute_38 _ _ _ _))
noncomputable def pro_compute_12 (v0 : Int) (v2 : Int) (t0 : Int) (s : iS) : Option (Int × iS) := gd (rg (i_and v0 8)) (if (i_and v0 8) = 0 then pro_compute_25 v0 t0 v2 s else pro_compute_25 v0 t0 0 s)
theorem tpro_compute_12 (H : iS → List am_C) (w : ev_W) (d : Nat) (hd : 0 ≤ d) (v0 : Int) (v2 : Int) (t0 : Int) (s : iS) : Ew H w d 228 12 [(0, iv v0), (2, iv v2)] [iv t0] s (Ci H) (pro_compute_12 v0 v2 t0 s) := by
  unfold pro_compute_12
  refine e_mv 13 em_228 (ce_at ce_228 7 rfl) rfl rfl ?_
  refine e_mv 14 em_228 (ce_at ce_228 8 rfl) rfl rfl ?_
  refine e_bip 16 em_228 (ce_at ce_228 9 rfl) (by decide) rfl ?_
  refine e_iand 17 em_228 rfl (ce_at ce_228 10 rfl) ?_
  refine e_gd fun g1 => ?_
  refine e_ifeq 24 20 em_228 rfl rfl (ce_at ce_228 11 rfl) g1 (fun h2 => ?_) (fun h2 => ?_)
  · refine e_mv 25 em_228 (ce_at ce_228 14 rfl) rfl rfl ?_
    refine e_pk [0, 3] rfl rfl ?_
    exact tpro_compute_25 H w d hd _ _ _ _
  · refine e_op 21 em_228 (ce_at ce_228 12 rfl) rfl rfl ?_
    refine e_goto em_228 25 (ce_at ce_228 13 rfl) rfl ?_
    refine e_pk [0, 3] rfl rfl ?_
    exact tpro_compute_25 H w d hd _ _ _ _
theorem fpro_compute_12 (v0 : Int) (v2 : Int) (t0 : Int) (s : iS) : Fm Prod.snd L_pro_compute G_pro_compute s (pro_compute_12 v0 v2 t0 s) := fm_gd (fm_if (fpro_compute_25 _ _ _ _) (fpro_compute_25 _ _ _ _))
noncomputable def pro_compute (v0 : Int) (v1 : Int) (v2 : Int) (s : iS) : Option (Int × iS) := gd (rg (i_and v0 32)) (if (i_and v0 32) = 0 then pro_compute_12 v0 v2 v1 s else pro_compute_12 v0 v2 0 s)
theorem tpro_compute (H : iS → List am_C) (w : ev_W) (d : Nat) (hd : 0 ≤ d) (v0 : Int) (v1 : Int) (v2 : Int) (s : iS) : Ew H w d 228 0 [(0, iv v0), (1, iv v1), (2, iv v2)] [] s (Ci H) (pro_compute v0 v1 v2 s) := by
  unfold pro_compute
  refine e_mv 1 em_228 (ce_at ce_228 0 rfl) rfl rfl ?_
  refine e_bip 3 em_228 (ce_at ce_228 1 rfl) (by decide) rfl ?_
  refine e_iand 4 em_228 rfl (ce_at ce_228 2 rfl) ?_
  refine e_gd fun g1 => ?_
  refine e_ifeq 11 7 em_228 rfl rfl (ce_at ce_228 3 rfl) g1 (fun h2 => ?_) (fun h2 => ?_)
  · refine e_mv 12 em_228 (ce_at ce_228 6 rfl) rfl rfl ?_
    refine e_pk [0, 2] rfl rfl ?_
    exact tpro_compute_12 H w d hd _ _ _ _
  · refine e_op 8 em_228 (ce_at ce_228 4 rfl) rfl rfl ?_
    refine e_goto em_228 12 (ce_at ce_228 5 rfl) rfl ?_
    refine e_pk [0, 2] rfl rfl ?_
    exact tpro_compute_12 H w d hd _ _ _ _
theorem fpro_compute (v0 : Int) (v1 : Int) (v2 : Int) (s : iS) : Fm Prod.snd L_pro_compute G_pro_compute s (pro_compute v0 v1 v2 s) := fm_gd (fm_if (fpro_compute_12 _ _ _ _) (fpro_compute_12 _ _ _ _))
/-! pro_doInstruction -/
def L_pro_doInstruction : List Nat := [70]
def G_pro_doInstruction : List (Nat × Nat) := [(55, 9), (55, 10), (55, 11)]
noncomputable def pro_doInstruction_139 (t0 : Int) (s : iS) : Option (Int × iS) := lt' (up s 55 11 t0) (fun s1 => some (0, s1))
theorem tpro_doInstruction_139 (w : ev_W) (d : Nat) (hd : 1 ≤ d) (t0 : Int) (s : iS) : Ew hT w d 227 139 [] [iv t0, .ref (tb_nK + 55)] s (Cv hT) (pro_doInstruction_139 t0 s) := by
  unfold pro_doInstruction_139
  refine e_put 142 em_227 (ce_at ce_227 80 rfl) tq_55 rfl rfl rfl (fun s1 => ?_)
  exact e_retv em_227 (ce_at ce_227 81 rfl)
theorem fpro_doInstruction_139 (t0 : Int) (s : iS) : Fm Prod.snd L_pro_doInstruction G_pro_doInstruction s (pro_doInstruction_139 t0 s) := fm_lt (md_upF (mem_F rfl)) (fun s1 => fm_some md_refl)
noncomputable def pro_doInstruction_119 (v1 : Int) (v2 : Int) (t0 : Int) (s : iS) : Option (Int × iS) := gd (rg (i_and v1 t0)) (if (i_and v1 t0) = 0 then pro_doInstruction_139 ((s 55 11) + 1) s else pro_doInstruction_139 v2 s)
theorem tpro_doInstruction_119 (w : ev_W) (d : Nat) (hd : 1 ≤ d) (v1 : Int) (v2 : Int) (t0 : Int) (s : iS) : Ew hT w d 227 119 [(0, .ref (tb_nK + 55)), (1, iv v1), (2, iv v2)] [iv t0] s (Cv hT) (pro_doInstruction_119 v1 v2 t0 s) := by
  unfold pro_doInstruction_119
  refine e_mv 121 em_227 (ce_at ce_227 68 rfl) rfl rfl ?_
  refine e_mv 122 em_227 (ce_at ce_227 69 rfl) rfl rfl ?_
  refine e_mv 123 em_227 (ce_at ce_227 70 rfl) rfl rfl ?_
  refine e_mv 125 em_227 (ce_at ce_227 71 rfl) rfl rfl ?_
  refine e_iand 126 em_227 rfl (ce_at ce_227 72 rfl) ?_
  refine e_gd fun g1 => ?_
  refine e_ifeq 133 129 em_227 rfl rfl (ce_at ce_227 73 rfl) g1 (fun h2 => ?_) (fun h2 => ?_)
  · refine e_mv 134 em_227 (ce_at ce_227 76 rfl) rfl rfl ?_
    refine e_get 137 em_227 (ce_at ce_227 77 rfl) tq_55 rfl rfl ?_
    refine e_op 138 em_227 (ce_at ce_227 78 rfl) rfl rfl ?_
    refine e_iadd 139 em_227 rfl (ce_at ce_227 79 rfl) ?_
    refine e_pk [] rfl rfl ?_
    exact tpro_doInstruction_139 w d hd _ _
  · refine e_mv 130 em_227 (ce_at ce_227 74 rfl) rfl rfl ?_
    refine e_goto em_227 139 (ce_at ce_227 75 rfl) rfl ?_
    refine e_pk [] rfl rfl ?_
    exact tpro_doInstruction_139 w d hd _ _
theorem fpro_doInstruction_119 (v1 : Int) (v2 : Int) (t0 : Int) (s : iS) : Fm Prod.snd L_pro_doInstruction G_pro_doInstruction s (pro_doInstruction_119 v1 v2 t0 s) := fm_gd (fm_if (fpro_doInstruction_139 _ _) (fpro_doInstruction_139 _ _))
noncomputable def pro_doInstruction_102 (v1 : Int) (v2 : Int) (v3 : Int) (s : iS) : Option (Int × iS) := gd (rg v3) (if v3 ≤ 0 then if v3 = 0 then pro_doInstruction_119 v1 v2 2 s else pro_doInstruction_119 v1 v2 4 s else pro_doInstruction_119 v1 v2 1 s)
theorem tpro_doInstruction_102 (w : ev_W) (d : Nat) (hd : 1 ≤ d) (v1 : Int) (v2 : Int) (v3 : Int) (s : iS) : Ew hT w d 227 102 [(0, .ref (tb_nK + 55)), (1, iv v1), (2, iv v2), (3, iv v3)] [] s (Cv hT) (pro_doInstruction_102 v1 v2 v3 s) := by
  unfold pro_doInstruction_102
  refine e_mv 103 em_227 (ce_at ce_227 59 rfl) rfl rfl ?_
  refine e_gd fun g1 => ?_
  refine e_ifle 110 106 em_227 rfl rfl (ce_at ce_227 60 rfl) g1 (fun h2 => ?_) (fun h2 => ?_)
  · refine e_mv 111 em_227 (ce_at ce_227 63 rfl) rfl rfl ?_
    refine e_ifne 118 114 em_227 rfl rfl (ce_at ce_227 64 rfl) g1 (fun h3 => ?_) (fun h3 => ?_)
    · refine e_op 119 em_227 (ce_at ce_227 67 rfl) rfl rfl ?_
      refine e_pk [0, 1, 2] rfl rfl ?_
      exact tpro_doInstruction_119 w d hd _ _ _ _
    · refine e_op 115 em_227 (ce_at ce_227 65 rfl) rfl rfl ?_
      refine e_goto em_227 119 (ce_at ce_227 66 rfl) rfl ?_
      refine e_pk [0, 1, 2] rfl rfl ?_
      exact tpro_doInstruction_119 w d hd _ _ _ _
  · refine e_op 107 em_227 (ce_at ce_227 61 rfl) rfl rfl ?_
    refine e_goto em_227 119 (ce_at ce_227 62 rfl) rfl ?_
    refine e_pk [0, 1, 2] rfl rfl ?_
    exact tpro_doInstruction_119 w d hd _ _ _ _
theorem fpro_doInstruction_102 (v1 : Int) (v2 : Int) (v3 : Int) (s : iS) : Fm Prod.snd L_pro_doInstruction G_pro_doInstruction s (pro_doInstruction_102 v1 v2 v3 s) := fm_gd (fm_if (fm_if (fpro_doInstruction_119 _ _ _ _) (fpro_doInstruction_119 _ _ _ _)) (fpro_doInstruction_119 _ _ _ _))
noncomputable def pro_doInstruction_90 (v1 : Int) (v2 : Int) (v3 : Int) (s : iS) : Option (Int × iS) := gd (rg (i_and v1 32)) (if (i_and v1 32) = 0 then pro_doInstruction_102 v1 v2 v3 s else lt' (up s 55 9 v3) (fun s3 => pro_doInstruction_102 v1 v2 v3 s3))
theorem tpro_doInstruction_90 (w : ev_W) (d : Nat) (hd : 1 ≤ d) (v1 : Int) (v2 : Int) (v3 : Int) (s : iS) : Ew hT w d 227 90 [(0, .ref (tb_nK + 55)), (1, iv v1), (2, iv v2), (3, iv v3)] [] s (Cv hT) (pro_doInstruction_90 v1 v2 v3 s) := by
  unfold pro_doInstruction_90
  refine e_mv 91 em_227 (ce_at ce_227 52 rfl) rfl rfl ?_
  refine e_bip 93 em_227 (ce_at ce_227 53 rfl) (by decide) rfl ?_
  refine e_iand 94 em_227 rfl (ce_at ce_227 54 rfl) ?_
  refine e_gd fun g1 => ?_
  refine e_ifeq 102 97 em_227 rfl rfl (ce_at ce_227 55 rfl) g1 (fun h2 => ?_) (fun h2 => ?_)
  · refine e_pk [0, 1, 2, 3] rfl rfl ?_
    exact tpro_doInstruction_102 w d hd _ _ _ _
  · refine e_mv 98 em_227 (ce_at ce_227 56 rfl) rfl rfl ?_
    refine e_mv 99 em_227 (ce_at ce_227 57 rfl) rfl rfl ?_
    refine e_put 102 em_227 (ce_at ce_227 58 rfl) tq_55 rfl rfl rfl (fun s3 => ?_)
    refine e_pk [0, 1, 2, 3] rfl rfl ?_
    exact tpro_doInstruction_102 w d hd _ _ _ _
theorem fpro_doInstruction_90 (v1 : Int) (v2 : Int) (v3 : Int) (s : iS) : Fm Prod.snd L_pro_doInstruction G_pro_doInstruction s (pro_doInstruction_90 v1 v2 v3 s) := fm_gd (fm_if (fpro_doInstruction_102 _ _ _ _) (fm_lt (md_upF (mem_F rfl)) (fun s3 => fpro_doInstruction_102 _ _ _ _)))
noncomputable def pro_doInstruction_78 (v1 : Int) (v2 : Int) (v3 : Int) (s : iS) : Option (Int × iS) := gd (rg (i_and v1 16)) (if (i_and v1 16) = 0 then pro_doInstruction_90 v1 v2 v3 s else lt' (up s 55 10 v3) (fun s3 => pro_doInstruction_90 v1 v2 v3 s3))
theorem tpro_doInstruction_78 (w : ev_W) (d : Nat) (hd : 1 ≤ d) (v1 : Int) (v2 : Int) (v3 : Int) (s : iS) : Ew hT w d 227 78 [(0, .ref (tb_nK + 55)), (1, iv v1), (2, iv v2), (3, iv v3)] [] s (Cv hT) (pro_doInstruction_78 v1 v2 v3 s) := by
  unfold pro_doInstruction_78
  refine e_mv 79 em_227 (ce_at ce_227 45 rfl) rfl rfl ?_
  refine e_bip 81 em_227 (ce_at ce_227 46 rfl) (by decide) rfl ?_
  refine e_iand 82 em_227 rfl (ce_at ce_227 47 rfl) ?_
  refine e_gd fun g1 => ?_
  refine e_ifeq 90 85 em_227 rfl rfl (ce_at ce_227 48 rfl) g1 (fun h2 => ?_) (fun h2 => ?_)
  · refine e_pk [0, 1, 2, 3] rfl rfl ?_
    exact tpro_doInstruction_90 w d hd _ _ _ _
  · refine e_mv 86 em_227 (ce_at ce_227 49 rfl) rfl rfl ?_
    refine e_mv 87 em_227 (ce_at ce_227 50 rfl) rfl rfl ?_
    refine e_put 90 em_227 (ce_at ce_227 51 rfl) tq_55 rfl rfl rfl (fun s3 => ?_)
    refine e_pk [0, 1, 2, 3] rfl rfl ?_
    exact tpro_doInstruction_90 w d hd _ _ _ _
theorem fpro_doInstruction_78 (v1 : Int) (v2 : Int) (v3 : Int) (s : iS) : Fm Prod.snd L_pro_doInstruction G_pro_doInstruction s (pro_doInstruction_78 v1 v2 v3 s) := fm_gd (fm_if (fpro_doInstruction_90 _ _ _ _) (fm_lt (md_upF (mem_F rfl)) (fun s3 => fpro_doInstruction_90 _ _ _ _)))
noncomputable def pro_doInstruction_60 (v1 : Int) (v2 : Int) (t0 : Int) (t1 : Int) (t2 : Int) (s : iS) : Option (Int × iS) := bd (pro_compute t2 t1 t0 s) (fun r1 s1 => gd (rg (i_and v1 8)) (if (i_and v1 8) = 0 then pro_doInstruction_78 v1 v2 r1 s1 else gd (0 ≤ v2 ∧ v2 < 32768) (lt' (up s1 70 v2.toNat r1) (fun s5 => pro_doInstruction_78 v1 v2 r1 s5))))
theorem tpro_doInstruction_60 (w : ev_W) (d : Nat) (hd : 1 ≤ d) (v1 : Int) (v2 : Int) (t0 : Int) (t1 : Int) (t2 : Int) (s : iS) : Ew hT w d 227 60 [(0, .ref (tb_nK + 55)), (1, iv v1), (2, iv v2)] [iv t0, iv t1, iv t2] s (Cv hT) (pro_doInstruction_60 v1 v2 t0 t1 t2 s) := by
  unfold pro_doInstruction_60
  refine e_ivi 63 em_227 (ce_at ce_227 34 rfl) (by omega) (iv_s3 rfl) em_228 (Nat.le_of_ble_eq_true rfl) rfl (tpro_compute hT w (d - 1) (by omega) _ _ _ _) (fun r1 s1 => ?_)
  refine e_mv 64 em_227 (ce_at ce_227 35 rfl) rfl rfl ?_
  refine e_mv 65 em_227 (ce_at ce_227 36 rfl) rfl rfl ?_
  refine e_bip 67 em_227 (ce_at ce_227 37 rfl) (by decide) rfl ?_
  refine e_iand 68 em_227 rfl (ce_at ce_227 38 rfl) ?_
  refine e_gd fun g2 => ?_
  refine e_ifeq 78 71 em_227 rfl rfl (ce_at ce_227 39 rfl) g2 (fun h3 => ?_) (fun h3 => ?_)
  · refine e_pk [0, 1, 2, 3] rfl rfl ?_
    exact tpro_doInstruction_78 w d hd _ _ _ _
  · refine e_mv 72 em_227 (ce_at ce_227 40 rfl) rfl rfl ?_
    refine e_getr 75 em_227 (ce_at ce_227 41 rfl) tq_55 rfl rfl ?_
    refine e_mv 76 em_227 (ce_at ce_227 42 rfl) rfl rfl ?_
    refine e_mv 77 em_227 (ce_at ce_227 43 rfl) rfl rfl ?_
    refine e_gd fun g4 => ?_
    refine e_ist 78 em_227 (ce_at ce_227 44 rfl) tq_70 (by decide) g4 rfl (fun s5 => ?_)
    refine e_pk [0, 1, 2, 3] rfl rfl ?_
    exact tpro_doInstruction_78 w d hd _ _ _ _
theorem fpro_doInstruction_60 (v1 : Int) (v2 : Int) (t0 : Int) (t1 : Int) (t2 : Int) (s : iS) : Fm Prod.snd L_pro_doInstruction G_pro_doInstruction s (pro_doInstruction_60 v1 v2 t0 t1 t2 s) := fm_bd (fm_sub (fpro_compute _ _ _ _) (mem_sub_L rfl) (mem_sub_F rfl)) (fun r1 s1 => fm_gd (fm_if (fpro_doInstruction_78 _ _ _ _) (fm_gd (fm_lt (md_upL (mem_L rfl)) (fun s5 => fpro_doInstruction_78 _ _ _ _)))))
noncomputable def pro_doInstruction (v1 : Int) (s : iS) : Option (Int × iS) := gd (rg v1) (if 57344 ≤ v1 then gd (rg (i_and v1 4096)) (if (i_and v1 4096) = 0 then pro_doInstruction_60 v1 (i_and (s 55 9) 32767) (s 55 9) (s 55 10) (i_shr v1 6) s else gd (0 ≤ (i_and (s 55 9) 32767) ∧ (i_and (s 55 9) 32767) < 32768) (pro_doInstruction_60 v1 (i_and (s 55 9) 32767) (s 70 (i_and (s 55 9) 32767).toNat) (s 55 10) (i_shr v1 6) s)) else lt' (up s 55 9 v1) (fun s6 => lt' (up s6 55 11 ((s6 55 11) + 1)) (fun s7 => some (0, s7))))
theorem tpro_doInstruction (w : ev_W) (d : Nat) (hd : 1 ≤ d) (v1 : Int) (s : iS) : Ew hT w d 227 0 [(0, .ref (tb_nK + 55)), (1, iv v1)] [] s (Cv hT) (pro_doInstruction v1 s) := by
  unfold pro_doInstruction
  refine e_mv 1 em_227 (ce_at ce_227 0 rfl) rfl rfl ?_
  refine e_ldc 3 em_227 (ce_at ce_227 1 rfl) (x := 57344) rfl rfl ?_
  refine e_gd fun g1 => ?_
  refine e_cmge 22 6 em_227 rfl rfl (ce_at ce_227 2 rfl) g1 (by decide) (fun h2 => ?_) (fun h2 => ?_)
  · refine e_mv 23 em_227 (ce_at ce_227 13 rfl) rfl rfl ?_
    refine e_get 26 em_227 (ce_at ce_227 14 rfl) tq_55 rfl rfl ?_
    refine e_sip 29 em_227 (ce_at ce_227 15 rfl) (by decide) rfl ?_
    refine e_iand 30 em_227 rfl (ce_at ce_227 16 rfl) ?_
    refine e_mv 31 em_227 (ce_at ce_227 17 rfl) rfl rfl ?_
    refine e_mv 32 em_227 (ce_at ce_227 18 rfl) rfl rfl ?_
    refine e_bip 34 em_227 (ce_at ce_227 19 rfl) (by decide) rfl ?_
    refine e_ishr 35 em_227 rfl (ce_at ce_227 20 rfl) ?_
    refine e_mv 36 em_227 (ce_at ce_227 21 rfl) rfl rfl ?_
    refine e_get 39 em_227 (ce_at ce_227 22 rfl) tq_55 rfl rfl ?_
    refine e_mv 40 em_227 (ce_at ce_227 23 rfl) rfl rfl ?_
    refine e_sip 43 em_227 (ce_at ce_227 24 rfl) (by decide) rfl ?_
    refine e_iand 44 em_227 rfl (ce_at ce_227 25 rfl) ?_
    refine e_gd fun g3 => ?_
    refine e_ifeq 56 47 em_227 rfl rfl (ce_at ce_227 26 rfl) g3 (fun h4 => ?_) (fun h4 => ?_)
    · refine e_mv 57 em_227 (ce_at ce_227 32 rfl) rfl rfl ?_
      refine e_get 60 em_227 (ce_at ce_227 33 rfl) tq_55 rfl rfl ?_
      refine e_pk [0, 1, 2] rfl rfl ?_
      exact tpro_doInstruction_60 w d hd _ _ _ _ _ _
    · refine e_mv 48 em_227 (ce_at ce_227 27 rfl) rfl rfl ?_
      refine e_getr 51 em_227 (ce_at ce_227 28 rfl) tq_55 rfl rfl ?_
      refine e_mv 52 em_227 (ce_at ce_227 29 rfl) rfl rfl ?_
      refine e_gd fun g5 => ?_
      refine e_ild 53 em_227 (ce_at ce_227 30 rfl) tq_70 (by decide) g5 rfl ?_
      refine e_goto em_227 60 (ce_at ce_227 31 rfl) rfl ?_
      refine e_pk [0, 1, 2] rfl rfl ?_
      exact tpro_doInstruction_60 w d hd _ _ _ _ _ _
  · refine e_mv 7 em_227 (ce_at ce_227 3 rfl) rfl rfl ?_
    refine e_mv 8 em_227 (ce_at ce_227 4 rfl) rfl rfl ?_
    refine e_put 11 em_227 (ce_at ce_227 5 rfl) tq_55 rfl rfl rfl (fun s6 => ?_)
    refine e_mv 12 em_227 (ce_at ce_227 6 rfl) rfl rfl ?_
    refine e_op 13 em_227 (ce_at ce_227 7 rfl) rfl rfl ?_
    refine e_get 16 em_227 (ce_at ce_227 8 rfl) tq_55 rfl rfl ?_
    refine e_op 17 em_227 (ce_at ce_227 9 rfl) rfl rfl ?_
    refine e_iadd 18 em_227 rfl (ce_at ce_227 10 rfl) ?_
    refine e_put 21 em_227 (ce_at ce_227 11 rfl) tq_55 rfl rfl rfl (fun s7 => ?_)
    exact e_retv em_227 (ce_at ce_227 12 rfl)
theorem fpro_doInstruction (v1 : Int) (s : iS) : Fm Prod.snd L_pro_doInstruction G_pro_doInstruction s (pro_doInstruction v1 s) := fm_gd (fm_if (fm_gd (fm_if (fpro_doInstruction_60 _ _ _ _ _ _) (fm_gd (fpro_doInstruction_60 _ _ _ _ _ _)))) (fm_lt (md_upF (mem_F rfl)) (fun s6 => fm_lt (md_upF (mem_F rfl)) (fun s7 => fm_some md_refl))))
/-! pro_execute -/
def L_pro_execute : List Nat := [70]
def G_pro_execute : List (Nat × Nat) := [(55, 9), (55, 10), (55, 11), (55, 12)]
def pro_execute_2C (w : ev_W) (d : Nat) (v1 : Int) : (Int × iS) ⊕ (Int × iS) → am_E → Prop := fun q r => q.elim (fun l => ev w d 226 2 ((fun l => [(0, .ref (tb_nK + 55)), (1, iv v1), (2, iv (l.1))]) l) [] (hT ((fun l => l.2) l)) r) (fun e => (fun e r => ev w d 226 44 [(0, .ref (tb_nK + 55)), (2, iv (e.1))] [] (hT (e.2)) r) e r)
noncomputable def pro_execute_2b (v1 : Int) (v2 : Int) (s : iS) : Option ((Int × iS) ⊕ (Int × iS)) := gd (rg v2) (gd (rg v1) (if v1 ≤ v2 then some (.inr (v2, s)) else gd (rg (s 55 11)) (if (s 55 11) < 0 then some (.inr (v2, s)) else gd (rg (s 55 8)) (if (s 55 8) ≤ (s 55 11) then some (.inr (v2, s)) else gd (0 ≤ (s 55 11) ∧ (s 55 11) < 1500) (bd (pro_doInstruction (s 69 (s 55 11).toNat) s) (fun _ s9 => some (.inl ((v2 + 1), s9))))))))
theorem tpro_execute_2b (w : ev_W) (d : Nat) (hd : 2 ≤ d) (v1 : Int) (v2 : Int) (s : iS) : Ew hT w d 226 2 [(0, .ref (tb_nK + 55)), (1, iv v1), (2, iv v2)] [] s (pro_execute_2C w d v1) (pro_execute_2b v1 v2 s) := by
  unfold pro_execute_2b
  refine e_mv 3 em_226 (ce_at ce_226 2 rfl) rfl rfl ?_
  refine e_mv 4 em_226 (ce_at ce_226 3 rfl) rfl rfl ?_
  refine e_gd fun g1 => ?_
  refine e_gd fun g2 => ?_
  refine e_cmge 44 7 em_226 rfl rfl (ce_at ce_226 4 rfl) g1 g2 (fun h3 => ?_) (fun h3 => ?_)
  · refine e_pk [0, 2] rfl rfl ?_
    exact e_out (fun r h => h)
  · refine e_mv 8 em_226 (ce_at ce_226 5 rfl) rfl rfl ?_
    refine e_get 11 em_226 (ce_at ce_226 6 rfl) tq_55 rfl rfl ?_
    refine e_gd fun g4 => ?_
    refine e_iflt 44 14 em_226 rfl rfl (ce_at ce_226 7 rfl) g4 (fun h5 => ?_) (fun h5 => ?_)
    · refine e_pk [0, 2] rfl rfl ?_
      exact e_out (fun r h => h)
    · refine e_mv 15 em_226 (ce_at ce_226 8 rfl) rfl rfl ?_
      refine e_get 18 em_226 (ce_at ce_226 9 rfl) tq_55 rfl rfl ?_
      refine e_mv 19 em_226 (ce_at ce_226 10 rfl) rfl rfl ?_
      refine e_get 22 em_226 (ce_at ce_226 11 rfl) tq_55 rfl rfl ?_
      refine e_gd fun g6 => ?_
      refine e_cmge 44 25 em_226 rfl rfl (ce_at ce_226 12 rfl) g4 g6 (fun h7 => ?_) (fun h7 => ?_)
      · refine e_pk [0, 2] rfl rfl ?_
        exact e_out (fun r h => h)
      · refine e_mv 26 em_226 (ce_at ce_226 13 rfl) rfl rfl ?_
        refine e_mv 27 em_226 (ce_at ce_226 14 rfl) rfl rfl ?_
        refine e_getr 30 em_226 (ce_at ce_226 15 rfl) tq_55 rfl rfl ?_
        refine e_mv 31 em_226 (ce_at ce_226 16 rfl) rfl rfl ?_
        refine e_get 34 em_226 (ce_at ce_226 17 rfl) tq_55 rfl rfl ?_
        refine e_gd fun g8 => ?_
        refine e_ild 35 em_226 (ce_at ce_226 18 rfl) tq_69 (by decide) g8 rfl ?_
        refine e_ivv 38 em_226 (ce_at ce_226 19 rfl) (by omega) (iv_v1 (by decide) tq_55 rfl) em_227 (Nat.le_of_ble_eq_true rfl) rfl (tpro_doInstruction w (d - 1) (by omega) _ _) (fun r9 s9 => ?_)
        refine e_iinc 41 em_226 (ce_at ce_226 20 rfl) rfl (by decide) rfl ?_
        refine e_goto em_226 2 (ce_at ce_226 21 rfl) rfl ?_
        refine e_pk [0, 1, 2] rfl rfl ?_
        exact e_out (fun r h => h)
theorem fpro_execute_2b (v1 : Int) (v2 : Int) (s : iS) : Fm (fun r : (Int × iS) ⊕ (Int × iS) => r.elim (fun l => l.2) (fun e => e.2)) L_pro_execute G_pro_execute s (pro_execute_2b v1 v2 s) := fm_gd (fm_gd (fm_if (fm_some md_refl) (fm_gd (fm_if (fm_some md_refl) (fm_gd (fm_if (fm_some md_refl) (fm_gd (fm_bd (fm_sub (fpro_doInstruction _ _) (mem_sub_L rfl) (mem_sub_F rfl)) (fun r9 s9 => fm_some md_refl)))))))))
noncomputable def pro_execute_44 (v2 : Int) (s : iS) : Option (Int × iS) := lt' (up s 55 12 ((s 55 12) + v2)) (fun s1 => some (v2, s1))
theorem tpro_execute_44 (w : ev_W) (d : Nat) (hd : 2 ≤ d) (v2 : Int) (s : iS) : Ew hT w d 226 44 [(0, .ref (tb_nK + 55)), (2, iv v2)] [] s (Ci hT) (pro_execute_44 v2 s) := by
  unfold pro_execute_44
  refine e_mv 45 em_226 (ce_at ce_226 22 rfl) rfl rfl ?_
  refine e_op 46 em_226 (ce_at ce_226 23 rfl) rfl rfl ?_
  refine e_get 49 em_226 (ce_at ce_226 24 rfl) tq_55 rfl rfl ?_
  refine e_mv 50 em_226 (ce_at ce_226 25 rfl) rfl rfl ?_
  refine e_iadd 51 em_226 rfl (ce_at ce_226 26 rfl) ?_
  refine e_put 54 em_226 (ce_at ce_226 27 rfl) tq_55 rfl rfl rfl (fun s1 => ?_)
  refine e_mv 55 em_226 (ce_at ce_226 28 rfl) rfl rfl ?_
  exact e_reti em_226 (ce_at ce_226 29 rfl)
theorem fpro_execute_44 (v2 : Int) (s : iS) : Fm Prod.snd L_pro_execute G_pro_execute s (pro_execute_44 v2 s) := fm_lt (md_upF (mem_F rfl)) (fun s1 => fm_some md_refl)
noncomputable def pro_execute_2 (v1 : Int) (v2 : Int) (s : iS) : Option (Int × iS) := (lp (L := Int × iS) (E := Int × iS) (fun l => pro_execute_2b v1 (l.1) (l.2)) (v2, s)).bind (fun e => pro_execute_44 (e.1) (e.2))
theorem tpro_execute_2 (w : ev_W) (d : Nat) (hd : 2 ≤ d) (v1 : Int) (v2 : Int) (s : iS) : Ew hT w d 226 2 [(0, .ref (tb_nK + 55)), (1, iv v1), (2, iv v2)] [] s (Ci hT) (pro_execute_2 v1 v2 s) := by
  unfold pro_execute_2
  refine e_lp (L := Int × iS) (E := Int × iS) (LO := fun l => [(0, .ref (tb_nK + 55)), (1, iv v1), (2, iv (l.1))]) (LS := fun l => l.2) (CE := fun e r => ev w d 226 44 [(0, .ref (tb_nK + 55)), (2, iv (e.1))] [] (hT (e.2)) r) (fun l => tpro_execute_2b w d hd _ _ _) ?_ (v2, s)
  intro e
  show Ew hT w d 226 44 [(0, .ref (tb_nK + 55)), (2, iv (e.1))] [] e.2 (Ci hT) _
  refine e_pk [0, 2] rfl rfl ?_
  exact tpro_execute_44 w d hd _ _
theorem fpro_execute_2 (v1 : Int) (v2 : Int) (s : iS) : Fm Prod.snd L_pro_execute G_pro_execute s (pro_execute_2 v1 v2 s) := by
  unfold pro_execute_2
  refine fm_lp (A := Int × iS) (E := Int × iS) (LS := fun l => l.2) (LE := fun e => e.2) ?_ ?_ (v2, s)
  · exact fun l => fpro_execute_2b _ _ _
  · exact (fun e => fpro_execute_44 _ _)
noncomputable def pro_execute (v1 : Int) (s : iS) : Option (Int × iS) := pro_execute_2 v1 0 s
theorem tpro_execute (w : ev_W) (d : Nat) (hd : 2 ≤ d) (v1 : Int) (s : iS) : Ew hT w d 226 0 [(0, .ref (tb_nK + 55)), (1, iv v1)] [] s (Ci hT) (pro_execute v1 s) := by
  unfold pro_execute
  refine e_op 1 em_226 (ce_at ce_226 0 rfl) rfl rfl ?_
  refine e_mv 2 em_226 (ce_at ce_226 1 rfl) rfl rfl ?_
  refine e_pk [0, 1, 2] rfl rfl ?_
  exact tpro_execute_2 w d hd _ _ _
theorem fpro_execute (v1 : Int) (s : iS) : Fm Prod.snd L_pro_execute G_pro_execute s (pro_execute v1 s) := fpro_execute_2 _ _ _
/-! x_go -/
def L_x_go : List Nat := [70]
def G_x_go : List (Nat × Nat) := [(55, 9), (55, 10), (55, 11), (55, 12)]
noncomputable def x_go (v1 : Int) (s : iS) : Option (Int × iS) := gd (rg v1) (if v1 < 0 then some ((-1), s) else if 20000 < v1 then some ((-1), s) else bd (pro_execute v1 s) (fun r4 s4 => some (r4, s4)))
theorem tx_go (w : ev_W) (d : Nat) (hd : 3 ≤ d) (v1 : Int) (s : iS) : Ew hT w d 225 0 [(0, .ref (tb_nK + 0)), (1, iv v1)] [] s (Ci hT) (x_go v1 s) := by
  unfold x_go
  refine e_mv 1 em_225 (ce_at ce_225 0 rfl) rfl rfl ?_
  refine e_gd fun g1 => ?_
  refine e_iflt 22 4 em_225 rfl rfl (ce_at ce_225 1 rfl) g1 (fun h2 => ?_) (fun h2 => ?_)
  · refine e_op 23 em_225 (ce_at ce_225 10 rfl) rfl rfl ?_
    exact e_reti em_225 (ce_at ce_225 11 rfl)
  · refine e_mv 5 em_225 (ce_at ce_225 2 rfl) rfl rfl ?_
    refine e_sip 8 em_225 (ce_at ce_225 3 rfl) (by decide) rfl ?_
    refine e_cmgt 22 11 em_225 rfl rfl (ce_at ce_225 4 rfl) g1 (by decide) (fun h3 => ?_) (fun h3 => ?_)
    · refine e_op 23 em_225 (ce_at ce_225 10 rfl) rfl rfl ?_
      exact e_reti em_225 (ce_at ce_225 11 rfl)
    · refine e_mv 12 em_225 (ce_at ce_225 5 rfl) rfl rfl ?_
      refine e_getr 15 em_225 (ce_at ce_225 6 rfl) tq_0 rfl rfl ?_
      refine e_mv 16 em_225 (ce_at ce_225 7 rfl) rfl rfl ?_
      refine e_ivi 19 em_225 (ce_at ce_225 8 rfl) (by omega) (iv_v1 (by decide) tq_55 rfl) em_226 (Nat.le_of_ble_eq_true rfl) rfl (tpro_execute w (d - 1) (by omega) _ _) (fun r4 s4 => ?_)
      refine e_goto em_225 23 (ce_at ce_225 9 rfl) rfl ?_
      exact e_reti em_225 (ce_at ce_225 11 rfl)
theorem fx_go (v1 : Int) (s : iS) : Fm Prod.snd L_x_go G_x_go s (x_go v1 s) := fm_gd (fm_if (fm_some md_refl) (fm_if (fm_some md_refl) (fm_bd (fm_sub (fpro_execute _ _) (mem_sub_L rfl) (mem_sub_F rfl)) (fun r4 s4 => fm_some md_refl))))
/-! pro_isAddress -/
def L_pro_isAddress : List Nat := []
def G_pro_isAddress : List (Nat × Nat) := []
noncomputable def pro_isAddress (v0 : Int) (s : iS) : Option (Int × iS) := gd (rg v0) (if v0 < 0 then some (0, s) else if 32768 ≤ v0 then some (0, s) else some (1, s))
theorem tpro_isAddress (H : iS → List am_C) (w : ev_W) (d : Nat) (hd : 0 ≤ d) (v0 : Int) (s : iS) : Ew H w d 230 0 [(0, iv v0)] [] s (Ci H) (pro_isAddress v0 s) := by
  unfold pro_isAddress
  refine e_mv 1 em_230 (ce_at ce_230 0 rfl) rfl rfl ?_
  refine e_gd fun g1 => ?_
  refine e_iflt 14 4 em_230 rfl rfl (ce_at ce_230 1 rfl) g1 (fun h2 => ?_) (fun h2 => ?_)
  · refine e_op 15 em_230 (ce_at ce_230 7 rfl) rfl rfl ?_
    exact e_retz em_230 (ce_at ce_230 8 rfl) (by decide)
  · refine e_mv 5 em_230 (ce_at ce_230 2 rfl) rfl rfl ?_
    refine e_ldc 7 em_230 (ce_at ce_230 3 rfl) (x := 32768) rfl rfl ?_
    refine e_cmge 14 10 em_230 rfl rfl (ce_at ce_230 4 rfl) g1 (by decide) (fun h3 => ?_) (fun h3 => ?_)
    · refine e_op 15 em_230 (ce_at ce_230 7 rfl) rfl rfl ?_
      exact e_retz em_230 (ce_at ce_230 8 rfl) (by decide)
    · refine e_op 11 em_230 (ce_at ce_230 5 rfl) rfl rfl ?_
      refine e_goto em_230 15 (ce_at ce_230 6 rfl) rfl ?_
      exact e_retz em_230 (ce_at ce_230 8 rfl) (by decide)
theorem fpro_isAddress (v0 : Int) (s : iS) : Fm Prod.snd L_pro_isAddress G_pro_isAddress s (pro_isAddress v0 s) := fm_gd (fm_if (fm_some md_refl) (fm_if (fm_some md_refl) (fm_some md_refl)))
/-! x_set -/
def L_x_set : List Nat := [70]
def G_x_set : List (Nat × Nat) := []
noncomputable def x_set (v1 : Int) (v2 : Int) (s : iS) : Option (Int × iS) := bd (pro_isAddress v1 s) (fun r1 s1 => gd (rg r1) (if r1 = 0 then some (0, s1) else gd (0 ≤ v1 ∧ v1 < 32768) (lt' (up s1 70 v1.toNat (i_s v2)) (fun s5 => some (1, s5)))))
theorem tx_set (w : ev_W) (d : Nat) (hd : 1 ≤ d) (v1 : Int) (v2 : Int) (s : iS) : Ew hT w d 229 0 [(0, .ref (tb_nK + 0)), (1, iv v1), (2, iv v2)] [] s (Ci hT) (x_set v1 v2 s) := by
  unfold x_set
  refine e_mv 1 em_229 (ce_at ce_229 0 rfl) rfl rfl ?_
  refine e_ivi 4 em_229 (ce_at ce_229 1 rfl) (by omega) (iv_s1 rfl) em_230 (Nat.le_of_ble_eq_true rfl) rfl (tpro_isAddress hT w (d - 1) (by omega) _ _) (fun r1 s1 => ?_)
  refine e_gd fun g2 => ?_
  refine e_ifne 9 7 em_229 rfl rfl (ce_at ce_229 2 rfl) g2 (fun h3 => ?_) (fun h3 => ?_)
  · refine e_mv 10 em_229 (ce_at ce_229 5 rfl) rfl rfl ?_
    refine e_getr 13 em_229 (ce_at ce_229 6 rfl) tq_0 rfl rfl ?_
    refine e_getr 16 em_229 (ce_at ce_229 7 rfl) tq_55 rfl rfl ?_
    refine e_mv 17 em_229 (ce_at ce_229 8 rfl) rfl rfl ?_
    refine e_mv 18 em_229 (ce_at ce_229 9 rfl) rfl rfl ?_
    refine e_i2s 19 em_229 rfl (ce_at ce_229 10 rfl) ?_
    refine e_gd fun g4 => ?_
    refine e_ist 20 em_229 (ce_at ce_229 11 rfl) tq_70 (by decide) g4 rfl (fun s5 => ?_)
    refine e_op 21 em_229 (ce_at ce_229 12 rfl) rfl rfl ?_
    exact e_retz em_229 (ce_at ce_229 13 rfl) (by decide)
  · refine e_op 8 em_229 (ce_at ce_229 3 rfl) rfl rfl ?_
    exact e_retz em_229 (ce_at ce_229 4 rfl) (by decide)
theorem fx_set (v1 : Int) (v2 : Int) (s : iS) : Fm Prod.snd L_x_set G_x_set s (x_set v1 v2 s) := fm_bd (fm_sub (fpro_isAddress _ _) (mem_sub_L rfl) (mem_sub_F rfl)) (fun r1 s1 => fm_gd (fm_if (fm_some md_refl) (fm_gd (fm_lt (md_upL (mem_L rfl)) (fun s5 => fm_some md_refl)))))
/-! x_store -/
def L_x_store : List Nat := []
def G_x_store : List (Nat × Nat) := []
noncomputable def x_store (v1 : Int) (s : iS) : Option (Int × iS) := bd (pro_isAddress v1 s) (fun r1 s1 => gd (rg r1) (if r1 = 0 then some (100000, s1) else gd (0 ≤ v1 ∧ v1 < 32768) (some ((s1 70 v1.toNat), s1))))
theorem tx_store (w : ev_W) (d : Nat) (hd : 1 ≤ d) (v1 : Int) (s : iS) : Ew hT w d 231 0 [(0, .ref (tb_nK + 0)), (1, iv v1)] [] s (Ci hT) (x_store v1 s) := by
  unfold x_store
  refine e_mv 1 em_231 (ce_at ce_231 0 rfl) rfl rfl ?_
  refine e_ivi 4 em_231 (ce_at ce_231 1 rfl) (by omega) (iv_s1 rfl) em_230 (Nat.le_of_ble_eq_true rfl) rfl (tpro_isAddress hT w (d - 1) (by omega) _ _) (fun r1 s1 => ?_)
  refine e_gd fun g2 => ?_
  refine e_ifeq 19 7 em_231 rfl rfl (ce_at ce_231 2 rfl) g2 (fun h3 => ?_) (fun h3 => ?_)
  · refine e_ldc 21 em_231 (ce_at ce_231 9 rfl) (x := 100000) rfl rfl ?_
    exact e_reti em_231 (ce_at ce_231 10 rfl)
  · refine e_mv 8 em_231 (ce_at ce_231 3 rfl) rfl rfl ?_
    refine e_getr 11 em_231 (ce_at ce_231 4 rfl) tq_0 rfl rfl ?_
    refine e_getr 14 em_231 (ce_at ce_231 5 rfl) tq_55 rfl rfl ?_
    refine e_mv 15 em_231 (ce_at ce_231 6 rfl) rfl rfl ?_
    refine e_gd fun g4 => ?_
    refine e_ild 16 em_231 (ce_at ce_231 7 rfl) tq_70 (by decide) g4 rfl ?_
    refine e_goto em_231 21 (ce_at ce_231 8 rfl) rfl ?_
    exact e_reti em_231 (ce_at ce_231 10 rfl)
theorem fx_store (v1 : Int) (s : iS) : Fm Prod.snd L_x_store G_x_store s (x_store v1 s) := fm_bd (fm_sub (fpro_isAddress _ _) (mem_sub_L rfl) (mem_sub_F rfl)) (fun r1 s1 => fm_gd (fm_if (fm_some md_refl) (fm_gd (fm_some md_refl))))
/-! pro_ownSymbols -/
def L_pro_ownSymbols : List Nat := []
def G_pro_ownSymbols : List (Nat × Nat) := []
noncomputable def pro_ownSymbols (s : iS) : Option (Int × iS) := some (((s 65 2) - 23), s)
theorem tpro_ownSymbols (w : ev_W) (d : Nat) (hd : 0 ≤ d) (s : iS) : Ew hT w d 233 0 [(0, .ref (tb_nK + 55))] [] s (Ci hT) (pro_ownSymbols s) := by
  unfold pro_ownSymbols
  refine e_mv 1 em_233 (ce_at ce_233 0 rfl) rfl rfl ?_
  refine e_getr 4 em_233 (ce_at ce_233 1 rfl) tq_55 rfl rfl ?_
  refine e_get 7 em_233 (ce_at ce_233 2 rfl) tq_65 rfl rfl ?_
  refine e_bip 9 em_233 (ce_at ce_233 3 rfl) (by decide) rfl ?_
  refine e_isub 10 em_233 rfl (ce_at ce_233 4 rfl) ?_
  exact e_reti em_233 (ce_at ce_233 5 rfl)
theorem fpro_ownSymbols (s : iS) : Fm Prod.snd L_pro_ownSymbols G_pro_ownSymbols s (pro_ownSymbols s) := fm_some md_refl
/-! x_register -/
def L_x_register : List Nat := []
def G_x_register : List (Nat × Nat) := []
noncomputable def x_register (v1 : Int) (s : iS) : Option (Int × iS) := gd (rg v1) (if v1 = 0 then some ((s 55 9), s) else if v1 = 1 then some ((s 55 10), s) else if v1 = 2 then some ((s 55 11), s) else if v1 = 3 then some ((s 55 8), s) else if v1 = 4 then some ((s 55 12), s) else if v1 = 5 then bd (pro_ownSymbols s) (fun r8 s8 => some (r8, s8)) else some (0, s))
theorem tx_register (w : ev_W) (d : Nat) (hd : 1 ≤ d) (v1 : Int) (s : iS) : Ew hT w d 232 0 [(0, .ref (tb_nK + 0)), (1, iv v1)] [] s (Ci hT) (x_register v1 s) := by
  unfold x_register
  refine e_mv 1 em_232 (ce_at ce_232 0 rfl) rfl rfl ?_
  refine e_gd fun g1 => ?_
  refine e_case 0 (fun h2 => ?_) (fun h2 => ?_)
  · refine e_sw em_232 40 (ce_at ce_232 1 rfl) (sw_in g1 (by omega) (by subst h2; rfl)) rfl ?_
    refine e_mv 41 em_232 (ce_at ce_232 2 rfl) rfl rfl ?_
    refine e_getr 44 em_232 (ce_at ce_232 3 rfl) tq_0 rfl rfl ?_
    refine e_get 47 em_232 (ce_at ce_232 4 rfl) tq_55 rfl rfl ?_
    exact e_reti em_232 (ce_at ce_232 5 rfl)
  refine e_case 1 (fun h3 => ?_) (fun h3 => ?_)
  · refine e_sw em_232 48 (ce_at ce_232 1 rfl) (sw_in g1 (by omega) (by subst h3; rfl)) rfl ?_
    refine e_mv 49 em_232 (ce_at ce_232 6 rfl) rfl rfl ?_
    refine e_getr 52 em_232 (ce_at ce_232 7 rfl) tq_0 rfl rfl ?_
    refine e_get 55 em_232 (ce_at ce_232 8 rfl) tq_55 rfl rfl ?_
    exact e_reti em_232 (ce_at ce_232 9 rfl)
  refine e_case 2 (fun h4 => ?_) (fun h4 => ?_)
  · refine e_sw em_232 56 (ce_at ce_232 1 rfl) (sw_in g1 (by omega) (by subst h4; rfl)) rfl ?_
    refine e_mv 57 em_232 (ce_at ce_232 10 rfl) rfl rfl ?_
    refine e_getr 60 em_232 (ce_at ce_232 11 rfl) tq_0 rfl rfl ?_
    refine e_get 63 em_232 (ce_at ce_232 12 rfl) tq_55 rfl rfl ?_
    exact e_reti em_232 (ce_at ce_232 13 rfl)
  refine e_case 3 (fun h5 => ?_) (fun h5 => ?_)
  · refine e_sw em_232 64 (ce_at ce_232 1 rfl) (sw_in g1 (by omega) (by subst h5; rfl)) rfl ?_
    refine e_mv 65 em_232 (ce_at ce_232 14 rfl) rfl rfl ?_
    refine e_getr 68 em_232 (ce_at ce_232 15 rfl) tq_0 rfl rfl ?_
    refine e_get 71 em_232 (ce_at ce_232 16 rfl) tq_55 rfl rfl ?_
    exact e_reti em_232 (ce_at ce_232 17 rfl)
  refine e_case 4 (fun h6 => ?_) (fun h6 => ?_)
  · refine e_sw em_232 72 (ce_at ce_232 1 rfl) (sw_in g1 (by omega) (by subst h6; rfl)) rfl ?_
    refine e_mv 73 em_232 (ce_at ce_232 18 rfl) rfl rfl ?_
    refine e_getr 76 em_232 (ce_at ce_232 19 rfl) tq_0 rfl rfl ?_
    refine e_get 79 em_232 (ce_at ce_232 20 rfl) tq_55 rfl rfl ?_
    exact e_reti em_232 (ce_at ce_232 21 rfl)
  refine e_case 5 (fun h7 => ?_) (fun h7 => ?_)
  · refine e_sw em_232 80 (ce_at ce_232 1 rfl) (sw_in g1 (by omega) (by subst h7; rfl)) rfl ?_
    refine e_mv 81 em_232 (ce_at ce_232 22 rfl) rfl rfl ?_
    refine e_getr 84 em_232 (ce_at ce_232 23 rfl) tq_0 rfl rfl ?_
    refine e_ivi 87 em_232 (ce_at ce_232 24 rfl) (by omega) (iv_v0 (by decide) tq_55 rfl) em_233 (Nat.le_of_ble_eq_true rfl) rfl (tpro_ownSymbols w (d - 1) (by omega) _) (fun r8 s8 => ?_)
    exact e_reti em_232 (ce_at ce_232 25 rfl)
  refine e_sw em_232 88 (ce_at ce_232 1 rfl) (sw_out g1 (by omega)) rfl ?_
  refine e_op 89 em_232 (ce_at ce_232 26 rfl) rfl rfl ?_
  exact e_reti em_232 (ce_at ce_232 27 rfl)
theorem fx_register (v1 : Int) (s : iS) : Fm Prod.snd L_x_register G_x_register s (x_register v1 s) := fm_gd (fm_if (fm_some md_refl) (fm_if (fm_some md_refl) (fm_if (fm_some md_refl) (fm_if (fm_some md_refl) (fm_if (fm_some md_refl) (fm_if (fm_bd (fm_sub (fpro_ownSymbols _) (mem_sub_L rfl) (mem_sub_F rfl)) (fun r8 s8 => fm_some md_refl)) (fm_some md_refl)))))))
/-! brd_remove -/
def L_brd_remove : List Nat := []
def G_brd_remove : List (Nat × Nat) := [(108, 18)]
noncomputable def brd_remove (s : iS) : Option (Int × iS) := lt' (up s 108 18 0) (fun s1 => some (0, s1))
theorem tbrd_remove (w : ev_W) (d : Nat) (hd : 0 ≤ d) (s : iS) : Ew hT w d 235 0 [(0, .ref (tb_nK + 108))] [] s (Cv hT) (brd_remove s) := by
  unfold brd_remove
  refine e_mv 1 em_235 (ce_at ce_235 0 rfl) rfl rfl ?_
  refine e_op 2 em_235 (ce_at ce_235 1 rfl) rfl rfl ?_
  refine e_put 5 em_235 (ce_at ce_235 2 rfl) tq_108 rfl rfl rfl (fun s1 => ?_)
  exact e_retv em_235 (ce_at ce_235 3 rfl)
theorem fbrd_remove (s : iS) : Fm Prod.snd L_brd_remove G_brd_remove s (brd_remove s) := fm_lt (md_upF (mem_F rfl)) (fun s1 => fm_some md_refl)
/-! crd_beginChip -/
def L_crd_beginChip : List Nat := [73, 74, 75, 76, 78]
def G_crd_beginChip : List (Nat × Nat) := [(2, 12), (2, 13), (2, 14), (72, 2), (87, 2)]
noncomputable def crd_beginChip (s : iS) : Option (Int × iS) := bd (tok_kind s) (fun r1 s1 => gd (rg r1) (if r1 = 3 then gd (rg (s1 72 2)) (if (s1 72 2) < 18 then gd (0 ≤ (s1 72 2) ∧ (s1 72 2) < 18) (lt' (up s1 75 (s1 72 2).toNat (s1 2 12)) (fun s7 => gd (0 ≤ (s7 72 2) ∧ (s7 72 2) < 19) (lt' (up s7 76 (s7 72 2).toNat (s7 79 2)) (fun s9 => gd (0 ≤ (s9 72 2) ∧ (s9 72 2) < 19) (lt' (up s9 78 (s9 72 2).toNat (s9 71 13)) (fun s11 => bd (tok_addTo 72 73 74 18 (s11 2 12) s11) (fun _ s12 => bd (nam_keep 87 88 89 100 0 s12) (fun _ s13 => lt' (up s13 2 12 ((s13 2 12) + 1)) (fun s14 => some (0, s14)))))))))) else bd (tok_stop 2 s1) (fun _ s15 => some (0, s15))) else bd (tok_stop 1 s1) (fun _ s16 => some (0, s16))))
theorem tcrd_beginChip (w : ev_W) (d : Nat) (hd : 2 ≤ d) (s : iS) : Ew hT w d 238 0 [(0, .ref (tb_nK + 71))] [] s (Cv hT) (crd_beginChip s) := by
  unfold crd_beginChip
  refine e_mv 1 em_238 (ce_at ce_238 0 rfl) rfl rfl ?_
  refine e_getr 4 em_238 (ce_at ce_238 1 rfl) tq_71 rfl rfl ?_
  refine e_ivi 7 em_238 (ce_at ce_238 2 rfl) (by omega) (iv_v0 (by decide) tq_2 rfl) em_69 (Nat.le_of_ble_eq_true rfl) rfl (ttok_kind w (d - 1) (by omega) _) (fun r1 s1 => ?_)
  refine e_op 8 em_238 (ce_at ce_238 3 rfl) rfl rfl ?_
  refine e_gd fun g2 => ?_
  refine e_cmeq 22 11 em_238 rfl rfl (ce_at ce_238 4 rfl) g2 (by decide) (fun h3 => ?_) (fun h3 => ?_)
  · refine e_mv 23 em_238 (ce_at ce_238 10 rfl) rfl rfl ?_
    refine e_getr 26 em_238 (ce_at ce_238 11 rfl) tq_71 rfl rfl ?_
    refine e_get 29 em_238 (ce_at ce_238 12 rfl) tq_72 rfl rfl ?_
    refine e_bip 31 em_238 (ce_at ce_238 13 rfl) (by decide) rfl ?_
    refine e_gd fun g4 => ?_
    refine e_cmlt 45 34 em_238 rfl rfl (ce_at ce_238 14 rfl) g4 (by decide) (fun h5 => ?_) (fun h5 => ?_)
    · refine e_mv 46 em_238 (ce_at ce_238 20 rfl) rfl rfl ?_
      refine e_getr 49 em_238 (ce_at ce_238 21 rfl) tq_71 rfl rfl ?_
      refine e_mv 50 em_238 (ce_at ce_238 22 rfl) rfl rfl ?_
      refine e_getr 53 em_238 (ce_at ce_238 23 rfl) tq_71 rfl rfl ?_
      refine e_get 56 em_238 (ce_at ce_238 24 rfl) tq_72 rfl rfl ?_
      refine e_mv 57 em_238 (ce_at ce_238 25 rfl) rfl rfl ?_
      refine e_getr 60 em_238 (ce_at ce_238 26 rfl) tq_71 rfl rfl ?_
      refine e_get 63 em_238 (ce_at ce_238 27 rfl) tq_2 rfl rfl ?_
      refine e_gd fun g6 => ?_
      refine e_ist 64 em_238 (ce_at ce_238 28 rfl) tq_75 (by decide) g6 rfl (fun s7 => ?_)
      refine e_mv 65 em_238 (ce_at ce_238 29 rfl) rfl rfl ?_
      refine e_getr 68 em_238 (ce_at ce_238 30 rfl) tq_71 rfl rfl ?_
      refine e_mv 69 em_238 (ce_at ce_238 31 rfl) rfl rfl ?_
      refine e_getr 72 em_238 (ce_at ce_238 32 rfl) tq_71 rfl rfl ?_
      refine e_get 75 em_238 (ce_at ce_238 33 rfl) tq_72 rfl rfl ?_
      refine e_mv 76 em_238 (ce_at ce_238 34 rfl) rfl rfl ?_
      refine e_getr 79 em_238 (ce_at ce_238 35 rfl) tq_71 rfl rfl ?_
      refine e_get 82 em_238 (ce_at ce_238 36 rfl) tq_79 rfl rfl ?_
      refine e_gd fun g8 => ?_
      refine e_ist 83 em_238 (ce_at ce_238 37 rfl) tq_76 (by decide) g8 rfl (fun s9 => ?_)
      refine e_mv 84 em_238 (ce_at ce_238 38 rfl) rfl rfl ?_
      refine e_getr 87 em_238 (ce_at ce_238 39 rfl) tq_71 rfl rfl ?_
      refine e_mv 88 em_238 (ce_at ce_238 40 rfl) rfl rfl ?_
      refine e_getr 91 em_238 (ce_at ce_238 41 rfl) tq_71 rfl rfl ?_
      refine e_get 94 em_238 (ce_at ce_238 42 rfl) tq_72 rfl rfl ?_
      refine e_mv 95 em_238 (ce_at ce_238 43 rfl) rfl rfl ?_
      refine e_get 98 em_238 (ce_at ce_238 44 rfl) tq_71 rfl rfl ?_
      refine e_gd fun g10 => ?_
      refine e_ist 99 em_238 (ce_at ce_238 45 rfl) tq_78 (by decide) g10 rfl (fun s11 => ?_)
      refine e_mv 100 em_238 (ce_at ce_238 46 rfl) rfl rfl ?_
      refine e_getr 103 em_238 (ce_at ce_238 47 rfl) tq_71 rfl rfl ?_
      refine e_mv 104 em_238 (ce_at ce_238 48 rfl) rfl rfl ?_
      refine e_getr 107 em_238 (ce_at ce_238 49 rfl) tq_71 rfl rfl ?_
      refine e_mv 108 em_238 (ce_at ce_238 50 rfl) rfl rfl ?_
      refine e_getr 111 em_238 (ce_at ce_238 51 rfl) tq_71 rfl rfl ?_
      refine e_get 114 em_238 (ce_at ce_238 52 rfl) tq_2 rfl rfl ?_
      refine e_ivv 117 em_238 (ce_at ce_238 53 rfl) (by omega) (iv_v2 (by decide) tq_2 rfl) em_73 (Nat.le_of_ble_eq_true rfl) rfl (ttok_addTo w (d - 1) (by omega) 72 73 74 18 tq_72 tq_73 tq_74 (by decide) _ _) (fun r12 s12 => ?_)
      refine e_mv 118 em_238 (ce_at ce_238 54 rfl) rfl rfl ?_
      refine e_getr 121 em_238 (ce_at ce_238 55 rfl) tq_71 rfl rfl ?_
      refine e_op 122 em_238 (ce_at ce_238 56 rfl) rfl rfl ?_
      refine e_ivv 125 em_238 (ce_at ce_238 57 rfl) (by omega) (iv_v1 (by decide) tq_87 rfl) em_66 (Nat.le_of_ble_eq_true rfl) rfl (tnam_keep hT w (d - 1) (by omega) 87 88 89 100 tq_87 tq_88 tq_89 (by decide) _ _) (fun r13 s13 => ?_)
      refine e_mv 126 em_238 (ce_at ce_238 58 rfl) rfl rfl ?_
      refine e_getr 129 em_238 (ce_at ce_238 59 rfl) tq_71 rfl rfl ?_
      refine e_op 130 em_238 (ce_at ce_238 60 rfl) rfl rfl ?_
      refine e_get 133 em_238 (ce_at ce_238 61 rfl) tq_2 rfl rfl ?_
      refine e_op 134 em_238 (ce_at ce_238 62 rfl) rfl rfl ?_
      refine e_iadd 135 em_238 rfl (ce_at ce_238 63 rfl) ?_
      refine e_put 138 em_238 (ce_at ce_238 64 rfl) tq_2 rfl rfl rfl (fun s14 => ?_)
      exact e_retv em_238 (ce_at ce_238 65 rfl)
    · refine e_mv 35 em_238 (ce_at ce_238 15 rfl) rfl rfl ?_
      refine e_getr 38 em_238 (ce_at ce_238 16 rfl) tq_71 rfl rfl ?_
      refine e_op 39 em_238 (ce_at ce_238 17 rfl) rfl rfl ?_
      refine e_ivv 42 em_238 (ce_at ce_238 18 rfl) (by omega) (iv_v1 (by decide) tq_2 rfl) em_71 (Nat.le_of_ble_eq_true rfl) rfl (ttok_stop w (d - 1) (by omega) _ _) (fun r15 s15 => ?_)
      refine e_goto em_238 138 (ce_at ce_238 19 rfl) rfl ?_
      exact e_retv em_238 (ce_at ce_238 65 rfl)
  · refine e_mv 12 em_238 (ce_at ce_238 5 rfl) rfl rfl ?_
    refine e_getr 15 em_238 (ce_at ce_238 6 rfl) tq_71 rfl rfl ?_
    refine e_op 16 em_238 (ce_at ce_238 7 rfl) rfl rfl ?_
    refine e_ivv 19 em_238 (ce_at ce_238 8 rfl) (by omega) (iv_v1 (by decide) tq_2 rfl) em_71 (Nat.le_of_ble_eq_true rfl) rfl (ttok_stop w (d - 1) (by omega) _ _) (fun r16 s16 => ?_)
    refine e_goto em_238 138 (ce_at ce_238 9 rfl) rfl ?_
    exact e_retv em_238 (ce_at ce_238 65 rfl)
theorem fcrd_beginChip (s : iS) : Fm Prod.snd L_crd_beginChip G_crd_beginChip s (crd_beginChip s) := fm_bd (fm_sub (ftok_kind _) (mem_sub_L rfl) (mem_sub_F rfl)) (fun r1 s1 => fm_gd (fm_if (fm_gd (fm_if (fm_gd (fm_lt (md_upL (mem_L rfl)) (fun s7 => fm_gd (fm_lt (md_upL (mem_L rfl)) (fun s9 => fm_gd (fm_lt (md_upL (mem_L rfl)) (fun s11 => fm_bd (fm_sub (ftok_addTo 72 73 74 18 _ _) (mem_sub_L rfl) (mem_sub_F rfl)) (fun r12 s12 => fm_bd (fm_sub (fnam_keep 87 88 89 100 _ _) (mem_sub_L rfl) (mem_sub_F rfl)) (fun r13 s13 => fm_lt (md_upF (mem_F rfl)) (fun s14 => fm_some md_refl)))))))))) (fm_bd (fm_sub (ftok_stop _ _) (mem_sub_L rfl) (mem_sub_F rfl)) (fun r15 s15 => fm_some md_refl)))) (fm_bd (fm_sub (ftok_stop _ _) (mem_sub_L rfl) (mem_sub_F rfl)) (fun r16 s16 => fm_some md_refl))))
/-! crd_readPin -/
def L_crd_readPin : List Nat := [80, 81, 82]
def G_crd_readPin : List (Nat × Nat) := [(2, 12), (2, 13), (2, 14), (79, 2)]
noncomputable def crd_readPin_54 (s : iS) : Option (Int × iS) := bd (tok_stop 2 s) (fun _ s1 => some (0, s1))
theorem tcrd_readPin_54 (w : ev_W) (d : Nat) (hd : 2 ≤ d) (s : iS) : Ew hT w d 240 54 [(0, .ref (tb_nK + 71))] [] s (Cv hT) (crd_readPin_54 s) := by
  unfold crd_readPin_54
  refine e_mv 55 em_240 (ce_at ce_240 25 rfl) rfl rfl ?_
  refine e_getr 58 em_240 (ce_at ce_240 26 rfl) tq_71 rfl rfl ?_
  refine e_op 59 em_240 (ce_at ce_240 27 rfl) rfl rfl ?_
  refine e_ivv 62 em_240 (ce_at ce_240 28 rfl) (by omega) (iv_v1 (by decide) tq_2 rfl) em_71 (Nat.le_of_ble_eq_true rfl) rfl (ttok_stop w (d - 1) (by omega) _ _) (fun r1 s1 => ?_)
  refine e_goto em_240 157 (ce_at ce_240 29 rfl) rfl ?_
  exact e_retv em_240 (ce_at ce_240 74 rfl)
theorem fcrd_readPin_54 (s : iS) : Fm Prod.snd L_crd_readPin G_crd_readPin s (crd_readPin_54 s) := fm_bd (fm_sub (ftok_stop _ _) (mem_sub_L rfl) (mem_sub_F rfl)) (fun r1 s1 => fm_some md_refl)
noncomputable def crd_readPin (v1 : Int) (s : iS) : Option (Int × iS) := bd (tok_kind s) (fun r1 s1 => gd (rg r1) (if r1 = 3 then gd (0 ≤ v1 ∧ v1 < 19) (gd (rg ((s1 79 2) - (s1 76 v1.toNat))) (if 12 ≤ ((s1 79 2) - (s1 76 v1.toNat)) then crd_readPin_54 s1 else gd (rg (s1 79 2)) (if (s1 79 2) < 197 then gd (0 ≤ (s1 79 2) ∧ (s1 79 2) < 197) (lt' (up s1 82 (s1 79 2).toNat (s1 2 12)) (fun s10 => bd (tok_addTo 79 80 81 197 (s10 2 12) s10) (fun _ s11 => lt' (up s11 2 12 ((s11 2 12) + 1)) (fun s12 => bd (tok_kind s12) (fun r13 s13 => gd (rg r13) (if r13 = 91 then lt' (up s13 2 12 ((s13 2 12) + 1)) (fun s16 => bd (tok_expect 4 s16) (fun _ s17 => bd (tok_expect 93 s17) (fun _ s18 => some (0, s18)))) else some (0, s13))))))) else crd_readPin_54 s1))) else bd (tok_stop 1 s1) (fun _ s19 => some (0, s19))))
theorem tcrd_readPin (w : ev_W) (d : Nat) (hd : 2 ≤ d) (v1 : Int) (s : iS) : Ew hT w d 240 0 [(0, .ref (tb_nK + 71)), (1, iv v1)] [] s (Cv hT) (crd_readPin v1 s) := by
  unfold crd_readPin
  refine e_mv 1 em_240 (ce_at ce_240 0 rfl) rfl rfl ?_
  refine e_getr 4 em_240 (ce_at ce_240 1 rfl) tq_71 rfl rfl ?_
  refine e_ivi 7 em_240 (ce_at ce_240 2 rfl) (by omega) (iv_v0 (by decide) tq_2 rfl) em_69 (Nat.le_of_ble_eq_true rfl) rfl (ttok_kind w (d - 1) (by omega) _) (fun r1 s1 => ?_)
  refine e_op 8 em_240 (ce_at ce_240 3 rfl) rfl rfl ?_
  refine e_gd fun g2 => ?_
  refine e_cmeq 22 11 em_240 rfl rfl (ce_at ce_240 4 rfl) g2 (by decide) (fun h3 => ?_) (fun h3 => ?_)
  · refine e_mv 23 em_240 (ce_at ce_240 10 rfl) rfl rfl ?_
    refine e_getr 26 em_240 (ce_at ce_240 11 rfl) tq_71 rfl rfl ?_
    refine e_get 29 em_240 (ce_at ce_240 12 rfl) tq_79 rfl rfl ?_
    refine e_mv 30 em_240 (ce_at ce_240 13 rfl) rfl rfl ?_
    refine e_getr 33 em_240 (ce_at ce_240 14 rfl) tq_71 rfl rfl ?_
    refine e_mv 34 em_240 (ce_at ce_240 15 rfl) rfl rfl ?_
    refine e_gd fun g4 => ?_
    refine e_ild 35 em_240 (ce_at ce_240 16 rfl) tq_76 (by decide) g4 rfl ?_
    refine e_isub 36 em_240 rfl (ce_at ce_240 17 rfl) ?_
    refine e_bip 38 em_240 (ce_at ce_240 18 rfl) (by decide) rfl ?_
    refine e_gd fun g5 => ?_
    refine e_cmge 54 41 em_240 rfl rfl (ce_at ce_240 19 rfl) g5 (by decide) (fun h6 => ?_) (fun h6 => ?_)
    · refine e_pk [0] rfl rfl ?_
      exact tcrd_readPin_54 w d hd _
    · refine e_mv 42 em_240 (ce_at ce_240 20 rfl) rfl rfl ?_
      refine e_getr 45 em_240 (ce_at ce_240 21 rfl) tq_71 rfl rfl ?_
      refine e_get 48 em_240 (ce_at ce_240 22 rfl) tq_79 rfl rfl ?_
      refine e_sip 51 em_240 (ce_at ce_240 23 rfl) (by decide) rfl ?_
      refine e_gd fun g7 => ?_
      refine e_cmlt 65 54 em_240 rfl rfl (ce_at ce_240 24 rfl) g7 (by decide) (fun h8 => ?_) (fun h8 => ?_)
      · refine e_mv 66 em_240 (ce_at ce_240 30 rfl) rfl rfl ?_
        refine e_getr 69 em_240 (ce_at ce_240 31 rfl) tq_71 rfl rfl ?_
        refine e_mv 70 em_240 (ce_at ce_240 32 rfl) rfl rfl ?_
        refine e_getr 73 em_240 (ce_at ce_240 33 rfl) tq_71 rfl rfl ?_
        refine e_get 76 em_240 (ce_at ce_240 34 rfl) tq_79 rfl rfl ?_
        refine e_mv 77 em_240 (ce_at ce_240 35 rfl) rfl rfl ?_
        refine e_getr 80 em_240 (ce_at ce_240 36 rfl) tq_71 rfl rfl ?_
        refine e_get 83 em_240 (ce_at ce_240 37 rfl) tq_2 rfl rfl ?_
        refine e_gd fun g9 => ?_
        refine e_ist 84 em_240 (ce_at ce_240 38 rfl) tq_82 (by decide) g9 rfl (fun s10 => ?_)
        refine e_mv 85 em_240 (ce_at ce_240 39 rfl) rfl rfl ?_
        refine e_getr 88 em_240 (ce_at ce_240 40 rfl) tq_71 rfl rfl ?_
        refine e_mv 89 em_240 (ce_at ce_240 41 rfl) rfl rfl ?_
        refine e_getr 92 em_240 (ce_at ce_240 42 rfl) tq_71 rfl rfl ?_
        refine e_mv 93 em_240 (ce_at ce_240 43 rfl) rfl rfl ?_
        refine e_getr 96 em_240 (ce_at ce_240 44 rfl) tq_71 rfl rfl ?_
        refine e_get 99 em_240 (ce_at ce_240 45 rfl) tq_2 rfl rfl ?_
        refine e_ivv 102 em_240 (ce_at ce_240 46 rfl) (by omega) (iv_v2 (by decide) tq_2 rfl) em_73 (Nat.le_of_ble_eq_true rfl) rfl (ttok_addTo w (d - 1) (by omega) 79 80 81 197 tq_79 tq_80 tq_81 (by decide) _ _) (fun r11 s11 => ?_)
        refine e_mv 103 em_240 (ce_at ce_240 47 rfl) rfl rfl ?_
        refine e_getr 106 em_240 (ce_at ce_240 48 rfl) tq_71 rfl rfl ?_
        refine e_op 107 em_240 (ce_at ce_240 49 rfl) rfl rfl ?_
        refine e_get 110 em_240 (ce_at ce_240 50 rfl) tq_2 rfl rfl ?_
        refine e_op 111 em_240 (ce_at ce_240 51 rfl) rfl rfl ?_
        refine e_iadd 112 em_240 rfl (ce_at ce_240 52 rfl) ?_
        refine e_put 115 em_240 (ce_at ce_240 53 rfl) tq_2 rfl rfl rfl (fun s12 => ?_)
        refine e_mv 116 em_240 (ce_at ce_240 54 rfl) rfl rfl ?_
        refine e_getr 119 em_240 (ce_at ce_240 55 rfl) tq_71 rfl rfl ?_
        refine e_ivi 122 em_240 (ce_at ce_240 56 rfl) (by omega) (iv_v0 (by decide) tq_2 rfl) em_69 (Nat.le_of_ble_eq_true rfl) rfl (ttok_kind w (d - 1) (by omega) _) (fun r13 s13 => ?_)
        refine e_bip 124 em_240 (ce_at ce_240 57 rfl) (by decide) rfl ?_
        refine e_gd fun g14 => ?_
        refine e_cmne 157 127 em_240 rfl rfl (ce_at ce_240 58 rfl) g14 (by decide) (fun h15 => ?_) (fun h15 => ?_)
        · exact e_retv em_240 (ce_at ce_240 74 rfl)
        · refine e_mv 128 em_240 (ce_at ce_240 59 rfl) rfl rfl ?_
          refine e_getr 131 em_240 (ce_at ce_240 60 rfl) tq_71 rfl rfl ?_
          refine e_op 132 em_240 (ce_at ce_240 61 rfl) rfl rfl ?_
          refine e_get 135 em_240 (ce_at ce_240 62 rfl) tq_2 rfl rfl ?_
          refine e_op 136 em_240 (ce_at ce_240 63 rfl) rfl rfl ?_
          refine e_iadd 137 em_240 rfl (ce_at ce_240 64 rfl) ?_
          refine e_put 140 em_240 (ce_at ce_240 65 rfl) tq_2 rfl rfl rfl (fun s16 => ?_)
          refine e_mv 141 em_240 (ce_at ce_240 66 rfl) rfl rfl ?_
          refine e_getr 144 em_240 (ce_at ce_240 67 rfl) tq_71 rfl rfl ?_
          refine e_op 145 em_240 (ce_at ce_240 68 rfl) rfl rfl ?_
          refine e_ivv 148 em_240 (ce_at ce_240 69 rfl) (by omega) (iv_v1 (by decide) tq_2 rfl) em_86 (Nat.le_of_ble_eq_true rfl) rfl (ttok_expect w (d - 1) (by omega) _ _) (fun r17 s17 => ?_)
          refine e_mv 149 em_240 (ce_at ce_240 70 rfl) rfl rfl ?_
          refine e_getr 152 em_240 (ce_at ce_240 71 rfl) tq_71 rfl rfl ?_
          refine e_bip 154 em_240 (ce_at ce_240 72 rfl) (by decide) rfl ?_
          refine e_ivv 157 em_240 (ce_at ce_240 73 rfl) (by omega) (iv_v1 (by decide) tq_2 rfl) em_86 (Nat.le_of_ble_eq_true rfl) rfl (ttok_expect w (d - 1) (by omega) _ _) (fun r18 s18 => ?_)
          exact e_retv em_240 (ce_at ce_240 74 rfl)
      · refine e_pk [0] rfl rfl ?_
        exact tcrd_readPin_54 w d hd _
  · refine e_mv 12 em_240 (ce_at ce_240 5 rfl) rfl rfl ?_
    refine e_getr 15 em_240 (ce_at ce_240 6 rfl) tq_71 rfl rfl ?_
    refine e_op 16 em_240 (ce_at ce_240 7 rfl) rfl rfl ?_
    refine e_ivv 19 em_240 (ce_at ce_240 8 rfl) (by omega) (iv_v1 (by decide) tq_2 rfl) em_71 (Nat.le_of_ble_eq_true rfl) rfl (ttok_stop w (d - 1) (by omega) _ _) (fun r19 s19 => ?_)
    refine e_goto em_240 157 (ce_at ce_240 9 rfl) rfl ?_
    exact e_retv em_240 (ce_at ce_240 74 rfl)
theorem fcrd_readPin (v1 : Int) (s : iS) : Fm Prod.snd L_crd_readPin G_crd_readPin s (crd_readPin v1 s) := fm_bd (fm_sub (ftok_kind _) (mem_sub_L rfl) (mem_sub_F rfl)) (fun r1 s1 => fm_gd (fm_if (fm_gd (fm_gd (fm_if (fcrd_readPin_54 _) (fm_gd (fm_if (fm_gd (fm_lt (md_upL (mem_L rfl)) (fun s10 => fm_bd (fm_sub (ftok_addTo 79 80 81 197 _ _) (mem_sub_L rfl) (mem_sub_F rfl)) (fun r11 s11 => fm_lt (md_upF (mem_F rfl)) (fun s12 => fm_bd (fm_sub (ftok_kind _) (mem_sub_L rfl) (mem_sub_F rfl)) (fun r13 s13 => fm_gd (fm_if (fm_lt (md_upF (mem_F rfl)) (fun s16 => fm_bd (fm_sub (ftok_expect _ _) (mem_sub_L rfl) (mem_sub_F rfl)) (fun r17 s17 => fm_bd (fm_sub (ftok_expect _ _) (mem_sub_L rfl) (mem_sub_F rfl)) (fun r18 s18 => fm_some md_refl)))) (fm_some md_refl)))))))) (fcrd_readPin_54 _)))))) (fm_bd (fm_sub (ftok_stop _ _) (mem_sub_L rfl) (mem_sub_F rfl)) (fun r19 s19 => fm_some md_refl))))
/-! crd_readPins -/
def L_crd_readPins : List Nat := [80, 81, 82]
def G_crd_readPins : List (Nat × Nat) := [(2, 12), (2, 13), (2, 14), (79, 2)]
def crd_readPins_7C (w : ev_W) (d : Nat) (v1 : Int) : (Int × iS) ⊕ (iS) → am_E → Prop := fun q r => q.elim (fun l => ev w d 239 7 ((fun l => [(0, .ref (tb_nK + 71)), (1, iv v1), (2, iv (l.1))]) l) [] (hT ((fun l => l.2) l)) r) (fun e => (fun e r => ev w d 239 50 [(0, .ref (tb_nK + 71))] [] (hT (e)) r) e r)
noncomputable def crd_readPins_7b (v1 : Int) (v2 : Int) (s : iS) : Option ((Int × iS) ⊕ (iS)) := gd (rg v2) (if 2000 ≤ v2 then some (.inr s) else bd (tok_kind s) (fun r3 s3 => gd (rg r3) (if r3 = 44 then lt' (up s3 2 12 ((s3 2 12) + 1)) (fun s6 => bd (crd_readPin v1 s6) (fun _ s7 => some (.inl ((v2 + 1), s7)))) else some (.inr s3))))
theorem tcrd_readPins_7b (w : ev_W) (d : Nat) (hd : 3 ≤ d) (v1 : Int) (v2 : Int) (s : iS) : Ew hT w d 239 7 [(0, .ref (tb_nK + 71)), (1, iv v1), (2, iv v2)] [] s (crd_readPins_7C w d v1) (crd_readPins_7b v1 v2 s) := by
  unfold crd_readPins_7b
  refine e_mv 8 em_239 (ce_at ce_239 5 rfl) rfl rfl ?_
  refine e_sip 11 em_239 (ce_at ce_239 6 rfl) (by decide) rfl ?_
  refine e_gd fun g1 => ?_
  refine e_cmge 50 14 em_239 rfl rfl (ce_at ce_239 7 rfl) g1 (by decide) (fun h2 => ?_) (fun h2 => ?_)
  · refine e_pk [0] rfl rfl ?_
    exact e_out (fun r h => h)
  · refine e_mv 15 em_239 (ce_at ce_239 8 rfl) rfl rfl ?_
    refine e_getr 18 em_239 (ce_at ce_239 9 rfl) tq_71 rfl rfl ?_
    refine e_ivi 21 em_239 (ce_at ce_239 10 rfl) (by omega) (iv_v0 (by decide) tq_2 rfl) em_69 (Nat.le_of_ble_eq_true rfl) rfl (ttok_kind w (d - 1) (by omega) _) (fun r3 s3 => ?_)
    refine e_bip 23 em_239 (ce_at ce_239 11 rfl) (by decide) rfl ?_
    refine e_gd fun g4 => ?_
    refine e_cmne 50 26 em_239 rfl rfl (ce_at ce_239 12 rfl) g4 (by decide) (fun h5 => ?_) (fun h5 => ?_)
    · refine e_pk [0] rfl rfl ?_
      exact e_out (fun r h => h)
    · refine e_mv 27 em_239 (ce_at ce_239 13 rfl) rfl rfl ?_
      refine e_getr 30 em_239 (ce_at ce_239 14 rfl) tq_71 rfl rfl ?_
      refine e_op 31 em_239 (ce_at ce_239 15 rfl) rfl rfl ?_
      refine e_get 34 em_239 (ce_at ce_239 16 rfl) tq_2 rfl rfl ?_
      refine e_op 35 em_239 (ce_at ce_239 17 rfl) rfl rfl ?_
      refine e_iadd 36 em_239 rfl (ce_at ce_239 18 rfl) ?_
      refine e_put 39 em_239 (ce_at ce_239 19 rfl) tq_2 rfl rfl rfl (fun s6 => ?_)
      refine e_mv 40 em_239 (ce_at ce_239 20 rfl) rfl rfl ?_
      refine e_mv 41 em_239 (ce_at ce_239 21 rfl) rfl rfl ?_
      refine e_ivv 44 em_239 (ce_at ce_239 22 rfl) (by omega) (iv_v1 (by decide) tq_71 rfl) em_240 (Nat.le_of_ble_eq_true rfl) rfl (tcrd_readPin w (d - 1) (by omega) _ _) (fun r7 s7 => ?_)
      refine e_iinc 47 em_239 (ce_at ce_239 23 rfl) rfl (by decide) rfl ?_
      refine e_goto em_239 7 (ce_at ce_239 24 rfl) rfl ?_
      refine e_pk [0, 1, 2] rfl rfl ?_
      exact e_out (fun r h => h)
theorem fcrd_readPins_7b (v1 : Int) (v2 : Int) (s : iS) : Fm (fun r : (Int × iS) ⊕ (iS) => r.elim (fun l => l.2) (fun e => e)) L_crd_readPins G_crd_readPins s (crd_readPins_7b v1 v2 s) := fm_gd (fm_if (fm_some md_refl) (fm_bd (fm_sub (ftok_kind _) (mem_sub_L rfl) (mem_sub_F rfl)) (fun r3 s3 => fm_gd (fm_if (fm_lt (md_upF (mem_F rfl)) (fun s6 => fm_bd (fm_sub (fcrd_readPin _ _) (mem_sub_L rfl) (mem_sub_F rfl)) (fun r7 s7 => fm_some md_refl))) (fm_some md_refl)))))
noncomputable def crd_readPins_50 (s : iS) : Option (Int × iS) := bd (tok_expect 59 s) (fun _ s1 => some (0, s1))
theorem tcrd_readPins_50 (w : ev_W) (d : Nat) (hd : 3 ≤ d) (s : iS) : Ew hT w d 239 50 [(0, .ref (tb_nK + 71))] [] s (Cv hT) (crd_readPins_50 s) := by
  unfold crd_readPins_50
  refine e_mv 51 em_239 (ce_at ce_239 25 rfl) rfl rfl ?_
  refine e_getr 54 em_239 (ce_at ce_239 26 rfl) tq_71 rfl rfl ?_
  refine e_bip 56 em_239 (ce_at ce_239 27 rfl) (by decide) rfl ?_
  refine e_ivv 59 em_239 (ce_at ce_239 28 rfl) (by omega) (iv_v1 (by decide) tq_2 rfl) em_86 (Nat.le_of_ble_eq_true rfl) rfl (ttok_expect w (d - 1) (by omega) _ _) (fun r1 s1 => ?_)
  exact e_retv em_239 (ce_at ce_239 29 rfl)
theorem fcrd_readPins_50 (s : iS) : Fm Prod.snd L_crd_readPins G_crd_readPins s (crd_readPins_50 s) := fm_bd (fm_sub (ftok_expect _ _) (mem_sub_L rfl) (mem_sub_F rfl)) (fun r1 s1 => fm_some md_refl)
noncomputable def crd_readPins_7 (v1 : Int) (v2 : Int) (s : iS) : Option (Int × iS) := (lp (L := Int × iS) (E := iS) (fun l => crd_readPins_7b v1 (l.1) (l.2)) (v2, s)).bind (fun e => crd_readPins_50 e)
theorem tcrd_readPins_7 (w : ev_W) (d : Nat) (hd : 3 ≤ d) (v1 : Int) (v2 : Int) (s : iS) : Ew hT w d 239 7 [(0, .ref (tb_nK + 71)), (1, iv v1), (2, iv v2)] [] s (Cv hT) (crd_readPins_7 v1 v2 s) := by
  unfold crd_readPins_7
  refine e_lp (L := Int × iS) (E := iS) (LO := fun l => [(0, .ref (tb_nK + 71)), (1, iv v1), (2, iv (l.1))]) (LS := fun l => l.2) (CE := fun e r => ev w d 239 50 [(0, .ref (tb_nK + 71))] [] (hT (e)) r) (fun l => tcrd_readPins_7b w d hd _ _ _) ?_ (v2, s)
  intro e
  show Ew hT w d 239 50 [(0, .ref (tb_nK + 71))] [] e (Cv hT) _
  refine e_pk [0] rfl rfl ?_
  exact tcrd_readPins_50 w d hd _
theorem fcrd_readPins_7 (v1 : Int) (v2 : Int) (s : iS) : Fm Prod.snd L_crd_readPins G_crd_readPins s (crd_readPins_7 v1 v2 s) := by
  unfold crd_readPins_7
  refine fm_lp (A := Int × iS) (E := iS) (LS := fun l => l.2) (LE := fun e => e) ?_ ?_ (v2, s)
  · exact fun l => fcrd_readPins_7b _ _ _
  · exact (fun e => fcrd_readPins_50 _)
noncomputable def crd_readPins (v1 : Int) (s : iS) : Option (Int × iS) := bd (crd_readPin v1 s) (fun _ s1 => crd_readPins_7 v1 0 s1)
theorem tcrd_readPins (w : ev_W) (d : Nat) (hd : 3 ≤ d) (v1 : Int) (s : iS) : Ew hT w d 239 0 [(0, .ref (tb_nK + 71)), (1, iv v1)] [] s (Cv hT) (crd_readPins v1 s) := by
  unfold crd_readPins
  refine e_mv 1 em_239 (ce_at ce_239 0 rfl) rfl rfl ?_
  refine e_mv 2 em_239 (ce_at ce_239 1 rfl) rfl rfl ?_
  refine e_ivv 5 em_239 (ce_at ce_239 2 rfl) (by omega) (iv_v1 (by decide) tq_71 rfl) em_240 (Nat.le_of_ble_eq_true rfl) rfl (tcrd_readPin w (d - 1) (by omega) _ _) (fun r1 s1 => ?_)
  refine e_op 6 em_239 (ce_at ce_239 3 rfl) rfl rfl ?_
  refine e_mv 7 em_239 (ce_at ce_239 4 rfl) rfl rfl ?_
  refine e_pk [0, 1, 2] rfl rfl ?_
  exact tcrd_readPins_7 w d hd _ _ _
theorem fcrd_readPins (v1 : Int) (s : iS) : Fm Prod.snd L_crd_readPins G_crd_readPins s (crd_readPins v1 s) := fm_bd (fm_sub (fcrd_readPin _ _) (mem_sub_L rfl) (mem_sub_F rfl)) (fun r1 s1 => fcrd_readPins_7 _ _ _)
/-! crd_readRange -/
def L_crd_readRange : List Nat := []
def G_crd_readRange : List (Nat × Nat) := [(2, 12), (2, 13), (2, 14)]
noncomputable def crd_readRange_67 (s : iS) : Option (Int × iS) := bd (tok_expect 93 s) (fun _ s1 => some (0, s1))
theorem tcrd_readRange_67 (w : ev_W) (d : Nat) (hd : 2 ≤ d) (s : iS) : Ew hT w d 243 67 [(0, .ref (tb_nK + 71))] [] s (Cv hT) (crd_readRange_67 s) := by
  unfold crd_readRange_67
  refine e_mv 68 em_243 (ce_at ce_243 33 rfl) rfl rfl ?_
  refine e_getr 71 em_243 (ce_at ce_243 34 rfl) tq_71 rfl rfl ?_
  refine e_bip 73 em_243 (ce_at ce_243 35 rfl) (by decide) rfl ?_
  refine e_ivv 76 em_243 (ce_at ce_243 36 rfl) (by omega) (iv_v1 (by decide) tq_2 rfl) em_86 (Nat.le_of_ble_eq_true rfl) rfl (ttok_expect w (d - 1) (by omega) _ _) (fun r1 s1 => ?_)
  exact e_retv em_243 (ce_at ce_243 37 rfl)
theorem fcrd_readRange_67 (s : iS) : Fm Prod.snd L_crd_readRange G_crd_readRange s (crd_readRange_67 s) := fm_bd (fm_sub (ftok_expect _ _) (mem_sub_L rfl) (mem_sub_F rfl)) (fun r1 s1 => fm_some md_refl)
noncomputable def crd_readRange (s : iS) : Option (Int × iS) := bd (tok_kind s) (fun r1 s1 => gd (rg r1) (if r1 = 91 then lt' (up s1 2 12 ((s1 2 12) + 1)) (fun s4 => bd (tok_expect 4 s4) (fun _ s5 => bd (tok_kind s5) (fun r6 s6 => gd (rg r6) (if r6 = 46 then lt' (up s6 2 12 ((s6 2 12) + 1)) (fun s9 => bd (tok_expect 4 s9) (fun _ s10 => crd_readRange_67 s10)) else crd_readRange_67 s6)))) else some (0, s1)))
theorem tcrd_readRange (w : ev_W) (d : Nat) (hd : 2 ≤ d) (s : iS) : Ew hT w d 243 0 [(0, .ref (tb_nK + 71))] [] s (Cv hT) (crd_readRange s) := by
  unfold crd_readRange
  refine e_mv 1 em_243 (ce_at ce_243 0 rfl) rfl rfl ?_
  refine e_getr 4 em_243 (ce_at ce_243 1 rfl) tq_71 rfl rfl ?_
  refine e_ivi 7 em_243 (ce_at ce_243 2 rfl) (by omega) (iv_v0 (by decide) tq_2 rfl) em_69 (Nat.le_of_ble_eq_true rfl) rfl (ttok_kind w (d - 1) (by omega) _) (fun r1 s1 => ?_)
  refine e_bip 9 em_243 (ce_at ce_243 3 rfl) (by decide) rfl ?_
  refine e_gd fun g2 => ?_
  refine e_cmeq 13 12 em_243 rfl rfl (ce_at ce_243 4 rfl) g2 (by decide) (fun h3 => ?_) (fun h3 => ?_)
  · refine e_mv 14 em_243 (ce_at ce_243 6 rfl) rfl rfl ?_
    refine e_getr 17 em_243 (ce_at ce_243 7 rfl) tq_71 rfl rfl ?_
    refine e_op 18 em_243 (ce_at ce_243 8 rfl) rfl rfl ?_
    refine e_get 21 em_243 (ce_at ce_243 9 rfl) tq_2 rfl rfl ?_
    refine e_op 22 em_243 (ce_at ce_243 10 rfl) rfl rfl ?_
    refine e_iadd 23 em_243 rfl (ce_at ce_243 11 rfl) ?_
    refine e_put 26 em_243 (ce_at ce_243 12 rfl) tq_2 rfl rfl rfl (fun s4 => ?_)
    refine e_mv 27 em_243 (ce_at ce_243 13 rfl) rfl rfl ?_
    refine e_getr 30 em_243 (ce_at ce_243 14 rfl) tq_71 rfl rfl ?_
    refine e_op 31 em_243 (ce_at ce_243 15 rfl) rfl rfl ?_
    refine e_ivv 34 em_243 (ce_at ce_243 16 rfl) (by omega) (iv_v1 (by decide) tq_2 rfl) em_86 (Nat.le_of_ble_eq_true rfl) rfl (ttok_expect w (d - 1) (by omega) _ _) (fun r5 s5 => ?_)
    refine e_mv 35 em_243 (ce_at ce_243 17 rfl) rfl rfl ?_
    refine e_getr 38 em_243 (ce_at ce_243 18 rfl) tq_71 rfl rfl ?_
    refine e_ivi 41 em_243 (ce_at ce_243 19 rfl) (by omega) (iv_v0 (by decide) tq_2 rfl) em_69 (Nat.le_of_ble_eq_true rfl) rfl (ttok_kind w (d - 1) (by omega) _) (fun r6 s6 => ?_)
    refine e_bip 43 em_243 (ce_at ce_243 20 rfl) (by decide) rfl ?_
    refine e_gd fun g7 => ?_
    refine e_cmne 67 46 em_243 rfl rfl (ce_at ce_243 21 rfl) g7 (by decide) (fun h8 => ?_) (fun h8 => ?_)
    · refine e_pk [0] rfl rfl ?_
      exact tcrd_readRange_67 w d hd _
    · refine e_mv 47 em_243 (ce_at ce_243 22 rfl) rfl rfl ?_
      refine e_getr 50 em_243 (ce_at ce_243 23 rfl) tq_71 rfl rfl ?_
      refine e_op 51 em_243 (ce_at ce_243 24 rfl) rfl rfl ?_
      refine e_get 54 em_243 (ce_at ce_243 25 rfl) tq_2 rfl rfl ?_
      refine e_op 55 em_243 (ce_at ce_243 26 rfl) rfl rfl ?_
      refine e_iadd 56 em_243 rfl (ce_at ce_243 27 rfl) ?_
      refine e_put 59 em_243 (ce_at ce_243 28 rfl) tq_2 rfl rfl rfl (fun s9 => ?_)
      refine e_mv 60 em_243 (ce_at ce_243 29 rfl) rfl rfl ?_
      refine e_getr 63 em_243 (ce_at ce_243 30 rfl) tq_71 rfl rfl ?_
      refine e_op 64 em_243 (ce_at ce_243 31 rfl) rfl rfl ?_
      refine e_ivv 67 em_243 (ce_at ce_243 32 rfl) (by omega) (iv_v1 (by decide) tq_2 rfl) em_86 (Nat.le_of_ble_eq_true rfl) rfl (ttok_expect w (d - 1) (by omega) _ _) (fun r10 s10 => ?_)
      refine e_pk [0] rfl rfl ?_
      exact tcrd_readRange_67 w d hd _
  · exact e_retv em_243 (ce_at ce_243 5 rfl)
theorem fcrd_readRange (s : iS) : Fm Prod.snd L_crd_readRange G_crd_readRange s (crd_readRange s) := fm_bd (fm_sub (ftok_kind _) (mem_sub_L rfl) (mem_sub_F rfl)) (fun r1 s1 => fm_gd (fm_if (fm_lt (md_upF (mem_F rfl)) (fun s4 => fm_bd (fm_sub (ftok_expect _ _) (mem_sub_L rfl) (mem_sub_F rfl)) (fun r5 s5 => fm_bd (fm_sub (ftok_kind _) (mem_sub_L rfl) (mem_sub_F rfl)) (fun r6 s6 => fm_gd (fm_if (fm_lt (md_upF (mem_F rfl)) (fun s9 => fm_bd (fm_sub (ftok_expect _ _) (mem_sub_L rfl) (mem_sub_F rfl)) (fun r10 s10 => fcrd_readRange_67 _))) (fcrd_readRange_67 _)))))) (fm_some md_refl)))
/-! crd_noteInner -/
def L_crd_noteInner : List Nat := [88, 89]
def G_crd_noteInner : List (Nat × Nat) := [(2, 12), (2, 13), (2, 14), (87, 2)]
noncomputable def crd_noteInner_109 (s : iS) : Option (Int × iS) := lt' (up s 2 12 ((s 2 12) + 1)) (fun s1 => some (0, s1))
theorem tcrd_noteInner_109 (w : ev_W) (d : Nat) (hd : 2 ≤ d) (s : iS) : Ew hT w d 244 109 [(0, .ref (tb_nK + 71))] [] s (Cv hT) (crd_noteInner_109 s) := by
  unfold crd_noteInner_109
  refine e_mv 110 em_244 (ce_at ce_244 53 rfl) rfl rfl ?_
  refine e_getr 113 em_244 (ce_at ce_244 54 rfl) tq_71 rfl rfl ?_
  refine e_op 114 em_244 (ce_at ce_244 55 rfl) rfl rfl ?_
  refine e_get 117 em_244 (ce_at ce_244 56 rfl) tq_2 rfl rfl ?_
  refine e_op 118 em_244 (ce_at ce_244 57 rfl) rfl rfl ?_
  refine e_iadd 119 em_244 rfl (ce_at ce_244 58 rfl) ?_
  refine e_put 122 em_244 (ce_at ce_244 59 rfl) tq_2 rfl rfl rfl (fun s1 => ?_)
  exact e_retv em_244 (ce_at ce_244 60 rfl)
theorem fcrd_noteInner_109 (s : iS) : Fm Prod.snd L_crd_noteInner G_crd_noteInner s (crd_noteInner_109 s) := fm_lt (md_upF (mem_F rfl)) (fun s1 => fm_some md_refl)
noncomputable def crd_noteInner_87 (v2 : Int) (s : iS) : Option (Int × iS) := gd (rg v2) (if v2 = 0 then bd (tok_addTo 87 88 89 100 (s 2 12) s) (fun _ s3 => crd_noteInner_109 s3) else crd_noteInner_109 s)
theorem tcrd_noteInner_87 (w : ev_W) (d : Nat) (hd : 2 ≤ d) (v2 : Int) (s : iS) : Ew hT w d 244 87 [(0, .ref (tb_nK + 71)), (2, iv v2)] [] s (Cv hT) (crd_noteInner_87 v2 s) := by
  unfold crd_noteInner_87
  refine e_mv 88 em_244 (ce_at ce_244 43 rfl) rfl rfl ?_
  refine e_gd fun g1 => ?_
  refine e_ifne 109 91 em_244 rfl rfl (ce_at ce_244 44 rfl) g1 (fun h2 => ?_) (fun h2 => ?_)
  · refine e_pk [0] rfl rfl ?_
    exact tcrd_noteInner_109 w d hd _
  · refine e_mv 92 em_244 (ce_at ce_244 45 rfl) rfl rfl ?_
    refine e_getr 95 em_244 (ce_at ce_244 46 rfl) tq_71 rfl rfl ?_
    refine e_mv 96 em_244 (ce_at ce_244 47 rfl) rfl rfl ?_
    refine e_getr 99 em_244 (ce_at ce_244 48 rfl) tq_71 rfl rfl ?_
    refine e_mv 100 em_244 (ce_at ce_244 49 rfl) rfl rfl ?_
    refine e_getr 103 em_244 (ce_at ce_244 50 rfl) tq_71 rfl rfl ?_
    refine e_get 106 em_244 (ce_at ce_244 51 rfl) tq_2 rfl rfl ?_
    refine e_ivv 109 em_244 (ce_at ce_244 52 rfl) (by omega) (iv_v2 (by decide) tq_2 rfl) em_73 (Nat.le_of_ble_eq_true rfl) rfl (ttok_addTo w (d - 1) (by omega) 87 88 89 100 tq_87 tq_88 tq_89 (by decide) _ _) (fun r3 s3 => ?_)
    refine e_pk [0] rfl rfl ?_
    exact tcrd_noteInner_109 w d hd _
theorem fcrd_noteInner_87 (v2 : Int) (s : iS) : Fm Prod.snd L_crd_noteInner G_crd_noteInner s (crd_noteInner_87 v2 s) := fm_gd (fm_if (fm_bd (fm_sub (ftok_addTo 87 88 89 100 _ _) (mem_sub_L rfl) (mem_sub_F rfl)) (fun r3 s3 => fcrd_noteInner_109 _)) (fcrd_noteInner_109 _))
noncomputable def crd_noteInner_61 (t0 : Int) (s : iS) : Option (Int × iS) := gd (rg t0) (if t0 = 0 then gd (rg (s 87 2)) (if (s 87 2) < 100 then crd_noteInner_87 t0 s else bd (tok_stop 2 s) (fun _ s5 => some (0, s5))) else crd_noteInner_87 t0 s)
theorem tcrd_noteInner_61 (w : ev_W) (d : Nat) (hd : 2 ≤ d) (t0 : Int) (s : iS) : Ew hT w d 244 61 [(0, .ref (tb_nK + 71))] [iv t0] s (Cv hT) (crd_noteInner_61 t0 s) := by
  unfold crd_noteInner_61
  refine e_mv 62 em_244 (ce_at ce_244 30 rfl) rfl rfl ?_
  refine e_mv 63 em_244 (ce_at ce_244 31 rfl) rfl rfl ?_
  refine e_gd fun g1 => ?_
  refine e_ifne 87 66 em_244 rfl rfl (ce_at ce_244 32 rfl) g1 (fun h2 => ?_) (fun h2 => ?_)
  · refine e_pk [0, 2] rfl rfl ?_
    exact tcrd_noteInner_87 w d hd _ _
  · refine e_mv 67 em_244 (ce_at ce_244 33 rfl) rfl rfl ?_
    refine e_getr 70 em_244 (ce_at ce_244 34 rfl) tq_71 rfl rfl ?_
    refine e_get 73 em_244 (ce_at ce_244 35 rfl) tq_87 rfl rfl ?_
    refine e_bip 75 em_244 (ce_at ce_244 36 rfl) (by decide) rfl ?_
    refine e_gd fun g3 => ?_
    refine e_cmlt 87 78 em_244 rfl rfl (ce_at ce_244 37 rfl) g3 (by decide) (fun h4 => ?_) (fun h4 => ?_)
    · refine e_pk [0, 2] rfl rfl ?_
      exact tcrd_noteInner_87 w d hd _ _
    · refine e_mv 79 em_244 (ce_at ce_244 38 rfl) rfl rfl ?_
      refine e_getr 82 em_244 (ce_at ce_244 39 rfl) tq_71 rfl rfl ?_
      refine e_op 83 em_244 (ce_at ce_244 40 rfl) rfl rfl ?_
      refine e_ivv 86 em_244 (ce_at ce_244 41 rfl) (by omega) (iv_v1 (by decide) tq_2 rfl) em_71 (Nat.le_of_ble_eq_true rfl) rfl (ttok_stop w (d - 1) (by omega) _ _) (fun r5 s5 => ?_)
      exact e_retv em_244 (ce_at ce_244 42 rfl)
theorem fcrd_noteInner_61 (t0 : Int) (s : iS) : Fm Prod.snd L_crd_noteInner G_crd_noteInner s (crd_noteInner_61 t0 s) := fm_gd (fm_if (fm_gd (fm_if (fcrd_noteInner_87 _ _) (fm_bd (fm_sub (ftok_stop _ _) (mem_sub_L rfl) (mem_sub_F rfl)) (fun r5 s5 => fm_some md_refl)))) (fcrd_noteInner_87 _ _))
noncomputable def crd_noteInner_56 (s : iS) : Option (Int × iS) := crd_noteInner_61 1 s
theorem tcrd_noteInner_56 (w : ev_W) (d : Nat) (hd : 2 ≤ d) (s : iS) : Ew hT w d 244 56 [(0, .ref (tb_nK + 71))] [] s (Cv hT) (crd_noteInner_56 s) := by
  unfold crd_noteInner_56
  refine e_op 57 em_244 (ce_at ce_244 27 rfl) rfl rfl ?_
  refine e_goto em_244 61 (ce_at ce_244 28 rfl) rfl ?_
  refine e_pk [0] rfl rfl ?_
  exact tcrd_noteInner_61 w d hd _ _
theorem fcrd_noteInner_56 (s : iS) : Fm Prod.snd L_crd_noteInner G_crd_noteInner s (crd_noteInner_56 s) := fcrd_noteInner_61 _ _
noncomputable def crd_noteInner (v1 : Int) (s : iS) : Option (Int × iS) := gd (0 ≤ v1 ∧ v1 < 19) (bd (tok_findIn 79 80 81 197 (s 2 12) (s 76 v1.toNat) 197 s) (fun r2 s2 => gd (rg r2) (if r2 = (-1) then bd (tok_findIn 87 88 89 100 (s2 2 12) 0 100 s2) (fun r5 s5 => gd (rg r5) (if r5 = (-1) then crd_noteInner_61 0 s5 else crd_noteInner_56 s5)) else crd_noteInner_56 s2)))
theorem tcrd_noteInner (w : ev_W) (d : Nat) (hd : 2 ≤ d) (v1 : Int) (s : iS) : Ew hT w d 244 0 [(0, .ref (tb_nK + 71)), (1, iv v1)] [] s (Cv hT) (crd_noteInner v1 s) := by
  unfold crd_noteInner
  refine e_mv 1 em_244 (ce_at ce_244 0 rfl) rfl rfl ?_
  refine e_getr 4 em_244 (ce_at ce_244 1 rfl) tq_71 rfl rfl ?_
  refine e_mv 5 em_244 (ce_at ce_244 2 rfl) rfl rfl ?_
  refine e_getr 8 em_244 (ce_at ce_244 3 rfl) tq_71 rfl rfl ?_
  refine e_mv 9 em_244 (ce_at ce_244 4 rfl) rfl rfl ?_
  refine e_getr 12 em_244 (ce_at ce_244 5 rfl) tq_71 rfl rfl ?_
  refine e_get 15 em_244 (ce_at ce_244 6 rfl) tq_2 rfl rfl ?_
  refine e_mv 16 em_244 (ce_at ce_244 7 rfl) rfl rfl ?_
  refine e_getr 19 em_244 (ce_at ce_244 8 rfl) tq_71 rfl rfl ?_
  refine e_mv 20 em_244 (ce_at ce_244 9 rfl) rfl rfl ?_
  refine e_gd fun g1 => ?_
  refine e_ild 21 em_244 (ce_at ce_244 10 rfl) tq_76 (by decide) g1 rfl ?_
  refine e_sip 24 em_244 (ce_at ce_244 11 rfl) (by decide) rfl ?_
  refine e_ivi 27 em_244 (ce_at ce_244 12 rfl) (by omega) (iv_v4 (by decide) tq_2 rfl) em_76 (Nat.le_of_ble_eq_true rfl) rfl (ttok_findIn w (d - 1) (by omega) 79 80 81 197 tq_79 tq_80 tq_81 (by decide) _ _ _ _) (fun r2 s2 => ?_)
  refine e_op 28 em_244 (ce_at ce_244 13 rfl) rfl rfl ?_
  refine e_gd fun g3 => ?_
  refine e_cmne 56 31 em_244 rfl rfl (ce_at ce_244 14 rfl) g3 (by decide) (fun h4 => ?_) (fun h4 => ?_)
  · refine e_pk [0] rfl rfl ?_
    exact tcrd_noteInner_56 w d hd _
  · refine e_mv 32 em_244 (ce_at ce_244 15 rfl) rfl rfl ?_
    refine e_getr 35 em_244 (ce_at ce_244 16 rfl) tq_71 rfl rfl ?_
    refine e_mv 36 em_244 (ce_at ce_244 17 rfl) rfl rfl ?_
    refine e_getr 39 em_244 (ce_at ce_244 18 rfl) tq_71 rfl rfl ?_
    refine e_mv 40 em_244 (ce_at ce_244 19 rfl) rfl rfl ?_
    refine e_getr 43 em_244 (ce_at ce_244 20 rfl) tq_71 rfl rfl ?_
    refine e_get 46 em_244 (ce_at ce_244 21 rfl) tq_2 rfl rfl ?_
    refine e_op 47 em_244 (ce_at ce_244 22 rfl) rfl rfl ?_
    refine e_bip 49 em_244 (ce_at ce_244 23 rfl) (by decide) rfl ?_
    refine e_ivi 52 em_244 (ce_at ce_244 24 rfl) (by omega) (iv_v4 (by decide) tq_2 rfl) em_76 (Nat.le_of_ble_eq_true rfl) rfl (ttok_findIn w (d - 1) (by omega) 87 88 89 100 tq_87 tq_88 tq_89 (by decide) _ _ _ _) (fun r5 s5 => ?_)
    refine e_op 53 em_244 (ce_at ce_244 25 rfl) rfl rfl ?_
    refine e_gd fun g6 => ?_
    refine e_cmeq 60 56 em_244 rfl rfl (ce_at ce_244 26 rfl) g6 (by decide) (fun h7 => ?_) (fun h7 => ?_)
    · refine e_op 61 em_244 (ce_at ce_244 29 rfl) rfl rfl ?_
      refine e_pk [0] rfl rfl ?_
      exact tcrd_noteInner_61 w d hd _ _
    · refine e_pk [0] rfl rfl ?_
      exact tcrd_noteInner_56 w d hd _
theorem fcrd_noteInner (v1 : Int) (s : iS) : Fm Prod.snd L_crd_noteInner G_crd_noteInner s (crd_noteInner v1 s) := fm_gd (fm_bd (fm_sub (ftok_findIn 79 80 81 197 _ _ _ _) (mem_sub_L rfl) (mem_sub_F rfl)) (fun r2 s2 => fm_gd (fm_if (fm_bd (fm_sub (ftok_findIn 87 88 89 100 _ _ _ _) (mem_sub_L rfl) (mem_sub_F rfl)) (fun r5 s5 => fm_gd (fm_if (fcrd_noteInner_61 _ _) (fcrd_noteInner_56 _)))) (fcrd_noteInner_56 _))))
/-! crd_readLink -/
def L_crd_readLink : List Nat := [85, 86, 88, 89]
def G_crd_readLink : List (Nat × Nat) := [(2, 12), (2, 13), (2, 14), (71, 14), (87, 2)]
noncomputable def crd_readLink_110 (v2 : Int) (v3 : Int) (s : iS) : Option (Int × iS) := gd (rg (s 71 14)) (if 500 ≤ (s 71 14) then some (0, s) else gd (0 ≤ (s 71 14) ∧ (s 71 14) < 500) (lt' (up s 85 (s 71 14).toNat v2) (fun s4 => gd (0 ≤ (s4 71 14) ∧ (s4 71 14) < 500) (lt' (up s4 86 (s4 71 14).toNat v3) (fun s6 => lt' (up s6 71 14 ((s6 71 14) + 1)) (fun s7 => some (0, s7)))))))
theorem tcrd_readLink_110 (w : ev_W) (d : Nat) (hd : 3 ≤ d) (v2 : Int) (v3 : Int) (s : iS) : Ew hT w d 242 110 [(0, .ref (tb_nK + 71)), (2, iv v2), (3, iv v3)] [] s (Cv hT) (crd_readLink_110 v2 v3 s) := by
  unfold crd_readLink_110
  refine e_mv 111 em_242 (ce_at ce_242 51 rfl) rfl rfl ?_
  refine e_get 114 em_242 (ce_at ce_242 52 rfl) tq_71 rfl rfl ?_
  refine e_sip 117 em_242 (ce_at ce_242 53 rfl) (by decide) rfl ?_
  refine e_gd fun g1 => ?_
  refine e_cmge 150 120 em_242 rfl rfl (ce_at ce_242 54 rfl) g1 (by decide) (fun h2 => ?_) (fun h2 => ?_)
  · exact e_retv em_242 (ce_at ce_242 73 rfl)
  · refine e_mv 121 em_242 (ce_at ce_242 55 rfl) rfl rfl ?_
    refine e_getr 124 em_242 (ce_at ce_242 56 rfl) tq_71 rfl rfl ?_
    refine e_mv 125 em_242 (ce_at ce_242 57 rfl) rfl rfl ?_
    refine e_get 128 em_242 (ce_at ce_242 58 rfl) tq_71 rfl rfl ?_
    refine e_mv 129 em_242 (ce_at ce_242 59 rfl) rfl rfl ?_
    refine e_gd fun g3 => ?_
    refine e_ist 130 em_242 (ce_at ce_242 60 rfl) tq_85 (by decide) g3 rfl (fun s4 => ?_)
    refine e_mv 131 em_242 (ce_at ce_242 61 rfl) rfl rfl ?_
    refine e_getr 134 em_242 (ce_at ce_242 62 rfl) tq_71 rfl rfl ?_
    refine e_mv 135 em_242 (ce_at ce_242 63 rfl) rfl rfl ?_
    refine e_get 138 em_242 (ce_at ce_242 64 rfl) tq_71 rfl rfl ?_
    refine e_mv 139 em_242 (ce_at ce_242 65 rfl) rfl rfl ?_
    refine e_gd fun g5 => ?_
    refine e_ist 140 em_242 (ce_at ce_242 66 rfl) tq_86 (by decide) g5 rfl (fun s6 => ?_)
    refine e_mv 141 em_242 (ce_at ce_242 67 rfl) rfl rfl ?_
    refine e_op 142 em_242 (ce_at ce_242 68 rfl) rfl rfl ?_
    refine e_get 145 em_242 (ce_at ce_242 69 rfl) tq_71 rfl rfl ?_
    refine e_op 146 em_242 (ce_at ce_242 70 rfl) rfl rfl ?_
    refine e_iadd 147 em_242 rfl (ce_at ce_242 71 rfl) ?_
    refine e_put 150 em_242 (ce_at ce_242 72 rfl) tq_71 rfl rfl rfl (fun s7 => ?_)
    exact e_retv em_242 (ce_at ce_242 73 rfl)
theorem fcrd_readLink_110 (v2 : Int) (v3 : Int) (s : iS) : Fm Prod.snd L_crd_readLink G_crd_readLink s (crd_readLink_110 v2 v3 s) := fm_gd (fm_if (fm_some md_refl) (fm_gd (fm_lt (md_upL (mem_L rfl)) (fun s4 => fm_gd (fm_lt (md_upL (mem_L rfl)) (fun s6 => fm_lt (md_upF (mem_F rfl)) (fun s7 => fm_some md_refl)))))))
noncomputable def crd_readLink_86 (v2 : Int) (v3 : Int) (s : iS) : Option (Int × iS) := lt' (up s 2 12 ((s 2 12) + 1)) (fun s1 => crd_readLink_110 v2 v3 s1)
theorem tcrd_readLink_86 (w : ev_W) (d : Nat) (hd : 3 ≤ d) (v2 : Int) (v3 : Int) (s : iS) : Ew hT w d 242 86 [(0, .ref (tb_nK + 71)), (2, iv v2), (3, iv v3)] [] s (Cv hT) (crd_readLink_86 v2 v3 s) := by
  unfold crd_readLink_86
  refine e_mv 87 em_242 (ce_at ce_242 39 rfl) rfl rfl ?_
  refine e_getr 90 em_242 (ce_at ce_242 40 rfl) tq_71 rfl rfl ?_
  refine e_op 91 em_242 (ce_at ce_242 41 rfl) rfl rfl ?_
  refine e_get 94 em_242 (ce_at ce_242 42 rfl) tq_2 rfl rfl ?_
  refine e_op 95 em_242 (ce_at ce_242 43 rfl) rfl rfl ?_
  refine e_iadd 96 em_242 rfl (ce_at ce_242 44 rfl) ?_
  refine e_put 99 em_242 (ce_at ce_242 45 rfl) tq_2 rfl rfl rfl (fun s1 => ?_)
  refine e_goto em_242 110 (ce_at ce_242 46 rfl) rfl ?_
  refine e_pk [0, 2, 3] rfl rfl ?_
  exact tcrd_readLink_110 w d hd _ _ _
theorem fcrd_readLink_86 (v2 : Int) (v3 : Int) (s : iS) : Fm Prod.snd L_crd_readLink G_crd_readLink s (crd_readLink_86 v2 v3 s) := fm_lt (md_upF (mem_F rfl)) (fun s1 => fcrd_readLink_110 _ _ _)
noncomputable def crd_readLink (v1 : Int) (s : iS) : Option (Int × iS) := bd (tok_expect 3 s) (fun _ s1 => bd (crd_readRange s1) (fun _ s2 => bd (tok_expect 61 s2) (fun _ s3 => bd (tok_kind s3) (fun r4 s4 => gd (rg r4) (if r4 = 3 then bd (crd_noteInner v1 s4) (fun _ s14 => bd (crd_readRange s14) (fun _ s15 => crd_readLink_110 (s 2 12) (s3 2 12) s15)) else bd (tok_kind s4) (fun r7 s7 => gd (rg r7) (if r7 = 304 then crd_readLink_86 (s 2 12) (s3 2 12) s7 else bd (tok_kind s7) (fun r10 s10 => gd (rg r10) (if r10 = 305 then crd_readLink_86 (s 2 12) (s3 2 12) s10 else bd (tok_stop 1 s10) (fun _ s13 => crd_readLink_110 (s 2 12) (s3 2 12) s13))))))))))
theorem tcrd_readLink (w : ev_W) (d : Nat) (hd : 3 ≤ d) (v1 : Int) (s : iS) : Ew hT w d 242 0 [(0, .ref (tb_nK + 71)), (1, iv v1)] [] s (Cv hT) (crd_readLink v1 s) := by
  unfold crd_readLink
  refine e_mv 1 em_242 (ce_at ce_242 0 rfl) rfl rfl ?_
  refine e_getr 4 em_242 (ce_at ce_242 1 rfl) tq_71 rfl rfl ?_
  refine e_get 7 em_242 (ce_at ce_242 2 rfl) tq_2 rfl rfl ?_
  refine e_mv 8 em_242 (ce_at ce_242 3 rfl) rfl rfl ?_
  refine e_mv 9 em_242 (ce_at ce_242 4 rfl) rfl rfl ?_
  refine e_getr 12 em_242 (ce_at ce_242 5 rfl) tq_71 rfl rfl ?_
  refine e_op 13 em_242 (ce_at ce_242 6 rfl) rfl rfl ?_
  refine e_ivv 16 em_242 (ce_at ce_242 7 rfl) (by omega) (iv_v1 (by decide) tq_2 rfl) em_86 (Nat.le_of_ble_eq_true rfl) rfl (ttok_expect w (d - 1) (by omega) _ _) (fun r1 s1 => ?_)
  refine e_mv 17 em_242 (ce_at ce_242 8 rfl) rfl rfl ?_
  refine e_ivv 20 em_242 (ce_at ce_242 9 rfl) (by omega) (iv_v0 (by decide) tq_71 rfl) em_243 (Nat.le_of_ble_eq_true rfl) rfl (tcrd_readRange w (d - 1) (by omega) _) (fun r2 s2 => ?_)
  refine e_mv 21 em_242 (ce_at ce_242 10 rfl) rfl rfl ?_
  refine e_getr 24 em_242 (ce_at ce_242 11 rfl) tq_71 rfl rfl ?_
  refine e_bip 26 em_242 (ce_at ce_242 12 rfl) (by decide) rfl ?_
  refine e_ivv 29 em_242 (ce_at ce_242 13 rfl) (by omega) (iv_v1 (by decide) tq_2 rfl) em_86 (Nat.le_of_ble_eq_true rfl) rfl (ttok_expect w (d - 1) (by omega) _ _) (fun r3 s3 => ?_)
  refine e_mv 30 em_242 (ce_at ce_242 14 rfl) rfl rfl ?_
  refine e_getr 33 em_242 (ce_at ce_242 15 rfl) tq_71 rfl rfl ?_
  refine e_get 36 em_242 (ce_at ce_242 16 rfl) tq_2 rfl rfl ?_
  refine e_mv 37 em_242 (ce_at ce_242 17 rfl) rfl rfl ?_
  refine e_mv 38 em_242 (ce_at ce_242 18 rfl) rfl rfl ?_
  refine e_getr 41 em_242 (ce_at ce_242 19 rfl) tq_71 rfl rfl ?_
  refine e_ivi 44 em_242 (ce_at ce_242 20 rfl) (by omega) (iv_v0 (by decide) tq_2 rfl) em_69 (Nat.le_of_ble_eq_true rfl) rfl (ttok_kind w (d - 1) (by omega) _) (fun r4 s4 => ?_)
  refine e_op 45 em_242 (ce_at ce_242 21 rfl) rfl rfl ?_
  refine e_gd fun g5 => ?_
  refine e_cmne 60 48 em_242 rfl rfl (ce_at ce_242 22 rfl) g5 (by decide) (fun h6 => ?_) (fun h6 => ?_)
  · refine e_mv 61 em_242 (ce_at ce_242 29 rfl) rfl rfl ?_
    refine e_getr 64 em_242 (ce_at ce_242 30 rfl) tq_71 rfl rfl ?_
    refine e_ivi 67 em_242 (ce_at ce_242 31 rfl) (by omega) (iv_v0 (by decide) tq_2 rfl) em_69 (Nat.le_of_ble_eq_true rfl) rfl (ttok_kind w (d - 1) (by omega) _) (fun r7 s7 => ?_)
    refine e_sip 70 em_242 (ce_at ce_242 32 rfl) (by decide) rfl ?_
    refine e_gd fun g8 => ?_
    refine e_cmeq 86 73 em_242 rfl rfl (ce_at ce_242 33 rfl) g8 (by decide) (fun h9 => ?_) (fun h9 => ?_)
    · refine e_pk [0, 2, 3] rfl rfl ?_
      exact tcrd_readLink_86 w d hd _ _ _
    · refine e_mv 74 em_242 (ce_at ce_242 34 rfl) rfl rfl ?_
      refine e_getr 77 em_242 (ce_at ce_242 35 rfl) tq_71 rfl rfl ?_
      refine e_ivi 80 em_242 (ce_at ce_242 36 rfl) (by omega) (iv_v0 (by decide) tq_2 rfl) em_69 (Nat.le_of_ble_eq_true rfl) rfl (ttok_kind w (d - 1) (by omega) _) (fun r10 s10 => ?_)
      refine e_sip 83 em_242 (ce_at ce_242 37 rfl) (by decide) rfl ?_
      refine e_gd fun g11 => ?_
      refine e_cmne 102 86 em_242 rfl rfl (ce_at ce_242 38 rfl) g11 (by decide) (fun h12 => ?_) (fun h12 => ?_)
      · refine e_mv 103 em_242 (ce_at ce_242 47 rfl) rfl rfl ?_
        refine e_getr 106 em_242 (ce_at ce_242 48 rfl) tq_71 rfl rfl ?_
        refine e_op 107 em_242 (ce_at ce_242 49 rfl) rfl rfl ?_
        refine e_ivv 110 em_242 (ce_at ce_242 50 rfl) (by omega) (iv_v1 (by decide) tq_2 rfl) em_71 (Nat.le_of_ble_eq_true rfl) rfl (ttok_stop w (d - 1) (by omega) _ _) (fun r13 s13 => ?_)
        refine e_pk [0, 2, 3] rfl rfl ?_
        exact tcrd_readLink_110 w d hd _ _ _
      · refine e_pk [0, 2, 3] rfl rfl ?_
        exact tcrd_readLink_86 w d hd _ _ _
  · refine e_mv 49 em_242 (ce_at ce_242 23 rfl) rfl rfl ?_
    refine e_mv 50 em_242 (ce_at ce_242 24 rfl) rfl rfl ?_
    refine e_ivv 53 em_242 (ce_at ce_242 25 rfl) (by omega) (iv_v1 (by decide) tq_71 rfl) em_244 (Nat.le_of_ble_eq_true rfl) rfl (tcrd_noteInner w (d - 1) (by omega) _ _) (fun r14 s14 => ?_)
    refine e_mv 54 em_242 (ce_at ce_242 26 rfl) rfl rfl ?_
    refine e_ivv 57 em_242 (ce_at ce_242 27 rfl) (by omega) (iv_v0 (by decide) tq_71 rfl) em_243 (Nat.le_of_ble_eq_true rfl) rfl (tcrd_readRange w (d - 1) (by omega) _) (fun r15 s15 => ?_)
    refine e_goto em_242 110 (ce_at ce_242 28 rfl) rfl ?_
    refine e_pk [0, 2, 3] rfl rfl ?_
    exact tcrd_readLink_110 w d hd _ _ _
theorem fcrd_readLink (v1 : Int) (s : iS) : Fm Prod.snd L_crd_readLink G_crd_readLink s (crd_readLink v1 s) := fm_bd (fm_sub (ftok_expect _ _) (mem_sub_L rfl) (mem_sub_F rfl)) (fun r1 s1 => fm_bd (fm_sub (fcrd_readRange _) (mem_sub_L rfl) (mem_sub_F rfl)) (fun r2 s2 => fm_bd (fm_sub (ftok_expect _ _) (mem_sub_L rfl) (mem_sub_F rfl)) (fun r3 s3 => fm_bd (fm_sub (ftok_kind _) (mem_sub_L rfl) (mem_sub_F rfl)) (fun r4 s4 => fm_gd (fm_if (fm_bd (fm_sub (fcrd_noteInner _ _) (mem_sub_L rfl) (mem_sub_F rfl)) (fun r14 s14 => fm_bd (fm_sub (fcrd_readRange _) (mem_sub_L rfl) (mem_sub_F rfl)) (fun r15 s15 => fcrd_readLink_110 _ _ _))) (fm_bd (fm_sub (ftok_kind _) (mem_sub_L rfl) (mem_sub_F rfl)) (fun r7 s7 => fm_gd (fm_if (fcrd_readLink_86 _ _ _) (fm_bd (fm_sub (ftok_kind _) (mem_sub_L rfl) (mem_sub_F rfl)) (fun r10 s10 => fm_gd (fm_if (fcrd_readLink_86 _ _ _) (fm_bd (fm_sub (ftok_stop _ _) (mem_sub_L rfl) (mem_sub_F rfl)) (fun r13 s13 => fcrd_readLink_110 _ _ _)))))))))))))
/-! crd_readPart -/
def L_crd_readPart : List Nat := [83, 84, 85, 86, 88, 89]
def G_crd_readPart : List (Nat × Nat) := [(2, 12), (2, 13), (2, 14), (71, 13), (71, 14), (87, 2)]
noncomputable def crd_readPart_26 (s : iS) : Option (Int × iS) := bd (tok_stop 2 s) (fun _ s1 => some (0, s1))
theorem tcrd_readPart_26 (w : ev_W) (d : Nat) (hd : 4 ≤ d) (s : iS) : Ew hT w d 241 26 [(0, .ref (tb_nK + 71))] [] s (Cv hT) (crd_readPart_26 s) := by
  unfold crd_readPart_26
  refine e_mv 27 em_241 (ce_at ce_241 13 rfl) rfl rfl ?_
  refine e_getr 30 em_241 (ce_at ce_241 14 rfl) tq_71 rfl rfl ?_
  refine e_op 31 em_241 (ce_at ce_241 15 rfl) rfl rfl ?_
  refine e_ivv 34 em_241 (ce_at ce_241 16 rfl) (by omega) (iv_v1 (by decide) tq_2 rfl) em_71 (Nat.le_of_ble_eq_true rfl) rfl (ttok_stop w (d - 1) (by omega) _ _) (fun r1 s1 => ?_)
  exact e_retv em_241 (ce_at ce_241 17 rfl)
theorem fcrd_readPart_26 (s : iS) : Fm Prod.snd L_crd_readPart G_crd_readPart s (crd_readPart_26 s) := fm_bd (fm_sub (ftok_stop _ _) (mem_sub_L rfl) (mem_sub_F rfl)) (fun r1 s1 => fm_some md_refl)
def crd_readPart_103C (w : ev_W) (d : Nat) (v1 : Int) : (Int × iS) ⊕ (iS) → am_E → Prop := fun q r => q.elim (fun l => ev w d 241 103 ((fun l => [(0, .ref (tb_nK + 71)), (1, iv v1), (2, iv (l.1))]) l) [] (hT ((fun l => l.2) l)) r) (fun e => (fun e r => ev w d 241 146 [(0, .ref (tb_nK + 71))] [] (hT (e)) r) e r)
noncomputable def crd_readPart_103b (v1 : Int) (v2 : Int) (s : iS) : Option ((Int × iS) ⊕ (iS)) := gd (rg v2) (if 2000 ≤ v2 then some (.inr s) else bd (tok_kind s) (fun r3 s3 => gd (rg r3) (if r3 = 44 then lt' (up s3 2 12 ((s3 2 12) + 1)) (fun s6 => bd (crd_readLink v1 s6) (fun _ s7 => some (.inl ((v2 + 1), s7)))) else some (.inr s3))))
theorem tcrd_readPart_103b (w : ev_W) (d : Nat) (hd : 4 ≤ d) (v1 : Int) (v2 : Int) (s : iS) : Ew hT w d 241 103 [(0, .ref (tb_nK + 71)), (1, iv v1), (2, iv v2)] [] s (crd_readPart_103C w d v1) (crd_readPart_103b v1 v2 s) := by
  unfold crd_readPart_103b
  refine e_mv 104 em_241 (ce_at ce_241 55 rfl) rfl rfl ?_
  refine e_sip 107 em_241 (ce_at ce_241 56 rfl) (by decide) rfl ?_
  refine e_gd fun g1 => ?_
  refine e_cmge 146 110 em_241 rfl rfl (ce_at ce_241 57 rfl) g1 (by decide) (fun h2 => ?_) (fun h2 => ?_)
  · refine e_pk [0] rfl rfl ?_
    exact e_out (fun r h => h)
  · refine e_mv 111 em_241 (ce_at ce_241 58 rfl) rfl rfl ?_
    refine e_getr 114 em_241 (ce_at ce_241 59 rfl) tq_71 rfl rfl ?_
    refine e_ivi 117 em_241 (ce_at ce_241 60 rfl) (by omega) (iv_v0 (by decide) tq_2 rfl) em_69 (Nat.le_of_ble_eq_true rfl) rfl (ttok_kind w (d - 1) (by omega) _) (fun r3 s3 => ?_)
    refine e_bip 119 em_241 (ce_at ce_241 61 rfl) (by decide) rfl ?_
    refine e_gd fun g4 => ?_
    refine e_cmne 146 122 em_241 rfl rfl (ce_at ce_241 62 rfl) g4 (by decide) (fun h5 => ?_) (fun h5 => ?_)
    · refine e_pk [0] rfl rfl ?_
      exact e_out (fun r h => h)
    · refine e_mv 123 em_241 (ce_at ce_241 63 rfl) rfl rfl ?_
      refine e_getr 126 em_241 (ce_at ce_241 64 rfl) tq_71 rfl rfl ?_
      refine e_op 127 em_241 (ce_at ce_241 65 rfl) rfl rfl ?_
      refine e_get 130 em_241 (ce_at ce_241 66 rfl) tq_2 rfl rfl ?_
      refine e_op 131 em_241 (ce_at ce_241 67 rfl) rfl rfl ?_
      refine e_iadd 132 em_241 rfl (ce_at ce_241 68 rfl) ?_
      refine e_put 135 em_241 (ce_at ce_241 69 rfl) tq_2 rfl rfl rfl (fun s6 => ?_)
      refine e_mv 136 em_241 (ce_at ce_241 70 rfl) rfl rfl ?_
      refine e_mv 137 em_241 (ce_at ce_241 71 rfl) rfl rfl ?_
      refine e_ivv 140 em_241 (ce_at ce_241 72 rfl) (by omega) (iv_v1 (by decide) tq_71 rfl) em_242 (Nat.le_of_ble_eq_true rfl) rfl (tcrd_readLink w (d - 1) (by omega) _ _) (fun r7 s7 => ?_)
      refine e_iinc 143 em_241 (ce_at ce_241 73 rfl) rfl (by decide) rfl ?_
      refine e_goto em_241 103 (ce_at ce_241 74 rfl) rfl ?_
      refine e_pk [0, 1, 2] rfl rfl ?_
      exact e_out (fun r h => h)
theorem fcrd_readPart_103b (v1 : Int) (v2 : Int) (s : iS) : Fm (fun r : (Int × iS) ⊕ (iS) => r.elim (fun l => l.2) (fun e => e)) L_crd_readPart G_crd_readPart s (crd_readPart_103b v1 v2 s) := fm_gd (fm_if (fm_some md_refl) (fm_bd (fm_sub (ftok_kind _) (mem_sub_L rfl) (mem_sub_F rfl)) (fun r3 s3 => fm_gd (fm_if (fm_lt (md_upF (mem_F rfl)) (fun s6 => fm_bd (fm_sub (fcrd_readLink _ _) (mem_sub_L rfl) (mem_sub_F rfl)) (fun r7 s7 => fm_some md_refl))) (fm_some md_refl)))))
noncomputable def crd_readPart_146 (s : iS) : Option (Int × iS) := gd (0 ≤ (s 71 13) ∧ (s 71 13) < 385) (lt' (up s 84 (s 71 13).toNat (s 71 14)) (fun s2 => bd (tok_expect 41 s2) (fun _ s3 => bd (tok_expect 59 s3) (fun _ s4 => some (0, s4)))))
theorem tcrd_readPart_146 (w : ev_W) (d : Nat) (hd : 4 ≤ d) (s : iS) : Ew hT w d 241 146 [(0, .ref (tb_nK + 71))] [] s (Cv hT) (crd_readPart_146 s) := by
  unfold crd_readPart_146
  refine e_mv 147 em_241 (ce_at ce_241 75 rfl) rfl rfl ?_
  refine e_getr 150 em_241 (ce_at ce_241 76 rfl) tq_71 rfl rfl ?_
  refine e_mv 151 em_241 (ce_at ce_241 77 rfl) rfl rfl ?_
  refine e_get 154 em_241 (ce_at ce_241 78 rfl) tq_71 rfl rfl ?_
  refine e_mv 155 em_241 (ce_at ce_241 79 rfl) rfl rfl ?_
  refine e_get 158 em_241 (ce_at ce_241 80 rfl) tq_71 rfl rfl ?_
  refine e_gd fun g1 => ?_
  refine e_ist 159 em_241 (ce_at ce_241 81 rfl) tq_84 (by decide) g1 rfl (fun s2 => ?_)
  refine e_mv 160 em_241 (ce_at ce_241 82 rfl) rfl rfl ?_
  refine e_getr 163 em_241 (ce_at ce_241 83 rfl) tq_71 rfl rfl ?_
  refine e_bip 165 em_241 (ce_at ce_241 84 rfl) (by decide) rfl ?_
  refine e_ivv 168 em_241 (ce_at ce_241 85 rfl) (by omega) (iv_v1 (by decide) tq_2 rfl) em_86 (Nat.le_of_ble_eq_true rfl) rfl (ttok_expect w (d - 1) (by omega) _ _) (fun r3 s3 => ?_)
  refine e_mv 169 em_241 (ce_at ce_241 86 rfl) rfl rfl ?_
  refine e_getr 172 em_241 (ce_at ce_241 87 rfl) tq_71 rfl rfl ?_
  refine e_bip 174 em_241 (ce_at ce_241 88 rfl) (by decide) rfl ?_
  refine e_ivv 177 em_241 (ce_at ce_241 89 rfl) (by omega) (iv_v1 (by decide) tq_2 rfl) em_86 (Nat.le_of_ble_eq_true rfl) rfl (ttok_expect w (d - 1) (by omega) _ _) (fun r4 s4 => ?_)
  exact e_retv em_241 (ce_at ce_241 90 rfl)
theorem fcrd_readPart_146 (s : iS) : Fm Prod.snd L_crd_readPart G_crd_readPart s (crd_readPart_146 s) := fm_gd (fm_lt (md_upL (mem_L rfl)) (fun s2 => fm_bd (fm_sub (ftok_expect _ _) (mem_sub_L rfl) (mem_sub_F rfl)) (fun r3 s3 => fm_bd (fm_sub (ftok_expect _ _) (mem_sub_L rfl) (mem_sub_F rfl)) (fun r4 s4 => fm_some md_refl))))
noncomputable def crd_readPart_103 (v1 : Int) (v2 : Int) (s : iS) : Option (Int × iS) := (lp (L := Int × iS) (E := iS) (fun l => crd_readPart_103b v1 (l.1) (l.2)) (v2, s)).bind (fun e => crd_readPart_146 e)
theorem tcrd_readPart_103 (w : ev_W) (d : Nat) (hd : 4 ≤ d) (v1 : Int) (v2 : Int) (s : iS) : Ew hT w d 241 103 [(0, .ref (tb_nK + 71)), (1, iv v1), (2, iv v2)] [] s (Cv hT) (crd_readPart_103 v1 v2 s) := by
  unfold crd_readPart_103
  refine e_lp (L := Int × iS) (E := iS) (LO := fun l => [(0, .ref (tb_nK + 71)), (1, iv v1), (2, iv (l.1))]) (LS := fun l => l.2) (CE := fun e r => ev w d 241 146 [(0, .ref (tb_nK + 71))] [] (hT (e)) r) (fun l => tcrd_readPart_103b w d hd _ _ _) ?_ (v2, s)
  intro e
  show Ew hT w d 241 146 [(0, .ref (tb_nK + 71))] [] e (Cv hT) _
  refine e_pk [0] rfl rfl ?_
  exact tcrd_readPart_146 w d hd _
theorem fcrd_readPart_103 (v1 : Int) (v2 : Int) (s : iS) : Fm Prod.snd L_crd_readPart G_crd_readPart s (crd_readPart_103 v1 v2 s) := by
  unfold crd_readPart_103
  refine fm_lp (A := Int × iS) (E := iS) (LS := fun l => l.2) (LE := fun e => e) ?_ ?_ (v2, s)
  · exact fun l => fcrd_readPart_103b _ _ _
  · exact (fun e => fcrd_readPart_146 _)
noncomputable def crd_readPart (v1 : Int) (s : iS) : Option (Int × iS) := gd (0 ≤ v1 ∧ v1 < 19) (gd (rg ((s 71 13) - (s 78 v1.toNat))) (if 24 ≤ ((s 71 13) - (s 78 v1.toNat)) then crd_readPart_26 s else gd (rg (s 71 13)) (if (s 71 13) < 384 then gd (0 ≤ (s 71 13) ∧ (s 71 13) < 384) (lt' (up s 83 (s 71 13).toNat (s 2 12)) (fun s7 => gd (0 ≤ (s7 71 13) ∧ (s7 71 13) < 385) (lt' (up s7 84 (s7 71 13).toNat (s7 71 14)) (fun s9 => lt' (up s9 71 13 ((s9 71 13) + 1)) (fun s10 => lt' (up s10 2 12 ((s10 2 12) + 1)) (fun s11 => bd (tok_expect 40 s11) (fun _ s12 => bd (crd_readLink v1 s12) (fun _ s13 => crd_readPart_103 v1 0 s13)))))))) else crd_readPart_26 s)))
theorem tcrd_readPart (w : ev_W) (d : Nat) (hd : 4 ≤ d) (v1 : Int) (s : iS) : Ew hT w d 241 0 [(0, .ref (tb_nK + 71)), (1, iv v1)] [] s (Cv hT) (crd_readPart v1 s) := by
  unfold crd_readPart
  refine e_mv 1 em_241 (ce_at ce_241 0 rfl) rfl rfl ?_
  refine e_get 4 em_241 (ce_at ce_241 1 rfl) tq_71 rfl rfl ?_
  refine e_mv 5 em_241 (ce_at ce_241 2 rfl) rfl rfl ?_
  refine e_getr 8 em_241 (ce_at ce_241 3 rfl) tq_71 rfl rfl ?_
  refine e_mv 9 em_241 (ce_at ce_241 4 rfl) rfl rfl ?_
  refine e_gd fun g1 => ?_
  refine e_ild 10 em_241 (ce_at ce_241 5 rfl) tq_78 (by decide) g1 rfl ?_
  refine e_isub 11 em_241 rfl (ce_at ce_241 6 rfl) ?_
  refine e_bip 13 em_241 (ce_at ce_241 7 rfl) (by decide) rfl ?_
  refine e_gd fun g2 => ?_
  refine e_cmge 26 16 em_241 rfl rfl (ce_at ce_241 8 rfl) g2 (by decide) (fun h3 => ?_) (fun h3 => ?_)
  · refine e_pk [0] rfl rfl ?_
    exact tcrd_readPart_26 w d hd _
  · refine e_mv 17 em_241 (ce_at ce_241 9 rfl) rfl rfl ?_
    refine e_get 20 em_241 (ce_at ce_241 10 rfl) tq_71 rfl rfl ?_
    refine e_sip 23 em_241 (ce_at ce_241 11 rfl) (by decide) rfl ?_
    refine e_gd fun g4 => ?_
    refine e_cmlt 35 26 em_241 rfl rfl (ce_at ce_241 12 rfl) g4 (by decide) (fun h5 => ?_) (fun h5 => ?_)
    · refine e_mv 36 em_241 (ce_at ce_241 18 rfl) rfl rfl ?_
      refine e_getr 39 em_241 (ce_at ce_241 19 rfl) tq_71 rfl rfl ?_
      refine e_mv 40 em_241 (ce_at ce_241 20 rfl) rfl rfl ?_
      refine e_get 43 em_241 (ce_at ce_241 21 rfl) tq_71 rfl rfl ?_
      refine e_mv 44 em_241 (ce_at ce_241 22 rfl) rfl rfl ?_
      refine e_getr 47 em_241 (ce_at ce_241 23 rfl) tq_71 rfl rfl ?_
      refine e_get 50 em_241 (ce_at ce_241 24 rfl) tq_2 rfl rfl ?_
      refine e_gd fun g6 => ?_
      refine e_ist 51 em_241 (ce_at ce_241 25 rfl) tq_83 (by decide) g6 rfl (fun s7 => ?_)
      refine e_mv 52 em_241 (ce_at ce_241 26 rfl) rfl rfl ?_
      refine e_getr 55 em_241 (ce_at ce_241 27 rfl) tq_71 rfl rfl ?_
      refine e_mv 56 em_241 (ce_at ce_241 28 rfl) rfl rfl ?_
      refine e_get 59 em_241 (ce_at ce_241 29 rfl) tq_71 rfl rfl ?_
      refine e_mv 60 em_241 (ce_at ce_241 30 rfl) rfl rfl ?_
      refine e_get 63 em_241 (ce_at ce_241 31 rfl) tq_71 rfl rfl ?_
      refine e_gd fun g8 => ?_
      refine e_ist 64 em_241 (ce_at ce_241 32 rfl) tq_84 (by decide) g8 rfl (fun s9 => ?_)
      refine e_mv 65 em_241 (ce_at ce_241 33 rfl) rfl rfl ?_
      refine e_op 66 em_241 (ce_at ce_241 34 rfl) rfl rfl ?_
      refine e_get 69 em_241 (ce_at ce_241 35 rfl) tq_71 rfl rfl ?_
      refine e_op 70 em_241 (ce_at ce_241 36 rfl) rfl rfl ?_
      refine e_iadd 71 em_241 rfl (ce_at ce_241 37 rfl) ?_
      refine e_put 74 em_241 (ce_at ce_241 38 rfl) tq_71 rfl rfl rfl (fun s10 => ?_)
      refine e_mv 75 em_241 (ce_at ce_241 39 rfl) rfl rfl ?_
      refine e_getr 78 em_241 (ce_at ce_241 40 rfl) tq_71 rfl rfl ?_
      refine e_op 79 em_241 (ce_at ce_241 41 rfl) rfl rfl ?_
      refine e_get 82 em_241 (ce_at ce_241 42 rfl) tq_2 rfl rfl ?_
      refine e_op 83 em_241 (ce_at ce_241 43 rfl) rfl rfl ?_
      refine e_iadd 84 em_241 rfl (ce_at ce_241 44 rfl) ?_
      refine e_put 87 em_241 (ce_at ce_241 45 rfl) tq_2 rfl rfl rfl (fun s11 => ?_)
      refine e_mv 88 em_241 (ce_at ce_241 46 rfl) rfl rfl ?_
      refine e_getr 91 em_241 (ce_at ce_241 47 rfl) tq_71 rfl rfl ?_
      refine e_bip 93 em_241 (ce_at ce_241 48 rfl) (by decide) rfl ?_
      refine e_ivv 96 em_241 (ce_at ce_241 49 rfl) (by omega) (iv_v1 (by decide) tq_2 rfl) em_86 (Nat.le_of_ble_eq_true rfl) rfl (ttok_expect w (d - 1) (by omega) _ _) (fun r12 s12 => ?_)
      refine e_mv 97 em_241 (ce_at ce_241 50 rfl) rfl rfl ?_
      refine e_mv 98 em_241 (ce_at ce_241 51 rfl) rfl rfl ?_
      refine e_ivv 101 em_241 (ce_at ce_241 52 rfl) (by omega) (iv_v1 (by decide) tq_71 rfl) em_242 (Nat.le_of_ble_eq_true rfl) rfl (tcrd_readLink w (d - 1) (by omega) _ _) (fun r13 s13 => ?_)
      refine e_op 102 em_241 (ce_at ce_241 53 rfl) rfl rfl ?_
      refine e_mv 103 em_241 (ce_at ce_241 54 rfl) rfl rfl ?_
      refine e_pk [0, 1, 2] rfl rfl ?_
      exact tcrd_readPart_103 w d hd _ _ _
    · refine e_pk [0] rfl rfl ?_
      exact tcrd_readPart_26 w d hd _
theorem fcrd_readPart (v1 : Int) (s : iS) : Fm Prod.snd L_crd_readPart G_crd_readPart s (crd_readPart v1 s) := fm_gd (fm_gd (fm_if (fcrd_readPart_26 _) (fm_gd (fm_if (fm_gd (fm_lt (md_upL (mem_L rfl)) (fun s7 => fm_gd (fm_lt (md_upL (mem_L rfl)) (fun s9 => fm_lt (md_upF (mem_F rfl)) (fun s10 => fm_lt (md_upF (mem_F rfl)) (fun s11 => fm_bd (fm_sub (ftok_expect _ _) (mem_sub_L rfl) (mem_sub_F rfl)) (fun r12 s12 => fm_bd (fm_sub (fcrd_readLink _ _) (mem_sub_L rfl) (mem_sub_F rfl)) (fun r13 s13 => fcrd_readPart_103 _ _ _))))))))) (fcrd_readPart_26 _)))))
/-! crd_readChip -/
def L_crd_readChip : List Nat := [73, 74, 75, 76, 77, 78, 80, 81, 82, 83, 84, 85, 86, 88, 89]
def G_crd_readChip : List (Nat × Nat) := [(2, 12), (2, 13), (2, 14), (71, 13), (71, 14), (72, 2), (79, 2), (87, 2)]
def crd_readChip_123C (w : ev_W) (d : Nat) (v1 : Int) : (Int × iS) ⊕ (iS) → am_E → Prop := fun q r => q.elim (fun l => ev w d 237 123 ((fun l => [(0, .ref (tb_nK + 71)), (1, iv v1), (2, iv (l.1))]) l) [] (hT ((fun l => l.2) l)) r) (fun e => (fun e r => ev w d 237 152 [(0, .ref (tb_nK + 71)), (1, iv v1)] [] (hT (e)) r) e r)
noncomputable def crd_readChip_123b (v1 : Int) (v2 : Int) (s : iS) : Option ((Int × iS) ⊕ (iS)) := gd (rg v2) (if 2000 ≤ v2 then some (.inr s) else bd (tok_kind s) (fun r3 s3 => gd (rg r3) (if r3 = 3 then bd (crd_readPart v1 s3) (fun _ s6 => some (.inl ((v2 + 1), s6))) else some (.inr s3))))
theorem tcrd_readChip_123b (w : ev_W) (d : Nat) (hd : 5 ≤ d) (v1 : Int) (v2 : Int) (s : iS) : Ew hT w d 237 123 [(0, .ref (tb_nK + 71)), (1, iv v1), (2, iv v2)] [] s (crd_readChip_123C w d v1) (crd_readChip_123b v1 v2 s) := by
  unfold crd_readChip_123b
  refine e_mv 124 em_237 (ce_at ce_237 61 rfl) rfl rfl ?_
  refine e_sip 127 em_237 (ce_at ce_237 62 rfl) (by decide) rfl ?_
  refine e_gd fun g1 => ?_
  refine e_cmge 152 130 em_237 rfl rfl (ce_at ce_237 63 rfl) g1 (by decide) (fun h2 => ?_) (fun h2 => ?_)
  · refine e_pk [0, 1] rfl rfl ?_
    exact e_out (fun r h => h)
  · refine e_mv 131 em_237 (ce_at ce_237 64 rfl) rfl rfl ?_
    refine e_getr 134 em_237 (ce_at ce_237 65 rfl) tq_71 rfl rfl ?_
    refine e_ivi 137 em_237 (ce_at ce_237 66 rfl) (by omega) (iv_v0 (by decide) tq_2 rfl) em_69 (Nat.le_of_ble_eq_true rfl) rfl (ttok_kind w (d - 1) (by omega) _) (fun r3 s3 => ?_)
    refine e_op 138 em_237 (ce_at ce_237 67 rfl) rfl rfl ?_
    refine e_gd fun g4 => ?_
    refine e_cmne 152 141 em_237 rfl rfl (ce_at ce_237 68 rfl) g4 (by decide) (fun h5 => ?_) (fun h5 => ?_)
    · refine e_pk [0, 1] rfl rfl ?_
      exact e_out (fun r h => h)
    · refine e_mv 142 em_237 (ce_at ce_237 69 rfl) rfl rfl ?_
      refine e_mv 143 em_237 (ce_at ce_237 70 rfl) rfl rfl ?_
      refine e_ivv 146 em_237 (ce_at ce_237 71 rfl) (by omega) (iv_v1 (by decide) tq_71 rfl) em_241 (Nat.le_of_ble_eq_true rfl) rfl (tcrd_readPart w (d - 1) (by omega) _ _) (fun r6 s6 => ?_)
      refine e_iinc 149 em_237 (ce_at ce_237 72 rfl) rfl (by decide) rfl ?_
      refine e_goto em_237 123 (ce_at ce_237 73 rfl) rfl ?_
      refine e_pk [0, 1, 2] rfl rfl ?_
      exact e_out (fun r h => h)
theorem fcrd_readChip_123b (v1 : Int) (v2 : Int) (s : iS) : Fm (fun r : (Int × iS) ⊕ (iS) => r.elim (fun l => l.2) (fun e => e)) L_crd_readChip G_crd_readChip s (crd_readChip_123b v1 v2 s) := fm_gd (fm_if (fm_some md_refl) (fm_bd (fm_sub (ftok_kind _) (mem_sub_L rfl) (mem_sub_F rfl)) (fun r3 s3 => fm_gd (fm_if (fm_bd (fm_sub (fcrd_readPart _ _) (mem_sub_L rfl) (mem_sub_F rfl)) (fun r6 s6 => fm_some md_refl)) (fm_some md_refl)))))
noncomputable def crd_readChip_152 (v1 : Int) (s : iS) : Option (Int × iS) := gd (0 ≤ (v1 + 1) ∧ (v1 + 1) < 19) (lt' (up s 78 (v1 + 1).toNat (s 71 13)) (fun s2 => bd (tok_expect 125 s2) (fun _ s3 => some (0, s3))))
theorem tcrd_readChip_152 (w : ev_W) (d : Nat) (hd : 5 ≤ d) (v1 : Int) (s : iS) : Ew hT w d 237 152 [(0, .ref (tb_nK + 71)), (1, iv v1)] [] s (Cv hT) (crd_readChip_152 v1 s) := by
  unfold crd_readChip_152
  refine e_mv 153 em_237 (ce_at ce_237 74 rfl) rfl rfl ?_
  refine e_getr 156 em_237 (ce_at ce_237 75 rfl) tq_71 rfl rfl ?_
  refine e_mv 157 em_237 (ce_at ce_237 76 rfl) rfl rfl ?_
  refine e_op 158 em_237 (ce_at ce_237 77 rfl) rfl rfl ?_
  refine e_iadd 159 em_237 rfl (ce_at ce_237 78 rfl) ?_
  refine e_mv 160 em_237 (ce_at ce_237 79 rfl) rfl rfl ?_
  refine e_get 163 em_237 (ce_at ce_237 80 rfl) tq_71 rfl rfl ?_
  refine e_gd fun g1 => ?_
  refine e_ist 164 em_237 (ce_at ce_237 81 rfl) tq_78 (by decide) g1 rfl (fun s2 => ?_)
  refine e_mv 165 em_237 (ce_at ce_237 82 rfl) rfl rfl ?_
  refine e_getr 168 em_237 (ce_at ce_237 83 rfl) tq_71 rfl rfl ?_
  refine e_bip 170 em_237 (ce_at ce_237 84 rfl) (by decide) rfl ?_
  refine e_ivv 173 em_237 (ce_at ce_237 85 rfl) (by omega) (iv_v1 (by decide) tq_2 rfl) em_86 (Nat.le_of_ble_eq_true rfl) rfl (ttok_expect w (d - 1) (by omega) _ _) (fun r3 s3 => ?_)
  exact e_retv em_237 (ce_at ce_237 86 rfl)
theorem fcrd_readChip_152 (v1 : Int) (s : iS) : Fm Prod.snd L_crd_readChip G_crd_readChip s (crd_readChip_152 v1 s) := fm_gd (fm_lt (md_upL (mem_L rfl)) (fun s2 => fm_bd (fm_sub (ftok_expect _ _) (mem_sub_L rfl) (mem_sub_F rfl)) (fun r3 s3 => fm_some md_refl)))
noncomputable def crd_readChip_123 (v1 : Int) (v2 : Int) (s : iS) : Option (Int × iS) := (lp (L := Int × iS) (E := iS) (fun l => crd_readChip_123b v1 (l.1) (l.2)) (v2, s)).bind (fun e => crd_readChip_152 v1 e)
theorem tcrd_readChip_123 (w : ev_W) (d : Nat) (hd : 5 ≤ d) (v1 : Int) (v2 : Int) (s : iS) : Ew hT w d 237 123 [(0, .ref (tb_nK + 71)), (1, iv v1), (2, iv v2)] [] s (Cv hT) (crd_readChip_123 v1 v2 s) := by
  unfold crd_readChip_123
  refine e_lp (L := Int × iS) (E := iS) (LO := fun l => [(0, .ref (tb_nK + 71)), (1, iv v1), (2, iv (l.1))]) (LS := fun l => l.2) (CE := fun e r => ev w d 237 152 [(0, .ref (tb_nK + 71)), (1, iv v1)] [] (hT (e)) r) (fun l => tcrd_readChip_123b w d hd _ _ _) ?_ (v2, s)
  intro e
  show Ew hT w d 237 152 [(0, .ref (tb_nK + 71)), (1, iv v1)] [] e (Cv hT) _
  refine e_pk [0, 1] rfl rfl ?_
  exact tcrd_readChip_152 w d hd _ _
theorem fcrd_readChip_123 (v1 : Int) (v2 : Int) (s : iS) : Fm Prod.snd L_crd_readChip G_crd_readChip s (crd_readChip_123 v1 v2 s) := by
  unfold crd_readChip_123
  refine fm_lp (A := Int × iS) (E := iS) (LS := fun l => l.2) (LE := fun e => e) ?_ ?_ (v2, s)
  · exact fun l => fcrd_readChip_123b _ _ _
  · exact (fun e => fcrd_readChip_152 _ _)
noncomputable def crd_readChip (s : iS) : Option (Int × iS) := bd (tok_expect 300 s) (fun _ s1 => bd (crd_beginChip s1) (fun _ s2 => gd (rg (s2 2 13)) (if (s2 2 13) = 0 then bd (tok_expect 123 s2) (fun _ s5 => bd (tok_expect 301 s5) (fun _ s6 => bd (crd_readPins ((s2 72 2) - 1) s6) (fun _ s7 => gd (0 ≤ ((s2 72 2) - 1) ∧ ((s2 72 2) - 1) < 18) (lt' (up s7 77 ((s2 72 2) - 1).toNat (s7 79 2)) (fun s9 => bd (tok_expect 302 s9) (fun _ s10 => bd (crd_readPins ((s2 72 2) - 1) s10) (fun _ s11 => gd (0 ≤ (((s2 72 2) - 1) + 1) ∧ (((s2 72 2) - 1) + 1) < 19) (lt' (up s11 76 (((s2 72 2) - 1) + 1).toNat (s11 79 2)) (fun s13 => bd (tok_expect 303 s13) (fun _ s14 => bd (tok_expect 58 s14) (fun _ s15 => crd_readChip_123 ((s2 72 2) - 1) 0 s15))))))))))) else some (0, s2))))
theorem tcrd_readChip (w : ev_W) (d : Nat) (hd : 5 ≤ d) (s : iS) : Ew hT w d 237 0 [(0, .ref (tb_nK + 71))] [] s (Cv hT) (crd_readChip s) := by
  unfold crd_readChip
  refine e_mv 1 em_237 (ce_at ce_237 0 rfl) rfl rfl ?_
  refine e_getr 4 em_237 (ce_at ce_237 1 rfl) tq_71 rfl rfl ?_
  refine e_sip 7 em_237 (ce_at ce_237 2 rfl) (by decide) rfl ?_
  refine e_ivv 10 em_237 (ce_at ce_237 3 rfl) (by omega) (iv_v1 (by decide) tq_2 rfl) em_86 (Nat.le_of_ble_eq_true rfl) rfl (ttok_expect w (d - 1) (by omega) _ _) (fun r1 s1 => ?_)
  refine e_mv 11 em_237 (ce_at ce_237 4 rfl) rfl rfl ?_
  refine e_ivv 14 em_237 (ce_at ce_237 5 rfl) (by omega) (iv_v0 (by decide) tq_71 rfl) em_238 (Nat.le_of_ble_eq_true rfl) rfl (tcrd_beginChip w (d - 1) (by omega) _) (fun r2 s2 => ?_)
  refine e_mv 15 em_237 (ce_at ce_237 6 rfl) rfl rfl ?_
  refine e_getr 18 em_237 (ce_at ce_237 7 rfl) tq_71 rfl rfl ?_
  refine e_get 21 em_237 (ce_at ce_237 8 rfl) tq_2 rfl rfl ?_
  refine e_gd fun g3 => ?_
  refine e_ifeq 25 24 em_237 rfl rfl (ce_at ce_237 9 rfl) g3 (fun h4 => ?_) (fun h4 => ?_)
  · refine e_mv 26 em_237 (ce_at ce_237 11 rfl) rfl rfl ?_
    refine e_getr 29 em_237 (ce_at ce_237 12 rfl) tq_71 rfl rfl ?_
    refine e_get 32 em_237 (ce_at ce_237 13 rfl) tq_72 rfl rfl ?_
    refine e_op 33 em_237 (ce_at ce_237 14 rfl) rfl rfl ?_
    refine e_isub 34 em_237 rfl (ce_at ce_237 15 rfl) ?_
    refine e_mv 35 em_237 (ce_at ce_237 16 rfl) rfl rfl ?_
    refine e_mv 36 em_237 (ce_at ce_237 17 rfl) rfl rfl ?_
    refine e_getr 39 em_237 (ce_at ce_237 18 rfl) tq_71 rfl rfl ?_
    refine e_bip 41 em_237 (ce_at ce_237 19 rfl) (by decide) rfl ?_
    refine e_ivv 44 em_237 (ce_at ce_237 20 rfl) (by omega) (iv_v1 (by decide) tq_2 rfl) em_86 (Nat.le_of_ble_eq_true rfl) rfl (ttok_expect w (d - 1) (by omega) _ _) (fun r5 s5 => ?_)
    refine e_mv 45 em_237 (ce_at ce_237 21 rfl) rfl rfl ?_
    refine e_getr 48 em_237 (ce_at ce_237 22 rfl) tq_71 rfl rfl ?_
    refine e_sip 51 em_237 (ce_at ce_237 23 rfl) (by decide) rfl ?_
    refine e_ivv 54 em_237 (ce_at ce_237 24 rfl) (by omega) (iv_v1 (by decide) tq_2 rfl) em_86 (Nat.le_of_ble_eq_true rfl) rfl (ttok_expect w (d - 1) (by omega) _ _) (fun r6 s6 => ?_)
    refine e_mv 55 em_237 (ce_at ce_237 25 rfl) rfl rfl ?_
    refine e_mv 56 em_237 (ce_at ce_237 26 rfl) rfl rfl ?_
    refine e_ivv 59 em_237 (ce_at ce_237 27 rfl) (by omega) (iv_v1 (by decide) tq_71 rfl) em_239 (Nat.le_of_ble_eq_true rfl) rfl (tcrd_readPins w (d - 1) (by omega) _ _) (fun r7 s7 => ?_)
    refine e_mv 60 em_237 (ce_at ce_237 28 rfl) rfl rfl ?_
    refine e_getr 63 em_237 (ce_at ce_237 29 rfl) tq_71 rfl rfl ?_
    refine e_mv 64 em_237 (ce_at ce_237 30 rfl) rfl rfl ?_
    refine e_mv 65 em_237 (ce_at ce_237 31 rfl) rfl rfl ?_
    refine e_getr 68 em_237 (ce_at ce_237 32 rfl) tq_71 rfl rfl ?_
    refine e_get 71 em_237 (ce_at ce_237 33 rfl) tq_79 rfl rfl ?_
    refine e_gd fun g8 => ?_
    refine e_ist 72 em_237 (ce_at ce_237 34 rfl) tq_77 (by decide) g8 rfl (fun s9 => ?_)
    refine e_mv 73 em_237 (ce_at ce_237 35 rfl) rfl rfl ?_
    refine e_getr 76 em_237 (ce_at ce_237 36 rfl) tq_71 rfl rfl ?_
    refine e_sip 79 em_237 (ce_at ce_237 37 rfl) (by decide) rfl ?_
    refine e_ivv 82 em_237 (ce_at ce_237 38 rfl) (by omega) (iv_v1 (by decide) tq_2 rfl) em_86 (Nat.le_of_ble_eq_true rfl) rfl (ttok_expect w (d - 1) (by omega) _ _) (fun r10 s10 => ?_)
    refine e_mv 83 em_237 (ce_at ce_237 39 rfl) rfl rfl ?_
    refine e_mv 84 em_237 (ce_at ce_237 40 rfl) rfl rfl ?_
    refine e_ivv 87 em_237 (ce_at ce_237 41 rfl) (by omega) (iv_v1 (by decide) tq_71 rfl) em_239 (Nat.le_of_ble_eq_true rfl) rfl (tcrd_readPins w (d - 1) (by omega) _ _) (fun r11 s11 => ?_)
    refine e_mv 88 em_237 (ce_at ce_237 42 rfl) rfl rfl ?_
    refine e_getr 91 em_237 (ce_at ce_237 43 rfl) tq_71 rfl rfl ?_
    refine e_mv 92 em_237 (ce_at ce_237 44 rfl) rfl rfl ?_
    refine e_op 93 em_237 (ce_at ce_237 45 rfl) rfl rfl ?_
    refine e_iadd 94 em_237 rfl (ce_at ce_237 46 rfl) ?_
    refine e_mv 95 em_237 (ce_at ce_237 47 rfl) rfl rfl ?_
    refine e_getr 98 em_237 (ce_at ce_237 48 rfl) tq_71 rfl rfl ?_
    refine e_get 101 em_237 (ce_at ce_237 49 rfl) tq_79 rfl rfl ?_
    refine e_gd fun g12 => ?_
    refine e_ist 102 em_237 (ce_at ce_237 50 rfl) tq_76 (by decide) g12 rfl (fun s13 => ?_)
    refine e_mv 103 em_237 (ce_at ce_237 51 rfl) rfl rfl ?_
    refine e_getr 106 em_237 (ce_at ce_237 52 rfl) tq_71 rfl rfl ?_
    refine e_sip 109 em_237 (ce_at ce_237 53 rfl) (by decide) rfl ?_
    refine e_ivv 112 em_237 (ce_at ce_237 54 rfl) (by omega) (iv_v1 (by decide) tq_2 rfl) em_86 (Nat.le_of_ble_eq_true rfl) rfl (ttok_expect w (d - 1) (by omega) _ _) (fun r14 s14 => ?_)
    refine e_mv 113 em_237 (ce_at ce_237 55 rfl) rfl rfl ?_
    refine e_getr 116 em_237 (ce_at ce_237 56 rfl) tq_71 rfl rfl ?_
    refine e_bip 118 em_237 (ce_at ce_237 57 rfl) (by decide) rfl ?_
    refine e_ivv 121 em_237 (ce_at ce_237 58 rfl) (by omega) (iv_v1 (by decide) tq_2 rfl) em_86 (Nat.le_of_ble_eq_true rfl) rfl (ttok_expect w (d - 1) (by omega) _ _) (fun r15 s15 => ?_)
    refine e_op 122 em_237 (ce_at ce_237 59 rfl) rfl rfl ?_
    refine e_mv 123 em_237 (ce_at ce_237 60 rfl) rfl rfl ?_
    refine e_pk [0, 1, 2] rfl rfl ?_
    exact tcrd_readChip_123 w d hd _ _ _
  · exact e_retv em_237 (ce_at ce_237 10 rfl)
theorem fcrd_readChip (s : iS) : Fm Prod.snd L_crd_readChip G_crd_readChip s (crd_readChip s) := fm_bd (fm_sub (ftok_expect _ _) (mem_sub_L rfl) (mem_sub_F rfl)) (fun r1 s1 => fm_bd (fm_sub (fcrd_beginChip _) (mem_sub_L rfl) (mem_sub_F rfl)) (fun r2 s2 => fm_gd (fm_if (fm_bd (fm_sub (ftok_expect _ _) (mem_sub_L rfl) (mem_sub_F rfl)) (fun r5 s5 => fm_bd (fm_sub (ftok_expect _ _) (mem_sub_L rfl) (mem_sub_F rfl)) (fun r6 s6 => fm_bd (fm_sub (fcrd_readPins _ _) (mem_sub_L rfl) (mem_sub_F rfl)) (fun r7 s7 => fm_gd (fm_lt (md_upL (mem_L rfl)) (fun s9 => fm_bd (fm_sub (ftok_expect _ _) (mem_sub_L rfl) (mem_sub_F rfl)) (fun r10 s10 => fm_bd (fm_sub (fcrd_readPins _ _) (mem_sub_L rfl) (mem_sub_F rfl)) (fun r11 s11 => fm_gd (fm_lt (md_upL (mem_L rfl)) (fun s13 => fm_bd (fm_sub (ftok_expect _ _) (mem_sub_L rfl) (mem_sub_F rfl)) (fun r14 s14 => fm_bd (fm_sub (ftok_expect _ _) (mem_sub_L rfl) (mem_sub_F rfl)) (fun r15 s15 => fcrd_readChip_123 _ _ _)))))))))))) (fm_some md_refl))))
/-! crd_read -/
def L_crd_read : List Nat := [73, 74, 75, 76, 77, 78, 80, 81, 82, 83, 84, 85, 86, 88, 89]
def G_crd_read : List (Nat × Nat) := [(2, 12), (2, 13), (2, 14), (71, 13), (71, 14), (72, 2), (79, 2), (87, 2)]
def crd_read_39C (w : ev_W) (d : Nat) : (Int × iS) ⊕ (iS) → am_E → Prop := fun q r => q.elim (fun l => ev w d 236 39 ((fun l => [(0, .ref (tb_nK + 71)), (1, iv (l.1))]) l) [] (hT ((fun l => l.2) l)) r) (fun e => (fun e r => ev w d 236 69 [(0, .ref (tb_nK + 71))] [] (hT (e)) r) e r)
noncomputable def crd_read_39b (v1 : Int) (s : iS) : Option ((Int × iS) ⊕ (iS)) := gd (rg v1) (if 2000 ≤ v1 then some (.inr s) else bd (tok_kind s) (fun r3 s3 => gd (rg r3) (if r3 = 300 then bd (crd_readChip s3) (fun _ s6 => some (.inl ((v1 + 1), s6))) else some (.inr s3))))
theorem tcrd_read_39b (w : ev_W) (d : Nat) (hd : 6 ≤ d) (v1 : Int) (s : iS) : Ew hT w d 236 39 [(0, .ref (tb_nK + 71)), (1, iv v1)] [] s (crd_read_39C w d) (crd_read_39b v1 s) := by
  unfold crd_read_39b
  refine e_mv 40 em_236 (ce_at ce_236 21 rfl) rfl rfl ?_
  refine e_sip 43 em_236 (ce_at ce_236 22 rfl) (by decide) rfl ?_
  refine e_gd fun g1 => ?_
  refine e_cmge 69 46 em_236 rfl rfl (ce_at ce_236 23 rfl) g1 (by decide) (fun h2 => ?_) (fun h2 => ?_)
  · refine e_pk [0] rfl rfl ?_
    exact e_out (fun r h => h)
  · refine e_mv 47 em_236 (ce_at ce_236 24 rfl) rfl rfl ?_
    refine e_getr 50 em_236 (ce_at ce_236 25 rfl) tq_71 rfl rfl ?_
    refine e_ivi 53 em_236 (ce_at ce_236 26 rfl) (by omega) (iv_v0 (by decide) tq_2 rfl) em_69 (Nat.le_of_ble_eq_true rfl) rfl (ttok_kind w (d - 1) (by omega) _) (fun r3 s3 => ?_)
    refine e_sip 56 em_236 (ce_at ce_236 27 rfl) (by decide) rfl ?_
    refine e_gd fun g4 => ?_
    refine e_cmne 69 59 em_236 rfl rfl (ce_at ce_236 28 rfl) g4 (by decide) (fun h5 => ?_) (fun h5 => ?_)
    · refine e_pk [0] rfl rfl ?_
      exact e_out (fun r h => h)
    · refine e_mv 60 em_236 (ce_at ce_236 29 rfl) rfl rfl ?_
      refine e_ivv 63 em_236 (ce_at ce_236 30 rfl) (by omega) (iv_v0 (by decide) tq_71 rfl) em_237 (Nat.le_of_ble_eq_true rfl) rfl (tcrd_readChip w (d - 1) (by omega) _) (fun r6 s6 => ?_)
      refine e_iinc 66 em_236 (ce_at ce_236 31 rfl) rfl (by decide) rfl ?_
      refine e_goto em_236 39 (ce_at ce_236 32 rfl) rfl ?_
      refine e_pk [0, 1] rfl rfl ?_
      exact e_out (fun r h => h)
theorem fcrd_read_39b (v1 : Int) (s : iS) : Fm (fun r : (Int × iS) ⊕ (iS) => r.elim (fun l => l.2) (fun e => e)) L_crd_read G_crd_read s (crd_read_39b v1 s) := fm_gd (fm_if (fm_some md_refl) (fm_bd (fm_sub (ftok_kind _) (mem_sub_L rfl) (mem_sub_F rfl)) (fun r3 s3 => fm_gd (fm_if (fm_bd (fm_sub (fcrd_readChip _) (mem_sub_L rfl) (mem_sub_F rfl)) (fun r6 s6 => fm_some md_refl)) (fm_some md_refl)))))
noncomputable def crd_read_69 (s : iS) : Option (Int × iS) := bd (tok_expect 0 s) (fun _ s1 => some (0, s1))
theorem tcrd_read_69 (w : ev_W) (d : Nat) (hd : 6 ≤ d) (s : iS) : Ew hT w d 236 69 [(0, .ref (tb_nK + 71))] [] s (Cv hT) (crd_read_69 s) := by
  unfold crd_read_69
  refine e_mv 70 em_236 (ce_at ce_236 33 rfl) rfl rfl ?_
  refine e_getr 73 em_236 (ce_at ce_236 34 rfl) tq_71 rfl rfl ?_
  refine e_op 74 em_236 (ce_at ce_236 35 rfl) rfl rfl ?_
  refine e_ivv 77 em_236 (ce_at ce_236 36 rfl) (by omega) (iv_v1 (by decide) tq_2 rfl) em_86 (Nat.le_of_ble_eq_true rfl) rfl (ttok_expect w (d - 1) (by omega) _ _) (fun r1 s1 => ?_)
  exact e_retv em_236 (ce_at ce_236 37 rfl)
theorem fcrd_read_69 (s : iS) : Fm Prod.snd L_crd_read G_crd_read s (crd_read_69 s) := fm_bd (fm_sub (ftok_expect _ _) (mem_sub_L rfl) (mem_sub_F rfl)) (fun r1 s1 => fm_some md_refl)
noncomputable def crd_read_39 (v1 : Int) (s : iS) : Option (Int × iS) := (lp (L := Int × iS) (E := iS) (fun l => crd_read_39b (l.1) (l.2)) (v1, s)).bind (fun e => crd_read_69 e)
theorem tcrd_read_39 (w : ev_W) (d : Nat) (hd : 6 ≤ d) (v1 : Int) (s : iS) : Ew hT w d 236 39 [(0, .ref (tb_nK + 71)), (1, iv v1)] [] s (Cv hT) (crd_read_39 v1 s) := by
  unfold crd_read_39
  refine e_lp (L := Int × iS) (E := iS) (LO := fun l => [(0, .ref (tb_nK + 71)), (1, iv (l.1))]) (LS := fun l => l.2) (CE := fun e r => ev w d 236 69 [(0, .ref (tb_nK + 71))] [] (hT (e)) r) (fun l => tcrd_read_39b w d hd _ _) ?_ (v1, s)
  intro e
  show Ew hT w d 236 69 [(0, .ref (tb_nK + 71))] [] e (Cv hT) _
  refine e_pk [0] rfl rfl ?_
  exact tcrd_read_69 w d hd _
theorem fcrd_read_39 (v1 : Int) (s : iS) : Fm Prod.snd L_crd_read G_crd_read s (crd_read_39 v1 s) := by
  unfold crd_read_39
  refine fm_lp (A := Int × iS) (E := iS) (LS := fun l => l.2) (LE := fun e => e) ?_ ?_ (v1, s)
  · exact fun l => fcrd_read_39b _ _
  · exact (fun e => fcrd_read_69 _)
noncomputable def crd_read (s : iS) : Option (Int × iS) := bd (nam_keep 72 73 74 18 2 s) (fun _ s1 => bd (nam_keep 79 80 81 197 5 s1) (fun _ s2 => lt' (up s2 71 13 0) (fun s3 => lt' (up s3 71 14 0) (fun s4 => bd (tok_rewind s4) (fun _ s5 => bd (crd_readChip s5) (fun _ s6 => crd_read_39 0 s6))))))
theorem tcrd_read (w : ev_W) (d : Nat) (hd : 6 ≤ d) (s : iS) : Ew hT w d 236 0 [(0, .ref (tb_nK + 71))] [] s (Cv hT) (crd_read s) := by
  unfold crd_read
  refine e_mv 1 em_236 (ce_at ce_236 0 rfl) rfl rfl ?_
  refine e_getr 4 em_236 (ce_at ce_236 1 rfl) tq_71 rfl rfl ?_
  refine e_op 5 em_236 (ce_at ce_236 2 rfl) rfl rfl ?_
  refine e_ivv 8 em_236 (ce_at ce_236 3 rfl) (by omega) (iv_v1 (by decide) tq_72 rfl) em_66 (Nat.le_of_ble_eq_true rfl) rfl (tnam_keep hT w (d - 1) (by omega) 72 73 74 18 tq_72 tq_73 tq_74 (by decide) _ _) (fun r1 s1 => ?_)
  refine e_mv 9 em_236 (ce_at ce_236 4 rfl) rfl rfl ?_
  refine e_getr 12 em_236 (ce_at ce_236 5 rfl) tq_71 rfl rfl ?_
  refine e_op 13 em_236 (ce_at ce_236 6 rfl) rfl rfl ?_
  refine e_ivv 16 em_236 (ce_at ce_236 7 rfl) (by omega) (iv_v1 (by decide) tq_79 rfl) em_66 (Nat.le_of_ble_eq_true rfl) rfl (tnam_keep hT w (d - 1) (by omega) 79 80 81 197 tq_79 tq_80 tq_81 (by decide) _ _) (fun r2 s2 => ?_)
  refine e_mv 17 em_236 (ce_at ce_236 8 rfl) rfl rfl ?_
  refine e_op 18 em_236 (ce_at ce_236 9 rfl) rfl rfl ?_
  refine e_put 21 em_236 (ce_at ce_236 10 rfl) tq_71 rfl rfl rfl (fun s3 => ?_)
  refine e_mv 22 em_236 (ce_at ce_236 11 rfl) rfl rfl ?_
  refine e_op 23 em_236 (ce_at ce_236 12 rfl) rfl rfl ?_
  refine e_put 26 em_236 (ce_at ce_236 13 rfl) tq_71 rfl rfl rfl (fun s4 => ?_)
  refine e_mv 27 em_236 (ce_at ce_236 14 rfl) rfl rfl ?_
  refine e_getr 30 em_236 (ce_at ce_236 15 rfl) tq_71 rfl rfl ?_
  refine e_ivv 33 em_236 (ce_at ce_236 16 rfl) (by omega) (iv_v0 (by decide) tq_2 rfl) em_64 (Nat.le_of_ble_eq_true rfl) rfl (ttok_rewind w (d - 1) (by omega) _) (fun r5 s5 => ?_)
  refine e_mv 34 em_236 (ce_at ce_236 17 rfl) rfl rfl ?_
  refine e_ivv 37 em_236 (ce_at ce_236 18 rfl) (by omega) (iv_v0 (by decide) tq_71 rfl) em_237 (Nat.le_of_ble_eq_true rfl) rfl (tcrd_readChip w (d - 1) (by omega) _) (fun r6 s6 => ?_)
  refine e_op 38 em_236 (ce_at ce_236 19 rfl) rfl rfl ?_
  refine e_mv 39 em_236 (ce_at ce_236 20 rfl) rfl rfl ?_
  refine e_pk [0, 1] rfl rfl ?_
  exact tcrd_read_39 w d hd _ _
theorem fcrd_read (s : iS) : Fm Prod.snd L_crd_read G_crd_read s (crd_read s) := fm_bd (fm_sub (fnam_keep 72 73 74 18 _ _) (mem_sub_L rfl) (mem_sub_F rfl)) (fun r1 s1 => fm_bd (fm_sub (fnam_keep 79 80 81 197 _ _) (mem_sub_L rfl) (mem_sub_F rfl)) (fun r2 s2 => fm_lt (md_upF (mem_F rfl)) (fun s3 => fm_lt (md_upF (mem_F rfl)) (fun s4 => fm_bd (fm_sub (ftok_rewind _) (mem_sub_L rfl) (mem_sub_F rfl)) (fun r5 s5 => fm_bd (fm_sub (fcrd_readChip _) (mem_sub_L rfl) (mem_sub_F rfl)) (fun r6 s6 => fcrd_read_39 _ _))))))
/-! brd_countGatesAndBits -/
def L_brd_countGatesAndBits : List Nat := [109, 110]
def G_brd_countGatesAndBits : List (Nat × Nat) := []
def brd_countGatesAndBits_73C (w : ev_W) (d : Nat) (v1 : Int) (v2 : Int) : (Int × Int × Int × iS) ⊕ (Int × Int × iS) → am_E → Prop := fun q r => q.elim (fun l => ev w d 266 73 ((fun l => [(0, .ref (tb_nK + 108)), (1, iv v1), (2, iv v2), (3, iv (l.1)), (4, iv (l.2.1)), (5, iv (l.2.2.1))]) l) [] (hT ((fun l => l.2.2.2) l)) r) (fun e => (fun e r => ev w d 266 133 [(0, .ref (tb_nK + 108)), (1, iv v1), (2, iv v2), (3, iv (e.1)), (4, iv (e.2.1))] [] (hT (e.2.2)) r) e r)
noncomputable def brd_countGatesAndBits_73b (v1 : Int) (v2 : Int) (v3 : Int) (v4 : Int) (v5 : Int) (s : iS) : Option ((Int × Int × Int × iS) ⊕ (Int × Int × iS)) := gd (0 ≤ (v2 + 1) ∧ (v2 + 1) < 19) (gd (rg v5) (gd (rg (s 78 (v2 + 1).toNat)) (if (s 78 (v2 + 1).toNat) ≤ v5 then some (.inr (v3, v4, s)) else gd (0 ≤ v5 ∧ v5 < 384) (gd (0 ≤ (s 94 v5.toNat) ∧ (s 94 v5.toNat) < 18) (some (.inl ((v3 + (s 109 (s 94 v5.toNat).toNat)), (v4 + (s 110 (s 94 v5.toNat).toNat)), (v5 + 1), s)))))))
theorem tbrd_countGatesAndBits_73b (w : ev_W) (d : Nat) (hd : 1 ≤ d) (v1 : Int) (v2 : Int) (v3 : Int) (v4 : Int) (v5 : Int) (s : iS) : Ew hT w d 266 73 [(0, .ref (tb_nK + 108)), (1, iv v1), (2, iv v2), (3, iv v3), (4, iv v4), (5, iv v5)] [] s (brd_countGatesAndBits_73C w d v1 v2) (brd_countGatesAndBits_73b v1 v2 v3 v4 v5 s) := by
  unfold brd_countGatesAndBits_73b
  refine e_mv 75 em_266 (ce_at ce_266 40 rfl) rfl rfl ?_
  refine e_mv 76 em_266 (ce_at ce_266 41 rfl) rfl rfl ?_
  refine e_getr 79 em_266 (ce_at ce_266 42 rfl) tq_108 rfl rfl ?_
  refine e_getr 82 em_266 (ce_at ce_266 43 rfl) tq_71 rfl rfl ?_
  refine e_mv 83 em_266 (ce_at ce_266 44 rfl) rfl rfl ?_
  refine e_op 84 em_266 (ce_at ce_266 45 rfl) rfl rfl ?_
  refine e_iadd 85 em_266 rfl (ce_at ce_266 46 rfl) ?_
  refine e_gd fun g1 => ?_
  refine e_ild 86 em_266 (ce_at ce_266 47 rfl) tq_78 (by decide) g1 rfl ?_
  refine e_gd fun g2 => ?_
  refine e_gd fun g3 => ?_
  refine e_cmge 133 89 em_266 rfl rfl (ce_at ce_266 48 rfl) g2 g3 (fun h4 => ?_) (fun h4 => ?_)
  · refine e_pk [0, 1, 2, 3, 4] rfl rfl ?_
    exact e_out (fun r h => h)
  · refine e_mv 90 em_266 (ce_at ce_266 49 rfl) rfl rfl ?_
    refine e_mv 91 em_266 (ce_at ce_266 50 rfl) rfl rfl ?_
    refine e_getr 94 em_266 (ce_at ce_266 51 rfl) tq_108 rfl rfl ?_
    refine e_mv 95 em_266 (ce_at ce_266 52 rfl) rfl rfl ?_
    refine e_getr 98 em_266 (ce_at ce_266 53 rfl) tq_108 rfl rfl ?_
    refine e_getr 101 em_266 (ce_at ce_266 54 rfl) tq_90 rfl rfl ?_
    refine e_mv 103 em_266 (ce_at ce_266 55 rfl) rfl rfl ?_
    refine e_gd fun g5 => ?_
    refine e_ild 104 em_266 (ce_at ce_266 56 rfl) tq_94 (by decide) g5 rfl ?_
    refine e_gd fun g6 => ?_
    refine e_ild 105 em_266 (ce_at ce_266 57 rfl) tq_109 (by decide) g6 rfl ?_
    refine e_iadd 106 em_266 rfl (ce_at ce_266 58 rfl) ?_
    refine e_mv 107 em_266 (ce_at ce_266 59 rfl) rfl rfl ?_
    refine e_mv 109 em_266 (ce_at ce_266 60 rfl) rfl rfl ?_
    refine e_mv 110 em_266 (ce_at ce_266 61 rfl) rfl rfl ?_
    refine e_getr 113 em_266 (ce_at ce_266 62 rfl) tq_108 rfl rfl ?_
    refine e_mv 114 em_266 (ce_at ce_266 63 rfl) rfl rfl ?_
    refine e_getr 117 em_266 (ce_at ce_266 64 rfl) tq_108 rfl rfl ?_
    refine e_getr 120 em_266 (ce_at ce_266 65 rfl) tq_90 rfl rfl ?_
    refine e_mv 122 em_266 (ce_at ce_266 66 rfl) rfl rfl ?_
    refine e_ild 123 em_266 (ce_at ce_266 67 rfl) tq_94 (by decide) g5 rfl ?_
    refine e_ild 124 em_266 (ce_at ce_266 68 rfl) tq_110 (by decide) g6 rfl ?_
    refine e_iadd 125 em_266 rfl (ce_at ce_266 69 rfl) ?_
    refine e_mv 127 em_266 (ce_at ce_266 70 rfl) rfl rfl ?_
    refine e_iinc 130 em_266 (ce_at ce_266 71 rfl) rfl (by decide) rfl ?_
    refine e_goto em_266 73 (ce_at ce_266 72 rfl) rfl ?_
    refine e_pk [0, 1, 2, 3, 4, 5] rfl rfl ?_
    exact e_out (fun r h => h)
theorem fbrd_countGatesAndBits_73b (v1 : Int) (v2 : Int) (v3 : Int) (v4 : Int) (v5 : Int) (s : iS) : Fm (fun r : (Int × Int × Int × iS) ⊕ (Int × Int × iS) => r.elim (fun l => l.2.2.2) (fun e => e.2.2)) L_brd_countGatesAndBits G_brd_countGatesAndBits s (brd_countGatesAndBits_73b v1 v2 v3 v4 v5 s) := fm_gd (fm_gd (fm_gd (fm_if (fm_some md_refl) (fm_gd (fm_gd (fm_some md_refl))))))
def brd_countGatesAndBits_26C (w : ev_W) (d : Nat) (v1 : Int) : (Int × iS) ⊕ (iS) → am_E → Prop := fun q r => q.elim (fun l => ev w d 266 26 ((fun l => [(0, .ref (tb_nK + 108)), (1, iv v1), (2, iv (l.1))]) l) [] (hT ((fun l => l.2) l)) r) (fun e => (fun e r => ev w d 266 164 [(0, .ref (tb_nK + 108)), (1, iv v1)] [] (hT (e)) r) e r)
noncomputable def brd_countGatesAndBits_133 (v1 : Int) (v2 : Int) (v3 : Int) (v4 : Int) (s : iS) : Option ((Int × iS) ⊕ (iS)) := bd (mth_min v3 1000000 s) (fun r1 s1 => gd (0 ≤ v2 ∧ v2 < 18) (lt' (up s1 109 v2.toNat r1) (fun s3 => bd (mth_min v4 1000000 s3) (fun r4 s4 => lt' (up s4 110 v2.toNat r4) (fun s5 => some (.inl ((v2 + 1), s5)))))))
theorem tbrd_countGatesAndBits_133 (w : ev_W) (d : Nat) (hd : 1 ≤ d) (v1 : Int) (v2 : Int) (v3 : Int) (v4 : Int) (s : iS) : Ew hT w d 266 133 [(0, .ref (tb_nK + 108)), (1, iv v1), (2, iv v2), (3, iv v3), (4, iv v4)] [] s (brd_countGatesAndBits_26C w d v1) (brd_countGatesAndBits_133 v1 v2 v3 v4 s) := by
  unfold brd_countGatesAndBits_133
  refine e_mv 134 em_266 (ce_at ce_266 73 rfl) rfl rfl ?_
  refine e_getr 137 em_266 (ce_at ce_266 74 rfl) tq_108 rfl rfl ?_
  refine e_mv 138 em_266 (ce_at ce_266 75 rfl) rfl rfl ?_
  refine e_mv 139 em_266 (ce_at ce_266 76 rfl) rfl rfl ?_
  refine e_ldc 141 em_266 (ce_at ce_266 77 rfl) (x := 1000000) rfl rfl ?_
  refine e_ivi 144 em_266 (ce_at ce_266 78 rfl) (by omega) (iv_s2 rfl) em_21 (Nat.le_of_ble_eq_true rfl) rfl (tmth_min hT w (d - 1) (by omega) _ _ _) (fun r1 s1 => ?_)
  refine e_gd fun g2 => ?_
  refine e_ist 145 em_266 (ce_at ce_266 79 rfl) tq_109 (by decide) g2 rfl (fun s3 => ?_)
  refine e_mv 146 em_266 (ce_at ce_266 80 rfl) rfl rfl ?_
  refine e_getr 149 em_266 (ce_at ce_266 81 rfl) tq_108 rfl rfl ?_
  refine e_mv 150 em_266 (ce_at ce_266 82 rfl) rfl rfl ?_
  refine e_mv 152 em_266 (ce_at ce_266 83 rfl) rfl rfl ?_
  refine e_ldc 154 em_266 (ce_at ce_266 84 rfl) (x := 1000000) rfl rfl ?_
  refine e_ivi 157 em_266 (ce_at ce_266 85 rfl) (by omega) (iv_s2 rfl) em_21 (Nat.le_of_ble_eq_true rfl) rfl (tmth_min hT w (d - 1) (by omega) _ _ _) (fun r4 s4 => ?_)
  refine e_ist 158 em_266 (ce_at ce_266 86 rfl) tq_110 (by decide) g2 rfl (fun s5 => ?_)
  refine e_iinc 161 em_266 (ce_at ce_266 87 rfl) rfl (by decide) rfl ?_
  refine e_goto em_266 26 (ce_at ce_266 88 rfl) rfl ?_
  refine e_pk [0, 1, 2] rfl rfl ?_
  exact e_out (fun r h => h)
theorem fbrd_countGatesAndBits_133 (v1 : Int) (v2 : Int) (v3 : Int) (v4 : Int) (s : iS) : Fm (fun r : (Int × iS) ⊕ (iS) => r.elim (fun l => l.2) (fun e => e)) L_brd_countGatesAndBits G_brd_countGatesAndBits s (brd_countGatesAndBits_133 v1 v2 v3 v4 s) := fm_bd (fm_sub (fmth_min _ _ _) (mem_sub_L rfl) (mem_sub_F rfl)) (fun r1 s1 => fm_gd (fm_lt (md_upL (mem_L rfl)) (fun s3 => fm_bd (fm_sub (fmth_min _ _ _) (mem_sub_L rfl) (mem_sub_F rfl)) (fun r4 s4 => fm_lt (md_upL (mem_L rfl)) (fun s5 => fm_some md_refl)))))
noncomputable def brd_countGatesAndBits_73 (v1 : Int) (v2 : Int) (v3 : Int) (v4 : Int) (v5 : Int) (s : iS) : Option ((Int × iS) ⊕ (iS)) := (lp (L := Int × Int × Int × iS) (E := Int × Int × iS) (fun l => brd_countGatesAndBits_73b v1 v2 (l.1) (l.2.1) (l.2.2.1) (l.2.2.2)) (v3, v4, v5, s)).bind (fun e => brd_countGatesAndBits_133 v1 v2 (e.1) (e.2.1) (e.2.2))
theorem tbrd_countGatesAndBits_73 (w : ev_W) (d : Nat) (hd : 1 ≤ d) (v1 : Int) (v2 : Int) (v3 : Int) (v4 : Int) (v5 : Int) (s : iS) : Ew hT w d 266 73 [(0, .ref (tb_nK + 108)), (1, iv v1), (2, iv v2), (3, iv v3), (4, iv v4), (5, iv v5)] [] s (brd_countGatesAndBits_26C w d v1) (brd_countGatesAndBits_73 v1 v2 v3 v4 v5 s) := by
  unfold brd_countGatesAndBits_73
  refine e_lp (L := Int × Int × Int × iS) (E := Int × Int × iS) (LO := fun l => [(0, .ref (tb_nK + 108)), (1, iv v1), (2, iv v2), (3, iv (l.1)), (4, iv (l.2.1)), (5, iv (l.2.2.1))]) (LS := fun l => l.2.2.2) (CE := fun e r => ev w d 266 133 [(0, .ref (tb_nK + 108)), (1, iv v1), (2, iv v2), (3, iv (e.1)), (4, iv (e.2.1))] [] (hT (e.2.2)) r) (fun l => tbrd_countGatesAndBits_73b w d hd _ _ _ _ _ _) ?_ (v3, v4, v5, s)
  intro e
  show Ew hT w d 266 133 [(0, .ref (tb_nK + 108)), (1, iv v1), (2, iv v2), (3, iv (e.1)), (4, iv (e.2.1))] [] e.2.2 (brd_countGatesAndBits_26C w d v1) _
  refine e_pk [0, 1, 2, 3, 4] rfl rfl ?_
  exact tbrd_countGatesAndBits_133 w d hd _ _ _ _ _
theorem fbrd_countGatesAndBits_73 (v1 : Int) (v2 : Int) (v3 : Int) (v4 : Int) (v5 : Int) (s : iS) : Fm (fun r : (Int × iS) ⊕ (iS) => r.elim (fun l => l.2) (fun e => e)) L_brd_countGatesAndBits G_brd_countGatesAndBits s (brd_countGatesAndBits_73 v1 v2 v3 v4 v5 s) := by
  unfold brd_countGatesAndBits_73
  refine fm_lp (A := Int × Int × Int × iS) (E := Int × Int × iS) (LS := fun l => l.2.2.2) (LE := fun e => e.2.2) ?_ ?_ (v3, v4, v5, s)
  · exact fun l => fbrd_countGatesAndBits_73b _ _ _ _ _ _
  · exact (fun e => fbrd_countGatesAndBits_133 _ _ _ _ _)
noncomputable def brd_countGatesAndBits_50 (v1 : Int) (v2 : Int) (t0 : Int) (s : iS) : Option ((Int × iS) ⊕ (iS)) := gd (0 ≤ v2 ∧ v2 < 18) (gd (0 ≤ v2 ∧ v2 < 19) (brd_countGatesAndBits_73 v1 v2 t0 (s 93 v2.toNat) (s 78 v2.toNat) s))
theorem tbrd_countGatesAndBits_50 (w : ev_W) (d : Nat) (hd : 1 ≤ d) (v1 : Int) (v2 : Int) (t0 : Int) (s : iS) : Ew hT w d 266 50 [(0, .ref (tb_nK + 108)), (1, iv v1), (2, iv v2)] [iv t0] s (brd_countGatesAndBits_26C w d v1) (brd_countGatesAndBits_50 v1 v2 t0 s) := by
  unfold brd_countGatesAndBits_50
  refine e_mv 51 em_266 (ce_at ce_266 27 rfl) rfl rfl ?_
  refine e_mv 52 em_266 (ce_at ce_266 28 rfl) rfl rfl ?_
  refine e_getr 55 em_266 (ce_at ce_266 29 rfl) tq_108 rfl rfl ?_
  refine e_getr 58 em_266 (ce_at ce_266 30 rfl) tq_90 rfl rfl ?_
  refine e_mv 59 em_266 (ce_at ce_266 31 rfl) rfl rfl ?_
  refine e_gd fun g1 => ?_
  refine e_ild 60 em_266 (ce_at ce_266 32 rfl) tq_93 (by decide) g1 rfl ?_
  refine e_mv 62 em_266 (ce_at ce_266 33 rfl) rfl rfl ?_
  refine e_mv 63 em_266 (ce_at ce_266 34 rfl) rfl rfl ?_
  refine e_getr 66 em_266 (ce_at ce_266 35 rfl) tq_108 rfl rfl ?_
  refine e_getr 69 em_266 (ce_at ce_266 36 rfl) tq_71 rfl rfl ?_
  refine e_mv 70 em_266 (ce_at ce_266 37 rfl) rfl rfl ?_
  refine e_gd fun g2 => ?_
  refine e_ild 71 em_266 (ce_at ce_266 38 rfl) tq_78 (by decide) g2 rfl ?_
  refine e_mv 73 em_266 (ce_at ce_266 39 rfl) rfl rfl ?_
  refine e_pk [0, 1, 2, 3, 4, 5] rfl rfl ?_
  exact tbrd_countGatesAndBits_73 w d hd _ _ _ _ _ _
theorem fbrd_countGatesAndBits_50 (v1 : Int) (v2 : Int) (t0 : Int) (s : iS) : Fm (fun r : (Int × iS) ⊕ (iS) => r.elim (fun l => l.2) (fun e => e)) L_brd_countGatesAndBits G_brd_countGatesAndBits s (brd_countGatesAndBits_50 v1 v2 t0 s) := fm_gd (fm_gd (fbrd_countGatesAndBits_73 _ _ _ _ _ _))
noncomputable def brd_countGatesAndBits_26b (v1 : Int) (v2 : Int) (s : iS) : Option ((Int × iS) ⊕ (iS)) := gd (rg v2) (gd (rg (s 72 2)) (if (s 72 2) ≤ v2 then some (.inr s) else if 2 ≤ v2 then brd_countGatesAndBits_50 v1 v2 0 s else brd_countGatesAndBits_50 v1 v2 1 s))
theorem tbrd_countGatesAndBits_26b (w : ev_W) (d : Nat) (hd : 1 ≤ d) (v1 : Int) (v2 : Int) (s : iS) : Ew hT w d 266 26 [(0, .ref (tb_nK + 108)), (1, iv v1), (2, iv v2)] [] s (brd_countGatesAndBits_26C w d v1) (brd_countGatesAndBits_26b v1 v2 s) := by
  unfold brd_countGatesAndBits_26b
  refine e_mv 27 em_266 (ce_at ce_266 15 rfl) rfl rfl ?_
  refine e_mv 28 em_266 (ce_at ce_266 16 rfl) rfl rfl ?_
  refine e_getr 31 em_266 (ce_at ce_266 17 rfl) tq_108 rfl rfl ?_
  refine e_getr 34 em_266 (ce_at ce_266 18 rfl) tq_71 rfl rfl ?_
  refine e_get 37 em_266 (ce_at ce_266 19 rfl) tq_72 rfl rfl ?_
  refine e_gd fun g1 => ?_
  refine e_gd fun g2 => ?_
  refine e_cmge 164 40 em_266 rfl rfl (ce_at ce_266 20 rfl) g1 g2 (fun h3 => ?_) (fun h3 => ?_)
  · refine e_pk [0, 1] rfl rfl ?_
    exact e_out (fun r h => h)
  · refine e_mv 41 em_266 (ce_at ce_266 21 rfl) rfl rfl ?_
    refine e_op 42 em_266 (ce_at ce_266 22 rfl) rfl rfl ?_
    refine e_cmge 49 45 em_266 rfl rfl (ce_at ce_266 23 rfl) g1 (by decide) (fun h4 => ?_) (fun h4 => ?_)
    · refine e_op 50 em_266 (ce_at ce_266 26 rfl) rfl rfl ?_
      refine e_pk [0, 1, 2] rfl rfl ?_
      exact tbrd_countGatesAndBits_50 w d hd _ _ _ _
    · refine e_op 46 em_266 (ce_at ce_266 24 rfl) rfl rfl ?_
      refine e_goto em_266 50 (ce_at ce_266 25 rfl) rfl ?_
      refine e_pk [0, 1, 2] rfl rfl ?_
      exact tbrd_countGatesAndBits_50 w d hd _ _ _ _
theorem fbrd_countGatesAndBits_26b (v1 : Int) (v2 : Int) (s : iS) : Fm (fun r : (Int × iS) ⊕ (iS) => r.elim (fun l => l.2) (fun e => e)) L_brd_countGatesAndBits G_brd_countGatesAndBits s (brd_countGatesAndBits_26b v1 v2 s) := fm_gd (fm_gd (fm_if (fm_some md_refl) (fm_if (fbrd_countGatesAndBits_50 _ _ _ _) (fbrd_countGatesAndBits_50 _ _ _ _))))
def brd_countGatesAndBits_18C (w : ev_W) (d : Nat) : (Int × iS) ⊕ (iS) → am_E → Prop := fun q r => q.elim (fun l => ev w d 266 18 ((fun l => [(0, .ref (tb_nK + 108)), (1, iv (l.1))]) l) [] (hT ((fun l => l.2) l)) r) (fun e => (fun e r => ev w d 266 170 [] [] (hT (e)) r) e r)
noncomputable def brd_countGatesAndBits_26 (v1 : Int) (v2 : Int) (s : iS) : Option ((Int × iS) ⊕ (iS)) := (lp (L := Int × iS) (E := iS) (fun l => brd_countGatesAndBits_26b v1 (l.1) (l.2)) (v2, s)).bind (fun e => some (.inl ((v1 + 1), e)))
theorem tbrd_countGatesAndBits_26 (w : ev_W) (d : Nat) (hd : 1 ≤ d) (v1 : Int) (v2 : Int) (s : iS) : Ew hT w d 266 26 [(0, .ref (tb_nK + 108)), (1, iv v1), (2, iv v2)] [] s (brd_countGatesAndBits_18C w d) (brd_countGatesAndBits_26 v1 v2 s) := by
  unfold brd_countGatesAndBits_26
  refine e_lp (L := Int × iS) (E := iS) (LO := fun l => [(0, .ref (tb_nK + 108)), (1, iv v1), (2, iv (l.1))]) (LS := fun l => l.2) (CE := fun e r => ev w d 266 164 [(0, .ref (tb_nK + 108)), (1, iv v1)] [] (hT (e)) r) (fun l => tbrd_countGatesAndBits_26b w d hd _ _ _) ?_ (v2, s)
  intro e
  show Ew hT w d 266 164 [(0, .ref (tb_nK + 108)), (1, iv v1)] [] e (brd_countGatesAndBits_18C w d) _
  refine e_iinc 167 em_266 (ce_at ce_266 89 rfl) rfl (by decide) rfl ?_
  refine e_goto em_266 18 (ce_at ce_266 90 rfl) rfl ?_
  refine e_pk [0, 1] rfl rfl ?_
  exact e_out (fun r h => h)
theorem fbrd_countGatesAndBits_26 (v1 : Int) (v2 : Int) (s : iS) : Fm (fun r : (Int × iS) ⊕ (iS) => r.elim (fun l => l.2) (fun e => e)) L_brd_countGatesAndBits G_brd_countGatesAndBits s (brd_countGatesAndBits_26 v1 v2 s) := by
  unfold brd_countGatesAndBits_26
  refine fm_lp (A := Int × iS) (E := iS) (LS := fun l => l.2) (LE := fun e => e) ?_ ?_ (v2, s)
  · exact fun l => fbrd_countGatesAndBits_26b _ _ _
  · exact (fun e => fm_some md_refl)
noncomputable def brd_countGatesAndBits_18b (v1 : Int) (s : iS) : Option ((Int × iS) ⊕ (iS)) := gd (rg v1) (if 16 < v1 then some (.inr s) else brd_countGatesAndBits_26 v1 0 s)
theorem tbrd_countGatesAndBits_18b (w : ev_W) (d : Nat) (hd : 1 ≤ d) (v1 : Int) (s : iS) : Ew hT w d 266 18 [(0, .ref (tb_nK + 108)), (1, iv v1)] [] s (brd_countGatesAndBits_18C w d) (brd_countGatesAndBits_18b v1 s) := by
  unfold brd_countGatesAndBits_18b
  refine e_mv 19 em_266 (ce_at ce_266 10 rfl) rfl rfl ?_
  refine e_bip 21 em_266 (ce_at ce_266 11 rfl) (by decide) rfl ?_
  refine e_gd fun g1 => ?_
  refine e_cmgt 170 24 em_266 rfl rfl (ce_at ce_266 12 rfl) g1 (by decide) (fun h2 => ?_) (fun h2 => ?_)
  · refine e_pk [] rfl rfl ?_
    exact e_out (fun r h => h)
  · refine e_op 25 em_266 (ce_at ce_266 13 rfl) rfl rfl ?_
    refine e_mv 26 em_266 (ce_at ce_266 14 rfl) rfl rfl ?_
    refine e_pk [0, 1, 2] rfl rfl ?_
    exact tbrd_countGatesAndBits_26 w d hd _ _ _
theorem fbrd_countGatesAndBits_18b (v1 : Int) (s : iS) : Fm (fun r : (Int × iS) ⊕ (iS) => r.elim (fun l => l.2) (fun e => e)) L_brd_countGatesAndBits G_brd_countGatesAndBits s (brd_countGatesAndBits_18b v1 s) := fm_gd (fm_if (fm_some md_refl) (fbrd_countGatesAndBits_26 _ _ _))
noncomputable def brd_countGatesAndBits_18 (v1 : Int) (s : iS) : Option (Int × iS) := (lp (L := Int × iS) (E := iS) (fun l => brd_countGatesAndBits_18b (l.1) (l.2)) (v1, s)).bind (fun e => some (0, e))
theorem tbrd_countGatesAndBits_18 (w : ev_W) (d : Nat) (hd : 1 ≤ d) (v1 : Int) (s : iS) : Ew hT w d 266 18 [(0, .ref (tb_nK + 108)), (1, iv v1)] [] s (Cv hT) (brd_countGatesAndBits_18 v1 s) := by
  unfold brd_countGatesAndBits_18
  refine e_lp (L := Int × iS) (E := iS) (LO := fun l => [(0, .ref (tb_nK + 108)), (1, iv (l.1))]) (LS := fun l => l.2) (CE := fun e r => ev w d 266 170 [] [] (hT (e)) r) (fun l => tbrd_countGatesAndBits_18b w d hd _ _) ?_ (v1, s)
  intro e
  show Ew hT w d 266 170 [] [] e (Cv hT) _
  exact e_retv em_266 (ce_at ce_266 91 rfl)
theorem fbrd_countGatesAndBits_18 (v1 : Int) (s : iS) : Fm Prod.snd L_brd_countGatesAndBits G_brd_countGatesAndBits s (brd_countGatesAndBits_18 v1 s) := by
  unfold brd_countGatesAndBits_18
  refine fm_lp (A := Int × iS) (E := iS) (LS := fun l => l.2) (LE := fun e => e) ?_ ?_ (v1, s)
  · exact fun l => fbrd_countGatesAndBits_18b _ _
  · exact (fun e => fm_some md_refl)
noncomputable def brd_countGatesAndBits (s : iS) : Option (Int × iS) := bd (arr_fill 109 18 0 s) (fun _ s1 => bd (arr_fill 110 18 0 s1) (fun _ s2 => brd_countGatesAndBits_18 0 s2))
theorem tbrd_countGatesAndBits (w : ev_W) (d : Nat) (hd : 1 ≤ d) (s : iS) : Ew hT w d 266 0 [(0, .ref (tb_nK + 108))] [] s (Cv hT) (brd_countGatesAndBits s) := by
  unfold brd_countGatesAndBits
  refine e_mv 1 em_266 (ce_at ce_266 0 rfl) rfl rfl ?_
  refine e_getr 4 em_266 (ce_at ce_266 1 rfl) tq_108 rfl rfl ?_
  refine e_op 5 em_266 (ce_at ce_266 2 rfl) rfl rfl ?_
  refine e_ivv 8 em_266 (ce_at ce_266 3 rfl) (by omega) (iv_s2 rfl) em_142 (Nat.le_of_ble_eq_true rfl) rfl (tarr_fill hT w (d - 1) (by omega) 109 18 tq_109 (by decide) _ _) (fun r1 s1 => ?_)
  refine e_mv 9 em_266 (ce_at ce_266 4 rfl) rfl rfl ?_
  refine e_getr 12 em_266 (ce_at ce_266 5 rfl) tq_108 rfl rfl ?_
  refine e_op 13 em_266 (ce_at ce_266 6 rfl) rfl rfl ?_
  refine e_ivv 16 em_266 (ce_at ce_266 7 rfl) (by omega) (iv_s2 rfl) em_142 (Nat.le_of_ble_eq_true rfl) rfl (tarr_fill hT w (d - 1) (by omega) 110 18 tq_110 (by decide) _ _) (fun r2 s2 => ?_)
  refine e_op 17 em_266 (ce_at ce_266 8 rfl) rfl rfl ?_
  refine e_mv 18 em_266 (ce_at ce_266 9 rfl) rfl rfl ?_
  refine e_pk [0, 1] rfl rfl ?_
  exact tbrd_countGatesAndBits_18 w d hd _ _
theorem fbrd_countGatesAndBits (s : iS) : Fm Prod.snd L_brd_countGatesAndBits G_brd_countGatesAndBits s (brd_countGatesAndBits s) := fm_bd (fm_sub (farr_fill 109 18 _ _) (mem_sub_L rfl) (mem_sub_F rfl)) (fun r1 s1 => fm_bd (fm_sub (farr_fill 110 18 _ _) (mem_sub_L rfl) (mem_sub_F rfl)) (fun r2 s2 => fbrd_countGatesAndBits_18 _ _))
