/-! what the methods do, as functions, and that the machine does it; printed by wip/whole/dc.py -/
/-! m_tokenize -/
def L_m_tokenize : List Nat := [124, 125, 126, 127]
def G_m_tokenize : List (Nat × Nat) := [(121, 9), (121, 10)]
def m_tokenize_19C (w : ev_W) (d : Nat) (v1 : Int) (v2 : Int) : (Int × Int × iS) ⊕ (iS) → am_E → Prop := fun q r => q.elim (fun l => ev w d 300 19 ((fun l => [(0, .ref (tb_nK + 121)), (1, iv v1), (2, iv v2), (3, iv (l.1)), (4, iv (l.2.1))]) l) [] (hT ((fun l => l.2.2) l)) r) (fun e => (fun e r => ev w d 300 148 [] [] (hT (e)) r) e r)
noncomputable def m_tokenize_94 (v1 : Int) (v2 : Int) (v3 : Int) (v4 : Int) (t0 : Int) (s : iS) : Option ((Int × Int × iS) ⊕ (iS)) := gd (rg t0) (if 0 ≤ t0 then gd (rg (s 121 9)) (gd (rg v1) (if (s 121 9) ≤ v1 then bd (m_skip t0 s) (fun r6 s6 => some (.inl (r6, v4, s6))) else gd (0 ≤ v1 ∧ v1 < 2002) (lt' (up s 124 v1.toNat 7) (fun s8 => some (.inl (v3, 0, s8)))))) else bd (m_token 6 v3 v3 0 s) (fun _ s9 => some (.inl (v3, 0, s9))))
theorem tm_tokenize_94 (w : ev_W) (d : Nat) (hd : 4 ≤ d) (v1 : Int) (v2 : Int) (v3 : Int) (v4 : Int) (t0 : Int) (s : iS) : Ew hT w d 300 94 [(0, .ref (tb_nK + 121)), (1, iv v1), (2, iv v2), (3, iv v3), (4, iv v4)] [iv t0] s (m_tokenize_19C w d v1 v2) (m_tokenize_94 v1 v2 v3 v4 t0 s) := by
  unfold m_tokenize_94
  refine e_mv 96 em_300 (ce_at ce_300 53 rfl) rfl rfl ?_
  refine e_mv 98 em_300 (ce_at ce_300 54 rfl) rfl rfl ?_
  refine e_gd fun g1 => ?_
  refine e_ifge 116 101 em_300 rfl rfl (ce_at ce_300 55 rfl) g1 (fun h2 => ?_) (fun h2 => ?_)
  · refine e_mv 117 em_300 (ce_at ce_300 65 rfl) rfl rfl ?_
    refine e_get 120 em_300 (ce_at ce_300 66 rfl) tq_121 rfl rfl ?_
    refine e_mv 121 em_300 (ce_at ce_300 67 rfl) rfl rfl ?_
    refine e_gd fun g3 => ?_
    refine e_gd fun g4 => ?_
    refine e_cmle 138 124 em_300 rfl rfl (ce_at ce_300 68 rfl) g3 g4 (fun h5 => ?_) (fun h5 => ?_)
    · refine e_mv 139 em_300 (ce_at ce_300 77 rfl) rfl rfl ?_
      refine e_mv 141 em_300 (ce_at ce_300 78 rfl) rfl rfl ?_
      refine e_ivi 144 em_300 (ce_at ce_300 79 rfl) (by omega) (iv_v1 (by decide) tq_121 rfl) em_301 (Nat.le_of_ble_eq_true rfl) rfl (tm_skip w (d - 1) (by omega) _ _) (fun r6 s6 => ?_)
      refine e_mv 145 em_300 (ce_at ce_300 80 rfl) rfl rfl ?_
      refine e_goto em_300 19 (ce_at ce_300 81 rfl) rfl ?_
      refine e_pk [0, 1, 2, 3, 4] rfl rfl ?_
      exact e_out (fun r h => h)
    · refine e_mv 125 em_300 (ce_at ce_300 69 rfl) rfl rfl ?_
      refine e_getr 128 em_300 (ce_at ce_300 70 rfl) tq_121 rfl rfl ?_
      refine e_mv 129 em_300 (ce_at ce_300 71 rfl) rfl rfl ?_
      refine e_bip 131 em_300 (ce_at ce_300 72 rfl) (by decide) rfl ?_
      refine e_gd fun g7 => ?_
      refine e_ist 132 em_300 (ce_at ce_300 73 rfl) tq_124 (by decide) g7 rfl (fun s8 => ?_)
      refine e_op 133 em_300 (ce_at ce_300 74 rfl) rfl rfl ?_
      refine e_mv 135 em_300 (ce_at ce_300 75 rfl) rfl rfl ?_
      refine e_goto em_300 145 (ce_at ce_300 76 rfl) rfl ?_
      refine e_goto em_300 19 (ce_at ce_300 81 rfl) rfl ?_
      refine e_pk [0, 1, 2, 3, 4] rfl rfl ?_
      exact e_out (fun r h => h)
  · refine e_mv 102 em_300 (ce_at ce_300 56 rfl) rfl rfl ?_
    refine e_bip 104 em_300 (ce_at ce_300 57 rfl) (by decide) rfl ?_
    refine e_mv 105 em_300 (ce_at ce_300 58 rfl) rfl rfl ?_
    refine e_mv 106 em_300 (ce_at ce_300 59 rfl) rfl rfl ?_
    refine e_op 107 em_300 (ce_at ce_300 60 rfl) rfl rfl ?_
    refine e_ivv 110 em_300 (ce_at ce_300 61 rfl) (by omega) (iv_v4 (by decide) tq_121 rfl) em_303 (Nat.le_of_ble_eq_true rfl) rfl (tm_token w (d - 1) (by omega) _ _ _ _ _) (fun r9 s9 => ?_)
    refine e_op 111 em_300 (ce_at ce_300 62 rfl) rfl rfl ?_
    refine e_mv 113 em_300 (ce_at ce_300 63 rfl) rfl rfl ?_
    refine e_goto em_300 145 (ce_at ce_300 64 rfl) rfl ?_
    refine e_goto em_300 19 (ce_at ce_300 81 rfl) rfl ?_
    refine e_pk [0, 1, 2, 3, 4] rfl rfl ?_
    exact e_out (fun r h => h)
theorem fm_tokenize_94 (v1 : Int) (v2 : Int) (v3 : Int) (v4 : Int) (t0 : Int) (s : iS) : Fm (fun r : (Int × Int × iS) ⊕ (iS) => r.elim (fun l => l.2.2) (fun e => e)) L_m_tokenize G_m_tokenize s (m_tokenize_94 v1 v2 v3 v4 t0 s) := fm_gd (fm_if (fm_gd (fm_gd (fm_if (fm_bd (fm_sub (fm_skip _ _) (mem_sub_L rfl) (mem_sub_F rfl)) (fun r6 s6 => fm_some md_refl)) (fm_gd (fm_lt (md_upL (mem_L rfl)) (fun s8 => fm_some md_refl)))))) (fm_bd (fm_sub (fm_token _ _ _ _ _) (mem_sub_L rfl) (mem_sub_F rfl)) (fun r9 s9 => fm_some md_refl)))
noncomputable def m_tokenize_19b (v1 : Int) (v2 : Int) (v3 : Int) (v4 : Int) (s : iS) : Option ((Int × Int × iS) ⊕ (iS)) := gd (rg v4) (if v4 = 0 then some (.inr s) else gd (rg v3) (if 0 ≤ v3 then gd (rg (s 121 3)) (if v3 < (s 121 3) then gd (rg v2) (if v2 = 0 then bd (m_languageToken v3 s) (fun r9 s9 => m_tokenize_94 v1 v2 v3 v4 r9 s9) else bd (m_chipToken v3 s) (fun r10 s10 => m_tokenize_94 v1 v2 v3 v4 r10 s10)) else bd (m_token 0 (s 121 3) (s 121 3) 0 s) (fun _ s11 => some (.inl (v3, 0, s11)))) else bd (m_token 6 ((-2) - v3) ((-2) - v3) 0 s) (fun _ s12 => some (.inl (v3, 0, s12)))))
theorem tm_tokenize_19b (w : ev_W) (d : Nat) (hd : 4 ≤ d) (v1 : Int) (v2 : Int) (v3 : Int) (v4 : Int) (s : iS) : Ew hT w d 300 19 [(0, .ref (tb_nK + 121)), (1, iv v1), (2, iv v2), (3, iv v3), (4, iv v4)] [] s (m_tokenize_19C w d v1 v2) (m_tokenize_19b v1 v2 v3 v4 s) := by
  unfold m_tokenize_19b
  refine e_mv 21 em_300 (ce_at ce_300 12 rfl) rfl rfl ?_
  refine e_gd fun g1 => ?_
  refine e_ifeq 148 24 em_300 rfl rfl (ce_at ce_300 13 rfl) g1 (fun h2 => ?_) (fun h2 => ?_)
  · refine e_pk [] rfl rfl ?_
    exact e_out (fun r h => h)
  · refine e_mv 25 em_300 (ce_at ce_300 14 rfl) rfl rfl ?_
    refine e_gd fun g3 => ?_
    refine e_ifge 49 28 em_300 rfl rfl (ce_at ce_300 15 rfl) g3 (fun h4 => ?_) (fun h4 => ?_)
    · refine e_mv 50 em_300 (ce_at ce_300 29 rfl) rfl rfl ?_
      refine e_mv 51 em_300 (ce_at ce_300 30 rfl) rfl rfl ?_
      refine e_get 54 em_300 (ce_at ce_300 31 rfl) tq_121 rfl rfl ?_
      refine e_gd fun g5 => ?_
      refine e_cmlt 77 57 em_300 rfl rfl (ce_at ce_300 32 rfl) g3 g5 (fun h6 => ?_) (fun h6 => ?_)
      · refine e_mv 78 em_300 (ce_at ce_300 44 rfl) rfl rfl ?_
        refine e_gd fun g7 => ?_
        refine e_ifeq 89 81 em_300 rfl rfl (ce_at ce_300 45 rfl) g7 (fun h8 => ?_) (fun h8 => ?_)
        · refine e_mv 90 em_300 (ce_at ce_300 50 rfl) rfl rfl ?_
          refine e_mv 91 em_300 (ce_at ce_300 51 rfl) rfl rfl ?_
          refine e_ivi 94 em_300 (ce_at ce_300 52 rfl) (by omega) (iv_v1 (by decide) tq_121 rfl) em_311 (Nat.le_of_ble_eq_true rfl) rfl (tm_languageToken w (d - 1) (by omega) _ _) (fun r9 s9 => ?_)
          refine e_pk [0, 1, 2, 3, 4] rfl rfl ?_
          exact tm_tokenize_94 w d hd _ _ _ _ _ _
        · refine e_mv 82 em_300 (ce_at ce_300 46 rfl) rfl rfl ?_
          refine e_mv 83 em_300 (ce_at ce_300 47 rfl) rfl rfl ?_
          refine e_ivi 86 em_300 (ce_at ce_300 48 rfl) (by omega) (iv_v1 (by decide) tq_121 rfl) em_304 (Nat.le_of_ble_eq_true rfl) rfl (tm_chipToken w (d - 1) (by omega) _ _) (fun r10 s10 => ?_)
          refine e_goto em_300 94 (ce_at ce_300 49 rfl) rfl ?_
          refine e_pk [0, 1, 2, 3, 4] rfl rfl ?_
          exact tm_tokenize_94 w d hd _ _ _ _ _ _
      · refine e_mv 58 em_300 (ce_at ce_300 33 rfl) rfl rfl ?_
        refine e_op 59 em_300 (ce_at ce_300 34 rfl) rfl rfl ?_
        refine e_mv 60 em_300 (ce_at ce_300 35 rfl) rfl rfl ?_
        refine e_get 63 em_300 (ce_at ce_300 36 rfl) tq_121 rfl rfl ?_
        refine e_mv 64 em_300 (ce_at ce_300 37 rfl) rfl rfl ?_
        refine e_get 67 em_300 (ce_at ce_300 38 rfl) tq_121 rfl rfl ?_
        refine e_op 68 em_300 (ce_at ce_300 39 rfl) rfl rfl ?_
        refine e_ivv 71 em_300 (ce_at ce_300 40 rfl) (by omega) (iv_v4 (by decide) tq_121 rfl) em_303 (Nat.le_of_ble_eq_true rfl) rfl (tm_token w (d - 1) (by omega) _ _ _ _ _) (fun r11 s11 => ?_)
        refine e_op 72 em_300 (ce_at ce_300 41 rfl) rfl rfl ?_
        refine e_mv 74 em_300 (ce_at ce_300 42 rfl) rfl rfl ?_
        refine e_goto em_300 19 (ce_at ce_300 43 rfl) rfl ?_
        refine e_pk [0, 1, 2, 3, 4] rfl rfl ?_
        exact e_out (fun r h => h)
    · refine e_mv 29 em_300 (ce_at ce_300 16 rfl) rfl rfl ?_
      refine e_bip 31 em_300 (ce_at ce_300 17 rfl) (by decide) rfl ?_
      refine e_bip 33 em_300 (ce_at ce_300 18 rfl) (by decide) rfl ?_
      refine e_mv 34 em_300 (ce_at ce_300 19 rfl) rfl rfl ?_
      refine e_isub 35 em_300 rfl (ce_at ce_300 20 rfl) ?_
      refine e_bip 37 em_300 (ce_at ce_300 21 rfl) (by decide) rfl ?_
      refine e_mv 38 em_300 (ce_at ce_300 22 rfl) rfl rfl ?_
      refine e_isub 39 em_300 rfl (ce_at ce_300 23 rfl) ?_
      refine e_op 40 em_300 (ce_at ce_300 24 rfl) rfl rfl ?_
      refine e_ivv 43 em_300 (ce_at ce_300 25 rfl) (by omega) (iv_v4 (by decide) tq_121 rfl) em_303 (Nat.le_of_ble_eq_true rfl) rfl (tm_token w (d - 1) (by omega) _ _ _ _ _) (fun r12 s12 => ?_)
      refine e_op 44 em_300 (ce_at ce_300 26 rfl) rfl rfl ?_
      refine e_mv 46 em_300 (ce_at ce_300 27 rfl) rfl rfl ?_
      refine e_goto em_300 19 (ce_at ce_300 28 rfl) rfl ?_
      refine e_pk [0, 1, 2, 3, 4] rfl rfl ?_
      exact e_out (fun r h => h)
theorem fm_tokenize_19b (v1 : Int) (v2 : Int) (v3 : Int) (v4 : Int) (s : iS) : Fm (fun r : (Int × Int × iS) ⊕ (iS) => r.elim (fun l => l.2.2) (fun e => e)) L_m_tokenize G_m_tokenize s (m_tokenize_19b v1 v2 v3 v4 s) := fm_gd (fm_if (fm_some md_refl) (fm_gd (fm_if (fm_gd (fm_if (fm_gd (fm_if (fm_bd (fm_sub (fm_languageToken _ _) (mem_sub_L rfl) (mem_sub_F rfl)) (fun r9 s9 => fm_tokenize_94 _ _ _ _ _ _)) (fm_bd (fm_sub (fm_chipToken _ _) (mem_sub_L rfl) (mem_sub_F rfl)) (fun r10 s10 => fm_tokenize_94 _ _ _ _ _ _)))) (fm_bd (fm_sub (fm_token _ _ _ _ _) (mem_sub_L rfl) (mem_sub_F rfl)) (fun r11 s11 => fm_some md_refl)))) (fm_bd (fm_sub (fm_token _ _ _ _ _) (mem_sub_L rfl) (mem_sub_F rfl)) (fun r12 s12 => fm_some md_refl)))))
noncomputable def m_tokenize_19 (v1 : Int) (v2 : Int) (v3 : Int) (v4 : Int) (s : iS) : Option (Int × iS) := (lp (L := Int × Int × iS) (E := iS) (fun l => m_tokenize_19b v1 v2 (l.1) (l.2.1) (l.2.2)) (v3, v4, s)).bind (fun e => some (0, e))
theorem tm_tokenize_19 (w : ev_W) (d : Nat) (hd : 4 ≤ d) (v1 : Int) (v2 : Int) (v3 : Int) (v4 : Int) (s : iS) : Ew hT w d 300 19 [(0, .ref (tb_nK + 121)), (1, iv v1), (2, iv v2), (3, iv v3), (4, iv v4)] [] s (Cv hT) (m_tokenize_19 v1 v2 v3 v4 s) := by
  unfold m_tokenize_19
  refine e_lp (L := Int × Int × iS) (E := iS) (LO := fun l => [(0, .ref (tb_nK + 121)), (1, iv v1), (2, iv v2), (3, iv (l.1)), (4, iv (l.2.1))]) (LS := fun l => l.2.2) (CE := fun e r => ev w d 300 148 [] [] (hT (e)) r) (fun l => tm_tokenize_19b w d hd _ _ _ _ _) ?_ (v3, v4, s)
  intro e
  show Ew hT w d 300 148 [] [] e (Cv hT) _
  exact e_retv em_300 (ce_at ce_300 82 rfl)
theorem fm_tokenize_19 (v1 : Int) (v2 : Int) (v3 : Int) (v4 : Int) (s : iS) : Fm Prod.snd L_m_tokenize G_m_tokenize s (m_tokenize_19 v1 v2 v3 v4 s) := by
  unfold m_tokenize_19
  refine fm_lp (A := Int × Int × iS) (E := iS) (LS := fun l => l.2.2) (LE := fun e => e) ?_ ?_ (v3, v4, s)
  · exact fun l => fm_tokenize_19b _ _ _ _ _
  · exact (fun e => fm_some md_refl)
noncomputable def m_tokenize (v1 : Int) (v2 : Int) (s : iS) : Option (Int × iS) := lt' (up s 121 9 0) (fun s1 => lt' (up s1 121 10 0) (fun s2 => bd (m_skip 0 s2) (fun r3 s3 => m_tokenize_19 v1 v2 r3 1 s3)))
theorem tm_tokenize (w : ev_W) (d : Nat) (hd : 4 ≤ d) (v1 : Int) (v2 : Int) (s : iS) : Ew hT w d 300 0 [(0, .ref (tb_nK + 121)), (1, iv v1), (2, iv v2)] [] s (Cv hT) (m_tokenize v1 v2 s) := by
  unfold m_tokenize
  refine e_mv 1 em_300 (ce_at ce_300 0 rfl) rfl rfl ?_
  refine e_op 2 em_300 (ce_at ce_300 1 rfl) rfl rfl ?_
  refine e_put 5 em_300 (ce_at ce_300 2 rfl) tq_121 rfl rfl rfl (fun s1 => ?_)
  refine e_mv 6 em_300 (ce_at ce_300 3 rfl) rfl rfl ?_
  refine e_op 7 em_300 (ce_at ce_300 4 rfl) rfl rfl ?_
  refine e_put 10 em_300 (ce_at ce_300 5 rfl) tq_121 rfl rfl rfl (fun s2 => ?_)
  refine e_mv 11 em_300 (ce_at ce_300 6 rfl) rfl rfl ?_
  refine e_op 12 em_300 (ce_at ce_300 7 rfl) rfl rfl ?_
  refine e_ivi 15 em_300 (ce_at ce_300 8 rfl) (by omega) (iv_v1 (by decide) tq_121 rfl) em_301 (Nat.le_of_ble_eq_true rfl) rfl (tm_skip w (d - 1) (by omega) _ _) (fun r3 s3 => ?_)
  refine e_mv 16 em_300 (ce_at ce_300 9 rfl) rfl rfl ?_
  refine e_op 17 em_300 (ce_at ce_300 10 rfl) rfl rfl ?_
  refine e_mv 19 em_300 (ce_at ce_300 11 rfl) rfl rfl ?_
  refine e_pk [0, 1, 2, 3, 4] rfl rfl ?_
  exact tm_tokenize_19 w d hd _ _ _ _ _
theorem fm_tokenize (v1 : Int) (v2 : Int) (s : iS) : Fm Prod.snd L_m_tokenize G_m_tokenize s (m_tokenize v1 v2 s) := fm_lt (md_upF (mem_F rfl)) (fun s1 => fm_lt (md_upF (mem_F rfl)) (fun s2 => fm_bd (fm_sub (fm_skip _ _) (mem_sub_L rfl) (mem_sub_F rfl)) (fun r3 s3 => fm_tokenize_19 _ _ _ _ _)))
/-! m_isWord -/
def L_m_isWord : List Nat := []
def G_m_isWord : List (Nat × Nat) := []
noncomputable def m_isWord (v1 : Int) (s : iS) : Option (Int × iS) := gd (0 ≤ (s 121 10) ∧ (s 121 10) < 2002) (gd (rg (s 124 (s 121 10).toNat)) (if (s 124 (s 121 10).toNat) = 5 then gd (rg (s 127 (s 121 10).toNat)) (gd (rg v1) (if (s 127 (s 121 10).toNat) = v1 then some (1, s) else some (0, s))) else some (0, s)))
theorem tm_isWord (w : ev_W) (d : Nat) (hd : 0 ≤ d) (v1 : Int) (s : iS) : Ew hT w d 314 0 [(0, .ref (tb_nK + 121)), (1, iv v1)] [] s (Ci hT) (m_isWord v1 s) := by
  unfold m_isWord
  refine e_mv 1 em_314 (ce_at ce_314 0 rfl) rfl rfl ?_
  refine e_getr 4 em_314 (ce_at ce_314 1 rfl) tq_121 rfl rfl ?_
  refine e_mv 5 em_314 (ce_at ce_314 2 rfl) rfl rfl ?_
  refine e_get 8 em_314 (ce_at ce_314 3 rfl) tq_121 rfl rfl ?_
  refine e_gd fun g1 => ?_
  refine e_ild 9 em_314 (ce_at ce_314 4 rfl) tq_124 (by decide) g1 rfl ?_
  refine e_op 10 em_314 (ce_at ce_314 5 rfl) rfl rfl ?_
  refine e_gd fun g2 => ?_
  refine e_cmne 30 13 em_314 rfl rfl (ce_at ce_314 6 rfl) g2 (by decide) (fun h3 => ?_) (fun h3 => ?_)
  · refine e_op 31 em_314 (ce_at ce_314 16 rfl) rfl rfl ?_
    exact e_retz em_314 (ce_at ce_314 17 rfl) (by decide)
  · refine e_mv 14 em_314 (ce_at ce_314 7 rfl) rfl rfl ?_
    refine e_getr 17 em_314 (ce_at ce_314 8 rfl) tq_121 rfl rfl ?_
    refine e_mv 18 em_314 (ce_at ce_314 9 rfl) rfl rfl ?_
    refine e_get 21 em_314 (ce_at ce_314 10 rfl) tq_121 rfl rfl ?_
    refine e_ild 22 em_314 (ce_at ce_314 11 rfl) tq_127 (by decide) g1 rfl ?_
    refine e_mv 23 em_314 (ce_at ce_314 12 rfl) rfl rfl ?_
    refine e_gd fun g4 => ?_
    refine e_gd fun g5 => ?_
    refine e_cmne 30 26 em_314 rfl rfl (ce_at ce_314 13 rfl) g4 g5 (fun h6 => ?_) (fun h6 => ?_)
    · refine e_op 31 em_314 (ce_at ce_314 16 rfl) rfl rfl ?_
      exact e_retz em_314 (ce_at ce_314 17 rfl) (by decide)
    · refine e_op 27 em_314 (ce_at ce_314 14 rfl) rfl rfl ?_
      refine e_goto em_314 31 (ce_at ce_314 15 rfl) rfl ?_
      exact e_retz em_314 (ce_at ce_314 17 rfl) (by decide)
theorem fm_isWord (v1 : Int) (s : iS) : Fm Prod.snd L_m_isWord G_m_isWord s (m_isWord v1 s) := fm_gd (fm_gd (fm_if (fm_gd (fm_gd (fm_if (fm_some md_refl) (fm_some md_refl)))) (fm_some md_refl)))
/-! m_wrong -/
def L_m_wrong : List Nat := []
def G_m_wrong : List (Nat × Nat) := [(121, 11), (121, 12)]
noncomputable def m_wrong (v1 : Int) (v2 : Int) (s : iS) : Option (Int × iS) := gd (rg (s 121 11)) (if (s 121 11) ≤ 0 then lt' (up s 121 11 v1) (fun s3 => gd (0 ≤ v2 ∧ v2 < 2002) (lt' (up s3 121 12 (s3 125 v2.toNat)) (fun s5 => some (0, s5)))) else some (0, s))
theorem tm_wrong (w : ev_W) (d : Nat) (hd : 0 ≤ d) (v1 : Int) (v2 : Int) (s : iS) : Ew hT w d 317 0 [(0, .ref (tb_nK + 121)), (1, iv v1), (2, iv v2)] [] s (Cv hT) (m_wrong v1 v2 s) := by
  unfold m_wrong
  refine e_mv 1 em_317 (ce_at ce_317 0 rfl) rfl rfl ?_
  refine e_get 4 em_317 (ce_at ce_317 1 rfl) tq_121 rfl rfl ?_
  refine e_gd fun g1 => ?_
  refine e_ifle 8 7 em_317 rfl rfl (ce_at ce_317 2 rfl) g1 (fun h2 => ?_) (fun h2 => ?_)
  · refine e_mv 9 em_317 (ce_at ce_317 4 rfl) rfl rfl ?_
    refine e_mv 10 em_317 (ce_at ce_317 5 rfl) rfl rfl ?_
    refine e_put 13 em_317 (ce_at ce_317 6 rfl) tq_121 rfl rfl rfl (fun s3 => ?_)
    refine e_mv 14 em_317 (ce_at ce_317 7 rfl) rfl rfl ?_
    refine e_mv 15 em_317 (ce_at ce_317 8 rfl) rfl rfl ?_
    refine e_getr 18 em_317 (ce_at ce_317 9 rfl) tq_121 rfl rfl ?_
    refine e_mv 19 em_317 (ce_at ce_317 10 rfl) rfl rfl ?_
    refine e_gd fun g4 => ?_
    refine e_ild 20 em_317 (ce_at ce_317 11 rfl) tq_125 (by decide) g4 rfl ?_
    refine e_put 23 em_317 (ce_at ce_317 12 rfl) tq_121 rfl rfl rfl (fun s5 => ?_)
    exact e_retv em_317 (ce_at ce_317 13 rfl)
  · exact e_retv em_317 (ce_at ce_317 3 rfl)
theorem fm_wrong (v1 : Int) (v2 : Int) (s : iS) : Fm Prod.snd L_m_wrong G_m_wrong s (m_wrong v1 v2 s) := fm_gd (fm_if (fm_lt (md_upF (mem_F rfl)) (fun s3 => fm_gd (fm_lt (md_upF (mem_F rfl)) (fun s5 => fm_some md_refl)))) (fm_some md_refl))
/-! m_syntax -/
def L_m_syntax : List Nat := []
def G_m_syntax : List (Nat × Nat) := [(121, 11), (121, 12)]
noncomputable def m_syntax_20 (t0 : Int) (s : iS) : Option (Int × iS) := bd (m_wrong t0 (s 121 10) s) (fun _ s1 => some (0, s1))
theorem tm_syntax_20 (w : ev_W) (d : Nat) (hd : 1 ≤ d) (t0 : Int) (s : iS) : Ew hT w d 316 20 [(0, .ref (tb_nK + 121))] [iv t0, .ref (tb_nK + 121)] s (Cv hT) (m_syntax_20 t0 s) := by
  unfold m_syntax_20
  refine e_mv 21 em_316 (ce_at ce_316 11 rfl) rfl rfl ?_
  refine e_get 24 em_316 (ce_at ce_316 12 rfl) tq_121 rfl rfl ?_
  refine e_ivv 27 em_316 (ce_at ce_316 13 rfl) (by omega) (iv_v2 (by decide) tq_121 rfl) em_317 (Nat.le_of_ble_eq_true rfl) rfl (tm_wrong w (d - 1) (by omega) _ _ _) (fun r1 s1 => ?_)
  exact e_retv em_316 (ce_at ce_316 14 rfl)
theorem fm_syntax_20 (t0 : Int) (s : iS) : Fm Prod.snd L_m_syntax G_m_syntax s (m_syntax_20 t0 s) := fm_bd (fm_sub (fm_wrong _ _ _) (mem_sub_L rfl) (mem_sub_F rfl)) (fun r1 s1 => fm_some md_refl)
noncomputable def m_syntax (s : iS) : Option (Int × iS) := gd (0 ≤ (s 121 10) ∧ (s 121 10) < 2002) (gd (rg (s 124 (s 121 10).toNat)) (if (s 124 (s 121 10).toNat) = 7 then m_syntax_20 2 s else m_syntax_20 1 s))
theorem tm_syntax (w : ev_W) (d : Nat) (hd : 1 ≤ d) (s : iS) : Ew hT w d 316 0 [(0, .ref (tb_nK + 121))] [] s (Cv hT) (m_syntax s) := by
  unfold m_syntax
  refine e_mv 1 em_316 (ce_at ce_316 0 rfl) rfl rfl ?_
  refine e_mv 2 em_316 (ce_at ce_316 1 rfl) rfl rfl ?_
  refine e_getr 5 em_316 (ce_at ce_316 2 rfl) tq_121 rfl rfl ?_
  refine e_mv 6 em_316 (ce_at ce_316 3 rfl) rfl rfl ?_
  refine e_get 9 em_316 (ce_at ce_316 4 rfl) tq_121 rfl rfl ?_
  refine e_gd fun g1 => ?_
  refine e_ild 10 em_316 (ce_at ce_316 5 rfl) tq_124 (by decide) g1 rfl ?_
  refine e_bip 12 em_316 (ce_at ce_316 6 rfl) (by decide) rfl ?_
  refine e_gd fun g2 => ?_
  refine e_cmne 19 15 em_316 rfl rfl (ce_at ce_316 7 rfl) g2 (by decide) (fun h3 => ?_) (fun h3 => ?_)
  · refine e_op 20 em_316 (ce_at ce_316 10 rfl) rfl rfl ?_
    refine e_pk [0] rfl rfl ?_
    exact tm_syntax_20 w d hd _ _
  · refine e_op 16 em_316 (ce_at ce_316 8 rfl) rfl rfl ?_
    refine e_goto em_316 20 (ce_at ce_316 9 rfl) rfl ?_
    refine e_pk [0] rfl rfl ?_
    exact tm_syntax_20 w d hd _ _
theorem fm_syntax (s : iS) : Fm Prod.snd L_m_syntax G_m_syntax s (m_syntax s) := fm_gd (fm_gd (fm_if (fm_syntax_20 _ _) (fm_syntax_20 _ _)))
/-! m_go -/
def L_m_go : List Nat := []
def G_m_go : List (Nat × Nat) := [(121, 10)]
noncomputable def m_go_21 (t0 : Int) (s : iS) : Option (Int × iS) := lt' (up s 121 10 t0) (fun s1 => some (0, s1))
theorem tm_go_21 (w : ev_W) (d : Nat) (hd : 0 ≤ d) (t0 : Int) (s : iS) : Ew hT w d 315 21 [] [iv t0, .ref (tb_nK + 121)] s (Cv hT) (m_go_21 t0 s) := by
  unfold m_go_21
  refine e_put 24 em_315 (ce_at ce_315 11 rfl) tq_121 rfl rfl rfl (fun s1 => ?_)
  exact e_retv em_315 (ce_at ce_315 12 rfl)
theorem fm_go_21 (t0 : Int) (s : iS) : Fm Prod.snd L_m_go G_m_go s (m_go_21 t0 s) := fm_lt (md_upF (mem_F rfl)) (fun s1 => fm_some md_refl)
noncomputable def m_go (s : iS) : Option (Int × iS) := gd (rg (s 121 11)) (if (s 121 11) = 0 then m_go_21 ((s 121 10) + 1) s else m_go_21 (s 121 10) s)
theorem tm_go (w : ev_W) (d : Nat) (hd : 0 ≤ d) (s : iS) : Ew hT w d 315 0 [(0, .ref (tb_nK + 121))] [] s (Cv hT) (m_go s) := by
  unfold m_go
  refine e_mv 1 em_315 (ce_at ce_315 0 rfl) rfl rfl ?_
  refine e_mv 2 em_315 (ce_at ce_315 1 rfl) rfl rfl ?_
  refine e_get 5 em_315 (ce_at ce_315 2 rfl) tq_121 rfl rfl ?_
  refine e_gd fun g1 => ?_
  refine e_ifne 17 8 em_315 rfl rfl (ce_at ce_315 3 rfl) g1 (fun h2 => ?_) (fun h2 => ?_)
  · refine e_mv 18 em_315 (ce_at ce_315 9 rfl) rfl rfl ?_
    refine e_get 21 em_315 (ce_at ce_315 10 rfl) tq_121 rfl rfl ?_
    refine e_pk [] rfl rfl ?_
    exact tm_go_21 w d hd _ _
  · refine e_mv 9 em_315 (ce_at ce_315 4 rfl) rfl rfl ?_
    refine e_get 12 em_315 (ce_at ce_315 5 rfl) tq_121 rfl rfl ?_
    refine e_op 13 em_315 (ce_at ce_315 6 rfl) rfl rfl ?_
    refine e_iadd 14 em_315 rfl (ce_at ce_315 7 rfl) ?_
    refine e_goto em_315 21 (ce_at ce_315 8 rfl) rfl ?_
    refine e_pk [] rfl rfl ?_
    exact tm_go_21 w d hd _ _
theorem fm_go (s : iS) : Fm Prod.snd L_m_go G_m_go s (m_go s) := fm_gd (fm_if (fm_go_21 _ _) (fm_go_21 _ _))
/-! m_needWord -/
def L_m_needWord : List Nat := []
def G_m_needWord : List (Nat × Nat) := [(121, 10), (121, 11), (121, 12)]
noncomputable def m_needWord (v1 : Int) (s : iS) : Option (Int × iS) := bd (m_isWord v1 s) (fun r1 s1 => gd (rg r1) (if r1 = 0 then bd (m_syntax s1) (fun _ s4 => some (0, s4)) else bd (m_go s1) (fun _ s5 => some (0, s5))))
theorem tm_needWord (w : ev_W) (d : Nat) (hd : 2 ≤ d) (v1 : Int) (s : iS) : Ew hT w d 313 0 [(0, .ref (tb_nK + 121)), (1, iv v1)] [] s (Cv hT) (m_needWord v1 s) := by
  unfold m_needWord
  refine e_mv 1 em_313 (ce_at ce_313 0 rfl) rfl rfl ?_
  refine e_mv 2 em_313 (ce_at ce_313 1 rfl) rfl rfl ?_
  refine e_ivi 5 em_313 (ce_at ce_313 2 rfl) (by omega) (iv_v1 (by decide) tq_121 rfl) em_314 (Nat.le_of_ble_eq_true rfl) rfl (tm_isWord w (d - 1) (by omega) _ _) (fun r1 s1 => ?_)
  refine e_gd fun g2 => ?_
  refine e_ifeq 15 8 em_313 rfl rfl (ce_at ce_313 3 rfl) g2 (fun h3 => ?_) (fun h3 => ?_)
  · refine e_mv 16 em_313 (ce_at ce_313 7 rfl) rfl rfl ?_
    refine e_ivv 19 em_313 (ce_at ce_313 8 rfl) (by omega) (iv_v0 (by decide) tq_121 rfl) em_316 (Nat.le_of_ble_eq_true rfl) rfl (tm_syntax w (d - 1) (by omega) _) (fun r4 s4 => ?_)
    exact e_retv em_313 (ce_at ce_313 9 rfl)
  · refine e_mv 9 em_313 (ce_at ce_313 4 rfl) rfl rfl ?_
    refine e_ivv 12 em_313 (ce_at ce_313 5 rfl) (by omega) (iv_v0 (by decide) tq_121 rfl) em_315 (Nat.le_of_ble_eq_true rfl) rfl (tm_go w (d - 1) (by omega) _) (fun r5 s5 => ?_)
    refine e_goto em_313 19 (ce_at ce_313 6 rfl) rfl ?_
    exact e_retv em_313 (ce_at ce_313 9 rfl)
theorem fm_needWord (v1 : Int) (s : iS) : Fm Prod.snd L_m_needWord G_m_needWord s (m_needWord v1 s) := fm_bd (fm_sub (fm_isWord _ _) (mem_sub_L rfl) (mem_sub_F rfl)) (fun r1 s1 => fm_gd (fm_if (fm_bd (fm_sub (fm_syntax _) (mem_sub_L rfl) (mem_sub_F rfl)) (fun r4 s4 => fm_some md_refl)) (fm_bd (fm_sub (fm_go _) (mem_sub_L rfl) (mem_sub_F rfl)) (fun r5 s5 => fm_some md_refl))))
/-! m_isSign -/
def L_m_isSign : List Nat := []
def G_m_isSign : List (Nat × Nat) := []
noncomputable def m_isSign (v1 : Int) (s : iS) : Option (Int × iS) := gd (0 ≤ (s 121 10) ∧ (s 121 10) < 2002) (gd (rg (s 124 (s 121 10).toNat)) (if (s 124 (s 121 10).toNat) = 4 then gd (rg (s 127 (s 121 10).toNat)) (gd (rg v1) (if (s 127 (s 121 10).toNat) = v1 then some (1, s) else some (0, s))) else some (0, s)))
theorem tm_isSign (w : ev_W) (d : Nat) (hd : 0 ≤ d) (v1 : Int) (s : iS) : Ew hT w d 320 0 [(0, .ref (tb_nK + 121)), (1, iv v1)] [] s (Ci hT) (m_isSign v1 s) := by
  unfold m_isSign
  refine e_mv 1 em_320 (ce_at ce_320 0 rfl) rfl rfl ?_
  refine e_getr 4 em_320 (ce_at ce_320 1 rfl) tq_121 rfl rfl ?_
  refine e_mv 5 em_320 (ce_at ce_320 2 rfl) rfl rfl ?_
  refine e_get 8 em_320 (ce_at ce_320 3 rfl) tq_121 rfl rfl ?_
  refine e_gd fun g1 => ?_
  refine e_ild 9 em_320 (ce_at ce_320 4 rfl) tq_124 (by decide) g1 rfl ?_
  refine e_op 10 em_320 (ce_at ce_320 5 rfl) rfl rfl ?_
  refine e_gd fun g2 => ?_
  refine e_cmne 30 13 em_320 rfl rfl (ce_at ce_320 6 rfl) g2 (by decide) (fun h3 => ?_) (fun h3 => ?_)
  · refine e_op 31 em_320 (ce_at ce_320 16 rfl) rfl rfl ?_
    exact e_retz em_320 (ce_at ce_320 17 rfl) (by decide)
  · refine e_mv 14 em_320 (ce_at ce_320 7 rfl) rfl rfl ?_
    refine e_getr 17 em_320 (ce_at ce_320 8 rfl) tq_121 rfl rfl ?_
    refine e_mv 18 em_320 (ce_at ce_320 9 rfl) rfl rfl ?_
    refine e_get 21 em_320 (ce_at ce_320 10 rfl) tq_121 rfl rfl ?_
    refine e_ild 22 em_320 (ce_at ce_320 11 rfl) tq_127 (by decide) g1 rfl ?_
    refine e_mv 23 em_320 (ce_at ce_320 12 rfl) rfl rfl ?_
    refine e_gd fun g4 => ?_
    refine e_gd fun g5 => ?_
    refine e_cmne 30 26 em_320 rfl rfl (ce_at ce_320 13 rfl) g4 g5 (fun h6 => ?_) (fun h6 => ?_)
    · refine e_op 31 em_320 (ce_at ce_320 16 rfl) rfl rfl ?_
      exact e_retz em_320 (ce_at ce_320 17 rfl) (by decide)
    · refine e_op 27 em_320 (ce_at ce_320 14 rfl) rfl rfl ?_
      refine e_goto em_320 31 (ce_at ce_320 15 rfl) rfl ?_
      exact e_retz em_320 (ce_at ce_320 17 rfl) (by decide)
theorem fm_isSign (v1 : Int) (s : iS) : Fm Prod.snd L_m_isSign G_m_isSign s (m_isSign v1 s) := fm_gd (fm_gd (fm_if (fm_gd (fm_gd (fm_if (fm_some md_refl) (fm_some md_refl)))) (fm_some md_refl)))
/-! m_open -/
def L_m_open : List Nat := []
def G_m_open : List (Nat × Nat) := [(121, 11), (121, 12), (121, 48)]
noncomputable def m_open (s : iS) : Option (Int × iS) := lt' (up s 121 48 ((s 121 48) + 1)) (fun s1 => gd (rg (s1 121 48)) (if (s1 121 48) ≤ 25 then some (0, s1) else bd (m_wrong 2 (s1 121 10) s1) (fun _ s4 => some (0, s4))))
theorem tm_open (w : ev_W) (d : Nat) (hd : 1 ≤ d) (s : iS) : Ew hT w d 321 0 [(0, .ref (tb_nK + 121))] [] s (Cv hT) (m_open s) := by
  unfold m_open
  refine e_mv 1 em_321 (ce_at ce_321 0 rfl) rfl rfl ?_
  refine e_mv 2 em_321 (ce_at ce_321 1 rfl) rfl rfl ?_
  refine e_get 5 em_321 (ce_at ce_321 2 rfl) tq_121 rfl rfl ?_
  refine e_op 6 em_321 (ce_at ce_321 3 rfl) rfl rfl ?_
  refine e_iadd 7 em_321 rfl (ce_at ce_321 4 rfl) ?_
  refine e_put 10 em_321 (ce_at ce_321 5 rfl) tq_121 rfl rfl rfl (fun s1 => ?_)
  refine e_mv 11 em_321 (ce_at ce_321 6 rfl) rfl rfl ?_
  refine e_get 14 em_321 (ce_at ce_321 7 rfl) tq_121 rfl rfl ?_
  refine e_bip 16 em_321 (ce_at ce_321 8 rfl) (by decide) rfl ?_
  refine e_gd fun g2 => ?_
  refine e_cmle 28 19 em_321 rfl rfl (ce_at ce_321 9 rfl) g2 (by decide) (fun h3 => ?_) (fun h3 => ?_)
  · exact e_retv em_321 (ce_at ce_321 15 rfl)
  · refine e_mv 20 em_321 (ce_at ce_321 10 rfl) rfl rfl ?_
    refine e_op 21 em_321 (ce_at ce_321 11 rfl) rfl rfl ?_
    refine e_mv 22 em_321 (ce_at ce_321 12 rfl) rfl rfl ?_
    refine e_get 25 em_321 (ce_at ce_321 13 rfl) tq_121 rfl rfl ?_
    refine e_ivv 28 em_321 (ce_at ce_321 14 rfl) (by omega) (iv_v2 (by decide) tq_121 rfl) em_317 (Nat.le_of_ble_eq_true rfl) rfl (tm_wrong w (d - 1) (by omega) _ _ _) (fun r4 s4 => ?_)
    exact e_retv em_321 (ce_at ce_321 15 rfl)
theorem fm_open (s : iS) : Fm Prod.snd L_m_open G_m_open s (m_open s) := fm_lt (md_upF (mem_F rfl)) (fun s1 => fm_gd (fm_if (fm_some md_refl) (fm_bd (fm_sub (fm_wrong _ _ _) (mem_sub_L rfl) (mem_sub_F rfl)) (fun r4 s4 => fm_some md_refl))))
/-! m_openSign -/
def L_m_openSign : List Nat := []
def G_m_openSign : List (Nat × Nat) := [(121, 10), (121, 11), (121, 12), (121, 48)]
noncomputable def m_openSign (v1 : Int) (s : iS) : Option (Int × iS) := bd (m_isSign v1 s) (fun r1 s1 => gd (rg r1) (if r1 = 0 then bd (m_syntax s1) (fun _ s6 => some (0, s6)) else bd (m_open s1) (fun _ s4 => bd (m_go s4) (fun _ s5 => some (0, s5)))))
theorem tm_openSign (w : ev_W) (d : Nat) (hd : 2 ≤ d) (v1 : Int) (s : iS) : Ew hT w d 319 0 [(0, .ref (tb_nK + 121)), (1, iv v1)] [] s (Cv hT) (m_openSign v1 s) := by
  unfold m_openSign
  refine e_mv 1 em_319 (ce_at ce_319 0 rfl) rfl rfl ?_
  refine e_mv 2 em_319 (ce_at ce_319 1 rfl) rfl rfl ?_
  refine e_ivi 5 em_319 (ce_at ce_319 2 rfl) (by omega) (iv_v1 (by decide) tq_121 rfl) em_320 (Nat.le_of_ble_eq_true rfl) rfl (tm_isSign w (d - 1) (by omega) _ _) (fun r1 s1 => ?_)
  refine e_gd fun g2 => ?_
  refine e_ifne 13 8 em_319 rfl rfl (ce_at ce_319 3 rfl) g2 (fun h3 => ?_) (fun h3 => ?_)
  · refine e_mv 14 em_319 (ce_at ce_319 7 rfl) rfl rfl ?_
    refine e_ivv 17 em_319 (ce_at ce_319 8 rfl) (by omega) (iv_v0 (by decide) tq_121 rfl) em_321 (Nat.le_of_ble_eq_true rfl) rfl (tm_open w (d - 1) (by omega) _) (fun r4 s4 => ?_)
    refine e_mv 18 em_319 (ce_at ce_319 9 rfl) rfl rfl ?_
    refine e_ivv 21 em_319 (ce_at ce_319 10 rfl) (by omega) (iv_v0 (by decide) tq_121 rfl) em_315 (Nat.le_of_ble_eq_true rfl) rfl (tm_go w (d - 1) (by omega) _) (fun r5 s5 => ?_)
    exact e_retv em_319 (ce_at ce_319 11 rfl)
  · refine e_mv 9 em_319 (ce_at ce_319 4 rfl) rfl rfl ?_
    refine e_ivv 12 em_319 (ce_at ce_319 5 rfl) (by omega) (iv_v0 (by decide) tq_121 rfl) em_316 (Nat.le_of_ble_eq_true rfl) rfl (tm_syntax w (d - 1) (by omega) _) (fun r6 s6 => ?_)
    exact e_retv em_319 (ce_at ce_319 6 rfl)
theorem fm_openSign (v1 : Int) (s : iS) : Fm Prod.snd L_m_openSign G_m_openSign s (m_openSign v1 s) := fm_bd (fm_sub (fm_isSign _ _) (mem_sub_L rfl) (mem_sub_F rfl)) (fun r1 s1 => fm_gd (fm_if (fm_bd (fm_sub (fm_syntax _) (mem_sub_L rfl) (mem_sub_F rfl)) (fun r6 s6 => fm_some md_refl)) (fm_bd (fm_sub (fm_open _) (mem_sub_L rfl) (mem_sub_F rfl)) (fun r4 s4 => fm_bd (fm_sub (fm_go _) (mem_sub_L rfl) (mem_sub_F rfl)) (fun r5 s5 => fm_some md_refl)))))
/-! m_type -/
def L_m_type : List Nat := []
def G_m_type : List (Nat × Nat) := [(121, 10), (121, 11), (121, 12)]
noncomputable def m_type_57 (s : iS) : Option (Int × iS) := bd (m_go s) (fun _ s1 => some (((s1 121 10) - 1), s1))
theorem tm_type_57 (w : ev_W) (d : Nat) (hd : 2 ≤ d) (s : iS) : Ew hT w d 323 57 [(0, .ref (tb_nK + 121))] [] s (Ci hT) (m_type_57 s) := by
  unfold m_type_57
  refine e_mv 58 em_323 (ce_at ce_323 28 rfl) rfl rfl ?_
  refine e_ivv 61 em_323 (ce_at ce_323 29 rfl) (by omega) (iv_v0 (by decide) tq_121 rfl) em_315 (Nat.le_of_ble_eq_true rfl) rfl (tm_go w (d - 1) (by omega) _) (fun r1 s1 => ?_)
  refine e_mv 62 em_323 (ce_at ce_323 30 rfl) rfl rfl ?_
  refine e_get 65 em_323 (ce_at ce_323 31 rfl) tq_121 rfl rfl ?_
  refine e_op 66 em_323 (ce_at ce_323 32 rfl) rfl rfl ?_
  refine e_isub 67 em_323 rfl (ce_at ce_323 33 rfl) ?_
  exact e_reti em_323 (ce_at ce_323 34 rfl)
theorem fm_type_57 (s : iS) : Fm Prod.snd L_m_type G_m_type s (m_type_57 s) := fm_bd (fm_sub (fm_go _) (mem_sub_L rfl) (mem_sub_F rfl)) (fun r1 s1 => fm_some md_refl)
noncomputable def m_type_32 (t0 : Int) (s : iS) : Option (Int × iS) := gd (rg t0) (if t0 = 0 then gd (0 ≤ (s 121 10) ∧ (s 121 10) < 2002) (gd (rg (s 124 (s 121 10).toNat)) (if (s 124 (s 121 10).toNat) = 1 then m_type_57 s else bd (m_syntax s) (fun _ s6 => some (((s6 121 10) - 1), s6)))) else m_type_57 s)
theorem tm_type_32 (w : ev_W) (d : Nat) (hd : 2 ≤ d) (t0 : Int) (s : iS) : Ew hT w d 323 32 [(0, .ref (tb_nK + 121))] [iv t0] s (Ci hT) (m_type_32 t0 s) := by
  unfold m_type_32
  refine e_mv 33 em_323 (ce_at ce_323 15 rfl) rfl rfl ?_
  refine e_mv 34 em_323 (ce_at ce_323 16 rfl) rfl rfl ?_
  refine e_gd fun g1 => ?_
  refine e_ifne 57 37 em_323 rfl rfl (ce_at ce_323 17 rfl) g1 (fun h2 => ?_) (fun h2 => ?_)
  · refine e_pk [0] rfl rfl ?_
    exact tm_type_57 w d hd _
  · refine e_mv 38 em_323 (ce_at ce_323 18 rfl) rfl rfl ?_
    refine e_getr 41 em_323 (ce_at ce_323 19 rfl) tq_121 rfl rfl ?_
    refine e_mv 42 em_323 (ce_at ce_323 20 rfl) rfl rfl ?_
    refine e_get 45 em_323 (ce_at ce_323 21 rfl) tq_121 rfl rfl ?_
    refine e_gd fun g3 => ?_
    refine e_ild 46 em_323 (ce_at ce_323 22 rfl) tq_124 (by decide) g3 rfl ?_
    refine e_op 47 em_323 (ce_at ce_323 23 rfl) rfl rfl ?_
    refine e_gd fun g4 => ?_
    refine e_cmeq 57 50 em_323 rfl rfl (ce_at ce_323 24 rfl) g4 (by decide) (fun h5 => ?_) (fun h5 => ?_)
    · refine e_pk [0] rfl rfl ?_
      exact tm_type_57 w d hd _
    · refine e_mv 51 em_323 (ce_at ce_323 25 rfl) rfl rfl ?_
      refine e_ivv 54 em_323 (ce_at ce_323 26 rfl) (by omega) (iv_v0 (by decide) tq_121 rfl) em_316 (Nat.le_of_ble_eq_true rfl) rfl (tm_syntax w (d - 1) (by omega) _) (fun r6 s6 => ?_)
      refine e_goto em_323 61 (ce_at ce_323 27 rfl) rfl ?_
      refine e_mv 62 em_323 (ce_at ce_323 30 rfl) rfl rfl ?_
      refine e_get 65 em_323 (ce_at ce_323 31 rfl) tq_121 rfl rfl ?_
      refine e_op 66 em_323 (ce_at ce_323 32 rfl) rfl rfl ?_
      refine e_isub 67 em_323 rfl (ce_at ce_323 33 rfl) ?_
      exact e_reti em_323 (ce_at ce_323 34 rfl)
theorem fm_type_32 (t0 : Int) (s : iS) : Fm Prod.snd L_m_type G_m_type s (m_type_32 t0 s) := fm_gd (fm_if (fm_gd (fm_gd (fm_if (fm_type_57 _) (fm_bd (fm_sub (fm_syntax _) (mem_sub_L rfl) (mem_sub_F rfl)) (fun r6 s6 => fm_some md_refl))))) (fm_type_57 _))
noncomputable def m_type_27 (s : iS) : Option (Int × iS) := m_type_32 1 s
theorem tm_type_27 (w : ev_W) (d : Nat) (hd : 2 ≤ d) (s : iS) : Ew hT w d 323 27 [(0, .ref (tb_nK + 121))] [] s (Ci hT) (m_type_27 s) := by
  unfold m_type_27
  refine e_op 28 em_323 (ce_at ce_323 12 rfl) rfl rfl ?_
  refine e_goto em_323 32 (ce_at ce_323 13 rfl) rfl ?_
  refine e_pk [0] rfl rfl ?_
  exact tm_type_32 w d hd _ _
theorem fm_type_27 (s : iS) : Fm Prod.snd L_m_type G_m_type s (m_type_27 s) := fm_type_32 _ _
noncomputable def m_type (s : iS) : Option (Int × iS) := bd (m_isWord 7 s) (fun r1 s1 => gd (rg r1) (if r1 = 0 then bd (m_isWord 8 s1) (fun r4 s4 => gd (rg r4) (if r4 = 0 then bd (m_isWord 9 s4) (fun r7 s7 => gd (rg r7) (if r7 = 0 then m_type_32 0 s7 else m_type_27 s7)) else m_type_27 s4)) else m_type_27 s1))
theorem tm_type (w : ev_W) (d : Nat) (hd : 2 ≤ d) (s : iS) : Ew hT w d 323 0 [(0, .ref (tb_nK + 121))] [] s (Ci hT) (m_type s) := by
  unfold m_type
  refine e_mv 1 em_323 (ce_at ce_323 0 rfl) rfl rfl ?_
  refine e_bip 3 em_323 (ce_at ce_323 1 rfl) (by decide) rfl ?_
  refine e_ivi 6 em_323 (ce_at ce_323 2 rfl) (by omega) (iv_v1 (by decide) tq_121 rfl) em_314 (Nat.le_of_ble_eq_true rfl) rfl (tm_isWord w (d - 1) (by omega) _ _) (fun r1 s1 => ?_)
  refine e_gd fun g2 => ?_
  refine e_ifne 27 9 em_323 rfl rfl (ce_at ce_323 3 rfl) g2 (fun h3 => ?_) (fun h3 => ?_)
  · refine e_pk [0] rfl rfl ?_
    exact tm_type_27 w d hd _
  · refine e_mv 10 em_323 (ce_at ce_323 4 rfl) rfl rfl ?_
    refine e_bip 12 em_323 (ce_at ce_323 5 rfl) (by decide) rfl ?_
    refine e_ivi 15 em_323 (ce_at ce_323 6 rfl) (by omega) (iv_v1 (by decide) tq_121 rfl) em_314 (Nat.le_of_ble_eq_true rfl) rfl (tm_isWord w (d - 1) (by omega) _ _) (fun r4 s4 => ?_)
    refine e_gd fun g5 => ?_
    refine e_ifne 27 18 em_323 rfl rfl (ce_at ce_323 7 rfl) g5 (fun h6 => ?_) (fun h6 => ?_)
    · refine e_pk [0] rfl rfl ?_
      exact tm_type_27 w d hd _
    · refine e_mv 19 em_323 (ce_at ce_323 8 rfl) rfl rfl ?_
      refine e_bip 21 em_323 (ce_at ce_323 9 rfl) (by decide) rfl ?_
      refine e_ivi 24 em_323 (ce_at ce_323 10 rfl) (by omega) (iv_v1 (by decide) tq_121 rfl) em_314 (Nat.le_of_ble_eq_true rfl) rfl (tm_isWord w (d - 1) (by omega) _ _) (fun r7 s7 => ?_)
      refine e_gd fun g8 => ?_
      refine e_ifeq 31 27 em_323 rfl rfl (ce_at ce_323 11 rfl) g8 (fun h9 => ?_) (fun h9 => ?_)
      · refine e_op 32 em_323 (ce_at ce_323 14 rfl) rfl rfl ?_
        refine e_pk [0] rfl rfl ?_
        exact tm_type_32 w d hd _ _
      · refine e_pk [0] rfl rfl ?_
        exact tm_type_27 w d hd _
theorem fm_type (s : iS) : Fm Prod.snd L_m_type G_m_type s (m_type s) := fm_bd (fm_sub (fm_isWord _ _) (mem_sub_L rfl) (mem_sub_F rfl)) (fun r1 s1 => fm_gd (fm_if (fm_bd (fm_sub (fm_isWord _ _) (mem_sub_L rfl) (mem_sub_F rfl)) (fun r4 s4 => fm_gd (fm_if (fm_bd (fm_sub (fm_isWord _ _) (mem_sub_L rfl) (mem_sub_F rfl)) (fun r7 s7 => fm_gd (fm_if (fm_type_32 _ _) (fm_type_27 _)))) (fm_type_27 _)))) (fm_type_27 _)))
/-! m_room -/
def L_m_room : List Nat := []
def G_m_room : List (Nat × Nat) := [(121, 11), (121, 12)]
noncomputable def m_room (v1 : Int) (v2 : Int) (v3 : Int) (s : iS) : Option (Int × iS) := gd (rg v1) (gd (rg v2) (if v1 < v2 then some (0, s) else bd (m_wrong 2 v3 s) (fun _ s4 => some (0, s4))))
theorem tm_room (w : ev_W) (d : Nat) (hd : 1 ≤ d) (v1 : Int) (v2 : Int) (v3 : Int) (s : iS) : Ew hT w d 318 0 [(0, .ref (tb_nK + 121)), (1, iv v1), (2, iv v2), (3, iv v3)] [] s (Cv hT) (m_room v1 v2 v3 s) := by
  unfold m_room
  refine e_mv 1 em_318 (ce_at ce_318 0 rfl) rfl rfl ?_
  refine e_mv 2 em_318 (ce_at ce_318 1 rfl) rfl rfl ?_
  refine e_gd fun g1 => ?_
  refine e_gd fun g2 => ?_
  refine e_cmlt 11 5 em_318 rfl rfl (ce_at ce_318 2 rfl) g1 g2 (fun h3 => ?_) (fun h3 => ?_)
  · exact e_retv em_318 (ce_at ce_318 7 rfl)
  · refine e_mv 6 em_318 (ce_at ce_318 3 rfl) rfl rfl ?_
    refine e_op 7 em_318 (ce_at ce_318 4 rfl) rfl rfl ?_
    refine e_mv 8 em_318 (ce_at ce_318 5 rfl) rfl rfl ?_
    refine e_ivv 11 em_318 (ce_at ce_318 6 rfl) (by omega) (iv_v2 (by decide) tq_121 rfl) em_317 (Nat.le_of_ble_eq_true rfl) rfl (tm_wrong w (d - 1) (by omega) _ _ _) (fun r4 s4 => ?_)
    exact e_retv em_318 (ce_at ce_318 7 rfl)
theorem fm_room (v1 : Int) (v2 : Int) (v3 : Int) (s : iS) : Fm Prod.snd L_m_room G_m_room s (m_room v1 v2 v3 s) := fm_gd (fm_gd (fm_if (fm_some md_refl) (fm_bd (fm_sub (fm_wrong _ _ _) (mem_sub_L rfl) (mem_sub_F rfl)) (fun r4 s4 => fm_some md_refl))))
/-! m_declare -/
def L_m_declare : List Nat := [137, 138, 139, 140, 141, 142, 143]
def G_m_declare : List (Nat × Nat) := [(121, 25)]
noncomputable def m_declare (v1 : Int) (v2 : Int) (v3 : Int) (v4 : Int) (v5 : Int) (v6 : Int) (s : iS) : Option (Int × iS) := gd (0 ≤ (s 121 25) ∧ (s 121 25) < 1100) (lt' (up s 137 (s 121 25).toNat ((s 121 14) - 1)) (fun s2 => gd (0 ≤ (s2 121 25) ∧ (s2 121 25) < 1100) (lt' (up s2 138 (s2 121 25).toNat v1) (fun s4 => gd (0 ≤ (s4 121 25) ∧ (s4 121 25) < 1100) (lt' (up s4 139 (s4 121 25).toNat v2) (fun s6 => gd (0 ≤ (s6 121 25) ∧ (s6 121 25) < 1100) (lt' (up s6 140 (s6 121 25).toNat v4) (fun s8 => gd (0 ≤ (s8 121 25) ∧ (s8 121 25) < 1100) (lt' (up s8 141 (s8 121 25).toNat v3) (fun s10 => gd (0 ≤ (s10 121 25) ∧ (s10 121 25) < 1100) (lt' (up s10 142 (s10 121 25).toNat v5) (fun s12 => gd (0 ≤ (s12 121 25) ∧ (s12 121 25) < 1100) (lt' (up s12 143 (s12 121 25).toNat v6) (fun s14 => lt' (up s14 121 25 ((s14 121 25) + 1)) (fun s15 => some (0, s15))))))))))))))))
theorem tm_declare (w : ev_W) (d : Nat) (hd : 0 ≤ d) (v1 : Int) (v2 : Int) (v3 : Int) (v4 : Int) (v5 : Int) (v6 : Int) (s : iS) : Ew hT w d 324 0 [(0, .ref (tb_nK + 121)), (1, iv v1), (2, iv v2), (3, iv v3), (4, iv v4), (5, iv v5), (6, iv v6)] [] s (Cv hT) (m_declare v1 v2 v3 v4 v5 v6 s) := by
  unfold m_declare
  refine e_mv 1 em_324 (ce_at ce_324 0 rfl) rfl rfl ?_
  refine e_getr 4 em_324 (ce_at ce_324 1 rfl) tq_121 rfl rfl ?_
  refine e_mv 5 em_324 (ce_at ce_324 2 rfl) rfl rfl ?_
  refine e_get 8 em_324 (ce_at ce_324 3 rfl) tq_121 rfl rfl ?_
  refine e_mv 9 em_324 (ce_at ce_324 4 rfl) rfl rfl ?_
  refine e_get 12 em_324 (ce_at ce_324 5 rfl) tq_121 rfl rfl ?_
  refine e_op 13 em_324 (ce_at ce_324 6 rfl) rfl rfl ?_
  refine e_isub 14 em_324 rfl (ce_at ce_324 7 rfl) ?_
  refine e_gd fun g1 => ?_
  refine e_ist 15 em_324 (ce_at ce_324 8 rfl) tq_137 (by decide) g1 rfl (fun s2 => ?_)
  refine e_mv 16 em_324 (ce_at ce_324 9 rfl) rfl rfl ?_
  refine e_getr 19 em_324 (ce_at ce_324 10 rfl) tq_121 rfl rfl ?_
  refine e_mv 20 em_324 (ce_at ce_324 11 rfl) rfl rfl ?_
  refine e_get 23 em_324 (ce_at ce_324 12 rfl) tq_121 rfl rfl ?_
  refine e_mv 24 em_324 (ce_at ce_324 13 rfl) rfl rfl ?_
  refine e_gd fun g3 => ?_
  refine e_ist 25 em_324 (ce_at ce_324 14 rfl) tq_138 (by decide) g3 rfl (fun s4 => ?_)
  refine e_mv 26 em_324 (ce_at ce_324 15 rfl) rfl rfl ?_
  refine e_getr 29 em_324 (ce_at ce_324 16 rfl) tq_121 rfl rfl ?_
  refine e_mv 30 em_324 (ce_at ce_324 17 rfl) rfl rfl ?_
  refine e_get 33 em_324 (ce_at ce_324 18 rfl) tq_121 rfl rfl ?_
  refine e_mv 34 em_324 (ce_at ce_324 19 rfl) rfl rfl ?_
  refine e_gd fun g5 => ?_
  refine e_ist 35 em_324 (ce_at ce_324 20 rfl) tq_139 (by decide) g5 rfl (fun s6 => ?_)
  refine e_mv 36 em_324 (ce_at ce_324 21 rfl) rfl rfl ?_
  refine e_getr 39 em_324 (ce_at ce_324 22 rfl) tq_121 rfl rfl ?_
  refine e_mv 40 em_324 (ce_at ce_324 23 rfl) rfl rfl ?_
  refine e_get 43 em_324 (ce_at ce_324 24 rfl) tq_121 rfl rfl ?_
  refine e_mv 45 em_324 (ce_at ce_324 25 rfl) rfl rfl ?_
  refine e_gd fun g7 => ?_
  refine e_ist 46 em_324 (ce_at ce_324 26 rfl) tq_140 (by decide) g7 rfl (fun s8 => ?_)
  refine e_mv 47 em_324 (ce_at ce_324 27 rfl) rfl rfl ?_
  refine e_getr 50 em_324 (ce_at ce_324 28 rfl) tq_121 rfl rfl ?_
  refine e_mv 51 em_324 (ce_at ce_324 29 rfl) rfl rfl ?_
  refine e_get 54 em_324 (ce_at ce_324 30 rfl) tq_121 rfl rfl ?_
  refine e_mv 55 em_324 (ce_at ce_324 31 rfl) rfl rfl ?_
  refine e_gd fun g9 => ?_
  refine e_ist 56 em_324 (ce_at ce_324 32 rfl) tq_141 (by decide) g9 rfl (fun s10 => ?_)
  refine e_mv 57 em_324 (ce_at ce_324 33 rfl) rfl rfl ?_
  refine e_getr 60 em_324 (ce_at ce_324 34 rfl) tq_121 rfl rfl ?_
  refine e_mv 61 em_324 (ce_at ce_324 35 rfl) rfl rfl ?_
  refine e_get 64 em_324 (ce_at ce_324 36 rfl) tq_121 rfl rfl ?_
  refine e_mv 66 em_324 (ce_at ce_324 37 rfl) rfl rfl ?_
  refine e_gd fun g11 => ?_
  refine e_ist 67 em_324 (ce_at ce_324 38 rfl) tq_142 (by decide) g11 rfl (fun s12 => ?_)
  refine e_mv 68 em_324 (ce_at ce_324 39 rfl) rfl rfl ?_
  refine e_getr 71 em_324 (ce_at ce_324 40 rfl) tq_121 rfl rfl ?_
  refine e_mv 72 em_324 (ce_at ce_324 41 rfl) rfl rfl ?_
  refine e_get 75 em_324 (ce_at ce_324 42 rfl) tq_121 rfl rfl ?_
  refine e_mv 77 em_324 (ce_at ce_324 43 rfl) rfl rfl ?_
  refine e_gd fun g13 => ?_
  refine e_ist 78 em_324 (ce_at ce_324 44 rfl) tq_143 (by decide) g13 rfl (fun s14 => ?_)
  refine e_mv 79 em_324 (ce_at ce_324 45 rfl) rfl rfl ?_
  refine e_mv 80 em_324 (ce_at ce_324 46 rfl) rfl rfl ?_
  refine e_get 83 em_324 (ce_at ce_324 47 rfl) tq_121 rfl rfl ?_
  refine e_op 84 em_324 (ce_at ce_324 48 rfl) rfl rfl ?_
  refine e_iadd 85 em_324 rfl (ce_at ce_324 49 rfl) ?_
  refine e_put 88 em_324 (ce_at ce_324 50 rfl) tq_121 rfl rfl rfl (fun s15 => ?_)
  exact e_retv em_324 (ce_at ce_324 51 rfl)
theorem fm_declare (v1 : Int) (v2 : Int) (v3 : Int) (v4 : Int) (v5 : Int) (v6 : Int) (s : iS) : Fm Prod.snd L_m_declare G_m_declare s (m_declare v1 v2 v3 v4 v5 v6 s) := fm_gd (fm_lt (md_upL (mem_L rfl)) (fun s2 => fm_gd (fm_lt (md_upL (mem_L rfl)) (fun s4 => fm_gd (fm_lt (md_upL (mem_L rfl)) (fun s6 => fm_gd (fm_lt (md_upL (mem_L rfl)) (fun s8 => fm_gd (fm_lt (md_upL (mem_L rfl)) (fun s10 => fm_gd (fm_lt (md_upL (mem_L rfl)) (fun s12 => fm_gd (fm_lt (md_upL (mem_L rfl)) (fun s14 => fm_lt (md_upF (mem_F rfl)) (fun s15 => fm_some md_refl)))))))))))))))
/-! m_needSign -/
def L_m_needSign : List Nat := []
def G_m_needSign : List (Nat × Nat) := [(121, 10), (121, 11), (121, 12)]
noncomputable def m_needSign (v1 : Int) (s : iS) : Option (Int × iS) := bd (m_isSign v1 s) (fun r1 s1 => gd (rg r1) (if r1 = 0 then bd (m_syntax s1) (fun _ s4 => some (0, s4)) else bd (m_go s1) (fun _ s5 => some (0, s5))))
theorem tm_needSign (w : ev_W) (d : Nat) (hd : 2 ≤ d) (v1 : Int) (s : iS) : Ew hT w d 325 0 [(0, .ref (tb_nK + 121)), (1, iv v1)] [] s (Cv hT) (m_needSign v1 s) := by
  unfold m_needSign
  refine e_mv 1 em_325 (ce_at ce_325 0 rfl) rfl rfl ?_
  refine e_mv 2 em_325 (ce_at ce_325 1 rfl) rfl rfl ?_
  refine e_ivi 5 em_325 (ce_at ce_325 2 rfl) (by omega) (iv_v1 (by decide) tq_121 rfl) em_320 (Nat.le_of_ble_eq_true rfl) rfl (tm_isSign w (d - 1) (by omega) _ _) (fun r1 s1 => ?_)
  refine e_gd fun g2 => ?_
  refine e_ifeq 15 8 em_325 rfl rfl (ce_at ce_325 3 rfl) g2 (fun h3 => ?_) (fun h3 => ?_)
  · refine e_mv 16 em_325 (ce_at ce_325 7 rfl) rfl rfl ?_
    refine e_ivv 19 em_325 (ce_at ce_325 8 rfl) (by omega) (iv_v0 (by decide) tq_121 rfl) em_316 (Nat.le_of_ble_eq_true rfl) rfl (tm_syntax w (d - 1) (by omega) _) (fun r4 s4 => ?_)
    exact e_retv em_325 (ce_at ce_325 9 rfl)
  · refine e_mv 9 em_325 (ce_at ce_325 4 rfl) rfl rfl ?_
    refine e_ivv 12 em_325 (ce_at ce_325 5 rfl) (by omega) (iv_v0 (by decide) tq_121 rfl) em_315 (Nat.le_of_ble_eq_true rfl) rfl (tm_go w (d - 1) (by omega) _) (fun r5 s5 => ?_)
    refine e_goto em_325 19 (ce_at ce_325 6 rfl) rfl ?_
    exact e_retv em_325 (ce_at ce_325 9 rfl)
theorem fm_needSign (v1 : Int) (s : iS) : Fm Prod.snd L_m_needSign G_m_needSign s (m_needSign v1 s) := fm_bd (fm_sub (fm_isSign _ _) (mem_sub_L rfl) (mem_sub_F rfl)) (fun r1 s1 => fm_gd (fm_if (fm_bd (fm_sub (fm_syntax _) (mem_sub_L rfl) (mem_sub_F rfl)) (fun r4 s4 => fm_some md_refl)) (fm_bd (fm_sub (fm_go _) (mem_sub_L rfl) (mem_sub_F rfl)) (fun r5 s5 => fm_some md_refl))))
/-! m_declares -/
def L_m_declares : List Nat := [129, 135, 137, 138, 139, 140, 141, 142, 143]
def G_m_declares : List (Nat × Nat) := [(121, 10), (121, 11), (121, 12), (121, 16), (121, 25), (121, 60)]
def m_declares_12C (w : ev_W) (d : Nat) (v1 : Int) (v2 : Int) (v3 : Int) : (Int × iS) ⊕ ((iS) ⊕ ((iS) ⊕ (iS))) → am_E → Prop := fun q r => q.elim (fun l => ev w d 322 12 ((fun l => [(0, .ref (tb_nK + 121)), (1, iv v1), (2, iv v2), (3, iv v3), (4, iv (l.1))]) l) [] (hT ((fun l => l.2) l)) r) (fun e => (fun e r => e.elim (fun e => ev w d 322 43 [(0, .ref (tb_nK + 121))] [] (hT (e)) r) (fun e => e.elim (fun e => ev w d 322 103 [] [] (hT (e)) r) (fun e => ev w d 322 211 [(0, .ref (tb_nK + 121))] [] (hT (e)) r))) e r)
noncomputable def m_declares_187 (v1 : Int) (v2 : Int) (v3 : Int) (s : iS) : Option ((Int × iS) ⊕ ((iS) ⊕ ((iS) ⊕ (iS)))) := bd (m_go s) (fun _ s1 => bd (m_isSign 44 s1) (fun r2 s2 => gd (rg r2) (if r2 = 0 then some (.inl (r2, s2)) else bd (m_go s2) (fun _ s5 => some (.inl (r2, s5))))))
theorem tm_declares_187 (w : ev_W) (d : Nat) (hd : 3 ≤ d) (v1 : Int) (v2 : Int) (v3 : Int) (s : iS) : Ew hT w d 322 187 [(0, .ref (tb_nK + 121)), (1, iv v1), (2, iv v2), (3, iv v3)] [] s (m_declares_12C w d v1 v2 v3) (m_declares_187 v1 v2 v3 s) := by
  unfold m_declares_187
  refine e_mv 188 em_322 (ce_at ce_322 105 rfl) rfl rfl ?_
  refine e_ivv 191 em_322 (ce_at ce_322 106 rfl) (by omega) (iv_v0 (by decide) tq_121 rfl) em_315 (Nat.le_of_ble_eq_true rfl) rfl (tm_go w (d - 1) (by omega) _) (fun r1 s1 => ?_)
  refine e_mv 192 em_322 (ce_at ce_322 107 rfl) rfl rfl ?_
  refine e_bip 194 em_322 (ce_at ce_322 108 rfl) (by decide) rfl ?_
  refine e_ivi 197 em_322 (ce_at ce_322 109 rfl) (by omega) (iv_v1 (by decide) tq_121 rfl) em_320 (Nat.le_of_ble_eq_true rfl) rfl (tm_isSign w (d - 1) (by omega) _ _) (fun r2 s2 => ?_)
  refine e_mv 199 em_322 (ce_at ce_322 110 rfl) rfl rfl ?_
  refine e_mv 201 em_322 (ce_at ce_322 111 rfl) rfl rfl ?_
  refine e_gd fun g3 => ?_
  refine e_ifeq 208 204 em_322 rfl rfl (ce_at ce_322 112 rfl) g3 (fun h4 => ?_) (fun h4 => ?_)
  · refine e_goto em_322 12 (ce_at ce_322 115 rfl) rfl ?_
    refine e_pk [0, 1, 2, 3, 4] rfl rfl ?_
    exact e_out (fun r h => h)
  · refine e_mv 205 em_322 (ce_at ce_322 113 rfl) rfl rfl ?_
    refine e_ivv 208 em_322 (ce_at ce_322 114 rfl) (by omega) (iv_v0 (by decide) tq_121 rfl) em_315 (Nat.le_of_ble_eq_true rfl) rfl (tm_go w (d - 1) (by omega) _) (fun r5 s5 => ?_)
    refine e_goto em_322 12 (ce_at ce_322 115 rfl) rfl ?_
    refine e_pk [0, 1, 2, 3, 4] rfl rfl ?_
    exact e_out (fun r h => h)
theorem fm_declares_187 (v1 : Int) (v2 : Int) (v3 : Int) (s : iS) : Fm (fun r : (Int × iS) ⊕ ((iS) ⊕ ((iS) ⊕ (iS))) => r.elim (fun l => l.2) (fun e => e.elim (fun e => e) (fun e => e.elim (fun e => e) (fun e => e)))) L_m_declares G_m_declares s (m_declares_187 v1 v2 v3 s) := fm_bd (fm_sub (fm_go _) (mem_sub_L rfl) (mem_sub_F rfl)) (fun r1 s1 => fm_bd (fm_sub (fm_isSign _ _) (mem_sub_L rfl) (mem_sub_F rfl)) (fun r2 s2 => fm_gd (fm_if (fm_some md_refl) (fm_bd (fm_sub (fm_go _) (mem_sub_L rfl) (mem_sub_F rfl)) (fun r5 s5 => fm_some md_refl)))))
noncomputable def m_declares_172 (v1 : Int) (v2 : Int) (v3 : Int) (v6 : Int) (s : iS) : Option ((Int × iS) ⊕ ((iS) ⊕ ((iS) ⊕ (iS)))) := gd (rg v2) (if v2 = 3 then gd (0 ≤ v1 ∧ v1 < 61) (lt' (up s 135 v1.toNat (v6 + 1)) (fun s4 => m_declares_187 v1 v2 v3 s4)) else m_declares_187 v1 v2 v3 s)
theorem tm_declares_172 (w : ev_W) (d : Nat) (hd : 3 ≤ d) (v1 : Int) (v2 : Int) (v3 : Int) (v6 : Int) (s : iS) : Ew hT w d 322 172 [(0, .ref (tb_nK + 121)), (1, iv v1), (2, iv v2), (3, iv v3), (6, iv v6)] [] s (m_declares_12C w d v1 v2 v3) (m_declares_172 v1 v2 v3 v6 s) := by
  unfold m_declares_172
  refine e_mv 173 em_322 (ce_at ce_322 95 rfl) rfl rfl ?_
  refine e_op 174 em_322 (ce_at ce_322 96 rfl) rfl rfl ?_
  refine e_gd fun g1 => ?_
  refine e_cmne 187 177 em_322 rfl rfl (ce_at ce_322 97 rfl) g1 (by decide) (fun h2 => ?_) (fun h2 => ?_)
  · refine e_pk [0, 1, 2, 3] rfl rfl ?_
    exact tm_declares_187 w d hd _ _ _ _
  · refine e_mv 178 em_322 (ce_at ce_322 98 rfl) rfl rfl ?_
    refine e_getr 181 em_322 (ce_at ce_322 99 rfl) tq_121 rfl rfl ?_
    refine e_mv 182 em_322 (ce_at ce_322 100 rfl) rfl rfl ?_
    refine e_mv 184 em_322 (ce_at ce_322 101 rfl) rfl rfl ?_
    refine e_op 185 em_322 (ce_at ce_322 102 rfl) rfl rfl ?_
    refine e_iadd 186 em_322 rfl (ce_at ce_322 103 rfl) ?_
    refine e_gd fun g3 => ?_
    refine e_ist 187 em_322 (ce_at ce_322 104 rfl) tq_135 (by decide) g3 rfl (fun s4 => ?_)
    refine e_pk [0, 1, 2, 3] rfl rfl ?_
    exact tm_declares_187 w d hd _ _ _ _
theorem fm_declares_172 (v1 : Int) (v2 : Int) (v3 : Int) (v6 : Int) (s : iS) : Fm (fun r : (Int × iS) ⊕ ((iS) ⊕ ((iS) ⊕ (iS))) => r.elim (fun l => l.2) (fun e => e.elim (fun e => e) (fun e => e.elim (fun e => e) (fun e => e)))) L_m_declares G_m_declares s (m_declares_172 v1 v2 v3 v6 s) := fm_gd (fm_if (fm_gd (fm_lt (md_upL (mem_L rfl)) (fun s4 => fm_declares_187 _ _ _ _))) (fm_declares_187 _ _ _ _))
noncomputable def m_declares_152 (v1 : Int) (v2 : Int) (v3 : Int) (v6 : Int) (s : iS) : Option ((Int × iS) ⊕ ((iS) ⊕ ((iS) ⊕ (iS)))) := gd (rg v2) (if v2 = 1 then gd (0 ≤ ((s 121 14) - 1) ∧ ((s 121 14) - 1) < 13) (lt' (up s 129 ((s 121 14) - 1).toNat (v6 + 1)) (fun s4 => m_declares_172 v1 v2 v3 v6 s4)) else m_declares_172 v1 v2 v3 v6 s)
theorem tm_declares_152 (w : ev_W) (d : Nat) (hd : 3 ≤ d) (v1 : Int) (v2 : Int) (v3 : Int) (v6 : Int) (s : iS) : Ew hT w d 322 152 [(0, .ref (tb_nK + 121)), (1, iv v1), (2, iv v2), (3, iv v3), (6, iv v6)] [] s (m_declares_12C w d v1 v2 v3) (m_declares_152 v1 v2 v3 v6 s) := by
  unfold m_declares_152
  refine e_mv 153 em_322 (ce_at ce_322 82 rfl) rfl rfl ?_
  refine e_op 154 em_322 (ce_at ce_322 83 rfl) rfl rfl ?_
  refine e_gd fun g1 => ?_
  refine e_cmne 172 157 em_322 rfl rfl (ce_at ce_322 84 rfl) g1 (by decide) (fun h2 => ?_) (fun h2 => ?_)
  · refine e_pk [0, 1, 2, 3, 6] rfl rfl ?_
    exact tm_declares_172 w d hd _ _ _ _ _
  · refine e_mv 158 em_322 (ce_at ce_322 85 rfl) rfl rfl ?_
    refine e_getr 161 em_322 (ce_at ce_322 86 rfl) tq_121 rfl rfl ?_
    refine e_mv 162 em_322 (ce_at ce_322 87 rfl) rfl rfl ?_
    refine e_get 165 em_322 (ce_at ce_322 88 rfl) tq_121 rfl rfl ?_
    refine e_op 166 em_322 (ce_at ce_322 89 rfl) rfl rfl ?_
    refine e_isub 167 em_322 rfl (ce_at ce_322 90 rfl) ?_
    refine e_mv 169 em_322 (ce_at ce_322 91 rfl) rfl rfl ?_
    refine e_op 170 em_322 (ce_at ce_322 92 rfl) rfl rfl ?_
    refine e_iadd 171 em_322 rfl (ce_at ce_322 93 rfl) ?_
    refine e_gd fun g3 => ?_
    refine e_ist 172 em_322 (ce_at ce_322 94 rfl) tq_129 (by decide) g3 rfl (fun s4 => ?_)
    refine e_pk [0, 1, 2, 3, 6] rfl rfl ?_
    exact tm_declares_172 w d hd _ _ _ _ _
theorem fm_declares_152 (v1 : Int) (v2 : Int) (v3 : Int) (v6 : Int) (s : iS) : Fm (fun r : (Int × iS) ⊕ ((iS) ⊕ ((iS) ⊕ (iS))) => r.elim (fun l => l.2) (fun e => e.elim (fun e => e) (fun e => e.elim (fun e => e) (fun e => e)))) L_m_declares G_m_declares s (m_declares_152 v1 v2 v3 v6 s) := fm_gd (fm_if (fm_gd (fm_lt (md_upL (mem_L rfl)) (fun s4 => fm_declares_172 _ _ _ _ _))) (fm_declares_172 _ _ _ _ _))
noncomputable def m_declares_123 (v1 : Int) (v2 : Int) (v3 : Int) (v6 : Int) (t0 : Int) (t1 : Int) (t2 : Int) (t3 : Int) (t4 : Int) (s : iS) : Option ((Int × iS) ⊕ ((iS) ⊕ ((iS) ⊕ (iS)))) := bd (m_declare t4 t3 t2 t1 t0 v6 s) (fun _ s1 => gd (rg v2) (if v2 = 0 then lt' (up s1 121 16 ((s1 121 16) + 1)) (fun s4 => lt' (up s4 121 60 ((s4 121 60) + 1)) (fun s5 => m_declares_152 v1 v2 v3 v6 s5)) else m_declares_152 v1 v2 v3 v6 s1))
theorem tm_declares_123 (w : ev_W) (d : Nat) (hd : 3 ≤ d) (v1 : Int) (v2 : Int) (v3 : Int) (v6 : Int) (t0 : Int) (t1 : Int) (t2 : Int) (t3 : Int) (t4 : Int) (s : iS) : Ew hT w d 322 123 [(0, .ref (tb_nK + 121)), (1, iv v1), (2, iv v2), (3, iv v3), (6, iv v6)] [iv t0, iv t1, iv t2, iv t3, iv t4, .ref (tb_nK + 121)] s (m_declares_12C w d v1 v2 v3) (m_declares_123 v1 v2 v3 v6 t0 t1 t2 t3 t4 s) := by
  unfold m_declares_123
  refine e_mv 125 em_322 (ce_at ce_322 66 rfl) rfl rfl ?_
  refine e_ivv 128 em_322 (ce_at ce_322 67 rfl) (by omega) (iv_v6 (by decide) tq_121 rfl) em_324 (Nat.le_of_ble_eq_true rfl) rfl (tm_declare w (d - 1) (by omega) _ _ _ _ _ _ _) (fun r1 s1 => ?_)
  refine e_mv 129 em_322 (ce_at ce_322 68 rfl) rfl rfl ?_
  refine e_gd fun g2 => ?_
  refine e_ifne 152 132 em_322 rfl rfl (ce_at ce_322 69 rfl) g2 (fun h3 => ?_) (fun h3 => ?_)
  · refine e_pk [0, 1, 2, 3, 6] rfl rfl ?_
    exact tm_declares_152 w d hd _ _ _ _ _
  · refine e_mv 133 em_322 (ce_at ce_322 70 rfl) rfl rfl ?_
    refine e_mv 134 em_322 (ce_at ce_322 71 rfl) rfl rfl ?_
    refine e_get 137 em_322 (ce_at ce_322 72 rfl) tq_121 rfl rfl ?_
    refine e_op 138 em_322 (ce_at ce_322 73 rfl) rfl rfl ?_
    refine e_iadd 139 em_322 rfl (ce_at ce_322 74 rfl) ?_
    refine e_put 142 em_322 (ce_at ce_322 75 rfl) tq_121 rfl rfl rfl (fun s4 => ?_)
    refine e_mv 143 em_322 (ce_at ce_322 76 rfl) rfl rfl ?_
    refine e_mv 144 em_322 (ce_at ce_322 77 rfl) rfl rfl ?_
    refine e_get 147 em_322 (ce_at ce_322 78 rfl) tq_121 rfl rfl ?_
    refine e_op 148 em_322 (ce_at ce_322 79 rfl) rfl rfl ?_
    refine e_iadd 149 em_322 rfl (ce_at ce_322 80 rfl) ?_
    refine e_put 152 em_322 (ce_at ce_322 81 rfl) tq_121 rfl rfl rfl (fun s5 => ?_)
    refine e_pk [0, 1, 2, 3, 6] rfl rfl ?_
    exact tm_declares_152 w d hd _ _ _ _ _
theorem fm_declares_123 (v1 : Int) (v2 : Int) (v3 : Int) (v6 : Int) (t0 : Int) (t1 : Int) (t2 : Int) (t3 : Int) (t4 : Int) (s : iS) : Fm (fun r : (Int × iS) ⊕ ((iS) ⊕ ((iS) ⊕ (iS))) => r.elim (fun l => l.2) (fun e => e.elim (fun e => e) (fun e => e.elim (fun e => e) (fun e => e)))) L_m_declares G_m_declares s (m_declares_123 v1 v2 v3 v6 t0 t1 t2 t3 t4 s) := fm_bd (fm_sub (fm_declare _ _ _ _ _ _ _) (mem_sub_L rfl) (mem_sub_F rfl)) (fun r1 s1 => fm_gd (fm_if (fm_lt (md_upF (mem_F rfl)) (fun s4 => fm_lt (md_upF (mem_F rfl)) (fun s5 => fm_declares_152 _ _ _ _ _))) (fm_declares_152 _ _ _ _ _)))
noncomputable def m_declares_84 (v1 : Int) (v2 : Int) (v3 : Int) (v5 : Int) (t0 : Int) (s : iS) : Option ((Int × iS) ⊕ ((iS) ⊕ ((iS) ⊕ (iS)))) := bd (m_room t0 12 v5 s) (fun _ s1 => gd (rg (s1 121 11)) (if (s1 121 11) ≤ 0 then gd (rg v2) (if v2 = 0 then m_declares_123 v1 v2 v3 t0 (s1 121 60) v5 v3 v2 v1 s1 else m_declares_123 v1 v2 v3 t0 t0 v5 v3 v2 v1 s1) else some (.inr (.inr (.inl s1)))))
theorem tm_declares_84 (w : ev_W) (d : Nat) (hd : 3 ≤ d) (v1 : Int) (v2 : Int) (v3 : Int) (v5 : Int) (t0 : Int) (s : iS) : Ew hT w d 322 84 [(0, .ref (tb_nK + 121)), (1, iv v1), (2, iv v2), (3, iv v3), (5, iv v5)] [iv t0] s (m_declares_12C w d v1 v2 v3) (m_declares_84 v1 v2 v3 v5 t0 s) := by
  unfold m_declares_84
  refine e_mv 86 em_322 (ce_at ce_322 45 rfl) rfl rfl ?_
  refine e_mv 87 em_322 (ce_at ce_322 46 rfl) rfl rfl ?_
  refine e_mv 89 em_322 (ce_at ce_322 47 rfl) rfl rfl ?_
  refine e_bip 91 em_322 (ce_at ce_322 48 rfl) (by decide) rfl ?_
  refine e_mv 93 em_322 (ce_at ce_322 49 rfl) rfl rfl ?_
  refine e_ivv 96 em_322 (ce_at ce_322 50 rfl) (by omega) (iv_v3 (by decide) tq_121 rfl) em_318 (Nat.le_of_ble_eq_true rfl) rfl (tm_room w (d - 1) (by omega) _ _ _ _) (fun r1 s1 => ?_)
  refine e_mv 97 em_322 (ce_at ce_322 51 rfl) rfl rfl ?_
  refine e_get 100 em_322 (ce_at ce_322 52 rfl) tq_121 rfl rfl ?_
  refine e_gd fun g2 => ?_
  refine e_ifle 104 103 em_322 rfl rfl (ce_at ce_322 53 rfl) g2 (fun h3 => ?_) (fun h3 => ?_)
  · refine e_mv 105 em_322 (ce_at ce_322 55 rfl) rfl rfl ?_
    refine e_mv 106 em_322 (ce_at ce_322 56 rfl) rfl rfl ?_
    refine e_mv 107 em_322 (ce_at ce_322 57 rfl) rfl rfl ?_
    refine e_mv 108 em_322 (ce_at ce_322 58 rfl) rfl rfl ?_
    refine e_mv 110 em_322 (ce_at ce_322 59 rfl) rfl rfl ?_
    refine e_mv 111 em_322 (ce_at ce_322 60 rfl) rfl rfl ?_
    refine e_gd fun g4 => ?_
    refine e_ifne 121 114 em_322 rfl rfl (ce_at ce_322 61 rfl) g4 (fun h5 => ?_) (fun h5 => ?_)
    · refine e_mv 123 em_322 (ce_at ce_322 65 rfl) rfl rfl ?_
      refine e_pk [0, 1, 2, 3, 6] rfl rfl ?_
      exact tm_declares_123 w d hd _ _ _ _ _ _ _ _ _ _
    · refine e_mv 115 em_322 (ce_at ce_322 62 rfl) rfl rfl ?_
      refine e_get 118 em_322 (ce_at ce_322 63 rfl) tq_121 rfl rfl ?_
      refine e_goto em_322 123 (ce_at ce_322 64 rfl) rfl ?_
      refine e_pk [0, 1, 2, 3, 6] rfl rfl ?_
      exact tm_declares_123 w d hd _ _ _ _ _ _ _ _ _ _
  · refine e_pk [] rfl rfl ?_
    exact e_out (fun r h => h)
theorem fm_declares_84 (v1 : Int) (v2 : Int) (v3 : Int) (v5 : Int) (t0 : Int) (s : iS) : Fm (fun r : (Int × iS) ⊕ ((iS) ⊕ ((iS) ⊕ (iS))) => r.elim (fun l => l.2) (fun e => e.elim (fun e => e) (fun e => e.elim (fun e => e) (fun e => e)))) L_m_declares G_m_declares s (m_declares_84 v1 v2 v3 v5 t0 s) := fm_bd (fm_sub (fm_room _ _ _ _) (mem_sub_L rfl) (mem_sub_F rfl)) (fun r1 s1 => fm_gd (fm_if (fm_gd (fm_if (fm_declares_123 _ _ _ _ _ _ _ _ _ _) (fm_declares_123 _ _ _ _ _ _ _ _ _ _))) (fm_some md_refl)))
noncomputable def m_declares_12b (v1 : Int) (v2 : Int) (v3 : Int) (v4 : Int) (s : iS) : Option ((Int × iS) ⊕ ((iS) ⊕ ((iS) ⊕ (iS)))) := gd (rg v4) (if v4 = 0 then some (.inr (.inr (.inr s))) else gd (rg (s 121 11)) (if (s 121 11) = 0 then gd (0 ≤ (s 121 10) ∧ (s 121 10) < 2002) (gd (rg (s 124 (s 121 10).toNat)) (if (s 124 (s 121 10).toNat) = 1 then gd (rg v2) (if v2 = 0 then m_declares_84 v1 v2 v3 (s 121 10) (s 121 16) s else if v2 = 1 then gd (0 ≤ ((s 121 14) - 1) ∧ ((s 121 14) - 1) < 13) (m_declares_84 v1 v2 v3 (s 121 10) (s 129 ((s 121 14) - 1).toNat) s) else gd (0 ≤ v1 ∧ v1 < 61) (m_declares_84 v1 v2 v3 (s 121 10) (s 135 v1.toNat) s)) else some (.inr (.inl s)))) else some (.inr (.inr (.inr s)))))
theorem tm_declares_12b (w : ev_W) (d : Nat) (hd : 3 ≤ d) (v1 : Int) (v2 : Int) (v3 : Int) (v4 : Int) (s : iS) : Ew hT w d 322 12 [(0, .ref (tb_nK + 121)), (1, iv v1), (2, iv v2), (3, iv v3), (4, iv v4)] [] s (m_declares_12C w d v1 v2 v3) (m_declares_12b v1 v2 v3 v4 s) := by
  unfold m_declares_12b
  refine e_mv 14 em_322 (ce_at ce_322 7 rfl) rfl rfl ?_
  refine e_gd fun g1 => ?_
  refine e_ifeq 211 17 em_322 rfl rfl (ce_at ce_322 8 rfl) g1 (fun h2 => ?_) (fun h2 => ?_)
  · refine e_pk [0] rfl rfl ?_
    exact e_out (fun r h => h)
  · refine e_mv 18 em_322 (ce_at ce_322 9 rfl) rfl rfl ?_
    refine e_get 21 em_322 (ce_at ce_322 10 rfl) tq_121 rfl rfl ?_
    refine e_gd fun g3 => ?_
    refine e_ifne 211 24 em_322 rfl rfl (ce_at ce_322 11 rfl) g3 (fun h4 => ?_) (fun h4 => ?_)
    · refine e_pk [0] rfl rfl ?_
      exact e_out (fun r h => h)
    · refine e_mv 25 em_322 (ce_at ce_322 12 rfl) rfl rfl ?_
      refine e_get 28 em_322 (ce_at ce_322 13 rfl) tq_121 rfl rfl ?_
      refine e_mv 30 em_322 (ce_at ce_322 14 rfl) rfl rfl ?_
      refine e_mv 31 em_322 (ce_at ce_322 15 rfl) rfl rfl ?_
      refine e_getr 34 em_322 (ce_at ce_322 16 rfl) tq_121 rfl rfl ?_
      refine e_mv 35 em_322 (ce_at ce_322 17 rfl) rfl rfl ?_
      refine e_get 38 em_322 (ce_at ce_322 18 rfl) tq_121 rfl rfl ?_
      refine e_gd fun g5 => ?_
      refine e_ild 39 em_322 (ce_at ce_322 19 rfl) tq_124 (by decide) g5 rfl ?_
      refine e_op 40 em_322 (ce_at ce_322 20 rfl) rfl rfl ?_
      refine e_gd fun g6 => ?_
      refine e_cmeq 48 43 em_322 rfl rfl (ce_at ce_322 21 rfl) g6 (by decide) (fun h7 => ?_) (fun h7 => ?_)
      · refine e_mv 49 em_322 (ce_at ce_322 25 rfl) rfl rfl ?_
        refine e_gd fun g8 => ?_
        refine e_ifne 59 52 em_322 rfl rfl (ce_at ce_322 26 rfl) g8 (fun h9 => ?_) (fun h9 => ?_)
        · refine e_mv 60 em_322 (ce_at ce_322 30 rfl) rfl rfl ?_
          refine e_op 61 em_322 (ce_at ce_322 31 rfl) rfl rfl ?_
          refine e_cmne 78 64 em_322 rfl rfl (ce_at ce_322 32 rfl) g8 (by decide) (fun h10 => ?_) (fun h10 => ?_)
          · refine e_mv 79 em_322 (ce_at ce_322 41 rfl) rfl rfl ?_
            refine e_getr 82 em_322 (ce_at ce_322 42 rfl) tq_121 rfl rfl ?_
            refine e_mv 83 em_322 (ce_at ce_322 43 rfl) rfl rfl ?_
            refine e_gd fun g11 => ?_
            refine e_ild 84 em_322 (ce_at ce_322 44 rfl) tq_135 (by decide) g11 rfl ?_
            refine e_pk [0, 1, 2, 3, 5] rfl rfl ?_
            exact tm_declares_84 w d hd _ _ _ _ _ _
          · refine e_mv 65 em_322 (ce_at ce_322 33 rfl) rfl rfl ?_
            refine e_getr 68 em_322 (ce_at ce_322 34 rfl) tq_121 rfl rfl ?_
            refine e_mv 69 em_322 (ce_at ce_322 35 rfl) rfl rfl ?_
            refine e_get 72 em_322 (ce_at ce_322 36 rfl) tq_121 rfl rfl ?_
            refine e_op 73 em_322 (ce_at ce_322 37 rfl) rfl rfl ?_
            refine e_isub 74 em_322 rfl (ce_at ce_322 38 rfl) ?_
            refine e_gd fun g12 => ?_
            refine e_ild 75 em_322 (ce_at ce_322 39 rfl) tq_129 (by decide) g12 rfl ?_
            refine e_goto em_322 84 (ce_at ce_322 40 rfl) rfl ?_
            refine e_pk [0, 1, 2, 3, 5] rfl rfl ?_
            exact tm_declares_84 w d hd _ _ _ _ _ _
        · refine e_mv 53 em_322 (ce_at ce_322 27 rfl) rfl rfl ?_
          refine e_get 56 em_322 (ce_at ce_322 28 rfl) tq_121 rfl rfl ?_
          refine e_goto em_322 84 (ce_at ce_322 29 rfl) rfl ?_
          refine e_pk [0, 1, 2, 3, 5] rfl rfl ?_
          exact tm_declares_84 w d hd _ _ _ _ _ _
      · refine e_pk [0] rfl rfl ?_
        exact e_out (fun r h => h)
theorem fm_declares_12b (v1 : Int) (v2 : Int) (v3 : Int) (v4 : Int) (s : iS) : Fm (fun r : (Int × iS) ⊕ ((iS) ⊕ ((iS) ⊕ (iS))) => r.elim (fun l => l.2) (fun e => e.elim (fun e => e) (fun e => e.elim (fun e => e) (fun e => e)))) L_m_declares G_m_declares s (m_declares_12b v1 v2 v3 v4 s) := fm_gd (fm_if (fm_some md_refl) (fm_gd (fm_if (fm_gd (fm_gd (fm_if (fm_gd (fm_if (fm_declares_84 _ _ _ _ _ _) (fm_if (fm_gd (fm_declares_84 _ _ _ _ _ _)) (fm_gd (fm_declares_84 _ _ _ _ _ _))))) (fm_some md_refl)))) (fm_some md_refl))))
noncomputable def m_declares_43 (s : iS) : Option (Int × iS) := bd (m_syntax s) (fun _ s1 => some (0, s1))
theorem tm_declares_43 (w : ev_W) (d : Nat) (hd : 3 ≤ d) (s : iS) : Ew hT w d 322 43 [(0, .ref (tb_nK + 121))] [] s (Cv hT) (m_declares_43 s) := by
  unfold m_declares_43
  refine e_mv 44 em_322 (ce_at ce_322 22 rfl) rfl rfl ?_
  refine e_ivv 47 em_322 (ce_at ce_322 23 rfl) (by omega) (iv_v0 (by decide) tq_121 rfl) em_316 (Nat.le_of_ble_eq_true rfl) rfl (tm_syntax w (d - 1) (by omega) _) (fun r1 s1 => ?_)
  exact e_retv em_322 (ce_at ce_322 24 rfl)
theorem fm_declares_43 (s : iS) : Fm Prod.snd L_m_declares G_m_declares s (m_declares_43 s) := fm_bd (fm_sub (fm_syntax _) (mem_sub_L rfl) (mem_sub_F rfl)) (fun r1 s1 => fm_some md_refl)
noncomputable def m_declares_211 (s : iS) : Option (Int × iS) := bd (m_needSign 59 s) (fun _ s1 => some (0, s1))
theorem tm_declares_211 (w : ev_W) (d : Nat) (hd : 3 ≤ d) (s : iS) : Ew hT w d 322 211 [(0, .ref (tb_nK + 121))] [] s (Cv hT) (m_declares_211 s) := by
  unfold m_declares_211
  refine e_mv 212 em_322 (ce_at ce_322 116 rfl) rfl rfl ?_
  refine e_bip 214 em_322 (ce_at ce_322 117 rfl) (by decide) rfl ?_
  refine e_ivv 217 em_322 (ce_at ce_322 118 rfl) (by omega) (iv_v1 (by decide) tq_121 rfl) em_325 (Nat.le_of_ble_eq_true rfl) rfl (tm_needSign w (d - 1) (by omega) _ _) (fun r1 s1 => ?_)
  exact e_retv em_322 (ce_at ce_322 119 rfl)
theorem fm_declares_211 (s : iS) : Fm Prod.snd L_m_declares G_m_declares s (m_declares_211 s) := fm_bd (fm_sub (fm_needSign _ _) (mem_sub_L rfl) (mem_sub_F rfl)) (fun r1 s1 => fm_some md_refl)
noncomputable def m_declares_12 (v1 : Int) (v2 : Int) (v3 : Int) (v4 : Int) (s : iS) : Option (Int × iS) := (lp (L := Int × iS) (E := (iS) ⊕ ((iS) ⊕ (iS))) (fun l => m_declares_12b v1 v2 v3 (l.1) (l.2)) (v4, s)).bind (fun e => e.elim (fun e => m_declares_43 e) (fun e => e.elim (fun e => some (0, e)) (fun e => m_declares_211 e)))
theorem tm_declares_12 (w : ev_W) (d : Nat) (hd : 3 ≤ d) (v1 : Int) (v2 : Int) (v3 : Int) (v4 : Int) (s : iS) : Ew hT w d 322 12 [(0, .ref (tb_nK + 121)), (1, iv v1), (2, iv v2), (3, iv v3), (4, iv v4)] [] s (Cv hT) (m_declares_12 v1 v2 v3 v4 s) := by
  unfold m_declares_12
  refine e_lp (L := Int × iS) (E := (iS) ⊕ ((iS) ⊕ (iS))) (LO := fun l => [(0, .ref (tb_nK + 121)), (1, iv v1), (2, iv v2), (3, iv v3), (4, iv (l.1))]) (LS := fun l => l.2) (CE := fun e r => e.elim (fun e => ev w d 322 43 [(0, .ref (tb_nK + 121))] [] (hT (e)) r) (fun e => e.elim (fun e => ev w d 322 103 [] [] (hT (e)) r) (fun e => ev w d 322 211 [(0, .ref (tb_nK + 121))] [] (hT (e)) r))) (fun l => tm_declares_12b w d hd _ _ _ _ _) ?_ (v4, s)
  rintro (e | e | e)
  · show Ew hT w d 322 43 [(0, .ref (tb_nK + 121))] [] e (Cv hT) _
    refine e_pk [0] rfl rfl ?_
    exact tm_declares_43 w d hd _
  · show Ew hT w d 322 103 [] [] e (Cv hT) _
    exact e_retv em_322 (ce_at ce_322 54 rfl)
  · show Ew hT w d 322 211 [(0, .ref (tb_nK + 121))] [] e (Cv hT) _
    refine e_pk [0] rfl rfl ?_
    exact tm_declares_211 w d hd _
theorem fm_declares_12 (v1 : Int) (v2 : Int) (v3 : Int) (v4 : Int) (s : iS) : Fm Prod.snd L_m_declares G_m_declares s (m_declares_12 v1 v2 v3 v4 s) := by
  unfold m_declares_12
  refine fm_lp (A := Int × iS) (E := (iS) ⊕ ((iS) ⊕ (iS))) (LS := fun l => l.2) (LE := fun e => e.elim (fun e => e) (fun e => e.elim (fun e => e) (fun e => e))) ?_ ?_ (v4, s)
  · exact fun l => fm_declares_12b _ _ _ _ _
  · exact (by rintro (e | e | e); exact fm_declares_43 _; exact fm_some md_refl; exact fm_declares_211 _)
noncomputable def m_declares (v1 : Int) (v2 : Int) (s : iS) : Option (Int × iS) := bd (m_go s) (fun _ s1 => bd (m_type s1) (fun r2 s2 => m_declares_12 v1 v2 r2 1 s2))
theorem tm_declares (w : ev_W) (d : Nat) (hd : 3 ≤ d) (v1 : Int) (v2 : Int) (s : iS) : Ew hT w d 322 0 [(0, .ref (tb_nK + 121)), (1, iv v1), (2, iv v2)] [] s (Cv hT) (m_declares v1 v2 s) := by
  unfold m_declares
  refine e_mv 1 em_322 (ce_at ce_322 0 rfl) rfl rfl ?_
  refine e_ivv 4 em_322 (ce_at ce_322 1 rfl) (by omega) (iv_v0 (by decide) tq_121 rfl) em_315 (Nat.le_of_ble_eq_true rfl) rfl (tm_go w (d - 1) (by omega) _) (fun r1 s1 => ?_)
  refine e_mv 5 em_322 (ce_at ce_322 2 rfl) rfl rfl ?_
  refine e_ivi 8 em_322 (ce_at ce_322 3 rfl) (by omega) (iv_v0 (by decide) tq_121 rfl) em_323 (Nat.le_of_ble_eq_true rfl) rfl (tm_type w (d - 1) (by omega) _) (fun r2 s2 => ?_)
  refine e_mv 9 em_322 (ce_at ce_322 4 rfl) rfl rfl ?_
  refine e_op 10 em_322 (ce_at ce_322 5 rfl) rfl rfl ?_
  refine e_mv 12 em_322 (ce_at ce_322 6 rfl) rfl rfl ?_
  refine e_pk [0, 1, 2, 3, 4] rfl rfl ?_
  exact tm_declares_12 w d hd _ _ _ _ _
theorem fm_declares (v1 : Int) (v2 : Int) (s : iS) : Fm Prod.snd L_m_declares G_m_declares s (m_declares v1 v2 s) := fm_bd (fm_sub (fm_go _) (mem_sub_L rfl) (mem_sub_F rfl)) (fun r1 s1 => fm_bd (fm_sub (fm_type _) (mem_sub_L rfl) (mem_sub_F rfl)) (fun r2 s2 => fm_declares_12 _ _ _ _ _))
/-! m_parameters -/
def L_m_parameters : List Nat := [134, 137, 138, 139, 140, 141, 142, 143]
def G_m_parameters : List (Nat × Nat) := [(121, 10), (121, 11), (121, 12), (121, 25)]
def m_parameters_21C (w : ev_W) (d : Nat) (v1 : Int) : (Int × iS) ⊕ ((iS) ⊕ ((iS) ⊕ (iS))) → am_E → Prop := fun q r => q.elim (fun l => ev w d 327 21 ((fun l => [(0, .ref (tb_nK + 121)), (1, iv v1), (2, iv (l.1))]) l) [] (hT ((fun l => l.2) l)) r) (fun e => (fun e r => e.elim (fun e => ev w d 327 44 [] [] (hT (e)) r) (fun e => e.elim (fun e => ev w d 327 58 [(0, .ref (tb_nK + 121))] [] (hT (e)) r) (fun e => ev w d 327 138 [(0, .ref (tb_nK + 121))] [] (hT (e)) r))) e r)
noncomputable def m_parameters_21b (v1 : Int) (v2 : Int) (s : iS) : Option ((Int × iS) ⊕ ((iS) ⊕ ((iS) ⊕ (iS)))) := gd (rg v2) (if v2 = 0 then some (.inr (.inr (.inr s))) else gd (rg (s 121 11)) (if (s 121 11) = 0 then bd (m_type s) (fun r5 s5 => gd (rg (s5 121 11)) (if (s5 121 11) ≤ 0 then gd (0 ≤ (s5 121 10) ∧ (s5 121 10) < 2002) (gd (rg (s5 124 (s5 121 10).toNat)) (if (s5 124 (s5 121 10).toNat) = 1 then gd (0 ≤ v1 ∧ v1 < 61) (bd (m_room (s5 134 v1.toNat) 12 (s5 121 10) s5) (fun _ s12 => bd (m_declare v1 2 r5 (s12 121 10) (s12 134 v1.toNat) (s12 134 v1.toNat) s12) (fun _ s13 => lt' (up s13 134 v1.toNat ((s13 134 v1.toNat) + 1)) (fun s14 => bd (m_go s14) (fun _ s15 => bd (m_isSign 44 s15) (fun r16 s16 => gd (rg r16) (if r16 = 0 then some (.inl (r16, s16)) else bd (m_go s16) (fun _ s19 => some (.inl (r16, s19)))))))))) else some (.inr (.inr (.inl s5))))) else some (.inr (.inl s5)))) else some (.inr (.inr (.inr s)))))
theorem tm_parameters_21b (w : ev_W) (d : Nat) (hd : 3 ≤ d) (v1 : Int) (v2 : Int) (s : iS) : Ew hT w d 327 21 [(0, .ref (tb_nK + 121)), (1, iv v1), (2, iv v2)] [] s (m_parameters_21C w d v1) (m_parameters_21b v1 v2 s) := by
  unfold m_parameters_21b
  refine e_mv 22 em_327 (ce_at ce_327 11 rfl) rfl rfl ?_
  refine e_gd fun g1 => ?_
  refine e_ifeq 138 25 em_327 rfl rfl (ce_at ce_327 12 rfl) g1 (fun h2 => ?_) (fun h2 => ?_)
  · refine e_pk [0] rfl rfl ?_
    exact e_out (fun r h => h)
  · refine e_mv 26 em_327 (ce_at ce_327 13 rfl) rfl rfl ?_
    refine e_get 29 em_327 (ce_at ce_327 14 rfl) tq_121 rfl rfl ?_
    refine e_gd fun g3 => ?_
    refine e_ifne 138 32 em_327 rfl rfl (ce_at ce_327 15 rfl) g3 (fun h4 => ?_) (fun h4 => ?_)
    · refine e_pk [0] rfl rfl ?_
      exact e_out (fun r h => h)
    · refine e_mv 33 em_327 (ce_at ce_327 16 rfl) rfl rfl ?_
      refine e_ivi 36 em_327 (ce_at ce_327 17 rfl) (by omega) (iv_v0 (by decide) tq_121 rfl) em_323 (Nat.le_of_ble_eq_true rfl) rfl (tm_type w (d - 1) (by omega) _) (fun r5 s5 => ?_)
      refine e_mv 37 em_327 (ce_at ce_327 18 rfl) rfl rfl ?_
      refine e_mv 38 em_327 (ce_at ce_327 19 rfl) rfl rfl ?_
      refine e_get 41 em_327 (ce_at ce_327 20 rfl) tq_121 rfl rfl ?_
      refine e_gd fun g6 => ?_
      refine e_ifle 45 44 em_327 rfl rfl (ce_at ce_327 21 rfl) g6 (fun h7 => ?_) (fun h7 => ?_)
      · refine e_mv 46 em_327 (ce_at ce_327 23 rfl) rfl rfl ?_
        refine e_getr 49 em_327 (ce_at ce_327 24 rfl) tq_121 rfl rfl ?_
        refine e_mv 50 em_327 (ce_at ce_327 25 rfl) rfl rfl ?_
        refine e_get 53 em_327 (ce_at ce_327 26 rfl) tq_121 rfl rfl ?_
        refine e_gd fun g8 => ?_
        refine e_ild 54 em_327 (ce_at ce_327 27 rfl) tq_124 (by decide) g8 rfl ?_
        refine e_op 55 em_327 (ce_at ce_327 28 rfl) rfl rfl ?_
        refine e_gd fun g9 => ?_
        refine e_cmeq 63 58 em_327 rfl rfl (ce_at ce_327 29 rfl) g9 (by decide) (fun h10 => ?_) (fun h10 => ?_)
        · refine e_mv 64 em_327 (ce_at ce_327 33 rfl) rfl rfl ?_
          refine e_mv 65 em_327 (ce_at ce_327 34 rfl) rfl rfl ?_
          refine e_getr 68 em_327 (ce_at ce_327 35 rfl) tq_121 rfl rfl ?_
          refine e_mv 69 em_327 (ce_at ce_327 36 rfl) rfl rfl ?_
          refine e_gd fun g11 => ?_
          refine e_ild 70 em_327 (ce_at ce_327 37 rfl) tq_134 (by decide) g11 rfl ?_
          refine e_bip 72 em_327 (ce_at ce_327 38 rfl) (by decide) rfl ?_
          refine e_mv 73 em_327 (ce_at ce_327 39 rfl) rfl rfl ?_
          refine e_get 76 em_327 (ce_at ce_327 40 rfl) tq_121 rfl rfl ?_
          refine e_ivv 79 em_327 (ce_at ce_327 41 rfl) (by omega) (iv_v3 (by decide) tq_121 rfl) em_318 (Nat.le_of_ble_eq_true rfl) rfl (tm_room w (d - 1) (by omega) _ _ _ _) (fun r12 s12 => ?_)
          refine e_mv 80 em_327 (ce_at ce_327 42 rfl) rfl rfl ?_
          refine e_mv 81 em_327 (ce_at ce_327 43 rfl) rfl rfl ?_
          refine e_op 82 em_327 (ce_at ce_327 44 rfl) rfl rfl ?_
          refine e_mv 83 em_327 (ce_at ce_327 45 rfl) rfl rfl ?_
          refine e_mv 84 em_327 (ce_at ce_327 46 rfl) rfl rfl ?_
          refine e_get 87 em_327 (ce_at ce_327 47 rfl) tq_121 rfl rfl ?_
          refine e_mv 88 em_327 (ce_at ce_327 48 rfl) rfl rfl ?_
          refine e_getr 91 em_327 (ce_at ce_327 49 rfl) tq_121 rfl rfl ?_
          refine e_mv 92 em_327 (ce_at ce_327 50 rfl) rfl rfl ?_
          refine e_ild 93 em_327 (ce_at ce_327 51 rfl) tq_134 (by decide) g11 rfl ?_
          refine e_mv 94 em_327 (ce_at ce_327 52 rfl) rfl rfl ?_
          refine e_getr 97 em_327 (ce_at ce_327 53 rfl) tq_121 rfl rfl ?_
          refine e_mv 98 em_327 (ce_at ce_327 54 rfl) rfl rfl ?_
          refine e_ild 99 em_327 (ce_at ce_327 55 rfl) tq_134 (by decide) g11 rfl ?_
          refine e_ivv 102 em_327 (ce_at ce_327 56 rfl) (by omega) (iv_v6 (by decide) tq_121 rfl) em_324 (Nat.le_of_ble_eq_true rfl) rfl (tm_declare w (d - 1) (by omega) _ _ _ _ _ _ _) (fun r13 s13 => ?_)
          refine e_mv 103 em_327 (ce_at ce_327 57 rfl) rfl rfl ?_
          refine e_getr 106 em_327 (ce_at ce_327 58 rfl) tq_121 rfl rfl ?_
          refine e_mv 107 em_327 (ce_at ce_327 59 rfl) rfl rfl ?_
          refine e_mv 108 em_327 (ce_at ce_327 60 rfl) rfl rfl ?_
          refine e_getr 111 em_327 (ce_at ce_327 61 rfl) tq_121 rfl rfl ?_
          refine e_mv 112 em_327 (ce_at ce_327 62 rfl) rfl rfl ?_
          refine e_ild 113 em_327 (ce_at ce_327 63 rfl) tq_134 (by decide) g11 rfl ?_
          refine e_op 114 em_327 (ce_at ce_327 64 rfl) rfl rfl ?_
          refine e_iadd 115 em_327 rfl (ce_at ce_327 65 rfl) ?_
          refine e_ist 116 em_327 (ce_at ce_327 66 rfl) tq_134 (by decide) g11 rfl (fun s14 => ?_)
          refine e_mv 117 em_327 (ce_at ce_327 67 rfl) rfl rfl ?_
          refine e_ivv 120 em_327 (ce_at ce_327 68 rfl) (by omega) (iv_v0 (by decide) tq_121 rfl) em_315 (Nat.le_of_ble_eq_true rfl) rfl (tm_go w (d - 1) (by omega) _) (fun r15 s15 => ?_)
          refine e_mv 121 em_327 (ce_at ce_327 69 rfl) rfl rfl ?_
          refine e_bip 123 em_327 (ce_at ce_327 70 rfl) (by decide) rfl ?_
          refine e_ivi 126 em_327 (ce_at ce_327 71 rfl) (by omega) (iv_v1 (by decide) tq_121 rfl) em_320 (Nat.le_of_ble_eq_true rfl) rfl (tm_isSign w (d - 1) (by omega) _ _) (fun r16 s16 => ?_)
          refine e_mv 127 em_327 (ce_at ce_327 72 rfl) rfl rfl ?_
          refine e_mv 128 em_327 (ce_at ce_327 73 rfl) rfl rfl ?_
          refine e_gd fun g17 => ?_
          refine e_ifeq 135 131 em_327 rfl rfl (ce_at ce_327 74 rfl) g17 (fun h18 => ?_) (fun h18 => ?_)
          · refine e_goto em_327 21 (ce_at ce_327 77 rfl) rfl ?_
            refine e_pk [0, 1, 2] rfl rfl ?_
            exact e_out (fun r h => h)
          · refine e_mv 132 em_327 (ce_at ce_327 75 rfl) rfl rfl ?_
            refine e_ivv 135 em_327 (ce_at ce_327 76 rfl) (by omega) (iv_v0 (by decide) tq_121 rfl) em_315 (Nat.le_of_ble_eq_true rfl) rfl (tm_go w (d - 1) (by omega) _) (fun r19 s19 => ?_)
            refine e_goto em_327 21 (ce_at ce_327 77 rfl) rfl ?_
            refine e_pk [0, 1, 2] rfl rfl ?_
            exact e_out (fun r h => h)
        · refine e_pk [0] rfl rfl ?_
          exact e_out (fun r h => h)
      · refine e_pk [] rfl rfl ?_
        exact e_out (fun r h => h)
theorem fm_parameters_21b (v1 : Int) (v2 : Int) (s : iS) : Fm (fun r : (Int × iS) ⊕ ((iS) ⊕ ((iS) ⊕ (iS))) => r.elim (fun l => l.2) (fun e => e.elim (fun e => e) (fun e => e.elim (fun e => e) (fun e => e)))) L_m_parameters G_m_parameters s (m_parameters_21b v1 v2 s) := fm_gd (fm_if (fm_some md_refl) (fm_gd (fm_if (fm_bd (fm_sub (fm_type _) (mem_sub_L rfl) (mem_sub_F rfl)) (fun r5 s5 => fm_gd (fm_if (fm_gd (fm_gd (fm_if (fm_gd (fm_bd (fm_sub (fm_room _ _ _ _) (mem_sub_L rfl) (mem_sub_F rfl)) (fun r12 s12 => fm_bd (fm_sub (fm_declare _ _ _ _ _ _ _) (mem_sub_L rfl) (mem_sub_F rfl)) (fun r13 s13 => fm_lt (md_upL (mem_L rfl)) (fun s14 => fm_bd (fm_sub (fm_go _) (mem_sub_L rfl) (mem_sub_F rfl)) (fun r15 s15 => fm_bd (fm_sub (fm_isSign _ _) (mem_sub_L rfl) (mem_sub_F rfl)) (fun r16 s16 => fm_gd (fm_if (fm_some md_refl) (fm_bd (fm_sub (fm_go _) (mem_sub_L rfl) (mem_sub_F rfl)) (fun r19 s19 => fm_some md_refl)))))))))) (fm_some md_refl)))) (fm_some md_refl)))) (fm_some md_refl))))
noncomputable def m_parameters_58 (s : iS) : Option (Int × iS) := bd (m_syntax s) (fun _ s1 => some (0, s1))
theorem tm_parameters_58 (w : ev_W) (d : Nat) (hd : 3 ≤ d) (s : iS) : Ew hT w d 327 58 [(0, .ref (tb_nK + 121))] [] s (Cv hT) (m_parameters_58 s) := by
  unfold m_parameters_58
  refine e_mv 59 em_327 (ce_at ce_327 30 rfl) rfl rfl ?_
  refine e_ivv 62 em_327 (ce_at ce_327 31 rfl) (by omega) (iv_v0 (by decide) tq_121 rfl) em_316 (Nat.le_of_ble_eq_true rfl) rfl (tm_syntax w (d - 1) (by omega) _) (fun r1 s1 => ?_)
  exact e_retv em_327 (ce_at ce_327 32 rfl)
theorem fm_parameters_58 (s : iS) : Fm Prod.snd L_m_parameters G_m_parameters s (m_parameters_58 s) := fm_bd (fm_sub (fm_syntax _) (mem_sub_L rfl) (mem_sub_F rfl)) (fun r1 s1 => fm_some md_refl)
noncomputable def m_parameters_138 (s : iS) : Option (Int × iS) := bd (m_needSign 41 s) (fun _ s1 => some (0, s1))
theorem tm_parameters_138 (w : ev_W) (d : Nat) (hd : 3 ≤ d) (s : iS) : Ew hT w d 327 138 [(0, .ref (tb_nK + 121))] [] s (Cv hT) (m_parameters_138 s) := by
  unfold m_parameters_138
  refine e_mv 139 em_327 (ce_at ce_327 78 rfl) rfl rfl ?_
  refine e_bip 141 em_327 (ce_at ce_327 79 rfl) (by decide) rfl ?_
  refine e_ivv 144 em_327 (ce_at ce_327 80 rfl) (by omega) (iv_v1 (by decide) tq_121 rfl) em_325 (Nat.le_of_ble_eq_true rfl) rfl (tm_needSign w (d - 1) (by omega) _ _) (fun r1 s1 => ?_)
  exact e_retv em_327 (ce_at ce_327 81 rfl)
theorem fm_parameters_138 (s : iS) : Fm Prod.snd L_m_parameters G_m_parameters s (m_parameters_138 s) := fm_bd (fm_sub (fm_needSign _ _) (mem_sub_L rfl) (mem_sub_F rfl)) (fun r1 s1 => fm_some md_refl)
noncomputable def m_parameters_21 (v1 : Int) (v2 : Int) (s : iS) : Option (Int × iS) := (lp (L := Int × iS) (E := (iS) ⊕ ((iS) ⊕ (iS))) (fun l => m_parameters_21b v1 (l.1) (l.2)) (v2, s)).bind (fun e => e.elim (fun e => some (0, e)) (fun e => e.elim (fun e => m_parameters_58 e) (fun e => m_parameters_138 e)))
theorem tm_parameters_21 (w : ev_W) (d : Nat) (hd : 3 ≤ d) (v1 : Int) (v2 : Int) (s : iS) : Ew hT w d 327 21 [(0, .ref (tb_nK + 121)), (1, iv v1), (2, iv v2)] [] s (Cv hT) (m_parameters_21 v1 v2 s) := by
  unfold m_parameters_21
  refine e_lp (L := Int × iS) (E := (iS) ⊕ ((iS) ⊕ (iS))) (LO := fun l => [(0, .ref (tb_nK + 121)), (1, iv v1), (2, iv (l.1))]) (LS := fun l => l.2) (CE := fun e r => e.elim (fun e => ev w d 327 44 [] [] (hT (e)) r) (fun e => e.elim (fun e => ev w d 327 58 [(0, .ref (tb_nK + 121))] [] (hT (e)) r) (fun e => ev w d 327 138 [(0, .ref (tb_nK + 121))] [] (hT (e)) r))) (fun l => tm_parameters_21b w d hd _ _ _) ?_ (v2, s)
  rintro (e | e | e)
  · show Ew hT w d 327 44 [] [] e (Cv hT) _
    exact e_retv em_327 (ce_at ce_327 22 rfl)
  · show Ew hT w d 327 58 [(0, .ref (tb_nK + 121))] [] e (Cv hT) _
    refine e_pk [0] rfl rfl ?_
    exact tm_parameters_58 w d hd _
  · show Ew hT w d 327 138 [(0, .ref (tb_nK + 121))] [] e (Cv hT) _
    refine e_pk [0] rfl rfl ?_
    exact tm_parameters_138 w d hd _
theorem fm_parameters_21 (v1 : Int) (v2 : Int) (s : iS) : Fm Prod.snd L_m_parameters G_m_parameters s (m_parameters_21 v1 v2 s) := by
  unfold m_parameters_21
  refine fm_lp (A := Int × iS) (E := (iS) ⊕ ((iS) ⊕ (iS))) (LS := fun l => l.2) (LE := fun e => e.elim (fun e => e) (fun e => e.elim (fun e => e) (fun e => e))) ?_ ?_ (v2, s)
  · exact fun l => fm_parameters_21b _ _ _
  · exact (by rintro (e | e | e); exact fm_some md_refl; exact fm_parameters_58 _; exact fm_parameters_138 _)
noncomputable def m_parameters_20 (v1 : Int) (t0 : Int) (s : iS) : Option (Int × iS) := m_parameters_21 v1 t0 s
theorem tm_parameters_20 (w : ev_W) (d : Nat) (hd : 3 ≤ d) (v1 : Int) (t0 : Int) (s : iS) : Ew hT w d 327 20 [(0, .ref (tb_nK + 121)), (1, iv v1)] [iv t0] s (Cv hT) (m_parameters_20 v1 t0 s) := by
  unfold m_parameters_20
  refine e_mv 21 em_327 (ce_at ce_327 10 rfl) rfl rfl ?_
  refine e_pk [0, 1, 2] rfl rfl ?_
  exact tm_parameters_21 w d hd _ _ _
theorem fm_parameters_20 (v1 : Int) (t0 : Int) (s : iS) : Fm Prod.snd L_m_parameters G_m_parameters s (m_parameters_20 v1 t0 s) := fm_parameters_21 _ _ _
noncomputable def m_parameters (v1 : Int) (s : iS) : Option (Int × iS) := bd (m_needSign 40 s) (fun _ s1 => bd (m_isSign 41 s1) (fun r2 s2 => gd (rg r2) (if r2 = 0 then m_parameters_20 v1 1 s2 else m_parameters_20 v1 0 s2)))
theorem tm_parameters (w : ev_W) (d : Nat) (hd : 3 ≤ d) (v1 : Int) (s : iS) : Ew hT w d 327 0 [(0, .ref (tb_nK + 121)), (1, iv v1)] [] s (Cv hT) (m_parameters v1 s) := by
  unfold m_parameters
  refine e_mv 1 em_327 (ce_at ce_327 0 rfl) rfl rfl ?_
  refine e_bip 3 em_327 (ce_at ce_327 1 rfl) (by decide) rfl ?_
  refine e_ivv 6 em_327 (ce_at ce_327 2 rfl) (by omega) (iv_v1 (by decide) tq_121 rfl) em_325 (Nat.le_of_ble_eq_true rfl) rfl (tm_needSign w (d - 1) (by omega) _ _) (fun r1 s1 => ?_)
  refine e_mv 7 em_327 (ce_at ce_327 3 rfl) rfl rfl ?_
  refine e_bip 9 em_327 (ce_at ce_327 4 rfl) (by decide) rfl ?_
  refine e_ivi 12 em_327 (ce_at ce_327 5 rfl) (by omega) (iv_v1 (by decide) tq_121 rfl) em_320 (Nat.le_of_ble_eq_true rfl) rfl (tm_isSign w (d - 1) (by omega) _ _) (fun r2 s2 => ?_)
  refine e_gd fun g3 => ?_
  refine e_ifne 19 15 em_327 rfl rfl (ce_at ce_327 6 rfl) g3 (fun h4 => ?_) (fun h4 => ?_)
  · refine e_op 20 em_327 (ce_at ce_327 9 rfl) rfl rfl ?_
    refine e_pk [0, 1] rfl rfl ?_
    exact tm_parameters_20 w d hd _ _ _
  · refine e_op 16 em_327 (ce_at ce_327 7 rfl) rfl rfl ?_
    refine e_goto em_327 20 (ce_at ce_327 8 rfl) rfl ?_
    refine e_pk [0, 1] rfl rfl ?_
    exact tm_parameters_20 w d hd _ _ _
theorem fm_parameters (v1 : Int) (s : iS) : Fm Prod.snd L_m_parameters G_m_parameters s (m_parameters v1 s) := fm_bd (fm_sub (fm_needSign _ _) (mem_sub_L rfl) (mem_sub_F rfl)) (fun r1 s1 => fm_bd (fm_sub (fm_isSign _ _) (mem_sub_L rfl) (mem_sub_F rfl)) (fun r2 s2 => fm_gd (fm_if (fm_parameters_20 _ _ _) (fm_parameters_20 _ _ _))))
/-! m_closeSign -/
def L_m_closeSign : List Nat := []
def G_m_closeSign : List (Nat × Nat) := [(121, 10), (121, 11), (121, 12), (121, 48)]
noncomputable def m_closeSign (v1 : Int) (s : iS) : Option (Int × iS) := bd (m_needSign v1 s) (fun _ s1 => lt' (up s1 121 48 ((s1 121 48) - 1)) (fun s2 => some (0, s2)))
theorem tm_closeSign (w : ev_W) (d : Nat) (hd : 3 ≤ d) (v1 : Int) (s : iS) : Ew hT w d 340 0 [(0, .ref (tb_nK + 121)), (1, iv v1)] [] s (Cv hT) (m_closeSign v1 s) := by
  unfold m_closeSign
  refine e_mv 1 em_340 (ce_at ce_340 0 rfl) rfl rfl ?_
  refine e_mv 2 em_340 (ce_at ce_340 1 rfl) rfl rfl ?_
  refine e_ivv 5 em_340 (ce_at ce_340 2 rfl) (by omega) (iv_v1 (by decide) tq_121 rfl) em_325 (Nat.le_of_ble_eq_true rfl) rfl (tm_needSign w (d - 1) (by omega) _ _) (fun r1 s1 => ?_)
  refine e_mv 6 em_340 (ce_at ce_340 3 rfl) rfl rfl ?_
  refine e_mv 7 em_340 (ce_at ce_340 4 rfl) rfl rfl ?_
  refine e_get 10 em_340 (ce_at ce_340 5 rfl) tq_121 rfl rfl ?_
  refine e_op 11 em_340 (ce_at ce_340 6 rfl) rfl rfl ?_
  refine e_isub 12 em_340 rfl (ce_at ce_340 7 rfl) ?_
  refine e_put 15 em_340 (ce_at ce_340 8 rfl) tq_121 rfl rfl rfl (fun s2 => ?_)
  exact e_retv em_340 (ce_at ce_340 9 rfl)
theorem fm_closeSign (v1 : Int) (s : iS) : Fm Prod.snd L_m_closeSign G_m_closeSign s (m_closeSign v1 s) := fm_bd (fm_sub (fm_needSign _ _) (mem_sub_L rfl) (mem_sub_F rfl)) (fun r1 s1 => fm_lt (md_upF (mem_F rfl)) (fun s2 => fm_some md_refl))
/-! m_add -/
def L_m_add : List Nat := [144, 145, 146, 147, 148]
def G_m_add : List (Nat × Nat) := [(121, 33)]
noncomputable def m_add (v1 : Int) (v2 : Int) (v3 : Int) (v4 : Int) (s : iS) : Option (Int × iS) := gd (0 ≤ (s 121 33) ∧ (s 121 33) < 5000) (lt' (up s 144 (s 121 33).toNat v1) (fun s2 => gd (0 ≤ (s2 121 33) ∧ (s2 121 33) < 5000) (lt' (up s2 145 (s2 121 33).toNat v2) (fun s4 => gd (0 ≤ (s4 121 33) ∧ (s4 121 33) < 5000) (lt' (up s4 146 (s4 121 33).toNat v3) (fun s6 => gd (0 ≤ (s6 121 33) ∧ (s6 121 33) < 5000) (lt' (up s6 147 (s6 121 33).toNat v4) (fun s8 => gd (0 ≤ (s8 121 33) ∧ (s8 121 33) < 5000) (lt' (up s8 148 (s8 121 33).toNat ((s8 121 17) - 1)) (fun s10 => lt' (up s10 121 33 ((s10 121 33) + 1)) (fun s11 => some (((s11 121 33) - 1), s11))))))))))))
theorem tm_add (w : ev_W) (d : Nat) (hd : 0 ≤ d) (v1 : Int) (v2 : Int) (v3 : Int) (v4 : Int) (s : iS) : Ew hT w d 330 0 [(0, .ref (tb_nK + 121)), (1, iv v1), (2, iv v2), (3, iv v3), (4, iv v4)] [] s (Ci hT) (m_add v1 v2 v3 v4 s) := by
  unfold m_add
  refine e_mv 1 em_330 (ce_at ce_330 0 rfl) rfl rfl ?_
  refine e_getr 4 em_330 (ce_at ce_330 1 rfl) tq_121 rfl rfl ?_
  refine e_mv 5 em_330 (ce_at ce_330 2 rfl) rfl rfl ?_
  refine e_get 8 em_330 (ce_at ce_330 3 rfl) tq_121 rfl rfl ?_
  refine e_mv 9 em_330 (ce_at ce_330 4 rfl) rfl rfl ?_
  refine e_gd fun g1 => ?_
  refine e_ist 10 em_330 (ce_at ce_330 5 rfl) tq_144 (by decide) g1 rfl (fun s2 => ?_)
  refine e_mv 11 em_330 (ce_at ce_330 6 rfl) rfl rfl ?_
  refine e_getr 14 em_330 (ce_at ce_330 7 rfl) tq_121 rfl rfl ?_
  refine e_mv 15 em_330 (ce_at ce_330 8 rfl) rfl rfl ?_
  refine e_get 18 em_330 (ce_at ce_330 9 rfl) tq_121 rfl rfl ?_
  refine e_mv 19 em_330 (ce_at ce_330 10 rfl) rfl rfl ?_
  refine e_gd fun g3 => ?_
  refine e_ist 20 em_330 (ce_at ce_330 11 rfl) tq_145 (by decide) g3 rfl (fun s4 => ?_)
  refine e_mv 21 em_330 (ce_at ce_330 12 rfl) rfl rfl ?_
  refine e_getr 24 em_330 (ce_at ce_330 13 rfl) tq_121 rfl rfl ?_
  refine e_mv 25 em_330 (ce_at ce_330 14 rfl) rfl rfl ?_
  refine e_get 28 em_330 (ce_at ce_330 15 rfl) tq_121 rfl rfl ?_
  refine e_mv 29 em_330 (ce_at ce_330 16 rfl) rfl rfl ?_
  refine e_gd fun g5 => ?_
  refine e_ist 30 em_330 (ce_at ce_330 17 rfl) tq_146 (by decide) g5 rfl (fun s6 => ?_)
  refine e_mv 31 em_330 (ce_at ce_330 18 rfl) rfl rfl ?_
  refine e_getr 34 em_330 (ce_at ce_330 19 rfl) tq_121 rfl rfl ?_
  refine e_mv 35 em_330 (ce_at ce_330 20 rfl) rfl rfl ?_
  refine e_get 38 em_330 (ce_at ce_330 21 rfl) tq_121 rfl rfl ?_
  refine e_mv 40 em_330 (ce_at ce_330 22 rfl) rfl rfl ?_
  refine e_gd fun g7 => ?_
  refine e_ist 41 em_330 (ce_at ce_330 23 rfl) tq_147 (by decide) g7 rfl (fun s8 => ?_)
  refine e_mv 42 em_330 (ce_at ce_330 24 rfl) rfl rfl ?_
  refine e_getr 45 em_330 (ce_at ce_330 25 rfl) tq_121 rfl rfl ?_
  refine e_mv 46 em_330 (ce_at ce_330 26 rfl) rfl rfl ?_
  refine e_get 49 em_330 (ce_at ce_330 27 rfl) tq_121 rfl rfl ?_
  refine e_mv 50 em_330 (ce_at ce_330 28 rfl) rfl rfl ?_
  refine e_get 53 em_330 (ce_at ce_330 29 rfl) tq_121 rfl rfl ?_
  refine e_op 54 em_330 (ce_at ce_330 30 rfl) rfl rfl ?_
  refine e_isub 55 em_330 rfl (ce_at ce_330 31 rfl) ?_
  refine e_gd fun g9 => ?_
  refine e_ist 56 em_330 (ce_at ce_330 32 rfl) tq_148 (by decide) g9 rfl (fun s10 => ?_)
  refine e_mv 57 em_330 (ce_at ce_330 33 rfl) rfl rfl ?_
  refine e_mv 58 em_330 (ce_at ce_330 34 rfl) rfl rfl ?_
  refine e_get 61 em_330 (ce_at ce_330 35 rfl) tq_121 rfl rfl ?_
  refine e_op 62 em_330 (ce_at ce_330 36 rfl) rfl rfl ?_
  refine e_iadd 63 em_330 rfl (ce_at ce_330 37 rfl) ?_
  refine e_put 66 em_330 (ce_at ce_330 38 rfl) tq_121 rfl rfl rfl (fun s11 => ?_)
  refine e_mv 67 em_330 (ce_at ce_330 39 rfl) rfl rfl ?_
  refine e_get 70 em_330 (ce_at ce_330 40 rfl) tq_121 rfl rfl ?_
  refine e_op 71 em_330 (ce_at ce_330 41 rfl) rfl rfl ?_
  refine e_isub 72 em_330 rfl (ce_at ce_330 42 rfl) ?_
  exact e_reti em_330 (ce_at ce_330 43 rfl)
theorem fm_add (v1 : Int) (v2 : Int) (v3 : Int) (v4 : Int) (s : iS) : Fm Prod.snd L_m_add G_m_add s (m_add v1 v2 v3 v4 s) := fm_gd (fm_lt (md_upL (mem_L rfl)) (fun s2 => fm_gd (fm_lt (md_upL (mem_L rfl)) (fun s4 => fm_gd (fm_lt (md_upL (mem_L rfl)) (fun s6 => fm_gd (fm_lt (md_upL (mem_L rfl)) (fun s8 => fm_gd (fm_lt (md_upL (mem_L rfl)) (fun s10 => fm_lt (md_upF (mem_F rfl)) (fun s11 => fm_some md_refl)))))))))))
/-! m_begins -/
def L_m_begins : List Nat := [160, 161, 162, 163]
def G_m_begins : List (Nat × Nat) := [(121, 10), (121, 11), (121, 12), (121, 48), (121, 55)]
noncomputable def m_begins (v1 : Int) (v2 : Int) (v3 : Int) (v4 : Int) (s : iS) : Option (Int × iS) := bd (m_openSign 123 s) (fun _ s1 => gd (rg (s1 121 11)) (if (s1 121 11) ≤ 0 then gd (0 ≤ (s1 121 55) ∧ (s1 121 55) < 64) (lt' (up s1 160 (s1 121 55).toNat v1) (fun s5 => gd (0 ≤ (s5 121 55) ∧ (s5 121 55) < 64) (lt' (up s5 161 (s5 121 55).toNat v2) (fun s7 => gd (0 ≤ (s7 121 55) ∧ (s7 121 55) < 64) (lt' (up s7 162 (s7 121 55).toNat v3) (fun s9 => gd (0 ≤ (s9 121 55) ∧ (s9 121 55) < 64) (lt' (up s9 163 (s9 121 55).toNat v4) (fun s11 => lt' (up s11 121 55 ((s11 121 55) + 1)) (fun s12 => some (0, s12)))))))))) else some (0, s1)))
theorem tm_begins (w : ev_W) (d : Nat) (hd : 3 ≤ d) (v1 : Int) (v2 : Int) (v3 : Int) (v4 : Int) (s : iS) : Ew hT w d 345 0 [(0, .ref (tb_nK + 121)), (1, iv v1), (2, iv v2), (3, iv v3), (4, iv v4)] [] s (Cv hT) (m_begins v1 v2 v3 v4 s) := by
  unfold m_begins
  refine e_mv 1 em_345 (ce_at ce_345 0 rfl) rfl rfl ?_
  refine e_bip 3 em_345 (ce_at ce_345 1 rfl) (by decide) rfl ?_
  refine e_ivv 6 em_345 (ce_at ce_345 2 rfl) (by omega) (iv_v1 (by decide) tq_121 rfl) em_319 (Nat.le_of_ble_eq_true rfl) rfl (tm_openSign w (d - 1) (by omega) _ _) (fun r1 s1 => ?_)
  refine e_mv 7 em_345 (ce_at ce_345 3 rfl) rfl rfl ?_
  refine e_get 10 em_345 (ce_at ce_345 4 rfl) tq_121 rfl rfl ?_
  refine e_gd fun g2 => ?_
  refine e_ifle 14 13 em_345 rfl rfl (ce_at ce_345 5 rfl) g2 (fun h3 => ?_) (fun h3 => ?_)
  · refine e_mv 15 em_345 (ce_at ce_345 7 rfl) rfl rfl ?_
    refine e_getr 18 em_345 (ce_at ce_345 8 rfl) tq_121 rfl rfl ?_
    refine e_mv 19 em_345 (ce_at ce_345 9 rfl) rfl rfl ?_
    refine e_get 22 em_345 (ce_at ce_345 10 rfl) tq_121 rfl rfl ?_
    refine e_mv 23 em_345 (ce_at ce_345 11 rfl) rfl rfl ?_
    refine e_gd fun g4 => ?_
    refine e_ist 24 em_345 (ce_at ce_345 12 rfl) tq_160 (by decide) g4 rfl (fun s5 => ?_)
    refine e_mv 25 em_345 (ce_at ce_345 13 rfl) rfl rfl ?_
    refine e_getr 28 em_345 (ce_at ce_345 14 rfl) tq_121 rfl rfl ?_
    refine e_mv 29 em_345 (ce_at ce_345 15 rfl) rfl rfl ?_
    refine e_get 32 em_345 (ce_at ce_345 16 rfl) tq_121 rfl rfl ?_
    refine e_mv 33 em_345 (ce_at ce_345 17 rfl) rfl rfl ?_
    refine e_gd fun g6 => ?_
    refine e_ist 34 em_345 (ce_at ce_345 18 rfl) tq_161 (by decide) g6 rfl (fun s7 => ?_)
    refine e_mv 35 em_345 (ce_at ce_345 19 rfl) rfl rfl ?_
    refine e_getr 38 em_345 (ce_at ce_345 20 rfl) tq_121 rfl rfl ?_
    refine e_mv 39 em_345 (ce_at ce_345 21 rfl) rfl rfl ?_
    refine e_get 42 em_345 (ce_at ce_345 22 rfl) tq_121 rfl rfl ?_
    refine e_mv 43 em_345 (ce_at ce_345 23 rfl) rfl rfl ?_
    refine e_gd fun g8 => ?_
    refine e_ist 44 em_345 (ce_at ce_345 24 rfl) tq_162 (by decide) g8 rfl (fun s9 => ?_)
    refine e_mv 45 em_345 (ce_at ce_345 25 rfl) rfl rfl ?_
    refine e_getr 48 em_345 (ce_at ce_345 26 rfl) tq_121 rfl rfl ?_
    refine e_mv 49 em_345 (ce_at ce_345 27 rfl) rfl rfl ?_
    refine e_get 52 em_345 (ce_at ce_345 28 rfl) tq_121 rfl rfl ?_
    refine e_mv 54 em_345 (ce_at ce_345 29 rfl) rfl rfl ?_
    refine e_gd fun g10 => ?_
    refine e_ist 55 em_345 (ce_at ce_345 30 rfl) tq_163 (by decide) g10 rfl (fun s11 => ?_)
    refine e_mv 56 em_345 (ce_at ce_345 31 rfl) rfl rfl ?_
    refine e_mv 57 em_345 (ce_at ce_345 32 rfl) rfl rfl ?_
    refine e_get 60 em_345 (ce_at ce_345 33 rfl) tq_121 rfl rfl ?_
    refine e_op 61 em_345 (ce_at ce_345 34 rfl) rfl rfl ?_
    refine e_iadd 62 em_345 rfl (ce_at ce_345 35 rfl) ?_
    refine e_put 65 em_345 (ce_at ce_345 36 rfl) tq_121 rfl rfl rfl (fun s12 => ?_)
    exact e_retv em_345 (ce_at ce_345 37 rfl)
  · exact e_retv em_345 (ce_at ce_345 6 rfl)
theorem fm_begins (v1 : Int) (v2 : Int) (v3 : Int) (v4 : Int) (s : iS) : Fm Prod.snd L_m_begins G_m_begins s (m_begins v1 v2 v3 v4 s) := fm_bd (fm_sub (fm_openSign _ _) (mem_sub_L rfl) (mem_sub_F rfl)) (fun r1 s1 => fm_gd (fm_if (fm_gd (fm_lt (md_upL (mem_L rfl)) (fun s5 => fm_gd (fm_lt (md_upL (mem_L rfl)) (fun s7 => fm_gd (fm_lt (md_upL (mem_L rfl)) (fun s9 => fm_gd (fm_lt (md_upL (mem_L rfl)) (fun s11 => fm_lt (md_upF (mem_F rfl)) (fun s12 => fm_some md_refl)))))))))) (fm_some md_refl)))
/-! m_ends -/
def L_m_ends : List Nat := [144, 145, 146, 147, 148, 160, 161, 162, 163]
def G_m_ends : List (Nat × Nat) := [(121, 10), (121, 11), (121, 12), (121, 33), (121, 48), (121, 55)]
noncomputable def m_ends_192 (s : iS) : Option (Int × iS) := bd (m_add 12 0 0 (s 121 10) s) (fun r1 s1 => some (0, s1))
theorem tm_ends_192 (w : ev_W) (d : Nat) (hd : 4 ≤ d) (s : iS) : Ew hT w d 346 192 [(0, .ref (tb_nK + 121))] [] s (Cv hT) (m_ends_192 s) := by
  unfold m_ends_192
  refine e_mv 193 em_346 (ce_at ce_346 114 rfl) rfl rfl ?_
  refine e_bip 195 em_346 (ce_at ce_346 115 rfl) (by decide) rfl ?_
  refine e_op 196 em_346 (ce_at ce_346 116 rfl) rfl rfl ?_
  refine e_op 197 em_346 (ce_at ce_346 117 rfl) rfl rfl ?_
  refine e_mv 198 em_346 (ce_at ce_346 118 rfl) rfl rfl ?_
  refine e_get 201 em_346 (ce_at ce_346 119 rfl) tq_121 rfl rfl ?_
  refine e_ivi 204 em_346 (ce_at ce_346 120 rfl) (by omega) (iv_v4 (by decide) tq_121 rfl) em_330 (Nat.le_of_ble_eq_true rfl) rfl (tm_add w (d - 1) (by omega) _ _ _ _ _) (fun r1 s1 => ?_)
  refine e_op 205 em_346 (ce_at ce_346 121 rfl) rfl rfl ?_
  exact e_retv em_346 (ce_at ce_346 122 rfl)
theorem fm_ends_192 (s : iS) : Fm Prod.snd L_m_ends G_m_ends s (m_ends_192 s) := fm_bd (fm_sub (fm_add _ _ _ _ _) (mem_sub_L rfl) (mem_sub_F rfl)) (fun r1 s1 => fm_some md_refl)
noncomputable def m_ends_183 (t0 : Int) (t1 : Int) (t3 : Int) (s : iS) : Option (Int × iS) := bd (m_add t1 t0 0 (s 121 10) s) (fun r1 s1 => gd (0 ≤ t3 ∧ t3 < 5000) (lt' (up s1 145 t3.toNat r1) (fun s3 => m_ends_192 s3)))
theorem tm_ends_183 (w : ev_W) (d : Nat) (hd : 4 ≤ d) (t0 : Int) (t1 : Int) (t3 : Int) (s : iS) : Ew hT w d 346 183 [(0, .ref (tb_nK + 121))] [iv t0, iv t1, .ref (tb_nK + 121), iv t3, .ref (tb_nK + 145)] s (Cv hT) (m_ends_183 t0 t1 t3 s) := by
  unfold m_ends_183
  refine e_op 184 em_346 (ce_at ce_346 109 rfl) rfl rfl ?_
  refine e_mv 185 em_346 (ce_at ce_346 110 rfl) rfl rfl ?_
  refine e_get 188 em_346 (ce_at ce_346 111 rfl) tq_121 rfl rfl ?_
  refine e_ivi 191 em_346 (ce_at ce_346 112 rfl) (by omega) (iv_v4 (by decide) tq_121 rfl) em_330 (Nat.le_of_ble_eq_true rfl) rfl (tm_add w (d - 1) (by omega) _ _ _ _ _) (fun r1 s1 => ?_)
  refine e_gd fun g2 => ?_
  refine e_ist 192 em_346 (ce_at ce_346 113 rfl) tq_145 (by decide) g2 rfl (fun s3 => ?_)
  refine e_pk [0] rfl rfl ?_
  exact tm_ends_192 w d hd _
theorem fm_ends_183 (t0 : Int) (t1 : Int) (t3 : Int) (s : iS) : Fm Prod.snd L_m_ends G_m_ends s (m_ends_183 t0 t1 t3 s) := fm_bd (fm_sub (fm_add _ _ _ _ _) (mem_sub_L rfl) (mem_sub_F rfl)) (fun r1 s1 => fm_gd (fm_lt (md_upL (mem_L rfl)) (fun s3 => fm_ends_192 _)))
noncomputable def m_ends_98 (v1 : Int) (v2 : Int) (s : iS) : Option (Int × iS) := gd (0 ≤ (s 121 55) ∧ (s 121 55) < 64) (gd (rg (s 160 (s 121 55).toNat)) (if (s 160 (s 121 55).toNat) = 3 then bd (m_add 16 (s 163 (s 121 55).toNat) v1 (s 121 10) s) (fun r5 s5 => bd (m_add 20 (v1 + 1) 0 (s5 121 10) s5) (fun r6 s6 => gd (0 ≤ v2 ∧ v2 < 5000) (lt' (up s6 145 v2.toNat r6) (fun s8 => m_ends_192 s8)))) else if (s 160 (s 121 55).toNat) = 2 then m_ends_183 (v1 + 1) 20 v2 s else m_ends_183 v1 20 v2 s))
theorem tm_ends_98 (w : ev_W) (d : Nat) (hd : 4 ≤ d) (v1 : Int) (v2 : Int) (s : iS) : Ew hT w d 346 98 [(0, .ref (tb_nK + 121)), (1, iv v1), (2, iv v2)] [] s (Cv hT) (m_ends_98 v1 v2 s) := by
  unfold m_ends_98
  refine e_mv 99 em_346 (ce_at ce_346 59 rfl) rfl rfl ?_
  refine e_getr 102 em_346 (ce_at ce_346 60 rfl) tq_121 rfl rfl ?_
  refine e_mv 103 em_346 (ce_at ce_346 61 rfl) rfl rfl ?_
  refine e_get 106 em_346 (ce_at ce_346 62 rfl) tq_121 rfl rfl ?_
  refine e_gd fun g1 => ?_
  refine e_ild 107 em_346 (ce_at ce_346 63 rfl) tq_160 (by decide) g1 rfl ?_
  refine e_op 108 em_346 (ce_at ce_346 64 rfl) rfl rfl ?_
  refine e_gd fun g2 => ?_
  refine e_cmne 155 111 em_346 rfl rfl (ce_at ce_346 65 rfl) g2 (by decide) (fun h3 => ?_) (fun h3 => ?_)
  · refine e_mv 156 em_346 (ce_at ce_346 92 rfl) rfl rfl ?_
    refine e_getr 159 em_346 (ce_at ce_346 93 rfl) tq_121 rfl rfl ?_
    refine e_mv 160 em_346 (ce_at ce_346 94 rfl) rfl rfl ?_
    refine e_mv 161 em_346 (ce_at ce_346 95 rfl) rfl rfl ?_
    refine e_bip 163 em_346 (ce_at ce_346 96 rfl) (by decide) rfl ?_
    refine e_mv 164 em_346 (ce_at ce_346 97 rfl) rfl rfl ?_
    refine e_getr 167 em_346 (ce_at ce_346 98 rfl) tq_121 rfl rfl ?_
    refine e_mv 168 em_346 (ce_at ce_346 99 rfl) rfl rfl ?_
    refine e_get 171 em_346 (ce_at ce_346 100 rfl) tq_121 rfl rfl ?_
    refine e_ild 172 em_346 (ce_at ce_346 101 rfl) tq_160 (by decide) g1 rfl ?_
    refine e_op 173 em_346 (ce_at ce_346 102 rfl) rfl rfl ?_
    refine e_cmne 182 176 em_346 rfl rfl (ce_at ce_346 103 rfl) g2 (by decide) (fun h4 => ?_) (fun h4 => ?_)
    · refine e_mv 183 em_346 (ce_at ce_346 108 rfl) rfl rfl ?_
      refine e_pk [0] rfl rfl ?_
      exact tm_ends_183 w d hd _ _ _ _
    · refine e_mv 177 em_346 (ce_at ce_346 104 rfl) rfl rfl ?_
      refine e_op 178 em_346 (ce_at ce_346 105 rfl) rfl rfl ?_
      refine e_iadd 179 em_346 rfl (ce_at ce_346 106 rfl) ?_
      refine e_goto em_346 183 (ce_at ce_346 107 rfl) rfl ?_
      refine e_pk [0] rfl rfl ?_
      exact tm_ends_183 w d hd _ _ _ _
  · refine e_mv 112 em_346 (ce_at ce_346 66 rfl) rfl rfl ?_
    refine e_bip 114 em_346 (ce_at ce_346 67 rfl) (by decide) rfl ?_
    refine e_mv 115 em_346 (ce_at ce_346 68 rfl) rfl rfl ?_
    refine e_getr 118 em_346 (ce_at ce_346 69 rfl) tq_121 rfl rfl ?_
    refine e_mv 119 em_346 (ce_at ce_346 70 rfl) rfl rfl ?_
    refine e_get 122 em_346 (ce_at ce_346 71 rfl) tq_121 rfl rfl ?_
    refine e_ild 123 em_346 (ce_at ce_346 72 rfl) tq_163 (by decide) g1 rfl ?_
    refine e_mv 124 em_346 (ce_at ce_346 73 rfl) rfl rfl ?_
    refine e_mv 125 em_346 (ce_at ce_346 74 rfl) rfl rfl ?_
    refine e_get 128 em_346 (ce_at ce_346 75 rfl) tq_121 rfl rfl ?_
    refine e_ivi 131 em_346 (ce_at ce_346 76 rfl) (by omega) (iv_v4 (by decide) tq_121 rfl) em_330 (Nat.le_of_ble_eq_true rfl) rfl (tm_add w (d - 1) (by omega) _ _ _ _ _) (fun r5 s5 => ?_)
    refine e_op 132 em_346 (ce_at ce_346 77 rfl) rfl rfl ?_
    refine e_mv 133 em_346 (ce_at ce_346 78 rfl) rfl rfl ?_
    refine e_getr 136 em_346 (ce_at ce_346 79 rfl) tq_121 rfl rfl ?_
    refine e_mv 137 em_346 (ce_at ce_346 80 rfl) rfl rfl ?_
    refine e_mv 138 em_346 (ce_at ce_346 81 rfl) rfl rfl ?_
    refine e_bip 140 em_346 (ce_at ce_346 82 rfl) (by decide) rfl ?_
    refine e_mv 141 em_346 (ce_at ce_346 83 rfl) rfl rfl ?_
    refine e_op 142 em_346 (ce_at ce_346 84 rfl) rfl rfl ?_
    refine e_iadd 143 em_346 rfl (ce_at ce_346 85 rfl) ?_
    refine e_op 144 em_346 (ce_at ce_346 86 rfl) rfl rfl ?_
    refine e_mv 145 em_346 (ce_at ce_346 87 rfl) rfl rfl ?_
    refine e_get 148 em_346 (ce_at ce_346 88 rfl) tq_121 rfl rfl ?_
    refine e_ivi 151 em_346 (ce_at ce_346 89 rfl) (by omega) (iv_v4 (by decide) tq_121 rfl) em_330 (Nat.le_of_ble_eq_true rfl) rfl (tm_add w (d - 1) (by omega) _ _ _ _ _) (fun r6 s6 => ?_)
    refine e_gd fun g7 => ?_
    refine e_ist 152 em_346 (ce_at ce_346 90 rfl) tq_145 (by decide) g7 rfl (fun s8 => ?_)
    refine e_goto em_346 192 (ce_at ce_346 91 rfl) rfl ?_
    refine e_pk [0] rfl rfl ?_
    exact tm_ends_192 w d hd _
theorem fm_ends_98 (v1 : Int) (v2 : Int) (s : iS) : Fm Prod.snd L_m_ends G_m_ends s (m_ends_98 v1 v2 s) := fm_gd (fm_gd (fm_if (fm_bd (fm_sub (fm_add _ _ _ _ _) (mem_sub_L rfl) (mem_sub_F rfl)) (fun r5 s5 => fm_bd (fm_sub (fm_add _ _ _ _ _) (mem_sub_L rfl) (mem_sub_F rfl)) (fun r6 s6 => fm_gd (fm_lt (md_upL (mem_L rfl)) (fun s8 => fm_ends_192 _))))) (fm_if (fm_ends_183 _ _ _ _) (fm_ends_183 _ _ _ _))))
noncomputable def m_ends (s : iS) : Option (Int × iS) := lt' (up s 121 55 ((s 121 55) - 1)) (fun s1 => gd (0 ≤ (s1 121 55) ∧ (s1 121 55) < 64) (gd (rg (s1 160 (s1 121 55).toNat)) (if (s1 160 (s1 121 55).toNat) = 1 then bd (m_isWord 18 s1) (fun r5 s5 => gd (rg r5) (if r5 = 0 then m_ends_98 (s1 161 (s1 121 55).toNat) (s1 162 (s1 121 55).toNat) s5 else bd (m_go s5) (fun _ s8 => bd (m_add 16 0 ((s1 161 (s1 121 55).toNat) + 1) (s8 121 10) s8) (fun r9 s9 => bd (m_add 20 (s1 161 (s1 121 55).toNat) 0 (s9 121 10) s9) (fun r10 s10 => gd (0 ≤ (s1 162 (s1 121 55).toNat) ∧ (s1 162 (s1 121 55).toNat) < 5000) (lt' (up s10 145 (s1 162 (s1 121 55).toNat).toNat r10) (fun s12 => bd (m_begins 2 (s1 161 (s1 121 55).toNat) r9 0 s12) (fun _ s13 => some (0, s13))))))))) else m_ends_98 (s1 161 (s1 121 55).toNat) (s1 162 (s1 121 55).toNat) s1)))
theorem tm_ends (w : ev_W) (d : Nat) (hd : 4 ≤ d) (s : iS) : Ew hT w d 346 0 [(0, .ref (tb_nK + 121))] [] s (Cv hT) (m_ends s) := by
  unfold m_ends
  refine e_mv 1 em_346 (ce_at ce_346 0 rfl) rfl rfl ?_
  refine e_mv 2 em_346 (ce_at ce_346 1 rfl) rfl rfl ?_
  refine e_get 5 em_346 (ce_at ce_346 2 rfl) tq_121 rfl rfl ?_
  refine e_op 6 em_346 (ce_at ce_346 3 rfl) rfl rfl ?_
  refine e_isub 7 em_346 rfl (ce_at ce_346 4 rfl) ?_
  refine e_put 10 em_346 (ce_at ce_346 5 rfl) tq_121 rfl rfl rfl (fun s1 => ?_)
  refine e_mv 11 em_346 (ce_at ce_346 6 rfl) rfl rfl ?_
  refine e_getr 14 em_346 (ce_at ce_346 7 rfl) tq_121 rfl rfl ?_
  refine e_mv 15 em_346 (ce_at ce_346 8 rfl) rfl rfl ?_
  refine e_get 18 em_346 (ce_at ce_346 9 rfl) tq_121 rfl rfl ?_
  refine e_gd fun g2 => ?_
  refine e_ild 19 em_346 (ce_at ce_346 10 rfl) tq_161 (by decide) g2 rfl ?_
  refine e_mv 20 em_346 (ce_at ce_346 11 rfl) rfl rfl ?_
  refine e_mv 21 em_346 (ce_at ce_346 12 rfl) rfl rfl ?_
  refine e_getr 24 em_346 (ce_at ce_346 13 rfl) tq_121 rfl rfl ?_
  refine e_mv 25 em_346 (ce_at ce_346 14 rfl) rfl rfl ?_
  refine e_get 28 em_346 (ce_at ce_346 15 rfl) tq_121 rfl rfl ?_
  refine e_ild 29 em_346 (ce_at ce_346 16 rfl) tq_162 (by decide) g2 rfl ?_
  refine e_mv 30 em_346 (ce_at ce_346 17 rfl) rfl rfl ?_
  refine e_mv 31 em_346 (ce_at ce_346 18 rfl) rfl rfl ?_
  refine e_getr 34 em_346 (ce_at ce_346 19 rfl) tq_121 rfl rfl ?_
  refine e_mv 35 em_346 (ce_at ce_346 20 rfl) rfl rfl ?_
  refine e_get 38 em_346 (ce_at ce_346 21 rfl) tq_121 rfl rfl ?_
  refine e_ild 39 em_346 (ce_at ce_346 22 rfl) tq_160 (by decide) g2 rfl ?_
  refine e_op 40 em_346 (ce_at ce_346 23 rfl) rfl rfl ?_
  refine e_gd fun g3 => ?_
  refine e_cmne 98 43 em_346 rfl rfl (ce_at ce_346 24 rfl) g3 (by decide) (fun h4 => ?_) (fun h4 => ?_)
  · refine e_pk [0, 1, 2] rfl rfl ?_
    exact tm_ends_98 w d hd _ _ _
  · refine e_mv 44 em_346 (ce_at ce_346 25 rfl) rfl rfl ?_
    refine e_bip 46 em_346 (ce_at ce_346 26 rfl) (by decide) rfl ?_
    refine e_ivi 49 em_346 (ce_at ce_346 27 rfl) (by omega) (iv_v1 (by decide) tq_121 rfl) em_314 (Nat.le_of_ble_eq_true rfl) rfl (tm_isWord w (d - 1) (by omega) _ _) (fun r5 s5 => ?_)
    refine e_gd fun g6 => ?_
    refine e_ifeq 98 52 em_346 rfl rfl (ce_at ce_346 28 rfl) g6 (fun h7 => ?_) (fun h7 => ?_)
    · refine e_pk [0, 1, 2] rfl rfl ?_
      exact tm_ends_98 w d hd _ _ _
    · refine e_mv 53 em_346 (ce_at ce_346 29 rfl) rfl rfl ?_
      refine e_ivv 56 em_346 (ce_at ce_346 30 rfl) (by omega) (iv_v0 (by decide) tq_121 rfl) em_315 (Nat.le_of_ble_eq_true rfl) rfl (tm_go w (d - 1) (by omega) _) (fun r8 s8 => ?_)
      refine e_mv 57 em_346 (ce_at ce_346 31 rfl) rfl rfl ?_
      refine e_bip 59 em_346 (ce_at ce_346 32 rfl) (by decide) rfl ?_
      refine e_op 60 em_346 (ce_at ce_346 33 rfl) rfl rfl ?_
      refine e_mv 61 em_346 (ce_at ce_346 34 rfl) rfl rfl ?_
      refine e_op 62 em_346 (ce_at ce_346 35 rfl) rfl rfl ?_
      refine e_iadd 63 em_346 rfl (ce_at ce_346 36 rfl) ?_
      refine e_mv 64 em_346 (ce_at ce_346 37 rfl) rfl rfl ?_
      refine e_get 67 em_346 (ce_at ce_346 38 rfl) tq_121 rfl rfl ?_
      refine e_ivi 70 em_346 (ce_at ce_346 39 rfl) (by omega) (iv_v4 (by decide) tq_121 rfl) em_330 (Nat.le_of_ble_eq_true rfl) rfl (tm_add w (d - 1) (by omega) _ _ _ _ _) (fun r9 s9 => ?_)
      refine e_mv 71 em_346 (ce_at ce_346 40 rfl) rfl rfl ?_
      refine e_mv 72 em_346 (ce_at ce_346 41 rfl) rfl rfl ?_
      refine e_getr 75 em_346 (ce_at ce_346 42 rfl) tq_121 rfl rfl ?_
      refine e_mv 76 em_346 (ce_at ce_346 43 rfl) rfl rfl ?_
      refine e_mv 77 em_346 (ce_at ce_346 44 rfl) rfl rfl ?_
      refine e_bip 79 em_346 (ce_at ce_346 45 rfl) (by decide) rfl ?_
      refine e_mv 80 em_346 (ce_at ce_346 46 rfl) rfl rfl ?_
      refine e_op 81 em_346 (ce_at ce_346 47 rfl) rfl rfl ?_
      refine e_mv 82 em_346 (ce_at ce_346 48 rfl) rfl rfl ?_
      refine e_get 85 em_346 (ce_at ce_346 49 rfl) tq_121 rfl rfl ?_
      refine e_ivi 88 em_346 (ce_at ce_346 50 rfl) (by omega) (iv_v4 (by decide) tq_121 rfl) em_330 (Nat.le_of_ble_eq_true rfl) rfl (tm_add w (d - 1) (by omega) _ _ _ _ _) (fun r10 s10 => ?_)
      refine e_gd fun g11 => ?_
      refine e_ist 89 em_346 (ce_at ce_346 51 rfl) tq_145 (by decide) g11 rfl (fun s12 => ?_)
      refine e_mv 90 em_346 (ce_at ce_346 52 rfl) rfl rfl ?_
      refine e_op 91 em_346 (ce_at ce_346 53 rfl) rfl rfl ?_
      refine e_mv 92 em_346 (ce_at ce_346 54 rfl) rfl rfl ?_
      refine e_mv 93 em_346 (ce_at ce_346 55 rfl) rfl rfl ?_
      refine e_op 94 em_346 (ce_at ce_346 56 rfl) rfl rfl ?_
      refine e_ivv 97 em_346 (ce_at ce_346 57 rfl) (by omega) (iv_v4 (by decide) tq_121 rfl) em_345 (Nat.le_of_ble_eq_true rfl) rfl (tm_begins w (d - 1) (by omega) _ _ _ _ _) (fun r13 s13 => ?_)
      exact e_retv em_346 (ce_at ce_346 58 rfl)
theorem fm_ends (s : iS) : Fm Prod.snd L_m_ends G_m_ends s (m_ends s) := fm_lt (md_upF (mem_F rfl)) (fun s1 => fm_gd (fm_gd (fm_if (fm_bd (fm_sub (fm_isWord _ _) (mem_sub_L rfl) (mem_sub_F rfl)) (fun r5 s5 => fm_gd (fm_if (fm_ends_98 _ _ _) (fm_bd (fm_sub (fm_go _) (mem_sub_L rfl) (mem_sub_F rfl)) (fun r8 s8 => fm_bd (fm_sub (fm_add _ _ _ _ _) (mem_sub_L rfl) (mem_sub_F rfl)) (fun r9 s9 => fm_bd (fm_sub (fm_add _ _ _ _ _) (mem_sub_L rfl) (mem_sub_F rfl)) (fun r10 s10 => fm_gd (fm_lt (md_upL (mem_L rfl)) (fun s12 => fm_bd (fm_sub (fm_begins _ _ _ _ _) (mem_sub_L rfl) (mem_sub_F rfl)) (fun r13 s13 => fm_some md_refl)))))))))) (fm_ends_98 _ _ _))))
/-! m_needName -/
def L_m_needName : List Nat := []
def G_m_needName : List (Nat × Nat) := [(121, 10), (121, 11), (121, 12)]
noncomputable def m_needName_24 (s : iS) : Option (Int × iS) := gd (rg (s 121 11)) (if (s 121 11) = 0 then some (((s 121 10) - 1), s) else some (0, s))
theorem tm_needName_24 (w : ev_W) (d : Nat) (hd : 2 ≤ d) (s : iS) : Ew hT w d 332 24 [(0, .ref (tb_nK + 121))] [] s (Ci hT) (m_needName_24 s) := by
  unfold m_needName_24
  refine e_mv 25 em_332 (ce_at ce_332 12 rfl) rfl rfl ?_
  refine e_get 28 em_332 (ce_at ce_332 13 rfl) tq_121 rfl rfl ?_
  refine e_gd fun g1 => ?_
  refine e_ifne 40 31 em_332 rfl rfl (ce_at ce_332 14 rfl) g1 (fun h2 => ?_) (fun h2 => ?_)
  · refine e_op 41 em_332 (ce_at ce_332 20 rfl) rfl rfl ?_
    exact e_reti em_332 (ce_at ce_332 21 rfl)
  · refine e_mv 32 em_332 (ce_at ce_332 15 rfl) rfl rfl ?_
    refine e_get 35 em_332 (ce_at ce_332 16 rfl) tq_121 rfl rfl ?_
    refine e_op 36 em_332 (ce_at ce_332 17 rfl) rfl rfl ?_
    refine e_isub 37 em_332 rfl (ce_at ce_332 18 rfl) ?_
    refine e_goto em_332 41 (ce_at ce_332 19 rfl) rfl ?_
    exact e_reti em_332 (ce_at ce_332 21 rfl)
theorem fm_needName_24 (s : iS) : Fm Prod.snd L_m_needName G_m_needName s (m_needName_24 s) := fm_gd (fm_if (fm_some md_refl) (fm_some md_refl))
noncomputable def m_needName (s : iS) : Option (Int × iS) := gd (0 ≤ (s 121 10) ∧ (s 121 10) < 2002) (gd (rg (s 124 (s 121 10).toNat)) (if (s 124 (s 121 10).toNat) = 1 then bd (m_go s) (fun _ s4 => m_needName_24 s4) else bd (m_syntax s) (fun _ s5 => m_needName_24 s5)))
theorem tm_needName (w : ev_W) (d : Nat) (hd : 2 ≤ d) (s : iS) : Ew hT w d 332 0 [(0, .ref (tb_nK + 121))] [] s (Ci hT) (m_needName s) := by
  unfold m_needName
  refine e_mv 1 em_332 (ce_at ce_332 0 rfl) rfl rfl ?_
  refine e_getr 4 em_332 (ce_at ce_332 1 rfl) tq_121 rfl rfl ?_
  refine e_mv 5 em_332 (ce_at ce_332 2 rfl) rfl rfl ?_
  refine e_get 8 em_332 (ce_at ce_332 3 rfl) tq_121 rfl rfl ?_
  refine e_gd fun g1 => ?_
  refine e_ild 9 em_332 (ce_at ce_332 4 rfl) tq_124 (by decide) g1 rfl ?_
  refine e_op 10 em_332 (ce_at ce_332 5 rfl) rfl rfl ?_
  refine e_gd fun g2 => ?_
  refine e_cmeq 20 13 em_332 rfl rfl (ce_at ce_332 6 rfl) g2 (by decide) (fun h3 => ?_) (fun h3 => ?_)
  · refine e_mv 21 em_332 (ce_at ce_332 10 rfl) rfl rfl ?_
    refine e_ivv 24 em_332 (ce_at ce_332 11 rfl) (by omega) (iv_v0 (by decide) tq_121 rfl) em_315 (Nat.le_of_ble_eq_true rfl) rfl (tm_go w (d - 1) (by omega) _) (fun r4 s4 => ?_)
    refine e_pk [0] rfl rfl ?_
    exact tm_needName_24 w d hd _
  · refine e_mv 14 em_332 (ce_at ce_332 7 rfl) rfl rfl ?_
    refine e_ivv 17 em_332 (ce_at ce_332 8 rfl) (by omega) (iv_v0 (by decide) tq_121 rfl) em_316 (Nat.le_of_ble_eq_true rfl) rfl (tm_syntax w (d - 1) (by omega) _) (fun r5 s5 => ?_)
    refine e_goto em_332 24 (ce_at ce_332 9 rfl) rfl ?_
    refine e_pk [0] rfl rfl ?_
    exact tm_needName_24 w d hd _
theorem fm_needName (s : iS) : Fm Prod.snd L_m_needName G_m_needName s (m_needName s) := fm_gd (fm_gd (fm_if (fm_bd (fm_sub (fm_go _) (mem_sub_L rfl) (mem_sub_F rfl)) (fun r4 s4 => fm_needName_24 _)) (fm_bd (fm_sub (fm_syntax _) (mem_sub_L rfl) (mem_sub_F rfl)) (fun r5 s5 => fm_needName_24 _))))
/-! m_push -/
def L_m_push : List Nat := [157, 158]
def G_m_push : List (Nat × Nat) := [(121, 51)]
noncomputable def m_push (v1 : Int) (s : iS) : Option (Int × iS) := gd (0 ≤ (s 121 51) ∧ (s 121 51) < 64) (lt' (up s 157 (s 121 51).toNat v1) (fun s2 => gd (0 ≤ (s2 121 51) ∧ (s2 121 51) < 64) (lt' (up s2 158 (s2 121 51).toNat 0) (fun s4 => lt' (up s4 121 51 ((s4 121 51) + 1)) (fun s5 => some (0, s5))))))
theorem tm_push (w : ev_W) (d : Nat) (hd : 0 ≤ d) (v1 : Int) (s : iS) : Ew hT w d 334 0 [(0, .ref (tb_nK + 121)), (1, iv v1)] [] s (Cv hT) (m_push v1 s) := by
  unfold m_push
  refine e_mv 1 em_334 (ce_at ce_334 0 rfl) rfl rfl ?_
  refine e_getr 4 em_334 (ce_at ce_334 1 rfl) tq_121 rfl rfl ?_
  refine e_mv 5 em_334 (ce_at ce_334 2 rfl) rfl rfl ?_
  refine e_get 8 em_334 (ce_at ce_334 3 rfl) tq_121 rfl rfl ?_
  refine e_mv 9 em_334 (ce_at ce_334 4 rfl) rfl rfl ?_
  refine e_gd fun g1 => ?_
  refine e_ist 10 em_334 (ce_at ce_334 5 rfl) tq_157 (by decide) g1 rfl (fun s2 => ?_)
  refine e_mv 11 em_334 (ce_at ce_334 6 rfl) rfl rfl ?_
  refine e_getr 14 em_334 (ce_at ce_334 7 rfl) tq_121 rfl rfl ?_
  refine e_mv 15 em_334 (ce_at ce_334 8 rfl) rfl rfl ?_
  refine e_get 18 em_334 (ce_at ce_334 9 rfl) tq_121 rfl rfl ?_
  refine e_op 19 em_334 (ce_at ce_334 10 rfl) rfl rfl ?_
  refine e_gd fun g3 => ?_
  refine e_ist 20 em_334 (ce_at ce_334 11 rfl) tq_158 (by decide) g3 rfl (fun s4 => ?_)
  refine e_mv 21 em_334 (ce_at ce_334 12 rfl) rfl rfl ?_
  refine e_mv 22 em_334 (ce_at ce_334 13 rfl) rfl rfl ?_
  refine e_get 25 em_334 (ce_at ce_334 14 rfl) tq_121 rfl rfl ?_
  refine e_op 26 em_334 (ce_at ce_334 15 rfl) rfl rfl ?_
  refine e_iadd 27 em_334 rfl (ce_at ce_334 16 rfl) ?_
  refine e_put 30 em_334 (ce_at ce_334 17 rfl) tq_121 rfl rfl rfl (fun s5 => ?_)
  exact e_retv em_334 (ce_at ce_334 18 rfl)
theorem fm_push (v1 : Int) (s : iS) : Fm Prod.snd L_m_push G_m_push s (m_push v1 s) := fm_gd (fm_lt (md_upL (mem_L rfl)) (fun s2 => fm_gd (fm_lt (md_upL (mem_L rfl)) (fun s4 => fm_lt (md_upF (mem_F rfl)) (fun s5 => fm_some md_refl)))))
/-! m_isOperator -/
def L_m_isOperator : List Nat := []
def G_m_isOperator : List (Nat × Nat) := []
noncomputable def m_isOperator (s : iS) : Option (Int × iS) := bd (m_isSign 43 s) (fun r1 s1 => gd (rg r1) (if r1 = 0 then bd (m_isSign 45 s1) (fun r4 s4 => gd (rg r4) (if r4 = 0 then bd (m_isSign 42 s4) (fun r7 s7 => gd (rg r7) (if r7 = 0 then bd (m_isSign 47 s7) (fun r10 s10 => gd (rg r10) (if r10 = 0 then bd (m_isSign 38 s10) (fun r13 s13 => gd (rg r13) (if r13 = 0 then bd (m_isSign 124 s13) (fun r16 s16 => gd (rg r16) (if r16 = 0 then bd (m_isSign 60 s16) (fun r19 s19 => gd (rg r19) (if r19 = 0 then bd (m_isSign 62 s19) (fun r22 s22 => gd (rg r22) (if r22 = 0 then bd (m_isSign 61 s22) (fun r25 s25 => gd (rg r25) (if r25 = 0 then some (0, s25) else some (1, s25))) else some (1, s22))) else some (1, s19))) else some (1, s16))) else some (1, s13))) else some (1, s10))) else some (1, s7))) else some (1, s4))) else some (1, s1)))
theorem tm_isOperator (w : ev_W) (d : Nat) (hd : 1 ≤ d) (s : iS) : Ew hT w d 342 0 [(0, .ref (tb_nK + 121))] [] s (Ci hT) (m_isOperator s) := by
  unfold m_isOperator
  refine e_mv 1 em_342 (ce_at ce_342 0 rfl) rfl rfl ?_
  refine e_bip 3 em_342 (ce_at ce_342 1 rfl) (by decide) rfl ?_
  refine e_ivi 6 em_342 (ce_at ce_342 2 rfl) (by omega) (iv_v1 (by decide) tq_121 rfl) em_320 (Nat.le_of_ble_eq_true rfl) rfl (tm_isSign w (d - 1) (by omega) _ _) (fun r1 s1 => ?_)
  refine e_gd fun g2 => ?_
  refine e_ifne 81 9 em_342 rfl rfl (ce_at ce_342 3 rfl) g2 (fun h3 => ?_) (fun h3 => ?_)
  · refine e_op 82 em_342 (ce_at ce_342 36 rfl) rfl rfl ?_
    refine e_goto em_342 86 (ce_at ce_342 37 rfl) rfl ?_
    exact e_retz em_342 (ce_at ce_342 39 rfl) (by decide)
  · refine e_mv 10 em_342 (ce_at ce_342 4 rfl) rfl rfl ?_
    refine e_bip 12 em_342 (ce_at ce_342 5 rfl) (by decide) rfl ?_
    refine e_ivi 15 em_342 (ce_at ce_342 6 rfl) (by omega) (iv_v1 (by decide) tq_121 rfl) em_320 (Nat.le_of_ble_eq_true rfl) rfl (tm_isSign w (d - 1) (by omega) _ _) (fun r4 s4 => ?_)
    refine e_gd fun g5 => ?_
    refine e_ifne 81 18 em_342 rfl rfl (ce_at ce_342 7 rfl) g5 (fun h6 => ?_) (fun h6 => ?_)
    · refine e_op 82 em_342 (ce_at ce_342 36 rfl) rfl rfl ?_
      refine e_goto em_342 86 (ce_at ce_342 37 rfl) rfl ?_
      exact e_retz em_342 (ce_at ce_342 39 rfl) (by decide)
    · refine e_mv 19 em_342 (ce_at ce_342 8 rfl) rfl rfl ?_
      refine e_bip 21 em_342 (ce_at ce_342 9 rfl) (by decide) rfl ?_
      refine e_ivi 24 em_342 (ce_at ce_342 10 rfl) (by omega) (iv_v1 (by decide) tq_121 rfl) em_320 (Nat.le_of_ble_eq_true rfl) rfl (tm_isSign w (d - 1) (by omega) _ _) (fun r7 s7 => ?_)
      refine e_gd fun g8 => ?_
      refine e_ifne 81 27 em_342 rfl rfl (ce_at ce_342 11 rfl) g8 (fun h9 => ?_) (fun h9 => ?_)
      · refine e_op 82 em_342 (ce_at ce_342 36 rfl) rfl rfl ?_
        refine e_goto em_342 86 (ce_at ce_342 37 rfl) rfl ?_
        exact e_retz em_342 (ce_at ce_342 39 rfl) (by decide)
      · refine e_mv 28 em_342 (ce_at ce_342 12 rfl) rfl rfl ?_
        refine e_bip 30 em_342 (ce_at ce_342 13 rfl) (by decide) rfl ?_
        refine e_ivi 33 em_342 (ce_at ce_342 14 rfl) (by omega) (iv_v1 (by decide) tq_121 rfl) em_320 (Nat.le_of_ble_eq_true rfl) rfl (tm_isSign w (d - 1) (by omega) _ _) (fun r10 s10 => ?_)
        refine e_gd fun g11 => ?_
        refine e_ifne 81 36 em_342 rfl rfl (ce_at ce_342 15 rfl) g11 (fun h12 => ?_) (fun h12 => ?_)
        · refine e_op 82 em_342 (ce_at ce_342 36 rfl) rfl rfl ?_
          refine e_goto em_342 86 (ce_at ce_342 37 rfl) rfl ?_
          exact e_retz em_342 (ce_at ce_342 39 rfl) (by decide)
        · refine e_mv 37 em_342 (ce_at ce_342 16 rfl) rfl rfl ?_
          refine e_bip 39 em_342 (ce_at ce_342 17 rfl) (by decide) rfl ?_
          refine e_ivi 42 em_342 (ce_at ce_342 18 rfl) (by omega) (iv_v1 (by decide) tq_121 rfl) em_320 (Nat.le_of_ble_eq_true rfl) rfl (tm_isSign w (d - 1) (by omega) _ _) (fun r13 s13 => ?_)
          refine e_gd fun g14 => ?_
          refine e_ifne 81 45 em_342 rfl rfl (ce_at ce_342 19 rfl) g14 (fun h15 => ?_) (fun h15 => ?_)
          · refine e_op 82 em_342 (ce_at ce_342 36 rfl) rfl rfl ?_
            refine e_goto em_342 86 (ce_at ce_342 37 rfl) rfl ?_
            exact e_retz em_342 (ce_at ce_342 39 rfl) (by decide)
          · refine e_mv 46 em_342 (ce_at ce_342 20 rfl) rfl rfl ?_
            refine e_bip 48 em_342 (ce_at ce_342 21 rfl) (by decide) rfl ?_
            refine e_ivi 51 em_342 (ce_at ce_342 22 rfl) (by omega) (iv_v1 (by decide) tq_121 rfl) em_320 (Nat.le_of_ble_eq_true rfl) rfl (tm_isSign w (d - 1) (by omega) _ _) (fun r16 s16 => ?_)
            refine e_gd fun g17 => ?_
            refine e_ifne 81 54 em_342 rfl rfl (ce_at ce_342 23 rfl) g17 (fun h18 => ?_) (fun h18 => ?_)
            · refine e_op 82 em_342 (ce_at ce_342 36 rfl) rfl rfl ?_
              refine e_goto em_342 86 (ce_at ce_342 37 rfl) rfl ?_
              exact e_retz em_342 (ce_at ce_342 39 rfl) (by decide)
            · refine e_mv 55 em_342 (ce_at ce_342 24 rfl) rfl rfl ?_
              refine e_bip 57 em_342 (ce_at ce_342 25 rfl) (by decide) rfl ?_
              refine e_ivi 60 em_342 (ce_at ce_342 26 rfl) (by omega) (iv_v1 (by decide) tq_121 rfl) em_320 (Nat.le_of_ble_eq_true rfl) rfl (tm_isSign w (d - 1) (by omega) _ _) (fun r19 s19 => ?_)
              refine e_gd fun g20 => ?_
              refine e_ifne 81 63 em_342 rfl rfl (ce_at ce_342 27 rfl) g20 (fun h21 => ?_) (fun h21 => ?_)
              · refine e_op 82 em_342 (ce_at ce_342 36 rfl) rfl rfl ?_
                refine e_goto em_342 86 (ce_at ce_342 37 rfl) rfl ?_
                exact e_retz em_342 (ce_at ce_342 39 rfl) (by decide)
              · refine e_mv 64 em_342 (ce_at ce_342 28 rfl) rfl rfl ?_
                refine e_bip 66 em_342 (ce_at ce_342 29 rfl) (by decide) rfl ?_
                refine e_ivi 69 em_342 (ce_at ce_342 30 rfl) (by omega) (iv_v1 (by decide) tq_121 rfl) em_320 (Nat.le_of_ble_eq_true rfl) rfl (tm_isSign w (d - 1) (by omega) _ _) (fun r22 s22 => ?_)
                refine e_gd fun g23 => ?_
                refine e_ifne 81 72 em_342 rfl rfl (ce_at ce_342 31 rfl) g23 (fun h24 => ?_) (fun h24 => ?_)
                · refine e_op 82 em_342 (ce_at ce_342 36 rfl) rfl rfl ?_
                  refine e_goto em_342 86 (ce_at ce_342 37 rfl) rfl ?_
                  exact e_retz em_342 (ce_at ce_342 39 rfl) (by decide)
                · refine e_mv 73 em_342 (ce_at ce_342 32 rfl) rfl rfl ?_
                  refine e_bip 75 em_342 (ce_at ce_342 33 rfl) (by decide) rfl ?_
                  refine e_ivi 78 em_342 (ce_at ce_342 34 rfl) (by omega) (iv_v1 (by decide) tq_121 rfl) em_320 (Nat.le_of_ble_eq_true rfl) rfl (tm_isSign w (d - 1) (by omega) _ _) (fun r25 s25 => ?_)
                  refine e_gd fun g26 => ?_
                  refine e_ifeq 85 81 em_342 rfl rfl (ce_at ce_342 35 rfl) g26 (fun h27 => ?_) (fun h27 => ?_)
                  · refine e_op 86 em_342 (ce_at ce_342 38 rfl) rfl rfl ?_
                    exact e_retz em_342 (ce_at ce_342 39 rfl) (by decide)
                  · refine e_op 82 em_342 (ce_at ce_342 36 rfl) rfl rfl ?_
                    refine e_goto em_342 86 (ce_at ce_342 37 rfl) rfl ?_
                    exact e_retz em_342 (ce_at ce_342 39 rfl) (by decide)
theorem fm_isOperator (s : iS) : Fm Prod.snd L_m_isOperator G_m_isOperator s (m_isOperator s) := fm_bd (fm_sub (fm_isSign _ _) (mem_sub_L rfl) (mem_sub_F rfl)) (fun r1 s1 => fm_gd (fm_if (fm_bd (fm_sub (fm_isSign _ _) (mem_sub_L rfl) (mem_sub_F rfl)) (fun r4 s4 => fm_gd (fm_if (fm_bd (fm_sub (fm_isSign _ _) (mem_sub_L rfl) (mem_sub_F rfl)) (fun r7 s7 => fm_gd (fm_if (fm_bd (fm_sub (fm_isSign _ _) (mem_sub_L rfl) (mem_sub_F rfl)) (fun r10 s10 => fm_gd (fm_if (fm_bd (fm_sub (fm_isSign _ _) (mem_sub_L rfl) (mem_sub_F rfl)) (fun r13 s13 => fm_gd (fm_if (fm_bd (fm_sub (fm_isSign _ _) (mem_sub_L rfl) (mem_sub_F rfl)) (fun r16 s16 => fm_gd (fm_if (fm_bd (fm_sub (fm_isSign _ _) (mem_sub_L rfl) (mem_sub_F rfl)) (fun r19 s19 => fm_gd (fm_if (fm_bd (fm_sub (fm_isSign _ _) (mem_sub_L rfl) (mem_sub_F rfl)) (fun r22 s22 => fm_gd (fm_if (fm_bd (fm_sub (fm_isSign _ _) (mem_sub_L rfl) (mem_sub_F rfl)) (fun r25 s25 => fm_gd (fm_if (fm_some md_refl) (fm_some md_refl)))) (fm_some md_refl)))) (fm_some md_refl)))) (fm_some md_refl)))) (fm_some md_refl)))) (fm_some md_refl)))) (fm_some md_refl)))) (fm_some md_refl)))) (fm_some md_refl)))
/-! m_closeCall -/
def L_m_closeCall : List Nat := [144, 145, 146, 147, 148]
def G_m_closeCall : List (Nat × Nat) := [(121, 10), (121, 11), (121, 12), (121, 33), (121, 48), (121, 51)]
noncomputable def m_closeCall (s : iS) : Option (Int × iS) := bd (m_closeSign 41 s) (fun _ s1 => lt' (up s1 121 51 ((s1 121 51) - 1)) (fun s2 => gd (0 ≤ (s2 121 51) ∧ (s2 121 51) < 64) (gd (0 ≤ (s2 159 (s2 121 51).toNat) ∧ (s2 159 (s2 121 51).toNat) < 1000) (bd (m_add 10 (s2 159 (s2 121 51).toNat) 0 (s2 150 (s2 159 (s2 121 51).toNat).toNat) s2) (fun r5 s5 => some (0, s5))))))
theorem tm_closeCall (w : ev_W) (d : Nat) (hd : 4 ≤ d) (s : iS) : Ew hT w d 339 0 [(0, .ref (tb_nK + 121))] [] s (Cv hT) (m_closeCall s) := by
  unfold m_closeCall
  refine e_mv 1 em_339 (ce_at ce_339 0 rfl) rfl rfl ?_
  refine e_bip 3 em_339 (ce_at ce_339 1 rfl) (by decide) rfl ?_
  refine e_ivv 6 em_339 (ce_at ce_339 2 rfl) (by omega) (iv_v1 (by decide) tq_121 rfl) em_340 (Nat.le_of_ble_eq_true rfl) rfl (tm_closeSign w (d - 1) (by omega) _ _) (fun r1 s1 => ?_)
  refine e_mv 7 em_339 (ce_at ce_339 3 rfl) rfl rfl ?_
  refine e_mv 8 em_339 (ce_at ce_339 4 rfl) rfl rfl ?_
  refine e_get 11 em_339 (ce_at ce_339 5 rfl) tq_121 rfl rfl ?_
  refine e_op 12 em_339 (ce_at ce_339 6 rfl) rfl rfl ?_
  refine e_isub 13 em_339 rfl (ce_at ce_339 7 rfl) ?_
  refine e_put 16 em_339 (ce_at ce_339 8 rfl) tq_121 rfl rfl rfl (fun s2 => ?_)
  refine e_mv 17 em_339 (ce_at ce_339 9 rfl) rfl rfl ?_
  refine e_bip 19 em_339 (ce_at ce_339 10 rfl) (by decide) rfl ?_
  refine e_mv 20 em_339 (ce_at ce_339 11 rfl) rfl rfl ?_
  refine e_getr 23 em_339 (ce_at ce_339 12 rfl) tq_121 rfl rfl ?_
  refine e_mv 24 em_339 (ce_at ce_339 13 rfl) rfl rfl ?_
  refine e_get 27 em_339 (ce_at ce_339 14 rfl) tq_121 rfl rfl ?_
  refine e_gd fun g3 => ?_
  refine e_ild 28 em_339 (ce_at ce_339 15 rfl) tq_159 (by decide) g3 rfl ?_
  refine e_op 29 em_339 (ce_at ce_339 16 rfl) rfl rfl ?_
  refine e_mv 30 em_339 (ce_at ce_339 17 rfl) rfl rfl ?_
  refine e_getr 33 em_339 (ce_at ce_339 18 rfl) tq_121 rfl rfl ?_
  refine e_mv 34 em_339 (ce_at ce_339 19 rfl) rfl rfl ?_
  refine e_getr 37 em_339 (ce_at ce_339 20 rfl) tq_121 rfl rfl ?_
  refine e_mv 38 em_339 (ce_at ce_339 21 rfl) rfl rfl ?_
  refine e_get 41 em_339 (ce_at ce_339 22 rfl) tq_121 rfl rfl ?_
  refine e_ild 42 em_339 (ce_at ce_339 23 rfl) tq_159 (by decide) g3 rfl ?_
  refine e_gd fun g4 => ?_
  refine e_ild 43 em_339 (ce_at ce_339 24 rfl) tq_150 (by decide) g4 rfl ?_
  refine e_ivi 46 em_339 (ce_at ce_339 25 rfl) (by omega) (iv_v4 (by decide) tq_121 rfl) em_330 (Nat.le_of_ble_eq_true rfl) rfl (tm_add w (d - 1) (by omega) _ _ _ _ _) (fun r5 s5 => ?_)
  refine e_op 47 em_339 (ce_at ce_339 26 rfl) rfl rfl ?_
  exact e_retv em_339 (ce_at ce_339 27 rfl)
theorem fm_closeCall (s : iS) : Fm Prod.snd L_m_closeCall G_m_closeCall s (m_closeCall s) := fm_bd (fm_sub (fm_closeSign _ _) (mem_sub_L rfl) (mem_sub_F rfl)) (fun r1 s1 => fm_lt (md_upF (mem_F rfl)) (fun s2 => fm_gd (fm_gd (fm_bd (fm_sub (fm_add _ _ _ _ _) (mem_sub_L rfl) (mem_sub_F rfl)) (fun r5 s5 => fm_some md_refl)))))
/-! m_behindTerm -/
def L_m_behindTerm : List Nat := [144, 145, 146, 147, 148, 151, 158]
def G_m_behindTerm : List (Nat × Nat) := [(121, 10), (121, 11), (121, 12), (121, 33), (121, 48), (121, 51), (121, 61)]
def m_behindTerm_0C (w : ev_W) (d : Nat) : (iS) ⊕ (iS) → am_E → Prop := fun q r => q.elim (fun l => ev w d 341 0 ((fun l => [(0, .ref (tb_nK + 121))]) l) [] (hT ((fun l => l) l)) r) (fun e => (fun e r => ev w d 341 58 [(0, .ref (tb_nK + 121))] [] (hT (e)) r) e r)
noncomputable def m_behindTerm_0b (s : iS) : Option ((iS) ⊕ (iS)) := gd (0 ≤ ((s 121 51) - 1) ∧ ((s 121 51) - 1) < 64) (gd (rg (s 157 ((s 121 51) - 1).toNat)) (if (s 157 ((s 121 51) - 1).toNat) = 4 then lt' (up s 121 51 ((s 121 51) - 1)) (fun s4 => lt' (up s4 121 48 ((s4 121 48) - 1)) (fun s5 => gd (0 ≤ (s5 121 51) ∧ (s5 121 51) < 64) (bd (m_add (s5 159 (s5 121 51).toNat) 0 0 (s5 121 10) s5) (fun r7 s7 => some (.inl s7))))) else some (.inr s)))
theorem tm_behindTerm_0b (w : ev_W) (d : Nat) (hd : 5 ≤ d) (s : iS) : Ew hT w d 341 0 [(0, .ref (tb_nK + 121))] [] s (m_behindTerm_0C w d) (m_behindTerm_0b s) := by
  unfold m_behindTerm_0b
  refine e_mv 1 em_341 (ce_at ce_341 0 rfl) rfl rfl ?_
  refine e_getr 4 em_341 (ce_at ce_341 1 rfl) tq_121 rfl rfl ?_
  refine e_mv 5 em_341 (ce_at ce_341 2 rfl) rfl rfl ?_
  refine e_get 8 em_341 (ce_at ce_341 3 rfl) tq_121 rfl rfl ?_
  refine e_op 9 em_341 (ce_at ce_341 4 rfl) rfl rfl ?_
  refine e_isub 10 em_341 rfl (ce_at ce_341 5 rfl) ?_
  refine e_gd fun g1 => ?_
  refine e_ild 11 em_341 (ce_at ce_341 6 rfl) tq_157 (by decide) g1 rfl ?_
  refine e_op 12 em_341 (ce_at ce_341 7 rfl) rfl rfl ?_
  refine e_gd fun g2 => ?_
  refine e_cmne 58 15 em_341 rfl rfl (ce_at ce_341 8 rfl) g2 (by decide) (fun h3 => ?_) (fun h3 => ?_)
  · refine e_pk [0] rfl rfl ?_
    exact e_out (fun r h => h)
  · refine e_mv 16 em_341 (ce_at ce_341 9 rfl) rfl rfl ?_
    refine e_mv 17 em_341 (ce_at ce_341 10 rfl) rfl rfl ?_
    refine e_get 20 em_341 (ce_at ce_341 11 rfl) tq_121 rfl rfl ?_
    refine e_op 21 em_341 (ce_at ce_341 12 rfl) rfl rfl ?_
    refine e_isub 22 em_341 rfl (ce_at ce_341 13 rfl) ?_
    refine e_put 25 em_341 (ce_at ce_341 14 rfl) tq_121 rfl rfl rfl (fun s4 => ?_)
    refine e_mv 26 em_341 (ce_at ce_341 15 rfl) rfl rfl ?_
    refine e_mv 27 em_341 (ce_at ce_341 16 rfl) rfl rfl ?_
    refine e_get 30 em_341 (ce_at ce_341 17 rfl) tq_121 rfl rfl ?_
    refine e_op 31 em_341 (ce_at ce_341 18 rfl) rfl rfl ?_
    refine e_isub 32 em_341 rfl (ce_at ce_341 19 rfl) ?_
    refine e_put 35 em_341 (ce_at ce_341 20 rfl) tq_121 rfl rfl rfl (fun s5 => ?_)
    refine e_mv 36 em_341 (ce_at ce_341 21 rfl) rfl rfl ?_
    refine e_mv 37 em_341 (ce_at ce_341 22 rfl) rfl rfl ?_
    refine e_getr 40 em_341 (ce_at ce_341 23 rfl) tq_121 rfl rfl ?_
    refine e_mv 41 em_341 (ce_at ce_341 24 rfl) rfl rfl ?_
    refine e_get 44 em_341 (ce_at ce_341 25 rfl) tq_121 rfl rfl ?_
    refine e_gd fun g6 => ?_
    refine e_ild 45 em_341 (ce_at ce_341 26 rfl) tq_159 (by decide) g6 rfl ?_
    refine e_op 46 em_341 (ce_at ce_341 27 rfl) rfl rfl ?_
    refine e_op 47 em_341 (ce_at ce_341 28 rfl) rfl rfl ?_
    refine e_mv 48 em_341 (ce_at ce_341 29 rfl) rfl rfl ?_
    refine e_get 51 em_341 (ce_at ce_341 30 rfl) tq_121 rfl rfl ?_
    refine e_ivi 54 em_341 (ce_at ce_341 31 rfl) (by omega) (iv_v4 (by decide) tq_121 rfl) em_330 (Nat.le_of_ble_eq_true rfl) rfl (tm_add w (d - 1) (by omega) _ _ _ _ _) (fun r7 s7 => ?_)
    refine e_op 55 em_341 (ce_at ce_341 32 rfl) rfl rfl ?_
    refine e_goto em_341 0 (ce_at ce_341 33 rfl) rfl ?_
    refine e_pk [0] rfl rfl ?_
    exact e_out (fun r h => h)
theorem fm_behindTerm_0b (s : iS) : Fm (fun r : (iS) ⊕ (iS) => r.elim (fun l => l) (fun e => e)) L_m_behindTerm G_m_behindTerm s (m_behindTerm_0b s) := fm_gd (fm_gd (fm_if (fm_lt (md_upF (mem_F rfl)) (fun s4 => fm_lt (md_upF (mem_F rfl)) (fun s5 => fm_gd (fm_bd (fm_sub (fm_add _ _ _ _ _) (mem_sub_L rfl) (mem_sub_F rfl)) (fun r7 s7 => fm_some md_refl))))) (fm_some md_refl)))
noncomputable def m_behindTerm_121 (v1 : Int) (s : iS) : Option (Int × iS) := bd (m_isOperator s) (fun r1 s1 => gd (rg r1) (if r1 = 0 then gd (0 ≤ v1 ∧ v1 < 64) (gd (rg (s1 157 v1.toNat)) (if (s1 157 v1.toNat) = 0 then lt' (up s1 121 51 0) (fun s7 => some (0, s7)) else if (s1 157 v1.toNat) = 1 then bd (m_closeSign 41 s1) (fun _ s9 => lt' (up s9 121 51 v1) (fun s10 => some (0, s10))) else if (s1 157 v1.toNat) = 2 then bd (m_closeSign 93 s1) (fun _ s12 => lt' (up s12 121 51 v1) (fun s13 => bd (m_add 5 0 0 (s13 121 10) s13) (fun r14 s14 => some (0, s14)))) else gd (0 ≤ (s1 159 v1.toNat) ∧ (s1 159 v1.toNat) < 1000) (lt' (up s1 151 (s1 159 v1.toNat).toNat ((s1 151 (s1 159 v1.toNat).toNat) + 1)) (fun s16 => bd (m_isSign 44 s16) (fun r17 s17 => gd (rg r17) (if r17 = 0 then bd (m_closeCall s17) (fun _ s20 => some (0, s20)) else bd (m_go s17) (fun _ s21 => lt' (up s21 121 61 1) (fun s22 => some (0, s22))))))))) else gd (0 ≤ (s1 121 10) ∧ (s1 121 10) < 2002) (gd (0 ≤ v1 ∧ v1 < 64) (lt' (up s1 158 v1.toNat (s1 127 (s1 121 10).toNat)) (fun s25 => bd (m_go s25) (fun _ s26 => lt' (up s26 121 61 1) (fun s27 => some (0, s27))))))))
theorem tm_behindTerm_121 (w : ev_W) (d : Nat) (hd : 5 ≤ d) (v1 : Int) (s : iS) : Ew hT w d 341 121 [(0, .ref (tb_nK + 121)), (1, iv v1)] [] s (Cv hT) (m_behindTerm_121 v1 s) := by
  unfold m_behindTerm_121
  refine e_mv 122 em_341 (ce_at ce_341 72 rfl) rfl rfl ?_
  refine e_ivi 125 em_341 (ce_at ce_341 73 rfl) (by omega) (iv_v0 (by decide) tq_121 rfl) em_342 (Nat.le_of_ble_eq_true rfl) rfl (tm_isOperator w (d - 1) (by omega) _) (fun r1 s1 => ?_)
  refine e_gd fun g2 => ?_
  refine e_ifeq 153 128 em_341 rfl rfl (ce_at ce_341 74 rfl) g2 (fun h3 => ?_) (fun h3 => ?_)
  · refine e_mv 154 em_341 (ce_at ce_341 90 rfl) rfl rfl ?_
    refine e_getr 157 em_341 (ce_at ce_341 91 rfl) tq_121 rfl rfl ?_
    refine e_mv 158 em_341 (ce_at ce_341 92 rfl) rfl rfl ?_
    refine e_gd fun g4 => ?_
    refine e_ild 159 em_341 (ce_at ce_341 93 rfl) tq_157 (by decide) g4 rfl ?_
    refine e_gd fun g5 => ?_
    refine e_case 0 (fun h6 => ?_) (fun h6 => ?_)
    · refine e_sw em_341 184 (ce_at ce_341 94 rfl) (sw_in g5 (by omega) (by rw [h6]; rfl)) rfl ?_
      refine e_mv 185 em_341 (ce_at ce_341 95 rfl) rfl rfl ?_
      refine e_op 186 em_341 (ce_at ce_341 96 rfl) rfl rfl ?_
      refine e_put 189 em_341 (ce_at ce_341 97 rfl) tq_121 rfl rfl rfl (fun s7 => ?_)
      exact e_retv em_341 (ce_at ce_341 98 rfl)
    refine e_case 1 (fun h8 => ?_) (fun h8 => ?_)
    · refine e_sw em_341 190 (ce_at ce_341 94 rfl) (sw_in g5 (by omega) (by rw [h8]; rfl)) rfl ?_
      refine e_mv 191 em_341 (ce_at ce_341 99 rfl) rfl rfl ?_
      refine e_bip 193 em_341 (ce_at ce_341 100 rfl) (by decide) rfl ?_
      refine e_ivv 196 em_341 (ce_at ce_341 101 rfl) (by omega) (iv_v1 (by decide) tq_121 rfl) em_340 (Nat.le_of_ble_eq_true rfl) rfl (tm_closeSign w (d - 1) (by omega) _ _) (fun r9 s9 => ?_)
      refine e_mv 197 em_341 (ce_at ce_341 102 rfl) rfl rfl ?_
      refine e_mv 198 em_341 (ce_at ce_341 103 rfl) rfl rfl ?_
      refine e_put 201 em_341 (ce_at ce_341 104 rfl) tq_121 rfl rfl rfl (fun s10 => ?_)
      exact e_retv em_341 (ce_at ce_341 105 rfl)
    refine e_case 2 (fun h11 => ?_) (fun h11 => ?_)
    · refine e_sw em_341 202 (ce_at ce_341 94 rfl) (sw_in g5 (by omega) (by rw [h11]; rfl)) rfl ?_
      refine e_mv 203 em_341 (ce_at ce_341 106 rfl) rfl rfl ?_
      refine e_bip 205 em_341 (ce_at ce_341 107 rfl) (by decide) rfl ?_
      refine e_ivv 208 em_341 (ce_at ce_341 108 rfl) (by omega) (iv_v1 (by decide) tq_121 rfl) em_340 (Nat.le_of_ble_eq_true rfl) rfl (tm_closeSign w (d - 1) (by omega) _ _) (fun r12 s12 => ?_)
      refine e_mv 209 em_341 (ce_at ce_341 109 rfl) rfl rfl ?_
      refine e_mv 210 em_341 (ce_at ce_341 110 rfl) rfl rfl ?_
      refine e_put 213 em_341 (ce_at ce_341 111 rfl) tq_121 rfl rfl rfl (fun s13 => ?_)
      refine e_mv 214 em_341 (ce_at ce_341 112 rfl) rfl rfl ?_
      refine e_op 215 em_341 (ce_at ce_341 113 rfl) rfl rfl ?_
      refine e_op 216 em_341 (ce_at ce_341 114 rfl) rfl rfl ?_
      refine e_op 217 em_341 (ce_at ce_341 115 rfl) rfl rfl ?_
      refine e_mv 218 em_341 (ce_at ce_341 116 rfl) rfl rfl ?_
      refine e_get 221 em_341 (ce_at ce_341 117 rfl) tq_121 rfl rfl ?_
      refine e_ivi 224 em_341 (ce_at ce_341 118 rfl) (by omega) (iv_v4 (by decide) tq_121 rfl) em_330 (Nat.le_of_ble_eq_true rfl) rfl (tm_add w (d - 1) (by omega) _ _ _ _ _) (fun r14 s14 => ?_)
      refine e_op 225 em_341 (ce_at ce_341 119 rfl) rfl rfl ?_
      exact e_retv em_341 (ce_at ce_341 120 rfl)
    refine e_sw em_341 226 (ce_at ce_341 94 rfl) (sw_out g5 (by omega)) rfl ?_
    refine e_mv 227 em_341 (ce_at ce_341 121 rfl) rfl rfl ?_
    refine e_getr 230 em_341 (ce_at ce_341 122 rfl) tq_121 rfl rfl ?_
    refine e_mv 231 em_341 (ce_at ce_341 123 rfl) rfl rfl ?_
    refine e_getr 234 em_341 (ce_at ce_341 124 rfl) tq_121 rfl rfl ?_
    refine e_mv 235 em_341 (ce_at ce_341 125 rfl) rfl rfl ?_
    refine e_ild 236 em_341 (ce_at ce_341 126 rfl) tq_159 (by decide) g4 rfl ?_
    refine e_mv 237 em_341 (ce_at ce_341 127 rfl) rfl rfl ?_
    refine e_getr 240 em_341 (ce_at ce_341 128 rfl) tq_121 rfl rfl ?_
    refine e_mv 241 em_341 (ce_at ce_341 129 rfl) rfl rfl ?_
    refine e_getr 244 em_341 (ce_at ce_341 130 rfl) tq_121 rfl rfl ?_
    refine e_mv 245 em_341 (ce_at ce_341 131 rfl) rfl rfl ?_
    refine e_ild 246 em_341 (ce_at ce_341 132 rfl) tq_159 (by decide) g4 rfl ?_
    refine e_gd fun g15 => ?_
    refine e_ild 247 em_341 (ce_at ce_341 133 rfl) tq_151 (by decide) g15 rfl ?_
    refine e_op 248 em_341 (ce_at ce_341 134 rfl) rfl rfl ?_
    refine e_iadd 249 em_341 rfl (ce_at ce_341 135 rfl) ?_
    refine e_ist 250 em_341 (ce_at ce_341 136 rfl) tq_151 (by decide) g15 rfl (fun s16 => ?_)
    refine e_mv 251 em_341 (ce_at ce_341 137 rfl) rfl rfl ?_
    refine e_bip 253 em_341 (ce_at ce_341 138 rfl) (by decide) rfl ?_
    refine e_ivi 256 em_341 (ce_at ce_341 139 rfl) (by omega) (iv_v1 (by decide) tq_121 rfl) em_320 (Nat.le_of_ble_eq_true rfl) rfl (tm_isSign w (d - 1) (by omega) _ _) (fun r17 s17 => ?_)
    refine e_gd fun g18 => ?_
    refine e_ifeq 269 259 em_341 rfl rfl (ce_at ce_341 140 rfl) g18 (fun h19 => ?_) (fun h19 => ?_)
    · refine e_mv 270 em_341 (ce_at ce_341 147 rfl) rfl rfl ?_
      refine e_ivv 273 em_341 (ce_at ce_341 148 rfl) (by omega) (iv_v0 (by decide) tq_121 rfl) em_339 (Nat.le_of_ble_eq_true rfl) rfl (tm_closeCall w (d - 1) (by omega) _) (fun r20 s20 => ?_)
      exact e_retv em_341 (ce_at ce_341 149 rfl)
    · refine e_mv 260 em_341 (ce_at ce_341 141 rfl) rfl rfl ?_
      refine e_ivv 263 em_341 (ce_at ce_341 142 rfl) (by omega) (iv_v0 (by decide) tq_121 rfl) em_315 (Nat.le_of_ble_eq_true rfl) rfl (tm_go w (d - 1) (by omega) _) (fun r21 s21 => ?_)
      refine e_mv 264 em_341 (ce_at ce_341 143 rfl) rfl rfl ?_
      refine e_op 265 em_341 (ce_at ce_341 144 rfl) rfl rfl ?_
      refine e_put 268 em_341 (ce_at ce_341 145 rfl) tq_121 rfl rfl rfl (fun s22 => ?_)
      exact e_retv em_341 (ce_at ce_341 146 rfl)
  · refine e_mv 129 em_341 (ce_at ce_341 75 rfl) rfl rfl ?_
    refine e_getr 132 em_341 (ce_at ce_341 76 rfl) tq_121 rfl rfl ?_
    refine e_mv 133 em_341 (ce_at ce_341 77 rfl) rfl rfl ?_
    refine e_mv 134 em_341 (ce_at ce_341 78 rfl) rfl rfl ?_
    refine e_getr 137 em_341 (ce_at ce_341 79 rfl) tq_121 rfl rfl ?_
    refine e_mv 138 em_341 (ce_at ce_341 80 rfl) rfl rfl ?_
    refine e_get 141 em_341 (ce_at ce_341 81 rfl) tq_121 rfl rfl ?_
    refine e_gd fun g23 => ?_
    refine e_ild 142 em_341 (ce_at ce_341 82 rfl) tq_127 (by decide) g23 rfl ?_
    refine e_gd fun g24 => ?_
    refine e_ist 143 em_341 (ce_at ce_341 83 rfl) tq_158 (by decide) g24 rfl (fun s25 => ?_)
    refine e_mv 144 em_341 (ce_at ce_341 84 rfl) rfl rfl ?_
    refine e_ivv 147 em_341 (ce_at ce_341 85 rfl) (by omega) (iv_v0 (by decide) tq_121 rfl) em_315 (Nat.le_of_ble_eq_true rfl) rfl (tm_go w (d - 1) (by omega) _) (fun r26 s26 => ?_)
    refine e_mv 148 em_341 (ce_at ce_341 86 rfl) rfl rfl ?_
    refine e_op 149 em_341 (ce_at ce_341 87 rfl) rfl rfl ?_
    refine e_put 152 em_341 (ce_at ce_341 88 rfl) tq_121 rfl rfl rfl (fun s27 => ?_)
    exact e_retv em_341 (ce_at ce_341 89 rfl)
theorem fm_behindTerm_121 (v1 : Int) (s : iS) : Fm Prod.snd L_m_behindTerm G_m_behindTerm s (m_behindTerm_121 v1 s) := fm_bd (fm_sub (fm_isOperator _) (mem_sub_L rfl) (mem_sub_F rfl)) (fun r1 s1 => fm_gd (fm_if (fm_gd (fm_gd (fm_if (fm_lt (md_upF (mem_F rfl)) (fun s7 => fm_some md_refl)) (fm_if (fm_bd (fm_sub (fm_closeSign _ _) (mem_sub_L rfl) (mem_sub_F rfl)) (fun r9 s9 => fm_lt (md_upF (mem_F rfl)) (fun s10 => fm_some md_refl))) (fm_if (fm_bd (fm_sub (fm_closeSign _ _) (mem_sub_L rfl) (mem_sub_F rfl)) (fun r12 s12 => fm_lt (md_upF (mem_F rfl)) (fun s13 => fm_bd (fm_sub (fm_add _ _ _ _ _) (mem_sub_L rfl) (mem_sub_F rfl)) (fun r14 s14 => fm_some md_refl)))) (fm_gd (fm_lt (md_upL (mem_L rfl)) (fun s16 => fm_bd (fm_sub (fm_isSign _ _) (mem_sub_L rfl) (mem_sub_F rfl)) (fun r17 s17 => fm_gd (fm_if (fm_bd (fm_sub (fm_closeCall _) (mem_sub_L rfl) (mem_sub_F rfl)) (fun r20 s20 => fm_some md_refl)) (fm_bd (fm_sub (fm_go _) (mem_sub_L rfl) (mem_sub_F rfl)) (fun r21 s21 => fm_lt (md_upF (mem_F rfl)) (fun s22 => fm_some md_refl))))))))))))) (fm_gd (fm_gd (fm_lt (md_upL (mem_L rfl)) (fun s25 => fm_bd (fm_sub (fm_go _) (mem_sub_L rfl) (mem_sub_F rfl)) (fun r26 s26 => fm_lt (md_upF (mem_F rfl)) (fun s27 => fm_some md_refl))))))))
noncomputable def m_behindTerm_92 (v1 : Int) (s : iS) : Option (Int × iS) := gd (0 ≤ v1 ∧ v1 < 64) (lt' (up s 158 v1.toNat 0) (fun s2 => gd (rg (s2 157 v1.toNat)) (if (s2 157 v1.toNat) = 0 then gd (rg (s2 121 62)) (if (s2 121 62) = 0 then m_behindTerm_121 v1 s2 else lt' (up s2 121 51 0) (fun s7 => some (0, s7))) else m_behindTerm_121 v1 s2)))
theorem tm_behindTerm_92 (w : ev_W) (d : Nat) (hd : 5 ≤ d) (v1 : Int) (s : iS) : Ew hT w d 341 92 [(0, .ref (tb_nK + 121)), (1, iv v1)] [] s (Cv hT) (m_behindTerm_92 v1 s) := by
  unfold m_behindTerm_92
  refine e_mv 93 em_341 (ce_at ce_341 55 rfl) rfl rfl ?_
  refine e_getr 96 em_341 (ce_at ce_341 56 rfl) tq_121 rfl rfl ?_
  refine e_mv 97 em_341 (ce_at ce_341 57 rfl) rfl rfl ?_
  refine e_op 98 em_341 (ce_at ce_341 58 rfl) rfl rfl ?_
  refine e_gd fun g1 => ?_
  refine e_ist 99 em_341 (ce_at ce_341 59 rfl) tq_158 (by decide) g1 rfl (fun s2 => ?_)
  refine e_mv 100 em_341 (ce_at ce_341 60 rfl) rfl rfl ?_
  refine e_getr 103 em_341 (ce_at ce_341 61 rfl) tq_121 rfl rfl ?_
  refine e_mv 104 em_341 (ce_at ce_341 62 rfl) rfl rfl ?_
  refine e_ild 105 em_341 (ce_at ce_341 63 rfl) tq_157 (by decide) g1 rfl ?_
  refine e_gd fun g3 => ?_
  refine e_ifne 121 108 em_341 rfl rfl (ce_at ce_341 64 rfl) g3 (fun h4 => ?_) (fun h4 => ?_)
  · refine e_pk [0, 1] rfl rfl ?_
    exact tm_behindTerm_121 w d hd _ _
  · refine e_mv 109 em_341 (ce_at ce_341 65 rfl) rfl rfl ?_
    refine e_get 112 em_341 (ce_at ce_341 66 rfl) tq_121 rfl rfl ?_
    refine e_gd fun g5 => ?_
    refine e_ifeq 121 115 em_341 rfl rfl (ce_at ce_341 67 rfl) g5 (fun h6 => ?_) (fun h6 => ?_)
    · refine e_pk [0, 1] rfl rfl ?_
      exact tm_behindTerm_121 w d hd _ _
    · refine e_mv 116 em_341 (ce_at ce_341 68 rfl) rfl rfl ?_
      refine e_op 117 em_341 (ce_at ce_341 69 rfl) rfl rfl ?_
      refine e_put 120 em_341 (ce_at ce_341 70 rfl) tq_121 rfl rfl rfl (fun s7 => ?_)
      exact e_retv em_341 (ce_at ce_341 71 rfl)
theorem fm_behindTerm_92 (v1 : Int) (s : iS) : Fm Prod.snd L_m_behindTerm G_m_behindTerm s (m_behindTerm_92 v1 s) := fm_gd (fm_lt (md_upL (mem_L rfl)) (fun s2 => fm_gd (fm_if (fm_gd (fm_if (fm_behindTerm_121 _ _) (fm_lt (md_upF (mem_F rfl)) (fun s7 => fm_some md_refl)))) (fm_behindTerm_121 _ _))))
noncomputable def m_behindTerm_58 (s : iS) : Option (Int × iS) := gd (0 ≤ ((s 121 51) - 1) ∧ ((s 121 51) - 1) < 64) (gd (rg (s 158 ((s 121 51) - 1).toNat)) (if (s 158 ((s 121 51) - 1).toNat) = 0 then m_behindTerm_92 ((s 121 51) - 1) s else bd (m_add 6 (s 158 ((s 121 51) - 1).toNat) 0 (s 121 10) s) (fun r4 s4 => m_behindTerm_92 ((s 121 51) - 1) s4)))
theorem tm_behindTerm_58 (w : ev_W) (d : Nat) (hd : 5 ≤ d) (s : iS) : Ew hT w d 341 58 [(0, .ref (tb_nK + 121))] [] s (Cv hT) (m_behindTerm_58 s) := by
  unfold m_behindTerm_58
  refine e_mv 59 em_341 (ce_at ce_341 34 rfl) rfl rfl ?_
  refine e_get 62 em_341 (ce_at ce_341 35 rfl) tq_121 rfl rfl ?_
  refine e_op 63 em_341 (ce_at ce_341 36 rfl) rfl rfl ?_
  refine e_isub 64 em_341 rfl (ce_at ce_341 37 rfl) ?_
  refine e_mv 65 em_341 (ce_at ce_341 38 rfl) rfl rfl ?_
  refine e_mv 66 em_341 (ce_at ce_341 39 rfl) rfl rfl ?_
  refine e_getr 69 em_341 (ce_at ce_341 40 rfl) tq_121 rfl rfl ?_
  refine e_mv 70 em_341 (ce_at ce_341 41 rfl) rfl rfl ?_
  refine e_gd fun g1 => ?_
  refine e_ild 71 em_341 (ce_at ce_341 42 rfl) tq_158 (by decide) g1 rfl ?_
  refine e_gd fun g2 => ?_
  refine e_ifeq 92 74 em_341 rfl rfl (ce_at ce_341 43 rfl) g2 (fun h3 => ?_) (fun h3 => ?_)
  · refine e_pk [0, 1] rfl rfl ?_
    exact tm_behindTerm_92 w d hd _ _
  · refine e_mv 75 em_341 (ce_at ce_341 44 rfl) rfl rfl ?_
    refine e_bip 77 em_341 (ce_at ce_341 45 rfl) (by decide) rfl ?_
    refine e_mv 78 em_341 (ce_at ce_341 46 rfl) rfl rfl ?_
    refine e_getr 81 em_341 (ce_at ce_341 47 rfl) tq_121 rfl rfl ?_
    refine e_mv 82 em_341 (ce_at ce_341 48 rfl) rfl rfl ?_
    refine e_ild 83 em_341 (ce_at ce_341 49 rfl) tq_158 (by decide) g1 rfl ?_
    refine e_op 84 em_341 (ce_at ce_341 50 rfl) rfl rfl ?_
    refine e_mv 85 em_341 (ce_at ce_341 51 rfl) rfl rfl ?_
    refine e_get 88 em_341 (ce_at ce_341 52 rfl) tq_121 rfl rfl ?_
    refine e_ivi 91 em_341 (ce_at ce_341 53 rfl) (by omega) (iv_v4 (by decide) tq_121 rfl) em_330 (Nat.le_of_ble_eq_true rfl) rfl (tm_add w (d - 1) (by omega) _ _ _ _ _) (fun r4 s4 => ?_)
    refine e_op 92 em_341 (ce_at ce_341 54 rfl) rfl rfl ?_
    refine e_pk [0, 1] rfl rfl ?_
    exact tm_behindTerm_92 w d hd _ _
theorem fm_behindTerm_58 (s : iS) : Fm Prod.snd L_m_behindTerm G_m_behindTerm s (m_behindTerm_58 s) := fm_gd (fm_gd (fm_if (fm_behindTerm_92 _ _) (fm_bd (fm_sub (fm_add _ _ _ _ _) (mem_sub_L rfl) (mem_sub_F rfl)) (fun r4 s4 => fm_behindTerm_92 _ _))))
noncomputable def m_behindTerm (s : iS) : Option (Int × iS) := (lp (L := iS) (E := iS) (fun l => m_behindTerm_0b l) s).bind (fun e => m_behindTerm_58 e)
theorem tm_behindTerm (w : ev_W) (d : Nat) (hd : 5 ≤ d) (s : iS) : Ew hT w d 341 0 [(0, .ref (tb_nK + 121))] [] s (Cv hT) (m_behindTerm s) := by
  unfold m_behindTerm
  refine e_lp (L := iS) (E := iS) (LO := fun l => [(0, .ref (tb_nK + 121))]) (LS := fun l => l) (CE := fun e r => ev w d 341 58 [(0, .ref (tb_nK + 121))] [] (hT (e)) r) (fun l => tm_behindTerm_0b w d hd _) ?_ s
  intro e
  show Ew hT w d 341 58 [(0, .ref (tb_nK + 121))] [] e (Cv hT) _
  refine e_pk [0] rfl rfl ?_
  exact tm_behindTerm_58 w d hd _
theorem fm_behindTerm (s : iS) : Fm Prod.snd L_m_behindTerm G_m_behindTerm s (m_behindTerm s) := by
  unfold m_behindTerm
  refine fm_lp (A := iS) (E := iS) (LS := fun l => l) (LE := fun e => e) ?_ ?_ s
  · exact fun l => fm_behindTerm_0b _
  · exact (fun e => fm_behindTerm_58 _)
/-! m_beginCall -/
def L_m_beginCall : List Nat := [144, 145, 146, 147, 148, 149, 150, 151, 156, 157, 158, 159]
def G_m_beginCall : List (Nat × Nat) := [(121, 10), (121, 11), (121, 12), (121, 33), (121, 39), (121, 48), (121, 51), (121, 61)]
noncomputable def m_beginCall_134 (t0 : Int) (s : iS) : Option (Int × iS) := gd (t0 = 0 ∨ t0 = 1) (lt' (up s 121 61 t0) (fun s2 => gd (rg (s2 121 61)) (if (s2 121 61) = 0 then bd (m_closeCall s2) (fun _ s5 => some (0, s5)) else some (0, s2))))
theorem tm_beginCall_134 (w : ev_W) (d : Nat) (hd : 5 ≤ d) (t0 : Int) (s : iS) : Ew hT w d 338 134 [(0, .ref (tb_nK + 121))] [iv t0, .ref (tb_nK + 121)] s (Cv hT) (m_beginCall_134 t0 s) := by
  unfold m_beginCall_134
  refine e_gd fun g1 => ?_
  refine e_put 137 em_338 (ce_at ce_338 82 rfl) tq_121 rfl (fit_b rfl g1) rfl (fun s2 => ?_)
  refine e_mv 138 em_338 (ce_at ce_338 83 rfl) rfl rfl ?_
  refine e_get 141 em_338 (ce_at ce_338 84 rfl) tq_121 rfl rfl ?_
  refine e_gd fun g3 => ?_
  refine e_ifne 148 144 em_338 rfl rfl (ce_at ce_338 85 rfl) g3 (fun h4 => ?_) (fun h4 => ?_)
  · exact e_retv em_338 (ce_at ce_338 88 rfl)
  · refine e_mv 145 em_338 (ce_at ce_338 86 rfl) rfl rfl ?_
    refine e_ivv 148 em_338 (ce_at ce_338 87 rfl) (by omega) (iv_v0 (by decide) tq_121 rfl) em_339 (Nat.le_of_ble_eq_true rfl) rfl (tm_closeCall w (d - 1) (by omega) _) (fun r5 s5 => ?_)
    exact e_retv em_338 (ce_at ce_338 88 rfl)
theorem fm_beginCall_134 (t0 : Int) (s : iS) : Fm Prod.snd L_m_beginCall G_m_beginCall s (m_beginCall_134 t0 s) := fm_gd (fm_lt (md_upF (mem_F rfl)) (fun s2 => fm_gd (fm_if (fm_bd (fm_sub (fm_closeCall _) (mem_sub_L rfl) (mem_sub_F rfl)) (fun r5 s5 => fm_some md_refl)) (fm_some md_refl))))
noncomputable def m_beginCall_78 (v1 : Int) (v2 : Int) (s : iS) : Option (Int × iS) := gd (rg (s 121 11)) (if (s 121 11) ≤ 0 then bd (m_openSign 40 s) (fun _ s3 => bd (m_add 9 v2 0 v1 s3) (fun r4 s4 => bd (m_push 3 s4) (fun _ s5 => gd (0 ≤ ((s5 121 51) - 1) ∧ ((s5 121 51) - 1) < 64) (lt' (up s5 159 ((s5 121 51) - 1).toNat v2) (fun s7 => bd (m_isSign 41 s7) (fun r8 s8 => gd (rg r8) (if r8 = 0 then m_beginCall_134 1 s8 else m_beginCall_134 0 s8))))))) else some (0, s))
theorem tm_beginCall_78 (w : ev_W) (d : Nat) (hd : 5 ≤ d) (v1 : Int) (v2 : Int) (s : iS) : Ew hT w d 338 78 [(0, .ref (tb_nK + 121)), (1, iv v1), (2, iv v2)] [] s (Cv hT) (m_beginCall_78 v1 v2 s) := by
  unfold m_beginCall_78
  refine e_mv 79 em_338 (ce_at ce_338 49 rfl) rfl rfl ?_
  refine e_get 82 em_338 (ce_at ce_338 50 rfl) tq_121 rfl rfl ?_
  refine e_gd fun g1 => ?_
  refine e_ifle 86 85 em_338 rfl rfl (ce_at ce_338 51 rfl) g1 (fun h2 => ?_) (fun h2 => ?_)
  · refine e_mv 87 em_338 (ce_at ce_338 53 rfl) rfl rfl ?_
    refine e_bip 89 em_338 (ce_at ce_338 54 rfl) (by decide) rfl ?_
    refine e_ivv 92 em_338 (ce_at ce_338 55 rfl) (by omega) (iv_v1 (by decide) tq_121 rfl) em_319 (Nat.le_of_ble_eq_true rfl) rfl (tm_openSign w (d - 1) (by omega) _ _) (fun r3 s3 => ?_)
    refine e_mv 93 em_338 (ce_at ce_338 56 rfl) rfl rfl ?_
    refine e_bip 95 em_338 (ce_at ce_338 57 rfl) (by decide) rfl ?_
    refine e_mv 96 em_338 (ce_at ce_338 58 rfl) rfl rfl ?_
    refine e_op 97 em_338 (ce_at ce_338 59 rfl) rfl rfl ?_
    refine e_mv 98 em_338 (ce_at ce_338 60 rfl) rfl rfl ?_
    refine e_ivi 101 em_338 (ce_at ce_338 61 rfl) (by omega) (iv_v4 (by decide) tq_121 rfl) em_330 (Nat.le_of_ble_eq_true rfl) rfl (tm_add w (d - 1) (by omega) _ _ _ _ _) (fun r4 s4 => ?_)
    refine e_op 102 em_338 (ce_at ce_338 62 rfl) rfl rfl ?_
    refine e_mv 103 em_338 (ce_at ce_338 63 rfl) rfl rfl ?_
    refine e_op 104 em_338 (ce_at ce_338 64 rfl) rfl rfl ?_
    refine e_ivv 107 em_338 (ce_at ce_338 65 rfl) (by omega) (iv_v1 (by decide) tq_121 rfl) em_334 (Nat.le_of_ble_eq_true rfl) rfl (tm_push w (d - 1) (by omega) _ _) (fun r5 s5 => ?_)
    refine e_mv 108 em_338 (ce_at ce_338 66 rfl) rfl rfl ?_
    refine e_getr 111 em_338 (ce_at ce_338 67 rfl) tq_121 rfl rfl ?_
    refine e_mv 112 em_338 (ce_at ce_338 68 rfl) rfl rfl ?_
    refine e_get 115 em_338 (ce_at ce_338 69 rfl) tq_121 rfl rfl ?_
    refine e_op 116 em_338 (ce_at ce_338 70 rfl) rfl rfl ?_
    refine e_isub 117 em_338 rfl (ce_at ce_338 71 rfl) ?_
    refine e_mv 118 em_338 (ce_at ce_338 72 rfl) rfl rfl ?_
    refine e_gd fun g6 => ?_
    refine e_ist 119 em_338 (ce_at ce_338 73 rfl) tq_159 (by decide) g6 rfl (fun s7 => ?_)
    refine e_mv 120 em_338 (ce_at ce_338 74 rfl) rfl rfl ?_
    refine e_mv 121 em_338 (ce_at ce_338 75 rfl) rfl rfl ?_
    refine e_bip 123 em_338 (ce_at ce_338 76 rfl) (by decide) rfl ?_
    refine e_ivi 126 em_338 (ce_at ce_338 77 rfl) (by omega) (iv_v1 (by decide) tq_121 rfl) em_320 (Nat.le_of_ble_eq_true rfl) rfl (tm_isSign w (d - 1) (by omega) _ _) (fun r8 s8 => ?_)
    refine e_gd fun g9 => ?_
    refine e_ifne 133 129 em_338 rfl rfl (ce_at ce_338 78 rfl) g9 (fun h10 => ?_) (fun h10 => ?_)
    · refine e_op 134 em_338 (ce_at ce_338 81 rfl) rfl rfl ?_
      refine e_pk [0] rfl rfl ?_
      exact tm_beginCall_134 w d hd _ _
    · refine e_op 130 em_338 (ce_at ce_338 79 rfl) rfl rfl ?_
      refine e_goto em_338 134 (ce_at ce_338 80 rfl) rfl ?_
      refine e_pk [0] rfl rfl ?_
      exact tm_beginCall_134 w d hd _ _
  · exact e_retv em_338 (ce_at ce_338 52 rfl)
theorem fm_beginCall_78 (v1 : Int) (v2 : Int) (s : iS) : Fm Prod.snd L_m_beginCall G_m_beginCall s (m_beginCall_78 v1 v2 s) := fm_gd (fm_if (fm_bd (fm_sub (fm_openSign _ _) (mem_sub_L rfl) (mem_sub_F rfl)) (fun r3 s3 => fm_bd (fm_sub (fm_add _ _ _ _ _) (mem_sub_L rfl) (mem_sub_F rfl)) (fun r4 s4 => fm_bd (fm_sub (fm_push _ _) (mem_sub_L rfl) (mem_sub_F rfl)) (fun r5 s5 => fm_gd (fm_lt (md_upL (mem_L rfl)) (fun s7 => fm_bd (fm_sub (fm_isSign _ _) (mem_sub_L rfl) (mem_sub_F rfl)) (fun r8 s8 => fm_gd (fm_if (fm_beginCall_134 _ _) (fm_beginCall_134 _ _))))))))) (fm_some md_refl))
noncomputable def m_beginCall (v1 : Int) (s : iS) : Option (Int × iS) := lt' (up s 121 39 ((s 121 39) + 1)) (fun s1 => gd (0 ≤ (s 121 39) ∧ (s 121 39) < 1000) (lt' (up s1 149 (s 121 39).toNat (-1)) (fun s3 => lt' (up s3 150 (s 121 39).toNat v1) (fun s4 => lt' (up s4 151 (s 121 39).toNat 0) (fun s5 => lt' (up s5 156 (s 121 39).toNat ((s5 121 17) - 1)) (fun s6 => bd (m_isSign 46 s6) (fun r7 s7 => gd (rg r7) (if r7 = 0 then m_beginCall_78 v1 (s 121 39) s7 else bd (m_go s7) (fun _ s10 => lt' (up s10 149 (s 121 39).toNat v1) (fun s11 => bd (m_needName s11) (fun r12 s12 => lt' (up s12 150 (s 121 39).toNat r12) (fun s13 => m_beginCall_78 v1 (s 121 39) s13))))))))))))
theorem tm_beginCall (w : ev_W) (d : Nat) (hd : 5 ≤ d) (v1 : Int) (s : iS) : Ew hT w d 338 0 [(0, .ref (tb_nK + 121)), (1, iv v1)] [] s (Cv hT) (m_beginCall v1 s) := by
  unfold m_beginCall
  refine e_mv 1 em_338 (ce_at ce_338 0 rfl) rfl rfl ?_
  refine e_get 4 em_338 (ce_at ce_338 1 rfl) tq_121 rfl rfl ?_
  refine e_mv 5 em_338 (ce_at ce_338 2 rfl) rfl rfl ?_
  refine e_mv 6 em_338 (ce_at ce_338 3 rfl) rfl rfl ?_
  refine e_mv 7 em_338 (ce_at ce_338 4 rfl) rfl rfl ?_
  refine e_get 10 em_338 (ce_at ce_338 5 rfl) tq_121 rfl rfl ?_
  refine e_op 11 em_338 (ce_at ce_338 6 rfl) rfl rfl ?_
  refine e_iadd 12 em_338 rfl (ce_at ce_338 7 rfl) ?_
  refine e_put 15 em_338 (ce_at ce_338 8 rfl) tq_121 rfl rfl rfl (fun s1 => ?_)
  refine e_mv 16 em_338 (ce_at ce_338 9 rfl) rfl rfl ?_
  refine e_getr 19 em_338 (ce_at ce_338 10 rfl) tq_121 rfl rfl ?_
  refine e_mv 20 em_338 (ce_at ce_338 11 rfl) rfl rfl ?_
  refine e_op 21 em_338 (ce_at ce_338 12 rfl) rfl rfl ?_
  refine e_gd fun g2 => ?_
  refine e_ist 22 em_338 (ce_at ce_338 13 rfl) tq_149 (by decide) g2 rfl (fun s3 => ?_)
  refine e_mv 23 em_338 (ce_at ce_338 14 rfl) rfl rfl ?_
  refine e_getr 26 em_338 (ce_at ce_338 15 rfl) tq_121 rfl rfl ?_
  refine e_mv 27 em_338 (ce_at ce_338 16 rfl) rfl rfl ?_
  refine e_mv 28 em_338 (ce_at ce_338 17 rfl) rfl rfl ?_
  refine e_ist 29 em_338 (ce_at ce_338 18 rfl) tq_150 (by decide) g2 rfl (fun s4 => ?_)
  refine e_mv 30 em_338 (ce_at ce_338 19 rfl) rfl rfl ?_
  refine e_getr 33 em_338 (ce_at ce_338 20 rfl) tq_121 rfl rfl ?_
  refine e_mv 34 em_338 (ce_at ce_338 21 rfl) rfl rfl ?_
  refine e_op 35 em_338 (ce_at ce_338 22 rfl) rfl rfl ?_
  refine e_ist 36 em_338 (ce_at ce_338 23 rfl) tq_151 (by decide) g2 rfl (fun s5 => ?_)
  refine e_mv 37 em_338 (ce_at ce_338 24 rfl) rfl rfl ?_
  refine e_getr 40 em_338 (ce_at ce_338 25 rfl) tq_121 rfl rfl ?_
  refine e_mv 41 em_338 (ce_at ce_338 26 rfl) rfl rfl ?_
  refine e_mv 42 em_338 (ce_at ce_338 27 rfl) rfl rfl ?_
  refine e_get 45 em_338 (ce_at ce_338 28 rfl) tq_121 rfl rfl ?_
  refine e_op 46 em_338 (ce_at ce_338 29 rfl) rfl rfl ?_
  refine e_isub 47 em_338 rfl (ce_at ce_338 30 rfl) ?_
  refine e_ist 48 em_338 (ce_at ce_338 31 rfl) tq_156 (by decide) g2 rfl (fun s6 => ?_)
  refine e_mv 49 em_338 (ce_at ce_338 32 rfl) rfl rfl ?_
  refine e_bip 51 em_338 (ce_at ce_338 33 rfl) (by decide) rfl ?_
  refine e_ivi 54 em_338 (ce_at ce_338 34 rfl) (by omega) (iv_v1 (by decide) tq_121 rfl) em_320 (Nat.le_of_ble_eq_true rfl) rfl (tm_isSign w (d - 1) (by omega) _ _) (fun r7 s7 => ?_)
  refine e_gd fun g8 => ?_
  refine e_ifeq 78 57 em_338 rfl rfl (ce_at ce_338 35 rfl) g8 (fun h9 => ?_) (fun h9 => ?_)
  · refine e_pk [0, 1, 2] rfl rfl ?_
    exact tm_beginCall_78 w d hd _ _ _
  · refine e_mv 58 em_338 (ce_at ce_338 36 rfl) rfl rfl ?_
    refine e_ivv 61 em_338 (ce_at ce_338 37 rfl) (by omega) (iv_v0 (by decide) tq_121 rfl) em_315 (Nat.le_of_ble_eq_true rfl) rfl (tm_go w (d - 1) (by omega) _) (fun r10 s10 => ?_)
    refine e_mv 62 em_338 (ce_at ce_338 38 rfl) rfl rfl ?_
    refine e_getr 65 em_338 (ce_at ce_338 39 rfl) tq_121 rfl rfl ?_
    refine e_mv 66 em_338 (ce_at ce_338 40 rfl) rfl rfl ?_
    refine e_mv 67 em_338 (ce_at ce_338 41 rfl) rfl rfl ?_
    refine e_ist 68 em_338 (ce_at ce_338 42 rfl) tq_149 (by decide) g2 rfl (fun s11 => ?_)
    refine e_mv 69 em_338 (ce_at ce_338 43 rfl) rfl rfl ?_
    refine e_getr 72 em_338 (ce_at ce_338 44 rfl) tq_121 rfl rfl ?_
    refine e_mv 73 em_338 (ce_at ce_338 45 rfl) rfl rfl ?_
    refine e_mv 74 em_338 (ce_at ce_338 46 rfl) rfl rfl ?_
    refine e_ivi 77 em_338 (ce_at ce_338 47 rfl) (by omega) (iv_v0 (by decide) tq_121 rfl) em_332 (Nat.le_of_ble_eq_true rfl) rfl (tm_needName w (d - 1) (by omega) _) (fun r12 s12 => ?_)
    refine e_ist 78 em_338 (ce_at ce_338 48 rfl) tq_150 (by decide) g2 rfl (fun s13 => ?_)
    refine e_pk [0, 1, 2] rfl rfl ?_
    exact tm_beginCall_78 w d hd _ _ _
theorem fm_beginCall (v1 : Int) (s : iS) : Fm Prod.snd L_m_beginCall G_m_beginCall s (m_beginCall v1 s) := fm_lt (md_upF (mem_F rfl)) (fun s1 => fm_gd (fm_lt (md_upL (mem_L rfl)) (fun s3 => fm_lt (md_upL (mem_L rfl)) (fun s4 => fm_lt (md_upL (mem_L rfl)) (fun s5 => fm_lt (md_upL (mem_L rfl)) (fun s6 => fm_bd (fm_sub (fm_isSign _ _) (mem_sub_L rfl) (mem_sub_F rfl)) (fun r7 s7 => fm_gd (fm_if (fm_beginCall_78 _ _ _) (fm_bd (fm_sub (fm_go _) (mem_sub_L rfl) (mem_sub_F rfl)) (fun r10 s10 => fm_lt (md_upL (mem_L rfl)) (fun s11 => fm_bd (fm_sub (fm_needName _) (mem_sub_L rfl) (mem_sub_F rfl)) (fun r12 s12 => fm_lt (md_upL (mem_L rfl)) (fun s13 => fm_beginCall_78 _ _ _)))))))))))))
/-! m_named -/
def L_m_named : List Nat := [144, 145, 146, 147, 148, 149, 150, 151, 156, 157, 158, 159]
def G_m_named : List (Nat × Nat) := [(121, 10), (121, 11), (121, 12), (121, 33), (121, 39), (121, 48), (121, 51), (121, 61)]
noncomputable def m_named_18 (v1 : Int) (s : iS) : Option (Int × iS) := bd (m_beginCall v1 s) (fun _ s1 => some (0, s1))
theorem tm_named_18 (w : ev_W) (d : Nat) (hd : 6 ≤ d) (v1 : Int) (s : iS) : Ew hT w d 337 18 [(0, .ref (tb_nK + 121)), (1, iv v1)] [] s (Cv hT) (m_named_18 v1 s) := by
  unfold m_named_18
  refine e_mv 19 em_337 (ce_at ce_337 8 rfl) rfl rfl ?_
  refine e_mv 20 em_337 (ce_at ce_337 9 rfl) rfl rfl ?_
  refine e_ivv 23 em_337 (ce_at ce_337 10 rfl) (by omega) (iv_v1 (by decide) tq_121 rfl) em_338 (Nat.le_of_ble_eq_true rfl) rfl (tm_beginCall w (d - 1) (by omega) _ _) (fun r1 s1 => ?_)
  exact e_retv em_337 (ce_at ce_337 11 rfl)
theorem fm_named_18 (v1 : Int) (s : iS) : Fm Prod.snd L_m_named G_m_named s (m_named_18 v1 s) := fm_bd (fm_sub (fm_beginCall _ _) (mem_sub_L rfl) (mem_sub_F rfl)) (fun r1 s1 => fm_some md_refl)
noncomputable def m_named (v1 : Int) (s : iS) : Option (Int × iS) := bd (m_isSign 46 s) (fun r1 s1 => gd (rg r1) (if r1 = 0 then bd (m_isSign 40 s1) (fun r4 s4 => gd (rg r4) (if r4 = 0 then bd (m_add 4 0 0 v1 s4) (fun r7 s7 => bd (m_isSign 91 s7) (fun r8 s8 => gd (rg r8) (if r8 = 0 then some (0, s8) else bd (m_openSign 91 s8) (fun _ s11 => bd (m_push 2 s11) (fun _ s12 => lt' (up s12 121 61 1) (fun s13 => some (0, s13))))))) else m_named_18 v1 s4)) else m_named_18 v1 s1))
theorem tm_named (w : ev_W) (d : Nat) (hd : 6 ≤ d) (v1 : Int) (s : iS) : Ew hT w d 337 0 [(0, .ref (tb_nK + 121)), (1, iv v1)] [] s (Cv hT) (m_named v1 s) := by
  unfold m_named
  refine e_mv 1 em_337 (ce_at ce_337 0 rfl) rfl rfl ?_
  refine e_bip 3 em_337 (ce_at ce_337 1 rfl) (by decide) rfl ?_
  refine e_ivi 6 em_337 (ce_at ce_337 2 rfl) (by omega) (iv_v1 (by decide) tq_121 rfl) em_320 (Nat.le_of_ble_eq_true rfl) rfl (tm_isSign w (d - 1) (by omega) _ _) (fun r1 s1 => ?_)
  refine e_gd fun g2 => ?_
  refine e_ifne 18 9 em_337 rfl rfl (ce_at ce_337 3 rfl) g2 (fun h3 => ?_) (fun h3 => ?_)
  · refine e_pk [0, 1] rfl rfl ?_
    exact tm_named_18 w d hd _ _
  · refine e_mv 10 em_337 (ce_at ce_337 4 rfl) rfl rfl ?_
    refine e_bip 12 em_337 (ce_at ce_337 5 rfl) (by decide) rfl ?_
    refine e_ivi 15 em_337 (ce_at ce_337 6 rfl) (by omega) (iv_v1 (by decide) tq_121 rfl) em_320 (Nat.le_of_ble_eq_true rfl) rfl (tm_isSign w (d - 1) (by omega) _ _) (fun r4 s4 => ?_)
    refine e_gd fun g5 => ?_
    refine e_ifeq 24 18 em_337 rfl rfl (ce_at ce_337 7 rfl) g5 (fun h6 => ?_) (fun h6 => ?_)
    · refine e_mv 25 em_337 (ce_at ce_337 12 rfl) rfl rfl ?_
      refine e_op 26 em_337 (ce_at ce_337 13 rfl) rfl rfl ?_
      refine e_op 27 em_337 (ce_at ce_337 14 rfl) rfl rfl ?_
      refine e_op 28 em_337 (ce_at ce_337 15 rfl) rfl rfl ?_
      refine e_mv 29 em_337 (ce_at ce_337 16 rfl) rfl rfl ?_
      refine e_ivi 32 em_337 (ce_at ce_337 17 rfl) (by omega) (iv_v4 (by decide) tq_121 rfl) em_330 (Nat.le_of_ble_eq_true rfl) rfl (tm_add w (d - 1) (by omega) _ _ _ _ _) (fun r7 s7 => ?_)
      refine e_op 33 em_337 (ce_at ce_337 18 rfl) rfl rfl ?_
      refine e_mv 34 em_337 (ce_at ce_337 19 rfl) rfl rfl ?_
      refine e_bip 36 em_337 (ce_at ce_337 20 rfl) (by decide) rfl ?_
      refine e_ivi 39 em_337 (ce_at ce_337 21 rfl) (by omega) (iv_v1 (by decide) tq_121 rfl) em_320 (Nat.le_of_ble_eq_true rfl) rfl (tm_isSign w (d - 1) (by omega) _ _) (fun r8 s8 => ?_)
      refine e_gd fun g9 => ?_
      refine e_ifne 43 42 em_337 rfl rfl (ce_at ce_337 22 rfl) g9 (fun h10 => ?_) (fun h10 => ?_)
      · refine e_mv 44 em_337 (ce_at ce_337 24 rfl) rfl rfl ?_
        refine e_bip 46 em_337 (ce_at ce_337 25 rfl) (by decide) rfl ?_
        refine e_ivv 49 em_337 (ce_at ce_337 26 rfl) (by omega) (iv_v1 (by decide) tq_121 rfl) em_319 (Nat.le_of_ble_eq_true rfl) rfl (tm_openSign w (d - 1) (by omega) _ _) (fun r11 s11 => ?_)
        refine e_mv 50 em_337 (ce_at ce_337 27 rfl) rfl rfl ?_
        refine e_op 51 em_337 (ce_at ce_337 28 rfl) rfl rfl ?_
        refine e_ivv 54 em_337 (ce_at ce_337 29 rfl) (by omega) (iv_v1 (by decide) tq_121 rfl) em_334 (Nat.le_of_ble_eq_true rfl) rfl (tm_push w (d - 1) (by omega) _ _) (fun r12 s12 => ?_)
        refine e_mv 55 em_337 (ce_at ce_337 30 rfl) rfl rfl ?_
        refine e_op 56 em_337 (ce_at ce_337 31 rfl) rfl rfl ?_
        refine e_put 59 em_337 (ce_at ce_337 32 rfl) tq_121 rfl rfl rfl (fun s13 => ?_)
        exact e_retv em_337 (ce_at ce_337 33 rfl)
      · exact e_retv em_337 (ce_at ce_337 23 rfl)
    · refine e_pk [0, 1] rfl rfl ?_
      exact tm_named_18 w d hd _ _
theorem fm_named (v1 : Int) (s : iS) : Fm Prod.snd L_m_named G_m_named s (m_named v1 s) := fm_bd (fm_sub (fm_isSign _ _) (mem_sub_L rfl) (mem_sub_F rfl)) (fun r1 s1 => fm_gd (fm_if (fm_bd (fm_sub (fm_isSign _ _) (mem_sub_L rfl) (mem_sub_F rfl)) (fun r4 s4 => fm_gd (fm_if (fm_bd (fm_sub (fm_add _ _ _ _ _) (mem_sub_L rfl) (mem_sub_F rfl)) (fun r7 s7 => fm_bd (fm_sub (fm_isSign _ _) (mem_sub_L rfl) (mem_sub_F rfl)) (fun r8 s8 => fm_gd (fm_if (fm_some md_refl) (fm_bd (fm_sub (fm_openSign _ _) (mem_sub_L rfl) (mem_sub_F rfl)) (fun r11 s11 => fm_bd (fm_sub (fm_push _ _) (mem_sub_L rfl) (mem_sub_F rfl)) (fun r12 s12 => fm_lt (md_upF (mem_F rfl)) (fun s13 => fm_some md_refl)))))))) (fm_named_18 _ _)))) (fm_named_18 _ _)))
/-! m_term -/
def L_m_term : List Nat := [144, 145, 146, 147, 148, 149, 150, 151, 156, 157, 158, 159]
def G_m_term : List (Nat × Nat) := [(121, 10), (121, 11), (121, 12), (121, 33), (121, 39), (121, 48), (121, 49), (121, 51), (121, 61)]
noncomputable def m_term_156 (v1 : Int) (s : iS) : Option (Int × iS) := bd (m_add 0 0 0 v1 s) (fun r1 s1 => bd (m_go s1) (fun _ s2 => some (0, s2)))
theorem tm_term_156 (w : ev_W) (d : Nat) (hd : 7 ≤ d) (v1 : Int) (s : iS) : Ew hT w d 336 156 [(0, .ref (tb_nK + 121)), (1, iv v1)] [] s (Cv hT) (m_term_156 v1 s) := by
  unfold m_term_156
  refine e_mv 157 em_336 (ce_at ce_336 85 rfl) rfl rfl ?_
  refine e_op 158 em_336 (ce_at ce_336 86 rfl) rfl rfl ?_
  refine e_op 159 em_336 (ce_at ce_336 87 rfl) rfl rfl ?_
  refine e_op 160 em_336 (ce_at ce_336 88 rfl) rfl rfl ?_
  refine e_mv 161 em_336 (ce_at ce_336 89 rfl) rfl rfl ?_
  refine e_ivi 164 em_336 (ce_at ce_336 90 rfl) (by omega) (iv_v4 (by decide) tq_121 rfl) em_330 (Nat.le_of_ble_eq_true rfl) rfl (tm_add w (d - 1) (by omega) _ _ _ _ _) (fun r1 s1 => ?_)
  refine e_op 165 em_336 (ce_at ce_336 91 rfl) rfl rfl ?_
  refine e_mv 166 em_336 (ce_at ce_336 92 rfl) rfl rfl ?_
  refine e_ivv 169 em_336 (ce_at ce_336 93 rfl) (by omega) (iv_v0 (by decide) tq_121 rfl) em_315 (Nat.le_of_ble_eq_true rfl) rfl (tm_go w (d - 1) (by omega) _) (fun r2 s2 => ?_)
  refine e_goto em_336 325 (ce_at ce_336 94 rfl) rfl ?_
  exact e_retv em_336 (ce_at ce_336 174 rfl)
theorem fm_term_156 (v1 : Int) (s : iS) : Fm Prod.snd L_m_term G_m_term s (m_term_156 v1 s) := fm_bd (fm_sub (fm_add _ _ _ _ _) (mem_sub_L rfl) (mem_sub_F rfl)) (fun r1 s1 => fm_bd (fm_sub (fm_go _) (mem_sub_L rfl) (mem_sub_F rfl)) (fun r2 s2 => fm_some md_refl))
noncomputable def m_term_279 (t0 : Int) (t1 : Int) (s : iS) : Option (Int × iS) := gd (0 ≤ t1 ∧ t1 < 64) (lt' (up s 159 t1.toNat t0) (fun s2 => bd (m_open s2) (fun _ s3 => bd (m_go s3) (fun _ s4 => lt' (up s4 121 61 1) (fun s5 => some (0, s5))))))
theorem tm_term_279 (w : ev_W) (d : Nat) (hd : 7 ≤ d) (t0 : Int) (t1 : Int) (s : iS) : Ew hT w d 336 279 [(0, .ref (tb_nK + 121))] [iv t0, iv t1, .ref (tb_nK + 159)] s (Cv hT) (m_term_279 t0 t1 s) := by
  unfold m_term_279
  refine e_gd fun g1 => ?_
  refine e_ist 280 em_336 (ce_at ce_336 150 rfl) tq_159 (by decide) g1 rfl (fun s2 => ?_)
  refine e_mv 281 em_336 (ce_at ce_336 151 rfl) rfl rfl ?_
  refine e_ivv 284 em_336 (ce_at ce_336 152 rfl) (by omega) (iv_v0 (by decide) tq_121 rfl) em_321 (Nat.le_of_ble_eq_true rfl) rfl (tm_open w (d - 1) (by omega) _) (fun r3 s3 => ?_)
  refine e_mv 285 em_336 (ce_at ce_336 153 rfl) rfl rfl ?_
  refine e_ivv 288 em_336 (ce_at ce_336 154 rfl) (by omega) (iv_v0 (by decide) tq_121 rfl) em_315 (Nat.le_of_ble_eq_true rfl) rfl (tm_go w (d - 1) (by omega) _) (fun r4 s4 => ?_)
  refine e_mv 289 em_336 (ce_at ce_336 155 rfl) rfl rfl ?_
  refine e_op 290 em_336 (ce_at ce_336 156 rfl) rfl rfl ?_
  refine e_put 293 em_336 (ce_at ce_336 157 rfl) tq_121 rfl rfl rfl (fun s5 => ?_)
  refine e_goto em_336 325 (ce_at ce_336 158 rfl) rfl ?_
  exact e_retv em_336 (ce_at ce_336 174 rfl)
theorem fm_term_279 (t0 : Int) (t1 : Int) (s : iS) : Fm Prod.snd L_m_term G_m_term s (m_term_279 t0 t1 s) := fm_gd (fm_lt (md_upL (mem_L rfl)) (fun s2 => fm_bd (fm_sub (fm_open _) (mem_sub_L rfl) (mem_sub_F rfl)) (fun r3 s3 => fm_bd (fm_sub (fm_go _) (mem_sub_L rfl) (mem_sub_F rfl)) (fun r4 s4 => fm_lt (md_upF (mem_F rfl)) (fun s5 => fm_some md_refl)))))
noncomputable def m_term_243 (s : iS) : Option (Int × iS) := bd (m_push 4 s) (fun _ s1 => gd (0 ≤ (s1 121 10) ∧ (s1 121 10) < 2002) (gd (rg (s1 127 (s1 121 10).toNat)) (if (s1 127 (s1 121 10).toNat) = 45 then m_term_279 7 ((s1 121 51) - 1) s1 else m_term_279 8 ((s1 121 51) - 1) s1)))
theorem tm_term_243 (w : ev_W) (d : Nat) (hd : 7 ≤ d) (s : iS) : Ew hT w d 336 243 [(0, .ref (tb_nK + 121))] [] s (Cv hT) (m_term_243 s) := by
  unfold m_term_243
  refine e_mv 244 em_336 (ce_at ce_336 131 rfl) rfl rfl ?_
  refine e_op 245 em_336 (ce_at ce_336 132 rfl) rfl rfl ?_
  refine e_ivv 248 em_336 (ce_at ce_336 133 rfl) (by omega) (iv_v1 (by decide) tq_121 rfl) em_334 (Nat.le_of_ble_eq_true rfl) rfl (tm_push w (d - 1) (by omega) _ _) (fun r1 s1 => ?_)
  refine e_mv 249 em_336 (ce_at ce_336 134 rfl) rfl rfl ?_
  refine e_getr 252 em_336 (ce_at ce_336 135 rfl) tq_121 rfl rfl ?_
  refine e_mv 253 em_336 (ce_at ce_336 136 rfl) rfl rfl ?_
  refine e_get 256 em_336 (ce_at ce_336 137 rfl) tq_121 rfl rfl ?_
  refine e_op 257 em_336 (ce_at ce_336 138 rfl) rfl rfl ?_
  refine e_isub 258 em_336 rfl (ce_at ce_336 139 rfl) ?_
  refine e_mv 259 em_336 (ce_at ce_336 140 rfl) rfl rfl ?_
  refine e_getr 262 em_336 (ce_at ce_336 141 rfl) tq_121 rfl rfl ?_
  refine e_mv 263 em_336 (ce_at ce_336 142 rfl) rfl rfl ?_
  refine e_get 266 em_336 (ce_at ce_336 143 rfl) tq_121 rfl rfl ?_
  refine e_gd fun g2 => ?_
  refine e_ild 267 em_336 (ce_at ce_336 144 rfl) tq_127 (by decide) g2 rfl ?_
  refine e_bip 269 em_336 (ce_at ce_336 145 rfl) (by decide) rfl ?_
  refine e_gd fun g3 => ?_
  refine e_cmne 277 272 em_336 rfl rfl (ce_at ce_336 146 rfl) g3 (by decide) (fun h4 => ?_) (fun h4 => ?_)
  · refine e_bip 279 em_336 (ce_at ce_336 149 rfl) (by decide) rfl ?_
    refine e_pk [0] rfl rfl ?_
    exact tm_term_279 w d hd _ _ _
  · refine e_bip 274 em_336 (ce_at ce_336 147 rfl) (by decide) rfl ?_
    refine e_goto em_336 279 (ce_at ce_336 148 rfl) rfl ?_
    refine e_pk [0] rfl rfl ?_
    exact tm_term_279 w d hd _ _ _
theorem fm_term_243 (s : iS) : Fm Prod.snd L_m_term G_m_term s (m_term_243 s) := fm_bd (fm_sub (fm_push _ _) (mem_sub_L rfl) (mem_sub_F rfl)) (fun r1 s1 => fm_gd (fm_gd (fm_if (fm_term_279 _ _ _) (fm_term_279 _ _ _))))
noncomputable def m_term_97 (v1 : Int) (s : iS) : Option (Int × iS) := bd (m_add 1 0 0 v1 s) (fun r1 s1 => bd (m_go s1) (fun _ s2 => some (0, s2)))
theorem tm_term_97 (w : ev_W) (d : Nat) (hd : 7 ≤ d) (v1 : Int) (s : iS) : Ew hT w d 336 97 [(0, .ref (tb_nK + 121)), (1, iv v1)] [] s (Cv hT) (m_term_97 v1 s) := by
  unfold m_term_97
  refine e_mv 98 em_336 (ce_at ce_336 53 rfl) rfl rfl ?_
  refine e_op 99 em_336 (ce_at ce_336 54 rfl) rfl rfl ?_
  refine e_op 100 em_336 (ce_at ce_336 55 rfl) rfl rfl ?_
  refine e_op 101 em_336 (ce_at ce_336 56 rfl) rfl rfl ?_
  refine e_mv 102 em_336 (ce_at ce_336 57 rfl) rfl rfl ?_
  refine e_ivi 105 em_336 (ce_at ce_336 58 rfl) (by omega) (iv_v4 (by decide) tq_121 rfl) em_330 (Nat.le_of_ble_eq_true rfl) rfl (tm_add w (d - 1) (by omega) _ _ _ _ _) (fun r1 s1 => ?_)
  refine e_op 106 em_336 (ce_at ce_336 59 rfl) rfl rfl ?_
  refine e_mv 107 em_336 (ce_at ce_336 60 rfl) rfl rfl ?_
  refine e_ivv 110 em_336 (ce_at ce_336 61 rfl) (by omega) (iv_v0 (by decide) tq_121 rfl) em_315 (Nat.le_of_ble_eq_true rfl) rfl (tm_go w (d - 1) (by omega) _) (fun r2 s2 => ?_)
  refine e_goto em_336 325 (ce_at ce_336 62 rfl) rfl ?_
  exact e_retv em_336 (ce_at ce_336 174 rfl)
theorem fm_term_97 (v1 : Int) (s : iS) : Fm Prod.snd L_m_term G_m_term s (m_term_97 v1 s) := fm_bd (fm_sub (fm_add _ _ _ _ _) (mem_sub_L rfl) (mem_sub_F rfl)) (fun r1 s1 => fm_bd (fm_sub (fm_go _) (mem_sub_L rfl) (mem_sub_F rfl)) (fun r2 s2 => fm_some md_refl))
noncomputable def m_term (s : iS) : Option (Int × iS) := lt' (up s 121 61 0) (fun s1 => gd (0 ≤ (s1 121 10) ∧ (s1 121 10) < 2002) (gd (rg (s1 124 (s1 121 10).toNat)) (if (s1 124 (s1 121 10).toNat) = 2 then bd (m_add 0 (s1 127 (s1 121 10).toNat) 0 (s 121 10) s1) (fun r44 s44 => bd (m_go s44) (fun _ s45 => some (0, s45))) else if (s1 124 (s1 121 10).toNat) = 3 then lt' (up s1 121 49 ((s1 121 49) + (s1 127 (s1 121 10).toNat))) (fun s40 => gd (rg (s40 121 49)) (if (s40 121 49) ≤ 300 then m_term_97 (s 121 10) s40 else bd (m_wrong 2 (s40 121 10) s40) (fun _ s43 => m_term_97 (s 121 10) s43))) else bd (m_isWord 11 s1) (fun r6 s6 => gd (rg r6) (if r6 = 0 then bd (m_isWord 12 s6) (fun r9 s9 => gd (rg r9) (if r9 = 0 then bd (m_isWord 13 s9) (fun r12 s12 => gd (rg r12) (if r12 = 0 then bd (m_isWord 14 s12) (fun r15 s15 => gd (rg r15) (if r15 = 0 then bd (m_isSign 40 s15) (fun r18 s18 => gd (rg r18) (if r18 = 0 then bd (m_isSign 45 s18) (fun r21 s21 => gd (rg r21) (if r21 = 0 then bd (m_isSign 126 s21) (fun r24 s24 => gd (rg r24) (if r24 = 0 then gd (0 ≤ (s24 121 10) ∧ (s24 121 10) < 2002) (gd (rg (s24 124 (s24 121 10).toNat)) (if (s24 124 (s24 121 10).toNat) = 1 then bd (m_go s24) (fun _ s31 => bd (m_named (s 121 10) s31) (fun _ s32 => some (0, s32))) else bd (m_syntax s24) (fun _ s30 => some (0, s30)))) else m_term_243 s24)) else m_term_243 s21)) else bd (m_openSign 40 s18) (fun _ s33 => bd (m_push 1 s33) (fun _ s34 => lt' (up s34 121 61 1) (fun s35 => some (0, s35)))))) else bd (m_add 3 0 0 (s 121 10) s15) (fun r36 s36 => bd (m_go s36) (fun _ s37 => some (0, s37))))) else m_term_156 (s 121 10) s12)) else m_term_156 (s 121 10) s9)) else bd (m_add 0 (-1) 0 (s 121 10) s6) (fun r38 s38 => bd (m_go s38) (fun _ s39 => some (0, s39))))))))
theorem tm_term (w : ev_W) (d : Nat) (hd : 7 ≤ d) (s : iS) : Ew hT w d 336 0 [(0, .ref (tb_nK + 121))] [] s (Cv hT) (m_term s) := by
  unfold m_term
  refine e_mv 1 em_336 (ce_at ce_336 0 rfl) rfl rfl ?_
  refine e_get 4 em_336 (ce_at ce_336 1 rfl) tq_121 rfl rfl ?_
  refine e_mv 5 em_336 (ce_at ce_336 2 rfl) rfl rfl ?_
  refine e_mv 6 em_336 (ce_at ce_336 3 rfl) rfl rfl ?_
  refine e_op 7 em_336 (ce_at ce_336 4 rfl) rfl rfl ?_
  refine e_put 10 em_336 (ce_at ce_336 5 rfl) tq_121 rfl rfl rfl (fun s1 => ?_)
  refine e_mv 11 em_336 (ce_at ce_336 6 rfl) rfl rfl ?_
  refine e_getr 14 em_336 (ce_at ce_336 7 rfl) tq_121 rfl rfl ?_
  refine e_mv 15 em_336 (ce_at ce_336 8 rfl) rfl rfl ?_
  refine e_get 18 em_336 (ce_at ce_336 9 rfl) tq_121 rfl rfl ?_
  refine e_gd fun g2 => ?_
  refine e_ild 19 em_336 (ce_at ce_336 10 rfl) tq_124 (by decide) g2 rfl ?_
  refine e_op 20 em_336 (ce_at ce_336 11 rfl) rfl rfl ?_
  refine e_gd fun g3 => ?_
  refine e_cmne 47 23 em_336 rfl rfl (ce_at ce_336 12 rfl) g3 (by decide) (fun h4 => ?_) (fun h4 => ?_)
  · refine e_mv 48 em_336 (ce_at ce_336 27 rfl) rfl rfl ?_
    refine e_getr 51 em_336 (ce_at ce_336 28 rfl) tq_121 rfl rfl ?_
    refine e_mv 52 em_336 (ce_at ce_336 29 rfl) rfl rfl ?_
    refine e_get 55 em_336 (ce_at ce_336 30 rfl) tq_121 rfl rfl ?_
    refine e_ild 56 em_336 (ce_at ce_336 31 rfl) tq_124 (by decide) g2 rfl ?_
    refine e_op 57 em_336 (ce_at ce_336 32 rfl) rfl rfl ?_
    refine e_cmne 113 60 em_336 rfl rfl (ce_at ce_336 33 rfl) g3 (by decide) (fun h5 => ?_) (fun h5 => ?_)
    · refine e_mv 114 em_336 (ce_at ce_336 63 rfl) rfl rfl ?_
      refine e_bip 116 em_336 (ce_at ce_336 64 rfl) (by decide) rfl ?_
      refine e_ivi 119 em_336 (ce_at ce_336 65 rfl) (by omega) (iv_v1 (by decide) tq_121 rfl) em_314 (Nat.le_of_ble_eq_true rfl) rfl (tm_isWord w (d - 1) (by omega) _ _) (fun r6 s6 => ?_)
      refine e_gd fun g7 => ?_
      refine e_ifeq 138 122 em_336 rfl rfl (ce_at ce_336 66 rfl) g7 (fun h8 => ?_) (fun h8 => ?_)
      · refine e_mv 139 em_336 (ce_at ce_336 77 rfl) rfl rfl ?_
        refine e_bip 141 em_336 (ce_at ce_336 78 rfl) (by decide) rfl ?_
        refine e_ivi 144 em_336 (ce_at ce_336 79 rfl) (by omega) (iv_v1 (by decide) tq_121 rfl) em_314 (Nat.le_of_ble_eq_true rfl) rfl (tm_isWord w (d - 1) (by omega) _ _) (fun r9 s9 => ?_)
        refine e_gd fun g10 => ?_
        refine e_ifne 156 147 em_336 rfl rfl (ce_at ce_336 80 rfl) g10 (fun h11 => ?_) (fun h11 => ?_)
        · refine e_pk [0, 1] rfl rfl ?_
          exact tm_term_156 w d hd _ _
        · refine e_mv 148 em_336 (ce_at ce_336 81 rfl) rfl rfl ?_
          refine e_bip 150 em_336 (ce_at ce_336 82 rfl) (by decide) rfl ?_
          refine e_ivi 153 em_336 (ce_at ce_336 83 rfl) (by omega) (iv_v1 (by decide) tq_121 rfl) em_314 (Nat.le_of_ble_eq_true rfl) rfl (tm_isWord w (d - 1) (by omega) _ _) (fun r12 s12 => ?_)
          refine e_gd fun g13 => ?_
          refine e_ifeq 172 156 em_336 rfl rfl (ce_at ce_336 84 rfl) g13 (fun h14 => ?_) (fun h14 => ?_)
          · refine e_mv 173 em_336 (ce_at ce_336 95 rfl) rfl rfl ?_
            refine e_bip 175 em_336 (ce_at ce_336 96 rfl) (by decide) rfl ?_
            refine e_ivi 178 em_336 (ce_at ce_336 97 rfl) (by omega) (iv_v1 (by decide) tq_121 rfl) em_314 (Nat.le_of_ble_eq_true rfl) rfl (tm_isWord w (d - 1) (by omega) _ _) (fun r15 s15 => ?_)
            refine e_gd fun g16 => ?_
            refine e_ifeq 197 181 em_336 rfl rfl (ce_at ce_336 98 rfl) g16 (fun h17 => ?_) (fun h17 => ?_)
            · refine e_mv 198 em_336 (ce_at ce_336 109 rfl) rfl rfl ?_
              refine e_bip 200 em_336 (ce_at ce_336 110 rfl) (by decide) rfl ?_
              refine e_ivi 203 em_336 (ce_at ce_336 111 rfl) (by omega) (iv_v1 (by decide) tq_121 rfl) em_320 (Nat.le_of_ble_eq_true rfl) rfl (tm_isSign w (d - 1) (by omega) _ _) (fun r18 s18 => ?_)
              refine e_gd fun g19 => ?_
              refine e_ifeq 225 206 em_336 rfl rfl (ce_at ce_336 112 rfl) g19 (fun h20 => ?_) (fun h20 => ?_)
              · refine e_mv 226 em_336 (ce_at ce_336 123 rfl) rfl rfl ?_
                refine e_bip 228 em_336 (ce_at ce_336 124 rfl) (by decide) rfl ?_
                refine e_ivi 231 em_336 (ce_at ce_336 125 rfl) (by omega) (iv_v1 (by decide) tq_121 rfl) em_320 (Nat.le_of_ble_eq_true rfl) rfl (tm_isSign w (d - 1) (by omega) _ _) (fun r21 s21 => ?_)
                refine e_gd fun g22 => ?_
                refine e_ifne 243 234 em_336 rfl rfl (ce_at ce_336 126 rfl) g22 (fun h23 => ?_) (fun h23 => ?_)
                · refine e_pk [0] rfl rfl ?_
                  exact tm_term_243 w d hd _
                · refine e_mv 235 em_336 (ce_at ce_336 127 rfl) rfl rfl ?_
                  refine e_bip 237 em_336 (ce_at ce_336 128 rfl) (by decide) rfl ?_
                  refine e_ivi 240 em_336 (ce_at ce_336 129 rfl) (by omega) (iv_v1 (by decide) tq_121 rfl) em_320 (Nat.le_of_ble_eq_true rfl) rfl (tm_isSign w (d - 1) (by omega) _ _) (fun r24 s24 => ?_)
                  refine e_gd fun g25 => ?_
                  refine e_ifeq 296 243 em_336 rfl rfl (ce_at ce_336 130 rfl) g25 (fun h26 => ?_) (fun h26 => ?_)
                  · refine e_mv 297 em_336 (ce_at ce_336 159 rfl) rfl rfl ?_
                    refine e_getr 300 em_336 (ce_at ce_336 160 rfl) tq_121 rfl rfl ?_
                    refine e_mv 301 em_336 (ce_at ce_336 161 rfl) rfl rfl ?_
                    refine e_get 304 em_336 (ce_at ce_336 162 rfl) tq_121 rfl rfl ?_
                    refine e_gd fun g27 => ?_
                    refine e_ild 305 em_336 (ce_at ce_336 163 rfl) tq_124 (by decide) g27 rfl ?_
                    refine e_op 306 em_336 (ce_at ce_336 164 rfl) rfl rfl ?_
                    refine e_gd fun g28 => ?_
                    refine e_cmne 321 309 em_336 rfl rfl (ce_at ce_336 165 rfl) g28 (by decide) (fun h29 => ?_) (fun h29 => ?_)
                    · refine e_mv 322 em_336 (ce_at ce_336 172 rfl) rfl rfl ?_
                      refine e_ivv 325 em_336 (ce_at ce_336 173 rfl) (by omega) (iv_v0 (by decide) tq_121 rfl) em_316 (Nat.le_of_ble_eq_true rfl) rfl (tm_syntax w (d - 1) (by omega) _) (fun r30 s30 => ?_)
                      exact e_retv em_336 (ce_at ce_336 174 rfl)
                    · refine e_mv 310 em_336 (ce_at ce_336 166 rfl) rfl rfl ?_
                      refine e_ivv 313 em_336 (ce_at ce_336 167 rfl) (by omega) (iv_v0 (by decide) tq_121 rfl) em_315 (Nat.le_of_ble_eq_true rfl) rfl (tm_go w (d - 1) (by omega) _) (fun r31 s31 => ?_)
                      refine e_mv 314 em_336 (ce_at ce_336 168 rfl) rfl rfl ?_
                      refine e_mv 315 em_336 (ce_at ce_336 169 rfl) rfl rfl ?_
                      refine e_ivv 318 em_336 (ce_at ce_336 170 rfl) (by omega) (iv_v1 (by decide) tq_121 rfl) em_337 (Nat.le_of_ble_eq_true rfl) rfl (tm_named w (d - 1) (by omega) _ _) (fun r32 s32 => ?_)
                      refine e_goto em_336 325 (ce_at ce_336 171 rfl) rfl ?_
                      exact e_retv em_336 (ce_at ce_336 174 rfl)
                  · refine e_pk [0] rfl rfl ?_
                    exact tm_term_243 w d hd _
              · refine e_mv 207 em_336 (ce_at ce_336 113 rfl) rfl rfl ?_
                refine e_bip 209 em_336 (ce_at ce_336 114 rfl) (by decide) rfl ?_
                refine e_ivv 212 em_336 (ce_at ce_336 115 rfl) (by omega) (iv_v1 (by decide) tq_121 rfl) em_319 (Nat.le_of_ble_eq_true rfl) rfl (tm_openSign w (d - 1) (by omega) _ _) (fun r33 s33 => ?_)
                refine e_mv 213 em_336 (ce_at ce_336 116 rfl) rfl rfl ?_
                refine e_op 214 em_336 (ce_at ce_336 117 rfl) rfl rfl ?_
                refine e_ivv 217 em_336 (ce_at ce_336 118 rfl) (by omega) (iv_v1 (by decide) tq_121 rfl) em_334 (Nat.le_of_ble_eq_true rfl) rfl (tm_push w (d - 1) (by omega) _ _) (fun r34 s34 => ?_)
                refine e_mv 218 em_336 (ce_at ce_336 119 rfl) rfl rfl ?_
                refine e_op 219 em_336 (ce_at ce_336 120 rfl) rfl rfl ?_
                refine e_put 222 em_336 (ce_at ce_336 121 rfl) tq_121 rfl rfl rfl (fun s35 => ?_)
                refine e_goto em_336 325 (ce_at ce_336 122 rfl) rfl ?_
                exact e_retv em_336 (ce_at ce_336 174 rfl)
            · refine e_mv 182 em_336 (ce_at ce_336 99 rfl) rfl rfl ?_
              refine e_op 183 em_336 (ce_at ce_336 100 rfl) rfl rfl ?_
              refine e_op 184 em_336 (ce_at ce_336 101 rfl) rfl rfl ?_
              refine e_op 185 em_336 (ce_at ce_336 102 rfl) rfl rfl ?_
              refine e_mv 186 em_336 (ce_at ce_336 103 rfl) rfl rfl ?_
              refine e_ivi 189 em_336 (ce_at ce_336 104 rfl) (by omega) (iv_v4 (by decide) tq_121 rfl) em_330 (Nat.le_of_ble_eq_true rfl) rfl (tm_add w (d - 1) (by omega) _ _ _ _ _) (fun r36 s36 => ?_)
              refine e_op 190 em_336 (ce_at ce_336 105 rfl) rfl rfl ?_
              refine e_mv 191 em_336 (ce_at ce_336 106 rfl) rfl rfl ?_
              refine e_ivv 194 em_336 (ce_at ce_336 107 rfl) (by omega) (iv_v0 (by decide) tq_121 rfl) em_315 (Nat.le_of_ble_eq_true rfl) rfl (tm_go w (d - 1) (by omega) _) (fun r37 s37 => ?_)
              refine e_goto em_336 325 (ce_at ce_336 108 rfl) rfl ?_
              exact e_retv em_336 (ce_at ce_336 174 rfl)
          · refine e_pk [0, 1] rfl rfl ?_
            exact tm_term_156 w d hd _ _
      · refine e_mv 123 em_336 (ce_at ce_336 67 rfl) rfl rfl ?_
        refine e_op 124 em_336 (ce_at ce_336 68 rfl) rfl rfl ?_
        refine e_op 125 em_336 (ce_at ce_336 69 rfl) rfl rfl ?_
        refine e_op 126 em_336 (ce_at ce_336 70 rfl) rfl rfl ?_
        refine e_mv 127 em_336 (ce_at ce_336 71 rfl) rfl rfl ?_
        refine e_ivi 130 em_336 (ce_at ce_336 72 rfl) (by omega) (iv_v4 (by decide) tq_121 rfl) em_330 (Nat.le_of_ble_eq_true rfl) rfl (tm_add w (d - 1) (by omega) _ _ _ _ _) (fun r38 s38 => ?_)
        refine e_op 131 em_336 (ce_at ce_336 73 rfl) rfl rfl ?_
        refine e_mv 132 em_336 (ce_at ce_336 74 rfl) rfl rfl ?_
        refine e_ivv 135 em_336 (ce_at ce_336 75 rfl) (by omega) (iv_v0 (by decide) tq_121 rfl) em_315 (Nat.le_of_ble_eq_true rfl) rfl (tm_go w (d - 1) (by omega) _) (fun r39 s39 => ?_)
        refine e_goto em_336 325 (ce_at ce_336 76 rfl) rfl ?_
        exact e_retv em_336 (ce_at ce_336 174 rfl)
    · refine e_mv 61 em_336 (ce_at ce_336 34 rfl) rfl rfl ?_
      refine e_mv 62 em_336 (ce_at ce_336 35 rfl) rfl rfl ?_
      refine e_get 65 em_336 (ce_at ce_336 36 rfl) tq_121 rfl rfl ?_
      refine e_mv 66 em_336 (ce_at ce_336 37 rfl) rfl rfl ?_
      refine e_getr 69 em_336 (ce_at ce_336 38 rfl) tq_121 rfl rfl ?_
      refine e_mv 70 em_336 (ce_at ce_336 39 rfl) rfl rfl ?_
      refine e_get 73 em_336 (ce_at ce_336 40 rfl) tq_121 rfl rfl ?_
      refine e_ild 74 em_336 (ce_at ce_336 41 rfl) tq_127 (by decide) g2 rfl ?_
      refine e_iadd 75 em_336 rfl (ce_at ce_336 42 rfl) ?_
      refine e_put 78 em_336 (ce_at ce_336 43 rfl) tq_121 rfl rfl rfl (fun s40 => ?_)
      refine e_mv 79 em_336 (ce_at ce_336 44 rfl) rfl rfl ?_
      refine e_get 82 em_336 (ce_at ce_336 45 rfl) tq_121 rfl rfl ?_
      refine e_sip 85 em_336 (ce_at ce_336 46 rfl) (by decide) rfl ?_
      refine e_gd fun g41 => ?_
      refine e_cmle 97 88 em_336 rfl rfl (ce_at ce_336 47 rfl) g41 (by decide) (fun h42 => ?_) (fun h42 => ?_)
      · refine e_pk [0, 1] rfl rfl ?_
        exact tm_term_97 w d hd _ _
      · refine e_mv 89 em_336 (ce_at ce_336 48 rfl) rfl rfl ?_
        refine e_op 90 em_336 (ce_at ce_336 49 rfl) rfl rfl ?_
        refine e_mv 91 em_336 (ce_at ce_336 50 rfl) rfl rfl ?_
        refine e_get 94 em_336 (ce_at ce_336 51 rfl) tq_121 rfl rfl ?_
        refine e_ivv 97 em_336 (ce_at ce_336 52 rfl) (by omega) (iv_v2 (by decide) tq_121 rfl) em_317 (Nat.le_of_ble_eq_true rfl) rfl (tm_wrong w (d - 1) (by omega) _ _ _) (fun r43 s43 => ?_)
        refine e_pk [0, 1] rfl rfl ?_
        exact tm_term_97 w d hd _ _
  · refine e_mv 24 em_336 (ce_at ce_336 13 rfl) rfl rfl ?_
    refine e_op 25 em_336 (ce_at ce_336 14 rfl) rfl rfl ?_
    refine e_mv 26 em_336 (ce_at ce_336 15 rfl) rfl rfl ?_
    refine e_getr 29 em_336 (ce_at ce_336 16 rfl) tq_121 rfl rfl ?_
    refine e_mv 30 em_336 (ce_at ce_336 17 rfl) rfl rfl ?_
    refine e_get 33 em_336 (ce_at ce_336 18 rfl) tq_121 rfl rfl ?_
    refine e_ild 34 em_336 (ce_at ce_336 19 rfl) tq_127 (by decide) g2 rfl ?_
    refine e_op 35 em_336 (ce_at ce_336 20 rfl) rfl rfl ?_
    refine e_mv 36 em_336 (ce_at ce_336 21 rfl) rfl rfl ?_
    refine e_ivi 39 em_336 (ce_at ce_336 22 rfl) (by omega) (iv_v4 (by decide) tq_121 rfl) em_330 (Nat.le_of_ble_eq_true rfl) rfl (tm_add w (d - 1) (by omega) _ _ _ _ _) (fun r44 s44 => ?_)
    refine e_op 40 em_336 (ce_at ce_336 23 rfl) rfl rfl ?_
    refine e_mv 41 em_336 (ce_at ce_336 24 rfl) rfl rfl ?_
    refine e_ivv 44 em_336 (ce_at ce_336 25 rfl) (by omega) (iv_v0 (by decide) tq_121 rfl) em_315 (Nat.le_of_ble_eq_true rfl) rfl (tm_go w (d - 1) (by omega) _) (fun r45 s45 => ?_)
    refine e_goto em_336 325 (ce_at ce_336 26 rfl) rfl ?_
    exact e_retv em_336 (ce_at ce_336 174 rfl)
theorem fm_term (s : iS) : Fm Prod.snd L_m_term G_m_term s (m_term s) := fm_lt (md_upF (mem_F rfl)) (fun s1 => fm_gd (fm_gd (fm_if (fm_bd (fm_sub (fm_add _ _ _ _ _) (mem_sub_L rfl) (mem_sub_F rfl)) (fun r44 s44 => fm_bd (fm_sub (fm_go _) (mem_sub_L rfl) (mem_sub_F rfl)) (fun r45 s45 => fm_some md_refl))) (fm_if (fm_lt (md_upF (mem_F rfl)) (fun s40 => fm_gd (fm_if (fm_term_97 _ _) (fm_bd (fm_sub (fm_wrong _ _ _) (mem_sub_L rfl) (mem_sub_F rfl)) (fun r43 s43 => fm_term_97 _ _))))) (fm_bd (fm_sub (fm_isWord _ _) (mem_sub_L rfl) (mem_sub_F rfl)) (fun r6 s6 => fm_gd (fm_if (fm_bd (fm_sub (fm_isWord _ _) (mem_sub_L rfl) (mem_sub_F rfl)) (fun r9 s9 => fm_gd (fm_if (fm_bd (fm_sub (fm_isWord _ _) (mem_sub_L rfl) (mem_sub_F rfl)) (fun r12 s12 => fm_gd (fm_if (fm_bd (fm_sub (fm_isWord _ _) (mem_sub_L rfl) (mem_sub_F rfl)) (fun r15 s15 => fm_gd (fm_if (fm_bd (fm_sub (fm_isSign _ _) (mem_sub_L rfl) (mem_sub_F rfl)) (fun r18 s18 => fm_gd (fm_if (fm_bd (fm_sub (fm_isSign _ _) (mem_sub_L rfl) (mem_sub_F rfl)) (fun r21 s21 => fm_gd (fm_if (fm_bd (fm_sub (fm_isSign _ _) (mem_sub_L rfl) (mem_sub_F rfl)) (fun r24 s24 => fm_gd (fm_if (fm_gd (fm_gd (fm_if (fm_bd (fm_sub (fm_go _) (mem_sub_L rfl) (mem_sub_F rfl)) (fun r31 s31 => fm_bd (fm_sub (fm_named _ _) (mem_sub_L rfl) (mem_sub_F rfl)) (fun r32 s32 => fm_some md_refl))) (fm_bd (fm_sub (fm_syntax _) (mem_sub_L rfl) (mem_sub_F rfl)) (fun r30 s30 => fm_some md_refl))))) (fm_term_243 _)))) (fm_term_243 _)))) (fm_bd (fm_sub (fm_openSign _ _) (mem_sub_L rfl) (mem_sub_F rfl)) (fun r33 s33 => fm_bd (fm_sub (fm_push _ _) (mem_sub_L rfl) (mem_sub_F rfl)) (fun r34 s34 => fm_lt (md_upF (mem_F rfl)) (fun s35 => fm_some md_refl))))))) (fm_bd (fm_sub (fm_add _ _ _ _ _) (mem_sub_L rfl) (mem_sub_F rfl)) (fun r36 s36 => fm_bd (fm_sub (fm_go _) (mem_sub_L rfl) (mem_sub_F rfl)) (fun r37 s37 => fm_some md_refl)))))) (fm_term_156 _ _)))) (fm_term_156 _ _)))) (fm_bd (fm_sub (fm_add _ _ _ _ _) (mem_sub_L rfl) (mem_sub_F rfl)) (fun r38 s38 => fm_bd (fm_sub (fm_go _) (mem_sub_L rfl) (mem_sub_F rfl)) (fun r39 s39 => fm_some md_refl))))))))))
/-! m_expressions -/
def L_m_expressions : List Nat := [144, 145, 146, 147, 148, 149, 150, 151, 156, 157, 158, 159]
def G_m_expressions : List (Nat × Nat) := [(121, 10), (121, 11), (121, 12), (121, 33), (121, 39), (121, 48), (121, 49), (121, 51), (121, 61)]
def m_expressions_0C (w : ev_W) (d : Nat) : (iS) ⊕ (iS) → am_E → Prop := fun q r => q.elim (fun l => ev w d 335 0 ((fun l => [(0, .ref (tb_nK + 121))]) l) [] (hT ((fun l => l) l)) r) (fun e => (fun e r => ev w d 335 35 [] [] (hT (e)) r) e r)
noncomputable def m_expressions_0b (s : iS) : Option ((iS) ⊕ (iS)) := gd (rg (s 121 11)) (if (s 121 11) = 0 then gd (rg (s 121 51)) (if (s 121 51) ≤ 0 then some (.inr s) else gd (rg (s 121 61)) (if (s 121 61) = 0 then bd (m_behindTerm s) (fun _ s7 => some (.inl s7)) else bd (m_term s) (fun _ s8 => some (.inl s8)))) else some (.inr s))
theorem tm_expressions_0b (w : ev_W) (d : Nat) (hd : 8 ≤ d) (s : iS) : Ew hT w d 335 0 [(0, .ref (tb_nK + 121))] [] s (m_expressions_0C w d) (m_expressions_0b s) := by
  unfold m_expressions_0b
  refine e_mv 1 em_335 (ce_at ce_335 0 rfl) rfl rfl ?_
  refine e_get 4 em_335 (ce_at ce_335 1 rfl) tq_121 rfl rfl ?_
  refine e_gd fun g1 => ?_
  refine e_ifne 35 7 em_335 rfl rfl (ce_at ce_335 2 rfl) g1 (fun h2 => ?_) (fun h2 => ?_)
  · refine e_pk [] rfl rfl ?_
    exact e_out (fun r h => h)
  · refine e_mv 8 em_335 (ce_at ce_335 3 rfl) rfl rfl ?_
    refine e_get 11 em_335 (ce_at ce_335 4 rfl) tq_121 rfl rfl ?_
    refine e_gd fun g3 => ?_
    refine e_ifle 35 14 em_335 rfl rfl (ce_at ce_335 5 rfl) g3 (fun h4 => ?_) (fun h4 => ?_)
    · refine e_pk [] rfl rfl ?_
      exact e_out (fun r h => h)
    · refine e_mv 15 em_335 (ce_at ce_335 6 rfl) rfl rfl ?_
      refine e_get 18 em_335 (ce_at ce_335 7 rfl) tq_121 rfl rfl ?_
      refine e_gd fun g5 => ?_
      refine e_ifeq 28 21 em_335 rfl rfl (ce_at ce_335 8 rfl) g5 (fun h6 => ?_) (fun h6 => ?_)
      · refine e_mv 29 em_335 (ce_at ce_335 12 rfl) rfl rfl ?_
        refine e_ivv 32 em_335 (ce_at ce_335 13 rfl) (by omega) (iv_v0 (by decide) tq_121 rfl) em_341 (Nat.le_of_ble_eq_true rfl) rfl (tm_behindTerm w (d - 1) (by omega) _) (fun r7 s7 => ?_)
        refine e_goto em_335 0 (ce_at ce_335 14 rfl) rfl ?_
        refine e_pk [0] rfl rfl ?_
        exact e_out (fun r h => h)
      · refine e_mv 22 em_335 (ce_at ce_335 9 rfl) rfl rfl ?_
        refine e_ivv 25 em_335 (ce_at ce_335 10 rfl) (by omega) (iv_v0 (by decide) tq_121 rfl) em_336 (Nat.le_of_ble_eq_true rfl) rfl (tm_term w (d - 1) (by omega) _) (fun r8 s8 => ?_)
        refine e_goto em_335 0 (ce_at ce_335 11 rfl) rfl ?_
        refine e_pk [0] rfl rfl ?_
        exact e_out (fun r h => h)
theorem fm_expressions_0b (s : iS) : Fm (fun r : (iS) ⊕ (iS) => r.elim (fun l => l) (fun e => e)) L_m_expressions G_m_expressions s (m_expressions_0b s) := fm_gd (fm_if (fm_gd (fm_if (fm_some md_refl) (fm_gd (fm_if (fm_bd (fm_sub (fm_behindTerm _) (mem_sub_L rfl) (mem_sub_F rfl)) (fun r7 s7 => fm_some md_refl)) (fm_bd (fm_sub (fm_term _) (mem_sub_L rfl) (mem_sub_F rfl)) (fun r8 s8 => fm_some md_refl)))))) (fm_some md_refl))
noncomputable def m_expressions (s : iS) : Option (Int × iS) := (lp (L := iS) (E := iS) (fun l => m_expressions_0b l) s).bind (fun e => some (0, e))
theorem tm_expressions (w : ev_W) (d : Nat) (hd : 8 ≤ d) (s : iS) : Ew hT w d 335 0 [(0, .ref (tb_nK + 121))] [] s (Cv hT) (m_expressions s) := by
  unfold m_expressions
  refine e_lp (L := iS) (E := iS) (LO := fun l => [(0, .ref (tb_nK + 121))]) (LS := fun l => l) (CE := fun e r => ev w d 335 35 [] [] (hT (e)) r) (fun l => tm_expressions_0b w d hd _) ?_ s
  intro e
  show Ew hT w d 335 35 [] [] e (Cv hT) _
  exact e_retv em_335 (ce_at ce_335 15 rfl)
theorem fm_expressions (s : iS) : Fm Prod.snd L_m_expressions G_m_expressions s (m_expressions s) := by
  unfold m_expressions
  refine fm_lp (A := iS) (E := iS) (LS := fun l => l) (LE := fun e => e) ?_ ?_ s
  · exact fun l => fm_expressions_0b _
  · exact (fun e => fm_some md_refl)
/-! m_expression -/
def L_m_expression : List Nat := [144, 145, 146, 147, 148, 149, 150, 151, 156, 157, 158, 159]
def G_m_expression : List (Nat × Nat) := [(121, 10), (121, 11), (121, 12), (121, 33), (121, 39), (121, 48), (121, 49), (121, 51), (121, 61), (121, 62)]
noncomputable def m_expression (s : iS) : Option (Int × iS) := gd (rg (s 121 11)) (if (s 121 11) ≤ 0 then lt' (up s 121 51 0) (fun s3 => lt' (up s3 121 62 0) (fun s4 => bd (m_push 0 s4) (fun _ s5 => lt' (up s5 121 61 1) (fun s6 => bd (m_expressions s6) (fun _ s7 => some (0, s7)))))) else some (0, s))
theorem tm_expression (w : ev_W) (d : Nat) (hd : 9 ≤ d) (s : iS) : Ew hT w d 333 0 [(0, .ref (tb_nK + 121))] [] s (Cv hT) (m_expression s) := by
  unfold m_expression
  refine e_mv 1 em_333 (ce_at ce_333 0 rfl) rfl rfl ?_
  refine e_get 4 em_333 (ce_at ce_333 1 rfl) tq_121 rfl rfl ?_
  refine e_gd fun g1 => ?_
  refine e_ifle 8 7 em_333 rfl rfl (ce_at ce_333 2 rfl) g1 (fun h2 => ?_) (fun h2 => ?_)
  · refine e_mv 9 em_333 (ce_at ce_333 4 rfl) rfl rfl ?_
    refine e_op 10 em_333 (ce_at ce_333 5 rfl) rfl rfl ?_
    refine e_put 13 em_333 (ce_at ce_333 6 rfl) tq_121 rfl rfl rfl (fun s3 => ?_)
    refine e_mv 14 em_333 (ce_at ce_333 7 rfl) rfl rfl ?_
    refine e_op 15 em_333 (ce_at ce_333 8 rfl) rfl rfl ?_
    refine e_put 18 em_333 (ce_at ce_333 9 rfl) tq_121 rfl rfl rfl (fun s4 => ?_)
    refine e_mv 19 em_333 (ce_at ce_333 10 rfl) rfl rfl ?_
    refine e_op 20 em_333 (ce_at ce_333 11 rfl) rfl rfl ?_
    refine e_ivv 23 em_333 (ce_at ce_333 12 rfl) (by omega) (iv_v1 (by decide) tq_121 rfl) em_334 (Nat.le_of_ble_eq_true rfl) rfl (tm_push w (d - 1) (by omega) _ _) (fun r5 s5 => ?_)
    refine e_mv 24 em_333 (ce_at ce_333 13 rfl) rfl rfl ?_
    refine e_op 25 em_333 (ce_at ce_333 14 rfl) rfl rfl ?_
    refine e_put 28 em_333 (ce_at ce_333 15 rfl) tq_121 rfl rfl rfl (fun s6 => ?_)
    refine e_mv 29 em_333 (ce_at ce_333 16 rfl) rfl rfl ?_
    refine e_ivv 32 em_333 (ce_at ce_333 17 rfl) (by omega) (iv_v0 (by decide) tq_121 rfl) em_335 (Nat.le_of_ble_eq_true rfl) rfl (tm_expressions w (d - 1) (by omega) _) (fun r7 s7 => ?_)
    exact e_retv em_333 (ce_at ce_333 18 rfl)
  · exact e_retv em_333 (ce_at ce_333 3 rfl)
theorem fm_expression (s : iS) : Fm Prod.snd L_m_expression G_m_expression s (m_expression s) := fm_gd (fm_if (fm_lt (md_upF (mem_F rfl)) (fun s3 => fm_lt (md_upF (mem_F rfl)) (fun s4 => fm_bd (fm_sub (fm_push _ _) (mem_sub_L rfl) (mem_sub_F rfl)) (fun r5 s5 => fm_lt (md_upF (mem_F rfl)) (fun s6 => fm_bd (fm_sub (fm_expressions _) (mem_sub_L rfl) (mem_sub_F rfl)) (fun r7 s7 => fm_some md_refl)))))) (fm_some md_refl))
/-! m_let -/
def L_m_let : List Nat := [144, 145, 146, 147, 148, 149, 150, 151, 156, 157, 158, 159]
def G_m_let : List (Nat × Nat) := [(121, 10), (121, 11), (121, 12), (121, 33), (121, 39), (121, 48), (121, 49), (121, 51), (121, 61), (121, 62)]
noncomputable def m_let_87 (v1 : Int) (t0 : Int) (s : iS) : Option (Int × iS) := bd (m_add t0 0 0 v1 s) (fun r1 s1 => some (0, s1))
theorem tm_let_87 (w : ev_W) (d : Nat) (hd : 10 ≤ d) (v1 : Int) (t0 : Int) (s : iS) : Ew hT w d 331 87 [(1, iv v1)] [iv t0, .ref (tb_nK + 121)] s (Cv hT) (m_let_87 v1 t0 s) := by
  unfold m_let_87
  refine e_op 88 em_331 (ce_at ce_331 48 rfl) rfl rfl ?_
  refine e_op 89 em_331 (ce_at ce_331 49 rfl) rfl rfl ?_
  refine e_mv 90 em_331 (ce_at ce_331 50 rfl) rfl rfl ?_
  refine e_ivi 93 em_331 (ce_at ce_331 51 rfl) (by omega) (iv_v4 (by decide) tq_121 rfl) em_330 (Nat.le_of_ble_eq_true rfl) rfl (tm_add w (d - 1) (by omega) _ _ _ _ _) (fun r1 s1 => ?_)
  refine e_op 94 em_331 (ce_at ce_331 52 rfl) rfl rfl ?_
  exact e_retv em_331 (ce_at ce_331 53 rfl)
theorem fm_let_87 (v1 : Int) (t0 : Int) (s : iS) : Fm Prod.snd L_m_let G_m_let s (m_let_87 v1 t0 s) := fm_bd (fm_sub (fm_add _ _ _ _ _) (mem_sub_L rfl) (mem_sub_F rfl)) (fun r1 s1 => fm_some md_refl)
noncomputable def m_let_59 (v1 : Int) (v2 : Int) (s : iS) : Option (Int × iS) := bd (m_needSign 61 s) (fun _ s1 => bd (m_expression s1) (fun _ s2 => bd (m_needSign 59 s2) (fun _ s3 => gd (rg v2) (if v2 = 0 then m_let_87 v1 13 s3 else m_let_87 v1 14 s3))))
theorem tm_let_59 (w : ev_W) (d : Nat) (hd : 10 ≤ d) (v1 : Int) (v2 : Int) (s : iS) : Ew hT w d 331 59 [(0, .ref (tb_nK + 121)), (1, iv v1), (2, iv v2)] [] s (Cv hT) (m_let_59 v1 v2 s) := by
  unfold m_let_59
  refine e_mv 60 em_331 (ce_at ce_331 34 rfl) rfl rfl ?_
  refine e_bip 62 em_331 (ce_at ce_331 35 rfl) (by decide) rfl ?_
  refine e_ivv 65 em_331 (ce_at ce_331 36 rfl) (by omega) (iv_v1 (by decide) tq_121 rfl) em_325 (Nat.le_of_ble_eq_true rfl) rfl (tm_needSign w (d - 1) (by omega) _ _) (fun r1 s1 => ?_)
  refine e_mv 66 em_331 (ce_at ce_331 37 rfl) rfl rfl ?_
  refine e_ivv 69 em_331 (ce_at ce_331 38 rfl) (by omega) (iv_v0 (by decide) tq_121 rfl) em_333 (Nat.le_of_ble_eq_true rfl) rfl (tm_expression w (d - 1) (by omega) _) (fun r2 s2 => ?_)
  refine e_mv 70 em_331 (ce_at ce_331 39 rfl) rfl rfl ?_
  refine e_bip 72 em_331 (ce_at ce_331 40 rfl) (by decide) rfl ?_
  refine e_ivv 75 em_331 (ce_at ce_331 41 rfl) (by omega) (iv_v1 (by decide) tq_121 rfl) em_325 (Nat.le_of_ble_eq_true rfl) rfl (tm_needSign w (d - 1) (by omega) _ _) (fun r3 s3 => ?_)
  refine e_mv 76 em_331 (ce_at ce_331 42 rfl) rfl rfl ?_
  refine e_mv 77 em_331 (ce_at ce_331 43 rfl) rfl rfl ?_
  refine e_gd fun g4 => ?_
  refine e_ifeq 85 80 em_331 rfl rfl (ce_at ce_331 44 rfl) g4 (fun h5 => ?_) (fun h5 => ?_)
  · refine e_bip 87 em_331 (ce_at ce_331 47 rfl) (by decide) rfl ?_
    refine e_pk [1] rfl rfl ?_
    exact tm_let_87 w d hd _ _ _
  · refine e_bip 82 em_331 (ce_at ce_331 45 rfl) (by decide) rfl ?_
    refine e_goto em_331 87 (ce_at ce_331 46 rfl) rfl ?_
    refine e_pk [1] rfl rfl ?_
    exact tm_let_87 w d hd _ _ _
theorem fm_let_59 (v1 : Int) (v2 : Int) (s : iS) : Fm Prod.snd L_m_let G_m_let s (m_let_59 v1 v2 s) := fm_bd (fm_sub (fm_needSign _ _) (mem_sub_L rfl) (mem_sub_F rfl)) (fun r1 s1 => fm_bd (fm_sub (fm_expression _) (mem_sub_L rfl) (mem_sub_F rfl)) (fun r2 s2 => fm_bd (fm_sub (fm_needSign _ _) (mem_sub_L rfl) (mem_sub_F rfl)) (fun r3 s3 => fm_gd (fm_if (fm_let_87 _ _ _) (fm_let_87 _ _ _)))))
noncomputable def m_let (s : iS) : Option (Int × iS) := bd (m_needName s) (fun r1 s1 => bd (m_isSign 91 s1) (fun r2 s2 => gd (rg r2) (if r2 = 0 then m_let_59 r1 r2 s2 else gd (rg (s2 121 11)) (if (s2 121 11) = 0 then bd (m_add 4 0 0 r1 s2) (fun r7 s7 => bd (m_openSign 91 s7) (fun _ s8 => bd (m_expression s8) (fun _ s9 => bd (m_closeSign 93 s9) (fun _ s10 => bd (m_add 6 43 0 r1 s10) (fun r11 s11 => m_let_59 r1 r2 s11))))) else m_let_59 r1 r2 s2))))
theorem tm_let (w : ev_W) (d : Nat) (hd : 10 ≤ d) (s : iS) : Ew hT w d 331 0 [(0, .ref (tb_nK + 121))] [] s (Cv hT) (m_let s) := by
  unfold m_let
  refine e_mv 1 em_331 (ce_at ce_331 0 rfl) rfl rfl ?_
  refine e_ivi 4 em_331 (ce_at ce_331 1 rfl) (by omega) (iv_v0 (by decide) tq_121 rfl) em_332 (Nat.le_of_ble_eq_true rfl) rfl (tm_needName w (d - 1) (by omega) _) (fun r1 s1 => ?_)
  refine e_mv 5 em_331 (ce_at ce_331 2 rfl) rfl rfl ?_
  refine e_mv 6 em_331 (ce_at ce_331 3 rfl) rfl rfl ?_
  refine e_bip 8 em_331 (ce_at ce_331 4 rfl) (by decide) rfl ?_
  refine e_ivi 11 em_331 (ce_at ce_331 5 rfl) (by omega) (iv_v1 (by decide) tq_121 rfl) em_320 (Nat.le_of_ble_eq_true rfl) rfl (tm_isSign w (d - 1) (by omega) _ _) (fun r2 s2 => ?_)
  refine e_mv 12 em_331 (ce_at ce_331 6 rfl) rfl rfl ?_
  refine e_mv 13 em_331 (ce_at ce_331 7 rfl) rfl rfl ?_
  refine e_gd fun g3 => ?_
  refine e_ifeq 59 16 em_331 rfl rfl (ce_at ce_331 8 rfl) g3 (fun h4 => ?_) (fun h4 => ?_)
  · refine e_pk [0, 1, 2] rfl rfl ?_
    exact tm_let_59 w d hd _ _ _
  · refine e_mv 17 em_331 (ce_at ce_331 9 rfl) rfl rfl ?_
    refine e_get 20 em_331 (ce_at ce_331 10 rfl) tq_121 rfl rfl ?_
    refine e_gd fun g5 => ?_
    refine e_ifne 59 23 em_331 rfl rfl (ce_at ce_331 11 rfl) g5 (fun h6 => ?_) (fun h6 => ?_)
    · refine e_pk [0, 1, 2] rfl rfl ?_
      exact tm_let_59 w d hd _ _ _
    · refine e_mv 24 em_331 (ce_at ce_331 12 rfl) rfl rfl ?_
      refine e_op 25 em_331 (ce_at ce_331 13 rfl) rfl rfl ?_
      refine e_op 26 em_331 (ce_at ce_331 14 rfl) rfl rfl ?_
      refine e_op 27 em_331 (ce_at ce_331 15 rfl) rfl rfl ?_
      refine e_mv 28 em_331 (ce_at ce_331 16 rfl) rfl rfl ?_
      refine e_ivi 31 em_331 (ce_at ce_331 17 rfl) (by omega) (iv_v4 (by decide) tq_121 rfl) em_330 (Nat.le_of_ble_eq_true rfl) rfl (tm_add w (d - 1) (by omega) _ _ _ _ _) (fun r7 s7 => ?_)
      refine e_op 32 em_331 (ce_at ce_331 18 rfl) rfl rfl ?_
      refine e_mv 33 em_331 (ce_at ce_331 19 rfl) rfl rfl ?_
      refine e_bip 35 em_331 (ce_at ce_331 20 rfl) (by decide) rfl ?_
      refine e_ivv 38 em_331 (ce_at ce_331 21 rfl) (by omega) (iv_v1 (by decide) tq_121 rfl) em_319 (Nat.le_of_ble_eq_true rfl) rfl (tm_openSign w (d - 1) (by omega) _ _) (fun r8 s8 => ?_)
      refine e_mv 39 em_331 (ce_at ce_331 22 rfl) rfl rfl ?_
      refine e_ivv 42 em_331 (ce_at ce_331 23 rfl) (by omega) (iv_v0 (by decide) tq_121 rfl) em_333 (Nat.le_of_ble_eq_true rfl) rfl (tm_expression w (d - 1) (by omega) _) (fun r9 s9 => ?_)
      refine e_mv 43 em_331 (ce_at ce_331 24 rfl) rfl rfl ?_
      refine e_bip 45 em_331 (ce_at ce_331 25 rfl) (by decide) rfl ?_
      refine e_ivv 48 em_331 (ce_at ce_331 26 rfl) (by omega) (iv_v1 (by decide) tq_121 rfl) em_340 (Nat.le_of_ble_eq_true rfl) rfl (tm_closeSign w (d - 1) (by omega) _ _) (fun r10 s10 => ?_)
      refine e_mv 49 em_331 (ce_at ce_331 27 rfl) rfl rfl ?_
      refine e_bip 51 em_331 (ce_at ce_331 28 rfl) (by decide) rfl ?_
      refine e_bip 53 em_331 (ce_at ce_331 29 rfl) (by decide) rfl ?_
      refine e_op 54 em_331 (ce_at ce_331 30 rfl) rfl rfl ?_
      refine e_mv 55 em_331 (ce_at ce_331 31 rfl) rfl rfl ?_
      refine e_ivi 58 em_331 (ce_at ce_331 32 rfl) (by omega) (iv_v4 (by decide) tq_121 rfl) em_330 (Nat.le_of_ble_eq_true rfl) rfl (tm_add w (d - 1) (by omega) _ _ _ _ _) (fun r11 s11 => ?_)
      refine e_op 59 em_331 (ce_at ce_331 33 rfl) rfl rfl ?_
      refine e_pk [0, 1, 2] rfl rfl ?_
      exact tm_let_59 w d hd _ _ _
theorem fm_let (s : iS) : Fm Prod.snd L_m_let G_m_let s (m_let s) := fm_bd (fm_sub (fm_needName _) (mem_sub_L rfl) (mem_sub_F rfl)) (fun r1 s1 => fm_bd (fm_sub (fm_isSign _ _) (mem_sub_L rfl) (mem_sub_F rfl)) (fun r2 s2 => fm_gd (fm_if (fm_let_59 _ _ _) (fm_gd (fm_if (fm_bd (fm_sub (fm_add _ _ _ _ _) (mem_sub_L rfl) (mem_sub_F rfl)) (fun r7 s7 => fm_bd (fm_sub (fm_openSign _ _) (mem_sub_L rfl) (mem_sub_F rfl)) (fun r8 s8 => fm_bd (fm_sub (fm_expression _) (mem_sub_L rfl) (mem_sub_F rfl)) (fun r9 s9 => fm_bd (fm_sub (fm_closeSign _ _) (mem_sub_L rfl) (mem_sub_F rfl)) (fun r10 s10 => fm_bd (fm_sub (fm_add _ _ _ _ _) (mem_sub_L rfl) (mem_sub_F rfl)) (fun r11 s11 => fm_let_59 _ _ _)))))) (fm_let_59 _ _ _))))))
/-! m_call -/
def L_m_call : List Nat := [144, 145, 146, 147, 148, 149, 150, 151, 156, 157, 158, 159]
def G_m_call : List (Nat × Nat) := [(121, 10), (121, 11), (121, 12), (121, 33), (121, 39), (121, 48), (121, 49), (121, 51), (121, 61), (121, 62)]
noncomputable def m_call_36 (v1 : Int) (s : iS) : Option (Int × iS) := lt' (up s 121 51 0) (fun s1 => lt' (up s1 121 62 1) (fun s2 => bd (m_push 0 s2) (fun _ s3 => bd (m_beginCall v1 s3) (fun _ s4 => gd (rg (s4 121 11)) (if (s4 121 11) = 0 then bd (m_expressions s4) (fun _ s7 => some (0, s7)) else some (0, s4))))))
theorem tm_call_36 (w : ev_W) (d : Nat) (hd : 9 ≤ d) (v1 : Int) (s : iS) : Ew hT w d 343 36 [(0, .ref (tb_nK + 121)), (1, iv v1)] [] s (Cv hT) (m_call_36 v1 s) := by
  unfold m_call_36
  refine e_mv 37 em_343 (ce_at ce_343 18 rfl) rfl rfl ?_
  refine e_op 38 em_343 (ce_at ce_343 19 rfl) rfl rfl ?_
  refine e_put 41 em_343 (ce_at ce_343 20 rfl) tq_121 rfl rfl rfl (fun s1 => ?_)
  refine e_mv 42 em_343 (ce_at ce_343 21 rfl) rfl rfl ?_
  refine e_op 43 em_343 (ce_at ce_343 22 rfl) rfl rfl ?_
  refine e_put 46 em_343 (ce_at ce_343 23 rfl) tq_121 rfl rfl rfl (fun s2 => ?_)
  refine e_mv 47 em_343 (ce_at ce_343 24 rfl) rfl rfl ?_
  refine e_op 48 em_343 (ce_at ce_343 25 rfl) rfl rfl ?_
  refine e_ivv 51 em_343 (ce_at ce_343 26 rfl) (by omega) (iv_v1 (by decide) tq_121 rfl) em_334 (Nat.le_of_ble_eq_true rfl) rfl (tm_push w (d - 1) (by omega) _ _) (fun r3 s3 => ?_)
  refine e_mv 52 em_343 (ce_at ce_343 27 rfl) rfl rfl ?_
  refine e_mv 53 em_343 (ce_at ce_343 28 rfl) rfl rfl ?_
  refine e_ivv 56 em_343 (ce_at ce_343 29 rfl) (by omega) (iv_v1 (by decide) tq_121 rfl) em_338 (Nat.le_of_ble_eq_true rfl) rfl (tm_beginCall w (d - 1) (by omega) _ _) (fun r4 s4 => ?_)
  refine e_mv 57 em_343 (ce_at ce_343 30 rfl) rfl rfl ?_
  refine e_get 60 em_343 (ce_at ce_343 31 rfl) tq_121 rfl rfl ?_
  refine e_gd fun g5 => ?_
  refine e_ifne 67 63 em_343 rfl rfl (ce_at ce_343 32 rfl) g5 (fun h6 => ?_) (fun h6 => ?_)
  · exact e_retv em_343 (ce_at ce_343 35 rfl)
  · refine e_mv 64 em_343 (ce_at ce_343 33 rfl) rfl rfl ?_
    refine e_ivv 67 em_343 (ce_at ce_343 34 rfl) (by omega) (iv_v0 (by decide) tq_121 rfl) em_335 (Nat.le_of_ble_eq_true rfl) rfl (tm_expressions w (d - 1) (by omega) _) (fun r7 s7 => ?_)
    exact e_retv em_343 (ce_at ce_343 35 rfl)
theorem fm_call_36 (v1 : Int) (s : iS) : Fm Prod.snd L_m_call G_m_call s (m_call_36 v1 s) := fm_lt (md_upF (mem_F rfl)) (fun s1 => fm_lt (md_upF (mem_F rfl)) (fun s2 => fm_bd (fm_sub (fm_push _ _) (mem_sub_L rfl) (mem_sub_F rfl)) (fun r3 s3 => fm_bd (fm_sub (fm_beginCall _ _) (mem_sub_L rfl) (mem_sub_F rfl)) (fun r4 s4 => fm_gd (fm_if (fm_bd (fm_sub (fm_expressions _) (mem_sub_L rfl) (mem_sub_F rfl)) (fun r7 s7 => fm_some md_refl)) (fm_some md_refl))))))
noncomputable def m_call (s : iS) : Option (Int × iS) := bd (m_needName s) (fun r1 s1 => gd (rg (s1 121 11)) (if (s1 121 11) ≤ 0 then bd (m_isSign 46 s1) (fun r4 s4 => gd (rg r4) (if r4 = 0 then bd (m_isSign 40 s4) (fun r7 s7 => gd (rg r7) (if r7 = 0 then bd (m_syntax s7) (fun _ s10 => some (0, s10)) else m_call_36 r1 s7)) else m_call_36 r1 s4)) else some (0, s1)))
theorem tm_call (w : ev_W) (d : Nat) (hd : 9 ≤ d) (s : iS) : Ew hT w d 343 0 [(0, .ref (tb_nK + 121))] [] s (Cv hT) (m_call s) := by
  unfold m_call
  refine e_mv 1 em_343 (ce_at ce_343 0 rfl) rfl rfl ?_
  refine e_ivi 4 em_343 (ce_at ce_343 1 rfl) (by omega) (iv_v0 (by decide) tq_121 rfl) em_332 (Nat.le_of_ble_eq_true rfl) rfl (tm_needName w (d - 1) (by omega) _) (fun r1 s1 => ?_)
  refine e_mv 5 em_343 (ce_at ce_343 2 rfl) rfl rfl ?_
  refine e_mv 6 em_343 (ce_at ce_343 3 rfl) rfl rfl ?_
  refine e_get 9 em_343 (ce_at ce_343 4 rfl) tq_121 rfl rfl ?_
  refine e_gd fun g2 => ?_
  refine e_ifle 13 12 em_343 rfl rfl (ce_at ce_343 5 rfl) g2 (fun h3 => ?_) (fun h3 => ?_)
  · refine e_mv 14 em_343 (ce_at ce_343 7 rfl) rfl rfl ?_
    refine e_bip 16 em_343 (ce_at ce_343 8 rfl) (by decide) rfl ?_
    refine e_ivi 19 em_343 (ce_at ce_343 9 rfl) (by omega) (iv_v1 (by decide) tq_121 rfl) em_320 (Nat.le_of_ble_eq_true rfl) rfl (tm_isSign w (d - 1) (by omega) _ _) (fun r4 s4 => ?_)
    refine e_gd fun g5 => ?_
    refine e_ifne 36 22 em_343 rfl rfl (ce_at ce_343 10 rfl) g5 (fun h6 => ?_) (fun h6 => ?_)
    · refine e_pk [0, 1] rfl rfl ?_
      exact tm_call_36 w d hd _ _
    · refine e_mv 23 em_343 (ce_at ce_343 11 rfl) rfl rfl ?_
      refine e_bip 25 em_343 (ce_at ce_343 12 rfl) (by decide) rfl ?_
      refine e_ivi 28 em_343 (ce_at ce_343 13 rfl) (by omega) (iv_v1 (by decide) tq_121 rfl) em_320 (Nat.le_of_ble_eq_true rfl) rfl (tm_isSign w (d - 1) (by omega) _ _) (fun r7 s7 => ?_)
      refine e_gd fun g8 => ?_
      refine e_ifne 36 31 em_343 rfl rfl (ce_at ce_343 14 rfl) g8 (fun h9 => ?_) (fun h9 => ?_)
      · refine e_pk [0, 1] rfl rfl ?_
        exact tm_call_36 w d hd _ _
      · refine e_mv 32 em_343 (ce_at ce_343 15 rfl) rfl rfl ?_
        refine e_ivv 35 em_343 (ce_at ce_343 16 rfl) (by omega) (iv_v0 (by decide) tq_121 rfl) em_316 (Nat.le_of_ble_eq_true rfl) rfl (tm_syntax w (d - 1) (by omega) _) (fun r10 s10 => ?_)
        exact e_retv em_343 (ce_at ce_343 17 rfl)
  · exact e_retv em_343 (ce_at ce_343 6 rfl)
theorem fm_call (s : iS) : Fm Prod.snd L_m_call G_m_call s (m_call s) := fm_bd (fm_sub (fm_needName _) (mem_sub_L rfl) (mem_sub_F rfl)) (fun r1 s1 => fm_gd (fm_if (fm_bd (fm_sub (fm_isSign _ _) (mem_sub_L rfl) (mem_sub_F rfl)) (fun r4 s4 => fm_gd (fm_if (fm_bd (fm_sub (fm_isSign _ _) (mem_sub_L rfl) (mem_sub_F rfl)) (fun r7 s7 => fm_gd (fm_if (fm_bd (fm_sub (fm_syntax _) (mem_sub_L rfl) (mem_sub_F rfl)) (fun r10 s10 => fm_some md_refl)) (fm_call_36 _ _)))) (fm_call_36 _ _)))) (fm_some md_refl)))
/-! m_branch -/
def L_m_branch : List Nat := [144, 145, 146, 147, 148, 149, 150, 151, 156, 157, 158, 159, 160, 161, 162, 163]
def G_m_branch : List (Nat × Nat) := [(121, 10), (121, 11), (121, 12), (121, 33), (121, 39), (121, 48), (121, 49), (121, 50), (121, 51), (121, 55), (121, 61), (121, 62)]
noncomputable def m_branch_92 (v3 : Int) (v4 : Int) (v5 : Int) (t0 : Int) (s : iS) : Option (Int × iS) := bd (m_begins t0 v3 v5 v4 s) (fun _ s1 => some (0, s1))
theorem tm_branch_92 (w : ev_W) (d : Nat) (hd : 10 ≤ d) (v3 : Int) (v4 : Int) (v5 : Int) (t0 : Int) (s : iS) : Ew hT w d 344 92 [(3, iv v3), (4, iv v4), (5, iv v5)] [iv t0, .ref (tb_nK + 121)] s (Cv hT) (m_branch_92 v3 v4 v5 t0 s) := by
  unfold m_branch_92
  refine e_mv 93 em_344 (ce_at ce_344 55 rfl) rfl rfl ?_
  refine e_mv 95 em_344 (ce_at ce_344 56 rfl) rfl rfl ?_
  refine e_mv 97 em_344 (ce_at ce_344 57 rfl) rfl rfl ?_
  refine e_ivv 100 em_344 (ce_at ce_344 58 rfl) (by omega) (iv_v4 (by decide) tq_121 rfl) em_345 (Nat.le_of_ble_eq_true rfl) rfl (tm_begins w (d - 1) (by omega) _ _ _ _ _) (fun r1 s1 => ?_)
  exact e_retv em_344 (ce_at ce_344 59 rfl)
theorem fm_branch_92 (v3 : Int) (v4 : Int) (v5 : Int) (t0 : Int) (s : iS) : Fm Prod.snd L_m_branch G_m_branch s (m_branch_92 v3 v4 v5 t0 s) := fm_bd (fm_sub (fm_begins _ _ _ _ _) (mem_sub_L rfl) (mem_sub_F rfl)) (fun r1 s1 => fm_some md_refl)
noncomputable def m_branch_76 (v1 : Int) (v2 : Int) (v3 : Int) (v4 : Int) (t0 : Int) (t1 : Int) (t2 : Int) (s : iS) : Option (Int × iS) := bd (m_add t2 t1 t0 v2 s) (fun r1 s1 => gd (rg v1) (if v1 = 0 then m_branch_92 v3 v4 r1 1 s1 else m_branch_92 v3 v4 r1 3 s1))
theorem tm_branch_76 (w : ev_W) (d : Nat) (hd : 10 ≤ d) (v1 : Int) (v2 : Int) (v3 : Int) (v4 : Int) (t0 : Int) (t1 : Int) (t2 : Int) (s : iS) : Ew hT w d 344 76 [(0, .ref (tb_nK + 121)), (1, iv v1), (2, iv v2), (3, iv v3), (4, iv v4)] [iv t0, iv t1, iv t2, .ref (tb_nK + 121)] s (Cv hT) (m_branch_76 v1 v2 v3 v4 t0 t1 t2 s) := by
  unfold m_branch_76
  refine e_mv 77 em_344 (ce_at ce_344 46 rfl) rfl rfl ?_
  refine e_ivi 80 em_344 (ce_at ce_344 47 rfl) (by omega) (iv_v4 (by decide) tq_121 rfl) em_330 (Nat.le_of_ble_eq_true rfl) rfl (tm_add w (d - 1) (by omega) _ _ _ _ _) (fun r1 s1 => ?_)
  refine e_mv 82 em_344 (ce_at ce_344 48 rfl) rfl rfl ?_
  refine e_mv 83 em_344 (ce_at ce_344 49 rfl) rfl rfl ?_
  refine e_mv 84 em_344 (ce_at ce_344 50 rfl) rfl rfl ?_
  refine e_gd fun g2 => ?_
  refine e_ifeq 91 87 em_344 rfl rfl (ce_at ce_344 51 rfl) g2 (fun h3 => ?_) (fun h3 => ?_)
  · refine e_op 92 em_344 (ce_at ce_344 54 rfl) rfl rfl ?_
    refine e_pk [3, 4, 5] rfl rfl ?_
    exact tm_branch_92 w d hd _ _ _ _ _
  · refine e_op 88 em_344 (ce_at ce_344 52 rfl) rfl rfl ?_
    refine e_goto em_344 92 (ce_at ce_344 53 rfl) rfl ?_
    refine e_pk [3, 4, 5] rfl rfl ?_
    exact tm_branch_92 w d hd _ _ _ _ _
theorem fm_branch_76 (v1 : Int) (v2 : Int) (v3 : Int) (v4 : Int) (t0 : Int) (t1 : Int) (t2 : Int) (s : iS) : Fm Prod.snd L_m_branch G_m_branch s (m_branch_76 v1 v2 v3 v4 t0 t1 t2 s) := fm_bd (fm_sub (fm_add _ _ _ _ _) (mem_sub_L rfl) (mem_sub_F rfl)) (fun r1 s1 => fm_gd (fm_if (fm_branch_92 _ _ _ _ _) (fm_branch_92 _ _ _ _ _)))
noncomputable def m_branch_45 (v1 : Int) (v2 : Int) (v3 : Int) (v4 : Int) (s : iS) : Option (Int × iS) := bd (m_openSign 40 s) (fun _ s1 => bd (m_expression s1) (fun _ s2 => bd (m_closeSign 41 s2) (fun _ s3 => gd (rg v1) (if v1 = 0 then m_branch_76 v1 v2 v3 v4 v3 0 15 s3 else m_branch_76 v1 v2 v3 v4 (v3 + 1) 0 15 s3))))
theorem tm_branch_45 (w : ev_W) (d : Nat) (hd : 10 ≤ d) (v1 : Int) (v2 : Int) (v3 : Int) (v4 : Int) (s : iS) : Ew hT w d 344 45 [(0, .ref (tb_nK + 121)), (1, iv v1), (2, iv v2), (3, iv v3), (4, iv v4)] [] s (Cv hT) (m_branch_45 v1 v2 v3 v4 s) := by
  unfold m_branch_45
  refine e_mv 46 em_344 (ce_at ce_344 28 rfl) rfl rfl ?_
  refine e_bip 48 em_344 (ce_at ce_344 29 rfl) (by decide) rfl ?_
  refine e_ivv 51 em_344 (ce_at ce_344 30 rfl) (by omega) (iv_v1 (by decide) tq_121 rfl) em_319 (Nat.le_of_ble_eq_true rfl) rfl (tm_openSign w (d - 1) (by omega) _ _) (fun r1 s1 => ?_)
  refine e_mv 52 em_344 (ce_at ce_344 31 rfl) rfl rfl ?_
  refine e_ivv 55 em_344 (ce_at ce_344 32 rfl) (by omega) (iv_v0 (by decide) tq_121 rfl) em_333 (Nat.le_of_ble_eq_true rfl) rfl (tm_expression w (d - 1) (by omega) _) (fun r2 s2 => ?_)
  refine e_mv 56 em_344 (ce_at ce_344 33 rfl) rfl rfl ?_
  refine e_bip 58 em_344 (ce_at ce_344 34 rfl) (by decide) rfl ?_
  refine e_ivv 61 em_344 (ce_at ce_344 35 rfl) (by omega) (iv_v1 (by decide) tq_121 rfl) em_340 (Nat.le_of_ble_eq_true rfl) rfl (tm_closeSign w (d - 1) (by omega) _ _) (fun r3 s3 => ?_)
  refine e_mv 62 em_344 (ce_at ce_344 36 rfl) rfl rfl ?_
  refine e_bip 64 em_344 (ce_at ce_344 37 rfl) (by decide) rfl ?_
  refine e_op 65 em_344 (ce_at ce_344 38 rfl) rfl rfl ?_
  refine e_mv 66 em_344 (ce_at ce_344 39 rfl) rfl rfl ?_
  refine e_gd fun g4 => ?_
  refine e_ifeq 75 69 em_344 rfl rfl (ce_at ce_344 40 rfl) g4 (fun h5 => ?_) (fun h5 => ?_)
  · refine e_mv 76 em_344 (ce_at ce_344 45 rfl) rfl rfl ?_
    refine e_pk [0, 1, 2, 3, 4] rfl rfl ?_
    exact tm_branch_76 w d hd _ _ _ _ _ _ _ _
  · refine e_mv 70 em_344 (ce_at ce_344 41 rfl) rfl rfl ?_
    refine e_op 71 em_344 (ce_at ce_344 42 rfl) rfl rfl ?_
    refine e_iadd 72 em_344 rfl (ce_at ce_344 43 rfl) ?_
    refine e_goto em_344 76 (ce_at ce_344 44 rfl) rfl ?_
    refine e_pk [0, 1, 2, 3, 4] rfl rfl ?_
    exact tm_branch_76 w d hd _ _ _ _ _ _ _ _
theorem fm_branch_45 (v1 : Int) (v2 : Int) (v3 : Int) (v4 : Int) (s : iS) : Fm Prod.snd L_m_branch G_m_branch s (m_branch_45 v1 v2 v3 v4 s) := fm_bd (fm_sub (fm_openSign _ _) (mem_sub_L rfl) (mem_sub_F rfl)) (fun r1 s1 => fm_bd (fm_sub (fm_expression _) (mem_sub_L rfl) (mem_sub_F rfl)) (fun r2 s2 => fm_bd (fm_sub (fm_closeSign _ _) (mem_sub_L rfl) (mem_sub_F rfl)) (fun r3 s3 => fm_gd (fm_if (fm_branch_76 _ _ _ _ _ _ _ _) (fm_branch_76 _ _ _ _ _ _ _ _)))))
noncomputable def m_branch (v1 : Int) (v2 : Int) (s : iS) : Option (Int × iS) := lt' (up s 121 50 ((s 121 50) + 2)) (fun s1 => gd (rg v1) (if v1 = 0 then m_branch_45 v1 v2 (s 121 50) (s1 121 33) s1 else bd (m_add 20 (s 121 50) 0 v2 s1) (fun r4 s4 => bd (m_add 17 0 0 v2 s4) (fun r5 s5 => m_branch_45 v1 v2 (s 121 50) (s1 121 33) s5))))
theorem tm_branch (w : ev_W) (d : Nat) (hd : 10 ≤ d) (v1 : Int) (v2 : Int) (s : iS) : Ew hT w d 344 0 [(0, .ref (tb_nK + 121)), (1, iv v1), (2, iv v2)] [] s (Cv hT) (m_branch v1 v2 s) := by
  unfold m_branch
  refine e_mv 1 em_344 (ce_at ce_344 0 rfl) rfl rfl ?_
  refine e_get 4 em_344 (ce_at ce_344 1 rfl) tq_121 rfl rfl ?_
  refine e_mv 5 em_344 (ce_at ce_344 2 rfl) rfl rfl ?_
  refine e_mv 6 em_344 (ce_at ce_344 3 rfl) rfl rfl ?_
  refine e_mv 7 em_344 (ce_at ce_344 4 rfl) rfl rfl ?_
  refine e_get 10 em_344 (ce_at ce_344 5 rfl) tq_121 rfl rfl ?_
  refine e_op 11 em_344 (ce_at ce_344 6 rfl) rfl rfl ?_
  refine e_iadd 12 em_344 rfl (ce_at ce_344 7 rfl) ?_
  refine e_put 15 em_344 (ce_at ce_344 8 rfl) tq_121 rfl rfl rfl (fun s1 => ?_)
  refine e_mv 16 em_344 (ce_at ce_344 9 rfl) rfl rfl ?_
  refine e_get 19 em_344 (ce_at ce_344 10 rfl) tq_121 rfl rfl ?_
  refine e_mv 21 em_344 (ce_at ce_344 11 rfl) rfl rfl ?_
  refine e_mv 22 em_344 (ce_at ce_344 12 rfl) rfl rfl ?_
  refine e_gd fun g2 => ?_
  refine e_ifeq 45 25 em_344 rfl rfl (ce_at ce_344 13 rfl) g2 (fun h3 => ?_) (fun h3 => ?_)
  · refine e_pk [0, 1, 2, 3, 4] rfl rfl ?_
    exact tm_branch_45 w d hd _ _ _ _ _
  · refine e_mv 26 em_344 (ce_at ce_344 14 rfl) rfl rfl ?_
    refine e_bip 28 em_344 (ce_at ce_344 15 rfl) (by decide) rfl ?_
    refine e_mv 29 em_344 (ce_at ce_344 16 rfl) rfl rfl ?_
    refine e_op 30 em_344 (ce_at ce_344 17 rfl) rfl rfl ?_
    refine e_mv 31 em_344 (ce_at ce_344 18 rfl) rfl rfl ?_
    refine e_ivi 34 em_344 (ce_at ce_344 19 rfl) (by omega) (iv_v4 (by decide) tq_121 rfl) em_330 (Nat.le_of_ble_eq_true rfl) rfl (tm_add w (d - 1) (by omega) _ _ _ _ _) (fun r4 s4 => ?_)
    refine e_op 35 em_344 (ce_at ce_344 20 rfl) rfl rfl ?_
    refine e_mv 36 em_344 (ce_at ce_344 21 rfl) rfl rfl ?_
    refine e_bip 38 em_344 (ce_at ce_344 22 rfl) (by decide) rfl ?_
    refine e_op 39 em_344 (ce_at ce_344 23 rfl) rfl rfl ?_
    refine e_op 40 em_344 (ce_at ce_344 24 rfl) rfl rfl ?_
    refine e_mv 41 em_344 (ce_at ce_344 25 rfl) rfl rfl ?_
    refine e_ivi 44 em_344 (ce_at ce_344 26 rfl) (by omega) (iv_v4 (by decide) tq_121 rfl) em_330 (Nat.le_of_ble_eq_true rfl) rfl (tm_add w (d - 1) (by omega) _ _ _ _ _) (fun r5 s5 => ?_)
    refine e_op 45 em_344 (ce_at ce_344 27 rfl) rfl rfl ?_
    refine e_pk [0, 1, 2, 3, 4] rfl rfl ?_
    exact tm_branch_45 w d hd _ _ _ _ _
theorem fm_branch (v1 : Int) (v2 : Int) (s : iS) : Fm Prod.snd L_m_branch G_m_branch s (m_branch v1 v2 s) := fm_lt (md_upF (mem_F rfl)) (fun s1 => fm_gd (fm_if (fm_branch_45 _ _ _ _ _) (fm_bd (fm_sub (fm_add _ _ _ _ _) (mem_sub_L rfl) (mem_sub_F rfl)) (fun r4 s4 => fm_bd (fm_sub (fm_add _ _ _ _ _) (mem_sub_L rfl) (mem_sub_F rfl)) (fun r5 s5 => fm_branch_45 _ _ _ _ _)))))
/-! m_statement -/
def L_m_statement : List Nat := [144, 145, 146, 147, 148, 149, 150, 151, 156, 157, 158, 159, 160, 161, 162, 163]
def G_m_statement : List (Nat × Nat) := [(121, 10), (121, 11), (121, 12), (121, 33), (121, 39), (121, 48), (121, 49), (121, 50), (121, 51), (121, 55), (121, 61), (121, 62)]
noncomputable def m_statement_46 (s : iS) : Option (Int × iS) := bd (m_syntax s) (fun _ s1 => some (0, s1))
theorem tm_statement_46 (w : ev_W) (d : Nat) (hd : 11 ≤ d) (s : iS) : Ew hT w d 329 46 [(0, .ref (tb_nK + 121))] [] s (Cv hT) (m_statement_46 s) := by
  unfold m_statement_46
  refine e_mv 47 em_329 (ce_at ce_329 24 rfl) rfl rfl ?_
  refine e_ivv 50 em_329 (ce_at ce_329 25 rfl) (by omega) (iv_v0 (by decide) tq_121 rfl) em_316 (Nat.le_of_ble_eq_true rfl) rfl (tm_syntax w (d - 1) (by omega) _) (fun r1 s1 => ?_)
  exact e_retv em_329 (ce_at ce_329 26 rfl)
theorem fm_statement_46 (s : iS) : Fm Prod.snd L_m_statement G_m_statement s (m_statement_46 s) := fm_bd (fm_sub (fm_syntax _) (mem_sub_L rfl) (mem_sub_F rfl)) (fun r1 s1 => fm_some md_refl)
noncomputable def m_statement_211 (v1 : Int) (s : iS) : Option (Int × iS) := bd (m_add 12 0 0 v1 s) (fun r1 s1 => some (0, s1))
theorem tm_statement_211 (w : ev_W) (d : Nat) (hd : 11 ≤ d) (v1 : Int) (s : iS) : Ew hT w d 329 211 [(0, .ref (tb_nK + 121)), (1, iv v1)] [] s (Cv hT) (m_statement_211 v1 s) := by
  unfold m_statement_211
  refine e_mv 212 em_329 (ce_at ce_329 101 rfl) rfl rfl ?_
  refine e_bip 214 em_329 (ce_at ce_329 102 rfl) (by decide) rfl ?_
  refine e_op 215 em_329 (ce_at ce_329 103 rfl) rfl rfl ?_
  refine e_op 216 em_329 (ce_at ce_329 104 rfl) rfl rfl ?_
  refine e_mv 217 em_329 (ce_at ce_329 105 rfl) rfl rfl ?_
  refine e_ivi 220 em_329 (ce_at ce_329 106 rfl) (by omega) (iv_v4 (by decide) tq_121 rfl) em_330 (Nat.le_of_ble_eq_true rfl) rfl (tm_add w (d - 1) (by omega) _ _ _ _ _) (fun r1 s1 => ?_)
  refine e_op 221 em_329 (ce_at ce_329 107 rfl) rfl rfl ?_
  exact e_retv em_329 (ce_at ce_329 108 rfl)
theorem fm_statement_211 (v1 : Int) (s : iS) : Fm Prod.snd L_m_statement G_m_statement s (m_statement_211 v1 s) := fm_bd (fm_sub (fm_add _ _ _ _ _) (mem_sub_L rfl) (mem_sub_F rfl)) (fun r1 s1 => fm_some md_refl)
noncomputable def m_statement_177 (v1 : Int) (s : iS) : Option (Int × iS) := bd (m_add 18 0 0 v1 s) (fun r1 s1 => bd (m_needSign 59 s1) (fun _ s2 => some (0, s2)))
theorem tm_statement_177 (w : ev_W) (d : Nat) (hd : 11 ≤ d) (v1 : Int) (s : iS) : Ew hT w d 329 177 [(0, .ref (tb_nK + 121)), (1, iv v1)] [] s (Cv hT) (m_statement_177 v1 s) := by
  unfold m_statement_177
  refine e_mv 178 em_329 (ce_at ce_329 80 rfl) rfl rfl ?_
  refine e_bip 180 em_329 (ce_at ce_329 81 rfl) (by decide) rfl ?_
  refine e_op 181 em_329 (ce_at ce_329 82 rfl) rfl rfl ?_
  refine e_op 182 em_329 (ce_at ce_329 83 rfl) rfl rfl ?_
  refine e_mv 183 em_329 (ce_at ce_329 84 rfl) rfl rfl ?_
  refine e_ivi 186 em_329 (ce_at ce_329 85 rfl) (by omega) (iv_v4 (by decide) tq_121 rfl) em_330 (Nat.le_of_ble_eq_true rfl) rfl (tm_add w (d - 1) (by omega) _ _ _ _ _) (fun r1 s1 => ?_)
  refine e_op 187 em_329 (ce_at ce_329 86 rfl) rfl rfl ?_
  refine e_mv 188 em_329 (ce_at ce_329 87 rfl) rfl rfl ?_
  refine e_bip 190 em_329 (ce_at ce_329 88 rfl) (by decide) rfl ?_
  refine e_ivv 193 em_329 (ce_at ce_329 89 rfl) (by omega) (iv_v1 (by decide) tq_121 rfl) em_325 (Nat.le_of_ble_eq_true rfl) rfl (tm_needSign w (d - 1) (by omega) _ _) (fun r2 s2 => ?_)
  exact e_retv em_329 (ce_at ce_329 90 rfl)
theorem fm_statement_177 (v1 : Int) (s : iS) : Fm Prod.snd L_m_statement G_m_statement s (m_statement_177 v1 s) := fm_bd (fm_sub (fm_add _ _ _ _ _) (mem_sub_L rfl) (mem_sub_F rfl)) (fun r1 s1 => fm_bd (fm_sub (fm_needSign _ _) (mem_sub_L rfl) (mem_sub_F rfl)) (fun r2 s2 => fm_some md_refl))
noncomputable def m_statement_156 (v1 : Int) (t0 : Int) (s : iS) : Option (Int × iS) := gd (rg t0) (if t0 = 0 then bd (m_add 0 0 0 v1 s) (fun r3 s3 => m_statement_177 v1 s3) else bd (m_expression s) (fun _ s4 => m_statement_177 v1 s4))
theorem tm_statement_156 (w : ev_W) (d : Nat) (hd : 11 ≤ d) (v1 : Int) (t0 : Int) (s : iS) : Ew hT w d 329 156 [(0, .ref (tb_nK + 121)), (1, iv v1)] [iv t0] s (Cv hT) (m_statement_156 v1 t0 s) := by
  unfold m_statement_156
  refine e_mv 157 em_329 (ce_at ce_329 67 rfl) rfl rfl ?_
  refine e_mv 158 em_329 (ce_at ce_329 68 rfl) rfl rfl ?_
  refine e_gd fun g1 => ?_
  refine e_ifeq 168 161 em_329 rfl rfl (ce_at ce_329 69 rfl) g1 (fun h2 => ?_) (fun h2 => ?_)
  · refine e_mv 169 em_329 (ce_at ce_329 73 rfl) rfl rfl ?_
    refine e_op 170 em_329 (ce_at ce_329 74 rfl) rfl rfl ?_
    refine e_op 171 em_329 (ce_at ce_329 75 rfl) rfl rfl ?_
    refine e_op 172 em_329 (ce_at ce_329 76 rfl) rfl rfl ?_
    refine e_mv 173 em_329 (ce_at ce_329 77 rfl) rfl rfl ?_
    refine e_ivi 176 em_329 (ce_at ce_329 78 rfl) (by omega) (iv_v4 (by decide) tq_121 rfl) em_330 (Nat.le_of_ble_eq_true rfl) rfl (tm_add w (d - 1) (by omega) _ _ _ _ _) (fun r3 s3 => ?_)
    refine e_op 177 em_329 (ce_at ce_329 79 rfl) rfl rfl ?_
    refine e_pk [0, 1] rfl rfl ?_
    exact tm_statement_177 w d hd _ _
  · refine e_mv 162 em_329 (ce_at ce_329 70 rfl) rfl rfl ?_
    refine e_ivv 165 em_329 (ce_at ce_329 71 rfl) (by omega) (iv_v0 (by decide) tq_121 rfl) em_333 (Nat.le_of_ble_eq_true rfl) rfl (tm_expression w (d - 1) (by omega) _) (fun r4 s4 => ?_)
    refine e_goto em_329 177 (ce_at ce_329 72 rfl) rfl ?_
    refine e_pk [0, 1] rfl rfl ?_
    exact tm_statement_177 w d hd _ _
theorem fm_statement_156 (v1 : Int) (t0 : Int) (s : iS) : Fm Prod.snd L_m_statement G_m_statement s (m_statement_156 v1 t0 s) := fm_gd (fm_if (fm_bd (fm_sub (fm_add _ _ _ _ _) (mem_sub_L rfl) (mem_sub_F rfl)) (fun r3 s3 => fm_statement_177 _ _)) (fm_bd (fm_sub (fm_expression _) (mem_sub_L rfl) (mem_sub_F rfl)) (fun r4 s4 => fm_statement_177 _ _)))
noncomputable def m_statement_206 (v1 : Int) (t0 : Int) (s : iS) : Option (Int × iS) := bd (m_branch t0 v1 s) (fun _ s1 => some (0, s1))
theorem tm_statement_206 (w : ev_W) (d : Nat) (hd : 11 ≤ d) (v1 : Int) (t0 : Int) (s : iS) : Ew hT w d 329 206 [(1, iv v1)] [iv t0, .ref (tb_nK + 121)] s (Cv hT) (m_statement_206 v1 t0 s) := by
  unfold m_statement_206
  refine e_mv 207 em_329 (ce_at ce_329 98 rfl) rfl rfl ?_
  refine e_ivv 210 em_329 (ce_at ce_329 99 rfl) (by omega) (iv_v2 (by decide) tq_121 rfl) em_344 (Nat.le_of_ble_eq_true rfl) rfl (tm_branch w (d - 1) (by omega) _ _ _) (fun r1 s1 => ?_)
  exact e_retv em_329 (ce_at ce_329 100 rfl)
theorem fm_statement_206 (v1 : Int) (t0 : Int) (s : iS) : Fm Prod.snd L_m_statement G_m_statement s (m_statement_206 v1 t0 s) := fm_bd (fm_sub (fm_branch _ _ _) (mem_sub_L rfl) (mem_sub_F rfl)) (fun r1 s1 => fm_some md_refl)
noncomputable def m_statement (s : iS) : Option (Int × iS) := gd (0 ≤ (s 121 10) ∧ (s 121 10) < 2002) (gd (rg (s 124 (s 121 10).toNat)) (if (s 124 (s 121 10).toNat) = 5 then gd (rg (s 127 (s 121 10).toNat)) (if (s 127 (s 121 10).toNat) < 15 then m_statement_46 s else if (s 127 (s 121 10).toNat) = 18 then m_statement_46 s else bd (m_add 11 0 0 (s 121 10) s) (fun r7 s7 => bd (m_go s7) (fun _ s8 => if (s 127 (s 121 10).toNat) = 15 then bd (m_let s8) (fun _ s10 => m_statement_211 (s 121 10) s10) else if (s 127 (s 121 10).toNat) = 16 then bd (m_call s8) (fun _ s12 => bd (m_add 19 0 0 (s 121 10) s12) (fun r13 s13 => bd (m_needSign 59 s13) (fun _ s14 => m_statement_211 (s 121 10) s14))) else if (s 127 (s 121 10).toNat) = 20 then bd (m_isSign 59 s8) (fun r16 s16 => gd (rg r16) (if r16 = 0 then m_statement_156 (s 121 10) 1 s16 else m_statement_156 (s 121 10) 0 s16)) else if (s 127 (s 121 10).toNat) = 19 then m_statement_206 (s 121 10) 1 s8 else m_statement_206 (s 121 10) 0 s8))) else m_statement_46 s))
theorem tm_statement (w : ev_W) (d : Nat) (hd : 11 ≤ d) (s : iS) : Ew hT w d 329 0 [(0, .ref (tb_nK + 121))] [] s (Cv hT) (m_statement s) := by
  unfold m_statement
  refine e_mv 1 em_329 (ce_at ce_329 0 rfl) rfl rfl ?_
  refine e_get 4 em_329 (ce_at ce_329 1 rfl) tq_121 rfl rfl ?_
  refine e_mv 5 em_329 (ce_at ce_329 2 rfl) rfl rfl ?_
  refine e_mv 6 em_329 (ce_at ce_329 3 rfl) rfl rfl ?_
  refine e_getr 9 em_329 (ce_at ce_329 4 rfl) tq_121 rfl rfl ?_
  refine e_mv 10 em_329 (ce_at ce_329 5 rfl) rfl rfl ?_
  refine e_get 13 em_329 (ce_at ce_329 6 rfl) tq_121 rfl rfl ?_
  refine e_gd fun g1 => ?_
  refine e_ild 14 em_329 (ce_at ce_329 7 rfl) tq_124 (by decide) g1 rfl ?_
  refine e_op 15 em_329 (ce_at ce_329 8 rfl) rfl rfl ?_
  refine e_gd fun g2 => ?_
  refine e_cmne 46 18 em_329 rfl rfl (ce_at ce_329 9 rfl) g2 (by decide) (fun h3 => ?_) (fun h3 => ?_)
  · refine e_pk [0] rfl rfl ?_
    exact tm_statement_46 w d hd _
  · refine e_mv 19 em_329 (ce_at ce_329 10 rfl) rfl rfl ?_
    refine e_getr 22 em_329 (ce_at ce_329 11 rfl) tq_121 rfl rfl ?_
    refine e_mv 23 em_329 (ce_at ce_329 12 rfl) rfl rfl ?_
    refine e_get 26 em_329 (ce_at ce_329 13 rfl) tq_121 rfl rfl ?_
    refine e_ild 27 em_329 (ce_at ce_329 14 rfl) tq_127 (by decide) g1 rfl ?_
    refine e_bip 29 em_329 (ce_at ce_329 15 rfl) (by decide) rfl ?_
    refine e_gd fun g4 => ?_
    refine e_cmlt 46 32 em_329 rfl rfl (ce_at ce_329 16 rfl) g4 (by decide) (fun h5 => ?_) (fun h5 => ?_)
    · refine e_pk [0] rfl rfl ?_
      exact tm_statement_46 w d hd _
    · refine e_mv 33 em_329 (ce_at ce_329 17 rfl) rfl rfl ?_
      refine e_getr 36 em_329 (ce_at ce_329 18 rfl) tq_121 rfl rfl ?_
      refine e_mv 37 em_329 (ce_at ce_329 19 rfl) rfl rfl ?_
      refine e_get 40 em_329 (ce_at ce_329 20 rfl) tq_121 rfl rfl ?_
      refine e_ild 41 em_329 (ce_at ce_329 21 rfl) tq_127 (by decide) g1 rfl ?_
      refine e_bip 43 em_329 (ce_at ce_329 22 rfl) (by decide) rfl ?_
      refine e_cmne 51 46 em_329 rfl rfl (ce_at ce_329 23 rfl) g4 (by decide) (fun h6 => ?_) (fun h6 => ?_)
      · refine e_mv 52 em_329 (ce_at ce_329 27 rfl) rfl rfl ?_
        refine e_getr 55 em_329 (ce_at ce_329 28 rfl) tq_121 rfl rfl ?_
        refine e_mv 56 em_329 (ce_at ce_329 29 rfl) rfl rfl ?_
        refine e_get 59 em_329 (ce_at ce_329 30 rfl) tq_121 rfl rfl ?_
        refine e_ild 60 em_329 (ce_at ce_329 31 rfl) tq_127 (by decide) g1 rfl ?_
        refine e_mv 61 em_329 (ce_at ce_329 32 rfl) rfl rfl ?_
        refine e_mv 62 em_329 (ce_at ce_329 33 rfl) rfl rfl ?_
        refine e_bip 64 em_329 (ce_at ce_329 34 rfl) (by decide) rfl ?_
        refine e_op 65 em_329 (ce_at ce_329 35 rfl) rfl rfl ?_
        refine e_op 66 em_329 (ce_at ce_329 36 rfl) rfl rfl ?_
        refine e_mv 67 em_329 (ce_at ce_329 37 rfl) rfl rfl ?_
        refine e_ivi 70 em_329 (ce_at ce_329 38 rfl) (by omega) (iv_v4 (by decide) tq_121 rfl) em_330 (Nat.le_of_ble_eq_true rfl) rfl (tm_add w (d - 1) (by omega) _ _ _ _ _) (fun r7 s7 => ?_)
        refine e_op 71 em_329 (ce_at ce_329 39 rfl) rfl rfl ?_
        refine e_mv 72 em_329 (ce_at ce_329 40 rfl) rfl rfl ?_
        refine e_ivv 75 em_329 (ce_at ce_329 41 rfl) (by omega) (iv_v0 (by decide) tq_121 rfl) em_315 (Nat.le_of_ble_eq_true rfl) rfl (tm_go w (d - 1) (by omega) _) (fun r8 s8 => ?_)
        refine e_mv 76 em_329 (ce_at ce_329 42 rfl) rfl rfl ?_
        refine e_case 15 (fun h9 => ?_) (fun h9 => ?_)
        · refine e_sw em_329 112 (ce_at ce_329 43 rfl) (sw_lk g4 rfl (by rw [h9])) rfl ?_
          refine e_mv 113 em_329 (ce_at ce_329 44 rfl) rfl rfl ?_
          refine e_ivv 116 em_329 (ce_at ce_329 45 rfl) (by omega) (iv_v0 (by decide) tq_121 rfl) em_331 (Nat.le_of_ble_eq_true rfl) rfl (tm_let w (d - 1) (by omega) _) (fun r10 s10 => ?_)
          refine e_goto em_329 211 (ce_at ce_329 46 rfl) rfl ?_
          refine e_pk [0, 1] rfl rfl ?_
          exact tm_statement_211 w d hd _ _
        refine e_case 16 (fun h11 => ?_) (fun h11 => ?_)
        · refine e_sw em_329 119 (ce_at ce_329 43 rfl) (sw_lk g4 rfl (by rw [h11])) rfl ?_
          refine e_mv 120 em_329 (ce_at ce_329 47 rfl) rfl rfl ?_
          refine e_ivv 123 em_329 (ce_at ce_329 48 rfl) (by omega) (iv_v0 (by decide) tq_121 rfl) em_343 (Nat.le_of_ble_eq_true rfl) rfl (tm_call w (d - 1) (by omega) _) (fun r12 s12 => ?_)
          refine e_mv 124 em_329 (ce_at ce_329 49 rfl) rfl rfl ?_
          refine e_bip 126 em_329 (ce_at ce_329 50 rfl) (by decide) rfl ?_
          refine e_op 127 em_329 (ce_at ce_329 51 rfl) rfl rfl ?_
          refine e_op 128 em_329 (ce_at ce_329 52 rfl) rfl rfl ?_
          refine e_mv 129 em_329 (ce_at ce_329 53 rfl) rfl rfl ?_
          refine e_ivi 132 em_329 (ce_at ce_329 54 rfl) (by omega) (iv_v4 (by decide) tq_121 rfl) em_330 (Nat.le_of_ble_eq_true rfl) rfl (tm_add w (d - 1) (by omega) _ _ _ _ _) (fun r13 s13 => ?_)
          refine e_op 133 em_329 (ce_at ce_329 55 rfl) rfl rfl ?_
          refine e_mv 134 em_329 (ce_at ce_329 56 rfl) rfl rfl ?_
          refine e_bip 136 em_329 (ce_at ce_329 57 rfl) (by decide) rfl ?_
          refine e_ivv 139 em_329 (ce_at ce_329 58 rfl) (by omega) (iv_v1 (by decide) tq_121 rfl) em_325 (Nat.le_of_ble_eq_true rfl) rfl (tm_needSign w (d - 1) (by omega) _ _) (fun r14 s14 => ?_)
          refine e_goto em_329 211 (ce_at ce_329 59 rfl) rfl ?_
          refine e_pk [0, 1] rfl rfl ?_
          exact tm_statement_211 w d hd _ _
        refine e_case 20 (fun h15 => ?_) (fun h15 => ?_)
        · refine e_sw em_329 142 (ce_at ce_329 43 rfl) (sw_lk g4 rfl (by rw [h15])) rfl ?_
          refine e_mv 143 em_329 (ce_at ce_329 60 rfl) rfl rfl ?_
          refine e_bip 145 em_329 (ce_at ce_329 61 rfl) (by decide) rfl ?_
          refine e_ivi 148 em_329 (ce_at ce_329 62 rfl) (by omega) (iv_v1 (by decide) tq_121 rfl) em_320 (Nat.le_of_ble_eq_true rfl) rfl (tm_isSign w (d - 1) (by omega) _ _) (fun r16 s16 => ?_)
          refine e_gd fun g17 => ?_
          refine e_ifne 155 151 em_329 rfl rfl (ce_at ce_329 63 rfl) g17 (fun h18 => ?_) (fun h18 => ?_)
          · refine e_op 156 em_329 (ce_at ce_329 66 rfl) rfl rfl ?_
            refine e_pk [0, 1] rfl rfl ?_
            exact tm_statement_156 w d hd _ _ _
          · refine e_op 152 em_329 (ce_at ce_329 64 rfl) rfl rfl ?_
            refine e_goto em_329 156 (ce_at ce_329 65 rfl) rfl ?_
            refine e_pk [0, 1] rfl rfl ?_
            exact tm_statement_156 w d hd _ _ _
        refine e_sw em_329 194 (ce_at ce_329 43 rfl) (sw_lk g4 rfl (lk_step h9 (lk_step h11 (lk_step h15 rfl)))) rfl ?_
        refine e_mv 195 em_329 (ce_at ce_329 91 rfl) rfl rfl ?_
        refine e_mv 196 em_329 (ce_at ce_329 92 rfl) rfl rfl ?_
        refine e_bip 198 em_329 (ce_at ce_329 93 rfl) (by decide) rfl ?_
        refine e_cmne 205 201 em_329 rfl rfl (ce_at ce_329 94 rfl) g4 (by decide) (fun h19 => ?_) (fun h19 => ?_)
        · refine e_op 206 em_329 (ce_at ce_329 97 rfl) rfl rfl ?_
          refine e_pk [1] rfl rfl ?_
          exact tm_statement_206 w d hd _ _ _
        · refine e_op 202 em_329 (ce_at ce_329 95 rfl) rfl rfl ?_
          refine e_goto em_329 206 (ce_at ce_329 96 rfl) rfl ?_
          refine e_pk [1] rfl rfl ?_
          exact tm_statement_206 w d hd _ _ _
      · refine e_pk [0] rfl rfl ?_
        exact tm_statement_46 w d hd _
theorem fm_statement (s : iS) : Fm Prod.snd L_m_statement G_m_statement s (m_statement s) := fm_gd (fm_gd (fm_if (fm_gd (fm_if (fm_statement_46 _) (fm_if (fm_statement_46 _) (fm_bd (fm_sub (fm_add _ _ _ _ _) (mem_sub_L rfl) (mem_sub_F rfl)) (fun r7 s7 => fm_bd (fm_sub (fm_go _) (mem_sub_L rfl) (mem_sub_F rfl)) (fun r8 s8 => fm_if (fm_bd (fm_sub (fm_let _) (mem_sub_L rfl) (mem_sub_F rfl)) (fun r10 s10 => fm_statement_211 _ _)) (fm_if (fm_bd (fm_sub (fm_call _) (mem_sub_L rfl) (mem_sub_F rfl)) (fun r12 s12 => fm_bd (fm_sub (fm_add _ _ _ _ _) (mem_sub_L rfl) (mem_sub_F rfl)) (fun r13 s13 => fm_bd (fm_sub (fm_needSign _ _) (mem_sub_L rfl) (mem_sub_F rfl)) (fun r14 s14 => fm_statement_211 _ _)))) (fm_if (fm_bd (fm_sub (fm_isSign _ _) (mem_sub_L rfl) (mem_sub_F rfl)) (fun r16 s16 => fm_gd (fm_if (fm_statement_156 _ _ _) (fm_statement_156 _ _ _)))) (fm_if (fm_statement_206 _ _ _) (fm_statement_206 _ _ _)))))))))) (fm_statement_46 _)))
/-! m_statements -/
def L_m_statements : List Nat := [144, 145, 146, 147, 148, 149, 150, 151, 156, 157, 158, 159, 160, 161, 162, 163]
def G_m_statements : List (Nat × Nat) := [(121, 10), (121, 11), (121, 12), (121, 33), (121, 39), (121, 48), (121, 49), (121, 50), (121, 51), (121, 55), (121, 61), (121, 62)]
def m_statements_7C (w : ev_W) (d : Nat) : (Int × iS) ⊕ (iS) → am_E → Prop := fun q r => q.elim (fun l => ev w d 328 7 ((fun l => [(0, .ref (tb_nK + 121)), (1, iv (l.1))]) l) [] (hT ((fun l => l.2) l)) r) (fun e => (fun e r => ev w d 328 59 [] [] (hT (e)) r) e r)
noncomputable def m_statements_7b (v1 : Int) (s : iS) : Option ((Int × iS) ⊕ (iS)) := gd (rg v1) (if v1 = 0 then some (.inr s) else gd (rg (s 121 11)) (if (s 121 11) = 0 then bd (m_isSign 125 s) (fun r5 s5 => gd (rg r5) (if r5 = 0 then bd (m_statement s5) (fun _ s12 => some (.inl (v1, s12))) else bd (m_closeSign 125 s5) (fun _ s8 => gd (rg (s8 121 55)) (if (s8 121 55) = 0 then some (.inl (0, s8)) else bd (m_ends s8) (fun _ s11 => some (.inl (v1, s11))))))) else some (.inr s)))
theorem tm_statements_7b (w : ev_W) (d : Nat) (hd : 12 ≤ d) (v1 : Int) (s : iS) : Ew hT w d 328 7 [(0, .ref (tb_nK + 121)), (1, iv v1)] [] s (m_statements_7C w d) (m_statements_7b v1 s) := by
  unfold m_statements_7b
  refine e_mv 8 em_328 (ce_at ce_328 5 rfl) rfl rfl ?_
  refine e_gd fun g1 => ?_
  refine e_ifeq 59 11 em_328 rfl rfl (ce_at ce_328 6 rfl) g1 (fun h2 => ?_) (fun h2 => ?_)
  · refine e_pk [] rfl rfl ?_
    exact e_out (fun r h => h)
  · refine e_mv 12 em_328 (ce_at ce_328 7 rfl) rfl rfl ?_
    refine e_get 15 em_328 (ce_at ce_328 8 rfl) tq_121 rfl rfl ?_
    refine e_gd fun g3 => ?_
    refine e_ifne 59 18 em_328 rfl rfl (ce_at ce_328 9 rfl) g3 (fun h4 => ?_) (fun h4 => ?_)
    · refine e_pk [] rfl rfl ?_
      exact e_out (fun r h => h)
    · refine e_mv 19 em_328 (ce_at ce_328 10 rfl) rfl rfl ?_
      refine e_bip 21 em_328 (ce_at ce_328 11 rfl) (by decide) rfl ?_
      refine e_ivi 24 em_328 (ce_at ce_328 12 rfl) (by omega) (iv_v1 (by decide) tq_121 rfl) em_320 (Nat.le_of_ble_eq_true rfl) rfl (tm_isSign w (d - 1) (by omega) _ _) (fun r5 s5 => ?_)
      refine e_gd fun g6 => ?_
      refine e_ifne 34 27 em_328 rfl rfl (ce_at ce_328 13 rfl) g6 (fun h7 => ?_) (fun h7 => ?_)
      · refine e_mv 35 em_328 (ce_at ce_328 17 rfl) rfl rfl ?_
        refine e_bip 37 em_328 (ce_at ce_328 18 rfl) (by decide) rfl ?_
        refine e_ivv 40 em_328 (ce_at ce_328 19 rfl) (by omega) (iv_v1 (by decide) tq_121 rfl) em_340 (Nat.le_of_ble_eq_true rfl) rfl (tm_closeSign w (d - 1) (by omega) _ _) (fun r8 s8 => ?_)
        refine e_mv 41 em_328 (ce_at ce_328 20 rfl) rfl rfl ?_
        refine e_get 44 em_328 (ce_at ce_328 21 rfl) tq_121 rfl rfl ?_
        refine e_gd fun g9 => ?_
        refine e_ifne 52 47 em_328 rfl rfl (ce_at ce_328 22 rfl) g9 (fun h10 => ?_) (fun h10 => ?_)
        · refine e_mv 53 em_328 (ce_at ce_328 26 rfl) rfl rfl ?_
          refine e_ivv 56 em_328 (ce_at ce_328 27 rfl) (by omega) (iv_v0 (by decide) tq_121 rfl) em_346 (Nat.le_of_ble_eq_true rfl) rfl (tm_ends w (d - 1) (by omega) _) (fun r11 s11 => ?_)
          refine e_goto em_328 7 (ce_at ce_328 28 rfl) rfl ?_
          refine e_pk [0, 1] rfl rfl ?_
          exact e_out (fun r h => h)
        · refine e_op 48 em_328 (ce_at ce_328 23 rfl) rfl rfl ?_
          refine e_mv 49 em_328 (ce_at ce_328 24 rfl) rfl rfl ?_
          refine e_goto em_328 7 (ce_at ce_328 25 rfl) rfl ?_
          refine e_pk [0, 1] rfl rfl ?_
          exact e_out (fun r h => h)
      · refine e_mv 28 em_328 (ce_at ce_328 14 rfl) rfl rfl ?_
        refine e_ivv 31 em_328 (ce_at ce_328 15 rfl) (by omega) (iv_v0 (by decide) tq_121 rfl) em_329 (Nat.le_of_ble_eq_true rfl) rfl (tm_statement w (d - 1) (by omega) _) (fun r12 s12 => ?_)
        refine e_goto em_328 7 (ce_at ce_328 16 rfl) rfl ?_
        refine e_pk [0, 1] rfl rfl ?_
        exact e_out (fun r h => h)
theorem fm_statements_7b (v1 : Int) (s : iS) : Fm (fun r : (Int × iS) ⊕ (iS) => r.elim (fun l => l.2) (fun e => e)) L_m_statements G_m_statements s (m_statements_7b v1 s) := fm_gd (fm_if (fm_some md_refl) (fm_gd (fm_if (fm_bd (fm_sub (fm_isSign _ _) (mem_sub_L rfl) (mem_sub_F rfl)) (fun r5 s5 => fm_gd (fm_if (fm_bd (fm_sub (fm_statement _) (mem_sub_L rfl) (mem_sub_F rfl)) (fun r12 s12 => fm_some md_refl)) (fm_bd (fm_sub (fm_closeSign _ _) (mem_sub_L rfl) (mem_sub_F rfl)) (fun r8 s8 => fm_gd (fm_if (fm_some md_refl) (fm_bd (fm_sub (fm_ends _) (mem_sub_L rfl) (mem_sub_F rfl)) (fun r11 s11 => fm_some md_refl)))))))) (fm_some md_refl))))
noncomputable def m_statements_7 (v1 : Int) (s : iS) : Option (Int × iS) := (lp (L := Int × iS) (E := iS) (fun l => m_statements_7b (l.1) (l.2)) (v1, s)).bind (fun e => some (0, e))
theorem tm_statements_7 (w : ev_W) (d : Nat) (hd : 12 ≤ d) (v1 : Int) (s : iS) : Ew hT w d 328 7 [(0, .ref (tb_nK + 121)), (1, iv v1)] [] s (Cv hT) (m_statements_7 v1 s) := by
  unfold m_statements_7
  refine e_lp (L := Int × iS) (E := iS) (LO := fun l => [(0, .ref (tb_nK + 121)), (1, iv (l.1))]) (LS := fun l => l.2) (CE := fun e r => ev w d 328 59 [] [] (hT (e)) r) (fun l => tm_statements_7b w d hd _ _) ?_ (v1, s)
  intro e
  show Ew hT w d 328 59 [] [] e (Cv hT) _
  exact e_retv em_328 (ce_at ce_328 29 rfl)
theorem fm_statements_7 (v1 : Int) (s : iS) : Fm Prod.snd L_m_statements G_m_statements s (m_statements_7 v1 s) := by
  unfold m_statements_7
  refine fm_lp (A := Int × iS) (E := iS) (LS := fun l => l.2) (LE := fun e => e) ?_ ?_ (v1, s)
  · exact fun l => fm_statements_7b _ _
  · exact (fun e => fm_some md_refl)
noncomputable def m_statements (s : iS) : Option (Int × iS) := lt' (up s 121 55 0) (fun s1 => m_statements_7 1 s1)
theorem tm_statements (w : ev_W) (d : Nat) (hd : 12 ≤ d) (s : iS) : Ew hT w d 328 0 [(0, .ref (tb_nK + 121))] [] s (Cv hT) (m_statements s) := by
  unfold m_statements
  refine e_mv 1 em_328 (ce_at ce_328 0 rfl) rfl rfl ?_
  refine e_op 2 em_328 (ce_at ce_328 1 rfl) rfl rfl ?_
  refine e_put 5 em_328 (ce_at ce_328 2 rfl) tq_121 rfl rfl rfl (fun s1 => ?_)
  refine e_op 6 em_328 (ce_at ce_328 3 rfl) rfl rfl ?_
  refine e_mv 7 em_328 (ce_at ce_328 4 rfl) rfl rfl ?_
  refine e_pk [0, 1] rfl rfl ?_
  exact tm_statements_7 w d hd _ _
theorem fm_statements (s : iS) : Fm Prod.snd L_m_statements G_m_statements s (m_statements s) := fm_lt (md_upF (mem_F rfl)) (fun s1 => fm_statements_7 _ _)
