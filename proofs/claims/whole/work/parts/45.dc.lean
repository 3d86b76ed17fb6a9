/-! what the methods do, as functions, and that the machine does it; printed by wip/whole/dc.py -/
/-! brd_lastChip -/
def L_brd_lastChip : List Nat := []
def G_brd_lastChip : List (Nat × Nat) := []
noncomputable def brd_lastChip (s : iS) : Option (Int × iS) := some (((s 72 2) - 1), s)
theorem tbrd_lastChip (w : ev_W) (d : Nat) (hd : 0 ≤ d) (s : iS) : Ew hT w d 267 0 [(0, .ref (tb_nK + 108))] [] s (Ci hT) (brd_lastChip s) := by
  unfold brd_lastChip
  refine e_mv 1 em_267 (ce_at ce_267 0 rfl) rfl rfl ?_
  refine e_getr 4 em_267 (ce_at ce_267 1 rfl) tq_108 rfl rfl ?_
  refine e_getr 7 em_267 (ce_at ce_267 2 rfl) tq_71 rfl rfl ?_
  refine e_get 10 em_267 (ce_at ce_267 3 rfl) tq_72 rfl rfl ?_
  refine e_op 11 em_267 (ce_at ce_267 4 rfl) rfl rfl ?_
  refine e_isub 12 em_267 rfl (ce_at ce_267 5 rfl) ?_
  exact e_reti em_267 (ce_at ce_267 6 rfl)
theorem fbrd_lastChip (s : iS) : Fm Prod.snd L_brd_lastChip G_brd_lastChip s (brd_lastChip s) := fm_some md_refl
/-! brd_slotOf -/
def L_brd_slotOf : List Nat := []
def G_brd_slotOf : List (Nat × Nat) := []
noncomputable def brd_slotOf (v0 : Int) (v1 : Int) (s : iS) : Option (Int × iS) := some (((16 * v0) + v1), s)
theorem tbrd_slotOf (H : iS → List am_C) (w : ev_W) (d : Nat) (hd : 0 ≤ d) (v0 : Int) (v1 : Int) (s : iS) : Ew H w d 269 0 [(0, iv v0), (1, iv v1)] [] s (Ci H) (brd_slotOf v0 v1 s) := by
  unfold brd_slotOf
  refine e_bip 2 em_269 (ce_at ce_269 0 rfl) (by decide) rfl ?_
  refine e_mv 3 em_269 (ce_at ce_269 1 rfl) rfl rfl ?_
  refine e_imul 4 em_269 rfl (ce_at ce_269 2 rfl) ?_
  refine e_mv 5 em_269 (ce_at ce_269 3 rfl) rfl rfl ?_
  refine e_iadd 6 em_269 rfl (ce_at ce_269 4 rfl) ?_
  exact e_reti em_269 (ce_at ce_269 5 rfl)
theorem fbrd_slotOf (v0 : Int) (v1 : Int) (s : iS) : Fm Prod.snd L_brd_slotOf G_brd_slotOf s (brd_slotOf v0 v1 s) := fm_some md_refl
/-! brd_join -/
def L_brd_join : List Nat := [111]
def G_brd_join : List (Nat × Nat) := []
noncomputable def brd_join (v1 : Int) (v2 : Int) (s : iS) : Option (Int × iS) := gd (rg v1) (if v1 < 0 then some (0, s) else if 40000 ≤ v1 then some (0, s) else gd (0 ≤ v1 ∧ v1 < 40000) (lt' (up s 111 v1.toNat v2) (fun s5 => some (0, s5))))
theorem tbrd_join (w : ev_W) (d : Nat) (hd : 0 ≤ d) (v1 : Int) (v2 : Int) (s : iS) : Ew hT w d 271 0 [(0, .ref (tb_nK + 108)), (1, iv v1), (2, iv v2)] [] s (Cv hT) (brd_join v1 v2 s) := by
  unfold brd_join
  refine e_mv 1 em_271 (ce_at ce_271 0 rfl) rfl rfl ?_
  refine e_gd fun g1 => ?_
  refine e_iflt 17 4 em_271 rfl rfl (ce_at ce_271 1 rfl) g1 (fun h2 => ?_) (fun h2 => ?_)
  · exact e_retv em_271 (ce_at ce_271 10 rfl)
  · refine e_mv 5 em_271 (ce_at ce_271 2 rfl) rfl rfl ?_
    refine e_ldc 7 em_271 (ce_at ce_271 3 rfl) (x := 40000) rfl rfl ?_
    refine e_cmge 17 10 em_271 rfl rfl (ce_at ce_271 4 rfl) g1 (by decide) (fun h3 => ?_) (fun h3 => ?_)
    · exact e_retv em_271 (ce_at ce_271 10 rfl)
    · refine e_mv 11 em_271 (ce_at ce_271 5 rfl) rfl rfl ?_
      refine e_getr 14 em_271 (ce_at ce_271 6 rfl) tq_108 rfl rfl ?_
      refine e_mv 15 em_271 (ce_at ce_271 7 rfl) rfl rfl ?_
      refine e_mv 16 em_271 (ce_at ce_271 8 rfl) rfl rfl ?_
      refine e_gd fun g4 => ?_
      refine e_ist 17 em_271 (ce_at ce_271 9 rfl) tq_111 (by decide) g4 rfl (fun s5 => ?_)
      exact e_retv em_271 (ce_at ce_271 10 rfl)
theorem fbrd_join (v1 : Int) (v2 : Int) (s : iS) : Fm Prod.snd L_brd_join G_brd_join s (brd_join v1 v2 s) := fm_gd (fm_if (fm_some md_refl) (fm_if (fm_some md_refl) (fm_gd (fm_lt (md_upL (mem_L rfl)) (fun s5 => fm_some md_refl)))))
/-! brd_give -/
def L_brd_give : List Nat := [111]
def G_brd_give : List (Nat × Nat) := []
noncomputable def brd_give (v1 : Int) (v2 : Int) (s : iS) : Option (Int × iS) := bd (brd_join v1 ((-1) - v2) s) (fun _ s1 => some (0, s1))
theorem tbrd_give (w : ev_W) (d : Nat) (hd : 1 ≤ d) (v1 : Int) (v2 : Int) (s : iS) : Ew hT w d 270 0 [(0, .ref (tb_nK + 108)), (1, iv v1), (2, iv v2)] [] s (Cv hT) (brd_give v1 v2 s) := by
  unfold brd_give
  refine e_mv 1 em_270 (ce_at ce_270 0 rfl) rfl rfl ?_
  refine e_mv 2 em_270 (ce_at ce_270 1 rfl) rfl rfl ?_
  refine e_op 3 em_270 (ce_at ce_270 2 rfl) rfl rfl ?_
  refine e_mv 4 em_270 (ce_at ce_270 3 rfl) rfl rfl ?_
  refine e_isub 5 em_270 rfl (ce_at ce_270 4 rfl) ?_
  refine e_ivv 8 em_270 (ce_at ce_270 5 rfl) (by omega) (iv_v2 (by decide) tq_108 rfl) em_271 (Nat.le_of_ble_eq_true rfl) rfl (tbrd_join w (d - 1) (by omega) _ _ _) (fun r1 s1 => ?_)
  exact e_retv em_270 (ce_at ce_270 6 rfl)
theorem fbrd_give (v1 : Int) (v2 : Int) (s : iS) : Fm Prod.snd L_brd_give G_brd_give s (brd_give v1 v2 s) := fm_bd (fm_sub (fbrd_join _ _ _) (mem_sub_L rfl) (mem_sub_F rfl)) (fun r1 s1 => fm_some md_refl)
/-! brdP_LG -/
def L_brdP : List Nat := [111, 113, 114]
def G_brdP : List (Nat × Nat) := [(108, 14), (108, 15)]
/-! brdP_ok -/
def brdP_ok (w : ev_W) (d : Nat) (F : Nat → Int → Int → Int → iS → Option (Int × iS)) : Prop := (∀ (v1 : Int) (v2 : Int) (v3 : Int) (s : iS), Ew hT w d 272 0 [(0, .ref (tb_nK + 108)), (1, iv v1), (2, iv v2), (3, iv v3)] [] s (Cv hT) (F 0 v1 v2 v3 s))
/-! cck_isOut -/
def L_cck_isOut : List Nat := []
def G_cck_isOut : List (Nat × Nat) := []
noncomputable def cck_isOut (v1 : Int) (v2 : Int) (s : iS) : Option (Int × iS) := gd (0 ≤ v1 ∧ v1 < 18) (gd (rg v2) (gd (rg (s 77 v1.toNat)) (if v2 < (s 77 v1.toNat) then some (0, s) else some (1, s))))
theorem tcck_isOut (w : ev_W) (d : Nat) (hd : 0 ≤ d) (v1 : Int) (v2 : Int) (s : iS) : Ew hT w d 251 0 [(0, .ref (tb_nK + 90)), (1, iv v1), (2, iv v2)] [] s (Ci hT) (cck_isOut v1 v2 s) := by
  unfold cck_isOut
  refine e_mv 1 em_251 (ce_at ce_251 0 rfl) rfl rfl ?_
  refine e_mv 2 em_251 (ce_at ce_251 1 rfl) rfl rfl ?_
  refine e_getr 5 em_251 (ce_at ce_251 2 rfl) tq_90 rfl rfl ?_
  refine e_getr 8 em_251 (ce_at ce_251 3 rfl) tq_71 rfl rfl ?_
  refine e_mv 9 em_251 (ce_at ce_251 4 rfl) rfl rfl ?_
  refine e_gd fun g1 => ?_
  refine e_ild 10 em_251 (ce_at ce_251 5 rfl) tq_77 (by decide) g1 rfl ?_
  refine e_gd fun g2 => ?_
  refine e_gd fun g3 => ?_
  refine e_cmlt 17 13 em_251 rfl rfl (ce_at ce_251 6 rfl) g2 g3 (fun h4 => ?_) (fun h4 => ?_)
  · refine e_op 18 em_251 (ce_at ce_251 9 rfl) rfl rfl ?_
    exact e_retz em_251 (ce_at ce_251 10 rfl) (by decide)
  · refine e_op 14 em_251 (ce_at ce_251 7 rfl) rfl rfl ?_
    refine e_goto em_251 18 (ce_at ce_251 8 rfl) rfl ?_
    exact e_retz em_251 (ce_at ce_251 10 rfl) (by decide)
theorem fcck_isOut (v1 : Int) (v2 : Int) (s : iS) : Fm Prod.snd L_cck_isOut G_cck_isOut s (cck_isOut v1 v2 s) := fm_gd (fm_gd (fm_gd (fm_if (fm_some md_refl) (fm_some md_refl))))
/-! brd_joinLink -/
def L_brd_joinLink : List Nat := [111]
def G_brd_joinLink : List (Nat × Nat) := []
def brd_joinLink_46C (w : ev_W) (d : Nat) (v1 : Int) (v2 : Int) (v3 : Int) (v5 : Int) (v6 : Int) : (Int × iS) ⊕ (iS) → am_E → Prop := fun q r => q.elim (fun l => ev w d 273 46 ((fun l => [(0, .ref (tb_nK + 108)), (1, iv v1), (2, iv v2), (3, iv v3), (5, iv v5), (6, iv v6), (7, iv (l.1))]) l) [] (hT ((fun l => l.2) l)) r) (fun e => (fun e r => ev w d 273 142 [] [] (hT (e)) r) e r)
noncomputable def brd_joinLink_91 (v1 : Int) (v2 : Int) (v3 : Int) (v5 : Int) (v6 : Int) (v7 : Int) (t0 : Int) (t1 : Int) (s : iS) : Option ((Int × iS) ⊕ (iS)) := bd (brd_give t1 t0 s) (fun _ s1 => some (.inl ((v7 + 1), s1)))
theorem tbrd_joinLink_91 (w : ev_W) (d : Nat) (hd : 2 ≤ d) (v1 : Int) (v2 : Int) (v3 : Int) (v5 : Int) (v6 : Int) (v7 : Int) (t0 : Int) (t1 : Int) (s : iS) : Ew hT w d 273 91 [(0, .ref (tb_nK + 108)), (1, iv v1), (2, iv v2), (3, iv v3), (5, iv v5), (6, iv v6), (7, iv v7)] [iv t0, iv t1, .ref (tb_nK + 108)] s (brd_joinLink_46C w d v1 v2 v3 v5 v6) (brd_joinLink_91 v1 v2 v3 v5 v6 v7 t0 t1 s) := by
  unfold brd_joinLink_91
  refine e_ivv 94 em_273 (ce_at ce_273 49 rfl) (by omega) (iv_v2 (by decide) tq_108 rfl) em_270 (Nat.le_of_ble_eq_true rfl) rfl (tbrd_give w (d - 1) (by omega) _ _ _) (fun r1 s1 => ?_)
  refine e_goto em_273 136 (ce_at ce_273 50 rfl) rfl ?_
  refine e_iinc 139 em_273 (ce_at ce_273 74 rfl) rfl (by decide) rfl ?_
  refine e_goto em_273 46 (ce_at ce_273 75 rfl) rfl ?_
  refine e_pk [0, 1, 2, 3, 5, 6, 7] rfl rfl ?_
  exact e_out (fun r h => h)
theorem fbrd_joinLink_91 (v1 : Int) (v2 : Int) (v3 : Int) (v5 : Int) (v6 : Int) (v7 : Int) (t0 : Int) (t1 : Int) (s : iS) : Fm (fun r : (Int × iS) ⊕ (iS) => r.elim (fun l => l.2) (fun e => e)) L_brd_joinLink G_brd_joinLink s (brd_joinLink_91 v1 v2 v3 v5 v6 v7 t0 t1 s) := fm_bd (fm_sub (fbrd_give _ _ _) (mem_sub_L rfl) (mem_sub_F rfl)) (fun r1 s1 => fm_some md_refl)
noncomputable def brd_joinLink_73 (v1 : Int) (v2 : Int) (v3 : Int) (v5 : Int) (v6 : Int) (v7 : Int) (s : iS) : Option ((Int × iS) ⊕ (iS)) := gd (rg v6) (if v6 = (-2) then brd_joinLink_91 v1 v2 v3 v5 v6 v7 1 (v5 + v7) s else brd_joinLink_91 v1 v2 v3 v5 v6 v7 0 (v5 + v7) s)
theorem tbrd_joinLink_73 (w : ev_W) (d : Nat) (hd : 2 ≤ d) (v1 : Int) (v2 : Int) (v3 : Int) (v5 : Int) (v6 : Int) (v7 : Int) (s : iS) : Ew hT w d 273 73 [(0, .ref (tb_nK + 108)), (1, iv v1), (2, iv v2), (3, iv v3), (5, iv v5), (6, iv v6), (7, iv v7)] [] s (brd_joinLink_46C w d v1 v2 v3 v5 v6) (brd_joinLink_73 v1 v2 v3 v5 v6 v7 s) := by
  unfold brd_joinLink_73
  refine e_mv 74 em_273 (ce_at ce_273 39 rfl) rfl rfl ?_
  refine e_mv 76 em_273 (ce_at ce_273 40 rfl) rfl rfl ?_
  refine e_mv 78 em_273 (ce_at ce_273 41 rfl) rfl rfl ?_
  refine e_iadd 79 em_273 rfl (ce_at ce_273 42 rfl) ?_
  refine e_mv 81 em_273 (ce_at ce_273 43 rfl) rfl rfl ?_
  refine e_bip 83 em_273 (ce_at ce_273 44 rfl) (by decide) rfl ?_
  refine e_gd fun g1 => ?_
  refine e_cmne 90 86 em_273 rfl rfl (ce_at ce_273 45 rfl) g1 (by decide) (fun h2 => ?_) (fun h2 => ?_)
  · refine e_op 91 em_273 (ce_at ce_273 48 rfl) rfl rfl ?_
    refine e_pk [0, 1, 2, 3, 5, 6, 7] rfl rfl ?_
    exact tbrd_joinLink_91 w d hd _ _ _ _ _ _ _ _ _
  · refine e_op 87 em_273 (ce_at ce_273 46 rfl) rfl rfl ?_
    refine e_goto em_273 91 (ce_at ce_273 47 rfl) rfl ?_
    refine e_pk [0, 1, 2, 3, 5, 6, 7] rfl rfl ?_
    exact tbrd_joinLink_91 w d hd _ _ _ _ _ _ _ _ _
theorem fbrd_joinLink_73 (v1 : Int) (v2 : Int) (v3 : Int) (v5 : Int) (v6 : Int) (v7 : Int) (s : iS) : Fm (fun r : (Int × iS) ⊕ (iS) => r.elim (fun l => l.2) (fun e => e)) L_brd_joinLink G_brd_joinLink s (brd_joinLink_73 v1 v2 v3 v5 v6 v7 s) := fm_gd (fm_if (fbrd_joinLink_91 _ _ _ _ _ _ _ _ _) (fbrd_joinLink_91 _ _ _ _ _ _ _ _ _))
noncomputable def brd_joinLink_46b (v1 : Int) (v2 : Int) (v3 : Int) (v5 : Int) (v6 : Int) (v7 : Int) (s : iS) : Option ((Int × iS) ⊕ (iS)) := gd (0 ≤ v1 ∧ v1 < 500) (gd (rg v7) (gd (rg (s 97 v1.toNat)) (if (s 97 v1.toNat) ≤ v7 then some (.inr s) else gd (rg v6) (if v6 = (-1) then brd_joinLink_73 v1 v2 v3 v5 v6 v7 s else if v6 = (-2) then brd_joinLink_73 v1 v2 v3 v5 v6 v7 s else gd (rg v2) (if v2 = 0 then bd (brd_join (v5 + v7) ((v3 + v6) + v7) s) (fun _ s10 => some (.inl ((v7 + 1), s10))) else bd (brd_join ((v3 + v6) + v7) (v5 + v7) s) (fun _ s11 => some (.inl ((v7 + 1), s11))))))))
theorem tbrd_joinLink_46b (w : ev_W) (d : Nat) (hd : 2 ≤ d) (v1 : Int) (v2 : Int) (v3 : Int) (v5 : Int) (v6 : Int) (v7 : Int) (s : iS) : Ew hT w d 273 46 [(0, .ref (tb_nK + 108)), (1, iv v1), (2, iv v2), (3, iv v3), (5, iv v5), (6, iv v6), (7, iv v7)] [] s (brd_joinLink_46C w d v1 v2 v3 v5 v6) (brd_joinLink_46b v1 v2 v3 v5 v6 v7 s) := by
  unfold brd_joinLink_46b
  refine e_mv 48 em_273 (ce_at ce_273 26 rfl) rfl rfl ?_
  refine e_mv 49 em_273 (ce_at ce_273 27 rfl) rfl rfl ?_
  refine e_getr 52 em_273 (ce_at ce_273 28 rfl) tq_108 rfl rfl ?_
  refine e_getr 55 em_273 (ce_at ce_273 29 rfl) tq_90 rfl rfl ?_
  refine e_mv 56 em_273 (ce_at ce_273 30 rfl) rfl rfl ?_
  refine e_gd fun g1 => ?_
  refine e_ild 57 em_273 (ce_at ce_273 31 rfl) tq_97 (by decide) g1 rfl ?_
  refine e_gd fun g2 => ?_
  refine e_gd fun g3 => ?_
  refine e_cmge 142 60 em_273 rfl rfl (ce_at ce_273 32 rfl) g2 g3 (fun h4 => ?_) (fun h4 => ?_)
  · refine e_pk [] rfl rfl ?_
    exact e_out (fun r h => h)
  · refine e_mv 62 em_273 (ce_at ce_273 33 rfl) rfl rfl ?_
    refine e_op 63 em_273 (ce_at ce_273 34 rfl) rfl rfl ?_
    refine e_gd fun g5 => ?_
    refine e_cmeq 73 66 em_273 rfl rfl (ce_at ce_273 35 rfl) g5 (by decide) (fun h6 => ?_) (fun h6 => ?_)
    · refine e_pk [0, 1, 2, 3, 5, 6, 7] rfl rfl ?_
      exact tbrd_joinLink_73 w d hd _ _ _ _ _ _ _
    · refine e_mv 68 em_273 (ce_at ce_273 36 rfl) rfl rfl ?_
      refine e_bip 70 em_273 (ce_at ce_273 37 rfl) (by decide) rfl ?_
      refine e_cmne 97 73 em_273 rfl rfl (ce_at ce_273 38 rfl) g5 (by decide) (fun h7 => ?_) (fun h7 => ?_)
      · refine e_mv 98 em_273 (ce_at ce_273 51 rfl) rfl rfl ?_
        refine e_gd fun g8 => ?_
        refine e_ifeq 120 101 em_273 rfl rfl (ce_at ce_273 52 rfl) g8 (fun h9 => ?_) (fun h9 => ?_)
        · refine e_mv 121 em_273 (ce_at ce_273 64 rfl) rfl rfl ?_
          refine e_mv 123 em_273 (ce_at ce_273 65 rfl) rfl rfl ?_
          refine e_mv 125 em_273 (ce_at ce_273 66 rfl) rfl rfl ?_
          refine e_iadd 126 em_273 rfl (ce_at ce_273 67 rfl) ?_
          refine e_mv 127 em_273 (ce_at ce_273 68 rfl) rfl rfl ?_
          refine e_mv 129 em_273 (ce_at ce_273 69 rfl) rfl rfl ?_
          refine e_iadd 130 em_273 rfl (ce_at ce_273 70 rfl) ?_
          refine e_mv 132 em_273 (ce_at ce_273 71 rfl) rfl rfl ?_
          refine e_iadd 133 em_273 rfl (ce_at ce_273 72 rfl) ?_
          refine e_ivv 136 em_273 (ce_at ce_273 73 rfl) (by omega) (iv_v2 (by decide) tq_108 rfl) em_271 (Nat.le_of_ble_eq_true rfl) rfl (tbrd_join w (d - 1) (by omega) _ _ _) (fun r10 s10 => ?_)
          refine e_iinc 139 em_273 (ce_at ce_273 74 rfl) rfl (by decide) rfl ?_
          refine e_goto em_273 46 (ce_at ce_273 75 rfl) rfl ?_
          refine e_pk [0, 1, 2, 3, 5, 6, 7] rfl rfl ?_
          exact e_out (fun r h => h)
        · refine e_mv 102 em_273 (ce_at ce_273 53 rfl) rfl rfl ?_
          refine e_mv 103 em_273 (ce_at ce_273 54 rfl) rfl rfl ?_
          refine e_mv 105 em_273 (ce_at ce_273 55 rfl) rfl rfl ?_
          refine e_iadd 106 em_273 rfl (ce_at ce_273 56 rfl) ?_
          refine e_mv 108 em_273 (ce_at ce_273 57 rfl) rfl rfl ?_
          refine e_iadd 109 em_273 rfl (ce_at ce_273 58 rfl) ?_
          refine e_mv 111 em_273 (ce_at ce_273 59 rfl) rfl rfl ?_
          refine e_mv 113 em_273 (ce_at ce_273 60 rfl) rfl rfl ?_
          refine e_iadd 114 em_273 rfl (ce_at ce_273 61 rfl) ?_
          refine e_ivv 117 em_273 (ce_at ce_273 62 rfl) (by omega) (iv_v2 (by decide) tq_108 rfl) em_271 (Nat.le_of_ble_eq_true rfl) rfl (tbrd_join w (d - 1) (by omega) _ _ _) (fun r11 s11 => ?_)
          refine e_goto em_273 136 (ce_at ce_273 63 rfl) rfl ?_
          refine e_iinc 139 em_273 (ce_at ce_273 74 rfl) rfl (by decide) rfl ?_
          refine e_goto em_273 46 (ce_at ce_273 75 rfl) rfl ?_
          refine e_pk [0, 1, 2, 3, 5, 6, 7] rfl rfl ?_
          exact e_out (fun r h => h)
      · refine e_pk [0, 1, 2, 3, 5, 6, 7] rfl rfl ?_
        exact tbrd_joinLink_73 w d hd _ _ _ _ _ _ _
theorem fbrd_joinLink_46b (v1 : Int) (v2 : Int) (v3 : Int) (v5 : Int) (v6 : Int) (v7 : Int) (s : iS) : Fm (fun r : (Int × iS) ⊕ (iS) => r.elim (fun l => l.2) (fun e => e)) L_brd_joinLink G_brd_joinLink s (brd_joinLink_46b v1 v2 v3 v5 v6 v7 s) := fm_gd (fm_gd (fm_gd (fm_if (fm_some md_refl) (fm_gd (fm_if (fbrd_joinLink_73 _ _ _ _ _ _ _) (fm_if (fbrd_joinLink_73 _ _ _ _ _ _ _) (fm_gd (fm_if (fm_bd (fm_sub (fbrd_join _ _ _) (mem_sub_L rfl) (mem_sub_F rfl)) (fun r10 s10 => fm_some md_refl)) (fm_bd (fm_sub (fbrd_join _ _ _) (mem_sub_L rfl) (mem_sub_F rfl)) (fun r11 s11 => fm_some md_refl))))))))))
noncomputable def brd_joinLink_46 (v1 : Int) (v2 : Int) (v3 : Int) (v5 : Int) (v6 : Int) (v7 : Int) (s : iS) : Option (Int × iS) := (lp (L := Int × iS) (E := iS) (fun l => brd_joinLink_46b v1 v2 v3 v5 v6 (l.1) (l.2)) (v7, s)).bind (fun e => some (0, e))
theorem tbrd_joinLink_46 (w : ev_W) (d : Nat) (hd : 2 ≤ d) (v1 : Int) (v2 : Int) (v3 : Int) (v5 : Int) (v6 : Int) (v7 : Int) (s : iS) : Ew hT w d 273 46 [(0, .ref (tb_nK + 108)), (1, iv v1), (2, iv v2), (3, iv v3), (5, iv v5), (6, iv v6), (7, iv v7)] [] s (Cv hT) (brd_joinLink_46 v1 v2 v3 v5 v6 v7 s) := by
  unfold brd_joinLink_46
  refine e_lp (L := Int × iS) (E := iS) (LO := fun l => [(0, .ref (tb_nK + 108)), (1, iv v1), (2, iv v2), (3, iv v3), (5, iv v5), (6, iv v6), (7, iv (l.1))]) (LS := fun l => l.2) (CE := fun e r => ev w d 273 142 [] [] (hT (e)) r) (fun l => tbrd_joinLink_46b w d hd _ _ _ _ _ _ _) ?_ (v7, s)
  intro e
  show Ew hT w d 273 142 [] [] e (Cv hT) _
  exact e_retv em_273 (ce_at ce_273 76 rfl)
theorem fbrd_joinLink_46 (v1 : Int) (v2 : Int) (v3 : Int) (v5 : Int) (v6 : Int) (v7 : Int) (s : iS) : Fm Prod.snd L_brd_joinLink G_brd_joinLink s (brd_joinLink_46 v1 v2 v3 v5 v6 v7 s) := by
  unfold brd_joinLink_46
  refine fm_lp (A := Int × iS) (E := iS) (LS := fun l => l.2) (LE := fun e => e) ?_ ?_ (v7, s)
  · exact fun l => fbrd_joinLink_46b _ _ _ _ _ _ _
  · exact (fun e => fm_some md_refl)
noncomputable def brd_joinLink (v1 : Int) (v2 : Int) (v3 : Int) (v4 : Int) (s : iS) : Option (Int × iS) := gd (0 ≤ v1 ∧ v1 < 500) (gd (0 ≤ (s 95 v1.toNat) ∧ (s 95 v1.toNat) < 197) (brd_joinLink_46 v1 v2 v3 ((v4 + (s 92 (s 95 v1.toNat).toNat)) + (s 96 v1.toNat)) (s 98 v1.toNat) 0 s))
theorem tbrd_joinLink (w : ev_W) (d : Nat) (hd : 2 ≤ d) (v1 : Int) (v2 : Int) (v3 : Int) (v4 : Int) (s : iS) : Ew hT w d 273 0 [(0, .ref (tb_nK + 108)), (1, iv v1), (2, iv v2), (3, iv v3), (4, iv v4)] [] s (Cv hT) (brd_joinLink v1 v2 v3 v4 s) := by
  unfold brd_joinLink
  refine e_mv 2 em_273 (ce_at ce_273 0 rfl) rfl rfl ?_
  refine e_mv 3 em_273 (ce_at ce_273 1 rfl) rfl rfl ?_
  refine e_getr 6 em_273 (ce_at ce_273 2 rfl) tq_108 rfl rfl ?_
  refine e_getr 9 em_273 (ce_at ce_273 3 rfl) tq_90 rfl rfl ?_
  refine e_mv 10 em_273 (ce_at ce_273 4 rfl) rfl rfl ?_
  refine e_getr 13 em_273 (ce_at ce_273 5 rfl) tq_108 rfl rfl ?_
  refine e_getr 16 em_273 (ce_at ce_273 6 rfl) tq_90 rfl rfl ?_
  refine e_mv 17 em_273 (ce_at ce_273 7 rfl) rfl rfl ?_
  refine e_gd fun g1 => ?_
  refine e_ild 18 em_273 (ce_at ce_273 8 rfl) tq_95 (by decide) g1 rfl ?_
  refine e_gd fun g2 => ?_
  refine e_ild 19 em_273 (ce_at ce_273 9 rfl) tq_92 (by decide) g2 rfl ?_
  refine e_iadd 20 em_273 rfl (ce_at ce_273 10 rfl) ?_
  refine e_mv 21 em_273 (ce_at ce_273 11 rfl) rfl rfl ?_
  refine e_getr 24 em_273 (ce_at ce_273 12 rfl) tq_108 rfl rfl ?_
  refine e_getr 27 em_273 (ce_at ce_273 13 rfl) tq_90 rfl rfl ?_
  refine e_mv 28 em_273 (ce_at ce_273 14 rfl) rfl rfl ?_
  refine e_ild 29 em_273 (ce_at ce_273 15 rfl) tq_96 (by decide) g1 rfl ?_
  refine e_iadd 30 em_273 rfl (ce_at ce_273 16 rfl) ?_
  refine e_mv 32 em_273 (ce_at ce_273 17 rfl) rfl rfl ?_
  refine e_mv 33 em_273 (ce_at ce_273 18 rfl) rfl rfl ?_
  refine e_getr 36 em_273 (ce_at ce_273 19 rfl) tq_108 rfl rfl ?_
  refine e_getr 39 em_273 (ce_at ce_273 20 rfl) tq_90 rfl rfl ?_
  refine e_mv 40 em_273 (ce_at ce_273 21 rfl) rfl rfl ?_
  refine e_ild 41 em_273 (ce_at ce_273 22 rfl) tq_98 (by decide) g1 rfl ?_
  refine e_mv 43 em_273 (ce_at ce_273 23 rfl) rfl rfl ?_
  refine e_op 44 em_273 (ce_at ce_273 24 rfl) rfl rfl ?_
  refine e_mv 46 em_273 (ce_at ce_273 25 rfl) rfl rfl ?_
  refine e_pk [0, 1, 2, 3, 5, 6, 7] rfl rfl ?_
  exact tbrd_joinLink_46 w d hd _ _ _ _ _ _ _
theorem fbrd_joinLink (v1 : Int) (v2 : Int) (v3 : Int) (v4 : Int) (s : iS) : Fm Prod.snd L_brd_joinLink G_brd_joinLink s (brd_joinLink v1 v2 v3 v4 s) := fm_gd (fm_gd (fbrd_joinLink_46 _ _ _ _ _ _ _))
/-! brd_addGate -/
def L_brd_addGate : List Nat := [111, 113, 114]
def G_brd_addGate : List (Nat × Nat) := [(108, 14)]
noncomputable def brd_addGate_54 (t0 : Int) (s : iS) : Option (Int × iS) := bd (brd_give t0 (194 + (s 108 14)) s) (fun _ s1 => lt' (up s1 108 14 ((s1 108 14) + 1)) (fun s2 => some (0, s2)))
theorem tbrd_addGate_54 (w : ev_W) (d : Nat) (hd : 2 ≤ d) (t0 : Int) (s : iS) : Ew hT w d 274 54 [(0, .ref (tb_nK + 108))] [iv t0, .ref (tb_nK + 108)] s (Cv hT) (brd_addGate_54 t0 s) := by
  unfold brd_addGate_54
  refine e_sip 57 em_274 (ce_at ce_274 32 rfl) (by decide) rfl ?_
  refine e_mv 58 em_274 (ce_at ce_274 33 rfl) rfl rfl ?_
  refine e_get 61 em_274 (ce_at ce_274 34 rfl) tq_108 rfl rfl ?_
  refine e_iadd 62 em_274 rfl (ce_at ce_274 35 rfl) ?_
  refine e_ivv 65 em_274 (ce_at ce_274 36 rfl) (by omega) (iv_v2 (by decide) tq_108 rfl) em_270 (Nat.le_of_ble_eq_true rfl) rfl (tbrd_give w (d - 1) (by omega) _ _ _) (fun r1 s1 => ?_)
  refine e_mv 66 em_274 (ce_at ce_274 37 rfl) rfl rfl ?_
  refine e_op 67 em_274 (ce_at ce_274 38 rfl) rfl rfl ?_
  refine e_get 70 em_274 (ce_at ce_274 39 rfl) tq_108 rfl rfl ?_
  refine e_op 71 em_274 (ce_at ce_274 40 rfl) rfl rfl ?_
  refine e_iadd 72 em_274 rfl (ce_at ce_274 41 rfl) ?_
  refine e_put 75 em_274 (ce_at ce_274 42 rfl) tq_108 rfl rfl rfl (fun s2 => ?_)
  exact e_retv em_274 (ce_at ce_274 43 rfl)
theorem fbrd_addGate_54 (t0 : Int) (s : iS) : Fm Prod.snd L_brd_addGate G_brd_addGate s (brd_addGate_54 t0 s) := fm_bd (fm_sub (fbrd_give _ _ _) (mem_sub_L rfl) (mem_sub_F rfl)) (fun r1 s1 => fm_lt (md_upF (mem_F rfl)) (fun s2 => fm_some md_refl))
noncomputable def brd_addGate_39 (v1 : Int) (v2 : Int) (t0 : Int) (t1 : Int) (s : iS) : Option (Int × iS) := gd (0 ≤ t1 ∧ t1 < 1500) (lt' (up s 114 t1.toNat t0) (fun s2 => gd (rg v1) (if v1 = 0 then brd_addGate_54 (v2 + 2) s2 else brd_addGate_54 (v2 + 1) s2)))
theorem tbrd_addGate_39 (w : ev_W) (d : Nat) (hd : 2 ≤ d) (v1 : Int) (v2 : Int) (t0 : Int) (t1 : Int) (s : iS) : Ew hT w d 274 39 [(0, .ref (tb_nK + 108)), (1, iv v1), (2, iv v2)] [iv t0, iv t1, .ref (tb_nK + 114)] s (Cv hT) (brd_addGate_39 v1 v2 t0 t1 s) := by
  unfold brd_addGate_39
  refine e_gd fun g1 => ?_
  refine e_ist 40 em_274 (ce_at ce_274 21 rfl) tq_114 (by decide) g1 rfl (fun s2 => ?_)
  refine e_mv 41 em_274 (ce_at ce_274 22 rfl) rfl rfl ?_
  refine e_mv 42 em_274 (ce_at ce_274 23 rfl) rfl rfl ?_
  refine e_gd fun g3 => ?_
  refine e_ifne 51 45 em_274 rfl rfl (ce_at ce_274 24 rfl) g3 (fun h4 => ?_) (fun h4 => ?_)
  · refine e_mv 52 em_274 (ce_at ce_274 29 rfl) rfl rfl ?_
    refine e_op 53 em_274 (ce_at ce_274 30 rfl) rfl rfl ?_
    refine e_iadd 54 em_274 rfl (ce_at ce_274 31 rfl) ?_
    refine e_pk [0] rfl rfl ?_
    exact tbrd_addGate_54 w d hd _ _
  · refine e_mv 46 em_274 (ce_at ce_274 25 rfl) rfl rfl ?_
    refine e_op 47 em_274 (ce_at ce_274 26 rfl) rfl rfl ?_
    refine e_iadd 48 em_274 rfl (ce_at ce_274 27 rfl) ?_
    refine e_goto em_274 54 (ce_at ce_274 28 rfl) rfl ?_
    refine e_pk [0] rfl rfl ?_
    exact tbrd_addGate_54 w d hd _ _
theorem fbrd_addGate_39 (v1 : Int) (v2 : Int) (t0 : Int) (t1 : Int) (s : iS) : Fm Prod.snd L_brd_addGate G_brd_addGate s (brd_addGate_39 v1 v2 t0 t1 s) := fm_gd (fm_lt (md_upL (mem_L rfl)) (fun s2 => fm_gd (fm_if (fbrd_addGate_54 _ _) (fbrd_addGate_54 _ _))))
noncomputable def brd_addGate (v1 : Int) (v2 : Int) (s : iS) : Option (Int × iS) := gd (rg (s 108 14)) (if 1500 ≤ (s 108 14) then some (0, s) else gd (0 ≤ (s 108 14) ∧ (s 108 14) < 1500) (lt' (up s 113 (s 108 14).toNat v2) (fun s4 => gd (rg v1) (if v1 = 0 then brd_addGate_39 v1 v2 (v2 + 1) (s4 108 14) s4 else brd_addGate_39 v1 v2 (-1) (s4 108 14) s4))))
theorem tbrd_addGate (w : ev_W) (d : Nat) (hd : 2 ≤ d) (v1 : Int) (v2 : Int) (s : iS) : Ew hT w d 274 0 [(0, .ref (tb_nK + 108)), (1, iv v1), (2, iv v2)] [] s (Cv hT) (brd_addGate v1 v2 s) := by
  unfold brd_addGate
  refine e_mv 1 em_274 (ce_at ce_274 0 rfl) rfl rfl ?_
  refine e_get 4 em_274 (ce_at ce_274 1 rfl) tq_108 rfl rfl ?_
  refine e_sip 7 em_274 (ce_at ce_274 2 rfl) (by decide) rfl ?_
  refine e_gd fun g1 => ?_
  refine e_cmge 75 10 em_274 rfl rfl (ce_at ce_274 3 rfl) g1 (by decide) (fun h2 => ?_) (fun h2 => ?_)
  · exact e_retv em_274 (ce_at ce_274 43 rfl)
  · refine e_mv 11 em_274 (ce_at ce_274 4 rfl) rfl rfl ?_
    refine e_getr 14 em_274 (ce_at ce_274 5 rfl) tq_108 rfl rfl ?_
    refine e_mv 15 em_274 (ce_at ce_274 6 rfl) rfl rfl ?_
    refine e_get 18 em_274 (ce_at ce_274 7 rfl) tq_108 rfl rfl ?_
    refine e_mv 19 em_274 (ce_at ce_274 8 rfl) rfl rfl ?_
    refine e_gd fun g3 => ?_
    refine e_ist 20 em_274 (ce_at ce_274 9 rfl) tq_113 (by decide) g3 rfl (fun s4 => ?_)
    refine e_mv 21 em_274 (ce_at ce_274 10 rfl) rfl rfl ?_
    refine e_getr 24 em_274 (ce_at ce_274 11 rfl) tq_108 rfl rfl ?_
    refine e_mv 25 em_274 (ce_at ce_274 12 rfl) rfl rfl ?_
    refine e_get 28 em_274 (ce_at ce_274 13 rfl) tq_108 rfl rfl ?_
    refine e_mv 29 em_274 (ce_at ce_274 14 rfl) rfl rfl ?_
    refine e_gd fun g5 => ?_
    refine e_ifne 38 32 em_274 rfl rfl (ce_at ce_274 15 rfl) g5 (fun h6 => ?_) (fun h6 => ?_)
    · refine e_op 39 em_274 (ce_at ce_274 20 rfl) rfl rfl ?_
      refine e_pk [0, 1, 2] rfl rfl ?_
      exact tbrd_addGate_39 w d hd _ _ _ _ _
    · refine e_mv 33 em_274 (ce_at ce_274 16 rfl) rfl rfl ?_
      refine e_op 34 em_274 (ce_at ce_274 17 rfl) rfl rfl ?_
      refine e_iadd 35 em_274 rfl (ce_at ce_274 18 rfl) ?_
      refine e_goto em_274 39 (ce_at ce_274 19 rfl) rfl ?_
      refine e_pk [0, 1, 2] rfl rfl ?_
      exact tbrd_addGate_39 w d hd _ _ _ _ _
theorem fbrd_addGate (v1 : Int) (v2 : Int) (s : iS) : Fm Prod.snd L_brd_addGate G_brd_addGate s (brd_addGate v1 v2 s) := fm_gd (fm_if (fm_some md_refl) (fm_gd (fm_lt (md_upL (mem_L rfl)) (fun s4 => fm_gd (fm_if (fbrd_addGate_39 _ _ _ _ _) (fbrd_addGate_39 _ _ _ _ _))))))
/-! brd_putParts -/
def brd_putParts_83C (w : ev_W) (d : Nat) (v1 : Int) (v2 : Int) (v3 : Int) (v4 : Int) (v5 : Int) (v6 : Int) : (Int × iS) ⊕ (iS) → am_E → Prop := fun q r => q.elim (fun l => ev w d 272 83 ((fun l => [(0, .ref (tb_nK + 108)), (1, iv v1), (2, iv v2), (3, iv v3), (4, iv v4), (5, iv v5), (6, iv v6), (7, iv (l.1))]) l) [] (hT ((fun l => l.2) l)) r) (fun e => (fun e r => ev w d 272 134 [(0, .ref (tb_nK + 108)), (1, iv v1), (2, iv v2), (3, iv v3), (4, iv v4), (5, iv v5), (6, iv v6)] [] (hT (e)) r) e r)
noncomputable def brd_putParts_83b (F : Nat → Int → Int → Int → iS → Option (Int × iS)) (v1 : Int) (v2 : Int) (v3 : Int) (v4 : Int) (v5 : Int) (v6 : Int) (v7 : Int) (s : iS) : Option ((Int × iS) ⊕ (iS)) := gd (0 ≤ (v4 + 1) ∧ (v4 + 1) < 385) (gd (rg v7) (gd (rg (s 84 (v4 + 1).toNat)) (if (s 84 (v4 + 1).toNat) ≤ v7 then some (.inr s) else gd (0 ≤ v7 ∧ v7 < 500) (bd (cck_isOut v5 (s 95 v7.toNat) s) (fun r6 s6 => bd (brd_joinLink v7 r6 v2 v6 s6) (fun _ s7 => some (.inl ((v7 + 1), s7))))))))
theorem tbrd_putParts_83b (w : ev_W) (d : Nat) (hd : 3 ≤ d) (F : Nat → Int → Int → Int → iS → Option (Int × iS)) (hF : brdP_ok w (d - 1) F) (v1 : Int) (v2 : Int) (v3 : Int) (v4 : Int) (v5 : Int) (v6 : Int) (v7 : Int) (s : iS) : Ew hT w d 272 83 [(0, .ref (tb_nK + 108)), (1, iv v1), (2, iv v2), (3, iv v3), (4, iv v4), (5, iv v5), (6, iv v6), (7, iv v7)] [] s (brd_putParts_83C w d v1 v2 v3 v4 v5 v6) (brd_putParts_83b F v1 v2 v3 v4 v5 v6 v7 s) := by
  unfold brd_putParts_83b
  refine e_mv 85 em_272 (ce_at ce_272 44 rfl) rfl rfl ?_
  refine e_mv 86 em_272 (ce_at ce_272 45 rfl) rfl rfl ?_
  refine e_getr 89 em_272 (ce_at ce_272 46 rfl) tq_108 rfl rfl ?_
  refine e_getr 92 em_272 (ce_at ce_272 47 rfl) tq_71 rfl rfl ?_
  refine e_mv 94 em_272 (ce_at ce_272 48 rfl) rfl rfl ?_
  refine e_op 95 em_272 (ce_at ce_272 49 rfl) rfl rfl ?_
  refine e_iadd 96 em_272 rfl (ce_at ce_272 50 rfl) ?_
  refine e_gd fun g1 => ?_
  refine e_ild 97 em_272 (ce_at ce_272 51 rfl) tq_84 (by decide) g1 rfl ?_
  refine e_gd fun g2 => ?_
  refine e_gd fun g3 => ?_
  refine e_cmge 134 100 em_272 rfl rfl (ce_at ce_272 52 rfl) g2 g3 (fun h4 => ?_) (fun h4 => ?_)
  · refine e_pk [0, 1, 2, 3, 4, 5, 6] rfl rfl ?_
    exact e_out (fun r h => h)
  · refine e_mv 101 em_272 (ce_at ce_272 53 rfl) rfl rfl ?_
    refine e_mv 103 em_272 (ce_at ce_272 54 rfl) rfl rfl ?_
    refine e_mv 104 em_272 (ce_at ce_272 55 rfl) rfl rfl ?_
    refine e_getr 107 em_272 (ce_at ce_272 56 rfl) tq_108 rfl rfl ?_
    refine e_mv 109 em_272 (ce_at ce_272 57 rfl) rfl rfl ?_
    refine e_mv 110 em_272 (ce_at ce_272 58 rfl) rfl rfl ?_
    refine e_getr 113 em_272 (ce_at ce_272 59 rfl) tq_108 rfl rfl ?_
    refine e_getr 116 em_272 (ce_at ce_272 60 rfl) tq_90 rfl rfl ?_
    refine e_mv 118 em_272 (ce_at ce_272 61 rfl) rfl rfl ?_
    refine e_gd fun g5 => ?_
    refine e_ild 119 em_272 (ce_at ce_272 62 rfl) tq_95 (by decide) g5 rfl ?_
    refine e_ivi 122 em_272 (ce_at ce_272 63 rfl) (by omega) (iv_v2 (by decide) tq_90 rfl) em_251 (Nat.le_of_ble_eq_true rfl) rfl (tcck_isOut w (d - 1) (by omega) _ _ _) (fun r6 s6 => ?_)
    refine e_mv 123 em_272 (ce_at ce_272 64 rfl) rfl rfl ?_
    refine e_mv 125 em_272 (ce_at ce_272 65 rfl) rfl rfl ?_
    refine e_ivv 128 em_272 (ce_at ce_272 66 rfl) (by omega) (iv_v4 (by decide) tq_108 rfl) em_273 (Nat.le_of_ble_eq_true rfl) rfl (tbrd_joinLink w (d - 1) (by omega) _ _ _ _ _) (fun r7 s7 => ?_)
    refine e_iinc 131 em_272 (ce_at ce_272 67 rfl) rfl (by decide) rfl ?_
    refine e_goto em_272 83 (ce_at ce_272 68 rfl) rfl ?_
    refine e_pk [0, 1, 2, 3, 4, 5, 6, 7] rfl rfl ?_
    exact e_out (fun r h => h)
theorem fbrd_putParts_83b (F : Nat → Int → Int → Int → iS → Option (Int × iS)) (hF : ∀ (t : Nat) (a b c : Int) (s : iS), Fm Prod.snd L_brdP G_brdP s (F t a b c s)) (v1 : Int) (v2 : Int) (v3 : Int) (v4 : Int) (v5 : Int) (v6 : Int) (v7 : Int) (s : iS) : Fm (fun r : (Int × iS) ⊕ (iS) => r.elim (fun l => l.2) (fun e => e)) L_brdP G_brdP s (brd_putParts_83b F v1 v2 v3 v4 v5 v6 v7 s) := fm_gd (fm_gd (fm_gd (fm_if (fm_some md_refl) (fm_gd (fm_bd (fm_sub (fcck_isOut _ _ _) (mem_sub_L rfl) (mem_sub_F rfl)) (fun r6 s6 => fm_bd (fm_sub (fbrd_joinLink _ _ _ _ _) (mem_sub_L rfl) (mem_sub_F rfl)) (fun r7 s7 => fm_some md_refl)))))))
def brd_putParts_18C (w : ev_W) (d : Nat) (v1 : Int) (v2 : Int) (v3 : Int) : (Int × iS) ⊕ (iS) → am_E → Prop := fun q r => q.elim (fun l => ev w d 272 18 ((fun l => [(0, .ref (tb_nK + 108)), (1, iv v1), (2, iv v2), (3, iv v3), (4, iv (l.1))]) l) [] (hT ((fun l => l.2) l)) r) (fun e => (fun e r => ev w d 272 168 [] [] (hT (e)) r) e r)
noncomputable def brd_putParts_134 (F : Nat → Int → Int → Int → iS → Option (Int × iS)) (v1 : Int) (v2 : Int) (v3 : Int) (v4 : Int) (v5 : Int) (v6 : Int) (s : iS) : Option ((Int × iS) ⊕ (iS)) := gd (rg v5) (if 2 ≤ v5 then bd (F 0 v5 v6 (v3 + 1) s) (fun _ s3 => some (.inl ((v4 + 1), s3))) else bd (brd_addGate v5 v6 s) (fun _ s4 => some (.inl ((v4 + 1), s4))))
theorem tbrd_putParts_134 (w : ev_W) (d : Nat) (hd : 3 ≤ d) (F : Nat → Int → Int → Int → iS → Option (Int × iS)) (hF : brdP_ok w (d - 1) F) (v1 : Int) (v2 : Int) (v3 : Int) (v4 : Int) (v5 : Int) (v6 : Int) (s : iS) : Ew hT w d 272 134 [(0, .ref (tb_nK + 108)), (1, iv v1), (2, iv v2), (3, iv v3), (4, iv v4), (5, iv v5), (6, iv v6)] [] s (brd_putParts_18C w d v1 v2 v3) (brd_putParts_134 F v1 v2 v3 v4 v5 v6 s) := by
  unfold brd_putParts_134
  refine e_mv 136 em_272 (ce_at ce_272 69 rfl) rfl rfl ?_
  refine e_op 137 em_272 (ce_at ce_272 70 rfl) rfl rfl ?_
  refine e_gd fun g1 => ?_
  refine e_cmge 151 140 em_272 rfl rfl (ce_at ce_272 71 rfl) g1 (by decide) (fun h2 => ?_) (fun h2 => ?_)
  · refine e_mv 152 em_272 (ce_at ce_272 77 rfl) rfl rfl ?_
    refine e_mv 154 em_272 (ce_at ce_272 78 rfl) rfl rfl ?_
    refine e_mv 156 em_272 (ce_at ce_272 79 rfl) rfl rfl ?_
    refine e_mv 157 em_272 (ce_at ce_272 80 rfl) rfl rfl ?_
    refine e_op 158 em_272 (ce_at ce_272 81 rfl) rfl rfl ?_
    refine e_iadd 159 em_272 rfl (ce_at ce_272 82 rfl) ?_
    refine e_ivv 162 em_272 (ce_at ce_272 83 rfl) (by omega) (iv_v3 (by decide) tq_108 rfl) em_272 (Nat.le_of_ble_eq_true rfl) rfl (hF _ _ _ _) (fun r3 s3 => ?_)
    refine e_iinc 165 em_272 (ce_at ce_272 84 rfl) rfl (by decide) rfl ?_
    refine e_goto em_272 18 (ce_at ce_272 85 rfl) rfl ?_
    refine e_pk [0, 1, 2, 3, 4] rfl rfl ?_
    exact e_out (fun r h => h)
  · refine e_mv 141 em_272 (ce_at ce_272 72 rfl) rfl rfl ?_
    refine e_mv 143 em_272 (ce_at ce_272 73 rfl) rfl rfl ?_
    refine e_mv 145 em_272 (ce_at ce_272 74 rfl) rfl rfl ?_
    refine e_ivv 148 em_272 (ce_at ce_272 75 rfl) (by omega) (iv_v2 (by decide) tq_108 rfl) em_274 (Nat.le_of_ble_eq_true rfl) rfl (tbrd_addGate w (d - 1) (by omega) _ _ _) (fun r4 s4 => ?_)
    refine e_goto em_272 162 (ce_at ce_272 76 rfl) rfl ?_
    refine e_iinc 165 em_272 (ce_at ce_272 84 rfl) rfl (by decide) rfl ?_
    refine e_goto em_272 18 (ce_at ce_272 85 rfl) rfl ?_
    refine e_pk [0, 1, 2, 3, 4] rfl rfl ?_
    exact e_out (fun r h => h)
theorem fbrd_putParts_134 (F : Nat → Int → Int → Int → iS → Option (Int × iS)) (hF : ∀ (t : Nat) (a b c : Int) (s : iS), Fm Prod.snd L_brdP G_brdP s (F t a b c s)) (v1 : Int) (v2 : Int) (v3 : Int) (v4 : Int) (v5 : Int) (v6 : Int) (s : iS) : Fm (fun r : (Int × iS) ⊕ (iS) => r.elim (fun l => l.2) (fun e => e)) L_brdP G_brdP s (brd_putParts_134 F v1 v2 v3 v4 v5 v6 s) := fm_gd (fm_if (fm_bd (hF 0 _ _ _ _) (fun r3 s3 => fm_some md_refl)) (fm_bd (fm_sub (fbrd_addGate _ _ _) (mem_sub_L rfl) (mem_sub_F rfl)) (fun r4 s4 => fm_some md_refl)))
noncomputable def brd_putParts_83 (F : Nat → Int → Int → Int → iS → Option (Int × iS)) (v1 : Int) (v2 : Int) (v3 : Int) (v4 : Int) (v5 : Int) (v6 : Int) (v7 : Int) (s : iS) : Option ((Int × iS) ⊕ (iS)) := (lp (L := Int × iS) (E := iS) (fun l => brd_putParts_83b F v1 v2 v3 v4 v5 v6 (l.1) (l.2)) (v7, s)).bind (fun e => brd_putParts_134 F v1 v2 v3 v4 v5 v6 e)
theorem tbrd_putParts_83 (w : ev_W) (d : Nat) (hd : 3 ≤ d) (F : Nat → Int → Int → Int → iS → Option (Int × iS)) (hF : brdP_ok w (d - 1) F) (v1 : Int) (v2 : Int) (v3 : Int) (v4 : Int) (v5 : Int) (v6 : Int) (v7 : Int) (s : iS) : Ew hT w d 272 83 [(0, .ref (tb_nK + 108)), (1, iv v1), (2, iv v2), (3, iv v3), (4, iv v4), (5, iv v5), (6, iv v6), (7, iv v7)] [] s (brd_putParts_18C w d v1 v2 v3) (brd_putParts_83 F v1 v2 v3 v4 v5 v6 v7 s) := by
  unfold brd_putParts_83
  refine e_lp (L := Int × iS) (E := iS) (LO := fun l => [(0, .ref (tb_nK + 108)), (1, iv v1), (2, iv v2), (3, iv v3), (4, iv v4), (5, iv v5), (6, iv v6), (7, iv (l.1))]) (LS := fun l => l.2) (CE := fun e r => ev w d 272 134 [(0, .ref (tb_nK + 108)), (1, iv v1), (2, iv v2), (3, iv v3), (4, iv v4), (5, iv v5), (6, iv v6)] [] (hT (e)) r) (fun l => tbrd_putParts_83b w d hd F hF _ _ _ _ _ _ _ _) ?_ (v7, s)
  intro e
  show Ew hT w d 272 134 [(0, .ref (tb_nK + 108)), (1, iv v1), (2, iv v2), (3, iv v3), (4, iv v4), (5, iv v5), (6, iv v6)] [] e (brd_putParts_18C w d v1 v2 v3) _
  refine e_pk [0, 1, 2, 3, 4, 5, 6] rfl rfl ?_
  exact tbrd_putParts_134 w d hd F hF _ _ _ _ _ _ _
theorem fbrd_putParts_83 (F : Nat → Int → Int → Int → iS → Option (Int × iS)) (hF : ∀ (t : Nat) (a b c : Int) (s : iS), Fm Prod.snd L_brdP G_brdP s (F t a b c s)) (v1 : Int) (v2 : Int) (v3 : Int) (v4 : Int) (v5 : Int) (v6 : Int) (v7 : Int) (s : iS) : Fm (fun r : (Int × iS) ⊕ (iS) => r.elim (fun l => l.2) (fun e => e)) L_brdP G_brdP s (brd_putParts_83 F v1 v2 v3 v4 v5 v6 v7 s) := by
  unfold brd_putParts_83
  refine fm_lp (A := Int × iS) (E := iS) (LS := fun l => l.2) (LE := fun e => e) ?_ ?_ (v7, s)
  · exact fun l => fbrd_putParts_83b F hF _ _ _ _ _ _ _ _
  · exact (fun e => fbrd_putParts_134 F hF _ _ _ _ _ _ _)
noncomputable def brd_putParts_18b (F : Nat → Int → Int → Int → iS → Option (Int × iS)) (v1 : Int) (v2 : Int) (v3 : Int) (v4 : Int) (s : iS) : Option ((Int × iS) ⊕ (iS)) := gd (0 ≤ (v1 + 1) ∧ (v1 + 1) < 19) (gd (rg v4) (gd (rg (s 78 (v1 + 1).toNat)) (if (s 78 (v1 + 1).toNat) ≤ v4 then some (.inr s) else gd (0 ≤ v4 ∧ v4 < 384) (gd (0 ≤ (s 94 v4.toNat) ∧ (s 94 v4.toNat) < 18) (lt' (up s 108 15 ((s 108 15) + (s 93 (s 94 v4.toNat).toNat))) (fun s7 => gd (0 ≤ v4 ∧ v4 < 385) (brd_putParts_83 F v1 v2 v3 v4 (s 94 v4.toNat) (s 108 15) (s7 84 v4.toNat) s7)))))))
theorem tbrd_putParts_18b (w : ev_W) (d : Nat) (hd : 3 ≤ d) (F : Nat → Int → Int → Int → iS → Option (Int × iS)) (hF : brdP_ok w (d - 1) F) (v1 : Int) (v2 : Int) (v3 : Int) (v4 : Int) (s : iS) : Ew hT w d 272 18 [(0, .ref (tb_nK + 108)), (1, iv v1), (2, iv v2), (3, iv v3), (4, iv v4)] [] s (brd_putParts_18C w d v1 v2 v3) (brd_putParts_18b F v1 v2 v3 v4 s) := by
  unfold brd_putParts_18b
  refine e_mv 20 em_272 (ce_at ce_272 10 rfl) rfl rfl ?_
  refine e_mv 21 em_272 (ce_at ce_272 11 rfl) rfl rfl ?_
  refine e_getr 24 em_272 (ce_at ce_272 12 rfl) tq_108 rfl rfl ?_
  refine e_getr 27 em_272 (ce_at ce_272 13 rfl) tq_71 rfl rfl ?_
  refine e_mv 28 em_272 (ce_at ce_272 14 rfl) rfl rfl ?_
  refine e_op 29 em_272 (ce_at ce_272 15 rfl) rfl rfl ?_
  refine e_iadd 30 em_272 rfl (ce_at ce_272 16 rfl) ?_
  refine e_gd fun g1 => ?_
  refine e_ild 31 em_272 (ce_at ce_272 17 rfl) tq_78 (by decide) g1 rfl ?_
  refine e_gd fun g2 => ?_
  refine e_gd fun g3 => ?_
  refine e_cmge 168 34 em_272 rfl rfl (ce_at ce_272 18 rfl) g2 g3 (fun h4 => ?_) (fun h4 => ?_)
  · refine e_pk [] rfl rfl ?_
    exact e_out (fun r h => h)
  · refine e_mv 35 em_272 (ce_at ce_272 19 rfl) rfl rfl ?_
    refine e_getr 38 em_272 (ce_at ce_272 20 rfl) tq_108 rfl rfl ?_
    refine e_getr 41 em_272 (ce_at ce_272 21 rfl) tq_90 rfl rfl ?_
    refine e_mv 43 em_272 (ce_at ce_272 22 rfl) rfl rfl ?_
    refine e_gd fun g5 => ?_
    refine e_ild 44 em_272 (ce_at ce_272 23 rfl) tq_94 (by decide) g5 rfl ?_
    refine e_mv 46 em_272 (ce_at ce_272 24 rfl) rfl rfl ?_
    refine e_mv 47 em_272 (ce_at ce_272 25 rfl) rfl rfl ?_
    refine e_get 50 em_272 (ce_at ce_272 26 rfl) tq_108 rfl rfl ?_
    refine e_mv 52 em_272 (ce_at ce_272 27 rfl) rfl rfl ?_
    refine e_mv 53 em_272 (ce_at ce_272 28 rfl) rfl rfl ?_
    refine e_op 54 em_272 (ce_at ce_272 29 rfl) rfl rfl ?_
    refine e_get 57 em_272 (ce_at ce_272 30 rfl) tq_108 rfl rfl ?_
    refine e_mv 58 em_272 (ce_at ce_272 31 rfl) rfl rfl ?_
    refine e_getr 61 em_272 (ce_at ce_272 32 rfl) tq_108 rfl rfl ?_
    refine e_getr 64 em_272 (ce_at ce_272 33 rfl) tq_90 rfl rfl ?_
    refine e_mv 66 em_272 (ce_at ce_272 34 rfl) rfl rfl ?_
    refine e_gd fun g6 => ?_
    refine e_ild 67 em_272 (ce_at ce_272 35 rfl) tq_93 (by decide) g6 rfl ?_
    refine e_iadd 68 em_272 rfl (ce_at ce_272 36 rfl) ?_
    refine e_put 71 em_272 (ce_at ce_272 37 rfl) tq_108 rfl rfl rfl (fun s7 => ?_)
    refine e_mv 72 em_272 (ce_at ce_272 38 rfl) rfl rfl ?_
    refine e_getr 75 em_272 (ce_at ce_272 39 rfl) tq_108 rfl rfl ?_
    refine e_getr 78 em_272 (ce_at ce_272 40 rfl) tq_71 rfl rfl ?_
    refine e_mv 80 em_272 (ce_at ce_272 41 rfl) rfl rfl ?_
    refine e_gd fun g8 => ?_
    refine e_ild 81 em_272 (ce_at ce_272 42 rfl) tq_84 (by decide) g8 rfl ?_
    refine e_mv 83 em_272 (ce_at ce_272 43 rfl) rfl rfl ?_
    refine e_pk [0, 1, 2, 3, 4, 5, 6, 7] rfl rfl ?_
    exact tbrd_putParts_83 w d hd F hF _ _ _ _ _ _ _ _
theorem fbrd_putParts_18b (F : Nat → Int → Int → Int → iS → Option (Int × iS)) (hF : ∀ (t : Nat) (a b c : Int) (s : iS), Fm Prod.snd L_brdP G_brdP s (F t a b c s)) (v1 : Int) (v2 : Int) (v3 : Int) (v4 : Int) (s : iS) : Fm (fun r : (Int × iS) ⊕ (iS) => r.elim (fun l => l.2) (fun e => e)) L_brdP G_brdP s (brd_putParts_18b F v1 v2 v3 v4 s) := fm_gd (fm_gd (fm_gd (fm_if (fm_some md_refl) (fm_gd (fm_gd (fm_lt (md_upF (mem_F rfl)) (fun s7 => fm_gd (fbrd_putParts_83 F hF _ _ _ _ _ _ _ _))))))))
noncomputable def brd_putParts_18 (F : Nat → Int → Int → Int → iS → Option (Int × iS)) (v1 : Int) (v2 : Int) (v3 : Int) (v4 : Int) (s : iS) : Option (Int × iS) := (lp (L := Int × iS) (E := iS) (fun l => brd_putParts_18b F v1 v2 v3 (l.1) (l.2)) (v4, s)).bind (fun e => some (0, e))
theorem tbrd_putParts_18 (w : ev_W) (d : Nat) (hd : 3 ≤ d) (F : Nat → Int → Int → Int → iS → Option (Int × iS)) (hF : brdP_ok w (d - 1) F) (v1 : Int) (v2 : Int) (v3 : Int) (v4 : Int) (s : iS) : Ew hT w d 272 18 [(0, .ref (tb_nK + 108)), (1, iv v1), (2, iv v2), (3, iv v3), (4, iv v4)] [] s (Cv hT) (brd_putParts_18 F v1 v2 v3 v4 s) := by
  unfold brd_putParts_18
  refine e_lp (L := Int × iS) (E := iS) (LO := fun l => [(0, .ref (tb_nK + 108)), (1, iv v1), (2, iv v2), (3, iv v3), (4, iv (l.1))]) (LS := fun l => l.2) (CE := fun e r => ev w d 272 168 [] [] (hT (e)) r) (fun l => tbrd_putParts_18b w d hd F hF _ _ _ _ _) ?_ (v4, s)
  intro e
  show Ew hT w d 272 168 [] [] e (Cv hT) _
  exact e_retv em_272 (ce_at ce_272 86 rfl)
theorem fbrd_putParts_18 (F : Nat → Int → Int → Int → iS → Option (Int × iS)) (hF : ∀ (t : Nat) (a b c : Int) (s : iS), Fm Prod.snd L_brdP G_brdP s (F t a b c s)) (v1 : Int) (v2 : Int) (v3 : Int) (v4 : Int) (s : iS) : Fm Prod.snd L_brdP G_brdP s (brd_putParts_18 F v1 v2 v3 v4 s) := by
  unfold brd_putParts_18
  refine fm_lp (A := Int × iS) (E := iS) (LS := fun l => l.2) (LE := fun e => e) ?_ ?_ (v4, s)
  · exact fun l => fbrd_putParts_18b F hF _ _ _ _ _
  · exact (fun e => fm_some md_refl)
noncomputable def brd_putParts (F : Nat → Int → Int → Int → iS → Option (Int × iS)) (v1 : Int) (v2 : Int) (v3 : Int) (s : iS) : Option (Int × iS) := gd (rg v3) (if v3 < 16 then gd (0 ≤ v1 ∧ v1 < 19) (brd_putParts_18 F v1 v2 v3 (s 78 v1.toNat) s) else some (0, s))
theorem tbrd_putParts (w : ev_W) (d : Nat) (hd : 3 ≤ d) (F : Nat → Int → Int → Int → iS → Option (Int × iS)) (hF : brdP_ok w (d - 1) F) (v1 : Int) (v2 : Int) (v3 : Int) (s : iS) : Ew hT w d 272 0 [(0, .ref (tb_nK + 108)), (1, iv v1), (2, iv v2), (3, iv v3)] [] s (Cv hT) (brd_putParts F v1 v2 v3 s) := by
  unfold brd_putParts
  refine e_mv 1 em_272 (ce_at ce_272 0 rfl) rfl rfl ?_
  refine e_bip 3 em_272 (ce_at ce_272 1 rfl) (by decide) rfl ?_
  refine e_gd fun g1 => ?_
  refine e_cmlt 7 6 em_272 rfl rfl (ce_at ce_272 2 rfl) g1 (by decide) (fun h2 => ?_) (fun h2 => ?_)
  · refine e_mv 8 em_272 (ce_at ce_272 4 rfl) rfl rfl ?_
    refine e_getr 11 em_272 (ce_at ce_272 5 rfl) tq_108 rfl rfl ?_
    refine e_getr 14 em_272 (ce_at ce_272 6 rfl) tq_71 rfl rfl ?_
    refine e_mv 15 em_272 (ce_at ce_272 7 rfl) rfl rfl ?_
    refine e_gd fun g3 => ?_
    refine e_ild 16 em_272 (ce_at ce_272 8 rfl) tq_78 (by decide) g3 rfl ?_
    refine e_mv 18 em_272 (ce_at ce_272 9 rfl) rfl rfl ?_
    refine e_pk [0, 1, 2, 3, 4] rfl rfl ?_
    exact tbrd_putParts_18 w d hd F hF _ _ _ _ _
  · exact e_retv em_272 (ce_at ce_272 3 rfl)
theorem fbrd_putParts (F : Nat → Int → Int → Int → iS → Option (Int × iS)) (hF : ∀ (t : Nat) (a b c : Int) (s : iS), Fm Prod.snd L_brdP G_brdP s (F t a b c s)) (v1 : Int) (v2 : Int) (v3 : Int) (s : iS) : Fm Prod.snd L_brdP G_brdP s (brd_putParts F v1 v2 v3 s) := fm_gd (fm_if (fm_gd (fbrd_putParts_18 F hF _ _ _ _ _)) (fm_some md_refl))
/-! brdP -/
noncomputable def brdP : Nat → Nat → Int → Int → Int → iS → Option (Int × iS)
  | 0, _, _, _, _, _ => none
  | n + 1, t, a, b, c, s => if t = 0 then brd_putParts (brdP n) a b c s else none
theorem brdP_t (w : ev_W) : ∀ (n d : Nat), 3 + n ≤ d → brdP_ok w d (brdP n)
  | 0, d, _ => fun _ _ _ _ => (by intro q r h1 h2; cases h1)
  | n + 1, d, hd => fun _ _ _ _ => tbrd_putParts w d (by omega) (brdP n) (brdP_t w n (d - 1) (by omega)) _ _ _ _
theorem fbrdP : ∀ (n t : Nat) (a b c : Int) (s : iS), Fm Prod.snd L_brdP G_brdP s (brdP n t a b c s)
  | 0, _, _, _, _, _ => fm_none
  | n + 1, t, a, b, c, s => fm_if (fbrd_putParts (brdP n) (fbrdP n) a b c s) (fm_none)
/-! brd_traceBack -/
def L_brd_traceBack : List Nat := []
def G_brd_traceBack : List (Nat × Nat) := []
def brd_traceBack_4C (w : ev_W) (d : Nat) : (Int × Int × iS) ⊕ (Int × iS) → am_E → Prop := fun q r => q.elim (fun l => ev w d 275 4 ((fun l => [(0, .ref (tb_nK + 108)), (2, iv (l.1)), (3, iv (l.2.1))]) l) [] (hT ((fun l => l.2.2) l)) r) (fun e => (fun e r => ev w d 275 33 [(2, iv (e.1))] [] (hT (e.2)) r) e r)
noncomputable def brd_traceBack_4b (v2 : Int) (v3 : Int) (s : iS) : Option ((Int × Int × iS) ⊕ (Int × iS)) := gd (rg v3) (if 40000 ≤ v3 then some (.inr (v2, s)) else gd (rg v2) (if v2 < 0 then some (.inr (v2, s)) else if 40000 ≤ v2 then some (.inr (v2, s)) else gd (0 ≤ v2 ∧ v2 < 40000) (some (.inl ((s 111 v2.toNat), (v3 + 1), s)))))
theorem tbrd_traceBack_4b (w : ev_W) (d : Nat) (hd : 0 ≤ d) (v2 : Int) (v3 : Int) (s : iS) : Ew hT w d 275 4 [(0, .ref (tb_nK + 108)), (2, iv v2), (3, iv v3)] [] s (brd_traceBack_4C w d) (brd_traceBack_4b v2 v3 s) := by
  unfold brd_traceBack_4b
  refine e_mv 5 em_275 (ce_at ce_275 4 rfl) rfl rfl ?_
  refine e_ldc 7 em_275 (ce_at ce_275 5 rfl) (x := 40000) rfl rfl ?_
  refine e_gd fun g1 => ?_
  refine e_cmge 33 10 em_275 rfl rfl (ce_at ce_275 6 rfl) g1 (by decide) (fun h2 => ?_) (fun h2 => ?_)
  · refine e_pk [2] rfl rfl ?_
    exact e_out (fun r h => h)
  · refine e_mv 11 em_275 (ce_at ce_275 7 rfl) rfl rfl ?_
    refine e_gd fun g3 => ?_
    refine e_iflt 33 14 em_275 rfl rfl (ce_at ce_275 8 rfl) g3 (fun h4 => ?_) (fun h4 => ?_)
    · refine e_pk [2] rfl rfl ?_
      exact e_out (fun r h => h)
    · refine e_mv 15 em_275 (ce_at ce_275 9 rfl) rfl rfl ?_
      refine e_ldc 17 em_275 (ce_at ce_275 10 rfl) (x := 40000) rfl rfl ?_
      refine e_cmge 33 20 em_275 rfl rfl (ce_at ce_275 11 rfl) g3 (by decide) (fun h5 => ?_) (fun h5 => ?_)
      · refine e_pk [2] rfl rfl ?_
        exact e_out (fun r h => h)
      · refine e_mv 21 em_275 (ce_at ce_275 12 rfl) rfl rfl ?_
        refine e_getr 24 em_275 (ce_at ce_275 13 rfl) tq_108 rfl rfl ?_
        refine e_mv 25 em_275 (ce_at ce_275 14 rfl) rfl rfl ?_
        refine e_gd fun g6 => ?_
        refine e_ild 26 em_275 (ce_at ce_275 15 rfl) tq_111 (by decide) g6 rfl ?_
        refine e_mv 27 em_275 (ce_at ce_275 16 rfl) rfl rfl ?_
        refine e_iinc 30 em_275 (ce_at ce_275 17 rfl) rfl (by decide) rfl ?_
        refine e_goto em_275 4 (ce_at ce_275 18 rfl) rfl ?_
        refine e_pk [0, 2, 3] rfl rfl ?_
        exact e_out (fun r h => h)
theorem fbrd_traceBack_4b (v2 : Int) (v3 : Int) (s : iS) : Fm (fun r : (Int × Int × iS) ⊕ (Int × iS) => r.elim (fun l => l.2.2) (fun e => e.2)) L_brd_traceBack G_brd_traceBack s (brd_traceBack_4b v2 v3 s) := fm_gd (fm_if (fm_some md_refl) (fm_gd (fm_if (fm_some md_refl) (fm_if (fm_some md_refl) (fm_gd (fm_some md_refl))))))
noncomputable def brd_traceBack_33 (v2 : Int) (s : iS) : Option (Int × iS) := gd (rg v2) (if 0 ≤ v2 then some (0, s) else some (((-1) - v2), s))
theorem tbrd_traceBack_33 (w : ev_W) (d : Nat) (hd : 0 ≤ d) (v2 : Int) (s : iS) : Ew hT w d 275 33 [(2, iv v2)] [] s (Ci hT) (brd_traceBack_33 v2 s) := by
  unfold brd_traceBack_33
  refine e_mv 34 em_275 (ce_at ce_275 19 rfl) rfl rfl ?_
  refine e_gd fun g1 => ?_
  refine e_ifge 43 37 em_275 rfl rfl (ce_at ce_275 20 rfl) g1 (fun h2 => ?_) (fun h2 => ?_)
  · refine e_op 44 em_275 (ce_at ce_275 25 rfl) rfl rfl ?_
    exact e_reti em_275 (ce_at ce_275 26 rfl)
  · refine e_op 38 em_275 (ce_at ce_275 21 rfl) rfl rfl ?_
    refine e_mv 39 em_275 (ce_at ce_275 22 rfl) rfl rfl ?_
    refine e_isub 40 em_275 rfl (ce_at ce_275 23 rfl) ?_
    refine e_goto em_275 44 (ce_at ce_275 24 rfl) rfl ?_
    exact e_reti em_275 (ce_at ce_275 26 rfl)
theorem fbrd_traceBack_33 (v2 : Int) (s : iS) : Fm Prod.snd L_brd_traceBack G_brd_traceBack s (brd_traceBack_33 v2 s) := fm_gd (fm_if (fm_some md_refl) (fm_some md_refl))
noncomputable def brd_traceBack_4 (v2 : Int) (v3 : Int) (s : iS) : Option (Int × iS) := (lp (L := Int × Int × iS) (E := Int × iS) (fun l => brd_traceBack_4b (l.1) (l.2.1) (l.2.2)) (v2, v3, s)).bind (fun e => brd_traceBack_33 (e.1) (e.2))
theorem tbrd_traceBack_4 (w : ev_W) (d : Nat) (hd : 0 ≤ d) (v2 : Int) (v3 : Int) (s : iS) : Ew hT w d 275 4 [(0, .ref (tb_nK + 108)), (2, iv v2), (3, iv v3)] [] s (Ci hT) (brd_traceBack_4 v2 v3 s) := by
  unfold brd_traceBack_4
  refine e_lp (L := Int × Int × iS) (E := Int × iS) (LO := fun l => [(0, .ref (tb_nK + 108)), (2, iv (l.1)), (3, iv (l.2.1))]) (LS := fun l => l.2.2) (CE := fun e r => ev w d 275 33 [(2, iv (e.1))] [] (hT (e.2)) r) (fun l => tbrd_traceBack_4b w d hd _ _ _) ?_ (v2, v3, s)
  intro e
  show Ew hT w d 275 33 [(2, iv (e.1))] [] e.2 (Ci hT) _
  refine e_pk [2] rfl rfl ?_
  exact tbrd_traceBack_33 w d hd _ _
theorem fbrd_traceBack_4 (v2 : Int) (v3 : Int) (s : iS) : Fm Prod.snd L_brd_traceBack G_brd_traceBack s (brd_traceBack_4 v2 v3 s) := by
  unfold brd_traceBack_4
  refine fm_lp (A := Int × Int × iS) (E := Int × iS) (LS := fun l => l.2.2) (LE := fun e => e.2) ?_ ?_ (v2, v3, s)
  · exact fun l => fbrd_traceBack_4b _ _ _
  · exact (fun e => fbrd_traceBack_33 _ _)
noncomputable def brd_traceBack (v1 : Int) (s : iS) : Option (Int × iS) := brd_traceBack_4 v1 0 s
theorem tbrd_traceBack (w : ev_W) (d : Nat) (hd : 0 ≤ d) (v1 : Int) (s : iS) : Ew hT w d 275 0 [(0, .ref (tb_nK + 108)), (1, iv v1)] [] s (Ci hT) (brd_traceBack v1 s) := by
  unfold brd_traceBack
  refine e_mv 1 em_275 (ce_at ce_275 0 rfl) rfl rfl ?_
  refine e_mv 2 em_275 (ce_at ce_275 1 rfl) rfl rfl ?_
  refine e_op 3 em_275 (ce_at ce_275 2 rfl) rfl rfl ?_
  refine e_mv 4 em_275 (ce_at ce_275 3 rfl) rfl rfl ?_
  refine e_pk [0, 2, 3] rfl rfl ?_
  exact tbrd_traceBack_4 w d hd _ _ _
theorem fbrd_traceBack (v1 : Int) (s : iS) : Fm Prod.snd L_brd_traceBack G_brd_traceBack s (brd_traceBack v1 s) := fbrd_traceBack_4 _ _ _
/-! brd_wire -/
def L_brd_wire : List Nat := [111, 113, 114, 115]
def G_brd_wire : List (Nat × Nat) := [(108, 14), (108, 15)]
def brd_wire_54C (w : ev_W) (d : Nat) (v1 : Int) (v2 : Int) (v3 : Int) : (Int × iS) ⊕ (iS) → am_E → Prop := fun q r => q.elim (fun l => ev w d 268 54 ((fun l => [(0, .ref (tb_nK + 108)), (1, iv v1), (2, iv v2), (3, iv v3), (4, iv (l.1))]) l) [] (hT ((fun l => l.2) l)) r) (fun e => (fun e r => ev w d 268 108 [(0, .ref (tb_nK + 108)), (1, iv v1), (2, iv v2), (3, iv v3)] [] (hT (e)) r) e r)
noncomputable def brd_wire_54b (v1 : Int) (v2 : Int) (v3 : Int) (v4 : Int) (s : iS) : Option ((Int × iS) ⊕ (iS)) := gd (0 ≤ v3 ∧ v3 < 197) (gd (rg v4) (gd (rg (s 91 v3.toNat)) (if (s 91 v3.toNat) ≤ v4 then some (.inr s) else gd (0 ≤ v1 ∧ v1 < 19) (bd (brd_slotOf (v3 - (s 76 v1.toNat)) v4 s) (fun r6 s6 => bd (brd_give ((s 92 v3.toNat) + v4) (2 + r6) s6) (fun _ s7 => some (.inl ((v4 + 1), s7))))))))
theorem tbrd_wire_54b (w : ev_W) (d : Nat) (hd : 24 ≤ d) (v1 : Int) (v2 : Int) (v3 : Int) (v4 : Int) (s : iS) : Ew hT w d 268 54 [(0, .ref (tb_nK + 108)), (1, iv v1), (2, iv v2), (3, iv v3), (4, iv v4)] [] s (brd_wire_54C w d v1 v2 v3) (brd_wire_54b v1 v2 v3 v4 s) := by
  unfold brd_wire_54b
  refine e_mv 56 em_268 (ce_at ce_268 31 rfl) rfl rfl ?_
  refine e_mv 57 em_268 (ce_at ce_268 32 rfl) rfl rfl ?_
  refine e_getr 60 em_268 (ce_at ce_268 33 rfl) tq_108 rfl rfl ?_
  refine e_getr 63 em_268 (ce_at ce_268 34 rfl) tq_90 rfl rfl ?_
  refine e_mv 64 em_268 (ce_at ce_268 35 rfl) rfl rfl ?_
  refine e_gd fun g1 => ?_
  refine e_ild 65 em_268 (ce_at ce_268 36 rfl) tq_91 (by decide) g1 rfl ?_
  refine e_gd fun g2 => ?_
  refine e_gd fun g3 => ?_
  refine e_cmge 108 68 em_268 rfl rfl (ce_at ce_268 37 rfl) g2 g3 (fun h4 => ?_) (fun h4 => ?_)
  · refine e_pk [0, 1, 2, 3] rfl rfl ?_
    exact e_out (fun r h => h)
  · refine e_mv 69 em_268 (ce_at ce_268 38 rfl) rfl rfl ?_
    refine e_mv 70 em_268 (ce_at ce_268 39 rfl) rfl rfl ?_
    refine e_getr 73 em_268 (ce_at ce_268 40 rfl) tq_108 rfl rfl ?_
    refine e_getr 76 em_268 (ce_at ce_268 41 rfl) tq_90 rfl rfl ?_
    refine e_mv 77 em_268 (ce_at ce_268 42 rfl) rfl rfl ?_
    refine e_ild 78 em_268 (ce_at ce_268 43 rfl) tq_92 (by decide) g1 rfl ?_
    refine e_mv 80 em_268 (ce_at ce_268 44 rfl) rfl rfl ?_
    refine e_iadd 81 em_268 rfl (ce_at ce_268 45 rfl) ?_
    refine e_op 82 em_268 (ce_at ce_268 46 rfl) rfl rfl ?_
    refine e_mv 83 em_268 (ce_at ce_268 47 rfl) rfl rfl ?_
    refine e_mv 84 em_268 (ce_at ce_268 48 rfl) rfl rfl ?_
    refine e_getr 87 em_268 (ce_at ce_268 49 rfl) tq_108 rfl rfl ?_
    refine e_getr 90 em_268 (ce_at ce_268 50 rfl) tq_71 rfl rfl ?_
    refine e_mv 91 em_268 (ce_at ce_268 51 rfl) rfl rfl ?_
    refine e_gd fun g5 => ?_
    refine e_ild 92 em_268 (ce_at ce_268 52 rfl) tq_76 (by decide) g5 rfl ?_
    refine e_isub 93 em_268 rfl (ce_at ce_268 53 rfl) ?_
    refine e_mv 95 em_268 (ce_at ce_268 54 rfl) rfl rfl ?_
    refine e_ivi 98 em_268 (ce_at ce_268 55 rfl) (by omega) (iv_s2 rfl) em_269 (Nat.le_of_ble_eq_true rfl) rfl (tbrd_slotOf hT w (d - 1) (by omega) _ _ _) (fun r6 s6 => ?_)
    refine e_iadd 99 em_268 rfl (ce_at ce_268 56 rfl) ?_
    refine e_ivv 102 em_268 (ce_at ce_268 57 rfl) (by omega) (iv_v2 (by decide) tq_108 rfl) em_270 (Nat.le_of_ble_eq_true rfl) rfl (tbrd_give w (d - 1) (by omega) _ _ _) (fun r7 s7 => ?_)
    refine e_iinc 105 em_268 (ce_at ce_268 58 rfl) rfl (by decide) rfl ?_
    refine e_goto em_268 54 (ce_at ce_268 59 rfl) rfl ?_
    refine e_pk [0, 1, 2, 3, 4] rfl rfl ?_
    exact e_out (fun r h => h)
theorem fbrd_wire_54b (v1 : Int) (v2 : Int) (v3 : Int) (v4 : Int) (s : iS) : Fm (fun r : (Int × iS) ⊕ (iS) => r.elim (fun l => l.2) (fun e => e)) L_brd_wire G_brd_wire s (brd_wire_54b v1 v2 v3 v4 s) := fm_gd (fm_gd (fm_gd (fm_if (fm_some md_refl) (fm_gd (fm_bd (fm_sub (fbrd_slotOf _ _ _) (mem_sub_L rfl) (mem_sub_F rfl)) (fun r6 s6 => fm_bd (fm_sub (fbrd_give _ _ _) (mem_sub_L rfl) (mem_sub_F rfl)) (fun r7 s7 => fm_some md_refl)))))))
def brd_wire_46C (w : ev_W) (d : Nat) (v1 : Int) (v2 : Int) : (Int × iS) ⊕ (iS) → am_E → Prop := fun q r => q.elim (fun l => ev w d 268 46 ((fun l => [(0, .ref (tb_nK + 108)), (1, iv v1), (2, iv v2), (3, iv (l.1))]) l) [] (hT ((fun l => l.2) l)) r) (fun e => (fun e r => ev w d 268 114 [(0, .ref (tb_nK + 108)), (1, iv v1), (2, iv v2)] [] (hT (e)) r) e r)
noncomputable def brd_wire_54 (v1 : Int) (v2 : Int) (v3 : Int) (v4 : Int) (s : iS) : Option ((Int × iS) ⊕ (iS)) := (lp (L := Int × iS) (E := iS) (fun l => brd_wire_54b v1 v2 v3 (l.1) (l.2)) (v4, s)).bind (fun e => some (.inl ((v3 + 1), e)))
theorem tbrd_wire_54 (w : ev_W) (d : Nat) (hd : 24 ≤ d) (v1 : Int) (v2 : Int) (v3 : Int) (v4 : Int) (s : iS) : Ew hT w d 268 54 [(0, .ref (tb_nK + 108)), (1, iv v1), (2, iv v2), (3, iv v3), (4, iv v4)] [] s (brd_wire_46C w d v1 v2) (brd_wire_54 v1 v2 v3 v4 s) := by
  unfold brd_wire_54
  refine e_lp (L := Int × iS) (E := iS) (LO := fun l => [(0, .ref (tb_nK + 108)), (1, iv v1), (2, iv v2), (3, iv v3), (4, iv (l.1))]) (LS := fun l => l.2) (CE := fun e r => ev w d 268 108 [(0, .ref (tb_nK + 108)), (1, iv v1), (2, iv v2), (3, iv v3)] [] (hT (e)) r) (fun l => tbrd_wire_54b w d hd _ _ _ _ _) ?_ (v4, s)
  intro e
  show Ew hT w d 268 108 [(0, .ref (tb_nK + 108)), (1, iv v1), (2, iv v2), (3, iv v3)] [] e (brd_wire_46C w d v1 v2) _
  refine e_iinc 111 em_268 (ce_at ce_268 60 rfl) rfl (by decide) rfl ?_
  refine e_goto em_268 46 (ce_at ce_268 61 rfl) rfl ?_
  refine e_pk [0, 1, 2, 3] rfl rfl ?_
  exact e_out (fun r h => h)
theorem fbrd_wire_54 (v1 : Int) (v2 : Int) (v3 : Int) (v4 : Int) (s : iS) : Fm (fun r : (Int × iS) ⊕ (iS) => r.elim (fun l => l.2) (fun e => e)) L_brd_wire G_brd_wire s (brd_wire_54 v1 v2 v3 v4 s) := by
  unfold brd_wire_54
  refine fm_lp (A := Int × iS) (E := iS) (LS := fun l => l.2) (LE := fun e => e) ?_ ?_ (v4, s)
  · exact fun l => fbrd_wire_54b _ _ _ _ _
  · exact (fun e => fm_some md_refl)
noncomputable def brd_wire_46b (v1 : Int) (v2 : Int) (v3 : Int) (s : iS) : Option ((Int × iS) ⊕ (iS)) := gd (rg v3) (gd (rg v2) (if v2 ≤ v3 then some (.inr s) else brd_wire_54 v1 v2 v3 0 s))
theorem tbrd_wire_46b (w : ev_W) (d : Nat) (hd : 24 ≤ d) (v1 : Int) (v2 : Int) (v3 : Int) (s : iS) : Ew hT w d 268 46 [(0, .ref (tb_nK + 108)), (1, iv v1), (2, iv v2), (3, iv v3)] [] s (brd_wire_46C w d v1 v2) (brd_wire_46b v1 v2 v3 s) := by
  unfold brd_wire_46b
  refine e_mv 47 em_268 (ce_at ce_268 26 rfl) rfl rfl ?_
  refine e_mv 48 em_268 (ce_at ce_268 27 rfl) rfl rfl ?_
  refine e_gd fun g1 => ?_
  refine e_gd fun g2 => ?_
  refine e_cmge 114 51 em_268 rfl rfl (ce_at ce_268 28 rfl) g1 g2 (fun h3 => ?_) (fun h3 => ?_)
  · refine e_pk [0, 1, 2] rfl rfl ?_
    exact e_out (fun r h => h)
  · refine e_op 52 em_268 (ce_at ce_268 29 rfl) rfl rfl ?_
    refine e_mv 54 em_268 (ce_at ce_268 30 rfl) rfl rfl ?_
    refine e_pk [0, 1, 2, 3, 4] rfl rfl ?_
    exact tbrd_wire_54 w d hd _ _ _ _ _
theorem fbrd_wire_46b (v1 : Int) (v2 : Int) (v3 : Int) (s : iS) : Fm (fun r : (Int × iS) ⊕ (iS) => r.elim (fun l => l.2) (fun e => e)) L_brd_wire G_brd_wire s (brd_wire_46b v1 v2 v3 s) := fm_gd (fm_gd (fm_if (fm_some md_refl) (fbrd_wire_54 _ _ _ _ _)))
def brd_wire_123C (w : ev_W) (d : Nat) (v1 : Int) (v2 : Int) : (Int × iS) ⊕ (iS) → am_E → Prop := fun q r => q.elim (fun l => ev w d 268 123 ((fun l => [(0, .ref (tb_nK + 108)), (1, iv v1), (2, iv v2), (3, iv (l.1))]) l) [] (hT ((fun l => l.2) l)) r) (fun e => (fun e r => ev w d 268 183 [(0, .ref (tb_nK + 108)), (1, iv v1), (2, iv v2)] [] (hT (e)) r) e r)
noncomputable def brd_wire_176 (v1 : Int) (v2 : Int) (v3 : Int) (t0 : Int) (t1 : Int) (s : iS) : Option ((Int × iS) ⊕ (iS)) := gd (0 ≤ t1 ∧ t1 < 1500) (lt' (up s 114 t1.toNat t0) (fun s2 => some (.inl ((v3 + 1), s2))))
theorem tbrd_wire_176 (w : ev_W) (d : Nat) (hd : 24 ≤ d) (v1 : Int) (v2 : Int) (v3 : Int) (t0 : Int) (t1 : Int) (s : iS) : Ew hT w d 268 176 [(0, .ref (tb_nK + 108)), (1, iv v1), (2, iv v2), (3, iv v3)] [iv t0, iv t1, .ref (tb_nK + 114)] s (brd_wire_123C w d v1 v2) (brd_wire_176 v1 v2 v3 t0 t1 s) := by
  unfold brd_wire_176
  refine e_gd fun g1 => ?_
  refine e_ist 177 em_268 (ce_at ce_268 100 rfl) tq_114 (by decide) g1 rfl (fun s2 => ?_)
  refine e_iinc 180 em_268 (ce_at ce_268 101 rfl) rfl (by decide) rfl ?_
  refine e_goto em_268 123 (ce_at ce_268 102 rfl) rfl ?_
  refine e_pk [0, 1, 2, 3] rfl rfl ?_
  exact e_out (fun r h => h)
theorem fbrd_wire_176 (v1 : Int) (v2 : Int) (v3 : Int) (t0 : Int) (t1 : Int) (s : iS) : Fm (fun r : (Int × iS) ⊕ (iS) => r.elim (fun l => l.2) (fun e => e)) L_brd_wire G_brd_wire s (brd_wire_176 v1 v2 v3 t0 t1 s) := fm_gd (fm_lt (md_upL (mem_L rfl)) (fun s2 => fm_some md_refl))
noncomputable def brd_wire_123b (v1 : Int) (v2 : Int) (v3 : Int) (s : iS) : Option ((Int × iS) ⊕ (iS)) := gd (rg v3) (gd (rg (s 108 14)) (if (s 108 14) ≤ v3 then some (.inr s) else gd (0 ≤ v3 ∧ v3 < 1500) (bd (brd_traceBack (s 113 v3.toNat) s) (fun r5 s5 => lt' (up s5 113 v3.toNat r5) (fun s6 => gd (rg (s6 114 v3.toNat)) (if (s6 114 v3.toNat) = (-1) then brd_wire_176 v1 v2 v3 (-1) v3 s6 else bd (brd_traceBack (s6 114 v3.toNat) s6) (fun r9 s9 => brd_wire_176 v1 v2 v3 r9 v3 s9)))))))
theorem tbrd_wire_123b (w : ev_W) (d : Nat) (hd : 24 ≤ d) (v1 : Int) (v2 : Int) (v3 : Int) (s : iS) : Ew hT w d 268 123 [(0, .ref (tb_nK + 108)), (1, iv v1), (2, iv v2), (3, iv v3)] [] s (brd_wire_123C w d v1 v2) (brd_wire_123b v1 v2 v3 s) := by
  unfold brd_wire_123b
  refine e_mv 124 em_268 (ce_at ce_268 69 rfl) rfl rfl ?_
  refine e_mv 125 em_268 (ce_at ce_268 70 rfl) rfl rfl ?_
  refine e_get 128 em_268 (ce_at ce_268 71 rfl) tq_108 rfl rfl ?_
  refine e_gd fun g1 => ?_
  refine e_gd fun g2 => ?_
  refine e_cmge 183 131 em_268 rfl rfl (ce_at ce_268 72 rfl) g1 g2 (fun h3 => ?_) (fun h3 => ?_)
  · refine e_pk [0, 1, 2] rfl rfl ?_
    exact e_out (fun r h => h)
  · refine e_mv 132 em_268 (ce_at ce_268 73 rfl) rfl rfl ?_
    refine e_getr 135 em_268 (ce_at ce_268 74 rfl) tq_108 rfl rfl ?_
    refine e_mv 136 em_268 (ce_at ce_268 75 rfl) rfl rfl ?_
    refine e_mv 137 em_268 (ce_at ce_268 76 rfl) rfl rfl ?_
    refine e_mv 138 em_268 (ce_at ce_268 77 rfl) rfl rfl ?_
    refine e_getr 141 em_268 (ce_at ce_268 78 rfl) tq_108 rfl rfl ?_
    refine e_mv 142 em_268 (ce_at ce_268 79 rfl) rfl rfl ?_
    refine e_gd fun g4 => ?_
    refine e_ild 143 em_268 (ce_at ce_268 80 rfl) tq_113 (by decide) g4 rfl ?_
    refine e_ivi 146 em_268 (ce_at ce_268 81 rfl) (by omega) (iv_v1 (by decide) tq_108 rfl) em_275 (Nat.le_of_ble_eq_true rfl) rfl (tbrd_traceBack w (d - 1) (by omega) _ _) (fun r5 s5 => ?_)
    refine e_ist 147 em_268 (ce_at ce_268 82 rfl) tq_113 (by decide) g4 rfl (fun s6 => ?_)
    refine e_mv 148 em_268 (ce_at ce_268 83 rfl) rfl rfl ?_
    refine e_getr 151 em_268 (ce_at ce_268 84 rfl) tq_108 rfl rfl ?_
    refine e_mv 152 em_268 (ce_at ce_268 85 rfl) rfl rfl ?_
    refine e_mv 153 em_268 (ce_at ce_268 86 rfl) rfl rfl ?_
    refine e_getr 156 em_268 (ce_at ce_268 87 rfl) tq_108 rfl rfl ?_
    refine e_mv 157 em_268 (ce_at ce_268 88 rfl) rfl rfl ?_
    refine e_ild 158 em_268 (ce_at ce_268 89 rfl) tq_114 (by decide) g4 rfl ?_
    refine e_op 159 em_268 (ce_at ce_268 90 rfl) rfl rfl ?_
    refine e_gd fun g7 => ?_
    refine e_cmne 166 162 em_268 rfl rfl (ce_at ce_268 91 rfl) g7 (by decide) (fun h8 => ?_) (fun h8 => ?_)
    · refine e_mv 167 em_268 (ce_at ce_268 94 rfl) rfl rfl ?_
      refine e_mv 168 em_268 (ce_at ce_268 95 rfl) rfl rfl ?_
      refine e_getr 171 em_268 (ce_at ce_268 96 rfl) tq_108 rfl rfl ?_
      refine e_mv 172 em_268 (ce_at ce_268 97 rfl) rfl rfl ?_
      refine e_ild 173 em_268 (ce_at ce_268 98 rfl) tq_114 (by decide) g4 rfl ?_
      refine e_ivi 176 em_268 (ce_at ce_268 99 rfl) (by omega) (iv_v1 (by decide) tq_108 rfl) em_275 (Nat.le_of_ble_eq_true rfl) rfl (tbrd_traceBack w (d - 1) (by omega) _ _) (fun r9 s9 => ?_)
      refine e_pk [0, 1, 2, 3] rfl rfl ?_
      exact tbrd_wire_176 w d hd _ _ _ _ _ _
    · refine e_op 163 em_268 (ce_at ce_268 92 rfl) rfl rfl ?_
      refine e_goto em_268 176 (ce_at ce_268 93 rfl) rfl ?_
      refine e_pk [0, 1, 2, 3] rfl rfl ?_
      exact tbrd_wire_176 w d hd _ _ _ _ _ _
theorem fbrd_wire_123b (v1 : Int) (v2 : Int) (v3 : Int) (s : iS) : Fm (fun r : (Int × iS) ⊕ (iS) => r.elim (fun l => l.2) (fun e => e)) L_brd_wire G_brd_wire s (brd_wire_123b v1 v2 v3 s) := fm_gd (fm_gd (fm_if (fm_some md_refl) (fm_gd (fm_bd (fm_sub (fbrd_traceBack _ _) (mem_sub_L rfl) (mem_sub_F rfl)) (fun r5 s5 => fm_lt (md_upL (mem_L rfl)) (fun s6 => fm_gd (fm_if (fbrd_wire_176 _ _ _ _ _ _) (fm_bd (fm_sub (fbrd_traceBack _ _) (mem_sub_L rfl) (mem_sub_F rfl)) (fun r9 s9 => fbrd_wire_176 _ _ _ _ _ _)))))))))
def brd_wire_203C (w : ev_W) (d : Nat) (v1 : Int) (v2 : Int) (v3 : Int) : (Int × iS) ⊕ (iS) → am_E → Prop := fun q r => q.elim (fun l => ev w d 268 203 ((fun l => [(0, .ref (tb_nK + 108)), (1, iv v1), (2, iv v2), (3, iv v3), (4, iv (l.1))]) l) [] (hT ((fun l => l.2) l)) r) (fun e => (fun e r => ev w d 268 252 [(0, .ref (tb_nK + 108)), (1, iv v1), (2, iv v2), (3, iv v3)] [] (hT (e)) r) e r)
noncomputable def brd_wire_203b (v1 : Int) (v2 : Int) (v3 : Int) (v4 : Int) (s : iS) : Option ((Int × iS) ⊕ (iS)) := gd (0 ≤ v3 ∧ v3 < 197) (gd (rg v4) (gd (rg (s 91 v3.toNat)) (if (s 91 v3.toNat) ≤ v4 then some (.inr s) else bd (brd_slotOf (v3 - v2) v4 s) (fun r5 s5 => bd (brd_traceBack ((s5 92 v3.toNat) + v4) s5) (fun r6 s6 => gd (0 ≤ r5 ∧ r5 < 192) (lt' (up s6 115 r5.toNat r6) (fun s8 => some (.inl ((v4 + 1), s8)))))))))
theorem tbrd_wire_203b (w : ev_W) (d : Nat) (hd : 24 ≤ d) (v1 : Int) (v2 : Int) (v3 : Int) (v4 : Int) (s : iS) : Ew hT w d 268 203 [(0, .ref (tb_nK + 108)), (1, iv v1), (2, iv v2), (3, iv v3), (4, iv v4)] [] s (brd_wire_203C w d v1 v2 v3) (brd_wire_203b v1 v2 v3 v4 s) := by
  unfold brd_wire_203b
  refine e_mv 205 em_268 (ce_at ce_268 116 rfl) rfl rfl ?_
  refine e_mv 206 em_268 (ce_at ce_268 117 rfl) rfl rfl ?_
  refine e_getr 209 em_268 (ce_at ce_268 118 rfl) tq_108 rfl rfl ?_
  refine e_getr 212 em_268 (ce_at ce_268 119 rfl) tq_90 rfl rfl ?_
  refine e_mv 213 em_268 (ce_at ce_268 120 rfl) rfl rfl ?_
  refine e_gd fun g1 => ?_
  refine e_ild 214 em_268 (ce_at ce_268 121 rfl) tq_91 (by decide) g1 rfl ?_
  refine e_gd fun g2 => ?_
  refine e_gd fun g3 => ?_
  refine e_cmge 252 217 em_268 rfl rfl (ce_at ce_268 122 rfl) g2 g3 (fun h4 => ?_) (fun h4 => ?_)
  · refine e_pk [0, 1, 2, 3] rfl rfl ?_
    exact e_out (fun r h => h)
  · refine e_mv 218 em_268 (ce_at ce_268 123 rfl) rfl rfl ?_
    refine e_getr 221 em_268 (ce_at ce_268 124 rfl) tq_108 rfl rfl ?_
    refine e_mv 222 em_268 (ce_at ce_268 125 rfl) rfl rfl ?_
    refine e_mv 223 em_268 (ce_at ce_268 126 rfl) rfl rfl ?_
    refine e_isub 224 em_268 rfl (ce_at ce_268 127 rfl) ?_
    refine e_mv 226 em_268 (ce_at ce_268 128 rfl) rfl rfl ?_
    refine e_ivi 229 em_268 (ce_at ce_268 129 rfl) (by omega) (iv_s2 rfl) em_269 (Nat.le_of_ble_eq_true rfl) rfl (tbrd_slotOf hT w (d - 1) (by omega) _ _ _) (fun r5 s5 => ?_)
    refine e_mv 230 em_268 (ce_at ce_268 130 rfl) rfl rfl ?_
    refine e_mv 231 em_268 (ce_at ce_268 131 rfl) rfl rfl ?_
    refine e_getr 234 em_268 (ce_at ce_268 132 rfl) tq_108 rfl rfl ?_
    refine e_getr 237 em_268 (ce_at ce_268 133 rfl) tq_90 rfl rfl ?_
    refine e_mv 238 em_268 (ce_at ce_268 134 rfl) rfl rfl ?_
    refine e_ild 239 em_268 (ce_at ce_268 135 rfl) tq_92 (by decide) g1 rfl ?_
    refine e_mv 241 em_268 (ce_at ce_268 136 rfl) rfl rfl ?_
    refine e_iadd 242 em_268 rfl (ce_at ce_268 137 rfl) ?_
    refine e_ivi 245 em_268 (ce_at ce_268 138 rfl) (by omega) (iv_v1 (by decide) tq_108 rfl) em_275 (Nat.le_of_ble_eq_true rfl) rfl (tbrd_traceBack w (d - 1) (by omega) _ _) (fun r6 s6 => ?_)
    refine e_gd fun g7 => ?_
    refine e_ist 246 em_268 (ce_at ce_268 139 rfl) tq_115 (by decide) g7 rfl (fun s8 => ?_)
    refine e_iinc 249 em_268 (ce_at ce_268 140 rfl) rfl (by decide) rfl ?_
    refine e_goto em_268 203 (ce_at ce_268 141 rfl) rfl ?_
    refine e_pk [0, 1, 2, 3, 4] rfl rfl ?_
    exact e_out (fun r h => h)
theorem fbrd_wire_203b (v1 : Int) (v2 : Int) (v3 : Int) (v4 : Int) (s : iS) : Fm (fun r : (Int × iS) ⊕ (iS) => r.elim (fun l => l.2) (fun e => e)) L_brd_wire G_brd_wire s (brd_wire_203b v1 v2 v3 v4 s) := fm_gd (fm_gd (fm_gd (fm_if (fm_some md_refl) (fm_bd (fm_sub (fbrd_slotOf _ _ _) (mem_sub_L rfl) (mem_sub_F rfl)) (fun r5 s5 => fm_bd (fm_sub (fbrd_traceBack _ _) (mem_sub_L rfl) (mem_sub_F rfl)) (fun r6 s6 => fm_gd (fm_lt (md_upL (mem_L rfl)) (fun s8 => fm_some md_refl))))))))
def brd_wire_185C (w : ev_W) (d : Nat) (v1 : Int) (v2 : Int) : (Int × iS) ⊕ (iS) → am_E → Prop := fun q r => q.elim (fun l => ev w d 268 185 ((fun l => [(0, .ref (tb_nK + 108)), (1, iv v1), (2, iv v2), (3, iv (l.1))]) l) [] (hT ((fun l => l.2) l)) r) (fun e => (fun e r => ev w d 268 258 [] [] (hT (e)) r) e r)
noncomputable def brd_wire_203 (v1 : Int) (v2 : Int) (v3 : Int) (v4 : Int) (s : iS) : Option ((Int × iS) ⊕ (iS)) := (lp (L := Int × iS) (E := iS) (fun l => brd_wire_203b v1 v2 v3 (l.1) (l.2)) (v4, s)).bind (fun e => some (.inl ((v3 + 1), e)))
theorem tbrd_wire_203 (w : ev_W) (d : Nat) (hd : 24 ≤ d) (v1 : Int) (v2 : Int) (v3 : Int) (v4 : Int) (s : iS) : Ew hT w d 268 203 [(0, .ref (tb_nK + 108)), (1, iv v1), (2, iv v2), (3, iv v3), (4, iv v4)] [] s (brd_wire_185C w d v1 v2) (brd_wire_203 v1 v2 v3 v4 s) := by
  unfold brd_wire_203
  refine e_lp (L := Int × iS) (E := iS) (LO := fun l => [(0, .ref (tb_nK + 108)), (1, iv v1), (2, iv v2), (3, iv v3), (4, iv (l.1))]) (LS := fun l => l.2) (CE := fun e r => ev w d 268 252 [(0, .ref (tb_nK + 108)), (1, iv v1), (2, iv v2), (3, iv v3)] [] (hT (e)) r) (fun l => tbrd_wire_203b w d hd _ _ _ _ _) ?_ (v4, s)
  intro e
  show Ew hT w d 268 252 [(0, .ref (tb_nK + 108)), (1, iv v1), (2, iv v2), (3, iv v3)] [] e (brd_wire_185C w d v1 v2) _
  refine e_iinc 255 em_268 (ce_at ce_268 142 rfl) rfl (by decide) rfl ?_
  refine e_goto em_268 185 (ce_at ce_268 143 rfl) rfl ?_
  refine e_pk [0, 1, 2, 3] rfl rfl ?_
  exact e_out (fun r h => h)
theorem fbrd_wire_203 (v1 : Int) (v2 : Int) (v3 : Int) (v4 : Int) (s : iS) : Fm (fun r : (Int × iS) ⊕ (iS) => r.elim (fun l => l.2) (fun e => e)) L_brd_wire G_brd_wire s (brd_wire_203 v1 v2 v3 v4 s) := by
  unfold brd_wire_203
  refine fm_lp (A := Int × iS) (E := iS) (LS := fun l => l.2) (LE := fun e => e) ?_ ?_ (v4, s)
  · exact fun l => fbrd_wire_203b _ _ _ _ _
  · exact (fun e => fm_some md_refl)
noncomputable def brd_wire_185b (v1 : Int) (v2 : Int) (v3 : Int) (s : iS) : Option ((Int × iS) ⊕ (iS)) := gd (0 ≤ (v1 + 1) ∧ (v1 + 1) < 19) (gd (rg v3) (gd (rg (s 76 (v1 + 1).toNat)) (if (s 76 (v1 + 1).toNat) ≤ v3 then some (.inr s) else brd_wire_203 v1 v2 v3 0 s)))
theorem tbrd_wire_185b (w : ev_W) (d : Nat) (hd : 24 ≤ d) (v1 : Int) (v2 : Int) (v3 : Int) (s : iS) : Ew hT w d 268 185 [(0, .ref (tb_nK + 108)), (1, iv v1), (2, iv v2), (3, iv v3)] [] s (brd_wire_185C w d v1 v2) (brd_wire_185b v1 v2 v3 s) := by
  unfold brd_wire_185b
  refine e_mv 186 em_268 (ce_at ce_268 105 rfl) rfl rfl ?_
  refine e_mv 187 em_268 (ce_at ce_268 106 rfl) rfl rfl ?_
  refine e_getr 190 em_268 (ce_at ce_268 107 rfl) tq_108 rfl rfl ?_
  refine e_getr 193 em_268 (ce_at ce_268 108 rfl) tq_71 rfl rfl ?_
  refine e_mv 194 em_268 (ce_at ce_268 109 rfl) rfl rfl ?_
  refine e_op 195 em_268 (ce_at ce_268 110 rfl) rfl rfl ?_
  refine e_iadd 196 em_268 rfl (ce_at ce_268 111 rfl) ?_
  refine e_gd fun g1 => ?_
  refine e_ild 197 em_268 (ce_at ce_268 112 rfl) tq_76 (by decide) g1 rfl ?_
  refine e_gd fun g2 => ?_
  refine e_gd fun g3 => ?_
  refine e_cmge 258 200 em_268 rfl rfl (ce_at ce_268 113 rfl) g2 g3 (fun h4 => ?_) (fun h4 => ?_)
  · refine e_pk [] rfl rfl ?_
    exact e_out (fun r h => h)
  · refine e_op 201 em_268 (ce_at ce_268 114 rfl) rfl rfl ?_
    refine e_mv 203 em_268 (ce_at ce_268 115 rfl) rfl rfl ?_
    refine e_pk [0, 1, 2, 3, 4] rfl rfl ?_
    exact tbrd_wire_203 w d hd _ _ _ _ _
theorem fbrd_wire_185b (v1 : Int) (v2 : Int) (v3 : Int) (s : iS) : Fm (fun r : (Int × iS) ⊕ (iS) => r.elim (fun l => l.2) (fun e => e)) L_brd_wire G_brd_wire s (brd_wire_185b v1 v2 v3 s) := fm_gd (fm_gd (fm_gd (fm_if (fm_some md_refl) (fbrd_wire_203 _ _ _ _ _))))
noncomputable def brd_wire_185 (v1 : Int) (v2 : Int) (v3 : Int) (s : iS) : Option (Int × iS) := (lp (L := Int × iS) (E := iS) (fun l => brd_wire_185b v1 v2 (l.1) (l.2)) (v3, s)).bind (fun e => some (0, e))
theorem tbrd_wire_185 (w : ev_W) (d : Nat) (hd : 24 ≤ d) (v1 : Int) (v2 : Int) (v3 : Int) (s : iS) : Ew hT w d 268 185 [(0, .ref (tb_nK + 108)), (1, iv v1), (2, iv v2), (3, iv v3)] [] s (Cv hT) (brd_wire_185 v1 v2 v3 s) := by
  unfold brd_wire_185
  refine e_lp (L := Int × iS) (E := iS) (LO := fun l => [(0, .ref (tb_nK + 108)), (1, iv v1), (2, iv v2), (3, iv (l.1))]) (LS := fun l => l.2) (CE := fun e r => ev w d 268 258 [] [] (hT (e)) r) (fun l => tbrd_wire_185b w d hd _ _ _ _) ?_ (v3, s)
  intro e
  show Ew hT w d 268 258 [] [] e (Cv hT) _
  exact e_retv em_268 (ce_at ce_268 144 rfl)
theorem fbrd_wire_185 (v1 : Int) (v2 : Int) (v3 : Int) (s : iS) : Fm Prod.snd L_brd_wire G_brd_wire s (brd_wire_185 v1 v2 v3 s) := by
  unfold brd_wire_185
  refine fm_lp (A := Int × iS) (E := iS) (LS := fun l => l.2) (LE := fun e => e) ?_ ?_ (v3, s)
  · exact fun l => fbrd_wire_185b _ _ _ _
  · exact (fun e => fm_some md_refl)
noncomputable def brd_wire_183 (v1 : Int) (v2 : Int) (s : iS) : Option (Int × iS) := brd_wire_185 v1 v2 v2 s
theorem tbrd_wire_183 (w : ev_W) (d : Nat) (hd : 24 ≤ d) (v1 : Int) (v2 : Int) (s : iS) : Ew hT w d 268 183 [(0, .ref (tb_nK + 108)), (1, iv v1), (2, iv v2)] [] s (Cv hT) (brd_wire_183 v1 v2 s) := by
  unfold brd_wire_183
  refine e_mv 184 em_268 (ce_at ce_268 103 rfl) rfl rfl ?_
  refine e_mv 185 em_268 (ce_at ce_268 104 rfl) rfl rfl ?_
  refine e_pk [0, 1, 2, 3] rfl rfl ?_
  exact tbrd_wire_185 w d hd _ _ _ _
theorem fbrd_wire_183 (v1 : Int) (v2 : Int) (s : iS) : Fm Prod.snd L_brd_wire G_brd_wire s (brd_wire_183 v1 v2 s) := fbrd_wire_185 _ _ _ _
noncomputable def brd_wire_123 (v1 : Int) (v2 : Int) (v3 : Int) (s : iS) : Option (Int × iS) := (lp (L := Int × iS) (E := iS) (fun l => brd_wire_123b v1 v2 (l.1) (l.2)) (v3, s)).bind (fun e => brd_wire_183 v1 v2 e)
theorem tbrd_wire_123 (w : ev_W) (d : Nat) (hd : 24 ≤ d) (v1 : Int) (v2 : Int) (v3 : Int) (s : iS) : Ew hT w d 268 123 [(0, .ref (tb_nK + 108)), (1, iv v1), (2, iv v2), (3, iv v3)] [] s (Cv hT) (brd_wire_123 v1 v2 v3 s) := by
  unfold brd_wire_123
  refine e_lp (L := Int × iS) (E := iS) (LO := fun l => [(0, .ref (tb_nK + 108)), (1, iv v1), (2, iv v2), (3, iv (l.1))]) (LS := fun l => l.2) (CE := fun e r => ev w d 268 183 [(0, .ref (tb_nK + 108)), (1, iv v1), (2, iv v2)] [] (hT (e)) r) (fun l => tbrd_wire_123b w d hd _ _ _ _) ?_ (v3, s)
  intro e
  show Ew hT w d 268 183 [(0, .ref (tb_nK + 108)), (1, iv v1), (2, iv v2)] [] e (Cv hT) _
  refine e_pk [0, 1, 2] rfl rfl ?_
  exact tbrd_wire_183 w d hd _ _ _
theorem fbrd_wire_123 (v1 : Int) (v2 : Int) (v3 : Int) (s : iS) : Fm Prod.snd L_brd_wire G_brd_wire s (brd_wire_123 v1 v2 v3 s) := by
  unfold brd_wire_123
  refine fm_lp (A := Int × iS) (E := iS) (LS := fun l => l.2) (LE := fun e => e) ?_ ?_ (v3, s)
  · exact fun l => fbrd_wire_123b _ _ _ _
  · exact (fun e => fbrd_wire_183 _ _ _)
noncomputable def brd_wire_114 (v1 : Int) (v2 : Int) (s : iS) : Option (Int × iS) := bd (brdP 20 0 v1 0 0 s) (fun _ s1 => brd_wire_123 v1 v2 0 s1)
theorem tbrd_wire_114 (w : ev_W) (d : Nat) (hd : 24 ≤ d) (v1 : Int) (v2 : Int) (s : iS) : Ew hT w d 268 114 [(0, .ref (tb_nK + 108)), (1, iv v1), (2, iv v2)] [] s (Cv hT) (brd_wire_114 v1 v2 s) := by
  unfold brd_wire_114
  refine e_mv 115 em_268 (ce_at ce_268 62 rfl) rfl rfl ?_
  refine e_mv 116 em_268 (ce_at ce_268 63 rfl) rfl rfl ?_
  refine e_op 117 em_268 (ce_at ce_268 64 rfl) rfl rfl ?_
  refine e_op 118 em_268 (ce_at ce_268 65 rfl) rfl rfl ?_
  refine e_ivv 121 em_268 (ce_at ce_268 66 rfl) (by omega) (iv_v3 (by decide) tq_108 rfl) em_272 (Nat.le_of_ble_eq_true rfl) rfl ((brdP_t w 20 (d - 1) (by omega)) _ _ _ _) (fun r1 s1 => ?_)
  refine e_op 122 em_268 (ce_at ce_268 67 rfl) rfl rfl ?_
  refine e_mv 123 em_268 (ce_at ce_268 68 rfl) rfl rfl ?_
  refine e_pk [0, 1, 2, 3] rfl rfl ?_
  exact tbrd_wire_123 w d hd _ _ _ _
theorem fbrd_wire_114 (v1 : Int) (v2 : Int) (s : iS) : Fm Prod.snd L_brd_wire G_brd_wire s (brd_wire_114 v1 v2 s) := fm_bd (fm_sub (fbrdP 20 0 _ _ _ _) (mem_sub_L rfl) (mem_sub_F rfl)) (fun r1 s1 => fbrd_wire_123 _ _ _ _)
noncomputable def brd_wire_46 (v1 : Int) (v2 : Int) (v3 : Int) (s : iS) : Option (Int × iS) := (lp (L := Int × iS) (E := iS) (fun l => brd_wire_46b v1 v2 (l.1) (l.2)) (v3, s)).bind (fun e => brd_wire_114 v1 v2 e)
theorem tbrd_wire_46 (w : ev_W) (d : Nat) (hd : 24 ≤ d) (v1 : Int) (v2 : Int) (v3 : Int) (s : iS) : Ew hT w d 268 46 [(0, .ref (tb_nK + 108)), (1, iv v1), (2, iv v2), (3, iv v3)] [] s (Cv hT) (brd_wire_46 v1 v2 v3 s) := by
  unfold brd_wire_46
  refine e_lp (L := Int × iS) (E := iS) (LO := fun l => [(0, .ref (tb_nK + 108)), (1, iv v1), (2, iv v2), (3, iv (l.1))]) (LS := fun l => l.2) (CE := fun e r => ev w d 268 114 [(0, .ref (tb_nK + 108)), (1, iv v1), (2, iv v2)] [] (hT (e)) r) (fun l => tbrd_wire_46b w d hd _ _ _ _) ?_ (v3, s)
  intro e
  show Ew hT w d 268 114 [(0, .ref (tb_nK + 108)), (1, iv v1), (2, iv v2)] [] e (Cv hT) _
  refine e_pk [0, 1, 2] rfl rfl ?_
  exact tbrd_wire_114 w d hd _ _ _
theorem fbrd_wire_46 (v1 : Int) (v2 : Int) (v3 : Int) (s : iS) : Fm Prod.snd L_brd_wire G_brd_wire s (brd_wire_46 v1 v2 v3 s) := by
  unfold brd_wire_46
  refine fm_lp (A := Int × iS) (E := iS) (LS := fun l => l.2) (LE := fun e => e) ?_ ?_ (v3, s)
  · exact fun l => fbrd_wire_46b _ _ _ _
  · exact (fun e => fbrd_wire_114 _ _ _)
noncomputable def brd_wire (v1 : Int) (s : iS) : Option (Int × iS) := bd (arr_fill 111 40000 (-1) s) (fun _ s1 => lt' (up s1 108 14 0) (fun s2 => gd (0 ≤ v1 ∧ v1 < 18) (lt' (up s2 108 15 (s2 93 v1.toNat)) (fun s4 => gd (0 ≤ v1 ∧ v1 < 19) (brd_wire_46 v1 (s4 77 v1.toNat) (s4 76 v1.toNat) s4)))))
theorem tbrd_wire (w : ev_W) (d : Nat) (hd : 24 ≤ d) (v1 : Int) (s : iS) : Ew hT w d 268 0 [(0, .ref (tb_nK + 108)), (1, iv v1)] [] s (Cv hT) (brd_wire v1 s) := by
  unfold brd_wire
  refine e_mv 1 em_268 (ce_at ce_268 0 rfl) rfl rfl ?_
  refine e_getr 4 em_268 (ce_at ce_268 1 rfl) tq_108 rfl rfl ?_
  refine e_op 5 em_268 (ce_at ce_268 2 rfl) rfl rfl ?_
  refine e_ivv 8 em_268 (ce_at ce_268 3 rfl) (by omega) (iv_s2 rfl) em_142 (Nat.le_of_ble_eq_true rfl) rfl (tarr_fill hT w (d - 1) (by omega) 111 40000 tq_111 (by decide) _ _) (fun r1 s1 => ?_)
  refine e_mv 9 em_268 (ce_at ce_268 4 rfl) rfl rfl ?_
  refine e_op 10 em_268 (ce_at ce_268 5 rfl) rfl rfl ?_
  refine e_put 13 em_268 (ce_at ce_268 6 rfl) tq_108 rfl rfl rfl (fun s2 => ?_)
  refine e_mv 14 em_268 (ce_at ce_268 7 rfl) rfl rfl ?_
  refine e_mv 15 em_268 (ce_at ce_268 8 rfl) rfl rfl ?_
  refine e_getr 18 em_268 (ce_at ce_268 9 rfl) tq_108 rfl rfl ?_
  refine e_getr 21 em_268 (ce_at ce_268 10 rfl) tq_90 rfl rfl ?_
  refine e_mv 22 em_268 (ce_at ce_268 11 rfl) rfl rfl ?_
  refine e_gd fun g3 => ?_
  refine e_ild 23 em_268 (ce_at ce_268 12 rfl) tq_93 (by decide) g3 rfl ?_
  refine e_put 26 em_268 (ce_at ce_268 13 rfl) tq_108 rfl rfl rfl (fun s4 => ?_)
  refine e_mv 27 em_268 (ce_at ce_268 14 rfl) rfl rfl ?_
  refine e_getr 30 em_268 (ce_at ce_268 15 rfl) tq_108 rfl rfl ?_
  refine e_getr 33 em_268 (ce_at ce_268 16 rfl) tq_71 rfl rfl ?_
  refine e_mv 34 em_268 (ce_at ce_268 17 rfl) rfl rfl ?_
  refine e_ild 35 em_268 (ce_at ce_268 18 rfl) tq_77 (by decide) g3 rfl ?_
  refine e_mv 36 em_268 (ce_at ce_268 19 rfl) rfl rfl ?_
  refine e_mv 37 em_268 (ce_at ce_268 20 rfl) rfl rfl ?_
  refine e_getr 40 em_268 (ce_at ce_268 21 rfl) tq_108 rfl rfl ?_
  refine e_getr 43 em_268 (ce_at ce_268 22 rfl) tq_71 rfl rfl ?_
  refine e_mv 44 em_268 (ce_at ce_268 23 rfl) rfl rfl ?_
  refine e_gd fun g5 => ?_
  refine e_ild 45 em_268 (ce_at ce_268 24 rfl) tq_76 (by decide) g5 rfl ?_
  refine e_mv 46 em_268 (ce_at ce_268 25 rfl) rfl rfl ?_
  refine e_pk [0, 1, 2, 3] rfl rfl ?_
  exact tbrd_wire_46 w d hd _ _ _ _
theorem fbrd_wire (v1 : Int) (s : iS) : Fm Prod.snd L_brd_wire G_brd_wire s (brd_wire v1 s) := fm_bd (fm_sub (farr_fill 111 40000 _ _) (mem_sub_L rfl) (mem_sub_F rfl)) (fun r1 s1 => fm_lt (md_upF (mem_F rfl)) (fun s2 => fm_gd (fm_lt (md_upF (mem_F rfl)) (fun s4 => fm_gd (fbrd_wire_46 _ _ _ _)))))
/-! brd_isNand -/
def L_brd_isNand : List Nat := []
def G_brd_isNand : List (Nat × Nat) := []
noncomputable def brd_isNand (v1 : Int) (s : iS) : Option (Int × iS) := gd (rg v1) (if v1 < 0 then some (0, s) else gd (rg (s 108 14)) (if (s 108 14) ≤ v1 then some (0, s) else gd (0 ≤ v1 ∧ v1 < 1500) (gd (rg (s 114 v1.toNat)) (if (s 114 v1.toNat) = (-1) then some (0, s) else some (1, s)))))
theorem tbrd_isNand (w : ev_W) (d : Nat) (hd : 0 ≤ d) (v1 : Int) (s : iS) : Ew hT w d 277 0 [(0, .ref (tb_nK + 108)), (1, iv v1)] [] s (Ci hT) (brd_isNand v1 s) := by
  unfold brd_isNand
  refine e_mv 1 em_277 (ce_at ce_277 0 rfl) rfl rfl ?_
  refine e_gd fun g1 => ?_
  refine e_iflt 26 4 em_277 rfl rfl (ce_at ce_277 1 rfl) g1 (fun h2 => ?_) (fun h2 => ?_)
  · refine e_op 27 em_277 (ce_at ce_277 14 rfl) rfl rfl ?_
    exact e_retz em_277 (ce_at ce_277 15 rfl) (by decide)
  · refine e_mv 5 em_277 (ce_at ce_277 2 rfl) rfl rfl ?_
    refine e_mv 6 em_277 (ce_at ce_277 3 rfl) rfl rfl ?_
    refine e_get 9 em_277 (ce_at ce_277 4 rfl) tq_108 rfl rfl ?_
    refine e_gd fun g3 => ?_
    refine e_cmge 26 12 em_277 rfl rfl (ce_at ce_277 5 rfl) g1 g3 (fun h4 => ?_) (fun h4 => ?_)
    · refine e_op 27 em_277 (ce_at ce_277 14 rfl) rfl rfl ?_
      exact e_retz em_277 (ce_at ce_277 15 rfl) (by decide)
    · refine e_mv 13 em_277 (ce_at ce_277 6 rfl) rfl rfl ?_
      refine e_getr 16 em_277 (ce_at ce_277 7 rfl) tq_108 rfl rfl ?_
      refine e_mv 17 em_277 (ce_at ce_277 8 rfl) rfl rfl ?_
      refine e_gd fun g5 => ?_
      refine e_ild 18 em_277 (ce_at ce_277 9 rfl) tq_114 (by decide) g5 rfl ?_
      refine e_op 19 em_277 (ce_at ce_277 10 rfl) rfl rfl ?_
      refine e_gd fun g6 => ?_
      refine e_cmeq 26 22 em_277 rfl rfl (ce_at ce_277 11 rfl) g6 (by decide) (fun h7 => ?_) (fun h7 => ?_)
      · refine e_op 27 em_277 (ce_at ce_277 14 rfl) rfl rfl ?_
        exact e_retz em_277 (ce_at ce_277 15 rfl) (by decide)
      · refine e_op 23 em_277 (ce_at ce_277 12 rfl) rfl rfl ?_
        refine e_goto em_277 27 (ce_at ce_277 13 rfl) rfl ?_
        exact e_retz em_277 (ce_at ce_277 15 rfl) (by decide)
theorem fbrd_isNand (v1 : Int) (s : iS) : Fm Prod.snd L_brd_isNand G_brd_isNand s (brd_isNand v1 s) := fm_gd (fm_if (fm_some md_refl) (fm_gd (fm_if (fm_some md_refl) (fm_gd (fm_gd (fm_if (fm_some md_refl) (fm_some md_refl)))))))
/-! brd_noteUse -/
def L_brd_noteUse : List Nat := [119, 120]
def G_brd_noteUse : List (Nat × Nat) := []
noncomputable def brd_noteUse (v1 : Int) (v2 : Int) (s : iS) : Option (Int × iS) := bd (brd_isNand (v2 - 194) s) (fun r1 s1 => gd (rg r1) (if r1 = 0 then some (0, s1) else gd (0 ≤ (v2 - 194) ∧ (v2 - 194) < 1500) (gd (0 ≤ v1 ∧ v1 < 3000) (lt' (up s1 120 v1.toNat (s1 119 (v2 - 194).toNat)) (fun s6 => lt' (up s6 119 (v2 - 194).toNat v1) (fun s7 => some (1, s7)))))))
theorem tbrd_noteUse (w : ev_W) (d : Nat) (hd : 1 ≤ d) (v1 : Int) (v2 : Int) (s : iS) : Ew hT w d 278 0 [(0, .ref (tb_nK + 108)), (1, iv v1), (2, iv v2)] [] s (Ci hT) (brd_noteUse v1 v2 s) := by
  unfold brd_noteUse
  refine e_mv 1 em_278 (ce_at ce_278 0 rfl) rfl rfl ?_
  refine e_sip 4 em_278 (ce_at ce_278 1 rfl) (by decide) rfl ?_
  refine e_isub 5 em_278 rfl (ce_at ce_278 2 rfl) ?_
  refine e_mv 6 em_278 (ce_at ce_278 3 rfl) rfl rfl ?_
  refine e_mv 7 em_278 (ce_at ce_278 4 rfl) rfl rfl ?_
  refine e_mv 8 em_278 (ce_at ce_278 5 rfl) rfl rfl ?_
  refine e_ivi 11 em_278 (ce_at ce_278 6 rfl) (by omega) (iv_v1 (by decide) tq_108 rfl) em_277 (Nat.le_of_ble_eq_true rfl) rfl (tbrd_isNand w (d - 1) (by omega) _ _) (fun r1 s1 => ?_)
  refine e_gd fun g2 => ?_
  refine e_ifne 16 14 em_278 rfl rfl (ce_at ce_278 7 rfl) g2 (fun h3 => ?_) (fun h3 => ?_)
  · refine e_mv 17 em_278 (ce_at ce_278 10 rfl) rfl rfl ?_
    refine e_getr 20 em_278 (ce_at ce_278 11 rfl) tq_108 rfl rfl ?_
    refine e_mv 21 em_278 (ce_at ce_278 12 rfl) rfl rfl ?_
    refine e_mv 22 em_278 (ce_at ce_278 13 rfl) rfl rfl ?_
    refine e_getr 25 em_278 (ce_at ce_278 14 rfl) tq_108 rfl rfl ?_
    refine e_mv 26 em_278 (ce_at ce_278 15 rfl) rfl rfl ?_
    refine e_gd fun g4 => ?_
    refine e_ild 27 em_278 (ce_at ce_278 16 rfl) tq_119 (by decide) g4 rfl ?_
    refine e_gd fun g5 => ?_
    refine e_ist 28 em_278 (ce_at ce_278 17 rfl) tq_120 (by decide) g5 rfl (fun s6 => ?_)
    refine e_mv 29 em_278 (ce_at ce_278 18 rfl) rfl rfl ?_
    refine e_getr 32 em_278 (ce_at ce_278 19 rfl) tq_108 rfl rfl ?_
    refine e_mv 33 em_278 (ce_at ce_278 20 rfl) rfl rfl ?_
    refine e_mv 34 em_278 (ce_at ce_278 21 rfl) rfl rfl ?_
    refine e_ist 35 em_278 (ce_at ce_278 22 rfl) tq_119 (by decide) g4 rfl (fun s7 => ?_)
    refine e_op 36 em_278 (ce_at ce_278 23 rfl) rfl rfl ?_
    exact e_reti em_278 (ce_at ce_278 24 rfl)
  · refine e_op 15 em_278 (ce_at ce_278 8 rfl) rfl rfl ?_
    exact e_reti em_278 (ce_at ce_278 9 rfl)
theorem fbrd_noteUse (v1 : Int) (v2 : Int) (s : iS) : Fm Prod.snd L_brd_noteUse G_brd_noteUse s (brd_noteUse v1 v2 s) := fm_bd (fm_sub (fbrd_isNand _ _) (mem_sub_L rfl) (mem_sub_F rfl)) (fun r1 s1 => fm_gd (fm_if (fm_some md_refl) (fm_gd (fm_gd (fm_lt (md_upL (mem_L rfl)) (fun s6 => fm_lt (md_upL (mem_L rfl)) (fun s7 => fm_some md_refl)))))))
/-! brd_bringIn -/
def L_brd_bringIn : List Nat := [116]
def G_brd_bringIn : List (Nat × Nat) := [(108, 16)]
noncomputable def brd_bringIn (v1 : Int) (s : iS) : Option (Int × iS) := gd (rg (s 108 16)) (if 1500 ≤ (s 108 16) then some (0, s) else gd (0 ≤ (s 108 16) ∧ (s 108 16) < 1500) (lt' (up s 116 (s 108 16).toNat v1) (fun s4 => lt' (up s4 108 16 ((s4 108 16) + 1)) (fun s5 => some (0, s5)))))
theorem tbrd_bringIn (w : ev_W) (d : Nat) (hd : 0 ≤ d) (v1 : Int) (s : iS) : Ew hT w d 279 0 [(0, .ref (tb_nK + 108)), (1, iv v1)] [] s (Cv hT) (brd_bringIn v1 s) := by
  unfold brd_bringIn
  refine e_mv 1 em_279 (ce_at ce_279 0 rfl) rfl rfl ?_
  refine e_get 4 em_279 (ce_at ce_279 1 rfl) tq_108 rfl rfl ?_
  refine e_sip 7 em_279 (ce_at ce_279 2 rfl) (by decide) rfl ?_
  refine e_gd fun g1 => ?_
  refine e_cmge 30 10 em_279 rfl rfl (ce_at ce_279 3 rfl) g1 (by decide) (fun h2 => ?_) (fun h2 => ?_)
  · exact e_retv em_279 (ce_at ce_279 16 rfl)
  · refine e_mv 11 em_279 (ce_at ce_279 4 rfl) rfl rfl ?_
    refine e_getr 14 em_279 (ce_at ce_279 5 rfl) tq_108 rfl rfl ?_
    refine e_mv 15 em_279 (ce_at ce_279 6 rfl) rfl rfl ?_
    refine e_get 18 em_279 (ce_at ce_279 7 rfl) tq_108 rfl rfl ?_
    refine e_mv 19 em_279 (ce_at ce_279 8 rfl) rfl rfl ?_
    refine e_gd fun g3 => ?_
    refine e_ist 20 em_279 (ce_at ce_279 9 rfl) tq_116 (by decide) g3 rfl (fun s4 => ?_)
    refine e_mv 21 em_279 (ce_at ce_279 10 rfl) rfl rfl ?_
    refine e_op 22 em_279 (ce_at ce_279 11 rfl) rfl rfl ?_
    refine e_get 25 em_279 (ce_at ce_279 12 rfl) tq_108 rfl rfl ?_
    refine e_op 26 em_279 (ce_at ce_279 13 rfl) rfl rfl ?_
    refine e_iadd 27 em_279 rfl (ce_at ce_279 14 rfl) ?_
    refine e_put 30 em_279 (ce_at ce_279 15 rfl) tq_108 rfl rfl rfl (fun s5 => ?_)
    exact e_retv em_279 (ce_at ce_279 16 rfl)
theorem fbrd_bringIn (v1 : Int) (s : iS) : Fm Prod.snd L_brd_bringIn G_brd_bringIn s (brd_bringIn v1 s) := fm_gd (fm_if (fm_some md_refl) (fm_gd (fm_lt (md_upL (mem_L rfl)) (fun s4 => fm_lt (md_upF (mem_F rfl)) (fun s5 => fm_some md_refl)))))
/-! brd_releaseUsers -/
def L_brd_releaseUsers : List Nat := [116, 117, 118]
def G_brd_releaseUsers : List (Nat × Nat) := [(108, 16)]
def brd_releaseUsers_9C (w : ev_W) (d : Nat) (v1 : Int) : (Int × Int × iS) ⊕ (iS) → am_E → Prop := fun q r => q.elim (fun l => ev w d 280 9 ((fun l => [(0, .ref (tb_nK + 108)), (1, iv v1), (2, iv (l.1)), (3, iv (l.2.1))]) l) [] (hT ((fun l => l.2.2) l)) r) (fun e => (fun e r => ev w d 280 91 [] [] (hT (e)) r) e r)
noncomputable def brd_releaseUsers_78 (v1 : Int) (v2 : Int) (v3 : Int) (s : iS) : Option ((Int × Int × iS) ⊕ (iS)) := gd (0 ≤ v2 ∧ v2 < 3000) (some (.inl ((s 120 v2.toNat), (v3 + 1), s)))
theorem tbrd_releaseUsers_78 (w : ev_W) (d : Nat) (hd : 1 ≤ d) (v1 : Int) (v2 : Int) (v3 : Int) (s : iS) : Ew hT w d 280 78 [(0, .ref (tb_nK + 108)), (1, iv v1), (2, iv v2), (3, iv v3)] [] s (brd_releaseUsers_9C w d v1) (brd_releaseUsers_78 v1 v2 v3 s) := by
  unfold brd_releaseUsers_78
  refine e_mv 79 em_280 (ce_at ce_280 48 rfl) rfl rfl ?_
  refine e_getr 82 em_280 (ce_at ce_280 49 rfl) tq_108 rfl rfl ?_
  refine e_mv 83 em_280 (ce_at ce_280 50 rfl) rfl rfl ?_
  refine e_gd fun g1 => ?_
  refine e_ild 84 em_280 (ce_at ce_280 51 rfl) tq_120 (by decide) g1 rfl ?_
  refine e_mv 85 em_280 (ce_at ce_280 52 rfl) rfl rfl ?_
  refine e_iinc 88 em_280 (ce_at ce_280 53 rfl) rfl (by decide) rfl ?_
  refine e_goto em_280 9 (ce_at ce_280 54 rfl) rfl ?_
  refine e_pk [0, 1, 2, 3] rfl rfl ?_
  exact e_out (fun r h => h)
theorem fbrd_releaseUsers_78 (v1 : Int) (v2 : Int) (v3 : Int) (s : iS) : Fm (fun r : (Int × Int × iS) ⊕ (iS) => r.elim (fun l => l.2.2) (fun e => e)) L_brd_releaseUsers G_brd_releaseUsers s (brd_releaseUsers_78 v1 v2 v3 s) := fm_gd (fm_some md_refl)
noncomputable def brd_releaseUsers_9b (v1 : Int) (v2 : Int) (v3 : Int) (s : iS) : Option ((Int × Int × iS) ⊕ (iS)) := gd (rg v3) (if 3000 ≤ v3 then some (.inr s) else gd (rg v2) (if v2 = (-1) then some (.inr s) else gd (0 ≤ (v2.tdiv 2) ∧ (v2.tdiv 2) < 1500) (gd (0 ≤ v1 ∧ v1 < 1500) (bd (mth_max (s 117 (v2.tdiv 2).toNat) ((s 117 v1.toNat) + 1) s) (fun r7 s7 => lt' (up s7 117 (v2.tdiv 2).toNat r7) (fun s8 => lt' (up s8 118 (v2.tdiv 2).toNat ((s8 118 (v2.tdiv 2).toNat) - 1)) (fun s9 => gd (rg (s9 118 (v2.tdiv 2).toNat)) (if (s9 118 (v2.tdiv 2).toNat) = 0 then bd (brd_bringIn (v2.tdiv 2) s9) (fun _ s12 => brd_releaseUsers_78 v1 v2 v3 s12) else brd_releaseUsers_78 v1 v2 v3 s9))))))))
theorem tbrd_releaseUsers_9b (w : ev_W) (d : Nat) (hd : 1 ≤ d) (v1 : Int) (v2 : Int) (v3 : Int) (s : iS) : Ew hT w d 280 9 [(0, .ref (tb_nK + 108)), (1, iv v1), (2, iv v2), (3, iv v3)] [] s (brd_releaseUsers_9C w d v1) (brd_releaseUsers_9b v1 v2 v3 s) := by
  unfold brd_releaseUsers_9b
  refine e_mv 10 em_280 (ce_at ce_280 7 rfl) rfl rfl ?_
  refine e_sip 13 em_280 (ce_at ce_280 8 rfl) (by decide) rfl ?_
  refine e_gd fun g1 => ?_
  refine e_cmge 91 16 em_280 rfl rfl (ce_at ce_280 9 rfl) g1 (by decide) (fun h2 => ?_) (fun h2 => ?_)
  · refine e_pk [] rfl rfl ?_
    exact e_out (fun r h => h)
  · refine e_mv 17 em_280 (ce_at ce_280 10 rfl) rfl rfl ?_
    refine e_op 18 em_280 (ce_at ce_280 11 rfl) rfl rfl ?_
    refine e_gd fun g3 => ?_
    refine e_cmeq 91 21 em_280 rfl rfl (ce_at ce_280 12 rfl) g3 (by decide) (fun h4 => ?_) (fun h4 => ?_)
    · refine e_pk [] rfl rfl ?_
      exact e_out (fun r h => h)
    · refine e_mv 22 em_280 (ce_at ce_280 13 rfl) rfl rfl ?_
      refine e_op 23 em_280 (ce_at ce_280 14 rfl) rfl rfl ?_
      refine e_idiv 24 em_280 rfl (ce_at ce_280 15 rfl) g3 (by decide) (by decide) ?_
      refine e_mv 26 em_280 (ce_at ce_280 16 rfl) rfl rfl ?_
      refine e_mv 27 em_280 (ce_at ce_280 17 rfl) rfl rfl ?_
      refine e_getr 30 em_280 (ce_at ce_280 18 rfl) tq_108 rfl rfl ?_
      refine e_mv 32 em_280 (ce_at ce_280 19 rfl) rfl rfl ?_
      refine e_mv 33 em_280 (ce_at ce_280 20 rfl) rfl rfl ?_
      refine e_getr 36 em_280 (ce_at ce_280 21 rfl) tq_108 rfl rfl ?_
      refine e_mv 38 em_280 (ce_at ce_280 22 rfl) rfl rfl ?_
      refine e_gd fun g5 => ?_
      refine e_ild 39 em_280 (ce_at ce_280 23 rfl) tq_117 (by decide) g5 rfl ?_
      refine e_mv 40 em_280 (ce_at ce_280 24 rfl) rfl rfl ?_
      refine e_getr 43 em_280 (ce_at ce_280 25 rfl) tq_108 rfl rfl ?_
      refine e_mv 44 em_280 (ce_at ce_280 26 rfl) rfl rfl ?_
      refine e_gd fun g6 => ?_
      refine e_ild 45 em_280 (ce_at ce_280 27 rfl) tq_117 (by decide) g6 rfl ?_
      refine e_op 46 em_280 (ce_at ce_280 28 rfl) rfl rfl ?_
      refine e_iadd 47 em_280 rfl (ce_at ce_280 29 rfl) ?_
      refine e_ivi 50 em_280 (ce_at ce_280 30 rfl) (by omega) (iv_s2 rfl) em_45 (Nat.le_of_ble_eq_true rfl) rfl (tmth_max hT w (d - 1) (by omega) _ _ _) (fun r7 s7 => ?_)
      refine e_ist 51 em_280 (ce_at ce_280 31 rfl) tq_117 (by decide) g5 rfl (fun s8 => ?_)
      refine e_mv 52 em_280 (ce_at ce_280 32 rfl) rfl rfl ?_
      refine e_getr 55 em_280 (ce_at ce_280 33 rfl) tq_108 rfl rfl ?_
      refine e_mv 57 em_280 (ce_at ce_280 34 rfl) rfl rfl ?_
      refine e_op 58 em_280 (ce_at ce_280 35 rfl) rfl rfl ?_
      refine e_ild 59 em_280 (ce_at ce_280 36 rfl) tq_118 (by decide) g5 rfl ?_
      refine e_op 60 em_280 (ce_at ce_280 37 rfl) rfl rfl ?_
      refine e_isub 61 em_280 rfl (ce_at ce_280 38 rfl) ?_
      refine e_ist 62 em_280 (ce_at ce_280 39 rfl) tq_118 (by decide) g5 rfl (fun s9 => ?_)
      refine e_mv 63 em_280 (ce_at ce_280 40 rfl) rfl rfl ?_
      refine e_getr 66 em_280 (ce_at ce_280 41 rfl) tq_108 rfl rfl ?_
      refine e_mv 68 em_280 (ce_at ce_280 42 rfl) rfl rfl ?_
      refine e_ild 69 em_280 (ce_at ce_280 43 rfl) tq_118 (by decide) g5 rfl ?_
      refine e_gd fun g10 => ?_
      refine e_ifne 78 72 em_280 rfl rfl (ce_at ce_280 44 rfl) g10 (fun h11 => ?_) (fun h11 => ?_)
      · refine e_pk [0, 1, 2, 3] rfl rfl ?_
        exact tbrd_releaseUsers_78 w d hd _ _ _ _
      · refine e_mv 73 em_280 (ce_at ce_280 45 rfl) rfl rfl ?_
        refine e_mv 75 em_280 (ce_at ce_280 46 rfl) rfl rfl ?_
        refine e_ivv 78 em_280 (ce_at ce_280 47 rfl) (by omega) (iv_v1 (by decide) tq_108 rfl) em_279 (Nat.le_of_ble_eq_true rfl) rfl (tbrd_bringIn w (d - 1) (by omega) _ _) (fun r12 s12 => ?_)
        refine e_pk [0, 1, 2, 3] rfl rfl ?_
        exact tbrd_releaseUsers_78 w d hd _ _ _ _
theorem fbrd_releaseUsers_9b (v1 : Int) (v2 : Int) (v3 : Int) (s : iS) : Fm (fun r : (Int × Int × iS) ⊕ (iS) => r.elim (fun l => l.2.2) (fun e => e)) L_brd_releaseUsers G_brd_releaseUsers s (brd_releaseUsers_9b v1 v2 v3 s) := fm_gd (fm_if (fm_some md_refl) (fm_gd (fm_if (fm_some md_refl) (fm_gd (fm_gd (fm_bd (fm_sub (fmth_max _ _ _) (mem_sub_L rfl) (mem_sub_F rfl)) (fun r7 s7 => fm_lt (md_upL (mem_L rfl)) (fun s8 => fm_lt (md_upL (mem_L rfl)) (fun s9 => fm_gd (fm_if (fm_bd (fm_sub (fbrd_bringIn _ _) (mem_sub_L rfl) (mem_sub_F rfl)) (fun r12 s12 => fbrd_releaseUsers_78 _ _ _ _)) (fbrd_releaseUsers_78 _ _ _ _)))))))))))
noncomputable def brd_releaseUsers_9 (v1 : Int) (v2 : Int) (v3 : Int) (s : iS) : Option (Int × iS) := (lp (L := Int × Int × iS) (E := iS) (fun l => brd_releaseUsers_9b v1 (l.1) (l.2.1) (l.2.2)) (v2, v3, s)).bind (fun e => some (0, e))
theorem tbrd_releaseUsers_9 (w : ev_W) (d : Nat) (hd : 1 ≤ d) (v1 : Int) (v2 : Int) (v3 : Int) (s : iS) : Ew hT w d 280 9 [(0, .ref (tb_nK + 108)), (1, iv v1), (2, iv v2), (3, iv v3)] [] s (Cv hT) (brd_releaseUsers_9 v1 v2 v3 s) := by
  unfold brd_releaseUsers_9
  refine e_lp (L := Int × Int × iS) (E := iS) (LO := fun l => [(0, .ref (tb_nK + 108)), (1, iv v1), (2, iv (l.1)), (3, iv (l.2.1))]) (LS := fun l => l.2.2) (CE := fun e r => ev w d 280 91 [] [] (hT (e)) r) (fun l => tbrd_releaseUsers_9b w d hd _ _ _ _) ?_ (v2, v3, s)
  intro e
  show Ew hT w d 280 91 [] [] e (Cv hT) _
  exact e_retv em_280 (ce_at ce_280 55 rfl)
theorem fbrd_releaseUsers_9 (v1 : Int) (v2 : Int) (v3 : Int) (s : iS) : Fm Prod.snd L_brd_releaseUsers G_brd_releaseUsers s (brd_releaseUsers_9 v1 v2 v3 s) := by
  unfold brd_releaseUsers_9
  refine fm_lp (A := Int × Int × iS) (E := iS) (LS := fun l => l.2.2) (LE := fun e => e) ?_ ?_ (v2, v3, s)
  · exact fun l => fbrd_releaseUsers_9b _ _ _ _
  · exact (fun e => fm_some md_refl)
noncomputable def brd_releaseUsers (v1 : Int) (s : iS) : Option (Int × iS) := gd (0 ≤ v1 ∧ v1 < 1500) (brd_releaseUsers_9 v1 (s 119 v1.toNat) 0 s)
theorem tbrd_releaseUsers (w : ev_W) (d : Nat) (hd : 1 ≤ d) (v1 : Int) (s : iS) : Ew hT w d 280 0 [(0, .ref (tb_nK + 108)), (1, iv v1)] [] s (Cv hT) (brd_releaseUsers v1 s) := by
  unfold brd_releaseUsers
  refine e_mv 1 em_280 (ce_at ce_280 0 rfl) rfl rfl ?_
  refine e_getr 4 em_280 (ce_at ce_280 1 rfl) tq_108 rfl rfl ?_
  refine e_mv 5 em_280 (ce_at ce_280 2 rfl) rfl rfl ?_
  refine e_gd fun g1 => ?_
  refine e_ild 6 em_280 (ce_at ce_280 3 rfl) tq_119 (by decide) g1 rfl ?_
  refine e_mv 7 em_280 (ce_at ce_280 4 rfl) rfl rfl ?_
  refine e_op 8 em_280 (ce_at ce_280 5 rfl) rfl rfl ?_
  refine e_mv 9 em_280 (ce_at ce_280 6 rfl) rfl rfl ?_
  refine e_pk [0, 1, 2, 3] rfl rfl ?_
  exact tbrd_releaseUsers_9 w d hd _ _ _ _
theorem fbrd_releaseUsers (v1 : Int) (s : iS) : Fm Prod.snd L_brd_releaseUsers G_brd_releaseUsers s (brd_releaseUsers v1 s) := fm_gd (fbrd_releaseUsers_9 _ _ _ _)
/-! brd_sortNands -/
def L_brd_sortNands : List Nat := [116, 117, 118, 119, 120]
def G_brd_sortNands : List (Nat × Nat) := [(108, 16)]
def brd_sortNands_17C (w : ev_W) (d : Nat) : (Int × Int × iS) ⊕ (Int × iS) → am_E → Prop := fun q r => q.elim (fun l => ev w d 276 17 ((fun l => [(0, .ref (tb_nK + 108)), (1, iv (l.1)), (2, iv (l.2.1))]) l) [] (hT ((fun l => l.2.2) l)) r) (fun e => (fun e r => ev w d 276 98 [(0, .ref (tb_nK + 108)), (1, iv (e.1))] [] (hT (e.2)) r) e r)
noncomputable def brd_sortNands_17b (v1 : Int) (v2 : Int) (s : iS) : Option ((Int × Int × iS) ⊕ (Int × iS)) := gd (rg v2) (gd (rg (s 108 14)) (if (s 108 14) ≤ v2 then some (.inr (v1, s)) else gd (0 ≤ v2 ∧ v2 < 1500) (lt' (up s 117 v2.toNat 1) (fun s5 => bd (brd_isNand v2 s5) (fun r6 s6 => gd (rg r6) (if r6 = 0 then some (.inl (v1, (v2 + 1), s6)) else bd (brd_noteUse (2 * v2) (s6 113 v2.toNat) s6) (fun r9 s9 => bd (brd_noteUse ((2 * v2) + 1) (s9 114 v2.toNat) s9) (fun r10 s10 => lt' (up s10 118 v2.toNat (r9 + r10)) (fun s11 => gd (rg (s11 118 v2.toNat)) (if (s11 118 v2.toNat) = 0 then bd (brd_bringIn v2 s11) (fun _ s14 => some (.inl ((v1 + 1), (v2 + 1), s14))) else some (.inl ((v1 + 1), (v2 + 1), s11))))))))))))
theorem tbrd_sortNands_17b (w : ev_W) (d : Nat) (hd : 2 ≤ d) (v1 : Int) (v2 : Int) (s : iS) : Ew hT w d 276 17 [(0, .ref (tb_nK + 108)), (1, iv v1), (2, iv v2)] [] s (brd_sortNands_17C w d) (brd_sortNands_17b v1 v2 s) := by
  unfold brd_sortNands_17b
  refine e_mv 18 em_276 (ce_at ce_276 11 rfl) rfl rfl ?_
  refine e_mv 19 em_276 (ce_at ce_276 12 rfl) rfl rfl ?_
  refine e_get 22 em_276 (ce_at ce_276 13 rfl) tq_108 rfl rfl ?_
  refine e_gd fun g1 => ?_
  refine e_gd fun g2 => ?_
  refine e_cmge 98 25 em_276 rfl rfl (ce_at ce_276 14 rfl) g1 g2 (fun h3 => ?_) (fun h3 => ?_)
  · refine e_pk [0, 1] rfl rfl ?_
    exact e_out (fun r h => h)
  · refine e_mv 26 em_276 (ce_at ce_276 15 rfl) rfl rfl ?_
    refine e_getr 29 em_276 (ce_at ce_276 16 rfl) tq_108 rfl rfl ?_
    refine e_mv 30 em_276 (ce_at ce_276 17 rfl) rfl rfl ?_
    refine e_op 31 em_276 (ce_at ce_276 18 rfl) rfl rfl ?_
    refine e_gd fun g4 => ?_
    refine e_ist 32 em_276 (ce_at ce_276 19 rfl) tq_117 (by decide) g4 rfl (fun s5 => ?_)
    refine e_mv 33 em_276 (ce_at ce_276 20 rfl) rfl rfl ?_
    refine e_mv 34 em_276 (ce_at ce_276 21 rfl) rfl rfl ?_
    refine e_ivi 37 em_276 (ce_at ce_276 22 rfl) (by omega) (iv_v1 (by decide) tq_108 rfl) em_277 (Nat.le_of_ble_eq_true rfl) rfl (tbrd_isNand w (d - 1) (by omega) _ _) (fun r6 s6 => ?_)
    refine e_gd fun g7 => ?_
    refine e_ifeq 92 40 em_276 rfl rfl (ce_at ce_276 23 rfl) g7 (fun h8 => ?_) (fun h8 => ?_)
    · refine e_iinc 95 em_276 (ce_at ce_276 58 rfl) rfl (by decide) rfl ?_
      refine e_goto em_276 17 (ce_at ce_276 59 rfl) rfl ?_
      refine e_pk [0, 1, 2] rfl rfl ?_
      exact e_out (fun r h => h)
    · refine e_iinc 43 em_276 (ce_at ce_276 24 rfl) rfl (by decide) rfl ?_
      refine e_mv 44 em_276 (ce_at ce_276 25 rfl) rfl rfl ?_
      refine e_getr 47 em_276 (ce_at ce_276 26 rfl) tq_108 rfl rfl ?_
      refine e_mv 48 em_276 (ce_at ce_276 27 rfl) rfl rfl ?_
      refine e_mv 49 em_276 (ce_at ce_276 28 rfl) rfl rfl ?_
      refine e_op 50 em_276 (ce_at ce_276 29 rfl) rfl rfl ?_
      refine e_mv 51 em_276 (ce_at ce_276 30 rfl) rfl rfl ?_
      refine e_imul 52 em_276 rfl (ce_at ce_276 31 rfl) ?_
      refine e_mv 53 em_276 (ce_at ce_276 32 rfl) rfl rfl ?_
      refine e_getr 56 em_276 (ce_at ce_276 33 rfl) tq_108 rfl rfl ?_
      refine e_mv 57 em_276 (ce_at ce_276 34 rfl) rfl rfl ?_
      refine e_ild 58 em_276 (ce_at ce_276 35 rfl) tq_113 (by decide) g4 rfl ?_
      refine e_ivi 61 em_276 (ce_at ce_276 36 rfl) (by omega) (iv_v2 (by decide) tq_108 rfl) em_278 (Nat.le_of_ble_eq_true rfl) rfl (tbrd_noteUse w (d - 1) (by omega) _ _ _) (fun r9 s9 => ?_)
      refine e_mv 62 em_276 (ce_at ce_276 37 rfl) rfl rfl ?_
      refine e_op 63 em_276 (ce_at ce_276 38 rfl) rfl rfl ?_
      refine e_mv 64 em_276 (ce_at ce_276 39 rfl) rfl rfl ?_
      refine e_imul 65 em_276 rfl (ce_at ce_276 40 rfl) ?_
      refine e_op 66 em_276 (ce_at ce_276 41 rfl) rfl rfl ?_
      refine e_iadd 67 em_276 rfl (ce_at ce_276 42 rfl) ?_
      refine e_mv 68 em_276 (ce_at ce_276 43 rfl) rfl rfl ?_
      refine e_getr 71 em_276 (ce_at ce_276 44 rfl) tq_108 rfl rfl ?_
      refine e_mv 72 em_276 (ce_at ce_276 45 rfl) rfl rfl ?_
      refine e_ild 73 em_276 (ce_at ce_276 46 rfl) tq_114 (by decide) g4 rfl ?_
      refine e_ivi 76 em_276 (ce_at ce_276 47 rfl) (by omega) (iv_v2 (by decide) tq_108 rfl) em_278 (Nat.le_of_ble_eq_true rfl) rfl (tbrd_noteUse w (d - 1) (by omega) _ _ _) (fun r10 s10 => ?_)
      refine e_iadd 77 em_276 rfl (ce_at ce_276 48 rfl) ?_
      refine e_ist 78 em_276 (ce_at ce_276 49 rfl) tq_118 (by decide) g4 rfl (fun s11 => ?_)
      refine e_mv 79 em_276 (ce_at ce_276 50 rfl) rfl rfl ?_
      refine e_getr 82 em_276 (ce_at ce_276 51 rfl) tq_108 rfl rfl ?_
      refine e_mv 83 em_276 (ce_at ce_276 52 rfl) rfl rfl ?_
      refine e_ild 84 em_276 (ce_at ce_276 53 rfl) tq_118 (by decide) g4 rfl ?_
      refine e_gd fun g12 => ?_
      refine e_ifne 92 87 em_276 rfl rfl (ce_at ce_276 54 rfl) g12 (fun h13 => ?_) (fun h13 => ?_)
      · refine e_iinc 95 em_276 (ce_at ce_276 58 rfl) rfl (by decide) rfl ?_
        refine e_goto em_276 17 (ce_at ce_276 59 rfl) rfl ?_
        refine e_pk [0, 1, 2] rfl rfl ?_
        exact e_out (fun r h => h)
      · refine e_mv 88 em_276 (ce_at ce_276 55 rfl) rfl rfl ?_
        refine e_mv 89 em_276 (ce_at ce_276 56 rfl) rfl rfl ?_
        refine e_ivv 92 em_276 (ce_at ce_276 57 rfl) (by omega) (iv_v1 (by decide) tq_108 rfl) em_279 (Nat.le_of_ble_eq_true rfl) rfl (tbrd_bringIn w (d - 1) (by omega) _ _) (fun r14 s14 => ?_)
        refine e_iinc 95 em_276 (ce_at ce_276 58 rfl) rfl (by decide) rfl ?_
        refine e_goto em_276 17 (ce_at ce_276 59 rfl) rfl ?_
        refine e_pk [0, 1, 2] rfl rfl ?_
        exact e_out (fun r h => h)
theorem fbrd_sortNands_17b (v1 : Int) (v2 : Int) (s : iS) : Fm (fun r : (Int × Int × iS) ⊕ (Int × iS) => r.elim (fun l => l.2.2) (fun e => e.2)) L_brd_sortNands G_brd_sortNands s (brd_sortNands_17b v1 v2 s) := fm_gd (fm_gd (fm_if (fm_some md_refl) (fm_gd (fm_lt (md_upL (mem_L rfl)) (fun s5 => fm_bd (fm_sub (fbrd_isNand _ _) (mem_sub_L rfl) (mem_sub_F rfl)) (fun r6 s6 => fm_gd (fm_if (fm_some md_refl) (fm_bd (fm_sub (fbrd_noteUse _ _ _) (mem_sub_L rfl) (mem_sub_F rfl)) (fun r9 s9 => fm_bd (fm_sub (fbrd_noteUse _ _ _) (mem_sub_L rfl) (mem_sub_F rfl)) (fun r10 s10 => fm_lt (md_upL (mem_L rfl)) (fun s11 => fm_gd (fm_if (fm_bd (fm_sub (fbrd_bringIn _ _) (mem_sub_L rfl) (mem_sub_F rfl)) (fun r14 s14 => fm_some md_refl)) (fm_some md_refl)))))))))))))
def brd_sortNands_100C (w : ev_W) (d : Nat) (v1 : Int) : (Int × iS) ⊕ (iS) → am_E → Prop := fun q r => q.elim (fun l => ev w d 276 100 ((fun l => [(0, .ref (tb_nK + 108)), (1, iv v1), (2, iv (l.1))]) l) [] (hT ((fun l => l.2) l)) r) (fun e => (fun e r => ev w d 276 131 [(0, .ref (tb_nK + 108)), (1, iv v1)] [] (hT (e)) r) e r)
noncomputable def brd_sortNands_100b (v1 : Int) (v2 : Int) (s : iS) : Option ((Int × iS) ⊕ (iS)) := gd (rg v2) (if 1500 ≤ v2 then some (.inr s) else gd (rg (s 108 16)) (if (s 108 16) ≤ v2 then some (.inr s) else gd (0 ≤ v2 ∧ v2 < 1500) (bd (brd_releaseUsers (s 116 v2.toNat) s) (fun _ s6 => some (.inl ((v2 + 1), s6))))))
theorem tbrd_sortNands_100b (w : ev_W) (d : Nat) (hd : 2 ≤ d) (v1 : Int) (v2 : Int) (s : iS) : Ew hT w d 276 100 [(0, .ref (tb_nK + 108)), (1, iv v1), (2, iv v2)] [] s (brd_sortNands_100C w d v1) (brd_sortNands_100b v1 v2 s) := by
  unfold brd_sortNands_100b
  refine e_mv 101 em_276 (ce_at ce_276 62 rfl) rfl rfl ?_
  refine e_sip 104 em_276 (ce_at ce_276 63 rfl) (by decide) rfl ?_
  refine e_gd fun g1 => ?_
  refine e_cmge 131 107 em_276 rfl rfl (ce_at ce_276 64 rfl) g1 (by decide) (fun h2 => ?_) (fun h2 => ?_)
  · refine e_pk [0, 1] rfl rfl ?_
    exact e_out (fun r h => h)
  · refine e_mv 108 em_276 (ce_at ce_276 65 rfl) rfl rfl ?_
    refine e_mv 109 em_276 (ce_at ce_276 66 rfl) rfl rfl ?_
    refine e_get 112 em_276 (ce_at ce_276 67 rfl) tq_108 rfl rfl ?_
    refine e_gd fun g3 => ?_
    refine e_cmge 131 115 em_276 rfl rfl (ce_at ce_276 68 rfl) g1 g3 (fun h4 => ?_) (fun h4 => ?_)
    · refine e_pk [0, 1] rfl rfl ?_
      exact e_out (fun r h => h)
    · refine e_mv 116 em_276 (ce_at ce_276 69 rfl) rfl rfl ?_
      refine e_mv 117 em_276 (ce_at ce_276 70 rfl) rfl rfl ?_
      refine e_getr 120 em_276 (ce_at ce_276 71 rfl) tq_108 rfl rfl ?_
      refine e_mv 121 em_276 (ce_at ce_276 72 rfl) rfl rfl ?_
      refine e_gd fun g5 => ?_
      refine e_ild 122 em_276 (ce_at ce_276 73 rfl) tq_116 (by decide) g5 rfl ?_
      refine e_ivv 125 em_276 (ce_at ce_276 74 rfl) (by omega) (iv_v1 (by decide) tq_108 rfl) em_280 (Nat.le_of_ble_eq_true rfl) rfl (tbrd_releaseUsers w (d - 1) (by omega) _ _) (fun r6 s6 => ?_)
      refine e_iinc 128 em_276 (ce_at ce_276 75 rfl) rfl (by decide) rfl ?_
      refine e_goto em_276 100 (ce_at ce_276 76 rfl) rfl ?_
      refine e_pk [0, 1, 2] rfl rfl ?_
      exact e_out (fun r h => h)
theorem fbrd_sortNands_100b (v1 : Int) (v2 : Int) (s : iS) : Fm (fun r : (Int × iS) ⊕ (iS) => r.elim (fun l => l.2) (fun e => e)) L_brd_sortNands G_brd_sortNands s (brd_sortNands_100b v1 v2 s) := fm_gd (fm_if (fm_some md_refl) (fm_gd (fm_if (fm_some md_refl) (fm_gd (fm_bd (fm_sub (fbrd_releaseUsers _ _) (mem_sub_L rfl) (mem_sub_F rfl)) (fun r6 s6 => fm_some md_refl))))))
noncomputable def brd_sortNands_131 (v1 : Int) (s : iS) : Option (Int × iS) := gd (rg (s 108 16)) (gd (rg v1) (if (s 108 16) = v1 then some (1, s) else some (0, s)))
theorem tbrd_sortNands_131 (w : ev_W) (d : Nat) (hd : 2 ≤ d) (v1 : Int) (s : iS) : Ew hT w d 276 131 [(0, .ref (tb_nK + 108)), (1, iv v1)] [] s (Ci hT) (brd_sortNands_131 v1 s) := by
  unfold brd_sortNands_131
  refine e_mv 132 em_276 (ce_at ce_276 77 rfl) rfl rfl ?_
  refine e_get 135 em_276 (ce_at ce_276 78 rfl) tq_108 rfl rfl ?_
  refine e_mv 136 em_276 (ce_at ce_276 79 rfl) rfl rfl ?_
  refine e_gd fun g1 => ?_
  refine e_gd fun g2 => ?_
  refine e_cmne 143 139 em_276 rfl rfl (ce_at ce_276 80 rfl) g1 g2 (fun h3 => ?_) (fun h3 => ?_)
  · refine e_op 144 em_276 (ce_at ce_276 83 rfl) rfl rfl ?_
    exact e_retz em_276 (ce_at ce_276 84 rfl) (by decide)
  · refine e_op 140 em_276 (ce_at ce_276 81 rfl) rfl rfl ?_
    refine e_goto em_276 144 (ce_at ce_276 82 rfl) rfl ?_
    exact e_retz em_276 (ce_at ce_276 84 rfl) (by decide)
theorem fbrd_sortNands_131 (v1 : Int) (s : iS) : Fm Prod.snd L_brd_sortNands G_brd_sortNands s (brd_sortNands_131 v1 s) := fm_gd (fm_gd (fm_if (fm_some md_refl) (fm_some md_refl)))
noncomputable def brd_sortNands_100 (v1 : Int) (v2 : Int) (s : iS) : Option (Int × iS) := (lp (L := Int × iS) (E := iS) (fun l => brd_sortNands_100b v1 (l.1) (l.2)) (v2, s)).bind (fun e => brd_sortNands_131 v1 e)
theorem tbrd_sortNands_100 (w : ev_W) (d : Nat) (hd : 2 ≤ d) (v1 : Int) (v2 : Int) (s : iS) : Ew hT w d 276 100 [(0, .ref (tb_nK + 108)), (1, iv v1), (2, iv v2)] [] s (Ci hT) (brd_sortNands_100 v1 v2 s) := by
  unfold brd_sortNands_100
  refine e_lp (L := Int × iS) (E := iS) (LO := fun l => [(0, .ref (tb_nK + 108)), (1, iv v1), (2, iv (l.1))]) (LS := fun l => l.2) (CE := fun e r => ev w d 276 131 [(0, .ref (tb_nK + 108)), (1, iv v1)] [] (hT (e)) r) (fun l => tbrd_sortNands_100b w d hd _ _ _) ?_ (v2, s)
  intro e
  show Ew hT w d 276 131 [(0, .ref (tb_nK + 108)), (1, iv v1)] [] e (Ci hT) _
  refine e_pk [0, 1] rfl rfl ?_
  exact tbrd_sortNands_131 w d hd _ _
theorem fbrd_sortNands_100 (v1 : Int) (v2 : Int) (s : iS) : Fm Prod.snd L_brd_sortNands G_brd_sortNands s (brd_sortNands_100 v1 v2 s) := by
  unfold brd_sortNands_100
  refine fm_lp (A := Int × iS) (E := iS) (LS := fun l => l.2) (LE := fun e => e) ?_ ?_ (v2, s)
  · exact fun l => fbrd_sortNands_100b _ _ _
  · exact (fun e => fbrd_sortNands_131 _ _)
noncomputable def brd_sortNands_98 (v1 : Int) (s : iS) : Option (Int × iS) := brd_sortNands_100 v1 0 s
theorem tbrd_sortNands_98 (w : ev_W) (d : Nat) (hd : 2 ≤ d) (v1 : Int) (s : iS) : Ew hT w d 276 98 [(0, .ref (tb_nK + 108)), (1, iv v1)] [] s (Ci hT) (brd_sortNands_98 v1 s) := by
  unfold brd_sortNands_98
  refine e_op 99 em_276 (ce_at ce_276 60 rfl) rfl rfl ?_
  refine e_mv 100 em_276 (ce_at ce_276 61 rfl) rfl rfl ?_
  refine e_pk [0, 1, 2] rfl rfl ?_
  exact tbrd_sortNands_100 w d hd _ _ _
theorem fbrd_sortNands_98 (v1 : Int) (s : iS) : Fm Prod.snd L_brd_sortNands G_brd_sortNands s (brd_sortNands_98 v1 s) := fbrd_sortNands_100 _ _ _
noncomputable def brd_sortNands_17 (v1 : Int) (v2 : Int) (s : iS) : Option (Int × iS) := (lp (L := Int × Int × iS) (E := Int × iS) (fun l => brd_sortNands_17b (l.1) (l.2.1) (l.2.2)) (v1, v2, s)).bind (fun e => brd_sortNands_98 (e.1) (e.2))
theorem tbrd_sortNands_17 (w : ev_W) (d : Nat) (hd : 2 ≤ d) (v1 : Int) (v2 : Int) (s : iS) : Ew hT w d 276 17 [(0, .ref (tb_nK + 108)), (1, iv v1), (2, iv v2)] [] s (Ci hT) (brd_sortNands_17 v1 v2 s) := by
  unfold brd_sortNands_17
  refine e_lp (L := Int × Int × iS) (E := Int × iS) (LO := fun l => [(0, .ref (tb_nK + 108)), (1, iv (l.1)), (2, iv (l.2.1))]) (LS := fun l => l.2.2) (CE := fun e r => ev w d 276 98 [(0, .ref (tb_nK + 108)), (1, iv (e.1))] [] (hT (e.2)) r) (fun l => tbrd_sortNands_17b w d hd _ _ _) ?_ (v1, v2, s)
  intro e
  show Ew hT w d 276 98 [(0, .ref (tb_nK + 108)), (1, iv (e.1))] [] e.2 (Ci hT) _
  refine e_pk [0, 1] rfl rfl ?_
  exact tbrd_sortNands_98 w d hd _ _
theorem fbrd_sortNands_17 (v1 : Int) (v2 : Int) (s : iS) : Fm Prod.snd L_brd_sortNands G_brd_sortNands s (brd_sortNands_17 v1 v2 s) := by
  unfold brd_sortNands_17
  refine fm_lp (A := Int × Int × iS) (E := Int × iS) (LS := fun l => l.2.2) (LE := fun e => e.2) ?_ ?_ (v1, v2, s)
  · exact fun l => fbrd_sortNands_17b _ _ _
  · exact (fun e => fbrd_sortNands_98 _ _)
noncomputable def brd_sortNands (s : iS) : Option (Int × iS) := bd (arr_fill 119 1500 (-1) s) (fun _ s1 => lt' (up s1 108 16 0) (fun s2 => brd_sortNands_17 0 0 s2))
theorem tbrd_sortNands (w : ev_W) (d : Nat) (hd : 2 ≤ d) (s : iS) : Ew hT w d 276 0 [(0, .ref (tb_nK + 108))] [] s (Ci hT) (brd_sortNands s) := by
  unfold brd_sortNands
  refine e_mv 1 em_276 (ce_at ce_276 0 rfl) rfl rfl ?_
  refine e_getr 4 em_276 (ce_at ce_276 1 rfl) tq_108 rfl rfl ?_
  refine e_op 5 em_276 (ce_at ce_276 2 rfl) rfl rfl ?_
  refine e_ivv 8 em_276 (ce_at ce_276 3 rfl) (by omega) (iv_s2 rfl) em_142 (Nat.le_of_ble_eq_true rfl) rfl (tarr_fill hT w (d - 1) (by omega) 119 1500 tq_119 (by decide) _ _) (fun r1 s1 => ?_)
  refine e_op 9 em_276 (ce_at ce_276 4 rfl) rfl rfl ?_
  refine e_mv 10 em_276 (ce_at ce_276 5 rfl) rfl rfl ?_
  refine e_mv 11 em_276 (ce_at ce_276 6 rfl) rfl rfl ?_
  refine e_op 12 em_276 (ce_at ce_276 7 rfl) rfl rfl ?_
  refine e_put 15 em_276 (ce_at ce_276 8 rfl) tq_108 rfl rfl rfl (fun s2 => ?_)
  refine e_op 16 em_276 (ce_at ce_276 9 rfl) rfl rfl ?_
  refine e_mv 17 em_276 (ce_at ce_276 10 rfl) rfl rfl ?_
  refine e_pk [0, 1, 2] rfl rfl ?_
  exact tbrd_sortNands_17 w d hd _ _ _
theorem fbrd_sortNands (s : iS) : Fm Prod.snd L_brd_sortNands G_brd_sortNands s (brd_sortNands s) := fm_bd (fm_sub (farr_fill 119 1500 _ _) (mem_sub_L rfl) (mem_sub_F rfl)) (fun r1 s1 => fm_lt (md_upF (mem_F rfl)) (fun s2 => fbrd_sortNands_17 _ _ _))
/-! brd_settle -/
def L_brd_settle : List Nat := [112]
def G_brd_settle : List (Nat × Nat) := []
def brd_settle_2C (w : ev_W) (d : Nat) : (Int × iS) ⊕ (iS) → am_E → Prop := fun q r => q.elim (fun l => ev w d 281 2 ((fun l => [(0, .ref (tb_nK + 108)), (1, iv (l.1))]) l) [] (hT ((fun l => l.2) l)) r) (fun e => (fun e r => ev w d 281 58 [] [] (hT (e)) r) e r)
noncomputable def brd_settle_2b (v1 : Int) (s : iS) : Option ((Int × iS) ⊕ (iS)) := gd (rg v1) (gd (rg (s 108 16)) (if (s 108 16) ≤ v1 then some (.inr s) else gd (0 ≤ v1 ∧ v1 < 1500) (gd (0 ≤ (s 116 v1.toNat) ∧ (s 116 v1.toNat) < 1500) (gd (0 ≤ (s 113 (s 116 v1.toNat).toNat) ∧ (s 113 (s 116 v1.toNat).toNat) < 1694) (gd (0 ≤ (s 114 (s 116 v1.toNat).toNat) ∧ (s 114 (s 116 v1.toNat).toNat) < 1694) (gd (0 ≤ (194 + (s 116 v1.toNat)) ∧ (194 + (s 116 v1.toNat)) < 1694) (lt' (up s 112 (194 + (s 116 v1.toNat)).toNat (1 - (i_and (s 112 (s 113 (s 116 v1.toNat).toNat).toNat) (s 112 (s 114 (s 116 v1.toNat).toNat).toNat)))) (fun s9 => some (.inl ((v1 + 1), s9))))))))))
theorem tbrd_settle_2b (w : ev_W) (d : Nat) (hd : 0 ≤ d) (v1 : Int) (s : iS) : Ew hT w d 281 2 [(0, .ref (tb_nK + 108)), (1, iv v1)] [] s (brd_settle_2C w d) (brd_settle_2b v1 s) := by
  unfold brd_settle_2b
  refine e_mv 3 em_281 (ce_at ce_281 2 rfl) rfl rfl ?_
  refine e_mv 4 em_281 (ce_at ce_281 3 rfl) rfl rfl ?_
  refine e_get 7 em_281 (ce_at ce_281 4 rfl) tq_108 rfl rfl ?_
  refine e_gd fun g1 => ?_
  refine e_gd fun g2 => ?_
  refine e_cmge 58 10 em_281 rfl rfl (ce_at ce_281 5 rfl) g1 g2 (fun h3 => ?_) (fun h3 => ?_)
  · refine e_pk [] rfl rfl ?_
    exact e_out (fun r h => h)
  · refine e_mv 11 em_281 (ce_at ce_281 6 rfl) rfl rfl ?_
    refine e_getr 14 em_281 (ce_at ce_281 7 rfl) tq_108 rfl rfl ?_
    refine e_mv 15 em_281 (ce_at ce_281 8 rfl) rfl rfl ?_
    refine e_gd fun g4 => ?_
    refine e_ild 16 em_281 (ce_at ce_281 9 rfl) tq_116 (by decide) g4 rfl ?_
    refine e_mv 17 em_281 (ce_at ce_281 10 rfl) rfl rfl ?_
    refine e_mv 18 em_281 (ce_at ce_281 11 rfl) rfl rfl ?_
    refine e_getr 21 em_281 (ce_at ce_281 12 rfl) tq_108 rfl rfl ?_
    refine e_sip 24 em_281 (ce_at ce_281 13 rfl) (by decide) rfl ?_
    refine e_mv 25 em_281 (ce_at ce_281 14 rfl) rfl rfl ?_
    refine e_iadd 26 em_281 rfl (ce_at ce_281 15 rfl) ?_
    refine e_op 27 em_281 (ce_at ce_281 16 rfl) rfl rfl ?_
    refine e_mv 28 em_281 (ce_at ce_281 17 rfl) rfl rfl ?_
    refine e_getr 31 em_281 (ce_at ce_281 18 rfl) tq_108 rfl rfl ?_
    refine e_mv 32 em_281 (ce_at ce_281 19 rfl) rfl rfl ?_
    refine e_getr 35 em_281 (ce_at ce_281 20 rfl) tq_108 rfl rfl ?_
    refine e_mv 36 em_281 (ce_at ce_281 21 rfl) rfl rfl ?_
    refine e_gd fun g5 => ?_
    refine e_ild 37 em_281 (ce_at ce_281 22 rfl) tq_113 (by decide) g5 rfl ?_
    refine e_gd fun g6 => ?_
    refine e_ild 38 em_281 (ce_at ce_281 23 rfl) tq_112 (by decide) g6 rfl ?_
    refine e_mv 39 em_281 (ce_at ce_281 24 rfl) rfl rfl ?_
    refine e_getr 42 em_281 (ce_at ce_281 25 rfl) tq_108 rfl rfl ?_
    refine e_mv 43 em_281 (ce_at ce_281 26 rfl) rfl rfl ?_
    refine e_getr 46 em_281 (ce_at ce_281 27 rfl) tq_108 rfl rfl ?_
    refine e_mv 47 em_281 (ce_at ce_281 28 rfl) rfl rfl ?_
    refine e_ild 48 em_281 (ce_at ce_281 29 rfl) tq_114 (by decide) g5 rfl ?_
    refine e_gd fun g7 => ?_
    refine e_ild 49 em_281 (ce_at ce_281 30 rfl) tq_112 (by decide) g7 rfl ?_
    refine e_iand 50 em_281 rfl (ce_at ce_281 31 rfl) ?_
    refine e_isub 51 em_281 rfl (ce_at ce_281 32 rfl) ?_
    refine e_gd fun g8 => ?_
    refine e_ist 52 em_281 (ce_at ce_281 33 rfl) tq_112 (by decide) g8 rfl (fun s9 => ?_)
    refine e_iinc 55 em_281 (ce_at ce_281 34 rfl) rfl (by decide) rfl ?_
    refine e_goto em_281 2 (ce_at ce_281 35 rfl) rfl ?_
    refine e_pk [0, 1] rfl rfl ?_
    exact e_out (fun r h => h)
theorem fbrd_settle_2b (v1 : Int) (s : iS) : Fm (fun r : (Int × iS) ⊕ (iS) => r.elim (fun l => l.2) (fun e => e)) L_brd_settle G_brd_settle s (brd_settle_2b v1 s) := fm_gd (fm_gd (fm_if (fm_some md_refl) (fm_gd (fm_gd (fm_gd (fm_gd (fm_gd (fm_lt (md_upL (mem_L rfl)) (fun s9 => fm_some md_refl)))))))))
noncomputable def brd_settle_2 (v1 : Int) (s : iS) : Option (Int × iS) := (lp (L := Int × iS) (E := iS) (fun l => brd_settle_2b (l.1) (l.2)) (v1, s)).bind (fun e => some (0, e))
theorem tbrd_settle_2 (w : ev_W) (d : Nat) (hd : 0 ≤ d) (v1 : Int) (s : iS) : Ew hT w d 281 2 [(0, .ref (tb_nK + 108)), (1, iv v1)] [] s (Cv hT) (brd_settle_2 v1 s) := by
  unfold brd_settle_2
  refine e_lp (L := Int × iS) (E := iS) (LO := fun l => [(0, .ref (tb_nK + 108)), (1, iv (l.1))]) (LS := fun l => l.2) (CE := fun e r => ev w d 281 58 [] [] (hT (e)) r) (fun l => tbrd_settle_2b w d hd _ _) ?_ (v1, s)
  intro e
  show Ew hT w d 281 58 [] [] e (Cv hT) _
  exact e_retv em_281 (ce_at ce_281 36 rfl)
theorem fbrd_settle_2 (v1 : Int) (s : iS) : Fm Prod.snd L_brd_settle G_brd_settle s (brd_settle_2 v1 s) := by
  unfold brd_settle_2
  refine fm_lp (A := Int × iS) (E := iS) (LS := fun l => l.2) (LE := fun e => e) ?_ ?_ (v1, s)
  · exact fun l => fbrd_settle_2b _ _
  · exact (fun e => fm_some md_refl)
noncomputable def brd_settle (s : iS) : Option (Int × iS) := brd_settle_2 0 s
theorem tbrd_settle (w : ev_W) (d : Nat) (hd : 0 ≤ d) (s : iS) : Ew hT w d 281 0 [(0, .ref (tb_nK + 108))] [] s (Cv hT) (brd_settle s) := by
  unfold brd_settle
  refine e_op 1 em_281 (ce_at ce_281 0 rfl) rfl rfl ?_
  refine e_mv 2 em_281 (ce_at ce_281 1 rfl) rfl rfl ?_
  refine e_pk [0, 1] rfl rfl ?_
  exact tbrd_settle_2 w d hd _ _
theorem fbrd_settle (s : iS) : Fm Prod.snd L_brd_settle G_brd_settle s (brd_settle s) := fbrd_settle_2 _ _
/-! brd_build -/
def L_brd_build : List Nat := [109, 110, 111, 112, 113, 114, 115, 116, 117, 118, 119, 120]
def G_brd_build : List (Nat × Nat) := [(108, 14), (108, 15), (108, 16), (108, 17), (108, 18)]
noncomputable def brd_build (s : iS) : Option (Int × iS) := bd (brd_countGatesAndBits s) (fun _ s1 => bd (brd_lastChip s1) (fun r2 s2 => gd (0 ≤ r2 ∧ r2 < 18) (gd (rg (s2 109 r2.toNat)) (if 1500 < (s2 109 r2.toNat) then some (0, s2) else gd (rg (s2 110 r2.toNat)) (if (s2 110 r2.toNat) ≤ 40000 then bd (brd_wire r2 s2) (fun _ s8 => bd (brd_sortNands s8) (fun r9 s9 => gd (r9 = 0 ∨ r9 = 1) (lt' (up s9 108 18 r9) (fun s11 => bd (arr_fill 112 1694 0 s11) (fun _ s12 => lt' (up s12 112 1 1) (fun s13 => lt' (up s13 108 17 0) (fun s14 => bd (brd_settle s14) (fun _ s15 => gd ((s15 108 18) = 0 ∨ (s15 108 18) = 1) (some ((s15 108 18), s15)))))))))) else some (0, s2))))))
theorem tbrd_build (w : ev_W) (d : Nat) (hd : 25 ≤ d) (s : iS) : Ew hT w d 265 0 [(0, .ref (tb_nK + 108))] [] s (Ci hT) (brd_build s) := by
  unfold brd_build
  refine e_mv 1 em_265 (ce_at ce_265 0 rfl) rfl rfl ?_
  refine e_ivv 4 em_265 (ce_at ce_265 1 rfl) (by omega) (iv_v0 (by decide) tq_108 rfl) em_266 (Nat.le_of_ble_eq_true rfl) rfl (tbrd_countGatesAndBits w (d - 1) (by omega) _) (fun r1 s1 => ?_)
  refine e_mv 5 em_265 (ce_at ce_265 2 rfl) rfl rfl ?_
  refine e_ivi 8 em_265 (ce_at ce_265 3 rfl) (by omega) (iv_v0 (by decide) tq_108 rfl) em_267 (Nat.le_of_ble_eq_true rfl) rfl (tbrd_lastChip w (d - 1) (by omega) _) (fun r2 s2 => ?_)
  refine e_mv 9 em_265 (ce_at ce_265 4 rfl) rfl rfl ?_
  refine e_mv 10 em_265 (ce_at ce_265 5 rfl) rfl rfl ?_
  refine e_getr 13 em_265 (ce_at ce_265 6 rfl) tq_108 rfl rfl ?_
  refine e_mv 14 em_265 (ce_at ce_265 7 rfl) rfl rfl ?_
  refine e_gd fun g3 => ?_
  refine e_ild 15 em_265 (ce_at ce_265 8 rfl) tq_109 (by decide) g3 rfl ?_
  refine e_sip 18 em_265 (ce_at ce_265 9 rfl) (by decide) rfl ?_
  refine e_gd fun g4 => ?_
  refine e_cmgt 32 21 em_265 rfl rfl (ce_at ce_265 10 rfl) g4 (by decide) (fun h5 => ?_) (fun h5 => ?_)
  · refine e_op 33 em_265 (ce_at ce_265 17 rfl) rfl rfl ?_
    exact e_retz em_265 (ce_at ce_265 18 rfl) (by decide)
  · refine e_mv 22 em_265 (ce_at ce_265 11 rfl) rfl rfl ?_
    refine e_getr 25 em_265 (ce_at ce_265 12 rfl) tq_108 rfl rfl ?_
    refine e_mv 26 em_265 (ce_at ce_265 13 rfl) rfl rfl ?_
    refine e_ild 27 em_265 (ce_at ce_265 14 rfl) tq_110 (by decide) g3 rfl ?_
    refine e_ldc 29 em_265 (ce_at ce_265 15 rfl) (x := 40000) rfl rfl ?_
    refine e_gd fun g6 => ?_
    refine e_cmle 34 32 em_265 rfl rfl (ce_at ce_265 16 rfl) g6 (by decide) (fun h7 => ?_) (fun h7 => ?_)
    · refine e_mv 35 em_265 (ce_at ce_265 19 rfl) rfl rfl ?_
      refine e_mv 36 em_265 (ce_at ce_265 20 rfl) rfl rfl ?_
      refine e_ivv 39 em_265 (ce_at ce_265 21 rfl) (by omega) (iv_v1 (by decide) tq_108 rfl) em_268 (Nat.le_of_ble_eq_true rfl) rfl (tbrd_wire w (d - 1) (by omega) _ _) (fun r8 s8 => ?_)
      refine e_mv 40 em_265 (ce_at ce_265 22 rfl) rfl rfl ?_
      refine e_mv 41 em_265 (ce_at ce_265 23 rfl) rfl rfl ?_
      refine e_ivi 44 em_265 (ce_at ce_265 24 rfl) (by omega) (iv_v0 (by decide) tq_108 rfl) em_276 (Nat.le_of_ble_eq_true rfl) rfl (tbrd_sortNands w (d - 1) (by omega) _) (fun r9 s9 => ?_)
      refine e_gd fun g10 => ?_
      refine e_put 47 em_265 (ce_at ce_265 25 rfl) tq_108 rfl (fit_b rfl g10) rfl (fun s11 => ?_)
      refine e_mv 48 em_265 (ce_at ce_265 26 rfl) rfl rfl ?_
      refine e_getr 51 em_265 (ce_at ce_265 27 rfl) tq_108 rfl rfl ?_
      refine e_op 52 em_265 (ce_at ce_265 28 rfl) rfl rfl ?_
      refine e_ivv 55 em_265 (ce_at ce_265 29 rfl) (by omega) (iv_s2 rfl) em_142 (Nat.le_of_ble_eq_true rfl) rfl (tarr_fill hT w (d - 1) (by omega) 112 1694 tq_112 (by decide) _ _) (fun r12 s12 => ?_)
      refine e_mv 56 em_265 (ce_at ce_265 30 rfl) rfl rfl ?_
      refine e_getr 59 em_265 (ce_at ce_265 31 rfl) tq_108 rfl rfl ?_
      refine e_op 60 em_265 (ce_at ce_265 32 rfl) rfl rfl ?_
      refine e_op 61 em_265 (ce_at ce_265 33 rfl) rfl rfl ?_
      refine e_ist 62 em_265 (ce_at ce_265 34 rfl) tq_112 (by decide) (by decide) rfl (fun s13 => ?_)
      refine e_mv 63 em_265 (ce_at ce_265 35 rfl) rfl rfl ?_
      refine e_op 64 em_265 (ce_at ce_265 36 rfl) rfl rfl ?_
      refine e_put 67 em_265 (ce_at ce_265 37 rfl) tq_108 rfl rfl rfl (fun s14 => ?_)
      refine e_mv 68 em_265 (ce_at ce_265 38 rfl) rfl rfl ?_
      refine e_ivv 71 em_265 (ce_at ce_265 39 rfl) (by omega) (iv_v0 (by decide) tq_108 rfl) em_281 (Nat.le_of_ble_eq_true rfl) rfl (tbrd_settle w (d - 1) (by omega) _) (fun r15 s15 => ?_)
      refine e_mv 72 em_265 (ce_at ce_265 40 rfl) rfl rfl ?_
      refine e_get 75 em_265 (ce_at ce_265 41 rfl) tq_108 rfl rfl ?_
      refine e_gd fun g16 => ?_
      exact e_retz em_265 (ce_at ce_265 42 rfl) g16
    · refine e_op 33 em_265 (ce_at ce_265 17 rfl) rfl rfl ?_
      exact e_retz em_265 (ce_at ce_265 18 rfl) (by decide)
theorem fbrd_build (s : iS) : Fm Prod.snd L_brd_build G_brd_build s (brd_build s) := fm_bd (fm_sub (fbrd_countGatesAndBits _) (mem_sub_L rfl) (mem_sub_F rfl)) (fun r1 s1 => fm_bd (fm_sub (fbrd_lastChip _) (mem_sub_L rfl) (mem_sub_F rfl)) (fun r2 s2 => fm_gd (fm_gd (fm_if (fm_some md_refl) (fm_gd (fm_if (fm_bd (fm_sub (fbrd_wire _ _) (mem_sub_L rfl) (mem_sub_F rfl)) (fun r8 s8 => fm_bd (fm_sub (fbrd_sortNands _) (mem_sub_L rfl) (mem_sub_F rfl)) (fun r9 s9 => fm_gd (fm_lt (md_upF (mem_F rfl)) (fun s11 => fm_bd (fm_sub (farr_fill 112 1694 _ _) (mem_sub_L rfl) (mem_sub_F rfl)) (fun r12 s12 => fm_lt (md_upL (mem_L rfl)) (fun s13 => fm_lt (md_upF (mem_F rfl)) (fun s14 => fm_bd (fm_sub (fbrd_settle _) (mem_sub_L rfl) (mem_sub_F rfl)) (fun r15 s15 => fm_gd (fm_some md_refl)))))))))) (fm_some md_refl)))))))
/-! cck_checkPins -/
def L_cck_checkPins : List Nat := [91, 92, 93]
def G_cck_checkPins : List (Nat × Nat) := [(2, 13), (2, 14)]
def cck_checkPins_15C (w : ev_W) (d : Nat) (v1 : Int) (v3 : Int) : (Int × Int × iS) ⊕ (Int × iS) → am_E → Prop := fun q r => q.elim (fun l => ev w d 246 15 ((fun l => [(0, .ref (tb_nK + 90)), (1, iv v1), (2, iv (l.1)), (3, iv v3), (4, iv (l.2.1))]) l) [] (hT ((fun l => l.2.2) l)) r) (fun e => (fun e r => ev w d 246 185 [(0, .ref (tb_nK + 90)), (1, iv v1), (2, iv (e.1))] [] (hT (e.2)) r) e r)
noncomputable def cck_checkPins_161 (v1 : Int) (v2 : Int) (v3 : Int) (v4 : Int) (s : iS) : Option ((Int × Int × iS) ⊕ (Int × iS)) := gd (0 ≤ v4 ∧ v4 < 197) (lt' (up s 92 v4.toNat v2) (fun s2 => some (.inl ((v2 + (s2 91 v4.toNat)), (v4 + 1), s2))))
theorem tcck_checkPins_161 (w : ev_W) (d : Nat) (hd : 2 ≤ d) (v1 : Int) (v2 : Int) (v3 : Int) (v4 : Int) (s : iS) : Ew hT w d 246 161 [(0, .ref (tb_nK + 90)), (1, iv v1), (2, iv v2), (3, iv v3), (4, iv v4)] [] s (cck_checkPins_15C w d v1 v3) (cck_checkPins_161 v1 v2 v3 v4 s) := by
  unfold cck_checkPins_161
  refine e_mv 162 em_246 (ce_at ce_246 88 rfl) rfl rfl ?_
  refine e_getr 165 em_246 (ce_at ce_246 89 rfl) tq_90 rfl rfl ?_
  refine e_mv 167 em_246 (ce_at ce_246 90 rfl) rfl rfl ?_
  refine e_mv 168 em_246 (ce_at ce_246 91 rfl) rfl rfl ?_
  refine e_gd fun g1 => ?_
  refine e_ist 169 em_246 (ce_at ce_246 92 rfl) tq_92 (by decide) g1 rfl (fun s2 => ?_)
  refine e_mv 170 em_246 (ce_at ce_246 93 rfl) rfl rfl ?_
  refine e_mv 171 em_246 (ce_at ce_246 94 rfl) rfl rfl ?_
  refine e_getr 174 em_246 (ce_at ce_246 95 rfl) tq_90 rfl rfl ?_
  refine e_mv 176 em_246 (ce_at ce_246 96 rfl) rfl rfl ?_
  refine e_ild 177 em_246 (ce_at ce_246 97 rfl) tq_91 (by decide) g1 rfl ?_
  refine e_iadd 178 em_246 rfl (ce_at ce_246 98 rfl) ?_
  refine e_mv 179 em_246 (ce_at ce_246 99 rfl) rfl rfl ?_
  refine e_iinc 182 em_246 (ce_at ce_246 100 rfl) rfl (by decide) rfl ?_
  refine e_goto em_246 15 (ce_at ce_246 101 rfl) rfl ?_
  refine e_pk [0, 1, 2, 3, 4] rfl rfl ?_
  exact e_out (fun r h => h)
theorem fcck_checkPins_161 (v1 : Int) (v2 : Int) (v3 : Int) (v4 : Int) (s : iS) : Fm (fun r : (Int × Int × iS) ⊕ (Int × iS) => r.elim (fun l => l.2.2) (fun e => e.2)) L_cck_checkPins G_cck_checkPins s (cck_checkPins_161 v1 v2 v3 v4 s) := fm_gd (fm_lt (md_upL (mem_L rfl)) (fun s2 => fm_some md_refl))
noncomputable def cck_checkPins_141 (v1 : Int) (v2 : Int) (v3 : Int) (v4 : Int) (v5 : Int) (s : iS) : Option ((Int × Int × iS) ⊕ (Int × iS)) := bd (tok_blame 5 (v5 + 2) s) (fun _ s1 => gd (0 ≤ v4 ∧ v4 < 197) (lt' (up s1 91 v4.toNat 1) (fun s3 => cck_checkPins_161 v1 v2 v3 v4 s3)))
theorem tcck_checkPins_141 (w : ev_W) (d : Nat) (hd : 2 ≤ d) (v1 : Int) (v2 : Int) (v3 : Int) (v4 : Int) (v5 : Int) (s : iS) : Ew hT w d 246 141 [(0, .ref (tb_nK + 90)), (1, iv v1), (2, iv v2), (3, iv v3), (4, iv v4), (5, iv v5)] [] s (cck_checkPins_15C w d v1 v3) (cck_checkPins_141 v1 v2 v3 v4 v5 s) := by
  unfold cck_checkPins_141
  refine e_mv 142 em_246 (ce_at ce_246 76 rfl) rfl rfl ?_
  refine e_getr 145 em_246 (ce_at ce_246 77 rfl) tq_90 rfl rfl ?_
  refine e_op 146 em_246 (ce_at ce_246 78 rfl) rfl rfl ?_
  refine e_mv 148 em_246 (ce_at ce_246 79 rfl) rfl rfl ?_
  refine e_op 149 em_246 (ce_at ce_246 80 rfl) rfl rfl ?_
  refine e_iadd 150 em_246 rfl (ce_at ce_246 81 rfl) ?_
  refine e_ivv 153 em_246 (ce_at ce_246 82 rfl) (by omega) (iv_v2 (by decide) tq_2 rfl) em_77 (Nat.le_of_ble_eq_true rfl) rfl (ttok_blame w (d - 1) (by omega) _ _ _) (fun r1 s1 => ?_)
  refine e_mv 154 em_246 (ce_at ce_246 83 rfl) rfl rfl ?_
  refine e_getr 157 em_246 (ce_at ce_246 84 rfl) tq_90 rfl rfl ?_
  refine e_mv 159 em_246 (ce_at ce_246 85 rfl) rfl rfl ?_
  refine e_op 160 em_246 (ce_at ce_246 86 rfl) rfl rfl ?_
  refine e_gd fun g2 => ?_
  refine e_ist 161 em_246 (ce_at ce_246 87 rfl) tq_91 (by decide) g2 rfl (fun s3 => ?_)
  refine e_pk [0, 1, 2, 3, 4] rfl rfl ?_
  exact tcck_checkPins_161 w d hd _ _ _ _ _
theorem fcck_checkPins_141 (v1 : Int) (v2 : Int) (v3 : Int) (v4 : Int) (v5 : Int) (s : iS) : Fm (fun r : (Int × Int × iS) ⊕ (Int × iS) => r.elim (fun l => l.2.2) (fun e => e.2)) L_cck_checkPins G_cck_checkPins s (cck_checkPins_141 v1 v2 v3 v4 v5 s) := fm_bd (fm_sub (ftok_blame _ _ _) (mem_sub_L rfl) (mem_sub_F rfl)) (fun r1 s1 => fm_gd (fm_lt (md_upL (mem_L rfl)) (fun s3 => fcck_checkPins_161 _ _ _ _ _)))
noncomputable def cck_checkPins_118 (v1 : Int) (v2 : Int) (v3 : Int) (v4 : Int) (v5 : Int) (s : iS) : Option ((Int × Int × iS) ⊕ (Int × iS)) := gd (0 ≤ v4 ∧ v4 < 197) (gd (rg (s 91 v4.toNat)) (if (s 91 v4.toNat) < 1 then cck_checkPins_141 v1 v2 v3 v4 v5 s else if (s 91 v4.toNat) ≤ 16 then cck_checkPins_161 v1 v2 v3 v4 s else cck_checkPins_141 v1 v2 v3 v4 v5 s))
theorem tcck_checkPins_118 (w : ev_W) (d : Nat) (hd : 2 ≤ d) (v1 : Int) (v2 : Int) (v3 : Int) (v4 : Int) (v5 : Int) (s : iS) : Ew hT w d 246 118 [(0, .ref (tb_nK + 90)), (1, iv v1), (2, iv v2), (3, iv v3), (4, iv v4), (5, iv v5)] [] s (cck_checkPins_15C w d v1 v3) (cck_checkPins_118 v1 v2 v3 v4 v5 s) := by
  unfold cck_checkPins_118
  refine e_mv 119 em_246 (ce_at ce_246 64 rfl) rfl rfl ?_
  refine e_getr 122 em_246 (ce_at ce_246 65 rfl) tq_90 rfl rfl ?_
  refine e_mv 124 em_246 (ce_at ce_246 66 rfl) rfl rfl ?_
  refine e_gd fun g1 => ?_
  refine e_ild 125 em_246 (ce_at ce_246 67 rfl) tq_91 (by decide) g1 rfl ?_
  refine e_op 126 em_246 (ce_at ce_246 68 rfl) rfl rfl ?_
  refine e_gd fun g2 => ?_
  refine e_cmlt 141 129 em_246 rfl rfl (ce_at ce_246 69 rfl) g2 (by decide) (fun h3 => ?_) (fun h3 => ?_)
  · refine e_pk [0, 1, 2, 3, 4, 5] rfl rfl ?_
    exact tcck_checkPins_141 w d hd _ _ _ _ _ _
  · refine e_mv 130 em_246 (ce_at ce_246 70 rfl) rfl rfl ?_
    refine e_getr 133 em_246 (ce_at ce_246 71 rfl) tq_90 rfl rfl ?_
    refine e_mv 135 em_246 (ce_at ce_246 72 rfl) rfl rfl ?_
    refine e_ild 136 em_246 (ce_at ce_246 73 rfl) tq_91 (by decide) g1 rfl ?_
    refine e_bip 138 em_246 (ce_at ce_246 74 rfl) (by decide) rfl ?_
    refine e_cmle 161 141 em_246 rfl rfl (ce_at ce_246 75 rfl) g2 (by decide) (fun h4 => ?_) (fun h4 => ?_)
    · refine e_pk [0, 1, 2, 3, 4] rfl rfl ?_
      exact tcck_checkPins_161 w d hd _ _ _ _ _
    · refine e_pk [0, 1, 2, 3, 4, 5] rfl rfl ?_
      exact tcck_checkPins_141 w d hd _ _ _ _ _ _
theorem fcck_checkPins_118 (v1 : Int) (v2 : Int) (v3 : Int) (v4 : Int) (v5 : Int) (s : iS) : Fm (fun r : (Int × Int × iS) ⊕ (Int × iS) => r.elim (fun l => l.2.2) (fun e => e.2)) L_cck_checkPins G_cck_checkPins s (cck_checkPins_118 v1 v2 v3 v4 v5 s) := fm_gd (fm_gd (fm_if (fcck_checkPins_141 _ _ _ _ _ _) (fm_if (fcck_checkPins_161 _ _ _ _ _) (fcck_checkPins_141 _ _ _ _ _ _))))
noncomputable def cck_checkPins_76 (v1 : Int) (v2 : Int) (v3 : Int) (v4 : Int) (v5 : Int) (s : iS) : Option ((Int × Int × iS) ⊕ (Int × iS)) := gd (0 ≤ v4 ∧ v4 < 197) (lt' (up s 91 v4.toNat 1) (fun s2 => bd (tok_kindOf (v5 + 1) s2) (fun r3 s3 => gd (rg r3) (if r3 = 91 then bd (tok_valueOf (v5 + 2) s3) (fun r6 s6 => lt' (up s6 91 v4.toNat r6) (fun s7 => cck_checkPins_118 v1 v2 v3 v4 v5 s7)) else cck_checkPins_118 v1 v2 v3 v4 v5 s3))))
theorem tcck_checkPins_76 (w : ev_W) (d : Nat) (hd : 2 ≤ d) (v1 : Int) (v2 : Int) (v3 : Int) (v4 : Int) (v5 : Int) (s : iS) : Ew hT w d 246 76 [(0, .ref (tb_nK + 90)), (1, iv v1), (2, iv v2), (3, iv v3), (4, iv v4), (5, iv v5)] [] s (cck_checkPins_15C w d v1 v3) (cck_checkPins_76 v1 v2 v3 v4 v5 s) := by
  unfold cck_checkPins_76
  refine e_mv 77 em_246 (ce_at ce_246 41 rfl) rfl rfl ?_
  refine e_getr 80 em_246 (ce_at ce_246 42 rfl) tq_90 rfl rfl ?_
  refine e_mv 82 em_246 (ce_at ce_246 43 rfl) rfl rfl ?_
  refine e_op 83 em_246 (ce_at ce_246 44 rfl) rfl rfl ?_
  refine e_gd fun g1 => ?_
  refine e_ist 84 em_246 (ce_at ce_246 45 rfl) tq_91 (by decide) g1 rfl (fun s2 => ?_)
  refine e_mv 85 em_246 (ce_at ce_246 46 rfl) rfl rfl ?_
  refine e_getr 88 em_246 (ce_at ce_246 47 rfl) tq_90 rfl rfl ?_
  refine e_mv 90 em_246 (ce_at ce_246 48 rfl) rfl rfl ?_
  refine e_op 91 em_246 (ce_at ce_246 49 rfl) rfl rfl ?_
  refine e_iadd 92 em_246 rfl (ce_at ce_246 50 rfl) ?_
  refine e_ivi 95 em_246 (ce_at ce_246 51 rfl) (by omega) (iv_v1 (by decide) tq_2 rfl) em_112 (Nat.le_of_ble_eq_true rfl) rfl (ttok_kindOf w (d - 1) (by omega) _ _) (fun r3 s3 => ?_)
  refine e_bip 97 em_246 (ce_at ce_246 52 rfl) (by decide) rfl ?_
  refine e_gd fun g4 => ?_
  refine e_cmne 118 100 em_246 rfl rfl (ce_at ce_246 53 rfl) g4 (by decide) (fun h5 => ?_) (fun h5 => ?_)
  · refine e_pk [0, 1, 2, 3, 4, 5] rfl rfl ?_
    exact tcck_checkPins_118 w d hd _ _ _ _ _ _
  · refine e_mv 101 em_246 (ce_at ce_246 54 rfl) rfl rfl ?_
    refine e_getr 104 em_246 (ce_at ce_246 55 rfl) tq_90 rfl rfl ?_
    refine e_mv 106 em_246 (ce_at ce_246 56 rfl) rfl rfl ?_
    refine e_mv 107 em_246 (ce_at ce_246 57 rfl) rfl rfl ?_
    refine e_getr 110 em_246 (ce_at ce_246 58 rfl) tq_90 rfl rfl ?_
    refine e_mv 112 em_246 (ce_at ce_246 59 rfl) rfl rfl ?_
    refine e_op 113 em_246 (ce_at ce_246 60 rfl) rfl rfl ?_
    refine e_iadd 114 em_246 rfl (ce_at ce_246 61 rfl) ?_
    refine e_ivi 117 em_246 (ce_at ce_246 62 rfl) (by omega) (iv_v1 (by decide) tq_2 rfl) em_122 (Nat.le_of_ble_eq_true rfl) rfl (ttok_valueOf w (d - 1) (by omega) _ _) (fun r6 s6 => ?_)
    refine e_ist 118 em_246 (ce_at ce_246 63 rfl) tq_91 (by decide) g1 rfl (fun s7 => ?_)
    refine e_pk [0, 1, 2, 3, 4, 5] rfl rfl ?_
    exact tcck_checkPins_118 w d hd _ _ _ _ _ _
theorem fcck_checkPins_76 (v1 : Int) (v2 : Int) (v3 : Int) (v4 : Int) (v5 : Int) (s : iS) : Fm (fun r : (Int × Int × iS) ⊕ (Int × iS) => r.elim (fun l => l.2.2) (fun e => e.2)) L_cck_checkPins G_cck_checkPins s (cck_checkPins_76 v1 v2 v3 v4 v5 s) := fm_gd (fm_lt (md_upL (mem_L rfl)) (fun s2 => fm_bd (fm_sub (ftok_kindOf _ _) (mem_sub_L rfl) (mem_sub_F rfl)) (fun r3 s3 => fm_gd (fm_if (fm_bd (fm_sub (ftok_valueOf _ _) (mem_sub_L rfl) (mem_sub_F rfl)) (fun r6 s6 => fm_lt (md_upL (mem_L rfl)) (fun s7 => fcck_checkPins_118 _ _ _ _ _ _))) (fcck_checkPins_118 _ _ _ _ _ _)))))
noncomputable def cck_checkPins_15b (v1 : Int) (v2 : Int) (v3 : Int) (v4 : Int) (s : iS) : Option ((Int × Int × iS) ⊕ (Int × iS)) := gd (0 ≤ (v1 + 1) ∧ (v1 + 1) < 19) (gd (rg v4) (gd (rg (s 76 (v1 + 1).toNat)) (if (s 76 (v1 + 1).toNat) ≤ v4 then some (.inr (v2, s)) else gd (0 ≤ v4 ∧ v4 < 197) (bd (tok_findIn 79 80 81 197 (s 82 v4.toNat) v3 v4 s) (fun r6 s6 => gd (rg r6) (if r6 = (-1) then cck_checkPins_76 v1 v2 v3 v4 (s 82 v4.toNat) s6 else bd (tok_blame 3 (s 82 v4.toNat) s6) (fun _ s9 => cck_checkPins_76 v1 v2 v3 v4 (s 82 v4.toNat) s9)))))))
theorem tcck_checkPins_15b (w : ev_W) (d : Nat) (hd : 2 ≤ d) (v1 : Int) (v2 : Int) (v3 : Int) (v4 : Int) (s : iS) : Ew hT w d 246 15 [(0, .ref (tb_nK + 90)), (1, iv v1), (2, iv v2), (3, iv v3), (4, iv v4)] [] s (cck_checkPins_15C w d v1 v3) (cck_checkPins_15b v1 v2 v3 v4 s) := by
  unfold cck_checkPins_15b
  refine e_mv 17 em_246 (ce_at ce_246 10 rfl) rfl rfl ?_
  refine e_mv 18 em_246 (ce_at ce_246 11 rfl) rfl rfl ?_
  refine e_getr 21 em_246 (ce_at ce_246 12 rfl) tq_90 rfl rfl ?_
  refine e_getr 24 em_246 (ce_at ce_246 13 rfl) tq_71 rfl rfl ?_
  refine e_mv 25 em_246 (ce_at ce_246 14 rfl) rfl rfl ?_
  refine e_op 26 em_246 (ce_at ce_246 15 rfl) rfl rfl ?_
  refine e_iadd 27 em_246 rfl (ce_at ce_246 16 rfl) ?_
  refine e_gd fun g1 => ?_
  refine e_ild 28 em_246 (ce_at ce_246 17 rfl) tq_76 (by decide) g1 rfl ?_
  refine e_gd fun g2 => ?_
  refine e_gd fun g3 => ?_
  refine e_cmge 185 31 em_246 rfl rfl (ce_at ce_246 18 rfl) g2 g3 (fun h4 => ?_) (fun h4 => ?_)
  · refine e_pk [0, 1, 2] rfl rfl ?_
    exact e_out (fun r h => h)
  · refine e_mv 32 em_246 (ce_at ce_246 19 rfl) rfl rfl ?_
    refine e_getr 35 em_246 (ce_at ce_246 20 rfl) tq_90 rfl rfl ?_
    refine e_getr 38 em_246 (ce_at ce_246 21 rfl) tq_71 rfl rfl ?_
    refine e_mv 40 em_246 (ce_at ce_246 22 rfl) rfl rfl ?_
    refine e_gd fun g5 => ?_
    refine e_ild 41 em_246 (ce_at ce_246 23 rfl) tq_82 (by decide) g5 rfl ?_
    refine e_mv 43 em_246 (ce_at ce_246 24 rfl) rfl rfl ?_
    refine e_mv 44 em_246 (ce_at ce_246 25 rfl) rfl rfl ?_
    refine e_getr 47 em_246 (ce_at ce_246 26 rfl) tq_90 rfl rfl ?_
    refine e_mv 48 em_246 (ce_at ce_246 27 rfl) rfl rfl ?_
    refine e_getr 51 em_246 (ce_at ce_246 28 rfl) tq_90 rfl rfl ?_
    refine e_getr 54 em_246 (ce_at ce_246 29 rfl) tq_71 rfl rfl ?_
    refine e_mv 56 em_246 (ce_at ce_246 30 rfl) rfl rfl ?_
    refine e_mv 57 em_246 (ce_at ce_246 31 rfl) rfl rfl ?_
    refine e_mv 59 em_246 (ce_at ce_246 32 rfl) rfl rfl ?_
    refine e_ivi 62 em_246 (ce_at ce_246 33 rfl) (by omega) (iv_v4 (by decide) tq_2 rfl) em_76 (Nat.le_of_ble_eq_true rfl) rfl (ttok_findIn w (d - 1) (by omega) 79 80 81 197 tq_79 tq_80 tq_81 (by decide) _ _ _ _) (fun r6 s6 => ?_)
    refine e_op 63 em_246 (ce_at ce_246 34 rfl) rfl rfl ?_
    refine e_gd fun g7 => ?_
    refine e_cmeq 76 66 em_246 rfl rfl (ce_at ce_246 35 rfl) g7 (by decide) (fun h8 => ?_) (fun h8 => ?_)
    · refine e_pk [0, 1, 2, 3, 4, 5] rfl rfl ?_
      exact tcck_checkPins_76 w d hd _ _ _ _ _ _
    · refine e_mv 67 em_246 (ce_at ce_246 36 rfl) rfl rfl ?_
      refine e_getr 70 em_246 (ce_at ce_246 37 rfl) tq_90 rfl rfl ?_
      refine e_op 71 em_246 (ce_at ce_246 38 rfl) rfl rfl ?_
      refine e_mv 73 em_246 (ce_at ce_246 39 rfl) rfl rfl ?_
      refine e_ivv 76 em_246 (ce_at ce_246 40 rfl) (by omega) (iv_v2 (by decide) tq_2 rfl) em_77 (Nat.le_of_ble_eq_true rfl) rfl (ttok_blame w (d - 1) (by omega) _ _ _) (fun r9 s9 => ?_)
      refine e_pk [0, 1, 2, 3, 4, 5] rfl rfl ?_
      exact tcck_checkPins_76 w d hd _ _ _ _ _ _
theorem fcck_checkPins_15b (v1 : Int) (v2 : Int) (v3 : Int) (v4 : Int) (s : iS) : Fm (fun r : (Int × Int × iS) ⊕ (Int × iS) => r.elim (fun l => l.2.2) (fun e => e.2)) L_cck_checkPins G_cck_checkPins s (cck_checkPins_15b v1 v2 v3 v4 s) := fm_gd (fm_gd (fm_gd (fm_if (fm_some md_refl) (fm_gd (fm_bd (fm_sub (ftok_findIn 79 80 81 197 _ _ _ _) (mem_sub_L rfl) (mem_sub_F rfl)) (fun r6 s6 => fm_gd (fm_if (fcck_checkPins_76 _ _ _ _ _ _) (fm_bd (fm_sub (ftok_blame _ _ _) (mem_sub_L rfl) (mem_sub_F rfl)) (fun r9 s9 => fcck_checkPins_76 _ _ _ _ _ _)))))))))
noncomputable def cck_checkPins_185 (v1 : Int) (v2 : Int) (s : iS) : Option (Int × iS) := gd (0 ≤ v1 ∧ v1 < 18) (lt' (up s 93 v1.toNat v2) (fun s2 => some (0, s2)))
theorem tcck_checkPins_185 (w : ev_W) (d : Nat) (hd : 2 ≤ d) (v1 : Int) (v2 : Int) (s : iS) : Ew hT w d 246 185 [(0, .ref (tb_nK + 90)), (1, iv v1), (2, iv v2)] [] s (Cv hT) (cck_checkPins_185 v1 v2 s) := by
  unfold cck_checkPins_185
  refine e_mv 186 em_246 (ce_at ce_246 102 rfl) rfl rfl ?_
  refine e_getr 189 em_246 (ce_at ce_246 103 rfl) tq_90 rfl rfl ?_
  refine e_mv 190 em_246 (ce_at ce_246 104 rfl) rfl rfl ?_
  refine e_mv 191 em_246 (ce_at ce_246 105 rfl) rfl rfl ?_
  refine e_gd fun g1 => ?_
  refine e_ist 192 em_246 (ce_at ce_246 106 rfl) tq_93 (by decide) g1 rfl (fun s2 => ?_)
  exact e_retv em_246 (ce_at ce_246 107 rfl)
theorem fcck_checkPins_185 (v1 : Int) (v2 : Int) (s : iS) : Fm Prod.snd L_cck_checkPins G_cck_checkPins s (cck_checkPins_185 v1 v2 s) := fm_gd (fm_lt (md_upL (mem_L rfl)) (fun s2 => fm_some md_refl))
noncomputable def cck_checkPins_15 (v1 : Int) (v2 : Int) (v3 : Int) (v4 : Int) (s : iS) : Option (Int × iS) := (lp (L := Int × Int × iS) (E := Int × iS) (fun l => cck_checkPins_15b v1 (l.1) v3 (l.2.1) (l.2.2)) (v2, v4, s)).bind (fun e => cck_checkPins_185 v1 (e.1) (e.2))
theorem tcck_checkPins_15 (w : ev_W) (d : Nat) (hd : 2 ≤ d) (v1 : Int) (v2 : Int) (v3 : Int) (v4 : Int) (s : iS) : Ew hT w d 246 15 [(0, .ref (tb_nK + 90)), (1, iv v1), (2, iv v2), (3, iv v3), (4, iv v4)] [] s (Cv hT) (cck_checkPins_15 v1 v2 v3 v4 s) := by
  unfold cck_checkPins_15
  refine e_lp (L := Int × Int × iS) (E := Int × iS) (LO := fun l => [(0, .ref (tb_nK + 90)), (1, iv v1), (2, iv (l.1)), (3, iv v3), (4, iv (l.2.1))]) (LS := fun l => l.2.2) (CE := fun e r => ev w d 246 185 [(0, .ref (tb_nK + 90)), (1, iv v1), (2, iv (e.1))] [] (hT (e.2)) r) (fun l => tcck_checkPins_15b w d hd _ _ _ _ _) ?_ (v2, v4, s)
  intro e
  show Ew hT w d 246 185 [(0, .ref (tb_nK + 90)), (1, iv v1), (2, iv (e.1))] [] e.2 (Cv hT) _
  refine e_pk [0, 1, 2] rfl rfl ?_
  exact tcck_checkPins_185 w d hd _ _ _
theorem fcck_checkPins_15 (v1 : Int) (v2 : Int) (v3 : Int) (v4 : Int) (s : iS) : Fm Prod.snd L_cck_checkPins G_cck_checkPins s (cck_checkPins_15 v1 v2 v3 v4 s) := by
  unfold cck_checkPins_15
  refine fm_lp (A := Int × Int × iS) (E := Int × iS) (LS := fun l => l.2.2) (LE := fun e => e.2) ?_ ?_ (v2, v4, s)
  · exact fun l => fcck_checkPins_15b _ _ _ _ _
  · exact (fun e => fcck_checkPins_185 _ _ _)
noncomputable def cck_checkPins (v1 : Int) (s : iS) : Option (Int × iS) := gd (0 ≤ v1 ∧ v1 < 19) (cck_checkPins_15 v1 0 (s 76 v1.toNat) (s 76 v1.toNat) s)
theorem tcck_checkPins (w : ev_W) (d : Nat) (hd : 2 ≤ d) (v1 : Int) (s : iS) : Ew hT w d 246 0 [(0, .ref (tb_nK + 90)), (1, iv v1)] [] s (Cv hT) (cck_checkPins v1 s) := by
  unfold cck_checkPins
  refine e_op 1 em_246 (ce_at ce_246 0 rfl) rfl rfl ?_
  refine e_mv 2 em_246 (ce_at ce_246 1 rfl) rfl rfl ?_
  refine e_mv 3 em_246 (ce_at ce_246 2 rfl) rfl rfl ?_
  refine e_getr 6 em_246 (ce_at ce_246 3 rfl) tq_90 rfl rfl ?_
  refine e_getr 9 em_246 (ce_at ce_246 4 rfl) tq_71 rfl rfl ?_
  refine e_mv 10 em_246 (ce_at ce_246 5 rfl) rfl rfl ?_
  refine e_gd fun g1 => ?_
  refine e_ild 11 em_246 (ce_at ce_246 6 rfl) tq_76 (by decide) g1 rfl ?_
  refine e_mv 12 em_246 (ce_at ce_246 7 rfl) rfl rfl ?_
  refine e_mv 13 em_246 (ce_at ce_246 8 rfl) rfl rfl ?_
  refine e_mv 15 em_246 (ce_at ce_246 9 rfl) rfl rfl ?_
  refine e_pk [0, 1, 2, 3, 4] rfl rfl ?_
  exact tcck_checkPins_15 w d hd _ _ _ _ _
theorem fcck_checkPins (v1 : Int) (s : iS) : Fm Prod.snd L_cck_checkPins G_cck_checkPins s (cck_checkPins v1 s) := fm_gd (fcck_checkPins_15 _ _ _ _ _)
/-! cck_findParts -/
def L_cck_findParts : List Nat := [94]
def G_cck_findParts : List (Nat × Nat) := [(2, 13), (2, 14)]
def cck_findParts_10C (w : ev_W) (d : Nat) (v1 : Int) : (Int × iS) ⊕ (iS) → am_E → Prop := fun q r => q.elim (fun l => ev w d 247 10 ((fun l => [(0, .ref (tb_nK + 90)), (1, iv v1), (2, iv (l.1))]) l) [] (hT ((fun l => l.2) l)) r) (fun e => (fun e r => ev w d 247 90 [] [] (hT (e)) r) e r)
noncomputable def cck_findParts_10b (v1 : Int) (v2 : Int) (s : iS) : Option ((Int × iS) ⊕ (iS)) := gd (0 ≤ (v1 + 1) ∧ (v1 + 1) < 19) (gd (rg v2) (gd (rg (s 78 (v1 + 1).toNat)) (if (s 78 (v1 + 1).toNat) ≤ v2 then some (.inr s) else gd (0 ≤ v2 ∧ v2 < 384) (bd (tok_findIn 72 73 74 18 (s 83 v2.toNat) 0 18 s) (fun r6 s6 => lt' (up s6 94 v2.toNat r6) (fun s7 => gd (rg (s7 94 v2.toNat)) (if (s7 94 v2.toNat) = (-1) then bd (tok_blame 4 (s7 83 v2.toNat) s7) (fun _ s10 => some (.inl ((v2 + 1), s10))) else some (.inl ((v2 + 1), s7)))))))))
theorem tcck_findParts_10b (w : ev_W) (d : Nat) (hd : 2 ≤ d) (v1 : Int) (v2 : Int) (s : iS) : Ew hT w d 247 10 [(0, .ref (tb_nK + 90)), (1, iv v1), (2, iv v2)] [] s (cck_findParts_10C w d v1) (cck_findParts_10b v1 v2 s) := by
  unfold cck_findParts_10b
  refine e_mv 11 em_247 (ce_at ce_247 6 rfl) rfl rfl ?_
  refine e_mv 12 em_247 (ce_at ce_247 7 rfl) rfl rfl ?_
  refine e_getr 15 em_247 (ce_at ce_247 8 rfl) tq_90 rfl rfl ?_
  refine e_getr 18 em_247 (ce_at ce_247 9 rfl) tq_71 rfl rfl ?_
  refine e_mv 19 em_247 (ce_at ce_247 10 rfl) rfl rfl ?_
  refine e_op 20 em_247 (ce_at ce_247 11 rfl) rfl rfl ?_
  refine e_iadd 21 em_247 rfl (ce_at ce_247 12 rfl) ?_
  refine e_gd fun g1 => ?_
  refine e_ild 22 em_247 (ce_at ce_247 13 rfl) tq_78 (by decide) g1 rfl ?_
  refine e_gd fun g2 => ?_
  refine e_gd fun g3 => ?_
  refine e_cmge 90 25 em_247 rfl rfl (ce_at ce_247 14 rfl) g2 g3 (fun h4 => ?_) (fun h4 => ?_)
  · refine e_pk [] rfl rfl ?_
    exact e_out (fun r h => h)
  · refine e_mv 26 em_247 (ce_at ce_247 15 rfl) rfl rfl ?_
    refine e_getr 29 em_247 (ce_at ce_247 16 rfl) tq_90 rfl rfl ?_
    refine e_mv 30 em_247 (ce_at ce_247 17 rfl) rfl rfl ?_
    refine e_mv 31 em_247 (ce_at ce_247 18 rfl) rfl rfl ?_
    refine e_getr 34 em_247 (ce_at ce_247 19 rfl) tq_90 rfl rfl ?_
    refine e_mv 35 em_247 (ce_at ce_247 20 rfl) rfl rfl ?_
    refine e_getr 38 em_247 (ce_at ce_247 21 rfl) tq_90 rfl rfl ?_
    refine e_getr 41 em_247 (ce_at ce_247 22 rfl) tq_71 rfl rfl ?_
    refine e_mv 42 em_247 (ce_at ce_247 23 rfl) rfl rfl ?_
    refine e_getr 45 em_247 (ce_at ce_247 24 rfl) tq_90 rfl rfl ?_
    refine e_getr 48 em_247 (ce_at ce_247 25 rfl) tq_71 rfl rfl ?_
    refine e_mv 49 em_247 (ce_at ce_247 26 rfl) rfl rfl ?_
    refine e_gd fun g5 => ?_
    refine e_ild 50 em_247 (ce_at ce_247 27 rfl) tq_83 (by decide) g5 rfl ?_
    refine e_op 51 em_247 (ce_at ce_247 28 rfl) rfl rfl ?_
    refine e_bip 53 em_247 (ce_at ce_247 29 rfl) (by decide) rfl ?_
    refine e_ivi 56 em_247 (ce_at ce_247 30 rfl) (by omega) (iv_v4 (by decide) tq_2 rfl) em_76 (Nat.le_of_ble_eq_true rfl) rfl (ttok_findIn w (d - 1) (by omega) 72 73 74 18 tq_72 tq_73 tq_74 (by decide) _ _ _ _) (fun r6 s6 => ?_)
    refine e_ist 57 em_247 (ce_at ce_247 31 rfl) tq_94 (by decide) g5 rfl (fun s7 => ?_)
    refine e_mv 58 em_247 (ce_at ce_247 32 rfl) rfl rfl ?_
    refine e_getr 61 em_247 (ce_at ce_247 33 rfl) tq_90 rfl rfl ?_
    refine e_mv 62 em_247 (ce_at ce_247 34 rfl) rfl rfl ?_
    refine e_ild 63 em_247 (ce_at ce_247 35 rfl) tq_94 (by decide) g5 rfl ?_
    refine e_op 64 em_247 (ce_at ce_247 36 rfl) rfl rfl ?_
    refine e_gd fun g8 => ?_
    refine e_cmne 84 67 em_247 rfl rfl (ce_at ce_247 37 rfl) g8 (by decide) (fun h9 => ?_) (fun h9 => ?_)
    · refine e_iinc 87 em_247 (ce_at ce_247 47 rfl) rfl (by decide) rfl ?_
      refine e_goto em_247 10 (ce_at ce_247 48 rfl) rfl ?_
      refine e_pk [0, 1, 2] rfl rfl ?_
      exact e_out (fun r h => h)
    · refine e_mv 68 em_247 (ce_at ce_247 38 rfl) rfl rfl ?_
      refine e_getr 71 em_247 (ce_at ce_247 39 rfl) tq_90 rfl rfl ?_
      refine e_op 72 em_247 (ce_at ce_247 40 rfl) rfl rfl ?_
      refine e_mv 73 em_247 (ce_at ce_247 41 rfl) rfl rfl ?_
      refine e_getr 76 em_247 (ce_at ce_247 42 rfl) tq_90 rfl rfl ?_
      refine e_getr 79 em_247 (ce_at ce_247 43 rfl) tq_71 rfl rfl ?_
      refine e_mv 80 em_247 (ce_at ce_247 44 rfl) rfl rfl ?_
      refine e_ild 81 em_247 (ce_at ce_247 45 rfl) tq_83 (by decide) g5 rfl ?_
      refine e_ivv 84 em_247 (ce_at ce_247 46 rfl) (by omega) (iv_v2 (by decide) tq_2 rfl) em_77 (Nat.le_of_ble_eq_true rfl) rfl (ttok_blame w (d - 1) (by omega) _ _ _) (fun r10 s10 => ?_)
      refine e_iinc 87 em_247 (ce_at ce_247 47 rfl) rfl (by decide) rfl ?_
      refine e_goto em_247 10 (ce_at ce_247 48 rfl) rfl ?_
      refine e_pk [0, 1, 2] rfl rfl ?_
      exact e_out (fun r h => h)
theorem fcck_findParts_10b (v1 : Int) (v2 : Int) (s : iS) : Fm (fun r : (Int × iS) ⊕ (iS) => r.elim (fun l => l.2) (fun e => e)) L_cck_findParts G_cck_findParts s (cck_findParts_10b v1 v2 s) := fm_gd (fm_gd (fm_gd (fm_if (fm_some md_refl) (fm_gd (fm_bd (fm_sub (ftok_findIn 72 73 74 18 _ _ _ _) (mem_sub_L rfl) (mem_sub_F rfl)) (fun r6 s6 => fm_lt (md_upL (mem_L rfl)) (fun s7 => fm_gd (fm_if (fm_bd (fm_sub (ftok_blame _ _ _) (mem_sub_L rfl) (mem_sub_F rfl)) (fun r10 s10 => fm_some md_refl)) (fm_some md_refl)))))))))
noncomputable def cck_findParts_10 (v1 : Int) (v2 : Int) (s : iS) : Option (Int × iS) := (lp (L := Int × iS) (E := iS) (fun l => cck_findParts_10b v1 (l.1) (l.2)) (v2, s)).bind (fun e => some (0, e))
theorem tcck_findParts_10 (w : ev_W) (d : Nat) (hd : 2 ≤ d) (v1 : Int) (v2 : Int) (s : iS) : Ew hT w d 247 10 [(0, .ref (tb_nK + 90)), (1, iv v1), (2, iv v2)] [] s (Cv hT) (cck_findParts_10 v1 v2 s) := by
  unfold cck_findParts_10
  refine e_lp (L := Int × iS) (E := iS) (LO := fun l => [(0, .ref (tb_nK + 90)), (1, iv v1), (2, iv (l.1))]) (LS := fun l => l.2) (CE := fun e r => ev w d 247 90 [] [] (hT (e)) r) (fun l => tcck_findParts_10b w d hd _ _ _) ?_ (v2, s)
  intro e
  show Ew hT w d 247 90 [] [] e (Cv hT) _
  exact e_retv em_247 (ce_at ce_247 49 rfl)
theorem fcck_findParts_10 (v1 : Int) (v2 : Int) (s : iS) : Fm Prod.snd L_cck_findParts G_cck_findParts s (cck_findParts_10 v1 v2 s) := by
  unfold cck_findParts_10
  refine fm_lp (A := Int × iS) (E := iS) (LS := fun l => l.2) (LE := fun e => e) ?_ ?_ (v2, s)
  · exact fun l => fcck_findParts_10b _ _ _
  · exact (fun e => fm_some md_refl)
noncomputable def cck_findParts (v1 : Int) (s : iS) : Option (Int × iS) := gd (0 ≤ v1 ∧ v1 < 19) (cck_findParts_10 v1 (s 78 v1.toNat) s)
theorem tcck_findParts (w : ev_W) (d : Nat) (hd : 2 ≤ d) (v1 : Int) (s : iS) : Ew hT w d 247 0 [(0, .ref (tb_nK + 90)), (1, iv v1)] [] s (Cv hT) (cck_findParts v1 s) := by
  unfold cck_findParts
  refine e_mv 1 em_247 (ce_at ce_247 0 rfl) rfl rfl ?_
  refine e_getr 4 em_247 (ce_at ce_247 1 rfl) tq_90 rfl rfl ?_
  refine e_getr 7 em_247 (ce_at ce_247 2 rfl) tq_71 rfl rfl ?_
  refine e_mv 8 em_247 (ce_at ce_247 3 rfl) rfl rfl ?_
  refine e_gd fun g1 => ?_
  refine e_ild 9 em_247 (ce_at ce_247 4 rfl) tq_78 (by decide) g1 rfl ?_
  refine e_mv 10 em_247 (ce_at ce_247 5 rfl) rfl rfl ?_
  refine e_pk [0, 1, 2] rfl rfl ?_
  exact tcck_findParts_10 w d hd _ _ _
theorem fcck_findParts (v1 : Int) (s : iS) : Fm Prod.snd L_cck_findParts G_cck_findParts s (cck_findParts v1 s) := fm_gd (fcck_findParts_10 _ _ _)
/-! cck_findPin -/
def L_cck_findPin : List Nat := []
def G_cck_findPin : List (Nat × Nat) := []
noncomputable def cck_findPin (v1 : Int) (v2 : Int) (s : iS) : Option (Int × iS) := gd (0 ≤ v1 ∧ v1 < 19) (gd (0 ≤ (v1 + 1) ∧ (v1 + 1) < 19) (bd (tok_findIn 79 80 81 197 v2 (s 76 v1.toNat) (s 76 (v1 + 1).toNat) s) (fun r3 s3 => some (r3, s3))))
theorem tcck_findPin (w : ev_W) (d : Nat) (hd : 2 ≤ d) (v1 : Int) (v2 : Int) (s : iS) : Ew hT w d 250 0 [(0, .ref (tb_nK + 90)), (1, iv v1), (2, iv v2)] [] s (Ci hT) (cck_findPin v1 v2 s) := by
  unfold cck_findPin
  refine e_mv 1 em_250 (ce_at ce_250 0 rfl) rfl rfl ?_
  refine e_getr 4 em_250 (ce_at ce_250 1 rfl) tq_90 rfl rfl ?_
  refine e_mv 5 em_250 (ce_at ce_250 2 rfl) rfl rfl ?_
  refine e_getr 8 em_250 (ce_at ce_250 3 rfl) tq_90 rfl rfl ?_
  refine e_getr 11 em_250 (ce_at ce_250 4 rfl) tq_71 rfl rfl ?_
  refine e_mv 12 em_250 (ce_at ce_250 5 rfl) rfl rfl ?_
  refine e_mv 13 em_250 (ce_at ce_250 6 rfl) rfl rfl ?_
  refine e_getr 16 em_250 (ce_at ce_250 7 rfl) tq_90 rfl rfl ?_
  refine e_getr 19 em_250 (ce_at ce_250 8 rfl) tq_71 rfl rfl ?_
  refine e_mv 20 em_250 (ce_at ce_250 9 rfl) rfl rfl ?_
  refine e_gd fun g1 => ?_
  refine e_ild 21 em_250 (ce_at ce_250 10 rfl) tq_76 (by decide) g1 rfl ?_
  refine e_mv 22 em_250 (ce_at ce_250 11 rfl) rfl rfl ?_
  refine e_getr 25 em_250 (ce_at ce_250 12 rfl) tq_90 rfl rfl ?_
  refine e_getr 28 em_250 (ce_at ce_250 13 rfl) tq_71 rfl rfl ?_
  refine e_mv 29 em_250 (ce_at ce_250 14 rfl) rfl rfl ?_
  refine e_op 30 em_250 (ce_at ce_250 15 rfl) rfl rfl ?_
  refine e_iadd 31 em_250 rfl (ce_at ce_250 16 rfl) ?_
  refine e_gd fun g2 => ?_
  refine e_ild 32 em_250 (ce_at ce_250 17 rfl) tq_76 (by decide) g2 rfl ?_
  refine e_ivi 35 em_250 (ce_at ce_250 18 rfl) (by omega) (iv_v4 (by decide) tq_2 rfl) em_76 (Nat.le_of_ble_eq_true rfl) rfl (ttok_findIn w (d - 1) (by omega) 79 80 81 197 tq_79 tq_80 tq_81 (by decide) _ _ _ _) (fun r3 s3 => ?_)
  exact e_reti em_250 (ce_at ce_250 19 rfl)
theorem fcck_findPin (v1 : Int) (v2 : Int) (s : iS) : Fm Prod.snd L_cck_findPin G_cck_findPin s (cck_findPin v1 v2 s) := fm_gd (fm_gd (fm_bd (fm_sub (ftok_findIn 79 80 81 197 _ _ _ _) (mem_sub_L rfl) (mem_sub_F rfl)) (fun r3 s3 => fm_some md_refl)))
/-! cck_findInner -/
def L_cck_findInner : List Nat := []
def G_cck_findInner : List (Nat × Nat) := []
noncomputable def cck_findInner (v1 : Int) (s : iS) : Option (Int × iS) := bd (tok_findIn 99 100 101 100 v1 0 100 s) (fun r1 s1 => some (r1, s1))
theorem tcck_findInner (w : ev_W) (d : Nat) (hd : 2 ≤ d) (v1 : Int) (s : iS) : Ew hT w d 252 0 [(0, .ref (tb_nK + 90)), (1, iv v1)] [] s (Ci hT) (cck_findInner v1 s) := by
  unfold cck_findInner
  refine e_mv 1 em_252 (ce_at ce_252 0 rfl) rfl rfl ?_
  refine e_getr 4 em_252 (ce_at ce_252 1 rfl) tq_90 rfl rfl ?_
  refine e_mv 5 em_252 (ce_at ce_252 2 rfl) rfl rfl ?_
  refine e_getr 8 em_252 (ce_at ce_252 3 rfl) tq_90 rfl rfl ?_
  refine e_mv 9 em_252 (ce_at ce_252 4 rfl) rfl rfl ?_
  refine e_op 10 em_252 (ce_at ce_252 5 rfl) rfl rfl ?_
  refine e_bip 12 em_252 (ce_at ce_252 6 rfl) (by decide) rfl ?_
  refine e_ivi 15 em_252 (ce_at ce_252 7 rfl) (by omega) (iv_v4 (by decide) tq_2 rfl) em_76 (Nat.le_of_ble_eq_true rfl) rfl (ttok_findIn w (d - 1) (by omega) 99 100 101 100 tq_99 tq_100 tq_101 (by decide) _ _ _ _) (fun r1 s1 => ?_)
  exact e_reti em_252 (ce_at ce_252 8 rfl)
theorem fcck_findInner (v1 : Int) (s : iS) : Fm Prod.snd L_cck_findInner G_cck_findInner s (cck_findInner v1 s) := fm_bd (fm_sub (ftok_findIn 99 100 101 100 _ _ _ _) (mem_sub_L rfl) (mem_sub_F rfl)) (fun r1 s1 => fm_some md_refl)
/-! cck_lowBit -/
def L_cck_lowBit : List Nat := []
def G_cck_lowBit : List (Nat × Nat) := []
noncomputable def cck_lowBit (v1 : Int) (s : iS) : Option (Int × iS) := bd (tok_kindOf (v1 + 1) s) (fun r1 s1 => gd (rg r1) (if r1 = 91 then bd (tok_valueOf (v1 + 2) s1) (fun r4 s4 => some (r4, s4)) else some (0, s1)))
theorem tcck_lowBit (w : ev_W) (d : Nat) (hd : 1 ≤ d) (v1 : Int) (s : iS) : Ew hT w d 253 0 [(0, .ref (tb_nK + 90)), (1, iv v1)] [] s (Ci hT) (cck_lowBit v1 s) := by
  unfold cck_lowBit
  refine e_mv 1 em_253 (ce_at ce_253 0 rfl) rfl rfl ?_
  refine e_getr 4 em_253 (ce_at ce_253 1 rfl) tq_90 rfl rfl ?_
  refine e_mv 5 em_253 (ce_at ce_253 2 rfl) rfl rfl ?_
  refine e_op 6 em_253 (ce_at ce_253 3 rfl) rfl rfl ?_
  refine e_iadd 7 em_253 rfl (ce_at ce_253 4 rfl) ?_
  refine e_ivi 10 em_253 (ce_at ce_253 5 rfl) (by omega) (iv_v1 (by decide) tq_2 rfl) em_112 (Nat.le_of_ble_eq_true rfl) rfl (ttok_kindOf w (d - 1) (by omega) _ _) (fun r1 s1 => ?_)
  refine e_bip 12 em_253 (ce_at ce_253 6 rfl) (by decide) rfl ?_
  refine e_gd fun g2 => ?_
  refine e_cmne 28 15 em_253 rfl rfl (ce_at ce_253 7 rfl) g2 (by decide) (fun h3 => ?_) (fun h3 => ?_)
  · refine e_op 29 em_253 (ce_at ce_253 15 rfl) rfl rfl ?_
    exact e_reti em_253 (ce_at ce_253 16 rfl)
  · refine e_mv 16 em_253 (ce_at ce_253 8 rfl) rfl rfl ?_
    refine e_getr 19 em_253 (ce_at ce_253 9 rfl) tq_90 rfl rfl ?_
    refine e_mv 20 em_253 (ce_at ce_253 10 rfl) rfl rfl ?_
    refine e_op 21 em_253 (ce_at ce_253 11 rfl) rfl rfl ?_
    refine e_iadd 22 em_253 rfl (ce_at ce_253 12 rfl) ?_
    refine e_ivi 25 em_253 (ce_at ce_253 13 rfl) (by omega) (iv_v1 (by decide) tq_2 rfl) em_122 (Nat.le_of_ble_eq_true rfl) rfl (ttok_valueOf w (d - 1) (by omega) _ _) (fun r4 s4 => ?_)
    refine e_goto em_253 29 (ce_at ce_253 14 rfl) rfl ?_
    exact e_reti em_253 (ce_at ce_253 16 rfl)
theorem fcck_lowBit (v1 : Int) (s : iS) : Fm Prod.snd L_cck_lowBit G_cck_lowBit s (cck_lowBit v1 s) := fm_bd (fm_sub (ftok_kindOf _ _) (mem_sub_L rfl) (mem_sub_F rfl)) (fun r1 s1 => fm_gd (fm_if (fm_bd (fm_sub (ftok_valueOf _ _) (mem_sub_L rfl) (mem_sub_F rfl)) (fun r4 s4 => fm_some md_refl)) (fm_some md_refl)))
/-! cck_highBit -/
def L_cck_highBit : List Nat := []
def G_cck_highBit : List (Nat × Nat) := []
noncomputable def cck_highBit_47 (t0 : Int) (s : iS) : Option (Int × iS) := bd (tok_valueOf t0 s) (fun r1 s1 => some (r1, s1))
theorem tcck_highBit_47 (w : ev_W) (d : Nat) (hd : 1 ≤ d) (t0 : Int) (s : iS) : Ew hT w d 254 47 [] [iv t0, .ref (tb_nK + 2)] s (Ci hT) (cck_highBit_47 t0 s) := by
  unfold cck_highBit_47
  refine e_ivi 50 em_254 (ce_at ce_254 29 rfl) (by omega) (iv_v1 (by decide) tq_2 rfl) em_122 (Nat.le_of_ble_eq_true rfl) rfl (ttok_valueOf w (d - 1) (by omega) _ _) (fun r1 s1 => ?_)
  exact e_reti em_254 (ce_at ce_254 30 rfl)
theorem fcck_highBit_47 (t0 : Int) (s : iS) : Fm Prod.snd L_cck_highBit G_cck_highBit s (cck_highBit_47 t0 s) := fm_bd (fm_sub (ftok_valueOf _ _) (mem_sub_L rfl) (mem_sub_F rfl)) (fun r1 s1 => fm_some md_refl)
noncomputable def cck_highBit (v1 : Int) (v2 : Int) (s : iS) : Option (Int × iS) := bd (tok_kindOf (v1 + 1) s) (fun r1 s1 => gd (rg r1) (if r1 = 91 then bd (tok_kindOf (v1 + 3) s1) (fun r4 s4 => gd (rg r4) (if r4 = 46 then cck_highBit_47 (v1 + 4) s4 else cck_highBit_47 (v1 + 2) s4)) else some ((v2 - 1), s1)))
theorem tcck_highBit (w : ev_W) (d : Nat) (hd : 1 ≤ d) (v1 : Int) (v2 : Int) (s : iS) : Ew hT w d 254 0 [(0, .ref (tb_nK + 90)), (1, iv v1), (2, iv v2)] [] s (Ci hT) (cck_highBit v1 v2 s) := by
  unfold cck_highBit
  refine e_mv 1 em_254 (ce_at ce_254 0 rfl) rfl rfl ?_
  refine e_getr 4 em_254 (ce_at ce_254 1 rfl) tq_90 rfl rfl ?_
  refine e_mv 5 em_254 (ce_at ce_254 2 rfl) rfl rfl ?_
  refine e_op 6 em_254 (ce_at ce_254 3 rfl) rfl rfl ?_
  refine e_iadd 7 em_254 rfl (ce_at ce_254 4 rfl) ?_
  refine e_ivi 10 em_254 (ce_at ce_254 5 rfl) (by omega) (iv_v1 (by decide) tq_2 rfl) em_112 (Nat.le_of_ble_eq_true rfl) rfl (ttok_kindOf w (d - 1) (by omega) _ _) (fun r1 s1 => ?_)
  refine e_bip 12 em_254 (ce_at ce_254 6 rfl) (by decide) rfl ?_
  refine e_gd fun g2 => ?_
  refine e_cmeq 19 15 em_254 rfl rfl (ce_at ce_254 7 rfl) g2 (by decide) (fun h3 => ?_) (fun h3 => ?_)
  · refine e_mv 20 em_254 (ce_at ce_254 12 rfl) rfl rfl ?_
    refine e_getr 23 em_254 (ce_at ce_254 13 rfl) tq_90 rfl rfl ?_
    refine e_mv 24 em_254 (ce_at ce_254 14 rfl) rfl rfl ?_
    refine e_getr 27 em_254 (ce_at ce_254 15 rfl) tq_90 rfl rfl ?_
    refine e_mv 28 em_254 (ce_at ce_254 16 rfl) rfl rfl ?_
    refine e_op 29 em_254 (ce_at ce_254 17 rfl) rfl rfl ?_
    refine e_iadd 30 em_254 rfl (ce_at ce_254 18 rfl) ?_
    refine e_ivi 33 em_254 (ce_at ce_254 19 rfl) (by omega) (iv_v1 (by decide) tq_2 rfl) em_112 (Nat.le_of_ble_eq_true rfl) rfl (ttok_kindOf w (d - 1) (by omega) _ _) (fun r4 s4 => ?_)
    refine e_bip 35 em_254 (ce_at ce_254 20 rfl) (by decide) rfl ?_
    refine e_gd fun g5 => ?_
    refine e_cmne 44 38 em_254 rfl rfl (ce_at ce_254 21 rfl) g5 (by decide) (fun h6 => ?_) (fun h6 => ?_)
    · refine e_mv 45 em_254 (ce_at ce_254 26 rfl) rfl rfl ?_
      refine e_op 46 em_254 (ce_at ce_254 27 rfl) rfl rfl ?_
      refine e_iadd 47 em_254 rfl (ce_at ce_254 28 rfl) ?_
      refine e_pk [] rfl rfl ?_
      exact tcck_highBit_47 w d hd _ _
    · refine e_mv 39 em_254 (ce_at ce_254 22 rfl) rfl rfl ?_
      refine e_op 40 em_254 (ce_at ce_254 23 rfl) rfl rfl ?_
      refine e_iadd 41 em_254 rfl (ce_at ce_254 24 rfl) ?_
      refine e_goto em_254 47 (ce_at ce_254 25 rfl) rfl ?_
      refine e_pk [] rfl rfl ?_
      exact tcck_highBit_47 w d hd _ _
  · refine e_mv 16 em_254 (ce_at ce_254 8 rfl) rfl rfl ?_
    refine e_op 17 em_254 (ce_at ce_254 9 rfl) rfl rfl ?_
    refine e_isub 18 em_254 rfl (ce_at ce_254 10 rfl) ?_
    exact e_reti em_254 (ce_at ce_254 11 rfl)
theorem fcck_highBit (v1 : Int) (v2 : Int) (s : iS) : Fm Prod.snd L_cck_highBit G_cck_highBit s (cck_highBit v1 v2 s) := fm_bd (fm_sub (ftok_kindOf _ _) (mem_sub_L rfl) (mem_sub_F rfl)) (fun r1 s1 => fm_gd (fm_if (fm_bd (fm_sub (ftok_kindOf _ _) (mem_sub_L rfl) (mem_sub_F rfl)) (fun r4 s4 => fm_gd (fm_if (fcck_highBit_47 _ _) (fcck_highBit_47 _ _)))) (fm_some md_refl)))
/-! cck_rangeWidth -/
def L_cck_rangeWidth : List Nat := []
def G_cck_rangeWidth : List (Nat × Nat) := []
noncomputable def cck_rangeWidth (v0 : Int) (v1 : Int) (v2 : Int) (s : iS) : Option (Int × iS) := gd (rg v0) (gd (rg v1) (if v1 < v0 then some ((-1), s) else gd (rg v2) (if v2 ≤ v1 then some ((-1), s) else some (((v1 - v0) + 1), s))))
theorem tcck_rangeWidth (H : iS → List am_C) (w : ev_W) (d : Nat) (hd : 0 ≤ d) (v0 : Int) (v1 : Int) (v2 : Int) (s : iS) : Ew H w d 255 0 [(0, iv v0), (1, iv v1), (2, iv v2)] [] s (Ci H) (cck_rangeWidth v0 v1 v2 s) := by
  unfold cck_rangeWidth
  refine e_mv 1 em_255 (ce_at ce_255 0 rfl) rfl rfl ?_
  refine e_mv 2 em_255 (ce_at ce_255 1 rfl) rfl rfl ?_
  refine e_gd fun g1 => ?_
  refine e_gd fun g2 => ?_
  refine e_cmgt 18 5 em_255 rfl rfl (ce_at ce_255 2 rfl) g1 g2 (fun h3 => ?_) (fun h3 => ?_)
  · refine e_op 19 em_255 (ce_at ce_255 12 rfl) rfl rfl ?_
    exact e_reti em_255 (ce_at ce_255 13 rfl)
  · refine e_mv 6 em_255 (ce_at ce_255 3 rfl) rfl rfl ?_
    refine e_mv 7 em_255 (ce_at ce_255 4 rfl) rfl rfl ?_
    refine e_gd fun g4 => ?_
    refine e_cmge 18 10 em_255 rfl rfl (ce_at ce_255 5 rfl) g2 g4 (fun h5 => ?_) (fun h5 => ?_)
    · refine e_op 19 em_255 (ce_at ce_255 12 rfl) rfl rfl ?_
      exact e_reti em_255 (ce_at ce_255 13 rfl)
    · refine e_mv 11 em_255 (ce_at ce_255 6 rfl) rfl rfl ?_
      refine e_mv 12 em_255 (ce_at ce_255 7 rfl) rfl rfl ?_
      refine e_isub 13 em_255 rfl (ce_at ce_255 8 rfl) ?_
      refine e_op 14 em_255 (ce_at ce_255 9 rfl) rfl rfl ?_
      refine e_iadd 15 em_255 rfl (ce_at ce_255 10 rfl) ?_
      refine e_goto em_255 19 (ce_at ce_255 11 rfl) rfl ?_
      exact e_reti em_255 (ce_at ce_255 13 rfl)
theorem fcck_rangeWidth (v0 : Int) (v1 : Int) (v2 : Int) (s : iS) : Fm Prod.snd L_cck_rangeWidth G_cck_rangeWidth s (cck_rangeWidth v0 v1 v2 s) := fm_gd (fm_gd (fm_if (fm_some md_refl) (fm_gd (fm_if (fm_some md_refl) (fm_some md_refl)))))
/-! cck_gatherFrom -/
def L_cck_gatherFrom : List Nat := [93, 100, 101, 102, 103, 104]
def G_cck_gatherFrom : List (Nat × Nat) := [(99, 2)]
noncomputable def cck_gatherFrom_61 (v1 : Int) (v3 : Int) (v4 : Int) (v5 : Int) (t0 : Int) (s : iS) : Option (Int × iS) := gd (rg t0) (if t0 = 0 then some (0, s) else gd (rg (s 99 2)) (if 100 ≤ (s 99 2) then some (0, s) else bd (cck_findPin v1 v5 s) (fun r5 s5 => gd (rg r5) (if r5 = (-1) then bd (cck_findInner v5 s5) (fun r8 s8 => gd (rg r8) (if r8 = (-1) then gd (0 ≤ v3 ∧ v3 < 500) (bd (tok_addTo 99 100 101 100 v5 s8) (fun _ s12 => gd (0 ≤ (s 99 2) ∧ (s 99 2) < 100) (lt' (up s12 104 (s 99 2).toNat v3) (fun s14 => gd (0 ≤ v1 ∧ v1 < 18) (lt' (up s14 103 (s 99 2).toNat (s14 93 v1.toNat)) (fun s16 => bd (cck_lowBit (s8 85 v3.toNat) s16) (fun r17 s17 => gd (0 ≤ v4 ∧ v4 < 197) (bd (cck_highBit (s8 85 v3.toNat) (s17 91 v4.toNat) s17) (fun r19 s19 => bd (cck_rangeWidth r17 r19 (s19 91 v4.toNat) s19) (fun r20 s20 => lt' (up s20 102 (s 99 2).toNat r20) (fun s21 => bd (mth_max 0 (s21 102 (s 99 2).toNat) s21) (fun r22 s22 => lt' (up s22 93 v1.toNat ((s21 93 v1.toNat) + r22)) (fun s23 => some (0, s23)))))))))))))) else some (0, s8))) else some (0, s5)))))
theorem tcck_gatherFrom_61 (w : ev_W) (d : Nat) (hd : 3 ≤ d) (v1 : Int) (v3 : Int) (v4 : Int) (v5 : Int) (t0 : Int) (s : iS) : Ew hT w d 249 61 [(0, .ref (tb_nK + 90)), (1, iv v1), (3, iv v3), (4, iv v4), (5, iv v5)] [iv t0] s (Cv hT) (cck_gatherFrom_61 v1 v3 v4 v5 t0 s) := by
  unfold cck_gatherFrom_61
  refine e_mv 63 em_249 (ce_at ce_249 32 rfl) rfl rfl ?_
  refine e_mv 64 em_249 (ce_at ce_249 33 rfl) rfl rfl ?_
  refine e_getr 67 em_249 (ce_at ce_249 34 rfl) tq_90 rfl rfl ?_
  refine e_get 70 em_249 (ce_at ce_249 35 rfl) tq_99 rfl rfl ?_
  refine e_mv 72 em_249 (ce_at ce_249 36 rfl) rfl rfl ?_
  refine e_mv 74 em_249 (ce_at ce_249 37 rfl) rfl rfl ?_
  refine e_gd fun g1 => ?_
  refine e_ifeq 105 77 em_249 rfl rfl (ce_at ce_249 38 rfl) g1 (fun h2 => ?_) (fun h2 => ?_)
  · exact e_retv em_249 (ce_at ce_249 53 rfl)
  · refine e_mv 79 em_249 (ce_at ce_249 39 rfl) rfl rfl ?_
    refine e_bip 81 em_249 (ce_at ce_249 40 rfl) (by decide) rfl ?_
    refine e_gd fun g3 => ?_
    refine e_cmge 105 84 em_249 rfl rfl (ce_at ce_249 41 rfl) g3 (by decide) (fun h4 => ?_) (fun h4 => ?_)
    · exact e_retv em_249 (ce_at ce_249 53 rfl)
    · refine e_mv 85 em_249 (ce_at ce_249 42 rfl) rfl rfl ?_
      refine e_mv 86 em_249 (ce_at ce_249 43 rfl) rfl rfl ?_
      refine e_mv 88 em_249 (ce_at ce_249 44 rfl) rfl rfl ?_
      refine e_ivi 91 em_249 (ce_at ce_249 45 rfl) (by omega) (iv_v2 (by decide) tq_90 rfl) em_250 (Nat.le_of_ble_eq_true rfl) rfl (tcck_findPin w (d - 1) (by omega) _ _ _) (fun r5 s5 => ?_)
      refine e_op 92 em_249 (ce_at ce_249 46 rfl) rfl rfl ?_
      refine e_gd fun g6 => ?_
      refine e_cmne 105 95 em_249 rfl rfl (ce_at ce_249 47 rfl) g6 (by decide) (fun h7 => ?_) (fun h7 => ?_)
      · exact e_retv em_249 (ce_at ce_249 53 rfl)
      · refine e_mv 96 em_249 (ce_at ce_249 48 rfl) rfl rfl ?_
        refine e_mv 98 em_249 (ce_at ce_249 49 rfl) rfl rfl ?_
        refine e_ivi 101 em_249 (ce_at ce_249 50 rfl) (by omega) (iv_v1 (by decide) tq_90 rfl) em_252 (Nat.le_of_ble_eq_true rfl) rfl (tcck_findInner w (d - 1) (by omega) _ _) (fun r8 s8 => ?_)
        refine e_op 102 em_249 (ce_at ce_249 51 rfl) rfl rfl ?_
        refine e_gd fun g9 => ?_
        refine e_cmeq 106 105 em_249 rfl rfl (ce_at ce_249 52 rfl) g9 (by decide) (fun h10 => ?_) (fun h10 => ?_)
        · refine e_mv 107 em_249 (ce_at ce_249 54 rfl) rfl rfl ?_
          refine e_getr 110 em_249 (ce_at ce_249 55 rfl) tq_90 rfl rfl ?_
          refine e_getr 113 em_249 (ce_at ce_249 56 rfl) tq_71 rfl rfl ?_
          refine e_mv 114 em_249 (ce_at ce_249 57 rfl) rfl rfl ?_
          refine e_gd fun g11 => ?_
          refine e_ild 115 em_249 (ce_at ce_249 58 rfl) tq_85 (by decide) g11 rfl ?_
          refine e_mv 117 em_249 (ce_at ce_249 59 rfl) rfl rfl ?_
          refine e_mv 118 em_249 (ce_at ce_249 60 rfl) rfl rfl ?_
          refine e_getr 121 em_249 (ce_at ce_249 61 rfl) tq_90 rfl rfl ?_
          refine e_mv 122 em_249 (ce_at ce_249 62 rfl) rfl rfl ?_
          refine e_getr 125 em_249 (ce_at ce_249 63 rfl) tq_90 rfl rfl ?_
          refine e_mv 127 em_249 (ce_at ce_249 64 rfl) rfl rfl ?_
          refine e_ivv 130 em_249 (ce_at ce_249 65 rfl) (by omega) (iv_v2 (by decide) tq_2 rfl) em_73 (Nat.le_of_ble_eq_true rfl) rfl (ttok_addTo w (d - 1) (by omega) 99 100 101 100 tq_99 tq_100 tq_101 (by decide) _ _) (fun r12 s12 => ?_)
          refine e_mv 131 em_249 (ce_at ce_249 66 rfl) rfl rfl ?_
          refine e_getr 134 em_249 (ce_at ce_249 67 rfl) tq_90 rfl rfl ?_
          refine e_mv 136 em_249 (ce_at ce_249 68 rfl) rfl rfl ?_
          refine e_mv 137 em_249 (ce_at ce_249 69 rfl) rfl rfl ?_
          refine e_gd fun g13 => ?_
          refine e_ist 138 em_249 (ce_at ce_249 70 rfl) tq_104 (by decide) g13 rfl (fun s14 => ?_)
          refine e_mv 139 em_249 (ce_at ce_249 71 rfl) rfl rfl ?_
          refine e_getr 142 em_249 (ce_at ce_249 72 rfl) tq_90 rfl rfl ?_
          refine e_mv 144 em_249 (ce_at ce_249 73 rfl) rfl rfl ?_
          refine e_mv 145 em_249 (ce_at ce_249 74 rfl) rfl rfl ?_
          refine e_getr 148 em_249 (ce_at ce_249 75 rfl) tq_90 rfl rfl ?_
          refine e_mv 149 em_249 (ce_at ce_249 76 rfl) rfl rfl ?_
          refine e_gd fun g15 => ?_
          refine e_ild 150 em_249 (ce_at ce_249 77 rfl) tq_93 (by decide) g15 rfl ?_
          refine e_ist 151 em_249 (ce_at ce_249 78 rfl) tq_103 (by decide) g13 rfl (fun s16 => ?_)
          refine e_mv 152 em_249 (ce_at ce_249 79 rfl) rfl rfl ?_
          refine e_getr 155 em_249 (ce_at ce_249 80 rfl) tq_90 rfl rfl ?_
          refine e_mv 157 em_249 (ce_at ce_249 81 rfl) rfl rfl ?_
          refine e_mv 158 em_249 (ce_at ce_249 82 rfl) rfl rfl ?_
          refine e_mv 160 em_249 (ce_at ce_249 83 rfl) rfl rfl ?_
          refine e_ivi 163 em_249 (ce_at ce_249 84 rfl) (by omega) (iv_v1 (by decide) tq_90 rfl) em_253 (Nat.le_of_ble_eq_true rfl) rfl (tcck_lowBit w (d - 1) (by omega) _ _) (fun r17 s17 => ?_)
          refine e_mv 164 em_249 (ce_at ce_249 85 rfl) rfl rfl ?_
          refine e_mv 166 em_249 (ce_at ce_249 86 rfl) rfl rfl ?_
          refine e_mv 167 em_249 (ce_at ce_249 87 rfl) rfl rfl ?_
          refine e_getr 170 em_249 (ce_at ce_249 88 rfl) tq_90 rfl rfl ?_
          refine e_mv 172 em_249 (ce_at ce_249 89 rfl) rfl rfl ?_
          refine e_gd fun g18 => ?_
          refine e_ild 173 em_249 (ce_at ce_249 90 rfl) tq_91 (by decide) g18 rfl ?_
          refine e_ivi 176 em_249 (ce_at ce_249 91 rfl) (by omega) (iv_v2 (by decide) tq_90 rfl) em_254 (Nat.le_of_ble_eq_true rfl) rfl (tcck_highBit w (d - 1) (by omega) _ _ _) (fun r19 s19 => ?_)
          refine e_mv 177 em_249 (ce_at ce_249 92 rfl) rfl rfl ?_
          refine e_getr 180 em_249 (ce_at ce_249 93 rfl) tq_90 rfl rfl ?_
          refine e_mv 182 em_249 (ce_at ce_249 94 rfl) rfl rfl ?_
          refine e_ild 183 em_249 (ce_at ce_249 95 rfl) tq_91 (by decide) g18 rfl ?_
          refine e_ivi 186 em_249 (ce_at ce_249 96 rfl) (by omega) (iv_s3 rfl) em_255 (Nat.le_of_ble_eq_true rfl) rfl (tcck_rangeWidth hT w (d - 1) (by omega) _ _ _ _) (fun r20 s20 => ?_)
          refine e_ist 187 em_249 (ce_at ce_249 97 rfl) tq_102 (by decide) g13 rfl (fun s21 => ?_)
          refine e_mv 188 em_249 (ce_at ce_249 98 rfl) rfl rfl ?_
          refine e_getr 191 em_249 (ce_at ce_249 99 rfl) tq_90 rfl rfl ?_
          refine e_mv 192 em_249 (ce_at ce_249 100 rfl) rfl rfl ?_
          refine e_op 193 em_249 (ce_at ce_249 101 rfl) rfl rfl ?_
          refine e_ild 194 em_249 (ce_at ce_249 102 rfl) tq_93 (by decide) g15 rfl ?_
          refine e_op 195 em_249 (ce_at ce_249 103 rfl) rfl rfl ?_
          refine e_mv 196 em_249 (ce_at ce_249 104 rfl) rfl rfl ?_
          refine e_getr 199 em_249 (ce_at ce_249 105 rfl) tq_90 rfl rfl ?_
          refine e_mv 201 em_249 (ce_at ce_249 106 rfl) rfl rfl ?_
          refine e_ild 202 em_249 (ce_at ce_249 107 rfl) tq_102 (by decide) g13 rfl ?_
          refine e_ivi 205 em_249 (ce_at ce_249 108 rfl) (by omega) (iv_s2 rfl) em_45 (Nat.le_of_ble_eq_true rfl) rfl (tmth_max hT w (d - 1) (by omega) _ _ _) (fun r22 s22 => ?_)
          refine e_iadd 206 em_249 rfl (ce_at ce_249 109 rfl) ?_
          refine e_ist 207 em_249 (ce_at ce_249 110 rfl) tq_93 (by decide) g15 rfl (fun s23 => ?_)
          exact e_retv em_249 (ce_at ce_249 111 rfl)
        · exact e_retv em_249 (ce_at ce_249 53 rfl)
theorem fcck_gatherFrom_61 (v1 : Int) (v3 : Int) (v4 : Int) (v5 : Int) (t0 : Int) (s : iS) : Fm Prod.snd L_cck_gatherFrom G_cck_gatherFrom s (cck_gatherFrom_61 v1 v3 v4 v5 t0 s) := fm_gd (fm_if (fm_some md_refl) (fm_gd (fm_if (fm_some md_refl) (fm_bd (fm_sub (fcck_findPin _ _ _) (mem_sub_L rfl) (mem_sub_F rfl)) (fun r5 s5 => fm_gd (fm_if (fm_bd (fm_sub (fcck_findInner _ _) (mem_sub_L rfl) (mem_sub_F rfl)) (fun r8 s8 => fm_gd (fm_if (fm_gd (fm_bd (fm_sub (ftok_addTo 99 100 101 100 _ _) (mem_sub_L rfl) (mem_sub_F rfl)) (fun r12 s12 => fm_gd (fm_lt (md_upL (mem_L rfl)) (fun s14 => fm_gd (fm_lt (md_upL (mem_L rfl)) (fun s16 => fm_bd (fm_sub (fcck_lowBit _ _) (mem_sub_L rfl) (mem_sub_F rfl)) (fun r17 s17 => fm_gd (fm_bd (fm_sub (fcck_highBit _ _ _) (mem_sub_L rfl) (mem_sub_F rfl)) (fun r19 s19 => fm_bd (fm_sub (fcck_rangeWidth _ _ _ _) (mem_sub_L rfl) (mem_sub_F rfl)) (fun r20 s20 => fm_lt (md_upL (mem_L rfl)) (fun s21 => fm_bd (fm_sub (fmth_max _ _ _) (mem_sub_L rfl) (mem_sub_F rfl)) (fun r22 s22 => fm_lt (md_upL (mem_L rfl)) (fun s23 => fm_some md_refl)))))))))))))) (fm_some md_refl)))) (fm_some md_refl)))))))
noncomputable def cck_gatherFrom_60 (v1 : Int) (v3 : Int) (v4 : Int) (v5 : Int) (s : iS) : Option (Int × iS) := cck_gatherFrom_61 v1 v3 v4 v5 0 s
theorem tcck_gatherFrom_60 (w : ev_W) (d : Nat) (hd : 3 ≤ d) (v1 : Int) (v3 : Int) (v4 : Int) (v5 : Int) (s : iS) : Ew hT w d 249 60 [(0, .ref (tb_nK + 90)), (1, iv v1), (3, iv v3), (4, iv v4), (5, iv v5)] [] s (Cv hT) (cck_gatherFrom_60 v1 v3 v4 v5 s) := by
  unfold cck_gatherFrom_60
  refine e_op 61 em_249 (ce_at ce_249 31 rfl) rfl rfl ?_
  refine e_pk [0, 1, 3, 4, 5] rfl rfl ?_
  exact tcck_gatherFrom_61 w d hd _ _ _ _ _ _
theorem fcck_gatherFrom_60 (v1 : Int) (v3 : Int) (v4 : Int) (v5 : Int) (s : iS) : Fm Prod.snd L_cck_gatherFrom G_cck_gatherFrom s (cck_gatherFrom_60 v1 v3 v4 v5 s) := fcck_gatherFrom_61 _ _ _ _ _ _
noncomputable def cck_gatherFrom (v1 : Int) (v2 : Int) (v3 : Int) (s : iS) : Option (Int × iS) := gd (0 ≤ v3 ∧ v3 < 500) (bd (cck_findPin v2 (s 85 v3.toNat) s) (fun r2 s2 => gd (rg r2) (if r2 = (-1) then cck_gatherFrom_60 v1 v3 r2 (s2 86 v3.toNat) s2 else bd (cck_isOut v2 r2 s2) (fun r5 s5 => gd (rg r5) (if r5 = 0 then cck_gatherFrom_60 v1 v3 r2 (s2 86 v3.toNat) s5 else bd (tok_kindOf (s2 86 v3.toNat) s5) (fun r8 s8 => gd (rg r8) (if r8 = 3 then cck_gatherFrom_61 v1 v3 r2 (s2 86 v3.toNat) 1 s8 else cck_gatherFrom_60 v1 v3 r2 (s2 86 v3.toNat) s8)))))))
theorem tcck_gatherFrom (w : ev_W) (d : Nat) (hd : 3 ≤ d) (v1 : Int) (v2 : Int) (v3 : Int) (s : iS) : Ew hT w d 249 0 [(0, .ref (tb_nK + 90)), (1, iv v1), (2, iv v2), (3, iv v3)] [] s (Cv hT) (cck_gatherFrom v1 v2 v3 s) := by
  unfold cck_gatherFrom
  refine e_mv 1 em_249 (ce_at ce_249 0 rfl) rfl rfl ?_
  refine e_mv 2 em_249 (ce_at ce_249 1 rfl) rfl rfl ?_
  refine e_mv 3 em_249 (ce_at ce_249 2 rfl) rfl rfl ?_
  refine e_getr 6 em_249 (ce_at ce_249 3 rfl) tq_90 rfl rfl ?_
  refine e_getr 9 em_249 (ce_at ce_249 4 rfl) tq_71 rfl rfl ?_
  refine e_mv 10 em_249 (ce_at ce_249 5 rfl) rfl rfl ?_
  refine e_gd fun g1 => ?_
  refine e_ild 11 em_249 (ce_at ce_249 6 rfl) tq_85 (by decide) g1 rfl ?_
  refine e_ivi 14 em_249 (ce_at ce_249 7 rfl) (by omega) (iv_v2 (by decide) tq_90 rfl) em_250 (Nat.le_of_ble_eq_true rfl) rfl (tcck_findPin w (d - 1) (by omega) _ _ _) (fun r2 s2 => ?_)
  refine e_mv 16 em_249 (ce_at ce_249 8 rfl) rfl rfl ?_
  refine e_mv 17 em_249 (ce_at ce_249 9 rfl) rfl rfl ?_
  refine e_getr 20 em_249 (ce_at ce_249 10 rfl) tq_90 rfl rfl ?_
  refine e_getr 23 em_249 (ce_at ce_249 11 rfl) tq_71 rfl rfl ?_
  refine e_mv 24 em_249 (ce_at ce_249 12 rfl) rfl rfl ?_
  refine e_ild 25 em_249 (ce_at ce_249 13 rfl) tq_86 (by decide) g1 rfl ?_
  refine e_mv 27 em_249 (ce_at ce_249 14 rfl) rfl rfl ?_
  refine e_mv 29 em_249 (ce_at ce_249 15 rfl) rfl rfl ?_
  refine e_op 30 em_249 (ce_at ce_249 16 rfl) rfl rfl ?_
  refine e_gd fun g3 => ?_
  refine e_cmeq 60 33 em_249 rfl rfl (ce_at ce_249 17 rfl) g3 (by decide) (fun h4 => ?_) (fun h4 => ?_)
  · refine e_pk [0, 1, 3, 4, 5] rfl rfl ?_
    exact tcck_gatherFrom_60 w d hd _ _ _ _ _
  · refine e_mv 34 em_249 (ce_at ce_249 18 rfl) rfl rfl ?_
    refine e_mv 35 em_249 (ce_at ce_249 19 rfl) rfl rfl ?_
    refine e_mv 37 em_249 (ce_at ce_249 20 rfl) rfl rfl ?_
    refine e_ivi 40 em_249 (ce_at ce_249 21 rfl) (by omega) (iv_v2 (by decide) tq_90 rfl) em_251 (Nat.le_of_ble_eq_true rfl) rfl (tcck_isOut w (d - 1) (by omega) _ _ _) (fun r5 s5 => ?_)
    refine e_gd fun g6 => ?_
    refine e_ifeq 60 43 em_249 rfl rfl (ce_at ce_249 22 rfl) g6 (fun h7 => ?_) (fun h7 => ?_)
    · refine e_pk [0, 1, 3, 4, 5] rfl rfl ?_
      exact tcck_gatherFrom_60 w d hd _ _ _ _ _
    · refine e_mv 44 em_249 (ce_at ce_249 23 rfl) rfl rfl ?_
      refine e_getr 47 em_249 (ce_at ce_249 24 rfl) tq_90 rfl rfl ?_
      refine e_mv 49 em_249 (ce_at ce_249 25 rfl) rfl rfl ?_
      refine e_ivi 52 em_249 (ce_at ce_249 26 rfl) (by omega) (iv_v1 (by decide) tq_2 rfl) em_112 (Nat.le_of_ble_eq_true rfl) rfl (ttok_kindOf w (d - 1) (by omega) _ _) (fun r8 s8 => ?_)
      refine e_op 53 em_249 (ce_at ce_249 27 rfl) rfl rfl ?_
      refine e_gd fun g9 => ?_
      refine e_cmne 60 56 em_249 rfl rfl (ce_at ce_249 28 rfl) g9 (by decide) (fun h10 => ?_) (fun h10 => ?_)
      · refine e_pk [0, 1, 3, 4, 5] rfl rfl ?_
        exact tcck_gatherFrom_60 w d hd _ _ _ _ _
      · refine e_op 57 em_249 (ce_at ce_249 29 rfl) rfl rfl ?_
        refine e_goto em_249 61 (ce_at ce_249 30 rfl) rfl ?_
        refine e_pk [0, 1, 3, 4, 5] rfl rfl ?_
        exact tcck_gatherFrom_61 w d hd _ _ _ _ _ _
theorem fcck_gatherFrom (v1 : Int) (v2 : Int) (v3 : Int) (s : iS) : Fm Prod.snd L_cck_gatherFrom G_cck_gatherFrom s (cck_gatherFrom v1 v2 v3 s) := fm_gd (fm_bd (fm_sub (fcck_findPin _ _ _) (mem_sub_L rfl) (mem_sub_F rfl)) (fun r2 s2 => fm_gd (fm_if (fcck_gatherFrom_60 _ _ _ _ _) (fm_bd (fm_sub (fcck_isOut _ _ _) (mem_sub_L rfl) (mem_sub_F rfl)) (fun r5 s5 => fm_gd (fm_if (fcck_gatherFrom_60 _ _ _ _ _) (fm_bd (fm_sub (ftok_kindOf _ _) (mem_sub_L rfl) (mem_sub_F rfl)) (fun r8 s8 => fm_gd (fm_if (fcck_gatherFrom_61 _ _ _ _ _ _) (fcck_gatherFrom_60 _ _ _ _ _))))))))))
/-! cck_gatherInner -/
def L_cck_gatherInner : List Nat := [93, 100, 101, 102, 103, 104]
def G_cck_gatherInner : List (Nat × Nat) := [(99, 2)]
def cck_gatherInner_43C (w : ev_W) (d : Nat) (v1 : Int) (v2 : Int) : (Int × iS) ⊕ (iS) → am_E → Prop := fun q r => q.elim (fun l => ev w d 248 43 ((fun l => [(0, .ref (tb_nK + 90)), (1, iv v1), (2, iv v2), (3, iv (l.1))]) l) [] (hT ((fun l => l.2) l)) r) (fun e => (fun e r => ev w d 248 86 [(0, .ref (tb_nK + 90)), (1, iv v1), (2, iv v2)] [] (hT (e)) r) e r)
noncomputable def cck_gatherInner_43b (v1 : Int) (v2 : Int) (v3 : Int) (s : iS) : Option ((Int × iS) ⊕ (iS)) := gd (0 ≤ (v2 + 1) ∧ (v2 + 1) < 385) (gd (rg v3) (gd (rg (s 84 (v2 + 1).toNat)) (if (s 84 (v2 + 1).toNat) ≤ v3 then some (.inr s) else gd (0 ≤ v2 ∧ v2 < 384) (gd (rg (s 94 v2.toNat)) (if (s 94 v2.toNat) = (-1) then some (.inl ((v3 + 1), s)) else bd (cck_gatherFrom v1 (s 94 v2.toNat) v3 s) (fun _ s8 => some (.inl ((v3 + 1), s8))))))))
theorem tcck_gatherInner_43b (w : ev_W) (d : Nat) (hd : 4 ≤ d) (v1 : Int) (v2 : Int) (v3 : Int) (s : iS) : Ew hT w d 248 43 [(0, .ref (tb_nK + 90)), (1, iv v1), (2, iv v2), (3, iv v3)] [] s (cck_gatherInner_43C w d v1 v2) (cck_gatherInner_43b v1 v2 v3 s) := by
  unfold cck_gatherInner_43b
  refine e_mv 44 em_248 (ce_at ce_248 25 rfl) rfl rfl ?_
  refine e_mv 45 em_248 (ce_at ce_248 26 rfl) rfl rfl ?_
  refine e_getr 48 em_248 (ce_at ce_248 27 rfl) tq_90 rfl rfl ?_
  refine e_getr 51 em_248 (ce_at ce_248 28 rfl) tq_71 rfl rfl ?_
  refine e_mv 52 em_248 (ce_at ce_248 29 rfl) rfl rfl ?_
  refine e_op 53 em_248 (ce_at ce_248 30 rfl) rfl rfl ?_
  refine e_iadd 54 em_248 rfl (ce_at ce_248 31 rfl) ?_
  refine e_gd fun g1 => ?_
  refine e_ild 55 em_248 (ce_at ce_248 32 rfl) tq_84 (by decide) g1 rfl ?_
  refine e_gd fun g2 => ?_
  refine e_gd fun g3 => ?_
  refine e_cmge 86 58 em_248 rfl rfl (ce_at ce_248 33 rfl) g2 g3 (fun h4 => ?_) (fun h4 => ?_)
  · refine e_pk [0, 1, 2] rfl rfl ?_
    exact e_out (fun r h => h)
  · refine e_mv 59 em_248 (ce_at ce_248 34 rfl) rfl rfl ?_
    refine e_getr 62 em_248 (ce_at ce_248 35 rfl) tq_90 rfl rfl ?_
    refine e_mv 63 em_248 (ce_at ce_248 36 rfl) rfl rfl ?_
    refine e_gd fun g5 => ?_
    refine e_ild 64 em_248 (ce_at ce_248 37 rfl) tq_94 (by decide) g5 rfl ?_
    refine e_op 65 em_248 (ce_at ce_248 38 rfl) rfl rfl ?_
    refine e_gd fun g6 => ?_
    refine e_cmeq 80 68 em_248 rfl rfl (ce_at ce_248 39 rfl) g6 (by decide) (fun h7 => ?_) (fun h7 => ?_)
    · refine e_iinc 83 em_248 (ce_at ce_248 48 rfl) rfl (by decide) rfl ?_
      refine e_goto em_248 43 (ce_at ce_248 49 rfl) rfl ?_
      refine e_pk [0, 1, 2, 3] rfl rfl ?_
      exact e_out (fun r h => h)
    · refine e_mv 69 em_248 (ce_at ce_248 40 rfl) rfl rfl ?_
      refine e_mv 70 em_248 (ce_at ce_248 41 rfl) rfl rfl ?_
      refine e_mv 71 em_248 (ce_at ce_248 42 rfl) rfl rfl ?_
      refine e_getr 74 em_248 (ce_at ce_248 43 rfl) tq_90 rfl rfl ?_
      refine e_mv 75 em_248 (ce_at ce_248 44 rfl) rfl rfl ?_
      refine e_ild 76 em_248 (ce_at ce_248 45 rfl) tq_94 (by decide) g5 rfl ?_
      refine e_mv 77 em_248 (ce_at ce_248 46 rfl) rfl rfl ?_
      refine e_ivv 80 em_248 (ce_at ce_248 47 rfl) (by omega) (iv_v3 (by decide) tq_90 rfl) em_249 (Nat.le_of_ble_eq_true rfl) rfl (tcck_gatherFrom w (d - 1) (by omega) _ _ _ _) (fun r8 s8 => ?_)
      refine e_iinc 83 em_248 (ce_at ce_248 48 rfl) rfl (by decide) rfl ?_
      refine e_goto em_248 43 (ce_at ce_248 49 rfl) rfl ?_
      refine e_pk [0, 1, 2, 3] rfl rfl ?_
      exact e_out (fun r h => h)
theorem fcck_gatherInner_43b (v1 : Int) (v2 : Int) (v3 : Int) (s : iS) : Fm (fun r : (Int × iS) ⊕ (iS) => r.elim (fun l => l.2) (fun e => e)) L_cck_gatherInner G_cck_gatherInner s (cck_gatherInner_43b v1 v2 v3 s) := fm_gd (fm_gd (fm_gd (fm_if (fm_some md_refl) (fm_gd (fm_gd (fm_if (fm_some md_refl) (fm_bd (fm_sub (fcck_gatherFrom _ _ _ _) (mem_sub_L rfl) (mem_sub_F rfl)) (fun r8 s8 => fm_some md_refl))))))))
def cck_gatherInner_18C (w : ev_W) (d : Nat) (v1 : Int) : (Int × iS) ⊕ (iS) → am_E → Prop := fun q r => q.elim (fun l => ev w d 248 18 ((fun l => [(0, .ref (tb_nK + 90)), (1, iv v1), (2, iv (l.1))]) l) [] (hT ((fun l => l.2) l)) r) (fun e => (fun e r => ev w d 248 92 [] [] (hT (e)) r) e r)
noncomputable def cck_gatherInner_43 (v1 : Int) (v2 : Int) (v3 : Int) (s : iS) : Option ((Int × iS) ⊕ (iS)) := (lp (L := Int × iS) (E := iS) (fun l => cck_gatherInner_43b v1 v2 (l.1) (l.2)) (v3, s)).bind (fun e => some (.inl ((v2 + 1), e)))
theorem tcck_gatherInner_43 (w : ev_W) (d : Nat) (hd : 4 ≤ d) (v1 : Int) (v2 : Int) (v3 : Int) (s : iS) : Ew hT w d 248 43 [(0, .ref (tb_nK + 90)), (1, iv v1), (2, iv v2), (3, iv v3)] [] s (cck_gatherInner_18C w d v1) (cck_gatherInner_43 v1 v2 v3 s) := by
  unfold cck_gatherInner_43
  refine e_lp (L := Int × iS) (E := iS) (LO := fun l => [(0, .ref (tb_nK + 90)), (1, iv v1), (2, iv v2), (3, iv (l.1))]) (LS := fun l => l.2) (CE := fun e r => ev w d 248 86 [(0, .ref (tb_nK + 90)), (1, iv v1), (2, iv v2)] [] (hT (e)) r) (fun l => tcck_gatherInner_43b w d hd _ _ _ _) ?_ (v3, s)
  intro e
  show Ew hT w d 248 86 [(0, .ref (tb_nK + 90)), (1, iv v1), (2, iv v2)] [] e (cck_gatherInner_18C w d v1) _
  refine e_iinc 89 em_248 (ce_at ce_248 50 rfl) rfl (by decide) rfl ?_
  refine e_goto em_248 18 (ce_at ce_248 51 rfl) rfl ?_
  refine e_pk [0, 1, 2] rfl rfl ?_
  exact e_out (fun r h => h)
theorem fcck_gatherInner_43 (v1 : Int) (v2 : Int) (v3 : Int) (s : iS) : Fm (fun r : (Int × iS) ⊕ (iS) => r.elim (fun l => l.2) (fun e => e)) L_cck_gatherInner G_cck_gatherInner s (cck_gatherInner_43 v1 v2 v3 s) := by
  unfold cck_gatherInner_43
  refine fm_lp (A := Int × iS) (E := iS) (LS := fun l => l.2) (LE := fun e => e) ?_ ?_ (v3, s)
  · exact fun l => fcck_gatherInner_43b _ _ _ _
  · exact (fun e => fm_some md_refl)
noncomputable def cck_gatherInner_18b (v1 : Int) (v2 : Int) (s : iS) : Option ((Int × iS) ⊕ (iS)) := gd (0 ≤ (v1 + 1) ∧ (v1 + 1) < 19) (gd (rg v2) (gd (rg (s 78 (v1 + 1).toNat)) (if (s 78 (v1 + 1).toNat) ≤ v2 then some (.inr s) else gd (0 ≤ v2 ∧ v2 < 385) (cck_gatherInner_43 v1 v2 (s 84 v2.toNat) s))))
theorem tcck_gatherInner_18b (w : ev_W) (d : Nat) (hd : 4 ≤ d) (v1 : Int) (v2 : Int) (s : iS) : Ew hT w d 248 18 [(0, .ref (tb_nK + 90)), (1, iv v1), (2, iv v2)] [] s (cck_gatherInner_18C w d v1) (cck_gatherInner_18b v1 v2 s) := by
  unfold cck_gatherInner_18b
  refine e_mv 19 em_248 (ce_at ce_248 10 rfl) rfl rfl ?_
  refine e_mv 20 em_248 (ce_at ce_248 11 rfl) rfl rfl ?_
  refine e_getr 23 em_248 (ce_at ce_248 12 rfl) tq_90 rfl rfl ?_
  refine e_getr 26 em_248 (ce_at ce_248 13 rfl) tq_71 rfl rfl ?_
  refine e_mv 27 em_248 (ce_at ce_248 14 rfl) rfl rfl ?_
  refine e_op 28 em_248 (ce_at ce_248 15 rfl) rfl rfl ?_
  refine e_iadd 29 em_248 rfl (ce_at ce_248 16 rfl) ?_
  refine e_gd fun g1 => ?_
  refine e_ild 30 em_248 (ce_at ce_248 17 rfl) tq_78 (by decide) g1 rfl ?_
  refine e_gd fun g2 => ?_
  refine e_gd fun g3 => ?_
  refine e_cmge 92 33 em_248 rfl rfl (ce_at ce_248 18 rfl) g2 g3 (fun h4 => ?_) (fun h4 => ?_)
  · refine e_pk [] rfl rfl ?_
    exact e_out (fun r h => h)
  · refine e_mv 34 em_248 (ce_at ce_248 19 rfl) rfl rfl ?_
    refine e_getr 37 em_248 (ce_at ce_248 20 rfl) tq_90 rfl rfl ?_
    refine e_getr 40 em_248 (ce_at ce_248 21 rfl) tq_71 rfl rfl ?_
    refine e_mv 41 em_248 (ce_at ce_248 22 rfl) rfl rfl ?_
    refine e_gd fun g5 => ?_
    refine e_ild 42 em_248 (ce_at ce_248 23 rfl) tq_84 (by decide) g5 rfl ?_
    refine e_mv 43 em_248 (ce_at ce_248 24 rfl) rfl rfl ?_
    refine e_pk [0, 1, 2, 3] rfl rfl ?_
    exact tcck_gatherInner_43 w d hd _ _ _ _
theorem fcck_gatherInner_18b (v1 : Int) (v2 : Int) (s : iS) : Fm (fun r : (Int × iS) ⊕ (iS) => r.elim (fun l => l.2) (fun e => e)) L_cck_gatherInner G_cck_gatherInner s (cck_gatherInner_18b v1 v2 s) := fm_gd (fm_gd (fm_gd (fm_if (fm_some md_refl) (fm_gd (fcck_gatherInner_43 _ _ _ _)))))
noncomputable def cck_gatherInner_18 (v1 : Int) (v2 : Int) (s : iS) : Option (Int × iS) := (lp (L := Int × iS) (E := iS) (fun l => cck_gatherInner_18b v1 (l.1) (l.2)) (v2, s)).bind (fun e => some (0, e))
theorem tcck_gatherInner_18 (w : ev_W) (d : Nat) (hd : 4 ≤ d) (v1 : Int) (v2 : Int) (s : iS) : Ew hT w d 248 18 [(0, .ref (tb_nK + 90)), (1, iv v1), (2, iv v2)] [] s (Cv hT) (cck_gatherInner_18 v1 v2 s) := by
  unfold cck_gatherInner_18
  refine e_lp (L := Int × iS) (E := iS) (LO := fun l => [(0, .ref (tb_nK + 90)), (1, iv v1), (2, iv (l.1))]) (LS := fun l => l.2) (CE := fun e r => ev w d 248 92 [] [] (hT (e)) r) (fun l => tcck_gatherInner_18b w d hd _ _ _) ?_ (v2, s)
  intro e
  show Ew hT w d 248 92 [] [] e (Cv hT) _
  exact e_retv em_248 (ce_at ce_248 52 rfl)
theorem fcck_gatherInner_18 (v1 : Int) (v2 : Int) (s : iS) : Fm Prod.snd L_cck_gatherInner G_cck_gatherInner s (cck_gatherInner_18 v1 v2 s) := by
  unfold cck_gatherInner_18
  refine fm_lp (A := Int × iS) (E := iS) (LS := fun l => l.2) (LE := fun e => e) ?_ ?_ (v2, s)
  · exact fun l => fcck_gatherInner_18b _ _ _
  · exact (fun e => fm_some md_refl)
noncomputable def cck_gatherInner (v1 : Int) (s : iS) : Option (Int × iS) := bd (nam_keep 99 100 101 100 0 s) (fun _ s1 => gd (0 ≤ v1 ∧ v1 < 19) (cck_gatherInner_18 v1 (s1 78 v1.toNat) s1))
theorem tcck_gatherInner (w : ev_W) (d : Nat) (hd : 4 ≤ d) (v1 : Int) (s : iS) : Ew hT w d 248 0 [(0, .ref (tb_nK + 90)), (1, iv v1)] [] s (Cv hT) (cck_gatherInner v1 s) := by
  unfold cck_gatherInner
  refine e_mv 1 em_248 (ce_at ce_248 0 rfl) rfl rfl ?_
  refine e_getr 4 em_248 (ce_at ce_248 1 rfl) tq_90 rfl rfl ?_
  refine e_op 5 em_248 (ce_at ce_248 2 rfl) rfl rfl ?_
  refine e_ivv 8 em_248 (ce_at ce_248 3 rfl) (by omega) (iv_v1 (by decide) tq_99 rfl) em_66 (Nat.le_of_ble_eq_true rfl) rfl (tnam_keep hT w (d - 1) (by omega) 99 100 101 100 tq_99 tq_100 tq_101 (by decide) _ _) (fun r1 s1 => ?_)
  refine e_mv 9 em_248 (ce_at ce_248 4 rfl) rfl rfl ?_
  refine e_getr 12 em_248 (ce_at ce_248 5 rfl) tq_90 rfl rfl ?_
  refine e_getr 15 em_248 (ce_at ce_248 6 rfl) tq_71 rfl rfl ?_
  refine e_mv 16 em_248 (ce_at ce_248 7 rfl) rfl rfl ?_
  refine e_gd fun g2 => ?_
  refine e_ild 17 em_248 (ce_at ce_248 8 rfl) tq_78 (by decide) g2 rfl ?_
  refine e_mv 18 em_248 (ce_at ce_248 9 rfl) rfl rfl ?_
  refine e_pk [0, 1, 2] rfl rfl ?_
  exact tcck_gatherInner_18 w d hd _ _ _
theorem fcck_gatherInner (v1 : Int) (s : iS) : Fm Prod.snd L_cck_gatherInner G_cck_gatherInner s (cck_gatherInner v1 s) := fm_bd (fm_sub (fnam_keep 99 100 101 100 _ _) (mem_sub_L rfl) (mem_sub_F rfl)) (fun r1 s1 => fm_gd (fcck_gatherInner_18 _ _ _))
/-! cck_compareWidths -/
def L_cck_compareWidths : List Nat := []
def G_cck_compareWidths : List (Nat × Nat) := [(2, 13), (2, 14)]
noncomputable def cck_compareWidths (v1 : Int) (v2 : Int) (s : iS) : Option (Int × iS) := gd (rg v2) (if v2 = (-1) then some (0, s) else gd (0 ≤ v1 ∧ v1 < 500) (gd (rg (s 97 v1.toNat)) (if (s 97 v1.toNat) = (-1) then some (0, s) else if v2 = (s 97 v1.toNat) then some (0, s) else bd (tok_blame 5 (s 86 v1.toNat) s) (fun _ s7 => some (0, s7)))))
theorem tcck_compareWidths (w : ev_W) (d : Nat) (hd : 1 ≤ d) (v1 : Int) (v2 : Int) (s : iS) : Ew hT w d 262 0 [(0, .ref (tb_nK + 90)), (1, iv v1), (2, iv v2)] [] s (Cv hT) (cck_compareWidths v1 v2 s) := by
  unfold cck_compareWidths
  refine e_mv 1 em_262 (ce_at ce_262 0 rfl) rfl rfl ?_
  refine e_op 2 em_262 (ce_at ce_262 1 rfl) rfl rfl ?_
  refine e_gd fun g1 => ?_
  refine e_cmeq 42 5 em_262 rfl rfl (ce_at ce_262 2 rfl) g1 (by decide) (fun h2 => ?_) (fun h2 => ?_)
  · exact e_retv em_262 (ce_at ce_262 24 rfl)
  · refine e_mv 6 em_262 (ce_at ce_262 3 rfl) rfl rfl ?_
    refine e_getr 9 em_262 (ce_at ce_262 4 rfl) tq_90 rfl rfl ?_
    refine e_mv 10 em_262 (ce_at ce_262 5 rfl) rfl rfl ?_
    refine e_gd fun g3 => ?_
    refine e_ild 11 em_262 (ce_at ce_262 6 rfl) tq_97 (by decide) g3 rfl ?_
    refine e_op 12 em_262 (ce_at ce_262 7 rfl) rfl rfl ?_
    refine e_gd fun g4 => ?_
    refine e_cmeq 42 15 em_262 rfl rfl (ce_at ce_262 8 rfl) g4 (by decide) (fun h5 => ?_) (fun h5 => ?_)
    · exact e_retv em_262 (ce_at ce_262 24 rfl)
    · refine e_mv 16 em_262 (ce_at ce_262 9 rfl) rfl rfl ?_
      refine e_mv 17 em_262 (ce_at ce_262 10 rfl) rfl rfl ?_
      refine e_getr 20 em_262 (ce_at ce_262 11 rfl) tq_90 rfl rfl ?_
      refine e_mv 21 em_262 (ce_at ce_262 12 rfl) rfl rfl ?_
      refine e_ild 22 em_262 (ce_at ce_262 13 rfl) tq_97 (by decide) g3 rfl ?_
      refine e_cmeq 42 25 em_262 rfl rfl (ce_at ce_262 14 rfl) g1 g4 (fun h6 => ?_) (fun h6 => ?_)
      · exact e_retv em_262 (ce_at ce_262 24 rfl)
      · refine e_mv 26 em_262 (ce_at ce_262 15 rfl) rfl rfl ?_
        refine e_getr 29 em_262 (ce_at ce_262 16 rfl) tq_90 rfl rfl ?_
        refine e_op 30 em_262 (ce_at ce_262 17 rfl) rfl rfl ?_
        refine e_mv 31 em_262 (ce_at ce_262 18 rfl) rfl rfl ?_
        refine e_getr 34 em_262 (ce_at ce_262 19 rfl) tq_90 rfl rfl ?_
        refine e_getr 37 em_262 (ce_at ce_262 20 rfl) tq_71 rfl rfl ?_
        refine e_mv 38 em_262 (ce_at ce_262 21 rfl) rfl rfl ?_
        refine e_ild 39 em_262 (ce_at ce_262 22 rfl) tq_86 (by decide) g3 rfl ?_
        refine e_ivv 42 em_262 (ce_at ce_262 23 rfl) (by omega) (iv_v2 (by decide) tq_2 rfl) em_77 (Nat.le_of_ble_eq_true rfl) rfl (ttok_blame w (d - 1) (by omega) _ _ _) (fun r7 s7 => ?_)
        exact e_retv em_262 (ce_at ce_262 24 rfl)
theorem fcck_compareWidths (v1 : Int) (v2 : Int) (s : iS) : Fm Prod.snd L_cck_compareWidths G_cck_compareWidths s (cck_compareWidths v1 v2 s) := fm_gd (fm_if (fm_some md_refl) (fm_gd (fm_gd (fm_if (fm_some md_refl) (fm_if (fm_some md_refl) (fm_bd (fm_sub (ftok_blame _ _ _) (mem_sub_L rfl) (mem_sub_F rfl)) (fun r7 s7 => fm_some md_refl)))))))
/-! cck_rangeMask -/
def L_cck_rangeMask : List Nat := []
def G_cck_rangeMask : List (Nat × Nat) := []
noncomputable def cck_rangeMask (v0 : Int) (v1 : Int) (s : iS) : Option (Int × iS) := some ((i_shl ((i_shl 1 v1) - 1) v0), s)
theorem tcck_rangeMask (H : iS → List am_C) (w : ev_W) (d : Nat) (hd : 0 ≤ d) (v0 : Int) (v1 : Int) (s : iS) : Ew H w d 258 0 [(0, iv v0), (1, iv v1)] [] s (Ci H) (cck_rangeMask v0 v1 s) := by
  unfold cck_rangeMask
  refine e_op 1 em_258 (ce_at ce_258 0 rfl) rfl rfl ?_
  refine e_mv 2 em_258 (ce_at ce_258 1 rfl) rfl rfl ?_
  refine e_ishl 3 em_258 rfl (ce_at ce_258 2 rfl) ?_
  refine e_op 4 em_258 (ce_at ce_258 3 rfl) rfl rfl ?_
  refine e_isub 5 em_258 rfl (ce_at ce_258 4 rfl) ?_
  refine e_mv 6 em_258 (ce_at ce_258 5 rfl) rfl rfl ?_
  refine e_ishl 7 em_258 rfl (ce_at ce_258 6 rfl) ?_
  exact e_reti em_258 (ce_at ce_258 7 rfl)
theorem fcck_rangeMask (v0 : Int) (v1 : Int) (s : iS) : Fm Prod.snd L_cck_rangeMask G_cck_rangeMask s (cck_rangeMask v0 v1 s) := fm_some md_refl
/-! cck_isLinked -/
noncomputable def cck_isLinked_25 (a0 : Nat) (n0 : Nat) (v1 : Int) (v2 : Int) (t0 : Int) (s : iS) : Option (Int × iS) := gd (0 ≤ v1 ∧ v1 < (n0 : Int)) (lt' (up s a0 v1.toNat (i_or (s a0 v1.toNat) v2)) (fun s2 => gd (t0 = 0 ∨ t0 = 1) (some (t0, s2))))
theorem tcck_isLinked_25 (H : iS → List am_C) (w : ev_W) (d : Nat) (hd : 0 ≤ d) (a0 : Nat) (n0 : Nat) (h_a0 : Ha H a0 0 n0) (hl_n0 : n0 < 2147483648) (v1 : Int) (v2 : Int) (t0 : Int) (s : iS) : Ew H w d 259 25 [(0, .ref (tb_nK + a0)), (1, iv v1), (2, iv v2)] [iv t0] s (Ci H) (cck_isLinked_25 a0 n0 v1 v2 t0 s) := by
  unfold cck_isLinked_25
  refine e_mv 26 em_259 (ce_at ce_259 17 rfl) rfl rfl ?_
  refine e_mv 27 em_259 (ce_at ce_259 18 rfl) rfl rfl ?_
  refine e_mv 28 em_259 (ce_at ce_259 19 rfl) rfl rfl ?_
  refine e_op 29 em_259 (ce_at ce_259 20 rfl) rfl rfl ?_
  refine e_gd fun g1 => ?_
  refine e_ild 30 em_259 (ce_at ce_259 21 rfl) h_a0 hl_n0 g1 rfl ?_
  refine e_mv 31 em_259 (ce_at ce_259 22 rfl) rfl rfl ?_
  refine e_ior 32 em_259 rfl (ce_at ce_259 23 rfl) ?_
  refine e_ist 33 em_259 (ce_at ce_259 24 rfl) h_a0 hl_n0 g1 rfl (fun s2 => ?_)
  refine e_mv 34 em_259 (ce_at ce_259 25 rfl) rfl rfl ?_
  refine e_gd fun g3 => ?_
  exact e_retz em_259 (ce_at ce_259 26 rfl) g3
theorem fcck_isLinked_25 (a0 : Nat) (n0 : Nat) (v1 : Int) (v2 : Int) (t0 : Int) (s : iS) : Fm Prod.snd [a0] [] s (cck_isLinked_25 a0 n0 v1 v2 t0 s) := fm_gd (fm_lt (md_upL (List.Mem.head _)) (fun s2 => fm_gd (fm_some md_refl)))
noncomputable def cck_isLinked (a0 : Nat) (n0 : Nat) (v1 : Int) (v2 : Int) (s : iS) : Option (Int × iS) := gd (rg v1) (if v1 < 0 then some (0, s) else gd (rg (n0 : Int)) (if v1 < (n0 : Int) then gd (0 ≤ v1 ∧ v1 < (n0 : Int)) (gd (rg (i_and (s a0 v1.toNat) v2)) (if (i_and (s a0 v1.toNat) v2) = 0 then cck_isLinked_25 a0 n0 v1 v2 0 s else cck_isLinked_25 a0 n0 v1 v2 1 s)) else some (0, s)))
theorem tcck_isLinked (H : iS → List am_C) (w : ev_W) (d : Nat) (hd : 0 ≤ d) (a0 : Nat) (n0 : Nat) (h_a0 : Ha H a0 0 n0) (hl_n0 : n0 < 2147483648) (v1 : Int) (v2 : Int) (s : iS) : Ew H w d 259 0 [(0, .ref (tb_nK + a0)), (1, iv v1), (2, iv v2)] [] s (Ci H) (cck_isLinked a0 n0 v1 v2 s) := by
  unfold cck_isLinked
  refine e_mv 1 em_259 (ce_at ce_259 0 rfl) rfl rfl ?_
  refine e_gd fun g1 => ?_
  refine e_iflt 10 4 em_259 rfl rfl (ce_at ce_259 1 rfl) g1 (fun h2 => ?_) (fun h2 => ?_)
  · refine e_op 11 em_259 (ce_at ce_259 6 rfl) rfl rfl ?_
    exact e_retz em_259 (ce_at ce_259 7 rfl) (by decide)
  · refine e_mv 5 em_259 (ce_at ce_259 2 rfl) rfl rfl ?_
    refine e_mv 6 em_259 (ce_at ce_259 3 rfl) rfl rfl ?_
    refine e_alen 7 em_259 (ce_at ce_259 4 rfl) h_a0 (by decide) rfl rfl ?_
    refine e_gd fun g3 => ?_
    refine e_cmlt 12 10 em_259 rfl rfl (ce_at ce_259 5 rfl) g1 g3 (fun h4 => ?_) (fun h4 => ?_)
    · refine e_mv 13 em_259 (ce_at ce_259 8 rfl) rfl rfl ?_
      refine e_mv 14 em_259 (ce_at ce_259 9 rfl) rfl rfl ?_
      refine e_gd fun g5 => ?_
      refine e_ild 15 em_259 (ce_at ce_259 10 rfl) h_a0 hl_n0 g5 rfl ?_
      refine e_mv 16 em_259 (ce_at ce_259 11 rfl) rfl rfl ?_
      refine e_iand 17 em_259 rfl (ce_at ce_259 12 rfl) ?_
      refine e_gd fun g6 => ?_
      refine e_ifeq 24 20 em_259 rfl rfl (ce_at ce_259 13 rfl) g6 (fun h7 => ?_) (fun h7 => ?_)
      · refine e_op 25 em_259 (ce_at ce_259 16 rfl) rfl rfl ?_
        refine e_pk [0, 1, 2] rfl rfl ?_
        exact tcck_isLinked_25 H w d hd a0 n0 h_a0 hl_n0 _ _ _ _
      · refine e_op 21 em_259 (ce_at ce_259 14 rfl) rfl rfl ?_
        refine e_goto em_259 25 (ce_at ce_259 15 rfl) rfl ?_
        refine e_pk [0, 1, 2] rfl rfl ?_
        exact tcck_isLinked_25 H w d hd a0 n0 h_a0 hl_n0 _ _ _ _
    · refine e_op 11 em_259 (ce_at ce_259 6 rfl) rfl rfl ?_
      exact e_retz em_259 (ce_at ce_259 7 rfl) (by decide)
theorem fcck_isLinked (a0 : Nat) (n0 : Nat) (v1 : Int) (v2 : Int) (s : iS) : Fm Prod.snd [a0] [] s (cck_isLinked a0 n0 v1 v2 s) := fm_gd (fm_if (fm_some md_refl) (fm_gd (fm_if (fm_gd (fm_gd (fm_if (fcck_isLinked_25 a0 n0 _ _ _ _) (fcck_isLinked_25 a0 n0 _ _ _ _)))) (fm_some md_refl))))
/-! cck_checkOwnPin -/
def L_cck_checkOwnPin : List Nat := [98, 106]
def G_cck_checkOwnPin : List (Nat × Nat) := [(2, 13), (2, 14)]
noncomputable def cck_checkOwnPin_129 (v2 : Int) (v6 : Int) (s : iS) : Option (Int × iS) := bd (cck_compareWidths v2 v6 s) (fun _ s1 => some (0, s1))
theorem tcck_checkOwnPin_129 (w : ev_W) (d : Nat) (hd : 2 ≤ d) (v2 : Int) (v6 : Int) (s : iS) : Ew hT w d 263 129 [(0, .ref (tb_nK + 90)), (2, iv v2), (6, iv v6)] [] s (Cv hT) (cck_checkOwnPin_129 v2 v6 s) := by
  unfold cck_checkOwnPin_129
  refine e_mv 130 em_263 (ce_at ce_263 71 rfl) rfl rfl ?_
  refine e_mv 131 em_263 (ce_at ce_263 72 rfl) rfl rfl ?_
  refine e_mv 133 em_263 (ce_at ce_263 73 rfl) rfl rfl ?_
  refine e_ivv 136 em_263 (ce_at ce_263 74 rfl) (by omega) (iv_v2 (by decide) tq_90 rfl) em_262 (Nat.le_of_ble_eq_true rfl) rfl (tcck_compareWidths w (d - 1) (by omega) _ _ _) (fun r1 s1 => ?_)
  exact e_retv em_263 (ce_at ce_263 75 rfl)
theorem fcck_checkOwnPin_129 (v2 : Int) (v6 : Int) (s : iS) : Fm Prod.snd L_cck_checkOwnPin G_cck_checkOwnPin s (cck_checkOwnPin_129 v2 v6 s) := fm_bd (fm_sub (fcck_compareWidths _ _ _) (mem_sub_L rfl) (mem_sub_F rfl)) (fun r1 s1 => fm_some md_refl)
noncomputable def cck_checkOwnPin (v1 : Int) (v2 : Int) (v3 : Int) (s : iS) : Option (Int × iS) := gd (0 ≤ v2 ∧ v2 < 500) (bd (cck_lowBit (s 86 v2.toNat) s) (fun r2 s2 => gd (0 ≤ v3 ∧ v3 < 197) (bd (cck_highBit (s 86 v2.toNat) (s2 91 v3.toNat) s2) (fun r4 s4 => bd (cck_rangeWidth r2 r4 (s4 91 v3.toNat) s4) (fun r5 s5 => lt' (up s5 98 v2.toNat ((s5 92 v3.toNat) + r2)) (fun s6 => gd (rg r5) (if r5 = (-1) then bd (tok_blame 5 ((s 86 v2.toNat) + 1) s6) (fun _ s18 => some (0, s18)) else gd (0 ≤ v1 ∧ v1 < 19) (bd (cck_isOut v1 v3 s6) (fun r10 s10 => gd (rg r10) (if r10 = 0 then cck_checkOwnPin_129 v2 r5 s10 else bd (cck_rangeMask r2 r5 s10) (fun r13 s13 => bd (cck_isLinked 106 12 (v3 - (s6 76 v1.toNat)) r13 s13) (fun r14 s14 => gd (rg r14) (if r14 = 0 then cck_checkOwnPin_129 v2 r5 s14 else bd (tok_blame 3 (s 86 v2.toNat) s14) (fun _ s17 => cck_checkOwnPin_129 v2 r5 s17))))))))))))))
theorem tcck_checkOwnPin (w : ev_W) (d : Nat) (hd : 2 ≤ d) (v1 : Int) (v2 : Int) (v3 : Int) (s : iS) : Ew hT w d 263 0 [(0, .ref (tb_nK + 90)), (1, iv v1), (2, iv v2), (3, iv v3)] [] s (Cv hT) (cck_checkOwnPin v1 v2 v3 s) := by
  unfold cck_checkOwnPin
  refine e_mv 1 em_263 (ce_at ce_263 0 rfl) rfl rfl ?_
  refine e_getr 4 em_263 (ce_at ce_263 1 rfl) tq_90 rfl rfl ?_
  refine e_getr 7 em_263 (ce_at ce_263 2 rfl) tq_71 rfl rfl ?_
  refine e_mv 8 em_263 (ce_at ce_263 3 rfl) rfl rfl ?_
  refine e_gd fun g1 => ?_
  refine e_ild 9 em_263 (ce_at ce_263 4 rfl) tq_86 (by decide) g1 rfl ?_
  refine e_mv 11 em_263 (ce_at ce_263 5 rfl) rfl rfl ?_
  refine e_mv 12 em_263 (ce_at ce_263 6 rfl) rfl rfl ?_
  refine e_mv 14 em_263 (ce_at ce_263 7 rfl) rfl rfl ?_
  refine e_ivi 17 em_263 (ce_at ce_263 8 rfl) (by omega) (iv_v1 (by decide) tq_90 rfl) em_253 (Nat.le_of_ble_eq_true rfl) rfl (tcck_lowBit w (d - 1) (by omega) _ _) (fun r2 s2 => ?_)
  refine e_mv 19 em_263 (ce_at ce_263 9 rfl) rfl rfl ?_
  refine e_mv 21 em_263 (ce_at ce_263 10 rfl) rfl rfl ?_
  refine e_mv 22 em_263 (ce_at ce_263 11 rfl) rfl rfl ?_
  refine e_mv 24 em_263 (ce_at ce_263 12 rfl) rfl rfl ?_
  refine e_mv 25 em_263 (ce_at ce_263 13 rfl) rfl rfl ?_
  refine e_getr 28 em_263 (ce_at ce_263 14 rfl) tq_90 rfl rfl ?_
  refine e_mv 29 em_263 (ce_at ce_263 15 rfl) rfl rfl ?_
  refine e_gd fun g3 => ?_
  refine e_ild 30 em_263 (ce_at ce_263 16 rfl) tq_91 (by decide) g3 rfl ?_
  refine e_ivi 33 em_263 (ce_at ce_263 17 rfl) (by omega) (iv_v2 (by decide) tq_90 rfl) em_254 (Nat.le_of_ble_eq_true rfl) rfl (tcck_highBit w (d - 1) (by omega) _ _ _) (fun r4 s4 => ?_)
  refine e_mv 34 em_263 (ce_at ce_263 18 rfl) rfl rfl ?_
  refine e_getr 37 em_263 (ce_at ce_263 19 rfl) tq_90 rfl rfl ?_
  refine e_mv 38 em_263 (ce_at ce_263 20 rfl) rfl rfl ?_
  refine e_ild 39 em_263 (ce_at ce_263 21 rfl) tq_91 (by decide) g3 rfl ?_
  refine e_ivi 42 em_263 (ce_at ce_263 22 rfl) (by omega) (iv_s3 rfl) em_255 (Nat.le_of_ble_eq_true rfl) rfl (tcck_rangeWidth hT w (d - 1) (by omega) _ _ _ _) (fun r5 s5 => ?_)
  refine e_mv 44 em_263 (ce_at ce_263 23 rfl) rfl rfl ?_
  refine e_mv 45 em_263 (ce_at ce_263 24 rfl) rfl rfl ?_
  refine e_getr 48 em_263 (ce_at ce_263 25 rfl) tq_90 rfl rfl ?_
  refine e_mv 49 em_263 (ce_at ce_263 26 rfl) rfl rfl ?_
  refine e_mv 50 em_263 (ce_at ce_263 27 rfl) rfl rfl ?_
  refine e_getr 53 em_263 (ce_at ce_263 28 rfl) tq_90 rfl rfl ?_
  refine e_mv 54 em_263 (ce_at ce_263 29 rfl) rfl rfl ?_
  refine e_ild 55 em_263 (ce_at ce_263 30 rfl) tq_92 (by decide) g3 rfl ?_
  refine e_mv 57 em_263 (ce_at ce_263 31 rfl) rfl rfl ?_
  refine e_iadd 58 em_263 rfl (ce_at ce_263 32 rfl) ?_
  refine e_ist 59 em_263 (ce_at ce_263 33 rfl) tq_98 (by decide) g1 rfl (fun s6 => ?_)
  refine e_mv 61 em_263 (ce_at ce_263 34 rfl) rfl rfl ?_
  refine e_op 62 em_263 (ce_at ce_263 35 rfl) rfl rfl ?_
  refine e_gd fun g7 => ?_
  refine e_cmne 78 65 em_263 rfl rfl (ce_at ce_263 36 rfl) g7 (by decide) (fun h8 => ?_) (fun h8 => ?_)
  · refine e_mv 79 em_263 (ce_at ce_263 45 rfl) rfl rfl ?_
    refine e_mv 80 em_263 (ce_at ce_263 46 rfl) rfl rfl ?_
    refine e_getr 83 em_263 (ce_at ce_263 47 rfl) tq_90 rfl rfl ?_
    refine e_getr 86 em_263 (ce_at ce_263 48 rfl) tq_71 rfl rfl ?_
    refine e_mv 87 em_263 (ce_at ce_263 49 rfl) rfl rfl ?_
    refine e_gd fun g9 => ?_
    refine e_ild 88 em_263 (ce_at ce_263 50 rfl) tq_76 (by decide) g9 rfl ?_
    refine e_isub 89 em_263 rfl (ce_at ce_263 51 rfl) ?_
    refine e_mv 91 em_263 (ce_at ce_263 52 rfl) rfl rfl ?_
    refine e_mv 92 em_263 (ce_at ce_263 53 rfl) rfl rfl ?_
    refine e_mv 93 em_263 (ce_at ce_263 54 rfl) rfl rfl ?_
    refine e_mv 94 em_263 (ce_at ce_263 55 rfl) rfl rfl ?_
    refine e_ivi 97 em_263 (ce_at ce_263 56 rfl) (by omega) (iv_v2 (by decide) tq_90 rfl) em_251 (Nat.le_of_ble_eq_true rfl) rfl (tcck_isOut w (d - 1) (by omega) _ _ _) (fun r10 s10 => ?_)
    refine e_gd fun g11 => ?_
    refine e_ifeq 129 100 em_263 rfl rfl (ce_at ce_263 57 rfl) g11 (fun h12 => ?_) (fun h12 => ?_)
    · refine e_pk [0, 2, 6] rfl rfl ?_
      exact tcck_checkOwnPin_129 w d hd _ _ _
    · refine e_mv 101 em_263 (ce_at ce_263 58 rfl) rfl rfl ?_
      refine e_getr 104 em_263 (ce_at ce_263 59 rfl) tq_90 rfl rfl ?_
      refine e_mv 106 em_263 (ce_at ce_263 60 rfl) rfl rfl ?_
      refine e_mv 108 em_263 (ce_at ce_263 61 rfl) rfl rfl ?_
      refine e_mv 110 em_263 (ce_at ce_263 62 rfl) rfl rfl ?_
      refine e_ivi 113 em_263 (ce_at ce_263 63 rfl) (by omega) (iv_s2 rfl) em_258 (Nat.le_of_ble_eq_true rfl) rfl (tcck_rangeMask hT w (d - 1) (by omega) _ _ _) (fun r13 s13 => ?_)
      refine e_ivi 116 em_263 (ce_at ce_263 64 rfl) (by omega) (iv_s3 rfl) em_259 (Nat.le_of_ble_eq_true rfl) rfl (tcck_isLinked hT w (d - 1) (by omega) 106 12 tq_106 (by decide) _ _ _) (fun r14 s14 => ?_)
      refine e_gd fun g15 => ?_
      refine e_ifeq 129 119 em_263 rfl rfl (ce_at ce_263 65 rfl) g15 (fun h16 => ?_) (fun h16 => ?_)
      · refine e_pk [0, 2, 6] rfl rfl ?_
        exact tcck_checkOwnPin_129 w d hd _ _ _
      · refine e_mv 120 em_263 (ce_at ce_263 66 rfl) rfl rfl ?_
        refine e_getr 123 em_263 (ce_at ce_263 67 rfl) tq_90 rfl rfl ?_
        refine e_op 124 em_263 (ce_at ce_263 68 rfl) rfl rfl ?_
        refine e_mv 126 em_263 (ce_at ce_263 69 rfl) rfl rfl ?_
        refine e_ivv 129 em_263 (ce_at ce_263 70 rfl) (by omega) (iv_v2 (by decide) tq_2 rfl) em_77 (Nat.le_of_ble_eq_true rfl) rfl (ttok_blame w (d - 1) (by omega) _ _ _) (fun r17 s17 => ?_)
        refine e_pk [0, 2, 6] rfl rfl ?_
        exact tcck_checkOwnPin_129 w d hd _ _ _
  · refine e_mv 66 em_263 (ce_at ce_263 37 rfl) rfl rfl ?_
    refine e_getr 69 em_263 (ce_at ce_263 38 rfl) tq_90 rfl rfl ?_
    refine e_op 70 em_263 (ce_at ce_263 39 rfl) rfl rfl ?_
    refine e_mv 72 em_263 (ce_at ce_263 40 rfl) rfl rfl ?_
    refine e_op 73 em_263 (ce_at ce_263 41 rfl) rfl rfl ?_
    refine e_iadd 74 em_263 rfl (ce_at ce_263 42 rfl) ?_
    refine e_ivv 77 em_263 (ce_at ce_263 43 rfl) (by omega) (iv_v2 (by decide) tq_2 rfl) em_77 (Nat.le_of_ble_eq_true rfl) rfl (ttok_blame w (d - 1) (by omega) _ _ _) (fun r18 s18 => ?_)
    exact e_retv em_263 (ce_at ce_263 44 rfl)
theorem fcck_checkOwnPin (v1 : Int) (v2 : Int) (v3 : Int) (s : iS) : Fm Prod.snd L_cck_checkOwnPin G_cck_checkOwnPin s (cck_checkOwnPin v1 v2 v3 s) := fm_gd (fm_bd (fm_sub (fcck_lowBit _ _) (mem_sub_L rfl) (mem_sub_F rfl)) (fun r2 s2 => fm_gd (fm_bd (fm_sub (fcck_highBit _ _ _) (mem_sub_L rfl) (mem_sub_F rfl)) (fun r4 s4 => fm_bd (fm_sub (fcck_rangeWidth _ _ _ _) (mem_sub_L rfl) (mem_sub_F rfl)) (fun r5 s5 => fm_lt (md_upL (mem_L rfl)) (fun s6 => fm_gd (fm_if (fm_bd (fm_sub (ftok_blame _ _ _) (mem_sub_L rfl) (mem_sub_F rfl)) (fun r18 s18 => fm_some md_refl)) (fm_gd (fm_bd (fm_sub (fcck_isOut _ _ _) (mem_sub_L rfl) (mem_sub_F rfl)) (fun r10 s10 => fm_gd (fm_if (fcck_checkOwnPin_129 _ _ _) (fm_bd (fm_sub (fcck_rangeMask _ _ _) (mem_sub_L rfl) (mem_sub_F rfl)) (fun r13 s13 => fm_bd (fm_sub (fcck_isLinked 106 12 _ _ _) (mem_sub_L rfl) (mem_sub_F rfl)) (fun r14 s14 => fm_gd (fm_if (fcck_checkOwnPin_129 _ _ _) (fm_bd (fm_sub (ftok_blame _ _ _) (mem_sub_L rfl) (mem_sub_F rfl)) (fun r17 s17 => fcck_checkOwnPin_129 _ _ _)))))))))))))))))
/-! cck_checkInner -/
def L_cck_checkInner : List Nat := [98]
def G_cck_checkInner : List (Nat × Nat) := [(2, 13), (2, 14)]
noncomputable def cck_checkInner_70 (v1 : Int) (v2 : Int) (v3 : Int) (v4 : Int) (s : iS) : Option (Int × iS) := bd (tok_kindOf (v3 + 1) s) (fun r1 s1 => gd (rg r1) (if r1 = 91 then bd (tok_blame 5 (v3 + 1) s1) (fun _ s8 => some (0, s8)) else gd (rg v2) (if v2 = 0 then gd (0 ≤ v4 ∧ v4 < 100) (bd (cck_compareWidths v1 (s1 102 v4.toNat) s1) (fun _ s7 => some (0, s7))) else some (0, s1))))
theorem tcck_checkInner_70 (w : ev_W) (d : Nat) (hd : 3 ≤ d) (v1 : Int) (v2 : Int) (v3 : Int) (v4 : Int) (s : iS) : Ew hT w d 261 70 [(0, .ref (tb_nK + 90)), (1, iv v1), (2, iv v2), (3, iv v3), (4, iv v4)] [] s (Cv hT) (cck_checkInner_70 v1 v2 v3 v4 s) := by
  unfold cck_checkInner_70
  refine e_mv 71 em_261 (ce_at ce_261 40 rfl) rfl rfl ?_
  refine e_getr 74 em_261 (ce_at ce_261 41 rfl) tq_90 rfl rfl ?_
  refine e_mv 75 em_261 (ce_at ce_261 42 rfl) rfl rfl ?_
  refine e_op 76 em_261 (ce_at ce_261 43 rfl) rfl rfl ?_
  refine e_iadd 77 em_261 rfl (ce_at ce_261 44 rfl) ?_
  refine e_ivi 80 em_261 (ce_at ce_261 45 rfl) (by omega) (iv_v1 (by decide) tq_2 rfl) em_112 (Nat.le_of_ble_eq_true rfl) rfl (ttok_kindOf w (d - 1) (by omega) _ _) (fun r1 s1 => ?_)
  refine e_bip 82 em_261 (ce_at ce_261 46 rfl) (by decide) rfl ?_
  refine e_gd fun g2 => ?_
  refine e_cmne 99 85 em_261 rfl rfl (ce_at ce_261 47 rfl) g2 (by decide) (fun h3 => ?_) (fun h3 => ?_)
  · refine e_mv 100 em_261 (ce_at ce_261 56 rfl) rfl rfl ?_
    refine e_gd fun g4 => ?_
    refine e_ifne 115 103 em_261 rfl rfl (ce_at ce_261 57 rfl) g4 (fun h5 => ?_) (fun h5 => ?_)
    · exact e_retv em_261 (ce_at ce_261 65 rfl)
    · refine e_mv 104 em_261 (ce_at ce_261 58 rfl) rfl rfl ?_
      refine e_mv 105 em_261 (ce_at ce_261 59 rfl) rfl rfl ?_
      refine e_mv 106 em_261 (ce_at ce_261 60 rfl) rfl rfl ?_
      refine e_getr 109 em_261 (ce_at ce_261 61 rfl) tq_90 rfl rfl ?_
      refine e_mv 111 em_261 (ce_at ce_261 62 rfl) rfl rfl ?_
      refine e_gd fun g6 => ?_
      refine e_ild 112 em_261 (ce_at ce_261 63 rfl) tq_102 (by decide) g6 rfl ?_
      refine e_ivv 115 em_261 (ce_at ce_261 64 rfl) (by omega) (iv_v2 (by decide) tq_90 rfl) em_262 (Nat.le_of_ble_eq_true rfl) rfl (tcck_compareWidths w (d - 1) (by omega) _ _ _) (fun r7 s7 => ?_)
      exact e_retv em_261 (ce_at ce_261 65 rfl)
  · refine e_mv 86 em_261 (ce_at ce_261 48 rfl) rfl rfl ?_
    refine e_getr 89 em_261 (ce_at ce_261 49 rfl) tq_90 rfl rfl ?_
    refine e_op 90 em_261 (ce_at ce_261 50 rfl) rfl rfl ?_
    refine e_mv 91 em_261 (ce_at ce_261 51 rfl) rfl rfl ?_
    refine e_op 92 em_261 (ce_at ce_261 52 rfl) rfl rfl ?_
    refine e_iadd 93 em_261 rfl (ce_at ce_261 53 rfl) ?_
    refine e_ivv 96 em_261 (ce_at ce_261 54 rfl) (by omega) (iv_v2 (by decide) tq_2 rfl) em_77 (Nat.le_of_ble_eq_true rfl) rfl (ttok_blame w (d - 1) (by omega) _ _ _) (fun r8 s8 => ?_)
    refine e_goto em_261 115 (ce_at ce_261 55 rfl) rfl ?_
    exact e_retv em_261 (ce_at ce_261 65 rfl)
theorem fcck_checkInner_70 (v1 : Int) (v2 : Int) (v3 : Int) (v4 : Int) (s : iS) : Fm Prod.snd L_cck_checkInner G_cck_checkInner s (cck_checkInner_70 v1 v2 v3 v4 s) := fm_bd (fm_sub (ftok_kindOf _ _) (mem_sub_L rfl) (mem_sub_F rfl)) (fun r1 s1 => fm_gd (fm_if (fm_bd (fm_sub (ftok_blame _ _ _) (mem_sub_L rfl) (mem_sub_F rfl)) (fun r8 s8 => fm_some md_refl)) (fm_gd (fm_if (fm_gd (fm_bd (fm_sub (fcck_compareWidths _ _ _) (mem_sub_L rfl) (mem_sub_F rfl)) (fun r7 s7 => fm_some md_refl))) (fm_some md_refl)))))
noncomputable def cck_checkInner (v1 : Int) (v2 : Int) (s : iS) : Option (Int × iS) := gd (0 ≤ v1 ∧ v1 < 500) (bd (cck_findInner (s 86 v1.toNat) s) (fun r2 s2 => gd (rg r2) (if r2 = (-1) then bd (tok_blame 4 (s 86 v1.toNat) s2) (fun _ s13 => some (0, s13)) else gd (0 ≤ r2 ∧ r2 < 100) (lt' (up s2 98 v1.toNat (s2 103 r2.toNat)) (fun s6 => gd (rg v2) (if v2 = 0 then cck_checkInner_70 v1 v2 (s 86 v1.toNat) r2 s6 else gd (rg (s6 104 r2.toNat)) (gd (rg v1) (if (s6 104 r2.toNat) = v1 then cck_checkInner_70 v1 v2 (s 86 v1.toNat) r2 s6 else bd (tok_blame 3 (s 86 v1.toNat) s6) (fun _ s12 => cck_checkInner_70 v1 v2 (s 86 v1.toNat) r2 s12)))))))))
theorem tcck_checkInner (w : ev_W) (d : Nat) (hd : 3 ≤ d) (v1 : Int) (v2 : Int) (s : iS) : Ew hT w d 261 0 [(0, .ref (tb_nK + 90)), (1, iv v1), (2, iv v2)] [] s (Cv hT) (cck_checkInner v1 v2 s) := by
  unfold cck_checkInner
  refine e_mv 1 em_261 (ce_at ce_261 0 rfl) rfl rfl ?_
  refine e_getr 4 em_261 (ce_at ce_261 1 rfl) tq_90 rfl rfl ?_
  refine e_getr 7 em_261 (ce_at ce_261 2 rfl) tq_71 rfl rfl ?_
  refine e_mv 8 em_261 (ce_at ce_261 3 rfl) rfl rfl ?_
  refine e_gd fun g1 => ?_
  refine e_ild 9 em_261 (ce_at ce_261 4 rfl) tq_86 (by decide) g1 rfl ?_
  refine e_mv 10 em_261 (ce_at ce_261 5 rfl) rfl rfl ?_
  refine e_mv 11 em_261 (ce_at ce_261 6 rfl) rfl rfl ?_
  refine e_mv 12 em_261 (ce_at ce_261 7 rfl) rfl rfl ?_
  refine e_ivi 15 em_261 (ce_at ce_261 8 rfl) (by omega) (iv_v1 (by decide) tq_90 rfl) em_252 (Nat.le_of_ble_eq_true rfl) rfl (tcck_findInner w (d - 1) (by omega) _ _) (fun r2 s2 => ?_)
  refine e_mv 17 em_261 (ce_at ce_261 9 rfl) rfl rfl ?_
  refine e_mv 19 em_261 (ce_at ce_261 10 rfl) rfl rfl ?_
  refine e_op 20 em_261 (ce_at ce_261 11 rfl) rfl rfl ?_
  refine e_gd fun g3 => ?_
  refine e_cmne 33 23 em_261 rfl rfl (ce_at ce_261 12 rfl) g3 (by decide) (fun h4 => ?_) (fun h4 => ?_)
  · refine e_mv 34 em_261 (ce_at ce_261 19 rfl) rfl rfl ?_
    refine e_getr 37 em_261 (ce_at ce_261 20 rfl) tq_90 rfl rfl ?_
    refine e_mv 38 em_261 (ce_at ce_261 21 rfl) rfl rfl ?_
    refine e_mv 39 em_261 (ce_at ce_261 22 rfl) rfl rfl ?_
    refine e_getr 42 em_261 (ce_at ce_261 23 rfl) tq_90 rfl rfl ?_
    refine e_mv 44 em_261 (ce_at ce_261 24 rfl) rfl rfl ?_
    refine e_gd fun g5 => ?_
    refine e_ild 45 em_261 (ce_at ce_261 25 rfl) tq_103 (by decide) g5 rfl ?_
    refine e_ist 46 em_261 (ce_at ce_261 26 rfl) tq_98 (by decide) g1 rfl (fun s6 => ?_)
    refine e_mv 47 em_261 (ce_at ce_261 27 rfl) rfl rfl ?_
    refine e_gd fun g7 => ?_
    refine e_ifeq 70 50 em_261 rfl rfl (ce_at ce_261 28 rfl) g7 (fun h8 => ?_) (fun h8 => ?_)
    · refine e_pk [0, 1, 2, 3, 4] rfl rfl ?_
      exact tcck_checkInner_70 w d hd _ _ _ _ _
    · refine e_mv 51 em_261 (ce_at ce_261 29 rfl) rfl rfl ?_
      refine e_getr 54 em_261 (ce_at ce_261 30 rfl) tq_90 rfl rfl ?_
      refine e_mv 56 em_261 (ce_at ce_261 31 rfl) rfl rfl ?_
      refine e_ild 57 em_261 (ce_at ce_261 32 rfl) tq_104 (by decide) g5 rfl ?_
      refine e_mv 58 em_261 (ce_at ce_261 33 rfl) rfl rfl ?_
      refine e_gd fun g9 => ?_
      refine e_gd fun g10 => ?_
      refine e_cmeq 70 61 em_261 rfl rfl (ce_at ce_261 34 rfl) g9 g10 (fun h11 => ?_) (fun h11 => ?_)
      · refine e_pk [0, 1, 2, 3, 4] rfl rfl ?_
        exact tcck_checkInner_70 w d hd _ _ _ _ _
      · refine e_mv 62 em_261 (ce_at ce_261 35 rfl) rfl rfl ?_
        refine e_getr 65 em_261 (ce_at ce_261 36 rfl) tq_90 rfl rfl ?_
        refine e_op 66 em_261 (ce_at ce_261 37 rfl) rfl rfl ?_
        refine e_mv 67 em_261 (ce_at ce_261 38 rfl) rfl rfl ?_
        refine e_ivv 70 em_261 (ce_at ce_261 39 rfl) (by omega) (iv_v2 (by decide) tq_2 rfl) em_77 (Nat.le_of_ble_eq_true rfl) rfl (ttok_blame w (d - 1) (by omega) _ _ _) (fun r12 s12 => ?_)
        refine e_pk [0, 1, 2, 3, 4] rfl rfl ?_
        exact tcck_checkInner_70 w d hd _ _ _ _ _
  · refine e_mv 24 em_261 (ce_at ce_261 13 rfl) rfl rfl ?_
    refine e_getr 27 em_261 (ce_at ce_261 14 rfl) tq_90 rfl rfl ?_
    refine e_op 28 em_261 (ce_at ce_261 15 rfl) rfl rfl ?_
    refine e_mv 29 em_261 (ce_at ce_261 16 rfl) rfl rfl ?_
    refine e_ivv 32 em_261 (ce_at ce_261 17 rfl) (by omega) (iv_v2 (by decide) tq_2 rfl) em_77 (Nat.le_of_ble_eq_true rfl) rfl (ttok_blame w (d - 1) (by omega) _ _ _) (fun r13 s13 => ?_)
    exact e_retv em_261 (ce_at ce_261 18 rfl)
theorem fcck_checkInner (v1 : Int) (v2 : Int) (s : iS) : Fm Prod.snd L_cck_checkInner G_cck_checkInner s (cck_checkInner v1 v2 s) := fm_gd (fm_bd (fm_sub (fcck_findInner _ _) (mem_sub_L rfl) (mem_sub_F rfl)) (fun r2 s2 => fm_gd (fm_if (fm_bd (fm_sub (ftok_blame _ _ _) (mem_sub_L rfl) (mem_sub_F rfl)) (fun r13 s13 => fm_some md_refl)) (fm_gd (fm_lt (md_upL (mem_L rfl)) (fun s6 => fm_gd (fm_if (fcck_checkInner_70 _ _ _ _ _) (fm_gd (fm_gd (fm_if (fcck_checkInner_70 _ _ _ _ _) (fm_bd (fm_sub (ftok_blame _ _ _) (mem_sub_L rfl) (mem_sub_F rfl)) (fun r12 s12 => fcck_checkInner_70 _ _ _ _ _))))))))))))
/-! cck_checkRight -/
def L_cck_checkRight : List Nat := [98, 106]
def G_cck_checkRight : List (Nat × Nat) := [(2, 13), (2, 14)]
noncomputable def cck_checkRight_50 (v3 : Int) (v4 : Int) (t0 : Int) (t1 : Int) (s : iS) : Option (Int × iS) := gd (0 ≤ t1 ∧ t1 < 500) (lt' (up s 98 t1.toNat t0) (fun s2 => gd (rg v3) (if v3 = 0 then some (0, s2) else bd (tok_blame 4 v4 s2) (fun _ s5 => some (0, s5)))))
theorem tcck_checkRight_50 (w : ev_W) (d : Nat) (hd : 4 ≤ d) (v3 : Int) (v4 : Int) (t0 : Int) (t1 : Int) (s : iS) : Ew hT w d 260 50 [(0, .ref (tb_nK + 90)), (3, iv v3), (4, iv v4)] [iv t0, iv t1, .ref (tb_nK + 98)] s (Cv hT) (cck_checkRight_50 v3 v4 t0 t1 s) := by
  unfold cck_checkRight_50
  refine e_gd fun g1 => ?_
  refine e_ist 51 em_260 (ce_at ce_260 24 rfl) tq_98 (by decide) g1 rfl (fun s2 => ?_)
  refine e_mv 52 em_260 (ce_at ce_260 25 rfl) rfl rfl ?_
  refine e_gd fun g3 => ?_
  refine e_ifeq 65 55 em_260 rfl rfl (ce_at ce_260 26 rfl) g3 (fun h4 => ?_) (fun h4 => ?_)
  · exact e_retv em_260 (ce_at ce_260 32 rfl)
  · refine e_mv 56 em_260 (ce_at ce_260 27 rfl) rfl rfl ?_
    refine e_getr 59 em_260 (ce_at ce_260 28 rfl) tq_90 rfl rfl ?_
    refine e_op 60 em_260 (ce_at ce_260 29 rfl) rfl rfl ?_
    refine e_mv 62 em_260 (ce_at ce_260 30 rfl) rfl rfl ?_
    refine e_ivv 65 em_260 (ce_at ce_260 31 rfl) (by omega) (iv_v2 (by decide) tq_2 rfl) em_77 (Nat.le_of_ble_eq_true rfl) rfl (ttok_blame w (d - 1) (by omega) _ _ _) (fun r5 s5 => ?_)
    exact e_retv em_260 (ce_at ce_260 32 rfl)
theorem fcck_checkRight_50 (v3 : Int) (v4 : Int) (t0 : Int) (t1 : Int) (s : iS) : Fm Prod.snd L_cck_checkRight G_cck_checkRight s (cck_checkRight_50 v3 v4 t0 t1 s) := fm_gd (fm_lt (md_upL (mem_L rfl)) (fun s2 => fm_gd (fm_if (fm_some md_refl) (fm_bd (fm_sub (ftok_blame _ _ _) (mem_sub_L rfl) (mem_sub_F rfl)) (fun r5 s5 => fm_some md_refl)))))
noncomputable def cck_checkRight (v1 : Int) (v2 : Int) (v3 : Int) (s : iS) : Option (Int × iS) := gd (0 ≤ v2 ∧ v2 < 500) (bd (tok_kindOf (s 86 v2.toNat) s) (fun r2 s2 => gd (rg r2) (if r2 = 3 then bd (cck_findPin v1 (s 86 v2.toNat) s2) (fun r5 s5 => gd (rg r5) (if r5 = (-1) then bd (cck_checkInner v2 v3 s5) (fun _ s14 => some (0, s14)) else bd (cck_isOut v1 r5 s5) (fun r8 s8 => gd (rg r8) (gd (rg v3) (if r8 = v3 then bd (cck_checkOwnPin v1 v2 r5 s8) (fun _ s12 => some (0, s12)) else bd (tok_blame 4 (s 86 v2.toNat) s8) (fun _ s13 => some (0, s13))))))) else bd (tok_kindOf (s 86 v2.toNat) s2) (fun r15 s15 => gd (rg r15) (if r15 = 304 then cck_checkRight_50 v3 (s 86 v2.toNat) (-2) v2 s15 else cck_checkRight_50 v3 (s 86 v2.toNat) (-1) v2 s15)))))
theorem tcck_checkRight (w : ev_W) (d : Nat) (hd : 4 ≤ d) (v1 : Int) (v2 : Int) (v3 : Int) (s : iS) : Ew hT w d 260 0 [(0, .ref (tb_nK + 90)), (1, iv v1), (2, iv v2), (3, iv v3)] [] s (Cv hT) (cck_checkRight v1 v2 v3 s) := by
  unfold cck_checkRight
  refine e_mv 1 em_260 (ce_at ce_260 0 rfl) rfl rfl ?_
  refine e_getr 4 em_260 (ce_at ce_260 1 rfl) tq_90 rfl rfl ?_
  refine e_getr 7 em_260 (ce_at ce_260 2 rfl) tq_71 rfl rfl ?_
  refine e_mv 8 em_260 (ce_at ce_260 3 rfl) rfl rfl ?_
  refine e_gd fun g1 => ?_
  refine e_ild 9 em_260 (ce_at ce_260 4 rfl) tq_86 (by decide) g1 rfl ?_
  refine e_mv 11 em_260 (ce_at ce_260 5 rfl) rfl rfl ?_
  refine e_mv 12 em_260 (ce_at ce_260 6 rfl) rfl rfl ?_
  refine e_getr 15 em_260 (ce_at ce_260 7 rfl) tq_90 rfl rfl ?_
  refine e_mv 17 em_260 (ce_at ce_260 8 rfl) rfl rfl ?_
  refine e_ivi 20 em_260 (ce_at ce_260 9 rfl) (by omega) (iv_v1 (by decide) tq_2 rfl) em_112 (Nat.le_of_ble_eq_true rfl) rfl (ttok_kindOf w (d - 1) (by omega) _ _) (fun r2 s2 => ?_)
  refine e_op 21 em_260 (ce_at ce_260 10 rfl) rfl rfl ?_
  refine e_gd fun g3 => ?_
  refine e_cmeq 66 24 em_260 rfl rfl (ce_at ce_260 11 rfl) g3 (by decide) (fun h4 => ?_) (fun h4 => ?_)
  · refine e_mv 67 em_260 (ce_at ce_260 33 rfl) rfl rfl ?_
    refine e_mv 68 em_260 (ce_at ce_260 34 rfl) rfl rfl ?_
    refine e_mv 70 em_260 (ce_at ce_260 35 rfl) rfl rfl ?_
    refine e_ivi 73 em_260 (ce_at ce_260 36 rfl) (by omega) (iv_v2 (by decide) tq_90 rfl) em_250 (Nat.le_of_ble_eq_true rfl) rfl (tcck_findPin w (d - 1) (by omega) _ _ _) (fun r5 s5 => ?_)
    refine e_mv 75 em_260 (ce_at ce_260 37 rfl) rfl rfl ?_
    refine e_mv 77 em_260 (ce_at ce_260 38 rfl) rfl rfl ?_
    refine e_op 78 em_260 (ce_at ce_260 39 rfl) rfl rfl ?_
    refine e_gd fun g6 => ?_
    refine e_cmne 90 81 em_260 rfl rfl (ce_at ce_260 40 rfl) g6 (by decide) (fun h7 => ?_) (fun h7 => ?_)
    · refine e_mv 91 em_260 (ce_at ce_260 46 rfl) rfl rfl ?_
      refine e_mv 92 em_260 (ce_at ce_260 47 rfl) rfl rfl ?_
      refine e_mv 94 em_260 (ce_at ce_260 48 rfl) rfl rfl ?_
      refine e_ivi 97 em_260 (ce_at ce_260 49 rfl) (by omega) (iv_v2 (by decide) tq_90 rfl) em_251 (Nat.le_of_ble_eq_true rfl) rfl (tcck_isOut w (d - 1) (by omega) _ _ _) (fun r8 s8 => ?_)
      refine e_mv 98 em_260 (ce_at ce_260 50 rfl) rfl rfl ?_
      refine e_gd fun g9 => ?_
      refine e_gd fun g10 => ?_
      refine e_cmeq 114 101 em_260 rfl rfl (ce_at ce_260 51 rfl) g9 g10 (fun h11 => ?_) (fun h11 => ?_)
      · refine e_mv 115 em_260 (ce_at ce_260 58 rfl) rfl rfl ?_
        refine e_mv 116 em_260 (ce_at ce_260 59 rfl) rfl rfl ?_
        refine e_mv 117 em_260 (ce_at ce_260 60 rfl) rfl rfl ?_
        refine e_mv 119 em_260 (ce_at ce_260 61 rfl) rfl rfl ?_
        refine e_ivv 122 em_260 (ce_at ce_260 62 rfl) (by omega) (iv_v3 (by decide) tq_90 rfl) em_263 (Nat.le_of_ble_eq_true rfl) rfl (tcck_checkOwnPin w (d - 1) (by omega) _ _ _ _) (fun r12 s12 => ?_)
        exact e_retv em_260 (ce_at ce_260 63 rfl)
      · refine e_mv 102 em_260 (ce_at ce_260 52 rfl) rfl rfl ?_
        refine e_getr 105 em_260 (ce_at ce_260 53 rfl) tq_90 rfl rfl ?_
        refine e_op 106 em_260 (ce_at ce_260 54 rfl) rfl rfl ?_
        refine e_mv 108 em_260 (ce_at ce_260 55 rfl) rfl rfl ?_
        refine e_ivv 111 em_260 (ce_at ce_260 56 rfl) (by omega) (iv_v2 (by decide) tq_2 rfl) em_77 (Nat.le_of_ble_eq_true rfl) rfl (ttok_blame w (d - 1) (by omega) _ _ _) (fun r13 s13 => ?_)
        refine e_goto em_260 122 (ce_at ce_260 57 rfl) rfl ?_
        exact e_retv em_260 (ce_at ce_260 63 rfl)
    · refine e_mv 82 em_260 (ce_at ce_260 41 rfl) rfl rfl ?_
      refine e_mv 83 em_260 (ce_at ce_260 42 rfl) rfl rfl ?_
      refine e_mv 84 em_260 (ce_at ce_260 43 rfl) rfl rfl ?_
      refine e_ivv 87 em_260 (ce_at ce_260 44 rfl) (by omega) (iv_v2 (by decide) tq_90 rfl) em_261 (Nat.le_of_ble_eq_true rfl) rfl (tcck_checkInner w (d - 1) (by omega) _ _ _) (fun r14 s14 => ?_)
      refine e_goto em_260 122 (ce_at ce_260 45 rfl) rfl ?_
      exact e_retv em_260 (ce_at ce_260 63 rfl)
  · refine e_mv 25 em_260 (ce_at ce_260 12 rfl) rfl rfl ?_
    refine e_getr 28 em_260 (ce_at ce_260 13 rfl) tq_90 rfl rfl ?_
    refine e_mv 29 em_260 (ce_at ce_260 14 rfl) rfl rfl ?_
    refine e_mv 30 em_260 (ce_at ce_260 15 rfl) rfl rfl ?_
    refine e_getr 33 em_260 (ce_at ce_260 16 rfl) tq_90 rfl rfl ?_
    refine e_mv 35 em_260 (ce_at ce_260 17 rfl) rfl rfl ?_
    refine e_ivi 38 em_260 (ce_at ce_260 18 rfl) (by omega) (iv_v1 (by decide) tq_2 rfl) em_112 (Nat.le_of_ble_eq_true rfl) rfl (ttok_kindOf w (d - 1) (by omega) _ _) (fun r15 s15 => ?_)
    refine e_sip 41 em_260 (ce_at ce_260 19 rfl) (by decide) rfl ?_
    refine e_gd fun g16 => ?_
    refine e_cmne 49 44 em_260 rfl rfl (ce_at ce_260 20 rfl) g16 (by decide) (fun h17 => ?_) (fun h17 => ?_)
    · refine e_op 50 em_260 (ce_at ce_260 23 rfl) rfl rfl ?_
      refine e_pk [0, 3, 4] rfl rfl ?_
      exact tcck_checkRight_50 w d hd _ _ _ _ _
    · refine e_bip 46 em_260 (ce_at ce_260 21 rfl) (by decide) rfl ?_
      refine e_goto em_260 50 (ce_at ce_260 22 rfl) rfl ?_
      refine e_pk [0, 3, 4] rfl rfl ?_
      exact tcck_checkRight_50 w d hd _ _ _ _ _
theorem fcck_checkRight (v1 : Int) (v2 : Int) (v3 : Int) (s : iS) : Fm Prod.snd L_cck_checkRight G_cck_checkRight s (cck_checkRight v1 v2 v3 s) := fm_gd (fm_bd (fm_sub (ftok_kindOf _ _) (mem_sub_L rfl) (mem_sub_F rfl)) (fun r2 s2 => fm_gd (fm_if (fm_bd (fm_sub (fcck_findPin _ _ _) (mem_sub_L rfl) (mem_sub_F rfl)) (fun r5 s5 => fm_gd (fm_if (fm_bd (fm_sub (fcck_checkInner _ _ _) (mem_sub_L rfl) (mem_sub_F rfl)) (fun r14 s14 => fm_some md_refl)) (fm_bd (fm_sub (fcck_isOut _ _ _) (mem_sub_L rfl) (mem_sub_F rfl)) (fun r8 s8 => fm_gd (fm_gd (fm_if (fm_bd (fm_sub (fcck_checkOwnPin _ _ _ _) (mem_sub_L rfl) (mem_sub_F rfl)) (fun r12 s12 => fm_some md_refl)) (fm_bd (fm_sub (ftok_blame _ _ _) (mem_sub_L rfl) (mem_sub_F rfl)) (fun r13 s13 => fm_some md_refl))))))))) (fm_bd (fm_sub (ftok_kindOf _ _) (mem_sub_L rfl) (mem_sub_F rfl)) (fun r15 s15 => fm_gd (fm_if (fcck_checkRight_50 _ _ _ _ _) (fcck_checkRight_50 _ _ _ _ _)))))))
/-! cck_checkLeft -/
def L_cck_checkLeft : List Nat := [95, 96, 97, 98, 105, 106]
def G_cck_checkLeft : List (Nat × Nat) := [(2, 13), (2, 14)]
noncomputable def cck_checkLeft_170 (v1 : Int) (v3 : Int) (v8 : Int) (s : iS) : Option (Int × iS) := bd (cck_checkRight v1 v3 v8 s) (fun _ s1 => some (0, s1))
theorem tcck_checkLeft_170 (w : ev_W) (d : Nat) (hd : 5 ≤ d) (v1 : Int) (v3 : Int) (v8 : Int) (s : iS) : Ew hT w d 257 170 [(0, .ref (tb_nK + 90)), (1, iv v1), (3, iv v3), (8, iv v8)] [] s (Cv hT) (cck_checkLeft_170 v1 v3 v8 s) := by
  unfold cck_checkLeft_170
  refine e_mv 171 em_257 (ce_at ce_257 90 rfl) rfl rfl ?_
  refine e_mv 172 em_257 (ce_at ce_257 91 rfl) rfl rfl ?_
  refine e_mv 173 em_257 (ce_at ce_257 92 rfl) rfl rfl ?_
  refine e_mv 175 em_257 (ce_at ce_257 93 rfl) rfl rfl ?_
  refine e_ivv 178 em_257 (ce_at ce_257 94 rfl) (by omega) (iv_v3 (by decide) tq_90 rfl) em_260 (Nat.le_of_ble_eq_true rfl) rfl (tcck_checkRight w (d - 1) (by omega) _ _ _ _) (fun r1 s1 => ?_)
  exact e_retv em_257 (ce_at ce_257 95 rfl)
theorem fcck_checkLeft_170 (v1 : Int) (v3 : Int) (v8 : Int) (s : iS) : Fm Prod.snd L_cck_checkLeft G_cck_checkLeft s (cck_checkLeft_170 v1 v3 v8 s) := fm_bd (fm_sub (fcck_checkRight _ _ _ _) (mem_sub_L rfl) (mem_sub_F rfl)) (fun r1 s1 => fm_some md_refl)
noncomputable def cck_checkLeft (v1 : Int) (v2 : Int) (v3 : Int) (s : iS) : Option (Int × iS) := gd (0 ≤ v3 ∧ v3 < 500) (bd (cck_findPin v2 (s 85 v3.toNat) s) (fun r2 s2 => gd (rg r2) (if r2 = (-1) then bd (tok_blame 4 (s 85 v3.toNat) s2) (fun _ s24 => some (0, s24)) else bd (cck_lowBit (s 85 v3.toNat) s2) (fun r5 s5 => gd (0 ≤ r2 ∧ r2 < 197) (bd (cck_highBit (s 85 v3.toNat) (s5 91 r2.toNat) s5) (fun r7 s7 => bd (cck_rangeWidth r5 r7 (s7 91 r2.toNat) s7) (fun r8 s8 => bd (cck_isOut v2 r2 s8) (fun r9 s9 => lt' (up s9 95 v3.toNat r2) (fun s10 => lt' (up s10 96 v3.toNat r5) (fun s11 => lt' (up s11 97 v3.toNat r8) (fun s12 => gd (rg r8) (if r8 = (-1) then bd (tok_blame 5 ((s 85 v3.toNat) + 1) s12) (fun _ s23 => cck_checkLeft_170 v1 v3 r9 s23) else gd (rg r9) (if r9 = 0 then gd (0 ≤ v2 ∧ v2 < 19) (bd (cck_rangeMask r5 r8 s12) (fun r18 s18 => bd (cck_isLinked 105 12 (r2 - (s12 76 v2.toNat)) r18 s18) (fun r19 s19 => gd (rg r19) (if r19 = 0 then cck_checkLeft_170 v1 v3 r9 s19 else bd (tok_blame 3 (s 85 v3.toNat) s19) (fun _ s22 => cck_checkLeft_170 v1 v3 r9 s22))))) else cck_checkLeft_170 v1 v3 r9 s12)))))))))))))
theorem tcck_checkLeft (w : ev_W) (d : Nat) (hd : 5 ≤ d) (v1 : Int) (v2 : Int) (v3 : Int) (s : iS) : Ew hT w d 257 0 [(0, .ref (tb_nK + 90)), (1, iv v1), (2, iv v2), (3, iv v3)] [] s (Cv hT) (cck_checkLeft v1 v2 v3 s) := by
  unfold cck_checkLeft
  refine e_mv 1 em_257 (ce_at ce_257 0 rfl) rfl rfl ?_
  refine e_getr 4 em_257 (ce_at ce_257 1 rfl) tq_90 rfl rfl ?_
  refine e_getr 7 em_257 (ce_at ce_257 2 rfl) tq_71 rfl rfl ?_
  refine e_mv 8 em_257 (ce_at ce_257 3 rfl) rfl rfl ?_
  refine e_gd fun g1 => ?_
  refine e_ild 9 em_257 (ce_at ce_257 4 rfl) tq_85 (by decide) g1 rfl ?_
  refine e_mv 11 em_257 (ce_at ce_257 5 rfl) rfl rfl ?_
  refine e_mv 12 em_257 (ce_at ce_257 6 rfl) rfl rfl ?_
  refine e_mv 13 em_257 (ce_at ce_257 7 rfl) rfl rfl ?_
  refine e_mv 15 em_257 (ce_at ce_257 8 rfl) rfl rfl ?_
  refine e_ivi 18 em_257 (ce_at ce_257 9 rfl) (by omega) (iv_v2 (by decide) tq_90 rfl) em_250 (Nat.le_of_ble_eq_true rfl) rfl (tcck_findPin w (d - 1) (by omega) _ _ _) (fun r2 s2 => ?_)
  refine e_mv 20 em_257 (ce_at ce_257 10 rfl) rfl rfl ?_
  refine e_mv 22 em_257 (ce_at ce_257 11 rfl) rfl rfl ?_
  refine e_op 23 em_257 (ce_at ce_257 12 rfl) rfl rfl ?_
  refine e_gd fun g3 => ?_
  refine e_cmne 37 26 em_257 rfl rfl (ce_at ce_257 13 rfl) g3 (by decide) (fun h4 => ?_) (fun h4 => ?_)
  · refine e_mv 38 em_257 (ce_at ce_257 20 rfl) rfl rfl ?_
    refine e_mv 40 em_257 (ce_at ce_257 21 rfl) rfl rfl ?_
    refine e_ivi 43 em_257 (ce_at ce_257 22 rfl) (by omega) (iv_v1 (by decide) tq_90 rfl) em_253 (Nat.le_of_ble_eq_true rfl) rfl (tcck_lowBit w (d - 1) (by omega) _ _) (fun r5 s5 => ?_)
    refine e_mv 45 em_257 (ce_at ce_257 23 rfl) rfl rfl ?_
    refine e_mv 47 em_257 (ce_at ce_257 24 rfl) rfl rfl ?_
    refine e_mv 48 em_257 (ce_at ce_257 25 rfl) rfl rfl ?_
    refine e_mv 50 em_257 (ce_at ce_257 26 rfl) rfl rfl ?_
    refine e_mv 51 em_257 (ce_at ce_257 27 rfl) rfl rfl ?_
    refine e_getr 54 em_257 (ce_at ce_257 28 rfl) tq_90 rfl rfl ?_
    refine e_mv 56 em_257 (ce_at ce_257 29 rfl) rfl rfl ?_
    refine e_gd fun g6 => ?_
    refine e_ild 57 em_257 (ce_at ce_257 30 rfl) tq_91 (by decide) g6 rfl ?_
    refine e_ivi 60 em_257 (ce_at ce_257 31 rfl) (by omega) (iv_v2 (by decide) tq_90 rfl) em_254 (Nat.le_of_ble_eq_true rfl) rfl (tcck_highBit w (d - 1) (by omega) _ _ _) (fun r7 s7 => ?_)
    refine e_mv 61 em_257 (ce_at ce_257 32 rfl) rfl rfl ?_
    refine e_getr 64 em_257 (ce_at ce_257 33 rfl) tq_90 rfl rfl ?_
    refine e_mv 66 em_257 (ce_at ce_257 34 rfl) rfl rfl ?_
    refine e_ild 67 em_257 (ce_at ce_257 35 rfl) tq_91 (by decide) g6 rfl ?_
    refine e_ivi 70 em_257 (ce_at ce_257 36 rfl) (by omega) (iv_s3 rfl) em_255 (Nat.le_of_ble_eq_true rfl) rfl (tcck_rangeWidth hT w (d - 1) (by omega) _ _ _ _) (fun r8 s8 => ?_)
    refine e_mv 72 em_257 (ce_at ce_257 37 rfl) rfl rfl ?_
    refine e_mv 73 em_257 (ce_at ce_257 38 rfl) rfl rfl ?_
    refine e_mv 74 em_257 (ce_at ce_257 39 rfl) rfl rfl ?_
    refine e_mv 76 em_257 (ce_at ce_257 40 rfl) rfl rfl ?_
    refine e_ivi 79 em_257 (ce_at ce_257 41 rfl) (by omega) (iv_v2 (by decide) tq_90 rfl) em_251 (Nat.le_of_ble_eq_true rfl) rfl (tcck_isOut w (d - 1) (by omega) _ _ _) (fun r9 s9 => ?_)
    refine e_mv 81 em_257 (ce_at ce_257 42 rfl) rfl rfl ?_
    refine e_mv 82 em_257 (ce_at ce_257 43 rfl) rfl rfl ?_
    refine e_getr 85 em_257 (ce_at ce_257 44 rfl) tq_90 rfl rfl ?_
    refine e_mv 86 em_257 (ce_at ce_257 45 rfl) rfl rfl ?_
    refine e_mv 88 em_257 (ce_at ce_257 46 rfl) rfl rfl ?_
    refine e_ist 89 em_257 (ce_at ce_257 47 rfl) tq_95 (by decide) g1 rfl (fun s10 => ?_)
    refine e_mv 90 em_257 (ce_at ce_257 48 rfl) rfl rfl ?_
    refine e_getr 93 em_257 (ce_at ce_257 49 rfl) tq_90 rfl rfl ?_
    refine e_mv 94 em_257 (ce_at ce_257 50 rfl) rfl rfl ?_
    refine e_mv 96 em_257 (ce_at ce_257 51 rfl) rfl rfl ?_
    refine e_ist 97 em_257 (ce_at ce_257 52 rfl) tq_96 (by decide) g1 rfl (fun s11 => ?_)
    refine e_mv 98 em_257 (ce_at ce_257 53 rfl) rfl rfl ?_
    refine e_getr 101 em_257 (ce_at ce_257 54 rfl) tq_90 rfl rfl ?_
    refine e_mv 102 em_257 (ce_at ce_257 55 rfl) rfl rfl ?_
    refine e_mv 104 em_257 (ce_at ce_257 56 rfl) rfl rfl ?_
    refine e_ist 105 em_257 (ce_at ce_257 57 rfl) tq_97 (by decide) g1 rfl (fun s12 => ?_)
    refine e_mv 107 em_257 (ce_at ce_257 58 rfl) rfl rfl ?_
    refine e_op 108 em_257 (ce_at ce_257 59 rfl) rfl rfl ?_
    refine e_gd fun g13 => ?_
    refine e_cmne 126 111 em_257 rfl rfl (ce_at ce_257 60 rfl) g13 (by decide) (fun h14 => ?_) (fun h14 => ?_)
    · refine e_mv 128 em_257 (ce_at ce_257 69 rfl) rfl rfl ?_
      refine e_gd fun g15 => ?_
      refine e_ifne 170 131 em_257 rfl rfl (ce_at ce_257 70 rfl) g15 (fun h16 => ?_) (fun h16 => ?_)
      · refine e_pk [0, 1, 3, 8] rfl rfl ?_
        exact tcck_checkLeft_170 w d hd _ _ _ _
      · refine e_mv 132 em_257 (ce_at ce_257 71 rfl) rfl rfl ?_
        refine e_getr 135 em_257 (ce_at ce_257 72 rfl) tq_90 rfl rfl ?_
        refine e_mv 137 em_257 (ce_at ce_257 73 rfl) rfl rfl ?_
        refine e_mv 138 em_257 (ce_at ce_257 74 rfl) rfl rfl ?_
        refine e_getr 141 em_257 (ce_at ce_257 75 rfl) tq_90 rfl rfl ?_
        refine e_getr 144 em_257 (ce_at ce_257 76 rfl) tq_71 rfl rfl ?_
        refine e_mv 145 em_257 (ce_at ce_257 77 rfl) rfl rfl ?_
        refine e_gd fun g17 => ?_
        refine e_ild 146 em_257 (ce_at ce_257 78 rfl) tq_76 (by decide) g17 rfl ?_
        refine e_isub 147 em_257 rfl (ce_at ce_257 79 rfl) ?_
        refine e_mv 149 em_257 (ce_at ce_257 80 rfl) rfl rfl ?_
        refine e_mv 151 em_257 (ce_at ce_257 81 rfl) rfl rfl ?_
        refine e_ivi 154 em_257 (ce_at ce_257 82 rfl) (by omega) (iv_s2 rfl) em_258 (Nat.le_of_ble_eq_true rfl) rfl (tcck_rangeMask hT w (d - 1) (by omega) _ _ _) (fun r18 s18 => ?_)
        refine e_ivi 157 em_257 (ce_at ce_257 83 rfl) (by omega) (iv_s3 rfl) em_259 (Nat.le_of_ble_eq_true rfl) rfl (tcck_isLinked hT w (d - 1) (by omega) 105 12 tq_105 (by decide) _ _ _) (fun r19 s19 => ?_)
        refine e_gd fun g20 => ?_
        refine e_ifeq 170 160 em_257 rfl rfl (ce_at ce_257 84 rfl) g20 (fun h21 => ?_) (fun h21 => ?_)
        · refine e_pk [0, 1, 3, 8] rfl rfl ?_
          exact tcck_checkLeft_170 w d hd _ _ _ _
        · refine e_mv 161 em_257 (ce_at ce_257 85 rfl) rfl rfl ?_
          refine e_getr 164 em_257 (ce_at ce_257 86 rfl) tq_90 rfl rfl ?_
          refine e_op 165 em_257 (ce_at ce_257 87 rfl) rfl rfl ?_
          refine e_mv 167 em_257 (ce_at ce_257 88 rfl) rfl rfl ?_
          refine e_ivv 170 em_257 (ce_at ce_257 89 rfl) (by omega) (iv_v2 (by decide) tq_2 rfl) em_77 (Nat.le_of_ble_eq_true rfl) rfl (ttok_blame w (d - 1) (by omega) _ _ _) (fun r22 s22 => ?_)
          refine e_pk [0, 1, 3, 8] rfl rfl ?_
          exact tcck_checkLeft_170 w d hd _ _ _ _
    · refine e_mv 112 em_257 (ce_at ce_257 61 rfl) rfl rfl ?_
      refine e_getr 115 em_257 (ce_at ce_257 62 rfl) tq_90 rfl rfl ?_
      refine e_op 116 em_257 (ce_at ce_257 63 rfl) rfl rfl ?_
      refine e_mv 118 em_257 (ce_at ce_257 64 rfl) rfl rfl ?_
      refine e_op 119 em_257 (ce_at ce_257 65 rfl) rfl rfl ?_
      refine e_iadd 120 em_257 rfl (ce_at ce_257 66 rfl) ?_
      refine e_ivv 123 em_257 (ce_at ce_257 67 rfl) (by omega) (iv_v2 (by decide) tq_2 rfl) em_77 (Nat.le_of_ble_eq_true rfl) rfl (ttok_blame w (d - 1) (by omega) _ _ _) (fun r23 s23 => ?_)
      refine e_goto em_257 170 (ce_at ce_257 68 rfl) rfl ?_
      refine e_pk [0, 1, 3, 8] rfl rfl ?_
      exact tcck_checkLeft_170 w d hd _ _ _ _
  · refine e_mv 27 em_257 (ce_at ce_257 14 rfl) rfl rfl ?_
    refine e_getr 30 em_257 (ce_at ce_257 15 rfl) tq_90 rfl rfl ?_
    refine e_op 31 em_257 (ce_at ce_257 16 rfl) rfl rfl ?_
    refine e_mv 33 em_257 (ce_at ce_257 17 rfl) rfl rfl ?_
    refine e_ivv 36 em_257 (ce_at ce_257 18 rfl) (by omega) (iv_v2 (by decide) tq_2 rfl) em_77 (Nat.le_of_ble_eq_true rfl) rfl (ttok_blame w (d - 1) (by omega) _ _ _) (fun r24 s24 => ?_)
    exact e_retv em_257 (ce_at ce_257 19 rfl)
theorem fcck_checkLeft (v1 : Int) (v2 : Int) (v3 : Int) (s : iS) : Fm Prod.snd L_cck_checkLeft G_cck_checkLeft s (cck_checkLeft v1 v2 v3 s) := fm_gd (fm_bd (fm_sub (fcck_findPin _ _ _) (mem_sub_L rfl) (mem_sub_F rfl)) (fun r2 s2 => fm_gd (fm_if (fm_bd (fm_sub (ftok_blame _ _ _) (mem_sub_L rfl) (mem_sub_F rfl)) (fun r24 s24 => fm_some md_refl)) (fm_bd (fm_sub (fcck_lowBit _ _) (mem_sub_L rfl) (mem_sub_F rfl)) (fun r5 s5 => fm_gd (fm_bd (fm_sub (fcck_highBit _ _ _) (mem_sub_L rfl) (mem_sub_F rfl)) (fun r7 s7 => fm_bd (fm_sub (fcck_rangeWidth _ _ _ _) (mem_sub_L rfl) (mem_sub_F rfl)) (fun r8 s8 => fm_bd (fm_sub (fcck_isOut _ _ _) (mem_sub_L rfl) (mem_sub_F rfl)) (fun r9 s9 => fm_lt (md_upL (mem_L rfl)) (fun s10 => fm_lt (md_upL (mem_L rfl)) (fun s11 => fm_lt (md_upL (mem_L rfl)) (fun s12 => fm_gd (fm_if (fm_bd (fm_sub (ftok_blame _ _ _) (mem_sub_L rfl) (mem_sub_F rfl)) (fun r23 s23 => fcck_checkLeft_170 _ _ _ _)) (fm_gd (fm_if (fm_gd (fm_bd (fm_sub (fcck_rangeMask _ _ _) (mem_sub_L rfl) (mem_sub_F rfl)) (fun r18 s18 => fm_bd (fm_sub (fcck_isLinked 105 12 _ _ _) (mem_sub_L rfl) (mem_sub_F rfl)) (fun r19 s19 => fm_gd (fm_if (fcck_checkLeft_170 _ _ _ _) (fm_bd (fm_sub (ftok_blame _ _ _) (mem_sub_L rfl) (mem_sub_F rfl)) (fun r22 s22 => fcck_checkLeft_170 _ _ _ _))))))) (fcck_checkLeft_170 _ _ _ _))))))))))))))))
/-! cck_checkParts -/
def L_cck_checkParts : List Nat := [95, 96, 97, 98, 105, 106]
def G_cck_checkParts : List (Nat × Nat) := [(2, 13), (2, 14)]
def cck_checkParts_51C (w : ev_W) (d : Nat) (v1 : Int) (v2 : Int) : (Int × iS) ⊕ (iS) → am_E → Prop := fun q r => q.elim (fun l => ev w d 256 51 ((fun l => [(0, .ref (tb_nK + 90)), (1, iv v1), (2, iv v2), (3, iv (l.1))]) l) [] (hT ((fun l => l.2) l)) r) (fun e => (fun e r => ev w d 256 94 [(0, .ref (tb_nK + 90)), (1, iv v1), (2, iv v2)] [] (hT (e)) r) e r)
noncomputable def cck_checkParts_51b (v1 : Int) (v2 : Int) (v3 : Int) (s : iS) : Option ((Int × iS) ⊕ (iS)) := gd (0 ≤ (v2 + 1) ∧ (v2 + 1) < 385) (gd (rg v3) (gd (rg (s 84 (v2 + 1).toNat)) (if (s 84 (v2 + 1).toNat) ≤ v3 then some (.inr s) else gd (0 ≤ v2 ∧ v2 < 384) (gd (rg (s 94 v2.toNat)) (if (s 94 v2.toNat) = (-1) then some (.inl ((v3 + 1), s)) else bd (cck_checkLeft v1 (s 94 v2.toNat) v3 s) (fun _ s8 => some (.inl ((v3 + 1), s8))))))))
theorem tcck_checkParts_51b (w : ev_W) (d : Nat) (hd : 6 ≤ d) (v1 : Int) (v2 : Int) (v3 : Int) (s : iS) : Ew hT w d 256 51 [(0, .ref (tb_nK + 90)), (1, iv v1), (2, iv v2), (3, iv v3)] [] s (cck_checkParts_51C w d v1 v2) (cck_checkParts_51b v1 v2 v3 s) := by
  unfold cck_checkParts_51b
  refine e_mv 52 em_256 (ce_at ce_256 29 rfl) rfl rfl ?_
  refine e_mv 53 em_256 (ce_at ce_256 30 rfl) rfl rfl ?_
  refine e_getr 56 em_256 (ce_at ce_256 31 rfl) tq_90 rfl rfl ?_
  refine e_getr 59 em_256 (ce_at ce_256 32 rfl) tq_71 rfl rfl ?_
  refine e_mv 60 em_256 (ce_at ce_256 33 rfl) rfl rfl ?_
  refine e_op 61 em_256 (ce_at ce_256 34 rfl) rfl rfl ?_
  refine e_iadd 62 em_256 rfl (ce_at ce_256 35 rfl) ?_
  refine e_gd fun g1 => ?_
  refine e_ild 63 em_256 (ce_at ce_256 36 rfl) tq_84 (by decide) g1 rfl ?_
  refine e_gd fun g2 => ?_
  refine e_gd fun g3 => ?_
  refine e_cmge 94 66 em_256 rfl rfl (ce_at ce_256 37 rfl) g2 g3 (fun h4 => ?_) (fun h4 => ?_)
  · refine e_pk [0, 1, 2] rfl rfl ?_
    exact e_out (fun r h => h)
  · refine e_mv 67 em_256 (ce_at ce_256 38 rfl) rfl rfl ?_
    refine e_getr 70 em_256 (ce_at ce_256 39 rfl) tq_90 rfl rfl ?_
    refine e_mv 71 em_256 (ce_at ce_256 40 rfl) rfl rfl ?_
    refine e_gd fun g5 => ?_
    refine e_ild 72 em_256 (ce_at ce_256 41 rfl) tq_94 (by decide) g5 rfl ?_
    refine e_op 73 em_256 (ce_at ce_256 42 rfl) rfl rfl ?_
    refine e_gd fun g6 => ?_
    refine e_cmeq 88 76 em_256 rfl rfl (ce_at ce_256 43 rfl) g6 (by decide) (fun h7 => ?_) (fun h7 => ?_)
    · refine e_iinc 91 em_256 (ce_at ce_256 52 rfl) rfl (by decide) rfl ?_
      refine e_goto em_256 51 (ce_at ce_256 53 rfl) rfl ?_
      refine e_pk [0, 1, 2, 3] rfl rfl ?_
      exact e_out (fun r h => h)
    · refine e_mv 77 em_256 (ce_at ce_256 44 rfl) rfl rfl ?_
      refine e_mv 78 em_256 (ce_at ce_256 45 rfl) rfl rfl ?_
      refine e_mv 79 em_256 (ce_at ce_256 46 rfl) rfl rfl ?_
      refine e_getr 82 em_256 (ce_at ce_256 47 rfl) tq_90 rfl rfl ?_
      refine e_mv 83 em_256 (ce_at ce_256 48 rfl) rfl rfl ?_
      refine e_ild 84 em_256 (ce_at ce_256 49 rfl) tq_94 (by decide) g5 rfl ?_
      refine e_mv 85 em_256 (ce_at ce_256 50 rfl) rfl rfl ?_
      refine e_ivv 88 em_256 (ce_at ce_256 51 rfl) (by omega) (iv_v3 (by decide) tq_90 rfl) em_257 (Nat.le_of_ble_eq_true rfl) rfl (tcck_checkLeft w (d - 1) (by omega) _ _ _ _) (fun r8 s8 => ?_)
      refine e_iinc 91 em_256 (ce_at ce_256 52 rfl) rfl (by decide) rfl ?_
      refine e_goto em_256 51 (ce_at ce_256 53 rfl) rfl ?_
      refine e_pk [0, 1, 2, 3] rfl rfl ?_
      exact e_out (fun r h => h)
theorem fcck_checkParts_51b (v1 : Int) (v2 : Int) (v3 : Int) (s : iS) : Fm (fun r : (Int × iS) ⊕ (iS) => r.elim (fun l => l.2) (fun e => e)) L_cck_checkParts G_cck_checkParts s (cck_checkParts_51b v1 v2 v3 s) := fm_gd (fm_gd (fm_gd (fm_if (fm_some md_refl) (fm_gd (fm_gd (fm_if (fm_some md_refl) (fm_bd (fm_sub (fcck_checkLeft _ _ _ _) (mem_sub_L rfl) (mem_sub_F rfl)) (fun r8 s8 => fm_some md_refl))))))))
def cck_checkParts_18C (w : ev_W) (d : Nat) (v1 : Int) : (Int × iS) ⊕ (iS) → am_E → Prop := fun q r => q.elim (fun l => ev w d 256 18 ((fun l => [(0, .ref (tb_nK + 90)), (1, iv v1), (2, iv (l.1))]) l) [] (hT ((fun l => l.2) l)) r) (fun e => (fun e r => ev w d 256 100 [] [] (hT (e)) r) e r)
noncomputable def cck_checkParts_51 (v1 : Int) (v2 : Int) (v3 : Int) (s : iS) : Option ((Int × iS) ⊕ (iS)) := (lp (L := Int × iS) (E := iS) (fun l => cck_checkParts_51b v1 v2 (l.1) (l.2)) (v3, s)).bind (fun e => some (.inl ((v2 + 1), e)))
theorem tcck_checkParts_51 (w : ev_W) (d : Nat) (hd : 6 ≤ d) (v1 : Int) (v2 : Int) (v3 : Int) (s : iS) : Ew hT w d 256 51 [(0, .ref (tb_nK + 90)), (1, iv v1), (2, iv v2), (3, iv v3)] [] s (cck_checkParts_18C w d v1) (cck_checkParts_51 v1 v2 v3 s) := by
  unfold cck_checkParts_51
  refine e_lp (L := Int × iS) (E := iS) (LO := fun l => [(0, .ref (tb_nK + 90)), (1, iv v1), (2, iv v2), (3, iv (l.1))]) (LS := fun l => l.2) (CE := fun e r => ev w d 256 94 [(0, .ref (tb_nK + 90)), (1, iv v1), (2, iv v2)] [] (hT (e)) r) (fun l => tcck_checkParts_51b w d hd _ _ _ _) ?_ (v3, s)
  intro e
  show Ew hT w d 256 94 [(0, .ref (tb_nK + 90)), (1, iv v1), (2, iv v2)] [] e (cck_checkParts_18C w d v1) _
  refine e_iinc 97 em_256 (ce_at ce_256 54 rfl) rfl (by decide) rfl ?_
  refine e_goto em_256 18 (ce_at ce_256 55 rfl) rfl ?_
  refine e_pk [0, 1, 2] rfl rfl ?_
  exact e_out (fun r h => h)
theorem fcck_checkParts_51 (v1 : Int) (v2 : Int) (v3 : Int) (s : iS) : Fm (fun r : (Int × iS) ⊕ (iS) => r.elim (fun l => l.2) (fun e => e)) L_cck_checkParts G_cck_checkParts s (cck_checkParts_51 v1 v2 v3 s) := by
  unfold cck_checkParts_51
  refine fm_lp (A := Int × iS) (E := iS) (LS := fun l => l.2) (LE := fun e => e) ?_ ?_ (v3, s)
  · exact fun l => fcck_checkParts_51b _ _ _ _
  · exact (fun e => fm_some md_refl)
noncomputable def cck_checkParts_18b (v1 : Int) (v2 : Int) (s : iS) : Option ((Int × iS) ⊕ (iS)) := gd (0 ≤ (v1 + 1) ∧ (v1 + 1) < 19) (gd (rg v2) (gd (rg (s 78 (v1 + 1).toNat)) (if (s 78 (v1 + 1).toNat) ≤ v2 then some (.inr s) else bd (arr_fill 105 12 0 s) (fun _ s5 => gd (0 ≤ v2 ∧ v2 < 385) (cck_checkParts_51 v1 v2 (s5 84 v2.toNat) s5)))))
theorem tcck_checkParts_18b (w : ev_W) (d : Nat) (hd : 6 ≤ d) (v1 : Int) (v2 : Int) (s : iS) : Ew hT w d 256 18 [(0, .ref (tb_nK + 90)), (1, iv v1), (2, iv v2)] [] s (cck_checkParts_18C w d v1) (cck_checkParts_18b v1 v2 s) := by
  unfold cck_checkParts_18b
  refine e_mv 19 em_256 (ce_at ce_256 10 rfl) rfl rfl ?_
  refine e_mv 20 em_256 (ce_at ce_256 11 rfl) rfl rfl ?_
  refine e_getr 23 em_256 (ce_at ce_256 12 rfl) tq_90 rfl rfl ?_
  refine e_getr 26 em_256 (ce_at ce_256 13 rfl) tq_71 rfl rfl ?_
  refine e_mv 27 em_256 (ce_at ce_256 14 rfl) rfl rfl ?_
  refine e_op 28 em_256 (ce_at ce_256 15 rfl) rfl rfl ?_
  refine e_iadd 29 em_256 rfl (ce_at ce_256 16 rfl) ?_
  refine e_gd fun g1 => ?_
  refine e_ild 30 em_256 (ce_at ce_256 17 rfl) tq_78 (by decide) g1 rfl ?_
  refine e_gd fun g2 => ?_
  refine e_gd fun g3 => ?_
  refine e_cmge 100 33 em_256 rfl rfl (ce_at ce_256 18 rfl) g2 g3 (fun h4 => ?_) (fun h4 => ?_)
  · refine e_pk [] rfl rfl ?_
    exact e_out (fun r h => h)
  · refine e_mv 34 em_256 (ce_at ce_256 19 rfl) rfl rfl ?_
    refine e_getr 37 em_256 (ce_at ce_256 20 rfl) tq_90 rfl rfl ?_
    refine e_op 38 em_256 (ce_at ce_256 21 rfl) rfl rfl ?_
    refine e_ivv 41 em_256 (ce_at ce_256 22 rfl) (by omega) (iv_s2 rfl) em_142 (Nat.le_of_ble_eq_true rfl) rfl (tarr_fill hT w (d - 1) (by omega) 105 12 tq_105 (by decide) _ _) (fun r5 s5 => ?_)
    refine e_mv 42 em_256 (ce_at ce_256 23 rfl) rfl rfl ?_
    refine e_getr 45 em_256 (ce_at ce_256 24 rfl) tq_90 rfl rfl ?_
    refine e_getr 48 em_256 (ce_at ce_256 25 rfl) tq_71 rfl rfl ?_
    refine e_mv 49 em_256 (ce_at ce_256 26 rfl) rfl rfl ?_
    refine e_gd fun g6 => ?_
    refine e_ild 50 em_256 (ce_at ce_256 27 rfl) tq_84 (by decide) g6 rfl ?_
    refine e_mv 51 em_256 (ce_at ce_256 28 rfl) rfl rfl ?_
    refine e_pk [0, 1, 2, 3] rfl rfl ?_
    exact tcck_checkParts_51 w d hd _ _ _ _
theorem fcck_checkParts_18b (v1 : Int) (v2 : Int) (s : iS) : Fm (fun r : (Int × iS) ⊕ (iS) => r.elim (fun l => l.2) (fun e => e)) L_cck_checkParts G_cck_checkParts s (cck_checkParts_18b v1 v2 s) := fm_gd (fm_gd (fm_gd (fm_if (fm_some md_refl) (fm_bd (fm_sub (farr_fill 105 12 _ _) (mem_sub_L rfl) (mem_sub_F rfl)) (fun r5 s5 => fm_gd (fcck_checkParts_51 _ _ _ _))))))
noncomputable def cck_checkParts_18 (v1 : Int) (v2 : Int) (s : iS) : Option (Int × iS) := (lp (L := Int × iS) (E := iS) (fun l => cck_checkParts_18b v1 (l.1) (l.2)) (v2, s)).bind (fun e => some (0, e))
theorem tcck_checkParts_18 (w : ev_W) (d : Nat) (hd : 6 ≤ d) (v1 : Int) (v2 : Int) (s : iS) : Ew hT w d 256 18 [(0, .ref (tb_nK + 90)), (1, iv v1), (2, iv v2)] [] s (Cv hT) (cck_checkParts_18 v1 v2 s) := by
  unfold cck_checkParts_18
  refine e_lp (L := Int × iS) (E := iS) (LO := fun l => [(0, .ref (tb_nK + 90)), (1, iv v1), (2, iv (l.1))]) (LS := fun l => l.2) (CE := fun e r => ev w d 256 100 [] [] (hT (e)) r) (fun l => tcck_checkParts_18b w d hd _ _ _) ?_ (v2, s)
  intro e
  show Ew hT w d 256 100 [] [] e (Cv hT) _
  exact e_retv em_256 (ce_at ce_256 56 rfl)
theorem fcck_checkParts_18 (v1 : Int) (v2 : Int) (s : iS) : Fm Prod.snd L_cck_checkParts G_cck_checkParts s (cck_checkParts_18 v1 v2 s) := by
  unfold cck_checkParts_18
  refine fm_lp (A := Int × iS) (E := iS) (LS := fun l => l.2) (LE := fun e => e) ?_ ?_ (v2, s)
  · exact fun l => fcck_checkParts_18b _ _ _
  · exact (fun e => fm_some md_refl)
noncomputable def cck_checkParts (v1 : Int) (s : iS) : Option (Int × iS) := bd (arr_fill 106 12 0 s) (fun _ s1 => gd (0 ≤ v1 ∧ v1 < 19) (cck_checkParts_18 v1 (s1 78 v1.toNat) s1))
theorem tcck_checkParts (w : ev_W) (d : Nat) (hd : 6 ≤ d) (v1 : Int) (s : iS) : Ew hT w d 256 0 [(0, .ref (tb_nK + 90)), (1, iv v1)] [] s (Cv hT) (cck_checkParts v1 s) := by
  unfold cck_checkParts
  refine e_mv 1 em_256 (ce_at ce_256 0 rfl) rfl rfl ?_
  refine e_getr 4 em_256 (ce_at ce_256 1 rfl) tq_90 rfl rfl ?_
  refine e_op 5 em_256 (ce_at ce_256 2 rfl) rfl rfl ?_
  refine e_ivv 8 em_256 (ce_at ce_256 3 rfl) (by omega) (iv_s2 rfl) em_142 (Nat.le_of_ble_eq_true rfl) rfl (tarr_fill hT w (d - 1) (by omega) 106 12 tq_106 (by decide) _ _) (fun r1 s1 => ?_)
  refine e_mv 9 em_256 (ce_at ce_256 4 rfl) rfl rfl ?_
  refine e_getr 12 em_256 (ce_at ce_256 5 rfl) tq_90 rfl rfl ?_
  refine e_getr 15 em_256 (ce_at ce_256 6 rfl) tq_71 rfl rfl ?_
  refine e_mv 16 em_256 (ce_at ce_256 7 rfl) rfl rfl ?_
  refine e_gd fun g2 => ?_
  refine e_ild 17 em_256 (ce_at ce_256 8 rfl) tq_78 (by decide) g2 rfl ?_
  refine e_mv 18 em_256 (ce_at ce_256 9 rfl) rfl rfl ?_
  refine e_pk [0, 1, 2] rfl rfl ?_
  exact tcck_checkParts_18 w d hd _ _ _
theorem fcck_checkParts (v1 : Int) (s : iS) : Fm Prod.snd L_cck_checkParts G_cck_checkParts s (cck_checkParts v1 s) := fm_bd (fm_sub (farr_fill 106 12 _ _) (mem_sub_L rfl) (mem_sub_F rfl)) (fun r1 s1 => fm_gd (fcck_checkParts_18 _ _ _))
