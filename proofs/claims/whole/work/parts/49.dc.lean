/-! what the methods do, as functions, and that the machine does it; printed by wip/whole/dc.py -/
/-! m_comSign -/
def L_m_comSign : List Nat := [172, 173, 174]
def G_m_comSign : List (Nat × Nat) := [(121, 76)]
noncomputable def m_comSign (v1 : Int) (s : iS) : Option (Int × iS) := gd (rg v1) (if v1 = 38 then bd (m_com 5 0 0 s) (fun _ s3 => some (0, s3)) else if v1 = 42 then bd (m_com 15 3 2 s) (fun _ s5 => some (0, s5)) else if v1 = 43 then bd (m_com 2 0 0 s) (fun _ s7 => some (0, s7)) else if v1 = 45 then bd (m_com 3 0 0 s) (fun _ s9 => some (0, s9)) else if v1 = 47 then bd (m_com 15 4 2 s) (fun _ s11 => some (0, s11)) else if v1 = 60 then bd (m_com 9 0 0 s) (fun _ s13 => some (0, s13)) else if v1 = 62 then bd (m_com 10 0 0 s) (fun _ s15 => some (0, s15)) else if v1 = 124 then bd (m_com 6 0 0 s) (fun _ s17 => some (0, s17)) else bd (m_com 8 0 0 s) (fun _ s18 => some (0, s18)))
theorem tm_comSign (w : ev_W) (d : Nat) (hd : 1 ≤ d) (v1 : Int) (s : iS) : Ew hT w d 368 0 [(0, .ref (tb_nK + 121)), (1, iv v1)] [] s (Cv hT) (m_comSign v1 s) := by
  unfold m_comSign
  refine e_mv 1 em_368 (ce_at ce_368 0 rfl) rfl rfl ?_
  refine e_gd fun g1 => ?_
  refine e_case 38 (fun h2 => ?_) (fun h2 => ?_)
  · refine e_sw em_368 110 (ce_at ce_368 1 rfl) (sw_lk g1 rfl (by subst h2; rfl)) rfl ?_
    refine e_mv 111 em_368 (ce_at ce_368 26 rfl) rfl rfl ?_
    refine e_op 112 em_368 (ce_at ce_368 27 rfl) rfl rfl ?_
    refine e_op 113 em_368 (ce_at ce_368 28 rfl) rfl rfl ?_
    refine e_op 114 em_368 (ce_at ce_368 29 rfl) rfl rfl ?_
    refine e_ivv 117 em_368 (ce_at ce_368 30 rfl) (by omega) (iv_v3 (by decide) tq_121 rfl) em_365 (Nat.le_of_ble_eq_true rfl) rfl (tm_com w (d - 1) (by omega) _ _ _ _) (fun r3 s3 => ?_)
    exact e_retv em_368 (ce_at ce_368 31 rfl)
  refine e_case 42 (fun h4 => ?_) (fun h4 => ?_)
  · refine e_sw em_368 92 (ce_at ce_368 1 rfl) (sw_lk g1 rfl (by subst h4; rfl)) rfl ?_
    refine e_mv 93 em_368 (ce_at ce_368 14 rfl) rfl rfl ?_
    refine e_bip 95 em_368 (ce_at ce_368 15 rfl) (by decide) rfl ?_
    refine e_op 96 em_368 (ce_at ce_368 16 rfl) rfl rfl ?_
    refine e_op 97 em_368 (ce_at ce_368 17 rfl) rfl rfl ?_
    refine e_ivv 100 em_368 (ce_at ce_368 18 rfl) (by omega) (iv_v3 (by decide) tq_121 rfl) em_365 (Nat.le_of_ble_eq_true rfl) rfl (tm_com w (d - 1) (by omega) _ _ _ _) (fun r5 s5 => ?_)
    exact e_retv em_368 (ce_at ce_368 19 rfl)
  refine e_case 43 (fun h6 => ?_) (fun h6 => ?_)
  · refine e_sw em_368 76 (ce_at ce_368 1 rfl) (sw_lk g1 rfl (by subst h6; rfl)) rfl ?_
    refine e_mv 77 em_368 (ce_at ce_368 2 rfl) rfl rfl ?_
    refine e_op 78 em_368 (ce_at ce_368 3 rfl) rfl rfl ?_
    refine e_op 79 em_368 (ce_at ce_368 4 rfl) rfl rfl ?_
    refine e_op 80 em_368 (ce_at ce_368 5 rfl) rfl rfl ?_
    refine e_ivv 83 em_368 (ce_at ce_368 6 rfl) (by omega) (iv_v3 (by decide) tq_121 rfl) em_365 (Nat.le_of_ble_eq_true rfl) rfl (tm_com w (d - 1) (by omega) _ _ _ _) (fun r7 s7 => ?_)
    exact e_retv em_368 (ce_at ce_368 7 rfl)
  refine e_case 45 (fun h8 => ?_) (fun h8 => ?_)
  · refine e_sw em_368 84 (ce_at ce_368 1 rfl) (sw_lk g1 rfl (by subst h8; rfl)) rfl ?_
    refine e_mv 85 em_368 (ce_at ce_368 8 rfl) rfl rfl ?_
    refine e_op 86 em_368 (ce_at ce_368 9 rfl) rfl rfl ?_
    refine e_op 87 em_368 (ce_at ce_368 10 rfl) rfl rfl ?_
    refine e_op 88 em_368 (ce_at ce_368 11 rfl) rfl rfl ?_
    refine e_ivv 91 em_368 (ce_at ce_368 12 rfl) (by omega) (iv_v3 (by decide) tq_121 rfl) em_365 (Nat.le_of_ble_eq_true rfl) rfl (tm_com w (d - 1) (by omega) _ _ _ _) (fun r9 s9 => ?_)
    exact e_retv em_368 (ce_at ce_368 13 rfl)
  refine e_case 47 (fun h10 => ?_) (fun h10 => ?_)
  · refine e_sw em_368 101 (ce_at ce_368 1 rfl) (sw_lk g1 rfl (by subst h10; rfl)) rfl ?_
    refine e_mv 102 em_368 (ce_at ce_368 20 rfl) rfl rfl ?_
    refine e_bip 104 em_368 (ce_at ce_368 21 rfl) (by decide) rfl ?_
    refine e_op 105 em_368 (ce_at ce_368 22 rfl) rfl rfl ?_
    refine e_op 106 em_368 (ce_at ce_368 23 rfl) rfl rfl ?_
    refine e_ivv 109 em_368 (ce_at ce_368 24 rfl) (by omega) (iv_v3 (by decide) tq_121 rfl) em_365 (Nat.le_of_ble_eq_true rfl) rfl (tm_com w (d - 1) (by omega) _ _ _ _) (fun r11 s11 => ?_)
    exact e_retv em_368 (ce_at ce_368 25 rfl)
  refine e_case 60 (fun h12 => ?_) (fun h12 => ?_)
  · refine e_sw em_368 127 (ce_at ce_368 1 rfl) (sw_lk g1 rfl (by subst h12; rfl)) rfl ?_
    refine e_mv 128 em_368 (ce_at ce_368 38 rfl) rfl rfl ?_
    refine e_bip 130 em_368 (ce_at ce_368 39 rfl) (by decide) rfl ?_
    refine e_op 131 em_368 (ce_at ce_368 40 rfl) rfl rfl ?_
    refine e_op 132 em_368 (ce_at ce_368 41 rfl) rfl rfl ?_
    refine e_ivv 135 em_368 (ce_at ce_368 42 rfl) (by omega) (iv_v3 (by decide) tq_121 rfl) em_365 (Nat.le_of_ble_eq_true rfl) rfl (tm_com w (d - 1) (by omega) _ _ _ _) (fun r13 s13 => ?_)
    exact e_retv em_368 (ce_at ce_368 43 rfl)
  refine e_case 62 (fun h14 => ?_) (fun h14 => ?_)
  · refine e_sw em_368 136 (ce_at ce_368 1 rfl) (sw_lk g1 rfl (by subst h14; rfl)) rfl ?_
    refine e_mv 137 em_368 (ce_at ce_368 44 rfl) rfl rfl ?_
    refine e_bip 139 em_368 (ce_at ce_368 45 rfl) (by decide) rfl ?_
    refine e_op 140 em_368 (ce_at ce_368 46 rfl) rfl rfl ?_
    refine e_op 141 em_368 (ce_at ce_368 47 rfl) rfl rfl ?_
    refine e_ivv 144 em_368 (ce_at ce_368 48 rfl) (by omega) (iv_v3 (by decide) tq_121 rfl) em_365 (Nat.le_of_ble_eq_true rfl) rfl (tm_com w (d - 1) (by omega) _ _ _ _) (fun r15 s15 => ?_)
    exact e_retv em_368 (ce_at ce_368 49 rfl)
  refine e_case 124 (fun h16 => ?_) (fun h16 => ?_)
  · refine e_sw em_368 118 (ce_at ce_368 1 rfl) (sw_lk g1 rfl (by subst h16; rfl)) rfl ?_
    refine e_mv 119 em_368 (ce_at ce_368 32 rfl) rfl rfl ?_
    refine e_bip 121 em_368 (ce_at ce_368 33 rfl) (by decide) rfl ?_
    refine e_op 122 em_368 (ce_at ce_368 34 rfl) rfl rfl ?_
    refine e_op 123 em_368 (ce_at ce_368 35 rfl) rfl rfl ?_
    refine e_ivv 126 em_368 (ce_at ce_368 36 rfl) (by omega) (iv_v3 (by decide) tq_121 rfl) em_365 (Nat.le_of_ble_eq_true rfl) rfl (tm_com w (d - 1) (by omega) _ _ _ _) (fun r17 s17 => ?_)
    exact e_retv em_368 (ce_at ce_368 37 rfl)
  refine e_sw em_368 145 (ce_at ce_368 1 rfl) (sw_lk g1 rfl (lk_step h2 (lk_step h4 (lk_step h6 (lk_step h8 (lk_step h10 (lk_step h12 (lk_step h14 (lk_step h16 rfl))))))))) rfl ?_
  refine e_mv 146 em_368 (ce_at ce_368 50 rfl) rfl rfl ?_
  refine e_bip 148 em_368 (ce_at ce_368 51 rfl) (by decide) rfl ?_
  refine e_op 149 em_368 (ce_at ce_368 52 rfl) rfl rfl ?_
  refine e_op 150 em_368 (ce_at ce_368 53 rfl) rfl rfl ?_
  refine e_ivv 153 em_368 (ce_at ce_368 54 rfl) (by omega) (iv_v3 (by decide) tq_121 rfl) em_365 (Nat.le_of_ble_eq_true rfl) rfl (tm_com w (d - 1) (by omega) _ _ _ _) (fun r18 s18 => ?_)
  exact e_retv em_368 (ce_at ce_368 55 rfl)
theorem fm_comSign (v1 : Int) (s : iS) : Fm Prod.snd L_m_comSign G_m_comSign s (m_comSign v1 s) := fm_gd (fm_if (fm_bd (fm_sub (fm_com _ _ _ _) (mem_sub_L rfl) (mem_sub_F rfl)) (fun r3 s3 => fm_some md_refl)) (fm_if (fm_bd (fm_sub (fm_com _ _ _ _) (mem_sub_L rfl) (mem_sub_F rfl)) (fun r5 s5 => fm_some md_refl)) (fm_if (fm_bd (fm_sub (fm_com _ _ _ _) (mem_sub_L rfl) (mem_sub_F rfl)) (fun r7 s7 => fm_some md_refl)) (fm_if (fm_bd (fm_sub (fm_com _ _ _ _) (mem_sub_L rfl) (mem_sub_F rfl)) (fun r9 s9 => fm_some md_refl)) (fm_if (fm_bd (fm_sub (fm_com _ _ _ _) (mem_sub_L rfl) (mem_sub_F rfl)) (fun r11 s11 => fm_some md_refl)) (fm_if (fm_bd (fm_sub (fm_com _ _ _ _) (mem_sub_L rfl) (mem_sub_F rfl)) (fun r13 s13 => fm_some md_refl)) (fm_if (fm_bd (fm_sub (fm_com _ _ _ _) (mem_sub_L rfl) (mem_sub_F rfl)) (fun r15 s15 => fm_some md_refl)) (fm_if (fm_bd (fm_sub (fm_com _ _ _ _) (mem_sub_L rfl) (mem_sub_F rfl)) (fun r17 s17 => fm_some md_refl)) (fm_bd (fm_sub (fm_com _ _ _ _) (mem_sub_L rfl) (mem_sub_F rfl)) (fun r18 s18 => fm_some md_refl))))))))))
/-! m_comItem -/
def L_m_comItem : List Nat := [172, 173, 174]
def G_m_comItem : List (Nat × Nat) := [(121, 76)]
noncomputable def m_comItem_124 (v2 : Int) (t0 : Int) (t1 : Int) (t2 : Int) (s : iS) : Option (Int × iS) := bd (m_com t2 t1 t0 s) (fun _ s1 => gd (rg v2) (if 0 ≤ v2 then some (0, s1) else bd (m_com 7 0 0 s1) (fun _ s4 => some (0, s4))))
theorem tm_comItem_124 (w : ev_W) (d : Nat) (hd : 2 ≤ d) (v2 : Int) (t0 : Int) (t1 : Int) (t2 : Int) (s : iS) : Ew hT w d 366 124 [(0, .ref (tb_nK + 121)), (2, iv v2)] [iv t0, iv t1, iv t2, .ref (tb_nK + 121)] s (Cv hT) (m_comItem_124 v2 t0 t1 t2 s) := by
  unfold m_comItem_124
  refine e_ivv 127 em_366 (ce_at ce_366 18 rfl) (by omega) (iv_v3 (by decide) tq_121 rfl) em_365 (Nat.le_of_ble_eq_true rfl) rfl (tm_com w (d - 1) (by omega) _ _ _ _) (fun r1 s1 => ?_)
  refine e_mv 128 em_366 (ce_at ce_366 19 rfl) rfl rfl ?_
  refine e_gd fun g2 => ?_
  refine e_ifge 139 131 em_366 rfl rfl (ce_at ce_366 20 rfl) g2 (fun h3 => ?_) (fun h3 => ?_)
  · exact e_retv em_366 (ce_at ce_366 26 rfl)
  · refine e_mv 132 em_366 (ce_at ce_366 21 rfl) rfl rfl ?_
    refine e_bip 134 em_366 (ce_at ce_366 22 rfl) (by decide) rfl ?_
    refine e_op 135 em_366 (ce_at ce_366 23 rfl) rfl rfl ?_
    refine e_op 136 em_366 (ce_at ce_366 24 rfl) rfl rfl ?_
    refine e_ivv 139 em_366 (ce_at ce_366 25 rfl) (by omega) (iv_v3 (by decide) tq_121 rfl) em_365 (Nat.le_of_ble_eq_true rfl) rfl (tm_com w (d - 1) (by omega) _ _ _ _) (fun r4 s4 => ?_)
    exact e_retv em_366 (ce_at ce_366 26 rfl)
theorem fm_comItem_124 (v2 : Int) (t0 : Int) (t1 : Int) (t2 : Int) (s : iS) : Fm Prod.snd L_m_comItem G_m_comItem s (m_comItem_124 v2 t0 t1 t2 s) := fm_bd (fm_sub (fm_com _ _ _ _) (mem_sub_L rfl) (mem_sub_F rfl)) (fun r1 s1 => fm_gd (fm_if (fm_some md_refl) (fm_bd (fm_sub (fm_com _ _ _ _) (mem_sub_L rfl) (mem_sub_F rfl)) (fun r4 s4 => fm_some md_refl))))
def m_comItem_164C (w : ev_W) (d : Nat) (v1 : Int) : (Int × iS) ⊕ (iS) → am_E → Prop := fun q r => q.elim (fun l => ev w d 366 164 ((fun l => [(0, .ref (tb_nK + 121)), (1, iv v1), (3, iv (l.1))]) l) [] (hT ((fun l => l.2) l)) r) (fun e => (fun e r => ev w d 366 211 [] [] (hT (e)) r) e r)
noncomputable def m_comItem_164b (v1 : Int) (v3 : Int) (s : iS) : Option ((Int × iS) ⊕ (iS)) := gd (0 ≤ v1 ∧ v1 < 5000) (gd (rg v3) (gd (rg (s 146 v1.toNat)) (if (s 146 v1.toNat) ≤ v3 then some (.inr s) else gd (0 ≤ (((s 170 v1.toNat) + 1) + v3) ∧ (((s 170 v1.toNat) + 1) + v3) < 4000) (bd (m_com 0 0 (s 171 (((s 170 v1.toNat) + 1) + v3).toNat) s) (fun _ s6 => bd (m_com 15 304 2 s6) (fun _ s7 => some (.inl ((v3 + 1), s7))))))))
theorem tm_comItem_164b (w : ev_W) (d : Nat) (hd : 2 ≤ d) (v1 : Int) (v3 : Int) (s : iS) : Ew hT w d 366 164 [(0, .ref (tb_nK + 121)), (1, iv v1), (3, iv v3)] [] s (m_comItem_164C w d v1) (m_comItem_164b v1 v3 s) := by
  unfold m_comItem_164b
  refine e_mv 165 em_366 (ce_at ce_366 42 rfl) rfl rfl ?_
  refine e_mv 166 em_366 (ce_at ce_366 43 rfl) rfl rfl ?_
  refine e_getr 169 em_366 (ce_at ce_366 44 rfl) tq_121 rfl rfl ?_
  refine e_mv 170 em_366 (ce_at ce_366 45 rfl) rfl rfl ?_
  refine e_gd fun g1 => ?_
  refine e_ild 171 em_366 (ce_at ce_366 46 rfl) tq_146 (by decide) g1 rfl ?_
  refine e_gd fun g2 => ?_
  refine e_gd fun g3 => ?_
  refine e_cmge 211 174 em_366 rfl rfl (ce_at ce_366 47 rfl) g2 g3 (fun h4 => ?_) (fun h4 => ?_)
  · refine e_pk [] rfl rfl ?_
    exact e_out (fun r h => h)
  · refine e_mv 175 em_366 (ce_at ce_366 48 rfl) rfl rfl ?_
    refine e_op 176 em_366 (ce_at ce_366 49 rfl) rfl rfl ?_
    refine e_op 177 em_366 (ce_at ce_366 50 rfl) rfl rfl ?_
    refine e_mv 178 em_366 (ce_at ce_366 51 rfl) rfl rfl ?_
    refine e_getr 181 em_366 (ce_at ce_366 52 rfl) tq_121 rfl rfl ?_
    refine e_mv 182 em_366 (ce_at ce_366 53 rfl) rfl rfl ?_
    refine e_getr 185 em_366 (ce_at ce_366 54 rfl) tq_121 rfl rfl ?_
    refine e_mv 186 em_366 (ce_at ce_366 55 rfl) rfl rfl ?_
    refine e_ild 187 em_366 (ce_at ce_366 56 rfl) tq_170 (by decide) g1 rfl ?_
    refine e_op 188 em_366 (ce_at ce_366 57 rfl) rfl rfl ?_
    refine e_iadd 189 em_366 rfl (ce_at ce_366 58 rfl) ?_
    refine e_mv 190 em_366 (ce_at ce_366 59 rfl) rfl rfl ?_
    refine e_iadd 191 em_366 rfl (ce_at ce_366 60 rfl) ?_
    refine e_gd fun g5 => ?_
    refine e_ild 192 em_366 (ce_at ce_366 61 rfl) tq_171 (by decide) g5 rfl ?_
    refine e_ivv 195 em_366 (ce_at ce_366 62 rfl) (by omega) (iv_v3 (by decide) tq_121 rfl) em_365 (Nat.le_of_ble_eq_true rfl) rfl (tm_com w (d - 1) (by omega) _ _ _ _) (fun r6 s6 => ?_)
    refine e_mv 196 em_366 (ce_at ce_366 63 rfl) rfl rfl ?_
    refine e_bip 198 em_366 (ce_at ce_366 64 rfl) (by decide) rfl ?_
    refine e_sip 201 em_366 (ce_at ce_366 65 rfl) (by decide) rfl ?_
    refine e_op 202 em_366 (ce_at ce_366 66 rfl) rfl rfl ?_
    refine e_ivv 205 em_366 (ce_at ce_366 67 rfl) (by omega) (iv_v3 (by decide) tq_121 rfl) em_365 (Nat.le_of_ble_eq_true rfl) rfl (tm_com w (d - 1) (by omega) _ _ _ _) (fun r7 s7 => ?_)
    refine e_iinc 208 em_366 (ce_at ce_366 68 rfl) rfl (by decide) rfl ?_
    refine e_goto em_366 164 (ce_at ce_366 69 rfl) rfl ?_
    refine e_pk [0, 1, 3] rfl rfl ?_
    exact e_out (fun r h => h)
theorem fm_comItem_164b (v1 : Int) (v3 : Int) (s : iS) : Fm (fun r : (Int × iS) ⊕ (iS) => r.elim (fun l => l.2) (fun e => e)) L_m_comItem G_m_comItem s (m_comItem_164b v1 v3 s) := fm_gd (fm_gd (fm_gd (fm_if (fm_some md_refl) (fm_gd (fm_bd (fm_sub (fm_com _ _ _ _) (mem_sub_L rfl) (mem_sub_F rfl)) (fun r6 s6 => fm_bd (fm_sub (fm_com _ _ _ _) (mem_sub_L rfl) (mem_sub_F rfl)) (fun r7 s7 => fm_some md_refl)))))))
noncomputable def m_comItem_164 (v1 : Int) (v3 : Int) (s : iS) : Option (Int × iS) := (lp (L := Int × iS) (E := iS) (fun l => m_comItem_164b v1 (l.1) (l.2)) (v3, s)).bind (fun e => some (0, e))
theorem tm_comItem_164 (w : ev_W) (d : Nat) (hd : 2 ≤ d) (v1 : Int) (v3 : Int) (s : iS) : Ew hT w d 366 164 [(0, .ref (tb_nK + 121)), (1, iv v1), (3, iv v3)] [] s (Cv hT) (m_comItem_164 v1 v3 s) := by
  unfold m_comItem_164
  refine e_lp (L := Int × iS) (E := iS) (LO := fun l => [(0, .ref (tb_nK + 121)), (1, iv v1), (3, iv (l.1))]) (LS := fun l => l.2) (CE := fun e r => ev w d 366 211 [] [] (hT (e)) r) (fun l => tm_comItem_164b w d hd _ _ _) ?_ (v3, s)
  intro e
  show Ew hT w d 366 211 [] [] e (Cv hT) _
  exact e_retv em_366 (ce_at ce_366 70 rfl)
theorem fm_comItem_164 (v1 : Int) (v3 : Int) (s : iS) : Fm Prod.snd L_m_comItem G_m_comItem s (m_comItem_164 v1 v3 s) := by
  unfold m_comItem_164
  refine fm_lp (A := Int × iS) (E := iS) (LS := fun l => l.2) (LE := fun e => e) ?_ ?_ (v3, s)
  · exact fun l => fm_comItem_164b _ _ _
  · exact (fun e => fm_some md_refl)
noncomputable def m_comItem_295 (v2 : Int) (s : iS) : Option (Int × iS) := gd (0 ≤ v2 ∧ v2 < 1000) (gd (rg (s 152 v2.toNat)) (if (s 152 v2.toNat) = 2 then bd (m_com 0 6 0 s) (fun _ s4 => some (0, s4)) else some (0, s)))
theorem tm_comItem_295 (w : ev_W) (d : Nat) (hd : 2 ≤ d) (v2 : Int) (s : iS) : Ew hT w d 366 295 [(0, .ref (tb_nK + 121)), (2, iv v2)] [] s (Cv hT) (m_comItem_295 v2 s) := by
  unfold m_comItem_295
  refine e_mv 296 em_366 (ce_at ce_366 127 rfl) rfl rfl ?_
  refine e_getr 299 em_366 (ce_at ce_366 128 rfl) tq_121 rfl rfl ?_
  refine e_mv 300 em_366 (ce_at ce_366 129 rfl) rfl rfl ?_
  refine e_gd fun g1 => ?_
  refine e_ild 301 em_366 (ce_at ce_366 130 rfl) tq_152 (by decide) g1 rfl ?_
  refine e_op 302 em_366 (ce_at ce_366 131 rfl) rfl rfl ?_
  refine e_gd fun g2 => ?_
  refine e_cmne 313 305 em_366 rfl rfl (ce_at ce_366 132 rfl) g2 (by decide) (fun h3 => ?_) (fun h3 => ?_)
  · exact e_retv em_366 (ce_at ce_366 138 rfl)
  · refine e_mv 306 em_366 (ce_at ce_366 133 rfl) rfl rfl ?_
    refine e_op 307 em_366 (ce_at ce_366 134 rfl) rfl rfl ?_
    refine e_bip 309 em_366 (ce_at ce_366 135 rfl) (by decide) rfl ?_
    refine e_op 310 em_366 (ce_at ce_366 136 rfl) rfl rfl ?_
    refine e_ivv 313 em_366 (ce_at ce_366 137 rfl) (by omega) (iv_v3 (by decide) tq_121 rfl) em_365 (Nat.le_of_ble_eq_true rfl) rfl (tm_com w (d - 1) (by omega) _ _ _ _) (fun r4 s4 => ?_)
    exact e_retv em_366 (ce_at ce_366 138 rfl)
theorem fm_comItem_295 (v2 : Int) (s : iS) : Fm Prod.snd L_m_comItem G_m_comItem s (m_comItem_295 v2 s) := fm_gd (fm_gd (fm_if (fm_bd (fm_sub (fm_com _ _ _ _) (mem_sub_L rfl) (mem_sub_F rfl)) (fun r4 s4 => fm_some md_refl)) (fm_some md_refl)))
noncomputable def m_comItem_353 (t0 : Int) (t1 : Int) (t2 : Int) (t3 : Int) (s : iS) : Option (Int × iS) := bd (m_com t3 t2 (t1 + t0) s) (fun _ s1 => some (0, s1))
theorem tm_comItem_353 (w : ev_W) (d : Nat) (hd : 2 ≤ d) (t0 : Int) (t1 : Int) (t2 : Int) (t3 : Int) (s : iS) : Ew hT w d 366 353 [] [iv t0, iv t1, iv t2, iv t3, .ref (tb_nK + 121)] s (Cv hT) (m_comItem_353 t0 t1 t2 t3 s) := by
  unfold m_comItem_353
  refine e_iadd 354 em_366 rfl (ce_at ce_366 163 rfl) ?_
  refine e_ivv 357 em_366 (ce_at ce_366 164 rfl) (by omega) (iv_v3 (by decide) tq_121 rfl) em_365 (Nat.le_of_ble_eq_true rfl) rfl (tm_com w (d - 1) (by omega) _ _ _ _) (fun r1 s1 => ?_)
  exact e_retv em_366 (ce_at ce_366 165 rfl)
theorem fm_comItem_353 (t0 : Int) (t1 : Int) (t2 : Int) (t3 : Int) (s : iS) : Fm Prod.snd L_m_comItem G_m_comItem s (m_comItem_353 t0 t1 t2 t3 s) := fm_bd (fm_sub (fm_com _ _ _ _) (mem_sub_L rfl) (mem_sub_F rfl)) (fun r1 s1 => fm_some md_refl)
noncomputable def m_comItem (v1 : Int) (s : iS) : Option (Int × iS) := gd (0 ≤ v1 ∧ v1 < 5000) (gd (rg (s 144 v1.toNat)) (if (s 144 v1.toNat) = 0 then gd (rg (s 145 v1.toNat)) (if 0 ≤ (s 145 v1.toNat) then m_comItem_124 (s 145 v1.toNat) (s 145 v1.toNat) 0 0 s else m_comItem_124 (s 145 v1.toNat) 0 0 0 s) else if (s 144 v1.toNat) = 1 then bd (m_com 0 0 (s 146 v1.toNat) s) (fun _ s7 => bd (m_com 15 300 1 s7) (fun _ s8 => m_comItem_164 v1 0 s8)) else if (s 144 v1.toNat) = 2 then some (0, s) else if (s 144 v1.toNat) = 3 then bd (m_com 0 6 0 s) (fun _ s11 => some (0, s11)) else if (s 144 v1.toNat) = 4 then bd (m_comVariable 0 (s 145 v1.toNat) s) (fun _ s13 => some (0, s13)) else if (s 144 v1.toNat) = 5 then bd (m_com 2 0 0 s) (fun _ s15 => bd (m_com 1 6 1 s15) (fun _ s16 => bd (m_com 0 5 0 s16) (fun _ s17 => some (0, s17)))) else if (s 144 v1.toNat) = 6 then bd (m_comSign (s 145 v1.toNat) s) (fun _ s19 => some (0, s19)) else if (s 144 v1.toNat) = 7 then bd (m_com 4 0 0 s) (fun _ s21 => some (0, s21)) else if (s 144 v1.toNat) = 8 then bd (m_com 7 0 0 s) (fun _ s23 => some (0, s23)) else if (s 144 v1.toNat) = 9 then gd (0 ≤ (s 145 v1.toNat) ∧ (s 145 v1.toNat) < 1000) (gd (rg (s 152 (s 145 v1.toNat).toNat)) (if (s 152 (s 145 v1.toNat).toNat) = 1 then bd (m_comVariable 0 (s 153 (s 145 v1.toNat).toNat) s) (fun _ s28 => m_comItem_295 (s 145 v1.toNat) s28) else m_comItem_295 (s 145 v1.toNat) s)) else if (s 144 v1.toNat) = 10 then gd (0 ≤ (s 145 v1.toNat) ∧ (s 145 v1.toNat) < 1000) (bd (m_numberOf (s 154 (s 145 v1.toNat).toNat) (s 155 (s 145 v1.toNat).toNat) s) (fun r31 s31 => gd (rg (s31 152 (s 145 v1.toNat).toNat)) (if (s31 152 (s 145 v1.toNat).toNat) ≤ 0 then m_comItem_353 0 (s31 151 (s 145 v1.toNat).toNat) r31 15 s31 else m_comItem_353 1 (s31 151 (s 145 v1.toNat).toNat) r31 15 s31))) else if (s 144 v1.toNat) = 11 then some (0, s) else if (s 144 v1.toNat) = 12 then some (0, s) else if (s 144 v1.toNat) = 13 then bd (m_comVariable 1 (s 145 v1.toNat) s) (fun _ s37 => some (0, s37)) else if (s 144 v1.toNat) = 14 then bd (m_com 1 7 0 s) (fun _ s39 => bd (m_com 1 6 1 s39) (fun _ s40 => bd (m_com 0 7 0 s40) (fun _ s41 => bd (m_com 1 5 0 s41) (fun _ s42 => some (0, s42))))) else if (s 144 v1.toNat) = 15 then bd (m_com 0 0 0 s) (fun _ s44 => bd (m_com 8 0 0 s44) (fun _ s45 => bd (m_com 13 (s45 146 v1.toNat) 0 s45) (fun _ s46 => some (0, s46)))) else if (s 144 v1.toNat) = 16 then bd (m_com 12 (s 146 v1.toNat) 0 s) (fun _ s48 => some (0, s48)) else if (s 144 v1.toNat) = 17 then some (0, s) else if (s 144 v1.toNat) = 18 then bd (m_com 16 0 0 s) (fun _ s51 => some (0, s51)) else if (s 144 v1.toNat) = 19 then bd (m_com 1 7 0 s) (fun _ s53 => some (0, s53)) else if (s 144 v1.toNat) = 20 then bd (m_com 11 (s 145 v1.toNat) 0 s) (fun _ s55 => some (0, s55)) else some (0, s)))
theorem tm_comItem (w : ev_W) (d : Nat) (hd : 2 ≤ d) (v1 : Int) (s : iS) : Ew hT w d 366 0 [(0, .ref (tb_nK + 121)), (1, iv v1)] [] s (Cv hT) (m_comItem v1 s) := by
  unfold m_comItem
  refine e_mv 1 em_366 (ce_at ce_366 0 rfl) rfl rfl ?_
  refine e_getr 4 em_366 (ce_at ce_366 1 rfl) tq_121 rfl rfl ?_
  refine e_mv 5 em_366 (ce_at ce_366 2 rfl) rfl rfl ?_
  refine e_gd fun g1 => ?_
  refine e_ild 6 em_366 (ce_at ce_366 3 rfl) tq_145 (by decide) g1 rfl ?_
  refine e_mv 7 em_366 (ce_at ce_366 4 rfl) rfl rfl ?_
  refine e_mv 8 em_366 (ce_at ce_366 5 rfl) rfl rfl ?_
  refine e_getr 11 em_366 (ce_at ce_366 6 rfl) tq_121 rfl rfl ?_
  refine e_mv 12 em_366 (ce_at ce_366 7 rfl) rfl rfl ?_
  refine e_ild 13 em_366 (ce_at ce_366 8 rfl) tq_144 (by decide) g1 rfl ?_
  refine e_gd fun g2 => ?_
  refine e_case 0 (fun h3 => ?_) (fun h3 => ?_)
  · refine e_sw em_366 112 (ce_at ce_366 9 rfl) (sw_in g2 (by omega) (by rw [h3]; rfl)) rfl ?_
    refine e_mv 113 em_366 (ce_at ce_366 10 rfl) rfl rfl ?_
    refine e_op 114 em_366 (ce_at ce_366 11 rfl) rfl rfl ?_
    refine e_op 115 em_366 (ce_at ce_366 12 rfl) rfl rfl ?_
    refine e_mv 116 em_366 (ce_at ce_366 13 rfl) rfl rfl ?_
    refine e_gd fun g4 => ?_
    refine e_ifge 123 119 em_366 rfl rfl (ce_at ce_366 14 rfl) g4 (fun h5 => ?_) (fun h5 => ?_)
    · refine e_mv 124 em_366 (ce_at ce_366 17 rfl) rfl rfl ?_
      refine e_pk [0, 2] rfl rfl ?_
      exact tm_comItem_124 w d hd _ _ _ _ _
    · refine e_op 120 em_366 (ce_at ce_366 15 rfl) rfl rfl ?_
      refine e_goto em_366 124 (ce_at ce_366 16 rfl) rfl ?_
      refine e_pk [0, 2] rfl rfl ?_
      exact tm_comItem_124 w d hd _ _ _ _ _
  refine e_case 1 (fun h6 => ?_) (fun h6 => ?_)
  · refine e_sw em_366 140 (ce_at ce_366 9 rfl) (sw_in g2 (by omega) (by rw [h6]; rfl)) rfl ?_
    refine e_mv 141 em_366 (ce_at ce_366 27 rfl) rfl rfl ?_
    refine e_op 142 em_366 (ce_at ce_366 28 rfl) rfl rfl ?_
    refine e_op 143 em_366 (ce_at ce_366 29 rfl) rfl rfl ?_
    refine e_mv 144 em_366 (ce_at ce_366 30 rfl) rfl rfl ?_
    refine e_getr 147 em_366 (ce_at ce_366 31 rfl) tq_121 rfl rfl ?_
    refine e_mv 148 em_366 (ce_at ce_366 32 rfl) rfl rfl ?_
    refine e_ild 149 em_366 (ce_at ce_366 33 rfl) tq_146 (by decide) g1 rfl ?_
    refine e_ivv 152 em_366 (ce_at ce_366 34 rfl) (by omega) (iv_v3 (by decide) tq_121 rfl) em_365 (Nat.le_of_ble_eq_true rfl) rfl (tm_com w (d - 1) (by omega) _ _ _ _) (fun r7 s7 => ?_)
    refine e_mv 153 em_366 (ce_at ce_366 35 rfl) rfl rfl ?_
    refine e_bip 155 em_366 (ce_at ce_366 36 rfl) (by decide) rfl ?_
    refine e_sip 158 em_366 (ce_at ce_366 37 rfl) (by decide) rfl ?_
    refine e_op 159 em_366 (ce_at ce_366 38 rfl) rfl rfl ?_
    refine e_ivv 162 em_366 (ce_at ce_366 39 rfl) (by omega) (iv_v3 (by decide) tq_121 rfl) em_365 (Nat.le_of_ble_eq_true rfl) rfl (tm_com w (d - 1) (by omega) _ _ _ _) (fun r8 s8 => ?_)
    refine e_op 163 em_366 (ce_at ce_366 40 rfl) rfl rfl ?_
    refine e_mv 164 em_366 (ce_at ce_366 41 rfl) rfl rfl ?_
    refine e_pk [0, 1, 3] rfl rfl ?_
    exact tm_comItem_164 w d hd _ _ _
  refine e_case 2 (fun h9 => ?_) (fun h9 => ?_)
  · refine e_sw em_366 467 (ce_at ce_366 9 rfl) (sw_in g2 (by omega) (by rw [h9]; rfl)) rfl ?_
    exact e_retv em_366 (ce_at ce_366 238 rfl)
  refine e_case 3 (fun h10 => ?_) (fun h10 => ?_)
  · refine e_sw em_366 212 (ce_at ce_366 9 rfl) (sw_in g2 (by omega) (by rw [h10]; rfl)) rfl ?_
    refine e_mv 213 em_366 (ce_at ce_366 71 rfl) rfl rfl ?_
    refine e_op 214 em_366 (ce_at ce_366 72 rfl) rfl rfl ?_
    refine e_bip 216 em_366 (ce_at ce_366 73 rfl) (by decide) rfl ?_
    refine e_op 217 em_366 (ce_at ce_366 74 rfl) rfl rfl ?_
    refine e_ivv 220 em_366 (ce_at ce_366 75 rfl) (by omega) (iv_v3 (by decide) tq_121 rfl) em_365 (Nat.le_of_ble_eq_true rfl) rfl (tm_com w (d - 1) (by omega) _ _ _ _) (fun r11 s11 => ?_)
    exact e_retv em_366 (ce_at ce_366 76 rfl)
  refine e_case 4 (fun h12 => ?_) (fun h12 => ?_)
  · refine e_sw em_366 221 (ce_at ce_366 9 rfl) (sw_in g2 (by omega) (by rw [h12]; rfl)) rfl ?_
    refine e_mv 222 em_366 (ce_at ce_366 77 rfl) rfl rfl ?_
    refine e_op 223 em_366 (ce_at ce_366 78 rfl) rfl rfl ?_
    refine e_mv 224 em_366 (ce_at ce_366 79 rfl) rfl rfl ?_
    refine e_ivv 227 em_366 (ce_at ce_366 80 rfl) (by omega) (iv_v2 (by decide) tq_121 rfl) em_367 (Nat.le_of_ble_eq_true rfl) rfl (tm_comVariable w (d - 1) (by omega) _ _ _) (fun r13 s13 => ?_)
    exact e_retv em_366 (ce_at ce_366 81 rfl)
  refine e_case 5 (fun h14 => ?_) (fun h14 => ?_)
  · refine e_sw em_366 228 (ce_at ce_366 9 rfl) (sw_in g2 (by omega) (by rw [h14]; rfl)) rfl ?_
    refine e_mv 229 em_366 (ce_at ce_366 82 rfl) rfl rfl ?_
    refine e_op 230 em_366 (ce_at ce_366 83 rfl) rfl rfl ?_
    refine e_op 231 em_366 (ce_at ce_366 84 rfl) rfl rfl ?_
    refine e_op 232 em_366 (ce_at ce_366 85 rfl) rfl rfl ?_
    refine e_ivv 235 em_366 (ce_at ce_366 86 rfl) (by omega) (iv_v3 (by decide) tq_121 rfl) em_365 (Nat.le_of_ble_eq_true rfl) rfl (tm_com w (d - 1) (by omega) _ _ _ _) (fun r15 s15 => ?_)
    refine e_mv 236 em_366 (ce_at ce_366 87 rfl) rfl rfl ?_
    refine e_op 237 em_366 (ce_at ce_366 88 rfl) rfl rfl ?_
    refine e_bip 239 em_366 (ce_at ce_366 89 rfl) (by decide) rfl ?_
    refine e_op 240 em_366 (ce_at ce_366 90 rfl) rfl rfl ?_
    refine e_ivv 243 em_366 (ce_at ce_366 91 rfl) (by omega) (iv_v3 (by decide) tq_121 rfl) em_365 (Nat.le_of_ble_eq_true rfl) rfl (tm_com w (d - 1) (by omega) _ _ _ _) (fun r16 s16 => ?_)
    refine e_mv 244 em_366 (ce_at ce_366 92 rfl) rfl rfl ?_
    refine e_op 245 em_366 (ce_at ce_366 93 rfl) rfl rfl ?_
    refine e_op 246 em_366 (ce_at ce_366 94 rfl) rfl rfl ?_
    refine e_op 247 em_366 (ce_at ce_366 95 rfl) rfl rfl ?_
    refine e_ivv 250 em_366 (ce_at ce_366 96 rfl) (by omega) (iv_v3 (by decide) tq_121 rfl) em_365 (Nat.le_of_ble_eq_true rfl) rfl (tm_com w (d - 1) (by omega) _ _ _ _) (fun r17 s17 => ?_)
    exact e_retv em_366 (ce_at ce_366 97 rfl)
  refine e_case 6 (fun h18 => ?_) (fun h18 => ?_)
  · refine e_sw em_366 251 (ce_at ce_366 9 rfl) (sw_in g2 (by omega) (by rw [h18]; rfl)) rfl ?_
    refine e_mv 252 em_366 (ce_at ce_366 98 rfl) rfl rfl ?_
    refine e_mv 253 em_366 (ce_at ce_366 99 rfl) rfl rfl ?_
    refine e_ivv 256 em_366 (ce_at ce_366 100 rfl) (by omega) (iv_v1 (by decide) tq_121 rfl) em_368 (Nat.le_of_ble_eq_true rfl) rfl (tm_comSign w (d - 1) (by omega) _ _) (fun r19 s19 => ?_)
    exact e_retv em_366 (ce_at ce_366 101 rfl)
  refine e_case 7 (fun h20 => ?_) (fun h20 => ?_)
  · refine e_sw em_366 257 (ce_at ce_366 9 rfl) (sw_in g2 (by omega) (by rw [h20]; rfl)) rfl ?_
    refine e_mv 258 em_366 (ce_at ce_366 102 rfl) rfl rfl ?_
    refine e_op 259 em_366 (ce_at ce_366 103 rfl) rfl rfl ?_
    refine e_op 260 em_366 (ce_at ce_366 104 rfl) rfl rfl ?_
    refine e_op 261 em_366 (ce_at ce_366 105 rfl) rfl rfl ?_
    refine e_ivv 264 em_366 (ce_at ce_366 106 rfl) (by omega) (iv_v3 (by decide) tq_121 rfl) em_365 (Nat.le_of_ble_eq_true rfl) rfl (tm_com w (d - 1) (by omega) _ _ _ _) (fun r21 s21 => ?_)
    exact e_retv em_366 (ce_at ce_366 107 rfl)
  refine e_case 8 (fun h22 => ?_) (fun h22 => ?_)
  · refine e_sw em_366 265 (ce_at ce_366 9 rfl) (sw_in g2 (by omega) (by rw [h22]; rfl)) rfl ?_
    refine e_mv 266 em_366 (ce_at ce_366 108 rfl) rfl rfl ?_
    refine e_bip 268 em_366 (ce_at ce_366 109 rfl) (by decide) rfl ?_
    refine e_op 269 em_366 (ce_at ce_366 110 rfl) rfl rfl ?_
    refine e_op 270 em_366 (ce_at ce_366 111 rfl) rfl rfl ?_
    refine e_ivv 273 em_366 (ce_at ce_366 112 rfl) (by omega) (iv_v3 (by decide) tq_121 rfl) em_365 (Nat.le_of_ble_eq_true rfl) rfl (tm_com w (d - 1) (by omega) _ _ _ _) (fun r23 s23 => ?_)
    exact e_retv em_366 (ce_at ce_366 113 rfl)
  refine e_case 9 (fun h24 => ?_) (fun h24 => ?_)
  · refine e_sw em_366 274 (ce_at ce_366 9 rfl) (sw_in g2 (by omega) (by rw [h24]; rfl)) rfl ?_
    refine e_mv 275 em_366 (ce_at ce_366 114 rfl) rfl rfl ?_
    refine e_getr 278 em_366 (ce_at ce_366 115 rfl) tq_121 rfl rfl ?_
    refine e_mv 279 em_366 (ce_at ce_366 116 rfl) rfl rfl ?_
    refine e_gd fun g25 => ?_
    refine e_ild 280 em_366 (ce_at ce_366 117 rfl) tq_152 (by decide) g25 rfl ?_
    refine e_op 281 em_366 (ce_at ce_366 118 rfl) rfl rfl ?_
    refine e_gd fun g26 => ?_
    refine e_cmne 295 284 em_366 rfl rfl (ce_at ce_366 119 rfl) g26 (by decide) (fun h27 => ?_) (fun h27 => ?_)
    · refine e_pk [0, 2] rfl rfl ?_
      exact tm_comItem_295 w d hd _ _
    · refine e_mv 285 em_366 (ce_at ce_366 120 rfl) rfl rfl ?_
      refine e_op 286 em_366 (ce_at ce_366 121 rfl) rfl rfl ?_
      refine e_mv 287 em_366 (ce_at ce_366 122 rfl) rfl rfl ?_
      refine e_getr 290 em_366 (ce_at ce_366 123 rfl) tq_121 rfl rfl ?_
      refine e_mv 291 em_366 (ce_at ce_366 124 rfl) rfl rfl ?_
      refine e_ild 292 em_366 (ce_at ce_366 125 rfl) tq_153 (by decide) g25 rfl ?_
      refine e_ivv 295 em_366 (ce_at ce_366 126 rfl) (by omega) (iv_v2 (by decide) tq_121 rfl) em_367 (Nat.le_of_ble_eq_true rfl) rfl (tm_comVariable w (d - 1) (by omega) _ _ _) (fun r28 s28 => ?_)
      refine e_pk [0, 2] rfl rfl ?_
      exact tm_comItem_295 w d hd _ _
  refine e_case 10 (fun h29 => ?_) (fun h29 => ?_)
  · refine e_sw em_366 314 (ce_at ce_366 9 rfl) (sw_in g2 (by omega) (by rw [h29]; rfl)) rfl ?_
    refine e_mv 315 em_366 (ce_at ce_366 139 rfl) rfl rfl ?_
    refine e_bip 317 em_366 (ce_at ce_366 140 rfl) (by decide) rfl ?_
    refine e_mv 318 em_366 (ce_at ce_366 141 rfl) rfl rfl ?_
    refine e_mv 319 em_366 (ce_at ce_366 142 rfl) rfl rfl ?_
    refine e_getr 322 em_366 (ce_at ce_366 143 rfl) tq_121 rfl rfl ?_
    refine e_mv 323 em_366 (ce_at ce_366 144 rfl) rfl rfl ?_
    refine e_gd fun g30 => ?_
    refine e_ild 324 em_366 (ce_at ce_366 145 rfl) tq_154 (by decide) g30 rfl ?_
    refine e_mv 325 em_366 (ce_at ce_366 146 rfl) rfl rfl ?_
    refine e_getr 328 em_366 (ce_at ce_366 147 rfl) tq_121 rfl rfl ?_
    refine e_mv 329 em_366 (ce_at ce_366 148 rfl) rfl rfl ?_
    refine e_ild 330 em_366 (ce_at ce_366 149 rfl) tq_155 (by decide) g30 rfl ?_
    refine e_ivi 333 em_366 (ce_at ce_366 150 rfl) (by omega) (iv_v2 (by decide) tq_121 rfl) em_364 (Nat.le_of_ble_eq_true rfl) rfl (tm_numberOf w (d - 1) (by omega) _ _ _) (fun r31 s31 => ?_)
    refine e_mv 334 em_366 (ce_at ce_366 151 rfl) rfl rfl ?_
    refine e_getr 337 em_366 (ce_at ce_366 152 rfl) tq_121 rfl rfl ?_
    refine e_mv 338 em_366 (ce_at ce_366 153 rfl) rfl rfl ?_
    refine e_ild 339 em_366 (ce_at ce_366 154 rfl) tq_151 (by decide) g30 rfl ?_
    refine e_mv 340 em_366 (ce_at ce_366 155 rfl) rfl rfl ?_
    refine e_getr 343 em_366 (ce_at ce_366 156 rfl) tq_121 rfl rfl ?_
    refine e_mv 344 em_366 (ce_at ce_366 157 rfl) rfl rfl ?_
    refine e_ild 345 em_366 (ce_at ce_366 158 rfl) tq_152 (by decide) g30 rfl ?_
    refine e_gd fun g32 => ?_
    refine e_ifle 352 348 em_366 rfl rfl (ce_at ce_366 159 rfl) g32 (fun h33 => ?_) (fun h33 => ?_)
    · refine e_op 353 em_366 (ce_at ce_366 162 rfl) rfl rfl ?_
      refine e_pk [] rfl rfl ?_
      exact tm_comItem_353 w d hd _ _ _ _ _
    · refine e_op 349 em_366 (ce_at ce_366 160 rfl) rfl rfl ?_
      refine e_goto em_366 353 (ce_at ce_366 161 rfl) rfl ?_
      refine e_pk [] rfl rfl ?_
      exact tm_comItem_353 w d hd _ _ _ _ _
  refine e_case 11 (fun h34 => ?_) (fun h34 => ?_)
  · refine e_sw em_366 467 (ce_at ce_366 9 rfl) (sw_in g2 (by omega) (by rw [h34]; rfl)) rfl ?_
    exact e_retv em_366 (ce_at ce_366 238 rfl)
  refine e_case 12 (fun h35 => ?_) (fun h35 => ?_)
  · refine e_sw em_366 467 (ce_at ce_366 9 rfl) (sw_in g2 (by omega) (by rw [h35]; rfl)) rfl ?_
    exact e_retv em_366 (ce_at ce_366 238 rfl)
  refine e_case 13 (fun h36 => ?_) (fun h36 => ?_)
  · refine e_sw em_366 358 (ce_at ce_366 9 rfl) (sw_in g2 (by omega) (by rw [h36]; rfl)) rfl ?_
    refine e_mv 359 em_366 (ce_at ce_366 166 rfl) rfl rfl ?_
    refine e_op 360 em_366 (ce_at ce_366 167 rfl) rfl rfl ?_
    refine e_mv 361 em_366 (ce_at ce_366 168 rfl) rfl rfl ?_
    refine e_ivv 364 em_366 (ce_at ce_366 169 rfl) (by omega) (iv_v2 (by decide) tq_121 rfl) em_367 (Nat.le_of_ble_eq_true rfl) rfl (tm_comVariable w (d - 1) (by omega) _ _ _) (fun r37 s37 => ?_)
    exact e_retv em_366 (ce_at ce_366 170 rfl)
  refine e_case 14 (fun h38 => ?_) (fun h38 => ?_)
  · refine e_sw em_366 365 (ce_at ce_366 9 rfl) (sw_in g2 (by omega) (by rw [h38]; rfl)) rfl ?_
    refine e_mv 366 em_366 (ce_at ce_366 171 rfl) rfl rfl ?_
    refine e_op 367 em_366 (ce_at ce_366 172 rfl) rfl rfl ?_
    refine e_bip 369 em_366 (ce_at ce_366 173 rfl) (by decide) rfl ?_
    refine e_op 370 em_366 (ce_at ce_366 174 rfl) rfl rfl ?_
    refine e_ivv 373 em_366 (ce_at ce_366 175 rfl) (by omega) (iv_v3 (by decide) tq_121 rfl) em_365 (Nat.le_of_ble_eq_true rfl) rfl (tm_com w (d - 1) (by omega) _ _ _ _) (fun r39 s39 => ?_)
    refine e_mv 374 em_366 (ce_at ce_366 176 rfl) rfl rfl ?_
    refine e_op 375 em_366 (ce_at ce_366 177 rfl) rfl rfl ?_
    refine e_bip 377 em_366 (ce_at ce_366 178 rfl) (by decide) rfl ?_
    refine e_op 378 em_366 (ce_at ce_366 179 rfl) rfl rfl ?_
    refine e_ivv 381 em_366 (ce_at ce_366 180 rfl) (by omega) (iv_v3 (by decide) tq_121 rfl) em_365 (Nat.le_of_ble_eq_true rfl) rfl (tm_com w (d - 1) (by omega) _ _ _ _) (fun r40 s40 => ?_)
    refine e_mv 382 em_366 (ce_at ce_366 181 rfl) rfl rfl ?_
    refine e_op 383 em_366 (ce_at ce_366 182 rfl) rfl rfl ?_
    refine e_bip 385 em_366 (ce_at ce_366 183 rfl) (by decide) rfl ?_
    refine e_op 386 em_366 (ce_at ce_366 184 rfl) rfl rfl ?_
    refine e_ivv 389 em_366 (ce_at ce_366 185 rfl) (by omega) (iv_v3 (by decide) tq_121 rfl) em_365 (Nat.le_of_ble_eq_true rfl) rfl (tm_com w (d - 1) (by omega) _ _ _ _) (fun r41 s41 => ?_)
    refine e_mv 390 em_366 (ce_at ce_366 186 rfl) rfl rfl ?_
    refine e_op 391 em_366 (ce_at ce_366 187 rfl) rfl rfl ?_
    refine e_op 392 em_366 (ce_at ce_366 188 rfl) rfl rfl ?_
    refine e_op 393 em_366 (ce_at ce_366 189 rfl) rfl rfl ?_
    refine e_ivv 396 em_366 (ce_at ce_366 190 rfl) (by omega) (iv_v3 (by decide) tq_121 rfl) em_365 (Nat.le_of_ble_eq_true rfl) rfl (tm_com w (d - 1) (by omega) _ _ _ _) (fun r42 s42 => ?_)
    exact e_retv em_366 (ce_at ce_366 191 rfl)
  refine e_case 15 (fun h43 => ?_) (fun h43 => ?_)
  · refine e_sw em_366 397 (ce_at ce_366 9 rfl) (sw_in g2 (by omega) (by rw [h43]; rfl)) rfl ?_
    refine e_mv 398 em_366 (ce_at ce_366 192 rfl) rfl rfl ?_
    refine e_op 399 em_366 (ce_at ce_366 193 rfl) rfl rfl ?_
    refine e_op 400 em_366 (ce_at ce_366 194 rfl) rfl rfl ?_
    refine e_op 401 em_366 (ce_at ce_366 195 rfl) rfl rfl ?_
    refine e_ivv 404 em_366 (ce_at ce_366 196 rfl) (by omega) (iv_v3 (by decide) tq_121 rfl) em_365 (Nat.le_of_ble_eq_true rfl) rfl (tm_com w (d - 1) (by omega) _ _ _ _) (fun r44 s44 => ?_)
    refine e_mv 405 em_366 (ce_at ce_366 197 rfl) rfl rfl ?_
    refine e_bip 407 em_366 (ce_at ce_366 198 rfl) (by decide) rfl ?_
    refine e_op 408 em_366 (ce_at ce_366 199 rfl) rfl rfl ?_
    refine e_op 409 em_366 (ce_at ce_366 200 rfl) rfl rfl ?_
    refine e_ivv 412 em_366 (ce_at ce_366 201 rfl) (by omega) (iv_v3 (by decide) tq_121 rfl) em_365 (Nat.le_of_ble_eq_true rfl) rfl (tm_com w (d - 1) (by omega) _ _ _ _) (fun r45 s45 => ?_)
    refine e_mv 413 em_366 (ce_at ce_366 202 rfl) rfl rfl ?_
    refine e_bip 415 em_366 (ce_at ce_366 203 rfl) (by decide) rfl ?_
    refine e_mv 416 em_366 (ce_at ce_366 204 rfl) rfl rfl ?_
    refine e_getr 419 em_366 (ce_at ce_366 205 rfl) tq_121 rfl rfl ?_
    refine e_mv 420 em_366 (ce_at ce_366 206 rfl) rfl rfl ?_
    refine e_ild 421 em_366 (ce_at ce_366 207 rfl) tq_146 (by decide) g1 rfl ?_
    refine e_op 422 em_366 (ce_at ce_366 208 rfl) rfl rfl ?_
    refine e_ivv 425 em_366 (ce_at ce_366 209 rfl) (by omega) (iv_v3 (by decide) tq_121 rfl) em_365 (Nat.le_of_ble_eq_true rfl) rfl (tm_com w (d - 1) (by omega) _ _ _ _) (fun r46 s46 => ?_)
    exact e_retv em_366 (ce_at ce_366 210 rfl)
  refine e_case 16 (fun h47 => ?_) (fun h47 => ?_)
  · refine e_sw em_366 426 (ce_at ce_366 9 rfl) (sw_in g2 (by omega) (by rw [h47]; rfl)) rfl ?_
    refine e_mv 427 em_366 (ce_at ce_366 211 rfl) rfl rfl ?_
    refine e_bip 429 em_366 (ce_at ce_366 212 rfl) (by decide) rfl ?_
    refine e_mv 430 em_366 (ce_at ce_366 213 rfl) rfl rfl ?_
    refine e_getr 433 em_366 (ce_at ce_366 214 rfl) tq_121 rfl rfl ?_
    refine e_mv 434 em_366 (ce_at ce_366 215 rfl) rfl rfl ?_
    refine e_ild 435 em_366 (ce_at ce_366 216 rfl) tq_146 (by decide) g1 rfl ?_
    refine e_op 436 em_366 (ce_at ce_366 217 rfl) rfl rfl ?_
    refine e_ivv 439 em_366 (ce_at ce_366 218 rfl) (by omega) (iv_v3 (by decide) tq_121 rfl) em_365 (Nat.le_of_ble_eq_true rfl) rfl (tm_com w (d - 1) (by omega) _ _ _ _) (fun r48 s48 => ?_)
    exact e_retv em_366 (ce_at ce_366 219 rfl)
  refine e_case 17 (fun h49 => ?_) (fun h49 => ?_)
  · refine e_sw em_366 467 (ce_at ce_366 9 rfl) (sw_in g2 (by omega) (by rw [h49]; rfl)) rfl ?_
    exact e_retv em_366 (ce_at ce_366 238 rfl)
  refine e_case 18 (fun h50 => ?_) (fun h50 => ?_)
  · refine e_sw em_366 440 (ce_at ce_366 9 rfl) (sw_in g2 (by omega) (by rw [h50]; rfl)) rfl ?_
    refine e_mv 441 em_366 (ce_at ce_366 220 rfl) rfl rfl ?_
    refine e_bip 443 em_366 (ce_at ce_366 221 rfl) (by decide) rfl ?_
    refine e_op 444 em_366 (ce_at ce_366 222 rfl) rfl rfl ?_
    refine e_op 445 em_366 (ce_at ce_366 223 rfl) rfl rfl ?_
    refine e_ivv 448 em_366 (ce_at ce_366 224 rfl) (by omega) (iv_v3 (by decide) tq_121 rfl) em_365 (Nat.le_of_ble_eq_true rfl) rfl (tm_com w (d - 1) (by omega) _ _ _ _) (fun r51 s51 => ?_)
    exact e_retv em_366 (ce_at ce_366 225 rfl)
  refine e_case 19 (fun h52 => ?_) (fun h52 => ?_)
  · refine e_sw em_366 449 (ce_at ce_366 9 rfl) (sw_in g2 (by omega) (by rw [h52]; rfl)) rfl ?_
    refine e_mv 450 em_366 (ce_at ce_366 226 rfl) rfl rfl ?_
    refine e_op 451 em_366 (ce_at ce_366 227 rfl) rfl rfl ?_
    refine e_bip 453 em_366 (ce_at ce_366 228 rfl) (by decide) rfl ?_
    refine e_op 454 em_366 (ce_at ce_366 229 rfl) rfl rfl ?_
    refine e_ivv 457 em_366 (ce_at ce_366 230 rfl) (by omega) (iv_v3 (by decide) tq_121 rfl) em_365 (Nat.le_of_ble_eq_true rfl) rfl (tm_com w (d - 1) (by omega) _ _ _ _) (fun r53 s53 => ?_)
    exact e_retv em_366 (ce_at ce_366 231 rfl)
  refine e_case 20 (fun h54 => ?_) (fun h54 => ?_)
  · refine e_sw em_366 458 (ce_at ce_366 9 rfl) (sw_in g2 (by omega) (by rw [h54]; rfl)) rfl ?_
    refine e_mv 459 em_366 (ce_at ce_366 232 rfl) rfl rfl ?_
    refine e_bip 461 em_366 (ce_at ce_366 233 rfl) (by decide) rfl ?_
    refine e_mv 462 em_366 (ce_at ce_366 234 rfl) rfl rfl ?_
    refine e_op 463 em_366 (ce_at ce_366 235 rfl) rfl rfl ?_
    refine e_ivv 466 em_366 (ce_at ce_366 236 rfl) (by omega) (iv_v3 (by decide) tq_121 rfl) em_365 (Nat.le_of_ble_eq_true rfl) rfl (tm_com w (d - 1) (by omega) _ _ _ _) (fun r55 s55 => ?_)
    exact e_retv em_366 (ce_at ce_366 237 rfl)
  refine e_sw em_366 467 (ce_at ce_366 9 rfl) (sw_out g2 (by omega)) rfl ?_
  exact e_retv em_366 (ce_at ce_366 238 rfl)
theorem fm_comItem (v1 : Int) (s : iS) : Fm Prod.snd L_m_comItem G_m_comItem s (m_comItem v1 s) := fm_gd (fm_gd (fm_if (fm_gd (fm_if (fm_comItem_124 _ _ _ _ _) (fm_comItem_124 _ _ _ _ _))) (fm_if (fm_bd (fm_sub (fm_com _ _ _ _) (mem_sub_L rfl) (mem_sub_F rfl)) (fun r7 s7 => fm_bd (fm_sub (fm_com _ _ _ _) (mem_sub_L rfl) (mem_sub_F rfl)) (fun r8 s8 => fm_comItem_164 _ _ _))) (fm_if (fm_some md_refl) (fm_if (fm_bd (fm_sub (fm_com _ _ _ _) (mem_sub_L rfl) (mem_sub_F rfl)) (fun r11 s11 => fm_some md_refl)) (fm_if (fm_bd (fm_sub (fm_comVariable _ _ _) (mem_sub_L rfl) (mem_sub_F rfl)) (fun r13 s13 => fm_some md_refl)) (fm_if (fm_bd (fm_sub (fm_com _ _ _ _) (mem_sub_L rfl) (mem_sub_F rfl)) (fun r15 s15 => fm_bd (fm_sub (fm_com _ _ _ _) (mem_sub_L rfl) (mem_sub_F rfl)) (fun r16 s16 => fm_bd (fm_sub (fm_com _ _ _ _) (mem_sub_L rfl) (mem_sub_F rfl)) (fun r17 s17 => fm_some md_refl)))) (fm_if (fm_bd (fm_sub (fm_comSign _ _) (mem_sub_L rfl) (mem_sub_F rfl)) (fun r19 s19 => fm_some md_refl)) (fm_if (fm_bd (fm_sub (fm_com _ _ _ _) (mem_sub_L rfl) (mem_sub_F rfl)) (fun r21 s21 => fm_some md_refl)) (fm_if (fm_bd (fm_sub (fm_com _ _ _ _) (mem_sub_L rfl) (mem_sub_F rfl)) (fun r23 s23 => fm_some md_refl)) (fm_if (fm_gd (fm_gd (fm_if (fm_bd (fm_sub (fm_comVariable _ _ _) (mem_sub_L rfl) (mem_sub_F rfl)) (fun r28 s28 => fm_comItem_295 _ _)) (fm_comItem_295 _ _)))) (fm_if (fm_gd (fm_bd (fm_sub (fm_numberOf _ _ _) (mem_sub_L rfl) (mem_sub_F rfl)) (fun r31 s31 => fm_gd (fm_if (fm_comItem_353 _ _ _ _ _) (fm_comItem_353 _ _ _ _ _))))) (fm_if (fm_some md_refl) (fm_if (fm_some md_refl) (fm_if (fm_bd (fm_sub (fm_comVariable _ _ _) (mem_sub_L rfl) (mem_sub_F rfl)) (fun r37 s37 => fm_some md_refl)) (fm_if (fm_bd (fm_sub (fm_com _ _ _ _) (mem_sub_L rfl) (mem_sub_F rfl)) (fun r39 s39 => fm_bd (fm_sub (fm_com _ _ _ _) (mem_sub_L rfl) (mem_sub_F rfl)) (fun r40 s40 => fm_bd (fm_sub (fm_com _ _ _ _) (mem_sub_L rfl) (mem_sub_F rfl)) (fun r41 s41 => fm_bd (fm_sub (fm_com _ _ _ _) (mem_sub_L rfl) (mem_sub_F rfl)) (fun r42 s42 => fm_some md_refl))))) (fm_if (fm_bd (fm_sub (fm_com _ _ _ _) (mem_sub_L rfl) (mem_sub_F rfl)) (fun r44 s44 => fm_bd (fm_sub (fm_com _ _ _ _) (mem_sub_L rfl) (mem_sub_F rfl)) (fun r45 s45 => fm_bd (fm_sub (fm_com _ _ _ _) (mem_sub_L rfl) (mem_sub_F rfl)) (fun r46 s46 => fm_some md_refl)))) (fm_if (fm_bd (fm_sub (fm_com _ _ _ _) (mem_sub_L rfl) (mem_sub_F rfl)) (fun r48 s48 => fm_some md_refl)) (fm_if (fm_some md_refl) (fm_if (fm_bd (fm_sub (fm_com _ _ _ _) (mem_sub_L rfl) (mem_sub_F rfl)) (fun r51 s51 => fm_some md_refl)) (fm_if (fm_bd (fm_sub (fm_com _ _ _ _) (mem_sub_L rfl) (mem_sub_F rfl)) (fun r53 s53 => fm_some md_refl)) (fm_if (fm_bd (fm_sub (fm_com _ _ _ _) (mem_sub_L rfl) (mem_sub_F rfl)) (fun r55 s55 => fm_some md_refl)) (fm_some md_refl)))))))))))))))))))))))
/-! m_command -/
def L_m_command : List Nat := [172, 173, 174]
def G_m_command : List (Nat × Nat) := [(121, 76)]
def m_command_157C (w : ev_W) (d : Nat) (v2 : Int) (v3 : Int) : (Int × iS) ⊕ (Int × iS) → am_E → Prop := fun q r => q.elim (fun l => ev w d 363 157 ((fun l => [(0, .ref (tb_nK + 121)), (1, iv (l.1)), (2, iv v2), (3, iv v3)]) l) [] (hT ((fun l => l.2) l)) r) (fun e => (fun e r => ev w d 363 174 [(0, .ref (tb_nK + 121)), (1, iv (e.1)), (2, iv v2)] [] (hT (e.2)) r) e r)
noncomputable def m_command_157b (v1 : Int) (v2 : Int) (v3 : Int) (s : iS) : Option ((Int × iS) ⊕ (Int × iS)) := gd (rg v1) (gd (rg v3) (if v3 ≤ v1 then some (.inr (v1, s)) else bd (m_comItem v1 s) (fun _ s4 => some (.inl ((v1 + 1), s4)))))
theorem tm_command_157b (w : ev_W) (d : Nat) (hd : 3 ≤ d) (v1 : Int) (v2 : Int) (v3 : Int) (s : iS) : Ew hT w d 363 157 [(0, .ref (tb_nK + 121)), (1, iv v1), (2, iv v2), (3, iv v3)] [] s (m_command_157C w d v2 v3) (m_command_157b v1 v2 v3 s) := by
  unfold m_command_157b
  refine e_mv 158 em_363 (ce_at ce_363 97 rfl) rfl rfl ?_
  refine e_mv 159 em_363 (ce_at ce_363 98 rfl) rfl rfl ?_
  refine e_gd fun g1 => ?_
  refine e_gd fun g2 => ?_
  refine e_cmge 174 162 em_363 rfl rfl (ce_at ce_363 99 rfl) g1 g2 (fun h3 => ?_) (fun h3 => ?_)
  · refine e_pk [0, 1, 2] rfl rfl ?_
    exact e_out (fun r h => h)
  · refine e_mv 163 em_363 (ce_at ce_363 100 rfl) rfl rfl ?_
    refine e_mv 164 em_363 (ce_at ce_363 101 rfl) rfl rfl ?_
    refine e_ivv 167 em_363 (ce_at ce_363 102 rfl) (by omega) (iv_v1 (by decide) tq_121 rfl) em_366 (Nat.le_of_ble_eq_true rfl) rfl (tm_comItem w (d - 1) (by omega) _ _) (fun r4 s4 => ?_)
    refine e_mv 168 em_363 (ce_at ce_363 103 rfl) rfl rfl ?_
    refine e_op 169 em_363 (ce_at ce_363 104 rfl) rfl rfl ?_
    refine e_iadd 170 em_363 rfl (ce_at ce_363 105 rfl) ?_
    refine e_mv 171 em_363 (ce_at ce_363 106 rfl) rfl rfl ?_
    refine e_goto em_363 157 (ce_at ce_363 107 rfl) rfl ?_
    refine e_pk [0, 1, 2, 3] rfl rfl ?_
    exact e_out (fun r h => h)
theorem fm_command_157b (v1 : Int) (v2 : Int) (v3 : Int) (s : iS) : Fm (fun r : (Int × iS) ⊕ (Int × iS) => r.elim (fun l => l.2) (fun e => e.2)) L_m_command G_m_command s (m_command_157b v1 v2 v3 s) := fm_gd (fm_gd (fm_if (fm_some md_refl) (fm_bd (fm_sub (fm_comItem _ _) (mem_sub_L rfl) (mem_sub_F rfl)) (fun r4 s4 => fm_some md_refl))))
def m_command_9C (w : ev_W) (d : Nat) : (Int × Int × iS) ⊕ (iS) → am_E → Prop := fun q r => q.elim (fun l => ev w d 363 9 ((fun l => [(0, .ref (tb_nK + 121)), (1, iv (l.1)), (2, iv (l.2.1))]) l) [] (hT ((fun l => l.2.2) l)) r) (fun e => (fun e r => ev w d 363 180 [] [] (hT (e)) r) e r)
noncomputable def m_command_157 (v1 : Int) (v2 : Int) (v3 : Int) (s : iS) : Option ((Int × Int × iS) ⊕ (iS)) := (lp (L := Int × iS) (E := Int × iS) (fun l => m_command_157b (l.1) v2 v3 (l.2)) (v1, s)).bind (fun e => some (.inl (e.1, (v2 + 1), e.2)))
theorem tm_command_157 (w : ev_W) (d : Nat) (hd : 3 ≤ d) (v1 : Int) (v2 : Int) (v3 : Int) (s : iS) : Ew hT w d 363 157 [(0, .ref (tb_nK + 121)), (1, iv v1), (2, iv v2), (3, iv v3)] [] s (m_command_9C w d) (m_command_157 v1 v2 v3 s) := by
  unfold m_command_157
  refine e_lp (L := Int × iS) (E := Int × iS) (LO := fun l => [(0, .ref (tb_nK + 121)), (1, iv (l.1)), (2, iv v2), (3, iv v3)]) (LS := fun l => l.2) (CE := fun e r => ev w d 363 174 [(0, .ref (tb_nK + 121)), (1, iv (e.1)), (2, iv v2)] [] (hT (e.2)) r) (fun l => tm_command_157b w d hd _ _ _ _) ?_ (v1, s)
  intro e
  show Ew hT w d 363 174 [(0, .ref (tb_nK + 121)), (1, iv (e.1)), (2, iv v2)] [] e.2 (m_command_9C w d) _
  refine e_iinc 177 em_363 (ce_at ce_363 108 rfl) rfl (by decide) rfl ?_
  refine e_goto em_363 9 (ce_at ce_363 109 rfl) rfl ?_
  refine e_pk [0, 1, 2] rfl rfl ?_
  exact e_out (fun r h => h)
theorem fm_command_157 (v1 : Int) (v2 : Int) (v3 : Int) (s : iS) : Fm (fun r : (Int × Int × iS) ⊕ (iS) => r.elim (fun l => l.2.2) (fun e => e)) L_m_command G_m_command s (m_command_157 v1 v2 v3 s) := by
  unfold m_command_157
  refine fm_lp (A := Int × iS) (E := Int × iS) (LS := fun l => l.2) (LE := fun e => e.2) ?_ ?_ (v1, s)
  · exact fun l => fm_command_157b _ _ _ _
  · exact (fun e => fm_some md_refl)
noncomputable def m_command_156 (v1 : Int) (v2 : Int) (t0 : Int) (s : iS) : Option ((Int × Int × iS) ⊕ (iS)) := m_command_157 v1 v2 t0 s
theorem tm_command_156 (w : ev_W) (d : Nat) (hd : 3 ≤ d) (v1 : Int) (v2 : Int) (t0 : Int) (s : iS) : Ew hT w d 363 156 [(0, .ref (tb_nK + 121)), (1, iv v1), (2, iv v2)] [iv t0] s (m_command_9C w d) (m_command_156 v1 v2 t0 s) := by
  unfold m_command_156
  refine e_mv 157 em_363 (ce_at ce_363 96 rfl) rfl rfl ?_
  refine e_pk [0, 1, 2, 3] rfl rfl ?_
  exact tm_command_157 w d hd _ _ _ _
theorem fm_command_156 (v1 : Int) (v2 : Int) (t0 : Int) (s : iS) : Fm (fun r : (Int × Int × iS) ⊕ (iS) => r.elim (fun l => l.2.2) (fun e => e)) L_m_command G_m_command s (m_command_156 v1 v2 t0 s) := fm_command_157 _ _ _ _
noncomputable def m_command_131 (v1 : Int) (v2 : Int) (s : iS) : Option ((Int × Int × iS) ⊕ (iS)) := gd (rg (v2 + 1)) (gd (rg (s 121 17)) (if (s 121 17) ≤ (v2 + 1) then m_command_156 v1 v2 (s 121 33) s else gd (0 ≤ (v2 + 1) ∧ (v2 + 1) < 61) (m_command_156 v1 v2 (s 136 (v2 + 1).toNat) s)))
theorem tm_command_131 (w : ev_W) (d : Nat) (hd : 3 ≤ d) (v1 : Int) (v2 : Int) (s : iS) : Ew hT w d 363 131 [(0, .ref (tb_nK + 121)), (1, iv v1), (2, iv v2)] [] s (m_command_9C w d) (m_command_131 v1 v2 s) := by
  unfold m_command_131
  refine e_mv 132 em_363 (ce_at ce_363 81 rfl) rfl rfl ?_
  refine e_op 133 em_363 (ce_at ce_363 82 rfl) rfl rfl ?_
  refine e_iadd 134 em_363 rfl (ce_at ce_363 83 rfl) ?_
  refine e_mv 135 em_363 (ce_at ce_363 84 rfl) rfl rfl ?_
  refine e_get 138 em_363 (ce_at ce_363 85 rfl) tq_121 rfl rfl ?_
  refine e_gd fun g1 => ?_
  refine e_gd fun g2 => ?_
  refine e_cmge 152 141 em_363 rfl rfl (ce_at ce_363 86 rfl) g1 g2 (fun h3 => ?_) (fun h3 => ?_)
  · refine e_mv 153 em_363 (ce_at ce_363 94 rfl) rfl rfl ?_
    refine e_get 156 em_363 (ce_at ce_363 95 rfl) tq_121 rfl rfl ?_
    refine e_pk [0, 1, 2] rfl rfl ?_
    exact tm_command_156 w d hd _ _ _ _
  · refine e_mv 142 em_363 (ce_at ce_363 87 rfl) rfl rfl ?_
    refine e_getr 145 em_363 (ce_at ce_363 88 rfl) tq_121 rfl rfl ?_
    refine e_mv 146 em_363 (ce_at ce_363 89 rfl) rfl rfl ?_
    refine e_op 147 em_363 (ce_at ce_363 90 rfl) rfl rfl ?_
    refine e_iadd 148 em_363 rfl (ce_at ce_363 91 rfl) ?_
    refine e_gd fun g4 => ?_
    refine e_ild 149 em_363 (ce_at ce_363 92 rfl) tq_136 (by decide) g4 rfl ?_
    refine e_goto em_363 156 (ce_at ce_363 93 rfl) rfl ?_
    refine e_pk [0, 1, 2] rfl rfl ?_
    exact tm_command_156 w d hd _ _ _ _
theorem fm_command_131 (v1 : Int) (v2 : Int) (s : iS) : Fm (fun r : (Int × Int × iS) ⊕ (iS) => r.elim (fun l => l.2.2) (fun e => e)) L_m_command G_m_command s (m_command_131 v1 v2 s) := fm_gd (fm_gd (fm_if (fm_command_156 _ _ _ _) (fm_gd (fm_command_156 _ _ _ _))))
noncomputable def m_command_111 (v1 : Int) (v2 : Int) (t0 : Int) (t1 : Int) (t2 : Int) (s : iS) : Option ((Int × Int × iS) ⊕ (iS)) := bd (m_com t2 t1 t0 s) (fun _ s1 => bd (m_com 15 102 1 s1) (fun _ s2 => bd (m_com 1 6 0 s2) (fun _ s3 => m_command_131 v1 v2 s3)))
theorem tm_command_111 (w : ev_W) (d : Nat) (hd : 3 ≤ d) (v1 : Int) (v2 : Int) (t0 : Int) (t1 : Int) (t2 : Int) (s : iS) : Ew hT w d 363 111 [(0, .ref (tb_nK + 121)), (1, iv v1), (2, iv v2)] [iv t0, iv t1, iv t2, .ref (tb_nK + 121)] s (m_command_9C w d) (m_command_111 v1 v2 t0 t1 t2 s) := by
  unfold m_command_111
  refine e_ivv 114 em_363 (ce_at ce_363 70 rfl) (by omega) (iv_v3 (by decide) tq_121 rfl) em_365 (Nat.le_of_ble_eq_true rfl) rfl (tm_com w (d - 1) (by omega) _ _ _ _) (fun r1 s1 => ?_)
  refine e_mv 115 em_363 (ce_at ce_363 71 rfl) rfl rfl ?_
  refine e_bip 117 em_363 (ce_at ce_363 72 rfl) (by decide) rfl ?_
  refine e_bip 119 em_363 (ce_at ce_363 73 rfl) (by decide) rfl ?_
  refine e_op 120 em_363 (ce_at ce_363 74 rfl) rfl rfl ?_
  refine e_ivv 123 em_363 (ce_at ce_363 75 rfl) (by omega) (iv_v3 (by decide) tq_121 rfl) em_365 (Nat.le_of_ble_eq_true rfl) rfl (tm_com w (d - 1) (by omega) _ _ _ _) (fun r2 s2 => ?_)
  refine e_mv 124 em_363 (ce_at ce_363 76 rfl) rfl rfl ?_
  refine e_op 125 em_363 (ce_at ce_363 77 rfl) rfl rfl ?_
  refine e_bip 127 em_363 (ce_at ce_363 78 rfl) (by decide) rfl ?_
  refine e_op 128 em_363 (ce_at ce_363 79 rfl) rfl rfl ?_
  refine e_ivv 131 em_363 (ce_at ce_363 80 rfl) (by omega) (iv_v3 (by decide) tq_121 rfl) em_365 (Nat.le_of_ble_eq_true rfl) rfl (tm_com w (d - 1) (by omega) _ _ _ _) (fun r3 s3 => ?_)
  refine e_pk [0, 1, 2] rfl rfl ?_
  exact tm_command_131 w d hd _ _ _
theorem fm_command_111 (v1 : Int) (v2 : Int) (t0 : Int) (t1 : Int) (t2 : Int) (s : iS) : Fm (fun r : (Int × Int × iS) ⊕ (iS) => r.elim (fun l => l.2.2) (fun e => e)) L_m_command G_m_command s (m_command_111 v1 v2 t0 t1 t2 s) := fm_bd (fm_sub (fm_com _ _ _ _) (mem_sub_L rfl) (mem_sub_F rfl)) (fun r1 s1 => fm_bd (fm_sub (fm_com _ _ _ _) (mem_sub_L rfl) (mem_sub_F rfl)) (fun r2 s2 => fm_bd (fm_sub (fm_com _ _ _ _) (mem_sub_L rfl) (mem_sub_F rfl)) (fun r3 s3 => fm_command_131 _ _ _)))
noncomputable def m_command_68 (v1 : Int) (v2 : Int) (s : iS) : Option ((Int × Int × iS) ⊕ (iS)) := gd (0 ≤ v2 ∧ v2 < 61) (gd (rg (s 131 v2.toNat)) (if (s 131 v2.toNat) = 1 then gd (0 ≤ (s 130 v2.toNat) ∧ (s 130 v2.toNat) < 13) (gd (rg (s 129 (s 130 v2.toNat).toNat)) (if 1 ≤ (s 129 (s 130 v2.toNat).toNat) then m_command_111 v1 v2 (s 129 (s 130 v2.toNat).toNat) 0 0 s else m_command_111 v1 v2 1 0 0 s)) else m_command_131 v1 v2 s))
theorem tm_command_68 (w : ev_W) (d : Nat) (hd : 3 ≤ d) (v1 : Int) (v2 : Int) (s : iS) : Ew hT w d 363 68 [(0, .ref (tb_nK + 121)), (1, iv v1), (2, iv v2)] [] s (m_command_9C w d) (m_command_68 v1 v2 s) := by
  unfold m_command_68
  refine e_mv 69 em_363 (ce_at ce_363 43 rfl) rfl rfl ?_
  refine e_getr 72 em_363 (ce_at ce_363 44 rfl) tq_121 rfl rfl ?_
  refine e_mv 73 em_363 (ce_at ce_363 45 rfl) rfl rfl ?_
  refine e_gd fun g1 => ?_
  refine e_ild 74 em_363 (ce_at ce_363 46 rfl) tq_131 (by decide) g1 rfl ?_
  refine e_op 75 em_363 (ce_at ce_363 47 rfl) rfl rfl ?_
  refine e_gd fun g2 => ?_
  refine e_cmne 131 78 em_363 rfl rfl (ce_at ce_363 48 rfl) g2 (by decide) (fun h3 => ?_) (fun h3 => ?_)
  · refine e_pk [0, 1, 2] rfl rfl ?_
    exact tm_command_131 w d hd _ _ _
  · refine e_mv 79 em_363 (ce_at ce_363 49 rfl) rfl rfl ?_
    refine e_op 80 em_363 (ce_at ce_363 50 rfl) rfl rfl ?_
    refine e_op 81 em_363 (ce_at ce_363 51 rfl) rfl rfl ?_
    refine e_mv 82 em_363 (ce_at ce_363 52 rfl) rfl rfl ?_
    refine e_getr 85 em_363 (ce_at ce_363 53 rfl) tq_121 rfl rfl ?_
    refine e_mv 86 em_363 (ce_at ce_363 54 rfl) rfl rfl ?_
    refine e_getr 89 em_363 (ce_at ce_363 55 rfl) tq_121 rfl rfl ?_
    refine e_mv 90 em_363 (ce_at ce_363 56 rfl) rfl rfl ?_
    refine e_ild 91 em_363 (ce_at ce_363 57 rfl) tq_130 (by decide) g1 rfl ?_
    refine e_gd fun g4 => ?_
    refine e_ild 92 em_363 (ce_at ce_363 58 rfl) tq_129 (by decide) g4 rfl ?_
    refine e_op 93 em_363 (ce_at ce_363 59 rfl) rfl rfl ?_
    refine e_gd fun g5 => ?_
    refine e_cmge 100 96 em_363 rfl rfl (ce_at ce_363 60 rfl) g5 (by decide) (fun h6 => ?_) (fun h6 => ?_)
    · refine e_mv 101 em_363 (ce_at ce_363 63 rfl) rfl rfl ?_
      refine e_getr 104 em_363 (ce_at ce_363 64 rfl) tq_121 rfl rfl ?_
      refine e_mv 105 em_363 (ce_at ce_363 65 rfl) rfl rfl ?_
      refine e_getr 108 em_363 (ce_at ce_363 66 rfl) tq_121 rfl rfl ?_
      refine e_mv 109 em_363 (ce_at ce_363 67 rfl) rfl rfl ?_
      refine e_ild 110 em_363 (ce_at ce_363 68 rfl) tq_130 (by decide) g1 rfl ?_
      refine e_ild 111 em_363 (ce_at ce_363 69 rfl) tq_129 (by decide) g4 rfl ?_
      refine e_pk [0, 1, 2] rfl rfl ?_
      exact tm_command_111 w d hd _ _ _ _ _ _
    · refine e_op 97 em_363 (ce_at ce_363 61 rfl) rfl rfl ?_
      refine e_goto em_363 111 (ce_at ce_363 62 rfl) rfl ?_
      refine e_pk [0, 1, 2] rfl rfl ?_
      exact tm_command_111 w d hd _ _ _ _ _ _
theorem fm_command_68 (v1 : Int) (v2 : Int) (s : iS) : Fm (fun r : (Int × Int × iS) ⊕ (iS) => r.elim (fun l => l.2.2) (fun e => e)) L_m_command G_m_command s (m_command_68 v1 v2 s) := fm_gd (fm_gd (fm_if (fm_gd (fm_gd (fm_if (fm_command_111 _ _ _ _ _ _) (fm_command_111 _ _ _ _ _ _)))) (fm_command_131 _ _ _)))
noncomputable def m_command_9b (v1 : Int) (v2 : Int) (s : iS) : Option ((Int × Int × iS) ⊕ (iS)) := gd (rg v2) (gd (rg (s 121 17)) (if (s 121 17) ≤ v2 then some (.inr s) else gd (0 ≤ v2 ∧ v2 < 61) (bd (m_numberOf (8 + (s 130 v2.toNat)) v2 s) (fun r5 s5 => bd (m_com 14 r5 (s5 135 v2.toNat) s5) (fun _ s6 => gd (rg (s6 131 v2.toNat)) (if (s6 131 v2.toNat) = 3 then bd (m_com 0 1 0 s6) (fun _ s9 => bd (m_com 1 6 0 s9) (fun _ s10 => m_command_68 v1 v2 s10)) else m_command_68 v1 v2 s6))))))
theorem tm_command_9b (w : ev_W) (d : Nat) (hd : 3 ≤ d) (v1 : Int) (v2 : Int) (s : iS) : Ew hT w d 363 9 [(0, .ref (tb_nK + 121)), (1, iv v1), (2, iv v2)] [] s (m_command_9C w d) (m_command_9b v1 v2 s) := by
  unfold m_command_9b
  refine e_mv 10 em_363 (ce_at ce_363 7 rfl) rfl rfl ?_
  refine e_mv 11 em_363 (ce_at ce_363 8 rfl) rfl rfl ?_
  refine e_get 14 em_363 (ce_at ce_363 9 rfl) tq_121 rfl rfl ?_
  refine e_gd fun g1 => ?_
  refine e_gd fun g2 => ?_
  refine e_cmge 180 17 em_363 rfl rfl (ce_at ce_363 10 rfl) g1 g2 (fun h3 => ?_) (fun h3 => ?_)
  · refine e_pk [] rfl rfl ?_
    exact e_out (fun r h => h)
  · refine e_mv 18 em_363 (ce_at ce_363 11 rfl) rfl rfl ?_
    refine e_bip 20 em_363 (ce_at ce_363 12 rfl) (by decide) rfl ?_
    refine e_mv 21 em_363 (ce_at ce_363 13 rfl) rfl rfl ?_
    refine e_bip 23 em_363 (ce_at ce_363 14 rfl) (by decide) rfl ?_
    refine e_mv 24 em_363 (ce_at ce_363 15 rfl) rfl rfl ?_
    refine e_getr 27 em_363 (ce_at ce_363 16 rfl) tq_121 rfl rfl ?_
    refine e_mv 28 em_363 (ce_at ce_363 17 rfl) rfl rfl ?_
    refine e_gd fun g4 => ?_
    refine e_ild 29 em_363 (ce_at ce_363 18 rfl) tq_130 (by decide) g4 rfl ?_
    refine e_iadd 30 em_363 rfl (ce_at ce_363 19 rfl) ?_
    refine e_mv 31 em_363 (ce_at ce_363 20 rfl) rfl rfl ?_
    refine e_ivi 34 em_363 (ce_at ce_363 21 rfl) (by omega) (iv_v2 (by decide) tq_121 rfl) em_364 (Nat.le_of_ble_eq_true rfl) rfl (tm_numberOf w (d - 1) (by omega) _ _ _) (fun r5 s5 => ?_)
    refine e_mv 35 em_363 (ce_at ce_363 22 rfl) rfl rfl ?_
    refine e_getr 38 em_363 (ce_at ce_363 23 rfl) tq_121 rfl rfl ?_
    refine e_mv 39 em_363 (ce_at ce_363 24 rfl) rfl rfl ?_
    refine e_ild 40 em_363 (ce_at ce_363 25 rfl) tq_135 (by decide) g4 rfl ?_
    refine e_ivv 43 em_363 (ce_at ce_363 26 rfl) (by omega) (iv_v3 (by decide) tq_121 rfl) em_365 (Nat.le_of_ble_eq_true rfl) rfl (tm_com w (d - 1) (by omega) _ _ _ _) (fun r6 s6 => ?_)
    refine e_mv 44 em_363 (ce_at ce_363 27 rfl) rfl rfl ?_
    refine e_getr 47 em_363 (ce_at ce_363 28 rfl) tq_121 rfl rfl ?_
    refine e_mv 48 em_363 (ce_at ce_363 29 rfl) rfl rfl ?_
    refine e_ild 49 em_363 (ce_at ce_363 30 rfl) tq_131 (by decide) g4 rfl ?_
    refine e_op 50 em_363 (ce_at ce_363 31 rfl) rfl rfl ?_
    refine e_gd fun g7 => ?_
    refine e_cmne 68 53 em_363 rfl rfl (ce_at ce_363 32 rfl) g7 (by decide) (fun h8 => ?_) (fun h8 => ?_)
    · refine e_pk [0, 1, 2] rfl rfl ?_
      exact tm_command_68 w d hd _ _ _
    · refine e_mv 54 em_363 (ce_at ce_363 33 rfl) rfl rfl ?_
      refine e_op 55 em_363 (ce_at ce_363 34 rfl) rfl rfl ?_
      refine e_op 56 em_363 (ce_at ce_363 35 rfl) rfl rfl ?_
      refine e_op 57 em_363 (ce_at ce_363 36 rfl) rfl rfl ?_
      refine e_ivv 60 em_363 (ce_at ce_363 37 rfl) (by omega) (iv_v3 (by decide) tq_121 rfl) em_365 (Nat.le_of_ble_eq_true rfl) rfl (tm_com w (d - 1) (by omega) _ _ _ _) (fun r9 s9 => ?_)
      refine e_mv 61 em_363 (ce_at ce_363 38 rfl) rfl rfl ?_
      refine e_op 62 em_363 (ce_at ce_363 39 rfl) rfl rfl ?_
      refine e_bip 64 em_363 (ce_at ce_363 40 rfl) (by decide) rfl ?_
      refine e_op 65 em_363 (ce_at ce_363 41 rfl) rfl rfl ?_
      refine e_ivv 68 em_363 (ce_at ce_363 42 rfl) (by omega) (iv_v3 (by decide) tq_121 rfl) em_365 (Nat.le_of_ble_eq_true rfl) rfl (tm_com w (d - 1) (by omega) _ _ _ _) (fun r10 s10 => ?_)
      refine e_pk [0, 1, 2] rfl rfl ?_
      exact tm_command_68 w d hd _ _ _
theorem fm_command_9b (v1 : Int) (v2 : Int) (s : iS) : Fm (fun r : (Int × Int × iS) ⊕ (iS) => r.elim (fun l => l.2.2) (fun e => e)) L_m_command G_m_command s (m_command_9b v1 v2 s) := fm_gd (fm_gd (fm_if (fm_some md_refl) (fm_gd (fm_bd (fm_sub (fm_numberOf _ _ _) (mem_sub_L rfl) (mem_sub_F rfl)) (fun r5 s5 => fm_bd (fm_sub (fm_com _ _ _ _) (mem_sub_L rfl) (mem_sub_F rfl)) (fun r6 s6 => fm_gd (fm_if (fm_bd (fm_sub (fm_com _ _ _ _) (mem_sub_L rfl) (mem_sub_F rfl)) (fun r9 s9 => fm_bd (fm_sub (fm_com _ _ _ _) (mem_sub_L rfl) (mem_sub_F rfl)) (fun r10 s10 => fm_command_68 _ _ _))) (fm_command_68 _ _ _))))))))
noncomputable def m_command_9 (v1 : Int) (v2 : Int) (s : iS) : Option (Int × iS) := (lp (L := Int × Int × iS) (E := iS) (fun l => m_command_9b (l.1) (l.2.1) (l.2.2)) (v1, v2, s)).bind (fun e => some (0, e))
theorem tm_command_9 (w : ev_W) (d : Nat) (hd : 3 ≤ d) (v1 : Int) (v2 : Int) (s : iS) : Ew hT w d 363 9 [(0, .ref (tb_nK + 121)), (1, iv v1), (2, iv v2)] [] s (Cv hT) (m_command_9 v1 v2 s) := by
  unfold m_command_9
  refine e_lp (L := Int × Int × iS) (E := iS) (LO := fun l => [(0, .ref (tb_nK + 121)), (1, iv (l.1)), (2, iv (l.2.1))]) (LS := fun l => l.2.2) (CE := fun e r => ev w d 363 180 [] [] (hT (e)) r) (fun l => tm_command_9b w d hd _ _ _) ?_ (v1, v2, s)
  intro e
  show Ew hT w d 363 180 [] [] e (Cv hT) _
  exact e_retv em_363 (ce_at ce_363 110 rfl)
theorem fm_command_9 (v1 : Int) (v2 : Int) (s : iS) : Fm Prod.snd L_m_command G_m_command s (m_command_9 v1 v2 s) := by
  unfold m_command_9
  refine fm_lp (A := Int × Int × iS) (E := iS) (LS := fun l => l.2.2) (LE := fun e => e) ?_ ?_ (v1, v2, s)
  · exact fun l => fm_command_9b _ _ _
  · exact (fun e => fm_some md_refl)
noncomputable def m_command (s : iS) : Option (Int × iS) := lt' (up s 121 76 0) (fun s1 => m_command_9 0 0 s1)
theorem tm_command (w : ev_W) (d : Nat) (hd : 3 ≤ d) (s : iS) : Ew hT w d 363 0 [(0, .ref (tb_nK + 121))] [] s (Cv hT) (m_command s) := by
  unfold m_command
  refine e_mv 1 em_363 (ce_at ce_363 0 rfl) rfl rfl ?_
  refine e_op 2 em_363 (ce_at ce_363 1 rfl) rfl rfl ?_
  refine e_put 5 em_363 (ce_at ce_363 2 rfl) tq_121 rfl rfl rfl (fun s1 => ?_)
  refine e_op 6 em_363 (ce_at ce_363 3 rfl) rfl rfl ?_
  refine e_mv 7 em_363 (ce_at ce_363 4 rfl) rfl rfl ?_
  refine e_op 8 em_363 (ce_at ce_363 5 rfl) rfl rfl ?_
  refine e_mv 9 em_363 (ce_at ce_363 6 rfl) rfl rfl ?_
  refine e_pk [0, 1, 2] rfl rfl ?_
  exact tm_command_9 w d hd _ _ _
theorem fm_command (s : iS) : Fm Prod.snd L_m_command G_m_command s (m_command s) := fm_lt (md_upF (mem_F rfl)) (fun s1 => fm_command_9 _ _ _)
/-! m_load -/
def L_m_load : List Nat := [123, 124, 125, 126, 127, 128, 129, 130, 131, 132, 133, 134, 135, 136, 137, 138, 139, 140, 141, 142, 143, 144, 145, 146, 147, 148, 149, 150, 151, 152, 153, 154, 155, 156, 157, 158, 159, 160, 161, 162, 163, 169, 170, 171, 172, 173, 174]
def G_m_load : List (Nat × Nat) := [(121, 1), (121, 3), (121, 4), (121, 9), (121, 10), (121, 11), (121, 12), (121, 14), (121, 16), (121, 17), (121, 25), (121, 33), (121, 39), (121, 48), (121, 49), (121, 50), (121, 51), (121, 55), (121, 60), (121, 61), (121, 62), (121, 69), (121, 70), (121, 71), (121, 72), (121, 74), (121, 76)]
def m_load_67C (w : ev_W) (d : Nat) : (Int × iS) ⊕ (iS) → am_E → Prop := fun q r => q.elim (fun l => ev w d 298 67 ((fun l => [(0, .ref (tb_nK + 121)), (2, iv (l.1))]) l) [] (hT ((fun l => l.2) l)) r) (fun e => (fun e r => ev w d 298 86 [(0, .ref (tb_nK + 121))] [] (hT (e)) r) e r)
noncomputable def m_load_67b (v2 : Int) (s : iS) : Option ((Int × iS) ⊕ (iS)) := gd (rg v2) (gd (rg (s 121 39)) (if (s 121 39) ≤ v2 then some (.inr s) else bd (m_checkCall v2 s) (fun _ s4 => some (.inl ((v2 + 1), s4)))))
theorem tm_load_67b (w : ev_W) (d : Nat) (hd : 15 ≤ d) (v2 : Int) (s : iS) : Ew hT w d 298 67 [(0, .ref (tb_nK + 121)), (2, iv v2)] [] s (m_load_67C w d) (m_load_67b v2 s) := by
  unfold m_load_67b
  refine e_mv 68 em_298 (ce_at ce_298 37 rfl) rfl rfl ?_
  refine e_mv 69 em_298 (ce_at ce_298 38 rfl) rfl rfl ?_
  refine e_get 72 em_298 (ce_at ce_298 39 rfl) tq_121 rfl rfl ?_
  refine e_gd fun g1 => ?_
  refine e_gd fun g2 => ?_
  refine e_cmge 86 75 em_298 rfl rfl (ce_at ce_298 40 rfl) g1 g2 (fun h3 => ?_) (fun h3 => ?_)
  · refine e_pk [0] rfl rfl ?_
    exact e_out (fun r h => h)
  · refine e_mv 76 em_298 (ce_at ce_298 41 rfl) rfl rfl ?_
    refine e_mv 77 em_298 (ce_at ce_298 42 rfl) rfl rfl ?_
    refine e_ivv 80 em_298 (ce_at ce_298 43 rfl) (by omega) (iv_v1 (by decide) tq_121 rfl) em_357 (Nat.le_of_ble_eq_true rfl) rfl (tm_checkCall w (d - 1) (by omega) _ _) (fun r4 s4 => ?_)
    refine e_iinc 83 em_298 (ce_at ce_298 44 rfl) rfl (by decide) rfl ?_
    refine e_goto em_298 67 (ce_at ce_298 45 rfl) rfl ?_
    refine e_pk [0, 2] rfl rfl ?_
    exact e_out (fun r h => h)
theorem fm_load_67b (v2 : Int) (s : iS) : Fm (fun r : (Int × iS) ⊕ (iS) => r.elim (fun l => l.2) (fun e => e)) L_m_load G_m_load s (m_load_67b v2 s) := fm_gd (fm_gd (fm_if (fm_some md_refl) (fm_bd (fm_sub (fm_checkCall _ _) (mem_sub_L rfl) (mem_sub_F rfl)) (fun r4 s4 => fm_some md_refl))))
def m_load_161C (w : ev_W) (d : Nat) : (Int × iS) ⊕ (iS) → am_E → Prop := fun q r => q.elim (fun l => ev w d 298 161 ((fun l => [(0, .ref (tb_nK + 121)), (2, iv (l.1))]) l) [] (hT ((fun l => l.2) l)) r) (fun e => (fun e r => ev w d 298 187 [(0, .ref (tb_nK + 121))] [] (hT (e)) r) e r)
noncomputable def m_load_161b (v2 : Int) (s : iS) : Option ((Int × iS) ⊕ (iS)) := gd (rg v2) (gd (rg (s 121 3)) (if (s 121 3) ≤ v2 then some (.inr s) else gd (0 ≤ v2 ∧ v2 < 4000) (lt' (up s 171 v2.toNat (s 123 v2.toNat)) (fun s5 => some (.inl ((v2 + 1), s5))))))
theorem tm_load_161b (w : ev_W) (d : Nat) (hd : 15 ≤ d) (v2 : Int) (s : iS) : Ew hT w d 298 161 [(0, .ref (tb_nK + 121)), (2, iv v2)] [] s (m_load_161C w d) (m_load_161b v2 s) := by
  unfold m_load_161b
  refine e_mv 162 em_298 (ce_at ce_298 86 rfl) rfl rfl ?_
  refine e_mv 163 em_298 (ce_at ce_298 87 rfl) rfl rfl ?_
  refine e_get 166 em_298 (ce_at ce_298 88 rfl) tq_121 rfl rfl ?_
  refine e_gd fun g1 => ?_
  refine e_gd fun g2 => ?_
  refine e_cmge 187 169 em_298 rfl rfl (ce_at ce_298 89 rfl) g1 g2 (fun h3 => ?_) (fun h3 => ?_)
  · refine e_pk [0] rfl rfl ?_
    exact e_out (fun r h => h)
  · refine e_mv 170 em_298 (ce_at ce_298 90 rfl) rfl rfl ?_
    refine e_getr 173 em_298 (ce_at ce_298 91 rfl) tq_121 rfl rfl ?_
    refine e_mv 174 em_298 (ce_at ce_298 92 rfl) rfl rfl ?_
    refine e_mv 175 em_298 (ce_at ce_298 93 rfl) rfl rfl ?_
    refine e_getr 178 em_298 (ce_at ce_298 94 rfl) tq_121 rfl rfl ?_
    refine e_mv 179 em_298 (ce_at ce_298 95 rfl) rfl rfl ?_
    refine e_gd fun g4 => ?_
    refine e_ild 180 em_298 (ce_at ce_298 96 rfl) tq_123 (by decide) g4 rfl ?_
    refine e_ist 181 em_298 (ce_at ce_298 97 rfl) tq_171 (by decide) g4 rfl (fun s5 => ?_)
    refine e_iinc 184 em_298 (ce_at ce_298 98 rfl) rfl (by decide) rfl ?_
    refine e_goto em_298 161 (ce_at ce_298 99 rfl) rfl ?_
    refine e_pk [0, 2] rfl rfl ?_
    exact e_out (fun r h => h)
theorem fm_load_161b (v2 : Int) (s : iS) : Fm (fun r : (Int × iS) ⊕ (iS) => r.elim (fun l => l.2) (fun e => e)) L_m_load G_m_load s (m_load_161b v2 s) := fm_gd (fm_gd (fm_if (fm_some md_refl) (fm_gd (fm_lt (md_upL (mem_L rfl)) (fun s5 => fm_some md_refl)))))
def m_load_189C (w : ev_W) (d : Nat) : (Int × iS) ⊕ (iS) → am_E → Prop := fun q r => q.elim (fun l => ev w d 298 189 ((fun l => [(0, .ref (tb_nK + 121)), (2, iv (l.1))]) l) [] (hT ((fun l => l.2) l)) r) (fun e => (fun e r => ev w d 298 220 [(0, .ref (tb_nK + 121))] [] (hT (e)) r) e r)
noncomputable def m_load_189b (v2 : Int) (s : iS) : Option ((Int × iS) ⊕ (iS)) := gd (rg v2) (gd (rg (s 121 33)) (if (s 121 33) ≤ v2 then some (.inr s) else gd (0 ≤ v2 ∧ v2 < 5000) (gd (0 ≤ (s 147 v2.toNat) ∧ (s 147 v2.toNat) < 2002) (lt' (up s 170 v2.toNat (s 125 (s 147 v2.toNat).toNat)) (fun s6 => some (.inl ((v2 + 1), s6)))))))
theorem tm_load_189b (w : ev_W) (d : Nat) (hd : 15 ≤ d) (v2 : Int) (s : iS) : Ew hT w d 298 189 [(0, .ref (tb_nK + 121)), (2, iv v2)] [] s (m_load_189C w d) (m_load_189b v2 s) := by
  unfold m_load_189b
  refine e_mv 190 em_298 (ce_at ce_298 102 rfl) rfl rfl ?_
  refine e_mv 191 em_298 (ce_at ce_298 103 rfl) rfl rfl ?_
  refine e_get 194 em_298 (ce_at ce_298 104 rfl) tq_121 rfl rfl ?_
  refine e_gd fun g1 => ?_
  refine e_gd fun g2 => ?_
  refine e_cmge 220 197 em_298 rfl rfl (ce_at ce_298 105 rfl) g1 g2 (fun h3 => ?_) (fun h3 => ?_)
  · refine e_pk [0] rfl rfl ?_
    exact e_out (fun r h => h)
  · refine e_mv 198 em_298 (ce_at ce_298 106 rfl) rfl rfl ?_
    refine e_getr 201 em_298 (ce_at ce_298 107 rfl) tq_121 rfl rfl ?_
    refine e_mv 202 em_298 (ce_at ce_298 108 rfl) rfl rfl ?_
    refine e_mv 203 em_298 (ce_at ce_298 109 rfl) rfl rfl ?_
    refine e_getr 206 em_298 (ce_at ce_298 110 rfl) tq_121 rfl rfl ?_
    refine e_mv 207 em_298 (ce_at ce_298 111 rfl) rfl rfl ?_
    refine e_getr 210 em_298 (ce_at ce_298 112 rfl) tq_121 rfl rfl ?_
    refine e_mv 211 em_298 (ce_at ce_298 113 rfl) rfl rfl ?_
    refine e_gd fun g4 => ?_
    refine e_ild 212 em_298 (ce_at ce_298 114 rfl) tq_147 (by decide) g4 rfl ?_
    refine e_gd fun g5 => ?_
    refine e_ild 213 em_298 (ce_at ce_298 115 rfl) tq_125 (by decide) g5 rfl ?_
    refine e_ist 214 em_298 (ce_at ce_298 116 rfl) tq_170 (by decide) g4 rfl (fun s6 => ?_)
    refine e_iinc 217 em_298 (ce_at ce_298 117 rfl) rfl (by decide) rfl ?_
    refine e_goto em_298 189 (ce_at ce_298 118 rfl) rfl ?_
    refine e_pk [0, 2] rfl rfl ?_
    exact e_out (fun r h => h)
theorem fm_load_189b (v2 : Int) (s : iS) : Fm (fun r : (Int × iS) ⊕ (iS) => r.elim (fun l => l.2) (fun e => e)) L_m_load G_m_load s (m_load_189b v2 s) := fm_gd (fm_gd (fm_if (fm_some md_refl) (fm_gd (fm_gd (fm_lt (md_upL (mem_L rfl)) (fun s6 => fm_some md_refl))))))
def m_load_222C (w : ev_W) (d : Nat) : (Int × iS) ⊕ (iS) → am_E → Prop := fun q r => q.elim (fun l => ev w d 298 222 ((fun l => [(0, .ref (tb_nK + 121)), (2, iv (l.1))]) l) [] (hT ((fun l => l.2) l)) r) (fun e => (fun e r => ev w d 298 274 [(0, .ref (tb_nK + 121))] [] (hT (e)) r) e r)
noncomputable def m_load_267 (v2 : Int) (t0 : Int) (t1 : Int) (s : iS) : Option ((Int × iS) ⊕ (iS)) := gd (0 ≤ t1 ∧ t1 < 5000) (lt' (up s 146 t1.toNat t0) (fun s2 => some (.inl ((v2 + 1), s2))))
theorem tm_load_267 (w : ev_W) (d : Nat) (hd : 15 ≤ d) (v2 : Int) (t0 : Int) (t1 : Int) (s : iS) : Ew hT w d 298 267 [(0, .ref (tb_nK + 121)), (2, iv v2)] [iv t0, iv t1, .ref (tb_nK + 146)] s (m_load_222C w d) (m_load_267 v2 t0 t1 s) := by
  unfold m_load_267
  refine e_gd fun g1 => ?_
  refine e_ist 268 em_298 (ce_at ce_298 148 rfl) tq_146 (by decide) g1 rfl (fun s2 => ?_)
  refine e_iinc 271 em_298 (ce_at ce_298 149 rfl) rfl (by decide) rfl ?_
  refine e_goto em_298 222 (ce_at ce_298 150 rfl) rfl ?_
  refine e_pk [0, 2] rfl rfl ?_
  exact e_out (fun r h => h)
theorem fm_load_267 (v2 : Int) (t0 : Int) (t1 : Int) (s : iS) : Fm (fun r : (Int × iS) ⊕ (iS) => r.elim (fun l => l.2) (fun e => e)) L_m_load G_m_load s (m_load_267 v2 t0 t1 s) := fm_gd (fm_lt (md_upL (mem_L rfl)) (fun s2 => fm_some md_refl))
noncomputable def m_load_222b (v2 : Int) (s : iS) : Option ((Int × iS) ⊕ (iS)) := gd (rg v2) (gd (rg (s 121 33)) (if (s 121 33) ≤ v2 then some (.inr s) else gd (0 ≤ v2 ∧ v2 < 5000) (gd (rg (s 144 v2.toNat)) (if (s 144 v2.toNat) = 1 then gd (0 ≤ (s 147 v2.toNat) ∧ (s 147 v2.toNat) < 2002) (m_load_267 v2 ((s 126 (s 147 v2.toNat).toNat) - 2) v2 s) else m_load_267 v2 (s 146 v2.toNat) v2 s))))
theorem tm_load_222b (w : ev_W) (d : Nat) (hd : 15 ≤ d) (v2 : Int) (s : iS) : Ew hT w d 298 222 [(0, .ref (tb_nK + 121)), (2, iv v2)] [] s (m_load_222C w d) (m_load_222b v2 s) := by
  unfold m_load_222b
  refine e_mv 223 em_298 (ce_at ce_298 121 rfl) rfl rfl ?_
  refine e_mv 224 em_298 (ce_at ce_298 122 rfl) rfl rfl ?_
  refine e_get 227 em_298 (ce_at ce_298 123 rfl) tq_121 rfl rfl ?_
  refine e_gd fun g1 => ?_
  refine e_gd fun g2 => ?_
  refine e_cmge 274 230 em_298 rfl rfl (ce_at ce_298 124 rfl) g1 g2 (fun h3 => ?_) (fun h3 => ?_)
  · refine e_pk [0] rfl rfl ?_
    exact e_out (fun r h => h)
  · refine e_mv 231 em_298 (ce_at ce_298 125 rfl) rfl rfl ?_
    refine e_getr 234 em_298 (ce_at ce_298 126 rfl) tq_121 rfl rfl ?_
    refine e_mv 235 em_298 (ce_at ce_298 127 rfl) rfl rfl ?_
    refine e_mv 236 em_298 (ce_at ce_298 128 rfl) rfl rfl ?_
    refine e_getr 239 em_298 (ce_at ce_298 129 rfl) tq_121 rfl rfl ?_
    refine e_mv 240 em_298 (ce_at ce_298 130 rfl) rfl rfl ?_
    refine e_gd fun g4 => ?_
    refine e_ild 241 em_298 (ce_at ce_298 131 rfl) tq_144 (by decide) g4 rfl ?_
    refine e_op 242 em_298 (ce_at ce_298 132 rfl) rfl rfl ?_
    refine e_gd fun g5 => ?_
    refine e_cmne 261 245 em_298 rfl rfl (ce_at ce_298 133 rfl) g5 (by decide) (fun h6 => ?_) (fun h6 => ?_)
    · refine e_mv 262 em_298 (ce_at ce_298 144 rfl) rfl rfl ?_
      refine e_getr 265 em_298 (ce_at ce_298 145 rfl) tq_121 rfl rfl ?_
      refine e_mv 266 em_298 (ce_at ce_298 146 rfl) rfl rfl ?_
      refine e_ild 267 em_298 (ce_at ce_298 147 rfl) tq_146 (by decide) g4 rfl ?_
      refine e_pk [0, 2] rfl rfl ?_
      exact tm_load_267 w d hd _ _ _ _
    · refine e_mv 246 em_298 (ce_at ce_298 134 rfl) rfl rfl ?_
      refine e_getr 249 em_298 (ce_at ce_298 135 rfl) tq_121 rfl rfl ?_
      refine e_mv 250 em_298 (ce_at ce_298 136 rfl) rfl rfl ?_
      refine e_getr 253 em_298 (ce_at ce_298 137 rfl) tq_121 rfl rfl ?_
      refine e_mv 254 em_298 (ce_at ce_298 138 rfl) rfl rfl ?_
      refine e_ild 255 em_298 (ce_at ce_298 139 rfl) tq_147 (by decide) g4 rfl ?_
      refine e_gd fun g7 => ?_
      refine e_ild 256 em_298 (ce_at ce_298 140 rfl) tq_126 (by decide) g7 rfl ?_
      refine e_op 257 em_298 (ce_at ce_298 141 rfl) rfl rfl ?_
      refine e_isub 258 em_298 rfl (ce_at ce_298 142 rfl) ?_
      refine e_goto em_298 267 (ce_at ce_298 143 rfl) rfl ?_
      refine e_pk [0, 2] rfl rfl ?_
      exact tm_load_267 w d hd _ _ _ _
theorem fm_load_222b (v2 : Int) (s : iS) : Fm (fun r : (Int × iS) ⊕ (iS) => r.elim (fun l => l.2) (fun e => e)) L_m_load G_m_load s (m_load_222b v2 s) := fm_gd (fm_gd (fm_if (fm_some md_refl) (fm_gd (fm_gd (fm_if (fm_gd (fm_load_267 _ _ _ _)) (fm_load_267 _ _ _ _))))))
noncomputable def m_load_274 (s : iS) : Option (Int × iS) := bd (m_command s) (fun _ s1 => some (0, s1))
theorem tm_load_274 (w : ev_W) (d : Nat) (hd : 15 ≤ d) (s : iS) : Ew hT w d 298 274 [(0, .ref (tb_nK + 121))] [] s (Ci hT) (m_load_274 s) := by
  unfold m_load_274
  refine e_mv 275 em_298 (ce_at ce_298 151 rfl) rfl rfl ?_
  refine e_ivv 278 em_298 (ce_at ce_298 152 rfl) (by omega) (iv_v0 (by decide) tq_121 rfl) em_363 (Nat.le_of_ble_eq_true rfl) rfl (tm_command w (d - 1) (by omega) _) (fun r1 s1 => ?_)
  refine e_op 279 em_298 (ce_at ce_298 153 rfl) rfl rfl ?_
  exact e_reti em_298 (ce_at ce_298 154 rfl)
theorem fm_load_274 (s : iS) : Fm Prod.snd L_m_load G_m_load s (m_load_274 s) := fm_bd (fm_sub (fm_command _) (mem_sub_L rfl) (mem_sub_F rfl)) (fun r1 s1 => fm_some md_refl)
noncomputable def m_load_222 (v2 : Int) (s : iS) : Option (Int × iS) := (lp (L := Int × iS) (E := iS) (fun l => m_load_222b (l.1) (l.2)) (v2, s)).bind (fun e => m_load_274 e)
theorem tm_load_222 (w : ev_W) (d : Nat) (hd : 15 ≤ d) (v2 : Int) (s : iS) : Ew hT w d 298 222 [(0, .ref (tb_nK + 121)), (2, iv v2)] [] s (Ci hT) (m_load_222 v2 s) := by
  unfold m_load_222
  refine e_lp (L := Int × iS) (E := iS) (LO := fun l => [(0, .ref (tb_nK + 121)), (2, iv (l.1))]) (LS := fun l => l.2) (CE := fun e r => ev w d 298 274 [(0, .ref (tb_nK + 121))] [] (hT (e)) r) (fun l => tm_load_222b w d hd _ _) ?_ (v2, s)
  intro e
  show Ew hT w d 298 274 [(0, .ref (tb_nK + 121))] [] e (Ci hT) _
  refine e_pk [0] rfl rfl ?_
  exact tm_load_274 w d hd _
theorem fm_load_222 (v2 : Int) (s : iS) : Fm Prod.snd L_m_load G_m_load s (m_load_222 v2 s) := by
  unfold m_load_222
  refine fm_lp (A := Int × iS) (E := iS) (LS := fun l => l.2) (LE := fun e => e) ?_ ?_ (v2, s)
  · exact fun l => fm_load_222b _ _
  · exact (fun e => fm_load_274 _)
noncomputable def m_load_220 (s : iS) : Option (Int × iS) := m_load_222 0 s
theorem tm_load_220 (w : ev_W) (d : Nat) (hd : 15 ≤ d) (s : iS) : Ew hT w d 298 220 [(0, .ref (tb_nK + 121))] [] s (Ci hT) (m_load_220 s) := by
  unfold m_load_220
  refine e_op 221 em_298 (ce_at ce_298 119 rfl) rfl rfl ?_
  refine e_mv 222 em_298 (ce_at ce_298 120 rfl) rfl rfl ?_
  refine e_pk [0, 2] rfl rfl ?_
  exact tm_load_222 w d hd _ _
theorem fm_load_220 (s : iS) : Fm Prod.snd L_m_load G_m_load s (m_load_220 s) := fm_load_222 _ _
noncomputable def m_load_189 (v2 : Int) (s : iS) : Option (Int × iS) := (lp (L := Int × iS) (E := iS) (fun l => m_load_189b (l.1) (l.2)) (v2, s)).bind (fun e => m_load_220 e)
theorem tm_load_189 (w : ev_W) (d : Nat) (hd : 15 ≤ d) (v2 : Int) (s : iS) : Ew hT w d 298 189 [(0, .ref (tb_nK + 121)), (2, iv v2)] [] s (Ci hT) (m_load_189 v2 s) := by
  unfold m_load_189
  refine e_lp (L := Int × iS) (E := iS) (LO := fun l => [(0, .ref (tb_nK + 121)), (2, iv (l.1))]) (LS := fun l => l.2) (CE := fun e r => ev w d 298 220 [(0, .ref (tb_nK + 121))] [] (hT (e)) r) (fun l => tm_load_189b w d hd _ _) ?_ (v2, s)
  intro e
  show Ew hT w d 298 220 [(0, .ref (tb_nK + 121))] [] e (Ci hT) _
  refine e_pk [0] rfl rfl ?_
  exact tm_load_220 w d hd _
theorem fm_load_189 (v2 : Int) (s : iS) : Fm Prod.snd L_m_load G_m_load s (m_load_189 v2 s) := by
  unfold m_load_189
  refine fm_lp (A := Int × iS) (E := iS) (LS := fun l => l.2) (LE := fun e => e) ?_ ?_ (v2, s)
  · exact fun l => fm_load_189b _ _
  · exact (fun e => fm_load_220 _)
noncomputable def m_load_187 (s : iS) : Option (Int × iS) := m_load_189 0 s
theorem tm_load_187 (w : ev_W) (d : Nat) (hd : 15 ≤ d) (s : iS) : Ew hT w d 298 187 [(0, .ref (tb_nK + 121))] [] s (Ci hT) (m_load_187 s) := by
  unfold m_load_187
  refine e_op 188 em_298 (ce_at ce_298 100 rfl) rfl rfl ?_
  refine e_mv 189 em_298 (ce_at ce_298 101 rfl) rfl rfl ?_
  refine e_pk [0, 2] rfl rfl ?_
  exact tm_load_189 w d hd _ _
theorem fm_load_187 (s : iS) : Fm Prod.snd L_m_load G_m_load s (m_load_187 s) := fm_load_189 _ _
noncomputable def m_load_161 (v2 : Int) (s : iS) : Option (Int × iS) := (lp (L := Int × iS) (E := iS) (fun l => m_load_161b (l.1) (l.2)) (v2, s)).bind (fun e => m_load_187 e)
theorem tm_load_161 (w : ev_W) (d : Nat) (hd : 15 ≤ d) (v2 : Int) (s : iS) : Ew hT w d 298 161 [(0, .ref (tb_nK + 121)), (2, iv v2)] [] s (Ci hT) (m_load_161 v2 s) := by
  unfold m_load_161
  refine e_lp (L := Int × iS) (E := iS) (LO := fun l => [(0, .ref (tb_nK + 121)), (2, iv (l.1))]) (LS := fun l => l.2) (CE := fun e r => ev w d 298 187 [(0, .ref (tb_nK + 121))] [] (hT (e)) r) (fun l => tm_load_161b w d hd _ _) ?_ (v2, s)
  intro e
  show Ew hT w d 298 187 [(0, .ref (tb_nK + 121))] [] e (Ci hT) _
  refine e_pk [0] rfl rfl ?_
  exact tm_load_187 w d hd _
theorem fm_load_161 (v2 : Int) (s : iS) : Fm Prod.snd L_m_load G_m_load s (m_load_161 v2 s) := by
  unfold m_load_161
  refine fm_lp (A := Int × iS) (E := iS) (LS := fun l => l.2) (LE := fun e => e) ?_ ?_ (v2, s)
  · exact fun l => fm_load_161b _ _
  · exact (fun e => fm_load_187 _)
noncomputable def m_load_119 (s : iS) : Option (Int × iS) := lt' (up s 121 4 (s 121 70)) (fun s1 => gd (rg (s1 121 69)) (if (s1 121 69) ≤ 0 then lt' (up s1 121 4 (-1)) (fun s4 => lt' (up s4 121 71 1) (fun s5 => lt' (up s5 121 74 (s5 125 0)) (fun s6 => m_load_161 0 s6))) else some ((s1 121 69), s1)))
theorem tm_load_119 (w : ev_W) (d : Nat) (hd : 15 ≤ d) (s : iS) : Ew hT w d 298 119 [(0, .ref (tb_nK + 121))] [] s (Ci hT) (m_load_119 s) := by
  unfold m_load_119
  refine e_mv 120 em_298 (ce_at ce_298 62 rfl) rfl rfl ?_
  refine e_mv 121 em_298 (ce_at ce_298 63 rfl) rfl rfl ?_
  refine e_get 124 em_298 (ce_at ce_298 64 rfl) tq_121 rfl rfl ?_
  refine e_put 127 em_298 (ce_at ce_298 65 rfl) tq_121 rfl rfl rfl (fun s1 => ?_)
  refine e_mv 128 em_298 (ce_at ce_298 66 rfl) rfl rfl ?_
  refine e_get 131 em_298 (ce_at ce_298 67 rfl) tq_121 rfl rfl ?_
  refine e_gd fun g2 => ?_
  refine e_ifle 139 134 em_298 rfl rfl (ce_at ce_298 68 rfl) g2 (fun h3 => ?_) (fun h3 => ?_)
  · refine e_mv 140 em_298 (ce_at ce_298 72 rfl) rfl rfl ?_
    refine e_op 141 em_298 (ce_at ce_298 73 rfl) rfl rfl ?_
    refine e_put 144 em_298 (ce_at ce_298 74 rfl) tq_121 rfl rfl rfl (fun s4 => ?_)
    refine e_mv 145 em_298 (ce_at ce_298 75 rfl) rfl rfl ?_
    refine e_op 146 em_298 (ce_at ce_298 76 rfl) rfl rfl ?_
    refine e_put 149 em_298 (ce_at ce_298 77 rfl) tq_121 rfl rfl rfl (fun s5 => ?_)
    refine e_mv 150 em_298 (ce_at ce_298 78 rfl) rfl rfl ?_
    refine e_mv 151 em_298 (ce_at ce_298 79 rfl) rfl rfl ?_
    refine e_getr 154 em_298 (ce_at ce_298 80 rfl) tq_121 rfl rfl ?_
    refine e_op 155 em_298 (ce_at ce_298 81 rfl) rfl rfl ?_
    refine e_ild 156 em_298 (ce_at ce_298 82 rfl) tq_125 (by decide) (by decide) rfl ?_
    refine e_put 159 em_298 (ce_at ce_298 83 rfl) tq_121 rfl rfl rfl (fun s6 => ?_)
    refine e_op 160 em_298 (ce_at ce_298 84 rfl) rfl rfl ?_
    refine e_mv 161 em_298 (ce_at ce_298 85 rfl) rfl rfl ?_
    refine e_pk [0, 2] rfl rfl ?_
    exact tm_load_161 w d hd _ _
  · refine e_mv 135 em_298 (ce_at ce_298 69 rfl) rfl rfl ?_
    refine e_get 138 em_298 (ce_at ce_298 70 rfl) tq_121 rfl rfl ?_
    exact e_reti em_298 (ce_at ce_298 71 rfl)
theorem fm_load_119 (s : iS) : Fm Prod.snd L_m_load G_m_load s (m_load_119 s) := fm_lt (md_upF (mem_F rfl)) (fun s1 => fm_gd (fm_if (fm_lt (md_upF (mem_F rfl)) (fun s4 => fm_lt (md_upF (mem_F rfl)) (fun s5 => fm_lt (md_upF (mem_F rfl)) (fun s6 => fm_load_161 _ _)))) (fm_some md_refl)))
noncomputable def m_load_86 (s : iS) : Option (Int × iS) := bd (m_checkMain s) (fun _ s1 => gd (rg (s1 121 69)) (if (s1 121 69) = 0 then gd (rg (s1 121 72)) (if (s1 121 72) = (-1) then lt' (up s1 121 69 7) (fun s6 => lt' (up s6 121 70 (s6 121 3)) (fun s7 => m_load_119 s7)) else m_load_119 s1) else m_load_119 s1))
theorem tm_load_86 (w : ev_W) (d : Nat) (hd : 15 ≤ d) (s : iS) : Ew hT w d 298 86 [(0, .ref (tb_nK + 121))] [] s (Ci hT) (m_load_86 s) := by
  unfold m_load_86
  refine e_mv 87 em_298 (ce_at ce_298 46 rfl) rfl rfl ?_
  refine e_ivv 90 em_298 (ce_at ce_298 47 rfl) (by omega) (iv_v0 (by decide) tq_121 rfl) em_361 (Nat.le_of_ble_eq_true rfl) rfl (tm_checkMain w (d - 1) (by omega) _) (fun r1 s1 => ?_)
  refine e_mv 91 em_298 (ce_at ce_298 48 rfl) rfl rfl ?_
  refine e_get 94 em_298 (ce_at ce_298 49 rfl) tq_121 rfl rfl ?_
  refine e_gd fun g2 => ?_
  refine e_ifne 119 97 em_298 rfl rfl (ce_at ce_298 50 rfl) g2 (fun h3 => ?_) (fun h3 => ?_)
  · refine e_pk [0] rfl rfl ?_
    exact tm_load_119 w d hd _
  · refine e_mv 98 em_298 (ce_at ce_298 51 rfl) rfl rfl ?_
    refine e_get 101 em_298 (ce_at ce_298 52 rfl) tq_121 rfl rfl ?_
    refine e_op 102 em_298 (ce_at ce_298 53 rfl) rfl rfl ?_
    refine e_gd fun g4 => ?_
    refine e_cmne 119 105 em_298 rfl rfl (ce_at ce_298 54 rfl) g4 (by decide) (fun h5 => ?_) (fun h5 => ?_)
    · refine e_pk [0] rfl rfl ?_
      exact tm_load_119 w d hd _
    · refine e_mv 106 em_298 (ce_at ce_298 55 rfl) rfl rfl ?_
      refine e_bip 108 em_298 (ce_at ce_298 56 rfl) (by decide) rfl ?_
      refine e_put 111 em_298 (ce_at ce_298 57 rfl) tq_121 rfl rfl rfl (fun s6 => ?_)
      refine e_mv 112 em_298 (ce_at ce_298 58 rfl) rfl rfl ?_
      refine e_mv 113 em_298 (ce_at ce_298 59 rfl) rfl rfl ?_
      refine e_get 116 em_298 (ce_at ce_298 60 rfl) tq_121 rfl rfl ?_
      refine e_put 119 em_298 (ce_at ce_298 61 rfl) tq_121 rfl rfl rfl (fun s7 => ?_)
      refine e_pk [0] rfl rfl ?_
      exact tm_load_119 w d hd _
theorem fm_load_86 (s : iS) : Fm Prod.snd L_m_load G_m_load s (m_load_86 s) := fm_bd (fm_sub (fm_checkMain _) (mem_sub_L rfl) (mem_sub_F rfl)) (fun r1 s1 => fm_gd (fm_if (fm_gd (fm_if (fm_lt (md_upF (mem_F rfl)) (fun s6 => fm_lt (md_upF (mem_F rfl)) (fun s7 => fm_load_119 _))) (fm_load_119 _))) (fm_load_119 _)))
noncomputable def m_load_67 (v2 : Int) (s : iS) : Option (Int × iS) := (lp (L := Int × iS) (E := iS) (fun l => m_load_67b (l.1) (l.2)) (v2, s)).bind (fun e => m_load_86 e)
theorem tm_load_67 (w : ev_W) (d : Nat) (hd : 15 ≤ d) (v2 : Int) (s : iS) : Ew hT w d 298 67 [(0, .ref (tb_nK + 121)), (2, iv v2)] [] s (Ci hT) (m_load_67 v2 s) := by
  unfold m_load_67
  refine e_lp (L := Int × iS) (E := iS) (LO := fun l => [(0, .ref (tb_nK + 121)), (2, iv (l.1))]) (LS := fun l => l.2) (CE := fun e r => ev w d 298 86 [(0, .ref (tb_nK + 121))] [] (hT (e)) r) (fun l => tm_load_67b w d hd _ _) ?_ (v2, s)
  intro e
  show Ew hT w d 298 86 [(0, .ref (tb_nK + 121))] [] e (Ci hT) _
  refine e_pk [0] rfl rfl ?_
  exact tm_load_86 w d hd _
theorem fm_load_67 (v2 : Int) (s : iS) : Fm Prod.snd L_m_load G_m_load s (m_load_67 v2 s) := by
  unfold m_load_67
  refine fm_lp (A := Int × iS) (E := iS) (LS := fun l => l.2) (LE := fun e => e) ?_ ?_ (v2, s)
  · exact fun l => fm_load_67b _ _
  · exact (fun e => fm_load_86 _)
noncomputable def m_load (v1 : Int) (s : iS) : Option (Int × iS) := bd (m_takes v1 s) (fun r1 s1 => gd (rg r1) (if r1 = 0 then some ((-1), s1) else lt' (up s1 121 71 0) (fun s4 => lt' (up s4 121 76 0) (fun s5 => bd (m_tokenize 1000 0 s5) (fun _ s6 => bd (m_texts s6) (fun _ s7 => lt' (up s7 121 4 (s7 121 12)) (fun s8 => gd (rg (s8 121 11)) (if (s8 121 11) ≤ 0 then lt' (up s8 121 69 0) (fun s11 => bd (m_checkNames s11) (fun _ s12 => bd (m_checkItems s12) (fun _ s13 => m_load_67 0 s13))) else some ((s8 121 11), s8)))))))))
theorem tm_load (w : ev_W) (d : Nat) (hd : 15 ≤ d) (v1 : Int) (s : iS) : Ew hT w d 298 0 [(0, .ref (tb_nK + 121)), (1, iv v1)] [] s (Ci hT) (m_load v1 s) := by
  unfold m_load
  refine e_mv 1 em_298 (ce_at ce_298 0 rfl) rfl rfl ?_
  refine e_mv 2 em_298 (ce_at ce_298 1 rfl) rfl rfl ?_
  refine e_ivi 5 em_298 (ce_at ce_298 2 rfl) (by omega) (iv_v1 (by decide) tq_121 rfl) em_299 (Nat.le_of_ble_eq_true rfl) rfl (tm_takes w (d - 1) (by omega) _ _) (fun r1 s1 => ?_)
  refine e_gd fun g2 => ?_
  refine e_ifne 10 8 em_298 rfl rfl (ce_at ce_298 3 rfl) g2 (fun h3 => ?_) (fun h3 => ?_)
  · refine e_mv 11 em_298 (ce_at ce_298 6 rfl) rfl rfl ?_
    refine e_op 12 em_298 (ce_at ce_298 7 rfl) rfl rfl ?_
    refine e_put 15 em_298 (ce_at ce_298 8 rfl) tq_121 rfl rfl rfl (fun s4 => ?_)
    refine e_mv 16 em_298 (ce_at ce_298 9 rfl) rfl rfl ?_
    refine e_op 17 em_298 (ce_at ce_298 10 rfl) rfl rfl ?_
    refine e_put 20 em_298 (ce_at ce_298 11 rfl) tq_121 rfl rfl rfl (fun s5 => ?_)
    refine e_mv 21 em_298 (ce_at ce_298 12 rfl) rfl rfl ?_
    refine e_sip 24 em_298 (ce_at ce_298 13 rfl) (by decide) rfl ?_
    refine e_op 25 em_298 (ce_at ce_298 14 rfl) rfl rfl ?_
    refine e_ivv 28 em_298 (ce_at ce_298 15 rfl) (by omega) (iv_v2 (by decide) tq_121 rfl) em_300 (Nat.le_of_ble_eq_true rfl) rfl (tm_tokenize w (d - 1) (by omega) _ _ _) (fun r6 s6 => ?_)
    refine e_mv 29 em_298 (ce_at ce_298 16 rfl) rfl rfl ?_
    refine e_ivv 32 em_298 (ce_at ce_298 17 rfl) (by omega) (iv_v0 (by decide) tq_121 rfl) em_312 (Nat.le_of_ble_eq_true rfl) rfl (tm_texts w (d - 1) (by omega) _) (fun r7 s7 => ?_)
    refine e_mv 33 em_298 (ce_at ce_298 18 rfl) rfl rfl ?_
    refine e_mv 34 em_298 (ce_at ce_298 19 rfl) rfl rfl ?_
    refine e_get 37 em_298 (ce_at ce_298 20 rfl) tq_121 rfl rfl ?_
    refine e_put 40 em_298 (ce_at ce_298 21 rfl) tq_121 rfl rfl rfl (fun s8 => ?_)
    refine e_mv 41 em_298 (ce_at ce_298 22 rfl) rfl rfl ?_
    refine e_get 44 em_298 (ce_at ce_298 23 rfl) tq_121 rfl rfl ?_
    refine e_gd fun g9 => ?_
    refine e_ifle 52 47 em_298 rfl rfl (ce_at ce_298 24 rfl) g9 (fun h10 => ?_) (fun h10 => ?_)
    · refine e_mv 53 em_298 (ce_at ce_298 28 rfl) rfl rfl ?_
      refine e_op 54 em_298 (ce_at ce_298 29 rfl) rfl rfl ?_
      refine e_put 57 em_298 (ce_at ce_298 30 rfl) tq_121 rfl rfl rfl (fun s11 => ?_)
      refine e_mv 58 em_298 (ce_at ce_298 31 rfl) rfl rfl ?_
      refine e_ivv 61 em_298 (ce_at ce_298 32 rfl) (by omega) (iv_v0 (by decide) tq_121 rfl) em_347 (Nat.le_of_ble_eq_true rfl) rfl (tm_checkNames w (d - 1) (by omega) _) (fun r12 s12 => ?_)
      refine e_mv 62 em_298 (ce_at ce_298 33 rfl) rfl rfl ?_
      refine e_ivv 65 em_298 (ce_at ce_298 34 rfl) (by omega) (iv_v0 (by decide) tq_121 rfl) em_354 (Nat.le_of_ble_eq_true rfl) rfl (tm_checkItems w (d - 1) (by omega) _) (fun r13 s13 => ?_)
      refine e_op 66 em_298 (ce_at ce_298 35 rfl) rfl rfl ?_
      refine e_mv 67 em_298 (ce_at ce_298 36 rfl) rfl rfl ?_
      refine e_pk [0, 2] rfl rfl ?_
      exact tm_load_67 w d hd _ _
    · refine e_mv 48 em_298 (ce_at ce_298 25 rfl) rfl rfl ?_
      refine e_get 51 em_298 (ce_at ce_298 26 rfl) tq_121 rfl rfl ?_
      exact e_reti em_298 (ce_at ce_298 27 rfl)
  · refine e_op 9 em_298 (ce_at ce_298 4 rfl) rfl rfl ?_
    exact e_reti em_298 (ce_at ce_298 5 rfl)
theorem fm_load (v1 : Int) (s : iS) : Fm Prod.snd L_m_load G_m_load s (m_load v1 s) := fm_bd (fm_sub (fm_takes _ _) (mem_sub_L rfl) (mem_sub_F rfl)) (fun r1 s1 => fm_gd (fm_if (fm_some md_refl) (fm_lt (md_upF (mem_F rfl)) (fun s4 => fm_lt (md_upF (mem_F rfl)) (fun s5 => fm_bd (fm_sub (fm_tokenize _ _ _) (mem_sub_L rfl) (mem_sub_F rfl)) (fun r6 s6 => fm_bd (fm_sub (fm_texts _) (mem_sub_L rfl) (mem_sub_F rfl)) (fun r7 s7 => fm_lt (md_upF (mem_F rfl)) (fun s8 => fm_gd (fm_if (fm_lt (md_upF (mem_F rfl)) (fun s11 => fm_bd (fm_sub (fm_checkNames _) (mem_sub_L rfl) (mem_sub_F rfl)) (fun r12 s12 => fm_bd (fm_sub (fm_checkItems _) (mem_sub_L rfl) (mem_sub_F rfl)) (fun r13 s13 => fm_load_67 _ _)))) (fm_some md_refl))))))))))
/-! m_command_369 -/
def L_m_command_369 : List Nat := []
def G_m_command_369 : List (Nat × Nat) := []
noncomputable def m_command_369 (v1 : Int) (v2 : Int) (s : iS) : Option (Int × iS) := gd (rg (s 121 71)) (if (s 121 71) = 0 then some ((-1), s) else gd (rg v1) (if v1 < 0 then some ((-1), s) else gd (rg (s 121 76)) (if (s 121 76) ≤ v1 then some ((-1), s) else gd (rg v2) (if v2 < 0 then some ((-1), s) else if v2 ≤ 2 then if v2 = 0 then gd (0 ≤ v1 ∧ v1 < 12000) (some ((s 172 v1.toNat), s)) else if v2 = 1 then gd (0 ≤ v1 ∧ v1 < 12000) (some ((s 173 v1.toNat), s)) else gd (0 ≤ v1 ∧ v1 < 12000) (some ((s 174 v1.toNat), s)) else some ((-1), s)))))
theorem tm_command_369 (w : ev_W) (d : Nat) (hd : 0 ≤ d) (v1 : Int) (v2 : Int) (s : iS) : Ew hT w d 369 0 [(0, .ref (tb_nK + 121)), (1, iv v1), (2, iv v2)] [] s (Ci hT) (m_command_369 v1 v2 s) := by
  unfold m_command_369
  refine e_mv 1 em_369 (ce_at ce_369 0 rfl) rfl rfl ?_
  refine e_get 4 em_369 (ce_at ce_369 1 rfl) tq_121 rfl rfl ?_
  refine e_gd fun g1 => ?_
  refine e_ifeq 28 7 em_369 rfl rfl (ce_at ce_369 2 rfl) g1 (fun h2 => ?_) (fun h2 => ?_)
  · refine e_op 29 em_369 (ce_at ce_369 14 rfl) rfl rfl ?_
    exact e_reti em_369 (ce_at ce_369 15 rfl)
  · refine e_mv 8 em_369 (ce_at ce_369 3 rfl) rfl rfl ?_
    refine e_gd fun g3 => ?_
    refine e_iflt 28 11 em_369 rfl rfl (ce_at ce_369 4 rfl) g3 (fun h4 => ?_) (fun h4 => ?_)
    · refine e_op 29 em_369 (ce_at ce_369 14 rfl) rfl rfl ?_
      exact e_reti em_369 (ce_at ce_369 15 rfl)
    · refine e_mv 12 em_369 (ce_at ce_369 5 rfl) rfl rfl ?_
      refine e_mv 13 em_369 (ce_at ce_369 6 rfl) rfl rfl ?_
      refine e_get 16 em_369 (ce_at ce_369 7 rfl) tq_121 rfl rfl ?_
      refine e_gd fun g5 => ?_
      refine e_cmge 28 19 em_369 rfl rfl (ce_at ce_369 8 rfl) g3 g5 (fun h6 => ?_) (fun h6 => ?_)
      · refine e_op 29 em_369 (ce_at ce_369 14 rfl) rfl rfl ?_
        exact e_reti em_369 (ce_at ce_369 15 rfl)
      · refine e_mv 20 em_369 (ce_at ce_369 9 rfl) rfl rfl ?_
        refine e_gd fun g7 => ?_
        refine e_iflt 28 23 em_369 rfl rfl (ce_at ce_369 10 rfl) g7 (fun h8 => ?_) (fun h8 => ?_)
        · refine e_op 29 em_369 (ce_at ce_369 14 rfl) rfl rfl ?_
          exact e_reti em_369 (ce_at ce_369 15 rfl)
        · refine e_mv 24 em_369 (ce_at ce_369 11 rfl) rfl rfl ?_
          refine e_op 25 em_369 (ce_at ce_369 12 rfl) rfl rfl ?_
          refine e_cmle 30 28 em_369 rfl rfl (ce_at ce_369 13 rfl) g7 (by decide) (fun h9 => ?_) (fun h9 => ?_)
          · refine e_mv 31 em_369 (ce_at ce_369 16 rfl) rfl rfl ?_
            refine e_ifne 43 34 em_369 rfl rfl (ce_at ce_369 17 rfl) g7 (fun h10 => ?_) (fun h10 => ?_)
            · refine e_mv 44 em_369 (ce_at ce_369 23 rfl) rfl rfl ?_
              refine e_op 45 em_369 (ce_at ce_369 24 rfl) rfl rfl ?_
              refine e_cmne 57 48 em_369 rfl rfl (ce_at ce_369 25 rfl) g7 (by decide) (fun h11 => ?_) (fun h11 => ?_)
              · refine e_mv 58 em_369 (ce_at ce_369 31 rfl) rfl rfl ?_
                refine e_getr 61 em_369 (ce_at ce_369 32 rfl) tq_121 rfl rfl ?_
                refine e_mv 62 em_369 (ce_at ce_369 33 rfl) rfl rfl ?_
                refine e_gd fun g12 => ?_
                refine e_ild 63 em_369 (ce_at ce_369 34 rfl) tq_174 (by decide) g12 rfl ?_
                exact e_reti em_369 (ce_at ce_369 35 rfl)
              · refine e_mv 49 em_369 (ce_at ce_369 26 rfl) rfl rfl ?_
                refine e_getr 52 em_369 (ce_at ce_369 27 rfl) tq_121 rfl rfl ?_
                refine e_mv 53 em_369 (ce_at ce_369 28 rfl) rfl rfl ?_
                refine e_gd fun g13 => ?_
                refine e_ild 54 em_369 (ce_at ce_369 29 rfl) tq_173 (by decide) g13 rfl ?_
                refine e_goto em_369 63 (ce_at ce_369 30 rfl) rfl ?_
                exact e_reti em_369 (ce_at ce_369 35 rfl)
            · refine e_mv 35 em_369 (ce_at ce_369 18 rfl) rfl rfl ?_
              refine e_getr 38 em_369 (ce_at ce_369 19 rfl) tq_121 rfl rfl ?_
              refine e_mv 39 em_369 (ce_at ce_369 20 rfl) rfl rfl ?_
              refine e_gd fun g14 => ?_
              refine e_ild 40 em_369 (ce_at ce_369 21 rfl) tq_172 (by decide) g14 rfl ?_
              refine e_goto em_369 63 (ce_at ce_369 22 rfl) rfl ?_
              exact e_reti em_369 (ce_at ce_369 35 rfl)
          · refine e_op 29 em_369 (ce_at ce_369 14 rfl) rfl rfl ?_
            exact e_reti em_369 (ce_at ce_369 15 rfl)
theorem fm_command_369 (v1 : Int) (v2 : Int) (s : iS) : Fm Prod.snd L_m_command_369 G_m_command_369 s (m_command_369 v1 v2 s) := fm_gd (fm_if (fm_some md_refl) (fm_gd (fm_if (fm_some md_refl) (fm_gd (fm_if (fm_some md_refl) (fm_gd (fm_if (fm_some md_refl) (fm_if (fm_if (fm_gd (fm_some md_refl)) (fm_if (fm_gd (fm_some md_refl)) (fm_gd (fm_some md_refl)))) (fm_some md_refl)))))))))
/-! m_keys -/
def L_m_keys : List Nat := [186]
def G_m_keys : List (Nat × Nat) := [(121, 1), (121, 102)]
def m_keys_23C (w : ev_W) (d : Nat) (v1 : Int) : (Int × iS) ⊕ (iS) → am_E → Prop := fun q r => q.elim (fun l => ev w d 370 23 ((fun l => [(0, .ref (tb_nK + 121)), (1, iv v1), (2, iv (l.1))]) l) [] (hT ((fun l => l.2) l)) r) (fun e => (fun e r => ev w d 370 46 [(0, .ref (tb_nK + 121)), (1, iv v1)] [] (hT (e)) r) e r)
noncomputable def m_keys_23b (v1 : Int) (v2 : Int) (s : iS) : Option ((Int × iS) ⊕ (iS)) := gd (rg v2) (gd (rg v1) (if v1 ≤ v2 then some (.inr s) else gd (0 ≤ v2 ∧ v2 < 4000) (gd (0 ≤ v2 ∧ v2 < 200) (lt' (up s 186 v2.toNat (s 122 v2.toNat)) (fun s6 => some (.inl ((v2 + 1), s6)))))))
theorem tm_keys_23b (w : ev_W) (d : Nat) (hd : 0 ≤ d) (v1 : Int) (v2 : Int) (s : iS) : Ew hT w d 370 23 [(0, .ref (tb_nK + 121)), (1, iv v1), (2, iv v2)] [] s (m_keys_23C w d v1) (m_keys_23b v1 v2 s) := by
  unfold m_keys_23b
  refine e_mv 24 em_370 (ce_at ce_370 13 rfl) rfl rfl ?_
  refine e_mv 25 em_370 (ce_at ce_370 14 rfl) rfl rfl ?_
  refine e_gd fun g1 => ?_
  refine e_gd fun g2 => ?_
  refine e_cmge 46 28 em_370 rfl rfl (ce_at ce_370 15 rfl) g1 g2 (fun h3 => ?_) (fun h3 => ?_)
  · refine e_pk [0, 1] rfl rfl ?_
    exact e_out (fun r h => h)
  · refine e_mv 29 em_370 (ce_at ce_370 16 rfl) rfl rfl ?_
    refine e_getr 32 em_370 (ce_at ce_370 17 rfl) tq_121 rfl rfl ?_
    refine e_mv 33 em_370 (ce_at ce_370 18 rfl) rfl rfl ?_
    refine e_mv 34 em_370 (ce_at ce_370 19 rfl) rfl rfl ?_
    refine e_getr 37 em_370 (ce_at ce_370 20 rfl) tq_121 rfl rfl ?_
    refine e_mv 38 em_370 (ce_at ce_370 21 rfl) rfl rfl ?_
    refine e_gd fun g4 => ?_
    refine e_ild 39 em_370 (ce_at ce_370 22 rfl) tq_122 (by decide) g4 rfl ?_
    refine e_gd fun g5 => ?_
    refine e_ist 40 em_370 (ce_at ce_370 23 rfl) tq_186 (by decide) g5 rfl (fun s6 => ?_)
    refine e_iinc 43 em_370 (ce_at ce_370 24 rfl) rfl (by decide) rfl ?_
    refine e_goto em_370 23 (ce_at ce_370 25 rfl) rfl ?_
    refine e_pk [0, 1, 2] rfl rfl ?_
    exact e_out (fun r h => h)
theorem fm_keys_23b (v1 : Int) (v2 : Int) (s : iS) : Fm (fun r : (Int × iS) ⊕ (iS) => r.elim (fun l => l.2) (fun e => e)) L_m_keys G_m_keys s (m_keys_23b v1 v2 s) := fm_gd (fm_gd (fm_if (fm_some md_refl) (fm_gd (fm_gd (fm_lt (md_upL (mem_L rfl)) (fun s6 => fm_some md_refl))))))
noncomputable def m_keys_46 (v1 : Int) (s : iS) : Option (Int × iS) := lt' (up s 121 102 v1) (fun s1 => lt' (up s1 121 1 0) (fun s2 => some (1, s2)))
theorem tm_keys_46 (w : ev_W) (d : Nat) (hd : 0 ≤ d) (v1 : Int) (s : iS) : Ew hT w d 370 46 [(0, .ref (tb_nK + 121)), (1, iv v1)] [] s (Ci hT) (m_keys_46 v1 s) := by
  unfold m_keys_46
  refine e_mv 47 em_370 (ce_at ce_370 26 rfl) rfl rfl ?_
  refine e_mv 48 em_370 (ce_at ce_370 27 rfl) rfl rfl ?_
  refine e_put 51 em_370 (ce_at ce_370 28 rfl) tq_121 rfl rfl rfl (fun s1 => ?_)
  refine e_mv 52 em_370 (ce_at ce_370 29 rfl) rfl rfl ?_
  refine e_op 53 em_370 (ce_at ce_370 30 rfl) rfl rfl ?_
  refine e_put 56 em_370 (ce_at ce_370 31 rfl) tq_121 rfl rfl rfl (fun s2 => ?_)
  refine e_op 57 em_370 (ce_at ce_370 32 rfl) rfl rfl ?_
  exact e_retz em_370 (ce_at ce_370 33 rfl) (by decide)
theorem fm_keys_46 (v1 : Int) (s : iS) : Fm Prod.snd L_m_keys G_m_keys s (m_keys_46 v1 s) := fm_lt (md_upF (mem_F rfl)) (fun s1 => fm_lt (md_upF (mem_F rfl)) (fun s2 => fm_some md_refl))
noncomputable def m_keys_23 (v1 : Int) (v2 : Int) (s : iS) : Option (Int × iS) := (lp (L := Int × iS) (E := iS) (fun l => m_keys_23b v1 (l.1) (l.2)) (v2, s)).bind (fun e => m_keys_46 v1 e)
theorem tm_keys_23 (w : ev_W) (d : Nat) (hd : 0 ≤ d) (v1 : Int) (v2 : Int) (s : iS) : Ew hT w d 370 23 [(0, .ref (tb_nK + 121)), (1, iv v1), (2, iv v2)] [] s (Ci hT) (m_keys_23 v1 v2 s) := by
  unfold m_keys_23
  refine e_lp (L := Int × iS) (E := iS) (LO := fun l => [(0, .ref (tb_nK + 121)), (1, iv v1), (2, iv (l.1))]) (LS := fun l => l.2) (CE := fun e r => ev w d 370 46 [(0, .ref (tb_nK + 121)), (1, iv v1)] [] (hT (e)) r) (fun l => tm_keys_23b w d hd _ _ _) ?_ (v2, s)
  intro e
  show Ew hT w d 370 46 [(0, .ref (tb_nK + 121)), (1, iv v1)] [] e (Ci hT) _
  refine e_pk [0, 1] rfl rfl ?_
  exact tm_keys_46 w d hd _ _
theorem fm_keys_23 (v1 : Int) (v2 : Int) (s : iS) : Fm Prod.snd L_m_keys G_m_keys s (m_keys_23 v1 v2 s) := by
  unfold m_keys_23
  refine fm_lp (A := Int × iS) (E := iS) (LS := fun l => l.2) (LE := fun e => e) ?_ ?_ (v2, s)
  · exact fun l => fm_keys_23b _ _ _
  · exact (fun e => fm_keys_46 _ _)
noncomputable def m_keys (v1 : Int) (s : iS) : Option (Int × iS) := gd (rg v1) (if v1 < 0 then some (0, s) else if 200 < v1 then some (0, s) else gd (rg (s 121 1)) (if v1 ≤ (s 121 1) then m_keys_23 v1 0 s else some (0, s)))
theorem tm_keys (w : ev_W) (d : Nat) (hd : 0 ≤ d) (v1 : Int) (s : iS) : Ew hT w d 370 0 [(0, .ref (tb_nK + 121)), (1, iv v1)] [] s (Ci hT) (m_keys v1 s) := by
  unfold m_keys
  refine e_mv 1 em_370 (ce_at ce_370 0 rfl) rfl rfl ?_
  refine e_gd fun g1 => ?_
  refine e_iflt 19 4 em_370 rfl rfl (ce_at ce_370 1 rfl) g1 (fun h2 => ?_) (fun h2 => ?_)
  · refine e_op 20 em_370 (ce_at ce_370 9 rfl) rfl rfl ?_
    exact e_retz em_370 (ce_at ce_370 10 rfl) (by decide)
  · refine e_mv 5 em_370 (ce_at ce_370 2 rfl) rfl rfl ?_
    refine e_sip 8 em_370 (ce_at ce_370 3 rfl) (by decide) rfl ?_
    refine e_cmgt 19 11 em_370 rfl rfl (ce_at ce_370 4 rfl) g1 (by decide) (fun h3 => ?_) (fun h3 => ?_)
    · refine e_op 20 em_370 (ce_at ce_370 9 rfl) rfl rfl ?_
      exact e_retz em_370 (ce_at ce_370 10 rfl) (by decide)
    · refine e_mv 12 em_370 (ce_at ce_370 5 rfl) rfl rfl ?_
      refine e_mv 13 em_370 (ce_at ce_370 6 rfl) rfl rfl ?_
      refine e_get 16 em_370 (ce_at ce_370 7 rfl) tq_121 rfl rfl ?_
      refine e_gd fun g4 => ?_
      refine e_cmle 21 19 em_370 rfl rfl (ce_at ce_370 8 rfl) g1 g4 (fun h5 => ?_) (fun h5 => ?_)
      · refine e_op 22 em_370 (ce_at ce_370 11 rfl) rfl rfl ?_
        refine e_mv 23 em_370 (ce_at ce_370 12 rfl) rfl rfl ?_
        refine e_pk [0, 1, 2] rfl rfl ?_
        exact tm_keys_23 w d hd _ _ _
      · refine e_op 20 em_370 (ce_at ce_370 9 rfl) rfl rfl ?_
        exact e_retz em_370 (ce_at ce_370 10 rfl) (by decide)
theorem fm_keys (v1 : Int) (s : iS) : Fm Prod.snd L_m_keys G_m_keys s (m_keys v1 s) := fm_gd (fm_if (fm_some md_refl) (fm_if (fm_some md_refl) (fm_gd (fm_if (fm_keys_23 _ _ _) (fm_some md_refl)))))
/-! m_step -/
def L_m_step : List Nat := []
def G_m_step : List (Nat × Nat) := [(121, 96), (121, 99)]
noncomputable def m_step (s : iS) : Option (Int × iS) := gd (rg (s 121 96)) (gd (rg (s 121 97)) (if (s 121 96) = (s 121 97) then lt' (up s 121 99 1) (fun s5 => some (0, s5)) else lt' (up s 121 96 ((s 121 96) + 1)) (fun s4 => some (1, s4))))
theorem tm_step (w : ev_W) (d : Nat) (hd : 0 ≤ d) (s : iS) : Ew hT w d 373 0 [(0, .ref (tb_nK + 121))] [] s (Ci hT) (m_step s) := by
  unfold m_step
  refine e_mv 1 em_373 (ce_at ce_373 0 rfl) rfl rfl ?_
  refine e_get 4 em_373 (ce_at ce_373 1 rfl) tq_121 rfl rfl ?_
  refine e_mv 5 em_373 (ce_at ce_373 2 rfl) rfl rfl ?_
  refine e_get 8 em_373 (ce_at ce_373 3 rfl) tq_121 rfl rfl ?_
  refine e_gd fun g1 => ?_
  refine e_gd fun g2 => ?_
  refine e_cmne 18 11 em_373 rfl rfl (ce_at ce_373 4 rfl) g1 g2 (fun h3 => ?_) (fun h3 => ?_)
  · refine e_mv 19 em_373 (ce_at ce_373 10 rfl) rfl rfl ?_
    refine e_mv 20 em_373 (ce_at ce_373 11 rfl) rfl rfl ?_
    refine e_get 23 em_373 (ce_at ce_373 12 rfl) tq_121 rfl rfl ?_
    refine e_op 24 em_373 (ce_at ce_373 13 rfl) rfl rfl ?_
    refine e_iadd 25 em_373 rfl (ce_at ce_373 14 rfl) ?_
    refine e_put 28 em_373 (ce_at ce_373 15 rfl) tq_121 rfl rfl rfl (fun s4 => ?_)
    refine e_op 29 em_373 (ce_at ce_373 16 rfl) rfl rfl ?_
    exact e_retz em_373 (ce_at ce_373 17 rfl) (by decide)
  · refine e_mv 12 em_373 (ce_at ce_373 5 rfl) rfl rfl ?_
    refine e_op 13 em_373 (ce_at ce_373 6 rfl) rfl rfl ?_
    refine e_put 16 em_373 (ce_at ce_373 7 rfl) tq_121 rfl rfl rfl (fun s5 => ?_)
    refine e_op 17 em_373 (ce_at ce_373 8 rfl) rfl rfl ?_
    exact e_retz em_373 (ce_at ce_373 9 rfl) (by decide)
theorem fm_step (s : iS) : Fm Prod.snd L_m_step G_m_step s (m_step s) := fm_gd (fm_gd (fm_if (fm_lt (md_upF (mem_F rfl)) (fun s5 => fm_some md_refl)) (fm_lt (md_upF (mem_F rfl)) (fun s4 => fm_some md_refl))))
/-! m_pop -/
def L_m_pop : List Nat := []
def G_m_pop : List (Nat × Nat) := [(121, 87)]
noncomputable def m_pop (s : iS) : Option (Int × iS) := lt' (up s 121 87 ((s 121 87) - 1)) (fun s1 => gd (0 ≤ (s1 121 87) ∧ (s1 121 87) < 20000) (some ((s1 180 (s1 121 87).toNat), s1)))
theorem tm_pop (w : ev_W) (d : Nat) (hd : 0 ≤ d) (s : iS) : Ew hT w d 374 0 [(0, .ref (tb_nK + 121))] [] s (Ci hT) (m_pop s) := by
  unfold m_pop
  refine e_mv 1 em_374 (ce_at ce_374 0 rfl) rfl rfl ?_
  refine e_mv 2 em_374 (ce_at ce_374 1 rfl) rfl rfl ?_
  refine e_get 5 em_374 (ce_at ce_374 2 rfl) tq_121 rfl rfl ?_
  refine e_op 6 em_374 (ce_at ce_374 3 rfl) rfl rfl ?_
  refine e_isub 7 em_374 rfl (ce_at ce_374 4 rfl) ?_
  refine e_put 10 em_374 (ce_at ce_374 5 rfl) tq_121 rfl rfl rfl (fun s1 => ?_)
  refine e_mv 11 em_374 (ce_at ce_374 6 rfl) rfl rfl ?_
  refine e_getr 14 em_374 (ce_at ce_374 7 rfl) tq_121 rfl rfl ?_
  refine e_mv 15 em_374 (ce_at ce_374 8 rfl) rfl rfl ?_
  refine e_get 18 em_374 (ce_at ce_374 9 rfl) tq_121 rfl rfl ?_
  refine e_gd fun g2 => ?_
  refine e_ild 19 em_374 (ce_at ce_374 10 rfl) tq_180 (by decide) g2 rfl ?_
  exact e_reti em_374 (ce_at ce_374 11 rfl)
theorem fm_pop (s : iS) : Fm Prod.snd L_m_pop G_m_pop s (m_pop s) := fm_lt (md_upF (mem_F rfl)) (fun s1 => fm_gd (fm_some md_refl))
/-! m_err -/
def L_m_err : List Nat := []
def G_m_err : List (Nat × Nat) := [(121, 99), (121, 100)]
noncomputable def m_err (v1 : Int) (s : iS) : Option (Int × iS) := gd (rg (s 121 99)) (if (s 121 99) = (-1) then lt' (up s 121 99 3) (fun s3 => lt' (up s3 121 100 v1) (fun s4 => some (0, s4))) else some (0, s))
theorem tm_err (w : ev_W) (d : Nat) (hd : 0 ≤ d) (v1 : Int) (s : iS) : Ew hT w d 376 0 [(0, .ref (tb_nK + 121)), (1, iv v1)] [] s (Cv hT) (m_err v1 s) := by
  unfold m_err
  refine e_mv 1 em_376 (ce_at ce_376 0 rfl) rfl rfl ?_
  refine e_get 4 em_376 (ce_at ce_376 1 rfl) tq_121 rfl rfl ?_
  refine e_op 5 em_376 (ce_at ce_376 2 rfl) rfl rfl ?_
  refine e_gd fun g1 => ?_
  refine e_cmeq 9 8 em_376 rfl rfl (ce_at ce_376 3 rfl) g1 (by decide) (fun h2 => ?_) (fun h2 => ?_)
  · refine e_mv 10 em_376 (ce_at ce_376 5 rfl) rfl rfl ?_
    refine e_op 11 em_376 (ce_at ce_376 6 rfl) rfl rfl ?_
    refine e_put 14 em_376 (ce_at ce_376 7 rfl) tq_121 rfl rfl rfl (fun s3 => ?_)
    refine e_mv 15 em_376 (ce_at ce_376 8 rfl) rfl rfl ?_
    refine e_mv 16 em_376 (ce_at ce_376 9 rfl) rfl rfl ?_
    refine e_put 19 em_376 (ce_at ce_376 10 rfl) tq_121 rfl rfl rfl (fun s4 => ?_)
    exact e_retv em_376 (ce_at ce_376 11 rfl)
  · exact e_retv em_376 (ce_at ce_376 4 rfl)
theorem fm_err (v1 : Int) (s : iS) : Fm Prod.snd L_m_err G_m_err s (m_err v1 s) := fm_gd (fm_if (fm_lt (md_upF (mem_F rfl)) (fun s3 => fm_lt (md_upF (mem_F rfl)) (fun s4 => fm_some md_refl))) (fm_some md_refl))
/-! m_freeAt -/
def L_m_freeAt : List Nat := []
def G_m_freeAt : List (Nat × Nat) := []
def m_freeAt_15C (w : ev_W) (d : Nat) (v1 : Int) : (Int × Int × Int × iS) ⊕ (Int × Int × iS) → am_E → Prop := fun q r => q.elim (fun l => ev w d 377 15 ((fun l => [(0, .ref (tb_nK + 121)), (1, iv v1), (2, iv (l.1)), (3, iv (l.2.1)), (4, iv (l.2.2.1))]) l) [] (hT ((fun l => l.2.2.2) l)) r) (fun e => (fun e r => ev w d 377 83 [(0, .ref (tb_nK + 121)), (1, iv v1), (2, iv (e.1)), (3, iv (e.2.1))] [] (hT (e.2.2)) r) e r)
noncomputable def m_freeAt_15b (v1 : Int) (v2 : Int) (v3 : Int) (v4 : Int) (s : iS) : Option ((Int × Int × Int × iS) ⊕ (Int × Int × iS)) := gd (rg v4) (gd (rg (s 121 81)) (if (s 121 81) ≤ v4 then some (.inr (v2, v3, s)) else gd (0 ≤ v4 ∧ v4 < 100) (gd (rg (s 176 v4.toNat)) (gd (rg (v2 + v1)) (if (v2 + v1) ≤ (s 176 v4.toNat) then some (.inl (v2, v3, (v4 + 1), s)) else gd (rg ((s 176 v4.toNat) + (s 177 v4.toNat))) (gd (rg v2) (if v2 < ((s 176 v4.toNat) + (s 177 v4.toNat)) then some (.inl (((s 176 v4.toNat) + (s 177 v4.toNat)), 1, (v4 + 1), s)) else some (.inl (v2, v3, (v4 + 1), s)))))))))
theorem tm_freeAt_15b (w : ev_W) (d : Nat) (hd : 0 ≤ d) (v1 : Int) (v2 : Int) (v3 : Int) (v4 : Int) (s : iS) : Ew hT w d 377 15 [(0, .ref (tb_nK + 121)), (1, iv v1), (2, iv v2), (3, iv v3), (4, iv v4)] [] s (m_freeAt_15C w d v1) (m_freeAt_15b v1 v2 v3 v4 s) := by
  unfold m_freeAt_15b
  refine e_mv 17 em_377 (ce_at ce_377 10 rfl) rfl rfl ?_
  refine e_mv 18 em_377 (ce_at ce_377 11 rfl) rfl rfl ?_
  refine e_get 21 em_377 (ce_at ce_377 12 rfl) tq_121 rfl rfl ?_
  refine e_gd fun g1 => ?_
  refine e_gd fun g2 => ?_
  refine e_cmge 83 24 em_377 rfl rfl (ce_at ce_377 13 rfl) g1 g2 (fun h3 => ?_) (fun h3 => ?_)
  · refine e_pk [0, 1, 2, 3] rfl rfl ?_
    exact e_out (fun r h => h)
  · refine e_mv 25 em_377 (ce_at ce_377 14 rfl) rfl rfl ?_
    refine e_getr 28 em_377 (ce_at ce_377 15 rfl) tq_121 rfl rfl ?_
    refine e_mv 30 em_377 (ce_at ce_377 16 rfl) rfl rfl ?_
    refine e_gd fun g4 => ?_
    refine e_ild 31 em_377 (ce_at ce_377 17 rfl) tq_176 (by decide) g4 rfl ?_
    refine e_mv 32 em_377 (ce_at ce_377 18 rfl) rfl rfl ?_
    refine e_mv 33 em_377 (ce_at ce_377 19 rfl) rfl rfl ?_
    refine e_iadd 34 em_377 rfl (ce_at ce_377 20 rfl) ?_
    refine e_gd fun g5 => ?_
    refine e_gd fun g6 => ?_
    refine e_cmge 77 37 em_377 rfl rfl (ce_at ce_377 21 rfl) g5 g6 (fun h7 => ?_) (fun h7 => ?_)
    · refine e_iinc 80 em_377 (ce_at ce_377 46 rfl) rfl (by decide) rfl ?_
      refine e_goto em_377 15 (ce_at ce_377 47 rfl) rfl ?_
      refine e_pk [0, 1, 2, 3, 4] rfl rfl ?_
      exact e_out (fun r h => h)
    · refine e_mv 38 em_377 (ce_at ce_377 22 rfl) rfl rfl ?_
      refine e_getr 41 em_377 (ce_at ce_377 23 rfl) tq_121 rfl rfl ?_
      refine e_mv 43 em_377 (ce_at ce_377 24 rfl) rfl rfl ?_
      refine e_ild 44 em_377 (ce_at ce_377 25 rfl) tq_176 (by decide) g4 rfl ?_
      refine e_mv 45 em_377 (ce_at ce_377 26 rfl) rfl rfl ?_
      refine e_getr 48 em_377 (ce_at ce_377 27 rfl) tq_121 rfl rfl ?_
      refine e_mv 50 em_377 (ce_at ce_377 28 rfl) rfl rfl ?_
      refine e_ild 51 em_377 (ce_at ce_377 29 rfl) tq_177 (by decide) g4 rfl ?_
      refine e_iadd 52 em_377 rfl (ce_at ce_377 30 rfl) ?_
      refine e_mv 53 em_377 (ce_at ce_377 31 rfl) rfl rfl ?_
      refine e_gd fun g8 => ?_
      refine e_gd fun g9 => ?_
      refine e_cmgt 59 56 em_377 rfl rfl (ce_at ce_377 32 rfl) g8 g9 (fun h10 => ?_) (fun h10 => ?_)
      · refine e_mv 60 em_377 (ce_at ce_377 34 rfl) rfl rfl ?_
        refine e_getr 63 em_377 (ce_at ce_377 35 rfl) tq_121 rfl rfl ?_
        refine e_mv 65 em_377 (ce_at ce_377 36 rfl) rfl rfl ?_
        refine e_ild 66 em_377 (ce_at ce_377 37 rfl) tq_176 (by decide) g4 rfl ?_
        refine e_mv 67 em_377 (ce_at ce_377 38 rfl) rfl rfl ?_
        refine e_getr 70 em_377 (ce_at ce_377 39 rfl) tq_121 rfl rfl ?_
        refine e_mv 72 em_377 (ce_at ce_377 40 rfl) rfl rfl ?_
        refine e_ild 73 em_377 (ce_at ce_377 41 rfl) tq_177 (by decide) g4 rfl ?_
        refine e_iadd 74 em_377 rfl (ce_at ce_377 42 rfl) ?_
        refine e_mv 75 em_377 (ce_at ce_377 43 rfl) rfl rfl ?_
        refine e_op 76 em_377 (ce_at ce_377 44 rfl) rfl rfl ?_
        refine e_mv 77 em_377 (ce_at ce_377 45 rfl) rfl rfl ?_
        refine e_iinc 80 em_377 (ce_at ce_377 46 rfl) rfl (by decide) rfl ?_
        refine e_goto em_377 15 (ce_at ce_377 47 rfl) rfl ?_
        refine e_pk [0, 1, 2, 3, 4] rfl rfl ?_
        exact e_out (fun r h => h)
      · refine e_goto em_377 77 (ce_at ce_377 33 rfl) rfl ?_
        refine e_iinc 80 em_377 (ce_at ce_377 46 rfl) rfl (by decide) rfl ?_
        refine e_goto em_377 15 (ce_at ce_377 47 rfl) rfl ?_
        refine e_pk [0, 1, 2, 3, 4] rfl rfl ?_
        exact e_out (fun r h => h)
theorem fm_freeAt_15b (v1 : Int) (v2 : Int) (v3 : Int) (v4 : Int) (s : iS) : Fm (fun r : (Int × Int × Int × iS) ⊕ (Int × Int × iS) => r.elim (fun l => l.2.2.2) (fun e => e.2.2)) L_m_freeAt G_m_freeAt s (m_freeAt_15b v1 v2 v3 v4 s) := fm_gd (fm_gd (fm_if (fm_some md_refl) (fm_gd (fm_gd (fm_gd (fm_if (fm_some md_refl) (fm_gd (fm_gd (fm_if (fm_some md_refl) (fm_some md_refl))))))))))
def m_freeAt_6C (w : ev_W) (d : Nat) (v1 : Int) : (Int × Int × iS) ⊕ (Int × iS) → am_E → Prop := fun q r => q.elim (fun l => ev w d 377 6 ((fun l => [(0, .ref (tb_nK + 121)), (1, iv v1), (2, iv (l.1)), (3, iv (l.2.1))]) l) [] (hT ((fun l => l.2.2) l)) r) (fun e => (fun e r => ev w d 377 86 [(1, iv v1), (2, iv (e.1))] [] (hT (e.2)) r) e r)
noncomputable def m_freeAt_15 (v1 : Int) (v2 : Int) (v3 : Int) (v4 : Int) (s : iS) : Option ((Int × Int × iS) ⊕ (Int × iS)) := (lp (L := Int × Int × Int × iS) (E := Int × Int × iS) (fun l => m_freeAt_15b v1 (l.1) (l.2.1) (l.2.2.1) (l.2.2.2)) (v2, v3, v4, s)).bind (fun e => some (.inl (e.1, e.2.1, e.2.2)))
theorem tm_freeAt_15 (w : ev_W) (d : Nat) (hd : 0 ≤ d) (v1 : Int) (v2 : Int) (v3 : Int) (v4 : Int) (s : iS) : Ew hT w d 377 15 [(0, .ref (tb_nK + 121)), (1, iv v1), (2, iv v2), (3, iv v3), (4, iv v4)] [] s (m_freeAt_6C w d v1) (m_freeAt_15 v1 v2 v3 v4 s) := by
  unfold m_freeAt_15
  refine e_lp (L := Int × Int × Int × iS) (E := Int × Int × iS) (LO := fun l => [(0, .ref (tb_nK + 121)), (1, iv v1), (2, iv (l.1)), (3, iv (l.2.1)), (4, iv (l.2.2.1))]) (LS := fun l => l.2.2.2) (CE := fun e r => ev w d 377 83 [(0, .ref (tb_nK + 121)), (1, iv v1), (2, iv (e.1)), (3, iv (e.2.1))] [] (hT (e.2.2)) r) (fun l => tm_freeAt_15b w d hd _ _ _ _ _) ?_ (v2, v3, v4, s)
  intro e
  show Ew hT w d 377 83 [(0, .ref (tb_nK + 121)), (1, iv v1), (2, iv (e.1)), (3, iv (e.2.1))] [] e.2.2 (m_freeAt_6C w d v1) _
  refine e_goto em_377 6 (ce_at ce_377 48 rfl) rfl ?_
  refine e_pk [0, 1, 2, 3] rfl rfl ?_
  exact e_out (fun r h => h)
theorem fm_freeAt_15 (v1 : Int) (v2 : Int) (v3 : Int) (v4 : Int) (s : iS) : Fm (fun r : (Int × Int × iS) ⊕ (Int × iS) => r.elim (fun l => l.2.2) (fun e => e.2)) L_m_freeAt G_m_freeAt s (m_freeAt_15 v1 v2 v3 v4 s) := by
  unfold m_freeAt_15
  refine fm_lp (A := Int × Int × Int × iS) (E := Int × Int × iS) (LS := fun l => l.2.2.2) (LE := fun e => e.2.2) ?_ ?_ (v2, v3, v4, s)
  · exact fun l => fm_freeAt_15b _ _ _ _ _
  · exact (fun e => fm_some md_refl)
noncomputable def m_freeAt_6b (v1 : Int) (v2 : Int) (v3 : Int) (s : iS) : Option ((Int × Int × iS) ⊕ (Int × iS)) := gd (rg v3) (if v3 = 0 then some (.inr (v2, s)) else m_freeAt_15 v1 v2 0 0 s)
theorem tm_freeAt_6b (w : ev_W) (d : Nat) (hd : 0 ≤ d) (v1 : Int) (v2 : Int) (v3 : Int) (s : iS) : Ew hT w d 377 6 [(0, .ref (tb_nK + 121)), (1, iv v1), (2, iv v2), (3, iv v3)] [] s (m_freeAt_6C w d v1) (m_freeAt_6b v1 v2 v3 s) := by
  unfold m_freeAt_6b
  refine e_mv 7 em_377 (ce_at ce_377 4 rfl) rfl rfl ?_
  refine e_gd fun g1 => ?_
  refine e_ifeq 86 10 em_377 rfl rfl (ce_at ce_377 5 rfl) g1 (fun h2 => ?_) (fun h2 => ?_)
  · refine e_pk [1, 2] rfl rfl ?_
    exact e_out (fun r h => h)
  · refine e_op 11 em_377 (ce_at ce_377 6 rfl) rfl rfl ?_
    refine e_mv 12 em_377 (ce_at ce_377 7 rfl) rfl rfl ?_
    refine e_op 13 em_377 (ce_at ce_377 8 rfl) rfl rfl ?_
    refine e_mv 15 em_377 (ce_at ce_377 9 rfl) rfl rfl ?_
    refine e_pk [0, 1, 2, 3, 4] rfl rfl ?_
    exact tm_freeAt_15 w d hd _ _ _ _ _
theorem fm_freeAt_6b (v1 : Int) (v2 : Int) (v3 : Int) (s : iS) : Fm (fun r : (Int × Int × iS) ⊕ (Int × iS) => r.elim (fun l => l.2.2) (fun e => e.2)) L_m_freeAt G_m_freeAt s (m_freeAt_6b v1 v2 v3 s) := fm_gd (fm_if (fm_some md_refl) (fm_freeAt_15 _ _ _ _ _))
noncomputable def m_freeAt_86 (v1 : Int) (v2 : Int) (s : iS) : Option (Int × iS) := gd (rg (v2 + v1)) (if 14336 < (v2 + v1) then some ((-1), s) else some (v2, s))
theorem tm_freeAt_86 (w : ev_W) (d : Nat) (hd : 0 ≤ d) (v1 : Int) (v2 : Int) (s : iS) : Ew hT w d 377 86 [(1, iv v1), (2, iv v2)] [] s (Ci hT) (m_freeAt_86 v1 v2 s) := by
  unfold m_freeAt_86
  refine e_mv 87 em_377 (ce_at ce_377 49 rfl) rfl rfl ?_
  refine e_mv 88 em_377 (ce_at ce_377 50 rfl) rfl rfl ?_
  refine e_iadd 89 em_377 rfl (ce_at ce_377 51 rfl) ?_
  refine e_sip 92 em_377 (ce_at ce_377 52 rfl) (by decide) rfl ?_
  refine e_gd fun g1 => ?_
  refine e_cmgt 99 95 em_377 rfl rfl (ce_at ce_377 53 rfl) g1 (by decide) (fun h2 => ?_) (fun h2 => ?_)
  · refine e_op 100 em_377 (ce_at ce_377 56 rfl) rfl rfl ?_
    exact e_reti em_377 (ce_at ce_377 57 rfl)
  · refine e_mv 96 em_377 (ce_at ce_377 54 rfl) rfl rfl ?_
    refine e_goto em_377 100 (ce_at ce_377 55 rfl) rfl ?_
    exact e_reti em_377 (ce_at ce_377 57 rfl)
theorem fm_freeAt_86 (v1 : Int) (v2 : Int) (s : iS) : Fm Prod.snd L_m_freeAt G_m_freeAt s (m_freeAt_86 v1 v2 s) := fm_gd (fm_if (fm_some md_refl) (fm_some md_refl))
noncomputable def m_freeAt_6 (v1 : Int) (v2 : Int) (v3 : Int) (s : iS) : Option (Int × iS) := (lp (L := Int × Int × iS) (E := Int × iS) (fun l => m_freeAt_6b v1 (l.1) (l.2.1) (l.2.2)) (v2, v3, s)).bind (fun e => m_freeAt_86 v1 (e.1) (e.2))
theorem tm_freeAt_6 (w : ev_W) (d : Nat) (hd : 0 ≤ d) (v1 : Int) (v2 : Int) (v3 : Int) (s : iS) : Ew hT w d 377 6 [(0, .ref (tb_nK + 121)), (1, iv v1), (2, iv v2), (3, iv v3)] [] s (Ci hT) (m_freeAt_6 v1 v2 v3 s) := by
  unfold m_freeAt_6
  refine e_lp (L := Int × Int × iS) (E := Int × iS) (LO := fun l => [(0, .ref (tb_nK + 121)), (1, iv v1), (2, iv (l.1)), (3, iv (l.2.1))]) (LS := fun l => l.2.2) (CE := fun e r => ev w d 377 86 [(1, iv v1), (2, iv (e.1))] [] (hT (e.2)) r) (fun l => tm_freeAt_6b w d hd _ _ _ _) ?_ (v2, v3, s)
  intro e
  show Ew hT w d 377 86 [(1, iv v1), (2, iv (e.1))] [] e.2 (Ci hT) _
  refine e_pk [1, 2] rfl rfl ?_
  exact tm_freeAt_86 w d hd _ _ _
theorem fm_freeAt_6 (v1 : Int) (v2 : Int) (v3 : Int) (s : iS) : Fm Prod.snd L_m_freeAt G_m_freeAt s (m_freeAt_6 v1 v2 v3 s) := by
  unfold m_freeAt_6
  refine fm_lp (A := Int × Int × iS) (E := Int × iS) (LS := fun l => l.2.2) (LE := fun e => e.2) ?_ ?_ (v2, v3, s)
  · exact fun l => fm_freeAt_6b _ _ _ _
  · exact (fun e => fm_freeAt_86 _ _ _)
noncomputable def m_freeAt (v1 : Int) (s : iS) : Option (Int × iS) := m_freeAt_6 v1 2048 1 s
theorem tm_freeAt (w : ev_W) (d : Nat) (hd : 0 ≤ d) (v1 : Int) (s : iS) : Ew hT w d 377 0 [(0, .ref (tb_nK + 121)), (1, iv v1)] [] s (Ci hT) (m_freeAt v1 s) := by
  unfold m_freeAt
  refine e_sip 3 em_377 (ce_at ce_377 0 rfl) (by decide) rfl ?_
  refine e_mv 4 em_377 (ce_at ce_377 1 rfl) rfl rfl ?_
  refine e_op 5 em_377 (ce_at ce_377 2 rfl) rfl rfl ?_
  refine e_mv 6 em_377 (ce_at ce_377 3 rfl) rfl rfl ?_
  refine e_pk [0, 1, 2, 3] rfl rfl ?_
  exact tm_freeAt_6 w d hd _ _ _ _
theorem fm_freeAt (v1 : Int) (s : iS) : Fm Prod.snd L_m_freeAt G_m_freeAt s (m_freeAt v1 s) := fm_freeAt_6 _ _ _ _
/-! m_make -/
def L_m_make : List Nat := [176, 177]
def G_m_make : List (Nat × Nat) := [(121, 81), (121, 99), (121, 100)]
noncomputable def m_make_48 (v1 : Int) (v2 : Int) (s : iS) : Option (Int × iS) := gd (rg (s 121 99)) (if (s 121 99) = (-1) then gd (0 ≤ (s 121 81) ∧ (s 121 81) < 100) (lt' (up s 176 (s 121 81).toNat v2) (fun s4 => gd (0 ≤ (s4 121 81) ∧ (s4 121 81) < 100) (lt' (up s4 177 (s4 121 81).toNat v1) (fun s6 => lt' (up s6 121 81 ((s6 121 81) + 1)) (fun s7 => some (v2, s7)))))) else some (0, s))
theorem tm_make_48 (w : ev_W) (d : Nat) (hd : 1 ≤ d) (v1 : Int) (v2 : Int) (s : iS) : Ew hT w d 375 48 [(0, .ref (tb_nK + 121)), (1, iv v1), (2, iv v2)] [] s (Ci hT) (m_make_48 v1 v2 s) := by
  unfold m_make_48
  refine e_mv 49 em_375 (ce_at ce_375 26 rfl) rfl rfl ?_
  refine e_get 52 em_375 (ce_at ce_375 27 rfl) tq_121 rfl rfl ?_
  refine e_op 53 em_375 (ce_at ce_375 28 rfl) rfl rfl ?_
  refine e_gd fun g1 => ?_
  refine e_cmeq 58 56 em_375 rfl rfl (ce_at ce_375 29 rfl) g1 (by decide) (fun h2 => ?_) (fun h2 => ?_)
  · refine e_mv 59 em_375 (ce_at ce_375 32 rfl) rfl rfl ?_
    refine e_getr 62 em_375 (ce_at ce_375 33 rfl) tq_121 rfl rfl ?_
    refine e_mv 63 em_375 (ce_at ce_375 34 rfl) rfl rfl ?_
    refine e_get 66 em_375 (ce_at ce_375 35 rfl) tq_121 rfl rfl ?_
    refine e_mv 67 em_375 (ce_at ce_375 36 rfl) rfl rfl ?_
    refine e_gd fun g3 => ?_
    refine e_ist 68 em_375 (ce_at ce_375 37 rfl) tq_176 (by decide) g3 rfl (fun s4 => ?_)
    refine e_mv 69 em_375 (ce_at ce_375 38 rfl) rfl rfl ?_
    refine e_getr 72 em_375 (ce_at ce_375 39 rfl) tq_121 rfl rfl ?_
    refine e_mv 73 em_375 (ce_at ce_375 40 rfl) rfl rfl ?_
    refine e_get 76 em_375 (ce_at ce_375 41 rfl) tq_121 rfl rfl ?_
    refine e_mv 77 em_375 (ce_at ce_375 42 rfl) rfl rfl ?_
    refine e_gd fun g5 => ?_
    refine e_ist 78 em_375 (ce_at ce_375 43 rfl) tq_177 (by decide) g5 rfl (fun s6 => ?_)
    refine e_mv 79 em_375 (ce_at ce_375 44 rfl) rfl rfl ?_
    refine e_mv 80 em_375 (ce_at ce_375 45 rfl) rfl rfl ?_
    refine e_get 83 em_375 (ce_at ce_375 46 rfl) tq_121 rfl rfl ?_
    refine e_op 84 em_375 (ce_at ce_375 47 rfl) rfl rfl ?_
    refine e_iadd 85 em_375 rfl (ce_at ce_375 48 rfl) ?_
    refine e_put 88 em_375 (ce_at ce_375 49 rfl) tq_121 rfl rfl rfl (fun s7 => ?_)
    refine e_mv 89 em_375 (ce_at ce_375 50 rfl) rfl rfl ?_
    exact e_reti em_375 (ce_at ce_375 51 rfl)
  · refine e_op 57 em_375 (ce_at ce_375 30 rfl) rfl rfl ?_
    exact e_reti em_375 (ce_at ce_375 31 rfl)
theorem fm_make_48 (v1 : Int) (v2 : Int) (s : iS) : Fm Prod.snd L_m_make G_m_make s (m_make_48 v1 v2 s) := fm_gd (fm_if (fm_gd (fm_lt (md_upL (mem_L rfl)) (fun s4 => fm_gd (fm_lt (md_upL (mem_L rfl)) (fun s6 => fm_lt (md_upF (mem_F rfl)) (fun s7 => fm_some md_refl)))))) (fm_some md_refl))
noncomputable def m_make_42 (v1 : Int) (v2 : Int) (s : iS) : Option (Int × iS) := bd (m_err 6 s) (fun _ s1 => m_make_48 v1 v2 s1)
theorem tm_make_42 (w : ev_W) (d : Nat) (hd : 1 ≤ d) (v1 : Int) (v2 : Int) (s : iS) : Ew hT w d 375 42 [(0, .ref (tb_nK + 121)), (1, iv v1), (2, iv v2)] [] s (Ci hT) (m_make_42 v1 v2 s) := by
  unfold m_make_42
  refine e_mv 43 em_375 (ce_at ce_375 23 rfl) rfl rfl ?_
  refine e_bip 45 em_375 (ce_at ce_375 24 rfl) (by decide) rfl ?_
  refine e_ivv 48 em_375 (ce_at ce_375 25 rfl) (by omega) (iv_v1 (by decide) tq_121 rfl) em_376 (Nat.le_of_ble_eq_true rfl) rfl (tm_err w (d - 1) (by omega) _ _) (fun r1 s1 => ?_)
  refine e_pk [0, 1, 2] rfl rfl ?_
  exact tm_make_48 w d hd _ _ _
theorem fm_make_42 (v1 : Int) (v2 : Int) (s : iS) : Fm Prod.snd L_m_make G_m_make s (m_make_42 v1 v2 s) := fm_bd (fm_sub (fm_err _ _) (mem_sub_L rfl) (mem_sub_F rfl)) (fun r1 s1 => fm_make_48 _ _ _)
noncomputable def m_make_27 (v1 : Int) (t0 : Int) (s : iS) : Option (Int × iS) := gd (rg t0) (if t0 = (-1) then m_make_42 v1 t0 s else gd (rg (s 121 81)) (if (s 121 81) = 100 then m_make_42 v1 t0 s else m_make_48 v1 t0 s))
theorem tm_make_27 (w : ev_W) (d : Nat) (hd : 1 ≤ d) (v1 : Int) (t0 : Int) (s : iS) : Ew hT w d 375 27 [(0, .ref (tb_nK + 121)), (1, iv v1)] [iv t0] s (Ci hT) (m_make_27 v1 t0 s) := by
  unfold m_make_27
  refine e_mv 28 em_375 (ce_at ce_375 15 rfl) rfl rfl ?_
  refine e_mv 29 em_375 (ce_at ce_375 16 rfl) rfl rfl ?_
  refine e_op 30 em_375 (ce_at ce_375 17 rfl) rfl rfl ?_
  refine e_gd fun g1 => ?_
  refine e_cmeq 42 33 em_375 rfl rfl (ce_at ce_375 18 rfl) g1 (by decide) (fun h2 => ?_) (fun h2 => ?_)
  · refine e_pk [0, 1, 2] rfl rfl ?_
    exact tm_make_42 w d hd _ _ _
  · refine e_mv 34 em_375 (ce_at ce_375 19 rfl) rfl rfl ?_
    refine e_get 37 em_375 (ce_at ce_375 20 rfl) tq_121 rfl rfl ?_
    refine e_bip 39 em_375 (ce_at ce_375 21 rfl) (by decide) rfl ?_
    refine e_gd fun g3 => ?_
    refine e_cmne 48 42 em_375 rfl rfl (ce_at ce_375 22 rfl) g3 (by decide) (fun h4 => ?_) (fun h4 => ?_)
    · refine e_pk [0, 1, 2] rfl rfl ?_
      exact tm_make_48 w d hd _ _ _
    · refine e_pk [0, 1, 2] rfl rfl ?_
      exact tm_make_42 w d hd _ _ _
theorem fm_make_27 (v1 : Int) (t0 : Int) (s : iS) : Fm Prod.snd L_m_make G_m_make s (m_make_27 v1 t0 s) := fm_gd (fm_if (fm_make_42 _ _ _) (fm_gd (fm_if (fm_make_42 _ _ _) (fm_make_48 _ _ _))))
noncomputable def m_make_10 (v1 : Int) (s : iS) : Option (Int × iS) := gd (rg (s 121 99)) (if (s 121 99) = (-1) then bd (m_freeAt v1 s) (fun r3 s3 => m_make_27 v1 r3 s3) else m_make_27 v1 0 s)
theorem tm_make_10 (w : ev_W) (d : Nat) (hd : 1 ≤ d) (v1 : Int) (s : iS) : Ew hT w d 375 10 [(0, .ref (tb_nK + 121)), (1, iv v1)] [] s (Ci hT) (m_make_10 v1 s) := by
  unfold m_make_10
  refine e_mv 11 em_375 (ce_at ce_375 6 rfl) rfl rfl ?_
  refine e_get 14 em_375 (ce_at ce_375 7 rfl) tq_121 rfl rfl ?_
  refine e_op 15 em_375 (ce_at ce_375 8 rfl) rfl rfl ?_
  refine e_gd fun g1 => ?_
  refine e_cmne 26 18 em_375 rfl rfl (ce_at ce_375 9 rfl) g1 (by decide) (fun h2 => ?_) (fun h2 => ?_)
  · refine e_op 27 em_375 (ce_at ce_375 14 rfl) rfl rfl ?_
    refine e_pk [0, 1] rfl rfl ?_
    exact tm_make_27 w d hd _ _ _
  · refine e_mv 19 em_375 (ce_at ce_375 10 rfl) rfl rfl ?_
    refine e_mv 20 em_375 (ce_at ce_375 11 rfl) rfl rfl ?_
    refine e_ivi 23 em_375 (ce_at ce_375 12 rfl) (by omega) (iv_v1 (by decide) tq_121 rfl) em_377 (Nat.le_of_ble_eq_true rfl) rfl (tm_freeAt w (d - 1) (by omega) _ _) (fun r3 s3 => ?_)
    refine e_goto em_375 27 (ce_at ce_375 13 rfl) rfl ?_
    refine e_pk [0, 1] rfl rfl ?_
    exact tm_make_27 w d hd _ _ _
theorem fm_make_10 (v1 : Int) (s : iS) : Fm Prod.snd L_m_make G_m_make s (m_make_10 v1 s) := fm_gd (fm_if (fm_bd (fm_sub (fm_freeAt _ _) (mem_sub_L rfl) (mem_sub_F rfl)) (fun r3 s3 => fm_make_27 _ _ _)) (fm_make_27 _ _ _))
noncomputable def m_make (v1 : Int) (s : iS) : Option (Int × iS) := gd (rg v1) (if 1 ≤ v1 then m_make_10 v1 s else bd (m_err 5 s) (fun _ s3 => m_make_10 v1 s3))
theorem tm_make (w : ev_W) (d : Nat) (hd : 1 ≤ d) (v1 : Int) (s : iS) : Ew hT w d 375 0 [(0, .ref (tb_nK + 121)), (1, iv v1)] [] s (Ci hT) (m_make v1 s) := by
  unfold m_make
  refine e_mv 1 em_375 (ce_at ce_375 0 rfl) rfl rfl ?_
  refine e_op 2 em_375 (ce_at ce_375 1 rfl) rfl rfl ?_
  refine e_gd fun g1 => ?_
  refine e_cmge 10 5 em_375 rfl rfl (ce_at ce_375 2 rfl) g1 (by decide) (fun h2 => ?_) (fun h2 => ?_)
  · refine e_pk [0, 1] rfl rfl ?_
    exact tm_make_10 w d hd _ _
  · refine e_mv 6 em_375 (ce_at ce_375 3 rfl) rfl rfl ?_
    refine e_op 7 em_375 (ce_at ce_375 4 rfl) rfl rfl ?_
    refine e_ivv 10 em_375 (ce_at ce_375 5 rfl) (by omega) (iv_v1 (by decide) tq_121 rfl) em_376 (Nat.le_of_ble_eq_true rfl) rfl (tm_err w (d - 1) (by omega) _ _) (fun r3 s3 => ?_)
    refine e_pk [0, 1] rfl rfl ?_
    exact tm_make_10 w d hd _ _
theorem fm_make (v1 : Int) (s : iS) : Fm Prod.snd L_m_make G_m_make s (m_make v1 s) := fm_gd (fm_if (fm_make_10 _ _) (fm_bd (fm_sub (fm_err _ _) (mem_sub_L rfl) (mem_sub_F rfl)) (fun r3 s3 => fm_make_10 _ _)))
/-! m_enter -/
def L_m_enter : List Nat := [176, 177, 179, 181, 182, 183, 184]
def G_m_enter : List (Nat × Nat) := [(121, 81), (121, 87), (121, 88), (121, 89), (121, 96), (121, 98), (121, 99), (121, 100)]
def m_enter_38C (w : ev_W) (d : Nat) (v1 : Int) (v2 : Int) (v3 : Int) : (Int × iS) ⊕ (iS) → am_E → Prop := fun q r => q.elim (fun l => ev w d 372 38 ((fun l => [(0, .ref (tb_nK + 121)), (1, iv v1), (2, iv v2), (3, iv v3), (4, iv (l.1))]) l) [] (hT ((fun l => l.2) l)) r) (fun e => (fun e r => ev w d 372 64 [(0, .ref (tb_nK + 121)), (1, iv v1), (2, iv v2), (3, iv v3)] [] (hT (e)) r) e r)
noncomputable def m_enter_38b (v1 : Int) (v2 : Int) (v3 : Int) (v4 : Int) (s : iS) : Option ((Int × iS) ⊕ (iS)) := gd (rg v4) (if 24 ≤ v4 then some (.inr s) else gd (0 ≤ ((24 * v3) + v4) ∧ ((24 * v3) + v4) < 1000) (lt' (up s 179 ((24 * v3) + v4).toNat 0) (fun s4 => some (.inl ((v4 + 1), s4)))))
theorem tm_enter_38b (w : ev_W) (d : Nat) (hd : 2 ≤ d) (v1 : Int) (v2 : Int) (v3 : Int) (v4 : Int) (s : iS) : Ew hT w d 372 38 [(0, .ref (tb_nK + 121)), (1, iv v1), (2, iv v2), (3, iv v3), (4, iv v4)] [] s (m_enter_38C w d v1 v2 v3) (m_enter_38b v1 v2 v3 v4 s) := by
  unfold m_enter_38b
  refine e_mv 40 em_372 (ce_at ce_372 22 rfl) rfl rfl ?_
  refine e_bip 42 em_372 (ce_at ce_372 23 rfl) (by decide) rfl ?_
  refine e_gd fun g1 => ?_
  refine e_cmge 64 45 em_372 rfl rfl (ce_at ce_372 24 rfl) g1 (by decide) (fun h2 => ?_) (fun h2 => ?_)
  · refine e_pk [0, 1, 2, 3] rfl rfl ?_
    exact e_out (fun r h => h)
  · refine e_mv 46 em_372 (ce_at ce_372 25 rfl) rfl rfl ?_
    refine e_getr 49 em_372 (ce_at ce_372 26 rfl) tq_121 rfl rfl ?_
    refine e_bip 51 em_372 (ce_at ce_372 27 rfl) (by decide) rfl ?_
    refine e_mv 52 em_372 (ce_at ce_372 28 rfl) rfl rfl ?_
    refine e_imul 53 em_372 rfl (ce_at ce_372 29 rfl) ?_
    refine e_mv 55 em_372 (ce_at ce_372 30 rfl) rfl rfl ?_
    refine e_iadd 56 em_372 rfl (ce_at ce_372 31 rfl) ?_
    refine e_op 57 em_372 (ce_at ce_372 32 rfl) rfl rfl ?_
    refine e_gd fun g3 => ?_
    refine e_ist 58 em_372 (ce_at ce_372 33 rfl) tq_179 (by decide) g3 rfl (fun s4 => ?_)
    refine e_iinc 61 em_372 (ce_at ce_372 34 rfl) rfl (by decide) rfl ?_
    refine e_goto em_372 38 (ce_at ce_372 35 rfl) rfl ?_
    refine e_pk [0, 1, 2, 3, 4] rfl rfl ?_
    exact e_out (fun r h => h)
theorem fm_enter_38b (v1 : Int) (v2 : Int) (v3 : Int) (v4 : Int) (s : iS) : Fm (fun r : (Int × iS) ⊕ (iS) => r.elim (fun l => l.2) (fun e => e)) L_m_enter G_m_enter s (m_enter_38b v1 v2 v3 v4 s) := fm_gd (fm_if (fm_some md_refl) (fm_gd (fm_lt (md_upL (mem_L rfl)) (fun s4 => fm_some md_refl))))
def m_enter_69C (w : ev_W) (d : Nat) (v1 : Int) (v3 : Int) : (Int × iS) ⊕ (iS) → am_E → Prop := fun q r => q.elim (fun l => ev w d 372 69 ((fun l => [(0, .ref (tb_nK + 121)), (1, iv v1), (3, iv v3), (4, iv (l.1))]) l) [] (hT ((fun l => l.2) l)) r) (fun e => (fun e r => ev w d 372 96 [(0, .ref (tb_nK + 121)), (1, iv v1), (3, iv v3)] [] (hT (e)) r) e r)
noncomputable def m_enter_69b (v1 : Int) (v3 : Int) (v4 : Int) (s : iS) : Option ((Int × iS) ⊕ (iS)) := gd (rg v4) (if v4 < 0 then some (.inr s) else bd (m_pop s) (fun r3 s3 => gd (0 ≤ ((24 * v3) + v4) ∧ ((24 * v3) + v4) < 1000) (lt' (up s3 179 ((24 * v3) + v4).toNat r3) (fun s5 => some (.inl ((v4 + (-1)), s5))))))
theorem tm_enter_69b (w : ev_W) (d : Nat) (hd : 2 ≤ d) (v1 : Int) (v3 : Int) (v4 : Int) (s : iS) : Ew hT w d 372 69 [(0, .ref (tb_nK + 121)), (1, iv v1), (3, iv v3), (4, iv v4)] [] s (m_enter_69C w d v1 v3) (m_enter_69b v1 v3 v4 s) := by
  unfold m_enter_69b
  refine e_mv 71 em_372 (ce_at ce_372 40 rfl) rfl rfl ?_
  refine e_gd fun g1 => ?_
  refine e_iflt 96 74 em_372 rfl rfl (ce_at ce_372 41 rfl) g1 (fun h2 => ?_) (fun h2 => ?_)
  · refine e_pk [0, 1, 3] rfl rfl ?_
    exact e_out (fun r h => h)
  · refine e_mv 75 em_372 (ce_at ce_372 42 rfl) rfl rfl ?_
    refine e_getr 78 em_372 (ce_at ce_372 43 rfl) tq_121 rfl rfl ?_
    refine e_bip 80 em_372 (ce_at ce_372 44 rfl) (by decide) rfl ?_
    refine e_mv 81 em_372 (ce_at ce_372 45 rfl) rfl rfl ?_
    refine e_imul 82 em_372 rfl (ce_at ce_372 46 rfl) ?_
    refine e_mv 84 em_372 (ce_at ce_372 47 rfl) rfl rfl ?_
    refine e_iadd 85 em_372 rfl (ce_at ce_372 48 rfl) ?_
    refine e_mv 86 em_372 (ce_at ce_372 49 rfl) rfl rfl ?_
    refine e_ivi 89 em_372 (ce_at ce_372 50 rfl) (by omega) (iv_v0 (by decide) tq_121 rfl) em_374 (Nat.le_of_ble_eq_true rfl) rfl (tm_pop w (d - 1) (by omega) _) (fun r3 s3 => ?_)
    refine e_gd fun g4 => ?_
    refine e_ist 90 em_372 (ce_at ce_372 51 rfl) tq_179 (by decide) g4 rfl (fun s5 => ?_)
    refine e_iinc 93 em_372 (ce_at ce_372 52 rfl) rfl (by decide) rfl ?_
    refine e_goto em_372 69 (ce_at ce_372 53 rfl) rfl ?_
    refine e_pk [0, 1, 3, 4] rfl rfl ?_
    exact e_out (fun r h => h)
theorem fm_enter_69b (v1 : Int) (v3 : Int) (v4 : Int) (s : iS) : Fm (fun r : (Int × iS) ⊕ (iS) => r.elim (fun l => l.2) (fun e => e)) L_m_enter G_m_enter s (m_enter_69b v1 v3 v4 s) := fm_gd (fm_if (fm_some md_refl) (fm_bd (fm_sub (fm_pop _) (mem_sub_L rfl) (mem_sub_F rfl)) (fun r3 s3 => fm_gd (fm_lt (md_upL (mem_L rfl)) (fun s5 => fm_some md_refl)))))
noncomputable def m_enter_235 (t0 : Int) (t2 : Int) (s : iS) : Option (Int × iS) := bd (m_make t0 s) (fun r1 s1 => gd (0 ≤ t2 ∧ t2 < 41) (lt' (up s1 183 t2.toNat r1) (fun s3 => some (0, s3))))
theorem tm_enter_235 (w : ev_W) (d : Nat) (hd : 2 ≤ d) (t0 : Int) (t2 : Int) (s : iS) : Ew hT w d 372 235 [] [iv t0, .ref (tb_nK + 121), iv t2, .ref (tb_nK + 183)] s (Cv hT) (m_enter_235 t0 t2 s) := by
  unfold m_enter_235
  refine e_ivi 238 em_372 (ce_at ce_372 134 rfl) (by omega) (iv_v1 (by decide) tq_121 rfl) em_375 (Nat.le_of_ble_eq_true rfl) rfl (tm_make w (d - 1) (by omega) _ _) (fun r1 s1 => ?_)
  refine e_gd fun g2 => ?_
  refine e_ist 239 em_372 (ce_at ce_372 135 rfl) tq_183 (by decide) g2 rfl (fun s3 => ?_)
  exact e_retv em_372 (ce_at ce_372 136 rfl)
theorem fm_enter_235 (t0 : Int) (t2 : Int) (s : iS) : Fm Prod.snd L_m_enter G_m_enter s (m_enter_235 t0 t2 s) := fm_bd (fm_sub (fm_make _ _) (mem_sub_L rfl) (mem_sub_F rfl)) (fun r1 s1 => fm_gd (fm_lt (md_upL (mem_L rfl)) (fun s3 => fm_some md_refl)))
noncomputable def m_enter_180 (v1 : Int) (v3 : Int) (t0 : Int) (s : iS) : Option (Int × iS) := lt' (up s 121 89 t0) (fun s1 => gd (0 ≤ v1 ∧ v1 < 61) (lt' (up s1 121 98 (s1 136 v1.toNat)) (fun s3 => gd (rg (s3 131 v1.toNat)) (if (s3 131 v1.toNat) = 1 then gd (0 ≤ (s3 130 v1.toNat) ∧ (s3 130 v1.toNat) < 13) (gd (rg (s3 129 (s3 130 v1.toNat).toNat)) (if 1 ≤ (s3 129 (s3 130 v1.toNat).toNat) then m_enter_235 (s3 129 (s3 130 v1.toNat).toNat) v3 s3 else m_enter_235 1 v3 s3)) else some (0, s3)))))
theorem tm_enter_180 (w : ev_W) (d : Nat) (hd : 2 ≤ d) (v1 : Int) (v3 : Int) (t0 : Int) (s : iS) : Ew hT w d 372 180 [(0, .ref (tb_nK + 121)), (1, iv v1), (3, iv v3)] [iv t0, .ref (tb_nK + 121)] s (Cv hT) (m_enter_180 v1 v3 t0 s) := by
  unfold m_enter_180
  refine e_put 183 em_372 (ce_at ce_372 102 rfl) tq_121 rfl rfl rfl (fun s1 => ?_)
  refine e_mv 184 em_372 (ce_at ce_372 103 rfl) rfl rfl ?_
  refine e_mv 185 em_372 (ce_at ce_372 104 rfl) rfl rfl ?_
  refine e_getr 188 em_372 (ce_at ce_372 105 rfl) tq_121 rfl rfl ?_
  refine e_mv 189 em_372 (ce_at ce_372 106 rfl) rfl rfl ?_
  refine e_gd fun g2 => ?_
  refine e_ild 190 em_372 (ce_at ce_372 107 rfl) tq_136 (by decide) g2 rfl ?_
  refine e_put 193 em_372 (ce_at ce_372 108 rfl) tq_121 rfl rfl rfl (fun s3 => ?_)
  refine e_mv 194 em_372 (ce_at ce_372 109 rfl) rfl rfl ?_
  refine e_getr 197 em_372 (ce_at ce_372 110 rfl) tq_121 rfl rfl ?_
  refine e_mv 198 em_372 (ce_at ce_372 111 rfl) rfl rfl ?_
  refine e_ild 199 em_372 (ce_at ce_372 112 rfl) tq_131 (by decide) g2 rfl ?_
  refine e_op 200 em_372 (ce_at ce_372 113 rfl) rfl rfl ?_
  refine e_gd fun g4 => ?_
  refine e_cmeq 204 203 em_372 rfl rfl (ce_at ce_372 114 rfl) g4 (by decide) (fun h5 => ?_) (fun h5 => ?_)
  · refine e_mv 205 em_372 (ce_at ce_372 116 rfl) rfl rfl ?_
    refine e_getr 208 em_372 (ce_at ce_372 117 rfl) tq_121 rfl rfl ?_
    refine e_mv 209 em_372 (ce_at ce_372 118 rfl) rfl rfl ?_
    refine e_getr 212 em_372 (ce_at ce_372 119 rfl) tq_121 rfl rfl ?_
    refine e_mv 213 em_372 (ce_at ce_372 120 rfl) rfl rfl ?_
    refine e_ild 214 em_372 (ce_at ce_372 121 rfl) tq_130 (by decide) g2 rfl ?_
    refine e_gd fun g6 => ?_
    refine e_ild 215 em_372 (ce_at ce_372 122 rfl) tq_129 (by decide) g6 rfl ?_
    refine e_mv 217 em_372 (ce_at ce_372 123 rfl) rfl rfl ?_
    refine e_mv 218 em_372 (ce_at ce_372 124 rfl) rfl rfl ?_
    refine e_getr 221 em_372 (ce_at ce_372 125 rfl) tq_121 rfl rfl ?_
    refine e_mv 222 em_372 (ce_at ce_372 126 rfl) rfl rfl ?_
    refine e_mv 223 em_372 (ce_at ce_372 127 rfl) rfl rfl ?_
    refine e_mv 225 em_372 (ce_at ce_372 128 rfl) rfl rfl ?_
    refine e_op 226 em_372 (ce_at ce_372 129 rfl) rfl rfl ?_
    refine e_gd fun g7 => ?_
    refine e_cmge 233 229 em_372 rfl rfl (ce_at ce_372 130 rfl) g7 (by decide) (fun h8 => ?_) (fun h8 => ?_)
    · refine e_mv 235 em_372 (ce_at ce_372 133 rfl) rfl rfl ?_
      refine e_pk [] rfl rfl ?_
      exact tm_enter_235 w d hd _ _ _
    · refine e_op 230 em_372 (ce_at ce_372 131 rfl) rfl rfl ?_
      refine e_goto em_372 235 (ce_at ce_372 132 rfl) rfl ?_
      refine e_pk [] rfl rfl ?_
      exact tm_enter_235 w d hd _ _ _
  · exact e_retv em_372 (ce_at ce_372 115 rfl)
theorem fm_enter_180 (v1 : Int) (v3 : Int) (t0 : Int) (s : iS) : Fm Prod.snd L_m_enter G_m_enter s (m_enter_180 v1 v3 t0 s) := fm_lt (md_upF (mem_F rfl)) (fun s1 => fm_gd (fm_lt (md_upF (mem_F rfl)) (fun s3 => fm_gd (fm_if (fm_gd (fm_gd (fm_if (fm_enter_235 _ _ _) (fm_enter_235 _ _ _)))) (fm_some md_refl)))))
noncomputable def m_enter_119 (v1 : Int) (v3 : Int) (t0 : Int) (t1 : Int) (s : iS) : Option (Int × iS) := gd (0 ≤ t1 ∧ t1 < 41) (lt' (up s 183 t1.toNat t0) (fun s2 => gd (0 ≤ v3 ∧ v3 < 41) (lt' (up s2 181 v3.toNat (s2 121 98)) (fun s4 => lt' (up s4 182 v3.toNat v1) (fun s5 => lt' (up s5 184 v3.toNat (s5 121 95)) (fun s6 => lt' (up s6 121 88 ((s6 121 88) + 1)) (fun s7 => gd (rg (s7 121 88)) (gd (rg (s7 121 89)) (if (s7 121 88) ≤ (s7 121 89) then m_enter_180 v1 v3 (s7 121 89) s7 else m_enter_180 v1 v3 (s7 121 88) s7)))))))))
theorem tm_enter_119 (w : ev_W) (d : Nat) (hd : 2 ≤ d) (v1 : Int) (v3 : Int) (t0 : Int) (t1 : Int) (s : iS) : Ew hT w d 372 119 [(0, .ref (tb_nK + 121)), (1, iv v1), (3, iv v3)] [iv t0, iv t1, .ref (tb_nK + 183)] s (Cv hT) (m_enter_119 v1 v3 t0 t1 s) := by
  unfold m_enter_119
  refine e_gd fun g1 => ?_
  refine e_ist 120 em_372 (ce_at ce_372 67 rfl) tq_183 (by decide) g1 rfl (fun s2 => ?_)
  refine e_mv 121 em_372 (ce_at ce_372 68 rfl) rfl rfl ?_
  refine e_getr 124 em_372 (ce_at ce_372 69 rfl) tq_121 rfl rfl ?_
  refine e_mv 125 em_372 (ce_at ce_372 70 rfl) rfl rfl ?_
  refine e_mv 126 em_372 (ce_at ce_372 71 rfl) rfl rfl ?_
  refine e_get 129 em_372 (ce_at ce_372 72 rfl) tq_121 rfl rfl ?_
  refine e_gd fun g3 => ?_
  refine e_ist 130 em_372 (ce_at ce_372 73 rfl) tq_181 (by decide) g3 rfl (fun s4 => ?_)
  refine e_mv 131 em_372 (ce_at ce_372 74 rfl) rfl rfl ?_
  refine e_getr 134 em_372 (ce_at ce_372 75 rfl) tq_121 rfl rfl ?_
  refine e_mv 135 em_372 (ce_at ce_372 76 rfl) rfl rfl ?_
  refine e_mv 136 em_372 (ce_at ce_372 77 rfl) rfl rfl ?_
  refine e_ist 137 em_372 (ce_at ce_372 78 rfl) tq_182 (by decide) g3 rfl (fun s5 => ?_)
  refine e_mv 138 em_372 (ce_at ce_372 79 rfl) rfl rfl ?_
  refine e_getr 141 em_372 (ce_at ce_372 80 rfl) tq_121 rfl rfl ?_
  refine e_mv 142 em_372 (ce_at ce_372 81 rfl) rfl rfl ?_
  refine e_mv 143 em_372 (ce_at ce_372 82 rfl) rfl rfl ?_
  refine e_get 146 em_372 (ce_at ce_372 83 rfl) tq_121 rfl rfl ?_
  refine e_ist 147 em_372 (ce_at ce_372 84 rfl) tq_184 (by decide) g3 rfl (fun s6 => ?_)
  refine e_mv 148 em_372 (ce_at ce_372 85 rfl) rfl rfl ?_
  refine e_mv 149 em_372 (ce_at ce_372 86 rfl) rfl rfl ?_
  refine e_get 152 em_372 (ce_at ce_372 87 rfl) tq_121 rfl rfl ?_
  refine e_op 153 em_372 (ce_at ce_372 88 rfl) rfl rfl ?_
  refine e_iadd 154 em_372 rfl (ce_at ce_372 89 rfl) ?_
  refine e_put 157 em_372 (ce_at ce_372 90 rfl) tq_121 rfl rfl rfl (fun s7 => ?_)
  refine e_mv 158 em_372 (ce_at ce_372 91 rfl) rfl rfl ?_
  refine e_mv 159 em_372 (ce_at ce_372 92 rfl) rfl rfl ?_
  refine e_get 162 em_372 (ce_at ce_372 93 rfl) tq_121 rfl rfl ?_
  refine e_mv 163 em_372 (ce_at ce_372 94 rfl) rfl rfl ?_
  refine e_get 166 em_372 (ce_at ce_372 95 rfl) tq_121 rfl rfl ?_
  refine e_gd fun g8 => ?_
  refine e_gd fun g9 => ?_
  refine e_cmle 176 169 em_372 rfl rfl (ce_at ce_372 96 rfl) g8 g9 (fun h10 => ?_) (fun h10 => ?_)
  · refine e_mv 177 em_372 (ce_at ce_372 100 rfl) rfl rfl ?_
    refine e_get 180 em_372 (ce_at ce_372 101 rfl) tq_121 rfl rfl ?_
    refine e_pk [0, 1, 3] rfl rfl ?_
    exact tm_enter_180 w d hd _ _ _ _
  · refine e_mv 170 em_372 (ce_at ce_372 97 rfl) rfl rfl ?_
    refine e_get 173 em_372 (ce_at ce_372 98 rfl) tq_121 rfl rfl ?_
    refine e_goto em_372 180 (ce_at ce_372 99 rfl) rfl ?_
    refine e_pk [0, 1, 3] rfl rfl ?_
    exact tm_enter_180 w d hd _ _ _ _
theorem fm_enter_119 (v1 : Int) (v3 : Int) (t0 : Int) (t1 : Int) (s : iS) : Fm Prod.snd L_m_enter G_m_enter s (m_enter_119 v1 v3 t0 t1 s) := fm_gd (fm_lt (md_upL (mem_L rfl)) (fun s2 => fm_gd (fm_lt (md_upL (mem_L rfl)) (fun s4 => fm_lt (md_upL (mem_L rfl)) (fun s5 => fm_lt (md_upL (mem_L rfl)) (fun s6 => fm_lt (md_upF (mem_F rfl)) (fun s7 => fm_gd (fm_gd (fm_if (fm_enter_180 _ _ _ _) (fm_enter_180 _ _ _ _))))))))))
noncomputable def m_enter_96 (v1 : Int) (v3 : Int) (s : iS) : Option (Int × iS) := gd (0 ≤ v1 ∧ v1 < 61) (gd (rg (s 131 v1.toNat)) (if (s 131 v1.toNat) = 3 then bd (m_pop s) (fun r4 s4 => m_enter_119 v1 v3 r4 v3 s4) else m_enter_119 v1 v3 0 v3 s))
theorem tm_enter_96 (w : ev_W) (d : Nat) (hd : 2 ≤ d) (v1 : Int) (v3 : Int) (s : iS) : Ew hT w d 372 96 [(0, .ref (tb_nK + 121)), (1, iv v1), (3, iv v3)] [] s (Cv hT) (m_enter_96 v1 v3 s) := by
  unfold m_enter_96
  refine e_mv 97 em_372 (ce_at ce_372 54 rfl) rfl rfl ?_
  refine e_getr 100 em_372 (ce_at ce_372 55 rfl) tq_121 rfl rfl ?_
  refine e_mv 101 em_372 (ce_at ce_372 56 rfl) rfl rfl ?_
  refine e_mv 102 em_372 (ce_at ce_372 57 rfl) rfl rfl ?_
  refine e_getr 105 em_372 (ce_at ce_372 58 rfl) tq_121 rfl rfl ?_
  refine e_mv 106 em_372 (ce_at ce_372 59 rfl) rfl rfl ?_
  refine e_gd fun g1 => ?_
  refine e_ild 107 em_372 (ce_at ce_372 60 rfl) tq_131 (by decide) g1 rfl ?_
  refine e_op 108 em_372 (ce_at ce_372 61 rfl) rfl rfl ?_
  refine e_gd fun g2 => ?_
  refine e_cmne 118 111 em_372 rfl rfl (ce_at ce_372 62 rfl) g2 (by decide) (fun h3 => ?_) (fun h3 => ?_)
  · refine e_op 119 em_372 (ce_at ce_372 66 rfl) rfl rfl ?_
    refine e_pk [0, 1, 3] rfl rfl ?_
    exact tm_enter_119 w d hd _ _ _ _ _
  · refine e_mv 112 em_372 (ce_at ce_372 63 rfl) rfl rfl ?_
    refine e_ivi 115 em_372 (ce_at ce_372 64 rfl) (by omega) (iv_v0 (by decide) tq_121 rfl) em_374 (Nat.le_of_ble_eq_true rfl) rfl (tm_pop w (d - 1) (by omega) _) (fun r4 s4 => ?_)
    refine e_goto em_372 119 (ce_at ce_372 65 rfl) rfl ?_
    refine e_pk [0, 1, 3] rfl rfl ?_
    exact tm_enter_119 w d hd _ _ _ _ _
theorem fm_enter_96 (v1 : Int) (v3 : Int) (s : iS) : Fm Prod.snd L_m_enter G_m_enter s (m_enter_96 v1 v3 s) := fm_gd (fm_gd (fm_if (fm_bd (fm_sub (fm_pop _) (mem_sub_L rfl) (mem_sub_F rfl)) (fun r4 s4 => fm_enter_119 _ _ _ _ _)) (fm_enter_119 _ _ _ _ _)))
noncomputable def m_enter_69 (v1 : Int) (v3 : Int) (v4 : Int) (s : iS) : Option (Int × iS) := (lp (L := Int × iS) (E := iS) (fun l => m_enter_69b v1 v3 (l.1) (l.2)) (v4, s)).bind (fun e => m_enter_96 v1 v3 e)
theorem tm_enter_69 (w : ev_W) (d : Nat) (hd : 2 ≤ d) (v1 : Int) (v3 : Int) (v4 : Int) (s : iS) : Ew hT w d 372 69 [(0, .ref (tb_nK + 121)), (1, iv v1), (3, iv v3), (4, iv v4)] [] s (Cv hT) (m_enter_69 v1 v3 v4 s) := by
  unfold m_enter_69
  refine e_lp (L := Int × iS) (E := iS) (LO := fun l => [(0, .ref (tb_nK + 121)), (1, iv v1), (3, iv v3), (4, iv (l.1))]) (LS := fun l => l.2) (CE := fun e r => ev w d 372 96 [(0, .ref (tb_nK + 121)), (1, iv v1), (3, iv v3)] [] (hT (e)) r) (fun l => tm_enter_69b w d hd _ _ _ _) ?_ (v4, s)
  intro e
  show Ew hT w d 372 96 [(0, .ref (tb_nK + 121)), (1, iv v1), (3, iv v3)] [] e (Cv hT) _
  refine e_pk [0, 1, 3] rfl rfl ?_
  exact tm_enter_96 w d hd _ _ _
theorem fm_enter_69 (v1 : Int) (v3 : Int) (v4 : Int) (s : iS) : Fm Prod.snd L_m_enter G_m_enter s (m_enter_69 v1 v3 v4 s) := by
  unfold m_enter_69
  refine fm_lp (A := Int × iS) (E := iS) (LS := fun l => l.2) (LE := fun e => e) ?_ ?_ (v4, s)
  · exact fun l => fm_enter_69b _ _ _ _
  · exact (fun e => fm_enter_96 _ _ _)
noncomputable def m_enter_64 (v1 : Int) (v2 : Int) (v3 : Int) (s : iS) : Option (Int × iS) := m_enter_69 v1 v3 (v2 - 1) s
theorem tm_enter_64 (w : ev_W) (d : Nat) (hd : 2 ≤ d) (v1 : Int) (v2 : Int) (v3 : Int) (s : iS) : Ew hT w d 372 64 [(0, .ref (tb_nK + 121)), (1, iv v1), (2, iv v2), (3, iv v3)] [] s (Cv hT) (m_enter_64 v1 v2 v3 s) := by
  unfold m_enter_64
  refine e_mv 65 em_372 (ce_at ce_372 36 rfl) rfl rfl ?_
  refine e_op 66 em_372 (ce_at ce_372 37 rfl) rfl rfl ?_
  refine e_isub 67 em_372 rfl (ce_at ce_372 38 rfl) ?_
  refine e_mv 69 em_372 (ce_at ce_372 39 rfl) rfl rfl ?_
  refine e_pk [0, 1, 3, 4] rfl rfl ?_
  exact tm_enter_69 w d hd _ _ _ _
theorem fm_enter_64 (v1 : Int) (v2 : Int) (v3 : Int) (s : iS) : Fm Prod.snd L_m_enter G_m_enter s (m_enter_64 v1 v2 v3 s) := fm_enter_69 _ _ _ _
noncomputable def m_enter_38 (v1 : Int) (v2 : Int) (v3 : Int) (v4 : Int) (s : iS) : Option (Int × iS) := (lp (L := Int × iS) (E := iS) (fun l => m_enter_38b v1 v2 v3 (l.1) (l.2)) (v4, s)).bind (fun e => m_enter_64 v1 v2 v3 e)
theorem tm_enter_38 (w : ev_W) (d : Nat) (hd : 2 ≤ d) (v1 : Int) (v2 : Int) (v3 : Int) (v4 : Int) (s : iS) : Ew hT w d 372 38 [(0, .ref (tb_nK + 121)), (1, iv v1), (2, iv v2), (3, iv v3), (4, iv v4)] [] s (Cv hT) (m_enter_38 v1 v2 v3 v4 s) := by
  unfold m_enter_38
  refine e_lp (L := Int × iS) (E := iS) (LO := fun l => [(0, .ref (tb_nK + 121)), (1, iv v1), (2, iv v2), (3, iv v3), (4, iv (l.1))]) (LS := fun l => l.2) (CE := fun e r => ev w d 372 64 [(0, .ref (tb_nK + 121)), (1, iv v1), (2, iv v2), (3, iv v3)] [] (hT (e)) r) (fun l => tm_enter_38b w d hd _ _ _ _ _) ?_ (v4, s)
  intro e
  show Ew hT w d 372 64 [(0, .ref (tb_nK + 121)), (1, iv v1), (2, iv v2), (3, iv v3)] [] e (Cv hT) _
  refine e_pk [0, 1, 2, 3] rfl rfl ?_
  exact tm_enter_64 w d hd _ _ _ _
theorem fm_enter_38 (v1 : Int) (v2 : Int) (v3 : Int) (v4 : Int) (s : iS) : Fm Prod.snd L_m_enter G_m_enter s (m_enter_38 v1 v2 v3 v4 s) := by
  unfold m_enter_38
  refine fm_lp (A := Int × iS) (E := iS) (LS := fun l => l.2) (LE := fun e => e) ?_ ?_ (v4, s)
  · exact fun l => fm_enter_38b _ _ _ _ _
  · exact (fun e => fm_enter_64 _ _ _ _)
noncomputable def m_enter (v1 : Int) (s : iS) : Option (Int × iS) := bd (m_step s) (fun r1 s1 => gd (rg r1) (if r1 = 0 then some (0, s1) else gd (rg (s1 121 88)) (if (s1 121 88) = 40 then lt' (up s1 121 99 2) (fun s7 => some (0, s7)) else gd (0 ≤ v1 ∧ v1 < 61) (m_enter_38 v1 (s1 134 v1.toNat) (s1 121 88) 0 s1))))
theorem tm_enter (w : ev_W) (d : Nat) (hd : 2 ≤ d) (v1 : Int) (s : iS) : Ew hT w d 372 0 [(0, .ref (tb_nK + 121)), (1, iv v1)] [] s (Cv hT) (m_enter v1 s) := by
  unfold m_enter
  refine e_mv 1 em_372 (ce_at ce_372 0 rfl) rfl rfl ?_
  refine e_ivi 4 em_372 (ce_at ce_372 1 rfl) (by omega) (iv_v0 (by decide) tq_121 rfl) em_373 (Nat.le_of_ble_eq_true rfl) rfl (tm_step w (d - 1) (by omega) _) (fun r1 s1 => ?_)
  refine e_gd fun g2 => ?_
  refine e_ifne 8 7 em_372 rfl rfl (ce_at ce_372 2 rfl) g2 (fun h3 => ?_) (fun h3 => ?_)
  · refine e_mv 9 em_372 (ce_at ce_372 4 rfl) rfl rfl ?_
    refine e_get 12 em_372 (ce_at ce_372 5 rfl) tq_121 rfl rfl ?_
    refine e_bip 14 em_372 (ce_at ce_372 6 rfl) (by decide) rfl ?_
    refine e_gd fun g4 => ?_
    refine e_cmne 23 17 em_372 rfl rfl (ce_at ce_372 7 rfl) g4 (by decide) (fun h5 => ?_) (fun h5 => ?_)
    · refine e_mv 24 em_372 (ce_at ce_372 12 rfl) rfl rfl ?_
      refine e_getr 27 em_372 (ce_at ce_372 13 rfl) tq_121 rfl rfl ?_
      refine e_mv 28 em_372 (ce_at ce_372 14 rfl) rfl rfl ?_
      refine e_gd fun g6 => ?_
      refine e_ild 29 em_372 (ce_at ce_372 15 rfl) tq_134 (by decide) g6 rfl ?_
      refine e_mv 30 em_372 (ce_at ce_372 16 rfl) rfl rfl ?_
      refine e_mv 31 em_372 (ce_at ce_372 17 rfl) rfl rfl ?_
      refine e_get 34 em_372 (ce_at ce_372 18 rfl) tq_121 rfl rfl ?_
      refine e_mv 35 em_372 (ce_at ce_372 19 rfl) rfl rfl ?_
      refine e_op 36 em_372 (ce_at ce_372 20 rfl) rfl rfl ?_
      refine e_mv 38 em_372 (ce_at ce_372 21 rfl) rfl rfl ?_
      refine e_pk [0, 1, 2, 3, 4] rfl rfl ?_
      exact tm_enter_38 w d hd _ _ _ _ _
    · refine e_mv 18 em_372 (ce_at ce_372 8 rfl) rfl rfl ?_
      refine e_op 19 em_372 (ce_at ce_372 9 rfl) rfl rfl ?_
      refine e_put 22 em_372 (ce_at ce_372 10 rfl) tq_121 rfl rfl rfl (fun s7 => ?_)
      exact e_retv em_372 (ce_at ce_372 11 rfl)
  · exact e_retv em_372 (ce_at ce_372 3 rfl)
theorem fm_enter (v1 : Int) (s : iS) : Fm Prod.snd L_m_enter G_m_enter s (m_enter v1 s) := fm_bd (fm_sub (fm_step _) (mem_sub_L rfl) (mem_sub_F rfl)) (fun r1 s1 => fm_gd (fm_if (fm_some md_refl) (fm_gd (fm_if (fm_lt (md_upF (mem_F rfl)) (fun s7 => fm_some md_refl)) (fm_gd (fm_enter_38 _ _ _ _ _))))))
/-! m_word16 -/
def L_m_word16 : List Nat := []
def G_m_word16 : List (Nat × Nat) := []
noncomputable def m_word16 (v0 : Int) (s : iS) : Option (Int × iS) := some ((i_s v0), s)
theorem tm_word16 (H : iS → List am_C) (w : ev_W) (d : Nat) (hd : 0 ≤ d) (v0 : Int) (s : iS) : Ew H w d 380 0 [(0, iv v0)] [] s (Ci H) (m_word16 v0 s) := by
  unfold m_word16
  refine e_mv 1 em_380 (ce_at ce_380 0 rfl) rfl rfl ?_
  refine e_i2s 2 em_380 rfl (ce_at ce_380 1 rfl) ?_
  exact e_reti em_380 (ce_at ce_380 2 rfl)
theorem fm_word16 (v0 : Int) (s : iS) : Fm Prod.snd L_m_word16 G_m_word16 s (m_word16 v0 s) := fm_some md_refl
/-! m_put -/
def L_m_put : List Nat := [180]
def G_m_put : List (Nat × Nat) := [(121, 87)]
noncomputable def m_put (v1 : Int) (s : iS) : Option (Int × iS) := bd (m_word16 v1 s) (fun r1 s1 => gd (0 ≤ (s 121 87) ∧ (s 121 87) < 20000) (lt' (up s1 180 (s 121 87).toNat r1) (fun s3 => lt' (up s3 121 87 ((s3 121 87) + 1)) (fun s4 => some (0, s4)))))
theorem tm_put (w : ev_W) (d : Nat) (hd : 1 ≤ d) (v1 : Int) (s : iS) : Ew hT w d 379 0 [(0, .ref (tb_nK + 121)), (1, iv v1)] [] s (Cv hT) (m_put v1 s) := by
  unfold m_put
  refine e_mv 1 em_379 (ce_at ce_379 0 rfl) rfl rfl ?_
  refine e_getr 4 em_379 (ce_at ce_379 1 rfl) tq_121 rfl rfl ?_
  refine e_mv 5 em_379 (ce_at ce_379 2 rfl) rfl rfl ?_
  refine e_get 8 em_379 (ce_at ce_379 3 rfl) tq_121 rfl rfl ?_
  refine e_mv 9 em_379 (ce_at ce_379 4 rfl) rfl rfl ?_
  refine e_ivi 12 em_379 (ce_at ce_379 5 rfl) (by omega) (iv_s1 rfl) em_380 (Nat.le_of_ble_eq_true rfl) rfl (tm_word16 hT w (d - 1) (by omega) _ _) (fun r1 s1 => ?_)
  refine e_gd fun g2 => ?_
  refine e_ist 13 em_379 (ce_at ce_379 6 rfl) tq_180 (by decide) g2 rfl (fun s3 => ?_)
  refine e_mv 14 em_379 (ce_at ce_379 7 rfl) rfl rfl ?_
  refine e_mv 15 em_379 (ce_at ce_379 8 rfl) rfl rfl ?_
  refine e_get 18 em_379 (ce_at ce_379 9 rfl) tq_121 rfl rfl ?_
  refine e_op 19 em_379 (ce_at ce_379 10 rfl) rfl rfl ?_
  refine e_iadd 20 em_379 rfl (ce_at ce_379 11 rfl) ?_
  refine e_put 23 em_379 (ce_at ce_379 12 rfl) tq_121 rfl rfl rfl (fun s4 => ?_)
  exact e_retv em_379 (ce_at ce_379 13 rfl)
theorem fm_put (v1 : Int) (s : iS) : Fm Prod.snd L_m_put G_m_put s (m_put v1 s) := fm_bd (fm_sub (fm_word16 _ _) (mem_sub_L rfl) (mem_sub_F rfl)) (fun r1 s1 => fm_gd (fm_lt (md_upL (mem_L rfl)) (fun s3 => fm_lt (md_upF (mem_F rfl)) (fun s4 => fm_some md_refl))))
/-! m_isPlace -/
def L_m_isPlace : List Nat := []
def G_m_isPlace : List (Nat × Nat) := []
noncomputable def m_isPlace_14 (v0 : Int) (s : iS) : Option (Int × iS) := gd (rg v0) (if v0 < 16384 then some (0, s) else if 16511 < v0 then some (0, s) else some (1, s))
theorem tm_isPlace_14 (H : iS → List am_C) (w : ev_W) (d : Nat) (hd : 0 ≤ d) (v0 : Int) (s : iS) : Ew H w d 384 14 [(0, iv v0)] [] s (Ci H) (m_isPlace_14 v0 s) := by
  unfold m_isPlace_14
  refine e_mv 15 em_384 (ce_at ce_384 6 rfl) rfl rfl ?_
  refine e_sip 18 em_384 (ce_at ce_384 7 rfl) (by decide) rfl ?_
  refine e_gd fun g1 => ?_
  refine e_cmlt 32 21 em_384 rfl rfl (ce_at ce_384 8 rfl) g1 (by decide) (fun h2 => ?_) (fun h2 => ?_)
  · refine e_op 33 em_384 (ce_at ce_384 14 rfl) rfl rfl ?_
    exact e_retz em_384 (ce_at ce_384 15 rfl) (by decide)
  · refine e_mv 22 em_384 (ce_at ce_384 9 rfl) rfl rfl ?_
    refine e_sip 25 em_384 (ce_at ce_384 10 rfl) (by decide) rfl ?_
    refine e_cmgt 32 28 em_384 rfl rfl (ce_at ce_384 11 rfl) g1 (by decide) (fun h3 => ?_) (fun h3 => ?_)
    · refine e_op 33 em_384 (ce_at ce_384 14 rfl) rfl rfl ?_
      exact e_retz em_384 (ce_at ce_384 15 rfl) (by decide)
    · refine e_op 29 em_384 (ce_at ce_384 12 rfl) rfl rfl ?_
      refine e_goto em_384 33 (ce_at ce_384 13 rfl) rfl ?_
      exact e_retz em_384 (ce_at ce_384 15 rfl) (by decide)
theorem fm_isPlace_14 (v0 : Int) (s : iS) : Fm Prod.snd L_m_isPlace G_m_isPlace s (m_isPlace_14 v0 s) := fm_gd (fm_if (fm_some md_refl) (fm_if (fm_some md_refl) (fm_some md_refl)))
noncomputable def m_isPlace (v0 : Int) (s : iS) : Option (Int × iS) := gd (rg v0) (if v0 < 2048 then m_isPlace_14 v0 s else if v0 ≤ 14335 then some (1, s) else m_isPlace_14 v0 s)
theorem tm_isPlace (H : iS → List am_C) (w : ev_W) (d : Nat) (hd : 0 ≤ d) (v0 : Int) (s : iS) : Ew H w d 384 0 [(0, iv v0)] [] s (Ci H) (m_isPlace v0 s) := by
  unfold m_isPlace
  refine e_mv 1 em_384 (ce_at ce_384 0 rfl) rfl rfl ?_
  refine e_sip 4 em_384 (ce_at ce_384 1 rfl) (by decide) rfl ?_
  refine e_gd fun g1 => ?_
  refine e_cmlt 14 7 em_384 rfl rfl (ce_at ce_384 2 rfl) g1 (by decide) (fun h2 => ?_) (fun h2 => ?_)
  · refine e_pk [0] rfl rfl ?_
    exact tm_isPlace_14 H w d hd _ _
  · refine e_mv 8 em_384 (ce_at ce_384 3 rfl) rfl rfl ?_
    refine e_sip 11 em_384 (ce_at ce_384 4 rfl) (by decide) rfl ?_
    refine e_cmle 28 14 em_384 rfl rfl (ce_at ce_384 5 rfl) g1 (by decide) (fun h3 => ?_) (fun h3 => ?_)
    · refine e_op 29 em_384 (ce_at ce_384 12 rfl) rfl rfl ?_
      refine e_goto em_384 33 (ce_at ce_384 13 rfl) rfl ?_
      exact e_retz em_384 (ce_at ce_384 15 rfl) (by decide)
    · refine e_pk [0] rfl rfl ?_
      exact tm_isPlace_14 H w d hd _ _
theorem fm_isPlace (v0 : Int) (s : iS) : Fm Prod.snd L_m_isPlace G_m_isPlace s (m_isPlace v0 s) := fm_gd (fm_if (fm_isPlace_14 _ _) (fm_if (fm_some md_refl) (fm_isPlace_14 _ _)))
/-! m_write -/
def L_m_write : List Nat := [175]
def G_m_write : List (Nat × Nat) := [(121, 99), (121, 100)]
noncomputable def m_write_18 (v2 : Int) (v3 : Int) (s : iS) : Option (Int × iS) := gd (rg (s 121 99)) (if (s 121 99) = (-1) then bd (m_word16 v2 s) (fun r3 s3 => gd (0 ≤ v3 ∧ v3 < 16512) (lt' (up s3 175 v3.toNat r3) (fun s5 => some (0, s5)))) else some (0, s))
theorem tm_write_18 (w : ev_W) (d : Nat) (hd : 1 ≤ d) (v2 : Int) (v3 : Int) (s : iS) : Ew hT w d 383 18 [(0, .ref (tb_nK + 121)), (2, iv v2), (3, iv v3)] [] s (Cv hT) (m_write_18 v2 v3 s) := by
  unfold m_write_18
  refine e_mv 19 em_383 (ce_at ce_383 9 rfl) rfl rfl ?_
  refine e_get 22 em_383 (ce_at ce_383 10 rfl) tq_121 rfl rfl ?_
  refine e_op 23 em_383 (ce_at ce_383 11 rfl) rfl rfl ?_
  refine e_gd fun g1 => ?_
  refine e_cmne 36 26 em_383 rfl rfl (ce_at ce_383 12 rfl) g1 (by decide) (fun h2 => ?_) (fun h2 => ?_)
  · exact e_retv em_383 (ce_at ce_383 19 rfl)
  · refine e_mv 27 em_383 (ce_at ce_383 13 rfl) rfl rfl ?_
    refine e_getr 30 em_383 (ce_at ce_383 14 rfl) tq_121 rfl rfl ?_
    refine e_mv 31 em_383 (ce_at ce_383 15 rfl) rfl rfl ?_
    refine e_mv 32 em_383 (ce_at ce_383 16 rfl) rfl rfl ?_
    refine e_ivi 35 em_383 (ce_at ce_383 17 rfl) (by omega) (iv_s1 rfl) em_380 (Nat.le_of_ble_eq_true rfl) rfl (tm_word16 hT w (d - 1) (by omega) _ _) (fun r3 s3 => ?_)
    refine e_gd fun g4 => ?_
    refine e_ist 36 em_383 (ce_at ce_383 18 rfl) tq_175 (by decide) g4 rfl (fun s5 => ?_)
    exact e_retv em_383 (ce_at ce_383 19 rfl)
theorem fm_write_18 (v2 : Int) (v3 : Int) (s : iS) : Fm Prod.snd L_m_write G_m_write s (m_write_18 v2 v3 s) := fm_gd (fm_if (fm_bd (fm_sub (fm_word16 _ _) (mem_sub_L rfl) (mem_sub_F rfl)) (fun r3 s3 => fm_gd (fm_lt (md_upL (mem_L rfl)) (fun s5 => fm_some md_refl)))) (fm_some md_refl))
noncomputable def m_write (v1 : Int) (v2 : Int) (s : iS) : Option (Int × iS) := bd (m_word16 v1 s) (fun r1 s1 => bd (m_isPlace r1 s1) (fun r2 s2 => gd (rg r2) (if r2 = 0 then bd (m_err 20 s2) (fun _ s5 => m_write_18 v2 r1 s5) else m_write_18 v2 r1 s2)))
theorem tm_write (w : ev_W) (d : Nat) (hd : 1 ≤ d) (v1 : Int) (v2 : Int) (s : iS) : Ew hT w d 383 0 [(0, .ref (tb_nK + 121)), (1, iv v1), (2, iv v2)] [] s (Cv hT) (m_write v1 v2 s) := by
  unfold m_write
  refine e_mv 1 em_383 (ce_at ce_383 0 rfl) rfl rfl ?_
  refine e_ivi 4 em_383 (ce_at ce_383 1 rfl) (by omega) (iv_s1 rfl) em_380 (Nat.le_of_ble_eq_true rfl) rfl (tm_word16 hT w (d - 1) (by omega) _ _) (fun r1 s1 => ?_)
  refine e_mv 5 em_383 (ce_at ce_383 2 rfl) rfl rfl ?_
  refine e_mv 6 em_383 (ce_at ce_383 3 rfl) rfl rfl ?_
  refine e_ivi 9 em_383 (ce_at ce_383 4 rfl) (by omega) (iv_s1 rfl) em_384 (Nat.le_of_ble_eq_true rfl) rfl (tm_isPlace hT w (d - 1) (by omega) _ _) (fun r2 s2 => ?_)
  refine e_gd fun g3 => ?_
  refine e_ifne 18 12 em_383 rfl rfl (ce_at ce_383 5 rfl) g3 (fun h4 => ?_) (fun h4 => ?_)
  · refine e_pk [0, 2, 3] rfl rfl ?_
    exact tm_write_18 w d hd _ _ _
  · refine e_mv 13 em_383 (ce_at ce_383 6 rfl) rfl rfl ?_
    refine e_bip 15 em_383 (ce_at ce_383 7 rfl) (by decide) rfl ?_
    refine e_ivv 18 em_383 (ce_at ce_383 8 rfl) (by omega) (iv_v1 (by decide) tq_121 rfl) em_376 (Nat.le_of_ble_eq_true rfl) rfl (tm_err w (d - 1) (by omega) _ _) (fun r5 s5 => ?_)
    refine e_pk [0, 2, 3] rfl rfl ?_
    exact tm_write_18 w d hd _ _ _
theorem fm_write (v1 : Int) (v2 : Int) (s : iS) : Fm Prod.snd L_m_write G_m_write s (m_write v1 v2 s) := fm_bd (fm_sub (fm_word16 _ _) (mem_sub_L rfl) (mem_sub_F rfl)) (fun r1 s1 => fm_bd (fm_sub (fm_isPlace _ _) (mem_sub_L rfl) (mem_sub_F rfl)) (fun r2 s2 => fm_gd (fm_if (fm_bd (fm_sub (fm_err _ _) (mem_sub_L rfl) (mem_sub_F rfl)) (fun r5 s5 => fm_write_18 _ _ _)) (fm_write_18 _ _ _))))
/-! m_newString -/
def L_m_newString : List Nat := [175, 176, 177]
def G_m_newString : List (Nat × Nat) := [(121, 81), (121, 99), (121, 100)]
noncomputable def m_newString_32 (v1 : Int) (t0 : Int) (s : iS) : Option (Int × iS) := gd (rg (s 121 99)) (if (s 121 99) = (-1) then bd (m_write t0 v1 s) (fun _ s3 => bd (m_write (t0 + 1) 0 s3) (fun _ s4 => some (t0, s4))) else some (0, s))
theorem tm_newString_32 (w : ev_W) (d : Nat) (hd : 2 ≤ d) (v1 : Int) (t0 : Int) (s : iS) : Ew hT w d 382 32 [(0, .ref (tb_nK + 121)), (1, iv v1)] [iv t0] s (Ci hT) (m_newString_32 v1 t0 s) := by
  unfold m_newString_32
  refine e_mv 33 em_382 (ce_at ce_382 17 rfl) rfl rfl ?_
  refine e_mv 34 em_382 (ce_at ce_382 18 rfl) rfl rfl ?_
  refine e_get 37 em_382 (ce_at ce_382 19 rfl) tq_121 rfl rfl ?_
  refine e_op 38 em_382 (ce_at ce_382 20 rfl) rfl rfl ?_
  refine e_gd fun g1 => ?_
  refine e_cmeq 43 41 em_382 rfl rfl (ce_at ce_382 21 rfl) g1 (by decide) (fun h2 => ?_) (fun h2 => ?_)
  · refine e_mv 44 em_382 (ce_at ce_382 24 rfl) rfl rfl ?_
    refine e_mv 45 em_382 (ce_at ce_382 25 rfl) rfl rfl ?_
    refine e_mv 46 em_382 (ce_at ce_382 26 rfl) rfl rfl ?_
    refine e_ivv 49 em_382 (ce_at ce_382 27 rfl) (by omega) (iv_v2 (by decide) tq_121 rfl) em_383 (Nat.le_of_ble_eq_true rfl) rfl (tm_write w (d - 1) (by omega) _ _ _) (fun r3 s3 => ?_)
    refine e_mv 50 em_382 (ce_at ce_382 28 rfl) rfl rfl ?_
    refine e_mv 51 em_382 (ce_at ce_382 29 rfl) rfl rfl ?_
    refine e_op 52 em_382 (ce_at ce_382 30 rfl) rfl rfl ?_
    refine e_iadd 53 em_382 rfl (ce_at ce_382 31 rfl) ?_
    refine e_op 54 em_382 (ce_at ce_382 32 rfl) rfl rfl ?_
    refine e_ivv 57 em_382 (ce_at ce_382 33 rfl) (by omega) (iv_v2 (by decide) tq_121 rfl) em_383 (Nat.le_of_ble_eq_true rfl) rfl (tm_write w (d - 1) (by omega) _ _ _) (fun r4 s4 => ?_)
    refine e_mv 58 em_382 (ce_at ce_382 34 rfl) rfl rfl ?_
    exact e_reti em_382 (ce_at ce_382 35 rfl)
  · refine e_op 42 em_382 (ce_at ce_382 22 rfl) rfl rfl ?_
    exact e_reti em_382 (ce_at ce_382 23 rfl)
theorem fm_newString_32 (v1 : Int) (t0 : Int) (s : iS) : Fm Prod.snd L_m_newString G_m_newString s (m_newString_32 v1 t0 s) := fm_gd (fm_if (fm_bd (fm_sub (fm_write _ _ _) (mem_sub_L rfl) (mem_sub_F rfl)) (fun r3 s3 => fm_bd (fm_sub (fm_write _ _ _) (mem_sub_L rfl) (mem_sub_F rfl)) (fun r4 s4 => fm_some md_refl))) (fm_some md_refl))
noncomputable def m_newString_10 (v1 : Int) (s : iS) : Option (Int × iS) := gd (rg (s 121 99)) (if (s 121 99) = (-1) then bd (m_word16 (v1 + 2) s) (fun r3 s3 => bd (m_make r3 s3) (fun r4 s4 => m_newString_32 v1 r4 s4)) else m_newString_32 v1 0 s)
theorem tm_newString_10 (w : ev_W) (d : Nat) (hd : 2 ≤ d) (v1 : Int) (s : iS) : Ew hT w d 382 10 [(0, .ref (tb_nK + 121)), (1, iv v1)] [] s (Ci hT) (m_newString_10 v1 s) := by
  unfold m_newString_10
  refine e_mv 11 em_382 (ce_at ce_382 5 rfl) rfl rfl ?_
  refine e_get 14 em_382 (ce_at ce_382 6 rfl) tq_121 rfl rfl ?_
  refine e_op 15 em_382 (ce_at ce_382 7 rfl) rfl rfl ?_
  refine e_gd fun g1 => ?_
  refine e_cmne 31 18 em_382 rfl rfl (ce_at ce_382 8 rfl) g1 (by decide) (fun h2 => ?_) (fun h2 => ?_)
  · refine e_op 32 em_382 (ce_at ce_382 16 rfl) rfl rfl ?_
    refine e_pk [0, 1] rfl rfl ?_
    exact tm_newString_32 w d hd _ _ _
  · refine e_mv 19 em_382 (ce_at ce_382 9 rfl) rfl rfl ?_
    refine e_mv 20 em_382 (ce_at ce_382 10 rfl) rfl rfl ?_
    refine e_op 21 em_382 (ce_at ce_382 11 rfl) rfl rfl ?_
    refine e_iadd 22 em_382 rfl (ce_at ce_382 12 rfl) ?_
    refine e_ivi 25 em_382 (ce_at ce_382 13 rfl) (by omega) (iv_s1 rfl) em_380 (Nat.le_of_ble_eq_true rfl) rfl (tm_word16 hT w (d - 1) (by omega) _ _) (fun r3 s3 => ?_)
    refine e_ivi 28 em_382 (ce_at ce_382 14 rfl) (by omega) (iv_v1 (by decide) tq_121 rfl) em_375 (Nat.le_of_ble_eq_true rfl) rfl (tm_make w (d - 1) (by omega) _ _) (fun r4 s4 => ?_)
    refine e_goto em_382 32 (ce_at ce_382 15 rfl) rfl ?_
    refine e_pk [0, 1] rfl rfl ?_
    exact tm_newString_32 w d hd _ _ _
theorem fm_newString_10 (v1 : Int) (s : iS) : Fm Prod.snd L_m_newString G_m_newString s (m_newString_10 v1 s) := fm_gd (fm_if (fm_bd (fm_sub (fm_word16 _ _) (mem_sub_L rfl) (mem_sub_F rfl)) (fun r3 s3 => fm_bd (fm_sub (fm_make _ _) (mem_sub_L rfl) (mem_sub_F rfl)) (fun r4 s4 => fm_newString_32 _ _ _))) (fm_newString_32 _ _ _))
noncomputable def m_newString (v1 : Int) (s : iS) : Option (Int × iS) := gd (rg v1) (if 0 ≤ v1 then m_newString_10 v1 s else bd (m_err 14 s) (fun _ s3 => m_newString_10 v1 s3))
theorem tm_newString (w : ev_W) (d : Nat) (hd : 2 ≤ d) (v1 : Int) (s : iS) : Ew hT w d 382 0 [(0, .ref (tb_nK + 121)), (1, iv v1)] [] s (Ci hT) (m_newString v1 s) := by
  unfold m_newString
  refine e_mv 1 em_382 (ce_at ce_382 0 rfl) rfl rfl ?_
  refine e_gd fun g1 => ?_
  refine e_ifge 10 4 em_382 rfl rfl (ce_at ce_382 1 rfl) g1 (fun h2 => ?_) (fun h2 => ?_)
  · refine e_pk [0, 1] rfl rfl ?_
    exact tm_newString_10 w d hd _ _
  · refine e_mv 5 em_382 (ce_at ce_382 2 rfl) rfl rfl ?_
    refine e_bip 7 em_382 (ce_at ce_382 3 rfl) (by decide) rfl ?_
    refine e_ivv 10 em_382 (ce_at ce_382 4 rfl) (by omega) (iv_v1 (by decide) tq_121 rfl) em_376 (Nat.le_of_ble_eq_true rfl) rfl (tm_err w (d - 1) (by omega) _ _) (fun r3 s3 => ?_)
    refine e_pk [0, 1] rfl rfl ?_
    exact tm_newString_10 w d hd _ _
theorem fm_newString (v1 : Int) (s : iS) : Fm Prod.snd L_m_newString G_m_newString s (m_newString v1 s) := fm_gd (fm_if (fm_newString_10 _ _) (fm_bd (fm_sub (fm_err _ _) (mem_sub_L rfl) (mem_sub_F rfl)) (fun r3 s3 => fm_newString_10 _ _)))
/-! m_read -/
def L_m_read : List Nat := []
def G_m_read : List (Nat × Nat) := [(121, 99), (121, 100)]
noncomputable def m_read_18 (v2 : Int) (s : iS) : Option (Int × iS) := bd (m_isPlace v2 s) (fun r1 s1 => gd (rg r1) (if r1 = 0 then some (0, s1) else gd (0 ≤ v2 ∧ v2 < 16512) (some ((s1 175 v2.toNat), s1))))
theorem tm_read_18 (w : ev_W) (d : Nat) (hd : 1 ≤ d) (v2 : Int) (s : iS) : Ew hT w d 386 18 [(0, .ref (tb_nK + 121)), (2, iv v2)] [] s (Ci hT) (m_read_18 v2 s) := by
  unfold m_read_18
  refine e_mv 19 em_386 (ce_at ce_386 9 rfl) rfl rfl ?_
  refine e_ivi 22 em_386 (ce_at ce_386 10 rfl) (by omega) (iv_s1 rfl) em_384 (Nat.le_of_ble_eq_true rfl) rfl (tm_isPlace hT w (d - 1) (by omega) _ _) (fun r1 s1 => ?_)
  refine e_gd fun g2 => ?_
  refine e_ifeq 34 25 em_386 rfl rfl (ce_at ce_386 11 rfl) g2 (fun h3 => ?_) (fun h3 => ?_)
  · refine e_op 35 em_386 (ce_at ce_386 17 rfl) rfl rfl ?_
    exact e_reti em_386 (ce_at ce_386 18 rfl)
  · refine e_mv 26 em_386 (ce_at ce_386 12 rfl) rfl rfl ?_
    refine e_getr 29 em_386 (ce_at ce_386 13 rfl) tq_121 rfl rfl ?_
    refine e_mv 30 em_386 (ce_at ce_386 14 rfl) rfl rfl ?_
    refine e_gd fun g4 => ?_
    refine e_ild 31 em_386 (ce_at ce_386 15 rfl) tq_175 (by decide) g4 rfl ?_
    refine e_goto em_386 35 (ce_at ce_386 16 rfl) rfl ?_
    exact e_reti em_386 (ce_at ce_386 18 rfl)
theorem fm_read_18 (v2 : Int) (s : iS) : Fm Prod.snd L_m_read G_m_read s (m_read_18 v2 s) := fm_bd (fm_sub (fm_isPlace _ _) (mem_sub_L rfl) (mem_sub_F rfl)) (fun r1 s1 => fm_gd (fm_if (fm_some md_refl) (fm_gd (fm_some md_refl))))
noncomputable def m_read (v1 : Int) (s : iS) : Option (Int × iS) := bd (m_word16 v1 s) (fun r1 s1 => bd (m_isPlace r1 s1) (fun r2 s2 => gd (rg r2) (if r2 = 0 then bd (m_err 20 s2) (fun _ s5 => m_read_18 r1 s5) else m_read_18 r1 s2)))
theorem tm_read (w : ev_W) (d : Nat) (hd : 1 ≤ d) (v1 : Int) (s : iS) : Ew hT w d 386 0 [(0, .ref (tb_nK + 121)), (1, iv v1)] [] s (Ci hT) (m_read v1 s) := by
  unfold m_read
  refine e_mv 1 em_386 (ce_at ce_386 0 rfl) rfl rfl ?_
  refine e_ivi 4 em_386 (ce_at ce_386 1 rfl) (by omega) (iv_s1 rfl) em_380 (Nat.le_of_ble_eq_true rfl) rfl (tm_word16 hT w (d - 1) (by omega) _ _) (fun r1 s1 => ?_)
  refine e_mv 5 em_386 (ce_at ce_386 2 rfl) rfl rfl ?_
  refine e_mv 6 em_386 (ce_at ce_386 3 rfl) rfl rfl ?_
  refine e_ivi 9 em_386 (ce_at ce_386 4 rfl) (by omega) (iv_s1 rfl) em_384 (Nat.le_of_ble_eq_true rfl) rfl (tm_isPlace hT w (d - 1) (by omega) _ _) (fun r2 s2 => ?_)
  refine e_gd fun g3 => ?_
  refine e_ifne 18 12 em_386 rfl rfl (ce_at ce_386 5 rfl) g3 (fun h4 => ?_) (fun h4 => ?_)
  · refine e_pk [0, 2] rfl rfl ?_
    exact tm_read_18 w d hd _ _
  · refine e_mv 13 em_386 (ce_at ce_386 6 rfl) rfl rfl ?_
    refine e_bip 15 em_386 (ce_at ce_386 7 rfl) (by decide) rfl ?_
    refine e_ivv 18 em_386 (ce_at ce_386 8 rfl) (by omega) (iv_v1 (by decide) tq_121 rfl) em_376 (Nat.le_of_ble_eq_true rfl) rfl (tm_err w (d - 1) (by omega) _ _) (fun r5 s5 => ?_)
    refine e_pk [0, 2] rfl rfl ?_
    exact tm_read_18 w d hd _ _
theorem fm_read (v1 : Int) (s : iS) : Fm Prod.snd L_m_read G_m_read s (m_read v1 s) := fm_bd (fm_sub (fm_word16 _ _) (mem_sub_L rfl) (mem_sub_F rfl)) (fun r1 s1 => fm_bd (fm_sub (fm_isPlace _ _) (mem_sub_L rfl) (mem_sub_F rfl)) (fun r2 s2 => fm_gd (fm_if (fm_bd (fm_sub (fm_err _ _) (mem_sub_L rfl) (mem_sub_F rfl)) (fun r5 s5 => fm_read_18 _ _)) (fm_read_18 _ _))))
/-! m_append -/
def L_m_append : List Nat := [175]
def G_m_append : List (Nat × Nat) := [(121, 99), (121, 100)]
noncomputable def m_append_23 (v1 : Int) (v2 : Int) (v3 : Int) (s : iS) : Option (Int × iS) := gd (rg (s 121 99)) (if (s 121 99) = (-1) then bd (m_write ((v1 + 2) + v3) v2 s) (fun _ s3 => gd (rg (s3 121 99)) (if (s3 121 99) = (-1) then bd (m_write (v1 + 1) (v3 + 1) s3) (fun _ s6 => some (0, s6)) else some (0, s3))) else some (0, s))
theorem tm_append_23 (w : ev_W) (d : Nat) (hd : 2 ≤ d) (v1 : Int) (v2 : Int) (v3 : Int) (s : iS) : Ew hT w d 385 23 [(0, .ref (tb_nK + 121)), (1, iv v1), (2, iv v2), (3, iv v3)] [] s (Cv hT) (m_append_23 v1 v2 v3 s) := by
  unfold m_append_23
  refine e_mv 24 em_385 (ce_at ce_385 14 rfl) rfl rfl ?_
  refine e_get 27 em_385 (ce_at ce_385 15 rfl) tq_121 rfl rfl ?_
  refine e_op 28 em_385 (ce_at ce_385 16 rfl) rfl rfl ?_
  refine e_gd fun g1 => ?_
  refine e_cmeq 32 31 em_385 rfl rfl (ce_at ce_385 17 rfl) g1 (by decide) (fun h2 => ?_) (fun h2 => ?_)
  · refine e_mv 33 em_385 (ce_at ce_385 19 rfl) rfl rfl ?_
    refine e_mv 34 em_385 (ce_at ce_385 20 rfl) rfl rfl ?_
    refine e_op 35 em_385 (ce_at ce_385 21 rfl) rfl rfl ?_
    refine e_iadd 36 em_385 rfl (ce_at ce_385 22 rfl) ?_
    refine e_mv 37 em_385 (ce_at ce_385 23 rfl) rfl rfl ?_
    refine e_iadd 38 em_385 rfl (ce_at ce_385 24 rfl) ?_
    refine e_mv 39 em_385 (ce_at ce_385 25 rfl) rfl rfl ?_
    refine e_ivv 42 em_385 (ce_at ce_385 26 rfl) (by omega) (iv_v2 (by decide) tq_121 rfl) em_383 (Nat.le_of_ble_eq_true rfl) rfl (tm_write w (d - 1) (by omega) _ _ _) (fun r3 s3 => ?_)
    refine e_mv 43 em_385 (ce_at ce_385 27 rfl) rfl rfl ?_
    refine e_get 46 em_385 (ce_at ce_385 28 rfl) tq_121 rfl rfl ?_
    refine e_op 47 em_385 (ce_at ce_385 29 rfl) rfl rfl ?_
    refine e_gd fun g4 => ?_
    refine e_cmne 60 50 em_385 rfl rfl (ce_at ce_385 30 rfl) g4 (by decide) (fun h5 => ?_) (fun h5 => ?_)
    · exact e_retv em_385 (ce_at ce_385 39 rfl)
    · refine e_mv 51 em_385 (ce_at ce_385 31 rfl) rfl rfl ?_
      refine e_mv 52 em_385 (ce_at ce_385 32 rfl) rfl rfl ?_
      refine e_op 53 em_385 (ce_at ce_385 33 rfl) rfl rfl ?_
      refine e_iadd 54 em_385 rfl (ce_at ce_385 34 rfl) ?_
      refine e_mv 55 em_385 (ce_at ce_385 35 rfl) rfl rfl ?_
      refine e_op 56 em_385 (ce_at ce_385 36 rfl) rfl rfl ?_
      refine e_iadd 57 em_385 rfl (ce_at ce_385 37 rfl) ?_
      refine e_ivv 60 em_385 (ce_at ce_385 38 rfl) (by omega) (iv_v2 (by decide) tq_121 rfl) em_383 (Nat.le_of_ble_eq_true rfl) rfl (tm_write w (d - 1) (by omega) _ _ _) (fun r6 s6 => ?_)
      exact e_retv em_385 (ce_at ce_385 39 rfl)
  · exact e_retv em_385 (ce_at ce_385 18 rfl)
theorem fm_append_23 (v1 : Int) (v2 : Int) (v3 : Int) (s : iS) : Fm Prod.snd L_m_append G_m_append s (m_append_23 v1 v2 v3 s) := fm_gd (fm_if (fm_bd (fm_sub (fm_write _ _ _) (mem_sub_L rfl) (mem_sub_F rfl)) (fun r3 s3 => fm_gd (fm_if (fm_bd (fm_sub (fm_write _ _ _) (mem_sub_L rfl) (mem_sub_F rfl)) (fun r6 s6 => fm_some md_refl)) (fm_some md_refl)))) (fm_some md_refl))
noncomputable def m_append (v1 : Int) (v2 : Int) (s : iS) : Option (Int × iS) := bd (m_read (v1 + 1) s) (fun r1 s1 => bd (m_read v1 s1) (fun r2 s2 => gd (rg r1) (gd (rg r2) (if r1 < r2 then m_append_23 v1 v2 r1 s2 else bd (m_err 17 s2) (fun _ s6 => m_append_23 v1 v2 r1 s6)))))
theorem tm_append (w : ev_W) (d : Nat) (hd : 2 ≤ d) (v1 : Int) (v2 : Int) (s : iS) : Ew hT w d 385 0 [(0, .ref (tb_nK + 121)), (1, iv v1), (2, iv v2)] [] s (Cv hT) (m_append v1 v2 s) := by
  unfold m_append
  refine e_mv 1 em_385 (ce_at ce_385 0 rfl) rfl rfl ?_
  refine e_mv 2 em_385 (ce_at ce_385 1 rfl) rfl rfl ?_
  refine e_op 3 em_385 (ce_at ce_385 2 rfl) rfl rfl ?_
  refine e_iadd 4 em_385 rfl (ce_at ce_385 3 rfl) ?_
  refine e_ivi 7 em_385 (ce_at ce_385 4 rfl) (by omega) (iv_v1 (by decide) tq_121 rfl) em_386 (Nat.le_of_ble_eq_true rfl) rfl (tm_read w (d - 1) (by omega) _ _) (fun r1 s1 => ?_)
  refine e_mv 8 em_385 (ce_at ce_385 5 rfl) rfl rfl ?_
  refine e_mv 9 em_385 (ce_at ce_385 6 rfl) rfl rfl ?_
  refine e_mv 10 em_385 (ce_at ce_385 7 rfl) rfl rfl ?_
  refine e_mv 11 em_385 (ce_at ce_385 8 rfl) rfl rfl ?_
  refine e_ivi 14 em_385 (ce_at ce_385 9 rfl) (by omega) (iv_v1 (by decide) tq_121 rfl) em_386 (Nat.le_of_ble_eq_true rfl) rfl (tm_read w (d - 1) (by omega) _ _) (fun r2 s2 => ?_)
  refine e_gd fun g3 => ?_
  refine e_gd fun g4 => ?_
  refine e_cmlt 23 17 em_385 rfl rfl (ce_at ce_385 10 rfl) g3 g4 (fun h5 => ?_) (fun h5 => ?_)
  · refine e_pk [0, 1, 2, 3] rfl rfl ?_
    exact tm_append_23 w d hd _ _ _ _
  · refine e_mv 18 em_385 (ce_at ce_385 11 rfl) rfl rfl ?_
    refine e_bip 20 em_385 (ce_at ce_385 12 rfl) (by decide) rfl ?_
    refine e_ivv 23 em_385 (ce_at ce_385 13 rfl) (by omega) (iv_v1 (by decide) tq_121 rfl) em_376 (Nat.le_of_ble_eq_true rfl) rfl (tm_err w (d - 1) (by omega) _ _) (fun r6 s6 => ?_)
    refine e_pk [0, 1, 2, 3] rfl rfl ?_
    exact tm_append_23 w d hd _ _ _ _
theorem fm_append (v1 : Int) (v2 : Int) (s : iS) : Fm Prod.snd L_m_append G_m_append s (m_append v1 v2 s) := fm_bd (fm_sub (fm_read _ _) (mem_sub_L rfl) (mem_sub_F rfl)) (fun r1 s1 => fm_bd (fm_sub (fm_read _ _) (mem_sub_L rfl) (mem_sub_F rfl)) (fun r2 s2 => fm_gd (fm_gd (fm_if (fm_append_23 _ _ _ _) (fm_bd (fm_sub (fm_err _ _) (mem_sub_L rfl) (mem_sub_F rfl)) (fun r6 s6 => fm_append_23 _ _ _ _))))))
/-! m_stringItem -/
def L_m_stringItem : List Nat := [175, 176, 177, 180]
def G_m_stringItem : List (Nat × Nat) := [(121, 81), (121, 87), (121, 99), (121, 100)]
def m_stringItem_13C (w : ev_W) (d : Nat) (v1 : Int) (v2 : Int) : (Int × iS) ⊕ (iS) → am_E → Prop := fun q r => q.elim (fun l => ev w d 381 13 ((fun l => [(0, .ref (tb_nK + 121)), (1, iv v1), (2, iv v2), (3, iv (l.1))]) l) [] (hT ((fun l => l.2) l)) r) (fun e => (fun e r => ev w d 381 57 [(0, .ref (tb_nK + 121)), (2, iv v2)] [] (hT (e)) r) e r)
noncomputable def m_stringItem_13b (v1 : Int) (v2 : Int) (v3 : Int) (s : iS) : Option ((Int × iS) ⊕ (iS)) := gd (0 ≤ v1 ∧ v1 < 5000) (gd (rg v3) (gd (rg (s 146 v1.toNat)) (if (s 146 v1.toNat) ≤ v3 then some (.inr s) else gd (rg (s 121 99)) (if (s 121 99) = (-1) then gd (0 ≤ (((s 170 v1.toNat) + 1) + v3) ∧ (((s 170 v1.toNat) + 1) + v3) < 4000) (bd (m_append v2 (s 171 (((s 170 v1.toNat) + 1) + v3).toNat) s) (fun _ s8 => some (.inl ((v3 + 1), s8)))) else some (.inr s)))))
theorem tm_stringItem_13b (w : ev_W) (d : Nat) (hd : 3 ≤ d) (v1 : Int) (v2 : Int) (v3 : Int) (s : iS) : Ew hT w d 381 13 [(0, .ref (tb_nK + 121)), (1, iv v1), (2, iv v2), (3, iv v3)] [] s (m_stringItem_13C w d v1 v2) (m_stringItem_13b v1 v2 v3 s) := by
  unfold m_stringItem_13b
  refine e_mv 14 em_381 (ce_at ce_381 9 rfl) rfl rfl ?_
  refine e_mv 15 em_381 (ce_at ce_381 10 rfl) rfl rfl ?_
  refine e_getr 18 em_381 (ce_at ce_381 11 rfl) tq_121 rfl rfl ?_
  refine e_mv 19 em_381 (ce_at ce_381 12 rfl) rfl rfl ?_
  refine e_gd fun g1 => ?_
  refine e_ild 20 em_381 (ce_at ce_381 13 rfl) tq_146 (by decide) g1 rfl ?_
  refine e_gd fun g2 => ?_
  refine e_gd fun g3 => ?_
  refine e_cmge 57 23 em_381 rfl rfl (ce_at ce_381 14 rfl) g2 g3 (fun h4 => ?_) (fun h4 => ?_)
  · refine e_pk [0, 2] rfl rfl ?_
    exact e_out (fun r h => h)
  · refine e_mv 24 em_381 (ce_at ce_381 15 rfl) rfl rfl ?_
    refine e_get 27 em_381 (ce_at ce_381 16 rfl) tq_121 rfl rfl ?_
    refine e_op 28 em_381 (ce_at ce_381 17 rfl) rfl rfl ?_
    refine e_gd fun g5 => ?_
    refine e_cmne 57 31 em_381 rfl rfl (ce_at ce_381 18 rfl) g5 (by decide) (fun h6 => ?_) (fun h6 => ?_)
    · refine e_pk [0, 2] rfl rfl ?_
      exact e_out (fun r h => h)
    · refine e_mv 32 em_381 (ce_at ce_381 19 rfl) rfl rfl ?_
      refine e_mv 33 em_381 (ce_at ce_381 20 rfl) rfl rfl ?_
      refine e_mv 34 em_381 (ce_at ce_381 21 rfl) rfl rfl ?_
      refine e_getr 37 em_381 (ce_at ce_381 22 rfl) tq_121 rfl rfl ?_
      refine e_mv 38 em_381 (ce_at ce_381 23 rfl) rfl rfl ?_
      refine e_getr 41 em_381 (ce_at ce_381 24 rfl) tq_121 rfl rfl ?_
      refine e_mv 42 em_381 (ce_at ce_381 25 rfl) rfl rfl ?_
      refine e_ild 43 em_381 (ce_at ce_381 26 rfl) tq_170 (by decide) g1 rfl ?_
      refine e_op 44 em_381 (ce_at ce_381 27 rfl) rfl rfl ?_
      refine e_iadd 45 em_381 rfl (ce_at ce_381 28 rfl) ?_
      refine e_mv 46 em_381 (ce_at ce_381 29 rfl) rfl rfl ?_
      refine e_iadd 47 em_381 rfl (ce_at ce_381 30 rfl) ?_
      refine e_gd fun g7 => ?_
      refine e_ild 48 em_381 (ce_at ce_381 31 rfl) tq_171 (by decide) g7 rfl ?_
      refine e_ivv 51 em_381 (ce_at ce_381 32 rfl) (by omega) (iv_v2 (by decide) tq_121 rfl) em_385 (Nat.le_of_ble_eq_true rfl) rfl (tm_append w (d - 1) (by omega) _ _ _) (fun r8 s8 => ?_)
      refine e_iinc 54 em_381 (ce_at ce_381 33 rfl) rfl (by decide) rfl ?_
      refine e_goto em_381 13 (ce_at ce_381 34 rfl) rfl ?_
      refine e_pk [0, 1, 2, 3] rfl rfl ?_
      exact e_out (fun r h => h)
theorem fm_stringItem_13b (v1 : Int) (v2 : Int) (v3 : Int) (s : iS) : Fm (fun r : (Int × iS) ⊕ (iS) => r.elim (fun l => l.2) (fun e => e)) L_m_stringItem G_m_stringItem s (m_stringItem_13b v1 v2 v3 s) := fm_gd (fm_gd (fm_gd (fm_if (fm_some md_refl) (fm_gd (fm_if (fm_gd (fm_bd (fm_sub (fm_append _ _ _) (mem_sub_L rfl) (mem_sub_F rfl)) (fun r8 s8 => fm_some md_refl))) (fm_some md_refl))))))
noncomputable def m_stringItem_57 (v2 : Int) (s : iS) : Option (Int × iS) := bd (m_put v2 s) (fun _ s1 => some (0, s1))
theorem tm_stringItem_57 (w : ev_W) (d : Nat) (hd : 3 ≤ d) (v2 : Int) (s : iS) : Ew hT w d 381 57 [(0, .ref (tb_nK + 121)), (2, iv v2)] [] s (Cv hT) (m_stringItem_57 v2 s) := by
  unfold m_stringItem_57
  refine e_mv 58 em_381 (ce_at ce_381 35 rfl) rfl rfl ?_
  refine e_mv 59 em_381 (ce_at ce_381 36 rfl) rfl rfl ?_
  refine e_ivv 62 em_381 (ce_at ce_381 37 rfl) (by omega) (iv_v1 (by decide) tq_121 rfl) em_379 (Nat.le_of_ble_eq_true rfl) rfl (tm_put w (d - 1) (by omega) _ _) (fun r1 s1 => ?_)
  exact e_retv em_381 (ce_at ce_381 38 rfl)
theorem fm_stringItem_57 (v2 : Int) (s : iS) : Fm Prod.snd L_m_stringItem G_m_stringItem s (m_stringItem_57 v2 s) := fm_bd (fm_sub (fm_put _ _) (mem_sub_L rfl) (mem_sub_F rfl)) (fun r1 s1 => fm_some md_refl)
noncomputable def m_stringItem_13 (v1 : Int) (v2 : Int) (v3 : Int) (s : iS) : Option (Int × iS) := (lp (L := Int × iS) (E := iS) (fun l => m_stringItem_13b v1 v2 (l.1) (l.2)) (v3, s)).bind (fun e => m_stringItem_57 v2 e)
theorem tm_stringItem_13 (w : ev_W) (d : Nat) (hd : 3 ≤ d) (v1 : Int) (v2 : Int) (v3 : Int) (s : iS) : Ew hT w d 381 13 [(0, .ref (tb_nK + 121)), (1, iv v1), (2, iv v2), (3, iv v3)] [] s (Cv hT) (m_stringItem_13 v1 v2 v3 s) := by
  unfold m_stringItem_13
  refine e_lp (L := Int × iS) (E := iS) (LO := fun l => [(0, .ref (tb_nK + 121)), (1, iv v1), (2, iv v2), (3, iv (l.1))]) (LS := fun l => l.2) (CE := fun e r => ev w d 381 57 [(0, .ref (tb_nK + 121)), (2, iv v2)] [] (hT (e)) r) (fun l => tm_stringItem_13b w d hd _ _ _ _) ?_ (v3, s)
  intro e
  show Ew hT w d 381 57 [(0, .ref (tb_nK + 121)), (2, iv v2)] [] e (Cv hT) _
  refine e_pk [0, 2] rfl rfl ?_
  exact tm_stringItem_57 w d hd _ _
theorem fm_stringItem_13 (v1 : Int) (v2 : Int) (v3 : Int) (s : iS) : Fm Prod.snd L_m_stringItem G_m_stringItem s (m_stringItem_13 v1 v2 v3 s) := by
  unfold m_stringItem_13
  refine fm_lp (A := Int × iS) (E := iS) (LS := fun l => l.2) (LE := fun e => e) ?_ ?_ (v3, s)
  · exact fun l => fm_stringItem_13b _ _ _ _
  · exact (fun e => fm_stringItem_57 _ _)
noncomputable def m_stringItem (v1 : Int) (s : iS) : Option (Int × iS) := gd (0 ≤ v1 ∧ v1 < 5000) (bd (m_newString (s 146 v1.toNat) s) (fun r2 s2 => m_stringItem_13 v1 r2 0 s2))
theorem tm_stringItem (w : ev_W) (d : Nat) (hd : 3 ≤ d) (v1 : Int) (s : iS) : Ew hT w d 381 0 [(0, .ref (tb_nK + 121)), (1, iv v1)] [] s (Cv hT) (m_stringItem v1 s) := by
  unfold m_stringItem
  refine e_mv 1 em_381 (ce_at ce_381 0 rfl) rfl rfl ?_
  refine e_mv 2 em_381 (ce_at ce_381 1 rfl) rfl rfl ?_
  refine e_getr 5 em_381 (ce_at ce_381 2 rfl) tq_121 rfl rfl ?_
  refine e_mv 6 em_381 (ce_at ce_381 3 rfl) rfl rfl ?_
  refine e_gd fun g1 => ?_
  refine e_ild 7 em_381 (ce_at ce_381 4 rfl) tq_146 (by decide) g1 rfl ?_
  refine e_ivi 10 em_381 (ce_at ce_381 5 rfl) (by omega) (iv_v1 (by decide) tq_121 rfl) em_382 (Nat.le_of_ble_eq_true rfl) rfl (tm_newString w (d - 1) (by omega) _ _) (fun r2 s2 => ?_)
  refine e_mv 11 em_381 (ce_at ce_381 6 rfl) rfl rfl ?_
  refine e_op 12 em_381 (ce_at ce_381 7 rfl) rfl rfl ?_
  refine e_mv 13 em_381 (ce_at ce_381 8 rfl) rfl rfl ?_
  refine e_pk [0, 1, 2, 3] rfl rfl ?_
  exact tm_stringItem_13 w d hd _ _ _ _
theorem fm_stringItem (v1 : Int) (s : iS) : Fm Prod.snd L_m_stringItem G_m_stringItem s (m_stringItem v1 s) := fm_gd (fm_bd (fm_sub (fm_newString _ _) (mem_sub_L rfl) (mem_sub_F rfl)) (fun r2 s2 => fm_stringItem_13 _ _ _ _))
/-! m_setVariable -/
def L_m_setVariable : List Nat := [175, 178, 179]
def G_m_setVariable : List (Nat × Nat) := [(121, 99), (121, 100)]
noncomputable def m_setVariable (v1 : Int) (v2 : Int) (s : iS) : Option (Int × iS) := gd (0 ≤ v1 ∧ v1 < 1100) (gd (rg (s 139 v1.toNat)) (if (s 139 v1.toNat) = 0 then gd (0 ≤ (s 143 v1.toNat) ∧ (s 143 v1.toNat) < 12) (lt' (up s 178 (s 143 v1.toNat).toNat v2) (fun s5 => some (0, s5))) else if (s 139 v1.toNat) = 1 then gd (0 ≤ ((s 121 88) - 1) ∧ ((s 121 88) - 1) < 41) (bd (m_write ((s 183 ((s 121 88) - 1).toNat) + (s 142 v1.toNat)) v2 s) (fun _ s8 => some (0, s8))) else if (s 139 v1.toNat) = 2 then gd (0 ≤ ((24 * ((s 121 88) - 1)) + (s 142 v1.toNat)) ∧ ((24 * ((s 121 88) - 1)) + (s 142 v1.toNat)) < 1000) (lt' (up s 179 ((24 * ((s 121 88) - 1)) + (s 142 v1.toNat)).toNat v2) (fun s11 => some (0, s11))) else gd (0 ≤ (((24 * ((s 121 88) - 1)) + 12) + (s 142 v1.toNat)) ∧ (((24 * ((s 121 88) - 1)) + 12) + (s 142 v1.toNat)) < 1000) (lt' (up s 179 (((24 * ((s 121 88) - 1)) + 12) + (s 142 v1.toNat)).toNat v2) (fun s13 => some (0, s13)))))
theorem tm_setVariable (w : ev_W) (d : Nat) (hd : 2 ≤ d) (v1 : Int) (v2 : Int) (s : iS) : Ew hT w d 414 0 [(0, .ref (tb_nK + 121)), (1, iv v1), (2, iv v2)] [] s (Cv hT) (m_setVariable v1 v2 s) := by
  unfold m_setVariable
  refine e_mv 1 em_414 (ce_at ce_414 0 rfl) rfl rfl ?_
  refine e_get 4 em_414 (ce_at ce_414 1 rfl) tq_121 rfl rfl ?_
  refine e_op 5 em_414 (ce_at ce_414 2 rfl) rfl rfl ?_
  refine e_isub 6 em_414 rfl (ce_at ce_414 3 rfl) ?_
  refine e_mv 7 em_414 (ce_at ce_414 4 rfl) rfl rfl ?_
  refine e_mv 8 em_414 (ce_at ce_414 5 rfl) rfl rfl ?_
  refine e_getr 11 em_414 (ce_at ce_414 6 rfl) tq_121 rfl rfl ?_
  refine e_mv 12 em_414 (ce_at ce_414 7 rfl) rfl rfl ?_
  refine e_gd fun g1 => ?_
  refine e_ild 13 em_414 (ce_at ce_414 8 rfl) tq_139 (by decide) g1 rfl ?_
  refine e_gd fun g2 => ?_
  refine e_case 0 (fun h3 => ?_) (fun h3 => ?_)
  · refine e_sw em_414 40 (ce_at ce_414 9 rfl) (sw_in g2 (by omega) (by rw [h3]; rfl)) rfl ?_
    refine e_mv 41 em_414 (ce_at ce_414 10 rfl) rfl rfl ?_
    refine e_getr 44 em_414 (ce_at ce_414 11 rfl) tq_121 rfl rfl ?_
    refine e_mv 45 em_414 (ce_at ce_414 12 rfl) rfl rfl ?_
    refine e_getr 48 em_414 (ce_at ce_414 13 rfl) tq_121 rfl rfl ?_
    refine e_mv 49 em_414 (ce_at ce_414 14 rfl) rfl rfl ?_
    refine e_ild 50 em_414 (ce_at ce_414 15 rfl) tq_143 (by decide) g1 rfl ?_
    refine e_mv 51 em_414 (ce_at ce_414 16 rfl) rfl rfl ?_
    refine e_gd fun g4 => ?_
    refine e_ist 52 em_414 (ce_at ce_414 17 rfl) tq_178 (by decide) g4 rfl (fun s5 => ?_)
    exact e_retv em_414 (ce_at ce_414 18 rfl)
  refine e_case 1 (fun h6 => ?_) (fun h6 => ?_)
  · refine e_sw em_414 53 (ce_at ce_414 9 rfl) (sw_in g2 (by omega) (by rw [h6]; rfl)) rfl ?_
    refine e_mv 54 em_414 (ce_at ce_414 19 rfl) rfl rfl ?_
    refine e_mv 55 em_414 (ce_at ce_414 20 rfl) rfl rfl ?_
    refine e_getr 58 em_414 (ce_at ce_414 21 rfl) tq_121 rfl rfl ?_
    refine e_mv 59 em_414 (ce_at ce_414 22 rfl) rfl rfl ?_
    refine e_gd fun g7 => ?_
    refine e_ild 60 em_414 (ce_at ce_414 23 rfl) tq_183 (by decide) g7 rfl ?_
    refine e_mv 61 em_414 (ce_at ce_414 24 rfl) rfl rfl ?_
    refine e_getr 64 em_414 (ce_at ce_414 25 rfl) tq_121 rfl rfl ?_
    refine e_mv 65 em_414 (ce_at ce_414 26 rfl) rfl rfl ?_
    refine e_ild 66 em_414 (ce_at ce_414 27 rfl) tq_142 (by decide) g1 rfl ?_
    refine e_iadd 67 em_414 rfl (ce_at ce_414 28 rfl) ?_
    refine e_mv 68 em_414 (ce_at ce_414 29 rfl) rfl rfl ?_
    refine e_ivv 71 em_414 (ce_at ce_414 30 rfl) (by omega) (iv_v2 (by decide) tq_121 rfl) em_383 (Nat.le_of_ble_eq_true rfl) rfl (tm_write w (d - 1) (by omega) _ _ _) (fun r8 s8 => ?_)
    exact e_retv em_414 (ce_at ce_414 31 rfl)
  refine e_case 2 (fun h9 => ?_) (fun h9 => ?_)
  · refine e_sw em_414 72 (ce_at ce_414 9 rfl) (sw_in g2 (by omega) (by rw [h9]; rfl)) rfl ?_
    refine e_mv 73 em_414 (ce_at ce_414 32 rfl) rfl rfl ?_
    refine e_getr 76 em_414 (ce_at ce_414 33 rfl) tq_121 rfl rfl ?_
    refine e_bip 78 em_414 (ce_at ce_414 34 rfl) (by decide) rfl ?_
    refine e_mv 79 em_414 (ce_at ce_414 35 rfl) rfl rfl ?_
    refine e_imul 80 em_414 rfl (ce_at ce_414 36 rfl) ?_
    refine e_mv 81 em_414 (ce_at ce_414 37 rfl) rfl rfl ?_
    refine e_getr 84 em_414 (ce_at ce_414 38 rfl) tq_121 rfl rfl ?_
    refine e_mv 85 em_414 (ce_at ce_414 39 rfl) rfl rfl ?_
    refine e_ild 86 em_414 (ce_at ce_414 40 rfl) tq_142 (by decide) g1 rfl ?_
    refine e_iadd 87 em_414 rfl (ce_at ce_414 41 rfl) ?_
    refine e_mv 88 em_414 (ce_at ce_414 42 rfl) rfl rfl ?_
    refine e_gd fun g10 => ?_
    refine e_ist 89 em_414 (ce_at ce_414 43 rfl) tq_179 (by decide) g10 rfl (fun s11 => ?_)
    exact e_retv em_414 (ce_at ce_414 44 rfl)
  refine e_sw em_414 90 (ce_at ce_414 9 rfl) (sw_out g2 (by omega)) rfl ?_
  refine e_mv 91 em_414 (ce_at ce_414 45 rfl) rfl rfl ?_
  refine e_getr 94 em_414 (ce_at ce_414 46 rfl) tq_121 rfl rfl ?_
  refine e_bip 96 em_414 (ce_at ce_414 47 rfl) (by decide) rfl ?_
  refine e_mv 97 em_414 (ce_at ce_414 48 rfl) rfl rfl ?_
  refine e_imul 98 em_414 rfl (ce_at ce_414 49 rfl) ?_
  refine e_bip 100 em_414 (ce_at ce_414 50 rfl) (by decide) rfl ?_
  refine e_iadd 101 em_414 rfl (ce_at ce_414 51 rfl) ?_
  refine e_mv 102 em_414 (ce_at ce_414 52 rfl) rfl rfl ?_
  refine e_getr 105 em_414 (ce_at ce_414 53 rfl) tq_121 rfl rfl ?_
  refine e_mv 106 em_414 (ce_at ce_414 54 rfl) rfl rfl ?_
  refine e_ild 107 em_414 (ce_at ce_414 55 rfl) tq_142 (by decide) g1 rfl ?_
  refine e_iadd 108 em_414 rfl (ce_at ce_414 56 rfl) ?_
  refine e_mv 109 em_414 (ce_at ce_414 57 rfl) rfl rfl ?_
  refine e_gd fun g12 => ?_
  refine e_ist 110 em_414 (ce_at ce_414 58 rfl) tq_179 (by decide) g12 rfl (fun s13 => ?_)
  exact e_retv em_414 (ce_at ce_414 59 rfl)
theorem fm_setVariable (v1 : Int) (v2 : Int) (s : iS) : Fm Prod.snd L_m_setVariable G_m_setVariable s (m_setVariable v1 v2 s) := fm_gd (fm_gd (fm_if (fm_gd (fm_lt (md_upL (mem_L rfl)) (fun s5 => fm_some md_refl))) (fm_if (fm_gd (fm_bd (fm_sub (fm_write _ _ _) (mem_sub_L rfl) (mem_sub_F rfl)) (fun r8 s8 => fm_some md_refl))) (fm_if (fm_gd (fm_lt (md_upL (mem_L rfl)) (fun s11 => fm_some md_refl))) (fm_gd (fm_lt (md_upL (mem_L rfl)) (fun s13 => fm_some md_refl)))))))
/-! m_returns -/
def L_m_returns : List Nat := [180]
def G_m_returns : List (Nat × Nat) := [(121, 87), (121, 88), (121, 95), (121, 98), (121, 99)]
noncomputable def m_returns (s : iS) : Option (Int × iS) := bd (m_pop s) (fun r1 s1 => lt' (up s1 121 88 ((s1 121 88) - 1)) (fun s2 => gd (0 ≤ (s2 121 88) ∧ (s2 121 88) < 41) (lt' (up s2 121 95 (s2 184 (s2 121 88).toNat)) (fun s4 => gd (0 ≤ (s4 121 88) ∧ (s4 121 88) < 41) (lt' (up s4 121 98 (s4 181 (s4 121 88).toNat)) (fun s6 => gd (rg (s6 121 88)) (if (s6 121 88) = 0 then lt' (up s6 121 99 0) (fun s10 => some (0, s10)) else bd (m_put r1 s6) (fun _ s9 => some (0, s9)))))))))
theorem tm_returns (w : ev_W) (d : Nat) (hd : 2 ≤ d) (s : iS) : Ew hT w d 415 0 [(0, .ref (tb_nK + 121))] [] s (Cv hT) (m_returns s) := by
  unfold m_returns
  refine e_mv 1 em_415 (ce_at ce_415 0 rfl) rfl rfl ?_
  refine e_ivi 4 em_415 (ce_at ce_415 1 rfl) (by omega) (iv_v0 (by decide) tq_121 rfl) em_374 (Nat.le_of_ble_eq_true rfl) rfl (tm_pop w (d - 1) (by omega) _) (fun r1 s1 => ?_)
  refine e_mv 5 em_415 (ce_at ce_415 2 rfl) rfl rfl ?_
  refine e_mv 6 em_415 (ce_at ce_415 3 rfl) rfl rfl ?_
  refine e_mv 7 em_415 (ce_at ce_415 4 rfl) rfl rfl ?_
  refine e_get 10 em_415 (ce_at ce_415 5 rfl) tq_121 rfl rfl ?_
  refine e_op 11 em_415 (ce_at ce_415 6 rfl) rfl rfl ?_
  refine e_isub 12 em_415 rfl (ce_at ce_415 7 rfl) ?_
  refine e_put 15 em_415 (ce_at ce_415 8 rfl) tq_121 rfl rfl rfl (fun s2 => ?_)
  refine e_mv 16 em_415 (ce_at ce_415 9 rfl) rfl rfl ?_
  refine e_mv 17 em_415 (ce_at ce_415 10 rfl) rfl rfl ?_
  refine e_getr 20 em_415 (ce_at ce_415 11 rfl) tq_121 rfl rfl ?_
  refine e_mv 21 em_415 (ce_at ce_415 12 rfl) rfl rfl ?_
  refine e_get 24 em_415 (ce_at ce_415 13 rfl) tq_121 rfl rfl ?_
  refine e_gd fun g3 => ?_
  refine e_ild 25 em_415 (ce_at ce_415 14 rfl) tq_184 (by decide) g3 rfl ?_
  refine e_put 28 em_415 (ce_at ce_415 15 rfl) tq_121 rfl rfl rfl (fun s4 => ?_)
  refine e_mv 29 em_415 (ce_at ce_415 16 rfl) rfl rfl ?_
  refine e_mv 30 em_415 (ce_at ce_415 17 rfl) rfl rfl ?_
  refine e_getr 33 em_415 (ce_at ce_415 18 rfl) tq_121 rfl rfl ?_
  refine e_mv 34 em_415 (ce_at ce_415 19 rfl) rfl rfl ?_
  refine e_get 37 em_415 (ce_at ce_415 20 rfl) tq_121 rfl rfl ?_
  refine e_gd fun g5 => ?_
  refine e_ild 38 em_415 (ce_at ce_415 21 rfl) tq_181 (by decide) g5 rfl ?_
  refine e_put 41 em_415 (ce_at ce_415 22 rfl) tq_121 rfl rfl rfl (fun s6 => ?_)
  refine e_mv 42 em_415 (ce_at ce_415 23 rfl) rfl rfl ?_
  refine e_get 45 em_415 (ce_at ce_415 24 rfl) tq_121 rfl rfl ?_
  refine e_gd fun g7 => ?_
  refine e_ifne 56 48 em_415 rfl rfl (ce_at ce_415 25 rfl) g7 (fun h8 => ?_) (fun h8 => ?_)
  · refine e_mv 57 em_415 (ce_at ce_415 30 rfl) rfl rfl ?_
    refine e_mv 58 em_415 (ce_at ce_415 31 rfl) rfl rfl ?_
    refine e_ivv 61 em_415 (ce_at ce_415 32 rfl) (by omega) (iv_v1 (by decide) tq_121 rfl) em_379 (Nat.le_of_ble_eq_true rfl) rfl (tm_put w (d - 1) (by omega) _ _) (fun r9 s9 => ?_)
    exact e_retv em_415 (ce_at ce_415 33 rfl)
  · refine e_mv 49 em_415 (ce_at ce_415 26 rfl) rfl rfl ?_
    refine e_op 50 em_415 (ce_at ce_415 27 rfl) rfl rfl ?_
    refine e_put 53 em_415 (ce_at ce_415 28 rfl) tq_121 rfl rfl rfl (fun s10 => ?_)
    refine e_goto em_415 61 (ce_at ce_415 29 rfl) rfl ?_
    exact e_retv em_415 (ce_at ce_415 33 rfl)
theorem fm_returns (s : iS) : Fm Prod.snd L_m_returns G_m_returns s (m_returns s) := fm_bd (fm_sub (fm_pop _) (mem_sub_L rfl) (mem_sub_F rfl)) (fun r1 s1 => fm_lt (md_upF (mem_F rfl)) (fun s2 => fm_gd (fm_lt (md_upF (mem_F rfl)) (fun s4 => fm_gd (fm_lt (md_upF (mem_F rfl)) (fun s6 => fm_gd (fm_if (fm_lt (md_upF (mem_F rfl)) (fun s10 => fm_some md_refl)) (fm_bd (fm_sub (fm_put _ _) (mem_sub_L rfl) (mem_sub_F rfl)) (fun r9 s9 => fm_some md_refl)))))))))
/-! m_doStatementItem -/
def L_m_doStatementItem : List Nat := [175, 178, 179, 180, 185]
def G_m_doStatementItem : List (Nat × Nat) := [(121, 4), (121, 87), (121, 88), (121, 95), (121, 96), (121, 98), (121, 99), (121, 100)]
noncomputable def m_doStatementItem_73 (v1 : Int) (s : iS) : Option (Int × iS) := gd (0 ≤ v1 ∧ v1 < 5000) (gd (0 ≤ (s 121 95) ∧ (s 121 95) < 1200) (lt' (up s 185 (s 121 95).toNat (s 170 v1.toNat)) (fun s3 => lt' (up s3 121 95 ((s3 121 95) + 1)) (fun s4 => some (0, s4)))))
theorem tm_doStatementItem_73 (w : ev_W) (d : Nat) (hd : 3 ≤ d) (v1 : Int) (s : iS) : Ew hT w d 413 73 [(0, .ref (tb_nK + 121)), (1, iv v1)] [] s (Cv hT) (m_doStatementItem_73 v1 s) := by
  unfold m_doStatementItem_73
  refine e_mv 74 em_413 (ce_at ce_413 14 rfl) rfl rfl ?_
  refine e_getr 77 em_413 (ce_at ce_413 15 rfl) tq_121 rfl rfl ?_
  refine e_mv 78 em_413 (ce_at ce_413 16 rfl) rfl rfl ?_
  refine e_get 81 em_413 (ce_at ce_413 17 rfl) tq_121 rfl rfl ?_
  refine e_mv 82 em_413 (ce_at ce_413 18 rfl) rfl rfl ?_
  refine e_getr 85 em_413 (ce_at ce_413 19 rfl) tq_121 rfl rfl ?_
  refine e_mv 86 em_413 (ce_at ce_413 20 rfl) rfl rfl ?_
  refine e_gd fun g1 => ?_
  refine e_ild 87 em_413 (ce_at ce_413 21 rfl) tq_170 (by decide) g1 rfl ?_
  refine e_gd fun g2 => ?_
  refine e_ist 88 em_413 (ce_at ce_413 22 rfl) tq_185 (by decide) g2 rfl (fun s3 => ?_)
  refine e_mv 89 em_413 (ce_at ce_413 23 rfl) rfl rfl ?_
  refine e_mv 90 em_413 (ce_at ce_413 24 rfl) rfl rfl ?_
  refine e_get 93 em_413 (ce_at ce_413 25 rfl) tq_121 rfl rfl ?_
  refine e_op 94 em_413 (ce_at ce_413 26 rfl) rfl rfl ?_
  refine e_iadd 95 em_413 rfl (ce_at ce_413 27 rfl) ?_
  refine e_put 98 em_413 (ce_at ce_413 28 rfl) tq_121 rfl rfl rfl (fun s4 => ?_)
  exact e_retv em_413 (ce_at ce_413 29 rfl)
theorem fm_doStatementItem_73 (v1 : Int) (s : iS) : Fm Prod.snd L_m_doStatementItem G_m_doStatementItem s (m_doStatementItem_73 v1 s) := fm_gd (fm_gd (fm_lt (md_upL (mem_L rfl)) (fun s3 => fm_lt (md_upF (mem_F rfl)) (fun s4 => fm_some md_refl))))
noncomputable def m_doStatementItem (v1 : Int) (s : iS) : Option (Int × iS) := gd (0 ≤ v1 ∧ v1 < 5000) (gd (rg (s 144 v1.toNat)) (if (s 144 v1.toNat) = 11 then bd (m_step s) (fun r4 s4 => gd (rg r4) (if r4 = 0 then lt' (up s4 121 4 (s4 170 v1.toNat)) (fun s7 => m_doStatementItem_73 v1 s7) else m_doStatementItem_73 v1 s4)) else if (s 144 v1.toNat) = 12 then lt' (up s 121 95 ((s 121 95) - 1)) (fun s9 => some (0, s9)) else if (s 144 v1.toNat) = 13 then bd (m_pop s) (fun r11 s11 => bd (m_setVariable (s 145 v1.toNat) r11 s11) (fun _ s12 => some (0, s12))) else if (s 144 v1.toNat) = 14 then bd (m_pop s) (fun r14 s14 => bd (m_pop s14) (fun r15 s15 => bd (m_write r15 r14 s15) (fun _ s16 => some (0, s16)))) else if (s 144 v1.toNat) = 15 then bd (m_pop s) (fun r18 s18 => gd (rg r18) (if r18 = 0 then lt' (up s18 121 98 (s18 145 v1.toNat)) (fun s21 => some (0, s21)) else some (0, s18))) else if (s 144 v1.toNat) = 16 then lt' (up s 121 98 (s 145 v1.toNat)) (fun s23 => some (0, s23)) else if (s 144 v1.toNat) = 17 then bd (m_step s) (fun r25 s25 => some (0, s25)) else if (s 144 v1.toNat) = 18 then bd (m_returns s) (fun _ s27 => some (0, s27)) else if (s 144 v1.toNat) = 19 then bd (m_pop s) (fun r29 s29 => some (0, s29)) else some (0, s)))
theorem tm_doStatementItem (w : ev_W) (d : Nat) (hd : 3 ≤ d) (v1 : Int) (s : iS) : Ew hT w d 413 0 [(0, .ref (tb_nK + 121)), (1, iv v1)] [] s (Cv hT) (m_doStatementItem v1 s) := by
  unfold m_doStatementItem
  refine e_mv 1 em_413 (ce_at ce_413 0 rfl) rfl rfl ?_
  refine e_getr 4 em_413 (ce_at ce_413 1 rfl) tq_121 rfl rfl ?_
  refine e_mv 5 em_413 (ce_at ce_413 2 rfl) rfl rfl ?_
  refine e_gd fun g1 => ?_
  refine e_ild 6 em_413 (ce_at ce_413 3 rfl) tq_144 (by decide) g1 rfl ?_
  refine e_gd fun g2 => ?_
  refine e_case 11 (fun h3 => ?_) (fun h3 => ?_)
  · refine e_sw em_413 56 (ce_at ce_413 4 rfl) (sw_in g2 (by omega) (by rw [h3]; rfl)) rfl ?_
    refine e_mv 57 em_413 (ce_at ce_413 5 rfl) rfl rfl ?_
    refine e_ivi 60 em_413 (ce_at ce_413 6 rfl) (by omega) (iv_v0 (by decide) tq_121 rfl) em_373 (Nat.le_of_ble_eq_true rfl) rfl (tm_step w (d - 1) (by omega) _) (fun r4 s4 => ?_)
    refine e_gd fun g5 => ?_
    refine e_ifne 73 63 em_413 rfl rfl (ce_at ce_413 7 rfl) g5 (fun h6 => ?_) (fun h6 => ?_)
    · refine e_pk [0, 1] rfl rfl ?_
      exact tm_doStatementItem_73 w d hd _ _
    · refine e_mv 64 em_413 (ce_at ce_413 8 rfl) rfl rfl ?_
      refine e_mv 65 em_413 (ce_at ce_413 9 rfl) rfl rfl ?_
      refine e_getr 68 em_413 (ce_at ce_413 10 rfl) tq_121 rfl rfl ?_
      refine e_mv 69 em_413 (ce_at ce_413 11 rfl) rfl rfl ?_
      refine e_ild 70 em_413 (ce_at ce_413 12 rfl) tq_170 (by decide) g1 rfl ?_
      refine e_put 73 em_413 (ce_at ce_413 13 rfl) tq_121 rfl rfl rfl (fun s7 => ?_)
      refine e_pk [0, 1] rfl rfl ?_
      exact tm_doStatementItem_73 w d hd _ _
  refine e_case 12 (fun h8 => ?_) (fun h8 => ?_)
  · refine e_sw em_413 99 (ce_at ce_413 4 rfl) (sw_in g2 (by omega) (by rw [h8]; rfl)) rfl ?_
    refine e_mv 100 em_413 (ce_at ce_413 30 rfl) rfl rfl ?_
    refine e_mv 101 em_413 (ce_at ce_413 31 rfl) rfl rfl ?_
    refine e_get 104 em_413 (ce_at ce_413 32 rfl) tq_121 rfl rfl ?_
    refine e_op 105 em_413 (ce_at ce_413 33 rfl) rfl rfl ?_
    refine e_isub 106 em_413 rfl (ce_at ce_413 34 rfl) ?_
    refine e_put 109 em_413 (ce_at ce_413 35 rfl) tq_121 rfl rfl rfl (fun s9 => ?_)
    exact e_retv em_413 (ce_at ce_413 36 rfl)
  refine e_case 13 (fun h10 => ?_) (fun h10 => ?_)
  · refine e_sw em_413 110 (ce_at ce_413 4 rfl) (sw_in g2 (by omega) (by rw [h10]; rfl)) rfl ?_
    refine e_mv 111 em_413 (ce_at ce_413 37 rfl) rfl rfl ?_
    refine e_mv 112 em_413 (ce_at ce_413 38 rfl) rfl rfl ?_
    refine e_getr 115 em_413 (ce_at ce_413 39 rfl) tq_121 rfl rfl ?_
    refine e_mv 116 em_413 (ce_at ce_413 40 rfl) rfl rfl ?_
    refine e_ild 117 em_413 (ce_at ce_413 41 rfl) tq_145 (by decide) g1 rfl ?_
    refine e_mv 118 em_413 (ce_at ce_413 42 rfl) rfl rfl ?_
    refine e_ivi 121 em_413 (ce_at ce_413 43 rfl) (by omega) (iv_v0 (by decide) tq_121 rfl) em_374 (Nat.le_of_ble_eq_true rfl) rfl (tm_pop w (d - 1) (by omega) _) (fun r11 s11 => ?_)
    refine e_ivv 124 em_413 (ce_at ce_413 44 rfl) (by omega) (iv_v2 (by decide) tq_121 rfl) em_414 (Nat.le_of_ble_eq_true rfl) rfl (tm_setVariable w (d - 1) (by omega) _ _ _) (fun r12 s12 => ?_)
    exact e_retv em_413 (ce_at ce_413 45 rfl)
  refine e_case 14 (fun h13 => ?_) (fun h13 => ?_)
  · refine e_sw em_413 125 (ce_at ce_413 4 rfl) (sw_in g2 (by omega) (by rw [h13]; rfl)) rfl ?_
    refine e_mv 126 em_413 (ce_at ce_413 46 rfl) rfl rfl ?_
    refine e_ivi 129 em_413 (ce_at ce_413 47 rfl) (by omega) (iv_v0 (by decide) tq_121 rfl) em_374 (Nat.le_of_ble_eq_true rfl) rfl (tm_pop w (d - 1) (by omega) _) (fun r14 s14 => ?_)
    refine e_mv 130 em_413 (ce_at ce_413 48 rfl) rfl rfl ?_
    refine e_mv 131 em_413 (ce_at ce_413 49 rfl) rfl rfl ?_
    refine e_mv 132 em_413 (ce_at ce_413 50 rfl) rfl rfl ?_
    refine e_ivi 135 em_413 (ce_at ce_413 51 rfl) (by omega) (iv_v0 (by decide) tq_121 rfl) em_374 (Nat.le_of_ble_eq_true rfl) rfl (tm_pop w (d - 1) (by omega) _) (fun r15 s15 => ?_)
    refine e_mv 136 em_413 (ce_at ce_413 52 rfl) rfl rfl ?_
    refine e_ivv 139 em_413 (ce_at ce_413 53 rfl) (by omega) (iv_v2 (by decide) tq_121 rfl) em_383 (Nat.le_of_ble_eq_true rfl) rfl (tm_write w (d - 1) (by omega) _ _ _) (fun r16 s16 => ?_)
    exact e_retv em_413 (ce_at ce_413 54 rfl)
  refine e_case 15 (fun h17 => ?_) (fun h17 => ?_)
  · refine e_sw em_413 140 (ce_at ce_413 4 rfl) (sw_in g2 (by omega) (by rw [h17]; rfl)) rfl ?_
    refine e_mv 141 em_413 (ce_at ce_413 55 rfl) rfl rfl ?_
    refine e_ivi 144 em_413 (ce_at ce_413 56 rfl) (by omega) (iv_v0 (by decide) tq_121 rfl) em_374 (Nat.le_of_ble_eq_true rfl) rfl (tm_pop w (d - 1) (by omega) _) (fun r18 s18 => ?_)
    refine e_gd fun g19 => ?_
    refine e_ifne 157 147 em_413 rfl rfl (ce_at ce_413 57 rfl) g19 (fun h20 => ?_) (fun h20 => ?_)
    · exact e_retv em_413 (ce_at ce_413 64 rfl)
    · refine e_mv 148 em_413 (ce_at ce_413 58 rfl) rfl rfl ?_
      refine e_mv 149 em_413 (ce_at ce_413 59 rfl) rfl rfl ?_
      refine e_getr 152 em_413 (ce_at ce_413 60 rfl) tq_121 rfl rfl ?_
      refine e_mv 153 em_413 (ce_at ce_413 61 rfl) rfl rfl ?_
      refine e_ild 154 em_413 (ce_at ce_413 62 rfl) tq_145 (by decide) g1 rfl ?_
      refine e_put 157 em_413 (ce_at ce_413 63 rfl) tq_121 rfl rfl rfl (fun s21 => ?_)
      exact e_retv em_413 (ce_at ce_413 64 rfl)
  refine e_case 16 (fun h22 => ?_) (fun h22 => ?_)
  · refine e_sw em_413 158 (ce_at ce_413 4 rfl) (sw_in g2 (by omega) (by rw [h22]; rfl)) rfl ?_
    refine e_mv 159 em_413 (ce_at ce_413 65 rfl) rfl rfl ?_
    refine e_mv 160 em_413 (ce_at ce_413 66 rfl) rfl rfl ?_
    refine e_getr 163 em_413 (ce_at ce_413 67 rfl) tq_121 rfl rfl ?_
    refine e_mv 164 em_413 (ce_at ce_413 68 rfl) rfl rfl ?_
    refine e_ild 165 em_413 (ce_at ce_413 69 rfl) tq_145 (by decide) g1 rfl ?_
    refine e_put 168 em_413 (ce_at ce_413 70 rfl) tq_121 rfl rfl rfl (fun s23 => ?_)
    exact e_retv em_413 (ce_at ce_413 71 rfl)
  refine e_case 17 (fun h24 => ?_) (fun h24 => ?_)
  · refine e_sw em_413 169 (ce_at ce_413 4 rfl) (sw_in g2 (by omega) (by rw [h24]; rfl)) rfl ?_
    refine e_mv 170 em_413 (ce_at ce_413 72 rfl) rfl rfl ?_
    refine e_ivi 173 em_413 (ce_at ce_413 73 rfl) (by omega) (iv_v0 (by decide) tq_121 rfl) em_373 (Nat.le_of_ble_eq_true rfl) rfl (tm_step w (d - 1) (by omega) _) (fun r25 s25 => ?_)
    refine e_mv 174 em_413 (ce_at ce_413 74 rfl) rfl rfl ?_
    exact e_retv em_413 (ce_at ce_413 75 rfl)
  refine e_case 18 (fun h26 => ?_) (fun h26 => ?_)
  · refine e_sw em_413 175 (ce_at ce_413 4 rfl) (sw_in g2 (by omega) (by rw [h26]; rfl)) rfl ?_
    refine e_mv 176 em_413 (ce_at ce_413 76 rfl) rfl rfl ?_
    refine e_ivv 179 em_413 (ce_at ce_413 77 rfl) (by omega) (iv_v0 (by decide) tq_121 rfl) em_415 (Nat.le_of_ble_eq_true rfl) rfl (tm_returns w (d - 1) (by omega) _) (fun r27 s27 => ?_)
    exact e_retv em_413 (ce_at ce_413 78 rfl)
  refine e_case 19 (fun h28 => ?_) (fun h28 => ?_)
  · refine e_sw em_413 180 (ce_at ce_413 4 rfl) (sw_in g2 (by omega) (by rw [h28]; rfl)) rfl ?_
    refine e_mv 181 em_413 (ce_at ce_413 79 rfl) rfl rfl ?_
    refine e_ivi 184 em_413 (ce_at ce_413 80 rfl) (by omega) (iv_v0 (by decide) tq_121 rfl) em_374 (Nat.le_of_ble_eq_true rfl) rfl (tm_pop w (d - 1) (by omega) _) (fun r29 s29 => ?_)
    refine e_mv 185 em_413 (ce_at ce_413 81 rfl) rfl rfl ?_
    exact e_retv em_413 (ce_at ce_413 82 rfl)
  refine e_sw em_413 186 (ce_at ce_413 4 rfl) (sw_out g2 (by omega)) rfl ?_
  exact e_retv em_413 (ce_at ce_413 83 rfl)
theorem fm_doStatementItem (v1 : Int) (s : iS) : Fm Prod.snd L_m_doStatementItem G_m_doStatementItem s (m_doStatementItem v1 s) := fm_gd (fm_gd (fm_if (fm_bd (fm_sub (fm_step _) (mem_sub_L rfl) (mem_sub_F rfl)) (fun r4 s4 => fm_gd (fm_if (fm_lt (md_upF (mem_F rfl)) (fun s7 => fm_doStatementItem_73 _ _)) (fm_doStatementItem_73 _ _)))) (fm_if (fm_lt (md_upF (mem_F rfl)) (fun s9 => fm_some md_refl)) (fm_if (fm_bd (fm_sub (fm_pop _) (mem_sub_L rfl) (mem_sub_F rfl)) (fun r11 s11 => fm_bd (fm_sub (fm_setVariable _ _ _) (mem_sub_L rfl) (mem_sub_F rfl)) (fun r12 s12 => fm_some md_refl))) (fm_if (fm_bd (fm_sub (fm_pop _) (mem_sub_L rfl) (mem_sub_F rfl)) (fun r14 s14 => fm_bd (fm_sub (fm_pop _) (mem_sub_L rfl) (mem_sub_F rfl)) (fun r15 s15 => fm_bd (fm_sub (fm_write _ _ _) (mem_sub_L rfl) (mem_sub_F rfl)) (fun r16 s16 => fm_some md_refl)))) (fm_if (fm_bd (fm_sub (fm_pop _) (mem_sub_L rfl) (mem_sub_F rfl)) (fun r18 s18 => fm_gd (fm_if (fm_lt (md_upF (mem_F rfl)) (fun s21 => fm_some md_refl)) (fm_some md_refl)))) (fm_if (fm_lt (md_upF (mem_F rfl)) (fun s23 => fm_some md_refl)) (fm_if (fm_bd (fm_sub (fm_step _) (mem_sub_L rfl) (mem_sub_F rfl)) (fun r25 s25 => fm_some md_refl)) (fm_if (fm_bd (fm_sub (fm_returns _) (mem_sub_L rfl) (mem_sub_F rfl)) (fun r27 s27 => fm_some md_refl)) (fm_if (fm_bd (fm_sub (fm_pop _) (mem_sub_L rfl) (mem_sub_F rfl)) (fun r29 s29 => fm_some md_refl)) (fm_some md_refl)))))))))))
/-! m_variable -/
def L_m_variable : List Nat := []
def G_m_variable : List (Nat × Nat) := [(121, 99), (121, 100)]
noncomputable def m_variable (v1 : Int) (s : iS) : Option (Int × iS) := gd (0 ≤ v1 ∧ v1 < 1100) (gd (rg (s 139 v1.toNat)) (if (s 139 v1.toNat) = 0 then gd (0 ≤ (s 143 v1.toNat) ∧ (s 143 v1.toNat) < 12) (some ((s 178 (s 143 v1.toNat).toNat), s)) else if (s 139 v1.toNat) = 1 then gd (0 ≤ ((s 121 88) - 1) ∧ ((s 121 88) - 1) < 41) (bd (m_read ((s 183 ((s 121 88) - 1).toNat) + (s 142 v1.toNat)) s) (fun r7 s7 => some (r7, s7))) else if (s 139 v1.toNat) = 2 then gd (0 ≤ ((24 * ((s 121 88) - 1)) + (s 142 v1.toNat)) ∧ ((24 * ((s 121 88) - 1)) + (s 142 v1.toNat)) < 1000) (some ((s 179 ((24 * ((s 121 88) - 1)) + (s 142 v1.toNat)).toNat), s)) else gd (0 ≤ (((24 * ((s 121 88) - 1)) + 12) + (s 142 v1.toNat)) ∧ (((24 * ((s 121 88) - 1)) + 12) + (s 142 v1.toNat)) < 1000) (some ((s 179 (((24 * ((s 121 88) - 1)) + 12) + (s 142 v1.toNat)).toNat), s))))
theorem tm_variable (w : ev_W) (d : Nat) (hd : 2 ≤ d) (v1 : Int) (s : iS) : Ew hT w d 387 0 [(0, .ref (tb_nK + 121)), (1, iv v1)] [] s (Ci hT) (m_variable v1 s) := by
  unfold m_variable
  refine e_mv 1 em_387 (ce_at ce_387 0 rfl) rfl rfl ?_
  refine e_get 4 em_387 (ce_at ce_387 1 rfl) tq_121 rfl rfl ?_
  refine e_op 5 em_387 (ce_at ce_387 2 rfl) rfl rfl ?_
  refine e_isub 6 em_387 rfl (ce_at ce_387 3 rfl) ?_
  refine e_mv 7 em_387 (ce_at ce_387 4 rfl) rfl rfl ?_
  refine e_mv 8 em_387 (ce_at ce_387 5 rfl) rfl rfl ?_
  refine e_getr 11 em_387 (ce_at ce_387 6 rfl) tq_121 rfl rfl ?_
  refine e_mv 12 em_387 (ce_at ce_387 7 rfl) rfl rfl ?_
  refine e_gd fun g1 => ?_
  refine e_ild 13 em_387 (ce_at ce_387 8 rfl) tq_139 (by decide) g1 rfl ?_
  refine e_gd fun g2 => ?_
  refine e_case 0 (fun h3 => ?_) (fun h3 => ?_)
  · refine e_sw em_387 40 (ce_at ce_387 9 rfl) (sw_in g2 (by omega) (by rw [h3]; rfl)) rfl ?_
    refine e_mv 41 em_387 (ce_at ce_387 10 rfl) rfl rfl ?_
    refine e_getr 44 em_387 (ce_at ce_387 11 rfl) tq_121 rfl rfl ?_
    refine e_mv 45 em_387 (ce_at ce_387 12 rfl) rfl rfl ?_
    refine e_getr 48 em_387 (ce_at ce_387 13 rfl) tq_121 rfl rfl ?_
    refine e_mv 49 em_387 (ce_at ce_387 14 rfl) rfl rfl ?_
    refine e_ild 50 em_387 (ce_at ce_387 15 rfl) tq_143 (by decide) g1 rfl ?_
    refine e_gd fun g4 => ?_
    refine e_ild 51 em_387 (ce_at ce_387 16 rfl) tq_178 (by decide) g4 rfl ?_
    exact e_reti em_387 (ce_at ce_387 17 rfl)
  refine e_case 1 (fun h5 => ?_) (fun h5 => ?_)
  · refine e_sw em_387 52 (ce_at ce_387 9 rfl) (sw_in g2 (by omega) (by rw [h5]; rfl)) rfl ?_
    refine e_mv 53 em_387 (ce_at ce_387 18 rfl) rfl rfl ?_
    refine e_mv 54 em_387 (ce_at ce_387 19 rfl) rfl rfl ?_
    refine e_getr 57 em_387 (ce_at ce_387 20 rfl) tq_121 rfl rfl ?_
    refine e_mv 58 em_387 (ce_at ce_387 21 rfl) rfl rfl ?_
    refine e_gd fun g6 => ?_
    refine e_ild 59 em_387 (ce_at ce_387 22 rfl) tq_183 (by decide) g6 rfl ?_
    refine e_mv 60 em_387 (ce_at ce_387 23 rfl) rfl rfl ?_
    refine e_getr 63 em_387 (ce_at ce_387 24 rfl) tq_121 rfl rfl ?_
    refine e_mv 64 em_387 (ce_at ce_387 25 rfl) rfl rfl ?_
    refine e_ild 65 em_387 (ce_at ce_387 26 rfl) tq_142 (by decide) g1 rfl ?_
    refine e_iadd 66 em_387 rfl (ce_at ce_387 27 rfl) ?_
    refine e_ivi 69 em_387 (ce_at ce_387 28 rfl) (by omega) (iv_v1 (by decide) tq_121 rfl) em_386 (Nat.le_of_ble_eq_true rfl) rfl (tm_read w (d - 1) (by omega) _ _) (fun r7 s7 => ?_)
    exact e_reti em_387 (ce_at ce_387 29 rfl)
  refine e_case 2 (fun h8 => ?_) (fun h8 => ?_)
  · refine e_sw em_387 70 (ce_at ce_387 9 rfl) (sw_in g2 (by omega) (by rw [h8]; rfl)) rfl ?_
    refine e_mv 71 em_387 (ce_at ce_387 30 rfl) rfl rfl ?_
    refine e_getr 74 em_387 (ce_at ce_387 31 rfl) tq_121 rfl rfl ?_
    refine e_bip 76 em_387 (ce_at ce_387 32 rfl) (by decide) rfl ?_
    refine e_mv 77 em_387 (ce_at ce_387 33 rfl) rfl rfl ?_
    refine e_imul 78 em_387 rfl (ce_at ce_387 34 rfl) ?_
    refine e_mv 79 em_387 (ce_at ce_387 35 rfl) rfl rfl ?_
    refine e_getr 82 em_387 (ce_at ce_387 36 rfl) tq_121 rfl rfl ?_
    refine e_mv 83 em_387 (ce_at ce_387 37 rfl) rfl rfl ?_
    refine e_ild 84 em_387 (ce_at ce_387 38 rfl) tq_142 (by decide) g1 rfl ?_
    refine e_iadd 85 em_387 rfl (ce_at ce_387 39 rfl) ?_
    refine e_gd fun g9 => ?_
    refine e_ild 86 em_387 (ce_at ce_387 40 rfl) tq_179 (by decide) g9 rfl ?_
    exact e_reti em_387 (ce_at ce_387 41 rfl)
  refine e_sw em_387 87 (ce_at ce_387 9 rfl) (sw_out g2 (by omega)) rfl ?_
  refine e_mv 88 em_387 (ce_at ce_387 42 rfl) rfl rfl ?_
  refine e_getr 91 em_387 (ce_at ce_387 43 rfl) tq_121 rfl rfl ?_
  refine e_bip 93 em_387 (ce_at ce_387 44 rfl) (by decide) rfl ?_
  refine e_mv 94 em_387 (ce_at ce_387 45 rfl) rfl rfl ?_
  refine e_imul 95 em_387 rfl (ce_at ce_387 46 rfl) ?_
  refine e_bip 97 em_387 (ce_at ce_387 47 rfl) (by decide) rfl ?_
  refine e_iadd 98 em_387 rfl (ce_at ce_387 48 rfl) ?_
  refine e_mv 99 em_387 (ce_at ce_387 49 rfl) rfl rfl ?_
  refine e_getr 102 em_387 (ce_at ce_387 50 rfl) tq_121 rfl rfl ?_
  refine e_mv 103 em_387 (ce_at ce_387 51 rfl) rfl rfl ?_
  refine e_ild 104 em_387 (ce_at ce_387 52 rfl) tq_142 (by decide) g1 rfl ?_
  refine e_iadd 105 em_387 rfl (ce_at ce_387 53 rfl) ?_
  refine e_gd fun g10 => ?_
  refine e_ild 106 em_387 (ce_at ce_387 54 rfl) tq_179 (by decide) g10 rfl ?_
  exact e_reti em_387 (ce_at ce_387 55 rfl)
theorem fm_variable (v1 : Int) (s : iS) : Fm Prod.snd L_m_variable G_m_variable s (m_variable v1 s) := fm_gd (fm_gd (fm_if (fm_gd (fm_some md_refl)) (fm_if (fm_gd (fm_bd (fm_sub (fm_read _ _) (mem_sub_L rfl) (mem_sub_F rfl)) (fun r7 s7 => fm_some md_refl))) (fm_if (fm_gd (fm_some md_refl)) (fm_gd (fm_some md_refl))))))
/-! m_sign -/
def L_m_sign : List Nat := []
def G_m_sign : List (Nat × Nat) := [(121, 99), (121, 100)]
noncomputable def m_sign_97 (v2 : Int) (v3 : Int) (s : iS) : Option (Int × iS) := gd (rg v3) (if v3 = 0 then some (0, s) else gd (rg v2) (gd (¬ v3 = 0) (some ((v2.tdiv v3), s))))
theorem tm_sign_97 (w : ev_W) (d : Nat) (hd : 1 ≤ d) (v2 : Int) (v3 : Int) (s : iS) : Ew hT w d 388 97 [(2, iv v2), (3, iv v3)] [] s (Ci hT) (m_sign_97 v2 v3 s) := by
  unfold m_sign_97
  refine e_mv 98 em_388 (ce_at ce_388 19 rfl) rfl rfl ?_
  refine e_gd fun g1 => ?_
  refine e_ifne 105 101 em_388 rfl rfl (ce_at ce_388 20 rfl) g1 (fun h2 => ?_) (fun h2 => ?_)
  · refine e_mv 106 em_388 (ce_at ce_388 23 rfl) rfl rfl ?_
    refine e_mv 107 em_388 (ce_at ce_388 24 rfl) rfl rfl ?_
    refine e_gd fun g3 => ?_
    refine e_gd fun g4 => ?_
    refine e_idiv 108 em_388 rfl (ce_at ce_388 25 rfl) g3 g1 g4 ?_
    exact e_reti em_388 (ce_at ce_388 26 rfl)
  · refine e_op 102 em_388 (ce_at ce_388 21 rfl) rfl rfl ?_
    refine e_goto em_388 108 (ce_at ce_388 22 rfl) rfl ?_
    exact e_reti em_388 (ce_at ce_388 26 rfl)
theorem fm_sign_97 (v2 : Int) (v3 : Int) (s : iS) : Fm Prod.snd L_m_sign G_m_sign s (m_sign_97 v2 v3 s) := fm_gd (fm_if (fm_some md_refl) (fm_gd (fm_gd (fm_some md_refl))))
noncomputable def m_sign (v1 : Int) (v2 : Int) (v3 : Int) (s : iS) : Option (Int × iS) := gd (rg v1) (if v1 = 38 then some ((i_and v2 v3), s) else if v1 = 42 then some ((v2 * v3), s) else if v1 = 43 then some ((v2 + v3), s) else if v1 = 45 then some ((v2 - v3), s) else if v1 = 47 then gd (rg v3) (if v3 = 0 then bd (m_err 3 s) (fun _ s9 => m_sign_97 v2 v3 s9) else m_sign_97 v2 v3 s) else if v1 = 60 then gd (rg v2) (gd (rg v3) (if v3 ≤ v2 then some (0, s) else some ((-1), s))) else if v1 = 62 then gd (rg v2) (gd (rg v3) (if v2 ≤ v3 then some (0, s) else some ((-1), s))) else if v1 = 124 then some ((i_or v2 v3), s) else gd (rg v2) (gd (rg v3) (if v2 = v3 then some ((-1), s) else some (0, s))))
theorem tm_sign (w : ev_W) (d : Nat) (hd : 1 ≤ d) (v1 : Int) (v2 : Int) (v3 : Int) (s : iS) : Ew hT w d 388 0 [(0, .ref (tb_nK + 121)), (1, iv v1), (2, iv v2), (3, iv v3)] [] s (Ci hT) (m_sign v1 v2 v3 s) := by
  unfold m_sign
  refine e_mv 1 em_388 (ce_at ce_388 0 rfl) rfl rfl ?_
  refine e_gd fun g1 => ?_
  refine e_case 38 (fun h2 => ?_) (fun h2 => ?_)
  · refine e_sw em_388 109 (ce_at ce_388 1 rfl) (sw_lk g1 rfl (by subst h2; rfl)) rfl ?_
    refine e_mv 110 em_388 (ce_at ce_388 27 rfl) rfl rfl ?_
    refine e_mv 111 em_388 (ce_at ce_388 28 rfl) rfl rfl ?_
    refine e_iand 112 em_388 rfl (ce_at ce_388 29 rfl) ?_
    exact e_reti em_388 (ce_at ce_388 30 rfl)
  refine e_case 42 (fun h3 => ?_) (fun h3 => ?_)
  · refine e_sw em_388 84 (ce_at ce_388 1 rfl) (sw_lk g1 rfl (by subst h3; rfl)) rfl ?_
    refine e_mv 85 em_388 (ce_at ce_388 10 rfl) rfl rfl ?_
    refine e_mv 86 em_388 (ce_at ce_388 11 rfl) rfl rfl ?_
    refine e_imul 87 em_388 rfl (ce_at ce_388 12 rfl) ?_
    exact e_reti em_388 (ce_at ce_388 13 rfl)
  refine e_case 43 (fun h4 => ?_) (fun h4 => ?_)
  · refine e_sw em_388 76 (ce_at ce_388 1 rfl) (sw_lk g1 rfl (by subst h4; rfl)) rfl ?_
    refine e_mv 77 em_388 (ce_at ce_388 2 rfl) rfl rfl ?_
    refine e_mv 78 em_388 (ce_at ce_388 3 rfl) rfl rfl ?_
    refine e_iadd 79 em_388 rfl (ce_at ce_388 4 rfl) ?_
    exact e_reti em_388 (ce_at ce_388 5 rfl)
  refine e_case 45 (fun h5 => ?_) (fun h5 => ?_)
  · refine e_sw em_388 80 (ce_at ce_388 1 rfl) (sw_lk g1 rfl (by subst h5; rfl)) rfl ?_
    refine e_mv 81 em_388 (ce_at ce_388 6 rfl) rfl rfl ?_
    refine e_mv 82 em_388 (ce_at ce_388 7 rfl) rfl rfl ?_
    refine e_isub 83 em_388 rfl (ce_at ce_388 8 rfl) ?_
    exact e_reti em_388 (ce_at ce_388 9 rfl)
  refine e_case 47 (fun h6 => ?_) (fun h6 => ?_)
  · refine e_sw em_388 88 (ce_at ce_388 1 rfl) (sw_lk g1 rfl (by subst h6; rfl)) rfl ?_
    refine e_mv 89 em_388 (ce_at ce_388 14 rfl) rfl rfl ?_
    refine e_gd fun g7 => ?_
    refine e_ifne 97 92 em_388 rfl rfl (ce_at ce_388 15 rfl) g7 (fun h8 => ?_) (fun h8 => ?_)
    · refine e_pk [2, 3] rfl rfl ?_
      exact tm_sign_97 w d hd _ _ _
    · refine e_mv 93 em_388 (ce_at ce_388 16 rfl) rfl rfl ?_
      refine e_op 94 em_388 (ce_at ce_388 17 rfl) rfl rfl ?_
      refine e_ivv 97 em_388 (ce_at ce_388 18 rfl) (by omega) (iv_v1 (by decide) tq_121 rfl) em_376 (Nat.le_of_ble_eq_true rfl) rfl (tm_err w (d - 1) (by omega) _ _) (fun r9 s9 => ?_)
      refine e_pk [2, 3] rfl rfl ?_
      exact tm_sign_97 w d hd _ _ _
  refine e_case 60 (fun h10 => ?_) (fun h10 => ?_)
  · refine e_sw em_388 117 (ce_at ce_388 1 rfl) (sw_lk g1 rfl (by subst h10; rfl)) rfl ?_
    refine e_mv 118 em_388 (ce_at ce_388 35 rfl) rfl rfl ?_
    refine e_mv 119 em_388 (ce_at ce_388 36 rfl) rfl rfl ?_
    refine e_gd fun g11 => ?_
    refine e_gd fun g12 => ?_
    refine e_cmge 126 122 em_388 rfl rfl (ce_at ce_388 37 rfl) g11 g12 (fun h13 => ?_) (fun h13 => ?_)
    · refine e_op 127 em_388 (ce_at ce_388 40 rfl) rfl rfl ?_
      exact e_reti em_388 (ce_at ce_388 41 rfl)
    · refine e_op 123 em_388 (ce_at ce_388 38 rfl) rfl rfl ?_
      refine e_goto em_388 127 (ce_at ce_388 39 rfl) rfl ?_
      exact e_reti em_388 (ce_at ce_388 41 rfl)
  refine e_case 62 (fun h14 => ?_) (fun h14 => ?_)
  · refine e_sw em_388 128 (ce_at ce_388 1 rfl) (sw_lk g1 rfl (by subst h14; rfl)) rfl ?_
    refine e_mv 129 em_388 (ce_at ce_388 42 rfl) rfl rfl ?_
    refine e_mv 130 em_388 (ce_at ce_388 43 rfl) rfl rfl ?_
    refine e_gd fun g15 => ?_
    refine e_gd fun g16 => ?_
    refine e_cmle 137 133 em_388 rfl rfl (ce_at ce_388 44 rfl) g15 g16 (fun h17 => ?_) (fun h17 => ?_)
    · refine e_op 138 em_388 (ce_at ce_388 47 rfl) rfl rfl ?_
      exact e_reti em_388 (ce_at ce_388 48 rfl)
    · refine e_op 134 em_388 (ce_at ce_388 45 rfl) rfl rfl ?_
      refine e_goto em_388 138 (ce_at ce_388 46 rfl) rfl ?_
      exact e_reti em_388 (ce_at ce_388 48 rfl)
  refine e_case 124 (fun h18 => ?_) (fun h18 => ?_)
  · refine e_sw em_388 113 (ce_at ce_388 1 rfl) (sw_lk g1 rfl (by subst h18; rfl)) rfl ?_
    refine e_mv 114 em_388 (ce_at ce_388 31 rfl) rfl rfl ?_
    refine e_mv 115 em_388 (ce_at ce_388 32 rfl) rfl rfl ?_
    refine e_ior 116 em_388 rfl (ce_at ce_388 33 rfl) ?_
    exact e_reti em_388 (ce_at ce_388 34 rfl)
  refine e_sw em_388 139 (ce_at ce_388 1 rfl) (sw_lk g1 rfl (lk_step h2 (lk_step h3 (lk_step h4 (lk_step h5 (lk_step h6 (lk_step h10 (lk_step h14 (lk_step h18 rfl))))))))) rfl ?_
  refine e_mv 140 em_388 (ce_at ce_388 49 rfl) rfl rfl ?_
  refine e_mv 141 em_388 (ce_at ce_388 50 rfl) rfl rfl ?_
  refine e_gd fun g19 => ?_
  refine e_gd fun g20 => ?_
  refine e_cmne 148 144 em_388 rfl rfl (ce_at ce_388 51 rfl) g19 g20 (fun h21 => ?_) (fun h21 => ?_)
  · refine e_op 149 em_388 (ce_at ce_388 54 rfl) rfl rfl ?_
    exact e_reti em_388 (ce_at ce_388 55 rfl)
  · refine e_op 145 em_388 (ce_at ce_388 52 rfl) rfl rfl ?_
    refine e_goto em_388 149 (ce_at ce_388 53 rfl) rfl ?_
    exact e_reti em_388 (ce_at ce_388 55 rfl)
theorem fm_sign (v1 : Int) (v2 : Int) (v3 : Int) (s : iS) : Fm Prod.snd L_m_sign G_m_sign s (m_sign v1 v2 v3 s) := fm_gd (fm_if (fm_some md_refl) (fm_if (fm_some md_refl) (fm_if (fm_some md_refl) (fm_if (fm_some md_refl) (fm_if (fm_gd (fm_if (fm_bd (fm_sub (fm_err _ _) (mem_sub_L rfl) (mem_sub_F rfl)) (fun r9 s9 => fm_sign_97 _ _ _)) (fm_sign_97 _ _ _))) (fm_if (fm_gd (fm_gd (fm_if (fm_some md_refl) (fm_some md_refl)))) (fm_if (fm_gd (fm_gd (fm_if (fm_some md_refl) (fm_some md_refl)))) (fm_if (fm_some md_refl) (fm_gd (fm_gd (fm_if (fm_some md_refl) (fm_some md_refl))))))))))))
/-! m_root -/
def L_m_root : List Nat := []
def G_m_root : List (Nat × Nat) := []
def m_root_2C (H : iS → List am_C) (w : ev_W) (d : Nat) (v0 : Int) : (Int × iS) ⊕ (Int × iS) → am_E → Prop := fun q r => q.elim (fun l => ev w d 392 2 ((fun l => [(0, iv v0), (1, iv (l.1))]) l) [] (H ((fun l => l.2) l)) r) (fun e => (fun e r => ev w d 392 20 [(1, iv (e.1))] [] (H (e.2)) r) e r)
noncomputable def m_root_2b (v0 : Int) (v1 : Int) (s : iS) : Option ((Int × iS) ⊕ (Int × iS)) := gd (rg ((v1 + 1) * (v1 + 1))) (gd (rg v0) (if v0 < ((v1 + 1) * (v1 + 1)) then some (.inr (v1, s)) else some (.inl ((v1 + 1), s))))
theorem tm_root_2b (H : iS → List am_C) (w : ev_W) (d : Nat) (hd : 0 ≤ d) (v0 : Int) (v1 : Int) (s : iS) : Ew H w d 392 2 [(0, iv v0), (1, iv v1)] [] s (m_root_2C H w d v0) (m_root_2b v0 v1 s) := by
  unfold m_root_2b
  refine e_mv 3 em_392 (ce_at ce_392 2 rfl) rfl rfl ?_
  refine e_op 4 em_392 (ce_at ce_392 3 rfl) rfl rfl ?_
  refine e_iadd 5 em_392 rfl (ce_at ce_392 4 rfl) ?_
  refine e_mv 6 em_392 (ce_at ce_392 5 rfl) rfl rfl ?_
  refine e_op 7 em_392 (ce_at ce_392 6 rfl) rfl rfl ?_
  refine e_iadd 8 em_392 rfl (ce_at ce_392 7 rfl) ?_
  refine e_imul 9 em_392 rfl (ce_at ce_392 8 rfl) ?_
  refine e_mv 10 em_392 (ce_at ce_392 9 rfl) rfl rfl ?_
  refine e_gd fun g1 => ?_
  refine e_gd fun g2 => ?_
  refine e_cmgt 20 13 em_392 rfl rfl (ce_at ce_392 10 rfl) g1 g2 (fun h3 => ?_) (fun h3 => ?_)
  · refine e_pk [1] rfl rfl ?_
    exact e_out (fun r h => h)
  · refine e_mv 14 em_392 (ce_at ce_392 11 rfl) rfl rfl ?_
    refine e_op 15 em_392 (ce_at ce_392 12 rfl) rfl rfl ?_
    refine e_iadd 16 em_392 rfl (ce_at ce_392 13 rfl) ?_
    refine e_mv 17 em_392 (ce_at ce_392 14 rfl) rfl rfl ?_
    refine e_goto em_392 2 (ce_at ce_392 15 rfl) rfl ?_
    refine e_pk [0, 1] rfl rfl ?_
    exact e_out (fun r h => h)
theorem fm_root_2b (v0 : Int) (v1 : Int) (s : iS) : Fm (fun r : (Int × iS) ⊕ (Int × iS) => r.elim (fun l => l.2) (fun e => e.2)) L_m_root G_m_root s (m_root_2b v0 v1 s) := fm_gd (fm_gd (fm_if (fm_some md_refl) (fm_some md_refl)))
noncomputable def m_root_2 (v0 : Int) (v1 : Int) (s : iS) : Option (Int × iS) := (lp (L := Int × iS) (E := Int × iS) (fun l => m_root_2b v0 (l.1) (l.2)) (v1, s)).bind (fun e => some (e.1, e.2))
theorem tm_root_2 (H : iS → List am_C) (w : ev_W) (d : Nat) (hd : 0 ≤ d) (v0 : Int) (v1 : Int) (s : iS) : Ew H w d 392 2 [(0, iv v0), (1, iv v1)] [] s (Ci H) (m_root_2 v0 v1 s) := by
  unfold m_root_2
  refine e_lp (L := Int × iS) (E := Int × iS) (LO := fun l => [(0, iv v0), (1, iv (l.1))]) (LS := fun l => l.2) (CE := fun e r => ev w d 392 20 [(1, iv (e.1))] [] (H (e.2)) r) (fun l => tm_root_2b H w d hd _ _ _) ?_ (v1, s)
  intro e
  show Ew H w d 392 20 [(1, iv (e.1))] [] e.2 (Ci H) _
  refine e_mv 21 em_392 (ce_at ce_392 16 rfl) rfl rfl ?_
  exact e_reti em_392 (ce_at ce_392 17 rfl)
theorem fm_root_2 (v0 : Int) (v1 : Int) (s : iS) : Fm Prod.snd L_m_root G_m_root s (m_root_2 v0 v1 s) := by
  unfold m_root_2
  refine fm_lp (A := Int × iS) (E := Int × iS) (LS := fun l => l.2) (LE := fun e => e.2) ?_ ?_ (v1, s)
  · exact fun l => fm_root_2b _ _ _
  · exact (fun e => fm_some md_refl)
noncomputable def m_root (v0 : Int) (s : iS) : Option (Int × iS) := m_root_2 v0 0 s
theorem tm_root (H : iS → List am_C) (w : ev_W) (d : Nat) (hd : 0 ≤ d) (v0 : Int) (s : iS) : Ew H w d 392 0 [(0, iv v0)] [] s (Ci H) (m_root v0 s) := by
  unfold m_root
  refine e_op 1 em_392 (ce_at ce_392 0 rfl) rfl rfl ?_
  refine e_mv 2 em_392 (ce_at ce_392 1 rfl) rfl rfl ?_
  refine e_pk [0, 1] rfl rfl ?_
  exact tm_root_2 H w d hd _ _ _
theorem fm_root (v0 : Int) (s : iS) : Fm Prod.snd L_m_root G_m_root s (m_root v0 s) := fm_root_2 _ _ _
/-! m_math -/
def L_m_math : List Nat := []
def G_m_math : List (Nat × Nat) := [(121, 99), (121, 100)]
noncomputable def m_math_94 (v2 : Int) (v3 : Int) (s : iS) : Option (Int × iS) := gd (rg v3) (if v3 = 0 then some (0, s) else gd (rg v2) (gd (¬ v3 = 0) (some ((v2.tdiv v3), s))))
theorem tm_math_94 (w : ev_W) (d : Nat) (hd : 1 ≤ d) (v2 : Int) (v3 : Int) (s : iS) : Ew hT w d 391 94 [(2, iv v2), (3, iv v3)] [] s (Ci hT) (m_math_94 v2 v3 s) := by
  unfold m_math_94
  refine e_mv 95 em_391 (ce_at ce_391 42 rfl) rfl rfl ?_
  refine e_gd fun g1 => ?_
  refine e_ifne 102 98 em_391 rfl rfl (ce_at ce_391 43 rfl) g1 (fun h2 => ?_) (fun h2 => ?_)
  · refine e_mv 103 em_391 (ce_at ce_391 46 rfl) rfl rfl ?_
    refine e_mv 104 em_391 (ce_at ce_391 47 rfl) rfl rfl ?_
    refine e_gd fun g3 => ?_
    refine e_gd fun g4 => ?_
    refine e_idiv 105 em_391 rfl (ce_at ce_391 48 rfl) g3 g1 g4 ?_
    exact e_reti em_391 (ce_at ce_391 49 rfl)
  · refine e_op 99 em_391 (ce_at ce_391 44 rfl) rfl rfl ?_
    refine e_goto em_391 105 (ce_at ce_391 45 rfl) rfl ?_
    exact e_reti em_391 (ce_at ce_391 49 rfl)
theorem fm_math_94 (v2 : Int) (v3 : Int) (s : iS) : Fm Prod.snd L_m_math G_m_math s (m_math_94 v2 v3 s) := fm_gd (fm_if (fm_some md_refl) (fm_gd (fm_gd (fm_some md_refl))))
noncomputable def m_math_115 (v2 : Int) (s : iS) : Option (Int × iS) := gd (rg v2) (if 0 ≤ v2 then bd (m_root v2 s) (fun r3 s3 => some (r3, s3)) else some (0, s))
theorem tm_math_115 (w : ev_W) (d : Nat) (hd : 1 ≤ d) (v2 : Int) (s : iS) : Ew hT w d 391 115 [(2, iv v2)] [] s (Ci hT) (m_math_115 v2 s) := by
  unfold m_math_115
  refine e_mv 116 em_391 (ce_at ce_391 55 rfl) rfl rfl ?_
  refine e_gd fun g1 => ?_
  refine e_ifge 123 119 em_391 rfl rfl (ce_at ce_391 56 rfl) g1 (fun h2 => ?_) (fun h2 => ?_)
  · refine e_mv 124 em_391 (ce_at ce_391 59 rfl) rfl rfl ?_
    refine e_ivi 127 em_391 (ce_at ce_391 60 rfl) (by omega) (iv_s1 rfl) em_392 (Nat.le_of_ble_eq_true rfl) rfl (tm_root hT w (d - 1) (by omega) _ _) (fun r3 s3 => ?_)
    exact e_reti em_391 (ce_at ce_391 61 rfl)
  · refine e_op 120 em_391 (ce_at ce_391 57 rfl) rfl rfl ?_
    refine e_goto em_391 127 (ce_at ce_391 58 rfl) rfl ?_
    exact e_reti em_391 (ce_at ce_391 61 rfl)
theorem fm_math_115 (v2 : Int) (s : iS) : Fm Prod.snd L_m_math G_m_math s (m_math_115 v2 s) := fm_gd (fm_if (fm_bd (fm_sub (fm_root _ _) (mem_sub_L rfl) (mem_sub_F rfl)) (fun r3 s3 => fm_some md_refl)) (fm_some md_refl))
noncomputable def m_math (v1 : Int) (s : iS) : Option (Int × iS) := gd (rg v1) (if v1 = 0 then gd (rg (s 188 0)) (if 0 ≤ (s 188 0) then some ((s 188 0), s) else some ((-(s 188 0)), s)) else if v1 = 1 then gd (rg (s 188 0)) (gd (rg (s 188 1)) (if (s 188 1) ≤ (s 188 0) then some ((s 188 1), s) else some ((s 188 0), s))) else if v1 = 2 then gd (rg (s 188 0)) (gd (rg (s 188 1)) (if (s 188 0) ≤ (s 188 1) then some ((s 188 1), s) else some ((s 188 0), s))) else if v1 = 3 then some (((s 188 0) * (s 188 1)), s) else if v1 = 4 then gd (rg (s 188 1)) (if (s 188 1) = 0 then bd (m_err 3 s) (fun _ s17 => m_math_94 (s 188 0) (s 188 1) s17) else m_math_94 (s 188 0) (s 188 1) s) else gd (rg (s 188 0)) (if 0 ≤ (s 188 0) then m_math_115 (s 188 0) s else bd (m_err 4 s) (fun _ s20 => m_math_115 (s 188 0) s20)))
theorem tm_math (w : ev_W) (d : Nat) (hd : 1 ≤ d) (v1 : Int) (s : iS) : Ew hT w d 391 0 [(0, .ref (tb_nK + 121)), (1, iv v1)] [] s (Ci hT) (m_math v1 s) := by
  unfold m_math
  refine e_mv 1 em_391 (ce_at ce_391 0 rfl) rfl rfl ?_
  refine e_getr 4 em_391 (ce_at ce_391 1 rfl) tq_121 rfl rfl ?_
  refine e_op 5 em_391 (ce_at ce_391 2 rfl) rfl rfl ?_
  refine e_ild 6 em_391 (ce_at ce_391 3 rfl) tq_188 (by decide) (by decide) rfl ?_
  refine e_mv 7 em_391 (ce_at ce_391 4 rfl) rfl rfl ?_
  refine e_mv 8 em_391 (ce_at ce_391 5 rfl) rfl rfl ?_
  refine e_getr 11 em_391 (ce_at ce_391 6 rfl) tq_121 rfl rfl ?_
  refine e_op 12 em_391 (ce_at ce_391 7 rfl) rfl rfl ?_
  refine e_ild 13 em_391 (ce_at ce_391 8 rfl) tq_188 (by decide) (by decide) rfl ?_
  refine e_mv 14 em_391 (ce_at ce_391 9 rfl) rfl rfl ?_
  refine e_mv 15 em_391 (ce_at ce_391 10 rfl) rfl rfl ?_
  refine e_gd fun g1 => ?_
  refine e_case 0 (fun h2 => ?_) (fun h2 => ?_)
  · refine e_sw em_391 48 (ce_at ce_391 11 rfl) (sw_in g1 (by omega) (by subst h2; rfl)) rfl ?_
    refine e_mv 49 em_391 (ce_at ce_391 12 rfl) rfl rfl ?_
    refine e_gd fun g3 => ?_
    refine e_ifge 57 52 em_391 rfl rfl (ce_at ce_391 13 rfl) g3 (fun h4 => ?_) (fun h4 => ?_)
    · refine e_mv 58 em_391 (ce_at ce_391 17 rfl) rfl rfl ?_
      exact e_reti em_391 (ce_at ce_391 18 rfl)
    · refine e_mv 53 em_391 (ce_at ce_391 14 rfl) rfl rfl ?_
      refine e_ineg 54 em_391 rfl (ce_at ce_391 15 rfl) ?_
      refine e_goto em_391 58 (ce_at ce_391 16 rfl) rfl ?_
      exact e_reti em_391 (ce_at ce_391 18 rfl)
  refine e_case 1 (fun h5 => ?_) (fun h5 => ?_)
  · refine e_sw em_391 59 (ce_at ce_391 11 rfl) (sw_in g1 (by omega) (by subst h5; rfl)) rfl ?_
    refine e_mv 60 em_391 (ce_at ce_391 19 rfl) rfl rfl ?_
    refine e_mv 61 em_391 (ce_at ce_391 20 rfl) rfl rfl ?_
    refine e_gd fun g6 => ?_
    refine e_gd fun g7 => ?_
    refine e_cmge 68 64 em_391 rfl rfl (ce_at ce_391 21 rfl) g6 g7 (fun h8 => ?_) (fun h8 => ?_)
    · refine e_mv 69 em_391 (ce_at ce_391 24 rfl) rfl rfl ?_
      exact e_reti em_391 (ce_at ce_391 25 rfl)
    · refine e_mv 65 em_391 (ce_at ce_391 22 rfl) rfl rfl ?_
      refine e_goto em_391 69 (ce_at ce_391 23 rfl) rfl ?_
      exact e_reti em_391 (ce_at ce_391 25 rfl)
  refine e_case 2 (fun h9 => ?_) (fun h9 => ?_)
  · refine e_sw em_391 70 (ce_at ce_391 11 rfl) (sw_in g1 (by omega) (by subst h9; rfl)) rfl ?_
    refine e_mv 71 em_391 (ce_at ce_391 26 rfl) rfl rfl ?_
    refine e_mv 72 em_391 (ce_at ce_391 27 rfl) rfl rfl ?_
    refine e_gd fun g10 => ?_
    refine e_gd fun g11 => ?_
    refine e_cmle 79 75 em_391 rfl rfl (ce_at ce_391 28 rfl) g10 g11 (fun h12 => ?_) (fun h12 => ?_)
    · refine e_mv 80 em_391 (ce_at ce_391 31 rfl) rfl rfl ?_
      exact e_reti em_391 (ce_at ce_391 32 rfl)
    · refine e_mv 76 em_391 (ce_at ce_391 29 rfl) rfl rfl ?_
      refine e_goto em_391 80 (ce_at ce_391 30 rfl) rfl ?_
      exact e_reti em_391 (ce_at ce_391 32 rfl)
  refine e_case 3 (fun h13 => ?_) (fun h13 => ?_)
  · refine e_sw em_391 81 (ce_at ce_391 11 rfl) (sw_in g1 (by omega) (by subst h13; rfl)) rfl ?_
    refine e_mv 82 em_391 (ce_at ce_391 33 rfl) rfl rfl ?_
    refine e_mv 83 em_391 (ce_at ce_391 34 rfl) rfl rfl ?_
    refine e_imul 84 em_391 rfl (ce_at ce_391 35 rfl) ?_
    exact e_reti em_391 (ce_at ce_391 36 rfl)
  refine e_case 4 (fun h14 => ?_) (fun h14 => ?_)
  · refine e_sw em_391 85 (ce_at ce_391 11 rfl) (sw_in g1 (by omega) (by subst h14; rfl)) rfl ?_
    refine e_mv 86 em_391 (ce_at ce_391 37 rfl) rfl rfl ?_
    refine e_gd fun g15 => ?_
    refine e_ifne 94 89 em_391 rfl rfl (ce_at ce_391 38 rfl) g15 (fun h16 => ?_) (fun h16 => ?_)
    · refine e_pk [2, 3] rfl rfl ?_
      exact tm_math_94 w d hd _ _ _
    · refine e_mv 90 em_391 (ce_at ce_391 39 rfl) rfl rfl ?_
      refine e_op 91 em_391 (ce_at ce_391 40 rfl) rfl rfl ?_
      refine e_ivv 94 em_391 (ce_at ce_391 41 rfl) (by omega) (iv_v1 (by decide) tq_121 rfl) em_376 (Nat.le_of_ble_eq_true rfl) rfl (tm_err w (d - 1) (by omega) _ _) (fun r17 s17 => ?_)
      refine e_pk [2, 3] rfl rfl ?_
      exact tm_math_94 w d hd _ _ _
  refine e_sw em_391 106 (ce_at ce_391 11 rfl) (sw_out g1 (by omega)) rfl ?_
  refine e_mv 107 em_391 (ce_at ce_391 50 rfl) rfl rfl ?_
  refine e_gd fun g18 => ?_
  refine e_ifge 115 110 em_391 rfl rfl (ce_at ce_391 51 rfl) g18 (fun h19 => ?_) (fun h19 => ?_)
  · refine e_pk [2] rfl rfl ?_
    exact tm_math_115 w d hd _ _
  · refine e_mv 111 em_391 (ce_at ce_391 52 rfl) rfl rfl ?_
    refine e_op 112 em_391 (ce_at ce_391 53 rfl) rfl rfl ?_
    refine e_ivv 115 em_391 (ce_at ce_391 54 rfl) (by omega) (iv_v1 (by decide) tq_121 rfl) em_376 (Nat.le_of_ble_eq_true rfl) rfl (tm_err w (d - 1) (by omega) _ _) (fun r20 s20 => ?_)
    refine e_pk [2] rfl rfl ?_
    exact tm_math_115 w d hd _ _
theorem fm_math (v1 : Int) (s : iS) : Fm Prod.snd L_m_math G_m_math s (m_math v1 s) := fm_gd (fm_if (fm_gd (fm_if (fm_some md_refl) (fm_some md_refl))) (fm_if (fm_gd (fm_gd (fm_if (fm_some md_refl) (fm_some md_refl)))) (fm_if (fm_gd (fm_gd (fm_if (fm_some md_refl) (fm_some md_refl)))) (fm_if (fm_some md_refl) (fm_if (fm_gd (fm_if (fm_bd (fm_sub (fm_err _ _) (mem_sub_L rfl) (mem_sub_F rfl)) (fun r17 s17 => fm_math_94 _ _ _)) (fm_math_94 _ _ _))) (fm_gd (fm_if (fm_math_115 _ _) (fm_bd (fm_sub (fm_err _ _) (mem_sub_L rfl) (mem_sub_F rfl)) (fun r20 s20 => fm_math_115 _ _)))))))))
