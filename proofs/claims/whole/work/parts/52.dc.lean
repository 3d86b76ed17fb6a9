/-! what the methods do, as functions, and that the machine does it; printed by wip/whole/dc.py -/
/-! m_chip -/
def L_m_chip : List Nat := [195, 196, 197, 198, 199, 200, 201, 202, 203, 204, 205, 206, 207, 208, 209, 210, 211, 212, 213]
def G_m_chip : List (Nat × Nat) := [(121, 10), (121, 11), (121, 12), (121, 122), (121, 125), (121, 131), (121, 134), (121, 144), (121, 148), (121, 149), (121, 150)]
def m_chip_175C (w : ev_W) (d : Nat) : (iS) ⊕ (iS) → am_E → Prop := fun q r => q.elim (fun l => ev w d 444 175 ((fun l => [(0, .ref (tb_nK + 121))]) l) [] (hT ((fun l => l) l)) r) (fun e => (fun e r => ev w d 444 198 [(0, .ref (tb_nK + 121))] [] (hT (e)) r) e r)
noncomputable def m_chip_175b (s : iS) : Option ((iS) ⊕ (iS)) := gd (rg (s 121 11)) (if (s 121 11) = 0 then bd (m_isSign 125 s) (fun r3 s3 => gd (rg r3) (if r3 = 0 then bd (m_part s3) (fun _ s6 => some (.inl s6)) else some (.inr s3))) else some (.inr s))
theorem tm_chip_175b (w : ev_W) (d : Nat) (hd : 6 ≤ d) (s : iS) : Ew hT w d 444 175 [(0, .ref (tb_nK + 121))] [] s (m_chip_175C w d) (m_chip_175b s) := by
  unfold m_chip_175b
  refine e_mv 176 em_444 (ce_at ce_444 92 rfl) rfl rfl ?_
  refine e_get 179 em_444 (ce_at ce_444 93 rfl) tq_121 rfl rfl ?_
  refine e_gd fun g1 => ?_
  refine e_ifne 198 182 em_444 rfl rfl (ce_at ce_444 94 rfl) g1 (fun h2 => ?_) (fun h2 => ?_)
  · refine e_pk [0] rfl rfl ?_
    exact e_out (fun r h => h)
  · refine e_mv 183 em_444 (ce_at ce_444 95 rfl) rfl rfl ?_
    refine e_bip 185 em_444 (ce_at ce_444 96 rfl) (by decide) rfl ?_
    refine e_ivi 188 em_444 (ce_at ce_444 97 rfl) (by omega) (iv_v1 (by decide) tq_121 rfl) em_320 (Nat.le_of_ble_eq_true rfl) rfl (tm_isSign w (d - 1) (by omega) _ _) (fun r3 s3 => ?_)
    refine e_gd fun g4 => ?_
    refine e_ifne 198 191 em_444 rfl rfl (ce_at ce_444 98 rfl) g4 (fun h5 => ?_) (fun h5 => ?_)
    · refine e_pk [0] rfl rfl ?_
      exact e_out (fun r h => h)
    · refine e_mv 192 em_444 (ce_at ce_444 99 rfl) rfl rfl ?_
      refine e_ivv 195 em_444 (ce_at ce_444 100 rfl) (by omega) (iv_v0 (by decide) tq_121 rfl) em_447 (Nat.le_of_ble_eq_true rfl) rfl (tm_part w (d - 1) (by omega) _) (fun r6 s6 => ?_)
      refine e_goto em_444 175 (ce_at ce_444 101 rfl) rfl ?_
      refine e_pk [0] rfl rfl ?_
      exact e_out (fun r h => h)
theorem fm_chip_175b (s : iS) : Fm (fun r : (iS) ⊕ (iS) => r.elim (fun l => l) (fun e => e)) L_m_chip G_m_chip s (m_chip_175b s) := fm_gd (fm_if (fm_bd (fm_sub (fm_isSign _ _) (mem_sub_L rfl) (mem_sub_F rfl)) (fun r3 s3 => fm_gd (fm_if (fm_bd (fm_sub (fm_part _) (mem_sub_L rfl) (mem_sub_F rfl)) (fun r6 s6 => fm_some md_refl)) (fm_some md_refl)))) (fm_some md_refl))
noncomputable def m_chip_198 (s : iS) : Option (Int × iS) := bd (m_needSign 125 s) (fun _ s1 => some (0, s1))
theorem tm_chip_198 (w : ev_W) (d : Nat) (hd : 6 ≤ d) (s : iS) : Ew hT w d 444 198 [(0, .ref (tb_nK + 121))] [] s (Cv hT) (m_chip_198 s) := by
  unfold m_chip_198
  refine e_mv 199 em_444 (ce_at ce_444 102 rfl) rfl rfl ?_
  refine e_bip 201 em_444 (ce_at ce_444 103 rfl) (by decide) rfl ?_
  refine e_ivv 204 em_444 (ce_at ce_444 104 rfl) (by omega) (iv_v1 (by decide) tq_121 rfl) em_325 (Nat.le_of_ble_eq_true rfl) rfl (tm_needSign w (d - 1) (by omega) _ _) (fun r1 s1 => ?_)
  exact e_retv em_444 (ce_at ce_444 105 rfl)
theorem fm_chip_198 (s : iS) : Fm Prod.snd L_m_chip G_m_chip s (m_chip_198 s) := fm_bd (fm_sub (fm_needSign _ _) (mem_sub_L rfl) (mem_sub_F rfl)) (fun r1 s1 => fm_some md_refl)
noncomputable def m_chip_175 (s : iS) : Option (Int × iS) := (lp (L := iS) (E := iS) (fun l => m_chip_175b l) s).bind (fun e => m_chip_198 e)
theorem tm_chip_175 (w : ev_W) (d : Nat) (hd : 6 ≤ d) (s : iS) : Ew hT w d 444 175 [(0, .ref (tb_nK + 121))] [] s (Cv hT) (m_chip_175 s) := by
  unfold m_chip_175
  refine e_lp (LO := fun l => [(0, .ref (tb_nK + 121))]) (LS := fun l => l) (CE := fun e r => ev w d 444 198 [(0, .ref (tb_nK + 121))] [] (hT (e)) r) (fun l => tm_chip_175b w d hd _) ?_ s
  intro e
  show Ew hT w d 444 198 [(0, .ref (tb_nK + 121))] [] e (Cv hT) _
  refine e_pk [0] rfl rfl ?_
  exact tm_chip_198 w d hd _
theorem fm_chip_175 (s : iS) : Fm Prod.snd L_m_chip G_m_chip s (m_chip_175 s) := fm_lp (LS := fun l => l) (LE := fun e => e) (fun l => fm_chip_175b _) (fun e => fm_chip_198 _) s
noncomputable def m_chip_164 (s : iS) : Option (Int × iS) := bd (m_needWord 3 s) (fun _ s1 => bd (m_needSign 58 s1) (fun _ s2 => m_chip_175 s2))
theorem tm_chip_164 (w : ev_W) (d : Nat) (hd : 6 ≤ d) (s : iS) : Ew hT w d 444 164 [(0, .ref (tb_nK + 121))] [] s (Cv hT) (m_chip_164 s) := by
  unfold m_chip_164
  refine e_mv 165 em_444 (ce_at ce_444 86 rfl) rfl rfl ?_
  refine e_op 166 em_444 (ce_at ce_444 87 rfl) rfl rfl ?_
  refine e_ivv 169 em_444 (ce_at ce_444 88 rfl) (by omega) (iv_v1 (by decide) tq_121 rfl) em_313 (Nat.le_of_ble_eq_true rfl) rfl (tm_needWord w (d - 1) (by omega) _ _) (fun r1 s1 => ?_)
  refine e_mv 170 em_444 (ce_at ce_444 89 rfl) rfl rfl ?_
  refine e_bip 172 em_444 (ce_at ce_444 90 rfl) (by decide) rfl ?_
  refine e_ivv 175 em_444 (ce_at ce_444 91 rfl) (by omega) (iv_v1 (by decide) tq_121 rfl) em_325 (Nat.le_of_ble_eq_true rfl) rfl (tm_needSign w (d - 1) (by omega) _ _) (fun r2 s2 => ?_)
  refine e_pk [0] rfl rfl ?_
  exact tm_chip_175 w d hd _
theorem fm_chip_164 (s : iS) : Fm Prod.snd L_m_chip G_m_chip s (m_chip_164 s) := fm_bd (fm_sub (fm_needWord _ _) (mem_sub_L rfl) (mem_sub_F rfl)) (fun r1 s1 => fm_bd (fm_sub (fm_needSign _ _) (mem_sub_L rfl) (mem_sub_F rfl)) (fun r2 s2 => fm_chip_175 _))
noncomputable def m_chip_147 (s : iS) : Option (Int × iS) := bd (m_needWord 2 s) (fun _ s1 => gd (rg (s1 121 11)) (if (s1 121 11) = 0 then bd (m_pinList 1 s1) (fun _ s4 => m_chip_164 s4) else m_chip_164 s1))
theorem tm_chip_147 (w : ev_W) (d : Nat) (hd : 6 ≤ d) (s : iS) : Ew hT w d 444 147 [(0, .ref (tb_nK + 121))] [] s (Cv hT) (m_chip_147 s) := by
  unfold m_chip_147
  refine e_mv 148 em_444 (ce_at ce_444 77 rfl) rfl rfl ?_
  refine e_op 149 em_444 (ce_at ce_444 78 rfl) rfl rfl ?_
  refine e_ivv 152 em_444 (ce_at ce_444 79 rfl) (by omega) (iv_v1 (by decide) tq_121 rfl) em_313 (Nat.le_of_ble_eq_true rfl) rfl (tm_needWord w (d - 1) (by omega) _ _) (fun r1 s1 => ?_)
  refine e_mv 153 em_444 (ce_at ce_444 80 rfl) rfl rfl ?_
  refine e_get 156 em_444 (ce_at ce_444 81 rfl) tq_121 rfl rfl ?_
  refine e_gd fun g2 => ?_
  refine e_ifne 164 159 em_444 rfl rfl (ce_at ce_444 82 rfl) g2 (fun h3 => ?_) (fun h3 => ?_)
  · refine e_pk [0] rfl rfl ?_
    exact tm_chip_164 w d hd _
  · refine e_mv 160 em_444 (ce_at ce_444 83 rfl) rfl rfl ?_
    refine e_op 161 em_444 (ce_at ce_444 84 rfl) rfl rfl ?_
    refine e_ivv 164 em_444 (ce_at ce_444 85 rfl) (by omega) (iv_v1 (by decide) tq_121 rfl) em_445 (Nat.le_of_ble_eq_true rfl) rfl (tm_pinList w (d - 1) (by omega) _ _) (fun r4 s4 => ?_)
    refine e_pk [0] rfl rfl ?_
    exact tm_chip_164 w d hd _
theorem fm_chip_147 (s : iS) : Fm Prod.snd L_m_chip G_m_chip s (m_chip_147 s) := fm_bd (fm_sub (fm_needWord _ _) (mem_sub_L rfl) (mem_sub_F rfl)) (fun r1 s1 => fm_gd (fm_if (fm_bd (fm_sub (fm_pinList _ _) (mem_sub_L rfl) (mem_sub_F rfl)) (fun r4 s4 => fm_chip_164 _)) (fm_chip_164 _)))
noncomputable def m_chip_50 (s : iS) : Option (Int × iS) := gd (rg (s 121 11)) (if (s 121 11) ≤ 0 then gd (0 ≤ (s 121 122) ∧ (s 121 122) < 17) (lt' (up s 195 (s 121 122).toNat (s 121 10)) (fun s4 => gd (0 ≤ (s4 121 122) ∧ (s4 121 122) < 18) (lt' (up s4 196 (s4 121 122).toNat (s4 121 125)) (fun s6 => gd (0 ≤ (s6 121 122) ∧ (s6 121 122) < 18) (lt' (up s6 201 (s6 121 122).toNat (s6 121 131)) (fun s8 => gd (0 ≤ (s8 121 122) ∧ (s8 121 122) < 18) (lt' (up s8 212 (s8 121 122).toNat (s8 121 144)) (fun s10 => lt' (up s10 121 122 ((s10 121 122) + 1)) (fun s11 => bd (m_go s11) (fun _ s12 => bd (m_needSign 123 s12) (fun _ s13 => bd (m_needWord 1 s13) (fun _ s14 => gd (rg (s14 121 11)) (if (s14 121 11) = 0 then bd (m_pinList 0 s14) (fun _ s17 => m_chip_147 s17) else m_chip_147 s14))))))))))))) else some (0, s))
theorem tm_chip_50 (w : ev_W) (d : Nat) (hd : 6 ≤ d) (s : iS) : Ew hT w d 444 50 [(0, .ref (tb_nK + 121))] [] s (Cv hT) (m_chip_50 s) := by
  unfold m_chip_50
  refine e_mv 51 em_444 (ce_at ce_444 25 rfl) rfl rfl ?_
  refine e_get 54 em_444 (ce_at ce_444 26 rfl) tq_121 rfl rfl ?_
  refine e_gd fun g1 => ?_
  refine e_ifle 58 57 em_444 rfl rfl (ce_at ce_444 27 rfl) g1 (fun h2 => ?_) (fun h2 => ?_)
  · refine e_mv 59 em_444 (ce_at ce_444 29 rfl) rfl rfl ?_
    refine e_getr 62 em_444 (ce_at ce_444 30 rfl) tq_121 rfl rfl ?_
    refine e_mv 63 em_444 (ce_at ce_444 31 rfl) rfl rfl ?_
    refine e_get 66 em_444 (ce_at ce_444 32 rfl) tq_121 rfl rfl ?_
    refine e_mv 67 em_444 (ce_at ce_444 33 rfl) rfl rfl ?_
    refine e_get 70 em_444 (ce_at ce_444 34 rfl) tq_121 rfl rfl ?_
    refine e_gd fun g3 => ?_
    refine e_ist 71 em_444 (ce_at ce_444 35 rfl) tq_195 (by decide) g3 rfl (fun s4 => ?_)
    refine e_mv 72 em_444 (ce_at ce_444 36 rfl) rfl rfl ?_
    refine e_getr 75 em_444 (ce_at ce_444 37 rfl) tq_121 rfl rfl ?_
    refine e_mv 76 em_444 (ce_at ce_444 38 rfl) rfl rfl ?_
    refine e_get 79 em_444 (ce_at ce_444 39 rfl) tq_121 rfl rfl ?_
    refine e_mv 80 em_444 (ce_at ce_444 40 rfl) rfl rfl ?_
    refine e_get 83 em_444 (ce_at ce_444 41 rfl) tq_121 rfl rfl ?_
    refine e_gd fun g5 => ?_
    refine e_ist 84 em_444 (ce_at ce_444 42 rfl) tq_196 (by decide) g5 rfl (fun s6 => ?_)
    refine e_mv 85 em_444 (ce_at ce_444 43 rfl) rfl rfl ?_
    refine e_getr 88 em_444 (ce_at ce_444 44 rfl) tq_121 rfl rfl ?_
    refine e_mv 89 em_444 (ce_at ce_444 45 rfl) rfl rfl ?_
    refine e_get 92 em_444 (ce_at ce_444 46 rfl) tq_121 rfl rfl ?_
    refine e_mv 93 em_444 (ce_at ce_444 47 rfl) rfl rfl ?_
    refine e_get 96 em_444 (ce_at ce_444 48 rfl) tq_121 rfl rfl ?_
    refine e_gd fun g7 => ?_
    refine e_ist 97 em_444 (ce_at ce_444 49 rfl) tq_201 (by decide) g7 rfl (fun s8 => ?_)
    refine e_mv 98 em_444 (ce_at ce_444 50 rfl) rfl rfl ?_
    refine e_getr 101 em_444 (ce_at ce_444 51 rfl) tq_121 rfl rfl ?_
    refine e_mv 102 em_444 (ce_at ce_444 52 rfl) rfl rfl ?_
    refine e_get 105 em_444 (ce_at ce_444 53 rfl) tq_121 rfl rfl ?_
    refine e_mv 106 em_444 (ce_at ce_444 54 rfl) rfl rfl ?_
    refine e_get 109 em_444 (ce_at ce_444 55 rfl) tq_121 rfl rfl ?_
    refine e_gd fun g9 => ?_
    refine e_ist 110 em_444 (ce_at ce_444 56 rfl) tq_212 (by decide) g9 rfl (fun s10 => ?_)
    refine e_mv 111 em_444 (ce_at ce_444 57 rfl) rfl rfl ?_
    refine e_mv 112 em_444 (ce_at ce_444 58 rfl) rfl rfl ?_
    refine e_get 115 em_444 (ce_at ce_444 59 rfl) tq_121 rfl rfl ?_
    refine e_op 116 em_444 (ce_at ce_444 60 rfl) rfl rfl ?_
    refine e_iadd 117 em_444 rfl (ce_at ce_444 61 rfl) ?_
    refine e_put 120 em_444 (ce_at ce_444 62 rfl) tq_121 rfl rfl rfl (fun s11 => ?_)
    refine e_mv 121 em_444 (ce_at ce_444 63 rfl) rfl rfl ?_
    refine e_ivv 124 em_444 (ce_at ce_444 64 rfl) (by omega) (iv_v0 (by decide) tq_121 rfl) em_315 (Nat.le_of_ble_eq_true rfl) rfl (tm_go w (d - 1) (by omega) _) (fun r12 s12 => ?_)
    refine e_mv 125 em_444 (ce_at ce_444 65 rfl) rfl rfl ?_
    refine e_bip 127 em_444 (ce_at ce_444 66 rfl) (by decide) rfl ?_
    refine e_ivv 130 em_444 (ce_at ce_444 67 rfl) (by omega) (iv_v1 (by decide) tq_121 rfl) em_325 (Nat.le_of_ble_eq_true rfl) rfl (tm_needSign w (d - 1) (by omega) _ _) (fun r13 s13 => ?_)
    refine e_mv 131 em_444 (ce_at ce_444 68 rfl) rfl rfl ?_
    refine e_op 132 em_444 (ce_at ce_444 69 rfl) rfl rfl ?_
    refine e_ivv 135 em_444 (ce_at ce_444 70 rfl) (by omega) (iv_v1 (by decide) tq_121 rfl) em_313 (Nat.le_of_ble_eq_true rfl) rfl (tm_needWord w (d - 1) (by omega) _ _) (fun r14 s14 => ?_)
    refine e_mv 136 em_444 (ce_at ce_444 71 rfl) rfl rfl ?_
    refine e_get 139 em_444 (ce_at ce_444 72 rfl) tq_121 rfl rfl ?_
    refine e_gd fun g15 => ?_
    refine e_ifne 147 142 em_444 rfl rfl (ce_at ce_444 73 rfl) g15 (fun h16 => ?_) (fun h16 => ?_)
    · refine e_pk [0] rfl rfl ?_
      exact tm_chip_147 w d hd _
    · refine e_mv 143 em_444 (ce_at ce_444 74 rfl) rfl rfl ?_
      refine e_op 144 em_444 (ce_at ce_444 75 rfl) rfl rfl ?_
      refine e_ivv 147 em_444 (ce_at ce_444 76 rfl) (by omega) (iv_v1 (by decide) tq_121 rfl) em_445 (Nat.le_of_ble_eq_true rfl) rfl (tm_pinList w (d - 1) (by omega) _ _) (fun r17 s17 => ?_)
      refine e_pk [0] rfl rfl ?_
      exact tm_chip_147 w d hd _
  · exact e_retv em_444 (ce_at ce_444 28 rfl)
theorem fm_chip_50 (s : iS) : Fm Prod.snd L_m_chip G_m_chip s (m_chip_50 s) := fm_gd (fm_if (fm_gd (fm_lt (md_upL (mem_L rfl)) (fun s4 => fm_gd (fm_lt (md_upL (mem_L rfl)) (fun s6 => fm_gd (fm_lt (md_upL (mem_L rfl)) (fun s8 => fm_gd (fm_lt (md_upL (mem_L rfl)) (fun s10 => fm_lt (md_upF (mem_F rfl)) (fun s11 => fm_bd (fm_sub (fm_go _) (mem_sub_L rfl) (mem_sub_F rfl)) (fun r12 s12 => fm_bd (fm_sub (fm_needSign _ _) (mem_sub_L rfl) (mem_sub_F rfl)) (fun r13 s13 => fm_bd (fm_sub (fm_needWord _ _) (mem_sub_L rfl) (mem_sub_F rfl)) (fun r14 s14 => fm_gd (fm_if (fm_bd (fm_sub (fm_pinList _ _) (mem_sub_L rfl) (mem_sub_F rfl)) (fun r17 s17 => fm_chip_147 _)) (fm_chip_147 _))))))))))))))) (fm_some md_refl))
noncomputable def m_chip_29 (s : iS) : Option (Int × iS) := gd (rg (s 121 11)) (if (s 121 11) = 0 then bd (m_room (s 121 122) 16 (s 121 10) s) (fun _ s3 => m_chip_50 s3) else m_chip_50 s)
theorem tm_chip_29 (w : ev_W) (d : Nat) (hd : 6 ≤ d) (s : iS) : Ew hT w d 444 29 [(0, .ref (tb_nK + 121))] [] s (Cv hT) (m_chip_29 s) := by
  unfold m_chip_29
  refine e_mv 30 em_444 (ce_at ce_444 15 rfl) rfl rfl ?_
  refine e_get 33 em_444 (ce_at ce_444 16 rfl) tq_121 rfl rfl ?_
  refine e_gd fun g1 => ?_
  refine e_ifne 50 36 em_444 rfl rfl (ce_at ce_444 17 rfl) g1 (fun h2 => ?_) (fun h2 => ?_)
  · refine e_pk [0] rfl rfl ?_
    exact tm_chip_50 w d hd _
  · refine e_mv 37 em_444 (ce_at ce_444 18 rfl) rfl rfl ?_
    refine e_mv 38 em_444 (ce_at ce_444 19 rfl) rfl rfl ?_
    refine e_get 41 em_444 (ce_at ce_444 20 rfl) tq_121 rfl rfl ?_
    refine e_bip 43 em_444 (ce_at ce_444 21 rfl) (by decide) rfl ?_
    refine e_mv 44 em_444 (ce_at ce_444 22 rfl) rfl rfl ?_
    refine e_get 47 em_444 (ce_at ce_444 23 rfl) tq_121 rfl rfl ?_
    refine e_ivv 50 em_444 (ce_at ce_444 24 rfl) (by omega) (iv_v3 (by decide) tq_121 rfl) em_318 (Nat.le_of_ble_eq_true rfl) rfl (tm_room w (d - 1) (by omega) _ _ _ _) (fun r3 s3 => ?_)
    refine e_pk [0] rfl rfl ?_
    exact tm_chip_50 w d hd _
theorem fm_chip_29 (s : iS) : Fm Prod.snd L_m_chip G_m_chip s (m_chip_29 s) := fm_gd (fm_if (fm_bd (fm_sub (fm_room _ _ _ _) (mem_sub_L rfl) (mem_sub_F rfl)) (fun r3 s3 => fm_chip_50 _)) (fm_chip_50 _))
noncomputable def m_chip (s : iS) : Option (Int × iS) := bd (m_needWord 0 s) (fun _ s1 => gd (rg (s1 121 11)) (if (s1 121 11) = 0 then gd (0 ≤ (s1 121 10) ∧ (s1 121 10) < 2002) (gd (rg (s1 124 (s1 121 10).toNat)) (if (s1 124 (s1 121 10).toNat) = 1 then m_chip_29 s1 else bd (m_syntax s1) (fun _ s7 => m_chip_29 s7))) else m_chip_29 s1))
theorem tm_chip (w : ev_W) (d : Nat) (hd : 6 ≤ d) (s : iS) : Ew hT w d 444 0 [(0, .ref (tb_nK + 121))] [] s (Cv hT) (m_chip s) := by
  unfold m_chip
  refine e_mv 1 em_444 (ce_at ce_444 0 rfl) rfl rfl ?_
  refine e_op 2 em_444 (ce_at ce_444 1 rfl) rfl rfl ?_
  refine e_ivv 5 em_444 (ce_at ce_444 2 rfl) (by omega) (iv_v1 (by decide) tq_121 rfl) em_313 (Nat.le_of_ble_eq_true rfl) rfl (tm_needWord w (d - 1) (by omega) _ _) (fun r1 s1 => ?_)
  refine e_mv 6 em_444 (ce_at ce_444 3 rfl) rfl rfl ?_
  refine e_get 9 em_444 (ce_at ce_444 4 rfl) tq_121 rfl rfl ?_
  refine e_gd fun g2 => ?_
  refine e_ifne 29 12 em_444 rfl rfl (ce_at ce_444 5 rfl) g2 (fun h3 => ?_) (fun h3 => ?_)
  · refine e_pk [0] rfl rfl ?_
    exact tm_chip_29 w d hd _
  · refine e_mv 13 em_444 (ce_at ce_444 6 rfl) rfl rfl ?_
    refine e_getr 16 em_444 (ce_at ce_444 7 rfl) tq_121 rfl rfl ?_
    refine e_mv 17 em_444 (ce_at ce_444 8 rfl) rfl rfl ?_
    refine e_get 20 em_444 (ce_at ce_444 9 rfl) tq_121 rfl rfl ?_
    refine e_gd fun g4 => ?_
    refine e_ild 21 em_444 (ce_at ce_444 10 rfl) tq_124 (by decide) g4 rfl ?_
    refine e_op 22 em_444 (ce_at ce_444 11 rfl) rfl rfl ?_
    refine e_gd fun g5 => ?_
    refine e_cmeq 29 25 em_444 rfl rfl (ce_at ce_444 12 rfl) g5 (by decide) (fun h6 => ?_) (fun h6 => ?_)
    · refine e_pk [0] rfl rfl ?_
      exact tm_chip_29 w d hd _
    · refine e_mv 26 em_444 (ce_at ce_444 13 rfl) rfl rfl ?_
      refine e_ivv 29 em_444 (ce_at ce_444 14 rfl) (by omega) (iv_v0 (by decide) tq_121 rfl) em_316 (Nat.le_of_ble_eq_true rfl) rfl (tm_syntax w (d - 1) (by omega) _) (fun r7 s7 => ?_)
      refine e_pk [0] rfl rfl ?_
      exact tm_chip_29 w d hd _
theorem fm_chip (s : iS) : Fm Prod.snd L_m_chip G_m_chip s (m_chip s) := fm_bd (fm_sub (fm_needWord _ _) (mem_sub_L rfl) (mem_sub_F rfl)) (fun r1 s1 => fm_gd (fm_if (fm_gd (fm_gd (fm_if (fm_chip_29 _) (fm_bd (fm_sub (fm_syntax _) (mem_sub_L rfl) (mem_sub_F rfl)) (fun r7 s7 => fm_chip_29 _))))) (fm_chip_29 _)))
/-! m_chipTexts -/
def L_m_chipTexts : List Nat := [195, 196, 197, 198, 199, 200, 201, 202, 203, 204, 205, 206, 207, 208, 209, 210, 211, 212, 213]
def G_m_chipTexts : List (Nat × Nat) := [(121, 10), (121, 11), (121, 12), (121, 122), (121, 125), (121, 131), (121, 134), (121, 144), (121, 148), (121, 149), (121, 150)]
def m_chipTexts_32C (w : ev_W) (d : Nat) : (Int × iS) ⊕ (iS) → am_E → Prop := fun q r => q.elim (fun l => ev w d 443 32 ((fun l => [(0, .ref (tb_nK + 121)), (1, iv (l.1))]) l) [] (hT ((fun l => l.2) l)) r) (fun e => (fun e r => ev w d 443 68 [(0, .ref (tb_nK + 121))] [] (hT (e)) r) e r)
noncomputable def m_chipTexts_32b (v1 : Int) (s : iS) : Option ((Int × iS) ⊕ (iS)) := gd (rg v1) (if v1 = 0 then some (.inr s) else gd (rg (s 121 11)) (if (s 121 11) = 0 then bd (m_chip s) (fun _ s5 => gd (0 ≤ (s5 121 10) ∧ (s5 121 10) < 2002) (gd (rg (s5 124 (s5 121 10).toNat)) (if (s5 124 (s5 121 10).toNat) = 0 then some (.inl (0, s5)) else some (.inl (1, s5))))) else some (.inr s)))
theorem tm_chipTexts_32b (w : ev_W) (d : Nat) (hd : 7 ≤ d) (v1 : Int) (s : iS) : Ew hT w d 443 32 [(0, .ref (tb_nK + 121)), (1, iv v1)] [] s (m_chipTexts_32C w d) (m_chipTexts_32b v1 s) := by
  unfold m_chipTexts_32b
  refine e_mv 33 em_443 (ce_at ce_443 20 rfl) rfl rfl ?_
  refine e_gd fun g1 => ?_
  refine e_ifeq 68 36 em_443 rfl rfl (ce_at ce_443 21 rfl) g1 (fun h2 => ?_) (fun h2 => ?_)
  · refine e_pk [0] rfl rfl ?_
    exact e_out (fun r h => h)
  · refine e_mv 37 em_443 (ce_at ce_443 22 rfl) rfl rfl ?_
    refine e_get 40 em_443 (ce_at ce_443 23 rfl) tq_121 rfl rfl ?_
    refine e_gd fun g3 => ?_
    refine e_ifne 68 43 em_443 rfl rfl (ce_at ce_443 24 rfl) g3 (fun h4 => ?_) (fun h4 => ?_)
    · refine e_pk [0] rfl rfl ?_
      exact e_out (fun r h => h)
    · refine e_mv 44 em_443 (ce_at ce_443 25 rfl) rfl rfl ?_
      refine e_ivv 47 em_443 (ce_at ce_443 26 rfl) (by omega) (iv_v0 (by decide) tq_121 rfl) em_444 (Nat.le_of_ble_eq_true rfl) rfl (tm_chip w (d - 1) (by omega) _) (fun r5 s5 => ?_)
      refine e_mv 48 em_443 (ce_at ce_443 27 rfl) rfl rfl ?_
      refine e_getr 51 em_443 (ce_at ce_443 28 rfl) tq_121 rfl rfl ?_
      refine e_mv 52 em_443 (ce_at ce_443 29 rfl) rfl rfl ?_
      refine e_get 55 em_443 (ce_at ce_443 30 rfl) tq_121 rfl rfl ?_
      refine e_gd fun g6 => ?_
      refine e_ild 56 em_443 (ce_at ce_443 31 rfl) tq_124 (by decide) g6 rfl ?_
      refine e_gd fun g7 => ?_
      refine e_ifeq 63 59 em_443 rfl rfl (ce_at ce_443 32 rfl) g7 (fun h8 => ?_) (fun h8 => ?_)
      · refine e_op 64 em_443 (ce_at ce_443 35 rfl) rfl rfl ?_
        refine e_mv 65 em_443 (ce_at ce_443 36 rfl) rfl rfl ?_
        refine e_goto em_443 32 (ce_at ce_443 37 rfl) rfl ?_
        refine e_pk [0, 1] rfl rfl ?_
        exact e_out (fun r h => h)
      · refine e_op 60 em_443 (ce_at ce_443 33 rfl) rfl rfl ?_
        refine e_goto em_443 64 (ce_at ce_443 34 rfl) rfl ?_
        refine e_mv 65 em_443 (ce_at ce_443 36 rfl) rfl rfl ?_
        refine e_goto em_443 32 (ce_at ce_443 37 rfl) rfl ?_
        refine e_pk [0, 1] rfl rfl ?_
        exact e_out (fun r h => h)
theorem fm_chipTexts_32b (v1 : Int) (s : iS) : Fm (fun r : (Int × iS) ⊕ (iS) => r.elim (fun l => l.2) (fun e => e)) L_m_chipTexts G_m_chipTexts s (m_chipTexts_32b v1 s) := fm_gd (fm_if (fm_some md_refl) (fm_gd (fm_if (fm_bd (fm_sub (fm_chip _) (mem_sub_L rfl) (mem_sub_F rfl)) (fun r5 s5 => fm_gd (fm_gd (fm_if (fm_some md_refl) (fm_some md_refl))))) (fm_some md_refl))))
noncomputable def m_chipTexts_68 (s : iS) : Option (Int × iS) := gd (0 ≤ (s 121 122) ∧ (s 121 122) < 18) (lt' (up s 196 (s 121 122).toNat (s 121 125)) (fun s2 => gd (0 ≤ (s2 121 122) ∧ (s2 121 122) < 18) (lt' (up s2 201 (s2 121 122).toNat (s2 121 131)) (fun s4 => gd (0 ≤ (s4 121 122) ∧ (s4 121 122) < 18) (lt' (up s4 212 (s4 121 122).toNat (s4 121 144)) (fun s6 => gd (0 ≤ (s6 121 131) ∧ (s6 121 131) < 401) (lt' (up s6 203 (s6 121 131).toNat (s6 121 134)) (fun s8 => some (0, s8)))))))))
theorem tm_chipTexts_68 (w : ev_W) (d : Nat) (hd : 7 ≤ d) (s : iS) : Ew hT w d 443 68 [(0, .ref (tb_nK + 121))] [] s (Cv hT) (m_chipTexts_68 s) := by
  unfold m_chipTexts_68
  refine e_mv 69 em_443 (ce_at ce_443 38 rfl) rfl rfl ?_
  refine e_getr 72 em_443 (ce_at ce_443 39 rfl) tq_121 rfl rfl ?_
  refine e_mv 73 em_443 (ce_at ce_443 40 rfl) rfl rfl ?_
  refine e_get 76 em_443 (ce_at ce_443 41 rfl) tq_121 rfl rfl ?_
  refine e_mv 77 em_443 (ce_at ce_443 42 rfl) rfl rfl ?_
  refine e_get 80 em_443 (ce_at ce_443 43 rfl) tq_121 rfl rfl ?_
  refine e_gd fun g1 => ?_
  refine e_ist 81 em_443 (ce_at ce_443 44 rfl) tq_196 (by decide) g1 rfl (fun s2 => ?_)
  refine e_mv 82 em_443 (ce_at ce_443 45 rfl) rfl rfl ?_
  refine e_getr 85 em_443 (ce_at ce_443 46 rfl) tq_121 rfl rfl ?_
  refine e_mv 86 em_443 (ce_at ce_443 47 rfl) rfl rfl ?_
  refine e_get 89 em_443 (ce_at ce_443 48 rfl) tq_121 rfl rfl ?_
  refine e_mv 90 em_443 (ce_at ce_443 49 rfl) rfl rfl ?_
  refine e_get 93 em_443 (ce_at ce_443 50 rfl) tq_121 rfl rfl ?_
  refine e_gd fun g3 => ?_
  refine e_ist 94 em_443 (ce_at ce_443 51 rfl) tq_201 (by decide) g3 rfl (fun s4 => ?_)
  refine e_mv 95 em_443 (ce_at ce_443 52 rfl) rfl rfl ?_
  refine e_getr 98 em_443 (ce_at ce_443 53 rfl) tq_121 rfl rfl ?_
  refine e_mv 99 em_443 (ce_at ce_443 54 rfl) rfl rfl ?_
  refine e_get 102 em_443 (ce_at ce_443 55 rfl) tq_121 rfl rfl ?_
  refine e_mv 103 em_443 (ce_at ce_443 56 rfl) rfl rfl ?_
  refine e_get 106 em_443 (ce_at ce_443 57 rfl) tq_121 rfl rfl ?_
  refine e_gd fun g5 => ?_
  refine e_ist 107 em_443 (ce_at ce_443 58 rfl) tq_212 (by decide) g5 rfl (fun s6 => ?_)
  refine e_mv 108 em_443 (ce_at ce_443 59 rfl) rfl rfl ?_
  refine e_getr 111 em_443 (ce_at ce_443 60 rfl) tq_121 rfl rfl ?_
  refine e_mv 112 em_443 (ce_at ce_443 61 rfl) rfl rfl ?_
  refine e_get 115 em_443 (ce_at ce_443 62 rfl) tq_121 rfl rfl ?_
  refine e_mv 116 em_443 (ce_at ce_443 63 rfl) rfl rfl ?_
  refine e_get 119 em_443 (ce_at ce_443 64 rfl) tq_121 rfl rfl ?_
  refine e_gd fun g7 => ?_
  refine e_ist 120 em_443 (ce_at ce_443 65 rfl) tq_203 (by decide) g7 rfl (fun s8 => ?_)
  exact e_retv em_443 (ce_at ce_443 66 rfl)
theorem fm_chipTexts_68 (s : iS) : Fm Prod.snd L_m_chipTexts G_m_chipTexts s (m_chipTexts_68 s) := fm_gd (fm_lt (md_upL (mem_L rfl)) (fun s2 => fm_gd (fm_lt (md_upL (mem_L rfl)) (fun s4 => fm_gd (fm_lt (md_upL (mem_L rfl)) (fun s6 => fm_gd (fm_lt (md_upL (mem_L rfl)) (fun s8 => fm_some md_refl))))))))
noncomputable def m_chipTexts_32 (v1 : Int) (s : iS) : Option (Int × iS) := (lp (L := Int × iS) (E := iS) (fun l => m_chipTexts_32b (l.1) (l.2)) (v1, s)).bind (fun e => m_chipTexts_68 e)
theorem tm_chipTexts_32 (w : ev_W) (d : Nat) (hd : 7 ≤ d) (v1 : Int) (s : iS) : Ew hT w d 443 32 [(0, .ref (tb_nK + 121)), (1, iv v1)] [] s (Cv hT) (m_chipTexts_32 v1 s) := by
  unfold m_chipTexts_32
  refine e_lp (LO := fun l => [(0, .ref (tb_nK + 121)), (1, iv (l.1))]) (LS := fun l => l.2) (CE := fun e r => ev w d 443 68 [(0, .ref (tb_nK + 121))] [] (hT (e)) r) (fun l => tm_chipTexts_32b w d hd _ _) ?_ (v1, s)
  intro e
  show Ew hT w d 443 68 [(0, .ref (tb_nK + 121))] [] e (Cv hT) _
  refine e_pk [0] rfl rfl ?_
  exact tm_chipTexts_68 w d hd _
theorem fm_chipTexts_32 (v1 : Int) (s : iS) : Fm Prod.snd L_m_chipTexts G_m_chipTexts s (m_chipTexts_32 v1 s) := fm_lp (LS := fun l => l.2) (LE := fun e => e) (fun l => fm_chipTexts_32b _ _) (fun e => fm_chipTexts_68 _) (v1, s)
noncomputable def m_chipTexts (s : iS) : Option (Int × iS) := lt' (up s 121 11 0) (fun s1 => lt' (up s1 121 122 0) (fun s2 => lt' (up s2 121 125 0) (fun s3 => lt' (up s3 121 131 0) (fun s4 => lt' (up s4 121 134 0) (fun s5 => lt' (up s5 121 144 0) (fun s6 => m_chipTexts_32 1 s6))))))
theorem tm_chipTexts (w : ev_W) (d : Nat) (hd : 7 ≤ d) (s : iS) : Ew hT w d 443 0 [(0, .ref (tb_nK + 121))] [] s (Cv hT) (m_chipTexts s) := by
  unfold m_chipTexts
  refine e_mv 1 em_443 (ce_at ce_443 0 rfl) rfl rfl ?_
  refine e_op 2 em_443 (ce_at ce_443 1 rfl) rfl rfl ?_
  refine e_put 5 em_443 (ce_at ce_443 2 rfl) tq_121 rfl rfl rfl (fun s1 => ?_)
  refine e_mv 6 em_443 (ce_at ce_443 3 rfl) rfl rfl ?_
  refine e_op 7 em_443 (ce_at ce_443 4 rfl) rfl rfl ?_
  refine e_put 10 em_443 (ce_at ce_443 5 rfl) tq_121 rfl rfl rfl (fun s2 => ?_)
  refine e_mv 11 em_443 (ce_at ce_443 6 rfl) rfl rfl ?_
  refine e_op 12 em_443 (ce_at ce_443 7 rfl) rfl rfl ?_
  refine e_put 15 em_443 (ce_at ce_443 8 rfl) tq_121 rfl rfl rfl (fun s3 => ?_)
  refine e_mv 16 em_443 (ce_at ce_443 9 rfl) rfl rfl ?_
  refine e_op 17 em_443 (ce_at ce_443 10 rfl) rfl rfl ?_
  refine e_put 20 em_443 (ce_at ce_443 11 rfl) tq_121 rfl rfl rfl (fun s4 => ?_)
  refine e_mv 21 em_443 (ce_at ce_443 12 rfl) rfl rfl ?_
  refine e_op 22 em_443 (ce_at ce_443 13 rfl) rfl rfl ?_
  refine e_put 25 em_443 (ce_at ce_443 14 rfl) tq_121 rfl rfl rfl (fun s5 => ?_)
  refine e_mv 26 em_443 (ce_at ce_443 15 rfl) rfl rfl ?_
  refine e_op 27 em_443 (ce_at ce_443 16 rfl) rfl rfl ?_
  refine e_put 30 em_443 (ce_at ce_443 17 rfl) tq_121 rfl rfl rfl (fun s6 => ?_)
  refine e_op 31 em_443 (ce_at ce_443 18 rfl) rfl rfl ?_
  refine e_mv 32 em_443 (ce_at ce_443 19 rfl) rfl rfl ?_
  refine e_pk [0, 1] rfl rfl ?_
  exact tm_chipTexts_32 w d hd _ _
theorem fm_chipTexts (s : iS) : Fm Prod.snd L_m_chipTexts G_m_chipTexts s (m_chipTexts s) := fm_lt (md_upF (mem_F rfl)) (fun s1 => fm_lt (md_upF (mem_F rfl)) (fun s2 => fm_lt (md_upF (mem_F rfl)) (fun s3 => fm_lt (md_upF (mem_F rfl)) (fun s4 => fm_lt (md_upF (mem_F rfl)) (fun s5 => fm_lt (md_upF (mem_F rfl)) (fun s6 => fm_chipTexts_32 _ _))))))
/-! m_gateOf -/
def L_m_gateOf : List Nat := []
def G_m_gateOf : List (Nat × Nat) := []
noncomputable def m_gateOf (v1 : Int) (s : iS) : Option (Int × iS) := gd (0 ≤ v1 ∧ v1 < 2002) (bd (m_wordOf 9 ka_11 (s 125 v1.toNat) (s 126 v1.toNat) s) (fun r2 s2 => some (r2, s2)))
theorem tm_gateOf (w : ev_W) (d : Nat) (hd : 1 ≤ d) (v1 : Int) (s : iS) : Ew hT w d 453 0 [(0, .ref (tb_nK + 121)), (1, iv v1)] [] s (Ci hT) (m_gateOf v1 s) := by
  unfold m_gateOf
  refine e_mv 1 em_453 (ce_at ce_453 0 rfl) rfl rfl ?_
  refine e_gst 4 em_453 (ce_at ce_453 1 rfl) rfl rfl ?_
  refine e_mv 5 em_453 (ce_at ce_453 2 rfl) rfl rfl ?_
  refine e_getr 8 em_453 (ce_at ce_453 3 rfl) tq_121 rfl rfl ?_
  refine e_mv 9 em_453 (ce_at ce_453 4 rfl) rfl rfl ?_
  refine e_gd fun g1 => ?_
  refine e_ild 10 em_453 (ce_at ce_453 5 rfl) tq_125 (by decide) g1 rfl ?_
  refine e_mv 11 em_453 (ce_at ce_453 6 rfl) rfl rfl ?_
  refine e_getr 14 em_453 (ce_at ce_453 7 rfl) tq_121 rfl rfl ?_
  refine e_mv 15 em_453 (ce_at ce_453 8 rfl) rfl rfl ?_
  refine e_ild 16 em_453 (ce_at ce_453 9 rfl) tq_126 (by decide) g1 rfl ?_
  refine e_ivi 19 em_453 (ce_at ce_453 10 rfl) (by omega) (iv_v3 (by decide) tq_121 rfl) em_309 (Nat.le_of_ble_eq_true rfl) rfl (tm_wordOf w (d - 1) (by omega) 9 ka_11 11 (by decide) (kt_11 _ _) (by decide) _ _ _) (fun r2 s2 => ?_)
  exact e_reti em_453 (ce_at ce_453 11 rfl)
theorem fm_gateOf (v1 : Int) (s : iS) : Fm Prod.snd L_m_gateOf G_m_gateOf s (m_gateOf v1 s) := fm_gd (fm_bd (fm_sub (fm_wordOf 9 ka_11 _ _ _) (mem_sub_L rfl) (mem_sub_F rfl)) (fun r2 s2 => fm_some md_refl))
/-! m_checkPins -/
def L_m_checkPins : List Nat := []
def G_m_checkPins : List (Nat × Nat) := [(121, 69), (121, 70)]
def m_checkPins_32C (w : ev_W) (d : Nat) (v1 : Int) : (Int × Int × iS) ⊕ (Int × iS) → am_E → Prop := fun q r => q.elim (fun l => ev w d 452 32 ((fun l => [(0, .ref (tb_nK + 121)), (1, iv v1), (2, iv (l.1)), (3, iv (l.2.1))]) l) [] (hT ((fun l => l.2.2) l)) r) (fun e => (fun e r => ev w d 452 72 [(0, .ref (tb_nK + 121)), (1, iv v1), (2, iv (e.1))] [] (hT (e.2)) r) e r)
noncomputable def m_checkPins_32b (v1 : Int) (v2 : Int) (v3 : Int) (s : iS) : Option ((Int × Int × iS) ⊕ (Int × iS)) := gd (rg v3) (gd (rg v1) (if v1 ≤ v3 then some (.inr (v2, s)) else gd (rg v2) (if v2 = 0 then gd (0 ≤ v3 ∧ v3 < 17) (gd (0 ≤ v1 ∧ v1 < 17) (bd (m_like (s 195 v3.toNat) (s 195 v1.toNat) s) (fun r8 s8 => gd (rg r8) (if r8 = 0 then some (.inl (0, (v3 + 1), s8)) else some (.inl (1, (v3 + 1), s8)))))) else some (.inl (1, (v3 + 1), s)))))
theorem tm_checkPins_32b (w : ev_W) (d : Nat) (hd : 2 ≤ d) (v1 : Int) (v2 : Int) (v3 : Int) (s : iS) : Ew hT w d 452 32 [(0, .ref (tb_nK + 121)), (1, iv v1), (2, iv v2), (3, iv v3)] [] s (m_checkPins_32C w d v1) (m_checkPins_32b v1 v2 v3 s) := by
  unfold m_checkPins_32b
  refine e_mv 33 em_452 (ce_at ce_452 20 rfl) rfl rfl ?_
  refine e_mv 34 em_452 (ce_at ce_452 21 rfl) rfl rfl ?_
  refine e_gd fun g1 => ?_
  refine e_gd fun g2 => ?_
  refine e_cmge 72 37 em_452 rfl rfl (ce_at ce_452 22 rfl) g1 g2 (fun h3 => ?_) (fun h3 => ?_)
  · refine e_pk [0, 1, 2] rfl rfl ?_
    exact e_out (fun r h => h)
  · refine e_mv 38 em_452 (ce_at ce_452 23 rfl) rfl rfl ?_
    refine e_gd fun g4 => ?_
    refine e_ifne 60 41 em_452 rfl rfl (ce_at ce_452 24 rfl) g4 (fun h5 => ?_) (fun h5 => ?_)
    · refine e_op 61 em_452 (ce_at ce_452 36 rfl) rfl rfl ?_
      refine e_goto em_452 65 (ce_at ce_452 37 rfl) rfl ?_
      refine e_mv 66 em_452 (ce_at ce_452 39 rfl) rfl rfl ?_
      refine e_iinc 69 em_452 (ce_at ce_452 40 rfl) rfl (by decide) rfl ?_
      refine e_goto em_452 32 (ce_at ce_452 41 rfl) rfl ?_
      refine e_pk [0, 1, 2, 3] rfl rfl ?_
      exact e_out (fun r h => h)
    · refine e_mv 42 em_452 (ce_at ce_452 25 rfl) rfl rfl ?_
      refine e_mv 43 em_452 (ce_at ce_452 26 rfl) rfl rfl ?_
      refine e_getr 46 em_452 (ce_at ce_452 27 rfl) tq_121 rfl rfl ?_
      refine e_mv 47 em_452 (ce_at ce_452 28 rfl) rfl rfl ?_
      refine e_gd fun g6 => ?_
      refine e_ild 48 em_452 (ce_at ce_452 29 rfl) tq_195 (by decide) g6 rfl ?_
      refine e_mv 49 em_452 (ce_at ce_452 30 rfl) rfl rfl ?_
      refine e_getr 52 em_452 (ce_at ce_452 31 rfl) tq_121 rfl rfl ?_
      refine e_mv 53 em_452 (ce_at ce_452 32 rfl) rfl rfl ?_
      refine e_gd fun g7 => ?_
      refine e_ild 54 em_452 (ce_at ce_452 33 rfl) tq_195 (by decide) g7 rfl ?_
      refine e_ivi 57 em_452 (ce_at ce_452 34 rfl) (by omega) (iv_v2 (by decide) tq_121 rfl) em_350 (Nat.le_of_ble_eq_true rfl) rfl (tm_like w (d - 1) (by omega) _ _ _) (fun r8 s8 => ?_)
      refine e_gd fun g9 => ?_
      refine e_ifeq 64 60 em_452 rfl rfl (ce_at ce_452 35 rfl) g9 (fun h10 => ?_) (fun h10 => ?_)
      · refine e_op 65 em_452 (ce_at ce_452 38 rfl) rfl rfl ?_
        refine e_mv 66 em_452 (ce_at ce_452 39 rfl) rfl rfl ?_
        refine e_iinc 69 em_452 (ce_at ce_452 40 rfl) rfl (by decide) rfl ?_
        refine e_goto em_452 32 (ce_at ce_452 41 rfl) rfl ?_
        refine e_pk [0, 1, 2, 3] rfl rfl ?_
        exact e_out (fun r h => h)
      · refine e_op 61 em_452 (ce_at ce_452 36 rfl) rfl rfl ?_
        refine e_goto em_452 65 (ce_at ce_452 37 rfl) rfl ?_
        refine e_mv 66 em_452 (ce_at ce_452 39 rfl) rfl rfl ?_
        refine e_iinc 69 em_452 (ce_at ce_452 40 rfl) rfl (by decide) rfl ?_
        refine e_goto em_452 32 (ce_at ce_452 41 rfl) rfl ?_
        refine e_pk [0, 1, 2, 3] rfl rfl ?_
        exact e_out (fun r h => h)
theorem fm_checkPins_32b (v1 : Int) (v2 : Int) (v3 : Int) (s : iS) : Fm (fun r : (Int × Int × iS) ⊕ (Int × iS) => r.elim (fun l => l.2.2) (fun e => e.2)) L_m_checkPins G_m_checkPins s (m_checkPins_32b v1 v2 v3 s) := fm_gd (fm_gd (fm_if (fm_some md_refl) (fm_gd (fm_if (fm_gd (fm_gd (fm_bd (fm_sub (fm_like _ _ _) (mem_sub_L rfl) (mem_sub_F rfl)) (fun r8 s8 => fm_gd (fm_if (fm_some md_refl) (fm_some md_refl)))))) (fm_some md_refl)))))
def m_checkPins_117C (w : ev_W) (d : Nat) (v1 : Int) (v3 : Int) : (Int × Int × iS) ⊕ (Int × iS) → am_E → Prop := fun q r => q.elim (fun l => ev w d 452 117 ((fun l => [(0, .ref (tb_nK + 121)), (1, iv v1), (3, iv v3), (4, iv (l.1)), (5, iv (l.2.1))]) l) [] (hT ((fun l => l.2.2) l)) r) (fun e => (fun e r => ev w d 452 161 [(0, .ref (tb_nK + 121)), (1, iv v1), (3, iv v3), (4, iv (e.1))] [] (hT (e.2)) r) e r)
noncomputable def m_checkPins_117b (v1 : Int) (v3 : Int) (v4 : Int) (v5 : Int) (s : iS) : Option ((Int × Int × iS) ⊕ (Int × iS)) := gd (rg v5) (gd (rg v3) (if v3 ≤ v5 then some (.inr (v4, s)) else gd (rg v4) (if v4 = 0 then gd (0 ≤ v5 ∧ v5 < 200) (gd (0 ≤ v3 ∧ v3 < 200) (bd (m_like (s 198 v5.toNat) (s 198 v3.toNat) s) (fun r8 s8 => gd (rg r8) (if r8 = 0 then some (.inl (0, (v5 + 1), s8)) else some (.inl (1, (v5 + 1), s8)))))) else some (.inl (1, (v5 + 1), s)))))
theorem tm_checkPins_117b (w : ev_W) (d : Nat) (hd : 2 ≤ d) (v1 : Int) (v3 : Int) (v4 : Int) (v5 : Int) (s : iS) : Ew hT w d 452 117 [(0, .ref (tb_nK + 121)), (1, iv v1), (3, iv v3), (4, iv v4), (5, iv v5)] [] s (m_checkPins_117C w d v1 v3) (m_checkPins_117b v1 v3 v4 v5 s) := by
  unfold m_checkPins_117b
  refine e_mv 119 em_452 (ce_at ce_452 71 rfl) rfl rfl ?_
  refine e_mv 120 em_452 (ce_at ce_452 72 rfl) rfl rfl ?_
  refine e_gd fun g1 => ?_
  refine e_gd fun g2 => ?_
  refine e_cmge 161 123 em_452 rfl rfl (ce_at ce_452 73 rfl) g1 g2 (fun h3 => ?_) (fun h3 => ?_)
  · refine e_pk [0, 1, 3, 4] rfl rfl ?_
    exact e_out (fun r h => h)
  · refine e_mv 125 em_452 (ce_at ce_452 74 rfl) rfl rfl ?_
    refine e_gd fun g4 => ?_
    refine e_ifne 148 128 em_452 rfl rfl (ce_at ce_452 75 rfl) g4 (fun h5 => ?_) (fun h5 => ?_)
    · refine e_op 149 em_452 (ce_at ce_452 87 rfl) rfl rfl ?_
      refine e_goto em_452 153 (ce_at ce_452 88 rfl) rfl ?_
      refine e_mv 155 em_452 (ce_at ce_452 90 rfl) rfl rfl ?_
      refine e_iinc 158 em_452 (ce_at ce_452 91 rfl) rfl (by decide) rfl ?_
      refine e_goto em_452 117 (ce_at ce_452 92 rfl) rfl ?_
      refine e_pk [0, 1, 3, 4, 5] rfl rfl ?_
      exact e_out (fun r h => h)
    · refine e_mv 129 em_452 (ce_at ce_452 76 rfl) rfl rfl ?_
      refine e_mv 130 em_452 (ce_at ce_452 77 rfl) rfl rfl ?_
      refine e_getr 133 em_452 (ce_at ce_452 78 rfl) tq_121 rfl rfl ?_
      refine e_mv 135 em_452 (ce_at ce_452 79 rfl) rfl rfl ?_
      refine e_gd fun g6 => ?_
      refine e_ild 136 em_452 (ce_at ce_452 80 rfl) tq_198 (by decide) g6 rfl ?_
      refine e_mv 137 em_452 (ce_at ce_452 81 rfl) rfl rfl ?_
      refine e_getr 140 em_452 (ce_at ce_452 82 rfl) tq_121 rfl rfl ?_
      refine e_mv 141 em_452 (ce_at ce_452 83 rfl) rfl rfl ?_
      refine e_gd fun g7 => ?_
      refine e_ild 142 em_452 (ce_at ce_452 84 rfl) tq_198 (by decide) g7 rfl ?_
      refine e_ivi 145 em_452 (ce_at ce_452 85 rfl) (by omega) (iv_v2 (by decide) tq_121 rfl) em_350 (Nat.le_of_ble_eq_true rfl) rfl (tm_like w (d - 1) (by omega) _ _ _) (fun r8 s8 => ?_)
      refine e_gd fun g9 => ?_
      refine e_ifeq 152 148 em_452 rfl rfl (ce_at ce_452 86 rfl) g9 (fun h10 => ?_) (fun h10 => ?_)
      · refine e_op 153 em_452 (ce_at ce_452 89 rfl) rfl rfl ?_
        refine e_mv 155 em_452 (ce_at ce_452 90 rfl) rfl rfl ?_
        refine e_iinc 158 em_452 (ce_at ce_452 91 rfl) rfl (by decide) rfl ?_
        refine e_goto em_452 117 (ce_at ce_452 92 rfl) rfl ?_
        refine e_pk [0, 1, 3, 4, 5] rfl rfl ?_
        exact e_out (fun r h => h)
      · refine e_op 149 em_452 (ce_at ce_452 87 rfl) rfl rfl ?_
        refine e_goto em_452 153 (ce_at ce_452 88 rfl) rfl ?_
        refine e_mv 155 em_452 (ce_at ce_452 90 rfl) rfl rfl ?_
        refine e_iinc 158 em_452 (ce_at ce_452 91 rfl) rfl (by decide) rfl ?_
        refine e_goto em_452 117 (ce_at ce_452 92 rfl) rfl ?_
        refine e_pk [0, 1, 3, 4, 5] rfl rfl ?_
        exact e_out (fun r h => h)
theorem fm_checkPins_117b (v1 : Int) (v3 : Int) (v4 : Int) (v5 : Int) (s : iS) : Fm (fun r : (Int × Int × iS) ⊕ (Int × iS) => r.elim (fun l => l.2.2) (fun e => e.2)) L_m_checkPins G_m_checkPins s (m_checkPins_117b v1 v3 v4 v5 s) := fm_gd (fm_gd (fm_if (fm_some md_refl) (fm_gd (fm_if (fm_gd (fm_gd (fm_bd (fm_sub (fm_like _ _ _) (mem_sub_L rfl) (mem_sub_F rfl)) (fun r8 s8 => fm_gd (fm_if (fm_some md_refl) (fm_some md_refl)))))) (fm_some md_refl)))))
def m_checkPins_94C (w : ev_W) (d : Nat) (v1 : Int) : (Int × iS) ⊕ (iS) → am_E → Prop := fun q r => q.elim (fun l => ev w d 452 94 ((fun l => [(0, .ref (tb_nK + 121)), (1, iv v1), (3, iv (l.1))]) l) [] (hT ((fun l => l.2) l)) r) (fun e => (fun e r => ev w d 452 235 [(0, .ref (tb_nK + 121)), (1, iv v1)] [] (hT (e)) r) e r)
noncomputable def m_checkPins_218 (v1 : Int) (v3 : Int) (s : iS) : Option ((Int × iS) ⊕ (iS)) := gd (0 ≤ v3 ∧ v3 < 200) (bd (m_note 5 (s 200 v3.toNat) s) (fun _ s2 => some (.inl ((v3 + 1), s2))))
theorem tm_checkPins_218 (w : ev_W) (d : Nat) (hd : 2 ≤ d) (v1 : Int) (v3 : Int) (s : iS) : Ew hT w d 452 218 [(0, .ref (tb_nK + 121)), (1, iv v1), (3, iv v3)] [] s (m_checkPins_94C w d v1) (m_checkPins_218 v1 v3 s) := by
  unfold m_checkPins_218
  refine e_mv 219 em_452 (ce_at ce_452 126 rfl) rfl rfl ?_
  refine e_op 220 em_452 (ce_at ce_452 127 rfl) rfl rfl ?_
  refine e_mv 221 em_452 (ce_at ce_452 128 rfl) rfl rfl ?_
  refine e_getr 224 em_452 (ce_at ce_452 129 rfl) tq_121 rfl rfl ?_
  refine e_mv 225 em_452 (ce_at ce_452 130 rfl) rfl rfl ?_
  refine e_gd fun g1 => ?_
  refine e_ild 226 em_452 (ce_at ce_452 131 rfl) tq_200 (by decide) g1 rfl ?_
  refine e_ivv 229 em_452 (ce_at ce_452 132 rfl) (by omega) (iv_v2 (by decide) tq_121 rfl) em_351 (Nat.le_of_ble_eq_true rfl) rfl (tm_note w (d - 1) (by omega) _ _ _) (fun r2 s2 => ?_)
  refine e_iinc 232 em_452 (ce_at ce_452 133 rfl) rfl (by decide) rfl ?_
  refine e_goto em_452 94 (ce_at ce_452 134 rfl) rfl ?_
  refine e_pk [0, 1, 3] rfl rfl ?_
  exact e_out (fun r h => h)
theorem fm_checkPins_218 (v1 : Int) (v3 : Int) (s : iS) : Fm (fun r : (Int × iS) ⊕ (iS) => r.elim (fun l => l.2) (fun e => e)) L_m_checkPins G_m_checkPins s (m_checkPins_218 v1 v3 s) := fm_gd (fm_bd (fm_sub (fm_note _ _ _) (mem_sub_L rfl) (mem_sub_F rfl)) (fun r2 s2 => fm_some md_refl))
noncomputable def m_checkPins_177 (v1 : Int) (v3 : Int) (s : iS) : Option ((Int × iS) ⊕ (iS)) := gd (0 ≤ v3 ∧ v3 < 200) (gd (rg (s 200 v3.toNat)) (if (s 200 v3.toNat) = (-1) then some (.inl ((v3 + 1), s)) else gd (0 ≤ (s 200 v3.toNat) ∧ (s 200 v3.toNat) < 2002) (gd (rg (s 127 (s 200 v3.toNat).toNat)) (if (s 127 (s 200 v3.toNat).toNat) < 1 then m_checkPins_218 v1 v3 s else if (s 127 (s 200 v3.toNat).toNat) ≤ 16 then some (.inl ((v3 + 1), s)) else m_checkPins_218 v1 v3 s))))
theorem tm_checkPins_177 (w : ev_W) (d : Nat) (hd : 2 ≤ d) (v1 : Int) (v3 : Int) (s : iS) : Ew hT w d 452 177 [(0, .ref (tb_nK + 121)), (1, iv v1), (3, iv v3)] [] s (m_checkPins_94C w d v1) (m_checkPins_177 v1 v3 s) := by
  unfold m_checkPins_177
  refine e_mv 178 em_452 (ce_at ce_452 102 rfl) rfl rfl ?_
  refine e_getr 181 em_452 (ce_at ce_452 103 rfl) tq_121 rfl rfl ?_
  refine e_mv 182 em_452 (ce_at ce_452 104 rfl) rfl rfl ?_
  refine e_gd fun g1 => ?_
  refine e_ild 183 em_452 (ce_at ce_452 105 rfl) tq_200 (by decide) g1 rfl ?_
  refine e_op 184 em_452 (ce_at ce_452 106 rfl) rfl rfl ?_
  refine e_gd fun g2 => ?_
  refine e_cmeq 229 187 em_452 rfl rfl (ce_at ce_452 107 rfl) g2 (by decide) (fun h3 => ?_) (fun h3 => ?_)
  · refine e_iinc 232 em_452 (ce_at ce_452 133 rfl) rfl (by decide) rfl ?_
    refine e_goto em_452 94 (ce_at ce_452 134 rfl) rfl ?_
    refine e_pk [0, 1, 3] rfl rfl ?_
    exact e_out (fun r h => h)
  · refine e_mv 188 em_452 (ce_at ce_452 108 rfl) rfl rfl ?_
    refine e_getr 191 em_452 (ce_at ce_452 109 rfl) tq_121 rfl rfl ?_
    refine e_mv 192 em_452 (ce_at ce_452 110 rfl) rfl rfl ?_
    refine e_getr 195 em_452 (ce_at ce_452 111 rfl) tq_121 rfl rfl ?_
    refine e_mv 196 em_452 (ce_at ce_452 112 rfl) rfl rfl ?_
    refine e_ild 197 em_452 (ce_at ce_452 113 rfl) tq_200 (by decide) g1 rfl ?_
    refine e_gd fun g4 => ?_
    refine e_ild 198 em_452 (ce_at ce_452 114 rfl) tq_127 (by decide) g4 rfl ?_
    refine e_op 199 em_452 (ce_at ce_452 115 rfl) rfl rfl ?_
    refine e_gd fun g5 => ?_
    refine e_cmlt 218 202 em_452 rfl rfl (ce_at ce_452 116 rfl) g5 (by decide) (fun h6 => ?_) (fun h6 => ?_)
    · refine e_pk [0, 1, 3] rfl rfl ?_
      exact tm_checkPins_218 w d hd _ _ _
    · refine e_mv 203 em_452 (ce_at ce_452 117 rfl) rfl rfl ?_
      refine e_getr 206 em_452 (ce_at ce_452 118 rfl) tq_121 rfl rfl ?_
      refine e_mv 207 em_452 (ce_at ce_452 119 rfl) rfl rfl ?_
      refine e_getr 210 em_452 (ce_at ce_452 120 rfl) tq_121 rfl rfl ?_
      refine e_mv 211 em_452 (ce_at ce_452 121 rfl) rfl rfl ?_
      refine e_ild 212 em_452 (ce_at ce_452 122 rfl) tq_200 (by decide) g1 rfl ?_
      refine e_ild 213 em_452 (ce_at ce_452 123 rfl) tq_127 (by decide) g4 rfl ?_
      refine e_bip 215 em_452 (ce_at ce_452 124 rfl) (by decide) rfl ?_
      refine e_cmle 229 218 em_452 rfl rfl (ce_at ce_452 125 rfl) g5 (by decide) (fun h7 => ?_) (fun h7 => ?_)
      · refine e_iinc 232 em_452 (ce_at ce_452 133 rfl) rfl (by decide) rfl ?_
        refine e_goto em_452 94 (ce_at ce_452 134 rfl) rfl ?_
        refine e_pk [0, 1, 3] rfl rfl ?_
        exact e_out (fun r h => h)
      · refine e_pk [0, 1, 3] rfl rfl ?_
        exact tm_checkPins_218 w d hd _ _ _
theorem fm_checkPins_177 (v1 : Int) (v3 : Int) (s : iS) : Fm (fun r : (Int × iS) ⊕ (iS) => r.elim (fun l => l.2) (fun e => e)) L_m_checkPins G_m_checkPins s (m_checkPins_177 v1 v3 s) := fm_gd (fm_gd (fm_if (fm_some md_refl) (fm_gd (fm_gd (fm_if (fm_checkPins_218 _ _ _) (fm_if (fm_some md_refl) (fm_checkPins_218 _ _ _)))))))
noncomputable def m_checkPins_161 (v1 : Int) (v3 : Int) (v4 : Int) (s : iS) : Option ((Int × iS) ⊕ (iS)) := gd (rg v4) (if v4 = 0 then m_checkPins_177 v1 v3 s else gd (0 ≤ v3 ∧ v3 < 200) (bd (m_note 3 (s 198 v3.toNat) s) (fun _ s4 => m_checkPins_177 v1 v3 s4)))
theorem tm_checkPins_161 (w : ev_W) (d : Nat) (hd : 2 ≤ d) (v1 : Int) (v3 : Int) (v4 : Int) (s : iS) : Ew hT w d 452 161 [(0, .ref (tb_nK + 121)), (1, iv v1), (3, iv v3), (4, iv v4)] [] s (m_checkPins_94C w d v1) (m_checkPins_161 v1 v3 v4 s) := by
  unfold m_checkPins_161
  refine e_mv 163 em_452 (ce_at ce_452 93 rfl) rfl rfl ?_
  refine e_gd fun g1 => ?_
  refine e_ifeq 177 166 em_452 rfl rfl (ce_at ce_452 94 rfl) g1 (fun h2 => ?_) (fun h2 => ?_)
  · refine e_pk [0, 1, 3] rfl rfl ?_
    exact tm_checkPins_177 w d hd _ _ _
  · refine e_mv 167 em_452 (ce_at ce_452 95 rfl) rfl rfl ?_
    refine e_op 168 em_452 (ce_at ce_452 96 rfl) rfl rfl ?_
    refine e_mv 169 em_452 (ce_at ce_452 97 rfl) rfl rfl ?_
    refine e_getr 172 em_452 (ce_at ce_452 98 rfl) tq_121 rfl rfl ?_
    refine e_mv 173 em_452 (ce_at ce_452 99 rfl) rfl rfl ?_
    refine e_gd fun g3 => ?_
    refine e_ild 174 em_452 (ce_at ce_452 100 rfl) tq_198 (by decide) g3 rfl ?_
    refine e_ivv 177 em_452 (ce_at ce_452 101 rfl) (by omega) (iv_v2 (by decide) tq_121 rfl) em_351 (Nat.le_of_ble_eq_true rfl) rfl (tm_note w (d - 1) (by omega) _ _ _) (fun r4 s4 => ?_)
    refine e_pk [0, 1, 3] rfl rfl ?_
    exact tm_checkPins_177 w d hd _ _ _
theorem fm_checkPins_161 (v1 : Int) (v3 : Int) (v4 : Int) (s : iS) : Fm (fun r : (Int × iS) ⊕ (iS) => r.elim (fun l => l.2) (fun e => e)) L_m_checkPins G_m_checkPins s (m_checkPins_161 v1 v3 v4 s) := fm_gd (fm_if (fm_checkPins_177 _ _ _) (fm_gd (fm_bd (fm_sub (fm_note _ _ _) (mem_sub_L rfl) (mem_sub_F rfl)) (fun r4 s4 => fm_checkPins_177 _ _ _))))
noncomputable def m_checkPins_117 (v1 : Int) (v3 : Int) (v4 : Int) (v5 : Int) (s : iS) : Option ((Int × iS) ⊕ (iS)) := (lp (L := Int × Int × iS) (E := Int × iS) (fun l => m_checkPins_117b v1 v3 (l.1) (l.2.1) (l.2.2)) (v4, v5, s)).bind (fun e => m_checkPins_161 v1 v3 (e.1) (e.2))
theorem tm_checkPins_117 (w : ev_W) (d : Nat) (hd : 2 ≤ d) (v1 : Int) (v3 : Int) (v4 : Int) (v5 : Int) (s : iS) : Ew hT w d 452 117 [(0, .ref (tb_nK + 121)), (1, iv v1), (3, iv v3), (4, iv v4), (5, iv v5)] [] s (m_checkPins_94C w d v1) (m_checkPins_117 v1 v3 v4 v5 s) := by
  unfold m_checkPins_117
  refine e_lp (LO := fun l => [(0, .ref (tb_nK + 121)), (1, iv v1), (3, iv v3), (4, iv (l.1)), (5, iv (l.2.1))]) (LS := fun l => l.2.2) (CE := fun e r => ev w d 452 161 [(0, .ref (tb_nK + 121)), (1, iv v1), (3, iv v3), (4, iv (e.1))] [] (hT (e.2)) r) (fun l => tm_checkPins_117b w d hd _ _ _ _ _) ?_ (v4, v5, s)
  intro e
  show Ew hT w d 452 161 [(0, .ref (tb_nK + 121)), (1, iv v1), (3, iv v3), (4, iv (e.1))] [] e.2 (m_checkPins_94C w d v1) _
  refine e_pk [0, 1, 3, 4] rfl rfl ?_
  exact tm_checkPins_161 w d hd _ _ _ _
theorem fm_checkPins_117 (v1 : Int) (v3 : Int) (v4 : Int) (v5 : Int) (s : iS) : Fm (fun r : (Int × iS) ⊕ (iS) => r.elim (fun l => l.2) (fun e => e)) L_m_checkPins G_m_checkPins s (m_checkPins_117 v1 v3 v4 v5 s) := fm_lp (LS := fun l => l.2.2) (LE := fun e => e.2) (fun l => fm_checkPins_117b _ _ _ _ _) (fun e => fm_checkPins_161 _ _ _ _) (v4, v5, s)
noncomputable def m_checkPins_94b (v1 : Int) (v3 : Int) (s : iS) : Option ((Int × iS) ⊕ (iS)) := gd (0 ≤ (v1 + 1) ∧ (v1 + 1) < 18) (gd (rg v3) (gd (rg (s 196 (v1 + 1).toNat)) (if (s 196 (v1 + 1).toNat) ≤ v3 then some (.inr s) else gd (0 ≤ v1 ∧ v1 < 18) (m_checkPins_117 v1 v3 0 (s 196 v1.toNat) s))))
theorem tm_checkPins_94b (w : ev_W) (d : Nat) (hd : 2 ≤ d) (v1 : Int) (v3 : Int) (s : iS) : Ew hT w d 452 94 [(0, .ref (tb_nK + 121)), (1, iv v1), (3, iv v3)] [] s (m_checkPins_94C w d v1) (m_checkPins_94b v1 v3 s) := by
  unfold m_checkPins_94b
  refine e_mv 95 em_452 (ce_at ce_452 56 rfl) rfl rfl ?_
  refine e_mv 96 em_452 (ce_at ce_452 57 rfl) rfl rfl ?_
  refine e_getr 99 em_452 (ce_at ce_452 58 rfl) tq_121 rfl rfl ?_
  refine e_mv 100 em_452 (ce_at ce_452 59 rfl) rfl rfl ?_
  refine e_op 101 em_452 (ce_at ce_452 60 rfl) rfl rfl ?_
  refine e_iadd 102 em_452 rfl (ce_at ce_452 61 rfl) ?_
  refine e_gd fun g1 => ?_
  refine e_ild 103 em_452 (ce_at ce_452 62 rfl) tq_196 (by decide) g1 rfl ?_
  refine e_gd fun g2 => ?_
  refine e_gd fun g3 => ?_
  refine e_cmge 235 106 em_452 rfl rfl (ce_at ce_452 63 rfl) g2 g3 (fun h4 => ?_) (fun h4 => ?_)
  · refine e_pk [0, 1] rfl rfl ?_
    exact e_out (fun r h => h)
  · refine e_op 107 em_452 (ce_at ce_452 64 rfl) rfl rfl ?_
    refine e_mv 109 em_452 (ce_at ce_452 65 rfl) rfl rfl ?_
    refine e_mv 110 em_452 (ce_at ce_452 66 rfl) rfl rfl ?_
    refine e_getr 113 em_452 (ce_at ce_452 67 rfl) tq_121 rfl rfl ?_
    refine e_mv 114 em_452 (ce_at ce_452 68 rfl) rfl rfl ?_
    refine e_gd fun g5 => ?_
    refine e_ild 115 em_452 (ce_at ce_452 69 rfl) tq_196 (by decide) g5 rfl ?_
    refine e_mv 117 em_452 (ce_at ce_452 70 rfl) rfl rfl ?_
    refine e_pk [0, 1, 3, 4, 5] rfl rfl ?_
    exact tm_checkPins_117 w d hd _ _ _ _ _
theorem fm_checkPins_94b (v1 : Int) (v3 : Int) (s : iS) : Fm (fun r : (Int × iS) ⊕ (iS) => r.elim (fun l => l.2) (fun e => e)) L_m_checkPins G_m_checkPins s (m_checkPins_94b v1 v3 s) := fm_gd (fm_gd (fm_gd (fm_if (fm_some md_refl) (fm_gd (fm_checkPins_117 _ _ _ _ _)))))
def m_checkPins_2C (w : ev_W) (d : Nat) : (Int × iS) ⊕ (iS) → am_E → Prop := fun q r => q.elim (fun l => ev w d 452 2 ((fun l => [(0, .ref (tb_nK + 121)), (1, iv (l.1))]) l) [] (hT ((fun l => l.2) l)) r) (fun e => (fun e r => ev w d 452 241 [] [] (hT (e)) r) e r)
noncomputable def m_checkPins_94 (v1 : Int) (v3 : Int) (s : iS) : Option ((Int × iS) ⊕ (iS)) := (lp (L := Int × iS) (E := iS) (fun l => m_checkPins_94b v1 (l.1) (l.2)) (v3, s)).bind (fun e => some (.inl ((v1 + 1), e)))
theorem tm_checkPins_94 (w : ev_W) (d : Nat) (hd : 2 ≤ d) (v1 : Int) (v3 : Int) (s : iS) : Ew hT w d 452 94 [(0, .ref (tb_nK + 121)), (1, iv v1), (3, iv v3)] [] s (m_checkPins_2C w d) (m_checkPins_94 v1 v3 s) := by
  unfold m_checkPins_94
  refine e_lp (LO := fun l => [(0, .ref (tb_nK + 121)), (1, iv v1), (3, iv (l.1))]) (LS := fun l => l.2) (CE := fun e r => ev w d 452 235 [(0, .ref (tb_nK + 121)), (1, iv v1)] [] (hT (e)) r) (fun l => tm_checkPins_94b w d hd _ _ _) ?_ (v3, s)
  intro e
  show Ew hT w d 452 235 [(0, .ref (tb_nK + 121)), (1, iv v1)] [] e (m_checkPins_2C w d) _
  refine e_iinc 238 em_452 (ce_at ce_452 135 rfl) rfl (by decide) rfl ?_
  refine e_goto em_452 2 (ce_at ce_452 136 rfl) rfl ?_
  refine e_pk [0, 1] rfl rfl ?_
  exact e_out (fun r h => h)
theorem fm_checkPins_94 (v1 : Int) (v3 : Int) (s : iS) : Fm (fun r : (Int × iS) ⊕ (iS) => r.elim (fun l => l.2) (fun e => e)) L_m_checkPins G_m_checkPins s (m_checkPins_94 v1 v3 s) := fm_lp (LS := fun l => l.2) (LE := fun e => e) (fun l => fm_checkPins_94b _ _ _) (fun e => fm_some md_refl) (v3, s)
noncomputable def m_checkPins_87 (v1 : Int) (s : iS) : Option ((Int × iS) ⊕ (iS)) := gd (0 ≤ v1 ∧ v1 < 18) (m_checkPins_94 v1 (s 196 v1.toNat) s)
theorem tm_checkPins_87 (w : ev_W) (d : Nat) (hd : 2 ≤ d) (v1 : Int) (s : iS) : Ew hT w d 452 87 [(0, .ref (tb_nK + 121)), (1, iv v1)] [] s (m_checkPins_2C w d) (m_checkPins_87 v1 s) := by
  unfold m_checkPins_87
  refine e_mv 88 em_452 (ce_at ce_452 51 rfl) rfl rfl ?_
  refine e_getr 91 em_452 (ce_at ce_452 52 rfl) tq_121 rfl rfl ?_
  refine e_mv 92 em_452 (ce_at ce_452 53 rfl) rfl rfl ?_
  refine e_gd fun g1 => ?_
  refine e_ild 93 em_452 (ce_at ce_452 54 rfl) tq_196 (by decide) g1 rfl ?_
  refine e_mv 94 em_452 (ce_at ce_452 55 rfl) rfl rfl ?_
  refine e_pk [0, 1, 3] rfl rfl ?_
  exact tm_checkPins_94 w d hd _ _ _
theorem fm_checkPins_87 (v1 : Int) (s : iS) : Fm (fun r : (Int × iS) ⊕ (iS) => r.elim (fun l => l.2) (fun e => e)) L_m_checkPins G_m_checkPins s (m_checkPins_87 v1 s) := fm_gd (fm_checkPins_94 _ _ _)
noncomputable def m_checkPins_72 (v1 : Int) (v2 : Int) (s : iS) : Option ((Int × iS) ⊕ (iS)) := gd (rg v2) (if v2 = 0 then m_checkPins_87 v1 s else gd (0 ≤ v1 ∧ v1 < 17) (bd (m_note 3 (s 195 v1.toNat) s) (fun _ s4 => m_checkPins_87 v1 s4)))
theorem tm_checkPins_72 (w : ev_W) (d : Nat) (hd : 2 ≤ d) (v1 : Int) (v2 : Int) (s : iS) : Ew hT w d 452 72 [(0, .ref (tb_nK + 121)), (1, iv v1), (2, iv v2)] [] s (m_checkPins_2C w d) (m_checkPins_72 v1 v2 s) := by
  unfold m_checkPins_72
  refine e_mv 73 em_452 (ce_at ce_452 42 rfl) rfl rfl ?_
  refine e_gd fun g1 => ?_
  refine e_ifeq 87 76 em_452 rfl rfl (ce_at ce_452 43 rfl) g1 (fun h2 => ?_) (fun h2 => ?_)
  · refine e_pk [0, 1] rfl rfl ?_
    exact tm_checkPins_87 w d hd _ _
  · refine e_mv 77 em_452 (ce_at ce_452 44 rfl) rfl rfl ?_
    refine e_op 78 em_452 (ce_at ce_452 45 rfl) rfl rfl ?_
    refine e_mv 79 em_452 (ce_at ce_452 46 rfl) rfl rfl ?_
    refine e_getr 82 em_452 (ce_at ce_452 47 rfl) tq_121 rfl rfl ?_
    refine e_mv 83 em_452 (ce_at ce_452 48 rfl) rfl rfl ?_
    refine e_gd fun g3 => ?_
    refine e_ild 84 em_452 (ce_at ce_452 49 rfl) tq_195 (by decide) g3 rfl ?_
    refine e_ivv 87 em_452 (ce_at ce_452 50 rfl) (by omega) (iv_v2 (by decide) tq_121 rfl) em_351 (Nat.le_of_ble_eq_true rfl) rfl (tm_note w (d - 1) (by omega) _ _ _) (fun r4 s4 => ?_)
    refine e_pk [0, 1] rfl rfl ?_
    exact tm_checkPins_87 w d hd _ _
theorem fm_checkPins_72 (v1 : Int) (v2 : Int) (s : iS) : Fm (fun r : (Int × iS) ⊕ (iS) => r.elim (fun l => l.2) (fun e => e)) L_m_checkPins G_m_checkPins s (m_checkPins_72 v1 v2 s) := fm_gd (fm_if (fm_checkPins_87 _ _) (fm_gd (fm_bd (fm_sub (fm_note _ _ _) (mem_sub_L rfl) (mem_sub_F rfl)) (fun r4 s4 => fm_checkPins_87 _ _))))
noncomputable def m_checkPins_32 (v1 : Int) (v2 : Int) (v3 : Int) (s : iS) : Option ((Int × iS) ⊕ (iS)) := (lp (L := Int × Int × iS) (E := Int × iS) (fun l => m_checkPins_32b v1 (l.1) (l.2.1) (l.2.2)) (v2, v3, s)).bind (fun e => m_checkPins_72 v1 (e.1) (e.2))
theorem tm_checkPins_32 (w : ev_W) (d : Nat) (hd : 2 ≤ d) (v1 : Int) (v2 : Int) (v3 : Int) (s : iS) : Ew hT w d 452 32 [(0, .ref (tb_nK + 121)), (1, iv v1), (2, iv v2), (3, iv v3)] [] s (m_checkPins_2C w d) (m_checkPins_32 v1 v2 v3 s) := by
  unfold m_checkPins_32
  refine e_lp (LO := fun l => [(0, .ref (tb_nK + 121)), (1, iv v1), (2, iv (l.1)), (3, iv (l.2.1))]) (LS := fun l => l.2.2) (CE := fun e r => ev w d 452 72 [(0, .ref (tb_nK + 121)), (1, iv v1), (2, iv (e.1))] [] (hT (e.2)) r) (fun l => tm_checkPins_32b w d hd _ _ _ _) ?_ (v2, v3, s)
  intro e
  show Ew hT w d 452 72 [(0, .ref (tb_nK + 121)), (1, iv v1), (2, iv (e.1))] [] e.2 (m_checkPins_2C w d) _
  refine e_pk [0, 1, 2] rfl rfl ?_
  exact tm_checkPins_72 w d hd _ _ _
theorem fm_checkPins_32 (v1 : Int) (v2 : Int) (v3 : Int) (s : iS) : Fm (fun r : (Int × iS) ⊕ (iS) => r.elim (fun l => l.2) (fun e => e)) L_m_checkPins G_m_checkPins s (m_checkPins_32 v1 v2 v3 s) := fm_lp (LS := fun l => l.2.2) (LE := fun e => e.2) (fun l => fm_checkPins_32b _ _ _ _) (fun e => fm_checkPins_72 _ _ _) (v2, v3, s)
noncomputable def m_checkPins_29 (v1 : Int) (t0 : Int) (s : iS) : Option ((Int × iS) ⊕ (iS)) := m_checkPins_32 v1 t0 0 s
theorem tm_checkPins_29 (w : ev_W) (d : Nat) (hd : 2 ≤ d) (v1 : Int) (t0 : Int) (s : iS) : Ew hT w d 452 29 [(0, .ref (tb_nK + 121)), (1, iv v1)] [iv t0] s (m_checkPins_2C w d) (m_checkPins_29 v1 t0 s) := by
  unfold m_checkPins_29
  refine e_mv 30 em_452 (ce_at ce_452 17 rfl) rfl rfl ?_
  refine e_op 31 em_452 (ce_at ce_452 18 rfl) rfl rfl ?_
  refine e_mv 32 em_452 (ce_at ce_452 19 rfl) rfl rfl ?_
  refine e_pk [0, 1, 2, 3] rfl rfl ?_
  exact tm_checkPins_32 w d hd _ _ _ _
theorem fm_checkPins_29 (v1 : Int) (t0 : Int) (s : iS) : Fm (fun r : (Int × iS) ⊕ (iS) => r.elim (fun l => l.2) (fun e => e)) L_m_checkPins G_m_checkPins s (m_checkPins_29 v1 t0 s) := fm_checkPins_32 _ _ _ _
noncomputable def m_checkPins_2b (v1 : Int) (s : iS) : Option ((Int × iS) ⊕ (iS)) := gd (rg v1) (gd (rg (s 121 122)) (if (s 121 122) ≤ v1 then some (.inr s) else gd (0 ≤ v1 ∧ v1 < 17) (bd (m_gateOf (s 195 v1.toNat) s) (fun r5 s5 => gd (rg r5) (if r5 = (-1) then m_checkPins_29 v1 0 s5 else m_checkPins_29 v1 1 s5)))))
theorem tm_checkPins_2b (w : ev_W) (d : Nat) (hd : 2 ≤ d) (v1 : Int) (s : iS) : Ew hT w d 452 2 [(0, .ref (tb_nK + 121)), (1, iv v1)] [] s (m_checkPins_2C w d) (m_checkPins_2b v1 s) := by
  unfold m_checkPins_2b
  refine e_mv 3 em_452 (ce_at ce_452 2 rfl) rfl rfl ?_
  refine e_mv 4 em_452 (ce_at ce_452 3 rfl) rfl rfl ?_
  refine e_get 7 em_452 (ce_at ce_452 4 rfl) tq_121 rfl rfl ?_
  refine e_gd fun g1 => ?_
  refine e_gd fun g2 => ?_
  refine e_cmge 241 10 em_452 rfl rfl (ce_at ce_452 5 rfl) g1 g2 (fun h3 => ?_) (fun h3 => ?_)
  · refine e_pk [] rfl rfl ?_
    exact e_out (fun r h => h)
  · refine e_mv 11 em_452 (ce_at ce_452 6 rfl) rfl rfl ?_
    refine e_mv 12 em_452 (ce_at ce_452 7 rfl) rfl rfl ?_
    refine e_getr 15 em_452 (ce_at ce_452 8 rfl) tq_121 rfl rfl ?_
    refine e_mv 16 em_452 (ce_at ce_452 9 rfl) rfl rfl ?_
    refine e_gd fun g4 => ?_
    refine e_ild 17 em_452 (ce_at ce_452 10 rfl) tq_195 (by decide) g4 rfl ?_
    refine e_ivi 20 em_452 (ce_at ce_452 11 rfl) (by omega) (iv_v1 (by decide) tq_121 rfl) em_453 (Nat.le_of_ble_eq_true rfl) rfl (tm_gateOf w (d - 1) (by omega) _ _) (fun r5 s5 => ?_)
    refine e_op 21 em_452 (ce_at ce_452 12 rfl) rfl rfl ?_
    refine e_gd fun g6 => ?_
    refine e_cmeq 28 24 em_452 rfl rfl (ce_at ce_452 13 rfl) g6 (by decide) (fun h7 => ?_) (fun h7 => ?_)
    · refine e_op 29 em_452 (ce_at ce_452 16 rfl) rfl rfl ?_
      refine e_pk [0, 1] rfl rfl ?_
      exact tm_checkPins_29 w d hd _ _ _
    · refine e_op 25 em_452 (ce_at ce_452 14 rfl) rfl rfl ?_
      refine e_goto em_452 29 (ce_at ce_452 15 rfl) rfl ?_
      refine e_pk [0, 1] rfl rfl ?_
      exact tm_checkPins_29 w d hd _ _ _
theorem fm_checkPins_2b (v1 : Int) (s : iS) : Fm (fun r : (Int × iS) ⊕ (iS) => r.elim (fun l => l.2) (fun e => e)) L_m_checkPins G_m_checkPins s (m_checkPins_2b v1 s) := fm_gd (fm_gd (fm_if (fm_some md_refl) (fm_gd (fm_bd (fm_sub (fm_gateOf _ _) (mem_sub_L rfl) (mem_sub_F rfl)) (fun r5 s5 => fm_gd (fm_if (fm_checkPins_29 _ _ _) (fm_checkPins_29 _ _ _)))))))
noncomputable def m_checkPins_2 (v1 : Int) (s : iS) : Option (Int × iS) := (lp (L := Int × iS) (E := iS) (fun l => m_checkPins_2b (l.1) (l.2)) (v1, s)).bind (fun e => some (0, e))
theorem tm_checkPins_2 (w : ev_W) (d : Nat) (hd : 2 ≤ d) (v1 : Int) (s : iS) : Ew hT w d 452 2 [(0, .ref (tb_nK + 121)), (1, iv v1)] [] s (Cv hT) (m_checkPins_2 v1 s) := by
  unfold m_checkPins_2
  refine e_lp (LO := fun l => [(0, .ref (tb_nK + 121)), (1, iv (l.1))]) (LS := fun l => l.2) (CE := fun e r => ev w d 452 241 [] [] (hT (e)) r) (fun l => tm_checkPins_2b w d hd _ _) ?_ (v1, s)
  intro e
  show Ew hT w d 452 241 [] [] e (Cv hT) _
  exact e_retv em_452 (ce_at ce_452 137 rfl)
theorem fm_checkPins_2 (v1 : Int) (s : iS) : Fm Prod.snd L_m_checkPins G_m_checkPins s (m_checkPins_2 v1 s) := fm_lp (LS := fun l => l.2) (LE := fun e => e) (fun l => fm_checkPins_2b _ _) (fun e => fm_some md_refl) (v1, s)
noncomputable def m_checkPins (s : iS) : Option (Int × iS) := m_checkPins_2 0 s
theorem tm_checkPins (w : ev_W) (d : Nat) (hd : 2 ≤ d) (s : iS) : Ew hT w d 452 0 [(0, .ref (tb_nK + 121))] [] s (Cv hT) (m_checkPins s) := by
  unfold m_checkPins
  refine e_op 1 em_452 (ce_at ce_452 0 rfl) rfl rfl ?_
  refine e_mv 2 em_452 (ce_at ce_452 1 rfl) rfl rfl ?_
  refine e_pk [0, 1] rfl rfl ?_
  exact tm_checkPins_2 w d hd _ _
theorem fm_checkPins (s : iS) : Fm Prod.snd L_m_checkPins G_m_checkPins s (m_checkPins s) := fm_checkPins_2 _ _
/-! m_chipOf -/
def L_m_chipOf : List Nat := []
def G_m_chipOf : List (Nat × Nat) := []
def m_chipOf_8C (w : ev_W) (d : Nat) (v1 : Int) : (Int × Int × iS) ⊕ (Int × iS) → am_E → Prop := fun q r => q.elim (fun l => ev w d 455 8 ((fun l => [(0, .ref (tb_nK + 121)), (1, iv v1), (2, iv (l.1)), (3, iv (l.2.1))]) l) [] (hT ((fun l => l.2.2) l)) r) (fun e => (fun e r => ev w d 455 49 [(2, iv (e.1))] [] (hT (e.2)) r) e r)
noncomputable def m_chipOf_8b (v1 : Int) (v2 : Int) (v3 : Int) (s : iS) : Option ((Int × Int × iS) ⊕ (Int × iS)) := gd (rg v3) (gd (rg (s 121 122)) (if (s 121 122) ≤ v3 then some (.inr (v2, s)) else gd (rg v2) (if v2 = (-1) then gd (0 ≤ v3 ∧ v3 < 17) (bd (m_like (s 195 v3.toNat) v1 s) (fun r7 s7 => gd (rg r7) (if r7 = 0 then some (.inl ((-1), (v3 + 1), s7)) else some (.inl ((2 + v3), (v3 + 1), s7))))) else some (.inr (v2, s)))))
theorem tm_chipOf_8b (w : ev_W) (d : Nat) (hd : 2 ≤ d) (v1 : Int) (v2 : Int) (v3 : Int) (s : iS) : Ew hT w d 455 8 [(0, .ref (tb_nK + 121)), (1, iv v1), (2, iv v2), (3, iv v3)] [] s (m_chipOf_8C w d v1) (m_chipOf_8b v1 v2 v3 s) := by
  unfold m_chipOf_8b
  refine e_mv 9 em_455 (ce_at ce_455 6 rfl) rfl rfl ?_
  refine e_mv 10 em_455 (ce_at ce_455 7 rfl) rfl rfl ?_
  refine e_get 13 em_455 (ce_at ce_455 8 rfl) tq_121 rfl rfl ?_
  refine e_gd fun g1 => ?_
  refine e_gd fun g2 => ?_
  refine e_cmge 49 16 em_455 rfl rfl (ce_at ce_455 9 rfl) g1 g2 (fun h3 => ?_) (fun h3 => ?_)
  · refine e_pk [2] rfl rfl ?_
    exact e_out (fun r h => h)
  · refine e_mv 17 em_455 (ce_at ce_455 10 rfl) rfl rfl ?_
    refine e_op 18 em_455 (ce_at ce_455 11 rfl) rfl rfl ?_
    refine e_gd fun g4 => ?_
    refine e_cmne 49 21 em_455 rfl rfl (ce_at ce_455 12 rfl) g4 (by decide) (fun h5 => ?_) (fun h5 => ?_)
    · refine e_pk [2] rfl rfl ?_
      exact e_out (fun r h => h)
    · refine e_mv 22 em_455 (ce_at ce_455 13 rfl) rfl rfl ?_
      refine e_mv 23 em_455 (ce_at ce_455 14 rfl) rfl rfl ?_
      refine e_getr 26 em_455 (ce_at ce_455 15 rfl) tq_121 rfl rfl ?_
      refine e_mv 27 em_455 (ce_at ce_455 16 rfl) rfl rfl ?_
      refine e_gd fun g6 => ?_
      refine e_ild 28 em_455 (ce_at ce_455 17 rfl) tq_195 (by decide) g6 rfl ?_
      refine e_mv 29 em_455 (ce_at ce_455 18 rfl) rfl rfl ?_
      refine e_ivi 32 em_455 (ce_at ce_455 19 rfl) (by omega) (iv_v2 (by decide) tq_121 rfl) em_350 (Nat.le_of_ble_eq_true rfl) rfl (tm_like w (d - 1) (by omega) _ _ _) (fun r7 s7 => ?_)
      refine e_gd fun g8 => ?_
      refine e_ifeq 41 35 em_455 rfl rfl (ce_at ce_455 20 rfl) g8 (fun h9 => ?_) (fun h9 => ?_)
      · refine e_op 42 em_455 (ce_at ce_455 25 rfl) rfl rfl ?_
        refine e_mv 43 em_455 (ce_at ce_455 26 rfl) rfl rfl ?_
        refine e_iinc 46 em_455 (ce_at ce_455 27 rfl) rfl (by decide) rfl ?_
        refine e_goto em_455 8 (ce_at ce_455 28 rfl) rfl ?_
        refine e_pk [0, 1, 2, 3] rfl rfl ?_
        exact e_out (fun r h => h)
      · refine e_op 36 em_455 (ce_at ce_455 21 rfl) rfl rfl ?_
        refine e_mv 37 em_455 (ce_at ce_455 22 rfl) rfl rfl ?_
        refine e_iadd 38 em_455 rfl (ce_at ce_455 23 rfl) ?_
        refine e_goto em_455 42 (ce_at ce_455 24 rfl) rfl ?_
        refine e_mv 43 em_455 (ce_at ce_455 26 rfl) rfl rfl ?_
        refine e_iinc 46 em_455 (ce_at ce_455 27 rfl) rfl (by decide) rfl ?_
        refine e_goto em_455 8 (ce_at ce_455 28 rfl) rfl ?_
        refine e_pk [0, 1, 2, 3] rfl rfl ?_
        exact e_out (fun r h => h)
theorem fm_chipOf_8b (v1 : Int) (v2 : Int) (v3 : Int) (s : iS) : Fm (fun r : (Int × Int × iS) ⊕ (Int × iS) => r.elim (fun l => l.2.2) (fun e => e.2)) L_m_chipOf G_m_chipOf s (m_chipOf_8b v1 v2 v3 s) := fm_gd (fm_gd (fm_if (fm_some md_refl) (fm_gd (fm_if (fm_gd (fm_bd (fm_sub (fm_like _ _ _) (mem_sub_L rfl) (mem_sub_F rfl)) (fun r7 s7 => fm_gd (fm_if (fm_some md_refl) (fm_some md_refl))))) (fm_some md_refl)))))
noncomputable def m_chipOf_8 (v1 : Int) (v2 : Int) (v3 : Int) (s : iS) : Option (Int × iS) := (lp (L := Int × Int × iS) (E := Int × iS) (fun l => m_chipOf_8b v1 (l.1) (l.2.1) (l.2.2)) (v2, v3, s)).bind (fun e => some (e.1, e.2))
theorem tm_chipOf_8 (w : ev_W) (d : Nat) (hd : 2 ≤ d) (v1 : Int) (v2 : Int) (v3 : Int) (s : iS) : Ew hT w d 455 8 [(0, .ref (tb_nK + 121)), (1, iv v1), (2, iv v2), (3, iv v3)] [] s (Ci hT) (m_chipOf_8 v1 v2 v3 s) := by
  unfold m_chipOf_8
  refine e_lp (LO := fun l => [(0, .ref (tb_nK + 121)), (1, iv v1), (2, iv (l.1)), (3, iv (l.2.1))]) (LS := fun l => l.2.2) (CE := fun e r => ev w d 455 49 [(2, iv (e.1))] [] (hT (e.2)) r) (fun l => tm_chipOf_8b w d hd _ _ _ _) ?_ (v2, v3, s)
  intro e
  show Ew hT w d 455 49 [(2, iv (e.1))] [] e.2 (Ci hT) _
  refine e_mv 50 em_455 (ce_at ce_455 29 rfl) rfl rfl ?_
  exact e_reti em_455 (ce_at ce_455 30 rfl)
theorem fm_chipOf_8 (v1 : Int) (v2 : Int) (v3 : Int) (s : iS) : Fm Prod.snd L_m_chipOf G_m_chipOf s (m_chipOf_8 v1 v2 v3 s) := fm_lp (LS := fun l => l.2.2) (LE := fun e => e.2) (fun l => fm_chipOf_8b _ _ _ _) (fun e => fm_some md_refl) (v2, v3, s)
noncomputable def m_chipOf (v1 : Int) (s : iS) : Option (Int × iS) := bd (m_gateOf v1 s) (fun r1 s1 => m_chipOf_8 v1 r1 0 s1)
theorem tm_chipOf (w : ev_W) (d : Nat) (hd : 2 ≤ d) (v1 : Int) (s : iS) : Ew hT w d 455 0 [(0, .ref (tb_nK + 121)), (1, iv v1)] [] s (Ci hT) (m_chipOf v1 s) := by
  unfold m_chipOf
  refine e_mv 1 em_455 (ce_at ce_455 0 rfl) rfl rfl ?_
  refine e_mv 2 em_455 (ce_at ce_455 1 rfl) rfl rfl ?_
  refine e_ivi 5 em_455 (ce_at ce_455 2 rfl) (by omega) (iv_v1 (by decide) tq_121 rfl) em_453 (Nat.le_of_ble_eq_true rfl) rfl (tm_gateOf w (d - 1) (by omega) _ _) (fun r1 s1 => ?_)
  refine e_mv 6 em_455 (ce_at ce_455 3 rfl) rfl rfl ?_
  refine e_op 7 em_455 (ce_at ce_455 4 rfl) rfl rfl ?_
  refine e_mv 8 em_455 (ce_at ce_455 5 rfl) rfl rfl ?_
  refine e_pk [0, 1, 2, 3] rfl rfl ?_
  exact tm_chipOf_8 w d hd _ _ _ _
theorem fm_chipOf (v1 : Int) (s : iS) : Fm Prod.snd L_m_chipOf G_m_chipOf s (m_chipOf v1 s) := fm_bd (fm_sub (fm_gateOf _ _) (mem_sub_L rfl) (mem_sub_F rfl)) (fun r1 s1 => fm_chipOf_8 _ _ _ _)
/-! m_pinOfPart -/
def L_m_pinOfPart : List Nat := []
def G_m_pinOfPart : List (Nat × Nat) := []
noncomputable def m_pinOfPart (v1 : Int) (v2 : Int) (s : iS) : Option (Int × iS) := gd (rg v1) (if v1 ≤ 1 then gd (0 ≤ v2 ∧ v2 < 2002) (bd (m_wordOf 11 ka_12 (s 125 v2.toNat) (s 126 v2.toNat) s) (fun r4 s4 => if v1 = 0 then gd (rg r4) (if r4 = 3 then some ((-1), s4) else some (r4, s4)) else gd (rg r4) (if r4 = 3 then some (0, s4) else if r4 = 2 then some (1, s4) else some ((-1), s4)))) else bd (m_pinOf (v1 - 2) v2 s) (fun r11 s11 => some (r11, s11)))
theorem tm_pinOfPart (w : ev_W) (d : Nat) (hd : 2 ≤ d) (v1 : Int) (v2 : Int) (s : iS) : Ew hT w d 456 0 [(0, .ref (tb_nK + 121)), (1, iv v1), (2, iv v2)] [] s (Ci hT) (m_pinOfPart v1 v2 s) := by
  unfold m_pinOfPart
  refine e_mv 1 em_456 (ce_at ce_456 0 rfl) rfl rfl ?_
  refine e_op 2 em_456 (ce_at ce_456 1 rfl) rfl rfl ?_
  refine e_gd fun g1 => ?_
  refine e_cmle 14 5 em_456 rfl rfl (ce_at ce_456 2 rfl) g1 (by decide) (fun h2 => ?_) (fun h2 => ?_)
  · refine e_mv 15 em_456 (ce_at ce_456 10 rfl) rfl rfl ?_
    refine e_gst 18 em_456 (ce_at ce_456 11 rfl) rfl rfl ?_
    refine e_mv 19 em_456 (ce_at ce_456 12 rfl) rfl rfl ?_
    refine e_getr 22 em_456 (ce_at ce_456 13 rfl) tq_121 rfl rfl ?_
    refine e_mv 23 em_456 (ce_at ce_456 14 rfl) rfl rfl ?_
    refine e_gd fun g3 => ?_
    refine e_ild 24 em_456 (ce_at ce_456 15 rfl) tq_125 (by decide) g3 rfl ?_
    refine e_mv 25 em_456 (ce_at ce_456 16 rfl) rfl rfl ?_
    refine e_getr 28 em_456 (ce_at ce_456 17 rfl) tq_121 rfl rfl ?_
    refine e_mv 29 em_456 (ce_at ce_456 18 rfl) rfl rfl ?_
    refine e_ild 30 em_456 (ce_at ce_456 19 rfl) tq_126 (by decide) g3 rfl ?_
    refine e_ivi 33 em_456 (ce_at ce_456 20 rfl) (by omega) (iv_v3 (by decide) tq_121 rfl) em_309 (Nat.le_of_ble_eq_true rfl) rfl (tm_wordOf w (d - 1) (by omega) 11 ka_12 12 (by decide) (kt_12 _ _) (by decide) _ _ _) (fun r4 s4 => ?_)
    refine e_mv 34 em_456 (ce_at ce_456 21 rfl) rfl rfl ?_
    refine e_mv 35 em_456 (ce_at ce_456 22 rfl) rfl rfl ?_
    refine e_ifne 49 38 em_456 rfl rfl (ce_at ce_456 23 rfl) g1 (fun h5 => ?_) (fun h5 => ?_)
    · refine e_mv 50 em_456 (ce_at ce_456 31 rfl) rfl rfl ?_
      refine e_op 51 em_456 (ce_at ce_456 32 rfl) rfl rfl ?_
      refine e_gd fun g6 => ?_
      refine e_cmne 58 54 em_456 rfl rfl (ce_at ce_456 33 rfl) g6 (by decide) (fun h7 => ?_) (fun h7 => ?_)
      · refine e_mv 59 em_456 (ce_at ce_456 36 rfl) rfl rfl ?_
        refine e_op 60 em_456 (ce_at ce_456 37 rfl) rfl rfl ?_
        refine e_cmne 67 63 em_456 rfl rfl (ce_at ce_456 38 rfl) g6 (by decide) (fun h8 => ?_) (fun h8 => ?_)
        · refine e_op 68 em_456 (ce_at ce_456 41 rfl) rfl rfl ?_
          exact e_reti em_456 (ce_at ce_456 42 rfl)
        · refine e_op 64 em_456 (ce_at ce_456 39 rfl) rfl rfl ?_
          refine e_goto em_456 68 (ce_at ce_456 40 rfl) rfl ?_
          exact e_reti em_456 (ce_at ce_456 42 rfl)
      · refine e_op 55 em_456 (ce_at ce_456 34 rfl) rfl rfl ?_
        refine e_goto em_456 68 (ce_at ce_456 35 rfl) rfl ?_
        exact e_reti em_456 (ce_at ce_456 42 rfl)
    · refine e_mv 39 em_456 (ce_at ce_456 24 rfl) rfl rfl ?_
      refine e_op 40 em_456 (ce_at ce_456 25 rfl) rfl rfl ?_
      refine e_gd fun g9 => ?_
      refine e_cmne 47 43 em_456 rfl rfl (ce_at ce_456 26 rfl) g9 (by decide) (fun h10 => ?_) (fun h10 => ?_)
      · refine e_mv 48 em_456 (ce_at ce_456 29 rfl) rfl rfl ?_
        exact e_reti em_456 (ce_at ce_456 30 rfl)
      · refine e_op 44 em_456 (ce_at ce_456 27 rfl) rfl rfl ?_
        refine e_goto em_456 48 (ce_at ce_456 28 rfl) rfl ?_
        exact e_reti em_456 (ce_at ce_456 30 rfl)
  · refine e_mv 6 em_456 (ce_at ce_456 3 rfl) rfl rfl ?_
    refine e_mv 7 em_456 (ce_at ce_456 4 rfl) rfl rfl ?_
    refine e_op 8 em_456 (ce_at ce_456 5 rfl) rfl rfl ?_
    refine e_isub 9 em_456 rfl (ce_at ce_456 6 rfl) ?_
    refine e_mv 10 em_456 (ce_at ce_456 7 rfl) rfl rfl ?_
    refine e_ivi 13 em_456 (ce_at ce_456 8 rfl) (by omega) (iv_v2 (by decide) tq_121 rfl) em_450 (Nat.le_of_ble_eq_true rfl) rfl (tm_pinOf w (d - 1) (by omega) _ _ _) (fun r11 s11 => ?_)
    exact e_reti em_456 (ce_at ce_456 9 rfl)
theorem fm_pinOfPart (v1 : Int) (v2 : Int) (s : iS) : Fm Prod.snd L_m_pinOfPart G_m_pinOfPart s (m_pinOfPart v1 v2 s) := fm_gd (fm_if (fm_gd (fm_bd (fm_sub (fm_wordOf 11 ka_12 _ _ _) (mem_sub_L rfl) (mem_sub_F rfl)) (fun r4 s4 => fm_if (fm_gd (fm_if (fm_some md_refl) (fm_some md_refl))) (fm_gd (fm_if (fm_some md_refl) (fm_if (fm_some md_refl) (fm_some md_refl))))))) (fm_bd (fm_sub (fm_pinOf _ _ _) (mem_sub_L rfl) (mem_sub_F rfl)) (fun r11 s11 => fm_some md_refl)))
/-! m_isOut -/
def L_m_isOut : List Nat := []
def G_m_isOut : List (Nat × Nat) := []
noncomputable def m_isOut (v1 : Int) (v2 : Int) (s : iS) : Option (Int × iS) := gd (rg v1) (if v1 ≤ 1 then if v1 = 0 then gd (rg v2) (if v2 = 2 then some (1, s) else some (0, s)) else gd (rg v2) (if v2 = 1 then some (1, s) else some (0, s)) else gd (0 ≤ v2 ∧ v2 < 200) (gd ((s 197 v2.toNat) = 0 ∨ (s 197 v2.toNat) = 1) (some ((s 197 v2.toNat), s))))
theorem tm_isOut (w : ev_W) (d : Nat) (hd : 0 ≤ d) (v1 : Int) (v2 : Int) (s : iS) : Ew hT w d 457 0 [(0, .ref (tb_nK + 121)), (1, iv v1), (2, iv v2)] [] s (Ci hT) (m_isOut v1 v2 s) := by
  unfold m_isOut
  refine e_mv 1 em_457 (ce_at ce_457 0 rfl) rfl rfl ?_
  refine e_op 2 em_457 (ce_at ce_457 1 rfl) rfl rfl ?_
  refine e_gd fun g1 => ?_
  refine e_cmle 14 5 em_457 rfl rfl (ce_at ce_457 2 rfl) g1 (by decide) (fun h2 => ?_) (fun h2 => ?_)
  · refine e_mv 15 em_457 (ce_at ce_457 8 rfl) rfl rfl ?_
    refine e_ifne 31 18 em_457 rfl rfl (ce_at ce_457 9 rfl) g1 (fun h3 => ?_) (fun h3 => ?_)
    · refine e_mv 32 em_457 (ce_at ce_457 17 rfl) rfl rfl ?_
      refine e_op 33 em_457 (ce_at ce_457 18 rfl) rfl rfl ?_
      refine e_gd fun g4 => ?_
      refine e_cmne 40 36 em_457 rfl rfl (ce_at ce_457 19 rfl) g4 (by decide) (fun h5 => ?_) (fun h5 => ?_)
      · refine e_op 41 em_457 (ce_at ce_457 22 rfl) rfl rfl ?_
        exact e_retz em_457 (ce_at ce_457 23 rfl) (by decide)
      · refine e_op 37 em_457 (ce_at ce_457 20 rfl) rfl rfl ?_
        refine e_goto em_457 41 (ce_at ce_457 21 rfl) rfl ?_
        exact e_retz em_457 (ce_at ce_457 23 rfl) (by decide)
    · refine e_mv 19 em_457 (ce_at ce_457 10 rfl) rfl rfl ?_
      refine e_op 20 em_457 (ce_at ce_457 11 rfl) rfl rfl ?_
      refine e_gd fun g6 => ?_
      refine e_cmne 27 23 em_457 rfl rfl (ce_at ce_457 12 rfl) g6 (by decide) (fun h7 => ?_) (fun h7 => ?_)
      · refine e_op 28 em_457 (ce_at ce_457 15 rfl) rfl rfl ?_
        refine e_goto em_457 41 (ce_at ce_457 16 rfl) rfl ?_
        exact e_retz em_457 (ce_at ce_457 23 rfl) (by decide)
      · refine e_op 24 em_457 (ce_at ce_457 13 rfl) rfl rfl ?_
        refine e_goto em_457 41 (ce_at ce_457 14 rfl) rfl ?_
        exact e_retz em_457 (ce_at ce_457 23 rfl) (by decide)
  · refine e_mv 6 em_457 (ce_at ce_457 3 rfl) rfl rfl ?_
    refine e_getr 9 em_457 (ce_at ce_457 4 rfl) tq_121 rfl rfl ?_
    refine e_mv 10 em_457 (ce_at ce_457 5 rfl) rfl rfl ?_
    refine e_gd fun g8 => ?_
    refine e_zld 11 em_457 (ce_at ce_457 6 rfl) tq_197 (by decide) g8 rfl ?_
    refine e_goto em_457 41 (ce_at ce_457 7 rfl) rfl ?_
    refine e_gd fun g9 => ?_
    exact e_retz em_457 (ce_at ce_457 23 rfl) g9
theorem fm_isOut (v1 : Int) (v2 : Int) (s : iS) : Fm Prod.snd L_m_isOut G_m_isOut s (m_isOut v1 v2 s) := fm_gd (fm_if (fm_if (fm_gd (fm_if (fm_some md_refl) (fm_some md_refl))) (fm_gd (fm_if (fm_some md_refl) (fm_some md_refl)))) (fm_gd (fm_gd (fm_some md_refl))))
/-! m_widthOf -/
def L_m_widthOf : List Nat := []
def G_m_widthOf : List (Nat × Nat) := []
noncomputable def m_widthOf (v1 : Int) (v2 : Int) (s : iS) : Option (Int × iS) := gd (rg v1) (if v1 ≤ 1 then some (1, s) else gd (0 ≤ v2 ∧ v2 < 200) (some ((s 199 v2.toNat), s)))
theorem tm_widthOf (w : ev_W) (d : Nat) (hd : 0 ≤ d) (v1 : Int) (v2 : Int) (s : iS) : Ew hT w d 458 0 [(0, .ref (tb_nK + 121)), (1, iv v1), (2, iv v2)] [] s (Ci hT) (m_widthOf v1 v2 s) := by
  unfold m_widthOf
  refine e_mv 1 em_458 (ce_at ce_458 0 rfl) rfl rfl ?_
  refine e_op 2 em_458 (ce_at ce_458 1 rfl) rfl rfl ?_
  refine e_gd fun g1 => ?_
  refine e_cmle 14 5 em_458 rfl rfl (ce_at ce_458 2 rfl) g1 (by decide) (fun h2 => ?_) (fun h2 => ?_)
  · refine e_op 15 em_458 (ce_at ce_458 8 rfl) rfl rfl ?_
    exact e_reti em_458 (ce_at ce_458 9 rfl)
  · refine e_mv 6 em_458 (ce_at ce_458 3 rfl) rfl rfl ?_
    refine e_getr 9 em_458 (ce_at ce_458 4 rfl) tq_121 rfl rfl ?_
    refine e_mv 10 em_458 (ce_at ce_458 5 rfl) rfl rfl ?_
    refine e_gd fun g3 => ?_
    refine e_ild 11 em_458 (ce_at ce_458 6 rfl) tq_199 (by decide) g3 rfl ?_
    refine e_goto em_458 15 (ce_at ce_458 7 rfl) rfl ?_
    exact e_reti em_458 (ce_at ce_458 9 rfl)
theorem fm_widthOf (v1 : Int) (v2 : Int) (s : iS) : Fm Prod.snd L_m_widthOf G_m_widthOf s (m_widthOf v1 v2 s) := fm_gd (fm_if (fm_some md_refl) (fm_gd (fm_some md_refl)))
/-! m_rangeFits -/
def L_m_rangeFits : List Nat := []
def G_m_rangeFits : List (Nat × Nat) := []
noncomputable def m_rangeFits (v1 : Int) (v2 : Int) (v3 : Int) (v4 : Int) (s : iS) : Option (Int × iS) := gd (rg v1) (if v1 = (-1) then some (1, s) else gd (rg v2) (gd (rg v3) (if v3 < v2 then some (0, s) else gd (rg v4) (if v4 ≤ v3 then some (0, s) else some (1, s)))))
theorem tm_rangeFits (w : ev_W) (d : Nat) (hd : 0 ≤ d) (v1 : Int) (v2 : Int) (v3 : Int) (v4 : Int) (s : iS) : Ew hT w d 459 0 [(1, iv v1), (2, iv v2), (3, iv v3), (4, iv v4)] [] s (Ci hT) (m_rangeFits v1 v2 v3 v4 s) := by
  unfold m_rangeFits
  refine e_mv 1 em_459 (ce_at ce_459 0 rfl) rfl rfl ?_
  refine e_op 2 em_459 (ce_at ce_459 1 rfl) rfl rfl ?_
  refine e_gd fun g1 => ?_
  refine e_cmeq 16 5 em_459 rfl rfl (ce_at ce_459 2 rfl) g1 (by decide) (fun h2 => ?_) (fun h2 => ?_)
  · refine e_op 17 em_459 (ce_at ce_459 9 rfl) rfl rfl ?_
    refine e_goto em_459 21 (ce_at ce_459 10 rfl) rfl ?_
    exact e_retz em_459 (ce_at ce_459 12 rfl) (by decide)
  · refine e_mv 6 em_459 (ce_at ce_459 3 rfl) rfl rfl ?_
    refine e_mv 7 em_459 (ce_at ce_459 4 rfl) rfl rfl ?_
    refine e_gd fun g3 => ?_
    refine e_gd fun g4 => ?_
    refine e_cmgt 20 10 em_459 rfl rfl (ce_at ce_459 5 rfl) g3 g4 (fun h5 => ?_) (fun h5 => ?_)
    · refine e_op 21 em_459 (ce_at ce_459 11 rfl) rfl rfl ?_
      exact e_retz em_459 (ce_at ce_459 12 rfl) (by decide)
    · refine e_mv 11 em_459 (ce_at ce_459 6 rfl) rfl rfl ?_
      refine e_mv 13 em_459 (ce_at ce_459 7 rfl) rfl rfl ?_
      refine e_gd fun g6 => ?_
      refine e_cmge 20 16 em_459 rfl rfl (ce_at ce_459 8 rfl) g4 g6 (fun h7 => ?_) (fun h7 => ?_)
      · refine e_op 21 em_459 (ce_at ce_459 11 rfl) rfl rfl ?_
        exact e_retz em_459 (ce_at ce_459 12 rfl) (by decide)
      · refine e_op 17 em_459 (ce_at ce_459 9 rfl) rfl rfl ?_
        refine e_goto em_459 21 (ce_at ce_459 10 rfl) rfl ?_
        exact e_retz em_459 (ce_at ce_459 12 rfl) (by decide)
theorem fm_rangeFits (v1 : Int) (v2 : Int) (v3 : Int) (v4 : Int) (s : iS) : Fm Prod.snd L_m_rangeFits G_m_rangeFits s (m_rangeFits v1 v2 v3 v4 s) := fm_gd (fm_if (fm_some md_refl) (fm_gd (fm_gd (fm_if (fm_some md_refl) (fm_gd (fm_if (fm_some md_refl) (fm_some md_refl)))))))
/-! m_bitsOf -/
def L_m_bitsOf : List Nat := []
def G_m_bitsOf : List (Nat × Nat) := []
noncomputable def m_bitsOf (v1 : Int) (v2 : Int) (v3 : Int) (v4 : Int) (s : iS) : Option (Int × iS) := gd (rg v1) (if v1 = (-1) then some (v4, s) else some (((v3 - v2) + 1), s))
theorem tm_bitsOf (w : ev_W) (d : Nat) (hd : 0 ≤ d) (v1 : Int) (v2 : Int) (v3 : Int) (v4 : Int) (s : iS) : Ew hT w d 460 0 [(1, iv v1), (2, iv v2), (3, iv v3), (4, iv v4)] [] s (Ci hT) (m_bitsOf v1 v2 v3 v4 s) := by
  unfold m_bitsOf
  refine e_mv 1 em_460 (ce_at ce_460 0 rfl) rfl rfl ?_
  refine e_op 2 em_460 (ce_at ce_460 1 rfl) rfl rfl ?_
  refine e_gd fun g1 => ?_
  refine e_cmne 10 5 em_460 rfl rfl (ce_at ce_460 2 rfl) g1 (by decide) (fun h2 => ?_) (fun h2 => ?_)
  · refine e_mv 11 em_460 (ce_at ce_460 5 rfl) rfl rfl ?_
    refine e_mv 12 em_460 (ce_at ce_460 6 rfl) rfl rfl ?_
    refine e_isub 13 em_460 rfl (ce_at ce_460 7 rfl) ?_
    refine e_op 14 em_460 (ce_at ce_460 8 rfl) rfl rfl ?_
    refine e_iadd 15 em_460 rfl (ce_at ce_460 9 rfl) ?_
    exact e_reti em_460 (ce_at ce_460 10 rfl)
  · refine e_mv 7 em_460 (ce_at ce_460 3 rfl) rfl rfl ?_
    refine e_goto em_460 15 (ce_at ce_460 4 rfl) rfl ?_
    exact e_reti em_460 (ce_at ce_460 10 rfl)
theorem fm_bitsOf (v1 : Int) (v2 : Int) (v3 : Int) (v4 : Int) (s : iS) : Fm Prod.snd L_m_bitsOf G_m_bitsOf s (m_bitsOf v1 v2 v3 v4 s) := fm_gd (fm_if (fm_some md_refl) (fm_some md_refl))
/-! m_findInner -/
def L_m_findInner : List Nat := [214, 215, 216]
def G_m_findInner : List (Nat × Nat) := []
def m_findInner_7C (w : ev_W) (d : Nat) (v1 : Int) : (Int × iS) ⊕ (iS) → am_E → Prop := fun q r => q.elim (fun l => ev w d 454 7 ((fun l => [(0, .ref (tb_nK + 121)), (1, iv v1), (2, iv (l.1))]) l) [] (hT ((fun l => l.2) l)) r) (fun e => (fun e r => ev w d 454 39 [(0, .ref (tb_nK + 121)), (1, iv v1)] [] (hT (e)) r) e r)
noncomputable def m_findInner_7b (v1 : Int) (v2 : Int) (s : iS) : Option ((Int × iS) ⊕ (iS)) := gd (0 ≤ (v1 + 1) ∧ (v1 + 1) < 18) (gd (rg v2) (gd (rg (s 212 (v1 + 1).toNat)) (if (s 212 (v1 + 1).toNat) ≤ v2 then some (.inr s) else gd (0 ≤ v2 ∧ v2 < 700) (lt' (up s 214 v2.toNat 0) (fun s6 => lt' (up s6 215 v2.toNat 0) (fun s7 => some (.inl ((v2 + 1), s7))))))))
theorem tm_findInner_7b (w : ev_W) (d : Nat) (hd : 3 ≤ d) (v1 : Int) (v2 : Int) (s : iS) : Ew hT w d 454 7 [(0, .ref (tb_nK + 121)), (1, iv v1), (2, iv v2)] [] s (m_findInner_7C w d v1) (m_findInner_7b v1 v2 s) := by
  unfold m_findInner_7b
  refine e_mv 8 em_454 (ce_at ce_454 5 rfl) rfl rfl ?_
  refine e_mv 9 em_454 (ce_at ce_454 6 rfl) rfl rfl ?_
  refine e_getr 12 em_454 (ce_at ce_454 7 rfl) tq_121 rfl rfl ?_
  refine e_mv 13 em_454 (ce_at ce_454 8 rfl) rfl rfl ?_
  refine e_op 14 em_454 (ce_at ce_454 9 rfl) rfl rfl ?_
  refine e_iadd 15 em_454 rfl (ce_at ce_454 10 rfl) ?_
  refine e_gd fun g1 => ?_
  refine e_ild 16 em_454 (ce_at ce_454 11 rfl) tq_212 (by decide) g1 rfl ?_
  refine e_gd fun g2 => ?_
  refine e_gd fun g3 => ?_
  refine e_cmge 39 19 em_454 rfl rfl (ce_at ce_454 12 rfl) g2 g3 (fun h4 => ?_) (fun h4 => ?_)
  · refine e_pk [0, 1] rfl rfl ?_
    exact e_out (fun r h => h)
  · refine e_mv 20 em_454 (ce_at ce_454 13 rfl) rfl rfl ?_
    refine e_getr 23 em_454 (ce_at ce_454 14 rfl) tq_121 rfl rfl ?_
    refine e_mv 24 em_454 (ce_at ce_454 15 rfl) rfl rfl ?_
    refine e_op 25 em_454 (ce_at ce_454 16 rfl) rfl rfl ?_
    refine e_gd fun g5 => ?_
    refine e_ist 26 em_454 (ce_at ce_454 17 rfl) tq_214 (by decide) g5 rfl (fun s6 => ?_)
    refine e_mv 27 em_454 (ce_at ce_454 18 rfl) rfl rfl ?_
    refine e_getr 30 em_454 (ce_at ce_454 19 rfl) tq_121 rfl rfl ?_
    refine e_mv 31 em_454 (ce_at ce_454 20 rfl) rfl rfl ?_
    refine e_op 32 em_454 (ce_at ce_454 21 rfl) rfl rfl ?_
    refine e_zst 33 em_454 (ce_at ce_454 22 rfl) tq_215 (by decide) g5 (by decide) rfl (fun s7 => ?_)
    refine e_iinc 36 em_454 (ce_at ce_454 23 rfl) rfl (by decide) rfl ?_
    refine e_goto em_454 7 (ce_at ce_454 24 rfl) rfl ?_
    refine e_pk [0, 1, 2] rfl rfl ?_
    exact e_out (fun r h => h)
theorem fm_findInner_7b (v1 : Int) (v2 : Int) (s : iS) : Fm (fun r : (Int × iS) ⊕ (iS) => r.elim (fun l => l.2) (fun e => e)) L_m_findInner G_m_findInner s (m_findInner_7b v1 v2 s) := fm_gd (fm_gd (fm_gd (fm_if (fm_some md_refl) (fm_gd (fm_lt (md_upL (mem_L rfl)) (fun s6 => fm_lt (md_upL (mem_L rfl)) (fun s7 => fm_some md_refl)))))))
def m_findInner_81C (w : ev_W) (d : Nat) (v1 : Int) (v2 : Int) : (Int × iS) ⊕ (iS) → am_E → Prop := fun q r => q.elim (fun l => ev w d 454 81 ((fun l => [(0, .ref (tb_nK + 121)), (1, iv v1), (2, iv v2), (3, iv (l.1))]) l) [] (hT ((fun l => l.2) l)) r) (fun e => (fun e r => ev w d 454 275 [(0, .ref (tb_nK + 121)), (1, iv v1), (2, iv v2)] [] (hT (e)) r) e r)
noncomputable def m_findInner_268 (v1 : Int) (v2 : Int) (v3 : Int) (t0 : Int) (t1 : Int) (s : iS) : Option ((Int × iS) ⊕ (iS)) := gd (0 ≤ t1 ∧ t1 < 700) (lt' (up s 214 t1.toNat t0) (fun s2 => some (.inl ((v3 + 1), s2))))
theorem tm_findInner_268 (w : ev_W) (d : Nat) (hd : 3 ≤ d) (v1 : Int) (v2 : Int) (v3 : Int) (t0 : Int) (t1 : Int) (s : iS) : Ew hT w d 454 268 [(0, .ref (tb_nK + 121)), (1, iv v1), (2, iv v2), (3, iv v3)] [iv t0, iv t1, .ref (tb_nK + 214)] s (m_findInner_81C w d v1 v2) (m_findInner_268 v1 v2 v3 t0 t1 s) := by
  unfold m_findInner_268
  refine e_gd fun g1 => ?_
  refine e_ist 269 em_454 (ce_at ce_454 161 rfl) tq_214 (by decide) g1 rfl (fun s2 => ?_)
  refine e_iinc 272 em_454 (ce_at ce_454 162 rfl) rfl (by decide) rfl ?_
  refine e_goto em_454 81 (ce_at ce_454 163 rfl) rfl ?_
  refine e_pk [0, 1, 2, 3] rfl rfl ?_
  exact e_out (fun r h => h)
theorem fm_findInner_268 (v1 : Int) (v2 : Int) (v3 : Int) (t0 : Int) (t1 : Int) (s : iS) : Fm (fun r : (Int × iS) ⊕ (iS) => r.elim (fun l => l.2) (fun e => e)) L_m_findInner G_m_findInner s (m_findInner_268 v1 v2 v3 t0 t1 s) := fm_gd (fm_lt (md_upL (mem_L rfl)) (fun s2 => fm_some md_refl))
noncomputable def m_findInner_151 (v1 : Int) (v2 : Int) (v3 : Int) (v4 : Int) (t0 : Int) (s : iS) : Option ((Int × iS) ⊕ (iS)) := gd (rg v4) (if v4 = (-1) then some (.inl ((v3 + 1), s)) else gd (rg t0) (if t0 = (-1) then some (.inl ((v3 + 1), s)) else gd (0 ≤ v2 ∧ v2 < 400) (bd (m_isOut (s 216 v2.toNat) v4 s) (fun r6 s6 => gd (rg r6) (if r6 = 0 then some (.inl ((v3 + 1), s6)) else gd (0 ≤ t0 ∧ t0 < 700) (gd (rg (s6 214 t0.toNat)) (if (s6 214 t0.toNat) = 0 then bd (m_widthOf (s6 216 v2.toNat) v4 s6) (fun r12 s12 => gd (0 ≤ v3 ∧ v3 < 700) (bd (m_rangeFits (s12 205 v3.toNat) (s12 206 v3.toNat) (s12 207 v3.toNat) r12 s12) (fun r14 s14 => gd (rg r14) (if r14 = 0 then m_findInner_268 v1 v2 v3 (-1) t0 s14 else bd (m_bitsOf (s14 205 v3.toNat) (s14 206 v3.toNat) (s14 207 v3.toNat) r12 s14) (fun r17 s17 => m_findInner_268 v1 v2 v3 r17 t0 s17))))) else some (.inl ((v3 + 1), s6)))))))))
theorem tm_findInner_151 (w : ev_W) (d : Nat) (hd : 3 ≤ d) (v1 : Int) (v2 : Int) (v3 : Int) (v4 : Int) (t0 : Int) (s : iS) : Ew hT w d 454 151 [(0, .ref (tb_nK + 121)), (1, iv v1), (2, iv v2), (3, iv v3), (4, iv v4)] [iv t0] s (m_findInner_81C w d v1 v2) (m_findInner_151 v1 v2 v3 v4 t0 s) := by
  unfold m_findInner_151
  refine e_mv 153 em_454 (ce_at ce_454 96 rfl) rfl rfl ?_
  refine e_mv 155 em_454 (ce_at ce_454 97 rfl) rfl rfl ?_
  refine e_op 156 em_454 (ce_at ce_454 98 rfl) rfl rfl ?_
  refine e_gd fun g1 => ?_
  refine e_cmeq 269 159 em_454 rfl rfl (ce_at ce_454 99 rfl) g1 (by decide) (fun h2 => ?_) (fun h2 => ?_)
  · refine e_iinc 272 em_454 (ce_at ce_454 162 rfl) rfl (by decide) rfl ?_
    refine e_goto em_454 81 (ce_at ce_454 163 rfl) rfl ?_
    refine e_pk [0, 1, 2, 3] rfl rfl ?_
    exact e_out (fun r h => h)
  · refine e_mv 161 em_454 (ce_at ce_454 100 rfl) rfl rfl ?_
    refine e_op 162 em_454 (ce_at ce_454 101 rfl) rfl rfl ?_
    refine e_gd fun g3 => ?_
    refine e_cmeq 269 165 em_454 rfl rfl (ce_at ce_454 102 rfl) g3 (by decide) (fun h4 => ?_) (fun h4 => ?_)
    · refine e_iinc 272 em_454 (ce_at ce_454 162 rfl) rfl (by decide) rfl ?_
      refine e_goto em_454 81 (ce_at ce_454 163 rfl) rfl ?_
      refine e_pk [0, 1, 2, 3] rfl rfl ?_
      exact e_out (fun r h => h)
    · refine e_mv 166 em_454 (ce_at ce_454 103 rfl) rfl rfl ?_
      refine e_mv 167 em_454 (ce_at ce_454 104 rfl) rfl rfl ?_
      refine e_getr 170 em_454 (ce_at ce_454 105 rfl) tq_121 rfl rfl ?_
      refine e_mv 171 em_454 (ce_at ce_454 106 rfl) rfl rfl ?_
      refine e_gd fun g5 => ?_
      refine e_ild 172 em_454 (ce_at ce_454 107 rfl) tq_216 (by decide) g5 rfl ?_
      refine e_mv 174 em_454 (ce_at ce_454 108 rfl) rfl rfl ?_
      refine e_ivi 177 em_454 (ce_at ce_454 109 rfl) (by omega) (iv_v2 (by decide) tq_121 rfl) em_457 (Nat.le_of_ble_eq_true rfl) rfl (tm_isOut w (d - 1) (by omega) _ _ _) (fun r6 s6 => ?_)
      refine e_gd fun g7 => ?_
      refine e_ifeq 269 180 em_454 rfl rfl (ce_at ce_454 110 rfl) g7 (fun h8 => ?_) (fun h8 => ?_)
      · refine e_iinc 272 em_454 (ce_at ce_454 162 rfl) rfl (by decide) rfl ?_
        refine e_goto em_454 81 (ce_at ce_454 163 rfl) rfl ?_
        refine e_pk [0, 1, 2, 3] rfl rfl ?_
        exact e_out (fun r h => h)
      · refine e_mv 181 em_454 (ce_at ce_454 111 rfl) rfl rfl ?_
        refine e_getr 184 em_454 (ce_at ce_454 112 rfl) tq_121 rfl rfl ?_
        refine e_mv 186 em_454 (ce_at ce_454 113 rfl) rfl rfl ?_
        refine e_gd fun g9 => ?_
        refine e_ild 187 em_454 (ce_at ce_454 114 rfl) tq_214 (by decide) g9 rfl ?_
        refine e_gd fun g10 => ?_
        refine e_ifeq 193 190 em_454 rfl rfl (ce_at ce_454 115 rfl) g10 (fun h11 => ?_) (fun h11 => ?_)
        · refine e_mv 194 em_454 (ce_at ce_454 117 rfl) rfl rfl ?_
          refine e_mv 195 em_454 (ce_at ce_454 118 rfl) rfl rfl ?_
          refine e_getr 198 em_454 (ce_at ce_454 119 rfl) tq_121 rfl rfl ?_
          refine e_mv 199 em_454 (ce_at ce_454 120 rfl) rfl rfl ?_
          refine e_ild 200 em_454 (ce_at ce_454 121 rfl) tq_216 (by decide) g5 rfl ?_
          refine e_mv 202 em_454 (ce_at ce_454 122 rfl) rfl rfl ?_
          refine e_ivi 205 em_454 (ce_at ce_454 123 rfl) (by omega) (iv_v2 (by decide) tq_121 rfl) em_458 (Nat.le_of_ble_eq_true rfl) rfl (tm_widthOf w (d - 1) (by omega) _ _ _) (fun r12 s12 => ?_)
          refine e_mv 207 em_454 (ce_at ce_454 124 rfl) rfl rfl ?_
          refine e_mv 208 em_454 (ce_at ce_454 125 rfl) rfl rfl ?_
          refine e_getr 211 em_454 (ce_at ce_454 126 rfl) tq_121 rfl rfl ?_
          refine e_mv 213 em_454 (ce_at ce_454 127 rfl) rfl rfl ?_
          refine e_mv 214 em_454 (ce_at ce_454 128 rfl) rfl rfl ?_
          refine e_mv 215 em_454 (ce_at ce_454 129 rfl) rfl rfl ?_
          refine e_getr 218 em_454 (ce_at ce_454 130 rfl) tq_121 rfl rfl ?_
          refine e_mv 219 em_454 (ce_at ce_454 131 rfl) rfl rfl ?_
          refine e_gd fun g13 => ?_
          refine e_ild 220 em_454 (ce_at ce_454 132 rfl) tq_205 (by decide) g13 rfl ?_
          refine e_mv 221 em_454 (ce_at ce_454 133 rfl) rfl rfl ?_
          refine e_getr 224 em_454 (ce_at ce_454 134 rfl) tq_121 rfl rfl ?_
          refine e_mv 225 em_454 (ce_at ce_454 135 rfl) rfl rfl ?_
          refine e_ild 226 em_454 (ce_at ce_454 136 rfl) tq_206 (by decide) g13 rfl ?_
          refine e_mv 227 em_454 (ce_at ce_454 137 rfl) rfl rfl ?_
          refine e_getr 230 em_454 (ce_at ce_454 138 rfl) tq_121 rfl rfl ?_
          refine e_mv 231 em_454 (ce_at ce_454 139 rfl) rfl rfl ?_
          refine e_ild 232 em_454 (ce_at ce_454 140 rfl) tq_207 (by decide) g13 rfl ?_
          refine e_mv 234 em_454 (ce_at ce_454 141 rfl) rfl rfl ?_
          refine e_ivi 237 em_454 (ce_at ce_454 142 rfl) (by omega) (iv_v4 (by decide) tq_121 rfl) em_459 (Nat.le_of_ble_eq_true rfl) rfl (tm_rangeFits w (d - 1) (by omega) _ _ _ _ _) (fun r14 s14 => ?_)
          refine e_gd fun g15 => ?_
          refine e_ifeq 267 240 em_454 rfl rfl (ce_at ce_454 143 rfl) g15 (fun h16 => ?_) (fun h16 => ?_)
          · refine e_op 268 em_454 (ce_at ce_454 160 rfl) rfl rfl ?_
            refine e_pk [0, 1, 2, 3] rfl rfl ?_
            exact tm_findInner_268 w d hd _ _ _ _ _ _
          · refine e_mv 241 em_454 (ce_at ce_454 144 rfl) rfl rfl ?_
            refine e_mv 242 em_454 (ce_at ce_454 145 rfl) rfl rfl ?_
            refine e_getr 245 em_454 (ce_at ce_454 146 rfl) tq_121 rfl rfl ?_
            refine e_mv 246 em_454 (ce_at ce_454 147 rfl) rfl rfl ?_
            refine e_ild 247 em_454 (ce_at ce_454 148 rfl) tq_205 (by decide) g13 rfl ?_
            refine e_mv 248 em_454 (ce_at ce_454 149 rfl) rfl rfl ?_
            refine e_getr 251 em_454 (ce_at ce_454 150 rfl) tq_121 rfl rfl ?_
            refine e_mv 252 em_454 (ce_at ce_454 151 rfl) rfl rfl ?_
            refine e_ild 253 em_454 (ce_at ce_454 152 rfl) tq_206 (by decide) g13 rfl ?_
            refine e_mv 254 em_454 (ce_at ce_454 153 rfl) rfl rfl ?_
            refine e_getr 257 em_454 (ce_at ce_454 154 rfl) tq_121 rfl rfl ?_
            refine e_mv 258 em_454 (ce_at ce_454 155 rfl) rfl rfl ?_
            refine e_ild 259 em_454 (ce_at ce_454 156 rfl) tq_207 (by decide) g13 rfl ?_
            refine e_mv 261 em_454 (ce_at ce_454 157 rfl) rfl rfl ?_
            refine e_ivi 264 em_454 (ce_at ce_454 158 rfl) (by omega) (iv_v4 (by decide) tq_121 rfl) em_460 (Nat.le_of_ble_eq_true rfl) rfl (tm_bitsOf w (d - 1) (by omega) _ _ _ _ _) (fun r17 s17 => ?_)
            refine e_goto em_454 268 (ce_at ce_454 159 rfl) rfl ?_
            refine e_pk [0, 1, 2, 3] rfl rfl ?_
            exact tm_findInner_268 w d hd _ _ _ _ _ _
        · refine e_goto em_454 269 (ce_at ce_454 116 rfl) rfl ?_
          refine e_iinc 272 em_454 (ce_at ce_454 162 rfl) rfl (by decide) rfl ?_
          refine e_goto em_454 81 (ce_at ce_454 163 rfl) rfl ?_
          refine e_pk [0, 1, 2, 3] rfl rfl ?_
          exact e_out (fun r h => h)
theorem fm_findInner_151 (v1 : Int) (v2 : Int) (v3 : Int) (v4 : Int) (t0 : Int) (s : iS) : Fm (fun r : (Int × iS) ⊕ (iS) => r.elim (fun l => l.2) (fun e => e)) L_m_findInner G_m_findInner s (m_findInner_151 v1 v2 v3 v4 t0 s) := fm_gd (fm_if (fm_some md_refl) (fm_gd (fm_if (fm_some md_refl) (fm_gd (fm_bd (fm_sub (fm_isOut _ _ _) (mem_sub_L rfl) (mem_sub_F rfl)) (fun r6 s6 => fm_gd (fm_if (fm_some md_refl) (fm_gd (fm_gd (fm_if (fm_bd (fm_sub (fm_widthOf _ _ _) (mem_sub_L rfl) (mem_sub_F rfl)) (fun r12 s12 => fm_gd (fm_bd (fm_sub (fm_rangeFits _ _ _ _ _) (mem_sub_L rfl) (mem_sub_F rfl)) (fun r14 s14 => fm_gd (fm_if (fm_findInner_268 _ _ _ _ _ _) (fm_bd (fm_sub (fm_bitsOf _ _ _ _ _) (mem_sub_L rfl) (mem_sub_F rfl)) (fun r17 s17 => fm_findInner_268 _ _ _ _ _ _))))))) (fm_some md_refl)))))))))))
noncomputable def m_findInner_81b (v1 : Int) (v2 : Int) (v3 : Int) (s : iS) : Option ((Int × iS) ⊕ (iS)) := gd (0 ≤ (v2 + 1) ∧ (v2 + 1) < 401) (gd (rg v3) (gd (rg (s 203 (v2 + 1).toNat)) (if (s 203 (v2 + 1).toNat) ≤ v3 then some (.inr s) else gd (0 ≤ v2 ∧ v2 < 400) (gd (rg (s 216 v2.toNat)) (if (s 216 v2.toNat) = (-1) then some (.inr s) else gd (0 ≤ v3 ∧ v3 < 700) (bd (m_pinOfPart (s 216 v2.toNat) (s 204 v3.toNat) s) (fun r9 s9 => gd (0 ≤ (s9 208 v3.toNat) ∧ (s9 208 v3.toNat) < 2002) (gd (rg (s9 124 (s9 208 v3.toNat).toNat)) (if (s9 124 (s9 208 v3.toNat).toNat) = 1 then bd (m_innerOf v1 (s9 208 v3.toNat) s9) (fun r13 s13 => m_findInner_151 v1 v2 v3 r9 r13 s13) else m_findInner_151 v1 v2 v3 r9 (-1) s9)))))))))
theorem tm_findInner_81b (w : ev_W) (d : Nat) (hd : 3 ≤ d) (v1 : Int) (v2 : Int) (v3 : Int) (s : iS) : Ew hT w d 454 81 [(0, .ref (tb_nK + 121)), (1, iv v1), (2, iv v2), (3, iv v3)] [] s (m_findInner_81C w d v1 v2) (m_findInner_81b v1 v2 v3 s) := by
  unfold m_findInner_81b
  refine e_mv 82 em_454 (ce_at ce_454 53 rfl) rfl rfl ?_
  refine e_mv 83 em_454 (ce_at ce_454 54 rfl) rfl rfl ?_
  refine e_getr 86 em_454 (ce_at ce_454 55 rfl) tq_121 rfl rfl ?_
  refine e_mv 87 em_454 (ce_at ce_454 56 rfl) rfl rfl ?_
  refine e_op 88 em_454 (ce_at ce_454 57 rfl) rfl rfl ?_
  refine e_iadd 89 em_454 rfl (ce_at ce_454 58 rfl) ?_
  refine e_gd fun g1 => ?_
  refine e_ild 90 em_454 (ce_at ce_454 59 rfl) tq_203 (by decide) g1 rfl ?_
  refine e_gd fun g2 => ?_
  refine e_gd fun g3 => ?_
  refine e_cmge 275 93 em_454 rfl rfl (ce_at ce_454 60 rfl) g2 g3 (fun h4 => ?_) (fun h4 => ?_)
  · refine e_pk [0, 1, 2] rfl rfl ?_
    exact e_out (fun r h => h)
  · refine e_mv 94 em_454 (ce_at ce_454 61 rfl) rfl rfl ?_
    refine e_getr 97 em_454 (ce_at ce_454 62 rfl) tq_121 rfl rfl ?_
    refine e_mv 98 em_454 (ce_at ce_454 63 rfl) rfl rfl ?_
    refine e_gd fun g5 => ?_
    refine e_ild 99 em_454 (ce_at ce_454 64 rfl) tq_216 (by decide) g5 rfl ?_
    refine e_op 100 em_454 (ce_at ce_454 65 rfl) rfl rfl ?_
    refine e_gd fun g6 => ?_
    refine e_cmeq 275 103 em_454 rfl rfl (ce_at ce_454 66 rfl) g6 (by decide) (fun h7 => ?_) (fun h7 => ?_)
    · refine e_pk [0, 1, 2] rfl rfl ?_
      exact e_out (fun r h => h)
    · refine e_mv 104 em_454 (ce_at ce_454 67 rfl) rfl rfl ?_
      refine e_mv 105 em_454 (ce_at ce_454 68 rfl) rfl rfl ?_
      refine e_getr 108 em_454 (ce_at ce_454 69 rfl) tq_121 rfl rfl ?_
      refine e_mv 109 em_454 (ce_at ce_454 70 rfl) rfl rfl ?_
      refine e_ild 110 em_454 (ce_at ce_454 71 rfl) tq_216 (by decide) g5 rfl ?_
      refine e_mv 111 em_454 (ce_at ce_454 72 rfl) rfl rfl ?_
      refine e_getr 114 em_454 (ce_at ce_454 73 rfl) tq_121 rfl rfl ?_
      refine e_mv 115 em_454 (ce_at ce_454 74 rfl) rfl rfl ?_
      refine e_gd fun g8 => ?_
      refine e_ild 116 em_454 (ce_at ce_454 75 rfl) tq_204 (by decide) g8 rfl ?_
      refine e_ivi 119 em_454 (ce_at ce_454 76 rfl) (by omega) (iv_v2 (by decide) tq_121 rfl) em_456 (Nat.le_of_ble_eq_true rfl) rfl (tm_pinOfPart w (d - 1) (by omega) _ _ _) (fun r9 s9 => ?_)
      refine e_mv 121 em_454 (ce_at ce_454 77 rfl) rfl rfl ?_
      refine e_mv 122 em_454 (ce_at ce_454 78 rfl) rfl rfl ?_
      refine e_getr 125 em_454 (ce_at ce_454 79 rfl) tq_121 rfl rfl ?_
      refine e_mv 126 em_454 (ce_at ce_454 80 rfl) rfl rfl ?_
      refine e_getr 129 em_454 (ce_at ce_454 81 rfl) tq_121 rfl rfl ?_
      refine e_mv 130 em_454 (ce_at ce_454 82 rfl) rfl rfl ?_
      refine e_ild 131 em_454 (ce_at ce_454 83 rfl) tq_208 (by decide) g8 rfl ?_
      refine e_gd fun g10 => ?_
      refine e_ild 132 em_454 (ce_at ce_454 84 rfl) tq_124 (by decide) g10 rfl ?_
      refine e_op 133 em_454 (ce_at ce_454 85 rfl) rfl rfl ?_
      refine e_gd fun g11 => ?_
      refine e_cmne 150 136 em_454 rfl rfl (ce_at ce_454 86 rfl) g11 (by decide) (fun h12 => ?_) (fun h12 => ?_)
      · refine e_op 151 em_454 (ce_at ce_454 95 rfl) rfl rfl ?_
        refine e_pk [0, 1, 2, 3, 4] rfl rfl ?_
        exact tm_findInner_151 w d hd _ _ _ _ _ _
      · refine e_mv 137 em_454 (ce_at ce_454 87 rfl) rfl rfl ?_
        refine e_mv 138 em_454 (ce_at ce_454 88 rfl) rfl rfl ?_
        refine e_mv 139 em_454 (ce_at ce_454 89 rfl) rfl rfl ?_
        refine e_getr 142 em_454 (ce_at ce_454 90 rfl) tq_121 rfl rfl ?_
        refine e_mv 143 em_454 (ce_at ce_454 91 rfl) rfl rfl ?_
        refine e_ild 144 em_454 (ce_at ce_454 92 rfl) tq_208 (by decide) g8 rfl ?_
        refine e_ivi 147 em_454 (ce_at ce_454 93 rfl) (by omega) (iv_v2 (by decide) tq_121 rfl) em_451 (Nat.le_of_ble_eq_true rfl) rfl (tm_innerOf w (d - 1) (by omega) _ _ _) (fun r13 s13 => ?_)
        refine e_goto em_454 151 (ce_at ce_454 94 rfl) rfl ?_
        refine e_pk [0, 1, 2, 3, 4] rfl rfl ?_
        exact tm_findInner_151 w d hd _ _ _ _ _ _
theorem fm_findInner_81b (v1 : Int) (v2 : Int) (v3 : Int) (s : iS) : Fm (fun r : (Int × iS) ⊕ (iS) => r.elim (fun l => l.2) (fun e => e)) L_m_findInner G_m_findInner s (m_findInner_81b v1 v2 v3 s) := fm_gd (fm_gd (fm_gd (fm_if (fm_some md_refl) (fm_gd (fm_gd (fm_if (fm_some md_refl) (fm_gd (fm_bd (fm_sub (fm_pinOfPart _ _ _) (mem_sub_L rfl) (mem_sub_F rfl)) (fun r9 s9 => fm_gd (fm_gd (fm_if (fm_bd (fm_sub (fm_innerOf _ _ _) (mem_sub_L rfl) (mem_sub_F rfl)) (fun r13 s13 => fm_findInner_151 _ _ _ _ _ _)) (fm_findInner_151 _ _ _ _ _ _))))))))))))
def m_findInner_46C (w : ev_W) (d : Nat) (v1 : Int) : (Int × iS) ⊕ (iS) → am_E → Prop := fun q r => q.elim (fun l => ev w d 454 46 ((fun l => [(0, .ref (tb_nK + 121)), (1, iv v1), (2, iv (l.1))]) l) [] (hT ((fun l => l.2) l)) r) (fun e => (fun e r => ev w d 454 281 [] [] (hT (e)) r) e r)
noncomputable def m_findInner_81 (v1 : Int) (v2 : Int) (v3 : Int) (s : iS) : Option ((Int × iS) ⊕ (iS)) := (lp (L := Int × iS) (E := iS) (fun l => m_findInner_81b v1 v2 (l.1) (l.2)) (v3, s)).bind (fun e => some (.inl ((v2 + 1), e)))
theorem tm_findInner_81 (w : ev_W) (d : Nat) (hd : 3 ≤ d) (v1 : Int) (v2 : Int) (v3 : Int) (s : iS) : Ew hT w d 454 81 [(0, .ref (tb_nK + 121)), (1, iv v1), (2, iv v2), (3, iv v3)] [] s (m_findInner_46C w d v1) (m_findInner_81 v1 v2 v3 s) := by
  unfold m_findInner_81
  refine e_lp (LO := fun l => [(0, .ref (tb_nK + 121)), (1, iv v1), (2, iv v2), (3, iv (l.1))]) (LS := fun l => l.2) (CE := fun e r => ev w d 454 275 [(0, .ref (tb_nK + 121)), (1, iv v1), (2, iv v2)] [] (hT (e)) r) (fun l => tm_findInner_81b w d hd _ _ _ _) ?_ (v3, s)
  intro e
  show Ew hT w d 454 275 [(0, .ref (tb_nK + 121)), (1, iv v1), (2, iv v2)] [] e (m_findInner_46C w d v1) _
  refine e_iinc 278 em_454 (ce_at ce_454 164 rfl) rfl (by decide) rfl ?_
  refine e_goto em_454 46 (ce_at ce_454 165 rfl) rfl ?_
  refine e_pk [0, 1, 2] rfl rfl ?_
  exact e_out (fun r h => h)
theorem fm_findInner_81 (v1 : Int) (v2 : Int) (v3 : Int) (s : iS) : Fm (fun r : (Int × iS) ⊕ (iS) => r.elim (fun l => l.2) (fun e => e)) L_m_findInner G_m_findInner s (m_findInner_81 v1 v2 v3 s) := fm_lp (LS := fun l => l.2) (LE := fun e => e) (fun l => fm_findInner_81b _ _ _ _) (fun e => fm_some md_refl) (v3, s)
noncomputable def m_findInner_46b (v1 : Int) (v2 : Int) (s : iS) : Option ((Int × iS) ⊕ (iS)) := gd (0 ≤ (v1 + 1) ∧ (v1 + 1) < 18) (gd (rg v2) (gd (rg (s 201 (v1 + 1).toNat)) (if (s 201 (v1 + 1).toNat) ≤ v2 then some (.inr s) else gd (0 ≤ v2 ∧ v2 < 400) (bd (m_chipOf (s 202 v2.toNat) s) (fun r6 s6 => lt' (up s6 216 v2.toNat r6) (fun s7 => gd (0 ≤ v2 ∧ v2 < 401) (m_findInner_81 v1 v2 (s7 203 v2.toNat) s7)))))))
theorem tm_findInner_46b (w : ev_W) (d : Nat) (hd : 3 ≤ d) (v1 : Int) (v2 : Int) (s : iS) : Ew hT w d 454 46 [(0, .ref (tb_nK + 121)), (1, iv v1), (2, iv v2)] [] s (m_findInner_46C w d v1) (m_findInner_46b v1 v2 s) := by
  unfold m_findInner_46b
  refine e_mv 47 em_454 (ce_at ce_454 30 rfl) rfl rfl ?_
  refine e_mv 48 em_454 (ce_at ce_454 31 rfl) rfl rfl ?_
  refine e_getr 51 em_454 (ce_at ce_454 32 rfl) tq_121 rfl rfl ?_
  refine e_mv 52 em_454 (ce_at ce_454 33 rfl) rfl rfl ?_
  refine e_op 53 em_454 (ce_at ce_454 34 rfl) rfl rfl ?_
  refine e_iadd 54 em_454 rfl (ce_at ce_454 35 rfl) ?_
  refine e_gd fun g1 => ?_
  refine e_ild 55 em_454 (ce_at ce_454 36 rfl) tq_201 (by decide) g1 rfl ?_
  refine e_gd fun g2 => ?_
  refine e_gd fun g3 => ?_
  refine e_cmge 281 58 em_454 rfl rfl (ce_at ce_454 37 rfl) g2 g3 (fun h4 => ?_) (fun h4 => ?_)
  · refine e_pk [] rfl rfl ?_
    exact e_out (fun r h => h)
  · refine e_mv 59 em_454 (ce_at ce_454 38 rfl) rfl rfl ?_
    refine e_getr 62 em_454 (ce_at ce_454 39 rfl) tq_121 rfl rfl ?_
    refine e_mv 63 em_454 (ce_at ce_454 40 rfl) rfl rfl ?_
    refine e_mv 64 em_454 (ce_at ce_454 41 rfl) rfl rfl ?_
    refine e_mv 65 em_454 (ce_at ce_454 42 rfl) rfl rfl ?_
    refine e_getr 68 em_454 (ce_at ce_454 43 rfl) tq_121 rfl rfl ?_
    refine e_mv 69 em_454 (ce_at ce_454 44 rfl) rfl rfl ?_
    refine e_gd fun g5 => ?_
    refine e_ild 70 em_454 (ce_at ce_454 45 rfl) tq_202 (by decide) g5 rfl ?_
    refine e_ivi 73 em_454 (ce_at ce_454 46 rfl) (by omega) (iv_v1 (by decide) tq_121 rfl) em_455 (Nat.le_of_ble_eq_true rfl) rfl (tm_chipOf w (d - 1) (by omega) _ _) (fun r6 s6 => ?_)
    refine e_ist 74 em_454 (ce_at ce_454 47 rfl) tq_216 (by decide) g5 rfl (fun s7 => ?_)
    refine e_mv 75 em_454 (ce_at ce_454 48 rfl) rfl rfl ?_
    refine e_getr 78 em_454 (ce_at ce_454 49 rfl) tq_121 rfl rfl ?_
    refine e_mv 79 em_454 (ce_at ce_454 50 rfl) rfl rfl ?_
    refine e_gd fun g8 => ?_
    refine e_ild 80 em_454 (ce_at ce_454 51 rfl) tq_203 (by decide) g8 rfl ?_
    refine e_mv 81 em_454 (ce_at ce_454 52 rfl) rfl rfl ?_
    refine e_pk [0, 1, 2, 3] rfl rfl ?_
    exact tm_findInner_81 w d hd _ _ _ _
theorem fm_findInner_46b (v1 : Int) (v2 : Int) (s : iS) : Fm (fun r : (Int × iS) ⊕ (iS) => r.elim (fun l => l.2) (fun e => e)) L_m_findInner G_m_findInner s (m_findInner_46b v1 v2 s) := fm_gd (fm_gd (fm_gd (fm_if (fm_some md_refl) (fm_gd (fm_bd (fm_sub (fm_chipOf _ _) (mem_sub_L rfl) (mem_sub_F rfl)) (fun r6 s6 => fm_lt (md_upL (mem_L rfl)) (fun s7 => fm_gd (fm_findInner_81 _ _ _ _))))))))
noncomputable def m_findInner_46 (v1 : Int) (v2 : Int) (s : iS) : Option (Int × iS) := (lp (L := Int × iS) (E := iS) (fun l => m_findInner_46b v1 (l.1) (l.2)) (v2, s)).bind (fun e => some (0, e))
theorem tm_findInner_46 (w : ev_W) (d : Nat) (hd : 3 ≤ d) (v1 : Int) (v2 : Int) (s : iS) : Ew hT w d 454 46 [(0, .ref (tb_nK + 121)), (1, iv v1), (2, iv v2)] [] s (Cv hT) (m_findInner_46 v1 v2 s) := by
  unfold m_findInner_46
  refine e_lp (LO := fun l => [(0, .ref (tb_nK + 121)), (1, iv v1), (2, iv (l.1))]) (LS := fun l => l.2) (CE := fun e r => ev w d 454 281 [] [] (hT (e)) r) (fun l => tm_findInner_46b w d hd _ _ _) ?_ (v2, s)
  intro e
  show Ew hT w d 454 281 [] [] e (Cv hT) _
  exact e_retv em_454 (ce_at ce_454 166 rfl)
theorem fm_findInner_46 (v1 : Int) (v2 : Int) (s : iS) : Fm Prod.snd L_m_findInner G_m_findInner s (m_findInner_46 v1 v2 s) := fm_lp (LS := fun l => l.2) (LE := fun e => e) (fun l => fm_findInner_46b _ _ _) (fun e => fm_some md_refl) (v2, s)
noncomputable def m_findInner_39 (v1 : Int) (s : iS) : Option (Int × iS) := gd (0 ≤ v1 ∧ v1 < 18) (m_findInner_46 v1 (s 201 v1.toNat) s)
theorem tm_findInner_39 (w : ev_W) (d : Nat) (hd : 3 ≤ d) (v1 : Int) (s : iS) : Ew hT w d 454 39 [(0, .ref (tb_nK + 121)), (1, iv v1)] [] s (Cv hT) (m_findInner_39 v1 s) := by
  unfold m_findInner_39
  refine e_mv 40 em_454 (ce_at ce_454 25 rfl) rfl rfl ?_
  refine e_getr 43 em_454 (ce_at ce_454 26 rfl) tq_121 rfl rfl ?_
  refine e_mv 44 em_454 (ce_at ce_454 27 rfl) rfl rfl ?_
  refine e_gd fun g1 => ?_
  refine e_ild 45 em_454 (ce_at ce_454 28 rfl) tq_201 (by decide) g1 rfl ?_
  refine e_mv 46 em_454 (ce_at ce_454 29 rfl) rfl rfl ?_
  refine e_pk [0, 1, 2] rfl rfl ?_
  exact tm_findInner_46 w d hd _ _ _
theorem fm_findInner_39 (v1 : Int) (s : iS) : Fm Prod.snd L_m_findInner G_m_findInner s (m_findInner_39 v1 s) := fm_gd (fm_findInner_46 _ _ _)
noncomputable def m_findInner_7 (v1 : Int) (v2 : Int) (s : iS) : Option (Int × iS) := (lp (L := Int × iS) (E := iS) (fun l => m_findInner_7b v1 (l.1) (l.2)) (v2, s)).bind (fun e => m_findInner_39 v1 e)
theorem tm_findInner_7 (w : ev_W) (d : Nat) (hd : 3 ≤ d) (v1 : Int) (v2 : Int) (s : iS) : Ew hT w d 454 7 [(0, .ref (tb_nK + 121)), (1, iv v1), (2, iv v2)] [] s (Cv hT) (m_findInner_7 v1 v2 s) := by
  unfold m_findInner_7
  refine e_lp (LO := fun l => [(0, .ref (tb_nK + 121)), (1, iv v1), (2, iv (l.1))]) (LS := fun l => l.2) (CE := fun e r => ev w d 454 39 [(0, .ref (tb_nK + 121)), (1, iv v1)] [] (hT (e)) r) (fun l => tm_findInner_7b w d hd _ _ _) ?_ (v2, s)
  intro e
  show Ew hT w d 454 39 [(0, .ref (tb_nK + 121)), (1, iv v1)] [] e (Cv hT) _
  refine e_pk [0, 1] rfl rfl ?_
  exact tm_findInner_39 w d hd _ _
theorem fm_findInner_7 (v1 : Int) (v2 : Int) (s : iS) : Fm Prod.snd L_m_findInner G_m_findInner s (m_findInner_7 v1 v2 s) := fm_lp (LS := fun l => l.2) (LE := fun e => e) (fun l => fm_findInner_7b _ _ _) (fun e => fm_findInner_39 _ _) (v2, s)
noncomputable def m_findInner (v1 : Int) (s : iS) : Option (Int × iS) := gd (0 ≤ v1 ∧ v1 < 18) (m_findInner_7 v1 (s 212 v1.toNat) s)
theorem tm_findInner (w : ev_W) (d : Nat) (hd : 3 ≤ d) (v1 : Int) (s : iS) : Ew hT w d 454 0 [(0, .ref (tb_nK + 121)), (1, iv v1)] [] s (Cv hT) (m_findInner v1 s) := by
  unfold m_findInner
  refine e_mv 1 em_454 (ce_at ce_454 0 rfl) rfl rfl ?_
  refine e_getr 4 em_454 (ce_at ce_454 1 rfl) tq_121 rfl rfl ?_
  refine e_mv 5 em_454 (ce_at ce_454 2 rfl) rfl rfl ?_
  refine e_gd fun g1 => ?_
  refine e_ild 6 em_454 (ce_at ce_454 3 rfl) tq_212 (by decide) g1 rfl ?_
  refine e_mv 7 em_454 (ce_at ce_454 4 rfl) rfl rfl ?_
  refine e_pk [0, 1, 2] rfl rfl ?_
  exact tm_findInner_7 w d hd _ _ _
theorem fm_findInner (v1 : Int) (s : iS) : Fm Prod.snd L_m_findInner G_m_findInner s (m_findInner v1 s) := fm_gd (fm_findInner_7 _ _ _)
/-! m_checkRight -/
def L_m_checkRight : List Nat := [215, 218]
def G_m_checkRight : List (Nat × Nat) := [(121, 69), (121, 70)]
noncomputable def m_checkRight_361 (v6 : Int) (v9 : Int) (s : iS) : Option (Int × iS) := gd (0 ≤ v6 ∧ v6 < 200) (lt' (up s 218 v6.toNat (i_or (s 218 v6.toNat) v9)) (fun s2 => some (0, s2)))
theorem tm_checkRight_361 (w : ev_W) (d : Nat) (hd : 2 ≤ d) (v6 : Int) (v9 : Int) (s : iS) : Ew hT w d 462 361 [(0, .ref (tb_nK + 121)), (6, iv v6), (9, iv v9)] [] s (Cv hT) (m_checkRight_361 v6 v9 s) := by
  unfold m_checkRight_361
  refine e_mv 362 em_462 (ce_at ce_462 206 rfl) rfl rfl ?_
  refine e_getr 365 em_462 (ce_at ce_462 207 rfl) tq_121 rfl rfl ?_
  refine e_mv 367 em_462 (ce_at ce_462 208 rfl) rfl rfl ?_
  refine e_mv 368 em_462 (ce_at ce_462 209 rfl) rfl rfl ?_
  refine e_getr 371 em_462 (ce_at ce_462 210 rfl) tq_121 rfl rfl ?_
  refine e_mv 373 em_462 (ce_at ce_462 211 rfl) rfl rfl ?_
  refine e_gd fun g1 => ?_
  refine e_ild 374 em_462 (ce_at ce_462 212 rfl) tq_218 (by decide) g1 rfl ?_
  refine e_mv 376 em_462 (ce_at ce_462 213 rfl) rfl rfl ?_
  refine e_ior 377 em_462 rfl (ce_at ce_462 214 rfl) ?_
  refine e_ist 378 em_462 (ce_at ce_462 215 rfl) tq_218 (by decide) g1 rfl (fun s2 => ?_)
  exact e_retv em_462 (ce_at ce_462 216 rfl)
theorem fm_checkRight_361 (v6 : Int) (v9 : Int) (s : iS) : Fm Prod.snd L_m_checkRight G_m_checkRight s (m_checkRight_361 v6 v9 s) := fm_gd (fm_lt (md_upL (mem_L rfl)) (fun s2 => fm_some md_refl))
noncomputable def m_checkRight_338 (v5 : Int) (v6 : Int) (t0 : Int) (t1 : Int) (s : iS) : Option (Int × iS) := gd (0 ≤ v6 ∧ v6 < 200) (gd (rg (i_and (s 218 v6.toNat) (i_shl t1 t0))) (if (i_and (s 218 v6.toNat) (i_shl t1 t0)) = 0 then m_checkRight_361 v6 (i_shl t1 t0) s else bd (m_note 3 v5 s) (fun _ s4 => m_checkRight_361 v6 (i_shl t1 t0) s4)))
theorem tm_checkRight_338 (w : ev_W) (d : Nat) (hd : 2 ≤ d) (v5 : Int) (v6 : Int) (t0 : Int) (t1 : Int) (s : iS) : Ew hT w d 462 338 [(0, .ref (tb_nK + 121)), (5, iv v5), (6, iv v6)] [iv t0, iv t1] s (Cv hT) (m_checkRight_338 v5 v6 t0 t1 s) := by
  unfold m_checkRight_338
  refine e_ishl 339 em_462 rfl (ce_at ce_462 193 rfl) ?_
  refine e_mv 341 em_462 (ce_at ce_462 194 rfl) rfl rfl ?_
  refine e_mv 342 em_462 (ce_at ce_462 195 rfl) rfl rfl ?_
  refine e_getr 345 em_462 (ce_at ce_462 196 rfl) tq_121 rfl rfl ?_
  refine e_mv 347 em_462 (ce_at ce_462 197 rfl) rfl rfl ?_
  refine e_gd fun g1 => ?_
  refine e_ild 348 em_462 (ce_at ce_462 198 rfl) tq_218 (by decide) g1 rfl ?_
  refine e_mv 350 em_462 (ce_at ce_462 199 rfl) rfl rfl ?_
  refine e_iand 351 em_462 rfl (ce_at ce_462 200 rfl) ?_
  refine e_gd fun g2 => ?_
  refine e_ifeq 361 354 em_462 rfl rfl (ce_at ce_462 201 rfl) g2 (fun h3 => ?_) (fun h3 => ?_)
  · refine e_pk [0, 6, 9] rfl rfl ?_
    exact tm_checkRight_361 w d hd _ _ _
  · refine e_mv 355 em_462 (ce_at ce_462 202 rfl) rfl rfl ?_
    refine e_op 356 em_462 (ce_at ce_462 203 rfl) rfl rfl ?_
    refine e_mv 358 em_462 (ce_at ce_462 204 rfl) rfl rfl ?_
    refine e_ivv 361 em_462 (ce_at ce_462 205 rfl) (by omega) (iv_v2 (by decide) tq_121 rfl) em_351 (Nat.le_of_ble_eq_true rfl) rfl (tm_note w (d - 1) (by omega) _ _ _) (fun r4 s4 => ?_)
    refine e_pk [0, 6, 9] rfl rfl ?_
    exact tm_checkRight_361 w d hd _ _ _
theorem fm_checkRight_338 (v5 : Int) (v6 : Int) (t0 : Int) (t1 : Int) (s : iS) : Fm Prod.snd L_m_checkRight G_m_checkRight s (m_checkRight_338 v5 v6 t0 t1 s) := fm_gd (fm_gd (fm_if (fm_checkRight_361 _ _ _) (fm_bd (fm_sub (fm_note _ _ _) (mem_sub_L rfl) (mem_sub_F rfl)) (fun r4 s4 => fm_checkRight_361 _ _ _))))
noncomputable def m_checkRight_307 (v2 : Int) (v3 : Int) (v5 : Int) (v6 : Int) (v8 : Int) (s : iS) : Option (Int × iS) := gd (rg v3) (if v3 = 0 then some (0, s) else gd (0 ≤ v2 ∧ v2 < 700) (gd (rg (s 209 v2.toNat)) (if (s 209 v2.toNat) = (-1) then m_checkRight_338 v5 v6 0 ((i_shl 1 v8) - 1) s else m_checkRight_338 v5 v6 (s 210 v2.toNat) ((i_shl 1 v8) - 1) s)))
theorem tm_checkRight_307 (w : ev_W) (d : Nat) (hd : 2 ≤ d) (v2 : Int) (v3 : Int) (v5 : Int) (v6 : Int) (v8 : Int) (s : iS) : Ew hT w d 462 307 [(0, .ref (tb_nK + 121)), (2, iv v2), (3, iv v3), (5, iv v5), (6, iv v6), (8, iv v8)] [] s (Cv hT) (m_checkRight_307 v2 v3 v5 v6 v8 s) := by
  unfold m_checkRight_307
  refine e_mv 308 em_462 (ce_at ce_462 173 rfl) rfl rfl ?_
  refine e_gd fun g1 => ?_
  refine e_ifne 312 311 em_462 rfl rfl (ce_at ce_462 174 rfl) g1 (fun h2 => ?_) (fun h2 => ?_)
  · refine e_op 313 em_462 (ce_at ce_462 176 rfl) rfl rfl ?_
    refine e_mv 315 em_462 (ce_at ce_462 177 rfl) rfl rfl ?_
    refine e_ishl 316 em_462 rfl (ce_at ce_462 178 rfl) ?_
    refine e_op 317 em_462 (ce_at ce_462 179 rfl) rfl rfl ?_
    refine e_isub 318 em_462 rfl (ce_at ce_462 180 rfl) ?_
    refine e_mv 319 em_462 (ce_at ce_462 181 rfl) rfl rfl ?_
    refine e_getr 322 em_462 (ce_at ce_462 182 rfl) tq_121 rfl rfl ?_
    refine e_mv 323 em_462 (ce_at ce_462 183 rfl) rfl rfl ?_
    refine e_gd fun g3 => ?_
    refine e_ild 324 em_462 (ce_at ce_462 184 rfl) tq_209 (by decide) g3 rfl ?_
    refine e_op 325 em_462 (ce_at ce_462 185 rfl) rfl rfl ?_
    refine e_gd fun g4 => ?_
    refine e_cmne 332 328 em_462 rfl rfl (ce_at ce_462 186 rfl) g4 (by decide) (fun h5 => ?_) (fun h5 => ?_)
    · refine e_mv 333 em_462 (ce_at ce_462 189 rfl) rfl rfl ?_
      refine e_getr 336 em_462 (ce_at ce_462 190 rfl) tq_121 rfl rfl ?_
      refine e_mv 337 em_462 (ce_at ce_462 191 rfl) rfl rfl ?_
      refine e_ild 338 em_462 (ce_at ce_462 192 rfl) tq_210 (by decide) g3 rfl ?_
      refine e_pk [0, 5, 6] rfl rfl ?_
      exact tm_checkRight_338 w d hd _ _ _ _ _
    · refine e_op 329 em_462 (ce_at ce_462 187 rfl) rfl rfl ?_
      refine e_goto em_462 338 (ce_at ce_462 188 rfl) rfl ?_
      refine e_pk [0, 5, 6] rfl rfl ?_
      exact tm_checkRight_338 w d hd _ _ _ _ _
  · exact e_retv em_462 (ce_at ce_462 175 rfl)
theorem fm_checkRight_307 (v2 : Int) (v3 : Int) (v5 : Int) (v6 : Int) (v8 : Int) (s : iS) : Fm Prod.snd L_m_checkRight G_m_checkRight s (m_checkRight_307 v2 v3 v5 v6 v8 s) := fm_gd (fm_if (fm_some md_refl) (fm_gd (fm_gd (fm_if (fm_checkRight_338 _ _ _ _ _) (fm_checkRight_338 _ _ _ _ _)))))
noncomputable def m_checkRight_192 (t0 : Int) (t1 : Int) (s : iS) : Option (Int × iS) := gd (0 ≤ t1 ∧ t1 < 700) (gd (t0 = 0 ∨ t0 = 1) (lt' (up s 215 t1.toNat t0) (fun s3 => some (0, s3))))
theorem tm_checkRight_192 (w : ev_W) (d : Nat) (hd : 2 ≤ d) (t0 : Int) (t1 : Int) (s : iS) : Ew hT w d 462 192 [] [iv t0, iv t1, .ref (tb_nK + 215)] s (Cv hT) (m_checkRight_192 t0 t1 s) := by
  unfold m_checkRight_192
  refine e_gd fun g1 => ?_
  refine e_gd fun g2 => ?_
  refine e_zst 193 em_462 (ce_at ce_462 105 rfl) tq_215 (by decide) g1 g2 rfl (fun s3 => ?_)
  exact e_retv em_462 (ce_at ce_462 106 rfl)
theorem fm_checkRight_192 (t0 : Int) (t1 : Int) (s : iS) : Fm Prod.snd L_m_checkRight G_m_checkRight s (m_checkRight_192 t0 t1 s) := fm_gd (fm_gd (fm_lt (md_upL (mem_L rfl)) (fun s3 => fm_some md_refl)))
noncomputable def m_checkRight_187 (t0 : Int) (s : iS) : Option (Int × iS) := m_checkRight_192 1 t0 s
theorem tm_checkRight_187 (w : ev_W) (d : Nat) (hd : 2 ≤ d) (t0 : Int) (s : iS) : Ew hT w d 462 187 [] [iv t0, .ref (tb_nK + 215)] s (Cv hT) (m_checkRight_187 t0 s) := by
  unfold m_checkRight_187
  refine e_op 188 em_462 (ce_at ce_462 102 rfl) rfl rfl ?_
  refine e_goto em_462 192 (ce_at ce_462 103 rfl) rfl ?_
  refine e_pk [] rfl rfl ?_
  exact tm_checkRight_192 w d hd _ _ _
theorem fm_checkRight_187 (t0 : Int) (s : iS) : Fm Prod.snd L_m_checkRight G_m_checkRight s (m_checkRight_187 t0 s) := fm_checkRight_192 _ _ _
noncomputable def m_checkRight_167 (v3 : Int) (v7 : Int) (s : iS) : Option (Int × iS) := gd (0 ≤ v7 ∧ v7 < 700) (gd (rg (s 215 v7.toNat)) (if (s 215 v7.toNat) = 0 then gd (rg v3) (if v3 = 0 then m_checkRight_192 0 v7 s else m_checkRight_187 v7 s) else m_checkRight_187 v7 s))
theorem tm_checkRight_167 (w : ev_W) (d : Nat) (hd : 2 ≤ d) (v3 : Int) (v7 : Int) (s : iS) : Ew hT w d 462 167 [(0, .ref (tb_nK + 121)), (3, iv v3), (7, iv v7)] [] s (Cv hT) (m_checkRight_167 v3 v7 s) := by
  unfold m_checkRight_167
  refine e_mv 168 em_462 (ce_at ce_462 92 rfl) rfl rfl ?_
  refine e_getr 171 em_462 (ce_at ce_462 93 rfl) tq_121 rfl rfl ?_
  refine e_mv 173 em_462 (ce_at ce_462 94 rfl) rfl rfl ?_
  refine e_mv 174 em_462 (ce_at ce_462 95 rfl) rfl rfl ?_
  refine e_getr 177 em_462 (ce_at ce_462 96 rfl) tq_121 rfl rfl ?_
  refine e_mv 179 em_462 (ce_at ce_462 97 rfl) rfl rfl ?_
  refine e_gd fun g1 => ?_
  refine e_zld 180 em_462 (ce_at ce_462 98 rfl) tq_215 (by decide) g1 rfl ?_
  refine e_gd fun g2 => ?_
  refine e_ifne 187 183 em_462 rfl rfl (ce_at ce_462 99 rfl) g2 (fun h3 => ?_) (fun h3 => ?_)
  · refine e_pk [] rfl rfl ?_
    exact tm_checkRight_187 w d hd _ _
  · refine e_mv 184 em_462 (ce_at ce_462 100 rfl) rfl rfl ?_
    refine e_gd fun g4 => ?_
    refine e_ifeq 191 187 em_462 rfl rfl (ce_at ce_462 101 rfl) g4 (fun h5 => ?_) (fun h5 => ?_)
    · refine e_op 192 em_462 (ce_at ce_462 104 rfl) rfl rfl ?_
      refine e_pk [] rfl rfl ?_
      exact tm_checkRight_192 w d hd _ _ _
    · refine e_pk [] rfl rfl ?_
      exact tm_checkRight_187 w d hd _ _
theorem fm_checkRight_167 (v3 : Int) (v7 : Int) (s : iS) : Fm Prod.snd L_m_checkRight G_m_checkRight s (m_checkRight_167 v3 v7 s) := fm_gd (fm_gd (fm_if (fm_gd (fm_if (fm_checkRight_192 _ _ _) (fm_checkRight_187 _ _))) (fm_checkRight_187 _ _)))
noncomputable def m_checkRight_118 (v2 : Int) (v3 : Int) (v4 : Int) (v5 : Int) (v7 : Int) (s : iS) : Option (Int × iS) := gd (rg v3) (if v3 = 0 then gd (0 ≤ v7 ∧ v7 < 700) (gd (rg (s 214 v7.toNat)) (if (s 214 v7.toNat) ≤ 0 then m_checkRight_167 v3 v7 s else gd (0 ≤ v2 ∧ v2 < 700) (gd (rg (s 209 v2.toNat)) (if (s 209 v2.toNat) = (-1) then gd (rg v4) (if v4 = (-1) then m_checkRight_167 v3 v7 s else if (s 214 v7.toNat) = v4 then m_checkRight_167 v3 v7 s else bd (m_note 5 v5 s) (fun _ s12 => m_checkRight_167 v3 v7 s12)) else m_checkRight_167 v3 v7 s)))) else m_checkRight_167 v3 v7 s)
theorem tm_checkRight_118 (w : ev_W) (d : Nat) (hd : 2 ≤ d) (v2 : Int) (v3 : Int) (v4 : Int) (v5 : Int) (v7 : Int) (s : iS) : Ew hT w d 462 118 [(0, .ref (tb_nK + 121)), (2, iv v2), (3, iv v3), (4, iv v4), (5, iv v5), (7, iv v7)] [] s (Cv hT) (m_checkRight_118 v2 v3 v4 v5 v7 s) := by
  unfold m_checkRight_118
  refine e_mv 119 em_462 (ce_at ce_462 66 rfl) rfl rfl ?_
  refine e_gd fun g1 => ?_
  refine e_ifne 167 122 em_462 rfl rfl (ce_at ce_462 67 rfl) g1 (fun h2 => ?_) (fun h2 => ?_)
  · refine e_pk [0, 3, 7] rfl rfl ?_
    exact tm_checkRight_167 w d hd _ _ _
  · refine e_mv 123 em_462 (ce_at ce_462 68 rfl) rfl rfl ?_
    refine e_getr 126 em_462 (ce_at ce_462 69 rfl) tq_121 rfl rfl ?_
    refine e_mv 128 em_462 (ce_at ce_462 70 rfl) rfl rfl ?_
    refine e_gd fun g3 => ?_
    refine e_ild 129 em_462 (ce_at ce_462 71 rfl) tq_214 (by decide) g3 rfl ?_
    refine e_gd fun g4 => ?_
    refine e_ifle 167 132 em_462 rfl rfl (ce_at ce_462 72 rfl) g4 (fun h5 => ?_) (fun h5 => ?_)
    · refine e_pk [0, 3, 7] rfl rfl ?_
      exact tm_checkRight_167 w d hd _ _ _
    · refine e_mv 133 em_462 (ce_at ce_462 73 rfl) rfl rfl ?_
      refine e_getr 136 em_462 (ce_at ce_462 74 rfl) tq_121 rfl rfl ?_
      refine e_mv 137 em_462 (ce_at ce_462 75 rfl) rfl rfl ?_
      refine e_gd fun g6 => ?_
      refine e_ild 138 em_462 (ce_at ce_462 76 rfl) tq_209 (by decide) g6 rfl ?_
      refine e_op 139 em_462 (ce_at ce_462 77 rfl) rfl rfl ?_
      refine e_gd fun g7 => ?_
      refine e_cmne 167 142 em_462 rfl rfl (ce_at ce_462 78 rfl) g7 (by decide) (fun h8 => ?_) (fun h8 => ?_)
      · refine e_pk [0, 3, 7] rfl rfl ?_
        exact tm_checkRight_167 w d hd _ _ _
      · refine e_mv 144 em_462 (ce_at ce_462 79 rfl) rfl rfl ?_
        refine e_op 145 em_462 (ce_at ce_462 80 rfl) rfl rfl ?_
        refine e_gd fun g9 => ?_
        refine e_cmeq 167 148 em_462 rfl rfl (ce_at ce_462 81 rfl) g9 (by decide) (fun h10 => ?_) (fun h10 => ?_)
        · refine e_pk [0, 3, 7] rfl rfl ?_
          exact tm_checkRight_167 w d hd _ _ _
        · refine e_mv 149 em_462 (ce_at ce_462 82 rfl) rfl rfl ?_
          refine e_getr 152 em_462 (ce_at ce_462 83 rfl) tq_121 rfl rfl ?_
          refine e_mv 154 em_462 (ce_at ce_462 84 rfl) rfl rfl ?_
          refine e_ild 155 em_462 (ce_at ce_462 85 rfl) tq_214 (by decide) g3 rfl ?_
          refine e_mv 157 em_462 (ce_at ce_462 86 rfl) rfl rfl ?_
          refine e_cmeq 167 160 em_462 rfl rfl (ce_at ce_462 87 rfl) g4 g9 (fun h11 => ?_) (fun h11 => ?_)
          · refine e_pk [0, 3, 7] rfl rfl ?_
            exact tm_checkRight_167 w d hd _ _ _
          · refine e_mv 161 em_462 (ce_at ce_462 88 rfl) rfl rfl ?_
            refine e_op 162 em_462 (ce_at ce_462 89 rfl) rfl rfl ?_
            refine e_mv 164 em_462 (ce_at ce_462 90 rfl) rfl rfl ?_
            refine e_ivv 167 em_462 (ce_at ce_462 91 rfl) (by omega) (iv_v2 (by decide) tq_121 rfl) em_351 (Nat.le_of_ble_eq_true rfl) rfl (tm_note w (d - 1) (by omega) _ _ _) (fun r12 s12 => ?_)
            refine e_pk [0, 3, 7] rfl rfl ?_
            exact tm_checkRight_167 w d hd _ _ _
theorem fm_checkRight_118 (v2 : Int) (v3 : Int) (v4 : Int) (v5 : Int) (v7 : Int) (s : iS) : Fm Prod.snd L_m_checkRight G_m_checkRight s (m_checkRight_118 v2 v3 v4 v5 v7 s) := fm_gd (fm_if (fm_gd (fm_gd (fm_if (fm_checkRight_167 _ _ _) (fm_gd (fm_gd (fm_if (fm_gd (fm_if (fm_checkRight_167 _ _ _) (fm_if (fm_checkRight_167 _ _ _) (fm_bd (fm_sub (fm_note _ _ _) (mem_sub_L rfl) (mem_sub_F rfl)) (fun r12 s12 => fm_checkRight_167 _ _ _))))) (fm_checkRight_167 _ _ _))))))) (fm_checkRight_167 _ _ _))
noncomputable def m_checkRight_97 (v2 : Int) (v3 : Int) (v4 : Int) (v5 : Int) (v7 : Int) (s : iS) : Option (Int × iS) := gd (rg v3) (if v3 = 0 then gd (0 ≤ v7 ∧ v7 < 700) (gd (rg (s 214 v7.toNat)) (if (s 214 v7.toNat) = 0 then bd (m_note 4 v5 s) (fun _ s6 => m_checkRight_118 v2 v3 v4 v5 v7 s6) else m_checkRight_118 v2 v3 v4 v5 v7 s)) else m_checkRight_118 v2 v3 v4 v5 v7 s)
theorem tm_checkRight_97 (w : ev_W) (d : Nat) (hd : 2 ≤ d) (v2 : Int) (v3 : Int) (v4 : Int) (v5 : Int) (v7 : Int) (s : iS) : Ew hT w d 462 97 [(0, .ref (tb_nK + 121)), (2, iv v2), (3, iv v3), (4, iv v4), (5, iv v5), (7, iv v7)] [] s (Cv hT) (m_checkRight_97 v2 v3 v4 v5 v7 s) := by
  unfold m_checkRight_97
  refine e_mv 98 em_462 (ce_at ce_462 55 rfl) rfl rfl ?_
  refine e_gd fun g1 => ?_
  refine e_ifne 118 101 em_462 rfl rfl (ce_at ce_462 56 rfl) g1 (fun h2 => ?_) (fun h2 => ?_)
  · refine e_pk [0, 2, 3, 4, 5, 7] rfl rfl ?_
    exact tm_checkRight_118 w d hd _ _ _ _ _ _
  · refine e_mv 102 em_462 (ce_at ce_462 57 rfl) rfl rfl ?_
    refine e_getr 105 em_462 (ce_at ce_462 58 rfl) tq_121 rfl rfl ?_
    refine e_mv 107 em_462 (ce_at ce_462 59 rfl) rfl rfl ?_
    refine e_gd fun g3 => ?_
    refine e_ild 108 em_462 (ce_at ce_462 60 rfl) tq_214 (by decide) g3 rfl ?_
    refine e_gd fun g4 => ?_
    refine e_ifne 118 111 em_462 rfl rfl (ce_at ce_462 61 rfl) g4 (fun h5 => ?_) (fun h5 => ?_)
    · refine e_pk [0, 2, 3, 4, 5, 7] rfl rfl ?_
      exact tm_checkRight_118 w d hd _ _ _ _ _ _
    · refine e_mv 112 em_462 (ce_at ce_462 62 rfl) rfl rfl ?_
      refine e_op 113 em_462 (ce_at ce_462 63 rfl) rfl rfl ?_
      refine e_mv 115 em_462 (ce_at ce_462 64 rfl) rfl rfl ?_
      refine e_ivv 118 em_462 (ce_at ce_462 65 rfl) (by omega) (iv_v2 (by decide) tq_121 rfl) em_351 (Nat.le_of_ble_eq_true rfl) rfl (tm_note w (d - 1) (by omega) _ _ _) (fun r6 s6 => ?_)
      refine e_pk [0, 2, 3, 4, 5, 7] rfl rfl ?_
      exact tm_checkRight_118 w d hd _ _ _ _ _ _
theorem fm_checkRight_97 (v2 : Int) (v3 : Int) (v4 : Int) (v5 : Int) (v7 : Int) (s : iS) : Fm Prod.snd L_m_checkRight G_m_checkRight s (m_checkRight_97 v2 v3 v4 v5 v7 s) := fm_gd (fm_if (fm_gd (fm_gd (fm_if (fm_bd (fm_sub (fm_note _ _ _) (mem_sub_L rfl) (mem_sub_F rfl)) (fun r6 s6 => fm_checkRight_118 _ _ _ _ _ _)) (fm_checkRight_118 _ _ _ _ _ _)))) (fm_checkRight_118 _ _ _ _ _ _))
noncomputable def m_checkRight_76 (v2 : Int) (v3 : Int) (v4 : Int) (v5 : Int) (v7 : Int) (s : iS) : Option (Int × iS) := gd (rg v3) (if v3 = 0 then m_checkRight_97 v2 v3 v4 v5 v7 s else gd (0 ≤ v7 ∧ v7 < 700) (gd (rg (s 215 v7.toNat)) (if (s 215 v7.toNat) = 0 then m_checkRight_97 v2 v3 v4 v5 v7 s else bd (m_note 3 v5 s) (fun _ s6 => m_checkRight_97 v2 v3 v4 v5 v7 s6))))
theorem tm_checkRight_76 (w : ev_W) (d : Nat) (hd : 2 ≤ d) (v2 : Int) (v3 : Int) (v4 : Int) (v5 : Int) (v7 : Int) (s : iS) : Ew hT w d 462 76 [(0, .ref (tb_nK + 121)), (2, iv v2), (3, iv v3), (4, iv v4), (5, iv v5), (7, iv v7)] [] s (Cv hT) (m_checkRight_76 v2 v3 v4 v5 v7 s) := by
  unfold m_checkRight_76
  refine e_mv 77 em_462 (ce_at ce_462 44 rfl) rfl rfl ?_
  refine e_gd fun g1 => ?_
  refine e_ifeq 97 80 em_462 rfl rfl (ce_at ce_462 45 rfl) g1 (fun h2 => ?_) (fun h2 => ?_)
  · refine e_pk [0, 2, 3, 4, 5, 7] rfl rfl ?_
    exact tm_checkRight_97 w d hd _ _ _ _ _ _
  · refine e_mv 81 em_462 (ce_at ce_462 46 rfl) rfl rfl ?_
    refine e_getr 84 em_462 (ce_at ce_462 47 rfl) tq_121 rfl rfl ?_
    refine e_mv 86 em_462 (ce_at ce_462 48 rfl) rfl rfl ?_
    refine e_gd fun g3 => ?_
    refine e_zld 87 em_462 (ce_at ce_462 49 rfl) tq_215 (by decide) g3 rfl ?_
    refine e_gd fun g4 => ?_
    refine e_ifeq 97 90 em_462 rfl rfl (ce_at ce_462 50 rfl) g4 (fun h5 => ?_) (fun h5 => ?_)
    · refine e_pk [0, 2, 3, 4, 5, 7] rfl rfl ?_
      exact tm_checkRight_97 w d hd _ _ _ _ _ _
    · refine e_mv 91 em_462 (ce_at ce_462 51 rfl) rfl rfl ?_
      refine e_op 92 em_462 (ce_at ce_462 52 rfl) rfl rfl ?_
      refine e_mv 94 em_462 (ce_at ce_462 53 rfl) rfl rfl ?_
      refine e_ivv 97 em_462 (ce_at ce_462 54 rfl) (by omega) (iv_v2 (by decide) tq_121 rfl) em_351 (Nat.le_of_ble_eq_true rfl) rfl (tm_note w (d - 1) (by omega) _ _ _) (fun r6 s6 => ?_)
      refine e_pk [0, 2, 3, 4, 5, 7] rfl rfl ?_
      exact tm_checkRight_97 w d hd _ _ _ _ _ _
theorem fm_checkRight_76 (v2 : Int) (v3 : Int) (v4 : Int) (v5 : Int) (v7 : Int) (s : iS) : Fm Prod.snd L_m_checkRight G_m_checkRight s (m_checkRight_76 v2 v3 v4 v5 v7 s) := fm_gd (fm_if (fm_checkRight_97 _ _ _ _ _ _) (fm_gd (fm_gd (fm_if (fm_checkRight_97 _ _ _ _ _ _) (fm_bd (fm_sub (fm_note _ _ _) (mem_sub_L rfl) (mem_sub_F rfl)) (fun r6 s6 => fm_checkRight_97 _ _ _ _ _ _))))))
noncomputable def m_checkRight (v1 : Int) (v2 : Int) (v3 : Int) (v4 : Int) (s : iS) : Option (Int × iS) := gd (0 ≤ v2 ∧ v2 < 700) (gd (0 ≤ (s 208 v2.toNat) ∧ (s 208 v2.toNat) < 2002) (gd (rg (s 124 (s 208 v2.toNat).toNat)) (if (s 124 (s 208 v2.toNat).toNat) = 1 then bd (m_pinOf v1 (s 208 v2.toNat) s) (fun r5 s5 => gd (rg r5) (if r5 = (-1) then bd (m_innerOf v1 (s 208 v2.toNat) s5) (fun r23 s23 => gd (rg (s23 209 v2.toNat)) (if (s23 209 v2.toNat) = (-1) then m_checkRight_76 v2 v3 v4 (s 208 v2.toNat) r23 s23 else bd (m_note 5 (s23 209 v2.toNat) s23) (fun _ s26 => m_checkRight_76 v2 v3 v4 (s 208 v2.toNat) r23 s26))) else gd (0 ≤ r5 ∧ r5 < 200) (gd (rg (s5 197 r5.toNat)) (gd (rg v3) (if (s5 197 r5.toNat) = v3 then bd (m_rangeFits (s5 209 v2.toNat) (s5 210 v2.toNat) (s5 211 v2.toNat) (s5 199 r5.toNat) s5) (fun r12 s12 => gd (rg r12) (if r12 = 0 then bd (m_note 5 (s12 209 v2.toNat) s12) (fun _ s21 => some (0, s21)) else bd (m_bitsOf (s12 209 v2.toNat) (s12 210 v2.toNat) (s12 211 v2.toNat) (s5 199 r5.toNat) s12) (fun r15 s15 => gd (rg v4) (if v4 = (-1) then m_checkRight_307 v2 v3 (s 208 v2.toNat) r5 r15 s15 else gd (rg r15) (if r15 = v4 then m_checkRight_307 v2 v3 (s 208 v2.toNat) r5 r15 s15 else bd (m_note 5 (s 208 v2.toNat) s15) (fun _ s20 => m_checkRight_307 v2 v3 (s 208 v2.toNat) r5 r15 s20)))))) else bd (m_note 4 (s 208 v2.toNat) s5) (fun _ s22 => some (0, s22))))))) else gd (rg v3) (if v3 = 0 then some (0, s) else bd (m_note 4 (s 208 v2.toNat) s) (fun _ s29 => some (0, s29))))))
theorem tm_checkRight (w : ev_W) (d : Nat) (hd : 2 ≤ d) (v1 : Int) (v2 : Int) (v3 : Int) (v4 : Int) (s : iS) : Ew hT w d 462 0 [(0, .ref (tb_nK + 121)), (1, iv v1), (2, iv v2), (3, iv v3), (4, iv v4)] [] s (Cv hT) (m_checkRight v1 v2 v3 v4 s) := by
  unfold m_checkRight
  refine e_mv 1 em_462 (ce_at ce_462 0 rfl) rfl rfl ?_
  refine e_getr 4 em_462 (ce_at ce_462 1 rfl) tq_121 rfl rfl ?_
  refine e_mv 5 em_462 (ce_at ce_462 2 rfl) rfl rfl ?_
  refine e_gd fun g1 => ?_
  refine e_ild 6 em_462 (ce_at ce_462 3 rfl) tq_208 (by decide) g1 rfl ?_
  refine e_mv 8 em_462 (ce_at ce_462 4 rfl) rfl rfl ?_
  refine e_mv 9 em_462 (ce_at ce_462 5 rfl) rfl rfl ?_
  refine e_getr 12 em_462 (ce_at ce_462 6 rfl) tq_121 rfl rfl ?_
  refine e_mv 14 em_462 (ce_at ce_462 7 rfl) rfl rfl ?_
  refine e_gd fun g2 => ?_
  refine e_ild 15 em_462 (ce_at ce_462 8 rfl) tq_124 (by decide) g2 rfl ?_
  refine e_op 16 em_462 (ce_at ce_462 9 rfl) rfl rfl ?_
  refine e_gd fun g3 => ?_
  refine e_cmeq 31 19 em_462 rfl rfl (ce_at ce_462 10 rfl) g3 (by decide) (fun h4 => ?_) (fun h4 => ?_)
  · refine e_mv 32 em_462 (ce_at ce_462 18 rfl) rfl rfl ?_
    refine e_mv 33 em_462 (ce_at ce_462 19 rfl) rfl rfl ?_
    refine e_mv 35 em_462 (ce_at ce_462 20 rfl) rfl rfl ?_
    refine e_ivi 38 em_462 (ce_at ce_462 21 rfl) (by omega) (iv_v2 (by decide) tq_121 rfl) em_450 (Nat.le_of_ble_eq_true rfl) rfl (tm_pinOf w (d - 1) (by omega) _ _ _) (fun r5 s5 => ?_)
    refine e_mv 40 em_462 (ce_at ce_462 22 rfl) rfl rfl ?_
    refine e_mv 42 em_462 (ce_at ce_462 23 rfl) rfl rfl ?_
    refine e_op 43 em_462 (ce_at ce_462 24 rfl) rfl rfl ?_
    refine e_gd fun g6 => ?_
    refine e_cmne 194 46 em_462 rfl rfl (ce_at ce_462 25 rfl) g6 (by decide) (fun h7 => ?_) (fun h7 => ?_)
    · refine e_mv 195 em_462 (ce_at ce_462 107 rfl) rfl rfl ?_
      refine e_getr 198 em_462 (ce_at ce_462 108 rfl) tq_121 rfl rfl ?_
      refine e_mv 200 em_462 (ce_at ce_462 109 rfl) rfl rfl ?_
      refine e_gd fun g8 => ?_
      refine e_zld 201 em_462 (ce_at ce_462 110 rfl) tq_197 (by decide) g8 rfl ?_
      refine e_mv 202 em_462 (ce_at ce_462 111 rfl) rfl rfl ?_
      refine e_gd fun g9 => ?_
      refine e_gd fun g10 => ?_
      refine e_cmeq 213 205 em_462 rfl rfl (ce_at ce_462 112 rfl) g9 g10 (fun h11 => ?_) (fun h11 => ?_)
      · refine e_mv 214 em_462 (ce_at ce_462 118 rfl) rfl rfl ?_
        refine e_getr 217 em_462 (ce_at ce_462 119 rfl) tq_121 rfl rfl ?_
        refine e_mv 219 em_462 (ce_at ce_462 120 rfl) rfl rfl ?_
        refine e_ild 220 em_462 (ce_at ce_462 121 rfl) tq_199 (by decide) g8 rfl ?_
        refine e_mv 222 em_462 (ce_at ce_462 122 rfl) rfl rfl ?_
        refine e_mv 223 em_462 (ce_at ce_462 123 rfl) rfl rfl ?_
        refine e_mv 224 em_462 (ce_at ce_462 124 rfl) rfl rfl ?_
        refine e_getr 227 em_462 (ce_at ce_462 125 rfl) tq_121 rfl rfl ?_
        refine e_mv 228 em_462 (ce_at ce_462 126 rfl) rfl rfl ?_
        refine e_ild 229 em_462 (ce_at ce_462 127 rfl) tq_209 (by decide) g1 rfl ?_
        refine e_mv 230 em_462 (ce_at ce_462 128 rfl) rfl rfl ?_
        refine e_getr 233 em_462 (ce_at ce_462 129 rfl) tq_121 rfl rfl ?_
        refine e_mv 234 em_462 (ce_at ce_462 130 rfl) rfl rfl ?_
        refine e_ild 235 em_462 (ce_at ce_462 131 rfl) tq_210 (by decide) g1 rfl ?_
        refine e_mv 236 em_462 (ce_at ce_462 132 rfl) rfl rfl ?_
        refine e_getr 239 em_462 (ce_at ce_462 133 rfl) tq_121 rfl rfl ?_
        refine e_mv 240 em_462 (ce_at ce_462 134 rfl) rfl rfl ?_
        refine e_ild 241 em_462 (ce_at ce_462 135 rfl) tq_211 (by decide) g1 rfl ?_
        refine e_mv 243 em_462 (ce_at ce_462 136 rfl) rfl rfl ?_
        refine e_ivi 246 em_462 (ce_at ce_462 137 rfl) (by omega) (iv_v4 (by decide) tq_121 rfl) em_459 (Nat.le_of_ble_eq_true rfl) rfl (tm_rangeFits w (d - 1) (by omega) _ _ _ _ _) (fun r12 s12 => ?_)
        refine e_gd fun g13 => ?_
        refine e_ifne 261 249 em_462 rfl rfl (ce_at ce_462 138 rfl) g13 (fun h14 => ?_) (fun h14 => ?_)
        · refine e_mv 262 em_462 (ce_at ce_462 147 rfl) rfl rfl ?_
          refine e_mv 263 em_462 (ce_at ce_462 148 rfl) rfl rfl ?_
          refine e_getr 266 em_462 (ce_at ce_462 149 rfl) tq_121 rfl rfl ?_
          refine e_mv 267 em_462 (ce_at ce_462 150 rfl) rfl rfl ?_
          refine e_ild 268 em_462 (ce_at ce_462 151 rfl) tq_209 (by decide) g1 rfl ?_
          refine e_mv 269 em_462 (ce_at ce_462 152 rfl) rfl rfl ?_
          refine e_getr 272 em_462 (ce_at ce_462 153 rfl) tq_121 rfl rfl ?_
          refine e_mv 273 em_462 (ce_at ce_462 154 rfl) rfl rfl ?_
          refine e_ild 274 em_462 (ce_at ce_462 155 rfl) tq_210 (by decide) g1 rfl ?_
          refine e_mv 275 em_462 (ce_at ce_462 156 rfl) rfl rfl ?_
          refine e_getr 278 em_462 (ce_at ce_462 157 rfl) tq_121 rfl rfl ?_
          refine e_mv 279 em_462 (ce_at ce_462 158 rfl) rfl rfl ?_
          refine e_ild 280 em_462 (ce_at ce_462 159 rfl) tq_211 (by decide) g1 rfl ?_
          refine e_mv 282 em_462 (ce_at ce_462 160 rfl) rfl rfl ?_
          refine e_ivi 285 em_462 (ce_at ce_462 161 rfl) (by omega) (iv_v4 (by decide) tq_121 rfl) em_460 (Nat.le_of_ble_eq_true rfl) rfl (tm_bitsOf w (d - 1) (by omega) _ _ _ _ _) (fun r15 s15 => ?_)
          refine e_mv 287 em_462 (ce_at ce_462 162 rfl) rfl rfl ?_
          refine e_mv 289 em_462 (ce_at ce_462 163 rfl) rfl rfl ?_
          refine e_op 290 em_462 (ce_at ce_462 164 rfl) rfl rfl ?_
          refine e_gd fun g16 => ?_
          refine e_cmeq 307 293 em_462 rfl rfl (ce_at ce_462 165 rfl) g16 (by decide) (fun h17 => ?_) (fun h17 => ?_)
          · refine e_pk [0, 2, 3, 5, 6, 8] rfl rfl ?_
            exact tm_checkRight_307 w d hd _ _ _ _ _ _
          · refine e_mv 295 em_462 (ce_at ce_462 166 rfl) rfl rfl ?_
            refine e_mv 297 em_462 (ce_at ce_462 167 rfl) rfl rfl ?_
            refine e_gd fun g18 => ?_
            refine e_cmeq 307 300 em_462 rfl rfl (ce_at ce_462 168 rfl) g18 g16 (fun h19 => ?_) (fun h19 => ?_)
            · refine e_pk [0, 2, 3, 5, 6, 8] rfl rfl ?_
              exact tm_checkRight_307 w d hd _ _ _ _ _ _
            · refine e_mv 301 em_462 (ce_at ce_462 169 rfl) rfl rfl ?_
              refine e_op 302 em_462 (ce_at ce_462 170 rfl) rfl rfl ?_
              refine e_mv 304 em_462 (ce_at ce_462 171 rfl) rfl rfl ?_
              refine e_ivv 307 em_462 (ce_at ce_462 172 rfl) (by omega) (iv_v2 (by decide) tq_121 rfl) em_351 (Nat.le_of_ble_eq_true rfl) rfl (tm_note w (d - 1) (by omega) _ _ _) (fun r20 s20 => ?_)
              refine e_pk [0, 2, 3, 5, 6, 8] rfl rfl ?_
              exact tm_checkRight_307 w d hd _ _ _ _ _ _
        · refine e_mv 250 em_462 (ce_at ce_462 139 rfl) rfl rfl ?_
          refine e_op 251 em_462 (ce_at ce_462 140 rfl) rfl rfl ?_
          refine e_mv 252 em_462 (ce_at ce_462 141 rfl) rfl rfl ?_
          refine e_getr 255 em_462 (ce_at ce_462 142 rfl) tq_121 rfl rfl ?_
          refine e_mv 256 em_462 (ce_at ce_462 143 rfl) rfl rfl ?_
          refine e_ild 257 em_462 (ce_at ce_462 144 rfl) tq_209 (by decide) g1 rfl ?_
          refine e_ivv 260 em_462 (ce_at ce_462 145 rfl) (by omega) (iv_v2 (by decide) tq_121 rfl) em_351 (Nat.le_of_ble_eq_true rfl) rfl (tm_note w (d - 1) (by omega) _ _ _) (fun r21 s21 => ?_)
          exact e_retv em_462 (ce_at ce_462 146 rfl)
      · refine e_mv 206 em_462 (ce_at ce_462 113 rfl) rfl rfl ?_
        refine e_op 207 em_462 (ce_at ce_462 114 rfl) rfl rfl ?_
        refine e_mv 209 em_462 (ce_at ce_462 115 rfl) rfl rfl ?_
        refine e_ivv 212 em_462 (ce_at ce_462 116 rfl) (by omega) (iv_v2 (by decide) tq_121 rfl) em_351 (Nat.le_of_ble_eq_true rfl) rfl (tm_note w (d - 1) (by omega) _ _ _) (fun r22 s22 => ?_)
        exact e_retv em_462 (ce_at ce_462 117 rfl)
    · refine e_mv 47 em_462 (ce_at ce_462 26 rfl) rfl rfl ?_
      refine e_mv 48 em_462 (ce_at ce_462 27 rfl) rfl rfl ?_
      refine e_mv 50 em_462 (ce_at ce_462 28 rfl) rfl rfl ?_
      refine e_ivi 53 em_462 (ce_at ce_462 29 rfl) (by omega) (iv_v2 (by decide) tq_121 rfl) em_451 (Nat.le_of_ble_eq_true rfl) rfl (tm_innerOf w (d - 1) (by omega) _ _ _) (fun r23 s23 => ?_)
      refine e_mv 55 em_462 (ce_at ce_462 30 rfl) rfl rfl ?_
      refine e_mv 56 em_462 (ce_at ce_462 31 rfl) rfl rfl ?_
      refine e_getr 59 em_462 (ce_at ce_462 32 rfl) tq_121 rfl rfl ?_
      refine e_mv 60 em_462 (ce_at ce_462 33 rfl) rfl rfl ?_
      refine e_ild 61 em_462 (ce_at ce_462 34 rfl) tq_209 (by decide) g1 rfl ?_
      refine e_op 62 em_462 (ce_at ce_462 35 rfl) rfl rfl ?_
      refine e_gd fun g24 => ?_
      refine e_cmeq 76 65 em_462 rfl rfl (ce_at ce_462 36 rfl) g24 (by decide) (fun h25 => ?_) (fun h25 => ?_)
      · refine e_pk [0, 2, 3, 4, 5, 7] rfl rfl ?_
        exact tm_checkRight_76 w d hd _ _ _ _ _ _
      · refine e_mv 66 em_462 (ce_at ce_462 37 rfl) rfl rfl ?_
        refine e_op 67 em_462 (ce_at ce_462 38 rfl) rfl rfl ?_
        refine e_mv 68 em_462 (ce_at ce_462 39 rfl) rfl rfl ?_
        refine e_getr 71 em_462 (ce_at ce_462 40 rfl) tq_121 rfl rfl ?_
        refine e_mv 72 em_462 (ce_at ce_462 41 rfl) rfl rfl ?_
        refine e_ild 73 em_462 (ce_at ce_462 42 rfl) tq_209 (by decide) g1 rfl ?_
        refine e_ivv 76 em_462 (ce_at ce_462 43 rfl) (by omega) (iv_v2 (by decide) tq_121 rfl) em_351 (Nat.le_of_ble_eq_true rfl) rfl (tm_note w (d - 1) (by omega) _ _ _) (fun r26 s26 => ?_)
        refine e_pk [0, 2, 3, 4, 5, 7] rfl rfl ?_
        exact tm_checkRight_76 w d hd _ _ _ _ _ _
  · refine e_mv 20 em_462 (ce_at ce_462 11 rfl) rfl rfl ?_
    refine e_gd fun g27 => ?_
    refine e_ifeq 30 23 em_462 rfl rfl (ce_at ce_462 12 rfl) g27 (fun h28 => ?_) (fun h28 => ?_)
    · exact e_retv em_462 (ce_at ce_462 17 rfl)
    · refine e_mv 24 em_462 (ce_at ce_462 13 rfl) rfl rfl ?_
      refine e_op 25 em_462 (ce_at ce_462 14 rfl) rfl rfl ?_
      refine e_mv 27 em_462 (ce_at ce_462 15 rfl) rfl rfl ?_
      refine e_ivv 30 em_462 (ce_at ce_462 16 rfl) (by omega) (iv_v2 (by decide) tq_121 rfl) em_351 (Nat.le_of_ble_eq_true rfl) rfl (tm_note w (d - 1) (by omega) _ _ _) (fun r29 s29 => ?_)
      exact e_retv em_462 (ce_at ce_462 17 rfl)
theorem fm_checkRight (v1 : Int) (v2 : Int) (v3 : Int) (v4 : Int) (s : iS) : Fm Prod.snd L_m_checkRight G_m_checkRight s (m_checkRight v1 v2 v3 v4 s) := fm_gd (fm_gd (fm_gd (fm_if (fm_bd (fm_sub (fm_pinOf _ _ _) (mem_sub_L rfl) (mem_sub_F rfl)) (fun r5 s5 => fm_gd (fm_if (fm_bd (fm_sub (fm_innerOf _ _ _) (mem_sub_L rfl) (mem_sub_F rfl)) (fun r23 s23 => fm_gd (fm_if (fm_checkRight_76 _ _ _ _ _ _) (fm_bd (fm_sub (fm_note _ _ _) (mem_sub_L rfl) (mem_sub_F rfl)) (fun r26 s26 => fm_checkRight_76 _ _ _ _ _ _))))) (fm_gd (fm_gd (fm_gd (fm_if (fm_bd (fm_sub (fm_rangeFits _ _ _ _ _) (mem_sub_L rfl) (mem_sub_F rfl)) (fun r12 s12 => fm_gd (fm_if (fm_bd (fm_sub (fm_note _ _ _) (mem_sub_L rfl) (mem_sub_F rfl)) (fun r21 s21 => fm_some md_refl)) (fm_bd (fm_sub (fm_bitsOf _ _ _ _ _) (mem_sub_L rfl) (mem_sub_F rfl)) (fun r15 s15 => fm_gd (fm_if (fm_checkRight_307 _ _ _ _ _ _) (fm_gd (fm_if (fm_checkRight_307 _ _ _ _ _ _) (fm_bd (fm_sub (fm_note _ _ _) (mem_sub_L rfl) (mem_sub_F rfl)) (fun r20 s20 => fm_checkRight_307 _ _ _ _ _ _)))))))))) (fm_bd (fm_sub (fm_note _ _ _) (mem_sub_L rfl) (mem_sub_F rfl)) (fun r22 s22 => fm_some md_refl))))))))) (fm_gd (fm_if (fm_some md_refl) (fm_bd (fm_sub (fm_note _ _ _) (mem_sub_L rfl) (mem_sub_F rfl)) (fun r29 s29 => fm_some md_refl)))))))
/-! m_checkLinks -/
def L_m_checkLinks : List Nat := [215, 217, 218]
def G_m_checkLinks : List (Nat × Nat) := [(121, 69), (121, 70)]
def m_checkLinks_2C (w : ev_W) (d : Nat) (v1 : Int) : (Int × iS) ⊕ (iS) → am_E → Prop := fun q r => q.elim (fun l => ev w d 461 2 ((fun l => [(0, .ref (tb_nK + 121)), (1, iv v1), (2, iv (l.1))]) l) [] (hT ((fun l => l.2) l)) r) (fun e => (fun e r => ev w d 461 22 [(0, .ref (tb_nK + 121)), (1, iv v1)] [] (hT (e)) r) e r)
noncomputable def m_checkLinks_2b (v1 : Int) (v2 : Int) (s : iS) : Option ((Int × iS) ⊕ (iS)) := gd (rg v2) (if 200 ≤ v2 then some (.inr s) else gd (0 ≤ v2 ∧ v2 < 200) (lt' (up s 218 v2.toNat 0) (fun s4 => some (.inl ((v2 + 1), s4)))))
theorem tm_checkLinks_2b (w : ev_W) (d : Nat) (hd : 3 ≤ d) (v1 : Int) (v2 : Int) (s : iS) : Ew hT w d 461 2 [(0, .ref (tb_nK + 121)), (1, iv v1), (2, iv v2)] [] s (m_checkLinks_2C w d v1) (m_checkLinks_2b v1 v2 s) := by
  unfold m_checkLinks_2b
  refine e_mv 3 em_461 (ce_at ce_461 2 rfl) rfl rfl ?_
  refine e_sip 6 em_461 (ce_at ce_461 3 rfl) (by decide) rfl ?_
  refine e_gd fun g1 => ?_
  refine e_cmge 22 9 em_461 rfl rfl (ce_at ce_461 4 rfl) g1 (by decide) (fun h2 => ?_) (fun h2 => ?_)
  · refine e_pk [0, 1] rfl rfl ?_
    exact e_out (fun r h => h)
  · refine e_mv 10 em_461 (ce_at ce_461 5 rfl) rfl rfl ?_
    refine e_getr 13 em_461 (ce_at ce_461 6 rfl) tq_121 rfl rfl ?_
    refine e_mv 14 em_461 (ce_at ce_461 7 rfl) rfl rfl ?_
    refine e_op 15 em_461 (ce_at ce_461 8 rfl) rfl rfl ?_
    refine e_gd fun g3 => ?_
    refine e_ist 16 em_461 (ce_at ce_461 9 rfl) tq_218 (by decide) g3 rfl (fun s4 => ?_)
    refine e_iinc 19 em_461 (ce_at ce_461 10 rfl) rfl (by decide) rfl ?_
    refine e_goto em_461 2 (ce_at ce_461 11 rfl) rfl ?_
    refine e_pk [0, 1, 2] rfl rfl ?_
    exact e_out (fun r h => h)
theorem fm_checkLinks_2b (v1 : Int) (v2 : Int) (s : iS) : Fm (fun r : (Int × iS) ⊕ (iS) => r.elim (fun l => l.2) (fun e => e)) L_m_checkLinks G_m_checkLinks s (m_checkLinks_2b v1 v2 s) := fm_gd (fm_if (fm_some md_refl) (fm_gd (fm_lt (md_upL (mem_L rfl)) (fun s4 => fm_some md_refl))))
def m_checkLinks_70C (w : ev_W) (d : Nat) (v1 : Int) (v2 : Int) (v3 : Int) : (Int × iS) ⊕ (iS) → am_E → Prop := fun q r => q.elim (fun l => ev w d 461 70 ((fun l => [(0, .ref (tb_nK + 121)), (1, iv v1), (2, iv v2), (3, iv v3), (4, iv (l.1))]) l) [] (hT ((fun l => l.2) l)) r) (fun e => (fun e r => ev w d 461 92 [(0, .ref (tb_nK + 121)), (1, iv v1), (2, iv v2), (3, iv v3)] [] (hT (e)) r) e r)
noncomputable def m_checkLinks_70b (v1 : Int) (v2 : Int) (v3 : Int) (v4 : Int) (s : iS) : Option ((Int × iS) ⊕ (iS)) := gd (rg v4) (if 200 ≤ v4 then some (.inr s) else gd (0 ≤ v4 ∧ v4 < 200) (lt' (up s 217 v4.toNat 0) (fun s4 => some (.inl ((v4 + 1), s4)))))
theorem tm_checkLinks_70b (w : ev_W) (d : Nat) (hd : 3 ≤ d) (v1 : Int) (v2 : Int) (v3 : Int) (v4 : Int) (s : iS) : Ew hT w d 461 70 [(0, .ref (tb_nK + 121)), (1, iv v1), (2, iv v2), (3, iv v3), (4, iv v4)] [] s (m_checkLinks_70C w d v1 v2 v3) (m_checkLinks_70b v1 v2 v3 v4 s) := by
  unfold m_checkLinks_70b
  refine e_mv 72 em_461 (ce_at ce_461 43 rfl) rfl rfl ?_
  refine e_sip 75 em_461 (ce_at ce_461 44 rfl) (by decide) rfl ?_
  refine e_gd fun g1 => ?_
  refine e_cmge 92 78 em_461 rfl rfl (ce_at ce_461 45 rfl) g1 (by decide) (fun h2 => ?_) (fun h2 => ?_)
  · refine e_pk [0, 1, 2, 3] rfl rfl ?_
    exact e_out (fun r h => h)
  · refine e_mv 79 em_461 (ce_at ce_461 46 rfl) rfl rfl ?_
    refine e_getr 82 em_461 (ce_at ce_461 47 rfl) tq_121 rfl rfl ?_
    refine e_mv 84 em_461 (ce_at ce_461 48 rfl) rfl rfl ?_
    refine e_op 85 em_461 (ce_at ce_461 49 rfl) rfl rfl ?_
    refine e_gd fun g3 => ?_
    refine e_ist 86 em_461 (ce_at ce_461 50 rfl) tq_217 (by decide) g3 rfl (fun s4 => ?_)
    refine e_iinc 89 em_461 (ce_at ce_461 51 rfl) rfl (by decide) rfl ?_
    refine e_goto em_461 70 (ce_at ce_461 52 rfl) rfl ?_
    refine e_pk [0, 1, 2, 3, 4] rfl rfl ?_
    exact e_out (fun r h => h)
theorem fm_checkLinks_70b (v1 : Int) (v2 : Int) (v3 : Int) (v4 : Int) (s : iS) : Fm (fun r : (Int × iS) ⊕ (iS) => r.elim (fun l => l.2) (fun e => e)) L_m_checkLinks G_m_checkLinks s (m_checkLinks_70b v1 v2 v3 v4 s) := fm_gd (fm_if (fm_some md_refl) (fm_gd (fm_lt (md_upL (mem_L rfl)) (fun s4 => fm_some md_refl))))
def m_checkLinks_100C (w : ev_W) (d : Nat) (v1 : Int) (v2 : Int) (v3 : Int) : (Int × iS) ⊕ (iS) → am_E → Prop := fun q r => q.elim (fun l => ev w d 461 100 ((fun l => [(0, .ref (tb_nK + 121)), (1, iv v1), (2, iv v2), (3, iv v3), (4, iv (l.1))]) l) [] (hT ((fun l => l.2) l)) r) (fun e => (fun e r => ev w d 461 350 [(0, .ref (tb_nK + 121)), (1, iv v1), (2, iv v2)] [] (hT (e)) r) e r)
noncomputable def m_checkLinks_333 (v1 : Int) (v2 : Int) (v3 : Int) (v4 : Int) (v8 : Int) (v9 : Int) (s : iS) : Option ((Int × iS) ⊕ (iS)) := bd (m_checkRight v1 v4 v9 v8 s) (fun _ s1 => some (.inl ((v4 + 1), s1)))
theorem tm_checkLinks_333 (w : ev_W) (d : Nat) (hd : 3 ≤ d) (v1 : Int) (v2 : Int) (v3 : Int) (v4 : Int) (v8 : Int) (v9 : Int) (s : iS) : Ew hT w d 461 333 [(0, .ref (tb_nK + 121)), (1, iv v1), (2, iv v2), (3, iv v3), (4, iv v4), (8, iv v8), (9, iv v9)] [] s (m_checkLinks_100C w d v1 v2 v3) (m_checkLinks_333 v1 v2 v3 v4 v8 v9 s) := by
  unfold m_checkLinks_333
  refine e_mv 334 em_461 (ce_at ce_461 187 rfl) rfl rfl ?_
  refine e_mv 335 em_461 (ce_at ce_461 188 rfl) rfl rfl ?_
  refine e_mv 337 em_461 (ce_at ce_461 189 rfl) rfl rfl ?_
  refine e_mv 339 em_461 (ce_at ce_461 190 rfl) rfl rfl ?_
  refine e_mv 341 em_461 (ce_at ce_461 191 rfl) rfl rfl ?_
  refine e_ivv 344 em_461 (ce_at ce_461 192 rfl) (by omega) (iv_v4 (by decide) tq_121 rfl) em_462 (Nat.le_of_ble_eq_true rfl) rfl (tm_checkRight w (d - 1) (by omega) _ _ _ _ _) (fun r1 s1 => ?_)
  refine e_iinc 347 em_461 (ce_at ce_461 193 rfl) rfl (by decide) rfl ?_
  refine e_goto em_461 100 (ce_at ce_461 194 rfl) rfl ?_
  refine e_pk [0, 1, 2, 3, 4] rfl rfl ?_
  exact e_out (fun r h => h)
theorem fm_checkLinks_333 (v1 : Int) (v2 : Int) (v3 : Int) (v4 : Int) (v8 : Int) (v9 : Int) (s : iS) : Fm (fun r : (Int × iS) ⊕ (iS) => r.elim (fun l => l.2) (fun e => e)) L_m_checkLinks G_m_checkLinks s (m_checkLinks_333 v1 v2 v3 v4 v8 v9 s) := fm_bd (fm_sub (fm_checkRight _ _ _ _ _) (mem_sub_L rfl) (mem_sub_F rfl)) (fun r1 s1 => fm_some md_refl)
noncomputable def m_checkLinks_316 (v1 : Int) (v2 : Int) (v3 : Int) (v4 : Int) (v5 : Int) (v8 : Int) (v9 : Int) (v10 : Int) (s : iS) : Option ((Int × iS) ⊕ (iS)) := gd (0 ≤ v5 ∧ v5 < 200) (lt' (up s 217 v5.toNat (i_or (s 217 v5.toNat) v10)) (fun s2 => m_checkLinks_333 v1 v2 v3 v4 v8 v9 s2))
theorem tm_checkLinks_316 (w : ev_W) (d : Nat) (hd : 3 ≤ d) (v1 : Int) (v2 : Int) (v3 : Int) (v4 : Int) (v5 : Int) (v8 : Int) (v9 : Int) (v10 : Int) (s : iS) : Ew hT w d 461 316 [(0, .ref (tb_nK + 121)), (1, iv v1), (2, iv v2), (3, iv v3), (4, iv v4), (5, iv v5), (8, iv v8), (9, iv v9), (10, iv v10)] [] s (m_checkLinks_100C w d v1 v2 v3) (m_checkLinks_316 v1 v2 v3 v4 v5 v8 v9 v10 s) := by
  unfold m_checkLinks_316
  refine e_mv 317 em_461 (ce_at ce_461 177 rfl) rfl rfl ?_
  refine e_getr 320 em_461 (ce_at ce_461 178 rfl) tq_121 rfl rfl ?_
  refine e_mv 322 em_461 (ce_at ce_461 179 rfl) rfl rfl ?_
  refine e_mv 323 em_461 (ce_at ce_461 180 rfl) rfl rfl ?_
  refine e_getr 326 em_461 (ce_at ce_461 181 rfl) tq_121 rfl rfl ?_
  refine e_mv 328 em_461 (ce_at ce_461 182 rfl) rfl rfl ?_
  refine e_gd fun g1 => ?_
  refine e_ild 329 em_461 (ce_at ce_461 183 rfl) tq_217 (by decide) g1 rfl ?_
  refine e_mv 331 em_461 (ce_at ce_461 184 rfl) rfl rfl ?_
  refine e_ior 332 em_461 rfl (ce_at ce_461 185 rfl) ?_
  refine e_ist 333 em_461 (ce_at ce_461 186 rfl) tq_217 (by decide) g1 rfl (fun s2 => ?_)
  refine e_pk [0, 1, 2, 3, 4, 8, 9] rfl rfl ?_
  exact tm_checkLinks_333 w d hd _ _ _ _ _ _ _
theorem fm_checkLinks_316 (v1 : Int) (v2 : Int) (v3 : Int) (v4 : Int) (v5 : Int) (v8 : Int) (v9 : Int) (v10 : Int) (s : iS) : Fm (fun r : (Int × iS) ⊕ (iS) => r.elim (fun l => l.2) (fun e => e)) L_m_checkLinks G_m_checkLinks s (m_checkLinks_316 v1 v2 v3 v4 v5 v8 v9 v10 s) := fm_gd (fm_lt (md_upL (mem_L rfl)) (fun s2 => fm_checkLinks_333 _ _ _ _ _ _ _))
noncomputable def m_checkLinks_288 (v1 : Int) (v2 : Int) (v3 : Int) (v4 : Int) (v5 : Int) (v8 : Int) (v9 : Int) (t0 : Int) (t1 : Int) (s : iS) : Option ((Int × iS) ⊕ (iS)) := gd (0 ≤ v5 ∧ v5 < 200) (gd (rg (i_and (s 217 v5.toNat) (i_shl t1 t0))) (if (i_and (s 217 v5.toNat) (i_shl t1 t0)) = 0 then m_checkLinks_316 v1 v2 v3 v4 v5 v8 v9 (i_shl t1 t0) s else gd (0 ≤ v4 ∧ v4 < 700) (bd (m_note 3 (s 204 v4.toNat) s) (fun _ s5 => m_checkLinks_316 v1 v2 v3 v4 v5 v8 v9 (i_shl t1 t0) s5))))
theorem tm_checkLinks_288 (w : ev_W) (d : Nat) (hd : 3 ≤ d) (v1 : Int) (v2 : Int) (v3 : Int) (v4 : Int) (v5 : Int) (v8 : Int) (v9 : Int) (t0 : Int) (t1 : Int) (s : iS) : Ew hT w d 461 288 [(0, .ref (tb_nK + 121)), (1, iv v1), (2, iv v2), (3, iv v3), (4, iv v4), (5, iv v5), (8, iv v8), (9, iv v9)] [iv t0, iv t1] s (m_checkLinks_100C w d v1 v2 v3) (m_checkLinks_288 v1 v2 v3 v4 v5 v8 v9 t0 t1 s) := by
  unfold m_checkLinks_288
  refine e_ishl 289 em_461 rfl (ce_at ce_461 161 rfl) ?_
  refine e_mv 291 em_461 (ce_at ce_461 162 rfl) rfl rfl ?_
  refine e_mv 292 em_461 (ce_at ce_461 163 rfl) rfl rfl ?_
  refine e_getr 295 em_461 (ce_at ce_461 164 rfl) tq_121 rfl rfl ?_
  refine e_mv 297 em_461 (ce_at ce_461 165 rfl) rfl rfl ?_
  refine e_gd fun g1 => ?_
  refine e_ild 298 em_461 (ce_at ce_461 166 rfl) tq_217 (by decide) g1 rfl ?_
  refine e_mv 300 em_461 (ce_at ce_461 167 rfl) rfl rfl ?_
  refine e_iand 301 em_461 rfl (ce_at ce_461 168 rfl) ?_
  refine e_gd fun g2 => ?_
  refine e_ifeq 316 304 em_461 rfl rfl (ce_at ce_461 169 rfl) g2 (fun h3 => ?_) (fun h3 => ?_)
  · refine e_pk [0, 1, 2, 3, 4, 5, 8, 9, 10] rfl rfl ?_
    exact tm_checkLinks_316 w d hd _ _ _ _ _ _ _ _ _
  · refine e_mv 305 em_461 (ce_at ce_461 170 rfl) rfl rfl ?_
    refine e_op 306 em_461 (ce_at ce_461 171 rfl) rfl rfl ?_
    refine e_mv 307 em_461 (ce_at ce_461 172 rfl) rfl rfl ?_
    refine e_getr 310 em_461 (ce_at ce_461 173 rfl) tq_121 rfl rfl ?_
    refine e_mv 312 em_461 (ce_at ce_461 174 rfl) rfl rfl ?_
    refine e_gd fun g4 => ?_
    refine e_ild 313 em_461 (ce_at ce_461 175 rfl) tq_204 (by decide) g4 rfl ?_
    refine e_ivv 316 em_461 (ce_at ce_461 176 rfl) (by omega) (iv_v2 (by decide) tq_121 rfl) em_351 (Nat.le_of_ble_eq_true rfl) rfl (tm_note w (d - 1) (by omega) _ _ _) (fun r5 s5 => ?_)
    refine e_pk [0, 1, 2, 3, 4, 5, 8, 9, 10] rfl rfl ?_
    exact tm_checkLinks_316 w d hd _ _ _ _ _ _ _ _ _
theorem fm_checkLinks_288 (v1 : Int) (v2 : Int) (v3 : Int) (v4 : Int) (v5 : Int) (v8 : Int) (v9 : Int) (t0 : Int) (t1 : Int) (s : iS) : Fm (fun r : (Int × iS) ⊕ (iS) => r.elim (fun l => l.2) (fun e => e)) L_m_checkLinks G_m_checkLinks s (m_checkLinks_288 v1 v2 v3 v4 v5 v8 v9 t0 t1 s) := fm_gd (fm_gd (fm_if (fm_checkLinks_316 _ _ _ _ _ _ _ _ _) (fm_gd (fm_bd (fm_sub (fm_note _ _ _) (mem_sub_L rfl) (mem_sub_F rfl)) (fun r5 s5 => fm_checkLinks_316 _ _ _ _ _ _ _ _ _)))))
noncomputable def m_checkLinks_241 (v1 : Int) (v2 : Int) (v3 : Int) (v4 : Int) (v5 : Int) (v7 : Int) (v8 : Int) (s : iS) : Option ((Int × iS) ⊕ (iS)) := bd (m_isOut v3 v5 s) (fun r1 s1 => gd (rg v7) (if v7 = 0 then m_checkLinks_333 v1 v2 v3 v4 v8 r1 s1 else gd (rg r1) (if r1 = 0 then gd (0 ≤ v4 ∧ v4 < 700) (gd (rg (s1 205 v4.toNat)) (if (s1 205 v4.toNat) = (-1) then m_checkLinks_288 v1 v2 v3 v4 v5 v8 r1 0 ((i_shl 1 v8) - 1) s1 else m_checkLinks_288 v1 v2 v3 v4 v5 v8 r1 (s1 206 v4.toNat) ((i_shl 1 v8) - 1) s1)) else m_checkLinks_333 v1 v2 v3 v4 v8 r1 s1)))
theorem tm_checkLinks_241 (w : ev_W) (d : Nat) (hd : 3 ≤ d) (v1 : Int) (v2 : Int) (v3 : Int) (v4 : Int) (v5 : Int) (v7 : Int) (v8 : Int) (s : iS) : Ew hT w d 461 241 [(0, .ref (tb_nK + 121)), (1, iv v1), (2, iv v2), (3, iv v3), (4, iv v4), (5, iv v5), (7, iv v7), (8, iv v8)] [] s (m_checkLinks_100C w d v1 v2 v3) (m_checkLinks_241 v1 v2 v3 v4 v5 v7 v8 s) := by
  unfold m_checkLinks_241
  refine e_mv 242 em_461 (ce_at ce_461 135 rfl) rfl rfl ?_
  refine e_mv 243 em_461 (ce_at ce_461 136 rfl) rfl rfl ?_
  refine e_mv 245 em_461 (ce_at ce_461 137 rfl) rfl rfl ?_
  refine e_ivi 248 em_461 (ce_at ce_461 138 rfl) (by omega) (iv_v2 (by decide) tq_121 rfl) em_457 (Nat.le_of_ble_eq_true rfl) rfl (tm_isOut w (d - 1) (by omega) _ _ _) (fun r1 s1 => ?_)
  refine e_mv 250 em_461 (ce_at ce_461 139 rfl) rfl rfl ?_
  refine e_mv 252 em_461 (ce_at ce_461 140 rfl) rfl rfl ?_
  refine e_gd fun g2 => ?_
  refine e_ifeq 333 255 em_461 rfl rfl (ce_at ce_461 141 rfl) g2 (fun h3 => ?_) (fun h3 => ?_)
  · refine e_pk [0, 1, 2, 3, 4, 8, 9] rfl rfl ?_
    exact tm_checkLinks_333 w d hd _ _ _ _ _ _ _
  · refine e_mv 257 em_461 (ce_at ce_461 142 rfl) rfl rfl ?_
    refine e_gd fun g4 => ?_
    refine e_ifne 333 260 em_461 rfl rfl (ce_at ce_461 143 rfl) g4 (fun h5 => ?_) (fun h5 => ?_)
    · refine e_pk [0, 1, 2, 3, 4, 8, 9] rfl rfl ?_
      exact tm_checkLinks_333 w d hd _ _ _ _ _ _ _
    · refine e_op 261 em_461 (ce_at ce_461 144 rfl) rfl rfl ?_
      refine e_mv 263 em_461 (ce_at ce_461 145 rfl) rfl rfl ?_
      refine e_ishl 264 em_461 rfl (ce_at ce_461 146 rfl) ?_
      refine e_op 265 em_461 (ce_at ce_461 147 rfl) rfl rfl ?_
      refine e_isub 266 em_461 rfl (ce_at ce_461 148 rfl) ?_
      refine e_mv 267 em_461 (ce_at ce_461 149 rfl) rfl rfl ?_
      refine e_getr 270 em_461 (ce_at ce_461 150 rfl) tq_121 rfl rfl ?_
      refine e_mv 272 em_461 (ce_at ce_461 151 rfl) rfl rfl ?_
      refine e_gd fun g6 => ?_
      refine e_ild 273 em_461 (ce_at ce_461 152 rfl) tq_205 (by decide) g6 rfl ?_
      refine e_op 274 em_461 (ce_at ce_461 153 rfl) rfl rfl ?_
      refine e_gd fun g7 => ?_
      refine e_cmne 281 277 em_461 rfl rfl (ce_at ce_461 154 rfl) g7 (by decide) (fun h8 => ?_) (fun h8 => ?_)
      · refine e_mv 282 em_461 (ce_at ce_461 157 rfl) rfl rfl ?_
        refine e_getr 285 em_461 (ce_at ce_461 158 rfl) tq_121 rfl rfl ?_
        refine e_mv 287 em_461 (ce_at ce_461 159 rfl) rfl rfl ?_
        refine e_ild 288 em_461 (ce_at ce_461 160 rfl) tq_206 (by decide) g6 rfl ?_
        refine e_pk [0, 1, 2, 3, 4, 5, 8, 9] rfl rfl ?_
        exact tm_checkLinks_288 w d hd _ _ _ _ _ _ _ _ _ _
      · refine e_op 278 em_461 (ce_at ce_461 155 rfl) rfl rfl ?_
        refine e_goto em_461 288 (ce_at ce_461 156 rfl) rfl ?_
        refine e_pk [0, 1, 2, 3, 4, 5, 8, 9] rfl rfl ?_
        exact tm_checkLinks_288 w d hd _ _ _ _ _ _ _ _ _ _
theorem fm_checkLinks_241 (v1 : Int) (v2 : Int) (v3 : Int) (v4 : Int) (v5 : Int) (v7 : Int) (v8 : Int) (s : iS) : Fm (fun r : (Int × iS) ⊕ (iS) => r.elim (fun l => l.2) (fun e => e)) L_m_checkLinks G_m_checkLinks s (m_checkLinks_241 v1 v2 v3 v4 v5 v7 v8 s) := fm_bd (fm_sub (fm_isOut _ _ _) (mem_sub_L rfl) (mem_sub_F rfl)) (fun r1 s1 => fm_gd (fm_if (fm_checkLinks_333 _ _ _ _ _ _ _) (fm_gd (fm_if (fm_gd (fm_gd (fm_if (fm_checkLinks_288 _ _ _ _ _ _ _ _ _ _) (fm_checkLinks_288 _ _ _ _ _ _ _ _ _ _)))) (fm_checkLinks_333 _ _ _ _ _ _ _)))))
noncomputable def m_checkLinks_222 (v1 : Int) (v2 : Int) (v3 : Int) (v4 : Int) (v5 : Int) (v7 : Int) (t0 : Int) (s : iS) : Option ((Int × iS) ⊕ (iS)) := gd (rg v7) (if v7 = 0 then gd (0 ≤ v4 ∧ v4 < 700) (bd (m_note 5 (s 205 v4.toNat) s) (fun _ s4 => m_checkLinks_241 v1 v2 v3 v4 v5 v7 t0 s4)) else m_checkLinks_241 v1 v2 v3 v4 v5 v7 t0 s)
theorem tm_checkLinks_222 (w : ev_W) (d : Nat) (hd : 3 ≤ d) (v1 : Int) (v2 : Int) (v3 : Int) (v4 : Int) (v5 : Int) (v7 : Int) (t0 : Int) (s : iS) : Ew hT w d 461 222 [(0, .ref (tb_nK + 121)), (1, iv v1), (2, iv v2), (3, iv v3), (4, iv v4), (5, iv v5), (7, iv v7)] [iv t0] s (m_checkLinks_100C w d v1 v2 v3) (m_checkLinks_222 v1 v2 v3 v4 v5 v7 t0 s) := by
  unfold m_checkLinks_222
  refine e_mv 224 em_461 (ce_at ce_461 125 rfl) rfl rfl ?_
  refine e_mv 226 em_461 (ce_at ce_461 126 rfl) rfl rfl ?_
  refine e_gd fun g1 => ?_
  refine e_ifne 241 229 em_461 rfl rfl (ce_at ce_461 127 rfl) g1 (fun h2 => ?_) (fun h2 => ?_)
  · refine e_pk [0, 1, 2, 3, 4, 5, 7, 8] rfl rfl ?_
    exact tm_checkLinks_241 w d hd _ _ _ _ _ _ _ _
  · refine e_mv 230 em_461 (ce_at ce_461 128 rfl) rfl rfl ?_
    refine e_op 231 em_461 (ce_at ce_461 129 rfl) rfl rfl ?_
    refine e_mv 232 em_461 (ce_at ce_461 130 rfl) rfl rfl ?_
    refine e_getr 235 em_461 (ce_at ce_461 131 rfl) tq_121 rfl rfl ?_
    refine e_mv 237 em_461 (ce_at ce_461 132 rfl) rfl rfl ?_
    refine e_gd fun g3 => ?_
    refine e_ild 238 em_461 (ce_at ce_461 133 rfl) tq_205 (by decide) g3 rfl ?_
    refine e_ivv 241 em_461 (ce_at ce_461 134 rfl) (by omega) (iv_v2 (by decide) tq_121 rfl) em_351 (Nat.le_of_ble_eq_true rfl) rfl (tm_note w (d - 1) (by omega) _ _ _) (fun r4 s4 => ?_)
    refine e_pk [0, 1, 2, 3, 4, 5, 7, 8] rfl rfl ?_
    exact tm_checkLinks_241 w d hd _ _ _ _ _ _ _ _
theorem fm_checkLinks_222 (v1 : Int) (v2 : Int) (v3 : Int) (v4 : Int) (v5 : Int) (v7 : Int) (t0 : Int) (s : iS) : Fm (fun r : (Int × iS) ⊕ (iS) => r.elim (fun l => l.2) (fun e => e)) L_m_checkLinks G_m_checkLinks s (m_checkLinks_222 v1 v2 v3 v4 v5 v7 t0 s) := fm_gd (fm_if (fm_gd (fm_bd (fm_sub (fm_note _ _ _) (mem_sub_L rfl) (mem_sub_F rfl)) (fun r4 s4 => fm_checkLinks_241 _ _ _ _ _ _ _ _))) (fm_checkLinks_241 _ _ _ _ _ _ _ _))
noncomputable def m_checkLinks_100b (v1 : Int) (v2 : Int) (v3 : Int) (v4 : Int) (s : iS) : Option ((Int × iS) ⊕ (iS)) := gd (0 ≤ (v2 + 1) ∧ (v2 + 1) < 401) (gd (rg v4) (gd (rg (s 203 (v2 + 1).toNat)) (if (s 203 (v2 + 1).toNat) ≤ v4 then some (.inr s) else gd (0 ≤ v4 ∧ v4 < 700) (bd (m_pinOfPart v3 (s 204 v4.toNat) s) (fun r6 s6 => gd (rg r6) (if r6 = (-1) then bd (m_note 4 (s6 204 v4.toNat) s6) (fun _ s14 => some (.inl ((v4 + 1), s14))) else bd (m_widthOf v3 r6 s6) (fun r9 s9 => bd (m_rangeFits (s9 205 v4.toNat) (s9 206 v4.toNat) (s9 207 v4.toNat) r9 s9) (fun r10 s10 => gd (rg r10) (if r10 = 0 then m_checkLinks_222 v1 v2 v3 v4 r6 r10 (-1) s10 else bd (m_bitsOf (s10 205 v4.toNat) (s10 206 v4.toNat) (s10 207 v4.toNat) r9 s10) (fun r13 s13 => m_checkLinks_222 v1 v2 v3 v4 r6 r10 r13 s13))))))))))
theorem tm_checkLinks_100b (w : ev_W) (d : Nat) (hd : 3 ≤ d) (v1 : Int) (v2 : Int) (v3 : Int) (v4 : Int) (s : iS) : Ew hT w d 461 100 [(0, .ref (tb_nK + 121)), (1, iv v1), (2, iv v2), (3, iv v3), (4, iv v4)] [] s (m_checkLinks_100C w d v1 v2 v3) (m_checkLinks_100b v1 v2 v3 v4 s) := by
  unfold m_checkLinks_100b
  refine e_mv 102 em_461 (ce_at ce_461 58 rfl) rfl rfl ?_
  refine e_mv 103 em_461 (ce_at ce_461 59 rfl) rfl rfl ?_
  refine e_getr 106 em_461 (ce_at ce_461 60 rfl) tq_121 rfl rfl ?_
  refine e_mv 107 em_461 (ce_at ce_461 61 rfl) rfl rfl ?_
  refine e_op 108 em_461 (ce_at ce_461 62 rfl) rfl rfl ?_
  refine e_iadd 109 em_461 rfl (ce_at ce_461 63 rfl) ?_
  refine e_gd fun g1 => ?_
  refine e_ild 110 em_461 (ce_at ce_461 64 rfl) tq_203 (by decide) g1 rfl ?_
  refine e_gd fun g2 => ?_
  refine e_gd fun g3 => ?_
  refine e_cmge 350 113 em_461 rfl rfl (ce_at ce_461 65 rfl) g2 g3 (fun h4 => ?_) (fun h4 => ?_)
  · refine e_pk [0, 1, 2] rfl rfl ?_
    exact e_out (fun r h => h)
  · refine e_mv 114 em_461 (ce_at ce_461 66 rfl) rfl rfl ?_
    refine e_mv 115 em_461 (ce_at ce_461 67 rfl) rfl rfl ?_
    refine e_mv 116 em_461 (ce_at ce_461 68 rfl) rfl rfl ?_
    refine e_getr 119 em_461 (ce_at ce_461 69 rfl) tq_121 rfl rfl ?_
    refine e_mv 121 em_461 (ce_at ce_461 70 rfl) rfl rfl ?_
    refine e_gd fun g5 => ?_
    refine e_ild 122 em_461 (ce_at ce_461 71 rfl) tq_204 (by decide) g5 rfl ?_
    refine e_ivi 125 em_461 (ce_at ce_461 72 rfl) (by omega) (iv_v2 (by decide) tq_121 rfl) em_456 (Nat.le_of_ble_eq_true rfl) rfl (tm_pinOfPart w (d - 1) (by omega) _ _ _) (fun r6 s6 => ?_)
    refine e_mv 127 em_461 (ce_at ce_461 73 rfl) rfl rfl ?_
    refine e_mv 129 em_461 (ce_at ce_461 74 rfl) rfl rfl ?_
    refine e_op 130 em_461 (ce_at ce_461 75 rfl) rfl rfl ?_
    refine e_gd fun g7 => ?_
    refine e_cmne 148 133 em_461 rfl rfl (ce_at ce_461 76 rfl) g7 (by decide) (fun h8 => ?_) (fun h8 => ?_)
    · refine e_mv 149 em_461 (ce_at ce_461 85 rfl) rfl rfl ?_
      refine e_mv 150 em_461 (ce_at ce_461 86 rfl) rfl rfl ?_
      refine e_mv 152 em_461 (ce_at ce_461 87 rfl) rfl rfl ?_
      refine e_ivi 155 em_461 (ce_at ce_461 88 rfl) (by omega) (iv_v2 (by decide) tq_121 rfl) em_458 (Nat.le_of_ble_eq_true rfl) rfl (tm_widthOf w (d - 1) (by omega) _ _ _) (fun r9 s9 => ?_)
      refine e_mv 157 em_461 (ce_at ce_461 89 rfl) rfl rfl ?_
      refine e_mv 158 em_461 (ce_at ce_461 90 rfl) rfl rfl ?_
      refine e_mv 159 em_461 (ce_at ce_461 91 rfl) rfl rfl ?_
      refine e_getr 162 em_461 (ce_at ce_461 92 rfl) tq_121 rfl rfl ?_
      refine e_mv 164 em_461 (ce_at ce_461 93 rfl) rfl rfl ?_
      refine e_ild 165 em_461 (ce_at ce_461 94 rfl) tq_205 (by decide) g5 rfl ?_
      refine e_mv 166 em_461 (ce_at ce_461 95 rfl) rfl rfl ?_
      refine e_getr 169 em_461 (ce_at ce_461 96 rfl) tq_121 rfl rfl ?_
      refine e_mv 171 em_461 (ce_at ce_461 97 rfl) rfl rfl ?_
      refine e_ild 172 em_461 (ce_at ce_461 98 rfl) tq_206 (by decide) g5 rfl ?_
      refine e_mv 173 em_461 (ce_at ce_461 99 rfl) rfl rfl ?_
      refine e_getr 176 em_461 (ce_at ce_461 100 rfl) tq_121 rfl rfl ?_
      refine e_mv 178 em_461 (ce_at ce_461 101 rfl) rfl rfl ?_
      refine e_ild 179 em_461 (ce_at ce_461 102 rfl) tq_207 (by decide) g5 rfl ?_
      refine e_mv 181 em_461 (ce_at ce_461 103 rfl) rfl rfl ?_
      refine e_ivi 184 em_461 (ce_at ce_461 104 rfl) (by omega) (iv_v4 (by decide) tq_121 rfl) em_459 (Nat.le_of_ble_eq_true rfl) rfl (tm_rangeFits w (d - 1) (by omega) _ _ _ _ _) (fun r10 s10 => ?_)
      refine e_mv 186 em_461 (ce_at ce_461 105 rfl) rfl rfl ?_
      refine e_mv 188 em_461 (ce_at ce_461 106 rfl) rfl rfl ?_
      refine e_gd fun g11 => ?_
      refine e_ifeq 221 191 em_461 rfl rfl (ce_at ce_461 107 rfl) g11 (fun h12 => ?_) (fun h12 => ?_)
      · refine e_op 222 em_461 (ce_at ce_461 124 rfl) rfl rfl ?_
        refine e_pk [0, 1, 2, 3, 4, 5, 7] rfl rfl ?_
        exact tm_checkLinks_222 w d hd _ _ _ _ _ _ _ _
      · refine e_mv 192 em_461 (ce_at ce_461 108 rfl) rfl rfl ?_
        refine e_mv 193 em_461 (ce_at ce_461 109 rfl) rfl rfl ?_
        refine e_getr 196 em_461 (ce_at ce_461 110 rfl) tq_121 rfl rfl ?_
        refine e_mv 198 em_461 (ce_at ce_461 111 rfl) rfl rfl ?_
        refine e_ild 199 em_461 (ce_at ce_461 112 rfl) tq_205 (by decide) g5 rfl ?_
        refine e_mv 200 em_461 (ce_at ce_461 113 rfl) rfl rfl ?_
        refine e_getr 203 em_461 (ce_at ce_461 114 rfl) tq_121 rfl rfl ?_
        refine e_mv 205 em_461 (ce_at ce_461 115 rfl) rfl rfl ?_
        refine e_ild 206 em_461 (ce_at ce_461 116 rfl) tq_206 (by decide) g5 rfl ?_
        refine e_mv 207 em_461 (ce_at ce_461 117 rfl) rfl rfl ?_
        refine e_getr 210 em_461 (ce_at ce_461 118 rfl) tq_121 rfl rfl ?_
        refine e_mv 212 em_461 (ce_at ce_461 119 rfl) rfl rfl ?_
        refine e_ild 213 em_461 (ce_at ce_461 120 rfl) tq_207 (by decide) g5 rfl ?_
        refine e_mv 215 em_461 (ce_at ce_461 121 rfl) rfl rfl ?_
        refine e_ivi 218 em_461 (ce_at ce_461 122 rfl) (by omega) (iv_v4 (by decide) tq_121 rfl) em_460 (Nat.le_of_ble_eq_true rfl) rfl (tm_bitsOf w (d - 1) (by omega) _ _ _ _ _) (fun r13 s13 => ?_)
        refine e_goto em_461 222 (ce_at ce_461 123 rfl) rfl ?_
        refine e_pk [0, 1, 2, 3, 4, 5, 7] rfl rfl ?_
        exact tm_checkLinks_222 w d hd _ _ _ _ _ _ _ _
    · refine e_mv 134 em_461 (ce_at ce_461 77 rfl) rfl rfl ?_
      refine e_op 135 em_461 (ce_at ce_461 78 rfl) rfl rfl ?_
      refine e_mv 136 em_461 (ce_at ce_461 79 rfl) rfl rfl ?_
      refine e_getr 139 em_461 (ce_at ce_461 80 rfl) tq_121 rfl rfl ?_
      refine e_mv 141 em_461 (ce_at ce_461 81 rfl) rfl rfl ?_
      refine e_ild 142 em_461 (ce_at ce_461 82 rfl) tq_204 (by decide) g5 rfl ?_
      refine e_ivv 145 em_461 (ce_at ce_461 83 rfl) (by omega) (iv_v2 (by decide) tq_121 rfl) em_351 (Nat.le_of_ble_eq_true rfl) rfl (tm_note w (d - 1) (by omega) _ _ _) (fun r14 s14 => ?_)
      refine e_goto em_461 344 (ce_at ce_461 84 rfl) rfl ?_
      refine e_iinc 347 em_461 (ce_at ce_461 193 rfl) rfl (by decide) rfl ?_
      refine e_goto em_461 100 (ce_at ce_461 194 rfl) rfl ?_
      refine e_pk [0, 1, 2, 3, 4] rfl rfl ?_
      exact e_out (fun r h => h)
theorem fm_checkLinks_100b (v1 : Int) (v2 : Int) (v3 : Int) (v4 : Int) (s : iS) : Fm (fun r : (Int × iS) ⊕ (iS) => r.elim (fun l => l.2) (fun e => e)) L_m_checkLinks G_m_checkLinks s (m_checkLinks_100b v1 v2 v3 v4 s) := fm_gd (fm_gd (fm_gd (fm_if (fm_some md_refl) (fm_gd (fm_bd (fm_sub (fm_pinOfPart _ _ _) (mem_sub_L rfl) (mem_sub_F rfl)) (fun r6 s6 => fm_gd (fm_if (fm_bd (fm_sub (fm_note _ _ _) (mem_sub_L rfl) (mem_sub_F rfl)) (fun r14 s14 => fm_some md_refl)) (fm_bd (fm_sub (fm_widthOf _ _ _) (mem_sub_L rfl) (mem_sub_F rfl)) (fun r9 s9 => fm_bd (fm_sub (fm_rangeFits _ _ _ _ _) (mem_sub_L rfl) (mem_sub_F rfl)) (fun r10 s10 => fm_gd (fm_if (fm_checkLinks_222 _ _ _ _ _ _ _ _) (fm_bd (fm_sub (fm_bitsOf _ _ _ _ _) (mem_sub_L rfl) (mem_sub_F rfl)) (fun r13 s13 => fm_checkLinks_222 _ _ _ _ _ _ _ _)))))))))))))
def m_checkLinks_29C (w : ev_W) (d : Nat) (v1 : Int) : (Int × iS) ⊕ (iS) → am_E → Prop := fun q r => q.elim (fun l => ev w d 461 29 ((fun l => [(0, .ref (tb_nK + 121)), (1, iv v1), (2, iv (l.1))]) l) [] (hT ((fun l => l.2) l)) r) (fun e => (fun e r => ev w d 461 356 [] [] (hT (e)) r) e r)
noncomputable def m_checkLinks_100 (v1 : Int) (v2 : Int) (v3 : Int) (v4 : Int) (s : iS) : Option ((Int × iS) ⊕ (iS)) := (lp (L := Int × iS) (E := iS) (fun l => m_checkLinks_100b v1 v2 v3 (l.1) (l.2)) (v4, s)).bind (fun e => some (.inl ((v2 + 1), e)))
theorem tm_checkLinks_100 (w : ev_W) (d : Nat) (hd : 3 ≤ d) (v1 : Int) (v2 : Int) (v3 : Int) (v4 : Int) (s : iS) : Ew hT w d 461 100 [(0, .ref (tb_nK + 121)), (1, iv v1), (2, iv v2), (3, iv v3), (4, iv v4)] [] s (m_checkLinks_29C w d v1) (m_checkLinks_100 v1 v2 v3 v4 s) := by
  unfold m_checkLinks_100
  refine e_lp (LO := fun l => [(0, .ref (tb_nK + 121)), (1, iv v1), (2, iv v2), (3, iv v3), (4, iv (l.1))]) (LS := fun l => l.2) (CE := fun e r => ev w d 461 350 [(0, .ref (tb_nK + 121)), (1, iv v1), (2, iv v2)] [] (hT (e)) r) (fun l => tm_checkLinks_100b w d hd _ _ _ _ _) ?_ (v4, s)
  intro e
  show Ew hT w d 461 350 [(0, .ref (tb_nK + 121)), (1, iv v1), (2, iv v2)] [] e (m_checkLinks_29C w d v1) _
  refine e_iinc 353 em_461 (ce_at ce_461 195 rfl) rfl (by decide) rfl ?_
  refine e_goto em_461 29 (ce_at ce_461 196 rfl) rfl ?_
  refine e_pk [0, 1, 2] rfl rfl ?_
  exact e_out (fun r h => h)
theorem fm_checkLinks_100 (v1 : Int) (v2 : Int) (v3 : Int) (v4 : Int) (s : iS) : Fm (fun r : (Int × iS) ⊕ (iS) => r.elim (fun l => l.2) (fun e => e)) L_m_checkLinks G_m_checkLinks s (m_checkLinks_100 v1 v2 v3 v4 s) := fm_lp (LS := fun l => l.2) (LE := fun e => e) (fun l => fm_checkLinks_100b _ _ _ _ _) (fun e => fm_some md_refl) (v4, s)
noncomputable def m_checkLinks_92 (v1 : Int) (v2 : Int) (v3 : Int) (s : iS) : Option ((Int × iS) ⊕ (iS)) := gd (0 ≤ v2 ∧ v2 < 401) (m_checkLinks_100 v1 v2 v3 (s 203 v2.toNat) s)
theorem tm_checkLinks_92 (w : ev_W) (d : Nat) (hd : 3 ≤ d) (v1 : Int) (v2 : Int) (v3 : Int) (s : iS) : Ew hT w d 461 92 [(0, .ref (tb_nK + 121)), (1, iv v1), (2, iv v2), (3, iv v3)] [] s (m_checkLinks_29C w d v1) (m_checkLinks_92 v1 v2 v3 s) := by
  unfold m_checkLinks_92
  refine e_mv 93 em_461 (ce_at ce_461 53 rfl) rfl rfl ?_
  refine e_getr 96 em_461 (ce_at ce_461 54 rfl) tq_121 rfl rfl ?_
  refine e_mv 97 em_461 (ce_at ce_461 55 rfl) rfl rfl ?_
  refine e_gd fun g1 => ?_
  refine e_ild 98 em_461 (ce_at ce_461 56 rfl) tq_203 (by decide) g1 rfl ?_
  refine e_mv 100 em_461 (ce_at ce_461 57 rfl) rfl rfl ?_
  refine e_pk [0, 1, 2, 3, 4] rfl rfl ?_
  exact tm_checkLinks_100 w d hd _ _ _ _ _
theorem fm_checkLinks_92 (v1 : Int) (v2 : Int) (v3 : Int) (s : iS) : Fm (fun r : (Int × iS) ⊕ (iS) => r.elim (fun l => l.2) (fun e => e)) L_m_checkLinks G_m_checkLinks s (m_checkLinks_92 v1 v2 v3 s) := fm_gd (fm_checkLinks_100 _ _ _ _ _)
noncomputable def m_checkLinks_70 (v1 : Int) (v2 : Int) (v3 : Int) (v4 : Int) (s : iS) : Option ((Int × iS) ⊕ (iS)) := (lp (L := Int × iS) (E := iS) (fun l => m_checkLinks_70b v1 v2 v3 (l.1) (l.2)) (v4, s)).bind (fun e => m_checkLinks_92 v1 v2 v3 e)
theorem tm_checkLinks_70 (w : ev_W) (d : Nat) (hd : 3 ≤ d) (v1 : Int) (v2 : Int) (v3 : Int) (v4 : Int) (s : iS) : Ew hT w d 461 70 [(0, .ref (tb_nK + 121)), (1, iv v1), (2, iv v2), (3, iv v3), (4, iv v4)] [] s (m_checkLinks_29C w d v1) (m_checkLinks_70 v1 v2 v3 v4 s) := by
  unfold m_checkLinks_70
  refine e_lp (LO := fun l => [(0, .ref (tb_nK + 121)), (1, iv v1), (2, iv v2), (3, iv v3), (4, iv (l.1))]) (LS := fun l => l.2) (CE := fun e r => ev w d 461 92 [(0, .ref (tb_nK + 121)), (1, iv v1), (2, iv v2), (3, iv v3)] [] (hT (e)) r) (fun l => tm_checkLinks_70b w d hd _ _ _ _ _) ?_ (v4, s)
  intro e
  show Ew hT w d 461 92 [(0, .ref (tb_nK + 121)), (1, iv v1), (2, iv v2), (3, iv v3)] [] e (m_checkLinks_29C w d v1) _
  refine e_pk [0, 1, 2, 3] rfl rfl ?_
  exact tm_checkLinks_92 w d hd _ _ _ _
theorem fm_checkLinks_70 (v1 : Int) (v2 : Int) (v3 : Int) (v4 : Int) (s : iS) : Fm (fun r : (Int × iS) ⊕ (iS) => r.elim (fun l => l.2) (fun e => e)) L_m_checkLinks G_m_checkLinks s (m_checkLinks_70 v1 v2 v3 v4 s) := fm_lp (LS := fun l => l.2) (LE := fun e => e) (fun l => fm_checkLinks_70b _ _ _ _ _) (fun e => fm_checkLinks_92 _ _ _ _) (v4, s)
noncomputable def m_checkLinks_29b (v1 : Int) (v2 : Int) (s : iS) : Option ((Int × iS) ⊕ (iS)) := gd (0 ≤ (v1 + 1) ∧ (v1 + 1) < 18) (gd (rg v2) (gd (rg (s 201 (v1 + 1).toNat)) (if (s 201 (v1 + 1).toNat) ≤ v2 then some (.inr s) else gd (0 ≤ v2 ∧ v2 < 400) (gd (rg (s 216 v2.toNat)) (if (s 216 v2.toNat) = (-1) then bd (m_note 4 (s 202 v2.toNat) s) (fun _ s8 => some (.inl ((v2 + 1), s8))) else m_checkLinks_70 v1 v2 (s 216 v2.toNat) 0 s)))))
theorem tm_checkLinks_29b (w : ev_W) (d : Nat) (hd : 3 ≤ d) (v1 : Int) (v2 : Int) (s : iS) : Ew hT w d 461 29 [(0, .ref (tb_nK + 121)), (1, iv v1), (2, iv v2)] [] s (m_checkLinks_29C w d v1) (m_checkLinks_29b v1 v2 s) := by
  unfold m_checkLinks_29b
  refine e_mv 30 em_461 (ce_at ce_461 17 rfl) rfl rfl ?_
  refine e_mv 31 em_461 (ce_at ce_461 18 rfl) rfl rfl ?_
  refine e_getr 34 em_461 (ce_at ce_461 19 rfl) tq_121 rfl rfl ?_
  refine e_mv 35 em_461 (ce_at ce_461 20 rfl) rfl rfl ?_
  refine e_op 36 em_461 (ce_at ce_461 21 rfl) rfl rfl ?_
  refine e_iadd 37 em_461 rfl (ce_at ce_461 22 rfl) ?_
  refine e_gd fun g1 => ?_
  refine e_ild 38 em_461 (ce_at ce_461 23 rfl) tq_201 (by decide) g1 rfl ?_
  refine e_gd fun g2 => ?_
  refine e_gd fun g3 => ?_
  refine e_cmge 356 41 em_461 rfl rfl (ce_at ce_461 24 rfl) g2 g3 (fun h4 => ?_) (fun h4 => ?_)
  · refine e_pk [] rfl rfl ?_
    exact e_out (fun r h => h)
  · refine e_mv 42 em_461 (ce_at ce_461 25 rfl) rfl rfl ?_
    refine e_getr 45 em_461 (ce_at ce_461 26 rfl) tq_121 rfl rfl ?_
    refine e_mv 46 em_461 (ce_at ce_461 27 rfl) rfl rfl ?_
    refine e_gd fun g5 => ?_
    refine e_ild 47 em_461 (ce_at ce_461 28 rfl) tq_216 (by decide) g5 rfl ?_
    refine e_mv 48 em_461 (ce_at ce_461 29 rfl) rfl rfl ?_
    refine e_mv 49 em_461 (ce_at ce_461 30 rfl) rfl rfl ?_
    refine e_op 50 em_461 (ce_at ce_461 31 rfl) rfl rfl ?_
    refine e_gd fun g6 => ?_
    refine e_cmne 67 53 em_461 rfl rfl (ce_at ce_461 32 rfl) g6 (by decide) (fun h7 => ?_) (fun h7 => ?_)
    · refine e_op 68 em_461 (ce_at ce_461 41 rfl) rfl rfl ?_
      refine e_mv 70 em_461 (ce_at ce_461 42 rfl) rfl rfl ?_
      refine e_pk [0, 1, 2, 3, 4] rfl rfl ?_
      exact tm_checkLinks_70 w d hd _ _ _ _ _
    · refine e_mv 54 em_461 (ce_at ce_461 33 rfl) rfl rfl ?_
      refine e_op 55 em_461 (ce_at ce_461 34 rfl) rfl rfl ?_
      refine e_mv 56 em_461 (ce_at ce_461 35 rfl) rfl rfl ?_
      refine e_getr 59 em_461 (ce_at ce_461 36 rfl) tq_121 rfl rfl ?_
      refine e_mv 60 em_461 (ce_at ce_461 37 rfl) rfl rfl ?_
      refine e_ild 61 em_461 (ce_at ce_461 38 rfl) tq_202 (by decide) g5 rfl ?_
      refine e_ivv 64 em_461 (ce_at ce_461 39 rfl) (by omega) (iv_v2 (by decide) tq_121 rfl) em_351 (Nat.le_of_ble_eq_true rfl) rfl (tm_note w (d - 1) (by omega) _ _ _) (fun r8 s8 => ?_)
      refine e_goto em_461 350 (ce_at ce_461 40 rfl) rfl ?_
      refine e_iinc 353 em_461 (ce_at ce_461 195 rfl) rfl (by decide) rfl ?_
      refine e_goto em_461 29 (ce_at ce_461 196 rfl) rfl ?_
      refine e_pk [0, 1, 2] rfl rfl ?_
      exact e_out (fun r h => h)
theorem fm_checkLinks_29b (v1 : Int) (v2 : Int) (s : iS) : Fm (fun r : (Int × iS) ⊕ (iS) => r.elim (fun l => l.2) (fun e => e)) L_m_checkLinks G_m_checkLinks s (m_checkLinks_29b v1 v2 s) := fm_gd (fm_gd (fm_gd (fm_if (fm_some md_refl) (fm_gd (fm_gd (fm_if (fm_bd (fm_sub (fm_note _ _ _) (mem_sub_L rfl) (mem_sub_F rfl)) (fun r8 s8 => fm_some md_refl)) (fm_checkLinks_70 _ _ _ _ _)))))))
noncomputable def m_checkLinks_29 (v1 : Int) (v2 : Int) (s : iS) : Option (Int × iS) := (lp (L := Int × iS) (E := iS) (fun l => m_checkLinks_29b v1 (l.1) (l.2)) (v2, s)).bind (fun e => some (0, e))
theorem tm_checkLinks_29 (w : ev_W) (d : Nat) (hd : 3 ≤ d) (v1 : Int) (v2 : Int) (s : iS) : Ew hT w d 461 29 [(0, .ref (tb_nK + 121)), (1, iv v1), (2, iv v2)] [] s (Cv hT) (m_checkLinks_29 v1 v2 s) := by
  unfold m_checkLinks_29
  refine e_lp (LO := fun l => [(0, .ref (tb_nK + 121)), (1, iv v1), (2, iv (l.1))]) (LS := fun l => l.2) (CE := fun e r => ev w d 461 356 [] [] (hT (e)) r) (fun l => tm_checkLinks_29b w d hd _ _ _) ?_ (v2, s)
  intro e
  show Ew hT w d 461 356 [] [] e (Cv hT) _
  exact e_retv em_461 (ce_at ce_461 197 rfl)
theorem fm_checkLinks_29 (v1 : Int) (v2 : Int) (s : iS) : Fm Prod.snd L_m_checkLinks G_m_checkLinks s (m_checkLinks_29 v1 v2 s) := fm_lp (LS := fun l => l.2) (LE := fun e => e) (fun l => fm_checkLinks_29b _ _ _) (fun e => fm_some md_refl) (v2, s)
noncomputable def m_checkLinks_22 (v1 : Int) (s : iS) : Option (Int × iS) := gd (0 ≤ v1 ∧ v1 < 18) (m_checkLinks_29 v1 (s 201 v1.toNat) s)
theorem tm_checkLinks_22 (w : ev_W) (d : Nat) (hd : 3 ≤ d) (v1 : Int) (s : iS) : Ew hT w d 461 22 [(0, .ref (tb_nK + 121)), (1, iv v1)] [] s (Cv hT) (m_checkLinks_22 v1 s) := by
  unfold m_checkLinks_22
  refine e_mv 23 em_461 (ce_at ce_461 12 rfl) rfl rfl ?_
  refine e_getr 26 em_461 (ce_at ce_461 13 rfl) tq_121 rfl rfl ?_
  refine e_mv 27 em_461 (ce_at ce_461 14 rfl) rfl rfl ?_
  refine e_gd fun g1 => ?_
  refine e_ild 28 em_461 (ce_at ce_461 15 rfl) tq_201 (by decide) g1 rfl ?_
  refine e_mv 29 em_461 (ce_at ce_461 16 rfl) rfl rfl ?_
  refine e_pk [0, 1, 2] rfl rfl ?_
  exact tm_checkLinks_29 w d hd _ _ _
theorem fm_checkLinks_22 (v1 : Int) (s : iS) : Fm Prod.snd L_m_checkLinks G_m_checkLinks s (m_checkLinks_22 v1 s) := fm_gd (fm_checkLinks_29 _ _ _)
noncomputable def m_checkLinks_2 (v1 : Int) (v2 : Int) (s : iS) : Option (Int × iS) := (lp (L := Int × iS) (E := iS) (fun l => m_checkLinks_2b v1 (l.1) (l.2)) (v2, s)).bind (fun e => m_checkLinks_22 v1 e)
theorem tm_checkLinks_2 (w : ev_W) (d : Nat) (hd : 3 ≤ d) (v1 : Int) (v2 : Int) (s : iS) : Ew hT w d 461 2 [(0, .ref (tb_nK + 121)), (1, iv v1), (2, iv v2)] [] s (Cv hT) (m_checkLinks_2 v1 v2 s) := by
  unfold m_checkLinks_2
  refine e_lp (LO := fun l => [(0, .ref (tb_nK + 121)), (1, iv v1), (2, iv (l.1))]) (LS := fun l => l.2) (CE := fun e r => ev w d 461 22 [(0, .ref (tb_nK + 121)), (1, iv v1)] [] (hT (e)) r) (fun l => tm_checkLinks_2b w d hd _ _ _) ?_ (v2, s)
  intro e
  show Ew hT w d 461 22 [(0, .ref (tb_nK + 121)), (1, iv v1)] [] e (Cv hT) _
  refine e_pk [0, 1] rfl rfl ?_
  exact tm_checkLinks_22 w d hd _ _
theorem fm_checkLinks_2 (v1 : Int) (v2 : Int) (s : iS) : Fm Prod.snd L_m_checkLinks G_m_checkLinks s (m_checkLinks_2 v1 v2 s) := fm_lp (LS := fun l => l.2) (LE := fun e => e) (fun l => fm_checkLinks_2b _ _ _) (fun e => fm_checkLinks_22 _ _) (v2, s)
noncomputable def m_checkLinks (v1 : Int) (s : iS) : Option (Int × iS) := m_checkLinks_2 v1 0 s
theorem tm_checkLinks (w : ev_W) (d : Nat) (hd : 3 ≤ d) (v1 : Int) (s : iS) : Ew hT w d 461 0 [(0, .ref (tb_nK + 121)), (1, iv v1)] [] s (Cv hT) (m_checkLinks v1 s) := by
  unfold m_checkLinks
  refine e_op 1 em_461 (ce_at ce_461 0 rfl) rfl rfl ?_
  refine e_mv 2 em_461 (ce_at ce_461 1 rfl) rfl rfl ?_
  refine e_pk [0, 1, 2] rfl rfl ?_
  exact tm_checkLinks_2 w d hd _ _ _
theorem fm_checkLinks (v1 : Int) (s : iS) : Fm Prod.snd L_m_checkLinks G_m_checkLinks s (m_checkLinks v1 s) := fm_checkLinks_2 _ _ _
/-! m_valueOf -/
def L_m_valueOf : List Nat := []
def G_m_valueOf : List (Nat × Nat) := []
noncomputable def m_valueOf (v1 : Int) (s : iS) : Option (Int × iS) := gd (rg v1) (if v1 = (-2) then some (1, s) else if 0 ≤ v1 then gd (0 ≤ v1 ∧ v1 < 40000) (some ((s 230 v1.toNat), s)) else some (0, s))
theorem tm_valueOf (w : ev_W) (d : Nat) (hd : 0 ≤ d) (v1 : Int) (s : iS) : Ew hT w d 477 0 [(0, .ref (tb_nK + 121)), (1, iv v1)] [] s (Ci hT) (m_valueOf v1 s) := by
  unfold m_valueOf
  refine e_mv 1 em_477 (ce_at ce_477 0 rfl) rfl rfl ?_
  refine e_bip 3 em_477 (ce_at ce_477 1 rfl) (by decide) rfl ?_
  refine e_gd fun g1 => ?_
  refine e_cmne 10 6 em_477 rfl rfl (ce_at ce_477 2 rfl) g1 (by decide) (fun h2 => ?_) (fun h2 => ?_)
  · refine e_mv 11 em_477 (ce_at ce_477 5 rfl) rfl rfl ?_
    refine e_ifge 18 14 em_477 rfl rfl (ce_at ce_477 6 rfl) g1 (fun h3 => ?_) (fun h3 => ?_)
    · refine e_mv 19 em_477 (ce_at ce_477 9 rfl) rfl rfl ?_
      refine e_getr 22 em_477 (ce_at ce_477 10 rfl) tq_121 rfl rfl ?_
      refine e_mv 23 em_477 (ce_at ce_477 11 rfl) rfl rfl ?_
      refine e_gd fun g4 => ?_
      refine e_ild 24 em_477 (ce_at ce_477 12 rfl) tq_230 (by decide) g4 rfl ?_
      exact e_reti em_477 (ce_at ce_477 13 rfl)
    · refine e_op 15 em_477 (ce_at ce_477 7 rfl) rfl rfl ?_
      refine e_goto em_477 24 (ce_at ce_477 8 rfl) rfl ?_
      exact e_reti em_477 (ce_at ce_477 13 rfl)
  · refine e_op 7 em_477 (ce_at ce_477 3 rfl) rfl rfl ?_
    refine e_goto em_477 24 (ce_at ce_477 4 rfl) rfl ?_
    exact e_reti em_477 (ce_at ce_477 13 rfl)
theorem fm_valueOf (v1 : Int) (s : iS) : Fm Prod.snd L_m_valueOf G_m_valueOf s (m_valueOf v1 s) := fm_gd (fm_if (fm_some md_refl) (fm_if (fm_gd (fm_some md_refl)) (fm_some md_refl)))
/-! m_settle -/
def L_m_settle : List Nat := [230]
def G_m_settle : List (Nat × Nat) := []
def m_settle_2C (w : ev_W) (d : Nat) : (Int × iS) ⊕ (iS) → am_E → Prop := fun q r => q.elim (fun l => ev w d 476 2 ((fun l => [(0, .ref (tb_nK + 121)), (1, iv (l.1))]) l) [] (hT ((fun l => l.2) l)) r) (fun e => (fun e r => ev w d 476 59 [] [] (hT (e)) r) e r)
noncomputable def m_settle_2b (v1 : Int) (s : iS) : Option ((Int × iS) ⊕ (iS)) := gd (rg v1) (gd (rg (s 121 166)) (if (s 121 166) ≤ v1 then some (.inr s) else gd (0 ≤ v1 ∧ v1 < 1500) (gd (0 ≤ (s 227 v1.toNat) ∧ (s 227 v1.toNat) < 1500) (bd (m_valueOf (s 228 (s 227 v1.toNat).toNat) s) (fun r6 s6 => bd (m_valueOf (s6 229 (s 227 v1.toNat).toNat) s6) (fun r7 s7 => gd (0 ≤ ((s 225 (s 227 v1.toNat).toNat) + 2) ∧ ((s 225 (s 227 v1.toNat).toNat) + 2) < 40000) (lt' (up s7 230 ((s 225 (s 227 v1.toNat).toNat) + 2).toNat (1 - (r6 * r7))) (fun s9 => some (.inl ((v1 + 1), s9))))))))))
theorem tm_settle_2b (w : ev_W) (d : Nat) (hd : 1 ≤ d) (v1 : Int) (s : iS) : Ew hT w d 476 2 [(0, .ref (tb_nK + 121)), (1, iv v1)] [] s (m_settle_2C w d) (m_settle_2b v1 s) := by
  unfold m_settle_2b
  refine e_mv 3 em_476 (ce_at ce_476 2 rfl) rfl rfl ?_
  refine e_mv 4 em_476 (ce_at ce_476 3 rfl) rfl rfl ?_
  refine e_get 7 em_476 (ce_at ce_476 4 rfl) tq_121 rfl rfl ?_
  refine e_gd fun g1 => ?_
  refine e_gd fun g2 => ?_
  refine e_cmge 59 10 em_476 rfl rfl (ce_at ce_476 5 rfl) g1 g2 (fun h3 => ?_) (fun h3 => ?_)
  · refine e_pk [] rfl rfl ?_
    exact e_out (fun r h => h)
  · refine e_mv 11 em_476 (ce_at ce_476 6 rfl) rfl rfl ?_
    refine e_getr 14 em_476 (ce_at ce_476 7 rfl) tq_121 rfl rfl ?_
    refine e_mv 15 em_476 (ce_at ce_476 8 rfl) rfl rfl ?_
    refine e_gd fun g4 => ?_
    refine e_ild 16 em_476 (ce_at ce_476 9 rfl) tq_227 (by decide) g4 rfl ?_
    refine e_mv 17 em_476 (ce_at ce_476 10 rfl) rfl rfl ?_
    refine e_mv 18 em_476 (ce_at ce_476 11 rfl) rfl rfl ?_
    refine e_getr 21 em_476 (ce_at ce_476 12 rfl) tq_121 rfl rfl ?_
    refine e_mv 22 em_476 (ce_at ce_476 13 rfl) rfl rfl ?_
    refine e_getr 25 em_476 (ce_at ce_476 14 rfl) tq_121 rfl rfl ?_
    refine e_mv 26 em_476 (ce_at ce_476 15 rfl) rfl rfl ?_
    refine e_gd fun g5 => ?_
    refine e_ild 27 em_476 (ce_at ce_476 16 rfl) tq_225 (by decide) g5 rfl ?_
    refine e_op 28 em_476 (ce_at ce_476 17 rfl) rfl rfl ?_
    refine e_iadd 29 em_476 rfl (ce_at ce_476 18 rfl) ?_
    refine e_op 30 em_476 (ce_at ce_476 19 rfl) rfl rfl ?_
    refine e_mv 31 em_476 (ce_at ce_476 20 rfl) rfl rfl ?_
    refine e_mv 32 em_476 (ce_at ce_476 21 rfl) rfl rfl ?_
    refine e_getr 35 em_476 (ce_at ce_476 22 rfl) tq_121 rfl rfl ?_
    refine e_mv 36 em_476 (ce_at ce_476 23 rfl) rfl rfl ?_
    refine e_ild 37 em_476 (ce_at ce_476 24 rfl) tq_228 (by decide) g5 rfl ?_
    refine e_ivi 40 em_476 (ce_at ce_476 25 rfl) (by omega) (iv_v1 (by decide) tq_121 rfl) em_477 (Nat.le_of_ble_eq_true rfl) rfl (tm_valueOf w (d - 1) (by omega) _ _) (fun r6 s6 => ?_)
    refine e_mv 41 em_476 (ce_at ce_476 26 rfl) rfl rfl ?_
    refine e_mv 42 em_476 (ce_at ce_476 27 rfl) rfl rfl ?_
    refine e_getr 45 em_476 (ce_at ce_476 28 rfl) tq_121 rfl rfl ?_
    refine e_mv 46 em_476 (ce_at ce_476 29 rfl) rfl rfl ?_
    refine e_ild 47 em_476 (ce_at ce_476 30 rfl) tq_229 (by decide) g5 rfl ?_
    refine e_ivi 50 em_476 (ce_at ce_476 31 rfl) (by omega) (iv_v1 (by decide) tq_121 rfl) em_477 (Nat.le_of_ble_eq_true rfl) rfl (tm_valueOf w (d - 1) (by omega) _ _) (fun r7 s7 => ?_)
    refine e_imul 51 em_476 rfl (ce_at ce_476 32 rfl) ?_
    refine e_isub 52 em_476 rfl (ce_at ce_476 33 rfl) ?_
    refine e_gd fun g8 => ?_
    refine e_ist 53 em_476 (ce_at ce_476 34 rfl) tq_230 (by decide) g8 rfl (fun s9 => ?_)
    refine e_iinc 56 em_476 (ce_at ce_476 35 rfl) rfl (by decide) rfl ?_
    refine e_goto em_476 2 (ce_at ce_476 36 rfl) rfl ?_
    refine e_pk [0, 1] rfl rfl ?_
    exact e_out (fun r h => h)
theorem fm_settle_2b (v1 : Int) (s : iS) : Fm (fun r : (Int × iS) ⊕ (iS) => r.elim (fun l => l.2) (fun e => e)) L_m_settle G_m_settle s (m_settle_2b v1 s) := fm_gd (fm_gd (fm_if (fm_some md_refl) (fm_gd (fm_gd (fm_bd (fm_sub (fm_valueOf _ _) (mem_sub_L rfl) (mem_sub_F rfl)) (fun r6 s6 => fm_bd (fm_sub (fm_valueOf _ _) (mem_sub_L rfl) (mem_sub_F rfl)) (fun r7 s7 => fm_gd (fm_lt (md_upL (mem_L rfl)) (fun s9 => fm_some md_refl)))))))))
noncomputable def m_settle_2 (v1 : Int) (s : iS) : Option (Int × iS) := (lp (L := Int × iS) (E := iS) (fun l => m_settle_2b (l.1) (l.2)) (v1, s)).bind (fun e => some (0, e))
theorem tm_settle_2 (w : ev_W) (d : Nat) (hd : 1 ≤ d) (v1 : Int) (s : iS) : Ew hT w d 476 2 [(0, .ref (tb_nK + 121)), (1, iv v1)] [] s (Cv hT) (m_settle_2 v1 s) := by
  unfold m_settle_2
  refine e_lp (LO := fun l => [(0, .ref (tb_nK + 121)), (1, iv (l.1))]) (LS := fun l => l.2) (CE := fun e r => ev w d 476 59 [] [] (hT (e)) r) (fun l => tm_settle_2b w d hd _ _) ?_ (v1, s)
  intro e
  show Ew hT w d 476 59 [] [] e (Cv hT) _
  exact e_retv em_476 (ce_at ce_476 37 rfl)
theorem fm_settle_2 (v1 : Int) (s : iS) : Fm Prod.snd L_m_settle G_m_settle s (m_settle_2 v1 s) := fm_lp (LS := fun l => l.2) (LE := fun e => e) (fun l => fm_settle_2b _ _) (fun e => fm_some md_refl) (v1, s)
noncomputable def m_settle (s : iS) : Option (Int × iS) := m_settle_2 0 s
theorem tm_settle (w : ev_W) (d : Nat) (hd : 1 ≤ d) (s : iS) : Ew hT w d 476 0 [(0, .ref (tb_nK + 121))] [] s (Cv hT) (m_settle s) := by
  unfold m_settle
  refine e_op 1 em_476 (ce_at ce_476 0 rfl) rfl rfl ?_
  refine e_mv 2 em_476 (ce_at ce_476 1 rfl) rfl rfl ?_
  refine e_pk [0, 1] rfl rfl ?_
  exact tm_settle_2 w d hd _ _
theorem fm_settle (s : iS) : Fm Prod.snd L_m_settle G_m_settle s (m_settle s) := fm_settle_2 _ _
/-! m_countAll -/
def L_m_countAll : List Nat := [220, 221]
def G_m_countAll : List (Nat × Nat) := []
def m_countAll_33C (w : ev_W) (d : Nat) (v1 : Int) (v2 : Int) (v3 : Int) : (Int × Int × iS) ⊕ (Int × iS) → am_E → Prop := fun q r => q.elim (fun l => ev w d 464 33 ((fun l => [(0, .ref (tb_nK + 121)), (1, iv v1), (2, iv v2), (3, lv v3), (5, lv (l.1)), (7, iv (l.2.1))]) l) [] (hT ((fun l => l.2.2) l)) r) (fun e => (fun e r => ev w d 464 65 [(0, .ref (tb_nK + 121)), (1, iv v1), (2, iv v2), (3, lv v3), (5, lv (e.1))] [] (hT (e.2)) r) e r)
noncomputable def m_countAll_33b (v1 : Int) (v2 : Int) (v3 : Int) (v5 : Int) (v7 : Int) (s : iS) : Option ((Int × Int × iS) ⊕ (Int × iS)) := gd (0 ≤ (v2 + 1) ∧ (v2 + 1) < 18) (gd (rg v7) (gd (rg (s 196 (v2 + 1).toNat)) (if (s 196 (v2 + 1).toNat) ≤ v7 then some (.inr (v5, s)) else gd (0 ≤ v7 ∧ v7 < 200) (gd (rg (s 199 v7.toNat)) (some (.inl ((v5 + (s 199 v7.toNat)), (v7 + 1), s)))))))
theorem tm_countAll_33b (w : ev_W) (d : Nat) (hd : 0 ≤ d) (v1 : Int) (v2 : Int) (v3 : Int) (v5 : Int) (v7 : Int) (s : iS) : Ew hT w d 464 33 [(0, .ref (tb_nK + 121)), (1, iv v1), (2, iv v2), (3, lv v3), (5, lv v5), (7, iv v7)] [] s (m_countAll_33C w d v1 v2 v3) (m_countAll_33b v1 v2 v3 v5 v7 s) := by
  unfold m_countAll_33b
  refine e_mv 35 em_464 (ce_at ce_464 21 rfl) rfl rfl ?_
  refine e_mv 36 em_464 (ce_at ce_464 22 rfl) rfl rfl ?_
  refine e_getr 39 em_464 (ce_at ce_464 23 rfl) tq_121 rfl rfl ?_
  refine e_mv 40 em_464 (ce_at ce_464 24 rfl) rfl rfl ?_
  refine e_op 41 em_464 (ce_at ce_464 25 rfl) rfl rfl ?_
  refine e_iadd 42 em_464 rfl (ce_at ce_464 26 rfl) ?_
  refine e_gd fun g1 => ?_
  refine e_ild 43 em_464 (ce_at ce_464 27 rfl) tq_196 (by decide) g1 rfl ?_
  refine e_gd fun g2 => ?_
  refine e_gd fun g3 => ?_
  refine e_cmge 65 46 em_464 rfl rfl (ce_at ce_464 28 rfl) g2 g3 (fun h4 => ?_) (fun h4 => ?_)
  · refine e_pk [0, 1, 2, 3, 5] rfl rfl ?_
    exact e_out (fun r h => h)
  · refine e_mv 48 em_464 (ce_at ce_464 29 rfl) rfl rfl ?_
    refine e_mv 49 em_464 (ce_at ce_464 30 rfl) rfl rfl ?_
    refine e_getr 52 em_464 (ce_at ce_464 31 rfl) tq_121 rfl rfl ?_
    refine e_mv 54 em_464 (ce_at ce_464 32 rfl) rfl rfl ?_
    refine e_gd fun g5 => ?_
    refine e_ild 55 em_464 (ce_at ce_464 33 rfl) tq_199 (by decide) g5 rfl ?_
    refine e_gd fun g6 => ?_
    refine e_i2l 56 em_464 rfl (ce_at ce_464 34 rfl) g6 ?_
    refine e_ladd 57 em_464 rfl (ce_at ce_464 35 rfl) ?_
    refine e_mv 59 em_464 (ce_at ce_464 36 rfl) rfl rfl ?_
    refine e_iinc 62 em_464 (ce_at ce_464 37 rfl) rfl (by decide) rfl ?_
    refine e_goto em_464 33 (ce_at ce_464 38 rfl) rfl ?_
    refine e_pk [0, 1, 2, 3, 5, 7] rfl rfl ?_
    exact e_out (fun r h => h)
theorem fm_countAll_33b (v1 : Int) (v2 : Int) (v3 : Int) (v5 : Int) (v7 : Int) (s : iS) : Fm (fun r : (Int × Int × iS) ⊕ (Int × iS) => r.elim (fun l => l.2.2) (fun e => e.2)) L_m_countAll G_m_countAll s (m_countAll_33b v1 v2 v3 v5 v7 s) := fm_gd (fm_gd (fm_gd (fm_if (fm_some md_refl) (fm_gd (fm_gd (fm_some md_refl))))))
def m_countAll_73C (w : ev_W) (d : Nat) (v1 : Int) (v2 : Int) (v3 : Int) : (Int × Int × iS) ⊕ (Int × iS) → am_E → Prop := fun q r => q.elim (fun l => ev w d 464 73 ((fun l => [(0, .ref (tb_nK + 121)), (1, iv v1), (2, iv v2), (3, lv v3), (5, lv (l.1)), (7, iv (l.2.1))]) l) [] (hT ((fun l => l.2.2) l)) r) (fun e => (fun e r => ev w d 464 119 [(0, .ref (tb_nK + 121)), (1, iv v1), (2, iv v2), (3, lv v3), (5, lv (e.1))] [] (hT (e.2)) r) e r)
noncomputable def m_countAll_73b (v1 : Int) (v2 : Int) (v3 : Int) (v5 : Int) (v7 : Int) (s : iS) : Option ((Int × Int × iS) ⊕ (Int × iS)) := gd (0 ≤ (v2 + 1) ∧ (v2 + 1) < 18) (gd (rg v7) (gd (rg (s 212 (v2 + 1).toNat)) (if (s 212 (v2 + 1).toNat) ≤ v7 then some (.inr (v5, s)) else gd (0 ≤ v7 ∧ v7 < 700) (gd (rg (s 214 v7.toNat)) (if (s 214 v7.toNat) ≤ 0 then some (.inl ((v5 + 0), (v7 + 1), s)) else some (.inl ((v5 + (s 214 v7.toNat)), (v7 + 1), s)))))))
theorem tm_countAll_73b (w : ev_W) (d : Nat) (hd : 0 ≤ d) (v1 : Int) (v2 : Int) (v3 : Int) (v5 : Int) (v7 : Int) (s : iS) : Ew hT w d 464 73 [(0, .ref (tb_nK + 121)), (1, iv v1), (2, iv v2), (3, lv v3), (5, lv v5), (7, iv v7)] [] s (m_countAll_73C w d v1 v2 v3) (m_countAll_73b v1 v2 v3 v5 v7 s) := by
  unfold m_countAll_73b
  refine e_mv 75 em_464 (ce_at ce_464 44 rfl) rfl rfl ?_
  refine e_mv 76 em_464 (ce_at ce_464 45 rfl) rfl rfl ?_
  refine e_getr 79 em_464 (ce_at ce_464 46 rfl) tq_121 rfl rfl ?_
  refine e_mv 80 em_464 (ce_at ce_464 47 rfl) rfl rfl ?_
  refine e_op 81 em_464 (ce_at ce_464 48 rfl) rfl rfl ?_
  refine e_iadd 82 em_464 rfl (ce_at ce_464 49 rfl) ?_
  refine e_gd fun g1 => ?_
  refine e_ild 83 em_464 (ce_at ce_464 50 rfl) tq_212 (by decide) g1 rfl ?_
  refine e_gd fun g2 => ?_
  refine e_gd fun g3 => ?_
  refine e_cmge 119 86 em_464 rfl rfl (ce_at ce_464 51 rfl) g2 g3 (fun h4 => ?_) (fun h4 => ?_)
  · refine e_pk [0, 1, 2, 3, 5] rfl rfl ?_
    exact e_out (fun r h => h)
  · refine e_mv 88 em_464 (ce_at ce_464 52 rfl) rfl rfl ?_
    refine e_mv 89 em_464 (ce_at ce_464 53 rfl) rfl rfl ?_
    refine e_getr 92 em_464 (ce_at ce_464 54 rfl) tq_121 rfl rfl ?_
    refine e_mv 94 em_464 (ce_at ce_464 55 rfl) rfl rfl ?_
    refine e_gd fun g5 => ?_
    refine e_ild 95 em_464 (ce_at ce_464 56 rfl) tq_214 (by decide) g5 rfl ?_
    refine e_gd fun g6 => ?_
    refine e_ifle 108 98 em_464 rfl rfl (ce_at ce_464 57 rfl) g6 (fun h7 => ?_) (fun h7 => ?_)
    · refine e_op 109 em_464 (ce_at ce_464 63 rfl) rfl rfl ?_
      refine e_i2l 110 em_464 rfl (ce_at ce_464 64 rfl) (by decide) ?_
      refine e_ladd 111 em_464 rfl (ce_at ce_464 65 rfl) ?_
      refine e_mv 113 em_464 (ce_at ce_464 66 rfl) rfl rfl ?_
      refine e_iinc 116 em_464 (ce_at ce_464 67 rfl) rfl (by decide) rfl ?_
      refine e_goto em_464 73 (ce_at ce_464 68 rfl) rfl ?_
      refine e_pk [0, 1, 2, 3, 5, 7] rfl rfl ?_
      exact e_out (fun r h => h)
    · refine e_mv 99 em_464 (ce_at ce_464 58 rfl) rfl rfl ?_
      refine e_getr 102 em_464 (ce_at ce_464 59 rfl) tq_121 rfl rfl ?_
      refine e_mv 104 em_464 (ce_at ce_464 60 rfl) rfl rfl ?_
      refine e_ild 105 em_464 (ce_at ce_464 61 rfl) tq_214 (by decide) g5 rfl ?_
      refine e_goto em_464 109 (ce_at ce_464 62 rfl) rfl ?_
      refine e_i2l 110 em_464 rfl (ce_at ce_464 64 rfl) g6 ?_
      refine e_ladd 111 em_464 rfl (ce_at ce_464 65 rfl) ?_
      refine e_mv 113 em_464 (ce_at ce_464 66 rfl) rfl rfl ?_
      refine e_iinc 116 em_464 (ce_at ce_464 67 rfl) rfl (by decide) rfl ?_
      refine e_goto em_464 73 (ce_at ce_464 68 rfl) rfl ?_
      refine e_pk [0, 1, 2, 3, 5, 7] rfl rfl ?_
      exact e_out (fun r h => h)
theorem fm_countAll_73b (v1 : Int) (v2 : Int) (v3 : Int) (v5 : Int) (v7 : Int) (s : iS) : Fm (fun r : (Int × Int × iS) ⊕ (Int × iS) => r.elim (fun l => l.2.2) (fun e => e.2)) L_m_countAll G_m_countAll s (m_countAll_73b v1 v2 v3 v5 v7 s) := fm_gd (fm_gd (fm_gd (fm_if (fm_some md_refl) (fm_gd (fm_gd (fm_if (fm_some md_refl) (fm_some md_refl)))))))
def m_countAll_127C (w : ev_W) (d : Nat) (v1 : Int) (v2 : Int) : (Int × Int × Int × iS) ⊕ (Int × Int × iS) → am_E → Prop := fun q r => q.elim (fun l => ev w d 464 127 ((fun l => [(0, .ref (tb_nK + 121)), (1, iv v1), (2, iv v2), (3, lv (l.1)), (5, lv (l.2.1)), (7, iv (l.2.2.1))]) l) [] (hT ((fun l => l.2.2.2) l)) r) (fun e => (fun e r => ev w d 464 214 [(0, .ref (tb_nK + 121)), (1, iv v1), (2, iv v2), (3, lv (e.1)), (5, lv (e.2.1))] [] (hT (e.2.2)) r) e r)
noncomputable def m_countAll_169 (v1 : Int) (v2 : Int) (v5 : Int) (v7 : Int) (v8 : Int) (t0 : Int) (t1 : Int) (s : iS) : Option ((Int × Int × Int × iS) ⊕ (Int × Int × iS)) := gd (rg v8) (if v8 ≤ 1 then if v8 = 0 then some (.inl ((t1 + t0), (v5 + 3), (v7 + 1), s)) else some (.inl ((t1 + t0), (v5 + 2), (v7 + 1), s)) else gd (0 ≤ (v8 - 2) ∧ (v8 - 2) < 16) (some (.inl ((t1 + t0), (v5 + (s 221 (v8 - 2).toNat)), (v7 + 1), s))))
theorem tm_countAll_169 (w : ev_W) (d : Nat) (hd : 0 ≤ d) (v1 : Int) (v2 : Int) (v5 : Int) (v7 : Int) (v8 : Int) (t0 : Int) (t1 : Int) (s : iS) : Ew hT w d 464 169 [(0, .ref (tb_nK + 121)), (1, iv v1), (2, iv v2), (5, lv v5), (7, iv v7), (8, iv v8)] [lv t0, lv t1] s (m_countAll_127C w d v1 v2) (m_countAll_169 v1 v2 v5 v7 v8 t0 t1 s) := by
  unfold m_countAll_169
  refine e_ladd 170 em_464 rfl (ce_at ce_464 99 rfl) ?_
  refine e_mv 171 em_464 (ce_at ce_464 100 rfl) rfl rfl ?_
  refine e_mv 173 em_464 (ce_at ce_464 101 rfl) rfl rfl ?_
  refine e_mv 175 em_464 (ce_at ce_464 102 rfl) rfl rfl ?_
  refine e_op 176 em_464 (ce_at ce_464 103 rfl) rfl rfl ?_
  refine e_gd fun g1 => ?_
  refine e_cmle 191 179 em_464 rfl rfl (ce_at ce_464 104 rfl) g1 (by decide) (fun h2 => ?_) (fun h2 => ?_)
  · refine e_mv 193 em_464 (ce_at ce_464 112 rfl) rfl rfl ?_
    refine e_ifne 202 196 em_464 rfl rfl (ce_at ce_464 113 rfl) g1 (fun h3 => ?_) (fun h3 => ?_)
    · refine e_ldcl 205 em_464 (ce_at ce_464 116 rfl) (x := 2) rfl rfl ?_
      refine e_ladd 206 em_464 rfl (ce_at ce_464 117 rfl) ?_
      refine e_mv 208 em_464 (ce_at ce_464 118 rfl) rfl rfl ?_
      refine e_iinc 211 em_464 (ce_at ce_464 119 rfl) rfl (by decide) rfl ?_
      refine e_goto em_464 127 (ce_at ce_464 120 rfl) rfl ?_
      refine e_pk [0, 1, 2, 3, 5, 7] rfl rfl ?_
      exact e_out (fun r h => h)
    · refine e_ldcl 199 em_464 (ce_at ce_464 114 rfl) (x := 3) rfl rfl ?_
      refine e_goto em_464 205 (ce_at ce_464 115 rfl) rfl ?_
      refine e_ladd 206 em_464 rfl (ce_at ce_464 117 rfl) ?_
      refine e_mv 208 em_464 (ce_at ce_464 118 rfl) rfl rfl ?_
      refine e_iinc 211 em_464 (ce_at ce_464 119 rfl) rfl (by decide) rfl ?_
      refine e_goto em_464 127 (ce_at ce_464 120 rfl) rfl ?_
      refine e_pk [0, 1, 2, 3, 5, 7] rfl rfl ?_
      exact e_out (fun r h => h)
  · refine e_mv 180 em_464 (ce_at ce_464 105 rfl) rfl rfl ?_
    refine e_getr 183 em_464 (ce_at ce_464 106 rfl) tq_121 rfl rfl ?_
    refine e_mv 185 em_464 (ce_at ce_464 107 rfl) rfl rfl ?_
    refine e_op 186 em_464 (ce_at ce_464 108 rfl) rfl rfl ?_
    refine e_isub 187 em_464 rfl (ce_at ce_464 109 rfl) ?_
    refine e_gd fun g4 => ?_
    refine e_lld 188 em_464 (ce_at ce_464 110 rfl) tq_221 (by decide) g4 rfl ?_
    refine e_goto em_464 205 (ce_at ce_464 111 rfl) rfl ?_
    refine e_ladd 206 em_464 rfl (ce_at ce_464 117 rfl) ?_
    refine e_mv 208 em_464 (ce_at ce_464 118 rfl) rfl rfl ?_
    refine e_iinc 211 em_464 (ce_at ce_464 119 rfl) rfl (by decide) rfl ?_
    refine e_goto em_464 127 (ce_at ce_464 120 rfl) rfl ?_
    refine e_pk [0, 1, 2, 3, 5, 7] rfl rfl ?_
    exact e_out (fun r h => h)
theorem fm_countAll_169 (v1 : Int) (v2 : Int) (v5 : Int) (v7 : Int) (v8 : Int) (t0 : Int) (t1 : Int) (s : iS) : Fm (fun r : (Int × Int × Int × iS) ⊕ (Int × Int × iS) => r.elim (fun l => l.2.2.2) (fun e => e.2.2)) L_m_countAll G_m_countAll s (m_countAll_169 v1 v2 v5 v7 v8 t0 t1 s) := fm_gd (fm_if (fm_if (fm_some md_refl) (fm_some md_refl)) (fm_gd (fm_some md_refl)))
noncomputable def m_countAll_127b (v1 : Int) (v2 : Int) (v3 : Int) (v5 : Int) (v7 : Int) (s : iS) : Option ((Int × Int × Int × iS) ⊕ (Int × Int × iS)) := gd (0 ≤ (v2 + 1) ∧ (v2 + 1) < 18) (gd (rg v7) (gd (rg (s 201 (v2 + 1).toNat)) (if (s 201 (v2 + 1).toNat) ≤ v7 then some (.inr (v3, v5, s)) else gd (0 ≤ v7 ∧ v7 < 400) (gd (rg (s 216 v7.toNat)) (if (s 216 v7.toNat) ≤ 1 then m_countAll_169 v1 v2 v5 v7 (s 216 v7.toNat) 1 v3 s else gd (0 ≤ ((s 216 v7.toNat) - 2) ∧ ((s 216 v7.toNat) - 2) < 16) (m_countAll_169 v1 v2 v5 v7 (s 216 v7.toNat) (s 220 ((s 216 v7.toNat) - 2).toNat) v3 s))))))
theorem tm_countAll_127b (w : ev_W) (d : Nat) (hd : 0 ≤ d) (v1 : Int) (v2 : Int) (v3 : Int) (v5 : Int) (v7 : Int) (s : iS) : Ew hT w d 464 127 [(0, .ref (tb_nK + 121)), (1, iv v1), (2, iv v2), (3, lv v3), (5, lv v5), (7, iv v7)] [] s (m_countAll_127C w d v1 v2) (m_countAll_127b v1 v2 v3 v5 v7 s) := by
  unfold m_countAll_127b
  refine e_mv 129 em_464 (ce_at ce_464 74 rfl) rfl rfl ?_
  refine e_mv 130 em_464 (ce_at ce_464 75 rfl) rfl rfl ?_
  refine e_getr 133 em_464 (ce_at ce_464 76 rfl) tq_121 rfl rfl ?_
  refine e_mv 134 em_464 (ce_at ce_464 77 rfl) rfl rfl ?_
  refine e_op 135 em_464 (ce_at ce_464 78 rfl) rfl rfl ?_
  refine e_iadd 136 em_464 rfl (ce_at ce_464 79 rfl) ?_
  refine e_gd fun g1 => ?_
  refine e_ild 137 em_464 (ce_at ce_464 80 rfl) tq_201 (by decide) g1 rfl ?_
  refine e_gd fun g2 => ?_
  refine e_gd fun g3 => ?_
  refine e_cmge 214 140 em_464 rfl rfl (ce_at ce_464 81 rfl) g2 g3 (fun h4 => ?_) (fun h4 => ?_)
  · refine e_pk [0, 1, 2, 3, 5] rfl rfl ?_
    exact e_out (fun r h => h)
  · refine e_mv 141 em_464 (ce_at ce_464 82 rfl) rfl rfl ?_
    refine e_getr 144 em_464 (ce_at ce_464 83 rfl) tq_121 rfl rfl ?_
    refine e_mv 146 em_464 (ce_at ce_464 84 rfl) rfl rfl ?_
    refine e_gd fun g5 => ?_
    refine e_ild 147 em_464 (ce_at ce_464 85 rfl) tq_216 (by decide) g5 rfl ?_
    refine e_mv 149 em_464 (ce_at ce_464 86 rfl) rfl rfl ?_
    refine e_mv 150 em_464 (ce_at ce_464 87 rfl) rfl rfl ?_
    refine e_mv 152 em_464 (ce_at ce_464 88 rfl) rfl rfl ?_
    refine e_op 153 em_464 (ce_at ce_464 89 rfl) rfl rfl ?_
    refine e_gd fun g6 => ?_
    refine e_cmle 168 156 em_464 rfl rfl (ce_at ce_464 90 rfl) g6 (by decide) (fun h7 => ?_) (fun h7 => ?_)
    · refine e_lcon 169 em_464 (ce_at ce_464 98 rfl) (x := 1) rfl rfl ?_
      refine e_pk [0, 1, 2, 5, 7, 8] rfl rfl ?_
      exact tm_countAll_169 w d hd _ _ _ _ _ _ _ _
    · refine e_mv 157 em_464 (ce_at ce_464 91 rfl) rfl rfl ?_
      refine e_getr 160 em_464 (ce_at ce_464 92 rfl) tq_121 rfl rfl ?_
      refine e_mv 162 em_464 (ce_at ce_464 93 rfl) rfl rfl ?_
      refine e_op 163 em_464 (ce_at ce_464 94 rfl) rfl rfl ?_
      refine e_isub 164 em_464 rfl (ce_at ce_464 95 rfl) ?_
      refine e_gd fun g8 => ?_
      refine e_lld 165 em_464 (ce_at ce_464 96 rfl) tq_220 (by decide) g8 rfl ?_
      refine e_goto em_464 169 (ce_at ce_464 97 rfl) rfl ?_
      refine e_pk [0, 1, 2, 5, 7, 8] rfl rfl ?_
      exact tm_countAll_169 w d hd _ _ _ _ _ _ _ _
theorem fm_countAll_127b (v1 : Int) (v2 : Int) (v3 : Int) (v5 : Int) (v7 : Int) (s : iS) : Fm (fun r : (Int × Int × Int × iS) ⊕ (Int × Int × iS) => r.elim (fun l => l.2.2.2) (fun e => e.2.2)) L_m_countAll G_m_countAll s (m_countAll_127b v1 v2 v3 v5 v7 s) := fm_gd (fm_gd (fm_gd (fm_if (fm_some md_refl) (fm_gd (fm_gd (fm_if (fm_countAll_169 _ _ _ _ _ _ _ _) (fm_gd (fm_countAll_169 _ _ _ _ _ _ _ _))))))))
def m_countAll_12C (w : ev_W) (d : Nat) (v1 : Int) : (Int × iS) ⊕ (iS) → am_E → Prop := fun q r => q.elim (fun l => ev w d 464 12 ((fun l => [(0, .ref (tb_nK + 121)), (1, iv v1), (2, iv (l.1))]) l) [] (hT ((fun l => l.2) l)) r) (fun e => (fun e r => ev w d 464 264 [(0, .ref (tb_nK + 121)), (1, iv v1)] [] (hT (e)) r) e r)
noncomputable def m_countAll_257 (v1 : Int) (v2 : Int) (t0 : Int) (t1 : Int) (s : iS) : Option ((Int × iS) ⊕ (iS)) := gd (0 ≤ t1 ∧ t1 < 16) (lt' (up s 221 t1.toNat t0) (fun s2 => some (.inl ((v2 + 1), s2))))
theorem tm_countAll_257 (w : ev_W) (d : Nat) (hd : 0 ≤ d) (v1 : Int) (v2 : Int) (t0 : Int) (t1 : Int) (s : iS) : Ew hT w d 464 257 [(0, .ref (tb_nK + 121)), (1, iv v1), (2, iv v2)] [lv t0, iv t1, .ref (tb_nK + 221)] s (m_countAll_12C w d v1) (m_countAll_257 v1 v2 t0 t1 s) := by
  unfold m_countAll_257
  refine e_gd fun g1 => ?_
  refine e_lst 258 em_464 (ce_at ce_464 142 rfl) tq_221 (by decide) g1 rfl (fun s2 => ?_)
  refine e_iinc 261 em_464 (ce_at ce_464 143 rfl) rfl (by decide) rfl ?_
  refine e_goto em_464 12 (ce_at ce_464 144 rfl) rfl ?_
  refine e_pk [0, 1, 2] rfl rfl ?_
  exact e_out (fun r h => h)
theorem fm_countAll_257 (v1 : Int) (v2 : Int) (t0 : Int) (t1 : Int) (s : iS) : Fm (fun r : (Int × iS) ⊕ (iS) => r.elim (fun l => l.2) (fun e => e)) L_m_countAll G_m_countAll s (m_countAll_257 v1 v2 t0 t1 s) := fm_gd (fm_lt (md_upL (mem_L rfl)) (fun s2 => fm_some md_refl))
noncomputable def m_countAll_234 (v1 : Int) (v2 : Int) (v5 : Int) (t0 : Int) (t1 : Int) (s : iS) : Option ((Int × iS) ⊕ (iS)) := gd (0 ≤ t1 ∧ t1 < 16) (lt' (up s 220 t1.toNat t0) (fun s2 => gd (rg (l_cmp v5 1000000)) (if (l_cmp v5 1000000) ≤ 0 then m_countAll_257 v1 v2 v5 v2 s2 else m_countAll_257 v1 v2 1000000 v2 s2)))
theorem tm_countAll_234 (w : ev_W) (d : Nat) (hd : 0 ≤ d) (v1 : Int) (v2 : Int) (v5 : Int) (t0 : Int) (t1 : Int) (s : iS) : Ew hT w d 464 234 [(0, .ref (tb_nK + 121)), (1, iv v1), (2, iv v2), (5, lv v5)] [lv t0, iv t1, .ref (tb_nK + 220)] s (m_countAll_12C w d v1) (m_countAll_234 v1 v2 v5 t0 t1 s) := by
  unfold m_countAll_234
  refine e_gd fun g1 => ?_
  refine e_lst 235 em_464 (ce_at ce_464 131 rfl) tq_220 (by decide) g1 rfl (fun s2 => ?_)
  refine e_mv 236 em_464 (ce_at ce_464 132 rfl) rfl rfl ?_
  refine e_getr 239 em_464 (ce_at ce_464 133 rfl) tq_121 rfl rfl ?_
  refine e_mv 240 em_464 (ce_at ce_464 134 rfl) rfl rfl ?_
  refine e_mv 242 em_464 (ce_at ce_464 135 rfl) rfl rfl ?_
  refine e_ldcl 245 em_464 (ce_at ce_464 136 rfl) (x := 1000000) rfl rfl ?_
  refine e_lcmp 246 em_464 rfl (ce_at ce_464 137 rfl) ?_
  refine e_gd fun g3 => ?_
  refine e_ifle 255 249 em_464 rfl rfl (ce_at ce_464 138 rfl) g3 (fun h4 => ?_) (fun h4 => ?_)
  · refine e_mv 257 em_464 (ce_at ce_464 141 rfl) rfl rfl ?_
    refine e_pk [0, 1, 2] rfl rfl ?_
    exact tm_countAll_257 w d hd _ _ _ _ _
  · refine e_ldcl 252 em_464 (ce_at ce_464 139 rfl) (x := 1000000) rfl rfl ?_
    refine e_goto em_464 257 (ce_at ce_464 140 rfl) rfl ?_
    refine e_pk [0, 1, 2] rfl rfl ?_
    exact tm_countAll_257 w d hd _ _ _ _ _
theorem fm_countAll_234 (v1 : Int) (v2 : Int) (v5 : Int) (t0 : Int) (t1 : Int) (s : iS) : Fm (fun r : (Int × iS) ⊕ (iS) => r.elim (fun l => l.2) (fun e => e)) L_m_countAll G_m_countAll s (m_countAll_234 v1 v2 v5 t0 t1 s) := fm_gd (fm_lt (md_upL (mem_L rfl)) (fun s2 => fm_gd (fm_if (fm_countAll_257 _ _ _ _ _) (fm_countAll_257 _ _ _ _ _))))
noncomputable def m_countAll_214 (v1 : Int) (v2 : Int) (v3 : Int) (v5 : Int) (s : iS) : Option ((Int × iS) ⊕ (iS)) := gd (rg (l_cmp v3 1000000)) (if (l_cmp v3 1000000) ≤ 0 then m_countAll_234 v1 v2 v5 v3 v2 s else m_countAll_234 v1 v2 v5 1000000 v2 s)
theorem tm_countAll_214 (w : ev_W) (d : Nat) (hd : 0 ≤ d) (v1 : Int) (v2 : Int) (v3 : Int) (v5 : Int) (s : iS) : Ew hT w d 464 214 [(0, .ref (tb_nK + 121)), (1, iv v1), (2, iv v2), (3, lv v3), (5, lv v5)] [] s (m_countAll_12C w d v1) (m_countAll_214 v1 v2 v3 v5 s) := by
  unfold m_countAll_214
  refine e_mv 215 em_464 (ce_at ce_464 121 rfl) rfl rfl ?_
  refine e_getr 218 em_464 (ce_at ce_464 122 rfl) tq_121 rfl rfl ?_
  refine e_mv 219 em_464 (ce_at ce_464 123 rfl) rfl rfl ?_
  refine e_mv 220 em_464 (ce_at ce_464 124 rfl) rfl rfl ?_
  refine e_ldcl 223 em_464 (ce_at ce_464 125 rfl) (x := 1000000) rfl rfl ?_
  refine e_lcmp 224 em_464 rfl (ce_at ce_464 126 rfl) ?_
  refine e_gd fun g1 => ?_
  refine e_ifle 233 227 em_464 rfl rfl (ce_at ce_464 127 rfl) g1 (fun h2 => ?_) (fun h2 => ?_)
  · refine e_mv 234 em_464 (ce_at ce_464 130 rfl) rfl rfl ?_
    refine e_pk [0, 1, 2, 5] rfl rfl ?_
    exact tm_countAll_234 w d hd _ _ _ _ _ _
  · refine e_ldcl 230 em_464 (ce_at ce_464 128 rfl) (x := 1000000) rfl rfl ?_
    refine e_goto em_464 234 (ce_at ce_464 129 rfl) rfl ?_
    refine e_pk [0, 1, 2, 5] rfl rfl ?_
    exact tm_countAll_234 w d hd _ _ _ _ _ _
theorem fm_countAll_214 (v1 : Int) (v2 : Int) (v3 : Int) (v5 : Int) (s : iS) : Fm (fun r : (Int × iS) ⊕ (iS) => r.elim (fun l => l.2) (fun e => e)) L_m_countAll G_m_countAll s (m_countAll_214 v1 v2 v3 v5 s) := fm_gd (fm_if (fm_countAll_234 _ _ _ _ _ _) (fm_countAll_234 _ _ _ _ _ _))
noncomputable def m_countAll_127 (v1 : Int) (v2 : Int) (v3 : Int) (v5 : Int) (v7 : Int) (s : iS) : Option ((Int × iS) ⊕ (iS)) := (lp (L := Int × Int × Int × iS) (E := Int × Int × iS) (fun l => m_countAll_127b v1 v2 (l.1) (l.2.1) (l.2.2.1) (l.2.2.2)) (v3, v5, v7, s)).bind (fun e => m_countAll_214 v1 v2 (e.1) (e.2.1) (e.2.2))
theorem tm_countAll_127 (w : ev_W) (d : Nat) (hd : 0 ≤ d) (v1 : Int) (v2 : Int) (v3 : Int) (v5 : Int) (v7 : Int) (s : iS) : Ew hT w d 464 127 [(0, .ref (tb_nK + 121)), (1, iv v1), (2, iv v2), (3, lv v3), (5, lv v5), (7, iv v7)] [] s (m_countAll_12C w d v1) (m_countAll_127 v1 v2 v3 v5 v7 s) := by
  unfold m_countAll_127
  refine e_lp (LO := fun l => [(0, .ref (tb_nK + 121)), (1, iv v1), (2, iv v2), (3, lv (l.1)), (5, lv (l.2.1)), (7, iv (l.2.2.1))]) (LS := fun l => l.2.2.2) (CE := fun e r => ev w d 464 214 [(0, .ref (tb_nK + 121)), (1, iv v1), (2, iv v2), (3, lv (e.1)), (5, lv (e.2.1))] [] (hT (e.2.2)) r) (fun l => tm_countAll_127b w d hd _ _ _ _ _ _) ?_ (v3, v5, v7, s)
  intro e
  show Ew hT w d 464 214 [(0, .ref (tb_nK + 121)), (1, iv v1), (2, iv v2), (3, lv (e.1)), (5, lv (e.2.1))] [] e.2.2 (m_countAll_12C w d v1) _
  refine e_pk [0, 1, 2, 3, 5] rfl rfl ?_
  exact tm_countAll_214 w d hd _ _ _ _ _
theorem fm_countAll_127 (v1 : Int) (v2 : Int) (v3 : Int) (v5 : Int) (v7 : Int) (s : iS) : Fm (fun r : (Int × iS) ⊕ (iS) => r.elim (fun l => l.2) (fun e => e)) L_m_countAll G_m_countAll s (m_countAll_127 v1 v2 v3 v5 v7 s) := fm_lp (LS := fun l => l.2.2.2) (LE := fun e => e.2.2) (fun l => fm_countAll_127b _ _ _ _ _ _) (fun e => fm_countAll_214 _ _ _ _ _) (v3, v5, v7, s)
noncomputable def m_countAll_119 (v1 : Int) (v2 : Int) (v3 : Int) (v5 : Int) (s : iS) : Option ((Int × iS) ⊕ (iS)) := gd (0 ≤ v2 ∧ v2 < 18) (m_countAll_127 v1 v2 v3 v5 (s 201 v2.toNat) s)
theorem tm_countAll_119 (w : ev_W) (d : Nat) (hd : 0 ≤ d) (v1 : Int) (v2 : Int) (v3 : Int) (v5 : Int) (s : iS) : Ew hT w d 464 119 [(0, .ref (tb_nK + 121)), (1, iv v1), (2, iv v2), (3, lv v3), (5, lv v5)] [] s (m_countAll_12C w d v1) (m_countAll_119 v1 v2 v3 v5 s) := by
  unfold m_countAll_119
  refine e_mv 120 em_464 (ce_at ce_464 69 rfl) rfl rfl ?_
  refine e_getr 123 em_464 (ce_at ce_464 70 rfl) tq_121 rfl rfl ?_
  refine e_mv 124 em_464 (ce_at ce_464 71 rfl) rfl rfl ?_
  refine e_gd fun g1 => ?_
  refine e_ild 125 em_464 (ce_at ce_464 72 rfl) tq_201 (by decide) g1 rfl ?_
  refine e_mv 127 em_464 (ce_at ce_464 73 rfl) rfl rfl ?_
  refine e_pk [0, 1, 2, 3, 5, 7] rfl rfl ?_
  exact tm_countAll_127 w d hd _ _ _ _ _ _
theorem fm_countAll_119 (v1 : Int) (v2 : Int) (v3 : Int) (v5 : Int) (s : iS) : Fm (fun r : (Int × iS) ⊕ (iS) => r.elim (fun l => l.2) (fun e => e)) L_m_countAll G_m_countAll s (m_countAll_119 v1 v2 v3 v5 s) := fm_gd (fm_countAll_127 _ _ _ _ _ _)
noncomputable def m_countAll_73 (v1 : Int) (v2 : Int) (v3 : Int) (v5 : Int) (v7 : Int) (s : iS) : Option ((Int × iS) ⊕ (iS)) := (lp (L := Int × Int × iS) (E := Int × iS) (fun l => m_countAll_73b v1 v2 v3 (l.1) (l.2.1) (l.2.2)) (v5, v7, s)).bind (fun e => m_countAll_119 v1 v2 v3 (e.1) (e.2))
theorem tm_countAll_73 (w : ev_W) (d : Nat) (hd : 0 ≤ d) (v1 : Int) (v2 : Int) (v3 : Int) (v5 : Int) (v7 : Int) (s : iS) : Ew hT w d 464 73 [(0, .ref (tb_nK + 121)), (1, iv v1), (2, iv v2), (3, lv v3), (5, lv v5), (7, iv v7)] [] s (m_countAll_12C w d v1) (m_countAll_73 v1 v2 v3 v5 v7 s) := by
  unfold m_countAll_73
  refine e_lp (LO := fun l => [(0, .ref (tb_nK + 121)), (1, iv v1), (2, iv v2), (3, lv v3), (5, lv (l.1)), (7, iv (l.2.1))]) (LS := fun l => l.2.2) (CE := fun e r => ev w d 464 119 [(0, .ref (tb_nK + 121)), (1, iv v1), (2, iv v2), (3, lv v3), (5, lv (e.1))] [] (hT (e.2)) r) (fun l => tm_countAll_73b w d hd _ _ _ _ _ _) ?_ (v5, v7, s)
  intro e
  show Ew hT w d 464 119 [(0, .ref (tb_nK + 121)), (1, iv v1), (2, iv v2), (3, lv v3), (5, lv (e.1))] [] e.2 (m_countAll_12C w d v1) _
  refine e_pk [0, 1, 2, 3, 5] rfl rfl ?_
  exact tm_countAll_119 w d hd _ _ _ _ _
theorem fm_countAll_73 (v1 : Int) (v2 : Int) (v3 : Int) (v5 : Int) (v7 : Int) (s : iS) : Fm (fun r : (Int × iS) ⊕ (iS) => r.elim (fun l => l.2) (fun e => e)) L_m_countAll G_m_countAll s (m_countAll_73 v1 v2 v3 v5 v7 s) := fm_lp (LS := fun l => l.2.2) (LE := fun e => e.2) (fun l => fm_countAll_73b _ _ _ _ _ _) (fun e => fm_countAll_119 _ _ _ _ _) (v5, v7, s)
noncomputable def m_countAll_65 (v1 : Int) (v2 : Int) (v3 : Int) (v5 : Int) (s : iS) : Option ((Int × iS) ⊕ (iS)) := gd (0 ≤ v2 ∧ v2 < 18) (m_countAll_73 v1 v2 v3 v5 (s 212 v2.toNat) s)
theorem tm_countAll_65 (w : ev_W) (d : Nat) (hd : 0 ≤ d) (v1 : Int) (v2 : Int) (v3 : Int) (v5 : Int) (s : iS) : Ew hT w d 464 65 [(0, .ref (tb_nK + 121)), (1, iv v1), (2, iv v2), (3, lv v3), (5, lv v5)] [] s (m_countAll_12C w d v1) (m_countAll_65 v1 v2 v3 v5 s) := by
  unfold m_countAll_65
  refine e_mv 66 em_464 (ce_at ce_464 39 rfl) rfl rfl ?_
  refine e_getr 69 em_464 (ce_at ce_464 40 rfl) tq_121 rfl rfl ?_
  refine e_mv 70 em_464 (ce_at ce_464 41 rfl) rfl rfl ?_
  refine e_gd fun g1 => ?_
  refine e_ild 71 em_464 (ce_at ce_464 42 rfl) tq_212 (by decide) g1 rfl ?_
  refine e_mv 73 em_464 (ce_at ce_464 43 rfl) rfl rfl ?_
  refine e_pk [0, 1, 2, 3, 5, 7] rfl rfl ?_
  exact tm_countAll_73 w d hd _ _ _ _ _ _
theorem fm_countAll_65 (v1 : Int) (v2 : Int) (v3 : Int) (v5 : Int) (s : iS) : Fm (fun r : (Int × iS) ⊕ (iS) => r.elim (fun l => l.2) (fun e => e)) L_m_countAll G_m_countAll s (m_countAll_65 v1 v2 v3 v5 s) := fm_gd (fm_countAll_73 _ _ _ _ _ _)
noncomputable def m_countAll_33 (v1 : Int) (v2 : Int) (v3 : Int) (v5 : Int) (v7 : Int) (s : iS) : Option ((Int × iS) ⊕ (iS)) := (lp (L := Int × Int × iS) (E := Int × iS) (fun l => m_countAll_33b v1 v2 v3 (l.1) (l.2.1) (l.2.2)) (v5, v7, s)).bind (fun e => m_countAll_65 v1 v2 v3 (e.1) (e.2))
theorem tm_countAll_33 (w : ev_W) (d : Nat) (hd : 0 ≤ d) (v1 : Int) (v2 : Int) (v3 : Int) (v5 : Int) (v7 : Int) (s : iS) : Ew hT w d 464 33 [(0, .ref (tb_nK + 121)), (1, iv v1), (2, iv v2), (3, lv v3), (5, lv v5), (7, iv v7)] [] s (m_countAll_12C w d v1) (m_countAll_33 v1 v2 v3 v5 v7 s) := by
  unfold m_countAll_33
  refine e_lp (LO := fun l => [(0, .ref (tb_nK + 121)), (1, iv v1), (2, iv v2), (3, lv v3), (5, lv (l.1)), (7, iv (l.2.1))]) (LS := fun l => l.2.2) (CE := fun e r => ev w d 464 65 [(0, .ref (tb_nK + 121)), (1, iv v1), (2, iv v2), (3, lv v3), (5, lv (e.1))] [] (hT (e.2)) r) (fun l => tm_countAll_33b w d hd _ _ _ _ _ _) ?_ (v5, v7, s)
  intro e
  show Ew hT w d 464 65 [(0, .ref (tb_nK + 121)), (1, iv v1), (2, iv v2), (3, lv v3), (5, lv (e.1))] [] e.2 (m_countAll_12C w d v1) _
  refine e_pk [0, 1, 2, 3, 5] rfl rfl ?_
  exact tm_countAll_65 w d hd _ _ _ _ _
theorem fm_countAll_33 (v1 : Int) (v2 : Int) (v3 : Int) (v5 : Int) (v7 : Int) (s : iS) : Fm (fun r : (Int × iS) ⊕ (iS) => r.elim (fun l => l.2) (fun e => e)) L_m_countAll G_m_countAll s (m_countAll_33 v1 v2 v3 v5 v7 s) := fm_lp (LS := fun l => l.2.2) (LE := fun e => e.2) (fun l => fm_countAll_33b _ _ _ _ _ _) (fun e => fm_countAll_65 _ _ _ _ _) (v5, v7, s)
noncomputable def m_countAll_12b (v1 : Int) (v2 : Int) (s : iS) : Option ((Int × iS) ⊕ (iS)) := gd (rg v2) (gd (rg (s 121 122)) (if (s 121 122) ≤ v2 then some (.inr s) else gd (0 ≤ v2 ∧ v2 < 18) (m_countAll_33 v1 v2 0 0 (s 196 v2.toNat) s)))
theorem tm_countAll_12b (w : ev_W) (d : Nat) (hd : 0 ≤ d) (v1 : Int) (v2 : Int) (s : iS) : Ew hT w d 464 12 [(0, .ref (tb_nK + 121)), (1, iv v1), (2, iv v2)] [] s (m_countAll_12C w d v1) (m_countAll_12b v1 v2 s) := by
  unfold m_countAll_12b
  refine e_mv 13 em_464 (ce_at ce_464 8 rfl) rfl rfl ?_
  refine e_mv 14 em_464 (ce_at ce_464 9 rfl) rfl rfl ?_
  refine e_get 17 em_464 (ce_at ce_464 10 rfl) tq_121 rfl rfl ?_
  refine e_gd fun g1 => ?_
  refine e_gd fun g2 => ?_
  refine e_cmge 264 20 em_464 rfl rfl (ce_at ce_464 11 rfl) g1 g2 (fun h3 => ?_) (fun h3 => ?_)
  · refine e_pk [0, 1] rfl rfl ?_
    exact e_out (fun r h => h)
  · refine e_lcon 21 em_464 (ce_at ce_464 12 rfl) (x := 0) rfl rfl ?_
    refine e_mv 22 em_464 (ce_at ce_464 13 rfl) rfl rfl ?_
    refine e_lcon 23 em_464 (ce_at ce_464 14 rfl) (x := 0) rfl rfl ?_
    refine e_mv 25 em_464 (ce_at ce_464 15 rfl) rfl rfl ?_
    refine e_mv 26 em_464 (ce_at ce_464 16 rfl) rfl rfl ?_
    refine e_getr 29 em_464 (ce_at ce_464 17 rfl) tq_121 rfl rfl ?_
    refine e_mv 30 em_464 (ce_at ce_464 18 rfl) rfl rfl ?_
    refine e_gd fun g4 => ?_
    refine e_ild 31 em_464 (ce_at ce_464 19 rfl) tq_196 (by decide) g4 rfl ?_
    refine e_mv 33 em_464 (ce_at ce_464 20 rfl) rfl rfl ?_
    refine e_pk [0, 1, 2, 3, 5, 7] rfl rfl ?_
    exact tm_countAll_33 w d hd _ _ _ _ _ _
theorem fm_countAll_12b (v1 : Int) (v2 : Int) (s : iS) : Fm (fun r : (Int × iS) ⊕ (iS) => r.elim (fun l => l.2) (fun e => e)) L_m_countAll G_m_countAll s (m_countAll_12b v1 v2 s) := fm_gd (fm_gd (fm_if (fm_some md_refl) (fm_gd (fm_countAll_33 _ _ _ _ _ _))))
def m_countAll_2C (w : ev_W) (d : Nat) : (Int × iS) ⊕ (iS) → am_E → Prop := fun q r => q.elim (fun l => ev w d 464 2 ((fun l => [(0, .ref (tb_nK + 121)), (1, iv (l.1))]) l) [] (hT ((fun l => l.2) l)) r) (fun e => (fun e r => ev w d 464 270 [] [] (hT (e)) r) e r)
noncomputable def m_countAll_12 (v1 : Int) (v2 : Int) (s : iS) : Option ((Int × iS) ⊕ (iS)) := (lp (L := Int × iS) (E := iS) (fun l => m_countAll_12b v1 (l.1) (l.2)) (v2, s)).bind (fun e => some (.inl ((v1 + 1), e)))
theorem tm_countAll_12 (w : ev_W) (d : Nat) (hd : 0 ≤ d) (v1 : Int) (v2 : Int) (s : iS) : Ew hT w d 464 12 [(0, .ref (tb_nK + 121)), (1, iv v1), (2, iv v2)] [] s (m_countAll_2C w d) (m_countAll_12 v1 v2 s) := by
  unfold m_countAll_12
  refine e_lp (LO := fun l => [(0, .ref (tb_nK + 121)), (1, iv v1), (2, iv (l.1))]) (LS := fun l => l.2) (CE := fun e r => ev w d 464 264 [(0, .ref (tb_nK + 121)), (1, iv v1)] [] (hT (e)) r) (fun l => tm_countAll_12b w d hd _ _ _) ?_ (v2, s)
  intro e
  show Ew hT w d 464 264 [(0, .ref (tb_nK + 121)), (1, iv v1)] [] e (m_countAll_2C w d) _
  refine e_iinc 267 em_464 (ce_at ce_464 145 rfl) rfl (by decide) rfl ?_
  refine e_goto em_464 2 (ce_at ce_464 146 rfl) rfl ?_
  refine e_pk [0, 1] rfl rfl ?_
  exact e_out (fun r h => h)
theorem fm_countAll_12 (v1 : Int) (v2 : Int) (s : iS) : Fm (fun r : (Int × iS) ⊕ (iS) => r.elim (fun l => l.2) (fun e => e)) L_m_countAll G_m_countAll s (m_countAll_12 v1 v2 s) := fm_lp (LS := fun l => l.2) (LE := fun e => e) (fun l => fm_countAll_12b _ _ _) (fun e => fm_some md_refl) (v2, s)
noncomputable def m_countAll_2b (v1 : Int) (s : iS) : Option ((Int × iS) ⊕ (iS)) := gd (rg v1) (gd (rg (s 121 122)) (if (s 121 122) ≤ v1 then some (.inr s) else m_countAll_12 v1 0 s))
theorem tm_countAll_2b (w : ev_W) (d : Nat) (hd : 0 ≤ d) (v1 : Int) (s : iS) : Ew hT w d 464 2 [(0, .ref (tb_nK + 121)), (1, iv v1)] [] s (m_countAll_2C w d) (m_countAll_2b v1 s) := by
  unfold m_countAll_2b
  refine e_mv 3 em_464 (ce_at ce_464 2 rfl) rfl rfl ?_
  refine e_mv 4 em_464 (ce_at ce_464 3 rfl) rfl rfl ?_
  refine e_get 7 em_464 (ce_at ce_464 4 rfl) tq_121 rfl rfl ?_
  refine e_gd fun g1 => ?_
  refine e_gd fun g2 => ?_
  refine e_cmge 270 10 em_464 rfl rfl (ce_at ce_464 5 rfl) g1 g2 (fun h3 => ?_) (fun h3 => ?_)
  · refine e_pk [] rfl rfl ?_
    exact e_out (fun r h => h)
  · refine e_op 11 em_464 (ce_at ce_464 6 rfl) rfl rfl ?_
    refine e_mv 12 em_464 (ce_at ce_464 7 rfl) rfl rfl ?_
    refine e_pk [0, 1, 2] rfl rfl ?_
    exact tm_countAll_12 w d hd _ _ _
theorem fm_countAll_2b (v1 : Int) (s : iS) : Fm (fun r : (Int × iS) ⊕ (iS) => r.elim (fun l => l.2) (fun e => e)) L_m_countAll G_m_countAll s (m_countAll_2b v1 s) := fm_gd (fm_gd (fm_if (fm_some md_refl) (fm_countAll_12 _ _ _)))
noncomputable def m_countAll_2 (v1 : Int) (s : iS) : Option (Int × iS) := (lp (L := Int × iS) (E := iS) (fun l => m_countAll_2b (l.1) (l.2)) (v1, s)).bind (fun e => some (0, e))
theorem tm_countAll_2 (w : ev_W) (d : Nat) (hd : 0 ≤ d) (v1 : Int) (s : iS) : Ew hT w d 464 2 [(0, .ref (tb_nK + 121)), (1, iv v1)] [] s (Cv hT) (m_countAll_2 v1 s) := by
  unfold m_countAll_2
  refine e_lp (LO := fun l => [(0, .ref (tb_nK + 121)), (1, iv (l.1))]) (LS := fun l => l.2) (CE := fun e r => ev w d 464 270 [] [] (hT (e)) r) (fun l => tm_countAll_2b w d hd _ _) ?_ (v1, s)
  intro e
  show Ew hT w d 464 270 [] [] e (Cv hT) _
  exact e_retv em_464 (ce_at ce_464 147 rfl)
theorem fm_countAll_2 (v1 : Int) (s : iS) : Fm Prod.snd L_m_countAll G_m_countAll s (m_countAll_2 v1 s) := fm_lp (LS := fun l => l.2) (LE := fun e => e) (fun l => fm_countAll_2b _ _) (fun e => fm_some md_refl) (v1, s)
noncomputable def m_countAll (s : iS) : Option (Int × iS) := m_countAll_2 0 s
theorem tm_countAll (w : ev_W) (d : Nat) (hd : 0 ≤ d) (s : iS) : Ew hT w d 464 0 [(0, .ref (tb_nK + 121))] [] s (Cv hT) (m_countAll s) := by
  unfold m_countAll
  refine e_op 1 em_464 (ce_at ce_464 0 rfl) rfl rfl ?_
  refine e_mv 2 em_464 (ce_at ce_464 1 rfl) rfl rfl ?_
  refine e_pk [0, 1] rfl rfl ?_
  exact tm_countAll_2 w d hd _ _
theorem fm_countAll (s : iS) : Fm Prod.snd L_m_countAll G_m_countAll s (m_countAll s) := fm_countAll_2 _ _
/-! m_levelOf -/
def L_m_levelOf : List Nat := []
def G_m_levelOf : List (Nat × Nat) := []
noncomputable def m_levelOf (v1 : Int) (s : iS) : Option (Int × iS) := gd (rg v1) (if v1 < 0 then some (0, s) else gd (0 ≤ v1 ∧ v1 < 40000) (gd (rg (s 223 v1.toNat)) (if (s 223 v1.toNat) = 0 then some (0, s) else gd (0 ≤ ((s 223 v1.toNat) - 1) ∧ ((s 223 v1.toNat) - 1) < 1500) (gd (rg (s 224 ((s 223 v1.toNat) - 1).toNat)) (if (s 224 ((s 223 v1.toNat) - 1).toNat) = 0 then some ((s 226 ((s 223 v1.toNat) - 1).toNat), s) else some (0, s))))))
theorem tm_levelOf (w : ev_W) (d : Nat) (hd : 0 ≤ d) (v1 : Int) (s : iS) : Ew hT w d 475 0 [(0, .ref (tb_nK + 121)), (1, iv v1)] [] s (Ci hT) (m_levelOf v1 s) := by
  unfold m_levelOf
  refine e_mv 1 em_475 (ce_at ce_475 0 rfl) rfl rfl ?_
  refine e_gd fun g1 => ?_
  refine e_iflt 29 4 em_475 rfl rfl (ce_at ce_475 1 rfl) g1 (fun h2 => ?_) (fun h2 => ?_)
  · refine e_op 30 em_475 (ce_at ce_475 17 rfl) rfl rfl ?_
    exact e_reti em_475 (ce_at ce_475 18 rfl)
  · refine e_mv 5 em_475 (ce_at ce_475 2 rfl) rfl rfl ?_
    refine e_getr 8 em_475 (ce_at ce_475 3 rfl) tq_121 rfl rfl ?_
    refine e_mv 9 em_475 (ce_at ce_475 4 rfl) rfl rfl ?_
    refine e_gd fun g3 => ?_
    refine e_ild 10 em_475 (ce_at ce_475 5 rfl) tq_223 (by decide) g3 rfl ?_
    refine e_gd fun g4 => ?_
    refine e_ifeq 29 13 em_475 rfl rfl (ce_at ce_475 6 rfl) g4 (fun h5 => ?_) (fun h5 => ?_)
    · refine e_op 30 em_475 (ce_at ce_475 17 rfl) rfl rfl ?_
      exact e_reti em_475 (ce_at ce_475 18 rfl)
    · refine e_mv 14 em_475 (ce_at ce_475 7 rfl) rfl rfl ?_
      refine e_getr 17 em_475 (ce_at ce_475 8 rfl) tq_121 rfl rfl ?_
      refine e_mv 18 em_475 (ce_at ce_475 9 rfl) rfl rfl ?_
      refine e_getr 21 em_475 (ce_at ce_475 10 rfl) tq_121 rfl rfl ?_
      refine e_mv 22 em_475 (ce_at ce_475 11 rfl) rfl rfl ?_
      refine e_ild 23 em_475 (ce_at ce_475 12 rfl) tq_223 (by decide) g3 rfl ?_
      refine e_op 24 em_475 (ce_at ce_475 13 rfl) rfl rfl ?_
      refine e_isub 25 em_475 rfl (ce_at ce_475 14 rfl) ?_
      refine e_gd fun g6 => ?_
      refine e_zld 26 em_475 (ce_at ce_475 15 rfl) tq_224 (by decide) g6 rfl ?_
      refine e_gd fun g7 => ?_
      refine e_ifeq 31 29 em_475 rfl rfl (ce_at ce_475 16 rfl) g7 (fun h8 => ?_) (fun h8 => ?_)
      · refine e_mv 32 em_475 (ce_at ce_475 19 rfl) rfl rfl ?_
        refine e_getr 35 em_475 (ce_at ce_475 20 rfl) tq_121 rfl rfl ?_
        refine e_mv 36 em_475 (ce_at ce_475 21 rfl) rfl rfl ?_
        refine e_getr 39 em_475 (ce_at ce_475 22 rfl) tq_121 rfl rfl ?_
        refine e_mv 40 em_475 (ce_at ce_475 23 rfl) rfl rfl ?_
        refine e_ild 41 em_475 (ce_at ce_475 24 rfl) tq_223 (by decide) g3 rfl ?_
        refine e_op 42 em_475 (ce_at ce_475 25 rfl) rfl rfl ?_
        refine e_isub 43 em_475 rfl (ce_at ce_475 26 rfl) ?_
        refine e_ild 44 em_475 (ce_at ce_475 27 rfl) tq_226 (by decide) g6 rfl ?_
        exact e_reti em_475 (ce_at ce_475 28 rfl)
      · refine e_op 30 em_475 (ce_at ce_475 17 rfl) rfl rfl ?_
        exact e_reti em_475 (ce_at ce_475 18 rfl)
theorem fm_levelOf (v1 : Int) (s : iS) : Fm Prod.snd L_m_levelOf G_m_levelOf s (m_levelOf v1 s) := fm_gd (fm_if (fm_some md_refl) (fm_gd (fm_gd (fm_if (fm_some md_refl) (fm_gd (fm_gd (fm_if (fm_some md_refl) (fm_some md_refl))))))))
/-! m_order -/
def L_m_order : List Nat := [226, 227]
def G_m_order : List (Nat × Nat) := [(121, 166)]
def m_order_9C (w : ev_W) (d : Nat) : (Int × Int × iS) ⊕ (Int × iS) → am_E → Prop := fun q r => q.elim (fun l => ev w d 474 9 ((fun l => [(0, .ref (tb_nK + 121)), (1, iv (l.1)), (2, iv (l.2.1))]) l) [] (hT ((fun l => l.2.2) l)) r) (fun e => (fun e r => ev w d 474 47 [(0, .ref (tb_nK + 121)), (1, iv (e.1))] [] (hT (e.2)) r) e r)
noncomputable def m_order_9b (v1 : Int) (v2 : Int) (s : iS) : Option ((Int × Int × iS) ⊕ (Int × iS)) := gd (rg v2) (gd (rg (s 121 161)) (if (s 121 161) ≤ v2 then some (.inr (v1, s)) else gd (0 ≤ v2 ∧ v2 < 1500) (lt' (up s 226 v2.toNat (-1)) (fun s5 => gd (rg (s5 224 v2.toNat)) (if (s5 224 v2.toNat) = 0 then some (.inl ((v1 + 1), (v2 + 1), s5)) else some (.inl (v1, (v2 + 1), s5)))))))
theorem tm_order_9b (w : ev_W) (d : Nat) (hd : 1 ≤ d) (v1 : Int) (v2 : Int) (s : iS) : Ew hT w d 474 9 [(0, .ref (tb_nK + 121)), (1, iv v1), (2, iv v2)] [] s (m_order_9C w d) (m_order_9b v1 v2 s) := by
  unfold m_order_9b
  refine e_mv 10 em_474 (ce_at ce_474 7 rfl) rfl rfl ?_
  refine e_mv 11 em_474 (ce_at ce_474 8 rfl) rfl rfl ?_
  refine e_get 14 em_474 (ce_at ce_474 9 rfl) tq_121 rfl rfl ?_
  refine e_gd fun g1 => ?_
  refine e_gd fun g2 => ?_
  refine e_cmge 47 17 em_474 rfl rfl (ce_at ce_474 10 rfl) g1 g2 (fun h3 => ?_) (fun h3 => ?_)
  · refine e_pk [0, 1] rfl rfl ?_
    exact e_out (fun r h => h)
  · refine e_mv 18 em_474 (ce_at ce_474 11 rfl) rfl rfl ?_
    refine e_getr 21 em_474 (ce_at ce_474 12 rfl) tq_121 rfl rfl ?_
    refine e_mv 22 em_474 (ce_at ce_474 13 rfl) rfl rfl ?_
    refine e_op 23 em_474 (ce_at ce_474 14 rfl) rfl rfl ?_
    refine e_gd fun g4 => ?_
    refine e_ist 24 em_474 (ce_at ce_474 15 rfl) tq_226 (by decide) g4 rfl (fun s5 => ?_)
    refine e_mv 25 em_474 (ce_at ce_474 16 rfl) rfl rfl ?_
    refine e_getr 28 em_474 (ce_at ce_474 17 rfl) tq_121 rfl rfl ?_
    refine e_mv 29 em_474 (ce_at ce_474 18 rfl) rfl rfl ?_
    refine e_zld 30 em_474 (ce_at ce_474 19 rfl) tq_224 (by decide) g4 rfl ?_
    refine e_gd fun g6 => ?_
    refine e_ifeq 37 33 em_474 rfl rfl (ce_at ce_474 20 rfl) g6 (fun h7 => ?_) (fun h7 => ?_)
    · refine e_mv 38 em_474 (ce_at ce_474 23 rfl) rfl rfl ?_
      refine e_op 39 em_474 (ce_at ce_474 24 rfl) rfl rfl ?_
      refine e_iadd 40 em_474 rfl (ce_at ce_474 25 rfl) ?_
      refine e_mv 41 em_474 (ce_at ce_474 26 rfl) rfl rfl ?_
      refine e_iinc 44 em_474 (ce_at ce_474 27 rfl) rfl (by decide) rfl ?_
      refine e_goto em_474 9 (ce_at ce_474 28 rfl) rfl ?_
      refine e_pk [0, 1, 2] rfl rfl ?_
      exact e_out (fun r h => h)
    · refine e_mv 34 em_474 (ce_at ce_474 21 rfl) rfl rfl ?_
      refine e_goto em_474 40 (ce_at ce_474 22 rfl) rfl ?_
      refine e_mv 41 em_474 (ce_at ce_474 26 rfl) rfl rfl ?_
      refine e_iinc 44 em_474 (ce_at ce_474 27 rfl) rfl (by decide) rfl ?_
      refine e_goto em_474 9 (ce_at ce_474 28 rfl) rfl ?_
      refine e_pk [0, 1, 2] rfl rfl ?_
      exact e_out (fun r h => h)
theorem fm_order_9b (v1 : Int) (v2 : Int) (s : iS) : Fm (fun r : (Int × Int × iS) ⊕ (Int × iS) => r.elim (fun l => l.2.2) (fun e => e.2)) L_m_order G_m_order s (m_order_9b v1 v2 s) := fm_gd (fm_gd (fm_if (fm_some md_refl) (fm_gd (fm_lt (md_upL (mem_L rfl)) (fun s5 => fm_gd (fm_if (fm_some md_refl) (fm_some md_refl)))))))
def m_order_57C (w : ev_W) (d : Nat) (v1 : Int) : (Int × Int × iS) ⊕ (Int × iS) → am_E → Prop := fun q r => q.elim (fun l => ev w d 474 57 ((fun l => [(0, .ref (tb_nK + 121)), (1, iv v1), (2, iv (l.1)), (3, iv (l.2.1))]) l) [] (hT ((fun l => l.2.2) l)) r) (fun e => (fun e r => ev w d 474 176 [(0, .ref (tb_nK + 121)), (1, iv v1), (2, iv (e.1))] [] (hT (e.2)) r) e r)
noncomputable def m_order_146 (v1 : Int) (v3 : Int) (t0 : Int) (t1 : Int) (t2 : Int) (s : iS) : Option ((Int × Int × iS) ⊕ (Int × iS)) := gd (0 ≤ t2 ∧ t2 < 1500) (lt' (up s 226 t2.toNat (t1 + t0)) (fun s2 => gd (0 ≤ (s2 121 166) ∧ (s2 121 166) < 1500) (lt' (up s2 227 (s2 121 166).toNat v3) (fun s4 => lt' (up s4 121 166 ((s4 121 166) + 1)) (fun s5 => some (.inl (1, (v3 + 1), s5)))))))
theorem tm_order_146 (w : ev_W) (d : Nat) (hd : 1 ≤ d) (v1 : Int) (v3 : Int) (t0 : Int) (t1 : Int) (t2 : Int) (s : iS) : Ew hT w d 474 146 [(0, .ref (tb_nK + 121)), (1, iv v1), (3, iv v3)] [iv t0, iv t1, iv t2, .ref (tb_nK + 226)] s (m_order_57C w d v1) (m_order_146 v1 v3 t0 t1 t2 s) := by
  unfold m_order_146
  refine e_iadd 147 em_474 rfl (ce_at ce_474 84 rfl) ?_
  refine e_gd fun g1 => ?_
  refine e_ist 148 em_474 (ce_at ce_474 85 rfl) tq_226 (by decide) g1 rfl (fun s2 => ?_)
  refine e_mv 149 em_474 (ce_at ce_474 86 rfl) rfl rfl ?_
  refine e_getr 152 em_474 (ce_at ce_474 87 rfl) tq_121 rfl rfl ?_
  refine e_mv 153 em_474 (ce_at ce_474 88 rfl) rfl rfl ?_
  refine e_get 156 em_474 (ce_at ce_474 89 rfl) tq_121 rfl rfl ?_
  refine e_mv 157 em_474 (ce_at ce_474 90 rfl) rfl rfl ?_
  refine e_gd fun g3 => ?_
  refine e_ist 158 em_474 (ce_at ce_474 91 rfl) tq_227 (by decide) g3 rfl (fun s4 => ?_)
  refine e_mv 159 em_474 (ce_at ce_474 92 rfl) rfl rfl ?_
  refine e_mv 160 em_474 (ce_at ce_474 93 rfl) rfl rfl ?_
  refine e_get 163 em_474 (ce_at ce_474 94 rfl) tq_121 rfl rfl ?_
  refine e_op 164 em_474 (ce_at ce_474 95 rfl) rfl rfl ?_
  refine e_iadd 165 em_474 rfl (ce_at ce_474 96 rfl) ?_
  refine e_put 168 em_474 (ce_at ce_474 97 rfl) tq_121 rfl rfl rfl (fun s5 => ?_)
  refine e_op 169 em_474 (ce_at ce_474 98 rfl) rfl rfl ?_
  refine e_mv 170 em_474 (ce_at ce_474 99 rfl) rfl rfl ?_
  refine e_iinc 173 em_474 (ce_at ce_474 100 rfl) rfl (by decide) rfl ?_
  refine e_goto em_474 57 (ce_at ce_474 101 rfl) rfl ?_
  refine e_pk [0, 1, 2, 3] rfl rfl ?_
  exact e_out (fun r h => h)
theorem fm_order_146 (v1 : Int) (v3 : Int) (t0 : Int) (t1 : Int) (t2 : Int) (s : iS) : Fm (fun r : (Int × Int × iS) ⊕ (Int × iS) => r.elim (fun l => l.2.2) (fun e => e.2)) L_m_order G_m_order s (m_order_146 v1 v3 t0 t1 t2 s) := fm_gd (fm_lt (md_upL (mem_L rfl)) (fun s2 => fm_gd (fm_lt (md_upL (mem_L rfl)) (fun s4 => fm_lt (md_upF (mem_F rfl)) (fun s5 => fm_some md_refl)))))
noncomputable def m_order_57b (v1 : Int) (v2 : Int) (v3 : Int) (s : iS) : Option ((Int × Int × iS) ⊕ (Int × iS)) := gd (rg v3) (gd (rg (s 121 161)) (if (s 121 161) ≤ v3 then some (.inr (v2, s)) else gd (0 ≤ v3 ∧ v3 < 1500) (gd (rg (s 224 v3.toNat)) (if (s 224 v3.toNat) = 0 then gd (rg (s 226 v3.toNat)) (if (s 226 v3.toNat) = (-1) then bd (m_levelOf (s 228 v3.toNat) s) (fun r9 s9 => bd (m_levelOf (s9 229 v3.toNat) s9) (fun r10 s10 => gd (rg r9) (if r9 = (-1) then some (.inl (v2, (v3 + 1), s10)) else gd (rg r10) (if r10 = (-1) then some (.inl (v2, (v3 + 1), s10)) else if r9 ≤ r10 then m_order_146 v1 v3 r10 1 v3 s10 else m_order_146 v1 v3 r9 1 v3 s10)))) else some (.inl (v2, (v3 + 1), s))) else some (.inl (v2, (v3 + 1), s))))))
theorem tm_order_57b (w : ev_W) (d : Nat) (hd : 1 ≤ d) (v1 : Int) (v2 : Int) (v3 : Int) (s : iS) : Ew hT w d 474 57 [(0, .ref (tb_nK + 121)), (1, iv v1), (2, iv v2), (3, iv v3)] [] s (m_order_57C w d v1) (m_order_57b v1 v2 v3 s) := by
  unfold m_order_57b
  refine e_mv 58 em_474 (ce_at ce_474 37 rfl) rfl rfl ?_
  refine e_mv 59 em_474 (ce_at ce_474 38 rfl) rfl rfl ?_
  refine e_get 62 em_474 (ce_at ce_474 39 rfl) tq_121 rfl rfl ?_
  refine e_gd fun g1 => ?_
  refine e_gd fun g2 => ?_
  refine e_cmge 176 65 em_474 rfl rfl (ce_at ce_474 40 rfl) g1 g2 (fun h3 => ?_) (fun h3 => ?_)
  · refine e_pk [0, 1, 2] rfl rfl ?_
    exact e_out (fun r h => h)
  · refine e_mv 66 em_474 (ce_at ce_474 41 rfl) rfl rfl ?_
    refine e_getr 69 em_474 (ce_at ce_474 42 rfl) tq_121 rfl rfl ?_
    refine e_mv 70 em_474 (ce_at ce_474 43 rfl) rfl rfl ?_
    refine e_gd fun g4 => ?_
    refine e_zld 71 em_474 (ce_at ce_474 44 rfl) tq_224 (by decide) g4 rfl ?_
    refine e_gd fun g5 => ?_
    refine e_ifne 170 74 em_474 rfl rfl (ce_at ce_474 45 rfl) g5 (fun h6 => ?_) (fun h6 => ?_)
    · refine e_iinc 173 em_474 (ce_at ce_474 100 rfl) rfl (by decide) rfl ?_
      refine e_goto em_474 57 (ce_at ce_474 101 rfl) rfl ?_
      refine e_pk [0, 1, 2, 3] rfl rfl ?_
      exact e_out (fun r h => h)
    · refine e_mv 75 em_474 (ce_at ce_474 46 rfl) rfl rfl ?_
      refine e_getr 78 em_474 (ce_at ce_474 47 rfl) tq_121 rfl rfl ?_
      refine e_mv 79 em_474 (ce_at ce_474 48 rfl) rfl rfl ?_
      refine e_ild 80 em_474 (ce_at ce_474 49 rfl) tq_226 (by decide) g4 rfl ?_
      refine e_op 81 em_474 (ce_at ce_474 50 rfl) rfl rfl ?_
      refine e_gd fun g7 => ?_
      refine e_cmeq 87 84 em_474 rfl rfl (ce_at ce_474 51 rfl) g7 (by decide) (fun h8 => ?_) (fun h8 => ?_)
      · refine e_mv 88 em_474 (ce_at ce_474 53 rfl) rfl rfl ?_
        refine e_mv 89 em_474 (ce_at ce_474 54 rfl) rfl rfl ?_
        refine e_getr 92 em_474 (ce_at ce_474 55 rfl) tq_121 rfl rfl ?_
        refine e_mv 93 em_474 (ce_at ce_474 56 rfl) rfl rfl ?_
        refine e_ild 94 em_474 (ce_at ce_474 57 rfl) tq_228 (by decide) g4 rfl ?_
        refine e_ivi 97 em_474 (ce_at ce_474 58 rfl) (by omega) (iv_v1 (by decide) tq_121 rfl) em_475 (Nat.le_of_ble_eq_true rfl) rfl (tm_levelOf w (d - 1) (by omega) _ _) (fun r9 s9 => ?_)
        refine e_mv 99 em_474 (ce_at ce_474 59 rfl) rfl rfl ?_
        refine e_mv 100 em_474 (ce_at ce_474 60 rfl) rfl rfl ?_
        refine e_mv 101 em_474 (ce_at ce_474 61 rfl) rfl rfl ?_
        refine e_getr 104 em_474 (ce_at ce_474 62 rfl) tq_121 rfl rfl ?_
        refine e_mv 105 em_474 (ce_at ce_474 63 rfl) rfl rfl ?_
        refine e_ild 106 em_474 (ce_at ce_474 64 rfl) tq_229 (by decide) g4 rfl ?_
        refine e_ivi 109 em_474 (ce_at ce_474 65 rfl) (by omega) (iv_v1 (by decide) tq_121 rfl) em_475 (Nat.le_of_ble_eq_true rfl) rfl (tm_levelOf w (d - 1) (by omega) _ _) (fun r10 s10 => ?_)
        refine e_mv 111 em_474 (ce_at ce_474 66 rfl) rfl rfl ?_
        refine e_mv 113 em_474 (ce_at ce_474 67 rfl) rfl rfl ?_
        refine e_op 114 em_474 (ce_at ce_474 68 rfl) rfl rfl ?_
        refine e_gd fun g11 => ?_
        refine e_cmeq 170 117 em_474 rfl rfl (ce_at ce_474 69 rfl) g11 (by decide) (fun h12 => ?_) (fun h12 => ?_)
        · refine e_iinc 173 em_474 (ce_at ce_474 100 rfl) rfl (by decide) rfl ?_
          refine e_goto em_474 57 (ce_at ce_474 101 rfl) rfl ?_
          refine e_pk [0, 1, 2, 3] rfl rfl ?_
          exact e_out (fun r h => h)
        · refine e_mv 119 em_474 (ce_at ce_474 70 rfl) rfl rfl ?_
          refine e_op 120 em_474 (ce_at ce_474 71 rfl) rfl rfl ?_
          refine e_gd fun g13 => ?_
          refine e_cmne 126 123 em_474 rfl rfl (ce_at ce_474 72 rfl) g13 (by decide) (fun h14 => ?_) (fun h14 => ?_)
          · refine e_mv 127 em_474 (ce_at ce_474 74 rfl) rfl rfl ?_
            refine e_getr 130 em_474 (ce_at ce_474 75 rfl) tq_121 rfl rfl ?_
            refine e_mv 131 em_474 (ce_at ce_474 76 rfl) rfl rfl ?_
            refine e_op 132 em_474 (ce_at ce_474 77 rfl) rfl rfl ?_
            refine e_mv 134 em_474 (ce_at ce_474 78 rfl) rfl rfl ?_
            refine e_mv 136 em_474 (ce_at ce_474 79 rfl) rfl rfl ?_
            refine e_cmle 144 139 em_474 rfl rfl (ce_at ce_474 80 rfl) g11 g13 (fun h15 => ?_) (fun h15 => ?_)
            · refine e_mv 146 em_474 (ce_at ce_474 83 rfl) rfl rfl ?_
              refine e_pk [0, 1, 3] rfl rfl ?_
              exact tm_order_146 w d hd _ _ _ _ _ _
            · refine e_mv 141 em_474 (ce_at ce_474 81 rfl) rfl rfl ?_
              refine e_goto em_474 146 (ce_at ce_474 82 rfl) rfl ?_
              refine e_pk [0, 1, 3] rfl rfl ?_
              exact tm_order_146 w d hd _ _ _ _ _ _
          · refine e_goto em_474 170 (ce_at ce_474 73 rfl) rfl ?_
            refine e_iinc 173 em_474 (ce_at ce_474 100 rfl) rfl (by decide) rfl ?_
            refine e_goto em_474 57 (ce_at ce_474 101 rfl) rfl ?_
            refine e_pk [0, 1, 2, 3] rfl rfl ?_
            exact e_out (fun r h => h)
      · refine e_goto em_474 170 (ce_at ce_474 52 rfl) rfl ?_
        refine e_iinc 173 em_474 (ce_at ce_474 100 rfl) rfl (by decide) rfl ?_
        refine e_goto em_474 57 (ce_at ce_474 101 rfl) rfl ?_
        refine e_pk [0, 1, 2, 3] rfl rfl ?_
        exact e_out (fun r h => h)
theorem fm_order_57b (v1 : Int) (v2 : Int) (v3 : Int) (s : iS) : Fm (fun r : (Int × Int × iS) ⊕ (Int × iS) => r.elim (fun l => l.2.2) (fun e => e.2)) L_m_order G_m_order s (m_order_57b v1 v2 v3 s) := fm_gd (fm_gd (fm_if (fm_some md_refl) (fm_gd (fm_gd (fm_if (fm_gd (fm_if (fm_bd (fm_sub (fm_levelOf _ _) (mem_sub_L rfl) (mem_sub_F rfl)) (fun r9 s9 => fm_bd (fm_sub (fm_levelOf _ _) (mem_sub_L rfl) (mem_sub_F rfl)) (fun r10 s10 => fm_gd (fm_if (fm_some md_refl) (fm_gd (fm_if (fm_some md_refl) (fm_if (fm_order_146 _ _ _ _ _ _) (fm_order_146 _ _ _ _ _ _)))))))) (fm_some md_refl))) (fm_some md_refl))))))
def m_order_49C (w : ev_W) (d : Nat) (v1 : Int) : (Int × iS) ⊕ (iS) → am_E → Prop := fun q r => q.elim (fun l => ev w d 474 49 ((fun l => [(0, .ref (tb_nK + 121)), (1, iv v1), (2, iv (l.1))]) l) [] (hT ((fun l => l.2) l)) r) (fun e => (fun e r => ev w d 474 179 [(0, .ref (tb_nK + 121)), (1, iv v1)] [] (hT (e)) r) e r)
noncomputable def m_order_57 (v1 : Int) (v2 : Int) (v3 : Int) (s : iS) : Option ((Int × iS) ⊕ (iS)) := (lp (L := Int × Int × iS) (E := Int × iS) (fun l => m_order_57b v1 (l.1) (l.2.1) (l.2.2)) (v2, v3, s)).bind (fun e => some (.inl (e.1, e.2)))
theorem tm_order_57 (w : ev_W) (d : Nat) (hd : 1 ≤ d) (v1 : Int) (v2 : Int) (v3 : Int) (s : iS) : Ew hT w d 474 57 [(0, .ref (tb_nK + 121)), (1, iv v1), (2, iv v2), (3, iv v3)] [] s (m_order_49C w d v1) (m_order_57 v1 v2 v3 s) := by
  unfold m_order_57
  refine e_lp (LO := fun l => [(0, .ref (tb_nK + 121)), (1, iv v1), (2, iv (l.1)), (3, iv (l.2.1))]) (LS := fun l => l.2.2) (CE := fun e r => ev w d 474 176 [(0, .ref (tb_nK + 121)), (1, iv v1), (2, iv (e.1))] [] (hT (e.2)) r) (fun l => tm_order_57b w d hd _ _ _ _) ?_ (v2, v3, s)
  intro e
  show Ew hT w d 474 176 [(0, .ref (tb_nK + 121)), (1, iv v1), (2, iv (e.1))] [] e.2 (m_order_49C w d v1) _
  refine e_goto em_474 49 (ce_at ce_474 102 rfl) rfl ?_
  refine e_pk [0, 1, 2] rfl rfl ?_
  exact e_out (fun r h => h)
theorem fm_order_57 (v1 : Int) (v2 : Int) (v3 : Int) (s : iS) : Fm (fun r : (Int × iS) ⊕ (iS) => r.elim (fun l => l.2) (fun e => e)) L_m_order G_m_order s (m_order_57 v1 v2 v3 s) := fm_lp (LS := fun l => l.2.2) (LE := fun e => e.2) (fun l => fm_order_57b _ _ _ _) (fun e => fm_some md_refl) (v2, v3, s)
noncomputable def m_order_49b (v1 : Int) (v2 : Int) (s : iS) : Option ((Int × iS) ⊕ (iS)) := gd (rg v2) (if v2 = 0 then some (.inr s) else m_order_57 v1 0 0 s)
theorem tm_order_49b (w : ev_W) (d : Nat) (hd : 1 ≤ d) (v1 : Int) (v2 : Int) (s : iS) : Ew hT w d 474 49 [(0, .ref (tb_nK + 121)), (1, iv v1), (2, iv v2)] [] s (m_order_49C w d v1) (m_order_49b v1 v2 s) := by
  unfold m_order_49b
  refine e_mv 50 em_474 (ce_at ce_474 31 rfl) rfl rfl ?_
  refine e_gd fun g1 => ?_
  refine e_ifeq 179 53 em_474 rfl rfl (ce_at ce_474 32 rfl) g1 (fun h2 => ?_) (fun h2 => ?_)
  · refine e_pk [0, 1] rfl rfl ?_
    exact e_out (fun r h => h)
  · refine e_op 54 em_474 (ce_at ce_474 33 rfl) rfl rfl ?_
    refine e_mv 55 em_474 (ce_at ce_474 34 rfl) rfl rfl ?_
    refine e_op 56 em_474 (ce_at ce_474 35 rfl) rfl rfl ?_
    refine e_mv 57 em_474 (ce_at ce_474 36 rfl) rfl rfl ?_
    refine e_pk [0, 1, 2, 3] rfl rfl ?_
    exact tm_order_57 w d hd _ _ _ _
theorem fm_order_49b (v1 : Int) (v2 : Int) (s : iS) : Fm (fun r : (Int × iS) ⊕ (iS) => r.elim (fun l => l.2) (fun e => e)) L_m_order G_m_order s (m_order_49b v1 v2 s) := fm_gd (fm_if (fm_some md_refl) (fm_order_57 _ _ _ _))
noncomputable def m_order_179 (v1 : Int) (s : iS) : Option (Int × iS) := gd (rg (s 121 166)) (gd (rg v1) (if (s 121 166) = v1 then some (1, s) else some (0, s)))
theorem tm_order_179 (w : ev_W) (d : Nat) (hd : 1 ≤ d) (v1 : Int) (s : iS) : Ew hT w d 474 179 [(0, .ref (tb_nK + 121)), (1, iv v1)] [] s (Ci hT) (m_order_179 v1 s) := by
  unfold m_order_179
  refine e_mv 180 em_474 (ce_at ce_474 103 rfl) rfl rfl ?_
  refine e_get 183 em_474 (ce_at ce_474 104 rfl) tq_121 rfl rfl ?_
  refine e_mv 184 em_474 (ce_at ce_474 105 rfl) rfl rfl ?_
  refine e_gd fun g1 => ?_
  refine e_gd fun g2 => ?_
  refine e_cmne 191 187 em_474 rfl rfl (ce_at ce_474 106 rfl) g1 g2 (fun h3 => ?_) (fun h3 => ?_)
  · refine e_op 192 em_474 (ce_at ce_474 109 rfl) rfl rfl ?_
    exact e_retz em_474 (ce_at ce_474 110 rfl) (by decide)
  · refine e_op 188 em_474 (ce_at ce_474 107 rfl) rfl rfl ?_
    refine e_goto em_474 192 (ce_at ce_474 108 rfl) rfl ?_
    exact e_retz em_474 (ce_at ce_474 110 rfl) (by decide)
theorem fm_order_179 (v1 : Int) (s : iS) : Fm Prod.snd L_m_order G_m_order s (m_order_179 v1 s) := fm_gd (fm_gd (fm_if (fm_some md_refl) (fm_some md_refl)))
noncomputable def m_order_49 (v1 : Int) (v2 : Int) (s : iS) : Option (Int × iS) := (lp (L := Int × iS) (E := iS) (fun l => m_order_49b v1 (l.1) (l.2)) (v2, s)).bind (fun e => m_order_179 v1 e)
theorem tm_order_49 (w : ev_W) (d : Nat) (hd : 1 ≤ d) (v1 : Int) (v2 : Int) (s : iS) : Ew hT w d 474 49 [(0, .ref (tb_nK + 121)), (1, iv v1), (2, iv v2)] [] s (Ci hT) (m_order_49 v1 v2 s) := by
  unfold m_order_49
  refine e_lp (LO := fun l => [(0, .ref (tb_nK + 121)), (1, iv v1), (2, iv (l.1))]) (LS := fun l => l.2) (CE := fun e r => ev w d 474 179 [(0, .ref (tb_nK + 121)), (1, iv v1)] [] (hT (e)) r) (fun l => tm_order_49b w d hd _ _ _) ?_ (v2, s)
  intro e
  show Ew hT w d 474 179 [(0, .ref (tb_nK + 121)), (1, iv v1)] [] e (Ci hT) _
  refine e_pk [0, 1] rfl rfl ?_
  exact tm_order_179 w d hd _ _
theorem fm_order_49 (v1 : Int) (v2 : Int) (s : iS) : Fm Prod.snd L_m_order G_m_order s (m_order_49 v1 v2 s) := fm_lp (LS := fun l => l.2) (LE := fun e => e) (fun l => fm_order_49b _ _ _) (fun e => fm_order_179 _ _) (v2, s)
noncomputable def m_order_47 (v1 : Int) (s : iS) : Option (Int × iS) := m_order_49 v1 1 s
theorem tm_order_47 (w : ev_W) (d : Nat) (hd : 1 ≤ d) (v1 : Int) (s : iS) : Ew hT w d 474 47 [(0, .ref (tb_nK + 121)), (1, iv v1)] [] s (Ci hT) (m_order_47 v1 s) := by
  unfold m_order_47
  refine e_op 48 em_474 (ce_at ce_474 29 rfl) rfl rfl ?_
  refine e_mv 49 em_474 (ce_at ce_474 30 rfl) rfl rfl ?_
  refine e_pk [0, 1, 2] rfl rfl ?_
  exact tm_order_49 w d hd _ _ _
theorem fm_order_47 (v1 : Int) (s : iS) : Fm Prod.snd L_m_order G_m_order s (m_order_47 v1 s) := fm_order_49 _ _ _
noncomputable def m_order_9 (v1 : Int) (v2 : Int) (s : iS) : Option (Int × iS) := (lp (L := Int × Int × iS) (E := Int × iS) (fun l => m_order_9b (l.1) (l.2.1) (l.2.2)) (v1, v2, s)).bind (fun e => m_order_47 (e.1) (e.2))
theorem tm_order_9 (w : ev_W) (d : Nat) (hd : 1 ≤ d) (v1 : Int) (v2 : Int) (s : iS) : Ew hT w d 474 9 [(0, .ref (tb_nK + 121)), (1, iv v1), (2, iv v2)] [] s (Ci hT) (m_order_9 v1 v2 s) := by
  unfold m_order_9
  refine e_lp (LO := fun l => [(0, .ref (tb_nK + 121)), (1, iv (l.1)), (2, iv (l.2.1))]) (LS := fun l => l.2.2) (CE := fun e r => ev w d 474 47 [(0, .ref (tb_nK + 121)), (1, iv (e.1))] [] (hT (e.2)) r) (fun l => tm_order_9b w d hd _ _ _) ?_ (v1, v2, s)
  intro e
  show Ew hT w d 474 47 [(0, .ref (tb_nK + 121)), (1, iv (e.1))] [] e.2 (Ci hT) _
  refine e_pk [0, 1] rfl rfl ?_
  exact tm_order_47 w d hd _ _
theorem fm_order_9 (v1 : Int) (v2 : Int) (s : iS) : Fm Prod.snd L_m_order G_m_order s (m_order_9 v1 v2 s) := fm_lp (LS := fun l => l.2.2) (LE := fun e => e.2) (fun l => fm_order_9b _ _ _) (fun e => fm_order_47 _ _) (v1, v2, s)
noncomputable def m_order (s : iS) : Option (Int × iS) := lt' (up s 121 166 0) (fun s1 => m_order_9 0 0 s1)
theorem tm_order (w : ev_W) (d : Nat) (hd : 1 ≤ d) (s : iS) : Ew hT w d 474 0 [(0, .ref (tb_nK + 121))] [] s (Ci hT) (m_order s) := by
  unfold m_order
  refine e_mv 1 em_474 (ce_at ce_474 0 rfl) rfl rfl ?_
  refine e_op 2 em_474 (ce_at ce_474 1 rfl) rfl rfl ?_
  refine e_put 5 em_474 (ce_at ce_474 2 rfl) tq_121 rfl rfl rfl (fun s1 => ?_)
  refine e_op 6 em_474 (ce_at ce_474 3 rfl) rfl rfl ?_
  refine e_mv 7 em_474 (ce_at ce_474 4 rfl) rfl rfl ?_
  refine e_op 8 em_474 (ce_at ce_474 5 rfl) rfl rfl ?_
  refine e_mv 9 em_474 (ce_at ce_474 6 rfl) rfl rfl ?_
  refine e_pk [0, 1, 2] rfl rfl ?_
  exact tm_order_9 w d hd _ _ _
theorem fm_order (s : iS) : Fm Prod.snd L_m_order G_m_order s (m_order s) := fm_lt (md_upF (mem_F rfl)) (fun s1 => fm_order_9 _ _ _)
