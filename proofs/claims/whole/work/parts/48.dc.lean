/-! what the methods do, as functions, and that the machine does it; printed by wip/whole/dc.py -/
/-! m_subr -/
def L_m_subr : List Nat := [129, 130, 131, 132, 133, 134, 135, 136, 137, 138, 139, 140, 141, 142, 143, 144, 145, 146, 147, 148, 149, 150, 151, 156, 157, 158, 159, 160, 161, 162, 163]
def G_m_subr : List (Nat × Nat) := [(121, 10), (121, 11), (121, 12), (121, 16), (121, 17), (121, 25), (121, 33), (121, 39), (121, 48), (121, 49), (121, 50), (121, 51), (121, 55), (121, 60), (121, 61), (121, 62)]
def m_subr_205C (w : ev_W) (d : Nat) : (iS) ⊕ (iS) → am_E → Prop := fun q r => q.elim (fun l => ev w d 326 205 ((fun l => [(0, .ref (tb_nK + 121))]) l) [] (hT ((fun l => l) l)) r) (fun e => (fun e r => ev w d 326 235 [(0, .ref (tb_nK + 121))] [] (hT (e)) r) e r)
noncomputable def m_subr_205b (s : iS) : Option ((iS) ⊕ (iS)) := gd (rg (s 121 11)) (if (s 121 11) = 0 then bd (m_isWord 6 s) (fun r3 s3 => gd (rg r3) (if r3 = 0 then some (.inr s3) else bd (m_declares ((s3 121 17) - 1) 3 s3) (fun _ s6 => some (.inl s6)))) else some (.inr s))
theorem tm_subr_205b (w : ev_W) (d : Nat) (hd : 13 ≤ d) (s : iS) : Ew hT w d 326 205 [(0, .ref (tb_nK + 121))] [] s (m_subr_205C w d) (m_subr_205b s) := by
  unfold m_subr_205b
  refine e_mv 206 em_326 (ce_at ce_326 114 rfl) rfl rfl ?_
  refine e_get 209 em_326 (ce_at ce_326 115 rfl) tq_121 rfl rfl ?_
  refine e_gd fun g1 => ?_
  refine e_ifne 235 212 em_326 rfl rfl (ce_at ce_326 116 rfl) g1 (fun h2 => ?_) (fun h2 => ?_)
  · refine e_pk [0] rfl rfl ?_
    exact e_out (fun r h => h)
  · refine e_mv 213 em_326 (ce_at ce_326 117 rfl) rfl rfl ?_
    refine e_bip 215 em_326 (ce_at ce_326 118 rfl) (by decide) rfl ?_
    refine e_ivi 218 em_326 (ce_at ce_326 119 rfl) (by omega) (iv_v1 (by decide) tq_121 rfl) em_314 (Nat.le_of_ble_eq_true rfl) rfl (tm_isWord w (d - 1) (by omega) _ _) (fun r3 s3 => ?_)
    refine e_gd fun g4 => ?_
    refine e_ifeq 235 221 em_326 rfl rfl (ce_at ce_326 120 rfl) g4 (fun h5 => ?_) (fun h5 => ?_)
    · refine e_pk [0] rfl rfl ?_
      exact e_out (fun r h => h)
    · refine e_mv 222 em_326 (ce_at ce_326 121 rfl) rfl rfl ?_
      refine e_mv 223 em_326 (ce_at ce_326 122 rfl) rfl rfl ?_
      refine e_get 226 em_326 (ce_at ce_326 123 rfl) tq_121 rfl rfl ?_
      refine e_op 227 em_326 (ce_at ce_326 124 rfl) rfl rfl ?_
      refine e_isub 228 em_326 rfl (ce_at ce_326 125 rfl) ?_
      refine e_op 229 em_326 (ce_at ce_326 126 rfl) rfl rfl ?_
      refine e_ivv 232 em_326 (ce_at ce_326 127 rfl) (by omega) (iv_v2 (by decide) tq_121 rfl) em_322 (Nat.le_of_ble_eq_true rfl) rfl (tm_declares w (d - 1) (by omega) _ _ _) (fun r6 s6 => ?_)
      refine e_goto em_326 205 (ce_at ce_326 128 rfl) rfl ?_
      refine e_pk [0] rfl rfl ?_
      exact e_out (fun r h => h)
theorem fm_subr_205b (s : iS) : Fm (fun r : (iS) ⊕ (iS) => r.elim (fun l => l) (fun e => e)) L_m_subr G_m_subr s (m_subr_205b s) := fm_gd (fm_if (fm_bd (fm_sub (fm_isWord _ _) (mem_sub_L rfl) (mem_sub_F rfl)) (fun r3 s3 => fm_gd (fm_if (fm_some md_refl) (fm_bd (fm_sub (fm_declares _ _ _) (mem_sub_L rfl) (mem_sub_F rfl)) (fun r6 s6 => fm_some md_refl))))) (fm_some md_refl))
noncomputable def m_subr_235 (s : iS) : Option (Int × iS) := gd (0 ≤ ((s 121 17) - 1) ∧ ((s 121 17) - 1) < 61) (lt' (up s 136 ((s 121 17) - 1).toNat (s 121 33)) (fun s2 => bd (m_statements s2) (fun _ s3 => gd (rg (s3 121 11)) (if (s3 121 11) ≤ 0 then bd (m_add 0 0 0 (s3 121 10) s3) (fun r6 s6 => bd (m_add 18 1 0 (s6 121 10) s6) (fun r7 s7 => some (0, s7))) else some (0, s3)))))
theorem tm_subr_235 (w : ev_W) (d : Nat) (hd : 13 ≤ d) (s : iS) : Ew hT w d 326 235 [(0, .ref (tb_nK + 121))] [] s (Cv hT) (m_subr_235 s) := by
  unfold m_subr_235
  refine e_mv 236 em_326 (ce_at ce_326 129 rfl) rfl rfl ?_
  refine e_getr 239 em_326 (ce_at ce_326 130 rfl) tq_121 rfl rfl ?_
  refine e_mv 240 em_326 (ce_at ce_326 131 rfl) rfl rfl ?_
  refine e_get 243 em_326 (ce_at ce_326 132 rfl) tq_121 rfl rfl ?_
  refine e_op 244 em_326 (ce_at ce_326 133 rfl) rfl rfl ?_
  refine e_isub 245 em_326 rfl (ce_at ce_326 134 rfl) ?_
  refine e_mv 246 em_326 (ce_at ce_326 135 rfl) rfl rfl ?_
  refine e_get 249 em_326 (ce_at ce_326 136 rfl) tq_121 rfl rfl ?_
  refine e_gd fun g1 => ?_
  refine e_ist 250 em_326 (ce_at ce_326 137 rfl) tq_136 (by decide) g1 rfl (fun s2 => ?_)
  refine e_mv 251 em_326 (ce_at ce_326 138 rfl) rfl rfl ?_
  refine e_ivv 254 em_326 (ce_at ce_326 139 rfl) (by omega) (iv_v0 (by decide) tq_121 rfl) em_328 (Nat.le_of_ble_eq_true rfl) rfl (tm_statements w (d - 1) (by omega) _) (fun r3 s3 => ?_)
  refine e_mv 255 em_326 (ce_at ce_326 140 rfl) rfl rfl ?_
  refine e_get 258 em_326 (ce_at ce_326 141 rfl) tq_121 rfl rfl ?_
  refine e_gd fun g4 => ?_
  refine e_ifle 262 261 em_326 rfl rfl (ce_at ce_326 142 rfl) g4 (fun h5 => ?_) (fun h5 => ?_)
  · refine e_mv 263 em_326 (ce_at ce_326 144 rfl) rfl rfl ?_
    refine e_op 264 em_326 (ce_at ce_326 145 rfl) rfl rfl ?_
    refine e_op 265 em_326 (ce_at ce_326 146 rfl) rfl rfl ?_
    refine e_op 266 em_326 (ce_at ce_326 147 rfl) rfl rfl ?_
    refine e_mv 267 em_326 (ce_at ce_326 148 rfl) rfl rfl ?_
    refine e_get 270 em_326 (ce_at ce_326 149 rfl) tq_121 rfl rfl ?_
    refine e_ivi 273 em_326 (ce_at ce_326 150 rfl) (by omega) (iv_v4 (by decide) tq_121 rfl) em_330 (Nat.le_of_ble_eq_true rfl) rfl (tm_add w (d - 1) (by omega) _ _ _ _ _) (fun r6 s6 => ?_)
    refine e_op 274 em_326 (ce_at ce_326 151 rfl) rfl rfl ?_
    refine e_mv 275 em_326 (ce_at ce_326 152 rfl) rfl rfl ?_
    refine e_bip 277 em_326 (ce_at ce_326 153 rfl) (by decide) rfl ?_
    refine e_op 278 em_326 (ce_at ce_326 154 rfl) rfl rfl ?_
    refine e_op 279 em_326 (ce_at ce_326 155 rfl) rfl rfl ?_
    refine e_mv 280 em_326 (ce_at ce_326 156 rfl) rfl rfl ?_
    refine e_get 283 em_326 (ce_at ce_326 157 rfl) tq_121 rfl rfl ?_
    refine e_ivi 286 em_326 (ce_at ce_326 158 rfl) (by omega) (iv_v4 (by decide) tq_121 rfl) em_330 (Nat.le_of_ble_eq_true rfl) rfl (tm_add w (d - 1) (by omega) _ _ _ _ _) (fun r7 s7 => ?_)
    refine e_op 287 em_326 (ce_at ce_326 159 rfl) rfl rfl ?_
    exact e_retv em_326 (ce_at ce_326 160 rfl)
  · exact e_retv em_326 (ce_at ce_326 143 rfl)
theorem fm_subr_235 (s : iS) : Fm Prod.snd L_m_subr G_m_subr s (m_subr_235 s) := fm_gd (fm_lt (md_upL (mem_L rfl)) (fun s2 => fm_bd (fm_sub (fm_statements _) (mem_sub_L rfl) (mem_sub_F rfl)) (fun r3 s3 => fm_gd (fm_if (fm_bd (fm_sub (fm_add _ _ _ _ _) (mem_sub_L rfl) (mem_sub_F rfl)) (fun r6 s6 => fm_bd (fm_sub (fm_add _ _ _ _ _) (mem_sub_L rfl) (mem_sub_F rfl)) (fun r7 s7 => fm_some md_refl))) (fm_some md_refl)))))
noncomputable def m_subr_205 (s : iS) : Option (Int × iS) := (lp (L := iS) (E := iS) (fun l => m_subr_205b l) s).bind (fun e => m_subr_235 e)
theorem tm_subr_205 (w : ev_W) (d : Nat) (hd : 13 ≤ d) (s : iS) : Ew hT w d 326 205 [(0, .ref (tb_nK + 121))] [] s (Cv hT) (m_subr_205 s) := by
  unfold m_subr_205
  refine e_lp (L := iS) (E := iS) (LO := fun l => [(0, .ref (tb_nK + 121))]) (LS := fun l => l) (CE := fun e r => ev w d 326 235 [(0, .ref (tb_nK + 121))] [] (hT (e)) r) (fun l => tm_subr_205b w d hd _) ?_ s
  intro e
  show Ew hT w d 326 235 [(0, .ref (tb_nK + 121))] [] e (Cv hT) _
  refine e_pk [0] rfl rfl ?_
  exact tm_subr_235 w d hd _
theorem fm_subr_205 (s : iS) : Fm Prod.snd L_m_subr G_m_subr s (m_subr_205 s) := by
  unfold m_subr_205
  refine fm_lp (A := iS) (E := iS) (LS := fun l => l) (LE := fun e => e) ?_ ?_ s
  · exact fun l => fm_subr_205b _
  · exact (fun e => fm_subr_235 _)
noncomputable def m_subr_41 (v1 : Int) (v2 : Int) (s : iS) : Option (Int × iS) := gd (rg (s 121 11)) (if (s 121 11) ≤ 0 then gd (0 ≤ (s 121 10) ∧ (s 121 10) < 2002) (gd (rg (s 124 (s 121 10).toNat)) (if (s 124 (s 121 10).toNat) = 1 then bd (m_room (s 121 17) 60 (s 121 10) s) (fun _ s6 => gd (rg (s6 121 11)) (if (s6 121 11) ≤ 0 then gd (0 ≤ (s6 121 17) ∧ (s6 121 17) < 61) (lt' (up s6 130 (s6 121 17).toNat ((s6 121 14) - 1)) (fun s10 => gd (0 ≤ (s10 121 17) ∧ (s10 121 17) < 61) (lt' (up s10 131 (s10 121 17).toNat v1) (fun s12 => gd (0 ≤ (s12 121 17) ∧ (s12 121 17) < 61) (lt' (up s12 132 (s12 121 17).toNat (s12 121 10)) (fun s14 => gd (0 ≤ (s14 121 17) ∧ (s14 121 17) < 61) (lt' (up s14 133 (s14 121 17).toNat v2) (fun s16 => gd (0 ≤ (s16 121 17) ∧ (s16 121 17) < 61) (lt' (up s16 134 (s16 121 17).toNat 0) (fun s18 => gd (0 ≤ (s18 121 17) ∧ (s18 121 17) < 61) (lt' (up s18 135 (s18 121 17).toNat 0) (fun s20 => gd (0 ≤ (s20 121 17) ∧ (s20 121 17) < 61) (lt' (up s20 136 (s20 121 17).toNat (s20 121 33)) (fun s22 => lt' (up s22 121 17 ((s22 121 17) + 1)) (fun s23 => lt' (up s23 121 50 0) (fun s24 => bd (m_go s24) (fun _ s25 => bd (m_parameters ((s25 121 17) - 1) s25) (fun _ s26 => bd (m_openSign 123 s26) (fun _ s27 => m_subr_205 s27))))))))))))))))))) else some (0, s6))) else bd (m_syntax s) (fun _ s28 => some (0, s28)))) else some (0, s))
theorem tm_subr_41 (w : ev_W) (d : Nat) (hd : 13 ≤ d) (v1 : Int) (v2 : Int) (s : iS) : Ew hT w d 326 41 [(0, .ref (tb_nK + 121)), (1, iv v1), (2, iv v2)] [] s (Cv hT) (m_subr_41 v1 v2 s) := by
  unfold m_subr_41
  refine e_mv 42 em_326 (ce_at ce_326 22 rfl) rfl rfl ?_
  refine e_get 45 em_326 (ce_at ce_326 23 rfl) tq_121 rfl rfl ?_
  refine e_gd fun g1 => ?_
  refine e_ifle 49 48 em_326 rfl rfl (ce_at ce_326 24 rfl) g1 (fun h2 => ?_) (fun h2 => ?_)
  · refine e_mv 50 em_326 (ce_at ce_326 26 rfl) rfl rfl ?_
    refine e_getr 53 em_326 (ce_at ce_326 27 rfl) tq_121 rfl rfl ?_
    refine e_mv 54 em_326 (ce_at ce_326 28 rfl) rfl rfl ?_
    refine e_get 57 em_326 (ce_at ce_326 29 rfl) tq_121 rfl rfl ?_
    refine e_gd fun g3 => ?_
    refine e_ild 58 em_326 (ce_at ce_326 30 rfl) tq_124 (by decide) g3 rfl ?_
    refine e_op 59 em_326 (ce_at ce_326 31 rfl) rfl rfl ?_
    refine e_gd fun g4 => ?_
    refine e_cmeq 67 62 em_326 rfl rfl (ce_at ce_326 32 rfl) g4 (by decide) (fun h5 => ?_) (fun h5 => ?_)
    · refine e_mv 68 em_326 (ce_at ce_326 36 rfl) rfl rfl ?_
      refine e_mv 69 em_326 (ce_at ce_326 37 rfl) rfl rfl ?_
      refine e_get 72 em_326 (ce_at ce_326 38 rfl) tq_121 rfl rfl ?_
      refine e_bip 74 em_326 (ce_at ce_326 39 rfl) (by decide) rfl ?_
      refine e_mv 75 em_326 (ce_at ce_326 40 rfl) rfl rfl ?_
      refine e_get 78 em_326 (ce_at ce_326 41 rfl) tq_121 rfl rfl ?_
      refine e_ivv 81 em_326 (ce_at ce_326 42 rfl) (by omega) (iv_v3 (by decide) tq_121 rfl) em_318 (Nat.le_of_ble_eq_true rfl) rfl (tm_room w (d - 1) (by omega) _ _ _ _) (fun r6 s6 => ?_)
      refine e_mv 82 em_326 (ce_at ce_326 43 rfl) rfl rfl ?_
      refine e_get 85 em_326 (ce_at ce_326 44 rfl) tq_121 rfl rfl ?_
      refine e_gd fun g7 => ?_
      refine e_ifle 89 88 em_326 rfl rfl (ce_at ce_326 45 rfl) g7 (fun h8 => ?_) (fun h8 => ?_)
      · refine e_mv 90 em_326 (ce_at ce_326 47 rfl) rfl rfl ?_
        refine e_getr 93 em_326 (ce_at ce_326 48 rfl) tq_121 rfl rfl ?_
        refine e_mv 94 em_326 (ce_at ce_326 49 rfl) rfl rfl ?_
        refine e_get 97 em_326 (ce_at ce_326 50 rfl) tq_121 rfl rfl ?_
        refine e_mv 98 em_326 (ce_at ce_326 51 rfl) rfl rfl ?_
        refine e_get 101 em_326 (ce_at ce_326 52 rfl) tq_121 rfl rfl ?_
        refine e_op 102 em_326 (ce_at ce_326 53 rfl) rfl rfl ?_
        refine e_isub 103 em_326 rfl (ce_at ce_326 54 rfl) ?_
        refine e_gd fun g9 => ?_
        refine e_ist 104 em_326 (ce_at ce_326 55 rfl) tq_130 (by decide) g9 rfl (fun s10 => ?_)
        refine e_mv 105 em_326 (ce_at ce_326 56 rfl) rfl rfl ?_
        refine e_getr 108 em_326 (ce_at ce_326 57 rfl) tq_121 rfl rfl ?_
        refine e_mv 109 em_326 (ce_at ce_326 58 rfl) rfl rfl ?_
        refine e_get 112 em_326 (ce_at ce_326 59 rfl) tq_121 rfl rfl ?_
        refine e_mv 113 em_326 (ce_at ce_326 60 rfl) rfl rfl ?_
        refine e_gd fun g11 => ?_
        refine e_ist 114 em_326 (ce_at ce_326 61 rfl) tq_131 (by decide) g11 rfl (fun s12 => ?_)
        refine e_mv 115 em_326 (ce_at ce_326 62 rfl) rfl rfl ?_
        refine e_getr 118 em_326 (ce_at ce_326 63 rfl) tq_121 rfl rfl ?_
        refine e_mv 119 em_326 (ce_at ce_326 64 rfl) rfl rfl ?_
        refine e_get 122 em_326 (ce_at ce_326 65 rfl) tq_121 rfl rfl ?_
        refine e_mv 123 em_326 (ce_at ce_326 66 rfl) rfl rfl ?_
        refine e_get 126 em_326 (ce_at ce_326 67 rfl) tq_121 rfl rfl ?_
        refine e_gd fun g13 => ?_
        refine e_ist 127 em_326 (ce_at ce_326 68 rfl) tq_132 (by decide) g13 rfl (fun s14 => ?_)
        refine e_mv 128 em_326 (ce_at ce_326 69 rfl) rfl rfl ?_
        refine e_getr 131 em_326 (ce_at ce_326 70 rfl) tq_121 rfl rfl ?_
        refine e_mv 132 em_326 (ce_at ce_326 71 rfl) rfl rfl ?_
        refine e_get 135 em_326 (ce_at ce_326 72 rfl) tq_121 rfl rfl ?_
        refine e_mv 136 em_326 (ce_at ce_326 73 rfl) rfl rfl ?_
        refine e_gd fun g15 => ?_
        refine e_ist 137 em_326 (ce_at ce_326 74 rfl) tq_133 (by decide) g15 rfl (fun s16 => ?_)
        refine e_mv 138 em_326 (ce_at ce_326 75 rfl) rfl rfl ?_
        refine e_getr 141 em_326 (ce_at ce_326 76 rfl) tq_121 rfl rfl ?_
        refine e_mv 142 em_326 (ce_at ce_326 77 rfl) rfl rfl ?_
        refine e_get 145 em_326 (ce_at ce_326 78 rfl) tq_121 rfl rfl ?_
        refine e_op 146 em_326 (ce_at ce_326 79 rfl) rfl rfl ?_
        refine e_gd fun g17 => ?_
        refine e_ist 147 em_326 (ce_at ce_326 80 rfl) tq_134 (by decide) g17 rfl (fun s18 => ?_)
        refine e_mv 148 em_326 (ce_at ce_326 81 rfl) rfl rfl ?_
        refine e_getr 151 em_326 (ce_at ce_326 82 rfl) tq_121 rfl rfl ?_
        refine e_mv 152 em_326 (ce_at ce_326 83 rfl) rfl rfl ?_
        refine e_get 155 em_326 (ce_at ce_326 84 rfl) tq_121 rfl rfl ?_
        refine e_op 156 em_326 (ce_at ce_326 85 rfl) rfl rfl ?_
        refine e_gd fun g19 => ?_
        refine e_ist 157 em_326 (ce_at ce_326 86 rfl) tq_135 (by decide) g19 rfl (fun s20 => ?_)
        refine e_mv 158 em_326 (ce_at ce_326 87 rfl) rfl rfl ?_
        refine e_getr 161 em_326 (ce_at ce_326 88 rfl) tq_121 rfl rfl ?_
        refine e_mv 162 em_326 (ce_at ce_326 89 rfl) rfl rfl ?_
        refine e_get 165 em_326 (ce_at ce_326 90 rfl) tq_121 rfl rfl ?_
        refine e_mv 166 em_326 (ce_at ce_326 91 rfl) rfl rfl ?_
        refine e_get 169 em_326 (ce_at ce_326 92 rfl) tq_121 rfl rfl ?_
        refine e_gd fun g21 => ?_
        refine e_ist 170 em_326 (ce_at ce_326 93 rfl) tq_136 (by decide) g21 rfl (fun s22 => ?_)
        refine e_mv 171 em_326 (ce_at ce_326 94 rfl) rfl rfl ?_
        refine e_mv 172 em_326 (ce_at ce_326 95 rfl) rfl rfl ?_
        refine e_get 175 em_326 (ce_at ce_326 96 rfl) tq_121 rfl rfl ?_
        refine e_op 176 em_326 (ce_at ce_326 97 rfl) rfl rfl ?_
        refine e_iadd 177 em_326 rfl (ce_at ce_326 98 rfl) ?_
        refine e_put 180 em_326 (ce_at ce_326 99 rfl) tq_121 rfl rfl rfl (fun s23 => ?_)
        refine e_mv 181 em_326 (ce_at ce_326 100 rfl) rfl rfl ?_
        refine e_op 182 em_326 (ce_at ce_326 101 rfl) rfl rfl ?_
        refine e_put 185 em_326 (ce_at ce_326 102 rfl) tq_121 rfl rfl rfl (fun s24 => ?_)
        refine e_mv 186 em_326 (ce_at ce_326 103 rfl) rfl rfl ?_
        refine e_ivv 189 em_326 (ce_at ce_326 104 rfl) (by omega) (iv_v0 (by decide) tq_121 rfl) em_315 (Nat.le_of_ble_eq_true rfl) rfl (tm_go w (d - 1) (by omega) _) (fun r25 s25 => ?_)
        refine e_mv 190 em_326 (ce_at ce_326 105 rfl) rfl rfl ?_
        refine e_mv 191 em_326 (ce_at ce_326 106 rfl) rfl rfl ?_
        refine e_get 194 em_326 (ce_at ce_326 107 rfl) tq_121 rfl rfl ?_
        refine e_op 195 em_326 (ce_at ce_326 108 rfl) rfl rfl ?_
        refine e_isub 196 em_326 rfl (ce_at ce_326 109 rfl) ?_
        refine e_ivv 199 em_326 (ce_at ce_326 110 rfl) (by omega) (iv_v1 (by decide) tq_121 rfl) em_327 (Nat.le_of_ble_eq_true rfl) rfl (tm_parameters w (d - 1) (by omega) _ _) (fun r26 s26 => ?_)
        refine e_mv 200 em_326 (ce_at ce_326 111 rfl) rfl rfl ?_
        refine e_bip 202 em_326 (ce_at ce_326 112 rfl) (by decide) rfl ?_
        refine e_ivv 205 em_326 (ce_at ce_326 113 rfl) (by omega) (iv_v1 (by decide) tq_121 rfl) em_319 (Nat.le_of_ble_eq_true rfl) rfl (tm_openSign w (d - 1) (by omega) _ _) (fun r27 s27 => ?_)
        refine e_pk [0] rfl rfl ?_
        exact tm_subr_205 w d hd _
      · exact e_retv em_326 (ce_at ce_326 46 rfl)
    · refine e_mv 63 em_326 (ce_at ce_326 33 rfl) rfl rfl ?_
      refine e_ivv 66 em_326 (ce_at ce_326 34 rfl) (by omega) (iv_v0 (by decide) tq_121 rfl) em_316 (Nat.le_of_ble_eq_true rfl) rfl (tm_syntax w (d - 1) (by omega) _) (fun r28 s28 => ?_)
      exact e_retv em_326 (ce_at ce_326 35 rfl)
  · exact e_retv em_326 (ce_at ce_326 25 rfl)
theorem fm_subr_41 (v1 : Int) (v2 : Int) (s : iS) : Fm Prod.snd L_m_subr G_m_subr s (m_subr_41 v1 v2 s) := fm_gd (fm_if (fm_gd (fm_gd (fm_if (fm_bd (fm_sub (fm_room _ _ _ _) (mem_sub_L rfl) (mem_sub_F rfl)) (fun r6 s6 => fm_gd (fm_if (fm_gd (fm_lt (md_upL (mem_L rfl)) (fun s10 => fm_gd (fm_lt (md_upL (mem_L rfl)) (fun s12 => fm_gd (fm_lt (md_upL (mem_L rfl)) (fun s14 => fm_gd (fm_lt (md_upL (mem_L rfl)) (fun s16 => fm_gd (fm_lt (md_upL (mem_L rfl)) (fun s18 => fm_gd (fm_lt (md_upL (mem_L rfl)) (fun s20 => fm_gd (fm_lt (md_upL (mem_L rfl)) (fun s22 => fm_lt (md_upF (mem_F rfl)) (fun s23 => fm_lt (md_upF (mem_F rfl)) (fun s24 => fm_bd (fm_sub (fm_go _) (mem_sub_L rfl) (mem_sub_F rfl)) (fun r25 s25 => fm_bd (fm_sub (fm_parameters _ _) (mem_sub_L rfl) (mem_sub_F rfl)) (fun r26 s26 => fm_bd (fm_sub (fm_openSign _ _) (mem_sub_L rfl) (mem_sub_F rfl)) (fun r27 s27 => fm_subr_205 _)))))))))))))))))))) (fm_some md_refl)))) (fm_bd (fm_sub (fm_syntax _) (mem_sub_L rfl) (mem_sub_F rfl)) (fun r28 s28 => fm_some md_refl))))) (fm_some md_refl))
noncomputable def m_subr_31 (v1 : Int) (t0 : Int) (s : iS) : Option (Int × iS) := gd (rg t0) (if t0 = (-1) then bd (m_go s) (fun _ s3 => m_subr_41 v1 t0 s3) else m_subr_41 v1 t0 s)
theorem tm_subr_31 (w : ev_W) (d : Nat) (hd : 13 ≤ d) (v1 : Int) (t0 : Int) (s : iS) : Ew hT w d 326 31 [(0, .ref (tb_nK + 121)), (1, iv v1)] [iv t0] s (Cv hT) (m_subr_31 v1 t0 s) := by
  unfold m_subr_31
  refine e_mv 32 em_326 (ce_at ce_326 16 rfl) rfl rfl ?_
  refine e_mv 33 em_326 (ce_at ce_326 17 rfl) rfl rfl ?_
  refine e_op 34 em_326 (ce_at ce_326 18 rfl) rfl rfl ?_
  refine e_gd fun g1 => ?_
  refine e_cmne 41 37 em_326 rfl rfl (ce_at ce_326 19 rfl) g1 (by decide) (fun h2 => ?_) (fun h2 => ?_)
  · refine e_pk [0, 1, 2] rfl rfl ?_
    exact tm_subr_41 w d hd _ _ _
  · refine e_mv 38 em_326 (ce_at ce_326 20 rfl) rfl rfl ?_
    refine e_ivv 41 em_326 (ce_at ce_326 21 rfl) (by omega) (iv_v0 (by decide) tq_121 rfl) em_315 (Nat.le_of_ble_eq_true rfl) rfl (tm_go w (d - 1) (by omega) _) (fun r3 s3 => ?_)
    refine e_pk [0, 1, 2] rfl rfl ?_
    exact tm_subr_41 w d hd _ _ _
theorem fm_subr_31 (v1 : Int) (t0 : Int) (s : iS) : Fm Prod.snd L_m_subr G_m_subr s (m_subr_31 v1 t0 s) := fm_gd (fm_if (fm_bd (fm_sub (fm_go _) (mem_sub_L rfl) (mem_sub_F rfl)) (fun r3 s3 => fm_subr_41 _ _ _)) (fm_subr_41 _ _ _))
noncomputable def m_subr (s : iS) : Option (Int × iS) := gd (0 ≤ (s 121 10) ∧ (s 121 10) < 2002) (bd (m_go s) (fun _ s2 => bd (m_isWord 10 s2) (fun r3 s3 => gd (rg r3) (if r3 = 0 then bd (m_type s3) (fun r6 s6 => m_subr_31 (s 127 (s 121 10).toNat) r6 s6) else m_subr_31 (s 127 (s 121 10).toNat) (-1) s3))))
theorem tm_subr (w : ev_W) (d : Nat) (hd : 13 ≤ d) (s : iS) : Ew hT w d 326 0 [(0, .ref (tb_nK + 121))] [] s (Cv hT) (m_subr s) := by
  unfold m_subr
  refine e_mv 1 em_326 (ce_at ce_326 0 rfl) rfl rfl ?_
  refine e_getr 4 em_326 (ce_at ce_326 1 rfl) tq_121 rfl rfl ?_
  refine e_mv 5 em_326 (ce_at ce_326 2 rfl) rfl rfl ?_
  refine e_get 8 em_326 (ce_at ce_326 3 rfl) tq_121 rfl rfl ?_
  refine e_gd fun g1 => ?_
  refine e_ild 9 em_326 (ce_at ce_326 4 rfl) tq_127 (by decide) g1 rfl ?_
  refine e_mv 10 em_326 (ce_at ce_326 5 rfl) rfl rfl ?_
  refine e_mv 11 em_326 (ce_at ce_326 6 rfl) rfl rfl ?_
  refine e_ivv 14 em_326 (ce_at ce_326 7 rfl) (by omega) (iv_v0 (by decide) tq_121 rfl) em_315 (Nat.le_of_ble_eq_true rfl) rfl (tm_go w (d - 1) (by omega) _) (fun r2 s2 => ?_)
  refine e_mv 15 em_326 (ce_at ce_326 8 rfl) rfl rfl ?_
  refine e_bip 17 em_326 (ce_at ce_326 9 rfl) (by decide) rfl ?_
  refine e_ivi 20 em_326 (ce_at ce_326 10 rfl) (by omega) (iv_v1 (by decide) tq_121 rfl) em_314 (Nat.le_of_ble_eq_true rfl) rfl (tm_isWord w (d - 1) (by omega) _ _) (fun r3 s3 => ?_)
  refine e_gd fun g4 => ?_
  refine e_ifeq 27 23 em_326 rfl rfl (ce_at ce_326 11 rfl) g4 (fun h5 => ?_) (fun h5 => ?_)
  · refine e_mv 28 em_326 (ce_at ce_326 14 rfl) rfl rfl ?_
    refine e_ivi 31 em_326 (ce_at ce_326 15 rfl) (by omega) (iv_v0 (by decide) tq_121 rfl) em_323 (Nat.le_of_ble_eq_true rfl) rfl (tm_type w (d - 1) (by omega) _) (fun r6 s6 => ?_)
    refine e_pk [0, 1] rfl rfl ?_
    exact tm_subr_31 w d hd _ _ _
  · refine e_op 24 em_326 (ce_at ce_326 12 rfl) rfl rfl ?_
    refine e_goto em_326 31 (ce_at ce_326 13 rfl) rfl ?_
    refine e_pk [0, 1] rfl rfl ?_
    exact tm_subr_31 w d hd _ _ _
theorem fm_subr (s : iS) : Fm Prod.snd L_m_subr G_m_subr s (m_subr s) := fm_gd (fm_bd (fm_sub (fm_go _) (mem_sub_L rfl) (mem_sub_F rfl)) (fun r2 s2 => fm_bd (fm_sub (fm_isWord _ _) (mem_sub_L rfl) (mem_sub_F rfl)) (fun r3 s3 => fm_gd (fm_if (fm_bd (fm_sub (fm_type _) (mem_sub_L rfl) (mem_sub_F rfl)) (fun r6 s6 => fm_subr_31 _ _ _)) (fm_subr_31 _ _ _)))))
/-! m_texts -/
def L_m_texts : List Nat := [128, 129, 130, 131, 132, 133, 134, 135, 136, 137, 138, 139, 140, 141, 142, 143, 144, 145, 146, 147, 148, 149, 150, 151, 156, 157, 158, 159, 160, 161, 162, 163]
def G_m_texts : List (Nat × Nat) := [(121, 10), (121, 11), (121, 12), (121, 14), (121, 16), (121, 17), (121, 25), (121, 33), (121, 39), (121, 48), (121, 49), (121, 50), (121, 51), (121, 55), (121, 60), (121, 61), (121, 62)]
def m_texts_170C (w : ev_W) (d : Nat) : (iS) ⊕ (iS) → am_E → Prop := fun q r => q.elim (fun l => ev w d 312 170 ((fun l => [(0, .ref (tb_nK + 121))]) l) [] (hT ((fun l => l) l)) r) (fun e => (fun e r => ev w d 312 214 [(0, .ref (tb_nK + 121))] [] (hT (e)) r) e r)
noncomputable def m_texts_208 (t0 : Int) (t1 : Int) (s : iS) : Option ((iS) ⊕ (iS)) := bd (m_declares t1 t0 s) (fun _ s1 => some (.inl s1))
theorem tm_texts_208 (w : ev_W) (d : Nat) (hd : 14 ≤ d) (t0 : Int) (t1 : Int) (s : iS) : Ew hT w d 312 208 [(0, .ref (tb_nK + 121))] [iv t0, iv t1, .ref (tb_nK + 121)] s (m_texts_170C w d) (m_texts_208 t0 t1 s) := by
  unfold m_texts_208
  refine e_ivv 211 em_312 (ce_at ce_312 112 rfl) (by omega) (iv_v2 (by decide) tq_121 rfl) em_322 (Nat.le_of_ble_eq_true rfl) rfl (tm_declares w (d - 1) (by omega) _ _ _) (fun r1 s1 => ?_)
  refine e_goto em_312 170 (ce_at ce_312 113 rfl) rfl ?_
  refine e_pk [0] rfl rfl ?_
  exact e_out (fun r h => h)
theorem fm_texts_208 (t0 : Int) (t1 : Int) (s : iS) : Fm (fun r : (iS) ⊕ (iS) => r.elim (fun l => l) (fun e => e)) L_m_texts G_m_texts s (m_texts_208 t0 t1 s) := fm_bd (fm_sub (fm_declares _ _ _) (mem_sub_L rfl) (mem_sub_F rfl)) (fun r1 s1 => fm_some md_refl)
noncomputable def m_texts_193 (s : iS) : Option ((iS) ⊕ (iS)) := bd (m_isWord 5 s) (fun r1 s1 => gd (rg r1) (if r1 = 0 then m_texts_208 1 (-1) s1 else m_texts_208 0 (-1) s1))
theorem tm_texts_193 (w : ev_W) (d : Nat) (hd : 14 ≤ d) (s : iS) : Ew hT w d 312 193 [(0, .ref (tb_nK + 121))] [] s (m_texts_170C w d) (m_texts_193 s) := by
  unfold m_texts_193
  refine e_mv 194 em_312 (ce_at ce_312 103 rfl) rfl rfl ?_
  refine e_op 195 em_312 (ce_at ce_312 104 rfl) rfl rfl ?_
  refine e_mv 196 em_312 (ce_at ce_312 105 rfl) rfl rfl ?_
  refine e_op 197 em_312 (ce_at ce_312 106 rfl) rfl rfl ?_
  refine e_ivi 200 em_312 (ce_at ce_312 107 rfl) (by omega) (iv_v1 (by decide) tq_121 rfl) em_314 (Nat.le_of_ble_eq_true rfl) rfl (tm_isWord w (d - 1) (by omega) _ _) (fun r1 s1 => ?_)
  refine e_gd fun g2 => ?_
  refine e_ifeq 207 203 em_312 rfl rfl (ce_at ce_312 108 rfl) g2 (fun h3 => ?_) (fun h3 => ?_)
  · refine e_op 208 em_312 (ce_at ce_312 111 rfl) rfl rfl ?_
    refine e_pk [0] rfl rfl ?_
    exact tm_texts_208 w d hd _ _ _
  · refine e_op 204 em_312 (ce_at ce_312 109 rfl) rfl rfl ?_
    refine e_goto em_312 208 (ce_at ce_312 110 rfl) rfl ?_
    refine e_pk [0] rfl rfl ?_
    exact tm_texts_208 w d hd _ _ _
theorem fm_texts_193 (s : iS) : Fm (fun r : (iS) ⊕ (iS) => r.elim (fun l => l) (fun e => e)) L_m_texts G_m_texts s (m_texts_193 s) := fm_bd (fm_sub (fm_isWord _ _) (mem_sub_L rfl) (mem_sub_F rfl)) (fun r1 s1 => fm_gd (fm_if (fm_texts_208 _ _ _) (fm_texts_208 _ _ _)))
noncomputable def m_texts_170b (s : iS) : Option ((iS) ⊕ (iS)) := gd (rg (s 121 11)) (if (s 121 11) = 0 then bd (m_isWord 5 s) (fun r3 s3 => gd (rg r3) (if r3 = 0 then bd (m_isWord 4 s3) (fun r6 s6 => gd (rg r6) (if r6 = 0 then some (.inr s6) else m_texts_193 s6)) else m_texts_193 s3)) else some (.inr s))
theorem tm_texts_170b (w : ev_W) (d : Nat) (hd : 14 ≤ d) (s : iS) : Ew hT w d 312 170 [(0, .ref (tb_nK + 121))] [] s (m_texts_170C w d) (m_texts_170b s) := by
  unfold m_texts_170b
  refine e_mv 171 em_312 (ce_at ce_312 92 rfl) rfl rfl ?_
  refine e_get 174 em_312 (ce_at ce_312 93 rfl) tq_121 rfl rfl ?_
  refine e_gd fun g1 => ?_
  refine e_ifne 214 177 em_312 rfl rfl (ce_at ce_312 94 rfl) g1 (fun h2 => ?_) (fun h2 => ?_)
  · refine e_pk [0] rfl rfl ?_
    exact e_out (fun r h => h)
  · refine e_mv 178 em_312 (ce_at ce_312 95 rfl) rfl rfl ?_
    refine e_op 179 em_312 (ce_at ce_312 96 rfl) rfl rfl ?_
    refine e_ivi 182 em_312 (ce_at ce_312 97 rfl) (by omega) (iv_v1 (by decide) tq_121 rfl) em_314 (Nat.le_of_ble_eq_true rfl) rfl (tm_isWord w (d - 1) (by omega) _ _) (fun r3 s3 => ?_)
    refine e_gd fun g4 => ?_
    refine e_ifne 193 185 em_312 rfl rfl (ce_at ce_312 98 rfl) g4 (fun h5 => ?_) (fun h5 => ?_)
    · refine e_pk [0] rfl rfl ?_
      exact tm_texts_193 w d hd _
    · refine e_mv 186 em_312 (ce_at ce_312 99 rfl) rfl rfl ?_
      refine e_op 187 em_312 (ce_at ce_312 100 rfl) rfl rfl ?_
      refine e_ivi 190 em_312 (ce_at ce_312 101 rfl) (by omega) (iv_v1 (by decide) tq_121 rfl) em_314 (Nat.le_of_ble_eq_true rfl) rfl (tm_isWord w (d - 1) (by omega) _ _) (fun r6 s6 => ?_)
      refine e_gd fun g7 => ?_
      refine e_ifeq 214 193 em_312 rfl rfl (ce_at ce_312 102 rfl) g7 (fun h8 => ?_) (fun h8 => ?_)
      · refine e_pk [0] rfl rfl ?_
        exact e_out (fun r h => h)
      · refine e_pk [0] rfl rfl ?_
        exact tm_texts_193 w d hd _
theorem fm_texts_170b (s : iS) : Fm (fun r : (iS) ⊕ (iS) => r.elim (fun l => l) (fun e => e)) L_m_texts G_m_texts s (m_texts_170b s) := fm_gd (fm_if (fm_bd (fm_sub (fm_isWord _ _) (mem_sub_L rfl) (mem_sub_F rfl)) (fun r3 s3 => fm_gd (fm_if (fm_bd (fm_sub (fm_isWord _ _) (mem_sub_L rfl) (mem_sub_F rfl)) (fun r6 s6 => fm_gd (fm_if (fm_some md_refl) (fm_texts_193 _)))) (fm_texts_193 _)))) (fm_some md_refl))
def m_texts_214C (w : ev_W) (d : Nat) : (iS) ⊕ (iS) → am_E → Prop := fun q r => q.elim (fun l => ev w d 312 214 ((fun l => [(0, .ref (tb_nK + 121))]) l) [] (hT ((fun l => l) l)) r) (fun e => (fun e r => ev w d 312 252 [(0, .ref (tb_nK + 121))] [] (hT (e)) r) e r)
noncomputable def m_texts_245 (s : iS) : Option ((iS) ⊕ (iS)) := bd (m_subr s) (fun _ s1 => some (.inl s1))
theorem tm_texts_245 (w : ev_W) (d : Nat) (hd : 14 ≤ d) (s : iS) : Ew hT w d 312 245 [(0, .ref (tb_nK + 121))] [] s (m_texts_214C w d) (m_texts_245 s) := by
  unfold m_texts_245
  refine e_mv 246 em_312 (ce_at ce_312 129 rfl) rfl rfl ?_
  refine e_ivv 249 em_312 (ce_at ce_312 130 rfl) (by omega) (iv_v0 (by decide) tq_121 rfl) em_326 (Nat.le_of_ble_eq_true rfl) rfl (tm_subr w (d - 1) (by omega) _) (fun r1 s1 => ?_)
  refine e_goto em_312 214 (ce_at ce_312 131 rfl) rfl ?_
  refine e_pk [0] rfl rfl ?_
  exact e_out (fun r h => h)
theorem fm_texts_245 (s : iS) : Fm (fun r : (iS) ⊕ (iS) => r.elim (fun l => l) (fun e => e)) L_m_texts G_m_texts s (m_texts_245 s) := fm_bd (fm_sub (fm_subr _) (mem_sub_L rfl) (mem_sub_F rfl)) (fun r1 s1 => fm_some md_refl)
noncomputable def m_texts_214b (s : iS) : Option ((iS) ⊕ (iS)) := gd (rg (s 121 11)) (if (s 121 11) = 0 then bd (m_isWord 1 s) (fun r3 s3 => gd (rg r3) (if r3 = 0 then bd (m_isWord 2 s3) (fun r6 s6 => gd (rg r6) (if r6 = 0 then bd (m_isWord 3 s6) (fun r9 s9 => gd (rg r9) (if r9 = 0 then some (.inr s9) else m_texts_245 s9)) else m_texts_245 s6)) else m_texts_245 s3)) else some (.inr s))
theorem tm_texts_214b (w : ev_W) (d : Nat) (hd : 14 ≤ d) (s : iS) : Ew hT w d 312 214 [(0, .ref (tb_nK + 121))] [] s (m_texts_214C w d) (m_texts_214b s) := by
  unfold m_texts_214b
  refine e_mv 215 em_312 (ce_at ce_312 114 rfl) rfl rfl ?_
  refine e_get 218 em_312 (ce_at ce_312 115 rfl) tq_121 rfl rfl ?_
  refine e_gd fun g1 => ?_
  refine e_ifne 252 221 em_312 rfl rfl (ce_at ce_312 116 rfl) g1 (fun h2 => ?_) (fun h2 => ?_)
  · refine e_pk [0] rfl rfl ?_
    exact e_out (fun r h => h)
  · refine e_mv 222 em_312 (ce_at ce_312 117 rfl) rfl rfl ?_
    refine e_op 223 em_312 (ce_at ce_312 118 rfl) rfl rfl ?_
    refine e_ivi 226 em_312 (ce_at ce_312 119 rfl) (by omega) (iv_v1 (by decide) tq_121 rfl) em_314 (Nat.le_of_ble_eq_true rfl) rfl (tm_isWord w (d - 1) (by omega) _ _) (fun r3 s3 => ?_)
    refine e_gd fun g4 => ?_
    refine e_ifne 245 229 em_312 rfl rfl (ce_at ce_312 120 rfl) g4 (fun h5 => ?_) (fun h5 => ?_)
    · refine e_pk [0] rfl rfl ?_
      exact tm_texts_245 w d hd _
    · refine e_mv 230 em_312 (ce_at ce_312 121 rfl) rfl rfl ?_
      refine e_op 231 em_312 (ce_at ce_312 122 rfl) rfl rfl ?_
      refine e_ivi 234 em_312 (ce_at ce_312 123 rfl) (by omega) (iv_v1 (by decide) tq_121 rfl) em_314 (Nat.le_of_ble_eq_true rfl) rfl (tm_isWord w (d - 1) (by omega) _ _) (fun r6 s6 => ?_)
      refine e_gd fun g7 => ?_
      refine e_ifne 245 237 em_312 rfl rfl (ce_at ce_312 124 rfl) g7 (fun h8 => ?_) (fun h8 => ?_)
      · refine e_pk [0] rfl rfl ?_
        exact tm_texts_245 w d hd _
      · refine e_mv 238 em_312 (ce_at ce_312 125 rfl) rfl rfl ?_
        refine e_op 239 em_312 (ce_at ce_312 126 rfl) rfl rfl ?_
        refine e_ivi 242 em_312 (ce_at ce_312 127 rfl) (by omega) (iv_v1 (by decide) tq_121 rfl) em_314 (Nat.le_of_ble_eq_true rfl) rfl (tm_isWord w (d - 1) (by omega) _ _) (fun r9 s9 => ?_)
        refine e_gd fun g10 => ?_
        refine e_ifeq 252 245 em_312 rfl rfl (ce_at ce_312 128 rfl) g10 (fun h11 => ?_) (fun h11 => ?_)
        · refine e_pk [0] rfl rfl ?_
          exact e_out (fun r h => h)
        · refine e_pk [0] rfl rfl ?_
          exact tm_texts_245 w d hd _
theorem fm_texts_214b (s : iS) : Fm (fun r : (iS) ⊕ (iS) => r.elim (fun l => l) (fun e => e)) L_m_texts G_m_texts s (m_texts_214b s) := fm_gd (fm_if (fm_bd (fm_sub (fm_isWord _ _) (mem_sub_L rfl) (mem_sub_F rfl)) (fun r3 s3 => fm_gd (fm_if (fm_bd (fm_sub (fm_isWord _ _) (mem_sub_L rfl) (mem_sub_F rfl)) (fun r6 s6 => fm_gd (fm_if (fm_bd (fm_sub (fm_isWord _ _) (mem_sub_L rfl) (mem_sub_F rfl)) (fun r9 s9 => fm_gd (fm_if (fm_some md_refl) (fm_texts_245 _)))) (fm_texts_245 _)))) (fm_texts_245 _)))) (fm_some md_refl))
def m_texts_45C (w : ev_W) (d : Nat) : (iS) ⊕ ((iS) ⊕ (iS)) → am_E → Prop := fun q r => q.elim (fun l => ev w d 312 45 ((fun l => [(0, .ref (tb_nK + 121))]) l) [] (hT ((fun l => l) l)) r) (fun e => (fun e r => e.elim (fun e => ev w d 312 121 [] [] (hT (e)) r) (fun e => ev w d 312 261 [] [] (hT (e)) r)) e r)
noncomputable def m_texts_252 (s : iS) : Option ((iS) ⊕ ((iS) ⊕ (iS))) := bd (m_closeSign 125 s) (fun _ s1 => some (.inl s1))
theorem tm_texts_252 (w : ev_W) (d : Nat) (hd : 14 ≤ d) (s : iS) : Ew hT w d 312 252 [(0, .ref (tb_nK + 121))] [] s (m_texts_45C w d) (m_texts_252 s) := by
  unfold m_texts_252
  refine e_mv 253 em_312 (ce_at ce_312 132 rfl) rfl rfl ?_
  refine e_bip 255 em_312 (ce_at ce_312 133 rfl) (by decide) rfl ?_
  refine e_ivv 258 em_312 (ce_at ce_312 134 rfl) (by omega) (iv_v1 (by decide) tq_121 rfl) em_340 (Nat.le_of_ble_eq_true rfl) rfl (tm_closeSign w (d - 1) (by omega) _ _) (fun r1 s1 => ?_)
  refine e_goto em_312 45 (ce_at ce_312 135 rfl) rfl ?_
  refine e_pk [0] rfl rfl ?_
  exact e_out (fun r h => h)
theorem fm_texts_252 (s : iS) : Fm (fun r : (iS) ⊕ ((iS) ⊕ (iS)) => r.elim (fun l => l) (fun e => e.elim (fun e => e) (fun e => e))) L_m_texts G_m_texts s (m_texts_252 s) := fm_bd (fm_sub (fm_closeSign _ _) (mem_sub_L rfl) (mem_sub_F rfl)) (fun r1 s1 => fm_some md_refl)
noncomputable def m_texts_214 (s : iS) : Option ((iS) ⊕ ((iS) ⊕ (iS))) := (lp (L := iS) (E := iS) (fun l => m_texts_214b l) s).bind (fun e => m_texts_252 e)
theorem tm_texts_214 (w : ev_W) (d : Nat) (hd : 14 ≤ d) (s : iS) : Ew hT w d 312 214 [(0, .ref (tb_nK + 121))] [] s (m_texts_45C w d) (m_texts_214 s) := by
  unfold m_texts_214
  refine e_lp (L := iS) (E := iS) (LO := fun l => [(0, .ref (tb_nK + 121))]) (LS := fun l => l) (CE := fun e r => ev w d 312 252 [(0, .ref (tb_nK + 121))] [] (hT (e)) r) (fun l => tm_texts_214b w d hd _) ?_ s
  intro e
  show Ew hT w d 312 252 [(0, .ref (tb_nK + 121))] [] e (m_texts_45C w d) _
  refine e_pk [0] rfl rfl ?_
  exact tm_texts_252 w d hd _
theorem fm_texts_214 (s : iS) : Fm (fun r : (iS) ⊕ ((iS) ⊕ (iS)) => r.elim (fun l => l) (fun e => e.elim (fun e => e) (fun e => e))) L_m_texts G_m_texts s (m_texts_214 s) := by
  unfold m_texts_214
  refine fm_lp (A := iS) (E := iS) (LS := fun l => l) (LE := fun e => e) ?_ ?_ s
  · exact fun l => fm_texts_214b _
  · exact (fun e => fm_texts_252 _)
noncomputable def m_texts_170 (s : iS) : Option ((iS) ⊕ ((iS) ⊕ (iS))) := (lp (L := iS) (E := iS) (fun l => m_texts_170b l) s).bind (fun e => m_texts_214 e)
theorem tm_texts_170 (w : ev_W) (d : Nat) (hd : 14 ≤ d) (s : iS) : Ew hT w d 312 170 [(0, .ref (tb_nK + 121))] [] s (m_texts_45C w d) (m_texts_170 s) := by
  unfold m_texts_170
  refine e_lp (L := iS) (E := iS) (LO := fun l => [(0, .ref (tb_nK + 121))]) (LS := fun l => l) (CE := fun e r => ev w d 312 214 [(0, .ref (tb_nK + 121))] [] (hT (e)) r) (fun l => tm_texts_170b w d hd _) ?_ s
  intro e
  show Ew hT w d 312 214 [(0, .ref (tb_nK + 121))] [] e (m_texts_45C w d) _
  refine e_pk [0] rfl rfl ?_
  exact tm_texts_214 w d hd _
theorem fm_texts_170 (s : iS) : Fm (fun r : (iS) ⊕ ((iS) ⊕ (iS)) => r.elim (fun l => l) (fun e => e.elim (fun e => e) (fun e => e))) L_m_texts G_m_texts s (m_texts_170 s) := by
  unfold m_texts_170
  refine fm_lp (A := iS) (E := iS) (LS := fun l => l) (LE := fun e => e) ?_ ?_ s
  · exact fun l => fm_texts_170b _
  · exact (fun e => fm_texts_214 _)
noncomputable def m_texts_114 (s : iS) : Option ((iS) ⊕ ((iS) ⊕ (iS))) := gd (rg (s 121 11)) (if (s 121 11) ≤ 0 then gd (0 ≤ (s 121 14) ∧ (s 121 14) < 13) (lt' (up s 128 (s 121 14).toNat (s 121 10)) (fun s4 => gd (0 ≤ (s4 121 14) ∧ (s4 121 14) < 13) (lt' (up s4 129 (s4 121 14).toNat 0) (fun s6 => lt' (up s6 121 14 ((s6 121 14) + 1)) (fun s7 => lt' (up s7 121 60 0) (fun s8 => bd (m_go s8) (fun _ s9 => bd (m_openSign 123 s9) (fun _ s10 => m_texts_170 s10)))))))) else some (.inr (.inl s)))
theorem tm_texts_114 (w : ev_W) (d : Nat) (hd : 14 ≤ d) (s : iS) : Ew hT w d 312 114 [(0, .ref (tb_nK + 121))] [] s (m_texts_45C w d) (m_texts_114 s) := by
  unfold m_texts_114
  refine e_mv 115 em_312 (ce_at ce_312 61 rfl) rfl rfl ?_
  refine e_get 118 em_312 (ce_at ce_312 62 rfl) tq_121 rfl rfl ?_
  refine e_gd fun g1 => ?_
  refine e_ifle 122 121 em_312 rfl rfl (ce_at ce_312 63 rfl) g1 (fun h2 => ?_) (fun h2 => ?_)
  · refine e_mv 123 em_312 (ce_at ce_312 65 rfl) rfl rfl ?_
    refine e_getr 126 em_312 (ce_at ce_312 66 rfl) tq_121 rfl rfl ?_
    refine e_mv 127 em_312 (ce_at ce_312 67 rfl) rfl rfl ?_
    refine e_get 130 em_312 (ce_at ce_312 68 rfl) tq_121 rfl rfl ?_
    refine e_mv 131 em_312 (ce_at ce_312 69 rfl) rfl rfl ?_
    refine e_get 134 em_312 (ce_at ce_312 70 rfl) tq_121 rfl rfl ?_
    refine e_gd fun g3 => ?_
    refine e_ist 135 em_312 (ce_at ce_312 71 rfl) tq_128 (by decide) g3 rfl (fun s4 => ?_)
    refine e_mv 136 em_312 (ce_at ce_312 72 rfl) rfl rfl ?_
    refine e_getr 139 em_312 (ce_at ce_312 73 rfl) tq_121 rfl rfl ?_
    refine e_mv 140 em_312 (ce_at ce_312 74 rfl) rfl rfl ?_
    refine e_get 143 em_312 (ce_at ce_312 75 rfl) tq_121 rfl rfl ?_
    refine e_op 144 em_312 (ce_at ce_312 76 rfl) rfl rfl ?_
    refine e_gd fun g5 => ?_
    refine e_ist 145 em_312 (ce_at ce_312 77 rfl) tq_129 (by decide) g5 rfl (fun s6 => ?_)
    refine e_mv 146 em_312 (ce_at ce_312 78 rfl) rfl rfl ?_
    refine e_mv 147 em_312 (ce_at ce_312 79 rfl) rfl rfl ?_
    refine e_get 150 em_312 (ce_at ce_312 80 rfl) tq_121 rfl rfl ?_
    refine e_op 151 em_312 (ce_at ce_312 81 rfl) rfl rfl ?_
    refine e_iadd 152 em_312 rfl (ce_at ce_312 82 rfl) ?_
    refine e_put 155 em_312 (ce_at ce_312 83 rfl) tq_121 rfl rfl rfl (fun s7 => ?_)
    refine e_mv 156 em_312 (ce_at ce_312 84 rfl) rfl rfl ?_
    refine e_op 157 em_312 (ce_at ce_312 85 rfl) rfl rfl ?_
    refine e_put 160 em_312 (ce_at ce_312 86 rfl) tq_121 rfl rfl rfl (fun s8 => ?_)
    refine e_mv 161 em_312 (ce_at ce_312 87 rfl) rfl rfl ?_
    refine e_ivv 164 em_312 (ce_at ce_312 88 rfl) (by omega) (iv_v0 (by decide) tq_121 rfl) em_315 (Nat.le_of_ble_eq_true rfl) rfl (tm_go w (d - 1) (by omega) _) (fun r9 s9 => ?_)
    refine e_mv 165 em_312 (ce_at ce_312 89 rfl) rfl rfl ?_
    refine e_bip 167 em_312 (ce_at ce_312 90 rfl) (by decide) rfl ?_
    refine e_ivv 170 em_312 (ce_at ce_312 91 rfl) (by omega) (iv_v1 (by decide) tq_121 rfl) em_319 (Nat.le_of_ble_eq_true rfl) rfl (tm_openSign w (d - 1) (by omega) _ _) (fun r10 s10 => ?_)
    refine e_pk [0] rfl rfl ?_
    exact tm_texts_170 w d hd _
  · refine e_pk [] rfl rfl ?_
    exact e_out (fun r h => h)
theorem fm_texts_114 (s : iS) : Fm (fun r : (iS) ⊕ ((iS) ⊕ (iS)) => r.elim (fun l => l) (fun e => e.elim (fun e => e) (fun e => e))) L_m_texts G_m_texts s (m_texts_114 s) := fm_gd (fm_if (fm_gd (fm_lt (md_upL (mem_L rfl)) (fun s4 => fm_gd (fm_lt (md_upL (mem_L rfl)) (fun s6 => fm_lt (md_upF (mem_F rfl)) (fun s7 => fm_lt (md_upF (mem_F rfl)) (fun s8 => fm_bd (fm_sub (fm_go _) (mem_sub_L rfl) (mem_sub_F rfl)) (fun r9 s9 => fm_bd (fm_sub (fm_openSign _ _) (mem_sub_L rfl) (mem_sub_F rfl)) (fun r10 s10 => fm_texts_170 _))))))))) (fm_some md_refl))
noncomputable def m_texts_93 (s : iS) : Option ((iS) ⊕ ((iS) ⊕ (iS))) := gd (rg (s 121 11)) (if (s 121 11) = 0 then bd (m_room (s 121 14) 12 (s 121 10) s) (fun _ s3 => m_texts_114 s3) else m_texts_114 s)
theorem tm_texts_93 (w : ev_W) (d : Nat) (hd : 14 ≤ d) (s : iS) : Ew hT w d 312 93 [(0, .ref (tb_nK + 121))] [] s (m_texts_45C w d) (m_texts_93 s) := by
  unfold m_texts_93
  refine e_mv 94 em_312 (ce_at ce_312 51 rfl) rfl rfl ?_
  refine e_get 97 em_312 (ce_at ce_312 52 rfl) tq_121 rfl rfl ?_
  refine e_gd fun g1 => ?_
  refine e_ifne 114 100 em_312 rfl rfl (ce_at ce_312 53 rfl) g1 (fun h2 => ?_) (fun h2 => ?_)
  · refine e_pk [0] rfl rfl ?_
    exact tm_texts_114 w d hd _
  · refine e_mv 101 em_312 (ce_at ce_312 54 rfl) rfl rfl ?_
    refine e_mv 102 em_312 (ce_at ce_312 55 rfl) rfl rfl ?_
    refine e_get 105 em_312 (ce_at ce_312 56 rfl) tq_121 rfl rfl ?_
    refine e_bip 107 em_312 (ce_at ce_312 57 rfl) (by decide) rfl ?_
    refine e_mv 108 em_312 (ce_at ce_312 58 rfl) rfl rfl ?_
    refine e_get 111 em_312 (ce_at ce_312 59 rfl) tq_121 rfl rfl ?_
    refine e_ivv 114 em_312 (ce_at ce_312 60 rfl) (by omega) (iv_v3 (by decide) tq_121 rfl) em_318 (Nat.le_of_ble_eq_true rfl) rfl (tm_room w (d - 1) (by omega) _ _ _ _) (fun r3 s3 => ?_)
    refine e_pk [0] rfl rfl ?_
    exact tm_texts_114 w d hd _
theorem fm_texts_93 (s : iS) : Fm (fun r : (iS) ⊕ ((iS) ⊕ (iS)) => r.elim (fun l => l) (fun e => e.elim (fun e => e) (fun e => e))) L_m_texts G_m_texts s (m_texts_93 s) := fm_gd (fm_if (fm_bd (fm_sub (fm_room _ _ _ _) (mem_sub_L rfl) (mem_sub_F rfl)) (fun r3 s3 => fm_texts_114 _)) (fm_texts_114 _))
noncomputable def m_texts_45b (s : iS) : Option ((iS) ⊕ ((iS) ⊕ (iS))) := gd (rg (s 121 11)) (if (s 121 11) = 0 then gd (0 ≤ (s 121 10) ∧ (s 121 10) < 2002) (gd (rg (s 124 (s 121 10).toNat)) (if (s 124 (s 121 10).toNat) = 0 then some (.inr (.inr s)) else bd (m_needWord 0 s) (fun _ s6 => gd (rg (s6 121 11)) (if (s6 121 11) = 0 then gd (0 ≤ (s6 121 10) ∧ (s6 121 10) < 2002) (gd (rg (s6 124 (s6 121 10).toNat)) (if (s6 124 (s6 121 10).toNat) = 1 then m_texts_93 s6 else bd (m_syntax s6) (fun _ s12 => m_texts_93 s12))) else m_texts_93 s6)))) else some (.inr (.inr s)))
theorem tm_texts_45b (w : ev_W) (d : Nat) (hd : 14 ≤ d) (s : iS) : Ew hT w d 312 45 [(0, .ref (tb_nK + 121))] [] s (m_texts_45C w d) (m_texts_45b s) := by
  unfold m_texts_45b
  refine e_mv 46 em_312 (ce_at ce_312 27 rfl) rfl rfl ?_
  refine e_get 49 em_312 (ce_at ce_312 28 rfl) tq_121 rfl rfl ?_
  refine e_gd fun g1 => ?_
  refine e_ifne 261 52 em_312 rfl rfl (ce_at ce_312 29 rfl) g1 (fun h2 => ?_) (fun h2 => ?_)
  · refine e_pk [] rfl rfl ?_
    exact e_out (fun r h => h)
  · refine e_mv 53 em_312 (ce_at ce_312 30 rfl) rfl rfl ?_
    refine e_getr 56 em_312 (ce_at ce_312 31 rfl) tq_121 rfl rfl ?_
    refine e_mv 57 em_312 (ce_at ce_312 32 rfl) rfl rfl ?_
    refine e_get 60 em_312 (ce_at ce_312 33 rfl) tq_121 rfl rfl ?_
    refine e_gd fun g3 => ?_
    refine e_ild 61 em_312 (ce_at ce_312 34 rfl) tq_124 (by decide) g3 rfl ?_
    refine e_gd fun g4 => ?_
    refine e_ifeq 261 64 em_312 rfl rfl (ce_at ce_312 35 rfl) g4 (fun h5 => ?_) (fun h5 => ?_)
    · refine e_pk [] rfl rfl ?_
      exact e_out (fun r h => h)
    · refine e_mv 65 em_312 (ce_at ce_312 36 rfl) rfl rfl ?_
      refine e_op 66 em_312 (ce_at ce_312 37 rfl) rfl rfl ?_
      refine e_ivv 69 em_312 (ce_at ce_312 38 rfl) (by omega) (iv_v1 (by decide) tq_121 rfl) em_313 (Nat.le_of_ble_eq_true rfl) rfl (tm_needWord w (d - 1) (by omega) _ _) (fun r6 s6 => ?_)
      refine e_mv 70 em_312 (ce_at ce_312 39 rfl) rfl rfl ?_
      refine e_get 73 em_312 (ce_at ce_312 40 rfl) tq_121 rfl rfl ?_
      refine e_gd fun g7 => ?_
      refine e_ifne 93 76 em_312 rfl rfl (ce_at ce_312 41 rfl) g7 (fun h8 => ?_) (fun h8 => ?_)
      · refine e_pk [0] rfl rfl ?_
        exact tm_texts_93 w d hd _
      · refine e_mv 77 em_312 (ce_at ce_312 42 rfl) rfl rfl ?_
        refine e_getr 80 em_312 (ce_at ce_312 43 rfl) tq_121 rfl rfl ?_
        refine e_mv 81 em_312 (ce_at ce_312 44 rfl) rfl rfl ?_
        refine e_get 84 em_312 (ce_at ce_312 45 rfl) tq_121 rfl rfl ?_
        refine e_gd fun g9 => ?_
        refine e_ild 85 em_312 (ce_at ce_312 46 rfl) tq_124 (by decide) g9 rfl ?_
        refine e_op 86 em_312 (ce_at ce_312 47 rfl) rfl rfl ?_
        refine e_gd fun g10 => ?_
        refine e_cmeq 93 89 em_312 rfl rfl (ce_at ce_312 48 rfl) g10 (by decide) (fun h11 => ?_) (fun h11 => ?_)
        · refine e_pk [0] rfl rfl ?_
          exact tm_texts_93 w d hd _
        · refine e_mv 90 em_312 (ce_at ce_312 49 rfl) rfl rfl ?_
          refine e_ivv 93 em_312 (ce_at ce_312 50 rfl) (by omega) (iv_v0 (by decide) tq_121 rfl) em_316 (Nat.le_of_ble_eq_true rfl) rfl (tm_syntax w (d - 1) (by omega) _) (fun r12 s12 => ?_)
          refine e_pk [0] rfl rfl ?_
          exact tm_texts_93 w d hd _
theorem fm_texts_45b (s : iS) : Fm (fun r : (iS) ⊕ ((iS) ⊕ (iS)) => r.elim (fun l => l) (fun e => e.elim (fun e => e) (fun e => e))) L_m_texts G_m_texts s (m_texts_45b s) := fm_gd (fm_if (fm_gd (fm_gd (fm_if (fm_some md_refl) (fm_bd (fm_sub (fm_needWord _ _) (mem_sub_L rfl) (mem_sub_F rfl)) (fun r6 s6 => fm_gd (fm_if (fm_gd (fm_gd (fm_if (fm_texts_93 _) (fm_bd (fm_sub (fm_syntax _) (mem_sub_L rfl) (mem_sub_F rfl)) (fun r12 s12 => fm_texts_93 _))))) (fm_texts_93 _))))))) (fm_some md_refl))
noncomputable def m_texts_45 (s : iS) : Option (Int × iS) := (lp (L := iS) (E := (iS) ⊕ (iS)) (fun l => m_texts_45b l) s).bind (fun e => e.elim (fun e => some (0, e)) (fun e => some (0, e)))
theorem tm_texts_45 (w : ev_W) (d : Nat) (hd : 14 ≤ d) (s : iS) : Ew hT w d 312 45 [(0, .ref (tb_nK + 121))] [] s (Cv hT) (m_texts_45 s) := by
  unfold m_texts_45
  refine e_lp (L := iS) (E := (iS) ⊕ (iS)) (LO := fun l => [(0, .ref (tb_nK + 121))]) (LS := fun l => l) (CE := fun e r => e.elim (fun e => ev w d 312 121 [] [] (hT (e)) r) (fun e => ev w d 312 261 [] [] (hT (e)) r)) (fun l => tm_texts_45b w d hd _) ?_ s
  rintro (e | e)
  · show Ew hT w d 312 121 [] [] e (Cv hT) _
    exact e_retv em_312 (ce_at ce_312 64 rfl)
  · show Ew hT w d 312 261 [] [] e (Cv hT) _
    exact e_retv em_312 (ce_at ce_312 136 rfl)
theorem fm_texts_45 (s : iS) : Fm Prod.snd L_m_texts G_m_texts s (m_texts_45 s) := by
  unfold m_texts_45
  refine fm_lp (A := iS) (E := (iS) ⊕ (iS)) (LS := fun l => l) (LE := fun e => e.elim (fun e => e) (fun e => e)) ?_ ?_ s
  · exact fun l => fm_texts_45b _
  · exact (by rintro (e | e); exact fm_some md_refl; exact fm_some md_refl)
noncomputable def m_texts (s : iS) : Option (Int × iS) := lt' (up s 121 11 0) (fun s1 => lt' (up s1 121 14 0) (fun s2 => lt' (up s2 121 16 0) (fun s3 => lt' (up s3 121 17 0) (fun s4 => lt' (up s4 121 25 0) (fun s5 => lt' (up s5 121 33 0) (fun s6 => lt' (up s6 121 39 0) (fun s7 => lt' (up s7 121 48 0) (fun s8 => lt' (up s8 121 49 0) (fun s9 => m_texts_45 s9)))))))))
theorem tm_texts (w : ev_W) (d : Nat) (hd : 14 ≤ d) (s : iS) : Ew hT w d 312 0 [(0, .ref (tb_nK + 121))] [] s (Cv hT) (m_texts s) := by
  unfold m_texts
  refine e_mv 1 em_312 (ce_at ce_312 0 rfl) rfl rfl ?_
  refine e_op 2 em_312 (ce_at ce_312 1 rfl) rfl rfl ?_
  refine e_put 5 em_312 (ce_at ce_312 2 rfl) tq_121 rfl rfl rfl (fun s1 => ?_)
  refine e_mv 6 em_312 (ce_at ce_312 3 rfl) rfl rfl ?_
  refine e_op 7 em_312 (ce_at ce_312 4 rfl) rfl rfl ?_
  refine e_put 10 em_312 (ce_at ce_312 5 rfl) tq_121 rfl rfl rfl (fun s2 => ?_)
  refine e_mv 11 em_312 (ce_at ce_312 6 rfl) rfl rfl ?_
  refine e_op 12 em_312 (ce_at ce_312 7 rfl) rfl rfl ?_
  refine e_put 15 em_312 (ce_at ce_312 8 rfl) tq_121 rfl rfl rfl (fun s3 => ?_)
  refine e_mv 16 em_312 (ce_at ce_312 9 rfl) rfl rfl ?_
  refine e_op 17 em_312 (ce_at ce_312 10 rfl) rfl rfl ?_
  refine e_put 20 em_312 (ce_at ce_312 11 rfl) tq_121 rfl rfl rfl (fun s4 => ?_)
  refine e_mv 21 em_312 (ce_at ce_312 12 rfl) rfl rfl ?_
  refine e_op 22 em_312 (ce_at ce_312 13 rfl) rfl rfl ?_
  refine e_put 25 em_312 (ce_at ce_312 14 rfl) tq_121 rfl rfl rfl (fun s5 => ?_)
  refine e_mv 26 em_312 (ce_at ce_312 15 rfl) rfl rfl ?_
  refine e_op 27 em_312 (ce_at ce_312 16 rfl) rfl rfl ?_
  refine e_put 30 em_312 (ce_at ce_312 17 rfl) tq_121 rfl rfl rfl (fun s6 => ?_)
  refine e_mv 31 em_312 (ce_at ce_312 18 rfl) rfl rfl ?_
  refine e_op 32 em_312 (ce_at ce_312 19 rfl) rfl rfl ?_
  refine e_put 35 em_312 (ce_at ce_312 20 rfl) tq_121 rfl rfl rfl (fun s7 => ?_)
  refine e_mv 36 em_312 (ce_at ce_312 21 rfl) rfl rfl ?_
  refine e_op 37 em_312 (ce_at ce_312 22 rfl) rfl rfl ?_
  refine e_put 40 em_312 (ce_at ce_312 23 rfl) tq_121 rfl rfl rfl (fun s8 => ?_)
  refine e_mv 41 em_312 (ce_at ce_312 24 rfl) rfl rfl ?_
  refine e_op 42 em_312 (ce_at ce_312 25 rfl) rfl rfl ?_
  refine e_put 45 em_312 (ce_at ce_312 26 rfl) tq_121 rfl rfl rfl (fun s9 => ?_)
  refine e_pk [0] rfl rfl ?_
  exact tm_texts_45 w d hd _
theorem fm_texts (s : iS) : Fm Prod.snd L_m_texts G_m_texts s (m_texts s) := fm_lt (md_upF (mem_F rfl)) (fun s1 => fm_lt (md_upF (mem_F rfl)) (fun s2 => fm_lt (md_upF (mem_F rfl)) (fun s3 => fm_lt (md_upF (mem_F rfl)) (fun s4 => fm_lt (md_upF (mem_F rfl)) (fun s5 => fm_lt (md_upF (mem_F rfl)) (fun s6 => fm_lt (md_upF (mem_F rfl)) (fun s7 => fm_lt (md_upF (mem_F rfl)) (fun s8 => fm_lt (md_upF (mem_F rfl)) (fun s9 => fm_texts_45 _)))))))))
/-! m_isSystem -/
def L_m_isSystem : List Nat := []
def G_m_isSystem : List (Nat × Nat) := []
def m_isSystem_2C (w : ev_W) (d : Nat) (v1 : Int) (v2 : Int) : (Int × iS) ⊕ (Int × iS) → am_E → Prop := fun q r => q.elim (fun l => ev w d 349 2 ((fun l => [(0, .ref (tb_nK + 121)), (1, iv v1), (2, iv v2), (3, iv (l.1))]) l) [] (hT ((fun l => l.2) l)) r) (fun e => (fun e r => ev w d 349 42 [(0, .ref (tb_nK + 121)), (1, iv v1), (2, iv v2), (3, iv (e.1))] [] (hT (e.2)) r) e r)
noncomputable def m_isSystem_2b (v1 : Int) (v2 : Int) (v3 : Int) (s : iS) : Option ((Int × iS) ⊕ (Int × iS)) := gd (0 ≤ v1 ∧ v1 < 2002) (gd (rg v3) (gd (rg (s 126 v1.toNat)) (if (s 126 v1.toNat) ≤ v3 then some (.inr (v3, s)) else gd (0 ≤ (v2 + v3) ∧ (v2 + v3) < 465) (gd (0 ≤ ((s 125 v1.toNat) + v3) ∧ ((s 125 v1.toNat) + v3) < 4000) (gd (rg ((ka_5 ((v2 + v3).toNat)).toInt)) (gd (rg (s 123 ((s 125 v1.toNat) + v3).toNat)) (if (ka_5 ((v2 + v3).toNat)).toInt = (s 123 ((s 125 v1.toNat) + v3).toNat) then some (.inl ((v3 + 1), s)) else some (.inr (v3, s)))))))))
theorem tm_isSystem_2b (w : ev_W) (d : Nat) (hd : 0 ≤ d) (v1 : Int) (v2 : Int) (v3 : Int) (s : iS) : Ew hT w d 349 2 [(0, .ref (tb_nK + 121)), (1, iv v1), (2, iv v2), (3, iv v3)] [] s (m_isSystem_2C w d v1 v2) (m_isSystem_2b v1 v2 v3 s) := by
  unfold m_isSystem_2b
  refine e_mv 3 em_349 (ce_at ce_349 2 rfl) rfl rfl ?_
  refine e_mv 4 em_349 (ce_at ce_349 3 rfl) rfl rfl ?_
  refine e_getr 7 em_349 (ce_at ce_349 4 rfl) tq_121 rfl rfl ?_
  refine e_mv 8 em_349 (ce_at ce_349 5 rfl) rfl rfl ?_
  refine e_gd fun g1 => ?_
  refine e_ild 9 em_349 (ce_at ce_349 6 rfl) tq_126 (by decide) g1 rfl ?_
  refine e_gd fun g2 => ?_
  refine e_gd fun g3 => ?_
  refine e_cmge 42 12 em_349 rfl rfl (ce_at ce_349 7 rfl) g2 g3 (fun h4 => ?_) (fun h4 => ?_)
  · refine e_pk [0, 1, 2, 3] rfl rfl ?_
    exact e_out (fun r h => h)
  · refine e_gst 15 em_349 (ce_at ce_349 8 rfl) rfl rfl ?_
    refine e_mv 16 em_349 (ce_at ce_349 9 rfl) rfl rfl ?_
    refine e_mv 17 em_349 (ce_at ce_349 10 rfl) rfl rfl ?_
    refine e_iadd 18 em_349 rfl (ce_at ce_349 11 rfl) ?_
    refine e_gd fun g5 => ?_
    refine e_cldk 19 em_349 (ce_at ce_349 12 rfl) (by decide) (kt_5 _ _) (by decide) g5 rfl ?_
    refine e_mv 20 em_349 (ce_at ce_349 13 rfl) rfl rfl ?_
    refine e_getr 23 em_349 (ce_at ce_349 14 rfl) tq_121 rfl rfl ?_
    refine e_mv 24 em_349 (ce_at ce_349 15 rfl) rfl rfl ?_
    refine e_getr 27 em_349 (ce_at ce_349 16 rfl) tq_121 rfl rfl ?_
    refine e_mv 28 em_349 (ce_at ce_349 17 rfl) rfl rfl ?_
    refine e_ild 29 em_349 (ce_at ce_349 18 rfl) tq_125 (by decide) g1 rfl ?_
    refine e_mv 30 em_349 (ce_at ce_349 19 rfl) rfl rfl ?_
    refine e_iadd 31 em_349 rfl (ce_at ce_349 20 rfl) ?_
    refine e_gd fun g6 => ?_
    refine e_ild 32 em_349 (ce_at ce_349 21 rfl) tq_123 (by decide) g6 rfl ?_
    refine e_gd fun g7 => ?_
    refine e_gd fun g8 => ?_
    refine e_cmne 42 35 em_349 rfl rfl (ce_at ce_349 22 rfl) g7 g8 (fun h9 => ?_) (fun h9 => ?_)
    · refine e_pk [0, 1, 2, 3] rfl rfl ?_
      exact e_out (fun r h => h)
    · refine e_mv 36 em_349 (ce_at ce_349 23 rfl) rfl rfl ?_
      refine e_op 37 em_349 (ce_at ce_349 24 rfl) rfl rfl ?_
      refine e_iadd 38 em_349 rfl (ce_at ce_349 25 rfl) ?_
      refine e_mv 39 em_349 (ce_at ce_349 26 rfl) rfl rfl ?_
      refine e_goto em_349 2 (ce_at ce_349 27 rfl) rfl ?_
      refine e_pk [0, 1, 2, 3] rfl rfl ?_
      exact e_out (fun r h => h)
theorem fm_isSystem_2b (v1 : Int) (v2 : Int) (v3 : Int) (s : iS) : Fm (fun r : (Int × iS) ⊕ (Int × iS) => r.elim (fun l => l.2) (fun e => e.2)) L_m_isSystem G_m_isSystem s (m_isSystem_2b v1 v2 v3 s) := fm_gd (fm_gd (fm_gd (fm_if (fm_some md_refl) (fm_gd (fm_gd (fm_gd (fm_gd (fm_if (fm_some md_refl) (fm_some md_refl)))))))))
noncomputable def m_isSystem_42 (v1 : Int) (v2 : Int) (v3 : Int) (s : iS) : Option (Int × iS) := gd (0 ≤ v1 ∧ v1 < 2002) (gd (rg v3) (gd (rg (s 126 v1.toNat)) (if v3 = (s 126 v1.toNat) then gd (0 ≤ (v2 + v3) ∧ (v2 + v3) < 465) (gd (rg ((ka_5 ((v2 + v3).toNat)).toInt)) (if (ka_5 ((v2 + v3).toNat)).toInt = 32 then some (1, s) else some (0, s))) else some (0, s))))
theorem tm_isSystem_42 (w : ev_W) (d : Nat) (hd : 0 ≤ d) (v1 : Int) (v2 : Int) (v3 : Int) (s : iS) : Ew hT w d 349 42 [(0, .ref (tb_nK + 121)), (1, iv v1), (2, iv v2), (3, iv v3)] [] s (Ci hT) (m_isSystem_42 v1 v2 v3 s) := by
  unfold m_isSystem_42
  refine e_mv 43 em_349 (ce_at ce_349 28 rfl) rfl rfl ?_
  refine e_mv 44 em_349 (ce_at ce_349 29 rfl) rfl rfl ?_
  refine e_getr 47 em_349 (ce_at ce_349 30 rfl) tq_121 rfl rfl ?_
  refine e_mv 48 em_349 (ce_at ce_349 31 rfl) rfl rfl ?_
  refine e_gd fun g1 => ?_
  refine e_ild 49 em_349 (ce_at ce_349 32 rfl) tq_126 (by decide) g1 rfl ?_
  refine e_gd fun g2 => ?_
  refine e_gd fun g3 => ?_
  refine e_cmne 68 52 em_349 rfl rfl (ce_at ce_349 33 rfl) g2 g3 (fun h4 => ?_) (fun h4 => ?_)
  · refine e_op 69 em_349 (ce_at ce_349 43 rfl) rfl rfl ?_
    exact e_retz em_349 (ce_at ce_349 44 rfl) (by decide)
  · refine e_gst 55 em_349 (ce_at ce_349 34 rfl) rfl rfl ?_
    refine e_mv 56 em_349 (ce_at ce_349 35 rfl) rfl rfl ?_
    refine e_mv 57 em_349 (ce_at ce_349 36 rfl) rfl rfl ?_
    refine e_iadd 58 em_349 rfl (ce_at ce_349 37 rfl) ?_
    refine e_gd fun g5 => ?_
    refine e_cldk 59 em_349 (ce_at ce_349 38 rfl) (by decide) (kt_5 _ _) (by decide) g5 rfl ?_
    refine e_bip 61 em_349 (ce_at ce_349 39 rfl) (by decide) rfl ?_
    refine e_gd fun g6 => ?_
    refine e_cmne 68 64 em_349 rfl rfl (ce_at ce_349 40 rfl) g6 (by decide) (fun h7 => ?_) (fun h7 => ?_)
    · refine e_op 69 em_349 (ce_at ce_349 43 rfl) rfl rfl ?_
      exact e_retz em_349 (ce_at ce_349 44 rfl) (by decide)
    · refine e_op 65 em_349 (ce_at ce_349 41 rfl) rfl rfl ?_
      refine e_goto em_349 69 (ce_at ce_349 42 rfl) rfl ?_
      exact e_retz em_349 (ce_at ce_349 44 rfl) (by decide)
theorem fm_isSystem_42 (v1 : Int) (v2 : Int) (v3 : Int) (s : iS) : Fm Prod.snd L_m_isSystem G_m_isSystem s (m_isSystem_42 v1 v2 v3 s) := fm_gd (fm_gd (fm_gd (fm_if (fm_gd (fm_gd (fm_if (fm_some md_refl) (fm_some md_refl)))) (fm_some md_refl))))
noncomputable def m_isSystem_2 (v1 : Int) (v2 : Int) (v3 : Int) (s : iS) : Option (Int × iS) := (lp (L := Int × iS) (E := Int × iS) (fun l => m_isSystem_2b v1 v2 (l.1) (l.2)) (v3, s)).bind (fun e => m_isSystem_42 v1 v2 (e.1) (e.2))
theorem tm_isSystem_2 (w : ev_W) (d : Nat) (hd : 0 ≤ d) (v1 : Int) (v2 : Int) (v3 : Int) (s : iS) : Ew hT w d 349 2 [(0, .ref (tb_nK + 121)), (1, iv v1), (2, iv v2), (3, iv v3)] [] s (Ci hT) (m_isSystem_2 v1 v2 v3 s) := by
  unfold m_isSystem_2
  refine e_lp (L := Int × iS) (E := Int × iS) (LO := fun l => [(0, .ref (tb_nK + 121)), (1, iv v1), (2, iv v2), (3, iv (l.1))]) (LS := fun l => l.2) (CE := fun e r => ev w d 349 42 [(0, .ref (tb_nK + 121)), (1, iv v1), (2, iv v2), (3, iv (e.1))] [] (hT (e.2)) r) (fun l => tm_isSystem_2b w d hd _ _ _ _) ?_ (v3, s)
  intro e
  show Ew hT w d 349 42 [(0, .ref (tb_nK + 121)), (1, iv v1), (2, iv v2), (3, iv (e.1))] [] e.2 (Ci hT) _
  refine e_pk [0, 1, 2, 3] rfl rfl ?_
  exact tm_isSystem_42 w d hd _ _ _ _
theorem fm_isSystem_2 (v1 : Int) (v2 : Int) (v3 : Int) (s : iS) : Fm Prod.snd L_m_isSystem G_m_isSystem s (m_isSystem_2 v1 v2 v3 s) := by
  unfold m_isSystem_2
  refine fm_lp (A := Int × iS) (E := Int × iS) (LS := fun l => l.2) (LE := fun e => e.2) ?_ ?_ (v3, s)
  · exact fun l => fm_isSystem_2b _ _ _ _
  · exact (fun e => fm_isSystem_42 _ _ _ _)
noncomputable def m_isSystem (v1 : Int) (v2 : Int) (s : iS) : Option (Int × iS) := m_isSystem_2 v1 v2 0 s
theorem tm_isSystem (w : ev_W) (d : Nat) (hd : 0 ≤ d) (v1 : Int) (v2 : Int) (s : iS) : Ew hT w d 349 0 [(0, .ref (tb_nK + 121)), (1, iv v1), (2, iv v2)] [] s (Ci hT) (m_isSystem v1 v2 s) := by
  unfold m_isSystem
  refine e_op 1 em_349 (ce_at ce_349 0 rfl) rfl rfl ?_
  refine e_mv 2 em_349 (ce_at ce_349 1 rfl) rfl rfl ?_
  refine e_pk [0, 1, 2, 3] rfl rfl ?_
  exact tm_isSystem_2 w d hd _ _ _ _
theorem fm_isSystem (v1 : Int) (v2 : Int) (s : iS) : Fm Prod.snd L_m_isSystem G_m_isSystem s (m_isSystem v1 v2 s) := fm_isSystem_2 _ _ _ _
/-! m_systemClass -/
def L_m_systemClass : List Nat := []
def G_m_systemClass : List (Nat × Nat) := []
def m_systemClass_2C (w : ev_W) (d : Nat) (v1 : Int) : (Int × iS) ⊕ ((Int × iS) ⊕ (iS)) → am_E → Prop := fun q r => q.elim (fun l => ev w d 348 2 ((fun l => [(0, .ref (tb_nK + 121)), (1, iv v1), (2, iv (l.1))]) l) [] (hT ((fun l => l.2) l)) r) (fun e => (fun e r => e.elim (fun e => ev w d 348 22 [(2, iv (e.1))] [] (hT (e.2)) r) (fun e => ev w d 348 30 [] [] (hT (e)) r)) e r)
noncomputable def m_systemClass_2b (v1 : Int) (v2 : Int) (s : iS) : Option ((Int × iS) ⊕ ((Int × iS) ⊕ (iS))) := gd (rg v2) (if 8 ≤ v2 then some (.inr (.inr s)) else gd (0 ≤ v2 ∧ v2 < 8) (bd (m_isSystem v1 (s 165 v2.toNat) s) (fun r4 s4 => gd (rg r4) (if r4 = 0 then some (.inl ((v2 + 1), s4)) else some (.inr (.inl (v2, s4)))))))
theorem tm_systemClass_2b (w : ev_W) (d : Nat) (hd : 1 ≤ d) (v1 : Int) (v2 : Int) (s : iS) : Ew hT w d 348 2 [(0, .ref (tb_nK + 121)), (1, iv v1), (2, iv v2)] [] s (m_systemClass_2C w d v1) (m_systemClass_2b v1 v2 s) := by
  unfold m_systemClass_2b
  refine e_mv 3 em_348 (ce_at ce_348 2 rfl) rfl rfl ?_
  refine e_bip 5 em_348 (ce_at ce_348 3 rfl) (by decide) rfl ?_
  refine e_gd fun g1 => ?_
  refine e_cmge 30 8 em_348 rfl rfl (ce_at ce_348 4 rfl) g1 (by decide) (fun h2 => ?_) (fun h2 => ?_)
  · refine e_pk [] rfl rfl ?_
    exact e_out (fun r h => h)
  · refine e_mv 9 em_348 (ce_at ce_348 5 rfl) rfl rfl ?_
    refine e_mv 10 em_348 (ce_at ce_348 6 rfl) rfl rfl ?_
    refine e_mv 11 em_348 (ce_at ce_348 7 rfl) rfl rfl ?_
    refine e_getr 14 em_348 (ce_at ce_348 8 rfl) tq_121 rfl rfl ?_
    refine e_mv 15 em_348 (ce_at ce_348 9 rfl) rfl rfl ?_
    refine e_gd fun g3 => ?_
    refine e_ild 16 em_348 (ce_at ce_348 10 rfl) tq_165 (by decide) g3 rfl ?_
    refine e_ivi 19 em_348 (ce_at ce_348 11 rfl) (by omega) (iv_v2 (by decide) tq_121 rfl) em_349 (Nat.le_of_ble_eq_true rfl) rfl (tm_isSystem w (d - 1) (by omega) _ _ _) (fun r4 s4 => ?_)
    refine e_gd fun g5 => ?_
    refine e_ifeq 24 22 em_348 rfl rfl (ce_at ce_348 12 rfl) g5 (fun h6 => ?_) (fun h6 => ?_)
    · refine e_iinc 27 em_348 (ce_at ce_348 15 rfl) rfl (by decide) rfl ?_
      refine e_goto em_348 2 (ce_at ce_348 16 rfl) rfl ?_
      refine e_pk [0, 1, 2] rfl rfl ?_
      exact e_out (fun r h => h)
    · refine e_pk [2] rfl rfl ?_
      exact e_out (fun r h => h)
theorem fm_systemClass_2b (v1 : Int) (v2 : Int) (s : iS) : Fm (fun r : (Int × iS) ⊕ ((Int × iS) ⊕ (iS)) => r.elim (fun l => l.2) (fun e => e.elim (fun e => e.2) (fun e => e))) L_m_systemClass G_m_systemClass s (m_systemClass_2b v1 v2 s) := fm_gd (fm_if (fm_some md_refl) (fm_gd (fm_bd (fm_sub (fm_isSystem _ _ _) (mem_sub_L rfl) (mem_sub_F rfl)) (fun r4 s4 => fm_gd (fm_if (fm_some md_refl) (fm_some md_refl))))))
noncomputable def m_systemClass_2 (v1 : Int) (v2 : Int) (s : iS) : Option (Int × iS) := (lp (L := Int × iS) (E := (Int × iS) ⊕ (iS)) (fun l => m_systemClass_2b v1 (l.1) (l.2)) (v2, s)).bind (fun e => e.elim (fun e => some (e.1, e.2)) (fun e => some ((-1), e)))
theorem tm_systemClass_2 (w : ev_W) (d : Nat) (hd : 1 ≤ d) (v1 : Int) (v2 : Int) (s : iS) : Ew hT w d 348 2 [(0, .ref (tb_nK + 121)), (1, iv v1), (2, iv v2)] [] s (Ci hT) (m_systemClass_2 v1 v2 s) := by
  unfold m_systemClass_2
  refine e_lp (L := Int × iS) (E := (Int × iS) ⊕ (iS)) (LO := fun l => [(0, .ref (tb_nK + 121)), (1, iv v1), (2, iv (l.1))]) (LS := fun l => l.2) (CE := fun e r => e.elim (fun e => ev w d 348 22 [(2, iv (e.1))] [] (hT (e.2)) r) (fun e => ev w d 348 30 [] [] (hT (e)) r)) (fun l => tm_systemClass_2b w d hd _ _ _) ?_ (v2, s)
  rintro (e | e)
  · show Ew hT w d 348 22 [(2, iv (e.1))] [] e.2 (Ci hT) _
    refine e_mv 23 em_348 (ce_at ce_348 13 rfl) rfl rfl ?_
    exact e_reti em_348 (ce_at ce_348 14 rfl)
  · show Ew hT w d 348 30 [] [] e (Ci hT) _
    refine e_op 31 em_348 (ce_at ce_348 17 rfl) rfl rfl ?_
    exact e_reti em_348 (ce_at ce_348 18 rfl)
theorem fm_systemClass_2 (v1 : Int) (v2 : Int) (s : iS) : Fm Prod.snd L_m_systemClass G_m_systemClass s (m_systemClass_2 v1 v2 s) := by
  unfold m_systemClass_2
  refine fm_lp (A := Int × iS) (E := (Int × iS) ⊕ (iS)) (LS := fun l => l.2) (LE := fun e => e.elim (fun e => e.2) (fun e => e)) ?_ ?_ (v2, s)
  · exact fun l => fm_systemClass_2b _ _ _
  · exact (by rintro (e | e); exact fm_some md_refl; exact fm_some md_refl)
noncomputable def m_systemClass (v1 : Int) (s : iS) : Option (Int × iS) := m_systemClass_2 v1 0 s
theorem tm_systemClass (w : ev_W) (d : Nat) (hd : 1 ≤ d) (v1 : Int) (s : iS) : Ew hT w d 348 0 [(0, .ref (tb_nK + 121)), (1, iv v1)] [] s (Ci hT) (m_systemClass v1 s) := by
  unfold m_systemClass
  refine e_op 1 em_348 (ce_at ce_348 0 rfl) rfl rfl ?_
  refine e_mv 2 em_348 (ce_at ce_348 1 rfl) rfl rfl ?_
  refine e_pk [0, 1, 2] rfl rfl ?_
  exact tm_systemClass_2 w d hd _ _ _
theorem fm_systemClass (v1 : Int) (s : iS) : Fm Prod.snd L_m_systemClass G_m_systemClass s (m_systemClass v1 s) := fm_systemClass_2 _ _ _
/-! m_like -/
def L_m_like : List Nat := []
def G_m_like : List (Nat × Nat) := []
def m_like_24C (w : ev_W) (d : Nat) (v1 : Int) (v2 : Int) : (Int × Int × iS) ⊕ (Int × iS) → am_E → Prop := fun q r => q.elim (fun l => ev w d 350 24 ((fun l => [(0, .ref (tb_nK + 121)), (1, iv v1), (2, iv v2), (3, iv (l.1)), (4, iv (l.2.1))]) l) [] (hT ((fun l => l.2.2) l)) r) (fun e => (fun e r => ev w d 350 82 [(3, iv (e.1))] [] (hT (e.2)) r) e r)
noncomputable def m_like_24b (v1 : Int) (v2 : Int) (v3 : Int) (v4 : Int) (s : iS) : Option ((Int × Int × iS) ⊕ (Int × iS)) := gd (0 ≤ v1 ∧ v1 < 2002) (gd (rg v4) (gd (rg (s 126 v1.toNat)) (if (s 126 v1.toNat) ≤ v4 then some (.inr (v3, s)) else gd (rg v3) (if v3 = 0 then some (.inr (v3, s)) else gd (0 ≤ ((s 125 v1.toNat) + v4) ∧ ((s 125 v1.toNat) + v4) < 4000) (gd (0 ≤ v2 ∧ v2 < 2002) (gd (0 ≤ ((s 125 v2.toNat) + v4) ∧ ((s 125 v2.toNat) + v4) < 4000) (gd (rg (s 123 ((s 125 v1.toNat) + v4).toNat)) (gd (rg (s 123 ((s 125 v2.toNat) + v4).toNat)) (if (s 123 ((s 125 v1.toNat) + v4).toNat) = (s 123 ((s 125 v2.toNat) + v4).toNat) then some (.inl (1, (v4 + 1), s)) else some (.inl (0, (v4 + 1), s)))))))))))
theorem tm_like_24b (w : ev_W) (d : Nat) (hd : 0 ≤ d) (v1 : Int) (v2 : Int) (v3 : Int) (v4 : Int) (s : iS) : Ew hT w d 350 24 [(0, .ref (tb_nK + 121)), (1, iv v1), (2, iv v2), (3, iv v3), (4, iv v4)] [] s (m_like_24C w d v1 v2) (m_like_24b v1 v2 v3 v4 s) := by
  unfold m_like_24b
  refine e_mv 26 em_350 (ce_at ce_350 15 rfl) rfl rfl ?_
  refine e_mv 27 em_350 (ce_at ce_350 16 rfl) rfl rfl ?_
  refine e_getr 30 em_350 (ce_at ce_350 17 rfl) tq_121 rfl rfl ?_
  refine e_mv 31 em_350 (ce_at ce_350 18 rfl) rfl rfl ?_
  refine e_gd fun g1 => ?_
  refine e_ild 32 em_350 (ce_at ce_350 19 rfl) tq_126 (by decide) g1 rfl ?_
  refine e_gd fun g2 => ?_
  refine e_gd fun g3 => ?_
  refine e_cmge 82 35 em_350 rfl rfl (ce_at ce_350 20 rfl) g2 g3 (fun h4 => ?_) (fun h4 => ?_)
  · refine e_pk [3] rfl rfl ?_
    exact e_out (fun r h => h)
  · refine e_mv 36 em_350 (ce_at ce_350 21 rfl) rfl rfl ?_
    refine e_gd fun g5 => ?_
    refine e_ifeq 82 39 em_350 rfl rfl (ce_at ce_350 22 rfl) g5 (fun h6 => ?_) (fun h6 => ?_)
    · refine e_pk [3] rfl rfl ?_
      exact e_out (fun r h => h)
    · refine e_mv 40 em_350 (ce_at ce_350 23 rfl) rfl rfl ?_
      refine e_getr 43 em_350 (ce_at ce_350 24 rfl) tq_121 rfl rfl ?_
      refine e_mv 44 em_350 (ce_at ce_350 25 rfl) rfl rfl ?_
      refine e_getr 47 em_350 (ce_at ce_350 26 rfl) tq_121 rfl rfl ?_
      refine e_mv 48 em_350 (ce_at ce_350 27 rfl) rfl rfl ?_
      refine e_ild 49 em_350 (ce_at ce_350 28 rfl) tq_125 (by decide) g1 rfl ?_
      refine e_mv 51 em_350 (ce_at ce_350 29 rfl) rfl rfl ?_
      refine e_iadd 52 em_350 rfl (ce_at ce_350 30 rfl) ?_
      refine e_gd fun g7 => ?_
      refine e_ild 53 em_350 (ce_at ce_350 31 rfl) tq_123 (by decide) g7 rfl ?_
      refine e_mv 54 em_350 (ce_at ce_350 32 rfl) rfl rfl ?_
      refine e_getr 57 em_350 (ce_at ce_350 33 rfl) tq_121 rfl rfl ?_
      refine e_mv 58 em_350 (ce_at ce_350 34 rfl) rfl rfl ?_
      refine e_getr 61 em_350 (ce_at ce_350 35 rfl) tq_121 rfl rfl ?_
      refine e_mv 62 em_350 (ce_at ce_350 36 rfl) rfl rfl ?_
      refine e_gd fun g8 => ?_
      refine e_ild 63 em_350 (ce_at ce_350 37 rfl) tq_125 (by decide) g8 rfl ?_
      refine e_mv 65 em_350 (ce_at ce_350 38 rfl) rfl rfl ?_
      refine e_iadd 66 em_350 rfl (ce_at ce_350 39 rfl) ?_
      refine e_gd fun g9 => ?_
      refine e_ild 67 em_350 (ce_at ce_350 40 rfl) tq_123 (by decide) g9 rfl ?_
      refine e_gd fun g10 => ?_
      refine e_gd fun g11 => ?_
      refine e_cmne 74 70 em_350 rfl rfl (ce_at ce_350 41 rfl) g10 g11 (fun h12 => ?_) (fun h12 => ?_)
      · refine e_op 75 em_350 (ce_at ce_350 44 rfl) rfl rfl ?_
        refine e_mv 76 em_350 (ce_at ce_350 45 rfl) rfl rfl ?_
        refine e_iinc 79 em_350 (ce_at ce_350 46 rfl) rfl (by decide) rfl ?_
        refine e_goto em_350 24 (ce_at ce_350 47 rfl) rfl ?_
        refine e_pk [0, 1, 2, 3, 4] rfl rfl ?_
        exact e_out (fun r h => h)
      · refine e_op 71 em_350 (ce_at ce_350 42 rfl) rfl rfl ?_
        refine e_goto em_350 75 (ce_at ce_350 43 rfl) rfl ?_
        refine e_mv 76 em_350 (ce_at ce_350 45 rfl) rfl rfl ?_
        refine e_iinc 79 em_350 (ce_at ce_350 46 rfl) rfl (by decide) rfl ?_
        refine e_goto em_350 24 (ce_at ce_350 47 rfl) rfl ?_
        refine e_pk [0, 1, 2, 3, 4] rfl rfl ?_
        exact e_out (fun r h => h)
theorem fm_like_24b (v1 : Int) (v2 : Int) (v3 : Int) (v4 : Int) (s : iS) : Fm (fun r : (Int × Int × iS) ⊕ (Int × iS) => r.elim (fun l => l.2.2) (fun e => e.2)) L_m_like G_m_like s (m_like_24b v1 v2 v3 v4 s) := fm_gd (fm_gd (fm_gd (fm_if (fm_some md_refl) (fm_gd (fm_if (fm_some md_refl) (fm_gd (fm_gd (fm_gd (fm_gd (fm_gd (fm_if (fm_some md_refl) (fm_some md_refl))))))))))))
noncomputable def m_like_24 (v1 : Int) (v2 : Int) (v3 : Int) (v4 : Int) (s : iS) : Option (Int × iS) := (lp (L := Int × Int × iS) (E := Int × iS) (fun l => m_like_24b v1 v2 (l.1) (l.2.1) (l.2.2)) (v3, v4, s)).bind (fun e => gd ((e.1) = 0 ∨ (e.1) = 1) (some (e.1, e.2)))
theorem tm_like_24 (w : ev_W) (d : Nat) (hd : 0 ≤ d) (v1 : Int) (v2 : Int) (v3 : Int) (v4 : Int) (s : iS) : Ew hT w d 350 24 [(0, .ref (tb_nK + 121)), (1, iv v1), (2, iv v2), (3, iv v3), (4, iv v4)] [] s (Ci hT) (m_like_24 v1 v2 v3 v4 s) := by
  unfold m_like_24
  refine e_lp (L := Int × Int × iS) (E := Int × iS) (LO := fun l => [(0, .ref (tb_nK + 121)), (1, iv v1), (2, iv v2), (3, iv (l.1)), (4, iv (l.2.1))]) (LS := fun l => l.2.2) (CE := fun e r => ev w d 350 82 [(3, iv (e.1))] [] (hT (e.2)) r) (fun l => tm_like_24b w d hd _ _ _ _ _) ?_ (v3, v4, s)
  intro e
  show Ew hT w d 350 82 [(3, iv (e.1))] [] e.2 (Ci hT) _
  refine e_mv 83 em_350 (ce_at ce_350 48 rfl) rfl rfl ?_
  refine e_gd fun g13 => ?_
  exact e_retz em_350 (ce_at ce_350 49 rfl) g13
theorem fm_like_24 (v1 : Int) (v2 : Int) (v3 : Int) (v4 : Int) (s : iS) : Fm Prod.snd L_m_like G_m_like s (m_like_24 v1 v2 v3 v4 s) := by
  unfold m_like_24
  refine fm_lp (A := Int × Int × iS) (E := Int × iS) (LS := fun l => l.2.2) (LE := fun e => e.2) ?_ ?_ (v3, v4, s)
  · exact fun l => fm_like_24b _ _ _ _ _
  · exact (fun e => fm_gd (fm_some md_refl))
noncomputable def m_like_20 (v1 : Int) (v2 : Int) (t0 : Int) (s : iS) : Option (Int × iS) := m_like_24 v1 v2 t0 0 s
theorem tm_like_20 (w : ev_W) (d : Nat) (hd : 0 ≤ d) (v1 : Int) (v2 : Int) (t0 : Int) (s : iS) : Ew hT w d 350 20 [(0, .ref (tb_nK + 121)), (1, iv v1), (2, iv v2)] [iv t0] s (Ci hT) (m_like_20 v1 v2 t0 s) := by
  unfold m_like_20
  refine e_mv 21 em_350 (ce_at ce_350 12 rfl) rfl rfl ?_
  refine e_op 22 em_350 (ce_at ce_350 13 rfl) rfl rfl ?_
  refine e_mv 24 em_350 (ce_at ce_350 14 rfl) rfl rfl ?_
  refine e_pk [0, 1, 2, 3, 4] rfl rfl ?_
  exact tm_like_24 w d hd _ _ _ _ _
theorem fm_like_20 (v1 : Int) (v2 : Int) (t0 : Int) (s : iS) : Fm Prod.snd L_m_like G_m_like s (m_like_20 v1 v2 t0 s) := fm_like_24 _ _ _ _ _
noncomputable def m_like (v1 : Int) (v2 : Int) (s : iS) : Option (Int × iS) := gd (0 ≤ v1 ∧ v1 < 2002) (gd (0 ≤ v2 ∧ v2 < 2002) (gd (rg (s 126 v1.toNat)) (gd (rg (s 126 v2.toNat)) (if (s 126 v1.toNat) = (s 126 v2.toNat) then m_like_20 v1 v2 1 s else m_like_20 v1 v2 0 s))))
theorem tm_like (w : ev_W) (d : Nat) (hd : 0 ≤ d) (v1 : Int) (v2 : Int) (s : iS) : Ew hT w d 350 0 [(0, .ref (tb_nK + 121)), (1, iv v1), (2, iv v2)] [] s (Ci hT) (m_like v1 v2 s) := by
  unfold m_like
  refine e_mv 1 em_350 (ce_at ce_350 0 rfl) rfl rfl ?_
  refine e_getr 4 em_350 (ce_at ce_350 1 rfl) tq_121 rfl rfl ?_
  refine e_mv 5 em_350 (ce_at ce_350 2 rfl) rfl rfl ?_
  refine e_gd fun g1 => ?_
  refine e_ild 6 em_350 (ce_at ce_350 3 rfl) tq_126 (by decide) g1 rfl ?_
  refine e_mv 7 em_350 (ce_at ce_350 4 rfl) rfl rfl ?_
  refine e_getr 10 em_350 (ce_at ce_350 5 rfl) tq_121 rfl rfl ?_
  refine e_mv 11 em_350 (ce_at ce_350 6 rfl) rfl rfl ?_
  refine e_gd fun g2 => ?_
  refine e_ild 12 em_350 (ce_at ce_350 7 rfl) tq_126 (by decide) g2 rfl ?_
  refine e_gd fun g3 => ?_
  refine e_gd fun g4 => ?_
  refine e_cmne 19 15 em_350 rfl rfl (ce_at ce_350 8 rfl) g3 g4 (fun h5 => ?_) (fun h5 => ?_)
  · refine e_op 20 em_350 (ce_at ce_350 11 rfl) rfl rfl ?_
    refine e_pk [0, 1, 2] rfl rfl ?_
    exact tm_like_20 w d hd _ _ _ _
  · refine e_op 16 em_350 (ce_at ce_350 9 rfl) rfl rfl ?_
    refine e_goto em_350 20 (ce_at ce_350 10 rfl) rfl ?_
    refine e_pk [0, 1, 2] rfl rfl ?_
    exact tm_like_20 w d hd _ _ _ _
theorem fm_like (v1 : Int) (v2 : Int) (s : iS) : Fm Prod.snd L_m_like G_m_like s (m_like v1 v2 s) := fm_gd (fm_gd (fm_gd (fm_gd (fm_if (fm_like_20 _ _ _ _) (fm_like_20 _ _ _ _)))))
/-! m_note -/
def L_m_note : List Nat := []
def G_m_note : List (Nat × Nat) := [(121, 69), (121, 70)]
noncomputable def m_note_42 (v1 : Int) (v2 : Int) (s : iS) : Option (Int × iS) := lt' (up s 121 69 v1) (fun s1 => gd (0 ≤ v2 ∧ v2 < 2002) (lt' (up s1 121 70 (s1 125 v2.toNat)) (fun s3 => some (0, s3))))
theorem tm_note_42 (w : ev_W) (d : Nat) (hd : 0 ≤ d) (v1 : Int) (v2 : Int) (s : iS) : Ew hT w d 351 42 [(0, .ref (tb_nK + 121)), (1, iv v1), (2, iv v2)] [] s (Cv hT) (m_note_42 v1 v2 s) := by
  unfold m_note_42
  refine e_mv 43 em_351 (ce_at ce_351 22 rfl) rfl rfl ?_
  refine e_mv 44 em_351 (ce_at ce_351 23 rfl) rfl rfl ?_
  refine e_put 47 em_351 (ce_at ce_351 24 rfl) tq_121 rfl rfl rfl (fun s1 => ?_)
  refine e_mv 48 em_351 (ce_at ce_351 25 rfl) rfl rfl ?_
  refine e_mv 49 em_351 (ce_at ce_351 26 rfl) rfl rfl ?_
  refine e_getr 52 em_351 (ce_at ce_351 27 rfl) tq_121 rfl rfl ?_
  refine e_mv 53 em_351 (ce_at ce_351 28 rfl) rfl rfl ?_
  refine e_gd fun g2 => ?_
  refine e_ild 54 em_351 (ce_at ce_351 29 rfl) tq_125 (by decide) g2 rfl ?_
  refine e_put 57 em_351 (ce_at ce_351 30 rfl) tq_121 rfl rfl rfl (fun s3 => ?_)
  exact e_retv em_351 (ce_at ce_351 31 rfl)
theorem fm_note_42 (v1 : Int) (v2 : Int) (s : iS) : Fm Prod.snd L_m_note G_m_note s (m_note_42 v1 v2 s) := fm_lt (md_upF (mem_F rfl)) (fun s1 => fm_gd (fm_lt (md_upF (mem_F rfl)) (fun s3 => fm_some md_refl)))
noncomputable def m_note (v1 : Int) (v2 : Int) (s : iS) : Option (Int × iS) := gd (rg (s 121 69)) (if (s 121 69) ≤ 0 then m_note_42 v1 v2 s else gd (0 ≤ v2 ∧ v2 < 2002) (gd (rg (s 121 70)) (gd (rg (s 125 v2.toNat)) (if (s 121 70) < (s 125 v2.toNat) then some (0, s) else if (s 121 70) = (s 125 v2.toNat) then gd (rg v1) (if v1 < (s 121 69) then m_note_42 v1 v2 s else some (0, s)) else m_note_42 v1 v2 s))))
theorem tm_note (w : ev_W) (d : Nat) (hd : 0 ≤ d) (v1 : Int) (v2 : Int) (s : iS) : Ew hT w d 351 0 [(0, .ref (tb_nK + 121)), (1, iv v1), (2, iv v2)] [] s (Cv hT) (m_note v1 v2 s) := by
  unfold m_note
  refine e_mv 1 em_351 (ce_at ce_351 0 rfl) rfl rfl ?_
  refine e_get 4 em_351 (ce_at ce_351 1 rfl) tq_121 rfl rfl ?_
  refine e_gd fun g1 => ?_
  refine e_ifle 42 7 em_351 rfl rfl (ce_at ce_351 2 rfl) g1 (fun h2 => ?_) (fun h2 => ?_)
  · refine e_pk [0, 1, 2] rfl rfl ?_
    exact tm_note_42 w d hd _ _ _
  · refine e_mv 8 em_351 (ce_at ce_351 3 rfl) rfl rfl ?_
    refine e_get 11 em_351 (ce_at ce_351 4 rfl) tq_121 rfl rfl ?_
    refine e_mv 12 em_351 (ce_at ce_351 5 rfl) rfl rfl ?_
    refine e_getr 15 em_351 (ce_at ce_351 6 rfl) tq_121 rfl rfl ?_
    refine e_mv 16 em_351 (ce_at ce_351 7 rfl) rfl rfl ?_
    refine e_gd fun g3 => ?_
    refine e_ild 17 em_351 (ce_at ce_351 8 rfl) tq_125 (by decide) g3 rfl ?_
    refine e_gd fun g4 => ?_
    refine e_gd fun g5 => ?_
    refine e_cmlt 41 20 em_351 rfl rfl (ce_at ce_351 9 rfl) g4 g5 (fun h6 => ?_) (fun h6 => ?_)
    · exact e_retv em_351 (ce_at ce_351 21 rfl)
    · refine e_mv 21 em_351 (ce_at ce_351 10 rfl) rfl rfl ?_
      refine e_get 24 em_351 (ce_at ce_351 11 rfl) tq_121 rfl rfl ?_
      refine e_mv 25 em_351 (ce_at ce_351 12 rfl) rfl rfl ?_
      refine e_getr 28 em_351 (ce_at ce_351 13 rfl) tq_121 rfl rfl ?_
      refine e_mv 29 em_351 (ce_at ce_351 14 rfl) rfl rfl ?_
      refine e_ild 30 em_351 (ce_at ce_351 15 rfl) tq_125 (by decide) g3 rfl ?_
      refine e_cmne 42 33 em_351 rfl rfl (ce_at ce_351 16 rfl) g4 g5 (fun h7 => ?_) (fun h7 => ?_)
      · refine e_pk [0, 1, 2] rfl rfl ?_
        exact tm_note_42 w d hd _ _ _
      · refine e_mv 34 em_351 (ce_at ce_351 17 rfl) rfl rfl ?_
        refine e_get 37 em_351 (ce_at ce_351 18 rfl) tq_121 rfl rfl ?_
        refine e_mv 38 em_351 (ce_at ce_351 19 rfl) rfl rfl ?_
        refine e_gd fun g8 => ?_
        refine e_cmgt 42 41 em_351 rfl rfl (ce_at ce_351 20 rfl) g1 g8 (fun h9 => ?_) (fun h9 => ?_)
        · refine e_pk [0, 1, 2] rfl rfl ?_
          exact tm_note_42 w d hd _ _ _
        · exact e_retv em_351 (ce_at ce_351 21 rfl)
theorem fm_note (v1 : Int) (v2 : Int) (s : iS) : Fm Prod.snd L_m_note G_m_note s (m_note v1 v2 s) := fm_gd (fm_if (fm_note_42 _ _ _) (fm_gd (fm_gd (fm_gd (fm_if (fm_some md_refl) (fm_if (fm_gd (fm_if (fm_note_42 _ _ _) (fm_some md_refl))) (fm_note_42 _ _ _)))))))
/-! m_classOf -/
def L_m_classOf : List Nat := []
def G_m_classOf : List (Nat × Nat) := []
def m_classOf_8C (w : ev_W) (d : Nat) (v1 : Int) : (Int × Int × iS) ⊕ (Int × iS) → am_E → Prop := fun q r => q.elim (fun l => ev w d 353 8 ((fun l => [(0, .ref (tb_nK + 121)), (1, iv v1), (2, iv (l.1)), (3, iv (l.2.1))]) l) [] (hT ((fun l => l.2.2) l)) r) (fun e => (fun e r => ev w d 353 50 [(2, iv (e.1))] [] (hT (e.2)) r) e r)
noncomputable def m_classOf_8b (v1 : Int) (v2 : Int) (v3 : Int) (s : iS) : Option ((Int × Int × iS) ⊕ (Int × iS)) := gd (rg v3) (gd (rg (s 121 14)) (if (s 121 14) ≤ v3 then some (.inr (v2, s)) else gd (rg v2) (if v2 = (-1) then gd (0 ≤ v3 ∧ v3 < 13) (bd (m_like (s 128 v3.toNat) v1 s) (fun r7 s7 => gd (rg r7) (if r7 = 0 then some (.inl ((-1), (v3 + 1), s7)) else some (.inl ((8 + v3), (v3 + 1), s7))))) else some (.inr (v2, s)))))
theorem tm_classOf_8b (w : ev_W) (d : Nat) (hd : 2 ≤ d) (v1 : Int) (v2 : Int) (v3 : Int) (s : iS) : Ew hT w d 353 8 [(0, .ref (tb_nK + 121)), (1, iv v1), (2, iv v2), (3, iv v3)] [] s (m_classOf_8C w d v1) (m_classOf_8b v1 v2 v3 s) := by
  unfold m_classOf_8b
  refine e_mv 9 em_353 (ce_at ce_353 6 rfl) rfl rfl ?_
  refine e_mv 10 em_353 (ce_at ce_353 7 rfl) rfl rfl ?_
  refine e_get 13 em_353 (ce_at ce_353 8 rfl) tq_121 rfl rfl ?_
  refine e_gd fun g1 => ?_
  refine e_gd fun g2 => ?_
  refine e_cmge 50 16 em_353 rfl rfl (ce_at ce_353 9 rfl) g1 g2 (fun h3 => ?_) (fun h3 => ?_)
  · refine e_pk [2] rfl rfl ?_
    exact e_out (fun r h => h)
  · refine e_mv 17 em_353 (ce_at ce_353 10 rfl) rfl rfl ?_
    refine e_op 18 em_353 (ce_at ce_353 11 rfl) rfl rfl ?_
    refine e_gd fun g4 => ?_
    refine e_cmne 50 21 em_353 rfl rfl (ce_at ce_353 12 rfl) g4 (by decide) (fun h5 => ?_) (fun h5 => ?_)
    · refine e_pk [2] rfl rfl ?_
      exact e_out (fun r h => h)
    · refine e_mv 22 em_353 (ce_at ce_353 13 rfl) rfl rfl ?_
      refine e_mv 23 em_353 (ce_at ce_353 14 rfl) rfl rfl ?_
      refine e_getr 26 em_353 (ce_at ce_353 15 rfl) tq_121 rfl rfl ?_
      refine e_mv 27 em_353 (ce_at ce_353 16 rfl) rfl rfl ?_
      refine e_gd fun g6 => ?_
      refine e_ild 28 em_353 (ce_at ce_353 17 rfl) tq_128 (by decide) g6 rfl ?_
      refine e_mv 29 em_353 (ce_at ce_353 18 rfl) rfl rfl ?_
      refine e_ivi 32 em_353 (ce_at ce_353 19 rfl) (by omega) (iv_v2 (by decide) tq_121 rfl) em_350 (Nat.le_of_ble_eq_true rfl) rfl (tm_like w (d - 1) (by omega) _ _ _) (fun r7 s7 => ?_)
      refine e_gd fun g8 => ?_
      refine e_ifeq 42 35 em_353 rfl rfl (ce_at ce_353 20 rfl) g8 (fun h9 => ?_) (fun h9 => ?_)
      · refine e_op 43 em_353 (ce_at ce_353 25 rfl) rfl rfl ?_
        refine e_mv 44 em_353 (ce_at ce_353 26 rfl) rfl rfl ?_
        refine e_iinc 47 em_353 (ce_at ce_353 27 rfl) rfl (by decide) rfl ?_
        refine e_goto em_353 8 (ce_at ce_353 28 rfl) rfl ?_
        refine e_pk [0, 1, 2, 3] rfl rfl ?_
        exact e_out (fun r h => h)
      · refine e_bip 37 em_353 (ce_at ce_353 21 rfl) (by decide) rfl ?_
        refine e_mv 38 em_353 (ce_at ce_353 22 rfl) rfl rfl ?_
        refine e_iadd 39 em_353 rfl (ce_at ce_353 23 rfl) ?_
        refine e_goto em_353 43 (ce_at ce_353 24 rfl) rfl ?_
        refine e_mv 44 em_353 (ce_at ce_353 26 rfl) rfl rfl ?_
        refine e_iinc 47 em_353 (ce_at ce_353 27 rfl) rfl (by decide) rfl ?_
        refine e_goto em_353 8 (ce_at ce_353 28 rfl) rfl ?_
        refine e_pk [0, 1, 2, 3] rfl rfl ?_
        exact e_out (fun r h => h)
theorem fm_classOf_8b (v1 : Int) (v2 : Int) (v3 : Int) (s : iS) : Fm (fun r : (Int × Int × iS) ⊕ (Int × iS) => r.elim (fun l => l.2.2) (fun e => e.2)) L_m_classOf G_m_classOf s (m_classOf_8b v1 v2 v3 s) := fm_gd (fm_gd (fm_if (fm_some md_refl) (fm_gd (fm_if (fm_gd (fm_bd (fm_sub (fm_like _ _ _) (mem_sub_L rfl) (mem_sub_F rfl)) (fun r7 s7 => fm_gd (fm_if (fm_some md_refl) (fm_some md_refl))))) (fm_some md_refl)))))
noncomputable def m_classOf_8 (v1 : Int) (v2 : Int) (v3 : Int) (s : iS) : Option (Int × iS) := (lp (L := Int × Int × iS) (E := Int × iS) (fun l => m_classOf_8b v1 (l.1) (l.2.1) (l.2.2)) (v2, v3, s)).bind (fun e => some (e.1, e.2))
theorem tm_classOf_8 (w : ev_W) (d : Nat) (hd : 2 ≤ d) (v1 : Int) (v2 : Int) (v3 : Int) (s : iS) : Ew hT w d 353 8 [(0, .ref (tb_nK + 121)), (1, iv v1), (2, iv v2), (3, iv v3)] [] s (Ci hT) (m_classOf_8 v1 v2 v3 s) := by
  unfold m_classOf_8
  refine e_lp (L := Int × Int × iS) (E := Int × iS) (LO := fun l => [(0, .ref (tb_nK + 121)), (1, iv v1), (2, iv (l.1)), (3, iv (l.2.1))]) (LS := fun l => l.2.2) (CE := fun e r => ev w d 353 50 [(2, iv (e.1))] [] (hT (e.2)) r) (fun l => tm_classOf_8b w d hd _ _ _ _) ?_ (v2, v3, s)
  intro e
  show Ew hT w d 353 50 [(2, iv (e.1))] [] e.2 (Ci hT) _
  refine e_mv 51 em_353 (ce_at ce_353 29 rfl) rfl rfl ?_
  exact e_reti em_353 (ce_at ce_353 30 rfl)
theorem fm_classOf_8 (v1 : Int) (v2 : Int) (v3 : Int) (s : iS) : Fm Prod.snd L_m_classOf G_m_classOf s (m_classOf_8 v1 v2 v3 s) := by
  unfold m_classOf_8
  refine fm_lp (A := Int × Int × iS) (E := Int × iS) (LS := fun l => l.2.2) (LE := fun e => e.2) ?_ ?_ (v2, v3, s)
  · exact fun l => fm_classOf_8b _ _ _ _
  · exact (fun e => fm_some md_refl)
noncomputable def m_classOf (v1 : Int) (s : iS) : Option (Int × iS) := bd (m_systemClass v1 s) (fun r1 s1 => m_classOf_8 v1 r1 0 s1)
theorem tm_classOf (w : ev_W) (d : Nat) (hd : 2 ≤ d) (v1 : Int) (s : iS) : Ew hT w d 353 0 [(0, .ref (tb_nK + 121)), (1, iv v1)] [] s (Ci hT) (m_classOf v1 s) := by
  unfold m_classOf
  refine e_mv 1 em_353 (ce_at ce_353 0 rfl) rfl rfl ?_
  refine e_mv 2 em_353 (ce_at ce_353 1 rfl) rfl rfl ?_
  refine e_ivi 5 em_353 (ce_at ce_353 2 rfl) (by omega) (iv_v1 (by decide) tq_121 rfl) em_348 (Nat.le_of_ble_eq_true rfl) rfl (tm_systemClass w (d - 1) (by omega) _ _) (fun r1 s1 => ?_)
  refine e_mv 6 em_353 (ce_at ce_353 3 rfl) rfl rfl ?_
  refine e_op 7 em_353 (ce_at ce_353 4 rfl) rfl rfl ?_
  refine e_mv 8 em_353 (ce_at ce_353 5 rfl) rfl rfl ?_
  refine e_pk [0, 1, 2, 3] rfl rfl ?_
  exact tm_classOf_8 w d hd _ _ _ _
theorem fm_classOf (v1 : Int) (s : iS) : Fm Prod.snd L_m_classOf G_m_classOf s (m_classOf v1 s) := fm_bd (fm_sub (fm_systemClass _ _) (mem_sub_L rfl) (mem_sub_F rfl)) (fun r1 s1 => fm_classOf_8 _ _ _ _)
/-! m_checkType -/
def L_m_checkType : List Nat := []
def G_m_checkType : List (Nat × Nat) := [(121, 69), (121, 70)]
noncomputable def m_checkType (v1 : Int) (s : iS) : Option (Int × iS) := gd (rg v1) (if v1 = (-1) then some (0, s) else gd (0 ≤ v1 ∧ v1 < 2002) (gd (rg (s 124 v1.toNat)) (if (s 124 v1.toNat) = 1 then bd (m_classOf v1 s) (fun r6 s6 => gd (rg r6) (if r6 = (-1) then bd (m_note 4 v1 s6) (fun _ s9 => some (0, s9)) else some (0, s6))) else some (0, s))))
theorem tm_checkType (w : ev_W) (d : Nat) (hd : 3 ≤ d) (v1 : Int) (s : iS) : Ew hT w d 352 0 [(0, .ref (tb_nK + 121)), (1, iv v1)] [] s (Cv hT) (m_checkType v1 s) := by
  unfold m_checkType
  refine e_mv 1 em_352 (ce_at ce_352 0 rfl) rfl rfl ?_
  refine e_op 2 em_352 (ce_at ce_352 1 rfl) rfl rfl ?_
  refine e_gd fun g1 => ?_
  refine e_cmeq 30 5 em_352 rfl rfl (ce_at ce_352 2 rfl) g1 (by decide) (fun h2 => ?_) (fun h2 => ?_)
  · exact e_retv em_352 (ce_at ce_352 18 rfl)
  · refine e_mv 6 em_352 (ce_at ce_352 3 rfl) rfl rfl ?_
    refine e_getr 9 em_352 (ce_at ce_352 4 rfl) tq_121 rfl rfl ?_
    refine e_mv 10 em_352 (ce_at ce_352 5 rfl) rfl rfl ?_
    refine e_gd fun g3 => ?_
    refine e_ild 11 em_352 (ce_at ce_352 6 rfl) tq_124 (by decide) g3 rfl ?_
    refine e_op 12 em_352 (ce_at ce_352 7 rfl) rfl rfl ?_
    refine e_gd fun g4 => ?_
    refine e_cmne 30 15 em_352 rfl rfl (ce_at ce_352 8 rfl) g4 (by decide) (fun h5 => ?_) (fun h5 => ?_)
    · exact e_retv em_352 (ce_at ce_352 18 rfl)
    · refine e_mv 16 em_352 (ce_at ce_352 9 rfl) rfl rfl ?_
      refine e_mv 17 em_352 (ce_at ce_352 10 rfl) rfl rfl ?_
      refine e_ivi 20 em_352 (ce_at ce_352 11 rfl) (by omega) (iv_v1 (by decide) tq_121 rfl) em_353 (Nat.le_of_ble_eq_true rfl) rfl (tm_classOf w (d - 1) (by omega) _ _) (fun r6 s6 => ?_)
      refine e_op 21 em_352 (ce_at ce_352 12 rfl) rfl rfl ?_
      refine e_gd fun g7 => ?_
      refine e_cmne 30 24 em_352 rfl rfl (ce_at ce_352 13 rfl) g7 (by decide) (fun h8 => ?_) (fun h8 => ?_)
      · exact e_retv em_352 (ce_at ce_352 18 rfl)
      · refine e_mv 25 em_352 (ce_at ce_352 14 rfl) rfl rfl ?_
        refine e_op 26 em_352 (ce_at ce_352 15 rfl) rfl rfl ?_
        refine e_mv 27 em_352 (ce_at ce_352 16 rfl) rfl rfl ?_
        refine e_ivv 30 em_352 (ce_at ce_352 17 rfl) (by omega) (iv_v2 (by decide) tq_121 rfl) em_351 (Nat.le_of_ble_eq_true rfl) rfl (tm_note w (d - 1) (by omega) _ _ _) (fun r9 s9 => ?_)
        exact e_retv em_352 (ce_at ce_352 18 rfl)
theorem fm_checkType (v1 : Int) (s : iS) : Fm Prod.snd L_m_checkType G_m_checkType s (m_checkType v1 s) := fm_gd (fm_if (fm_some md_refl) (fm_gd (fm_gd (fm_if (fm_bd (fm_sub (fm_classOf _ _) (mem_sub_L rfl) (mem_sub_F rfl)) (fun r6 s6 => fm_gd (fm_if (fm_bd (fm_sub (fm_note _ _ _) (mem_sub_L rfl) (mem_sub_F rfl)) (fun r9 s9 => fm_some md_refl)) (fm_some md_refl)))) (fm_some md_refl)))))
/-! m_checkNames -/
def L_m_checkNames : List Nat := [169]
def G_m_checkNames : List (Nat × Nat) := [(121, 69), (121, 70)]
def m_checkNames_32C (w : ev_W) (d : Nat) (v1 : Int) : (Int × Int × iS) ⊕ (Int × iS) → am_E → Prop := fun q r => q.elim (fun l => ev w d 347 32 ((fun l => [(0, .ref (tb_nK + 121)), (1, iv v1), (2, iv (l.1)), (3, iv (l.2.1))]) l) [] (hT ((fun l => l.2.2) l)) r) (fun e => (fun e r => ev w d 347 72 [(0, .ref (tb_nK + 121)), (1, iv v1), (2, iv (e.1))] [] (hT (e.2)) r) e r)
noncomputable def m_checkNames_32b (v1 : Int) (v2 : Int) (v3 : Int) (s : iS) : Option ((Int × Int × iS) ⊕ (Int × iS)) := gd (rg v3) (gd (rg v1) (if v1 ≤ v3 then some (.inr (v2, s)) else gd (rg v2) (if v2 = 0 then gd (0 ≤ v3 ∧ v3 < 13) (gd (0 ≤ v1 ∧ v1 < 13) (bd (m_like (s 128 v3.toNat) (s 128 v1.toNat) s) (fun r8 s8 => gd (rg r8) (if r8 = 0 then some (.inl (0, (v3 + 1), s8)) else some (.inl (1, (v3 + 1), s8)))))) else some (.inl (1, (v3 + 1), s)))))
theorem tm_checkNames_32b (w : ev_W) (d : Nat) (hd : 4 ≤ d) (v1 : Int) (v2 : Int) (v3 : Int) (s : iS) : Ew hT w d 347 32 [(0, .ref (tb_nK + 121)), (1, iv v1), (2, iv v2), (3, iv v3)] [] s (m_checkNames_32C w d v1) (m_checkNames_32b v1 v2 v3 s) := by
  unfold m_checkNames_32b
  refine e_mv 33 em_347 (ce_at ce_347 20 rfl) rfl rfl ?_
  refine e_mv 34 em_347 (ce_at ce_347 21 rfl) rfl rfl ?_
  refine e_gd fun g1 => ?_
  refine e_gd fun g2 => ?_
  refine e_cmge 72 37 em_347 rfl rfl (ce_at ce_347 22 rfl) g1 g2 (fun h3 => ?_) (fun h3 => ?_)
  · refine e_pk [0, 1, 2] rfl rfl ?_
    exact e_out (fun r h => h)
  · refine e_mv 38 em_347 (ce_at ce_347 23 rfl) rfl rfl ?_
    refine e_gd fun g4 => ?_
    refine e_ifne 60 41 em_347 rfl rfl (ce_at ce_347 24 rfl) g4 (fun h5 => ?_) (fun h5 => ?_)
    · refine e_op 61 em_347 (ce_at ce_347 36 rfl) rfl rfl ?_
      refine e_goto em_347 65 (ce_at ce_347 37 rfl) rfl ?_
      refine e_mv 66 em_347 (ce_at ce_347 39 rfl) rfl rfl ?_
      refine e_iinc 69 em_347 (ce_at ce_347 40 rfl) rfl (by decide) rfl ?_
      refine e_goto em_347 32 (ce_at ce_347 41 rfl) rfl ?_
      refine e_pk [0, 1, 2, 3] rfl rfl ?_
      exact e_out (fun r h => h)
    · refine e_mv 42 em_347 (ce_at ce_347 25 rfl) rfl rfl ?_
      refine e_mv 43 em_347 (ce_at ce_347 26 rfl) rfl rfl ?_
      refine e_getr 46 em_347 (ce_at ce_347 27 rfl) tq_121 rfl rfl ?_
      refine e_mv 47 em_347 (ce_at ce_347 28 rfl) rfl rfl ?_
      refine e_gd fun g6 => ?_
      refine e_ild 48 em_347 (ce_at ce_347 29 rfl) tq_128 (by decide) g6 rfl ?_
      refine e_mv 49 em_347 (ce_at ce_347 30 rfl) rfl rfl ?_
      refine e_getr 52 em_347 (ce_at ce_347 31 rfl) tq_121 rfl rfl ?_
      refine e_mv 53 em_347 (ce_at ce_347 32 rfl) rfl rfl ?_
      refine e_gd fun g7 => ?_
      refine e_ild 54 em_347 (ce_at ce_347 33 rfl) tq_128 (by decide) g7 rfl ?_
      refine e_ivi 57 em_347 (ce_at ce_347 34 rfl) (by omega) (iv_v2 (by decide) tq_121 rfl) em_350 (Nat.le_of_ble_eq_true rfl) rfl (tm_like w (d - 1) (by omega) _ _ _) (fun r8 s8 => ?_)
      refine e_gd fun g9 => ?_
      refine e_ifeq 64 60 em_347 rfl rfl (ce_at ce_347 35 rfl) g9 (fun h10 => ?_) (fun h10 => ?_)
      · refine e_op 65 em_347 (ce_at ce_347 38 rfl) rfl rfl ?_
        refine e_mv 66 em_347 (ce_at ce_347 39 rfl) rfl rfl ?_
        refine e_iinc 69 em_347 (ce_at ce_347 40 rfl) rfl (by decide) rfl ?_
        refine e_goto em_347 32 (ce_at ce_347 41 rfl) rfl ?_
        refine e_pk [0, 1, 2, 3] rfl rfl ?_
        exact e_out (fun r h => h)
      · refine e_op 61 em_347 (ce_at ce_347 36 rfl) rfl rfl ?_
        refine e_goto em_347 65 (ce_at ce_347 37 rfl) rfl ?_
        refine e_mv 66 em_347 (ce_at ce_347 39 rfl) rfl rfl ?_
        refine e_iinc 69 em_347 (ce_at ce_347 40 rfl) rfl (by decide) rfl ?_
        refine e_goto em_347 32 (ce_at ce_347 41 rfl) rfl ?_
        refine e_pk [0, 1, 2, 3] rfl rfl ?_
        exact e_out (fun r h => h)
theorem fm_checkNames_32b (v1 : Int) (v2 : Int) (v3 : Int) (s : iS) : Fm (fun r : (Int × Int × iS) ⊕ (Int × iS) => r.elim (fun l => l.2.2) (fun e => e.2)) L_m_checkNames G_m_checkNames s (m_checkNames_32b v1 v2 v3 s) := fm_gd (fm_gd (fm_if (fm_some md_refl) (fm_gd (fm_if (fm_gd (fm_gd (fm_bd (fm_sub (fm_like _ _ _) (mem_sub_L rfl) (mem_sub_F rfl)) (fun r8 s8 => fm_gd (fm_if (fm_some md_refl) (fm_some md_refl)))))) (fm_some md_refl)))))
def m_checkNames_2C (w : ev_W) (d : Nat) : (Int × iS) ⊕ (iS) → am_E → Prop := fun q r => q.elim (fun l => ev w d 347 2 ((fun l => [(0, .ref (tb_nK + 121)), (1, iv (l.1))]) l) [] (hT ((fun l => l.2) l)) r) (fun e => (fun e r => ev w d 347 93 [(0, .ref (tb_nK + 121))] [] (hT (e)) r) e r)
noncomputable def m_checkNames_72 (v1 : Int) (v2 : Int) (s : iS) : Option ((Int × iS) ⊕ (iS)) := gd (rg v2) (if v2 = 0 then some (.inl ((v1 + 1), s)) else gd (0 ≤ v1 ∧ v1 < 13) (bd (m_note 3 (s 128 v1.toNat) s) (fun _ s4 => some (.inl ((v1 + 1), s4)))))
theorem tm_checkNames_72 (w : ev_W) (d : Nat) (hd : 4 ≤ d) (v1 : Int) (v2 : Int) (s : iS) : Ew hT w d 347 72 [(0, .ref (tb_nK + 121)), (1, iv v1), (2, iv v2)] [] s (m_checkNames_2C w d) (m_checkNames_72 v1 v2 s) := by
  unfold m_checkNames_72
  refine e_mv 73 em_347 (ce_at ce_347 42 rfl) rfl rfl ?_
  refine e_gd fun g1 => ?_
  refine e_ifeq 87 76 em_347 rfl rfl (ce_at ce_347 43 rfl) g1 (fun h2 => ?_) (fun h2 => ?_)
  · refine e_iinc 90 em_347 (ce_at ce_347 51 rfl) rfl (by decide) rfl ?_
    refine e_goto em_347 2 (ce_at ce_347 52 rfl) rfl ?_
    refine e_pk [0, 1] rfl rfl ?_
    exact e_out (fun r h => h)
  · refine e_mv 77 em_347 (ce_at ce_347 44 rfl) rfl rfl ?_
    refine e_op 78 em_347 (ce_at ce_347 45 rfl) rfl rfl ?_
    refine e_mv 79 em_347 (ce_at ce_347 46 rfl) rfl rfl ?_
    refine e_getr 82 em_347 (ce_at ce_347 47 rfl) tq_121 rfl rfl ?_
    refine e_mv 83 em_347 (ce_at ce_347 48 rfl) rfl rfl ?_
    refine e_gd fun g3 => ?_
    refine e_ild 84 em_347 (ce_at ce_347 49 rfl) tq_128 (by decide) g3 rfl ?_
    refine e_ivv 87 em_347 (ce_at ce_347 50 rfl) (by omega) (iv_v2 (by decide) tq_121 rfl) em_351 (Nat.le_of_ble_eq_true rfl) rfl (tm_note w (d - 1) (by omega) _ _ _) (fun r4 s4 => ?_)
    refine e_iinc 90 em_347 (ce_at ce_347 51 rfl) rfl (by decide) rfl ?_
    refine e_goto em_347 2 (ce_at ce_347 52 rfl) rfl ?_
    refine e_pk [0, 1] rfl rfl ?_
    exact e_out (fun r h => h)
theorem fm_checkNames_72 (v1 : Int) (v2 : Int) (s : iS) : Fm (fun r : (Int × iS) ⊕ (iS) => r.elim (fun l => l.2) (fun e => e)) L_m_checkNames G_m_checkNames s (m_checkNames_72 v1 v2 s) := fm_gd (fm_if (fm_some md_refl) (fm_gd (fm_bd (fm_sub (fm_note _ _ _) (mem_sub_L rfl) (mem_sub_F rfl)) (fun r4 s4 => fm_some md_refl))))
noncomputable def m_checkNames_32 (v1 : Int) (v2 : Int) (v3 : Int) (s : iS) : Option ((Int × iS) ⊕ (iS)) := (lp (L := Int × Int × iS) (E := Int × iS) (fun l => m_checkNames_32b v1 (l.1) (l.2.1) (l.2.2)) (v2, v3, s)).bind (fun e => m_checkNames_72 v1 (e.1) (e.2))
theorem tm_checkNames_32 (w : ev_W) (d : Nat) (hd : 4 ≤ d) (v1 : Int) (v2 : Int) (v3 : Int) (s : iS) : Ew hT w d 347 32 [(0, .ref (tb_nK + 121)), (1, iv v1), (2, iv v2), (3, iv v3)] [] s (m_checkNames_2C w d) (m_checkNames_32 v1 v2 v3 s) := by
  unfold m_checkNames_32
  refine e_lp (L := Int × Int × iS) (E := Int × iS) (LO := fun l => [(0, .ref (tb_nK + 121)), (1, iv v1), (2, iv (l.1)), (3, iv (l.2.1))]) (LS := fun l => l.2.2) (CE := fun e r => ev w d 347 72 [(0, .ref (tb_nK + 121)), (1, iv v1), (2, iv (e.1))] [] (hT (e.2)) r) (fun l => tm_checkNames_32b w d hd _ _ _ _) ?_ (v2, v3, s)
  intro e
  show Ew hT w d 347 72 [(0, .ref (tb_nK + 121)), (1, iv v1), (2, iv (e.1))] [] e.2 (m_checkNames_2C w d) _
  refine e_pk [0, 1, 2] rfl rfl ?_
  exact tm_checkNames_72 w d hd _ _ _
theorem fm_checkNames_32 (v1 : Int) (v2 : Int) (v3 : Int) (s : iS) : Fm (fun r : (Int × iS) ⊕ (iS) => r.elim (fun l => l.2) (fun e => e)) L_m_checkNames G_m_checkNames s (m_checkNames_32 v1 v2 v3 s) := by
  unfold m_checkNames_32
  refine fm_lp (A := Int × Int × iS) (E := Int × iS) (LS := fun l => l.2.2) (LE := fun e => e.2) ?_ ?_ (v2, v3, s)
  · exact fun l => fm_checkNames_32b _ _ _ _
  · exact (fun e => fm_checkNames_72 _ _ _)
noncomputable def m_checkNames_29 (v1 : Int) (t0 : Int) (s : iS) : Option ((Int × iS) ⊕ (iS)) := m_checkNames_32 v1 t0 0 s
theorem tm_checkNames_29 (w : ev_W) (d : Nat) (hd : 4 ≤ d) (v1 : Int) (t0 : Int) (s : iS) : Ew hT w d 347 29 [(0, .ref (tb_nK + 121)), (1, iv v1)] [iv t0] s (m_checkNames_2C w d) (m_checkNames_29 v1 t0 s) := by
  unfold m_checkNames_29
  refine e_mv 30 em_347 (ce_at ce_347 17 rfl) rfl rfl ?_
  refine e_op 31 em_347 (ce_at ce_347 18 rfl) rfl rfl ?_
  refine e_mv 32 em_347 (ce_at ce_347 19 rfl) rfl rfl ?_
  refine e_pk [0, 1, 2, 3] rfl rfl ?_
  exact tm_checkNames_32 w d hd _ _ _ _
theorem fm_checkNames_29 (v1 : Int) (t0 : Int) (s : iS) : Fm (fun r : (Int × iS) ⊕ (iS) => r.elim (fun l => l.2) (fun e => e)) L_m_checkNames G_m_checkNames s (m_checkNames_29 v1 t0 s) := fm_checkNames_32 _ _ _ _
noncomputable def m_checkNames_2b (v1 : Int) (s : iS) : Option ((Int × iS) ⊕ (iS)) := gd (rg v1) (gd (rg (s 121 14)) (if (s 121 14) ≤ v1 then some (.inr s) else gd (0 ≤ v1 ∧ v1 < 13) (bd (m_systemClass (s 128 v1.toNat) s) (fun r5 s5 => gd (rg r5) (if r5 = (-1) then m_checkNames_29 v1 0 s5 else m_checkNames_29 v1 1 s5)))))
theorem tm_checkNames_2b (w : ev_W) (d : Nat) (hd : 4 ≤ d) (v1 : Int) (s : iS) : Ew hT w d 347 2 [(0, .ref (tb_nK + 121)), (1, iv v1)] [] s (m_checkNames_2C w d) (m_checkNames_2b v1 s) := by
  unfold m_checkNames_2b
  refine e_mv 3 em_347 (ce_at ce_347 2 rfl) rfl rfl ?_
  refine e_mv 4 em_347 (ce_at ce_347 3 rfl) rfl rfl ?_
  refine e_get 7 em_347 (ce_at ce_347 4 rfl) tq_121 rfl rfl ?_
  refine e_gd fun g1 => ?_
  refine e_gd fun g2 => ?_
  refine e_cmge 93 10 em_347 rfl rfl (ce_at ce_347 5 rfl) g1 g2 (fun h3 => ?_) (fun h3 => ?_)
  · refine e_pk [0] rfl rfl ?_
    exact e_out (fun r h => h)
  · refine e_mv 11 em_347 (ce_at ce_347 6 rfl) rfl rfl ?_
    refine e_mv 12 em_347 (ce_at ce_347 7 rfl) rfl rfl ?_
    refine e_getr 15 em_347 (ce_at ce_347 8 rfl) tq_121 rfl rfl ?_
    refine e_mv 16 em_347 (ce_at ce_347 9 rfl) rfl rfl ?_
    refine e_gd fun g4 => ?_
    refine e_ild 17 em_347 (ce_at ce_347 10 rfl) tq_128 (by decide) g4 rfl ?_
    refine e_ivi 20 em_347 (ce_at ce_347 11 rfl) (by omega) (iv_v1 (by decide) tq_121 rfl) em_348 (Nat.le_of_ble_eq_true rfl) rfl (tm_systemClass w (d - 1) (by omega) _ _) (fun r5 s5 => ?_)
    refine e_op 21 em_347 (ce_at ce_347 12 rfl) rfl rfl ?_
    refine e_gd fun g6 => ?_
    refine e_cmeq 28 24 em_347 rfl rfl (ce_at ce_347 13 rfl) g6 (by decide) (fun h7 => ?_) (fun h7 => ?_)
    · refine e_op 29 em_347 (ce_at ce_347 16 rfl) rfl rfl ?_
      refine e_pk [0, 1] rfl rfl ?_
      exact tm_checkNames_29 w d hd _ _ _
    · refine e_op 25 em_347 (ce_at ce_347 14 rfl) rfl rfl ?_
      refine e_goto em_347 29 (ce_at ce_347 15 rfl) rfl ?_
      refine e_pk [0, 1] rfl rfl ?_
      exact tm_checkNames_29 w d hd _ _ _
theorem fm_checkNames_2b (v1 : Int) (s : iS) : Fm (fun r : (Int × iS) ⊕ (iS) => r.elim (fun l => l.2) (fun e => e)) L_m_checkNames G_m_checkNames s (m_checkNames_2b v1 s) := fm_gd (fm_gd (fm_if (fm_some md_refl) (fm_gd (fm_bd (fm_sub (fm_systemClass _ _) (mem_sub_L rfl) (mem_sub_F rfl)) (fun r5 s5 => fm_gd (fm_if (fm_checkNames_29 _ _ _) (fm_checkNames_29 _ _ _)))))))
def m_checkNames_112C (w : ev_W) (d : Nat) (v1 : Int) : (Int × Int × Int × iS) ⊕ (Int × Int × iS) → am_E → Prop := fun q r => q.elim (fun l => ev w d 347 112 ((fun l => [(0, .ref (tb_nK + 121)), (1, iv v1), (2, iv (l.1)), (3, iv (l.2.1)), (4, iv (l.2.2.1))]) l) [] (hT ((fun l => l.2.2.2) l)) r) (fun e => (fun e r => ev w d 347 175 [(0, .ref (tb_nK + 121)), (1, iv v1), (2, iv (e.1)), (3, iv (e.2.1))] [] (hT (e.2.2)) r) e r)
noncomputable def m_checkNames_160 (v1 : Int) (v4 : Int) (s : iS) : Option ((Int × Int × Int × iS) ⊕ (Int × Int × iS)) := some (.inl (1, v4, (v4 + (-1)), s))
theorem tm_checkNames_160 (w : ev_W) (d : Nat) (hd : 4 ≤ d) (v1 : Int) (v4 : Int) (s : iS) : Ew hT w d 347 160 [(0, .ref (tb_nK + 121)), (1, iv v1), (4, iv v4)] [] s (m_checkNames_112C w d v1) (m_checkNames_160 v1 v4 s) := by
  unfold m_checkNames_160
  refine e_op 161 em_347 (ce_at ce_347 92 rfl) rfl rfl ?_
  refine e_goto em_347 165 (ce_at ce_347 93 rfl) rfl ?_
  refine e_mv 166 em_347 (ce_at ce_347 95 rfl) rfl rfl ?_
  refine e_mv 168 em_347 (ce_at ce_347 96 rfl) rfl rfl ?_
  refine e_mv 169 em_347 (ce_at ce_347 97 rfl) rfl rfl ?_
  refine e_iinc 172 em_347 (ce_at ce_347 98 rfl) rfl (by decide) rfl ?_
  refine e_goto em_347 112 (ce_at ce_347 99 rfl) rfl ?_
  refine e_pk [0, 1, 2, 3, 4] rfl rfl ?_
  exact e_out (fun r h => h)
theorem fm_checkNames_160 (v1 : Int) (v4 : Int) (s : iS) : Fm (fun r : (Int × Int × Int × iS) ⊕ (Int × Int × iS) => r.elim (fun l => l.2.2.2) (fun e => e.2.2)) L_m_checkNames G_m_checkNames s (m_checkNames_160 v1 v4 s) := fm_some md_refl
noncomputable def m_checkNames_112b (v1 : Int) (v2 : Int) (v3 : Int) (v4 : Int) (s : iS) : Option ((Int × Int × Int × iS) ⊕ (Int × Int × iS)) := gd (rg v4) (if v4 < 0 then some (.inr (v2, v3, s)) else gd (0 ≤ v4 ∧ v4 < 61) (gd (0 ≤ v1 ∧ v1 < 61) (gd (rg (s 130 v4.toNat)) (gd (rg (s 130 v1.toNat)) (if (s 130 v4.toNat) = (s 130 v1.toNat) then gd (rg v2) (if v2 = 0 then bd (m_like (s 132 v4.toNat) (s 132 v1.toNat) s) (fun r10 s10 => gd (rg r10) (if r10 = 0 then some (.inl (0, v4, (v4 + (-1)), s10)) else m_checkNames_160 v1 v4 s10)) else m_checkNames_160 v1 v4 s) else some (.inl (v2, v3, (v4 + (-1)), s)))))))
theorem tm_checkNames_112b (w : ev_W) (d : Nat) (hd : 4 ≤ d) (v1 : Int) (v2 : Int) (v3 : Int) (v4 : Int) (s : iS) : Ew hT w d 347 112 [(0, .ref (tb_nK + 121)), (1, iv v1), (2, iv v2), (3, iv v3), (4, iv v4)] [] s (m_checkNames_112C w d v1) (m_checkNames_112b v1 v2 v3 v4 s) := by
  unfold m_checkNames_112b
  refine e_mv 114 em_347 (ce_at ce_347 67 rfl) rfl rfl ?_
  refine e_gd fun g1 => ?_
  refine e_iflt 175 117 em_347 rfl rfl (ce_at ce_347 68 rfl) g1 (fun h2 => ?_) (fun h2 => ?_)
  · refine e_pk [0, 1, 2, 3] rfl rfl ?_
    exact e_out (fun r h => h)
  · refine e_mv 118 em_347 (ce_at ce_347 69 rfl) rfl rfl ?_
    refine e_getr 121 em_347 (ce_at ce_347 70 rfl) tq_121 rfl rfl ?_
    refine e_mv 123 em_347 (ce_at ce_347 71 rfl) rfl rfl ?_
    refine e_gd fun g3 => ?_
    refine e_ild 124 em_347 (ce_at ce_347 72 rfl) tq_130 (by decide) g3 rfl ?_
    refine e_mv 125 em_347 (ce_at ce_347 73 rfl) rfl rfl ?_
    refine e_getr 128 em_347 (ce_at ce_347 74 rfl) tq_121 rfl rfl ?_
    refine e_mv 129 em_347 (ce_at ce_347 75 rfl) rfl rfl ?_
    refine e_gd fun g4 => ?_
    refine e_ild 130 em_347 (ce_at ce_347 76 rfl) tq_130 (by decide) g4 rfl ?_
    refine e_gd fun g5 => ?_
    refine e_gd fun g6 => ?_
    refine e_cmeq 136 133 em_347 rfl rfl (ce_at ce_347 77 rfl) g5 g6 (fun h7 => ?_) (fun h7 => ?_)
    · refine e_mv 137 em_347 (ce_at ce_347 79 rfl) rfl rfl ?_
      refine e_gd fun g8 => ?_
      refine e_ifne 160 140 em_347 rfl rfl (ce_at ce_347 80 rfl) g8 (fun h9 => ?_) (fun h9 => ?_)
      · refine e_pk [0, 1, 4] rfl rfl ?_
        exact tm_checkNames_160 w d hd _ _ _
      · refine e_mv 141 em_347 (ce_at ce_347 81 rfl) rfl rfl ?_
        refine e_mv 142 em_347 (ce_at ce_347 82 rfl) rfl rfl ?_
        refine e_getr 145 em_347 (ce_at ce_347 83 rfl) tq_121 rfl rfl ?_
        refine e_mv 147 em_347 (ce_at ce_347 84 rfl) rfl rfl ?_
        refine e_ild 148 em_347 (ce_at ce_347 85 rfl) tq_132 (by decide) g3 rfl ?_
        refine e_mv 149 em_347 (ce_at ce_347 86 rfl) rfl rfl ?_
        refine e_getr 152 em_347 (ce_at ce_347 87 rfl) tq_121 rfl rfl ?_
        refine e_mv 153 em_347 (ce_at ce_347 88 rfl) rfl rfl ?_
        refine e_ild 154 em_347 (ce_at ce_347 89 rfl) tq_132 (by decide) g4 rfl ?_
        refine e_ivi 157 em_347 (ce_at ce_347 90 rfl) (by omega) (iv_v2 (by decide) tq_121 rfl) em_350 (Nat.le_of_ble_eq_true rfl) rfl (tm_like w (d - 1) (by omega) _ _ _) (fun r10 s10 => ?_)
        refine e_gd fun g11 => ?_
        refine e_ifeq 164 160 em_347 rfl rfl (ce_at ce_347 91 rfl) g11 (fun h12 => ?_) (fun h12 => ?_)
        · refine e_op 165 em_347 (ce_at ce_347 94 rfl) rfl rfl ?_
          refine e_mv 166 em_347 (ce_at ce_347 95 rfl) rfl rfl ?_
          refine e_mv 168 em_347 (ce_at ce_347 96 rfl) rfl rfl ?_
          refine e_mv 169 em_347 (ce_at ce_347 97 rfl) rfl rfl ?_
          refine e_iinc 172 em_347 (ce_at ce_347 98 rfl) rfl (by decide) rfl ?_
          refine e_goto em_347 112 (ce_at ce_347 99 rfl) rfl ?_
          refine e_pk [0, 1, 2, 3, 4] rfl rfl ?_
          exact e_out (fun r h => h)
        · refine e_pk [0, 1, 4] rfl rfl ?_
          exact tm_checkNames_160 w d hd _ _ _
    · refine e_goto em_347 169 (ce_at ce_347 78 rfl) rfl ?_
      refine e_iinc 172 em_347 (ce_at ce_347 98 rfl) rfl (by decide) rfl ?_
      refine e_goto em_347 112 (ce_at ce_347 99 rfl) rfl ?_
      refine e_pk [0, 1, 2, 3, 4] rfl rfl ?_
      exact e_out (fun r h => h)
theorem fm_checkNames_112b (v1 : Int) (v2 : Int) (v3 : Int) (v4 : Int) (s : iS) : Fm (fun r : (Int × Int × Int × iS) ⊕ (Int × Int × iS) => r.elim (fun l => l.2.2.2) (fun e => e.2.2)) L_m_checkNames G_m_checkNames s (m_checkNames_112b v1 v2 v3 v4 s) := fm_gd (fm_if (fm_some md_refl) (fm_gd (fm_gd (fm_gd (fm_gd (fm_if (fm_gd (fm_if (fm_bd (fm_sub (fm_like _ _ _) (mem_sub_L rfl) (mem_sub_F rfl)) (fun r10 s10 => fm_gd (fm_if (fm_some md_refl) (fm_checkNames_160 _ _ _)))) (fm_checkNames_160 _ _ _))) (fm_some md_refl)))))))
def m_checkNames_95C (w : ev_W) (d : Nat) : (Int × iS) ⊕ (iS) → am_E → Prop := fun q r => q.elim (fun l => ev w d 347 95 ((fun l => [(0, .ref (tb_nK + 121)), (1, iv (l.1))]) l) [] (hT ((fun l => l.2) l)) r) (fun e => (fun e r => ev w d 347 215 [(0, .ref (tb_nK + 121))] [] (hT (e)) r) e r)
noncomputable def m_checkNames_199 (v1 : Int) (s : iS) : Option ((Int × iS) ⊕ (iS)) := gd (0 ≤ v1 ∧ v1 < 61) (bd (m_checkType (s 133 v1.toNat) s) (fun _ s2 => some (.inl ((v1 + 1), s2))))
theorem tm_checkNames_199 (w : ev_W) (d : Nat) (hd : 4 ≤ d) (v1 : Int) (s : iS) : Ew hT w d 347 199 [(0, .ref (tb_nK + 121)), (1, iv v1)] [] s (m_checkNames_95C w d) (m_checkNames_199 v1 s) := by
  unfold m_checkNames_199
  refine e_mv 200 em_347 (ce_at ce_347 116 rfl) rfl rfl ?_
  refine e_mv 201 em_347 (ce_at ce_347 117 rfl) rfl rfl ?_
  refine e_getr 204 em_347 (ce_at ce_347 118 rfl) tq_121 rfl rfl ?_
  refine e_mv 205 em_347 (ce_at ce_347 119 rfl) rfl rfl ?_
  refine e_gd fun g1 => ?_
  refine e_ild 206 em_347 (ce_at ce_347 120 rfl) tq_133 (by decide) g1 rfl ?_
  refine e_ivv 209 em_347 (ce_at ce_347 121 rfl) (by omega) (iv_v1 (by decide) tq_121 rfl) em_352 (Nat.le_of_ble_eq_true rfl) rfl (tm_checkType w (d - 1) (by omega) _ _) (fun r2 s2 => ?_)
  refine e_iinc 212 em_347 (ce_at ce_347 122 rfl) rfl (by decide) rfl ?_
  refine e_goto em_347 95 (ce_at ce_347 123 rfl) rfl ?_
  refine e_pk [0, 1] rfl rfl ?_
  exact e_out (fun r h => h)
theorem fm_checkNames_199 (v1 : Int) (s : iS) : Fm (fun r : (Int × iS) ⊕ (iS) => r.elim (fun l => l.2) (fun e => e)) L_m_checkNames G_m_checkNames s (m_checkNames_199 v1 s) := fm_gd (fm_bd (fm_sub (fm_checkType _ _) (mem_sub_L rfl) (mem_sub_F rfl)) (fun r2 s2 => fm_some md_refl))
noncomputable def m_checkNames_175 (v1 : Int) (v2 : Int) (v3 : Int) (s : iS) : Option ((Int × iS) ⊕ (iS)) := gd (0 ≤ v1 ∧ v1 < 61) (lt' (up s 169 v1.toNat (v1 - v3)) (fun s2 => gd (rg v2) (if v2 = 0 then m_checkNames_199 v1 s2 else bd (m_note 3 (s2 132 v1.toNat) s2) (fun _ s5 => m_checkNames_199 v1 s5))))
theorem tm_checkNames_175 (w : ev_W) (d : Nat) (hd : 4 ≤ d) (v1 : Int) (v2 : Int) (v3 : Int) (s : iS) : Ew hT w d 347 175 [(0, .ref (tb_nK + 121)), (1, iv v1), (2, iv v2), (3, iv v3)] [] s (m_checkNames_95C w d) (m_checkNames_175 v1 v2 v3 s) := by
  unfold m_checkNames_175
  refine e_mv 176 em_347 (ce_at ce_347 100 rfl) rfl rfl ?_
  refine e_getr 179 em_347 (ce_at ce_347 101 rfl) tq_121 rfl rfl ?_
  refine e_mv 180 em_347 (ce_at ce_347 102 rfl) rfl rfl ?_
  refine e_mv 181 em_347 (ce_at ce_347 103 rfl) rfl rfl ?_
  refine e_mv 182 em_347 (ce_at ce_347 104 rfl) rfl rfl ?_
  refine e_isub 183 em_347 rfl (ce_at ce_347 105 rfl) ?_
  refine e_gd fun g1 => ?_
  refine e_ist 184 em_347 (ce_at ce_347 106 rfl) tq_169 (by decide) g1 rfl (fun s2 => ?_)
  refine e_mv 185 em_347 (ce_at ce_347 107 rfl) rfl rfl ?_
  refine e_gd fun g3 => ?_
  refine e_ifeq 199 188 em_347 rfl rfl (ce_at ce_347 108 rfl) g3 (fun h4 => ?_) (fun h4 => ?_)
  · refine e_pk [0, 1] rfl rfl ?_
    exact tm_checkNames_199 w d hd _ _
  · refine e_mv 189 em_347 (ce_at ce_347 109 rfl) rfl rfl ?_
    refine e_op 190 em_347 (ce_at ce_347 110 rfl) rfl rfl ?_
    refine e_mv 191 em_347 (ce_at ce_347 111 rfl) rfl rfl ?_
    refine e_getr 194 em_347 (ce_at ce_347 112 rfl) tq_121 rfl rfl ?_
    refine e_mv 195 em_347 (ce_at ce_347 113 rfl) rfl rfl ?_
    refine e_ild 196 em_347 (ce_at ce_347 114 rfl) tq_132 (by decide) g1 rfl ?_
    refine e_ivv 199 em_347 (ce_at ce_347 115 rfl) (by omega) (iv_v2 (by decide) tq_121 rfl) em_351 (Nat.le_of_ble_eq_true rfl) rfl (tm_note w (d - 1) (by omega) _ _ _) (fun r5 s5 => ?_)
    refine e_pk [0, 1] rfl rfl ?_
    exact tm_checkNames_199 w d hd _ _
theorem fm_checkNames_175 (v1 : Int) (v2 : Int) (v3 : Int) (s : iS) : Fm (fun r : (Int × iS) ⊕ (iS) => r.elim (fun l => l.2) (fun e => e)) L_m_checkNames G_m_checkNames s (m_checkNames_175 v1 v2 v3 s) := fm_gd (fm_lt (md_upL (mem_L rfl)) (fun s2 => fm_gd (fm_if (fm_checkNames_199 _ _) (fm_bd (fm_sub (fm_note _ _ _) (mem_sub_L rfl) (mem_sub_F rfl)) (fun r5 s5 => fm_checkNames_199 _ _)))))
noncomputable def m_checkNames_112 (v1 : Int) (v2 : Int) (v3 : Int) (v4 : Int) (s : iS) : Option ((Int × iS) ⊕ (iS)) := (lp (L := Int × Int × Int × iS) (E := Int × Int × iS) (fun l => m_checkNames_112b v1 (l.1) (l.2.1) (l.2.2.1) (l.2.2.2)) (v2, v3, v4, s)).bind (fun e => m_checkNames_175 v1 (e.1) (e.2.1) (e.2.2))
theorem tm_checkNames_112 (w : ev_W) (d : Nat) (hd : 4 ≤ d) (v1 : Int) (v2 : Int) (v3 : Int) (v4 : Int) (s : iS) : Ew hT w d 347 112 [(0, .ref (tb_nK + 121)), (1, iv v1), (2, iv v2), (3, iv v3), (4, iv v4)] [] s (m_checkNames_95C w d) (m_checkNames_112 v1 v2 v3 v4 s) := by
  unfold m_checkNames_112
  refine e_lp (L := Int × Int × Int × iS) (E := Int × Int × iS) (LO := fun l => [(0, .ref (tb_nK + 121)), (1, iv v1), (2, iv (l.1)), (3, iv (l.2.1)), (4, iv (l.2.2.1))]) (LS := fun l => l.2.2.2) (CE := fun e r => ev w d 347 175 [(0, .ref (tb_nK + 121)), (1, iv v1), (2, iv (e.1)), (3, iv (e.2.1))] [] (hT (e.2.2)) r) (fun l => tm_checkNames_112b w d hd _ _ _ _ _) ?_ (v2, v3, v4, s)
  intro e
  show Ew hT w d 347 175 [(0, .ref (tb_nK + 121)), (1, iv v1), (2, iv (e.1)), (3, iv (e.2.1))] [] e.2.2 (m_checkNames_95C w d) _
  refine e_pk [0, 1, 2, 3] rfl rfl ?_
  exact tm_checkNames_175 w d hd _ _ _ _
theorem fm_checkNames_112 (v1 : Int) (v2 : Int) (v3 : Int) (v4 : Int) (s : iS) : Fm (fun r : (Int × iS) ⊕ (iS) => r.elim (fun l => l.2) (fun e => e)) L_m_checkNames G_m_checkNames s (m_checkNames_112 v1 v2 v3 v4 s) := by
  unfold m_checkNames_112
  refine fm_lp (A := Int × Int × Int × iS) (E := Int × Int × iS) (LS := fun l => l.2.2.2) (LE := fun e => e.2.2) ?_ ?_ (v2, v3, v4, s)
  · exact fun l => fm_checkNames_112b _ _ _ _ _
  · exact (fun e => fm_checkNames_175 _ _ _ _)
noncomputable def m_checkNames_95b (v1 : Int) (s : iS) : Option ((Int × iS) ⊕ (iS)) := gd (rg v1) (gd (rg (s 121 17)) (if (s 121 17) ≤ v1 then some (.inr s) else m_checkNames_112 v1 0 v1 (v1 - 1) s))
theorem tm_checkNames_95b (w : ev_W) (d : Nat) (hd : 4 ≤ d) (v1 : Int) (s : iS) : Ew hT w d 347 95 [(0, .ref (tb_nK + 121)), (1, iv v1)] [] s (m_checkNames_95C w d) (m_checkNames_95b v1 s) := by
  unfold m_checkNames_95b
  refine e_mv 96 em_347 (ce_at ce_347 55 rfl) rfl rfl ?_
  refine e_mv 97 em_347 (ce_at ce_347 56 rfl) rfl rfl ?_
  refine e_get 100 em_347 (ce_at ce_347 57 rfl) tq_121 rfl rfl ?_
  refine e_gd fun g1 => ?_
  refine e_gd fun g2 => ?_
  refine e_cmge 215 103 em_347 rfl rfl (ce_at ce_347 58 rfl) g1 g2 (fun h3 => ?_) (fun h3 => ?_)
  · refine e_pk [0] rfl rfl ?_
    exact e_out (fun r h => h)
  · refine e_op 104 em_347 (ce_at ce_347 59 rfl) rfl rfl ?_
    refine e_mv 105 em_347 (ce_at ce_347 60 rfl) rfl rfl ?_
    refine e_mv 106 em_347 (ce_at ce_347 61 rfl) rfl rfl ?_
    refine e_mv 107 em_347 (ce_at ce_347 62 rfl) rfl rfl ?_
    refine e_mv 108 em_347 (ce_at ce_347 63 rfl) rfl rfl ?_
    refine e_op 109 em_347 (ce_at ce_347 64 rfl) rfl rfl ?_
    refine e_isub 110 em_347 rfl (ce_at ce_347 65 rfl) ?_
    refine e_mv 112 em_347 (ce_at ce_347 66 rfl) rfl rfl ?_
    refine e_pk [0, 1, 2, 3, 4] rfl rfl ?_
    exact tm_checkNames_112 w d hd _ _ _ _ _
theorem fm_checkNames_95b (v1 : Int) (s : iS) : Fm (fun r : (Int × iS) ⊕ (iS) => r.elim (fun l => l.2) (fun e => e)) L_m_checkNames G_m_checkNames s (m_checkNames_95b v1 s) := fm_gd (fm_gd (fm_if (fm_some md_refl) (fm_checkNames_112 _ _ _ _ _)))
def m_checkNames_229C (w : ev_W) (d : Nat) (v1 : Int) : (Int × Int × iS) ⊕ (Int × iS) → am_E → Prop := fun q r => q.elim (fun l => ev w d 347 229 ((fun l => [(0, .ref (tb_nK + 121)), (1, iv v1), (2, iv (l.1)), (3, iv (l.2.1))]) l) [] (hT ((fun l => l.2.2) l)) r) (fun e => (fun e r => ev w d 347 311 [(0, .ref (tb_nK + 121)), (1, iv v1), (2, iv (e.1))] [] (hT (e.2)) r) e r)
noncomputable def m_checkNames_269 (v1 : Int) (v2 : Int) (v3 : Int) (t0 : Int) (s : iS) : Option ((Int × Int × iS) ⊕ (Int × iS)) := gd (rg v2) (if v2 = 0 then gd (rg t0) (if t0 = 0 then some (.inl (0, (v3 + 1), s)) else gd (0 ≤ v3 ∧ v3 < 1100) (gd (0 ≤ v1 ∧ v1 < 1100) (bd (m_like (s 140 v3.toNat) (s 140 v1.toNat) s) (fun r7 s7 => gd (rg r7) (if r7 = 0 then some (.inl (0, (v3 + 1), s7)) else some (.inl (1, (v3 + 1), s7))))))) else some (.inl (1, (v3 + 1), s)))
theorem tm_checkNames_269 (w : ev_W) (d : Nat) (hd : 4 ≤ d) (v1 : Int) (v2 : Int) (v3 : Int) (t0 : Int) (s : iS) : Ew hT w d 347 269 [(0, .ref (tb_nK + 121)), (1, iv v1), (2, iv v2), (3, iv v3)] [iv t0] s (m_checkNames_229C w d v1) (m_checkNames_269 v1 v2 v3 t0 s) := by
  unfold m_checkNames_269
  refine e_mv 271 em_347 (ce_at ce_347 158 rfl) rfl rfl ?_
  refine e_mv 272 em_347 (ce_at ce_347 159 rfl) rfl rfl ?_
  refine e_gd fun g1 => ?_
  refine e_ifne 299 275 em_347 rfl rfl (ce_at ce_347 160 rfl) g1 (fun h2 => ?_) (fun h2 => ?_)
  · refine e_op 300 em_347 (ce_at ce_347 174 rfl) rfl rfl ?_
    refine e_goto em_347 304 (ce_at ce_347 175 rfl) rfl ?_
    refine e_mv 305 em_347 (ce_at ce_347 177 rfl) rfl rfl ?_
    refine e_iinc 308 em_347 (ce_at ce_347 178 rfl) rfl (by decide) rfl ?_
    refine e_goto em_347 229 (ce_at ce_347 179 rfl) rfl ?_
    refine e_pk [0, 1, 2, 3] rfl rfl ?_
    exact e_out (fun r h => h)
  · refine e_mv 277 em_347 (ce_at ce_347 161 rfl) rfl rfl ?_
    refine e_gd fun g3 => ?_
    refine e_ifeq 303 280 em_347 rfl rfl (ce_at ce_347 162 rfl) g3 (fun h4 => ?_) (fun h4 => ?_)
    · refine e_op 304 em_347 (ce_at ce_347 176 rfl) rfl rfl ?_
      refine e_mv 305 em_347 (ce_at ce_347 177 rfl) rfl rfl ?_
      refine e_iinc 308 em_347 (ce_at ce_347 178 rfl) rfl (by decide) rfl ?_
      refine e_goto em_347 229 (ce_at ce_347 179 rfl) rfl ?_
      refine e_pk [0, 1, 2, 3] rfl rfl ?_
      exact e_out (fun r h => h)
    · refine e_mv 281 em_347 (ce_at ce_347 163 rfl) rfl rfl ?_
      refine e_mv 282 em_347 (ce_at ce_347 164 rfl) rfl rfl ?_
      refine e_getr 285 em_347 (ce_at ce_347 165 rfl) tq_121 rfl rfl ?_
      refine e_mv 286 em_347 (ce_at ce_347 166 rfl) rfl rfl ?_
      refine e_gd fun g5 => ?_
      refine e_ild 287 em_347 (ce_at ce_347 167 rfl) tq_140 (by decide) g5 rfl ?_
      refine e_mv 288 em_347 (ce_at ce_347 168 rfl) rfl rfl ?_
      refine e_getr 291 em_347 (ce_at ce_347 169 rfl) tq_121 rfl rfl ?_
      refine e_mv 292 em_347 (ce_at ce_347 170 rfl) rfl rfl ?_
      refine e_gd fun g6 => ?_
      refine e_ild 293 em_347 (ce_at ce_347 171 rfl) tq_140 (by decide) g6 rfl ?_
      refine e_ivi 296 em_347 (ce_at ce_347 172 rfl) (by omega) (iv_v2 (by decide) tq_121 rfl) em_350 (Nat.le_of_ble_eq_true rfl) rfl (tm_like w (d - 1) (by omega) _ _ _) (fun r7 s7 => ?_)
      refine e_gd fun g8 => ?_
      refine e_ifeq 303 299 em_347 rfl rfl (ce_at ce_347 173 rfl) g8 (fun h9 => ?_) (fun h9 => ?_)
      · refine e_op 304 em_347 (ce_at ce_347 176 rfl) rfl rfl ?_
        refine e_mv 305 em_347 (ce_at ce_347 177 rfl) rfl rfl ?_
        refine e_iinc 308 em_347 (ce_at ce_347 178 rfl) rfl (by decide) rfl ?_
        refine e_goto em_347 229 (ce_at ce_347 179 rfl) rfl ?_
        refine e_pk [0, 1, 2, 3] rfl rfl ?_
        exact e_out (fun r h => h)
      · refine e_op 300 em_347 (ce_at ce_347 174 rfl) rfl rfl ?_
        refine e_goto em_347 304 (ce_at ce_347 175 rfl) rfl ?_
        refine e_mv 305 em_347 (ce_at ce_347 177 rfl) rfl rfl ?_
        refine e_iinc 308 em_347 (ce_at ce_347 178 rfl) rfl (by decide) rfl ?_
        refine e_goto em_347 229 (ce_at ce_347 179 rfl) rfl ?_
        refine e_pk [0, 1, 2, 3] rfl rfl ?_
        exact e_out (fun r h => h)
theorem fm_checkNames_269 (v1 : Int) (v2 : Int) (v3 : Int) (t0 : Int) (s : iS) : Fm (fun r : (Int × Int × iS) ⊕ (Int × iS) => r.elim (fun l => l.2.2) (fun e => e.2)) L_m_checkNames G_m_checkNames s (m_checkNames_269 v1 v2 v3 t0 s) := fm_gd (fm_if (fm_gd (fm_if (fm_some md_refl) (fm_gd (fm_gd (fm_bd (fm_sub (fm_like _ _ _) (mem_sub_L rfl) (mem_sub_F rfl)) (fun r7 s7 => fm_gd (fm_if (fm_some md_refl) (fm_some md_refl)))))))) (fm_some md_refl))
noncomputable def m_checkNames_268 (v1 : Int) (v2 : Int) (v3 : Int) (s : iS) : Option ((Int × Int × iS) ⊕ (Int × iS)) := m_checkNames_269 v1 v2 v3 0 s
theorem tm_checkNames_268 (w : ev_W) (d : Nat) (hd : 4 ≤ d) (v1 : Int) (v2 : Int) (v3 : Int) (s : iS) : Ew hT w d 347 268 [(0, .ref (tb_nK + 121)), (1, iv v1), (2, iv v2), (3, iv v3)] [] s (m_checkNames_229C w d v1) (m_checkNames_268 v1 v2 v3 s) := by
  unfold m_checkNames_268
  refine e_op 269 em_347 (ce_at ce_347 157 rfl) rfl rfl ?_
  refine e_pk [0, 1, 2, 3] rfl rfl ?_
  exact tm_checkNames_269 w d hd _ _ _ _ _
theorem fm_checkNames_268 (v1 : Int) (v2 : Int) (v3 : Int) (s : iS) : Fm (fun r : (Int × Int × iS) ⊕ (Int × iS) => r.elim (fun l => l.2.2) (fun e => e.2)) L_m_checkNames G_m_checkNames s (m_checkNames_268 v1 v2 v3 s) := fm_checkNames_269 _ _ _ _ _
noncomputable def m_checkNames_229b (v1 : Int) (v2 : Int) (v3 : Int) (s : iS) : Option ((Int × Int × iS) ⊕ (Int × iS)) := gd (rg v3) (gd (rg v1) (if v1 ≤ v3 then some (.inr (v2, s)) else gd (0 ≤ v3 ∧ v3 < 1100) (gd (0 ≤ v1 ∧ v1 < 1100) (gd (rg (s 138 v3.toNat)) (gd (rg (s 138 v1.toNat)) (if (s 138 v3.toNat) = (s 138 v1.toNat) then gd (rg (s 137 v3.toNat)) (gd (rg (s 137 v1.toNat)) (if (s 137 v3.toNat) = (s 137 v1.toNat) then m_checkNames_269 v1 v2 v3 1 s else m_checkNames_268 v1 v2 v3 s)) else m_checkNames_268 v1 v2 v3 s))))))
theorem tm_checkNames_229b (w : ev_W) (d : Nat) (hd : 4 ≤ d) (v1 : Int) (v2 : Int) (v3 : Int) (s : iS) : Ew hT w d 347 229 [(0, .ref (tb_nK + 121)), (1, iv v1), (2, iv v2), (3, iv v3)] [] s (m_checkNames_229C w d v1) (m_checkNames_229b v1 v2 v3 s) := by
  unfold m_checkNames_229b
  refine e_mv 230 em_347 (ce_at ce_347 134 rfl) rfl rfl ?_
  refine e_mv 231 em_347 (ce_at ce_347 135 rfl) rfl rfl ?_
  refine e_gd fun g1 => ?_
  refine e_gd fun g2 => ?_
  refine e_cmge 311 234 em_347 rfl rfl (ce_at ce_347 136 rfl) g1 g2 (fun h3 => ?_) (fun h3 => ?_)
  · refine e_pk [0, 1, 2] rfl rfl ?_
    exact e_out (fun r h => h)
  · refine e_mv 235 em_347 (ce_at ce_347 137 rfl) rfl rfl ?_
    refine e_getr 238 em_347 (ce_at ce_347 138 rfl) tq_121 rfl rfl ?_
    refine e_mv 239 em_347 (ce_at ce_347 139 rfl) rfl rfl ?_
    refine e_gd fun g4 => ?_
    refine e_ild 240 em_347 (ce_at ce_347 140 rfl) tq_138 (by decide) g4 rfl ?_
    refine e_mv 241 em_347 (ce_at ce_347 141 rfl) rfl rfl ?_
    refine e_getr 244 em_347 (ce_at ce_347 142 rfl) tq_121 rfl rfl ?_
    refine e_mv 245 em_347 (ce_at ce_347 143 rfl) rfl rfl ?_
    refine e_gd fun g5 => ?_
    refine e_ild 246 em_347 (ce_at ce_347 144 rfl) tq_138 (by decide) g5 rfl ?_
    refine e_gd fun g6 => ?_
    refine e_gd fun g7 => ?_
    refine e_cmne 268 249 em_347 rfl rfl (ce_at ce_347 145 rfl) g6 g7 (fun h8 => ?_) (fun h8 => ?_)
    · refine e_pk [0, 1, 2, 3] rfl rfl ?_
      exact tm_checkNames_268 w d hd _ _ _ _
    · refine e_mv 250 em_347 (ce_at ce_347 146 rfl) rfl rfl ?_
      refine e_getr 253 em_347 (ce_at ce_347 147 rfl) tq_121 rfl rfl ?_
      refine e_mv 254 em_347 (ce_at ce_347 148 rfl) rfl rfl ?_
      refine e_ild 255 em_347 (ce_at ce_347 149 rfl) tq_137 (by decide) g4 rfl ?_
      refine e_mv 256 em_347 (ce_at ce_347 150 rfl) rfl rfl ?_
      refine e_getr 259 em_347 (ce_at ce_347 151 rfl) tq_121 rfl rfl ?_
      refine e_mv 260 em_347 (ce_at ce_347 152 rfl) rfl rfl ?_
      refine e_ild 261 em_347 (ce_at ce_347 153 rfl) tq_137 (by decide) g5 rfl ?_
      refine e_gd fun g9 => ?_
      refine e_gd fun g10 => ?_
      refine e_cmne 268 264 em_347 rfl rfl (ce_at ce_347 154 rfl) g9 g10 (fun h11 => ?_) (fun h11 => ?_)
      · refine e_pk [0, 1, 2, 3] rfl rfl ?_
        exact tm_checkNames_268 w d hd _ _ _ _
      · refine e_op 265 em_347 (ce_at ce_347 155 rfl) rfl rfl ?_
        refine e_goto em_347 269 (ce_at ce_347 156 rfl) rfl ?_
        refine e_pk [0, 1, 2, 3] rfl rfl ?_
        exact tm_checkNames_269 w d hd _ _ _ _ _
theorem fm_checkNames_229b (v1 : Int) (v2 : Int) (v3 : Int) (s : iS) : Fm (fun r : (Int × Int × iS) ⊕ (Int × iS) => r.elim (fun l => l.2.2) (fun e => e.2)) L_m_checkNames G_m_checkNames s (m_checkNames_229b v1 v2 v3 s) := fm_gd (fm_gd (fm_if (fm_some md_refl) (fm_gd (fm_gd (fm_gd (fm_gd (fm_if (fm_gd (fm_gd (fm_if (fm_checkNames_269 _ _ _ _ _) (fm_checkNames_268 _ _ _ _)))) (fm_checkNames_268 _ _ _ _))))))))
def m_checkNames_217C (w : ev_W) (d : Nat) : (Int × iS) ⊕ (iS) → am_E → Prop := fun q r => q.elim (fun l => ev w d 347 217 ((fun l => [(0, .ref (tb_nK + 121)), (1, iv (l.1))]) l) [] (hT ((fun l => l.2) l)) r) (fun e => (fun e r => ev w d 347 342 [] [] (hT (e)) r) e r)
noncomputable def m_checkNames_326 (v1 : Int) (s : iS) : Option ((Int × iS) ⊕ (iS)) := gd (0 ≤ v1 ∧ v1 < 1100) (bd (m_checkType (s 141 v1.toNat) s) (fun _ s2 => some (.inl ((v1 + 1), s2))))
theorem tm_checkNames_326 (w : ev_W) (d : Nat) (hd : 4 ≤ d) (v1 : Int) (s : iS) : Ew hT w d 347 326 [(0, .ref (tb_nK + 121)), (1, iv v1)] [] s (m_checkNames_217C w d) (m_checkNames_326 v1 s) := by
  unfold m_checkNames_326
  refine e_mv 327 em_347 (ce_at ce_347 189 rfl) rfl rfl ?_
  refine e_mv 328 em_347 (ce_at ce_347 190 rfl) rfl rfl ?_
  refine e_getr 331 em_347 (ce_at ce_347 191 rfl) tq_121 rfl rfl ?_
  refine e_mv 332 em_347 (ce_at ce_347 192 rfl) rfl rfl ?_
  refine e_gd fun g1 => ?_
  refine e_ild 333 em_347 (ce_at ce_347 193 rfl) tq_141 (by decide) g1 rfl ?_
  refine e_ivv 336 em_347 (ce_at ce_347 194 rfl) (by omega) (iv_v1 (by decide) tq_121 rfl) em_352 (Nat.le_of_ble_eq_true rfl) rfl (tm_checkType w (d - 1) (by omega) _ _) (fun r2 s2 => ?_)
  refine e_iinc 339 em_347 (ce_at ce_347 195 rfl) rfl (by decide) rfl ?_
  refine e_goto em_347 217 (ce_at ce_347 196 rfl) rfl ?_
  refine e_pk [0, 1] rfl rfl ?_
  exact e_out (fun r h => h)
theorem fm_checkNames_326 (v1 : Int) (s : iS) : Fm (fun r : (Int × iS) ⊕ (iS) => r.elim (fun l => l.2) (fun e => e)) L_m_checkNames G_m_checkNames s (m_checkNames_326 v1 s) := fm_gd (fm_bd (fm_sub (fm_checkType _ _) (mem_sub_L rfl) (mem_sub_F rfl)) (fun r2 s2 => fm_some md_refl))
noncomputable def m_checkNames_311 (v1 : Int) (v2 : Int) (s : iS) : Option ((Int × iS) ⊕ (iS)) := gd (rg v2) (if v2 = 0 then m_checkNames_326 v1 s else gd (0 ≤ v1 ∧ v1 < 1100) (bd (m_note 3 (s 140 v1.toNat) s) (fun _ s4 => m_checkNames_326 v1 s4)))
theorem tm_checkNames_311 (w : ev_W) (d : Nat) (hd : 4 ≤ d) (v1 : Int) (v2 : Int) (s : iS) : Ew hT w d 347 311 [(0, .ref (tb_nK + 121)), (1, iv v1), (2, iv v2)] [] s (m_checkNames_217C w d) (m_checkNames_311 v1 v2 s) := by
  unfold m_checkNames_311
  refine e_mv 312 em_347 (ce_at ce_347 180 rfl) rfl rfl ?_
  refine e_gd fun g1 => ?_
  refine e_ifeq 326 315 em_347 rfl rfl (ce_at ce_347 181 rfl) g1 (fun h2 => ?_) (fun h2 => ?_)
  · refine e_pk [0, 1] rfl rfl ?_
    exact tm_checkNames_326 w d hd _ _
  · refine e_mv 316 em_347 (ce_at ce_347 182 rfl) rfl rfl ?_
    refine e_op 317 em_347 (ce_at ce_347 183 rfl) rfl rfl ?_
    refine e_mv 318 em_347 (ce_at ce_347 184 rfl) rfl rfl ?_
    refine e_getr 321 em_347 (ce_at ce_347 185 rfl) tq_121 rfl rfl ?_
    refine e_mv 322 em_347 (ce_at ce_347 186 rfl) rfl rfl ?_
    refine e_gd fun g3 => ?_
    refine e_ild 323 em_347 (ce_at ce_347 187 rfl) tq_140 (by decide) g3 rfl ?_
    refine e_ivv 326 em_347 (ce_at ce_347 188 rfl) (by omega) (iv_v2 (by decide) tq_121 rfl) em_351 (Nat.le_of_ble_eq_true rfl) rfl (tm_note w (d - 1) (by omega) _ _ _) (fun r4 s4 => ?_)
    refine e_pk [0, 1] rfl rfl ?_
    exact tm_checkNames_326 w d hd _ _
theorem fm_checkNames_311 (v1 : Int) (v2 : Int) (s : iS) : Fm (fun r : (Int × iS) ⊕ (iS) => r.elim (fun l => l.2) (fun e => e)) L_m_checkNames G_m_checkNames s (m_checkNames_311 v1 v2 s) := fm_gd (fm_if (fm_checkNames_326 _ _) (fm_gd (fm_bd (fm_sub (fm_note _ _ _) (mem_sub_L rfl) (mem_sub_F rfl)) (fun r4 s4 => fm_checkNames_326 _ _))))
noncomputable def m_checkNames_229 (v1 : Int) (v2 : Int) (v3 : Int) (s : iS) : Option ((Int × iS) ⊕ (iS)) := (lp (L := Int × Int × iS) (E := Int × iS) (fun l => m_checkNames_229b v1 (l.1) (l.2.1) (l.2.2)) (v2, v3, s)).bind (fun e => m_checkNames_311 v1 (e.1) (e.2))
theorem tm_checkNames_229 (w : ev_W) (d : Nat) (hd : 4 ≤ d) (v1 : Int) (v2 : Int) (v3 : Int) (s : iS) : Ew hT w d 347 229 [(0, .ref (tb_nK + 121)), (1, iv v1), (2, iv v2), (3, iv v3)] [] s (m_checkNames_217C w d) (m_checkNames_229 v1 v2 v3 s) := by
  unfold m_checkNames_229
  refine e_lp (L := Int × Int × iS) (E := Int × iS) (LO := fun l => [(0, .ref (tb_nK + 121)), (1, iv v1), (2, iv (l.1)), (3, iv (l.2.1))]) (LS := fun l => l.2.2) (CE := fun e r => ev w d 347 311 [(0, .ref (tb_nK + 121)), (1, iv v1), (2, iv (e.1))] [] (hT (e.2)) r) (fun l => tm_checkNames_229b w d hd _ _ _ _) ?_ (v2, v3, s)
  intro e
  show Ew hT w d 347 311 [(0, .ref (tb_nK + 121)), (1, iv v1), (2, iv (e.1))] [] e.2 (m_checkNames_217C w d) _
  refine e_pk [0, 1, 2] rfl rfl ?_
  exact tm_checkNames_311 w d hd _ _ _
theorem fm_checkNames_229 (v1 : Int) (v2 : Int) (v3 : Int) (s : iS) : Fm (fun r : (Int × iS) ⊕ (iS) => r.elim (fun l => l.2) (fun e => e)) L_m_checkNames G_m_checkNames s (m_checkNames_229 v1 v2 v3 s) := by
  unfold m_checkNames_229
  refine fm_lp (A := Int × Int × iS) (E := Int × iS) (LS := fun l => l.2.2) (LE := fun e => e.2) ?_ ?_ (v2, v3, s)
  · exact fun l => fm_checkNames_229b _ _ _ _
  · exact (fun e => fm_checkNames_311 _ _ _)
noncomputable def m_checkNames_217b (v1 : Int) (s : iS) : Option ((Int × iS) ⊕ (iS)) := gd (rg v1) (gd (rg (s 121 25)) (if (s 121 25) ≤ v1 then some (.inr s) else m_checkNames_229 v1 0 0 s))
theorem tm_checkNames_217b (w : ev_W) (d : Nat) (hd : 4 ≤ d) (v1 : Int) (s : iS) : Ew hT w d 347 217 [(0, .ref (tb_nK + 121)), (1, iv v1)] [] s (m_checkNames_217C w d) (m_checkNames_217b v1 s) := by
  unfold m_checkNames_217b
  refine e_mv 218 em_347 (ce_at ce_347 126 rfl) rfl rfl ?_
  refine e_mv 219 em_347 (ce_at ce_347 127 rfl) rfl rfl ?_
  refine e_get 222 em_347 (ce_at ce_347 128 rfl) tq_121 rfl rfl ?_
  refine e_gd fun g1 => ?_
  refine e_gd fun g2 => ?_
  refine e_cmge 342 225 em_347 rfl rfl (ce_at ce_347 129 rfl) g1 g2 (fun h3 => ?_) (fun h3 => ?_)
  · refine e_pk [] rfl rfl ?_
    exact e_out (fun r h => h)
  · refine e_op 226 em_347 (ce_at ce_347 130 rfl) rfl rfl ?_
    refine e_mv 227 em_347 (ce_at ce_347 131 rfl) rfl rfl ?_
    refine e_op 228 em_347 (ce_at ce_347 132 rfl) rfl rfl ?_
    refine e_mv 229 em_347 (ce_at ce_347 133 rfl) rfl rfl ?_
    refine e_pk [0, 1, 2, 3] rfl rfl ?_
    exact tm_checkNames_229 w d hd _ _ _ _
theorem fm_checkNames_217b (v1 : Int) (s : iS) : Fm (fun r : (Int × iS) ⊕ (iS) => r.elim (fun l => l.2) (fun e => e)) L_m_checkNames G_m_checkNames s (m_checkNames_217b v1 s) := fm_gd (fm_gd (fm_if (fm_some md_refl) (fm_checkNames_229 _ _ _ _)))
noncomputable def m_checkNames_217 (v1 : Int) (s : iS) : Option (Int × iS) := (lp (L := Int × iS) (E := iS) (fun l => m_checkNames_217b (l.1) (l.2)) (v1, s)).bind (fun e => some (0, e))
theorem tm_checkNames_217 (w : ev_W) (d : Nat) (hd : 4 ≤ d) (v1 : Int) (s : iS) : Ew hT w d 347 217 [(0, .ref (tb_nK + 121)), (1, iv v1)] [] s (Cv hT) (m_checkNames_217 v1 s) := by
  unfold m_checkNames_217
  refine e_lp (L := Int × iS) (E := iS) (LO := fun l => [(0, .ref (tb_nK + 121)), (1, iv (l.1))]) (LS := fun l => l.2) (CE := fun e r => ev w d 347 342 [] [] (hT (e)) r) (fun l => tm_checkNames_217b w d hd _ _) ?_ (v1, s)
  intro e
  show Ew hT w d 347 342 [] [] e (Cv hT) _
  exact e_retv em_347 (ce_at ce_347 197 rfl)
theorem fm_checkNames_217 (v1 : Int) (s : iS) : Fm Prod.snd L_m_checkNames G_m_checkNames s (m_checkNames_217 v1 s) := by
  unfold m_checkNames_217
  refine fm_lp (A := Int × iS) (E := iS) (LS := fun l => l.2) (LE := fun e => e) ?_ ?_ (v1, s)
  · exact fun l => fm_checkNames_217b _ _
  · exact (fun e => fm_some md_refl)
noncomputable def m_checkNames_215 (s : iS) : Option (Int × iS) := m_checkNames_217 0 s
theorem tm_checkNames_215 (w : ev_W) (d : Nat) (hd : 4 ≤ d) (s : iS) : Ew hT w d 347 215 [(0, .ref (tb_nK + 121))] [] s (Cv hT) (m_checkNames_215 s) := by
  unfold m_checkNames_215
  refine e_op 216 em_347 (ce_at ce_347 124 rfl) rfl rfl ?_
  refine e_mv 217 em_347 (ce_at ce_347 125 rfl) rfl rfl ?_
  refine e_pk [0, 1] rfl rfl ?_
  exact tm_checkNames_217 w d hd _ _
theorem fm_checkNames_215 (s : iS) : Fm Prod.snd L_m_checkNames G_m_checkNames s (m_checkNames_215 s) := fm_checkNames_217 _ _
noncomputable def m_checkNames_95 (v1 : Int) (s : iS) : Option (Int × iS) := (lp (L := Int × iS) (E := iS) (fun l => m_checkNames_95b (l.1) (l.2)) (v1, s)).bind (fun e => m_checkNames_215 e)
theorem tm_checkNames_95 (w : ev_W) (d : Nat) (hd : 4 ≤ d) (v1 : Int) (s : iS) : Ew hT w d 347 95 [(0, .ref (tb_nK + 121)), (1, iv v1)] [] s (Cv hT) (m_checkNames_95 v1 s) := by
  unfold m_checkNames_95
  refine e_lp (L := Int × iS) (E := iS) (LO := fun l => [(0, .ref (tb_nK + 121)), (1, iv (l.1))]) (LS := fun l => l.2) (CE := fun e r => ev w d 347 215 [(0, .ref (tb_nK + 121))] [] (hT (e)) r) (fun l => tm_checkNames_95b w d hd _ _) ?_ (v1, s)
  intro e
  show Ew hT w d 347 215 [(0, .ref (tb_nK + 121))] [] e (Cv hT) _
  refine e_pk [0] rfl rfl ?_
  exact tm_checkNames_215 w d hd _
theorem fm_checkNames_95 (v1 : Int) (s : iS) : Fm Prod.snd L_m_checkNames G_m_checkNames s (m_checkNames_95 v1 s) := by
  unfold m_checkNames_95
  refine fm_lp (A := Int × iS) (E := iS) (LS := fun l => l.2) (LE := fun e => e) ?_ ?_ (v1, s)
  · exact fun l => fm_checkNames_95b _ _
  · exact (fun e => fm_checkNames_215 _)
noncomputable def m_checkNames_93 (s : iS) : Option (Int × iS) := m_checkNames_95 0 s
theorem tm_checkNames_93 (w : ev_W) (d : Nat) (hd : 4 ≤ d) (s : iS) : Ew hT w d 347 93 [(0, .ref (tb_nK + 121))] [] s (Cv hT) (m_checkNames_93 s) := by
  unfold m_checkNames_93
  refine e_op 94 em_347 (ce_at ce_347 53 rfl) rfl rfl ?_
  refine e_mv 95 em_347 (ce_at ce_347 54 rfl) rfl rfl ?_
  refine e_pk [0, 1] rfl rfl ?_
  exact tm_checkNames_95 w d hd _ _
theorem fm_checkNames_93 (s : iS) : Fm Prod.snd L_m_checkNames G_m_checkNames s (m_checkNames_93 s) := fm_checkNames_95 _ _
noncomputable def m_checkNames_2 (v1 : Int) (s : iS) : Option (Int × iS) := (lp (L := Int × iS) (E := iS) (fun l => m_checkNames_2b (l.1) (l.2)) (v1, s)).bind (fun e => m_checkNames_93 e)
theorem tm_checkNames_2 (w : ev_W) (d : Nat) (hd : 4 ≤ d) (v1 : Int) (s : iS) : Ew hT w d 347 2 [(0, .ref (tb_nK + 121)), (1, iv v1)] [] s (Cv hT) (m_checkNames_2 v1 s) := by
  unfold m_checkNames_2
  refine e_lp (L := Int × iS) (E := iS) (LO := fun l => [(0, .ref (tb_nK + 121)), (1, iv (l.1))]) (LS := fun l => l.2) (CE := fun e r => ev w d 347 93 [(0, .ref (tb_nK + 121))] [] (hT (e)) r) (fun l => tm_checkNames_2b w d hd _ _) ?_ (v1, s)
  intro e
  show Ew hT w d 347 93 [(0, .ref (tb_nK + 121))] [] e (Cv hT) _
  refine e_pk [0] rfl rfl ?_
  exact tm_checkNames_93 w d hd _
theorem fm_checkNames_2 (v1 : Int) (s : iS) : Fm Prod.snd L_m_checkNames G_m_checkNames s (m_checkNames_2 v1 s) := by
  unfold m_checkNames_2
  refine fm_lp (A := Int × iS) (E := iS) (LS := fun l => l.2) (LE := fun e => e) ?_ ?_ (v1, s)
  · exact fun l => fm_checkNames_2b _ _
  · exact (fun e => fm_checkNames_93 _)
noncomputable def m_checkNames (s : iS) : Option (Int × iS) := m_checkNames_2 0 s
theorem tm_checkNames (w : ev_W) (d : Nat) (hd : 4 ≤ d) (s : iS) : Ew hT w d 347 0 [(0, .ref (tb_nK + 121))] [] s (Cv hT) (m_checkNames s) := by
  unfold m_checkNames
  refine e_op 1 em_347 (ce_at ce_347 0 rfl) rfl rfl ?_
  refine e_mv 2 em_347 (ce_at ce_347 1 rfl) rfl rfl ?_
  refine e_pk [0, 1] rfl rfl ?_
  exact tm_checkNames_2 w d hd _ _
theorem fm_checkNames (s : iS) : Fm Prod.snd L_m_checkNames G_m_checkNames s (m_checkNames s) := fm_checkNames_2 _ _
/-! m_variableOf -/
def L_m_variableOf : List Nat := []
def G_m_variableOf : List (Nat × Nat) := []
def m_variableOf_16C (w : ev_W) (d : Nat) (v1 : Int) (v2 : Int) : (Int × Int × Int × Int × iS) ⊕ (Int × Int × Int × iS) → am_E → Prop := fun q r => q.elim (fun l => ev w d 355 16 ((fun l => [(0, .ref (tb_nK + 121)), (1, iv v1), (2, iv v2), (3, iv (l.1)), (4, iv (l.2.1)), (5, iv (l.2.2.1)), (6, iv (l.2.2.2.1))]) l) [] (hT ((fun l => l.2.2.2.2) l)) r) (fun e => (fun e r => ev w d 355 142 [(3, iv (e.1)), (4, iv (e.2.1)), (5, iv (e.2.2.1))] [] (hT (e.2.2.2)) r) e r)
noncomputable def m_variableOf_95 (v1 : Int) (v2 : Int) (v3 : Int) (v4 : Int) (v5 : Int) (v6 : Int) (s : iS) : Option ((Int × Int × Int × Int × iS) ⊕ (Int × Int × Int × iS)) := gd (0 ≤ v6 ∧ v6 < 1100) (gd (rg (s 138 v6.toNat)) (if (s 138 v6.toNat) = (-1) then gd (0 ≤ v1 ∧ v1 < 61) (gd (rg (s 137 v6.toNat)) (gd (rg (s 130 v1.toNat)) (if (s 137 v6.toNat) = (s 130 v1.toNat) then gd (rg (s 139 v6.toNat)) (if (s 139 v6.toNat) = 0 then some (.inl (v3, v4, v6, (v6 + (-1)), s)) else some (.inl (v3, v4, v5, (v6 + (-1)), s))) else some (.inl (v3, v4, v5, (v6 + (-1)), s))))) else some (.inl (v3, v4, v5, (v6 + (-1)), s))))
theorem tm_variableOf_95 (w : ev_W) (d : Nat) (hd : 1 ≤ d) (v1 : Int) (v2 : Int) (v3 : Int) (v4 : Int) (v5 : Int) (v6 : Int) (s : iS) : Ew hT w d 355 95 [(0, .ref (tb_nK + 121)), (1, iv v1), (2, iv v2), (3, iv v3), (4, iv v4), (5, iv v5), (6, iv v6)] [] s (m_variableOf_16C w d v1 v2) (m_variableOf_95 v1 v2 v3 v4 v5 v6 s) := by
  unfold m_variableOf_95
  refine e_mv 96 em_355 (ce_at ce_355 53 rfl) rfl rfl ?_
  refine e_getr 99 em_355 (ce_at ce_355 54 rfl) tq_121 rfl rfl ?_
  refine e_mv 101 em_355 (ce_at ce_355 55 rfl) rfl rfl ?_
  refine e_gd fun g1 => ?_
  refine e_ild 102 em_355 (ce_at ce_355 56 rfl) tq_138 (by decide) g1 rfl ?_
  refine e_op 103 em_355 (ce_at ce_355 57 rfl) rfl rfl ?_
  refine e_gd fun g2 => ?_
  refine e_cmne 136 106 em_355 rfl rfl (ce_at ce_355 58 rfl) g2 (by decide) (fun h3 => ?_) (fun h3 => ?_)
  · refine e_iinc 139 em_355 (ce_at ce_355 75 rfl) rfl (by decide) rfl ?_
    refine e_goto em_355 16 (ce_at ce_355 76 rfl) rfl ?_
    refine e_pk [0, 1, 2, 3, 4, 5, 6] rfl rfl ?_
    exact e_out (fun r h => h)
  · refine e_mv 107 em_355 (ce_at ce_355 59 rfl) rfl rfl ?_
    refine e_getr 110 em_355 (ce_at ce_355 60 rfl) tq_121 rfl rfl ?_
    refine e_mv 112 em_355 (ce_at ce_355 61 rfl) rfl rfl ?_
    refine e_ild 113 em_355 (ce_at ce_355 62 rfl) tq_137 (by decide) g1 rfl ?_
    refine e_mv 114 em_355 (ce_at ce_355 63 rfl) rfl rfl ?_
    refine e_getr 117 em_355 (ce_at ce_355 64 rfl) tq_121 rfl rfl ?_
    refine e_mv 118 em_355 (ce_at ce_355 65 rfl) rfl rfl ?_
    refine e_gd fun g4 => ?_
    refine e_ild 119 em_355 (ce_at ce_355 66 rfl) tq_130 (by decide) g4 rfl ?_
    refine e_gd fun g5 => ?_
    refine e_gd fun g6 => ?_
    refine e_cmne 136 122 em_355 rfl rfl (ce_at ce_355 67 rfl) g5 g6 (fun h7 => ?_) (fun h7 => ?_)
    · refine e_iinc 139 em_355 (ce_at ce_355 75 rfl) rfl (by decide) rfl ?_
      refine e_goto em_355 16 (ce_at ce_355 76 rfl) rfl ?_
      refine e_pk [0, 1, 2, 3, 4, 5, 6] rfl rfl ?_
      exact e_out (fun r h => h)
    · refine e_mv 123 em_355 (ce_at ce_355 68 rfl) rfl rfl ?_
      refine e_getr 126 em_355 (ce_at ce_355 69 rfl) tq_121 rfl rfl ?_
      refine e_mv 128 em_355 (ce_at ce_355 70 rfl) rfl rfl ?_
      refine e_ild 129 em_355 (ce_at ce_355 71 rfl) tq_139 (by decide) g1 rfl ?_
      refine e_gd fun g8 => ?_
      refine e_ifne 136 132 em_355 rfl rfl (ce_at ce_355 72 rfl) g8 (fun h9 => ?_) (fun h9 => ?_)
      · refine e_iinc 139 em_355 (ce_at ce_355 75 rfl) rfl (by decide) rfl ?_
        refine e_goto em_355 16 (ce_at ce_355 76 rfl) rfl ?_
        refine e_pk [0, 1, 2, 3, 4, 5, 6] rfl rfl ?_
        exact e_out (fun r h => h)
      · refine e_mv 134 em_355 (ce_at ce_355 73 rfl) rfl rfl ?_
        refine e_mv 136 em_355 (ce_at ce_355 74 rfl) rfl rfl ?_
        refine e_iinc 139 em_355 (ce_at ce_355 75 rfl) rfl (by decide) rfl ?_
        refine e_goto em_355 16 (ce_at ce_355 76 rfl) rfl ?_
        refine e_pk [0, 1, 2, 3, 4, 5, 6] rfl rfl ?_
        exact e_out (fun r h => h)
theorem fm_variableOf_95 (v1 : Int) (v2 : Int) (v3 : Int) (v4 : Int) (v5 : Int) (v6 : Int) (s : iS) : Fm (fun r : (Int × Int × Int × Int × iS) ⊕ (Int × Int × Int × iS) => r.elim (fun l => l.2.2.2.2) (fun e => e.2.2.2)) L_m_variableOf G_m_variableOf s (m_variableOf_95 v1 v2 v3 v4 v5 v6 s) := fm_gd (fm_gd (fm_if (fm_gd (fm_gd (fm_gd (fm_if (fm_gd (fm_if (fm_some md_refl) (fm_some md_refl))) (fm_some md_refl))))) (fm_some md_refl)))
noncomputable def m_variableOf_53 (v1 : Int) (v2 : Int) (v3 : Int) (v4 : Int) (v5 : Int) (v6 : Int) (s : iS) : Option ((Int × Int × Int × Int × iS) ⊕ (Int × Int × Int × iS)) := gd (0 ≤ v6 ∧ v6 < 1100) (gd (rg (s 138 v6.toNat)) (if (s 138 v6.toNat) = (-1) then gd (0 ≤ v1 ∧ v1 < 61) (gd (rg (s 137 v6.toNat)) (gd (rg (s 130 v1.toNat)) (if (s 137 v6.toNat) = (s 130 v1.toNat) then gd (rg (s 139 v6.toNat)) (if (s 139 v6.toNat) = 1 then m_variableOf_95 v1 v2 v3 v6 v5 v6 s else m_variableOf_95 v1 v2 v3 v4 v5 v6 s) else m_variableOf_95 v1 v2 v3 v4 v5 v6 s))) else m_variableOf_95 v1 v2 v3 v4 v5 v6 s))
theorem tm_variableOf_53 (w : ev_W) (d : Nat) (hd : 1 ≤ d) (v1 : Int) (v2 : Int) (v3 : Int) (v4 : Int) (v5 : Int) (v6 : Int) (s : iS) : Ew hT w d 355 53 [(0, .ref (tb_nK + 121)), (1, iv v1), (2, iv v2), (3, iv v3), (4, iv v4), (5, iv v5), (6, iv v6)] [] s (m_variableOf_16C w d v1 v2) (m_variableOf_53 v1 v2 v3 v4 v5 v6 s) := by
  unfold m_variableOf_53
  refine e_mv 54 em_355 (ce_at ce_355 30 rfl) rfl rfl ?_
  refine e_getr 57 em_355 (ce_at ce_355 31 rfl) tq_121 rfl rfl ?_
  refine e_mv 59 em_355 (ce_at ce_355 32 rfl) rfl rfl ?_
  refine e_gd fun g1 => ?_
  refine e_ild 60 em_355 (ce_at ce_355 33 rfl) tq_138 (by decide) g1 rfl ?_
  refine e_op 61 em_355 (ce_at ce_355 34 rfl) rfl rfl ?_
  refine e_gd fun g2 => ?_
  refine e_cmne 95 64 em_355 rfl rfl (ce_at ce_355 35 rfl) g2 (by decide) (fun h3 => ?_) (fun h3 => ?_)
  · refine e_pk [0, 1, 2, 3, 4, 5, 6] rfl rfl ?_
    exact tm_variableOf_95 w d hd _ _ _ _ _ _ _
  · refine e_mv 65 em_355 (ce_at ce_355 36 rfl) rfl rfl ?_
    refine e_getr 68 em_355 (ce_at ce_355 37 rfl) tq_121 rfl rfl ?_
    refine e_mv 70 em_355 (ce_at ce_355 38 rfl) rfl rfl ?_
    refine e_ild 71 em_355 (ce_at ce_355 39 rfl) tq_137 (by decide) g1 rfl ?_
    refine e_mv 72 em_355 (ce_at ce_355 40 rfl) rfl rfl ?_
    refine e_getr 75 em_355 (ce_at ce_355 41 rfl) tq_121 rfl rfl ?_
    refine e_mv 76 em_355 (ce_at ce_355 42 rfl) rfl rfl ?_
    refine e_gd fun g4 => ?_
    refine e_ild 77 em_355 (ce_at ce_355 43 rfl) tq_130 (by decide) g4 rfl ?_
    refine e_gd fun g5 => ?_
    refine e_gd fun g6 => ?_
    refine e_cmne 95 80 em_355 rfl rfl (ce_at ce_355 44 rfl) g5 g6 (fun h7 => ?_) (fun h7 => ?_)
    · refine e_pk [0, 1, 2, 3, 4, 5, 6] rfl rfl ?_
      exact tm_variableOf_95 w d hd _ _ _ _ _ _ _
    · refine e_mv 81 em_355 (ce_at ce_355 45 rfl) rfl rfl ?_
      refine e_getr 84 em_355 (ce_at ce_355 46 rfl) tq_121 rfl rfl ?_
      refine e_mv 86 em_355 (ce_at ce_355 47 rfl) rfl rfl ?_
      refine e_ild 87 em_355 (ce_at ce_355 48 rfl) tq_139 (by decide) g1 rfl ?_
      refine e_op 88 em_355 (ce_at ce_355 49 rfl) rfl rfl ?_
      refine e_gd fun g8 => ?_
      refine e_cmne 95 91 em_355 rfl rfl (ce_at ce_355 50 rfl) g8 (by decide) (fun h9 => ?_) (fun h9 => ?_)
      · refine e_pk [0, 1, 2, 3, 4, 5, 6] rfl rfl ?_
        exact tm_variableOf_95 w d hd _ _ _ _ _ _ _
      · refine e_mv 93 em_355 (ce_at ce_355 51 rfl) rfl rfl ?_
        refine e_mv 95 em_355 (ce_at ce_355 52 rfl) rfl rfl ?_
        refine e_pk [0, 1, 2, 3, 4, 5, 6] rfl rfl ?_
        exact tm_variableOf_95 w d hd _ _ _ _ _ _ _
theorem fm_variableOf_53 (v1 : Int) (v2 : Int) (v3 : Int) (v4 : Int) (v5 : Int) (v6 : Int) (s : iS) : Fm (fun r : (Int × Int × Int × Int × iS) ⊕ (Int × Int × Int × iS) => r.elim (fun l => l.2.2.2.2) (fun e => e.2.2.2)) L_m_variableOf G_m_variableOf s (m_variableOf_53 v1 v2 v3 v4 v5 v6 s) := fm_gd (fm_gd (fm_if (fm_gd (fm_gd (fm_gd (fm_if (fm_gd (fm_if (fm_variableOf_95 _ _ _ _ _ _ _) (fm_variableOf_95 _ _ _ _ _ _ _))) (fm_variableOf_95 _ _ _ _ _ _ _))))) (fm_variableOf_95 _ _ _ _ _ _ _)))
noncomputable def m_variableOf_16b (v1 : Int) (v2 : Int) (v3 : Int) (v4 : Int) (v5 : Int) (v6 : Int) (s : iS) : Option ((Int × Int × Int × Int × iS) ⊕ (Int × Int × Int × iS)) := gd (rg v6) (if v6 < 0 then some (.inr (v3, v4, v5, s)) else gd (0 ≤ v6 ∧ v6 < 1100) (bd (m_like (s 140 v6.toNat) v2 s) (fun r4 s4 => gd (rg r4) (if r4 = 0 then some (.inl (v3, v4, v5, (v6 + (-1)), s4)) else gd (rg (s4 138 v6.toNat)) (gd (rg v1) (if (s4 138 v6.toNat) = v1 then m_variableOf_53 v1 v2 v6 v4 v5 v6 s4 else m_variableOf_53 v1 v2 v3 v4 v5 v6 s4))))))
theorem tm_variableOf_16b (w : ev_W) (d : Nat) (hd : 1 ≤ d) (v1 : Int) (v2 : Int) (v3 : Int) (v4 : Int) (v5 : Int) (v6 : Int) (s : iS) : Ew hT w d 355 16 [(0, .ref (tb_nK + 121)), (1, iv v1), (2, iv v2), (3, iv v3), (4, iv v4), (5, iv v5), (6, iv v6)] [] s (m_variableOf_16C w d v1 v2) (m_variableOf_16b v1 v2 v3 v4 v5 v6 s) := by
  unfold m_variableOf_16b
  refine e_mv 18 em_355 (ce_at ce_355 11 rfl) rfl rfl ?_
  refine e_gd fun g1 => ?_
  refine e_iflt 142 21 em_355 rfl rfl (ce_at ce_355 12 rfl) g1 (fun h2 => ?_) (fun h2 => ?_)
  · refine e_pk [3, 4, 5] rfl rfl ?_
    exact e_out (fun r h => h)
  · refine e_mv 22 em_355 (ce_at ce_355 13 rfl) rfl rfl ?_
    refine e_mv 23 em_355 (ce_at ce_355 14 rfl) rfl rfl ?_
    refine e_getr 26 em_355 (ce_at ce_355 15 rfl) tq_121 rfl rfl ?_
    refine e_mv 28 em_355 (ce_at ce_355 16 rfl) rfl rfl ?_
    refine e_gd fun g3 => ?_
    refine e_ild 29 em_355 (ce_at ce_355 17 rfl) tq_140 (by decide) g3 rfl ?_
    refine e_mv 30 em_355 (ce_at ce_355 18 rfl) rfl rfl ?_
    refine e_ivi 33 em_355 (ce_at ce_355 19 rfl) (by omega) (iv_v2 (by decide) tq_121 rfl) em_350 (Nat.le_of_ble_eq_true rfl) rfl (tm_like w (d - 1) (by omega) _ _ _) (fun r4 s4 => ?_)
    refine e_gd fun g5 => ?_
    refine e_ifne 39 36 em_355 rfl rfl (ce_at ce_355 20 rfl) g5 (fun h6 => ?_) (fun h6 => ?_)
    · refine e_mv 40 em_355 (ce_at ce_355 22 rfl) rfl rfl ?_
      refine e_getr 43 em_355 (ce_at ce_355 23 rfl) tq_121 rfl rfl ?_
      refine e_mv 45 em_355 (ce_at ce_355 24 rfl) rfl rfl ?_
      refine e_ild 46 em_355 (ce_at ce_355 25 rfl) tq_138 (by decide) g3 rfl ?_
      refine e_mv 47 em_355 (ce_at ce_355 26 rfl) rfl rfl ?_
      refine e_gd fun g7 => ?_
      refine e_gd fun g8 => ?_
      refine e_cmne 53 50 em_355 rfl rfl (ce_at ce_355 27 rfl) g7 g8 (fun h9 => ?_) (fun h9 => ?_)
      · refine e_pk [0, 1, 2, 3, 4, 5, 6] rfl rfl ?_
        exact tm_variableOf_53 w d hd _ _ _ _ _ _ _
      · refine e_mv 52 em_355 (ce_at ce_355 28 rfl) rfl rfl ?_
        refine e_mv 53 em_355 (ce_at ce_355 29 rfl) rfl rfl ?_
        refine e_pk [0, 1, 2, 3, 4, 5, 6] rfl rfl ?_
        exact tm_variableOf_53 w d hd _ _ _ _ _ _ _
    · refine e_goto em_355 136 (ce_at ce_355 21 rfl) rfl ?_
      refine e_iinc 139 em_355 (ce_at ce_355 75 rfl) rfl (by decide) rfl ?_
      refine e_goto em_355 16 (ce_at ce_355 76 rfl) rfl ?_
      refine e_pk [0, 1, 2, 3, 4, 5, 6] rfl rfl ?_
      exact e_out (fun r h => h)
theorem fm_variableOf_16b (v1 : Int) (v2 : Int) (v3 : Int) (v4 : Int) (v5 : Int) (v6 : Int) (s : iS) : Fm (fun r : (Int × Int × Int × Int × iS) ⊕ (Int × Int × Int × iS) => r.elim (fun l => l.2.2.2.2) (fun e => e.2.2.2)) L_m_variableOf G_m_variableOf s (m_variableOf_16b v1 v2 v3 v4 v5 v6 s) := fm_gd (fm_if (fm_some md_refl) (fm_gd (fm_bd (fm_sub (fm_like _ _ _) (mem_sub_L rfl) (mem_sub_F rfl)) (fun r4 s4 => fm_gd (fm_if (fm_some md_refl) (fm_gd (fm_gd (fm_if (fm_variableOf_53 _ _ _ _ _ _ _) (fm_variableOf_53 _ _ _ _ _ _ _)))))))))
noncomputable def m_variableOf_142 (v3 : Int) (v4 : Int) (v5 : Int) (s : iS) : Option (Int × iS) := gd (rg v3) (if v3 = (-1) then gd (rg v4) (if v4 = (-1) then some (v5, s) else some (v4, s)) else some (v3, s))
theorem tm_variableOf_142 (w : ev_W) (d : Nat) (hd : 1 ≤ d) (v3 : Int) (v4 : Int) (v5 : Int) (s : iS) : Ew hT w d 355 142 [(3, iv v3), (4, iv v4), (5, iv v5)] [] s (Ci hT) (m_variableOf_142 v3 v4 v5 s) := by
  unfold m_variableOf_142
  refine e_mv 143 em_355 (ce_at ce_355 77 rfl) rfl rfl ?_
  refine e_op 144 em_355 (ce_at ce_355 78 rfl) rfl rfl ?_
  refine e_gd fun g1 => ?_
  refine e_cmeq 151 147 em_355 rfl rfl (ce_at ce_355 79 rfl) g1 (by decide) (fun h2 => ?_) (fun h2 => ?_)
  · refine e_mv 153 em_355 (ce_at ce_355 82 rfl) rfl rfl ?_
    refine e_op 154 em_355 (ce_at ce_355 83 rfl) rfl rfl ?_
    refine e_gd fun g3 => ?_
    refine e_cmeq 162 157 em_355 rfl rfl (ce_at ce_355 84 rfl) g3 (by decide) (fun h4 => ?_) (fun h4 => ?_)
    · refine e_mv 164 em_355 (ce_at ce_355 87 rfl) rfl rfl ?_
      exact e_reti em_355 (ce_at ce_355 88 rfl)
    · refine e_mv 159 em_355 (ce_at ce_355 85 rfl) rfl rfl ?_
      refine e_goto em_355 164 (ce_at ce_355 86 rfl) rfl ?_
      exact e_reti em_355 (ce_at ce_355 88 rfl)
  · refine e_mv 148 em_355 (ce_at ce_355 80 rfl) rfl rfl ?_
    refine e_goto em_355 164 (ce_at ce_355 81 rfl) rfl ?_
    exact e_reti em_355 (ce_at ce_355 88 rfl)
theorem fm_variableOf_142 (v3 : Int) (v4 : Int) (v5 : Int) (s : iS) : Fm Prod.snd L_m_variableOf G_m_variableOf s (m_variableOf_142 v3 v4 v5 s) := fm_gd (fm_if (fm_gd (fm_if (fm_some md_refl) (fm_some md_refl))) (fm_some md_refl))
noncomputable def m_variableOf_16 (v1 : Int) (v2 : Int) (v3 : Int) (v4 : Int) (v5 : Int) (v6 : Int) (s : iS) : Option (Int × iS) := (lp (L := Int × Int × Int × Int × iS) (E := Int × Int × Int × iS) (fun l => m_variableOf_16b v1 v2 (l.1) (l.2.1) (l.2.2.1) (l.2.2.2.1) (l.2.2.2.2)) (v3, v4, v5, v6, s)).bind (fun e => m_variableOf_142 (e.1) (e.2.1) (e.2.2.1) (e.2.2.2))
theorem tm_variableOf_16 (w : ev_W) (d : Nat) (hd : 1 ≤ d) (v1 : Int) (v2 : Int) (v3 : Int) (v4 : Int) (v5 : Int) (v6 : Int) (s : iS) : Ew hT w d 355 16 [(0, .ref (tb_nK + 121)), (1, iv v1), (2, iv v2), (3, iv v3), (4, iv v4), (5, iv v5), (6, iv v6)] [] s (Ci hT) (m_variableOf_16 v1 v2 v3 v4 v5 v6 s) := by
  unfold m_variableOf_16
  refine e_lp (L := Int × Int × Int × Int × iS) (E := Int × Int × Int × iS) (LO := fun l => [(0, .ref (tb_nK + 121)), (1, iv v1), (2, iv v2), (3, iv (l.1)), (4, iv (l.2.1)), (5, iv (l.2.2.1)), (6, iv (l.2.2.2.1))]) (LS := fun l => l.2.2.2.2) (CE := fun e r => ev w d 355 142 [(3, iv (e.1)), (4, iv (e.2.1)), (5, iv (e.2.2.1))] [] (hT (e.2.2.2)) r) (fun l => tm_variableOf_16b w d hd _ _ _ _ _ _ _) ?_ (v3, v4, v5, v6, s)
  intro e
  show Ew hT w d 355 142 [(3, iv (e.1)), (4, iv (e.2.1)), (5, iv (e.2.2.1))] [] e.2.2.2 (Ci hT) _
  refine e_pk [3, 4, 5] rfl rfl ?_
  exact tm_variableOf_142 w d hd _ _ _ _
theorem fm_variableOf_16 (v1 : Int) (v2 : Int) (v3 : Int) (v4 : Int) (v5 : Int) (v6 : Int) (s : iS) : Fm Prod.snd L_m_variableOf G_m_variableOf s (m_variableOf_16 v1 v2 v3 v4 v5 v6 s) := by
  unfold m_variableOf_16
  refine fm_lp (A := Int × Int × Int × Int × iS) (E := Int × Int × Int × iS) (LS := fun l => l.2.2.2.2) (LE := fun e => e.2.2.2) ?_ ?_ (v3, v4, v5, v6, s)
  · exact fun l => fm_variableOf_16b _ _ _ _ _ _ _
  · exact (fun e => fm_variableOf_142 _ _ _ _)
noncomputable def m_variableOf (v1 : Int) (v2 : Int) (s : iS) : Option (Int × iS) := m_variableOf_16 v1 v2 (-1) (-1) (-1) ((s 121 25) - 1) s
theorem tm_variableOf (w : ev_W) (d : Nat) (hd : 1 ≤ d) (v1 : Int) (v2 : Int) (s : iS) : Ew hT w d 355 0 [(0, .ref (tb_nK + 121)), (1, iv v1), (2, iv v2)] [] s (Ci hT) (m_variableOf v1 v2 s) := by
  unfold m_variableOf
  refine e_op 1 em_355 (ce_at ce_355 0 rfl) rfl rfl ?_
  refine e_mv 2 em_355 (ce_at ce_355 1 rfl) rfl rfl ?_
  refine e_op 3 em_355 (ce_at ce_355 2 rfl) rfl rfl ?_
  refine e_mv 5 em_355 (ce_at ce_355 3 rfl) rfl rfl ?_
  refine e_op 6 em_355 (ce_at ce_355 4 rfl) rfl rfl ?_
  refine e_mv 8 em_355 (ce_at ce_355 5 rfl) rfl rfl ?_
  refine e_mv 9 em_355 (ce_at ce_355 6 rfl) rfl rfl ?_
  refine e_get 12 em_355 (ce_at ce_355 7 rfl) tq_121 rfl rfl ?_
  refine e_op 13 em_355 (ce_at ce_355 8 rfl) rfl rfl ?_
  refine e_isub 14 em_355 rfl (ce_at ce_355 9 rfl) ?_
  refine e_mv 16 em_355 (ce_at ce_355 10 rfl) rfl rfl ?_
  refine e_pk [0, 1, 2, 3, 4, 5, 6] rfl rfl ?_
  exact tm_variableOf_16 w d hd _ _ _ _ _ _ _
theorem fm_variableOf (v1 : Int) (v2 : Int) (s : iS) : Fm Prod.snd L_m_variableOf G_m_variableOf s (m_variableOf v1 v2 s) := fm_variableOf_16 _ _ _ _ _ _ _
/-! m_checkVariable -/
def L_m_checkVariable : List Nat := []
def G_m_checkVariable : List (Nat × Nat) := [(121, 69), (121, 70)]
noncomputable def m_checkVariable (v1 : Int) (v2 : Int) (v3 : Int) (s : iS) : Option (Int × iS) := gd (rg v2) (if v2 = (-1) then some (0, s) else gd (0 ≤ v2 ∧ v2 < 1100) (gd (rg (s 138 v2.toNat)) (if (s 138 v2.toNat) = (-1) then gd (rg (s 139 v2.toNat)) (if (s 139 v2.toNat) = 1 then gd (0 ≤ v1 ∧ v1 < 61) (gd (rg (s 131 v1.toNat)) (if (s 131 v1.toNat) = 2 then bd (m_note 6 v3 s) (fun _ s11 => some (0, s11)) else some (0, s))) else some (0, s)) else some (0, s))))
theorem tm_checkVariable (w : ev_W) (d : Nat) (hd : 1 ≤ d) (v1 : Int) (v2 : Int) (v3 : Int) (s : iS) : Ew hT w d 356 0 [(0, .ref (tb_nK + 121)), (1, iv v1), (2, iv v2), (3, iv v3)] [] s (Cv hT) (m_checkVariable v1 v2 v3 s) := by
  unfold m_checkVariable
  refine e_mv 1 em_356 (ce_at ce_356 0 rfl) rfl rfl ?_
  refine e_op 2 em_356 (ce_at ce_356 1 rfl) rfl rfl ?_
  refine e_gd fun g1 => ?_
  refine e_cmeq 42 5 em_356 rfl rfl (ce_at ce_356 2 rfl) g1 (by decide) (fun h2 => ?_) (fun h2 => ?_)
  · exact e_retv em_356 (ce_at ce_356 25 rfl)
  · refine e_mv 6 em_356 (ce_at ce_356 3 rfl) rfl rfl ?_
    refine e_getr 9 em_356 (ce_at ce_356 4 rfl) tq_121 rfl rfl ?_
    refine e_mv 10 em_356 (ce_at ce_356 5 rfl) rfl rfl ?_
    refine e_gd fun g3 => ?_
    refine e_ild 11 em_356 (ce_at ce_356 6 rfl) tq_138 (by decide) g3 rfl ?_
    refine e_op 12 em_356 (ce_at ce_356 7 rfl) rfl rfl ?_
    refine e_gd fun g4 => ?_
    refine e_cmne 42 15 em_356 rfl rfl (ce_at ce_356 8 rfl) g4 (by decide) (fun h5 => ?_) (fun h5 => ?_)
    · exact e_retv em_356 (ce_at ce_356 25 rfl)
    · refine e_mv 16 em_356 (ce_at ce_356 9 rfl) rfl rfl ?_
      refine e_getr 19 em_356 (ce_at ce_356 10 rfl) tq_121 rfl rfl ?_
      refine e_mv 20 em_356 (ce_at ce_356 11 rfl) rfl rfl ?_
      refine e_ild 21 em_356 (ce_at ce_356 12 rfl) tq_139 (by decide) g3 rfl ?_
      refine e_op 22 em_356 (ce_at ce_356 13 rfl) rfl rfl ?_
      refine e_gd fun g6 => ?_
      refine e_cmne 42 25 em_356 rfl rfl (ce_at ce_356 14 rfl) g6 (by decide) (fun h7 => ?_) (fun h7 => ?_)
      · exact e_retv em_356 (ce_at ce_356 25 rfl)
      · refine e_mv 26 em_356 (ce_at ce_356 15 rfl) rfl rfl ?_
        refine e_getr 29 em_356 (ce_at ce_356 16 rfl) tq_121 rfl rfl ?_
        refine e_mv 30 em_356 (ce_at ce_356 17 rfl) rfl rfl ?_
        refine e_gd fun g8 => ?_
        refine e_ild 31 em_356 (ce_at ce_356 18 rfl) tq_131 (by decide) g8 rfl ?_
        refine e_op 32 em_356 (ce_at ce_356 19 rfl) rfl rfl ?_
        refine e_gd fun g9 => ?_
        refine e_cmne 42 35 em_356 rfl rfl (ce_at ce_356 20 rfl) g9 (by decide) (fun h10 => ?_) (fun h10 => ?_)
        · exact e_retv em_356 (ce_at ce_356 25 rfl)
        · refine e_mv 36 em_356 (ce_at ce_356 21 rfl) rfl rfl ?_
          refine e_bip 38 em_356 (ce_at ce_356 22 rfl) (by decide) rfl ?_
          refine e_mv 39 em_356 (ce_at ce_356 23 rfl) rfl rfl ?_
          refine e_ivv 42 em_356 (ce_at ce_356 24 rfl) (by omega) (iv_v2 (by decide) tq_121 rfl) em_351 (Nat.le_of_ble_eq_true rfl) rfl (tm_note w (d - 1) (by omega) _ _ _) (fun r11 s11 => ?_)
          exact e_retv em_356 (ce_at ce_356 25 rfl)
theorem fm_checkVariable (v1 : Int) (v2 : Int) (v3 : Int) (s : iS) : Fm Prod.snd L_m_checkVariable G_m_checkVariable s (m_checkVariable v1 v2 v3 s) := fm_gd (fm_if (fm_some md_refl) (fm_gd (fm_gd (fm_if (fm_gd (fm_if (fm_gd (fm_gd (fm_if (fm_bd (fm_sub (fm_note _ _ _) (mem_sub_L rfl) (mem_sub_F rfl)) (fun r11 s11 => fm_some md_refl)) (fm_some md_refl)))) (fm_some md_refl))) (fm_some md_refl)))))
/-! m_checkItems -/
def L_m_checkItems : List Nat := [145]
def G_m_checkItems : List (Nat × Nat) := [(121, 69), (121, 70)]
def m_checkItems_2C (w : ev_W) (d : Nat) : (Int × iS) ⊕ (iS) → am_E → Prop := fun q r => q.elim (fun l => ev w d 354 2 ((fun l => [(0, .ref (tb_nK + 121)), (1, iv (l.1))]) l) [] (hT ((fun l => l.2) l)) r) (fun e => (fun e r => ev w d 354 126 [] [] (hT (e)) r) e r)
noncomputable def m_checkItems_101 (v1 : Int) (v2 : Int) (v3 : Int) (s : iS) : Option ((Int × iS) ⊕ (iS)) := gd (0 ≤ v1 ∧ v1 < 5000) (bd (m_checkVariable v2 v3 (s 147 v1.toNat) s) (fun _ s2 => lt' (up s2 145 v1.toNat v3) (fun s3 => some (.inl ((v1 + 1), s3)))))
theorem tm_checkItems_101 (w : ev_W) (d : Nat) (hd : 2 ≤ d) (v1 : Int) (v2 : Int) (v3 : Int) (s : iS) : Ew hT w d 354 101 [(0, .ref (tb_nK + 121)), (1, iv v1), (2, iv v2), (3, iv v3)] [] s (m_checkItems_2C w d) (m_checkItems_101 v1 v2 v3 s) := by
  unfold m_checkItems_101
  refine e_mv 102 em_354 (ce_at ce_354 61 rfl) rfl rfl ?_
  refine e_mv 103 em_354 (ce_at ce_354 62 rfl) rfl rfl ?_
  refine e_mv 104 em_354 (ce_at ce_354 63 rfl) rfl rfl ?_
  refine e_mv 105 em_354 (ce_at ce_354 64 rfl) rfl rfl ?_
  refine e_getr 108 em_354 (ce_at ce_354 65 rfl) tq_121 rfl rfl ?_
  refine e_mv 109 em_354 (ce_at ce_354 66 rfl) rfl rfl ?_
  refine e_gd fun g1 => ?_
  refine e_ild 110 em_354 (ce_at ce_354 67 rfl) tq_147 (by decide) g1 rfl ?_
  refine e_ivv 113 em_354 (ce_at ce_354 68 rfl) (by omega) (iv_v3 (by decide) tq_121 rfl) em_356 (Nat.le_of_ble_eq_true rfl) rfl (tm_checkVariable w (d - 1) (by omega) _ _ _ _) (fun r2 s2 => ?_)
  refine e_mv 114 em_354 (ce_at ce_354 69 rfl) rfl rfl ?_
  refine e_getr 117 em_354 (ce_at ce_354 70 rfl) tq_121 rfl rfl ?_
  refine e_mv 118 em_354 (ce_at ce_354 71 rfl) rfl rfl ?_
  refine e_mv 119 em_354 (ce_at ce_354 72 rfl) rfl rfl ?_
  refine e_ist 120 em_354 (ce_at ce_354 73 rfl) tq_145 (by decide) g1 rfl (fun s3 => ?_)
  refine e_iinc 123 em_354 (ce_at ce_354 74 rfl) rfl (by decide) rfl ?_
  refine e_goto em_354 2 (ce_at ce_354 75 rfl) rfl ?_
  refine e_pk [0, 1] rfl rfl ?_
  exact e_out (fun r h => h)
theorem fm_checkItems_101 (v1 : Int) (v2 : Int) (v3 : Int) (s : iS) : Fm (fun r : (Int × iS) ⊕ (iS) => r.elim (fun l => l.2) (fun e => e)) L_m_checkItems G_m_checkItems s (m_checkItems_101 v1 v2 v3 s) := fm_gd (fm_bd (fm_sub (fm_checkVariable _ _ _ _) (mem_sub_L rfl) (mem_sub_F rfl)) (fun r2 s2 => fm_lt (md_upL (mem_L rfl)) (fun s3 => fm_some md_refl)))
noncomputable def m_checkItems_73 (v1 : Int) (v2 : Int) (s : iS) : Option ((Int × iS) ⊕ (iS)) := gd (0 ≤ v1 ∧ v1 < 5000) (bd (m_variableOf v2 (s 147 v1.toNat) s) (fun r2 s2 => gd (rg r2) (if r2 = (-1) then bd (m_note 4 (s2 147 v1.toNat) s2) (fun _ s5 => m_checkItems_101 v1 v2 r2 s5) else m_checkItems_101 v1 v2 r2 s2)))
theorem tm_checkItems_73 (w : ev_W) (d : Nat) (hd : 2 ≤ d) (v1 : Int) (v2 : Int) (s : iS) : Ew hT w d 354 73 [(0, .ref (tb_nK + 121)), (1, iv v1), (2, iv v2)] [] s (m_checkItems_2C w d) (m_checkItems_73 v1 v2 s) := by
  unfold m_checkItems_73
  refine e_mv 74 em_354 (ce_at ce_354 43 rfl) rfl rfl ?_
  refine e_mv 75 em_354 (ce_at ce_354 44 rfl) rfl rfl ?_
  refine e_mv 76 em_354 (ce_at ce_354 45 rfl) rfl rfl ?_
  refine e_getr 79 em_354 (ce_at ce_354 46 rfl) tq_121 rfl rfl ?_
  refine e_mv 80 em_354 (ce_at ce_354 47 rfl) rfl rfl ?_
  refine e_gd fun g1 => ?_
  refine e_ild 81 em_354 (ce_at ce_354 48 rfl) tq_147 (by decide) g1 rfl ?_
  refine e_ivi 84 em_354 (ce_at ce_354 49 rfl) (by omega) (iv_v2 (by decide) tq_121 rfl) em_355 (Nat.le_of_ble_eq_true rfl) rfl (tm_variableOf w (d - 1) (by omega) _ _ _) (fun r2 s2 => ?_)
  refine e_mv 85 em_354 (ce_at ce_354 50 rfl) rfl rfl ?_
  refine e_mv 86 em_354 (ce_at ce_354 51 rfl) rfl rfl ?_
  refine e_op 87 em_354 (ce_at ce_354 52 rfl) rfl rfl ?_
  refine e_gd fun g3 => ?_
  refine e_cmne 101 90 em_354 rfl rfl (ce_at ce_354 53 rfl) g3 (by decide) (fun h4 => ?_) (fun h4 => ?_)
  · refine e_pk [0, 1, 2, 3] rfl rfl ?_
    exact tm_checkItems_101 w d hd _ _ _ _
  · refine e_mv 91 em_354 (ce_at ce_354 54 rfl) rfl rfl ?_
    refine e_op 92 em_354 (ce_at ce_354 55 rfl) rfl rfl ?_
    refine e_mv 93 em_354 (ce_at ce_354 56 rfl) rfl rfl ?_
    refine e_getr 96 em_354 (ce_at ce_354 57 rfl) tq_121 rfl rfl ?_
    refine e_mv 97 em_354 (ce_at ce_354 58 rfl) rfl rfl ?_
    refine e_ild 98 em_354 (ce_at ce_354 59 rfl) tq_147 (by decide) g1 rfl ?_
    refine e_ivv 101 em_354 (ce_at ce_354 60 rfl) (by omega) (iv_v2 (by decide) tq_121 rfl) em_351 (Nat.le_of_ble_eq_true rfl) rfl (tm_note w (d - 1) (by omega) _ _ _) (fun r5 s5 => ?_)
    refine e_pk [0, 1, 2, 3] rfl rfl ?_
    exact tm_checkItems_101 w d hd _ _ _ _
theorem fm_checkItems_73 (v1 : Int) (v2 : Int) (s : iS) : Fm (fun r : (Int × iS) ⊕ (iS) => r.elim (fun l => l.2) (fun e => e)) L_m_checkItems G_m_checkItems s (m_checkItems_73 v1 v2 s) := fm_gd (fm_bd (fm_sub (fm_variableOf _ _ _) (mem_sub_L rfl) (mem_sub_F rfl)) (fun r2 s2 => fm_gd (fm_if (fm_bd (fm_sub (fm_note _ _ _) (mem_sub_L rfl) (mem_sub_F rfl)) (fun r5 s5 => fm_checkItems_101 _ _ _ _)) (fm_checkItems_101 _ _ _ _))))
noncomputable def m_checkItems_49 (v1 : Int) (v2 : Int) (s : iS) : Option ((Int × iS) ⊕ (iS)) := gd (0 ≤ v1 ∧ v1 < 5000) (gd (rg (s 144 v1.toNat)) (if (s 144 v1.toNat) = 4 then m_checkItems_73 v1 v2 s else if (s 144 v1.toNat) = 13 then m_checkItems_73 v1 v2 s else some (.inl ((v1 + 1), s))))
theorem tm_checkItems_49 (w : ev_W) (d : Nat) (hd : 2 ≤ d) (v1 : Int) (v2 : Int) (s : iS) : Ew hT w d 354 49 [(0, .ref (tb_nK + 121)), (1, iv v1), (2, iv v2)] [] s (m_checkItems_2C w d) (m_checkItems_49 v1 v2 s) := by
  unfold m_checkItems_49
  refine e_mv 50 em_354 (ce_at ce_354 30 rfl) rfl rfl ?_
  refine e_getr 53 em_354 (ce_at ce_354 31 rfl) tq_121 rfl rfl ?_
  refine e_mv 54 em_354 (ce_at ce_354 32 rfl) rfl rfl ?_
  refine e_gd fun g1 => ?_
  refine e_ild 55 em_354 (ce_at ce_354 33 rfl) tq_144 (by decide) g1 rfl ?_
  refine e_op 56 em_354 (ce_at ce_354 34 rfl) rfl rfl ?_
  refine e_gd fun g2 => ?_
  refine e_cmeq 73 59 em_354 rfl rfl (ce_at ce_354 35 rfl) g2 (by decide) (fun h3 => ?_) (fun h3 => ?_)
  · refine e_pk [0, 1, 2] rfl rfl ?_
    exact tm_checkItems_73 w d hd _ _ _
  · refine e_mv 60 em_354 (ce_at ce_354 36 rfl) rfl rfl ?_
    refine e_getr 63 em_354 (ce_at ce_354 37 rfl) tq_121 rfl rfl ?_
    refine e_mv 64 em_354 (ce_at ce_354 38 rfl) rfl rfl ?_
    refine e_ild 65 em_354 (ce_at ce_354 39 rfl) tq_144 (by decide) g1 rfl ?_
    refine e_bip 67 em_354 (ce_at ce_354 40 rfl) (by decide) rfl ?_
    refine e_cmeq 73 70 em_354 rfl rfl (ce_at ce_354 41 rfl) g2 (by decide) (fun h4 => ?_) (fun h4 => ?_)
    · refine e_pk [0, 1, 2] rfl rfl ?_
      exact tm_checkItems_73 w d hd _ _ _
    · refine e_goto em_354 120 (ce_at ce_354 42 rfl) rfl ?_
      refine e_iinc 123 em_354 (ce_at ce_354 74 rfl) rfl (by decide) rfl ?_
      refine e_goto em_354 2 (ce_at ce_354 75 rfl) rfl ?_
      refine e_pk [0, 1] rfl rfl ?_
      exact e_out (fun r h => h)
theorem fm_checkItems_49 (v1 : Int) (v2 : Int) (s : iS) : Fm (fun r : (Int × iS) ⊕ (iS) => r.elim (fun l => l.2) (fun e => e)) L_m_checkItems G_m_checkItems s (m_checkItems_49 v1 v2 s) := fm_gd (fm_gd (fm_if (fm_checkItems_73 _ _ _) (fm_if (fm_checkItems_73 _ _ _) (fm_some md_refl))))
noncomputable def m_checkItems_2b (v1 : Int) (s : iS) : Option ((Int × iS) ⊕ (iS)) := gd (rg v1) (gd (rg (s 121 33)) (if (s 121 33) ≤ v1 then some (.inr s) else gd (0 ≤ v1 ∧ v1 < 5000) (gd (rg (s 144 v1.toNat)) (if (s 144 v1.toNat) = 3 then gd (0 ≤ (s 148 v1.toNat) ∧ (s 148 v1.toNat) < 61) (gd (rg (s 131 (s 148 v1.toNat).toNat)) (if (s 131 (s 148 v1.toNat).toNat) = 2 then bd (m_note 6 (s 147 v1.toNat) s) (fun _ s10 => m_checkItems_49 v1 (s 148 v1.toNat) s10) else m_checkItems_49 v1 (s 148 v1.toNat) s)) else m_checkItems_49 v1 (s 148 v1.toNat) s))))
theorem tm_checkItems_2b (w : ev_W) (d : Nat) (hd : 2 ≤ d) (v1 : Int) (s : iS) : Ew hT w d 354 2 [(0, .ref (tb_nK + 121)), (1, iv v1)] [] s (m_checkItems_2C w d) (m_checkItems_2b v1 s) := by
  unfold m_checkItems_2b
  refine e_mv 3 em_354 (ce_at ce_354 2 rfl) rfl rfl ?_
  refine e_mv 4 em_354 (ce_at ce_354 3 rfl) rfl rfl ?_
  refine e_get 7 em_354 (ce_at ce_354 4 rfl) tq_121 rfl rfl ?_
  refine e_gd fun g1 => ?_
  refine e_gd fun g2 => ?_
  refine e_cmge 126 10 em_354 rfl rfl (ce_at ce_354 5 rfl) g1 g2 (fun h3 => ?_) (fun h3 => ?_)
  · refine e_pk [] rfl rfl ?_
    exact e_out (fun r h => h)
  · refine e_mv 11 em_354 (ce_at ce_354 6 rfl) rfl rfl ?_
    refine e_getr 14 em_354 (ce_at ce_354 7 rfl) tq_121 rfl rfl ?_
    refine e_mv 15 em_354 (ce_at ce_354 8 rfl) rfl rfl ?_
    refine e_gd fun g4 => ?_
    refine e_ild 16 em_354 (ce_at ce_354 9 rfl) tq_148 (by decide) g4 rfl ?_
    refine e_mv 17 em_354 (ce_at ce_354 10 rfl) rfl rfl ?_
    refine e_mv 18 em_354 (ce_at ce_354 11 rfl) rfl rfl ?_
    refine e_getr 21 em_354 (ce_at ce_354 12 rfl) tq_121 rfl rfl ?_
    refine e_mv 22 em_354 (ce_at ce_354 13 rfl) rfl rfl ?_
    refine e_ild 23 em_354 (ce_at ce_354 14 rfl) tq_144 (by decide) g4 rfl ?_
    refine e_op 24 em_354 (ce_at ce_354 15 rfl) rfl rfl ?_
    refine e_gd fun g5 => ?_
    refine e_cmne 49 27 em_354 rfl rfl (ce_at ce_354 16 rfl) g5 (by decide) (fun h6 => ?_) (fun h6 => ?_)
    · refine e_pk [0, 1, 2] rfl rfl ?_
      exact tm_checkItems_49 w d hd _ _ _
    · refine e_mv 28 em_354 (ce_at ce_354 17 rfl) rfl rfl ?_
      refine e_getr 31 em_354 (ce_at ce_354 18 rfl) tq_121 rfl rfl ?_
      refine e_mv 32 em_354 (ce_at ce_354 19 rfl) rfl rfl ?_
      refine e_gd fun g7 => ?_
      refine e_ild 33 em_354 (ce_at ce_354 20 rfl) tq_131 (by decide) g7 rfl ?_
      refine e_op 34 em_354 (ce_at ce_354 21 rfl) rfl rfl ?_
      refine e_gd fun g8 => ?_
      refine e_cmne 49 37 em_354 rfl rfl (ce_at ce_354 22 rfl) g8 (by decide) (fun h9 => ?_) (fun h9 => ?_)
      · refine e_pk [0, 1, 2] rfl rfl ?_
        exact tm_checkItems_49 w d hd _ _ _
      · refine e_mv 38 em_354 (ce_at ce_354 23 rfl) rfl rfl ?_
        refine e_bip 40 em_354 (ce_at ce_354 24 rfl) (by decide) rfl ?_
        refine e_mv 41 em_354 (ce_at ce_354 25 rfl) rfl rfl ?_
        refine e_getr 44 em_354 (ce_at ce_354 26 rfl) tq_121 rfl rfl ?_
        refine e_mv 45 em_354 (ce_at ce_354 27 rfl) rfl rfl ?_
        refine e_ild 46 em_354 (ce_at ce_354 28 rfl) tq_147 (by decide) g4 rfl ?_
        refine e_ivv 49 em_354 (ce_at ce_354 29 rfl) (by omega) (iv_v2 (by decide) tq_121 rfl) em_351 (Nat.le_of_ble_eq_true rfl) rfl (tm_note w (d - 1) (by omega) _ _ _) (fun r10 s10 => ?_)
        refine e_pk [0, 1, 2] rfl rfl ?_
        exact tm_checkItems_49 w d hd _ _ _
theorem fm_checkItems_2b (v1 : Int) (s : iS) : Fm (fun r : (Int × iS) ⊕ (iS) => r.elim (fun l => l.2) (fun e => e)) L_m_checkItems G_m_checkItems s (m_checkItems_2b v1 s) := fm_gd (fm_gd (fm_if (fm_some md_refl) (fm_gd (fm_gd (fm_if (fm_gd (fm_gd (fm_if (fm_bd (fm_sub (fm_note _ _ _) (mem_sub_L rfl) (mem_sub_F rfl)) (fun r10 s10 => fm_checkItems_49 _ _ _)) (fm_checkItems_49 _ _ _)))) (fm_checkItems_49 _ _ _))))))
noncomputable def m_checkItems_2 (v1 : Int) (s : iS) : Option (Int × iS) := (lp (L := Int × iS) (E := iS) (fun l => m_checkItems_2b (l.1) (l.2)) (v1, s)).bind (fun e => some (0, e))
theorem tm_checkItems_2 (w : ev_W) (d : Nat) (hd : 2 ≤ d) (v1 : Int) (s : iS) : Ew hT w d 354 2 [(0, .ref (tb_nK + 121)), (1, iv v1)] [] s (Cv hT) (m_checkItems_2 v1 s) := by
  unfold m_checkItems_2
  refine e_lp (L := Int × iS) (E := iS) (LO := fun l => [(0, .ref (tb_nK + 121)), (1, iv (l.1))]) (LS := fun l => l.2) (CE := fun e r => ev w d 354 126 [] [] (hT (e)) r) (fun l => tm_checkItems_2b w d hd _ _) ?_ (v1, s)
  intro e
  show Ew hT w d 354 126 [] [] e (Cv hT) _
  exact e_retv em_354 (ce_at ce_354 76 rfl)
theorem fm_checkItems_2 (v1 : Int) (s : iS) : Fm Prod.snd L_m_checkItems G_m_checkItems s (m_checkItems_2 v1 s) := by
  unfold m_checkItems_2
  refine fm_lp (A := Int × iS) (E := iS) (LS := fun l => l.2) (LE := fun e => e) ?_ ?_ (v1, s)
  · exact fun l => fm_checkItems_2b _ _
  · exact (fun e => fm_some md_refl)
noncomputable def m_checkItems (s : iS) : Option (Int × iS) := m_checkItems_2 0 s
theorem tm_checkItems (w : ev_W) (d : Nat) (hd : 2 ≤ d) (s : iS) : Ew hT w d 354 0 [(0, .ref (tb_nK + 121))] [] s (Cv hT) (m_checkItems s) := by
  unfold m_checkItems
  refine e_op 1 em_354 (ce_at ce_354 0 rfl) rfl rfl ?_
  refine e_mv 2 em_354 (ce_at ce_354 1 rfl) rfl rfl ?_
  refine e_pk [0, 1] rfl rfl ?_
  exact tm_checkItems_2 w d hd _ _
theorem fm_checkItems (s : iS) : Fm Prod.snd L_m_checkItems G_m_checkItems s (m_checkItems s) := fm_checkItems_2 _ _
/-! m_subOf -/
def L_m_subOf : List Nat := []
def G_m_subOf : List (Nat × Nat) := []
def m_subOf_51C (w : ev_W) (d : Nat) (v1 : Int) (v2 : Int) : (Int × iS) ⊕ ((Int × iS) ⊕ (iS)) → am_E → Prop := fun q r => q.elim (fun l => ev w d 358 51 ((fun l => [(0, .ref (tb_nK + 121)), (1, iv v1), (2, iv v2), (3, iv (l.1))]) l) [] (hT ((fun l => l.2) l)) r) (fun e => (fun e r => e.elim (fun e => ev w d 358 86 [(3, iv (e.1))] [] (hT (e.2)) r) (fun e => ev w d 358 94 [] [] (hT (e)) r)) e r)
noncomputable def m_subOf_51b (v1 : Int) (v2 : Int) (v3 : Int) (s : iS) : Option ((Int × iS) ⊕ ((Int × iS) ⊕ (iS))) := gd (rg v3) (gd (rg (s 121 17)) (if (s 121 17) ≤ v3 then some (.inr (.inr s)) else gd (0 ≤ v3 ∧ v3 < 61) (gd (rg (s 130 v3.toNat)) (gd (rg (v1 - 8)) (if (s 130 v3.toNat) = (v1 - 8) then bd (m_like (s 132 v3.toNat) v2 s) (fun r8 s8 => gd (rg r8) (if r8 = 0 then some (.inl ((v3 + 1), s8)) else some (.inr (.inl (v3, s8))))) else some (.inl ((v3 + 1), s)))))))
theorem tm_subOf_51b (w : ev_W) (d : Nat) (hd : 1 ≤ d) (v1 : Int) (v2 : Int) (v3 : Int) (s : iS) : Ew hT w d 358 51 [(0, .ref (tb_nK + 121)), (1, iv v1), (2, iv v2), (3, iv v3)] [] s (m_subOf_51C w d v1 v2) (m_subOf_51b v1 v2 v3 s) := by
  unfold m_subOf_51b
  refine e_mv 52 em_358 (ce_at ce_358 32 rfl) rfl rfl ?_
  refine e_mv 53 em_358 (ce_at ce_358 33 rfl) rfl rfl ?_
  refine e_get 56 em_358 (ce_at ce_358 34 rfl) tq_121 rfl rfl ?_
  refine e_gd fun g1 => ?_
  refine e_gd fun g2 => ?_
  refine e_cmge 94 59 em_358 rfl rfl (ce_at ce_358 35 rfl) g1 g2 (fun h3 => ?_) (fun h3 => ?_)
  · refine e_pk [] rfl rfl ?_
    exact e_out (fun r h => h)
  · refine e_mv 60 em_358 (ce_at ce_358 36 rfl) rfl rfl ?_
    refine e_getr 63 em_358 (ce_at ce_358 37 rfl) tq_121 rfl rfl ?_
    refine e_mv 64 em_358 (ce_at ce_358 38 rfl) rfl rfl ?_
    refine e_gd fun g4 => ?_
    refine e_ild 65 em_358 (ce_at ce_358 39 rfl) tq_130 (by decide) g4 rfl ?_
    refine e_mv 66 em_358 (ce_at ce_358 40 rfl) rfl rfl ?_
    refine e_bip 68 em_358 (ce_at ce_358 41 rfl) (by decide) rfl ?_
    refine e_isub 69 em_358 rfl (ce_at ce_358 42 rfl) ?_
    refine e_gd fun g5 => ?_
    refine e_gd fun g6 => ?_
    refine e_cmne 88 72 em_358 rfl rfl (ce_at ce_358 43 rfl) g5 g6 (fun h7 => ?_) (fun h7 => ?_)
    · refine e_iinc 91 em_358 (ce_at ce_358 54 rfl) rfl (by decide) rfl ?_
      refine e_goto em_358 51 (ce_at ce_358 55 rfl) rfl ?_
      refine e_pk [0, 1, 2, 3] rfl rfl ?_
      exact e_out (fun r h => h)
    · refine e_mv 73 em_358 (ce_at ce_358 44 rfl) rfl rfl ?_
      refine e_mv 74 em_358 (ce_at ce_358 45 rfl) rfl rfl ?_
      refine e_getr 77 em_358 (ce_at ce_358 46 rfl) tq_121 rfl rfl ?_
      refine e_mv 78 em_358 (ce_at ce_358 47 rfl) rfl rfl ?_
      refine e_ild 79 em_358 (ce_at ce_358 48 rfl) tq_132 (by decide) g4 rfl ?_
      refine e_mv 80 em_358 (ce_at ce_358 49 rfl) rfl rfl ?_
      refine e_ivi 83 em_358 (ce_at ce_358 50 rfl) (by omega) (iv_v2 (by decide) tq_121 rfl) em_350 (Nat.le_of_ble_eq_true rfl) rfl (tm_like w (d - 1) (by omega) _ _ _) (fun r8 s8 => ?_)
      refine e_gd fun g9 => ?_
      refine e_ifeq 88 86 em_358 rfl rfl (ce_at ce_358 51 rfl) g9 (fun h10 => ?_) (fun h10 => ?_)
      · refine e_iinc 91 em_358 (ce_at ce_358 54 rfl) rfl (by decide) rfl ?_
        refine e_goto em_358 51 (ce_at ce_358 55 rfl) rfl ?_
        refine e_pk [0, 1, 2, 3] rfl rfl ?_
        exact e_out (fun r h => h)
      · refine e_pk [3] rfl rfl ?_
        exact e_out (fun r h => h)
theorem fm_subOf_51b (v1 : Int) (v2 : Int) (v3 : Int) (s : iS) : Fm (fun r : (Int × iS) ⊕ ((Int × iS) ⊕ (iS)) => r.elim (fun l => l.2) (fun e => e.elim (fun e => e.2) (fun e => e))) L_m_subOf G_m_subOf s (m_subOf_51b v1 v2 v3 s) := fm_gd (fm_gd (fm_if (fm_some md_refl) (fm_gd (fm_gd (fm_gd (fm_if (fm_bd (fm_sub (fm_like _ _ _) (mem_sub_L rfl) (mem_sub_F rfl)) (fun r8 s8 => fm_gd (fm_if (fm_some md_refl) (fm_some md_refl)))) (fm_some md_refl)))))))
noncomputable def m_subOf_51 (v1 : Int) (v2 : Int) (v3 : Int) (s : iS) : Option (Int × iS) := (lp (L := Int × iS) (E := (Int × iS) ⊕ (iS)) (fun l => m_subOf_51b v1 v2 (l.1) (l.2)) (v3, s)).bind (fun e => e.elim (fun e => some (e.1, e.2)) (fun e => some ((-1), e)))
theorem tm_subOf_51 (w : ev_W) (d : Nat) (hd : 1 ≤ d) (v1 : Int) (v2 : Int) (v3 : Int) (s : iS) : Ew hT w d 358 51 [(0, .ref (tb_nK + 121)), (1, iv v1), (2, iv v2), (3, iv v3)] [] s (Ci hT) (m_subOf_51 v1 v2 v3 s) := by
  unfold m_subOf_51
  refine e_lp (L := Int × iS) (E := (Int × iS) ⊕ (iS)) (LO := fun l => [(0, .ref (tb_nK + 121)), (1, iv v1), (2, iv v2), (3, iv (l.1))]) (LS := fun l => l.2) (CE := fun e r => e.elim (fun e => ev w d 358 86 [(3, iv (e.1))] [] (hT (e.2)) r) (fun e => ev w d 358 94 [] [] (hT (e)) r)) (fun l => tm_subOf_51b w d hd _ _ _ _) ?_ (v3, s)
  rintro (e | e)
  · show Ew hT w d 358 86 [(3, iv (e.1))] [] e.2 (Ci hT) _
    refine e_mv 87 em_358 (ce_at ce_358 52 rfl) rfl rfl ?_
    exact e_reti em_358 (ce_at ce_358 53 rfl)
  · show Ew hT w d 358 94 [] [] e (Ci hT) _
    refine e_op 95 em_358 (ce_at ce_358 56 rfl) rfl rfl ?_
    exact e_reti em_358 (ce_at ce_358 57 rfl)
theorem fm_subOf_51 (v1 : Int) (v2 : Int) (v3 : Int) (s : iS) : Fm Prod.snd L_m_subOf G_m_subOf s (m_subOf_51 v1 v2 v3 s) := by
  unfold m_subOf_51
  refine fm_lp (A := Int × iS) (E := (Int × iS) ⊕ (iS)) (LS := fun l => l.2) (LE := fun e => e.elim (fun e => e.2) (fun e => e)) ?_ ?_ (v3, s)
  · exact fun l => fm_subOf_51b _ _ _ _
  · exact (by rintro (e | e); exact fm_some md_refl; exact fm_some md_refl)
def m_subOf_13C (w : ev_W) (d : Nat) (v1 : Int) (v2 : Int) : (Int × iS) ⊕ ((Int × iS) ⊕ (iS)) → am_E → Prop := fun q r => q.elim (fun l => ev w d 358 13 ((fun l => [(0, .ref (tb_nK + 121)), (1, iv v1), (2, iv v2), (3, iv (l.1))]) l) [] (hT ((fun l => l.2) l)) r) (fun e => (fun e r => e.elim (fun e => ev w d 358 39 [(3, iv (e.1))] [] (hT (e.2)) r) (fun e => ev w d 358 47 [] [] (hT (e)) r)) e r)
noncomputable def m_subOf_13b (v1 : Int) (v2 : Int) (v3 : Int) (s : iS) : Option ((Int × iS) ⊕ ((Int × iS) ⊕ (iS))) := gd (0 ≤ (v1 + 1) ∧ (v1 + 1) < 9) (gd (rg v3) (gd (rg (s 164 (v1 + 1).toNat)) (if (s 164 (v1 + 1).toNat) ≤ v3 then some (.inr (.inr s)) else gd (0 ≤ v3 ∧ v3 < 60) (bd (m_isSystem v2 (s 166 v3.toNat) s) (fun r6 s6 => gd (rg r6) (if r6 = 0 then some (.inl ((v3 + 1), s6)) else some (.inr (.inl (v3, s6)))))))))
theorem tm_subOf_13b (w : ev_W) (d : Nat) (hd : 1 ≤ d) (v1 : Int) (v2 : Int) (v3 : Int) (s : iS) : Ew hT w d 358 13 [(0, .ref (tb_nK + 121)), (1, iv v1), (2, iv v2), (3, iv v3)] [] s (m_subOf_13C w d v1 v2) (m_subOf_13b v1 v2 v3 s) := by
  unfold m_subOf_13b
  refine e_mv 14 em_358 (ce_at ce_358 8 rfl) rfl rfl ?_
  refine e_mv 15 em_358 (ce_at ce_358 9 rfl) rfl rfl ?_
  refine e_getr 18 em_358 (ce_at ce_358 10 rfl) tq_121 rfl rfl ?_
  refine e_mv 19 em_358 (ce_at ce_358 11 rfl) rfl rfl ?_
  refine e_op 20 em_358 (ce_at ce_358 12 rfl) rfl rfl ?_
  refine e_iadd 21 em_358 rfl (ce_at ce_358 13 rfl) ?_
  refine e_gd fun g1 => ?_
  refine e_ild 22 em_358 (ce_at ce_358 14 rfl) tq_164 (by decide) g1 rfl ?_
  refine e_gd fun g2 => ?_
  refine e_gd fun g3 => ?_
  refine e_cmge 47 25 em_358 rfl rfl (ce_at ce_358 15 rfl) g2 g3 (fun h4 => ?_) (fun h4 => ?_)
  · refine e_pk [] rfl rfl ?_
    exact e_out (fun r h => h)
  · refine e_mv 26 em_358 (ce_at ce_358 16 rfl) rfl rfl ?_
    refine e_mv 27 em_358 (ce_at ce_358 17 rfl) rfl rfl ?_
    refine e_mv 28 em_358 (ce_at ce_358 18 rfl) rfl rfl ?_
    refine e_getr 31 em_358 (ce_at ce_358 19 rfl) tq_121 rfl rfl ?_
    refine e_mv 32 em_358 (ce_at ce_358 20 rfl) rfl rfl ?_
    refine e_gd fun g5 => ?_
    refine e_ild 33 em_358 (ce_at ce_358 21 rfl) tq_166 (by decide) g5 rfl ?_
    refine e_ivi 36 em_358 (ce_at ce_358 22 rfl) (by omega) (iv_v2 (by decide) tq_121 rfl) em_349 (Nat.le_of_ble_eq_true rfl) rfl (tm_isSystem w (d - 1) (by omega) _ _ _) (fun r6 s6 => ?_)
    refine e_gd fun g7 => ?_
    refine e_ifeq 41 39 em_358 rfl rfl (ce_at ce_358 23 rfl) g7 (fun h8 => ?_) (fun h8 => ?_)
    · refine e_iinc 44 em_358 (ce_at ce_358 26 rfl) rfl (by decide) rfl ?_
      refine e_goto em_358 13 (ce_at ce_358 27 rfl) rfl ?_
      refine e_pk [0, 1, 2, 3] rfl rfl ?_
      exact e_out (fun r h => h)
    · refine e_pk [3] rfl rfl ?_
      exact e_out (fun r h => h)
theorem fm_subOf_13b (v1 : Int) (v2 : Int) (v3 : Int) (s : iS) : Fm (fun r : (Int × iS) ⊕ ((Int × iS) ⊕ (iS)) => r.elim (fun l => l.2) (fun e => e.elim (fun e => e.2) (fun e => e))) L_m_subOf G_m_subOf s (m_subOf_13b v1 v2 v3 s) := fm_gd (fm_gd (fm_gd (fm_if (fm_some md_refl) (fm_gd (fm_bd (fm_sub (fm_isSystem _ _ _) (mem_sub_L rfl) (mem_sub_F rfl)) (fun r6 s6 => fm_gd (fm_if (fm_some md_refl) (fm_some md_refl))))))))
noncomputable def m_subOf_13 (v1 : Int) (v2 : Int) (v3 : Int) (s : iS) : Option (Int × iS) := (lp (L := Int × iS) (E := (Int × iS) ⊕ (iS)) (fun l => m_subOf_13b v1 v2 (l.1) (l.2)) (v3, s)).bind (fun e => e.elim (fun e => some (e.1, e.2)) (fun e => some ((-1), e)))
theorem tm_subOf_13 (w : ev_W) (d : Nat) (hd : 1 ≤ d) (v1 : Int) (v2 : Int) (v3 : Int) (s : iS) : Ew hT w d 358 13 [(0, .ref (tb_nK + 121)), (1, iv v1), (2, iv v2), (3, iv v3)] [] s (Ci hT) (m_subOf_13 v1 v2 v3 s) := by
  unfold m_subOf_13
  refine e_lp (L := Int × iS) (E := (Int × iS) ⊕ (iS)) (LO := fun l => [(0, .ref (tb_nK + 121)), (1, iv v1), (2, iv v2), (3, iv (l.1))]) (LS := fun l => l.2) (CE := fun e r => e.elim (fun e => ev w d 358 39 [(3, iv (e.1))] [] (hT (e.2)) r) (fun e => ev w d 358 47 [] [] (hT (e)) r)) (fun l => tm_subOf_13b w d hd _ _ _ _) ?_ (v3, s)
  rintro (e | e)
  · show Ew hT w d 358 39 [(3, iv (e.1))] [] e.2 (Ci hT) _
    refine e_mv 40 em_358 (ce_at ce_358 24 rfl) rfl rfl ?_
    exact e_reti em_358 (ce_at ce_358 25 rfl)
  · show Ew hT w d 358 47 [] [] e (Ci hT) _
    refine e_op 48 em_358 (ce_at ce_358 28 rfl) rfl rfl ?_
    exact e_reti em_358 (ce_at ce_358 29 rfl)
theorem fm_subOf_13 (v1 : Int) (v2 : Int) (v3 : Int) (s : iS) : Fm Prod.snd L_m_subOf G_m_subOf s (m_subOf_13 v1 v2 v3 s) := by
  unfold m_subOf_13
  refine fm_lp (A := Int × iS) (E := (Int × iS) ⊕ (iS)) (LS := fun l => l.2) (LE := fun e => e.elim (fun e => e.2) (fun e => e)) ?_ ?_ (v3, s)
  · exact fun l => fm_subOf_13b _ _ _ _
  · exact (by rintro (e | e); exact fm_some md_refl; exact fm_some md_refl)
noncomputable def m_subOf (v1 : Int) (v2 : Int) (s : iS) : Option (Int × iS) := gd (rg v1) (if 8 ≤ v1 then m_subOf_51 v1 v2 0 s else gd (0 ≤ v1 ∧ v1 < 9) (m_subOf_13 v1 v2 (s 164 v1.toNat) s))
theorem tm_subOf (w : ev_W) (d : Nat) (hd : 1 ≤ d) (v1 : Int) (v2 : Int) (s : iS) : Ew hT w d 358 0 [(0, .ref (tb_nK + 121)), (1, iv v1), (2, iv v2)] [] s (Ci hT) (m_subOf v1 v2 s) := by
  unfold m_subOf
  refine e_mv 1 em_358 (ce_at ce_358 0 rfl) rfl rfl ?_
  refine e_bip 3 em_358 (ce_at ce_358 1 rfl) (by decide) rfl ?_
  refine e_gd fun g1 => ?_
  refine e_cmge 49 6 em_358 rfl rfl (ce_at ce_358 2 rfl) g1 (by decide) (fun h2 => ?_) (fun h2 => ?_)
  · refine e_op 50 em_358 (ce_at ce_358 30 rfl) rfl rfl ?_
    refine e_mv 51 em_358 (ce_at ce_358 31 rfl) rfl rfl ?_
    refine e_pk [0, 1, 2, 3] rfl rfl ?_
    exact tm_subOf_51 w d hd _ _ _ _
  · refine e_mv 7 em_358 (ce_at ce_358 3 rfl) rfl rfl ?_
    refine e_getr 10 em_358 (ce_at ce_358 4 rfl) tq_121 rfl rfl ?_
    refine e_mv 11 em_358 (ce_at ce_358 5 rfl) rfl rfl ?_
    refine e_gd fun g3 => ?_
    refine e_ild 12 em_358 (ce_at ce_358 6 rfl) tq_164 (by decide) g3 rfl ?_
    refine e_mv 13 em_358 (ce_at ce_358 7 rfl) rfl rfl ?_
    refine e_pk [0, 1, 2, 3] rfl rfl ?_
    exact tm_subOf_13 w d hd _ _ _ _
theorem fm_subOf (v1 : Int) (v2 : Int) (s : iS) : Fm Prod.snd L_m_subOf G_m_subOf s (m_subOf v1 v2 s) := fm_gd (fm_if (fm_subOf_51 _ _ _ _) (fm_gd (fm_subOf_13 _ _ _ _)))
/-! m_isMethod -/
def L_m_isMethod : List Nat := []
def G_m_isMethod : List (Nat × Nat) := []
noncomputable def m_isMethod (v1 : Int) (v2 : Int) (s : iS) : Option (Int × iS) := gd (rg v1) (if 8 ≤ v1 then gd (0 ≤ v2 ∧ v2 < 61) (gd (rg (s 131 v2.toNat)) (if (s 131 v2.toNat) = 3 then some (1, s) else some (0, s))) else gd (0 ≤ v2 ∧ v2 < 60) (gd ((s 167 v2.toNat) = 0 ∨ (s 167 v2.toNat) = 1) (some ((s 167 v2.toNat), s))))
theorem tm_isMethod (w : ev_W) (d : Nat) (hd : 0 ≤ d) (v1 : Int) (v2 : Int) (s : iS) : Ew hT w d 359 0 [(0, .ref (tb_nK + 121)), (1, iv v1), (2, iv v2)] [] s (Ci hT) (m_isMethod v1 v2 s) := by
  unfold m_isMethod
  refine e_mv 1 em_359 (ce_at ce_359 0 rfl) rfl rfl ?_
  refine e_bip 3 em_359 (ce_at ce_359 1 rfl) (by decide) rfl ?_
  refine e_gd fun g1 => ?_
  refine e_cmge 15 6 em_359 rfl rfl (ce_at ce_359 2 rfl) g1 (by decide) (fun h2 => ?_) (fun h2 => ?_)
  · refine e_mv 16 em_359 (ce_at ce_359 8 rfl) rfl rfl ?_
    refine e_getr 19 em_359 (ce_at ce_359 9 rfl) tq_121 rfl rfl ?_
    refine e_mv 20 em_359 (ce_at ce_359 10 rfl) rfl rfl ?_
    refine e_gd fun g3 => ?_
    refine e_ild 21 em_359 (ce_at ce_359 11 rfl) tq_131 (by decide) g3 rfl ?_
    refine e_op 22 em_359 (ce_at ce_359 12 rfl) rfl rfl ?_
    refine e_gd fun g4 => ?_
    refine e_cmne 29 25 em_359 rfl rfl (ce_at ce_359 13 rfl) g4 (by decide) (fun h5 => ?_) (fun h5 => ?_)
    · refine e_op 30 em_359 (ce_at ce_359 16 rfl) rfl rfl ?_
      exact e_retz em_359 (ce_at ce_359 17 rfl) (by decide)
    · refine e_op 26 em_359 (ce_at ce_359 14 rfl) rfl rfl ?_
      refine e_goto em_359 30 (ce_at ce_359 15 rfl) rfl ?_
      exact e_retz em_359 (ce_at ce_359 17 rfl) (by decide)
  · refine e_mv 7 em_359 (ce_at ce_359 3 rfl) rfl rfl ?_
    refine e_getr 10 em_359 (ce_at ce_359 4 rfl) tq_121 rfl rfl ?_
    refine e_mv 11 em_359 (ce_at ce_359 5 rfl) rfl rfl ?_
    refine e_gd fun g6 => ?_
    refine e_zld 12 em_359 (ce_at ce_359 6 rfl) tq_167 (by decide) g6 rfl ?_
    refine e_goto em_359 30 (ce_at ce_359 7 rfl) rfl ?_
    refine e_gd fun g7 => ?_
    exact e_retz em_359 (ce_at ce_359 17 rfl) g7
theorem fm_isMethod (v1 : Int) (v2 : Int) (s : iS) : Fm Prod.snd L_m_isMethod G_m_isMethod s (m_isMethod v1 v2 s) := fm_gd (fm_if (fm_gd (fm_gd (fm_if (fm_some md_refl) (fm_some md_refl)))) (fm_gd (fm_gd (fm_some md_refl))))
/-! m_manyOf -/
def L_m_manyOf : List Nat := []
def G_m_manyOf : List (Nat × Nat) := []
noncomputable def m_manyOf (v1 : Int) (v2 : Int) (s : iS) : Option (Int × iS) := gd (rg v1) (if 8 ≤ v1 then gd (0 ≤ v2 ∧ v2 < 61) (some ((s 134 v2.toNat), s)) else gd (0 ≤ v2 ∧ v2 < 60) (some ((s 168 v2.toNat), s)))
theorem tm_manyOf (w : ev_W) (d : Nat) (hd : 0 ≤ d) (v1 : Int) (v2 : Int) (s : iS) : Ew hT w d 360 0 [(0, .ref (tb_nK + 121)), (1, iv v1), (2, iv v2)] [] s (Ci hT) (m_manyOf v1 v2 s) := by
  unfold m_manyOf
  refine e_mv 1 em_360 (ce_at ce_360 0 rfl) rfl rfl ?_
  refine e_bip 3 em_360 (ce_at ce_360 1 rfl) (by decide) rfl ?_
  refine e_gd fun g1 => ?_
  refine e_cmge 15 6 em_360 rfl rfl (ce_at ce_360 2 rfl) g1 (by decide) (fun h2 => ?_) (fun h2 => ?_)
  · refine e_mv 16 em_360 (ce_at ce_360 8 rfl) rfl rfl ?_
    refine e_getr 19 em_360 (ce_at ce_360 9 rfl) tq_121 rfl rfl ?_
    refine e_mv 20 em_360 (ce_at ce_360 10 rfl) rfl rfl ?_
    refine e_gd fun g3 => ?_
    refine e_ild 21 em_360 (ce_at ce_360 11 rfl) tq_134 (by decide) g3 rfl ?_
    exact e_reti em_360 (ce_at ce_360 12 rfl)
  · refine e_mv 7 em_360 (ce_at ce_360 3 rfl) rfl rfl ?_
    refine e_getr 10 em_360 (ce_at ce_360 4 rfl) tq_121 rfl rfl ?_
    refine e_mv 11 em_360 (ce_at ce_360 5 rfl) rfl rfl ?_
    refine e_gd fun g4 => ?_
    refine e_ild 12 em_360 (ce_at ce_360 6 rfl) tq_168 (by decide) g4 rfl ?_
    refine e_goto em_360 21 (ce_at ce_360 7 rfl) rfl ?_
    exact e_reti em_360 (ce_at ce_360 12 rfl)
theorem fm_manyOf (v1 : Int) (v2 : Int) (s : iS) : Fm Prod.snd L_m_manyOf G_m_manyOf s (m_manyOf v1 v2 s) := fm_gd (fm_if (fm_gd (fm_some md_refl)) (fm_gd (fm_some md_refl)))
/-! m_checkCall -/
def L_m_checkCall : List Nat := [152, 153, 154, 155]
def G_m_checkCall : List (Nat × Nat) := [(121, 69), (121, 70)]
noncomputable def m_checkCall_259 (v1 : Int) (v2 : Int) (v3 : Int) (s : iS) : Option (Int × iS) := gd (0 ≤ v1 ∧ v1 < 1000) (gd (rg (s 152 v1.toNat)) (if (s 152 v1.toNat) = 2 then gd (0 ≤ v2 ∧ v2 < 61) (gd (rg (s 131 v2.toNat)) (if (s 131 v2.toNat) = 2 then bd (m_note 6 v3 s) (fun _ s7 => some (0, s7)) else some (0, s))) else some (0, s)))
theorem tm_checkCall_259 (w : ev_W) (d : Nat) (hd : 3 ≤ d) (v1 : Int) (v2 : Int) (v3 : Int) (s : iS) : Ew hT w d 357 259 [(0, .ref (tb_nK + 121)), (1, iv v1), (2, iv v2), (3, iv v3)] [] s (Cv hT) (m_checkCall_259 v1 v2 v3 s) := by
  unfold m_checkCall_259
  refine e_mv 260 em_357 (ce_at ce_357 152 rfl) rfl rfl ?_
  refine e_getr 263 em_357 (ce_at ce_357 153 rfl) tq_121 rfl rfl ?_
  refine e_mv 264 em_357 (ce_at ce_357 154 rfl) rfl rfl ?_
  refine e_gd fun g1 => ?_
  refine e_ild 265 em_357 (ce_at ce_357 155 rfl) tq_152 (by decide) g1 rfl ?_
  refine e_op 266 em_357 (ce_at ce_357 156 rfl) rfl rfl ?_
  refine e_gd fun g2 => ?_
  refine e_cmne 286 269 em_357 rfl rfl (ce_at ce_357 157 rfl) g2 (by decide) (fun h3 => ?_) (fun h3 => ?_)
  · exact e_retv em_357 (ce_at ce_357 168 rfl)
  · refine e_mv 270 em_357 (ce_at ce_357 158 rfl) rfl rfl ?_
    refine e_getr 273 em_357 (ce_at ce_357 159 rfl) tq_121 rfl rfl ?_
    refine e_mv 274 em_357 (ce_at ce_357 160 rfl) rfl rfl ?_
    refine e_gd fun g4 => ?_
    refine e_ild 275 em_357 (ce_at ce_357 161 rfl) tq_131 (by decide) g4 rfl ?_
    refine e_op 276 em_357 (ce_at ce_357 162 rfl) rfl rfl ?_
    refine e_gd fun g5 => ?_
    refine e_cmne 286 279 em_357 rfl rfl (ce_at ce_357 163 rfl) g5 (by decide) (fun h6 => ?_) (fun h6 => ?_)
    · exact e_retv em_357 (ce_at ce_357 168 rfl)
    · refine e_mv 280 em_357 (ce_at ce_357 164 rfl) rfl rfl ?_
      refine e_bip 282 em_357 (ce_at ce_357 165 rfl) (by decide) rfl ?_
      refine e_mv 283 em_357 (ce_at ce_357 166 rfl) rfl rfl ?_
      refine e_ivv 286 em_357 (ce_at ce_357 167 rfl) (by omega) (iv_v2 (by decide) tq_121 rfl) em_351 (Nat.le_of_ble_eq_true rfl) rfl (tm_note w (d - 1) (by omega) _ _ _) (fun r7 s7 => ?_)
      exact e_retv em_357 (ce_at ce_357 168 rfl)
theorem fm_checkCall_259 (v1 : Int) (v2 : Int) (v3 : Int) (s : iS) : Fm Prod.snd L_m_checkCall G_m_checkCall s (m_checkCall_259 v1 v2 v3 s) := fm_gd (fm_gd (fm_if (fm_gd (fm_gd (fm_if (fm_bd (fm_sub (fm_note _ _ _) (mem_sub_L rfl) (mem_sub_F rfl)) (fun r7 s7 => fm_some md_refl)) (fm_some md_refl)))) (fm_some md_refl)))
noncomputable def m_checkCall_253 (v1 : Int) (v2 : Int) (v3 : Int) (s : iS) : Option (Int × iS) := bd (m_note 5 v3 s) (fun _ s1 => m_checkCall_259 v1 v2 v3 s1)
theorem tm_checkCall_253 (w : ev_W) (d : Nat) (hd : 3 ≤ d) (v1 : Int) (v2 : Int) (v3 : Int) (s : iS) : Ew hT w d 357 253 [(0, .ref (tb_nK + 121)), (1, iv v1), (2, iv v2), (3, iv v3)] [] s (Cv hT) (m_checkCall_253 v1 v2 v3 s) := by
  unfold m_checkCall_253
  refine e_mv 254 em_357 (ce_at ce_357 148 rfl) rfl rfl ?_
  refine e_op 255 em_357 (ce_at ce_357 149 rfl) rfl rfl ?_
  refine e_mv 256 em_357 (ce_at ce_357 150 rfl) rfl rfl ?_
  refine e_ivv 259 em_357 (ce_at ce_357 151 rfl) (by omega) (iv_v2 (by decide) tq_121 rfl) em_351 (Nat.le_of_ble_eq_true rfl) rfl (tm_note w (d - 1) (by omega) _ _ _) (fun r1 s1 => ?_)
  refine e_pk [0, 1, 2, 3] rfl rfl ?_
  exact tm_checkCall_259 w d hd _ _ _ _
theorem fm_checkCall_253 (v1 : Int) (v2 : Int) (v3 : Int) (s : iS) : Fm Prod.snd L_m_checkCall G_m_checkCall s (m_checkCall_253 v1 v2 v3 s) := fm_bd (fm_sub (fm_note _ _ _) (mem_sub_L rfl) (mem_sub_F rfl)) (fun r1 s1 => fm_checkCall_259 _ _ _ _)
noncomputable def m_checkCall_233 (v1 : Int) (v2 : Int) (v3 : Int) (v4 : Int) (v5 : Int) (t0 : Int) (t1 : Int) (s : iS) : Option (Int × iS) := gd (rg t1) (gd (rg t0) (if t1 = t0 then bd (m_manyOf v4 v5 s) (fun r4 s4 => gd (0 ≤ v1 ∧ v1 < 1000) (gd (rg r4) (gd (rg (s4 151 v1.toNat)) (if r4 = (s4 151 v1.toNat) then m_checkCall_259 v1 v2 v3 s4 else m_checkCall_253 v1 v2 v3 s4)))) else m_checkCall_253 v1 v2 v3 s))
theorem tm_checkCall_233 (w : ev_W) (d : Nat) (hd : 3 ≤ d) (v1 : Int) (v2 : Int) (v3 : Int) (v4 : Int) (v5 : Int) (t0 : Int) (t1 : Int) (s : iS) : Ew hT w d 357 233 [(0, .ref (tb_nK + 121)), (1, iv v1), (2, iv v2), (3, iv v3), (4, iv v4), (5, iv v5)] [iv t0, iv t1] s (Cv hT) (m_checkCall_233 v1 v2 v3 v4 v5 t0 t1 s) := by
  unfold m_checkCall_233
  refine e_gd fun g1 => ?_
  refine e_gd fun g2 => ?_
  refine e_cmne 253 236 em_357 rfl rfl (ce_at ce_357 138 rfl) g1 g2 (fun h3 => ?_) (fun h3 => ?_)
  · refine e_pk [0, 1, 2, 3] rfl rfl ?_
    exact tm_checkCall_253 w d hd _ _ _ _
  · refine e_mv 237 em_357 (ce_at ce_357 139 rfl) rfl rfl ?_
    refine e_mv 239 em_357 (ce_at ce_357 140 rfl) rfl rfl ?_
    refine e_mv 241 em_357 (ce_at ce_357 141 rfl) rfl rfl ?_
    refine e_ivi 244 em_357 (ce_at ce_357 142 rfl) (by omega) (iv_v2 (by decide) tq_121 rfl) em_360 (Nat.le_of_ble_eq_true rfl) rfl (tm_manyOf w (d - 1) (by omega) _ _ _) (fun r4 s4 => ?_)
    refine e_mv 245 em_357 (ce_at ce_357 143 rfl) rfl rfl ?_
    refine e_getr 248 em_357 (ce_at ce_357 144 rfl) tq_121 rfl rfl ?_
    refine e_mv 249 em_357 (ce_at ce_357 145 rfl) rfl rfl ?_
    refine e_gd fun g5 => ?_
    refine e_ild 250 em_357 (ce_at ce_357 146 rfl) tq_151 (by decide) g5 rfl ?_
    refine e_gd fun g6 => ?_
    refine e_gd fun g7 => ?_
    refine e_cmeq 259 253 em_357 rfl rfl (ce_at ce_357 147 rfl) g6 g7 (fun h8 => ?_) (fun h8 => ?_)
    · refine e_pk [0, 1, 2, 3] rfl rfl ?_
      exact tm_checkCall_259 w d hd _ _ _ _
    · refine e_pk [0, 1, 2, 3] rfl rfl ?_
      exact tm_checkCall_253 w d hd _ _ _ _
theorem fm_checkCall_233 (v1 : Int) (v2 : Int) (v3 : Int) (v4 : Int) (v5 : Int) (t0 : Int) (t1 : Int) (s : iS) : Fm Prod.snd L_m_checkCall G_m_checkCall s (m_checkCall_233 v1 v2 v3 v4 v5 t0 t1 s) := fm_gd (fm_gd (fm_if (fm_bd (fm_sub (fm_manyOf _ _ _) (mem_sub_L rfl) (mem_sub_F rfl)) (fun r4 s4 => fm_gd (fm_gd (fm_gd (fm_if (fm_checkCall_259 _ _ _ _) (fm_checkCall_253 _ _ _ _)))))) (fm_checkCall_253 _ _ _ _)))
noncomputable def m_checkCall_173 (v1 : Int) (v2 : Int) (v3 : Int) (v4 : Int) (s : iS) : Option (Int × iS) := bd (m_subOf v4 v3 s) (fun r1 s1 => gd (0 ≤ v1 ∧ v1 < 1000) (lt' (up s1 154 v1.toNat v4) (fun s3 => lt' (up s3 155 v1.toNat r1) (fun s4 => gd (rg r1) (if r1 = (-1) then bd (m_note 4 v3 s4) (fun _ s10 => some (0, s10)) else bd (m_isMethod v4 r1 s4) (fun r7 s7 => gd (rg (s7 152 v1.toNat)) (if (s7 152 v1.toNat) ≤ 0 then m_checkCall_233 v1 v2 v3 v4 r1 0 r7 s7 else m_checkCall_233 v1 v2 v3 v4 r1 1 r7 s7)))))))
theorem tm_checkCall_173 (w : ev_W) (d : Nat) (hd : 3 ≤ d) (v1 : Int) (v2 : Int) (v3 : Int) (v4 : Int) (s : iS) : Ew hT w d 357 173 [(0, .ref (tb_nK + 121)), (1, iv v1), (2, iv v2), (3, iv v3), (4, iv v4)] [] s (Cv hT) (m_checkCall_173 v1 v2 v3 v4 s) := by
  unfold m_checkCall_173
  refine e_mv 174 em_357 (ce_at ce_357 103 rfl) rfl rfl ?_
  refine e_mv 176 em_357 (ce_at ce_357 104 rfl) rfl rfl ?_
  refine e_mv 177 em_357 (ce_at ce_357 105 rfl) rfl rfl ?_
  refine e_ivi 180 em_357 (ce_at ce_357 106 rfl) (by omega) (iv_v2 (by decide) tq_121 rfl) em_358 (Nat.le_of_ble_eq_true rfl) rfl (tm_subOf w (d - 1) (by omega) _ _ _) (fun r1 s1 => ?_)
  refine e_mv 182 em_357 (ce_at ce_357 107 rfl) rfl rfl ?_
  refine e_mv 183 em_357 (ce_at ce_357 108 rfl) rfl rfl ?_
  refine e_getr 186 em_357 (ce_at ce_357 109 rfl) tq_121 rfl rfl ?_
  refine e_mv 187 em_357 (ce_at ce_357 110 rfl) rfl rfl ?_
  refine e_mv 189 em_357 (ce_at ce_357 111 rfl) rfl rfl ?_
  refine e_gd fun g2 => ?_
  refine e_ist 190 em_357 (ce_at ce_357 112 rfl) tq_154 (by decide) g2 rfl (fun s3 => ?_)
  refine e_mv 191 em_357 (ce_at ce_357 113 rfl) rfl rfl ?_
  refine e_getr 194 em_357 (ce_at ce_357 114 rfl) tq_121 rfl rfl ?_
  refine e_mv 195 em_357 (ce_at ce_357 115 rfl) rfl rfl ?_
  refine e_mv 197 em_357 (ce_at ce_357 116 rfl) rfl rfl ?_
  refine e_ist 198 em_357 (ce_at ce_357 117 rfl) tq_155 (by decide) g2 rfl (fun s4 => ?_)
  refine e_mv 200 em_357 (ce_at ce_357 118 rfl) rfl rfl ?_
  refine e_op 201 em_357 (ce_at ce_357 119 rfl) rfl rfl ?_
  refine e_gd fun g5 => ?_
  refine e_cmne 211 204 em_357 rfl rfl (ce_at ce_357 120 rfl) g5 (by decide) (fun h6 => ?_) (fun h6 => ?_)
  · refine e_mv 212 em_357 (ce_at ce_357 126 rfl) rfl rfl ?_
    refine e_mv 214 em_357 (ce_at ce_357 127 rfl) rfl rfl ?_
    refine e_mv 216 em_357 (ce_at ce_357 128 rfl) rfl rfl ?_
    refine e_ivi 219 em_357 (ce_at ce_357 129 rfl) (by omega) (iv_v2 (by decide) tq_121 rfl) em_359 (Nat.le_of_ble_eq_true rfl) rfl (tm_isMethod w (d - 1) (by omega) _ _ _) (fun r7 s7 => ?_)
    refine e_mv 220 em_357 (ce_at ce_357 130 rfl) rfl rfl ?_
    refine e_getr 223 em_357 (ce_at ce_357 131 rfl) tq_121 rfl rfl ?_
    refine e_mv 224 em_357 (ce_at ce_357 132 rfl) rfl rfl ?_
    refine e_ild 225 em_357 (ce_at ce_357 133 rfl) tq_152 (by decide) g2 rfl ?_
    refine e_gd fun g8 => ?_
    refine e_ifle 232 228 em_357 rfl rfl (ce_at ce_357 134 rfl) g8 (fun h9 => ?_) (fun h9 => ?_)
    · refine e_op 233 em_357 (ce_at ce_357 137 rfl) rfl rfl ?_
      refine e_pk [0, 1, 2, 3, 4, 5] rfl rfl ?_
      exact tm_checkCall_233 w d hd _ _ _ _ _ _ _ _
    · refine e_op 229 em_357 (ce_at ce_357 135 rfl) rfl rfl ?_
      refine e_goto em_357 233 (ce_at ce_357 136 rfl) rfl ?_
      refine e_pk [0, 1, 2, 3, 4, 5] rfl rfl ?_
      exact tm_checkCall_233 w d hd _ _ _ _ _ _ _ _
  · refine e_mv 205 em_357 (ce_at ce_357 121 rfl) rfl rfl ?_
    refine e_op 206 em_357 (ce_at ce_357 122 rfl) rfl rfl ?_
    refine e_mv 207 em_357 (ce_at ce_357 123 rfl) rfl rfl ?_
    refine e_ivv 210 em_357 (ce_at ce_357 124 rfl) (by omega) (iv_v2 (by decide) tq_121 rfl) em_351 (Nat.le_of_ble_eq_true rfl) rfl (tm_note w (d - 1) (by omega) _ _ _) (fun r10 s10 => ?_)
    exact e_retv em_357 (ce_at ce_357 125 rfl)
theorem fm_checkCall_173 (v1 : Int) (v2 : Int) (v3 : Int) (v4 : Int) (s : iS) : Fm Prod.snd L_m_checkCall G_m_checkCall s (m_checkCall_173 v1 v2 v3 v4 s) := fm_bd (fm_sub (fm_subOf _ _ _) (mem_sub_L rfl) (mem_sub_F rfl)) (fun r1 s1 => fm_gd (fm_lt (md_upL (mem_L rfl)) (fun s3 => fm_lt (md_upL (mem_L rfl)) (fun s4 => fm_gd (fm_if (fm_bd (fm_sub (fm_note _ _ _) (mem_sub_L rfl) (mem_sub_F rfl)) (fun r10 s10 => fm_some md_refl)) (fm_bd (fm_sub (fm_isMethod _ _ _) (mem_sub_L rfl) (mem_sub_F rfl)) (fun r7 s7 => fm_gd (fm_if (fm_checkCall_233 _ _ _ _ _ _ _ _) (fm_checkCall_233 _ _ _ _ _ _ _ _)))))))))
noncomputable def m_checkCall_169 (t0 : Int) (t1 : Int) (s : iS) : Option (Int × iS) := bd (m_note t1 t0 s) (fun _ s1 => some (0, s1))
theorem tm_checkCall_169 (w : ev_W) (d : Nat) (hd : 3 ≤ d) (t0 : Int) (t1 : Int) (s : iS) : Ew hT w d 357 169 [] [iv t0, iv t1, .ref (tb_nK + 121)] s (Cv hT) (m_checkCall_169 t0 t1 s) := by
  unfold m_checkCall_169
  refine e_ivv 172 em_357 (ce_at ce_357 101 rfl) (by omega) (iv_v2 (by decide) tq_121 rfl) em_351 (Nat.le_of_ble_eq_true rfl) rfl (tm_note w (d - 1) (by omega) _ _ _) (fun r1 s1 => ?_)
  exact e_retv em_357 (ce_at ce_357 102 rfl)
theorem fm_checkCall_169 (t0 : Int) (t1 : Int) (s : iS) : Fm Prod.snd L_m_checkCall G_m_checkCall s (m_checkCall_169 t0 t1 s) := fm_bd (fm_sub (fm_note _ _ _) (mem_sub_L rfl) (mem_sub_F rfl)) (fun r1 s1 => fm_some md_refl)
noncomputable def m_checkCall_143 (v1 : Int) (v2 : Int) (v3 : Int) (v5 : Int) (t0 : Int) (s : iS) : Option (Int × iS) := gd (rg t0) (if t0 = (-1) then gd (rg v5) (if v5 = (-1) then gd (0 ≤ v1 ∧ v1 < 1000) (m_checkCall_169 (s 149 v1.toNat) 4 s) else m_checkCall_169 v3 4 s) else m_checkCall_173 v1 v2 v3 t0 s)
theorem tm_checkCall_143 (w : ev_W) (d : Nat) (hd : 3 ≤ d) (v1 : Int) (v2 : Int) (v3 : Int) (v5 : Int) (t0 : Int) (s : iS) : Ew hT w d 357 143 [(0, .ref (tb_nK + 121)), (1, iv v1), (2, iv v2), (3, iv v3), (5, iv v5)] [iv t0] s (Cv hT) (m_checkCall_143 v1 v2 v3 v5 t0 s) := by
  unfold m_checkCall_143
  refine e_mv 145 em_357 (ce_at ce_357 86 rfl) rfl rfl ?_
  refine e_mv 147 em_357 (ce_at ce_357 87 rfl) rfl rfl ?_
  refine e_op 148 em_357 (ce_at ce_357 88 rfl) rfl rfl ?_
  refine e_gd fun g1 => ?_
  refine e_cmne 173 151 em_357 rfl rfl (ce_at ce_357 89 rfl) g1 (by decide) (fun h2 => ?_) (fun h2 => ?_)
  · refine e_pk [0, 1, 2, 3, 4] rfl rfl ?_
    exact tm_checkCall_173 w d hd _ _ _ _ _
  · refine e_mv 152 em_357 (ce_at ce_357 90 rfl) rfl rfl ?_
    refine e_op 153 em_357 (ce_at ce_357 91 rfl) rfl rfl ?_
    refine e_mv 155 em_357 (ce_at ce_357 92 rfl) rfl rfl ?_
    refine e_op 156 em_357 (ce_at ce_357 93 rfl) rfl rfl ?_
    refine e_gd fun g3 => ?_
    refine e_cmne 168 159 em_357 rfl rfl (ce_at ce_357 94 rfl) g3 (by decide) (fun h4 => ?_) (fun h4 => ?_)
    · refine e_mv 169 em_357 (ce_at ce_357 100 rfl) rfl rfl ?_
      refine e_pk [] rfl rfl ?_
      exact tm_checkCall_169 w d hd _ _ _
    · refine e_mv 160 em_357 (ce_at ce_357 95 rfl) rfl rfl ?_
      refine e_getr 163 em_357 (ce_at ce_357 96 rfl) tq_121 rfl rfl ?_
      refine e_mv 164 em_357 (ce_at ce_357 97 rfl) rfl rfl ?_
      refine e_gd fun g5 => ?_
      refine e_ild 165 em_357 (ce_at ce_357 98 rfl) tq_149 (by decide) g5 rfl ?_
      refine e_goto em_357 169 (ce_at ce_357 99 rfl) rfl ?_
      refine e_pk [] rfl rfl ?_
      exact tm_checkCall_169 w d hd _ _ _
theorem fm_checkCall_143 (v1 : Int) (v2 : Int) (v3 : Int) (v5 : Int) (t0 : Int) (s : iS) : Fm Prod.snd L_m_checkCall G_m_checkCall s (m_checkCall_143 v1 v2 v3 v5 t0 s) := fm_gd (fm_if (fm_gd (fm_if (fm_gd (fm_checkCall_169 _ _ _)) (fm_checkCall_169 _ _ _))) (fm_checkCall_173 _ _ _ _ _))
noncomputable def m_checkCall_71 (v1 : Int) (v2 : Int) (v3 : Int) (v5 : Int) (t0 : Int) (t1 : Int) (s : iS) : Option (Int × iS) := gd (0 ≤ t1 ∧ t1 < 1000) (lt' (up s 152 t1.toNat t0) (fun s2 => gd (0 ≤ v1 ∧ v1 < 1000) (lt' (up s2 153 v1.toNat v5) (fun s4 => bd (m_checkVariable v2 v5 (s4 149 v1.toNat) s4) (fun _ s5 => gd (rg v5) (if v5 = (-1) then bd (m_classOf (s5 149 v1.toNat) s5) (fun r13 s13 => m_checkCall_143 v1 v2 v3 v5 r13 s13) else gd (0 ≤ v5 ∧ v5 < 1100) (gd (0 ≤ (s5 141 v5.toNat) ∧ (s5 141 v5.toNat) < 2002) (gd (rg (s5 124 (s5 141 v5.toNat).toNat)) (if (s5 124 (s5 141 v5.toNat).toNat) = 1 then bd (m_classOf (s5 141 v5.toNat) s5) (fun r12 s12 => m_checkCall_143 v1 v2 v3 v5 r12 s12) else m_checkCall_143 v1 v2 v3 v5 (-1) s5)))))))))
theorem tm_checkCall_71 (w : ev_W) (d : Nat) (hd : 3 ≤ d) (v1 : Int) (v2 : Int) (v3 : Int) (v5 : Int) (t0 : Int) (t1 : Int) (s : iS) : Ew hT w d 357 71 [(0, .ref (tb_nK + 121)), (1, iv v1), (2, iv v2), (3, iv v3), (5, iv v5)] [iv t0, iv t1, .ref (tb_nK + 152)] s (Cv hT) (m_checkCall_71 v1 v2 v3 v5 t0 t1 s) := by
  unfold m_checkCall_71
  refine e_gd fun g1 => ?_
  refine e_ist 72 em_357 (ce_at ce_357 45 rfl) tq_152 (by decide) g1 rfl (fun s2 => ?_)
  refine e_mv 73 em_357 (ce_at ce_357 46 rfl) rfl rfl ?_
  refine e_getr 76 em_357 (ce_at ce_357 47 rfl) tq_121 rfl rfl ?_
  refine e_mv 77 em_357 (ce_at ce_357 48 rfl) rfl rfl ?_
  refine e_mv 79 em_357 (ce_at ce_357 49 rfl) rfl rfl ?_
  refine e_gd fun g3 => ?_
  refine e_ist 80 em_357 (ce_at ce_357 50 rfl) tq_153 (by decide) g3 rfl (fun s4 => ?_)
  refine e_mv 81 em_357 (ce_at ce_357 51 rfl) rfl rfl ?_
  refine e_mv 82 em_357 (ce_at ce_357 52 rfl) rfl rfl ?_
  refine e_mv 84 em_357 (ce_at ce_357 53 rfl) rfl rfl ?_
  refine e_mv 85 em_357 (ce_at ce_357 54 rfl) rfl rfl ?_
  refine e_getr 88 em_357 (ce_at ce_357 55 rfl) tq_121 rfl rfl ?_
  refine e_mv 89 em_357 (ce_at ce_357 56 rfl) rfl rfl ?_
  refine e_ild 90 em_357 (ce_at ce_357 57 rfl) tq_149 (by decide) g3 rfl ?_
  refine e_ivv 93 em_357 (ce_at ce_357 58 rfl) (by omega) (iv_v3 (by decide) tq_121 rfl) em_356 (Nat.le_of_ble_eq_true rfl) rfl (tm_checkVariable w (d - 1) (by omega) _ _ _ _) (fun r5 s5 => ?_)
  refine e_mv 95 em_357 (ce_at ce_357 59 rfl) rfl rfl ?_
  refine e_op 96 em_357 (ce_at ce_357 60 rfl) rfl rfl ?_
  refine e_gd fun g6 => ?_
  refine e_cmne 112 99 em_357 rfl rfl (ce_at ce_357 61 rfl) g6 (by decide) (fun h7 => ?_) (fun h7 => ?_)
  · refine e_mv 113 em_357 (ce_at ce_357 69 rfl) rfl rfl ?_
    refine e_getr 116 em_357 (ce_at ce_357 70 rfl) tq_121 rfl rfl ?_
    refine e_mv 117 em_357 (ce_at ce_357 71 rfl) rfl rfl ?_
    refine e_getr 120 em_357 (ce_at ce_357 72 rfl) tq_121 rfl rfl ?_
    refine e_mv 122 em_357 (ce_at ce_357 73 rfl) rfl rfl ?_
    refine e_gd fun g8 => ?_
    refine e_ild 123 em_357 (ce_at ce_357 74 rfl) tq_141 (by decide) g8 rfl ?_
    refine e_gd fun g9 => ?_
    refine e_ild 124 em_357 (ce_at ce_357 75 rfl) tq_124 (by decide) g9 rfl ?_
    refine e_op 125 em_357 (ce_at ce_357 76 rfl) rfl rfl ?_
    refine e_gd fun g10 => ?_
    refine e_cmne 142 128 em_357 rfl rfl (ce_at ce_357 77 rfl) g10 (by decide) (fun h11 => ?_) (fun h11 => ?_)
    · refine e_op 143 em_357 (ce_at ce_357 85 rfl) rfl rfl ?_
      refine e_pk [0, 1, 2, 3, 5] rfl rfl ?_
      exact tm_checkCall_143 w d hd _ _ _ _ _ _
    · refine e_mv 129 em_357 (ce_at ce_357 78 rfl) rfl rfl ?_
      refine e_mv 130 em_357 (ce_at ce_357 79 rfl) rfl rfl ?_
      refine e_getr 133 em_357 (ce_at ce_357 80 rfl) tq_121 rfl rfl ?_
      refine e_mv 135 em_357 (ce_at ce_357 81 rfl) rfl rfl ?_
      refine e_ild 136 em_357 (ce_at ce_357 82 rfl) tq_141 (by decide) g8 rfl ?_
      refine e_ivi 139 em_357 (ce_at ce_357 83 rfl) (by omega) (iv_v1 (by decide) tq_121 rfl) em_353 (Nat.le_of_ble_eq_true rfl) rfl (tm_classOf w (d - 1) (by omega) _ _) (fun r12 s12 => ?_)
      refine e_goto em_357 143 (ce_at ce_357 84 rfl) rfl ?_
      refine e_pk [0, 1, 2, 3, 5] rfl rfl ?_
      exact tm_checkCall_143 w d hd _ _ _ _ _ _
  · refine e_mv 100 em_357 (ce_at ce_357 62 rfl) rfl rfl ?_
    refine e_mv 101 em_357 (ce_at ce_357 63 rfl) rfl rfl ?_
    refine e_getr 104 em_357 (ce_at ce_357 64 rfl) tq_121 rfl rfl ?_
    refine e_mv 105 em_357 (ce_at ce_357 65 rfl) rfl rfl ?_
    refine e_ild 106 em_357 (ce_at ce_357 66 rfl) tq_149 (by decide) g3 rfl ?_
    refine e_ivi 109 em_357 (ce_at ce_357 67 rfl) (by omega) (iv_v1 (by decide) tq_121 rfl) em_353 (Nat.le_of_ble_eq_true rfl) rfl (tm_classOf w (d - 1) (by omega) _ _) (fun r13 s13 => ?_)
    refine e_goto em_357 143 (ce_at ce_357 68 rfl) rfl ?_
    refine e_pk [0, 1, 2, 3, 5] rfl rfl ?_
    exact tm_checkCall_143 w d hd _ _ _ _ _ _
theorem fm_checkCall_71 (v1 : Int) (v2 : Int) (v3 : Int) (v5 : Int) (t0 : Int) (t1 : Int) (s : iS) : Fm Prod.snd L_m_checkCall G_m_checkCall s (m_checkCall_71 v1 v2 v3 v5 t0 t1 s) := fm_gd (fm_lt (md_upL (mem_L rfl)) (fun s2 => fm_gd (fm_lt (md_upL (mem_L rfl)) (fun s4 => fm_bd (fm_sub (fm_checkVariable _ _ _ _) (mem_sub_L rfl) (mem_sub_F rfl)) (fun r5 s5 => fm_gd (fm_if (fm_bd (fm_sub (fm_classOf _ _) (mem_sub_L rfl) (mem_sub_F rfl)) (fun r13 s13 => fm_checkCall_143 _ _ _ _ _ _)) (fm_gd (fm_gd (fm_gd (fm_if (fm_bd (fm_sub (fm_classOf _ _) (mem_sub_L rfl) (mem_sub_F rfl)) (fun r12 s12 => fm_checkCall_143 _ _ _ _ _ _)) (fm_checkCall_143 _ _ _ _ _ _)))))))))))
noncomputable def m_checkCall (v1 : Int) (s : iS) : Option (Int × iS) := gd (0 ≤ v1 ∧ v1 < 1000) (gd (0 ≤ (s 156 v1.toNat) ∧ (s 156 v1.toNat) < 61) (lt' (up s 152 v1.toNat 2) (fun s3 => gd (rg (s3 149 v1.toNat)) (if (s3 149 v1.toNat) = (-1) then m_checkCall_173 v1 (s 156 v1.toNat) (s 150 v1.toNat) (8 + (s 130 (s 156 v1.toNat).toNat)) s3 else bd (m_variableOf (s 156 v1.toNat) (s3 149 v1.toNat) s3) (fun r6 s6 => gd (rg r6) (if r6 = (-1) then m_checkCall_71 v1 (s 156 v1.toNat) (s 150 v1.toNat) r6 0 v1 s6 else m_checkCall_71 v1 (s 156 v1.toNat) (s 150 v1.toNat) r6 1 v1 s6))))))
theorem tm_checkCall (w : ev_W) (d : Nat) (hd : 3 ≤ d) (v1 : Int) (s : iS) : Ew hT w d 357 0 [(0, .ref (tb_nK + 121)), (1, iv v1)] [] s (Cv hT) (m_checkCall v1 s) := by
  unfold m_checkCall
  refine e_mv 1 em_357 (ce_at ce_357 0 rfl) rfl rfl ?_
  refine e_getr 4 em_357 (ce_at ce_357 1 rfl) tq_121 rfl rfl ?_
  refine e_mv 5 em_357 (ce_at ce_357 2 rfl) rfl rfl ?_
  refine e_gd fun g1 => ?_
  refine e_ild 6 em_357 (ce_at ce_357 3 rfl) tq_156 (by decide) g1 rfl ?_
  refine e_mv 7 em_357 (ce_at ce_357 4 rfl) rfl rfl ?_
  refine e_mv 8 em_357 (ce_at ce_357 5 rfl) rfl rfl ?_
  refine e_getr 11 em_357 (ce_at ce_357 6 rfl) tq_121 rfl rfl ?_
  refine e_mv 12 em_357 (ce_at ce_357 7 rfl) rfl rfl ?_
  refine e_ild 13 em_357 (ce_at ce_357 8 rfl) tq_150 (by decide) g1 rfl ?_
  refine e_mv 14 em_357 (ce_at ce_357 9 rfl) rfl rfl ?_
  refine e_bip 16 em_357 (ce_at ce_357 10 rfl) (by decide) rfl ?_
  refine e_mv 17 em_357 (ce_at ce_357 11 rfl) rfl rfl ?_
  refine e_getr 20 em_357 (ce_at ce_357 12 rfl) tq_121 rfl rfl ?_
  refine e_mv 21 em_357 (ce_at ce_357 13 rfl) rfl rfl ?_
  refine e_gd fun g2 => ?_
  refine e_ild 22 em_357 (ce_at ce_357 14 rfl) tq_130 (by decide) g2 rfl ?_
  refine e_iadd 23 em_357 rfl (ce_at ce_357 15 rfl) ?_
  refine e_mv 25 em_357 (ce_at ce_357 16 rfl) rfl rfl ?_
  refine e_mv 26 em_357 (ce_at ce_357 17 rfl) rfl rfl ?_
  refine e_getr 29 em_357 (ce_at ce_357 18 rfl) tq_121 rfl rfl ?_
  refine e_mv 30 em_357 (ce_at ce_357 19 rfl) rfl rfl ?_
  refine e_op 31 em_357 (ce_at ce_357 20 rfl) rfl rfl ?_
  refine e_ist 32 em_357 (ce_at ce_357 21 rfl) tq_152 (by decide) g1 rfl (fun s3 => ?_)
  refine e_mv 33 em_357 (ce_at ce_357 22 rfl) rfl rfl ?_
  refine e_getr 36 em_357 (ce_at ce_357 23 rfl) tq_121 rfl rfl ?_
  refine e_mv 37 em_357 (ce_at ce_357 24 rfl) rfl rfl ?_
  refine e_ild 38 em_357 (ce_at ce_357 25 rfl) tq_149 (by decide) g1 rfl ?_
  refine e_op 39 em_357 (ce_at ce_357 26 rfl) rfl rfl ?_
  refine e_gd fun g4 => ?_
  refine e_cmeq 173 42 em_357 rfl rfl (ce_at ce_357 27 rfl) g4 (by decide) (fun h5 => ?_) (fun h5 => ?_)
  · refine e_pk [0, 1, 2, 3, 4] rfl rfl ?_
    exact tm_checkCall_173 w d hd _ _ _ _ _
  · refine e_mv 43 em_357 (ce_at ce_357 28 rfl) rfl rfl ?_
    refine e_mv 44 em_357 (ce_at ce_357 29 rfl) rfl rfl ?_
    refine e_mv 45 em_357 (ce_at ce_357 30 rfl) rfl rfl ?_
    refine e_getr 48 em_357 (ce_at ce_357 31 rfl) tq_121 rfl rfl ?_
    refine e_mv 49 em_357 (ce_at ce_357 32 rfl) rfl rfl ?_
    refine e_ild 50 em_357 (ce_at ce_357 33 rfl) tq_149 (by decide) g1 rfl ?_
    refine e_ivi 53 em_357 (ce_at ce_357 34 rfl) (by omega) (iv_v2 (by decide) tq_121 rfl) em_355 (Nat.le_of_ble_eq_true rfl) rfl (tm_variableOf w (d - 1) (by omega) _ _ _) (fun r6 s6 => ?_)
    refine e_mv 55 em_357 (ce_at ce_357 35 rfl) rfl rfl ?_
    refine e_mv 56 em_357 (ce_at ce_357 36 rfl) rfl rfl ?_
    refine e_getr 59 em_357 (ce_at ce_357 37 rfl) tq_121 rfl rfl ?_
    refine e_mv 60 em_357 (ce_at ce_357 38 rfl) rfl rfl ?_
    refine e_mv 62 em_357 (ce_at ce_357 39 rfl) rfl rfl ?_
    refine e_op 63 em_357 (ce_at ce_357 40 rfl) rfl rfl ?_
    refine e_gd fun g7 => ?_
    refine e_cmne 70 66 em_357 rfl rfl (ce_at ce_357 41 rfl) g7 (by decide) (fun h8 => ?_) (fun h8 => ?_)
    · refine e_op 71 em_357 (ce_at ce_357 44 rfl) rfl rfl ?_
      refine e_pk [0, 1, 2, 3, 5] rfl rfl ?_
      exact tm_checkCall_71 w d hd _ _ _ _ _ _ _
    · refine e_op 67 em_357 (ce_at ce_357 42 rfl) rfl rfl ?_
      refine e_goto em_357 71 (ce_at ce_357 43 rfl) rfl ?_
      refine e_pk [0, 1, 2, 3, 5] rfl rfl ?_
      exact tm_checkCall_71 w d hd _ _ _ _ _ _ _
theorem fm_checkCall (v1 : Int) (s : iS) : Fm Prod.snd L_m_checkCall G_m_checkCall s (m_checkCall v1 s) := fm_gd (fm_gd (fm_lt (md_upL (mem_L rfl)) (fun s3 => fm_gd (fm_if (fm_checkCall_173 _ _ _ _ _) (fm_bd (fm_sub (fm_variableOf _ _ _) (mem_sub_L rfl) (mem_sub_F rfl)) (fun r6 s6 => fm_gd (fm_if (fm_checkCall_71 _ _ _ _ _ _ _) (fm_checkCall_71 _ _ _ _ _ _ _))))))))
/-! m_isText -/
def L_m_isText : List Nat := []
def G_m_isText : List (Nat × Nat) := []
noncomputable def m_isText (v1 : Int) (v2 : Int) (v3 : Int) (v4 : Int) (v5 : Int) (s : iS) : Option (Int × iS) := gd (0 ≤ v1 ∧ v1 < 2002) (gd (rg (s 126 v1.toNat)) (if (s 126 v1.toNat) = 4 then gd (0 ≤ (s 125 v1.toNat) ∧ (s 125 v1.toNat) < 4000) (gd (rg (s 123 (s 125 v1.toNat).toNat)) (gd (rg v2) (if (s 123 (s 125 v1.toNat).toNat) = v2 then gd (0 ≤ ((s 125 v1.toNat) + 1) ∧ ((s 125 v1.toNat) + 1) < 4000) (gd (rg (s 123 ((s 125 v1.toNat) + 1).toNat)) (gd (rg v3) (if (s 123 ((s 125 v1.toNat) + 1).toNat) = v3 then gd (0 ≤ ((s 125 v1.toNat) + 2) ∧ ((s 125 v1.toNat) + 2) < 4000) (gd (rg (s 123 ((s 125 v1.toNat) + 2).toNat)) (gd (rg v4) (if (s 123 ((s 125 v1.toNat) + 2).toNat) = v4 then gd (0 ≤ ((s 125 v1.toNat) + 3) ∧ ((s 125 v1.toNat) + 3) < 4000) (gd (rg (s 123 ((s 125 v1.toNat) + 3).toNat)) (gd (rg v5) (if (s 123 ((s 125 v1.toNat) + 3).toNat) = v5 then some (1, s) else some (0, s)))) else some (0, s)))) else some (0, s)))) else some (0, s)))) else some (0, s)))
theorem tm_isText (w : ev_W) (d : Nat) (hd : 0 ≤ d) (v1 : Int) (v2 : Int) (v3 : Int) (v4 : Int) (v5 : Int) (s : iS) : Ew hT w d 362 0 [(0, .ref (tb_nK + 121)), (1, iv v1), (2, iv v2), (3, iv v3), (4, iv v4), (5, iv v5)] [] s (Ci hT) (m_isText v1 v2 v3 v4 v5 s) := by
  unfold m_isText
  refine e_mv 1 em_362 (ce_at ce_362 0 rfl) rfl rfl ?_
  refine e_getr 4 em_362 (ce_at ce_362 1 rfl) tq_121 rfl rfl ?_
  refine e_mv 5 em_362 (ce_at ce_362 2 rfl) rfl rfl ?_
  refine e_gd fun g1 => ?_
  refine e_ild 6 em_362 (ce_at ce_362 3 rfl) tq_125 (by decide) g1 rfl ?_
  refine e_mv 8 em_362 (ce_at ce_362 4 rfl) rfl rfl ?_
  refine e_mv 9 em_362 (ce_at ce_362 5 rfl) rfl rfl ?_
  refine e_getr 12 em_362 (ce_at ce_362 6 rfl) tq_121 rfl rfl ?_
  refine e_mv 13 em_362 (ce_at ce_362 7 rfl) rfl rfl ?_
  refine e_ild 14 em_362 (ce_at ce_362 8 rfl) tq_126 (by decide) g1 rfl ?_
  refine e_op 15 em_362 (ce_at ce_362 9 rfl) rfl rfl ?_
  refine e_gd fun g2 => ?_
  refine e_cmne 74 18 em_362 rfl rfl (ce_at ce_362 10 rfl) g2 (by decide) (fun h3 => ?_) (fun h3 => ?_)
  · refine e_op 75 em_362 (ce_at ce_362 43 rfl) rfl rfl ?_
    exact e_retz em_362 (ce_at ce_362 44 rfl) (by decide)
  · refine e_mv 19 em_362 (ce_at ce_362 11 rfl) rfl rfl ?_
    refine e_getr 22 em_362 (ce_at ce_362 12 rfl) tq_121 rfl rfl ?_
    refine e_mv 24 em_362 (ce_at ce_362 13 rfl) rfl rfl ?_
    refine e_gd fun g4 => ?_
    refine e_ild 25 em_362 (ce_at ce_362 14 rfl) tq_123 (by decide) g4 rfl ?_
    refine e_mv 26 em_362 (ce_at ce_362 15 rfl) rfl rfl ?_
    refine e_gd fun g5 => ?_
    refine e_gd fun g6 => ?_
    refine e_cmne 74 29 em_362 rfl rfl (ce_at ce_362 16 rfl) g5 g6 (fun h7 => ?_) (fun h7 => ?_)
    · refine e_op 75 em_362 (ce_at ce_362 43 rfl) rfl rfl ?_
      exact e_retz em_362 (ce_at ce_362 44 rfl) (by decide)
    · refine e_mv 30 em_362 (ce_at ce_362 17 rfl) rfl rfl ?_
      refine e_getr 33 em_362 (ce_at ce_362 18 rfl) tq_121 rfl rfl ?_
      refine e_mv 35 em_362 (ce_at ce_362 19 rfl) rfl rfl ?_
      refine e_op 36 em_362 (ce_at ce_362 20 rfl) rfl rfl ?_
      refine e_iadd 37 em_362 rfl (ce_at ce_362 21 rfl) ?_
      refine e_gd fun g8 => ?_
      refine e_ild 38 em_362 (ce_at ce_362 22 rfl) tq_123 (by decide) g8 rfl ?_
      refine e_mv 39 em_362 (ce_at ce_362 23 rfl) rfl rfl ?_
      refine e_gd fun g9 => ?_
      refine e_gd fun g10 => ?_
      refine e_cmne 74 42 em_362 rfl rfl (ce_at ce_362 24 rfl) g9 g10 (fun h11 => ?_) (fun h11 => ?_)
      · refine e_op 75 em_362 (ce_at ce_362 43 rfl) rfl rfl ?_
        exact e_retz em_362 (ce_at ce_362 44 rfl) (by decide)
      · refine e_mv 43 em_362 (ce_at ce_362 25 rfl) rfl rfl ?_
        refine e_getr 46 em_362 (ce_at ce_362 26 rfl) tq_121 rfl rfl ?_
        refine e_mv 48 em_362 (ce_at ce_362 27 rfl) rfl rfl ?_
        refine e_op 49 em_362 (ce_at ce_362 28 rfl) rfl rfl ?_
        refine e_iadd 50 em_362 rfl (ce_at ce_362 29 rfl) ?_
        refine e_gd fun g12 => ?_
        refine e_ild 51 em_362 (ce_at ce_362 30 rfl) tq_123 (by decide) g12 rfl ?_
        refine e_mv 53 em_362 (ce_at ce_362 31 rfl) rfl rfl ?_
        refine e_gd fun g13 => ?_
        refine e_gd fun g14 => ?_
        refine e_cmne 74 56 em_362 rfl rfl (ce_at ce_362 32 rfl) g13 g14 (fun h15 => ?_) (fun h15 => ?_)
        · refine e_op 75 em_362 (ce_at ce_362 43 rfl) rfl rfl ?_
          exact e_retz em_362 (ce_at ce_362 44 rfl) (by decide)
        · refine e_mv 57 em_362 (ce_at ce_362 33 rfl) rfl rfl ?_
          refine e_getr 60 em_362 (ce_at ce_362 34 rfl) tq_121 rfl rfl ?_
          refine e_mv 62 em_362 (ce_at ce_362 35 rfl) rfl rfl ?_
          refine e_op 63 em_362 (ce_at ce_362 36 rfl) rfl rfl ?_
          refine e_iadd 64 em_362 rfl (ce_at ce_362 37 rfl) ?_
          refine e_gd fun g16 => ?_
          refine e_ild 65 em_362 (ce_at ce_362 38 rfl) tq_123 (by decide) g16 rfl ?_
          refine e_mv 67 em_362 (ce_at ce_362 39 rfl) rfl rfl ?_
          refine e_gd fun g17 => ?_
          refine e_gd fun g18 => ?_
          refine e_cmne 74 70 em_362 rfl rfl (ce_at ce_362 40 rfl) g17 g18 (fun h19 => ?_) (fun h19 => ?_)
          · refine e_op 75 em_362 (ce_at ce_362 43 rfl) rfl rfl ?_
            exact e_retz em_362 (ce_at ce_362 44 rfl) (by decide)
          · refine e_op 71 em_362 (ce_at ce_362 41 rfl) rfl rfl ?_
            refine e_goto em_362 75 (ce_at ce_362 42 rfl) rfl ?_
            exact e_retz em_362 (ce_at ce_362 44 rfl) (by decide)
theorem fm_isText (v1 : Int) (v2 : Int) (v3 : Int) (v4 : Int) (v5 : Int) (s : iS) : Fm Prod.snd L_m_isText G_m_isText s (m_isText v1 v2 v3 v4 v5 s) := fm_gd (fm_gd (fm_if (fm_gd (fm_gd (fm_gd (fm_if (fm_gd (fm_gd (fm_gd (fm_if (fm_gd (fm_gd (fm_gd (fm_if (fm_gd (fm_gd (fm_gd (fm_if (fm_some md_refl) (fm_some md_refl))))) (fm_some md_refl))))) (fm_some md_refl))))) (fm_some md_refl))))) (fm_some md_refl)))
/-! m_checkMain -/
def L_m_checkMain : List Nat := []
def G_m_checkMain : List (Nat × Nat) := [(121, 72)]
def m_checkMain_7C (w : ev_W) (d : Nat) : (Int × iS) ⊕ (iS) → am_E → Prop := fun q r => q.elim (fun l => ev w d 361 7 ((fun l => [(0, .ref (tb_nK + 121)), (1, iv (l.1))]) l) [] (hT ((fun l => l.2) l)) r) (fun e => (fun e r => ev w d 361 110 [] [] (hT (e)) r) e r)
noncomputable def m_checkMain_86 (v1 : Int) (t0 : Int) (s : iS) : Option ((Int × iS) ⊕ (iS)) := gd (rg t0) (if t0 = 0 then some (.inl ((v1 + 1), s)) else gd (rg (s 121 72)) (if (s 121 72) = (-1) then lt' (up s 121 72 v1) (fun s5 => some (.inl ((v1 + 1), s5))) else some (.inl ((v1 + 1), s))))
theorem tm_checkMain_86 (w : ev_W) (d : Nat) (hd : 1 ≤ d) (v1 : Int) (t0 : Int) (s : iS) : Ew hT w d 361 86 [(0, .ref (tb_nK + 121)), (1, iv v1)] [iv t0] s (m_checkMain_7C w d) (m_checkMain_86 v1 t0 s) := by
  unfold m_checkMain_86
  refine e_mv 87 em_361 (ce_at ce_361 48 rfl) rfl rfl ?_
  refine e_mv 88 em_361 (ce_at ce_361 49 rfl) rfl rfl ?_
  refine e_gd fun g1 => ?_
  refine e_ifeq 104 91 em_361 rfl rfl (ce_at ce_361 50 rfl) g1 (fun h2 => ?_) (fun h2 => ?_)
  · refine e_iinc 107 em_361 (ce_at ce_361 58 rfl) rfl (by decide) rfl ?_
    refine e_goto em_361 7 (ce_at ce_361 59 rfl) rfl ?_
    refine e_pk [0, 1] rfl rfl ?_
    exact e_out (fun r h => h)
  · refine e_mv 92 em_361 (ce_at ce_361 51 rfl) rfl rfl ?_
    refine e_get 95 em_361 (ce_at ce_361 52 rfl) tq_121 rfl rfl ?_
    refine e_op 96 em_361 (ce_at ce_361 53 rfl) rfl rfl ?_
    refine e_gd fun g3 => ?_
    refine e_cmne 104 99 em_361 rfl rfl (ce_at ce_361 54 rfl) g3 (by decide) (fun h4 => ?_) (fun h4 => ?_)
    · refine e_iinc 107 em_361 (ce_at ce_361 58 rfl) rfl (by decide) rfl ?_
      refine e_goto em_361 7 (ce_at ce_361 59 rfl) rfl ?_
      refine e_pk [0, 1] rfl rfl ?_
      exact e_out (fun r h => h)
    · refine e_mv 100 em_361 (ce_at ce_361 55 rfl) rfl rfl ?_
      refine e_mv 101 em_361 (ce_at ce_361 56 rfl) rfl rfl ?_
      refine e_put 104 em_361 (ce_at ce_361 57 rfl) tq_121 rfl rfl rfl (fun s5 => ?_)
      refine e_iinc 107 em_361 (ce_at ce_361 58 rfl) rfl (by decide) rfl ?_
      refine e_goto em_361 7 (ce_at ce_361 59 rfl) rfl ?_
      refine e_pk [0, 1] rfl rfl ?_
      exact e_out (fun r h => h)
theorem fm_checkMain_86 (v1 : Int) (t0 : Int) (s : iS) : Fm (fun r : (Int × iS) ⊕ (iS) => r.elim (fun l => l.2) (fun e => e)) L_m_checkMain G_m_checkMain s (m_checkMain_86 v1 t0 s) := fm_gd (fm_if (fm_some md_refl) (fm_gd (fm_if (fm_lt (md_upF (mem_F rfl)) (fun s5 => fm_some md_refl)) (fm_some md_refl))))
noncomputable def m_checkMain_85 (v1 : Int) (s : iS) : Option ((Int × iS) ⊕ (iS)) := m_checkMain_86 v1 0 s
theorem tm_checkMain_85 (w : ev_W) (d : Nat) (hd : 1 ≤ d) (v1 : Int) (s : iS) : Ew hT w d 361 85 [(0, .ref (tb_nK + 121)), (1, iv v1)] [] s (m_checkMain_7C w d) (m_checkMain_85 v1 s) := by
  unfold m_checkMain_85
  refine e_op 86 em_361 (ce_at ce_361 47 rfl) rfl rfl ?_
  refine e_pk [0, 1] rfl rfl ?_
  exact tm_checkMain_86 w d hd _ _ _
theorem fm_checkMain_85 (v1 : Int) (s : iS) : Fm (fun r : (Int × iS) ⊕ (iS) => r.elim (fun l => l.2) (fun e => e)) L_m_checkMain G_m_checkMain s (m_checkMain_85 v1 s) := fm_checkMain_86 _ _ _
noncomputable def m_checkMain_7b (v1 : Int) (s : iS) : Option ((Int × iS) ⊕ (iS)) := gd (rg v1) (gd (rg (s 121 17)) (if (s 121 17) ≤ v1 then some (.inr s) else gd (0 ≤ v1 ∧ v1 < 61) (gd (rg (s 131 v1.toNat)) (if (s 131 v1.toNat) = 2 then gd (rg (s 134 v1.toNat)) (if (s 134 v1.toNat) = 0 then bd (m_isText (s 132 v1.toNat) 109 97 105 110 s) (fun r9 s9 => gd (rg r9) (if r9 = 0 then m_checkMain_85 v1 s9 else gd (0 ≤ (s9 130 v1.toNat) ∧ (s9 130 v1.toNat) < 13) (bd (m_isText (s9 128 (s9 130 v1.toNat).toNat) 77 97 105 110 s9) (fun r13 s13 => gd (rg r13) (if r13 = 0 then m_checkMain_85 v1 s13 else m_checkMain_86 v1 1 s13))))) else m_checkMain_85 v1 s) else m_checkMain_85 v1 s))))
theorem tm_checkMain_7b (w : ev_W) (d : Nat) (hd : 1 ≤ d) (v1 : Int) (s : iS) : Ew hT w d 361 7 [(0, .ref (tb_nK + 121)), (1, iv v1)] [] s (m_checkMain_7C w d) (m_checkMain_7b v1 s) := by
  unfold m_checkMain_7b
  refine e_mv 8 em_361 (ce_at ce_361 5 rfl) rfl rfl ?_
  refine e_mv 9 em_361 (ce_at ce_361 6 rfl) rfl rfl ?_
  refine e_get 12 em_361 (ce_at ce_361 7 rfl) tq_121 rfl rfl ?_
  refine e_gd fun g1 => ?_
  refine e_gd fun g2 => ?_
  refine e_cmge 110 15 em_361 rfl rfl (ce_at ce_361 8 rfl) g1 g2 (fun h3 => ?_) (fun h3 => ?_)
  · refine e_pk [] rfl rfl ?_
    exact e_out (fun r h => h)
  · refine e_mv 16 em_361 (ce_at ce_361 9 rfl) rfl rfl ?_
    refine e_getr 19 em_361 (ce_at ce_361 10 rfl) tq_121 rfl rfl ?_
    refine e_mv 20 em_361 (ce_at ce_361 11 rfl) rfl rfl ?_
    refine e_gd fun g4 => ?_
    refine e_ild 21 em_361 (ce_at ce_361 12 rfl) tq_131 (by decide) g4 rfl ?_
    refine e_op 22 em_361 (ce_at ce_361 13 rfl) rfl rfl ?_
    refine e_gd fun g5 => ?_
    refine e_cmne 85 25 em_361 rfl rfl (ce_at ce_361 14 rfl) g5 (by decide) (fun h6 => ?_) (fun h6 => ?_)
    · refine e_pk [0, 1] rfl rfl ?_
      exact tm_checkMain_85 w d hd _ _
    · refine e_mv 26 em_361 (ce_at ce_361 15 rfl) rfl rfl ?_
      refine e_getr 29 em_361 (ce_at ce_361 16 rfl) tq_121 rfl rfl ?_
      refine e_mv 30 em_361 (ce_at ce_361 17 rfl) rfl rfl ?_
      refine e_ild 31 em_361 (ce_at ce_361 18 rfl) tq_134 (by decide) g4 rfl ?_
      refine e_gd fun g7 => ?_
      refine e_ifne 85 34 em_361 rfl rfl (ce_at ce_361 19 rfl) g7 (fun h8 => ?_) (fun h8 => ?_)
      · refine e_pk [0, 1] rfl rfl ?_
        exact tm_checkMain_85 w d hd _ _
      · refine e_mv 35 em_361 (ce_at ce_361 20 rfl) rfl rfl ?_
        refine e_mv 36 em_361 (ce_at ce_361 21 rfl) rfl rfl ?_
        refine e_getr 39 em_361 (ce_at ce_361 22 rfl) tq_121 rfl rfl ?_
        refine e_mv 40 em_361 (ce_at ce_361 23 rfl) rfl rfl ?_
        refine e_ild 41 em_361 (ce_at ce_361 24 rfl) tq_132 (by decide) g4 rfl ?_
        refine e_bip 43 em_361 (ce_at ce_361 25 rfl) (by decide) rfl ?_
        refine e_bip 45 em_361 (ce_at ce_361 26 rfl) (by decide) rfl ?_
        refine e_bip 47 em_361 (ce_at ce_361 27 rfl) (by decide) rfl ?_
        refine e_bip 49 em_361 (ce_at ce_361 28 rfl) (by decide) rfl ?_
        refine e_ivi 52 em_361 (ce_at ce_361 29 rfl) (by omega) (iv_v5 (by decide) tq_121 rfl) em_362 (Nat.le_of_ble_eq_true rfl) rfl (tm_isText w (d - 1) (by omega) _ _ _ _ _ _) (fun r9 s9 => ?_)
        refine e_gd fun g10 => ?_
        refine e_ifeq 85 55 em_361 rfl rfl (ce_at ce_361 30 rfl) g10 (fun h11 => ?_) (fun h11 => ?_)
        · refine e_pk [0, 1] rfl rfl ?_
          exact tm_checkMain_85 w d hd _ _
        · refine e_mv 56 em_361 (ce_at ce_361 31 rfl) rfl rfl ?_
          refine e_mv 57 em_361 (ce_at ce_361 32 rfl) rfl rfl ?_
          refine e_getr 60 em_361 (ce_at ce_361 33 rfl) tq_121 rfl rfl ?_
          refine e_mv 61 em_361 (ce_at ce_361 34 rfl) rfl rfl ?_
          refine e_getr 64 em_361 (ce_at ce_361 35 rfl) tq_121 rfl rfl ?_
          refine e_mv 65 em_361 (ce_at ce_361 36 rfl) rfl rfl ?_
          refine e_ild 66 em_361 (ce_at ce_361 37 rfl) tq_130 (by decide) g4 rfl ?_
          refine e_gd fun g12 => ?_
          refine e_ild 67 em_361 (ce_at ce_361 38 rfl) tq_128 (by decide) g12 rfl ?_
          refine e_bip 69 em_361 (ce_at ce_361 39 rfl) (by decide) rfl ?_
          refine e_bip 71 em_361 (ce_at ce_361 40 rfl) (by decide) rfl ?_
          refine e_bip 73 em_361 (ce_at ce_361 41 rfl) (by decide) rfl ?_
          refine e_bip 75 em_361 (ce_at ce_361 42 rfl) (by decide) rfl ?_
          refine e_ivi 78 em_361 (ce_at ce_361 43 rfl) (by omega) (iv_v5 (by decide) tq_121 rfl) em_362 (Nat.le_of_ble_eq_true rfl) rfl (tm_isText w (d - 1) (by omega) _ _ _ _ _ _) (fun r13 s13 => ?_)
          refine e_gd fun g14 => ?_
          refine e_ifeq 85 81 em_361 rfl rfl (ce_at ce_361 44 rfl) g14 (fun h15 => ?_) (fun h15 => ?_)
          · refine e_pk [0, 1] rfl rfl ?_
            exact tm_checkMain_85 w d hd _ _
          · refine e_op 82 em_361 (ce_at ce_361 45 rfl) rfl rfl ?_
            refine e_goto em_361 86 (ce_at ce_361 46 rfl) rfl ?_
            refine e_pk [0, 1] rfl rfl ?_
            exact tm_checkMain_86 w d hd _ _ _
theorem fm_checkMain_7b (v1 : Int) (s : iS) : Fm (fun r : (Int × iS) ⊕ (iS) => r.elim (fun l => l.2) (fun e => e)) L_m_checkMain G_m_checkMain s (m_checkMain_7b v1 s) := fm_gd (fm_gd (fm_if (fm_some md_refl) (fm_gd (fm_gd (fm_if (fm_gd (fm_if (fm_bd (fm_sub (fm_isText _ _ _ _ _ _) (mem_sub_L rfl) (mem_sub_F rfl)) (fun r9 s9 => fm_gd (fm_if (fm_checkMain_85 _ _) (fm_gd (fm_bd (fm_sub (fm_isText _ _ _ _ _ _) (mem_sub_L rfl) (mem_sub_F rfl)) (fun r13 s13 => fm_gd (fm_if (fm_checkMain_85 _ _) (fm_checkMain_86 _ _ _)))))))) (fm_checkMain_85 _ _))) (fm_checkMain_85 _ _))))))
noncomputable def m_checkMain_7 (v1 : Int) (s : iS) : Option (Int × iS) := (lp (L := Int × iS) (E := iS) (fun l => m_checkMain_7b (l.1) (l.2)) (v1, s)).bind (fun e => some (0, e))
theorem tm_checkMain_7 (w : ev_W) (d : Nat) (hd : 1 ≤ d) (v1 : Int) (s : iS) : Ew hT w d 361 7 [(0, .ref (tb_nK + 121)), (1, iv v1)] [] s (Cv hT) (m_checkMain_7 v1 s) := by
  unfold m_checkMain_7
  refine e_lp (L := Int × iS) (E := iS) (LO := fun l => [(0, .ref (tb_nK + 121)), (1, iv (l.1))]) (LS := fun l => l.2) (CE := fun e r => ev w d 361 110 [] [] (hT (e)) r) (fun l => tm_checkMain_7b w d hd _ _) ?_ (v1, s)
  intro e
  show Ew hT w d 361 110 [] [] e (Cv hT) _
  exact e_retv em_361 (ce_at ce_361 60 rfl)
theorem fm_checkMain_7 (v1 : Int) (s : iS) : Fm Prod.snd L_m_checkMain G_m_checkMain s (m_checkMain_7 v1 s) := by
  unfold m_checkMain_7
  refine fm_lp (A := Int × iS) (E := iS) (LS := fun l => l.2) (LE := fun e => e) ?_ ?_ (v1, s)
  · exact fun l => fm_checkMain_7b _ _
  · exact (fun e => fm_some md_refl)
noncomputable def m_checkMain (s : iS) : Option (Int × iS) := lt' (up s 121 72 (-1)) (fun s1 => m_checkMain_7 0 s1)
theorem tm_checkMain (w : ev_W) (d : Nat) (hd : 1 ≤ d) (s : iS) : Ew hT w d 361 0 [(0, .ref (tb_nK + 121))] [] s (Cv hT) (m_checkMain s) := by
  unfold m_checkMain
  refine e_mv 1 em_361 (ce_at ce_361 0 rfl) rfl rfl ?_
  refine e_op 2 em_361 (ce_at ce_361 1 rfl) rfl rfl ?_
  refine e_put 5 em_361 (ce_at ce_361 2 rfl) tq_121 rfl rfl rfl (fun s1 => ?_)
  refine e_op 6 em_361 (ce_at ce_361 3 rfl) rfl rfl ?_
  refine e_mv 7 em_361 (ce_at ce_361 4 rfl) rfl rfl ?_
  refine e_pk [0, 1] rfl rfl ?_
  exact tm_checkMain_7 w d hd _ _
theorem fm_checkMain (s : iS) : Fm Prod.snd L_m_checkMain G_m_checkMain s (m_checkMain s) := fm_lt (md_upF (mem_F rfl)) (fun s1 => fm_checkMain_7 _ _)
/-! m_numberOf -/
def L_m_numberOf : List Nat := []
def G_m_numberOf : List (Nat × Nat) := []
noncomputable def m_numberOf (v1 : Int) (v2 : Int) (s : iS) : Option (Int × iS) := gd (rg v1) (if 8 ≤ v1 then gd (0 ≤ v2 ∧ v2 < 61) (some (((100 * v1) + (s 169 v2.toNat)), s)) else gd (0 ≤ v1 ∧ v1 < 9) (some (((100 * v1) + (v2 - (s 164 v1.toNat))), s)))
theorem tm_numberOf (w : ev_W) (d : Nat) (hd : 0 ≤ d) (v1 : Int) (v2 : Int) (s : iS) : Ew hT w d 364 0 [(0, .ref (tb_nK + 121)), (1, iv v1), (2, iv v2)] [] s (Ci hT) (m_numberOf v1 v2 s) := by
  unfold m_numberOf
  refine e_bip 2 em_364 (ce_at ce_364 0 rfl) (by decide) rfl ?_
  refine e_mv 3 em_364 (ce_at ce_364 1 rfl) rfl rfl ?_
  refine e_imul 4 em_364 rfl (ce_at ce_364 2 rfl) ?_
  refine e_mv 5 em_364 (ce_at ce_364 3 rfl) rfl rfl ?_
  refine e_bip 7 em_364 (ce_at ce_364 4 rfl) (by decide) rfl ?_
  refine e_gd fun g1 => ?_
  refine e_cmge 21 10 em_364 rfl rfl (ce_at ce_364 5 rfl) g1 (by decide) (fun h2 => ?_) (fun h2 => ?_)
  · refine e_mv 22 em_364 (ce_at ce_364 13 rfl) rfl rfl ?_
    refine e_getr 25 em_364 (ce_at ce_364 14 rfl) tq_121 rfl rfl ?_
    refine e_mv 26 em_364 (ce_at ce_364 15 rfl) rfl rfl ?_
    refine e_gd fun g3 => ?_
    refine e_ild 27 em_364 (ce_at ce_364 16 rfl) tq_169 (by decide) g3 rfl ?_
    refine e_iadd 28 em_364 rfl (ce_at ce_364 17 rfl) ?_
    exact e_reti em_364 (ce_at ce_364 18 rfl)
  · refine e_mv 11 em_364 (ce_at ce_364 6 rfl) rfl rfl ?_
    refine e_mv 12 em_364 (ce_at ce_364 7 rfl) rfl rfl ?_
    refine e_getr 15 em_364 (ce_at ce_364 8 rfl) tq_121 rfl rfl ?_
    refine e_mv 16 em_364 (ce_at ce_364 9 rfl) rfl rfl ?_
    refine e_gd fun g4 => ?_
    refine e_ild 17 em_364 (ce_at ce_364 10 rfl) tq_164 (by decide) g4 rfl ?_
    refine e_isub 18 em_364 rfl (ce_at ce_364 11 rfl) ?_
    refine e_goto em_364 27 (ce_at ce_364 12 rfl) rfl ?_
    refine e_iadd 28 em_364 rfl (ce_at ce_364 17 rfl) ?_
    exact e_reti em_364 (ce_at ce_364 18 rfl)
theorem fm_numberOf (v1 : Int) (v2 : Int) (s : iS) : Fm Prod.snd L_m_numberOf G_m_numberOf s (m_numberOf v1 v2 s) := fm_gd (fm_if (fm_gd (fm_some md_refl)) (fm_gd (fm_some md_refl)))
/-! m_com -/
def L_m_com : List Nat := [172, 173, 174]
def G_m_com : List (Nat × Nat) := [(121, 76)]
noncomputable def m_com (v1 : Int) (v2 : Int) (v3 : Int) (s : iS) : Option (Int × iS) := gd (0 ≤ (s 121 76) ∧ (s 121 76) < 12000) (lt' (up s 172 (s 121 76).toNat v1) (fun s2 => gd (0 ≤ (s2 121 76) ∧ (s2 121 76) < 12000) (lt' (up s2 173 (s2 121 76).toNat v2) (fun s4 => gd (0 ≤ (s4 121 76) ∧ (s4 121 76) < 12000) (lt' (up s4 174 (s4 121 76).toNat v3) (fun s6 => lt' (up s6 121 76 ((s6 121 76) + 1)) (fun s7 => some (0, s7))))))))
theorem tm_com (w : ev_W) (d : Nat) (hd : 0 ≤ d) (v1 : Int) (v2 : Int) (v3 : Int) (s : iS) : Ew hT w d 365 0 [(0, .ref (tb_nK + 121)), (1, iv v1), (2, iv v2), (3, iv v3)] [] s (Cv hT) (m_com v1 v2 v3 s) := by
  unfold m_com
  refine e_mv 1 em_365 (ce_at ce_365 0 rfl) rfl rfl ?_
  refine e_getr 4 em_365 (ce_at ce_365 1 rfl) tq_121 rfl rfl ?_
  refine e_mv 5 em_365 (ce_at ce_365 2 rfl) rfl rfl ?_
  refine e_get 8 em_365 (ce_at ce_365 3 rfl) tq_121 rfl rfl ?_
  refine e_mv 9 em_365 (ce_at ce_365 4 rfl) rfl rfl ?_
  refine e_gd fun g1 => ?_
  refine e_ist 10 em_365 (ce_at ce_365 5 rfl) tq_172 (by decide) g1 rfl (fun s2 => ?_)
  refine e_mv 11 em_365 (ce_at ce_365 6 rfl) rfl rfl ?_
  refine e_getr 14 em_365 (ce_at ce_365 7 rfl) tq_121 rfl rfl ?_
  refine e_mv 15 em_365 (ce_at ce_365 8 rfl) rfl rfl ?_
  refine e_get 18 em_365 (ce_at ce_365 9 rfl) tq_121 rfl rfl ?_
  refine e_mv 19 em_365 (ce_at ce_365 10 rfl) rfl rfl ?_
  refine e_gd fun g3 => ?_
  refine e_ist 20 em_365 (ce_at ce_365 11 rfl) tq_173 (by decide) g3 rfl (fun s4 => ?_)
  refine e_mv 21 em_365 (ce_at ce_365 12 rfl) rfl rfl ?_
  refine e_getr 24 em_365 (ce_at ce_365 13 rfl) tq_121 rfl rfl ?_
  refine e_mv 25 em_365 (ce_at ce_365 14 rfl) rfl rfl ?_
  refine e_get 28 em_365 (ce_at ce_365 15 rfl) tq_121 rfl rfl ?_
  refine e_mv 29 em_365 (ce_at ce_365 16 rfl) rfl rfl ?_
  refine e_gd fun g5 => ?_
  refine e_ist 30 em_365 (ce_at ce_365 17 rfl) tq_174 (by decide) g5 rfl (fun s6 => ?_)
  refine e_mv 31 em_365 (ce_at ce_365 18 rfl) rfl rfl ?_
  refine e_mv 32 em_365 (ce_at ce_365 19 rfl) rfl rfl ?_
  refine e_get 35 em_365 (ce_at ce_365 20 rfl) tq_121 rfl rfl ?_
  refine e_op 36 em_365 (ce_at ce_365 21 rfl) rfl rfl ?_
  refine e_iadd 37 em_365 rfl (ce_at ce_365 22 rfl) ?_
  refine e_put 40 em_365 (ce_at ce_365 23 rfl) tq_121 rfl rfl rfl (fun s7 => ?_)
  exact e_retv em_365 (ce_at ce_365 24 rfl)
theorem fm_com (v1 : Int) (v2 : Int) (v3 : Int) (s : iS) : Fm Prod.snd L_m_com G_m_com s (m_com v1 v2 v3 s) := fm_gd (fm_lt (md_upL (mem_L rfl)) (fun s2 => fm_gd (fm_lt (md_upL (mem_L rfl)) (fun s4 => fm_gd (fm_lt (md_upL (mem_L rfl)) (fun s6 => fm_lt (md_upF (mem_F rfl)) (fun s7 => fm_some md_refl)))))))
/-! m_comVariable -/
def L_m_comVariable : List Nat := [172, 173, 174]
def G_m_comVariable : List (Nat × Nat) := [(121, 76)]
noncomputable def m_comVariable_73 (v1 : Int) (v2 : Int) (v3 : Int) (t0 : Int) (s : iS) : Option (Int × iS) := gd (0 ≤ v2 ∧ v2 < 1100) (bd (m_com v1 v3 ((s 142 v2.toNat) + t0) s) (fun _ s2 => some (0, s2)))
theorem tm_comVariable_73 (w : ev_W) (d : Nat) (hd : 1 ≤ d) (v1 : Int) (v2 : Int) (v3 : Int) (t0 : Int) (s : iS) : Ew hT w d 367 73 [(0, .ref (tb_nK + 121)), (1, iv v1), (2, iv v2), (3, iv v3)] [iv t0] s (Cv hT) (m_comVariable_73 v1 v2 v3 t0 s) := by
  unfold m_comVariable_73
  refine e_mv 75 em_367 (ce_at ce_367 43 rfl) rfl rfl ?_
  refine e_mv 76 em_367 (ce_at ce_367 44 rfl) rfl rfl ?_
  refine e_mv 77 em_367 (ce_at ce_367 45 rfl) rfl rfl ?_
  refine e_mv 78 em_367 (ce_at ce_367 46 rfl) rfl rfl ?_
  refine e_mv 79 em_367 (ce_at ce_367 47 rfl) rfl rfl ?_
  refine e_getr 82 em_367 (ce_at ce_367 48 rfl) tq_121 rfl rfl ?_
  refine e_mv 83 em_367 (ce_at ce_367 49 rfl) rfl rfl ?_
  refine e_gd fun g1 => ?_
  refine e_ild 84 em_367 (ce_at ce_367 50 rfl) tq_142 (by decide) g1 rfl ?_
  refine e_mv 86 em_367 (ce_at ce_367 51 rfl) rfl rfl ?_
  refine e_iadd 87 em_367 rfl (ce_at ce_367 52 rfl) ?_
  refine e_ivv 90 em_367 (ce_at ce_367 53 rfl) (by omega) (iv_v3 (by decide) tq_121 rfl) em_365 (Nat.le_of_ble_eq_true rfl) rfl (tm_com w (d - 1) (by omega) _ _ _ _) (fun r2 s2 => ?_)
  exact e_retv em_367 (ce_at ce_367 54 rfl)
theorem fm_comVariable_73 (v1 : Int) (v2 : Int) (v3 : Int) (t0 : Int) (s : iS) : Fm Prod.snd L_m_comVariable G_m_comVariable s (m_comVariable_73 v1 v2 v3 t0 s) := fm_gd (fm_bd (fm_sub (fm_com _ _ _ _) (mem_sub_L rfl) (mem_sub_F rfl)) (fun r2 s2 => fm_some md_refl))
noncomputable def m_comVariable_72 (v1 : Int) (v2 : Int) (v3 : Int) (s : iS) : Option (Int × iS) := m_comVariable_73 v1 v2 v3 0 s
theorem tm_comVariable_72 (w : ev_W) (d : Nat) (hd : 1 ≤ d) (v1 : Int) (v2 : Int) (v3 : Int) (s : iS) : Ew hT w d 367 72 [(0, .ref (tb_nK + 121)), (1, iv v1), (2, iv v2), (3, iv v3)] [] s (Cv hT) (m_comVariable_72 v1 v2 v3 s) := by
  unfold m_comVariable_72
  refine e_op 73 em_367 (ce_at ce_367 42 rfl) rfl rfl ?_
  refine e_pk [0, 1, 2, 3] rfl rfl ?_
  exact tm_comVariable_73 w d hd _ _ _ _ _
theorem fm_comVariable_72 (v1 : Int) (v2 : Int) (v3 : Int) (s : iS) : Fm Prod.snd L_m_comVariable G_m_comVariable s (m_comVariable_72 v1 v2 v3 s) := fm_comVariable_73 _ _ _ _ _
noncomputable def m_comVariable_42 (v1 : Int) (v2 : Int) (t0 : Int) (s : iS) : Option (Int × iS) := gd (0 ≤ v2 ∧ v2 < 1100) (gd (rg (s 139 v2.toNat)) (if (s 139 v2.toNat) = 2 then gd (0 ≤ (s 138 v2.toNat) ∧ (s 138 v2.toNat) < 61) (gd (rg (s 131 (s 138 v2.toNat).toNat)) (if (s 131 (s 138 v2.toNat).toNat) = 3 then m_comVariable_73 v1 v2 t0 1 s else m_comVariable_72 v1 v2 t0 s)) else m_comVariable_72 v1 v2 t0 s))
theorem tm_comVariable_42 (w : ev_W) (d : Nat) (hd : 1 ≤ d) (v1 : Int) (v2 : Int) (t0 : Int) (s : iS) : Ew hT w d 367 42 [(0, .ref (tb_nK + 121)), (1, iv v1), (2, iv v2)] [iv t0] s (Cv hT) (m_comVariable_42 v1 v2 t0 s) := by
  unfold m_comVariable_42
  refine e_mv 43 em_367 (ce_at ce_367 24 rfl) rfl rfl ?_
  refine e_mv 44 em_367 (ce_at ce_367 25 rfl) rfl rfl ?_
  refine e_getr 47 em_367 (ce_at ce_367 26 rfl) tq_121 rfl rfl ?_
  refine e_mv 48 em_367 (ce_at ce_367 27 rfl) rfl rfl ?_
  refine e_gd fun g1 => ?_
  refine e_ild 49 em_367 (ce_at ce_367 28 rfl) tq_139 (by decide) g1 rfl ?_
  refine e_op 50 em_367 (ce_at ce_367 29 rfl) rfl rfl ?_
  refine e_gd fun g2 => ?_
  refine e_cmne 72 53 em_367 rfl rfl (ce_at ce_367 30 rfl) g2 (by decide) (fun h3 => ?_) (fun h3 => ?_)
  · refine e_pk [0, 1, 2, 3] rfl rfl ?_
    exact tm_comVariable_72 w d hd _ _ _ _
  · refine e_mv 54 em_367 (ce_at ce_367 31 rfl) rfl rfl ?_
    refine e_getr 57 em_367 (ce_at ce_367 32 rfl) tq_121 rfl rfl ?_
    refine e_mv 58 em_367 (ce_at ce_367 33 rfl) rfl rfl ?_
    refine e_getr 61 em_367 (ce_at ce_367 34 rfl) tq_121 rfl rfl ?_
    refine e_mv 62 em_367 (ce_at ce_367 35 rfl) rfl rfl ?_
    refine e_ild 63 em_367 (ce_at ce_367 36 rfl) tq_138 (by decide) g1 rfl ?_
    refine e_gd fun g4 => ?_
    refine e_ild 64 em_367 (ce_at ce_367 37 rfl) tq_131 (by decide) g4 rfl ?_
    refine e_op 65 em_367 (ce_at ce_367 38 rfl) rfl rfl ?_
    refine e_gd fun g5 => ?_
    refine e_cmne 72 68 em_367 rfl rfl (ce_at ce_367 39 rfl) g5 (by decide) (fun h6 => ?_) (fun h6 => ?_)
    · refine e_pk [0, 1, 2, 3] rfl rfl ?_
      exact tm_comVariable_72 w d hd _ _ _ _
    · refine e_op 69 em_367 (ce_at ce_367 40 rfl) rfl rfl ?_
      refine e_goto em_367 73 (ce_at ce_367 41 rfl) rfl ?_
      refine e_pk [0, 1, 2, 3] rfl rfl ?_
      exact tm_comVariable_73 w d hd _ _ _ _ _
theorem fm_comVariable_42 (v1 : Int) (v2 : Int) (t0 : Int) (s : iS) : Fm Prod.snd L_m_comVariable G_m_comVariable s (m_comVariable_42 v1 v2 t0 s) := fm_gd (fm_gd (fm_if (fm_gd (fm_gd (fm_if (fm_comVariable_73 _ _ _ _ _) (fm_comVariable_72 _ _ _ _)))) (fm_comVariable_72 _ _ _ _)))
noncomputable def m_comVariable (v1 : Int) (v2 : Int) (s : iS) : Option (Int × iS) := gd (0 ≤ v2 ∧ v2 < 1100) (gd (rg (s 139 v2.toNat)) (if (s 139 v2.toNat) = 0 then m_comVariable_42 v1 v2 3 s else if (s 139 v2.toNat) = 1 then m_comVariable_42 v1 v2 4 s else if (s 139 v2.toNat) = 2 then m_comVariable_42 v1 v2 1 s else m_comVariable_42 v1 v2 2 s))
theorem tm_comVariable (w : ev_W) (d : Nat) (hd : 1 ≤ d) (v1 : Int) (v2 : Int) (s : iS) : Ew hT w d 367 0 [(0, .ref (tb_nK + 121)), (1, iv v1), (2, iv v2)] [] s (Cv hT) (m_comVariable v1 v2 s) := by
  unfold m_comVariable
  refine e_mv 1 em_367 (ce_at ce_367 0 rfl) rfl rfl ?_
  refine e_getr 4 em_367 (ce_at ce_367 1 rfl) tq_121 rfl rfl ?_
  refine e_mv 5 em_367 (ce_at ce_367 2 rfl) rfl rfl ?_
  refine e_gd fun g1 => ?_
  refine e_ild 6 em_367 (ce_at ce_367 3 rfl) tq_139 (by decide) g1 rfl ?_
  refine e_gd fun g2 => ?_
  refine e_ifne 13 9 em_367 rfl rfl (ce_at ce_367 4 rfl) g2 (fun h3 => ?_) (fun h3 => ?_)
  · refine e_mv 14 em_367 (ce_at ce_367 7 rfl) rfl rfl ?_
    refine e_getr 17 em_367 (ce_at ce_367 8 rfl) tq_121 rfl rfl ?_
    refine e_mv 18 em_367 (ce_at ce_367 9 rfl) rfl rfl ?_
    refine e_ild 19 em_367 (ce_at ce_367 10 rfl) tq_139 (by decide) g1 rfl ?_
    refine e_op 20 em_367 (ce_at ce_367 11 rfl) rfl rfl ?_
    refine e_cmne 27 23 em_367 rfl rfl (ce_at ce_367 12 rfl) g2 (by decide) (fun h4 => ?_) (fun h4 => ?_)
    · refine e_mv 28 em_367 (ce_at ce_367 15 rfl) rfl rfl ?_
      refine e_getr 31 em_367 (ce_at ce_367 16 rfl) tq_121 rfl rfl ?_
      refine e_mv 32 em_367 (ce_at ce_367 17 rfl) rfl rfl ?_
      refine e_ild 33 em_367 (ce_at ce_367 18 rfl) tq_139 (by decide) g1 rfl ?_
      refine e_op 34 em_367 (ce_at ce_367 19 rfl) rfl rfl ?_
      refine e_cmne 41 37 em_367 rfl rfl (ce_at ce_367 20 rfl) g2 (by decide) (fun h5 => ?_) (fun h5 => ?_)
      · refine e_op 42 em_367 (ce_at ce_367 23 rfl) rfl rfl ?_
        refine e_pk [0, 1, 2] rfl rfl ?_
        exact tm_comVariable_42 w d hd _ _ _ _
      · refine e_op 38 em_367 (ce_at ce_367 21 rfl) rfl rfl ?_
        refine e_goto em_367 42 (ce_at ce_367 22 rfl) rfl ?_
        refine e_pk [0, 1, 2] rfl rfl ?_
        exact tm_comVariable_42 w d hd _ _ _ _
    · refine e_op 24 em_367 (ce_at ce_367 13 rfl) rfl rfl ?_
      refine e_goto em_367 42 (ce_at ce_367 14 rfl) rfl ?_
      refine e_pk [0, 1, 2] rfl rfl ?_
      exact tm_comVariable_42 w d hd _ _ _ _
  · refine e_op 10 em_367 (ce_at ce_367 5 rfl) rfl rfl ?_
    refine e_goto em_367 42 (ce_at ce_367 6 rfl) rfl ?_
    refine e_pk [0, 1, 2] rfl rfl ?_
    exact tm_comVariable_42 w d hd _ _ _ _
theorem fm_comVariable (v1 : Int) (v2 : Int) (s : iS) : Fm Prod.snd L_m_comVariable G_m_comVariable s (m_comVariable v1 v2 s) := fm_gd (fm_gd (fm_if (fm_comVariable_42 _ _ _ _) (fm_if (fm_comVariable_42 _ _ _ _) (fm_if (fm_comVariable_42 _ _ _ _) (fm_comVariable_42 _ _ _ _)))))
