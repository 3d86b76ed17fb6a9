/-! what the methods do, as functions, and that the machine does it; printed by wip/whole/dc.py -/
/-! m_computes -/
def L_m_computes : List Nat := [189, 193]
def G_m_computes : List (Nat × Nat) := [(121, 110)]
def m_computes_8C (w : ev_W) (d : Nat) (v1 : Int) (v2 : Int) : (Int × Int × Int × iS) ⊕ (Int × Int × iS) → am_E → Prop := fun q r => q.elim (fun l => ev w d 432 8 ((fun l => [(0, .ref (tb_nK + 121)), (1, iv v1), (2, iv v2), (3, iv (l.1)), (4, iv (l.2.1)), (5, iv (l.2.2.1))]) l) [] (hT ((fun l => l.2.2.2) l)) r) (fun e => (fun e r => ev w d 432 66 [(0, .ref (tb_nK + 121)), (1, iv v1), (2, iv v2), (3, iv (e.1)), (4, iv (e.2.1))] [] (hT (e.2.2)) r) e r)
noncomputable def m_computes_36 (v1 : Int) (v2 : Int) (v3 : Int) (v4 : Int) (v5 : Int) (s : iS) : Option ((Int × Int × Int × iS) ⊕ (Int × Int × iS)) := gd (0 ≤ (v1 + v5) ∧ (v1 + v5) < 4000) (gd (rg (s 123 (v1 + v5).toNat)) (if (s 123 (v1 + v5).toNat) = 59 then gd (rg v4) (if v4 = (-1) then some (.inl (v3, v5, (v5 + 1), s)) else some (.inl (v3, v4, (v5 + 1), s))) else some (.inl (v3, v4, (v5 + 1), s))))
theorem tm_computes_36 (w : ev_W) (d : Nat) (hd : 2 ≤ d) (v1 : Int) (v2 : Int) (v3 : Int) (v4 : Int) (v5 : Int) (s : iS) : Ew hT w d 432 36 [(0, .ref (tb_nK + 121)), (1, iv v1), (2, iv v2), (3, iv v3), (4, iv v4), (5, iv v5)] [] s (m_computes_8C w d v1 v2) (m_computes_36 v1 v2 v3 v4 v5 s) := by
  unfold m_computes_36
  refine e_mv 37 em_432 (ce_at ce_432 22 rfl) rfl rfl ?_
  refine e_getr 40 em_432 (ce_at ce_432 23 rfl) tq_121 rfl rfl ?_
  refine e_mv 41 em_432 (ce_at ce_432 24 rfl) rfl rfl ?_
  refine e_mv 43 em_432 (ce_at ce_432 25 rfl) rfl rfl ?_
  refine e_iadd 44 em_432 rfl (ce_at ce_432 26 rfl) ?_
  refine e_gd fun g1 => ?_
  refine e_ild 45 em_432 (ce_at ce_432 27 rfl) tq_123 (by decide) g1 rfl ?_
  refine e_bip 47 em_432 (ce_at ce_432 28 rfl) (by decide) rfl ?_
  refine e_gd fun g2 => ?_
  refine e_cmne 60 50 em_432 rfl rfl (ce_at ce_432 29 rfl) g2 (by decide) (fun h3 => ?_) (fun h3 => ?_)
  · refine e_iinc 63 em_432 (ce_at ce_432 35 rfl) rfl (by decide) rfl ?_
    refine e_goto em_432 8 (ce_at ce_432 36 rfl) rfl ?_
    refine e_pk [0, 1, 2, 3, 4, 5] rfl rfl ?_
    exact e_out (fun r h => h)
  · refine e_mv 52 em_432 (ce_at ce_432 30 rfl) rfl rfl ?_
    refine e_op 53 em_432 (ce_at ce_432 31 rfl) rfl rfl ?_
    refine e_gd fun g4 => ?_
    refine e_cmne 60 56 em_432 rfl rfl (ce_at ce_432 32 rfl) g4 (by decide) (fun h5 => ?_) (fun h5 => ?_)
    · refine e_iinc 63 em_432 (ce_at ce_432 35 rfl) rfl (by decide) rfl ?_
      refine e_goto em_432 8 (ce_at ce_432 36 rfl) rfl ?_
      refine e_pk [0, 1, 2, 3, 4, 5] rfl rfl ?_
      exact e_out (fun r h => h)
    · refine e_mv 58 em_432 (ce_at ce_432 33 rfl) rfl rfl ?_
      refine e_mv 60 em_432 (ce_at ce_432 34 rfl) rfl rfl ?_
      refine e_iinc 63 em_432 (ce_at ce_432 35 rfl) rfl (by decide) rfl ?_
      refine e_goto em_432 8 (ce_at ce_432 36 rfl) rfl ?_
      refine e_pk [0, 1, 2, 3, 4, 5] rfl rfl ?_
      exact e_out (fun r h => h)
theorem fm_computes_36 (v1 : Int) (v2 : Int) (v3 : Int) (v4 : Int) (v5 : Int) (s : iS) : Fm (fun r : (Int × Int × Int × iS) ⊕ (Int × Int × iS) => r.elim (fun l => l.2.2.2) (fun e => e.2.2)) L_m_computes G_m_computes s (m_computes_36 v1 v2 v3 v4 v5 s) := fm_gd (fm_gd (fm_if (fm_gd (fm_if (fm_some md_refl) (fm_some md_refl))) (fm_some md_refl)))
noncomputable def m_computes_8b (v1 : Int) (v2 : Int) (v3 : Int) (v4 : Int) (v5 : Int) (s : iS) : Option ((Int × Int × Int × iS) ⊕ (Int × Int × iS)) := gd (rg v5) (gd (rg v2) (if v2 ≤ v5 then some (.inr (v3, v4, s)) else gd (0 ≤ (v1 + v5) ∧ (v1 + v5) < 4000) (gd (rg (s 123 (v1 + v5).toNat)) (if (s 123 (v1 + v5).toNat) = 61 then gd (rg v3) (if v3 = (-1) then m_computes_36 v1 v2 v5 v4 v5 s else m_computes_36 v1 v2 v3 v4 v5 s) else m_computes_36 v1 v2 v3 v4 v5 s))))
theorem tm_computes_8b (w : ev_W) (d : Nat) (hd : 2 ≤ d) (v1 : Int) (v2 : Int) (v3 : Int) (v4 : Int) (v5 : Int) (s : iS) : Ew hT w d 432 8 [(0, .ref (tb_nK + 121)), (1, iv v1), (2, iv v2), (3, iv v3), (4, iv v4), (5, iv v5)] [] s (m_computes_8C w d v1 v2) (m_computes_8b v1 v2 v3 v4 v5 s) := by
  unfold m_computes_8b
  refine e_mv 10 em_432 (ce_at ce_432 6 rfl) rfl rfl ?_
  refine e_mv 11 em_432 (ce_at ce_432 7 rfl) rfl rfl ?_
  refine e_gd fun g1 => ?_
  refine e_gd fun g2 => ?_
  refine e_cmge 66 14 em_432 rfl rfl (ce_at ce_432 8 rfl) g1 g2 (fun h3 => ?_) (fun h3 => ?_)
  · refine e_pk [0, 1, 2, 3, 4] rfl rfl ?_
    exact e_out (fun r h => h)
  · refine e_mv 15 em_432 (ce_at ce_432 9 rfl) rfl rfl ?_
    refine e_getr 18 em_432 (ce_at ce_432 10 rfl) tq_121 rfl rfl ?_
    refine e_mv 19 em_432 (ce_at ce_432 11 rfl) rfl rfl ?_
    refine e_mv 21 em_432 (ce_at ce_432 12 rfl) rfl rfl ?_
    refine e_iadd 22 em_432 rfl (ce_at ce_432 13 rfl) ?_
    refine e_gd fun g4 => ?_
    refine e_ild 23 em_432 (ce_at ce_432 14 rfl) tq_123 (by decide) g4 rfl ?_
    refine e_bip 25 em_432 (ce_at ce_432 15 rfl) (by decide) rfl ?_
    refine e_gd fun g5 => ?_
    refine e_cmne 36 28 em_432 rfl rfl (ce_at ce_432 16 rfl) g5 (by decide) (fun h6 => ?_) (fun h6 => ?_)
    · refine e_pk [0, 1, 2, 3, 4, 5] rfl rfl ?_
      exact tm_computes_36 w d hd _ _ _ _ _ _
    · refine e_mv 29 em_432 (ce_at ce_432 17 rfl) rfl rfl ?_
      refine e_op 30 em_432 (ce_at ce_432 18 rfl) rfl rfl ?_
      refine e_gd fun g7 => ?_
      refine e_cmne 36 33 em_432 rfl rfl (ce_at ce_432 19 rfl) g7 (by decide) (fun h8 => ?_) (fun h8 => ?_)
      · refine e_pk [0, 1, 2, 3, 4, 5] rfl rfl ?_
        exact tm_computes_36 w d hd _ _ _ _ _ _
      · refine e_mv 35 em_432 (ce_at ce_432 20 rfl) rfl rfl ?_
        refine e_mv 36 em_432 (ce_at ce_432 21 rfl) rfl rfl ?_
        refine e_pk [0, 1, 2, 3, 4, 5] rfl rfl ?_
        exact tm_computes_36 w d hd _ _ _ _ _ _
theorem fm_computes_8b (v1 : Int) (v2 : Int) (v3 : Int) (v4 : Int) (v5 : Int) (s : iS) : Fm (fun r : (Int × Int × Int × iS) ⊕ (Int × Int × iS) => r.elim (fun l => l.2.2.2) (fun e => e.2.2)) L_m_computes G_m_computes s (m_computes_8b v1 v2 v3 v4 v5 s) := fm_gd (fm_gd (fm_if (fm_some md_refl) (fm_gd (fm_gd (fm_if (fm_gd (fm_if (fm_computes_36 _ _ _ _ _ _) (fm_computes_36 _ _ _ _ _ _))) (fm_computes_36 _ _ _ _ _ _))))))
noncomputable def m_computes_195 (v7 : Int) (v8 : Int) (v9 : Int) (s : iS) : Option (Int × iS) := gd (rg (s 121 110)) (if (s 121 110) = 1500 then some (2, s) else gd (0 ≤ (s 121 110) ∧ (s 121 110) < 2000) (lt' (up s 193 (s 121 110).toNat (-1)) (fun s4 => gd (0 ≤ (s4 121 110) ∧ (s4 121 110) < 2000) (lt' (up s4 189 (s4 121 110).toNat (((57344 + (64 * v8)) + v7) + v9)) (fun s6 => lt' (up s6 121 110 ((s6 121 110) + 1)) (fun s7 => some (0, s7)))))))
theorem tm_computes_195 (w : ev_W) (d : Nat) (hd : 2 ≤ d) (v7 : Int) (v8 : Int) (v9 : Int) (s : iS) : Ew hT w d 432 195 [(0, .ref (tb_nK + 121)), (7, iv v7), (8, iv v8), (9, iv v9)] [] s (Ci hT) (m_computes_195 v7 v8 v9 s) := by
  unfold m_computes_195
  refine e_mv 196 em_432 (ce_at ce_432 114 rfl) rfl rfl ?_
  refine e_get 199 em_432 (ce_at ce_432 115 rfl) tq_121 rfl rfl ?_
  refine e_sip 202 em_432 (ce_at ce_432 116 rfl) (by decide) rfl ?_
  refine e_gd fun g1 => ?_
  refine e_cmne 207 205 em_432 rfl rfl (ce_at ce_432 117 rfl) g1 (by decide) (fun h2 => ?_) (fun h2 => ?_)
  · refine e_mv 208 em_432 (ce_at ce_432 120 rfl) rfl rfl ?_
    refine e_getr 211 em_432 (ce_at ce_432 121 rfl) tq_121 rfl rfl ?_
    refine e_mv 212 em_432 (ce_at ce_432 122 rfl) rfl rfl ?_
    refine e_get 215 em_432 (ce_at ce_432 123 rfl) tq_121 rfl rfl ?_
    refine e_op 216 em_432 (ce_at ce_432 124 rfl) rfl rfl ?_
    refine e_gd fun g3 => ?_
    refine e_ist 217 em_432 (ce_at ce_432 125 rfl) tq_193 (by decide) g3 rfl (fun s4 => ?_)
    refine e_mv 218 em_432 (ce_at ce_432 126 rfl) rfl rfl ?_
    refine e_getr 221 em_432 (ce_at ce_432 127 rfl) tq_121 rfl rfl ?_
    refine e_mv 222 em_432 (ce_at ce_432 128 rfl) rfl rfl ?_
    refine e_get 225 em_432 (ce_at ce_432 129 rfl) tq_121 rfl rfl ?_
    refine e_ldcw 228 em_432 (ce_at ce_432 130 rfl) (x := 57344) rfl rfl ?_
    refine e_bip 230 em_432 (ce_at ce_432 131 rfl) (by decide) rfl ?_
    refine e_mv 232 em_432 (ce_at ce_432 132 rfl) rfl rfl ?_
    refine e_imul 233 em_432 rfl (ce_at ce_432 133 rfl) ?_
    refine e_iadd 234 em_432 rfl (ce_at ce_432 134 rfl) ?_
    refine e_mv 236 em_432 (ce_at ce_432 135 rfl) rfl rfl ?_
    refine e_iadd 237 em_432 rfl (ce_at ce_432 136 rfl) ?_
    refine e_mv 239 em_432 (ce_at ce_432 137 rfl) rfl rfl ?_
    refine e_iadd 240 em_432 rfl (ce_at ce_432 138 rfl) ?_
    refine e_gd fun g5 => ?_
    refine e_ist 241 em_432 (ce_at ce_432 139 rfl) tq_189 (by decide) g5 rfl (fun s6 => ?_)
    refine e_mv 242 em_432 (ce_at ce_432 140 rfl) rfl rfl ?_
    refine e_mv 243 em_432 (ce_at ce_432 141 rfl) rfl rfl ?_
    refine e_get 246 em_432 (ce_at ce_432 142 rfl) tq_121 rfl rfl ?_
    refine e_op 247 em_432 (ce_at ce_432 143 rfl) rfl rfl ?_
    refine e_iadd 248 em_432 rfl (ce_at ce_432 144 rfl) ?_
    refine e_put 251 em_432 (ce_at ce_432 145 rfl) tq_121 rfl rfl rfl (fun s7 => ?_)
    refine e_op 252 em_432 (ce_at ce_432 146 rfl) rfl rfl ?_
    exact e_reti em_432 (ce_at ce_432 147 rfl)
  · refine e_op 206 em_432 (ce_at ce_432 118 rfl) rfl rfl ?_
    exact e_reti em_432 (ce_at ce_432 119 rfl)
theorem fm_computes_195 (v7 : Int) (v8 : Int) (v9 : Int) (s : iS) : Fm Prod.snd L_m_computes G_m_computes s (m_computes_195 v7 v8 v9 s) := fm_gd (fm_if (fm_some md_refl) (fm_gd (fm_lt (md_upL (mem_L rfl)) (fun s4 => fm_gd (fm_lt (md_upL (mem_L rfl)) (fun s6 => fm_lt (md_upF (mem_F rfl)) (fun s7 => fm_some md_refl)))))))
noncomputable def m_computes_157 (v2 : Int) (v4 : Int) (v7 : Int) (v8 : Int) (t0 : Int) (s : iS) : Option (Int × iS) := gd (rg v7) (if v7 = (-1) then some (1, s) else gd (rg v8) (if v8 = (-1) then some (1, s) else gd (rg v4) (if v4 = (-1) then m_computes_195 v7 v8 t0 s else gd (rg t0) (if t0 < 1 then some (1, s) else gd (rg ((v2 - v4) - 1)) (if ((v2 - v4) - 1) = 3 then m_computes_195 v7 v8 t0 s else some (1, s))))))
theorem tm_computes_157 (w : ev_W) (d : Nat) (hd : 2 ≤ d) (v2 : Int) (v4 : Int) (v7 : Int) (v8 : Int) (t0 : Int) (s : iS) : Ew hT w d 432 157 [(0, .ref (tb_nK + 121)), (2, iv v2), (4, iv v4), (7, iv v7), (8, iv v8)] [iv t0] s (Ci hT) (m_computes_157 v2 v4 v7 v8 t0 s) := by
  unfold m_computes_157
  refine e_mv 159 em_432 (ce_at ce_432 92 rfl) rfl rfl ?_
  refine e_mv 161 em_432 (ce_at ce_432 93 rfl) rfl rfl ?_
  refine e_op 162 em_432 (ce_at ce_432 94 rfl) rfl rfl ?_
  refine e_gd fun g1 => ?_
  refine e_cmeq 193 165 em_432 rfl rfl (ce_at ce_432 95 rfl) g1 (by decide) (fun h2 => ?_) (fun h2 => ?_)
  · refine e_op 194 em_432 (ce_at ce_432 112 rfl) rfl rfl ?_
    exact e_reti em_432 (ce_at ce_432 113 rfl)
  · refine e_mv 167 em_432 (ce_at ce_432 96 rfl) rfl rfl ?_
    refine e_op 168 em_432 (ce_at ce_432 97 rfl) rfl rfl ?_
    refine e_gd fun g3 => ?_
    refine e_cmeq 193 171 em_432 rfl rfl (ce_at ce_432 98 rfl) g3 (by decide) (fun h4 => ?_) (fun h4 => ?_)
    · refine e_op 194 em_432 (ce_at ce_432 112 rfl) rfl rfl ?_
      exact e_reti em_432 (ce_at ce_432 113 rfl)
    · refine e_mv 173 em_432 (ce_at ce_432 99 rfl) rfl rfl ?_
      refine e_op 174 em_432 (ce_at ce_432 100 rfl) rfl rfl ?_
      refine e_gd fun g5 => ?_
      refine e_cmeq 195 177 em_432 rfl rfl (ce_at ce_432 101 rfl) g5 (by decide) (fun h6 => ?_) (fun h6 => ?_)
      · refine e_pk [0, 7, 8, 9] rfl rfl ?_
        exact tm_computes_195 w d hd _ _ _ _
      · refine e_mv 179 em_432 (ce_at ce_432 102 rfl) rfl rfl ?_
        refine e_op 180 em_432 (ce_at ce_432 103 rfl) rfl rfl ?_
        refine e_gd fun g7 => ?_
        refine e_cmlt 193 183 em_432 rfl rfl (ce_at ce_432 104 rfl) g7 (by decide) (fun h8 => ?_) (fun h8 => ?_)
        · refine e_op 194 em_432 (ce_at ce_432 112 rfl) rfl rfl ?_
          exact e_reti em_432 (ce_at ce_432 113 rfl)
        · refine e_mv 184 em_432 (ce_at ce_432 105 rfl) rfl rfl ?_
          refine e_mv 186 em_432 (ce_at ce_432 106 rfl) rfl rfl ?_
          refine e_isub 187 em_432 rfl (ce_at ce_432 107 rfl) ?_
          refine e_op 188 em_432 (ce_at ce_432 108 rfl) rfl rfl ?_
          refine e_isub 189 em_432 rfl (ce_at ce_432 109 rfl) ?_
          refine e_op 190 em_432 (ce_at ce_432 110 rfl) rfl rfl ?_
          refine e_gd fun g9 => ?_
          refine e_cmeq 195 193 em_432 rfl rfl (ce_at ce_432 111 rfl) g9 (by decide) (fun h10 => ?_) (fun h10 => ?_)
          · refine e_pk [0, 7, 8, 9] rfl rfl ?_
            exact tm_computes_195 w d hd _ _ _ _
          · refine e_op 194 em_432 (ce_at ce_432 112 rfl) rfl rfl ?_
            exact e_reti em_432 (ce_at ce_432 113 rfl)
theorem fm_computes_157 (v2 : Int) (v4 : Int) (v7 : Int) (v8 : Int) (t0 : Int) (s : iS) : Fm Prod.snd L_m_computes G_m_computes s (m_computes_157 v2 v4 v7 v8 t0 s) := fm_gd (fm_if (fm_some md_refl) (fm_gd (fm_if (fm_some md_refl) (fm_gd (fm_if (fm_computes_195 _ _ _ _) (fm_gd (fm_if (fm_some md_refl) (fm_gd (fm_if (fm_computes_195 _ _ _ _) (fm_some md_refl))))))))))
noncomputable def m_computes_109 (v1 : Int) (v2 : Int) (v4 : Int) (v5 : Int) (v6 : Int) (t0 : Int) (s : iS) : Option (Int × iS) := bd (m_compOf (v1 + v5) (v6 - v5) s) (fun r1 s1 => gd (rg v4) (if v4 = (-1) then m_computes_157 v2 v4 t0 r1 0 s1 else bd (m_wordOf 28 ka_10 ((v1 + v4) + 1) ((v2 - v4) - 1) s1) (fun r4 s4 => m_computes_157 v2 v4 t0 r1 (1 + r4) s4)))
theorem tm_computes_109 (w : ev_W) (d : Nat) (hd : 2 ≤ d) (v1 : Int) (v2 : Int) (v4 : Int) (v5 : Int) (v6 : Int) (t0 : Int) (s : iS) : Ew hT w d 432 109 [(0, .ref (tb_nK + 121)), (1, iv v1), (2, iv v2), (4, iv v4), (5, iv v5), (6, iv v6)] [iv t0] s (Ci hT) (m_computes_109 v1 v2 v4 v5 v6 t0 s) := by
  unfold m_computes_109
  refine e_mv 111 em_432 (ce_at ce_432 62 rfl) rfl rfl ?_
  refine e_mv 112 em_432 (ce_at ce_432 63 rfl) rfl rfl ?_
  refine e_mv 113 em_432 (ce_at ce_432 64 rfl) rfl rfl ?_
  refine e_mv 115 em_432 (ce_at ce_432 65 rfl) rfl rfl ?_
  refine e_iadd 116 em_432 rfl (ce_at ce_432 66 rfl) ?_
  refine e_mv 118 em_432 (ce_at ce_432 67 rfl) rfl rfl ?_
  refine e_mv 120 em_432 (ce_at ce_432 68 rfl) rfl rfl ?_
  refine e_isub 121 em_432 rfl (ce_at ce_432 69 rfl) ?_
  refine e_ivi 124 em_432 (ce_at ce_432 70 rfl) (by omega) (iv_v2 (by decide) tq_121 rfl) em_434 (Nat.le_of_ble_eq_true rfl) rfl (tm_compOf w (d - 1) (by omega) _ _ _) (fun r1 s1 => ?_)
  refine e_mv 126 em_432 (ce_at ce_432 71 rfl) rfl rfl ?_
  refine e_mv 128 em_432 (ce_at ce_432 72 rfl) rfl rfl ?_
  refine e_op 129 em_432 (ce_at ce_432 73 rfl) rfl rfl ?_
  refine e_gd fun g2 => ?_
  refine e_cmne 136 132 em_432 rfl rfl (ce_at ce_432 74 rfl) g2 (by decide) (fun h3 => ?_) (fun h3 => ?_)
  · refine e_op 137 em_432 (ce_at ce_432 77 rfl) rfl rfl ?_
    refine e_mv 138 em_432 (ce_at ce_432 78 rfl) rfl rfl ?_
    refine e_gst 141 em_432 (ce_at ce_432 79 rfl) rfl rfl ?_
    refine e_mv 142 em_432 (ce_at ce_432 80 rfl) rfl rfl ?_
    refine e_mv 144 em_432 (ce_at ce_432 81 rfl) rfl rfl ?_
    refine e_iadd 145 em_432 rfl (ce_at ce_432 82 rfl) ?_
    refine e_op 146 em_432 (ce_at ce_432 83 rfl) rfl rfl ?_
    refine e_iadd 147 em_432 rfl (ce_at ce_432 84 rfl) ?_
    refine e_mv 148 em_432 (ce_at ce_432 85 rfl) rfl rfl ?_
    refine e_mv 150 em_432 (ce_at ce_432 86 rfl) rfl rfl ?_
    refine e_isub 151 em_432 rfl (ce_at ce_432 87 rfl) ?_
    refine e_op 152 em_432 (ce_at ce_432 88 rfl) rfl rfl ?_
    refine e_isub 153 em_432 rfl (ce_at ce_432 89 rfl) ?_
    refine e_ivi 156 em_432 (ce_at ce_432 90 rfl) (by omega) (iv_v3 (by decide) tq_121 rfl) em_309 (Nat.le_of_ble_eq_true rfl) rfl (tm_wordOf w (d - 1) (by omega) 28 ka_10 10 (by decide) (kt_10 _ _) (by decide) _ _ _) (fun r4 s4 => ?_)
    refine e_iadd 157 em_432 rfl (ce_at ce_432 91 rfl) ?_
    refine e_pk [0, 2, 4, 7, 8] rfl rfl ?_
    exact tm_computes_157 w d hd _ _ _ _ _ _
  · refine e_op 133 em_432 (ce_at ce_432 75 rfl) rfl rfl ?_
    refine e_goto em_432 157 (ce_at ce_432 76 rfl) rfl ?_
    refine e_pk [0, 2, 4, 7, 8] rfl rfl ?_
    exact tm_computes_157 w d hd _ _ _ _ _ _
theorem fm_computes_109 (v1 : Int) (v2 : Int) (v4 : Int) (v5 : Int) (v6 : Int) (t0 : Int) (s : iS) : Fm Prod.snd L_m_computes G_m_computes s (m_computes_109 v1 v2 v4 v5 v6 t0 s) := fm_bd (fm_sub (fm_compOf _ _ _) (mem_sub_L rfl) (mem_sub_F rfl)) (fun r1 s1 => fm_gd (fm_if (fm_computes_157 _ _ _ _ _ _) (fm_bd (fm_sub (fm_wordOf 28 ka_10 _ _ _) (mem_sub_L rfl) (mem_sub_F rfl)) (fun r4 s4 => fm_computes_157 _ _ _ _ _ _))))
noncomputable def m_computes_83 (v1 : Int) (v2 : Int) (v3 : Int) (v4 : Int) (v5 : Int) (t0 : Int) (s : iS) : Option (Int × iS) := gd (rg t0) (gd (rg v5) (if v5 ≤ t0 then gd (rg v3) (if v3 = (-1) then m_computes_109 v1 v2 v4 v5 t0 0 s else bd (m_destOf v1 v3 s) (fun r6 s6 => m_computes_109 v1 v2 v4 v5 t0 r6 s6)) else some (1, s)))
theorem tm_computes_83 (w : ev_W) (d : Nat) (hd : 2 ≤ d) (v1 : Int) (v2 : Int) (v3 : Int) (v4 : Int) (v5 : Int) (t0 : Int) (s : iS) : Ew hT w d 432 83 [(0, .ref (tb_nK + 121)), (1, iv v1), (2, iv v2), (3, iv v3), (4, iv v4), (5, iv v5)] [iv t0] s (Ci hT) (m_computes_83 v1 v2 v3 v4 v5 t0 s) := by
  unfold m_computes_83
  refine e_mv 85 em_432 (ce_at ce_432 47 rfl) rfl rfl ?_
  refine e_mv 87 em_432 (ce_at ce_432 48 rfl) rfl rfl ?_
  refine e_mv 89 em_432 (ce_at ce_432 49 rfl) rfl rfl ?_
  refine e_gd fun g1 => ?_
  refine e_gd fun g2 => ?_
  refine e_cmge 94 92 em_432 rfl rfl (ce_at ce_432 50 rfl) g1 g2 (fun h3 => ?_) (fun h3 => ?_)
  · refine e_mv 95 em_432 (ce_at ce_432 53 rfl) rfl rfl ?_
    refine e_op 96 em_432 (ce_at ce_432 54 rfl) rfl rfl ?_
    refine e_gd fun g4 => ?_
    refine e_cmne 103 99 em_432 rfl rfl (ce_at ce_432 55 rfl) g4 (by decide) (fun h5 => ?_) (fun h5 => ?_)
    · refine e_mv 104 em_432 (ce_at ce_432 58 rfl) rfl rfl ?_
      refine e_mv 105 em_432 (ce_at ce_432 59 rfl) rfl rfl ?_
      refine e_mv 106 em_432 (ce_at ce_432 60 rfl) rfl rfl ?_
      refine e_ivi 109 em_432 (ce_at ce_432 61 rfl) (by omega) (iv_v2 (by decide) tq_121 rfl) em_433 (Nat.le_of_ble_eq_true rfl) rfl (tm_destOf w (d - 1) (by omega) _ _ _) (fun r6 s6 => ?_)
      refine e_pk [0, 1, 2, 4, 5, 6] rfl rfl ?_
      exact tm_computes_109 w d hd _ _ _ _ _ _ _
    · refine e_op 100 em_432 (ce_at ce_432 56 rfl) rfl rfl ?_
      refine e_goto em_432 109 (ce_at ce_432 57 rfl) rfl ?_
      refine e_pk [0, 1, 2, 4, 5, 6] rfl rfl ?_
      exact tm_computes_109 w d hd _ _ _ _ _ _ _
  · refine e_op 93 em_432 (ce_at ce_432 51 rfl) rfl rfl ?_
    exact e_reti em_432 (ce_at ce_432 52 rfl)
theorem fm_computes_83 (v1 : Int) (v2 : Int) (v3 : Int) (v4 : Int) (v5 : Int) (t0 : Int) (s : iS) : Fm Prod.snd L_m_computes G_m_computes s (m_computes_83 v1 v2 v3 v4 v5 t0 s) := fm_gd (fm_gd (fm_if (fm_gd (fm_if (fm_computes_109 _ _ _ _ _ _ _) (fm_bd (fm_sub (fm_destOf _ _ _) (mem_sub_L rfl) (mem_sub_F rfl)) (fun r6 s6 => fm_computes_109 _ _ _ _ _ _ _)))) (fm_some md_refl)))
noncomputable def m_computes_66 (v1 : Int) (v2 : Int) (v3 : Int) (v4 : Int) (s : iS) : Option (Int × iS) := gd (rg v4) (if v4 = (-1) then m_computes_83 v1 v2 v3 v4 (v3 + 1) v2 s else m_computes_83 v1 v2 v3 v4 (v3 + 1) v4 s)
theorem tm_computes_66 (w : ev_W) (d : Nat) (hd : 2 ≤ d) (v1 : Int) (v2 : Int) (v3 : Int) (v4 : Int) (s : iS) : Ew hT w d 432 66 [(0, .ref (tb_nK + 121)), (1, iv v1), (2, iv v2), (3, iv v3), (4, iv v4)] [] s (Ci hT) (m_computes_66 v1 v2 v3 v4 s) := by
  unfold m_computes_66
  refine e_mv 67 em_432 (ce_at ce_432 37 rfl) rfl rfl ?_
  refine e_op 68 em_432 (ce_at ce_432 38 rfl) rfl rfl ?_
  refine e_iadd 69 em_432 rfl (ce_at ce_432 39 rfl) ?_
  refine e_mv 71 em_432 (ce_at ce_432 40 rfl) rfl rfl ?_
  refine e_mv 73 em_432 (ce_at ce_432 41 rfl) rfl rfl ?_
  refine e_op 74 em_432 (ce_at ce_432 42 rfl) rfl rfl ?_
  refine e_gd fun g1 => ?_
  refine e_cmne 81 77 em_432 rfl rfl (ce_at ce_432 43 rfl) g1 (by decide) (fun h2 => ?_) (fun h2 => ?_)
  · refine e_mv 83 em_432 (ce_at ce_432 46 rfl) rfl rfl ?_
    refine e_pk [0, 1, 2, 3, 4, 5] rfl rfl ?_
    exact tm_computes_83 w d hd _ _ _ _ _ _ _
  · refine e_mv 78 em_432 (ce_at ce_432 44 rfl) rfl rfl ?_
    refine e_goto em_432 83 (ce_at ce_432 45 rfl) rfl ?_
    refine e_pk [0, 1, 2, 3, 4, 5] rfl rfl ?_
    exact tm_computes_83 w d hd _ _ _ _ _ _ _
theorem fm_computes_66 (v1 : Int) (v2 : Int) (v3 : Int) (v4 : Int) (s : iS) : Fm Prod.snd L_m_computes G_m_computes s (m_computes_66 v1 v2 v3 v4 s) := fm_gd (fm_if (fm_computes_83 _ _ _ _ _ _ _) (fm_computes_83 _ _ _ _ _ _ _))
noncomputable def m_computes_8 (v1 : Int) (v2 : Int) (v3 : Int) (v4 : Int) (v5 : Int) (s : iS) : Option (Int × iS) := (lp (L := Int × Int × Int × iS) (E := Int × Int × iS) (fun l => m_computes_8b v1 v2 (l.1) (l.2.1) (l.2.2.1) (l.2.2.2)) (v3, v4, v5, s)).bind (fun e => m_computes_66 v1 v2 (e.1) (e.2.1) (e.2.2))
theorem tm_computes_8 (w : ev_W) (d : Nat) (hd : 2 ≤ d) (v1 : Int) (v2 : Int) (v3 : Int) (v4 : Int) (v5 : Int) (s : iS) : Ew hT w d 432 8 [(0, .ref (tb_nK + 121)), (1, iv v1), (2, iv v2), (3, iv v3), (4, iv v4), (5, iv v5)] [] s (Ci hT) (m_computes_8 v1 v2 v3 v4 v5 s) := by
  unfold m_computes_8
  refine e_lp (LO := fun l => [(0, .ref (tb_nK + 121)), (1, iv v1), (2, iv v2), (3, iv (l.1)), (4, iv (l.2.1)), (5, iv (l.2.2.1))]) (LS := fun l => l.2.2.2) (CE := fun e r => ev w d 432 66 [(0, .ref (tb_nK + 121)), (1, iv v1), (2, iv v2), (3, iv (e.1)), (4, iv (e.2.1))] [] (hT (e.2.2)) r) (fun l => tm_computes_8b w d hd _ _ _ _ _ _) ?_ (v3, v4, v5, s)
  intro e
  show Ew hT w d 432 66 [(0, .ref (tb_nK + 121)), (1, iv v1), (2, iv v2), (3, iv (e.1)), (4, iv (e.2.1))] [] e.2.2 (Ci hT) _
  refine e_pk [0, 1, 2, 3, 4] rfl rfl ?_
  exact tm_computes_66 w d hd _ _ _ _ _
theorem fm_computes_8 (v1 : Int) (v2 : Int) (v3 : Int) (v4 : Int) (v5 : Int) (s : iS) : Fm Prod.snd L_m_computes G_m_computes s (m_computes_8 v1 v2 v3 v4 v5 s) := fm_lp (LS := fun l => l.2.2.2) (LE := fun e => e.2.2) (fun l => fm_computes_8b _ _ _ _ _ _) (fun e => fm_computes_66 _ _ _ _ _) (v3, v4, v5, s)
noncomputable def m_computes (v1 : Int) (v2 : Int) (s : iS) : Option (Int × iS) := m_computes_8 v1 v2 (-1) (-1) 0 s
theorem tm_computes (w : ev_W) (d : Nat) (hd : 2 ≤ d) (v1 : Int) (v2 : Int) (s : iS) : Ew hT w d 432 0 [(0, .ref (tb_nK + 121)), (1, iv v1), (2, iv v2)] [] s (Ci hT) (m_computes v1 v2 s) := by
  unfold m_computes
  refine e_op 1 em_432 (ce_at ce_432 0 rfl) rfl rfl ?_
  refine e_mv 2 em_432 (ce_at ce_432 1 rfl) rfl rfl ?_
  refine e_op 3 em_432 (ce_at ce_432 2 rfl) rfl rfl ?_
  refine e_mv 5 em_432 (ce_at ce_432 3 rfl) rfl rfl ?_
  refine e_op 6 em_432 (ce_at ce_432 4 rfl) rfl rfl ?_
  refine e_mv 8 em_432 (ce_at ce_432 5 rfl) rfl rfl ?_
  refine e_pk [0, 1, 2, 3, 4, 5] rfl rfl ?_
  exact tm_computes_8 w d hd _ _ _ _ _ _
theorem fm_computes (v1 : Int) (v2 : Int) (s : iS) : Fm Prod.snd L_m_computes G_m_computes s (m_computes v1 v2 s) := fm_computes_8 _ _ _ _ _ _
/-! m_knownOf -/
def L_m_knownOf : List Nat := []
def G_m_knownOf : List (Nat × Nat) := []
noncomputable def m_knownOf_159 (v4 : Int) (s : iS) : Option (Int × iS) := gd (rg v4) (if v4 ≤ 15 then some (v4, s) else some ((-1), s))
theorem tm_knownOf_159 (w : ev_W) (d : Nat) (hd : 1 ≤ d) (v4 : Int) (s : iS) : Ew hT w d 429 159 [(4, iv v4)] [] s (Ci hT) (m_knownOf_159 v4 s) := by
  unfold m_knownOf_159
  refine e_mv 161 em_429 (ce_at ce_429 96 rfl) rfl rfl ?_
  refine e_bip 163 em_429 (ce_at ce_429 97 rfl) (by decide) rfl ?_
  refine e_gd fun g1 => ?_
  refine e_cmle 170 166 em_429 rfl rfl (ce_at ce_429 98 rfl) g1 (by decide) (fun h2 => ?_) (fun h2 => ?_)
  · refine e_mv 172 em_429 (ce_at ce_429 101 rfl) rfl rfl ?_
    exact e_reti em_429 (ce_at ce_429 102 rfl)
  · refine e_op 167 em_429 (ce_at ce_429 99 rfl) rfl rfl ?_
    refine e_goto em_429 172 (ce_at ce_429 100 rfl) rfl ?_
    exact e_reti em_429 (ce_at ce_429 102 rfl)
theorem fm_knownOf_159 (v4 : Int) (s : iS) : Fm Prod.snd L_m_knownOf G_m_knownOf s (m_knownOf_159 v4 s) := fm_gd (fm_if (fm_some md_refl) (fm_some md_refl))
noncomputable def m_knownOf_139 (v1 : Int) (v2 : Int) (t0 : Int) (s : iS) : Option (Int × iS) := gd (rg v2) (if v2 = 3 then gd (0 ≤ (v1 + 1) ∧ (v1 + 1) < 4000) (gd (rg (s 123 (v1 + 1).toNat)) (if (s 123 (v1 + 1).toNat) = 49 then m_knownOf_159 t0 s else some ((-1), s))) else m_knownOf_159 t0 s)
theorem tm_knownOf_139 (w : ev_W) (d : Nat) (hd : 1 ≤ d) (v1 : Int) (v2 : Int) (t0 : Int) (s : iS) : Ew hT w d 429 139 [(0, .ref (tb_nK + 121)), (1, iv v1), (2, iv v2)] [iv t0] s (Ci hT) (m_knownOf_139 v1 v2 t0 s) := by
  unfold m_knownOf_139
  refine e_mv 141 em_429 (ce_at ce_429 84 rfl) rfl rfl ?_
  refine e_mv 142 em_429 (ce_at ce_429 85 rfl) rfl rfl ?_
  refine e_op 143 em_429 (ce_at ce_429 86 rfl) rfl rfl ?_
  refine e_gd fun g1 => ?_
  refine e_cmne 159 146 em_429 rfl rfl (ce_at ce_429 87 rfl) g1 (by decide) (fun h2 => ?_) (fun h2 => ?_)
  · refine e_pk [4] rfl rfl ?_
    exact tm_knownOf_159 w d hd _ _
  · refine e_mv 147 em_429 (ce_at ce_429 88 rfl) rfl rfl ?_
    refine e_getr 150 em_429 (ce_at ce_429 89 rfl) tq_121 rfl rfl ?_
    refine e_mv 151 em_429 (ce_at ce_429 90 rfl) rfl rfl ?_
    refine e_op 152 em_429 (ce_at ce_429 91 rfl) rfl rfl ?_
    refine e_iadd 153 em_429 rfl (ce_at ce_429 92 rfl) ?_
    refine e_gd fun g3 => ?_
    refine e_ild 154 em_429 (ce_at ce_429 93 rfl) tq_123 (by decide) g3 rfl ?_
    refine e_bip 156 em_429 (ce_at ce_429 94 rfl) (by decide) rfl ?_
    refine e_gd fun g4 => ?_
    refine e_cmne 166 159 em_429 rfl rfl (ce_at ce_429 95 rfl) g4 (by decide) (fun h5 => ?_) (fun h5 => ?_)
    · refine e_op 167 em_429 (ce_at ce_429 99 rfl) rfl rfl ?_
      refine e_goto em_429 172 (ce_at ce_429 100 rfl) rfl ?_
      exact e_reti em_429 (ce_at ce_429 102 rfl)
    · refine e_pk [4] rfl rfl ?_
      exact tm_knownOf_159 w d hd _ _
theorem fm_knownOf_139 (v1 : Int) (v2 : Int) (t0 : Int) (s : iS) : Fm Prod.snd L_m_knownOf G_m_knownOf s (m_knownOf_139 v1 v2 t0 s) := fm_gd (fm_if (fm_gd (fm_gd (fm_if (fm_knownOf_159 _ _) (fm_some md_refl)))) (fm_knownOf_159 _ _))
noncomputable def m_knownOf_94 (v1 : Int) (v2 : Int) (s : iS) : Option (Int × iS) := gd (rg v2) (if v2 = 2 then gd (0 ≤ (v1 + 1) ∧ (v1 + 1) < 4000) (m_knownOf_139 v1 v2 ((s 123 (v1 + 1).toNat) - 48) s) else gd (0 ≤ (v1 + 1) ∧ (v1 + 1) < 4000) (gd (0 ≤ (v1 + 2) ∧ (v1 + 2) < 4000) (m_knownOf_139 v1 v2 (((10 * ((s 123 (v1 + 1).toNat) - 48)) + (s 123 (v1 + 2).toNat)) - 48) s)))
theorem tm_knownOf_94 (w : ev_W) (d : Nat) (hd : 1 ≤ d) (v1 : Int) (v2 : Int) (s : iS) : Ew hT w d 429 94 [(0, .ref (tb_nK + 121)), (1, iv v1), (2, iv v2)] [] s (Ci hT) (m_knownOf_94 v1 v2 s) := by
  unfold m_knownOf_94
  refine e_mv 95 em_429 (ce_at ce_429 53 rfl) rfl rfl ?_
  refine e_op 96 em_429 (ce_at ce_429 54 rfl) rfl rfl ?_
  refine e_gd fun g1 => ?_
  refine e_cmne 113 99 em_429 rfl rfl (ce_at ce_429 55 rfl) g1 (by decide) (fun h2 => ?_) (fun h2 => ?_)
  · refine e_bip 115 em_429 (ce_at ce_429 65 rfl) (by decide) rfl ?_
    refine e_mv 116 em_429 (ce_at ce_429 66 rfl) rfl rfl ?_
    refine e_getr 119 em_429 (ce_at ce_429 67 rfl) tq_121 rfl rfl ?_
    refine e_mv 120 em_429 (ce_at ce_429 68 rfl) rfl rfl ?_
    refine e_op 121 em_429 (ce_at ce_429 69 rfl) rfl rfl ?_
    refine e_iadd 122 em_429 rfl (ce_at ce_429 70 rfl) ?_
    refine e_gd fun g3 => ?_
    refine e_ild 123 em_429 (ce_at ce_429 71 rfl) tq_123 (by decide) g3 rfl ?_
    refine e_bip 125 em_429 (ce_at ce_429 72 rfl) (by decide) rfl ?_
    refine e_isub 126 em_429 rfl (ce_at ce_429 73 rfl) ?_
    refine e_imul 127 em_429 rfl (ce_at ce_429 74 rfl) ?_
    refine e_mv 128 em_429 (ce_at ce_429 75 rfl) rfl rfl ?_
    refine e_getr 131 em_429 (ce_at ce_429 76 rfl) tq_121 rfl rfl ?_
    refine e_mv 132 em_429 (ce_at ce_429 77 rfl) rfl rfl ?_
    refine e_op 133 em_429 (ce_at ce_429 78 rfl) rfl rfl ?_
    refine e_iadd 134 em_429 rfl (ce_at ce_429 79 rfl) ?_
    refine e_gd fun g4 => ?_
    refine e_ild 135 em_429 (ce_at ce_429 80 rfl) tq_123 (by decide) g4 rfl ?_
    refine e_iadd 136 em_429 rfl (ce_at ce_429 81 rfl) ?_
    refine e_bip 138 em_429 (ce_at ce_429 82 rfl) (by decide) rfl ?_
    refine e_isub 139 em_429 rfl (ce_at ce_429 83 rfl) ?_
    refine e_pk [0, 1, 2] rfl rfl ?_
    exact tm_knownOf_139 w d hd _ _ _ _
  · refine e_mv 100 em_429 (ce_at ce_429 56 rfl) rfl rfl ?_
    refine e_getr 103 em_429 (ce_at ce_429 57 rfl) tq_121 rfl rfl ?_
    refine e_mv 104 em_429 (ce_at ce_429 58 rfl) rfl rfl ?_
    refine e_op 105 em_429 (ce_at ce_429 59 rfl) rfl rfl ?_
    refine e_iadd 106 em_429 rfl (ce_at ce_429 60 rfl) ?_
    refine e_gd fun g5 => ?_
    refine e_ild 107 em_429 (ce_at ce_429 61 rfl) tq_123 (by decide) g5 rfl ?_
    refine e_bip 109 em_429 (ce_at ce_429 62 rfl) (by decide) rfl ?_
    refine e_isub 110 em_429 rfl (ce_at ce_429 63 rfl) ?_
    refine e_goto em_429 139 (ce_at ce_429 64 rfl) rfl ?_
    refine e_pk [0, 1, 2] rfl rfl ?_
    exact tm_knownOf_139 w d hd _ _ _ _
theorem fm_knownOf_94 (v1 : Int) (v2 : Int) (s : iS) : Fm Prod.snd L_m_knownOf G_m_knownOf s (m_knownOf_94 v1 v2 s) := fm_gd (fm_if (fm_gd (fm_knownOf_139 _ _ _ _)) (fm_gd (fm_gd (fm_knownOf_139 _ _ _ _))))
noncomputable def m_knownOf (v1 : Int) (v2 : Int) (s : iS) : Option (Int × iS) := bd (m_wordOf 32 ka_8 v1 v2 s) (fun r1 s1 => gd (rg r1) (if r1 < 0 then gd (0 ≤ v1 ∧ v1 < 4000) (gd (rg (s1 123 v1.toNat)) (if (s1 123 v1.toNat) = 82 then gd (rg v2) (if v2 < 2 then some ((-1), s1) else if 3 < v2 then some ((-1), s1) else gd (0 ≤ (v1 + 1) ∧ (v1 + 1) < 4000) (bd (m_isDigit (s1 123 (v1 + 1).toNat) s1) (fun r11 s11 => gd (rg r11) (if r11 = 0 then some ((-1), s11) else if v2 = 3 then gd (0 ≤ (v1 + 2) ∧ (v1 + 2) < 4000) (bd (m_isDigit (s11 123 (v1 + 2).toNat) s11) (fun r16 s16 => gd (rg r16) (if r16 = 0 then some ((-1), s16) else m_knownOf_94 v1 v2 s16))) else m_knownOf_94 v1 v2 s11)))) else some ((-1), s1))) else if 5 ≤ r1 then if r1 = 5 then some (16384, s1) else some (24576, s1) else some (r1, s1)))
theorem tm_knownOf (w : ev_W) (d : Nat) (hd : 1 ≤ d) (v1 : Int) (v2 : Int) (s : iS) : Ew hT w d 429 0 [(0, .ref (tb_nK + 121)), (1, iv v1), (2, iv v2)] [] s (Ci hT) (m_knownOf v1 v2 s) := by
  unfold m_knownOf
  refine e_mv 1 em_429 (ce_at ce_429 0 rfl) rfl rfl ?_
  refine e_gst 4 em_429 (ce_at ce_429 1 rfl) rfl rfl ?_
  refine e_mv 5 em_429 (ce_at ce_429 2 rfl) rfl rfl ?_
  refine e_mv 6 em_429 (ce_at ce_429 3 rfl) rfl rfl ?_
  refine e_ivi 9 em_429 (ce_at ce_429 4 rfl) (by omega) (iv_v3 (by decide) tq_121 rfl) em_309 (Nat.le_of_ble_eq_true rfl) rfl (tm_wordOf w (d - 1) (by omega) 32 ka_8 8 (by decide) (kt_8 _ _) (by decide) _ _ _) (fun r1 s1 => ?_)
  refine e_mv 10 em_429 (ce_at ce_429 5 rfl) rfl rfl ?_
  refine e_mv 11 em_429 (ce_at ce_429 6 rfl) rfl rfl ?_
  refine e_gd fun g2 => ?_
  refine e_iflt 38 14 em_429 rfl rfl (ce_at ce_429 7 rfl) g2 (fun h3 => ?_) (fun h3 => ?_)
  · refine e_mv 39 em_429 (ce_at ce_429 20 rfl) rfl rfl ?_
    refine e_getr 42 em_429 (ce_at ce_429 21 rfl) tq_121 rfl rfl ?_
    refine e_mv 43 em_429 (ce_at ce_429 22 rfl) rfl rfl ?_
    refine e_gd fun g4 => ?_
    refine e_ild 44 em_429 (ce_at ce_429 23 rfl) tq_123 (by decide) g4 rfl ?_
    refine e_bip 46 em_429 (ce_at ce_429 24 rfl) (by decide) rfl ?_
    refine e_gd fun g5 => ?_
    refine e_cmne 92 49 em_429 rfl rfl (ce_at ce_429 25 rfl) g5 (by decide) (fun h6 => ?_) (fun h6 => ?_)
    · refine e_op 93 em_429 (ce_at ce_429 51 rfl) rfl rfl ?_
      exact e_reti em_429 (ce_at ce_429 52 rfl)
    · refine e_mv 50 em_429 (ce_at ce_429 26 rfl) rfl rfl ?_
      refine e_op 51 em_429 (ce_at ce_429 27 rfl) rfl rfl ?_
      refine e_gd fun g7 => ?_
      refine e_cmlt 92 54 em_429 rfl rfl (ce_at ce_429 28 rfl) g7 (by decide) (fun h8 => ?_) (fun h8 => ?_)
      · refine e_op 93 em_429 (ce_at ce_429 51 rfl) rfl rfl ?_
        exact e_reti em_429 (ce_at ce_429 52 rfl)
      · refine e_mv 55 em_429 (ce_at ce_429 29 rfl) rfl rfl ?_
        refine e_op 56 em_429 (ce_at ce_429 30 rfl) rfl rfl ?_
        refine e_cmgt 92 59 em_429 rfl rfl (ce_at ce_429 31 rfl) g7 (by decide) (fun h9 => ?_) (fun h9 => ?_)
        · refine e_op 93 em_429 (ce_at ce_429 51 rfl) rfl rfl ?_
          exact e_reti em_429 (ce_at ce_429 52 rfl)
        · refine e_mv 60 em_429 (ce_at ce_429 32 rfl) rfl rfl ?_
          refine e_getr 63 em_429 (ce_at ce_429 33 rfl) tq_121 rfl rfl ?_
          refine e_mv 64 em_429 (ce_at ce_429 34 rfl) rfl rfl ?_
          refine e_op 65 em_429 (ce_at ce_429 35 rfl) rfl rfl ?_
          refine e_iadd 66 em_429 rfl (ce_at ce_429 36 rfl) ?_
          refine e_gd fun g10 => ?_
          refine e_ild 67 em_429 (ce_at ce_429 37 rfl) tq_123 (by decide) g10 rfl ?_
          refine e_ivi 70 em_429 (ce_at ce_429 38 rfl) (by omega) (iv_s1 rfl) em_308 (Nat.le_of_ble_eq_true rfl) rfl (tm_isDigit hT w (d - 1) (by omega) _ _) (fun r11 s11 => ?_)
          refine e_gd fun g12 => ?_
          refine e_ifeq 92 73 em_429 rfl rfl (ce_at ce_429 39 rfl) g12 (fun h13 => ?_) (fun h13 => ?_)
          · refine e_op 93 em_429 (ce_at ce_429 51 rfl) rfl rfl ?_
            exact e_reti em_429 (ce_at ce_429 52 rfl)
          · refine e_mv 74 em_429 (ce_at ce_429 40 rfl) rfl rfl ?_
            refine e_op 75 em_429 (ce_at ce_429 41 rfl) rfl rfl ?_
            refine e_cmne 94 78 em_429 rfl rfl (ce_at ce_429 42 rfl) g7 (by decide) (fun h14 => ?_) (fun h14 => ?_)
            · refine e_pk [0, 1, 2] rfl rfl ?_
              exact tm_knownOf_94 w d hd _ _ _
            · refine e_mv 79 em_429 (ce_at ce_429 43 rfl) rfl rfl ?_
              refine e_getr 82 em_429 (ce_at ce_429 44 rfl) tq_121 rfl rfl ?_
              refine e_mv 83 em_429 (ce_at ce_429 45 rfl) rfl rfl ?_
              refine e_op 84 em_429 (ce_at ce_429 46 rfl) rfl rfl ?_
              refine e_iadd 85 em_429 rfl (ce_at ce_429 47 rfl) ?_
              refine e_gd fun g15 => ?_
              refine e_ild 86 em_429 (ce_at ce_429 48 rfl) tq_123 (by decide) g15 rfl ?_
              refine e_ivi 89 em_429 (ce_at ce_429 49 rfl) (by omega) (iv_s1 rfl) em_308 (Nat.le_of_ble_eq_true rfl) rfl (tm_isDigit hT w (d - 1) (by omega) _ _) (fun r16 s16 => ?_)
              refine e_gd fun g17 => ?_
              refine e_ifne 94 92 em_429 rfl rfl (ce_at ce_429 50 rfl) g17 (fun h18 => ?_) (fun h18 => ?_)
              · refine e_pk [0, 1, 2] rfl rfl ?_
                exact tm_knownOf_94 w d hd _ _ _
              · refine e_op 93 em_429 (ce_at ce_429 51 rfl) rfl rfl ?_
                exact e_reti em_429 (ce_at ce_429 52 rfl)
  · refine e_mv 15 em_429 (ce_at ce_429 8 rfl) rfl rfl ?_
    refine e_op 16 em_429 (ce_at ce_429 9 rfl) rfl rfl ?_
    refine e_cmge 23 19 em_429 rfl rfl (ce_at ce_429 10 rfl) g2 (by decide) (fun h19 => ?_) (fun h19 => ?_)
    · refine e_mv 24 em_429 (ce_at ce_429 13 rfl) rfl rfl ?_
      refine e_op 25 em_429 (ce_at ce_429 14 rfl) rfl rfl ?_
      refine e_cmne 34 28 em_429 rfl rfl (ce_at ce_429 15 rfl) g2 (by decide) (fun h20 => ?_) (fun h20 => ?_)
      · refine e_sip 37 em_429 (ce_at ce_429 18 rfl) (by decide) rfl ?_
        exact e_reti em_429 (ce_at ce_429 19 rfl)
      · refine e_sip 31 em_429 (ce_at ce_429 16 rfl) (by decide) rfl ?_
        refine e_goto em_429 37 (ce_at ce_429 17 rfl) rfl ?_
        exact e_reti em_429 (ce_at ce_429 19 rfl)
    · refine e_mv 20 em_429 (ce_at ce_429 11 rfl) rfl rfl ?_
      refine e_goto em_429 37 (ce_at ce_429 12 rfl) rfl ?_
      exact e_reti em_429 (ce_at ce_429 19 rfl)
theorem fm_knownOf (v1 : Int) (v2 : Int) (s : iS) : Fm Prod.snd L_m_knownOf G_m_knownOf s (m_knownOf v1 v2 s) := fm_bd (fm_sub (fm_wordOf 32 ka_8 _ _ _) (mem_sub_L rfl) (mem_sub_F rfl)) (fun r1 s1 => fm_gd (fm_if (fm_gd (fm_gd (fm_if (fm_gd (fm_if (fm_some md_refl) (fm_if (fm_some md_refl) (fm_gd (fm_bd (fm_sub (fm_isDigit _ _) (mem_sub_L rfl) (mem_sub_F rfl)) (fun r11 s11 => fm_gd (fm_if (fm_some md_refl) (fm_if (fm_gd (fm_bd (fm_sub (fm_isDigit _ _) (mem_sub_L rfl) (mem_sub_F rfl)) (fun r16 s16 => fm_gd (fm_if (fm_some md_refl) (fm_knownOf_94 _ _ _))))) (fm_knownOf_94 _ _ _))))))))) (fm_some md_refl)))) (fm_if (fm_if (fm_some md_refl) (fm_some md_refl)) (fm_some md_refl))))
/-! m_symbolOf -/
def L_m_symbolOf : List Nat := [190, 191, 192]
def G_m_symbolOf : List (Nat × Nat) := [(121, 112)]
def m_symbolOf_13C (w : ev_W) (d : Nat) (v1 : Int) (v2 : Int) (v3 : Int) : (Int × iS) ⊕ (Int × iS) → am_E → Prop := fun q r => q.elim (fun l => ev w d 430 13 ((fun l => [(0, .ref (tb_nK + 121)), (1, iv v1), (2, iv v2), (3, iv v3), (4, iv (l.1))]) l) [] (hT ((fun l => l.2) l)) r) (fun e => (fun e r => ev w d 430 64 [(0, .ref (tb_nK + 121)), (1, iv v1), (2, iv v2), (3, iv v3), (4, iv (e.1))] [] (hT (e.2)) r) e r)
noncomputable def m_symbolOf_13b (v1 : Int) (v2 : Int) (v3 : Int) (v4 : Int) (s : iS) : Option ((Int × iS) ⊕ (Int × iS)) := gd (rg v4) (gd (rg v2) (if v2 ≤ v4 then some (.inr (v4, s)) else gd (0 ≤ v3 ∧ v3 < 100) (gd (rg (s 191 v3.toNat)) (if (s 191 v3.toNat) = v2 then gd (0 ≤ ((s 190 v3.toNat) + v4) ∧ ((s 190 v3.toNat) + v4) < 4000) (gd (0 ≤ (v1 + v4) ∧ (v1 + v4) < 4000) (gd (rg (s 123 ((s 190 v3.toNat) + v4).toNat)) (gd (rg (s 123 (v1 + v4).toNat)) (if (s 123 ((s 190 v3.toNat) + v4).toNat) = (s 123 (v1 + v4).toNat) then some (.inl ((v4 + 1), s)) else some (.inr (v4, s)))))) else some (.inr (v4, s))))))
theorem tm_symbolOf_13b (w : ev_W) (d : Nat) (hd : 0 ≤ d) (v1 : Int) (v2 : Int) (v3 : Int) (v4 : Int) (s : iS) : Ew hT w d 430 13 [(0, .ref (tb_nK + 121)), (1, iv v1), (2, iv v2), (3, iv v3), (4, iv v4)] [] s (m_symbolOf_13C w d v1 v2 v3) (m_symbolOf_13b v1 v2 v3 v4 s) := by
  unfold m_symbolOf_13b
  refine e_mv 15 em_430 (ce_at ce_430 8 rfl) rfl rfl ?_
  refine e_mv 16 em_430 (ce_at ce_430 9 rfl) rfl rfl ?_
  refine e_gd fun g1 => ?_
  refine e_gd fun g2 => ?_
  refine e_cmge 64 19 em_430 rfl rfl (ce_at ce_430 10 rfl) g1 g2 (fun h3 => ?_) (fun h3 => ?_)
  · refine e_pk [0, 1, 2, 3, 4] rfl rfl ?_
    exact e_out (fun r h => h)
  · refine e_mv 20 em_430 (ce_at ce_430 11 rfl) rfl rfl ?_
    refine e_getr 23 em_430 (ce_at ce_430 12 rfl) tq_121 rfl rfl ?_
    refine e_mv 24 em_430 (ce_at ce_430 13 rfl) rfl rfl ?_
    refine e_gd fun g4 => ?_
    refine e_ild 25 em_430 (ce_at ce_430 14 rfl) tq_191 (by decide) g4 rfl ?_
    refine e_mv 26 em_430 (ce_at ce_430 15 rfl) rfl rfl ?_
    refine e_gd fun g5 => ?_
    refine e_cmne 64 29 em_430 rfl rfl (ce_at ce_430 16 rfl) g5 g2 (fun h6 => ?_) (fun h6 => ?_)
    · refine e_pk [0, 1, 2, 3, 4] rfl rfl ?_
      exact e_out (fun r h => h)
    · refine e_mv 30 em_430 (ce_at ce_430 17 rfl) rfl rfl ?_
      refine e_getr 33 em_430 (ce_at ce_430 18 rfl) tq_121 rfl rfl ?_
      refine e_mv 34 em_430 (ce_at ce_430 19 rfl) rfl rfl ?_
      refine e_getr 37 em_430 (ce_at ce_430 20 rfl) tq_121 rfl rfl ?_
      refine e_mv 38 em_430 (ce_at ce_430 21 rfl) rfl rfl ?_
      refine e_ild 39 em_430 (ce_at ce_430 22 rfl) tq_190 (by decide) g4 rfl ?_
      refine e_mv 41 em_430 (ce_at ce_430 23 rfl) rfl rfl ?_
      refine e_iadd 42 em_430 rfl (ce_at ce_430 24 rfl) ?_
      refine e_gd fun g7 => ?_
      refine e_ild 43 em_430 (ce_at ce_430 25 rfl) tq_123 (by decide) g7 rfl ?_
      refine e_mv 44 em_430 (ce_at ce_430 26 rfl) rfl rfl ?_
      refine e_getr 47 em_430 (ce_at ce_430 27 rfl) tq_121 rfl rfl ?_
      refine e_mv 48 em_430 (ce_at ce_430 28 rfl) rfl rfl ?_
      refine e_mv 50 em_430 (ce_at ce_430 29 rfl) rfl rfl ?_
      refine e_iadd 51 em_430 rfl (ce_at ce_430 30 rfl) ?_
      refine e_gd fun g8 => ?_
      refine e_ild 52 em_430 (ce_at ce_430 31 rfl) tq_123 (by decide) g8 rfl ?_
      refine e_gd fun g9 => ?_
      refine e_gd fun g10 => ?_
      refine e_cmne 64 55 em_430 rfl rfl (ce_at ce_430 32 rfl) g9 g10 (fun h11 => ?_) (fun h11 => ?_)
      · refine e_pk [0, 1, 2, 3, 4] rfl rfl ?_
        exact e_out (fun r h => h)
      · refine e_mv 57 em_430 (ce_at ce_430 33 rfl) rfl rfl ?_
        refine e_op 58 em_430 (ce_at ce_430 34 rfl) rfl rfl ?_
        refine e_iadd 59 em_430 rfl (ce_at ce_430 35 rfl) ?_
        refine e_mv 61 em_430 (ce_at ce_430 36 rfl) rfl rfl ?_
        refine e_goto em_430 13 (ce_at ce_430 37 rfl) rfl ?_
        refine e_pk [0, 1, 2, 3, 4] rfl rfl ?_
        exact e_out (fun r h => h)
theorem fm_symbolOf_13b (v1 : Int) (v2 : Int) (v3 : Int) (v4 : Int) (s : iS) : Fm (fun r : (Int × iS) ⊕ (Int × iS) => r.elim (fun l => l.2) (fun e => e.2)) L_m_symbolOf G_m_symbolOf s (m_symbolOf_13b v1 v2 v3 v4 s) := fm_gd (fm_gd (fm_if (fm_some md_refl) (fm_gd (fm_gd (fm_if (fm_gd (fm_gd (fm_gd (fm_gd (fm_if (fm_some md_refl) (fm_some md_refl)))))) (fm_some md_refl))))))
def m_symbolOf_2C (w : ev_W) (d : Nat) (v1 : Int) (v2 : Int) : (Int × iS) ⊕ ((Int × iS) ⊕ (iS)) → am_E → Prop := fun q r => q.elim (fun l => ev w d 430 2 ((fun l => [(0, .ref (tb_nK + 121)), (1, iv v1), (2, iv v2), (3, iv (l.1))]) l) [] (hT ((fun l => l.2) l)) r) (fun e => (fun e r => e.elim (fun e => ev w d 430 70 [(3, iv (e.1))] [] (hT (e.2)) r) (fun e => ev w d 430 78 [(0, .ref (tb_nK + 121)), (1, iv v1), (2, iv v2)] [] (hT (e)) r)) e r)
noncomputable def m_symbolOf_64 (v1 : Int) (v2 : Int) (v3 : Int) (v4 : Int) (s : iS) : Option ((Int × iS) ⊕ ((Int × iS) ⊕ (iS))) := gd (rg v4) (gd (rg v2) (if v4 = v2 then some (.inr (.inl (v3, s))) else some (.inl ((v3 + 1), s))))
theorem tm_symbolOf_64 (w : ev_W) (d : Nat) (hd : 0 ≤ d) (v1 : Int) (v2 : Int) (v3 : Int) (v4 : Int) (s : iS) : Ew hT w d 430 64 [(0, .ref (tb_nK + 121)), (1, iv v1), (2, iv v2), (3, iv v3), (4, iv v4)] [] s (m_symbolOf_2C w d v1 v2) (m_symbolOf_64 v1 v2 v3 v4 s) := by
  unfold m_symbolOf_64
  refine e_mv 66 em_430 (ce_at ce_430 38 rfl) rfl rfl ?_
  refine e_mv 67 em_430 (ce_at ce_430 39 rfl) rfl rfl ?_
  refine e_gd fun g1 => ?_
  refine e_gd fun g2 => ?_
  refine e_cmne 72 70 em_430 rfl rfl (ce_at ce_430 40 rfl) g1 g2 (fun h3 => ?_) (fun h3 => ?_)
  · refine e_iinc 75 em_430 (ce_at ce_430 43 rfl) rfl (by decide) rfl ?_
    refine e_goto em_430 2 (ce_at ce_430 44 rfl) rfl ?_
    refine e_pk [0, 1, 2, 3] rfl rfl ?_
    exact e_out (fun r h => h)
  · refine e_pk [3] rfl rfl ?_
    exact e_out (fun r h => h)
theorem fm_symbolOf_64 (v1 : Int) (v2 : Int) (v3 : Int) (v4 : Int) (s : iS) : Fm (fun r : (Int × iS) ⊕ ((Int × iS) ⊕ (iS)) => r.elim (fun l => l.2) (fun e => e.elim (fun e => e.2) (fun e => e))) L_m_symbolOf G_m_symbolOf s (m_symbolOf_64 v1 v2 v3 v4 s) := fm_gd (fm_gd (fm_if (fm_some md_refl) (fm_some md_refl)))
noncomputable def m_symbolOf_13 (v1 : Int) (v2 : Int) (v3 : Int) (v4 : Int) (s : iS) : Option ((Int × iS) ⊕ ((Int × iS) ⊕ (iS))) := (lp (L := Int × iS) (E := Int × iS) (fun l => m_symbolOf_13b v1 v2 v3 (l.1) (l.2)) (v4, s)).bind (fun e => m_symbolOf_64 v1 v2 v3 (e.1) (e.2))
theorem tm_symbolOf_13 (w : ev_W) (d : Nat) (hd : 0 ≤ d) (v1 : Int) (v2 : Int) (v3 : Int) (v4 : Int) (s : iS) : Ew hT w d 430 13 [(0, .ref (tb_nK + 121)), (1, iv v1), (2, iv v2), (3, iv v3), (4, iv v4)] [] s (m_symbolOf_2C w d v1 v2) (m_symbolOf_13 v1 v2 v3 v4 s) := by
  unfold m_symbolOf_13
  refine e_lp (LO := fun l => [(0, .ref (tb_nK + 121)), (1, iv v1), (2, iv v2), (3, iv v3), (4, iv (l.1))]) (LS := fun l => l.2) (CE := fun e r => ev w d 430 64 [(0, .ref (tb_nK + 121)), (1, iv v1), (2, iv v2), (3, iv v3), (4, iv (e.1))] [] (hT (e.2)) r) (fun l => tm_symbolOf_13b w d hd _ _ _ _ _) ?_ (v4, s)
  intro e
  show Ew hT w d 430 64 [(0, .ref (tb_nK + 121)), (1, iv v1), (2, iv v2), (3, iv v3), (4, iv (e.1))] [] e.2 (m_symbolOf_2C w d v1 v2) _
  refine e_pk [0, 1, 2, 3, 4] rfl rfl ?_
  exact tm_symbolOf_64 w d hd _ _ _ _ _
theorem fm_symbolOf_13 (v1 : Int) (v2 : Int) (v3 : Int) (v4 : Int) (s : iS) : Fm (fun r : (Int × iS) ⊕ ((Int × iS) ⊕ (iS)) => r.elim (fun l => l.2) (fun e => e.elim (fun e => e.2) (fun e => e))) L_m_symbolOf G_m_symbolOf s (m_symbolOf_13 v1 v2 v3 v4 s) := fm_lp (LS := fun l => l.2) (LE := fun e => e.2) (fun l => fm_symbolOf_13b _ _ _ _ _) (fun e => fm_symbolOf_64 _ _ _ _ _) (v4, s)
noncomputable def m_symbolOf_2b (v1 : Int) (v2 : Int) (v3 : Int) (s : iS) : Option ((Int × iS) ⊕ ((Int × iS) ⊕ (iS))) := gd (rg v3) (gd (rg (s 121 112)) (if (s 121 112) ≤ v3 then some (.inr (.inr s)) else m_symbolOf_13 v1 v2 v3 0 s))
theorem tm_symbolOf_2b (w : ev_W) (d : Nat) (hd : 0 ≤ d) (v1 : Int) (v2 : Int) (v3 : Int) (s : iS) : Ew hT w d 430 2 [(0, .ref (tb_nK + 121)), (1, iv v1), (2, iv v2), (3, iv v3)] [] s (m_symbolOf_2C w d v1 v2) (m_symbolOf_2b v1 v2 v3 s) := by
  unfold m_symbolOf_2b
  refine e_mv 3 em_430 (ce_at ce_430 2 rfl) rfl rfl ?_
  refine e_mv 4 em_430 (ce_at ce_430 3 rfl) rfl rfl ?_
  refine e_get 7 em_430 (ce_at ce_430 4 rfl) tq_121 rfl rfl ?_
  refine e_gd fun g1 => ?_
  refine e_gd fun g2 => ?_
  refine e_cmge 78 10 em_430 rfl rfl (ce_at ce_430 5 rfl) g1 g2 (fun h3 => ?_) (fun h3 => ?_)
  · refine e_pk [0, 1, 2] rfl rfl ?_
    exact e_out (fun r h => h)
  · refine e_op 11 em_430 (ce_at ce_430 6 rfl) rfl rfl ?_
    refine e_mv 13 em_430 (ce_at ce_430 7 rfl) rfl rfl ?_
    refine e_pk [0, 1, 2, 3, 4] rfl rfl ?_
    exact tm_symbolOf_13 w d hd _ _ _ _ _
theorem fm_symbolOf_2b (v1 : Int) (v2 : Int) (v3 : Int) (s : iS) : Fm (fun r : (Int × iS) ⊕ ((Int × iS) ⊕ (iS)) => r.elim (fun l => l.2) (fun e => e.elim (fun e => e.2) (fun e => e))) L_m_symbolOf G_m_symbolOf s (m_symbolOf_2b v1 v2 v3 s) := fm_gd (fm_gd (fm_if (fm_some md_refl) (fm_symbolOf_13 _ _ _ _ _)))
noncomputable def m_symbolOf_78 (v1 : Int) (v2 : Int) (s : iS) : Option (Int × iS) := gd (rg (s 121 112)) (if (s 121 112) = 100 then some ((-1), s) else gd (0 ≤ (s 121 112) ∧ (s 121 112) < 100) (lt' (up s 190 (s 121 112).toNat v1) (fun s4 => gd (0 ≤ (s4 121 112) ∧ (s4 121 112) < 100) (lt' (up s4 191 (s4 121 112).toNat v2) (fun s6 => gd (0 ≤ (s6 121 112) ∧ (s6 121 112) < 100) (lt' (up s6 192 (s6 121 112).toNat (-1)) (fun s8 => lt' (up s8 121 112 ((s8 121 112) + 1)) (fun s9 => some (((s9 121 112) - 1), s9)))))))))
theorem tm_symbolOf_78 (w : ev_W) (d : Nat) (hd : 0 ≤ d) (v1 : Int) (v2 : Int) (s : iS) : Ew hT w d 430 78 [(0, .ref (tb_nK + 121)), (1, iv v1), (2, iv v2)] [] s (Ci hT) (m_symbolOf_78 v1 v2 s) := by
  unfold m_symbolOf_78
  refine e_mv 79 em_430 (ce_at ce_430 45 rfl) rfl rfl ?_
  refine e_get 82 em_430 (ce_at ce_430 46 rfl) tq_121 rfl rfl ?_
  refine e_bip 84 em_430 (ce_at ce_430 47 rfl) (by decide) rfl ?_
  refine e_gd fun g1 => ?_
  refine e_cmne 89 87 em_430 rfl rfl (ce_at ce_430 48 rfl) g1 (by decide) (fun h2 => ?_) (fun h2 => ?_)
  · refine e_mv 90 em_430 (ce_at ce_430 51 rfl) rfl rfl ?_
    refine e_getr 93 em_430 (ce_at ce_430 52 rfl) tq_121 rfl rfl ?_
    refine e_mv 94 em_430 (ce_at ce_430 53 rfl) rfl rfl ?_
    refine e_get 97 em_430 (ce_at ce_430 54 rfl) tq_121 rfl rfl ?_
    refine e_mv 98 em_430 (ce_at ce_430 55 rfl) rfl rfl ?_
    refine e_gd fun g3 => ?_
    refine e_ist 99 em_430 (ce_at ce_430 56 rfl) tq_190 (by decide) g3 rfl (fun s4 => ?_)
    refine e_mv 100 em_430 (ce_at ce_430 57 rfl) rfl rfl ?_
    refine e_getr 103 em_430 (ce_at ce_430 58 rfl) tq_121 rfl rfl ?_
    refine e_mv 104 em_430 (ce_at ce_430 59 rfl) rfl rfl ?_
    refine e_get 107 em_430 (ce_at ce_430 60 rfl) tq_121 rfl rfl ?_
    refine e_mv 108 em_430 (ce_at ce_430 61 rfl) rfl rfl ?_
    refine e_gd fun g5 => ?_
    refine e_ist 109 em_430 (ce_at ce_430 62 rfl) tq_191 (by decide) g5 rfl (fun s6 => ?_)
    refine e_mv 110 em_430 (ce_at ce_430 63 rfl) rfl rfl ?_
    refine e_getr 113 em_430 (ce_at ce_430 64 rfl) tq_121 rfl rfl ?_
    refine e_mv 114 em_430 (ce_at ce_430 65 rfl) rfl rfl ?_
    refine e_get 117 em_430 (ce_at ce_430 66 rfl) tq_121 rfl rfl ?_
    refine e_op 118 em_430 (ce_at ce_430 67 rfl) rfl rfl ?_
    refine e_gd fun g7 => ?_
    refine e_ist 119 em_430 (ce_at ce_430 68 rfl) tq_192 (by decide) g7 rfl (fun s8 => ?_)
    refine e_mv 120 em_430 (ce_at ce_430 69 rfl) rfl rfl ?_
    refine e_mv 121 em_430 (ce_at ce_430 70 rfl) rfl rfl ?_
    refine e_get 124 em_430 (ce_at ce_430 71 rfl) tq_121 rfl rfl ?_
    refine e_op 125 em_430 (ce_at ce_430 72 rfl) rfl rfl ?_
    refine e_iadd 126 em_430 rfl (ce_at ce_430 73 rfl) ?_
    refine e_put 129 em_430 (ce_at ce_430 74 rfl) tq_121 rfl rfl rfl (fun s9 => ?_)
    refine e_mv 130 em_430 (ce_at ce_430 75 rfl) rfl rfl ?_
    refine e_get 133 em_430 (ce_at ce_430 76 rfl) tq_121 rfl rfl ?_
    refine e_op 134 em_430 (ce_at ce_430 77 rfl) rfl rfl ?_
    refine e_isub 135 em_430 rfl (ce_at ce_430 78 rfl) ?_
    exact e_reti em_430 (ce_at ce_430 79 rfl)
  · refine e_op 88 em_430 (ce_at ce_430 49 rfl) rfl rfl ?_
    exact e_reti em_430 (ce_at ce_430 50 rfl)
theorem fm_symbolOf_78 (v1 : Int) (v2 : Int) (s : iS) : Fm Prod.snd L_m_symbolOf G_m_symbolOf s (m_symbolOf_78 v1 v2 s) := fm_gd (fm_if (fm_some md_refl) (fm_gd (fm_lt (md_upL (mem_L rfl)) (fun s4 => fm_gd (fm_lt (md_upL (mem_L rfl)) (fun s6 => fm_gd (fm_lt (md_upL (mem_L rfl)) (fun s8 => fm_lt (md_upF (mem_F rfl)) (fun s9 => fm_some md_refl)))))))))
noncomputable def m_symbolOf_2 (v1 : Int) (v2 : Int) (v3 : Int) (s : iS) : Option (Int × iS) := (lp (L := Int × iS) (E := (Int × iS) ⊕ (iS)) (fun l => m_symbolOf_2b v1 v2 (l.1) (l.2)) (v3, s)).bind (fun e => e.elim (fun e => some (e.1, e.2)) (fun e => m_symbolOf_78 v1 v2 e))
theorem tm_symbolOf_2 (w : ev_W) (d : Nat) (hd : 0 ≤ d) (v1 : Int) (v2 : Int) (v3 : Int) (s : iS) : Ew hT w d 430 2 [(0, .ref (tb_nK + 121)), (1, iv v1), (2, iv v2), (3, iv v3)] [] s (Ci hT) (m_symbolOf_2 v1 v2 v3 s) := by
  unfold m_symbolOf_2
  refine e_lp (LO := fun l => [(0, .ref (tb_nK + 121)), (1, iv v1), (2, iv v2), (3, iv (l.1))]) (LS := fun l => l.2) (CE := fun e r => e.elim (fun e => ev w d 430 70 [(3, iv (e.1))] [] (hT (e.2)) r) (fun e => ev w d 430 78 [(0, .ref (tb_nK + 121)), (1, iv v1), (2, iv v2)] [] (hT (e)) r)) (fun l => tm_symbolOf_2b w d hd _ _ _ _) ?_ (v3, s)
  rintro (e | e)
  · show Ew hT w d 430 70 [(3, iv (e.1))] [] e.2 (Ci hT) _
    refine e_mv 71 em_430 (ce_at ce_430 41 rfl) rfl rfl ?_
    exact e_reti em_430 (ce_at ce_430 42 rfl)
  · show Ew hT w d 430 78 [(0, .ref (tb_nK + 121)), (1, iv v1), (2, iv v2)] [] e (Ci hT) _
    refine e_pk [0, 1, 2] rfl rfl ?_
    exact tm_symbolOf_78 w d hd _ _ _
theorem fm_symbolOf_2 (v1 : Int) (v2 : Int) (v3 : Int) (s : iS) : Fm Prod.snd L_m_symbolOf G_m_symbolOf s (m_symbolOf_2 v1 v2 v3 s) := fm_lp (LS := fun l => l.2) (LE := fun e => e.elim (fun e => e.2) (fun e => e)) (fun l => fm_symbolOf_2b _ _ _ _) (fm_elim (fun e => fm_some md_refl) (fun e => fm_symbolOf_78 _ _ _)) (v3, s)
noncomputable def m_symbolOf (v1 : Int) (v2 : Int) (s : iS) : Option (Int × iS) := m_symbolOf_2 v1 v2 0 s
theorem tm_symbolOf (w : ev_W) (d : Nat) (hd : 0 ≤ d) (v1 : Int) (v2 : Int) (s : iS) : Ew hT w d 430 0 [(0, .ref (tb_nK + 121)), (1, iv v1), (2, iv v2)] [] s (Ci hT) (m_symbolOf v1 v2 s) := by
  unfold m_symbolOf
  refine e_op 1 em_430 (ce_at ce_430 0 rfl) rfl rfl ?_
  refine e_mv 2 em_430 (ce_at ce_430 1 rfl) rfl rfl ?_
  refine e_pk [0, 1, 2, 3] rfl rfl ?_
  exact tm_symbolOf_2 w d hd _ _ _ _
theorem fm_symbolOf (v1 : Int) (v2 : Int) (s : iS) : Fm Prod.snd L_m_symbolOf G_m_symbolOf s (m_symbolOf v1 v2 s) := fm_symbolOf_2 _ _ _ _
/-! m_isSymbolByte -/
def L_m_isSymbolByte : List Nat := []
def G_m_isSymbolByte : List (Nat × Nat) := []
noncomputable def m_isSymbolByte (v0 : Int) (s : iS) : Option (Int × iS) := bd (m_isWordByte v0 s) (fun r1 s1 => gd (rg r1) (if r1 = 0 then gd (rg v0) (if v0 = 46 then some (1, s1) else if v0 = 36 then some (1, s1) else if v0 = 58 then some (1, s1) else some (0, s1)) else some (1, s1)))
theorem tm_isSymbolByte (H : iS → List am_C) (w : ev_W) (d : Nat) (hd : 2 ≤ d) (v0 : Int) (s : iS) : Ew H w d 428 0 [(0, iv v0)] [] s (Ci H) (m_isSymbolByte v0 s) := by
  unfold m_isSymbolByte
  refine e_mv 1 em_428 (ce_at ce_428 0 rfl) rfl rfl ?_
  refine e_ivi 4 em_428 (ce_at ce_428 1 rfl) (by omega) (iv_s1 rfl) em_307 (Nat.le_of_ble_eq_true rfl) rfl (tm_isWordByte H w (d - 1) (by omega) _ _) (fun r1 s1 => ?_)
  refine e_gd fun g2 => ?_
  refine e_ifne 25 7 em_428 rfl rfl (ce_at ce_428 2 rfl) g2 (fun h3 => ?_) (fun h3 => ?_)
  · refine e_op 26 em_428 (ce_at ce_428 12 rfl) rfl rfl ?_
    refine e_goto em_428 30 (ce_at ce_428 13 rfl) rfl ?_
    exact e_retz em_428 (ce_at ce_428 15 rfl) (by decide)
  · refine e_mv 8 em_428 (ce_at ce_428 3 rfl) rfl rfl ?_
    refine e_bip 10 em_428 (ce_at ce_428 4 rfl) (by decide) rfl ?_
    refine e_gd fun g4 => ?_
    refine e_cmeq 25 13 em_428 rfl rfl (ce_at ce_428 5 rfl) g4 (by decide) (fun h5 => ?_) (fun h5 => ?_)
    · refine e_op 26 em_428 (ce_at ce_428 12 rfl) rfl rfl ?_
      refine e_goto em_428 30 (ce_at ce_428 13 rfl) rfl ?_
      exact e_retz em_428 (ce_at ce_428 15 rfl) (by decide)
    · refine e_mv 14 em_428 (ce_at ce_428 6 rfl) rfl rfl ?_
      refine e_bip 16 em_428 (ce_at ce_428 7 rfl) (by decide) rfl ?_
      refine e_cmeq 25 19 em_428 rfl rfl (ce_at ce_428 8 rfl) g4 (by decide) (fun h6 => ?_) (fun h6 => ?_)
      · refine e_op 26 em_428 (ce_at ce_428 12 rfl) rfl rfl ?_
        refine e_goto em_428 30 (ce_at ce_428 13 rfl) rfl ?_
        exact e_retz em_428 (ce_at ce_428 15 rfl) (by decide)
      · refine e_mv 20 em_428 (ce_at ce_428 9 rfl) rfl rfl ?_
        refine e_bip 22 em_428 (ce_at ce_428 10 rfl) (by decide) rfl ?_
        refine e_cmne 29 25 em_428 rfl rfl (ce_at ce_428 11 rfl) g4 (by decide) (fun h7 => ?_) (fun h7 => ?_)
        · refine e_op 30 em_428 (ce_at ce_428 14 rfl) rfl rfl ?_
          exact e_retz em_428 (ce_at ce_428 15 rfl) (by decide)
        · refine e_op 26 em_428 (ce_at ce_428 12 rfl) rfl rfl ?_
          refine e_goto em_428 30 (ce_at ce_428 13 rfl) rfl ?_
          exact e_retz em_428 (ce_at ce_428 15 rfl) (by decide)
theorem fm_isSymbolByte (v0 : Int) (s : iS) : Fm Prod.snd L_m_isSymbolByte G_m_isSymbolByte s (m_isSymbolByte v0 s) := fm_bd (fm_sub (fm_isWordByte _ _) (mem_sub_L rfl) (mem_sub_F rfl)) (fun r1 s1 => fm_gd (fm_if (fm_gd (fm_if (fm_some md_refl) (fm_if (fm_some md_refl) (fm_if (fm_some md_refl) (fm_some md_refl))))) (fm_some md_refl)))
/-! m_isSymbol -/
def L_m_isSymbol : List Nat := []
def G_m_isSymbol : List (Nat × Nat) := []
def m_isSymbol_30C (w : ev_W) (d : Nat) (v1 : Int) (v2 : Int) : (Int × Int × iS) ⊕ (Int × iS) → am_E → Prop := fun q r => q.elim (fun l => ev w d 427 30 ((fun l => [(0, .ref (tb_nK + 121)), (1, iv v1), (2, iv v2), (3, iv (l.1)), (4, iv (l.2.1))]) l) [] (hT ((fun l => l.2.2) l)) r) (fun e => (fun e r => ev w d 427 67 [(3, iv (e.1))] [] (hT (e.2)) r) e r)
noncomputable def m_isSymbol_30b (v1 : Int) (v2 : Int) (v3 : Int) (v4 : Int) (s : iS) : Option ((Int × Int × iS) ⊕ (Int × iS)) := gd (rg v4) (gd (rg v2) (if v2 ≤ v4 then some (.inr (v3, s)) else gd (rg v3) (if v3 = 0 then some (.inl (0, (v4 + 1), s)) else gd (0 ≤ (v1 + v4) ∧ (v1 + v4) < 4000) (bd (m_isSymbolByte (s 123 (v1 + v4).toNat) s) (fun r7 s7 => gd (rg r7) (if r7 = 0 then some (.inl (0, (v4 + 1), s7)) else some (.inl (1, (v4 + 1), s7))))))))
theorem tm_isSymbol_30b (w : ev_W) (d : Nat) (hd : 3 ≤ d) (v1 : Int) (v2 : Int) (v3 : Int) (v4 : Int) (s : iS) : Ew hT w d 427 30 [(0, .ref (tb_nK + 121)), (1, iv v1), (2, iv v2), (3, iv v3), (4, iv v4)] [] s (m_isSymbol_30C w d v1 v2) (m_isSymbol_30b v1 v2 v3 v4 s) := by
  unfold m_isSymbol_30b
  refine e_mv 32 em_427 (ce_at ce_427 18 rfl) rfl rfl ?_
  refine e_mv 33 em_427 (ce_at ce_427 19 rfl) rfl rfl ?_
  refine e_gd fun g1 => ?_
  refine e_gd fun g2 => ?_
  refine e_cmge 67 36 em_427 rfl rfl (ce_at ce_427 20 rfl) g1 g2 (fun h3 => ?_) (fun h3 => ?_)
  · refine e_pk [3] rfl rfl ?_
    exact e_out (fun r h => h)
  · refine e_mv 37 em_427 (ce_at ce_427 21 rfl) rfl rfl ?_
    refine e_gd fun g4 => ?_
    refine e_ifeq 59 40 em_427 rfl rfl (ce_at ce_427 22 rfl) g4 (fun h5 => ?_) (fun h5 => ?_)
    · refine e_op 60 em_427 (ce_at ce_427 33 rfl) rfl rfl ?_
      refine e_mv 61 em_427 (ce_at ce_427 34 rfl) rfl rfl ?_
      refine e_iinc 64 em_427 (ce_at ce_427 35 rfl) rfl (by decide) rfl ?_
      refine e_goto em_427 30 (ce_at ce_427 36 rfl) rfl ?_
      refine e_pk [0, 1, 2, 3, 4] rfl rfl ?_
      exact e_out (fun r h => h)
    · refine e_mv 41 em_427 (ce_at ce_427 23 rfl) rfl rfl ?_
      refine e_getr 44 em_427 (ce_at ce_427 24 rfl) tq_121 rfl rfl ?_
      refine e_mv 45 em_427 (ce_at ce_427 25 rfl) rfl rfl ?_
      refine e_mv 47 em_427 (ce_at ce_427 26 rfl) rfl rfl ?_
      refine e_iadd 48 em_427 rfl (ce_at ce_427 27 rfl) ?_
      refine e_gd fun g6 => ?_
      refine e_ild 49 em_427 (ce_at ce_427 28 rfl) tq_123 (by decide) g6 rfl ?_
      refine e_ivi 52 em_427 (ce_at ce_427 29 rfl) (by omega) (iv_s1 rfl) em_428 (Nat.le_of_ble_eq_true rfl) rfl (tm_isSymbolByte hT w (d - 1) (by omega) _ _) (fun r7 s7 => ?_)
      refine e_gd fun g8 => ?_
      refine e_ifeq 59 55 em_427 rfl rfl (ce_at ce_427 30 rfl) g8 (fun h9 => ?_) (fun h9 => ?_)
      · refine e_op 60 em_427 (ce_at ce_427 33 rfl) rfl rfl ?_
        refine e_mv 61 em_427 (ce_at ce_427 34 rfl) rfl rfl ?_
        refine e_iinc 64 em_427 (ce_at ce_427 35 rfl) rfl (by decide) rfl ?_
        refine e_goto em_427 30 (ce_at ce_427 36 rfl) rfl ?_
        refine e_pk [0, 1, 2, 3, 4] rfl rfl ?_
        exact e_out (fun r h => h)
      · refine e_op 56 em_427 (ce_at ce_427 31 rfl) rfl rfl ?_
        refine e_goto em_427 60 (ce_at ce_427 32 rfl) rfl ?_
        refine e_mv 61 em_427 (ce_at ce_427 34 rfl) rfl rfl ?_
        refine e_iinc 64 em_427 (ce_at ce_427 35 rfl) rfl (by decide) rfl ?_
        refine e_goto em_427 30 (ce_at ce_427 36 rfl) rfl ?_
        refine e_pk [0, 1, 2, 3, 4] rfl rfl ?_
        exact e_out (fun r h => h)
theorem fm_isSymbol_30b (v1 : Int) (v2 : Int) (v3 : Int) (v4 : Int) (s : iS) : Fm (fun r : (Int × Int × iS) ⊕ (Int × iS) => r.elim (fun l => l.2.2) (fun e => e.2)) L_m_isSymbol G_m_isSymbol s (m_isSymbol_30b v1 v2 v3 v4 s) := fm_gd (fm_gd (fm_if (fm_some md_refl) (fm_gd (fm_if (fm_some md_refl) (fm_gd (fm_bd (fm_sub (fm_isSymbolByte _ _) (mem_sub_L rfl) (mem_sub_F rfl)) (fun r7 s7 => fm_gd (fm_if (fm_some md_refl) (fm_some md_refl)))))))))
noncomputable def m_isSymbol_30 (v1 : Int) (v2 : Int) (v3 : Int) (v4 : Int) (s : iS) : Option (Int × iS) := (lp (L := Int × Int × iS) (E := Int × iS) (fun l => m_isSymbol_30b v1 v2 (l.1) (l.2.1) (l.2.2)) (v3, v4, s)).bind (fun e => gd ((e.1) = 0 ∨ (e.1) = 1) (some (e.1, e.2)))
theorem tm_isSymbol_30 (w : ev_W) (d : Nat) (hd : 3 ≤ d) (v1 : Int) (v2 : Int) (v3 : Int) (v4 : Int) (s : iS) : Ew hT w d 427 30 [(0, .ref (tb_nK + 121)), (1, iv v1), (2, iv v2), (3, iv v3), (4, iv v4)] [] s (Ci hT) (m_isSymbol_30 v1 v2 v3 v4 s) := by
  unfold m_isSymbol_30
  refine e_lp (LO := fun l => [(0, .ref (tb_nK + 121)), (1, iv v1), (2, iv v2), (3, iv (l.1)), (4, iv (l.2.1))]) (LS := fun l => l.2.2) (CE := fun e r => ev w d 427 67 [(3, iv (e.1))] [] (hT (e.2)) r) (fun l => tm_isSymbol_30b w d hd _ _ _ _ _) ?_ (v3, v4, s)
  intro e
  show Ew hT w d 427 67 [(3, iv (e.1))] [] e.2 (Ci hT) _
  refine e_mv 68 em_427 (ce_at ce_427 37 rfl) rfl rfl ?_
  refine e_gd fun g10 => ?_
  exact e_retz em_427 (ce_at ce_427 38 rfl) g10
theorem fm_isSymbol_30 (v1 : Int) (v2 : Int) (v3 : Int) (v4 : Int) (s : iS) : Fm Prod.snd L_m_isSymbol G_m_isSymbol s (m_isSymbol_30 v1 v2 v3 v4 s) := fm_lp (LS := fun l => l.2.2) (LE := fun e => e.2) (fun l => fm_isSymbol_30b _ _ _ _ _) (fun e => fm_gd (fm_some md_refl)) (v3, v4, s)
noncomputable def m_isSymbol (v1 : Int) (v2 : Int) (s : iS) : Option (Int × iS) := gd (rg v2) (if v2 < 1 then some (0, s) else if 16 < v2 then some (0, s) else gd (0 ≤ v1 ∧ v1 < 4000) (bd (m_isDigit (s 123 v1.toNat) s) (fun r5 s5 => gd (rg r5) (if r5 = 0 then m_isSymbol_30 v1 v2 1 0 s5 else some (0, s5)))))
theorem tm_isSymbol (w : ev_W) (d : Nat) (hd : 3 ≤ d) (v1 : Int) (v2 : Int) (s : iS) : Ew hT w d 427 0 [(0, .ref (tb_nK + 121)), (1, iv v1), (2, iv v2)] [] s (Ci hT) (m_isSymbol v1 v2 s) := by
  unfold m_isSymbol
  refine e_mv 1 em_427 (ce_at ce_427 0 rfl) rfl rfl ?_
  refine e_op 2 em_427 (ce_at ce_427 1 rfl) rfl rfl ?_
  refine e_gd fun g1 => ?_
  refine e_cmlt 23 5 em_427 rfl rfl (ce_at ce_427 2 rfl) g1 (by decide) (fun h2 => ?_) (fun h2 => ?_)
  · refine e_op 24 em_427 (ce_at ce_427 12 rfl) rfl rfl ?_
    exact e_retz em_427 (ce_at ce_427 13 rfl) (by decide)
  · refine e_mv 6 em_427 (ce_at ce_427 3 rfl) rfl rfl ?_
    refine e_bip 8 em_427 (ce_at ce_427 4 rfl) (by decide) rfl ?_
    refine e_cmgt 23 11 em_427 rfl rfl (ce_at ce_427 5 rfl) g1 (by decide) (fun h3 => ?_) (fun h3 => ?_)
    · refine e_op 24 em_427 (ce_at ce_427 12 rfl) rfl rfl ?_
      exact e_retz em_427 (ce_at ce_427 13 rfl) (by decide)
    · refine e_mv 12 em_427 (ce_at ce_427 6 rfl) rfl rfl ?_
      refine e_getr 15 em_427 (ce_at ce_427 7 rfl) tq_121 rfl rfl ?_
      refine e_mv 16 em_427 (ce_at ce_427 8 rfl) rfl rfl ?_
      refine e_gd fun g4 => ?_
      refine e_ild 17 em_427 (ce_at ce_427 9 rfl) tq_123 (by decide) g4 rfl ?_
      refine e_ivi 20 em_427 (ce_at ce_427 10 rfl) (by omega) (iv_s1 rfl) em_308 (Nat.le_of_ble_eq_true rfl) rfl (tm_isDigit hT w (d - 1) (by omega) _ _) (fun r5 s5 => ?_)
      refine e_gd fun g6 => ?_
      refine e_ifeq 25 23 em_427 rfl rfl (ce_at ce_427 11 rfl) g6 (fun h7 => ?_) (fun h7 => ?_)
      · refine e_op 26 em_427 (ce_at ce_427 14 rfl) rfl rfl ?_
        refine e_mv 27 em_427 (ce_at ce_427 15 rfl) rfl rfl ?_
        refine e_op 28 em_427 (ce_at ce_427 16 rfl) rfl rfl ?_
        refine e_mv 30 em_427 (ce_at ce_427 17 rfl) rfl rfl ?_
        refine e_pk [0, 1, 2, 3, 4] rfl rfl ?_
        exact tm_isSymbol_30 w d hd _ _ _ _ _
      · refine e_op 24 em_427 (ce_at ce_427 12 rfl) rfl rfl ?_
        exact e_retz em_427 (ce_at ce_427 13 rfl) (by decide)
theorem fm_isSymbol (v1 : Int) (v2 : Int) (s : iS) : Fm Prod.snd L_m_isSymbol G_m_isSymbol s (m_isSymbol v1 v2 s) := fm_gd (fm_if (fm_some md_refl) (fm_if (fm_some md_refl) (fm_gd (fm_bd (fm_sub (fm_isDigit _ _) (mem_sub_L rfl) (mem_sub_F rfl)) (fun r5 s5 => fm_gd (fm_if (fm_isSymbol_30 _ _ _ _ _) (fm_some md_refl)))))))
/-! m_address -/
def L_m_address : List Nat := [189, 190, 191, 192, 193]
def G_m_address : List (Nat × Nat) := [(121, 110), (121, 112)]
def m_address_21C (w : ev_W) (d : Nat) (v1 : Int) (v2 : Int) : (Int × Int × Int × iS) ⊕ (Int × Int × iS) → am_E → Prop := fun q r => q.elim (fun l => ev w d 431 21 ((fun l => [(0, .ref (tb_nK + 121)), (1, iv v1), (2, iv v2), (3, iv (l.1)), (4, iv (l.2.1)), (5, iv (l.2.2.1))]) l) [] (hT ((fun l => l.2.2.2) l)) r) (fun e => (fun e r => ev w d 431 70 [(0, .ref (tb_nK + 121)), (1, iv v1), (2, iv v2), (3, iv (e.1)), (4, iv (e.2.1))] [] (hT (e.2.2)) r) e r)
noncomputable def m_address_21b (v1 : Int) (v2 : Int) (v3 : Int) (v4 : Int) (v5 : Int) (s : iS) : Option ((Int × Int × Int × iS) ⊕ (Int × Int × iS)) := gd (rg v5) (gd (rg v2) (if v2 ≤ v5 then some (.inr (v3, v4, s)) else gd (rg v3) (if v3 = 0 then some (.inr (v3, v4, s)) else gd (0 ≤ (v1 + v5) ∧ (v1 + v5) < 4000) (bd (m_isDigit (s 123 (v1 + v5).toNat) s) (fun r7 s7 => some (.inl (r7, (((10 * v4) + (s7 123 (v1 + v5).toNat)) - 48), (v5 + 1), s7)))))))
theorem tm_address_21b (w : ev_W) (d : Nat) (hd : 4 ≤ d) (v1 : Int) (v2 : Int) (v3 : Int) (v4 : Int) (v5 : Int) (s : iS) : Ew hT w d 431 21 [(0, .ref (tb_nK + 121)), (1, iv v1), (2, iv v2), (3, iv v3), (4, iv v4), (5, iv v5)] [] s (m_address_21C w d v1 v2) (m_address_21b v1 v2 v3 v4 v5 s) := by
  unfold m_address_21b
  refine e_mv 23 em_431 (ce_at ce_431 13 rfl) rfl rfl ?_
  refine e_mv 24 em_431 (ce_at ce_431 14 rfl) rfl rfl ?_
  refine e_gd fun g1 => ?_
  refine e_gd fun g2 => ?_
  refine e_cmge 70 27 em_431 rfl rfl (ce_at ce_431 15 rfl) g1 g2 (fun h3 => ?_) (fun h3 => ?_)
  · refine e_pk [0, 1, 2, 3, 4] rfl rfl ?_
    exact e_out (fun r h => h)
  · refine e_mv 28 em_431 (ce_at ce_431 16 rfl) rfl rfl ?_
    refine e_gd fun g4 => ?_
    refine e_ifeq 70 31 em_431 rfl rfl (ce_at ce_431 17 rfl) g4 (fun h5 => ?_) (fun h5 => ?_)
    · refine e_pk [0, 1, 2, 3, 4] rfl rfl ?_
      exact e_out (fun r h => h)
    · refine e_mv 32 em_431 (ce_at ce_431 18 rfl) rfl rfl ?_
      refine e_getr 35 em_431 (ce_at ce_431 19 rfl) tq_121 rfl rfl ?_
      refine e_mv 36 em_431 (ce_at ce_431 20 rfl) rfl rfl ?_
      refine e_mv 38 em_431 (ce_at ce_431 21 rfl) rfl rfl ?_
      refine e_iadd 39 em_431 rfl (ce_at ce_431 22 rfl) ?_
      refine e_gd fun g6 => ?_
      refine e_ild 40 em_431 (ce_at ce_431 23 rfl) tq_123 (by decide) g6 rfl ?_
      refine e_ivi 43 em_431 (ce_at ce_431 24 rfl) (by omega) (iv_s1 rfl) em_308 (Nat.le_of_ble_eq_true rfl) rfl (tm_isDigit hT w (d - 1) (by omega) _ _) (fun r7 s7 => ?_)
      refine e_mv 44 em_431 (ce_at ce_431 25 rfl) rfl rfl ?_
      refine e_bip 46 em_431 (ce_at ce_431 26 rfl) (by decide) rfl ?_
      refine e_mv 48 em_431 (ce_at ce_431 27 rfl) rfl rfl ?_
      refine e_imul 49 em_431 rfl (ce_at ce_431 28 rfl) ?_
      refine e_mv 50 em_431 (ce_at ce_431 29 rfl) rfl rfl ?_
      refine e_getr 53 em_431 (ce_at ce_431 30 rfl) tq_121 rfl rfl ?_
      refine e_mv 54 em_431 (ce_at ce_431 31 rfl) rfl rfl ?_
      refine e_mv 56 em_431 (ce_at ce_431 32 rfl) rfl rfl ?_
      refine e_iadd 57 em_431 rfl (ce_at ce_431 33 rfl) ?_
      refine e_ild 58 em_431 (ce_at ce_431 34 rfl) tq_123 (by decide) g6 rfl ?_
      refine e_iadd 59 em_431 rfl (ce_at ce_431 35 rfl) ?_
      refine e_bip 61 em_431 (ce_at ce_431 36 rfl) (by decide) rfl ?_
      refine e_isub 62 em_431 rfl (ce_at ce_431 37 rfl) ?_
      refine e_mv 64 em_431 (ce_at ce_431 38 rfl) rfl rfl ?_
      refine e_iinc 67 em_431 (ce_at ce_431 39 rfl) rfl (by decide) rfl ?_
      refine e_goto em_431 21 (ce_at ce_431 40 rfl) rfl ?_
      refine e_pk [0, 1, 2, 3, 4, 5] rfl rfl ?_
      exact e_out (fun r h => h)
theorem fm_address_21b (v1 : Int) (v2 : Int) (v3 : Int) (v4 : Int) (v5 : Int) (s : iS) : Fm (fun r : (Int × Int × Int × iS) ⊕ (Int × Int × iS) => r.elim (fun l => l.2.2.2) (fun e => e.2.2)) L_m_address G_m_address s (m_address_21b v1 v2 v3 v4 v5 s) := fm_gd (fm_gd (fm_if (fm_some md_refl) (fm_gd (fm_if (fm_some md_refl) (fm_gd (fm_bd (fm_sub (fm_isDigit _ _) (mem_sub_L rfl) (mem_sub_F rfl)) (fun r7 s7 => fm_some md_refl)))))))
noncomputable def m_address_192 (t0 : Int) (t1 : Int) (s : iS) : Option (Int × iS) := gd (0 ≤ t1 ∧ t1 < 2000) (lt' (up s 189 t1.toNat t0) (fun s2 => lt' (up s2 121 110 ((s2 121 110) + 1)) (fun s3 => some (0, s3))))
theorem tm_address_192 (w : ev_W) (d : Nat) (hd : 4 ≤ d) (t0 : Int) (t1 : Int) (s : iS) : Ew hT w d 431 192 [(0, .ref (tb_nK + 121))] [iv t0, iv t1, .ref (tb_nK + 189)] s (Ci hT) (m_address_192 t0 t1 s) := by
  unfold m_address_192
  refine e_gd fun g1 => ?_
  refine e_ist 193 em_431 (ce_at ce_431 107 rfl) tq_189 (by decide) g1 rfl (fun s2 => ?_)
  refine e_mv 194 em_431 (ce_at ce_431 108 rfl) rfl rfl ?_
  refine e_mv 195 em_431 (ce_at ce_431 109 rfl) rfl rfl ?_
  refine e_get 198 em_431 (ce_at ce_431 110 rfl) tq_121 rfl rfl ?_
  refine e_op 199 em_431 (ce_at ce_431 111 rfl) rfl rfl ?_
  refine e_iadd 200 em_431 rfl (ce_at ce_431 112 rfl) ?_
  refine e_put 203 em_431 (ce_at ce_431 113 rfl) tq_121 rfl rfl rfl (fun s3 => ?_)
  refine e_op 204 em_431 (ce_at ce_431 114 rfl) rfl rfl ?_
  exact e_reti em_431 (ce_at ce_431 115 rfl)
theorem fm_address_192 (t0 : Int) (t1 : Int) (s : iS) : Fm Prod.snd L_m_address G_m_address s (m_address_192 t0 t1 s) := fm_gd (fm_lt (md_upL (mem_L rfl)) (fun s2 => fm_lt (md_upF (mem_F rfl)) (fun s3 => fm_some md_refl)))
noncomputable def m_address_172 (v5 : Int) (s : iS) : Option (Int × iS) := gd (rg v5) (if v5 = (-1) then m_address_192 0 (s 121 110) s else m_address_192 v5 (s 121 110) s)
theorem tm_address_172 (w : ev_W) (d : Nat) (hd : 4 ≤ d) (v5 : Int) (s : iS) : Ew hT w d 431 172 [(0, .ref (tb_nK + 121)), (5, iv v5)] [] s (Ci hT) (m_address_172 v5 s) := by
  unfold m_address_172
  refine e_mv 173 em_431 (ce_at ce_431 97 rfl) rfl rfl ?_
  refine e_getr 176 em_431 (ce_at ce_431 98 rfl) tq_121 rfl rfl ?_
  refine e_mv 177 em_431 (ce_at ce_431 99 rfl) rfl rfl ?_
  refine e_get 180 em_431 (ce_at ce_431 100 rfl) tq_121 rfl rfl ?_
  refine e_mv 182 em_431 (ce_at ce_431 101 rfl) rfl rfl ?_
  refine e_op 183 em_431 (ce_at ce_431 102 rfl) rfl rfl ?_
  refine e_gd fun g1 => ?_
  refine e_cmne 190 186 em_431 rfl rfl (ce_at ce_431 103 rfl) g1 (by decide) (fun h2 => ?_) (fun h2 => ?_)
  · refine e_mv 192 em_431 (ce_at ce_431 106 rfl) rfl rfl ?_
    refine e_pk [0] rfl rfl ?_
    exact tm_address_192 w d hd _ _ _
  · refine e_op 187 em_431 (ce_at ce_431 104 rfl) rfl rfl ?_
    refine e_goto em_431 192 (ce_at ce_431 105 rfl) rfl ?_
    refine e_pk [0] rfl rfl ?_
    exact tm_address_192 w d hd _ _ _
theorem fm_address_172 (v5 : Int) (s : iS) : Fm Prod.snd L_m_address G_m_address s (m_address_172 v5 s) := fm_gd (fm_if (fm_address_192 _ _ _) (fm_address_192 _ _ _))
noncomputable def m_address_134 (v1 : Int) (v2 : Int) (t0 : Int) (s : iS) : Option (Int × iS) := gd (rg t0) (if t0 = (-1) then bd (m_symbolOf v1 v2 s) (fun r3 s3 => gd (0 ≤ (s 121 110) ∧ (s 121 110) < 2000) (lt' (up s3 193 (s 121 110).toNat r3) (fun s5 => gd (0 ≤ (s5 121 110) ∧ (s5 121 110) < 2000) (gd (rg (s5 193 (s5 121 110).toNat)) (if (s5 193 (s5 121 110).toNat) = (-1) then some (2, s5) else m_address_172 t0 s5))))) else m_address_172 t0 s)
theorem tm_address_134 (w : ev_W) (d : Nat) (hd : 4 ≤ d) (v1 : Int) (v2 : Int) (t0 : Int) (s : iS) : Ew hT w d 431 134 [(0, .ref (tb_nK + 121)), (1, iv v1), (2, iv v2)] [iv t0] s (Ci hT) (m_address_134 v1 v2 t0 s) := by
  unfold m_address_134
  refine e_mv 136 em_431 (ce_at ce_431 75 rfl) rfl rfl ?_
  refine e_mv 138 em_431 (ce_at ce_431 76 rfl) rfl rfl ?_
  refine e_op 139 em_431 (ce_at ce_431 77 rfl) rfl rfl ?_
  refine e_gd fun g1 => ?_
  refine e_cmne 172 142 em_431 rfl rfl (ce_at ce_431 78 rfl) g1 (by decide) (fun h2 => ?_) (fun h2 => ?_)
  · refine e_pk [0, 5] rfl rfl ?_
    exact tm_address_172 w d hd _ _
  · refine e_mv 143 em_431 (ce_at ce_431 79 rfl) rfl rfl ?_
    refine e_getr 146 em_431 (ce_at ce_431 80 rfl) tq_121 rfl rfl ?_
    refine e_mv 147 em_431 (ce_at ce_431 81 rfl) rfl rfl ?_
    refine e_get 150 em_431 (ce_at ce_431 82 rfl) tq_121 rfl rfl ?_
    refine e_mv 151 em_431 (ce_at ce_431 83 rfl) rfl rfl ?_
    refine e_mv 152 em_431 (ce_at ce_431 84 rfl) rfl rfl ?_
    refine e_mv 153 em_431 (ce_at ce_431 85 rfl) rfl rfl ?_
    refine e_ivi 156 em_431 (ce_at ce_431 86 rfl) (by omega) (iv_v2 (by decide) tq_121 rfl) em_430 (Nat.le_of_ble_eq_true rfl) rfl (tm_symbolOf w (d - 1) (by omega) _ _ _) (fun r3 s3 => ?_)
    refine e_gd fun g4 => ?_
    refine e_ist 157 em_431 (ce_at ce_431 87 rfl) tq_193 (by decide) g4 rfl (fun s5 => ?_)
    refine e_mv 158 em_431 (ce_at ce_431 88 rfl) rfl rfl ?_
    refine e_getr 161 em_431 (ce_at ce_431 89 rfl) tq_121 rfl rfl ?_
    refine e_mv 162 em_431 (ce_at ce_431 90 rfl) rfl rfl ?_
    refine e_get 165 em_431 (ce_at ce_431 91 rfl) tq_121 rfl rfl ?_
    refine e_gd fun g6 => ?_
    refine e_ild 166 em_431 (ce_at ce_431 92 rfl) tq_193 (by decide) g6 rfl ?_
    refine e_op 167 em_431 (ce_at ce_431 93 rfl) rfl rfl ?_
    refine e_gd fun g7 => ?_
    refine e_cmne 172 170 em_431 rfl rfl (ce_at ce_431 94 rfl) g7 (by decide) (fun h8 => ?_) (fun h8 => ?_)
    · refine e_pk [0, 5] rfl rfl ?_
      exact tm_address_172 w d hd _ _
    · refine e_op 171 em_431 (ce_at ce_431 95 rfl) rfl rfl ?_
      exact e_reti em_431 (ce_at ce_431 96 rfl)
theorem fm_address_134 (v1 : Int) (v2 : Int) (t0 : Int) (s : iS) : Fm Prod.snd L_m_address G_m_address s (m_address_134 v1 v2 t0 s) := fm_gd (fm_if (fm_bd (fm_sub (fm_symbolOf _ _ _) (mem_sub_L rfl) (mem_sub_F rfl)) (fun r3 s3 => fm_gd (fm_lt (md_upL (mem_L rfl)) (fun s5 => fm_gd (fm_gd (fm_if (fm_some md_refl) (fm_address_172 _ _))))))) (fm_address_172 _ _))
noncomputable def m_address_97 (v1 : Int) (v2 : Int) (v3 : Int) (v4 : Int) (s : iS) : Option (Int × iS) := gd (rg (s 121 110)) (if (s 121 110) = 1500 then some (2, s) else gd (0 ≤ (s 121 110) ∧ (s 121 110) < 2000) (lt' (up s 193 (s 121 110).toNat (-1)) (fun s4 => gd (rg v3) (if v3 = 0 then bd (m_knownOf v1 v2 s4) (fun r7 s7 => m_address_134 v1 v2 r7 s7) else m_address_134 v1 v2 v4 s4))))
theorem tm_address_97 (w : ev_W) (d : Nat) (hd : 4 ≤ d) (v1 : Int) (v2 : Int) (v3 : Int) (v4 : Int) (s : iS) : Ew hT w d 431 97 [(0, .ref (tb_nK + 121)), (1, iv v1), (2, iv v2), (3, iv v3), (4, iv v4)] [] s (Ci hT) (m_address_97 v1 v2 v3 v4 s) := by
  unfold m_address_97
  refine e_mv 98 em_431 (ce_at ce_431 55 rfl) rfl rfl ?_
  refine e_get 101 em_431 (ce_at ce_431 56 rfl) tq_121 rfl rfl ?_
  refine e_sip 104 em_431 (ce_at ce_431 57 rfl) (by decide) rfl ?_
  refine e_gd fun g1 => ?_
  refine e_cmne 109 107 em_431 rfl rfl (ce_at ce_431 58 rfl) g1 (by decide) (fun h2 => ?_) (fun h2 => ?_)
  · refine e_mv 110 em_431 (ce_at ce_431 61 rfl) rfl rfl ?_
    refine e_getr 113 em_431 (ce_at ce_431 62 rfl) tq_121 rfl rfl ?_
    refine e_mv 114 em_431 (ce_at ce_431 63 rfl) rfl rfl ?_
    refine e_get 117 em_431 (ce_at ce_431 64 rfl) tq_121 rfl rfl ?_
    refine e_op 118 em_431 (ce_at ce_431 65 rfl) rfl rfl ?_
    refine e_gd fun g3 => ?_
    refine e_ist 119 em_431 (ce_at ce_431 66 rfl) tq_193 (by decide) g3 rfl (fun s4 => ?_)
    refine e_mv 120 em_431 (ce_at ce_431 67 rfl) rfl rfl ?_
    refine e_gd fun g5 => ?_
    refine e_ifeq 128 123 em_431 rfl rfl (ce_at ce_431 68 rfl) g5 (fun h6 => ?_) (fun h6 => ?_)
    · refine e_mv 129 em_431 (ce_at ce_431 71 rfl) rfl rfl ?_
      refine e_mv 130 em_431 (ce_at ce_431 72 rfl) rfl rfl ?_
      refine e_mv 131 em_431 (ce_at ce_431 73 rfl) rfl rfl ?_
      refine e_ivi 134 em_431 (ce_at ce_431 74 rfl) (by omega) (iv_v2 (by decide) tq_121 rfl) em_429 (Nat.le_of_ble_eq_true rfl) rfl (tm_knownOf w (d - 1) (by omega) _ _ _) (fun r7 s7 => ?_)
      refine e_pk [0, 1, 2] rfl rfl ?_
      exact tm_address_134 w d hd _ _ _ _
    · refine e_mv 125 em_431 (ce_at ce_431 69 rfl) rfl rfl ?_
      refine e_goto em_431 134 (ce_at ce_431 70 rfl) rfl ?_
      refine e_pk [0, 1, 2] rfl rfl ?_
      exact tm_address_134 w d hd _ _ _ _
  · refine e_op 108 em_431 (ce_at ce_431 59 rfl) rfl rfl ?_
    exact e_reti em_431 (ce_at ce_431 60 rfl)
theorem fm_address_97 (v1 : Int) (v2 : Int) (v3 : Int) (v4 : Int) (s : iS) : Fm Prod.snd L_m_address G_m_address s (m_address_97 v1 v2 v3 v4 s) := fm_gd (fm_if (fm_some md_refl) (fm_gd (fm_lt (md_upL (mem_L rfl)) (fun s4 => fm_gd (fm_if (fm_bd (fm_sub (fm_knownOf _ _ _) (mem_sub_L rfl) (mem_sub_F rfl)) (fun r7 s7 => fm_address_134 _ _ _ _)) (fm_address_134 _ _ _ _))))))
noncomputable def m_address_82 (v1 : Int) (v2 : Int) (v3 : Int) (v4 : Int) (s : iS) : Option (Int × iS) := gd (rg v3) (if v3 = 0 then bd (m_isSymbol v1 v2 s) (fun r3 s3 => gd (rg r3) (if r3 = 0 then some (1, s3) else m_address_97 v1 v2 v3 v4 s3)) else m_address_97 v1 v2 v3 v4 s)
theorem tm_address_82 (w : ev_W) (d : Nat) (hd : 4 ≤ d) (v1 : Int) (v2 : Int) (v3 : Int) (v4 : Int) (s : iS) : Ew hT w d 431 82 [(0, .ref (tb_nK + 121)), (1, iv v1), (2, iv v2), (3, iv v3), (4, iv v4)] [] s (Ci hT) (m_address_82 v1 v2 v3 v4 s) := by
  unfold m_address_82
  refine e_mv 83 em_431 (ce_at ce_431 46 rfl) rfl rfl ?_
  refine e_gd fun g1 => ?_
  refine e_ifne 97 86 em_431 rfl rfl (ce_at ce_431 47 rfl) g1 (fun h2 => ?_) (fun h2 => ?_)
  · refine e_pk [0, 1, 2, 3, 4] rfl rfl ?_
    exact tm_address_97 w d hd _ _ _ _ _
  · refine e_mv 87 em_431 (ce_at ce_431 48 rfl) rfl rfl ?_
    refine e_mv 88 em_431 (ce_at ce_431 49 rfl) rfl rfl ?_
    refine e_mv 89 em_431 (ce_at ce_431 50 rfl) rfl rfl ?_
    refine e_ivi 92 em_431 (ce_at ce_431 51 rfl) (by omega) (iv_v2 (by decide) tq_121 rfl) em_427 (Nat.le_of_ble_eq_true rfl) rfl (tm_isSymbol w (d - 1) (by omega) _ _ _) (fun r3 s3 => ?_)
    refine e_gd fun g4 => ?_
    refine e_ifne 97 95 em_431 rfl rfl (ce_at ce_431 52 rfl) g4 (fun h5 => ?_) (fun h5 => ?_)
    · refine e_pk [0, 1, 2, 3, 4] rfl rfl ?_
      exact tm_address_97 w d hd _ _ _ _ _
    · refine e_op 96 em_431 (ce_at ce_431 53 rfl) rfl rfl ?_
      exact e_reti em_431 (ce_at ce_431 54 rfl)
theorem fm_address_82 (v1 : Int) (v2 : Int) (v3 : Int) (v4 : Int) (s : iS) : Fm Prod.snd L_m_address G_m_address s (m_address_82 v1 v2 v3 v4 s) := fm_gd (fm_if (fm_bd (fm_sub (fm_isSymbol _ _ _) (mem_sub_L rfl) (mem_sub_F rfl)) (fun r3 s3 => fm_gd (fm_if (fm_some md_refl) (fm_address_97 _ _ _ _ _)))) (fm_address_97 _ _ _ _ _))
noncomputable def m_address_70 (v1 : Int) (v2 : Int) (v3 : Int) (v4 : Int) (s : iS) : Option (Int × iS) := gd (rg v3) (if v3 = 0 then m_address_82 v1 v2 v3 v4 s else gd (rg v4) (if 32767 < v4 then some (1, s) else m_address_82 v1 v2 v3 v4 s))
theorem tm_address_70 (w : ev_W) (d : Nat) (hd : 4 ≤ d) (v1 : Int) (v2 : Int) (v3 : Int) (v4 : Int) (s : iS) : Ew hT w d 431 70 [(0, .ref (tb_nK + 121)), (1, iv v1), (2, iv v2), (3, iv v3), (4, iv v4)] [] s (Ci hT) (m_address_70 v1 v2 v3 v4 s) := by
  unfold m_address_70
  refine e_mv 71 em_431 (ce_at ce_431 41 rfl) rfl rfl ?_
  refine e_gd fun g1 => ?_
  refine e_ifeq 82 74 em_431 rfl rfl (ce_at ce_431 42 rfl) g1 (fun h2 => ?_) (fun h2 => ?_)
  · refine e_pk [0, 1, 2, 3, 4] rfl rfl ?_
    exact tm_address_82 w d hd _ _ _ _ _
  · refine e_mv 76 em_431 (ce_at ce_431 43 rfl) rfl rfl ?_
    refine e_sip 79 em_431 (ce_at ce_431 44 rfl) (by decide) rfl ?_
    refine e_gd fun g3 => ?_
    refine e_cmgt 95 82 em_431 rfl rfl (ce_at ce_431 45 rfl) g3 (by decide) (fun h4 => ?_) (fun h4 => ?_)
    · refine e_op 96 em_431 (ce_at ce_431 53 rfl) rfl rfl ?_
      exact e_reti em_431 (ce_at ce_431 54 rfl)
    · refine e_pk [0, 1, 2, 3, 4] rfl rfl ?_
      exact tm_address_82 w d hd _ _ _ _ _
theorem fm_address_70 (v1 : Int) (v2 : Int) (v3 : Int) (v4 : Int) (s : iS) : Fm Prod.snd L_m_address G_m_address s (m_address_70 v1 v2 v3 v4 s) := fm_gd (fm_if (fm_address_82 _ _ _ _ _) (fm_gd (fm_if (fm_some md_refl) (fm_address_82 _ _ _ _ _))))
noncomputable def m_address_21 (v1 : Int) (v2 : Int) (v3 : Int) (v4 : Int) (v5 : Int) (s : iS) : Option (Int × iS) := (lp (L := Int × Int × Int × iS) (E := Int × Int × iS) (fun l => m_address_21b v1 v2 (l.1) (l.2.1) (l.2.2.1) (l.2.2.2)) (v3, v4, v5, s)).bind (fun e => m_address_70 v1 v2 (e.1) (e.2.1) (e.2.2))
theorem tm_address_21 (w : ev_W) (d : Nat) (hd : 4 ≤ d) (v1 : Int) (v2 : Int) (v3 : Int) (v4 : Int) (v5 : Int) (s : iS) : Ew hT w d 431 21 [(0, .ref (tb_nK + 121)), (1, iv v1), (2, iv v2), (3, iv v3), (4, iv v4), (5, iv v5)] [] s (Ci hT) (m_address_21 v1 v2 v3 v4 v5 s) := by
  unfold m_address_21
  refine e_lp (LO := fun l => [(0, .ref (tb_nK + 121)), (1, iv v1), (2, iv v2), (3, iv (l.1)), (4, iv (l.2.1)), (5, iv (l.2.2.1))]) (LS := fun l => l.2.2.2) (CE := fun e r => ev w d 431 70 [(0, .ref (tb_nK + 121)), (1, iv v1), (2, iv v2), (3, iv (e.1)), (4, iv (e.2.1))] [] (hT (e.2.2)) r) (fun l => tm_address_21b w d hd _ _ _ _ _ _) ?_ (v3, v4, v5, s)
  intro e
  show Ew hT w d 431 70 [(0, .ref (tb_nK + 121)), (1, iv v1), (2, iv v2), (3, iv (e.1)), (4, iv (e.2.1))] [] e.2.2 (Ci hT) _
  refine e_pk [0, 1, 2, 3, 4] rfl rfl ?_
  exact tm_address_70 w d hd _ _ _ _ _
theorem fm_address_21 (v1 : Int) (v2 : Int) (v3 : Int) (v4 : Int) (v5 : Int) (s : iS) : Fm Prod.snd L_m_address G_m_address s (m_address_21 v1 v2 v3 v4 v5 s) := fm_lp (LS := fun l => l.2.2.2) (LE := fun e => e.2.2) (fun l => fm_address_21b _ _ _ _ _ _) (fun e => fm_address_70 _ _ _ _ _) (v3, v4, v5, s)
noncomputable def m_address_14 (v1 : Int) (v2 : Int) (t0 : Int) (s : iS) : Option (Int × iS) := m_address_21 v1 v2 t0 0 0 s
theorem tm_address_14 (w : ev_W) (d : Nat) (hd : 4 ≤ d) (v1 : Int) (v2 : Int) (t0 : Int) (s : iS) : Ew hT w d 431 14 [(0, .ref (tb_nK + 121)), (1, iv v1), (2, iv v2)] [iv t0] s (Ci hT) (m_address_14 v1 v2 t0 s) := by
  unfold m_address_14
  refine e_mv 15 em_431 (ce_at ce_431 8 rfl) rfl rfl ?_
  refine e_op 16 em_431 (ce_at ce_431 9 rfl) rfl rfl ?_
  refine e_mv 18 em_431 (ce_at ce_431 10 rfl) rfl rfl ?_
  refine e_op 19 em_431 (ce_at ce_431 11 rfl) rfl rfl ?_
  refine e_mv 21 em_431 (ce_at ce_431 12 rfl) rfl rfl ?_
  refine e_pk [0, 1, 2, 3, 4, 5] rfl rfl ?_
  exact tm_address_21 w d hd _ _ _ _ _ _
theorem fm_address_14 (v1 : Int) (v2 : Int) (t0 : Int) (s : iS) : Fm Prod.snd L_m_address G_m_address s (m_address_14 v1 v2 t0 s) := fm_address_21 _ _ _ _ _ _
noncomputable def m_address_13 (v1 : Int) (v2 : Int) (s : iS) : Option (Int × iS) := m_address_14 v1 v2 0 s
theorem tm_address_13 (w : ev_W) (d : Nat) (hd : 4 ≤ d) (v1 : Int) (v2 : Int) (s : iS) : Ew hT w d 431 13 [(0, .ref (tb_nK + 121)), (1, iv v1), (2, iv v2)] [] s (Ci hT) (m_address_13 v1 v2 s) := by
  unfold m_address_13
  refine e_op 14 em_431 (ce_at ce_431 7 rfl) rfl rfl ?_
  refine e_pk [0, 1, 2] rfl rfl ?_
  exact tm_address_14 w d hd _ _ _ _
theorem fm_address_13 (v1 : Int) (v2 : Int) (s : iS) : Fm Prod.snd L_m_address G_m_address s (m_address_13 v1 v2 s) := fm_address_14 _ _ _ _
noncomputable def m_address (v1 : Int) (v2 : Int) (s : iS) : Option (Int × iS) := gd (rg v2) (if v2 ≤ 0 then m_address_13 v1 v2 s else if 5 < v2 then m_address_13 v1 v2 s else m_address_14 v1 v2 1 s)
theorem tm_address (w : ev_W) (d : Nat) (hd : 4 ≤ d) (v1 : Int) (v2 : Int) (s : iS) : Ew hT w d 431 0 [(0, .ref (tb_nK + 121)), (1, iv v1), (2, iv v2)] [] s (Ci hT) (m_address v1 v2 s) := by
  unfold m_address
  refine e_mv 1 em_431 (ce_at ce_431 0 rfl) rfl rfl ?_
  refine e_gd fun g1 => ?_
  refine e_ifle 13 4 em_431 rfl rfl (ce_at ce_431 1 rfl) g1 (fun h2 => ?_) (fun h2 => ?_)
  · refine e_pk [0, 1, 2] rfl rfl ?_
    exact tm_address_13 w d hd _ _ _
  · refine e_mv 5 em_431 (ce_at ce_431 2 rfl) rfl rfl ?_
    refine e_op 6 em_431 (ce_at ce_431 3 rfl) rfl rfl ?_
    refine e_cmgt 13 9 em_431 rfl rfl (ce_at ce_431 4 rfl) g1 (by decide) (fun h3 => ?_) (fun h3 => ?_)
    · refine e_pk [0, 1, 2] rfl rfl ?_
      exact tm_address_13 w d hd _ _ _
    · refine e_op 10 em_431 (ce_at ce_431 5 rfl) rfl rfl ?_
      refine e_goto em_431 14 (ce_at ce_431 6 rfl) rfl ?_
      refine e_pk [0, 1, 2] rfl rfl ?_
      exact tm_address_14 w d hd _ _ _ _
theorem fm_address (v1 : Int) (v2 : Int) (s : iS) : Fm Prod.snd L_m_address G_m_address s (m_address v1 v2 s) := fm_gd (fm_if (fm_address_13 _ _ _) (fm_if (fm_address_13 _ _ _) (fm_address_14 _ _ _ _)))
/-! m_label -/
def L_m_label : List Nat := [190, 191, 192]
def G_m_label : List (Nat × Nat) := [(121, 112)]
noncomputable def m_label (v1 : Int) (v2 : Int) (s : iS) : Option (Int × iS) := gd (rg v2) (if v2 < 3 then some (1, s) else gd (0 ≤ ((v1 + v2) - 1) ∧ ((v1 + v2) - 1) < 4000) (gd (rg (s 123 ((v1 + v2) - 1).toNat)) (if (s 123 ((v1 + v2) - 1).toNat) = 41 then bd (m_isSymbol (v1 + 1) (v2 - 2) s) (fun r6 s6 => gd (rg r6) (if r6 = 0 then some (1, s6) else bd (m_knownOf (v1 + 1) (v2 - 2) s6) (fun r9 s9 => gd (rg r9) (if r9 = (-1) then bd (m_symbolOf (v1 + 1) (v2 - 2) s9) (fun r12 s12 => gd (rg r12) (if r12 = (-1) then some (2, s12) else gd (0 ≤ r12 ∧ r12 < 100) (gd (rg (s12 192 r12.toNat)) (if (s12 192 r12.toNat) = (-1) then lt' (up s12 192 r12.toNat (s12 121 110)) (fun s18 => some (0, s18)) else some (3, s12))))) else some (3, s9))))) else some (1, s))))
theorem tm_label (w : ev_W) (d : Nat) (hd : 4 ≤ d) (v1 : Int) (v2 : Int) (s : iS) : Ew hT w d 426 0 [(0, .ref (tb_nK + 121)), (1, iv v1), (2, iv v2)] [] s (Ci hT) (m_label v1 v2 s) := by
  unfold m_label
  refine e_mv 1 em_426 (ce_at ce_426 0 rfl) rfl rfl ?_
  refine e_op 2 em_426 (ce_at ce_426 1 rfl) rfl rfl ?_
  refine e_gd fun g1 => ?_
  refine e_cmlt 33 5 em_426 rfl rfl (ce_at ce_426 2 rfl) g1 (by decide) (fun h2 => ?_) (fun h2 => ?_)
  · refine e_op 34 em_426 (ce_at ce_426 22 rfl) rfl rfl ?_
    exact e_reti em_426 (ce_at ce_426 23 rfl)
  · refine e_mv 6 em_426 (ce_at ce_426 3 rfl) rfl rfl ?_
    refine e_getr 9 em_426 (ce_at ce_426 4 rfl) tq_121 rfl rfl ?_
    refine e_mv 10 em_426 (ce_at ce_426 5 rfl) rfl rfl ?_
    refine e_mv 11 em_426 (ce_at ce_426 6 rfl) rfl rfl ?_
    refine e_iadd 12 em_426 rfl (ce_at ce_426 7 rfl) ?_
    refine e_op 13 em_426 (ce_at ce_426 8 rfl) rfl rfl ?_
    refine e_isub 14 em_426 rfl (ce_at ce_426 9 rfl) ?_
    refine e_gd fun g3 => ?_
    refine e_ild 15 em_426 (ce_at ce_426 10 rfl) tq_123 (by decide) g3 rfl ?_
    refine e_bip 17 em_426 (ce_at ce_426 11 rfl) (by decide) rfl ?_
    refine e_gd fun g4 => ?_
    refine e_cmne 33 20 em_426 rfl rfl (ce_at ce_426 12 rfl) g4 (by decide) (fun h5 => ?_) (fun h5 => ?_)
    · refine e_op 34 em_426 (ce_at ce_426 22 rfl) rfl rfl ?_
      exact e_reti em_426 (ce_at ce_426 23 rfl)
    · refine e_mv 21 em_426 (ce_at ce_426 13 rfl) rfl rfl ?_
      refine e_mv 22 em_426 (ce_at ce_426 14 rfl) rfl rfl ?_
      refine e_op 23 em_426 (ce_at ce_426 15 rfl) rfl rfl ?_
      refine e_iadd 24 em_426 rfl (ce_at ce_426 16 rfl) ?_
      refine e_mv 25 em_426 (ce_at ce_426 17 rfl) rfl rfl ?_
      refine e_op 26 em_426 (ce_at ce_426 18 rfl) rfl rfl ?_
      refine e_isub 27 em_426 rfl (ce_at ce_426 19 rfl) ?_
      refine e_ivi 30 em_426 (ce_at ce_426 20 rfl) (by omega) (iv_v2 (by decide) tq_121 rfl) em_427 (Nat.le_of_ble_eq_true rfl) rfl (tm_isSymbol w (d - 1) (by omega) _ _ _) (fun r6 s6 => ?_)
      refine e_gd fun g7 => ?_
      refine e_ifne 35 33 em_426 rfl rfl (ce_at ce_426 21 rfl) g7 (fun h8 => ?_) (fun h8 => ?_)
      · refine e_mv 36 em_426 (ce_at ce_426 24 rfl) rfl rfl ?_
        refine e_mv 37 em_426 (ce_at ce_426 25 rfl) rfl rfl ?_
        refine e_op 38 em_426 (ce_at ce_426 26 rfl) rfl rfl ?_
        refine e_iadd 39 em_426 rfl (ce_at ce_426 27 rfl) ?_
        refine e_mv 40 em_426 (ce_at ce_426 28 rfl) rfl rfl ?_
        refine e_op 41 em_426 (ce_at ce_426 29 rfl) rfl rfl ?_
        refine e_isub 42 em_426 rfl (ce_at ce_426 30 rfl) ?_
        refine e_ivi 45 em_426 (ce_at ce_426 31 rfl) (by omega) (iv_v2 (by decide) tq_121 rfl) em_429 (Nat.le_of_ble_eq_true rfl) rfl (tm_knownOf w (d - 1) (by omega) _ _ _) (fun r9 s9 => ?_)
        refine e_op 46 em_426 (ce_at ce_426 32 rfl) rfl rfl ?_
        refine e_gd fun g10 => ?_
        refine e_cmeq 51 49 em_426 rfl rfl (ce_at ce_426 33 rfl) g10 (by decide) (fun h11 => ?_) (fun h11 => ?_)
        · refine e_mv 52 em_426 (ce_at ce_426 36 rfl) rfl rfl ?_
          refine e_mv 53 em_426 (ce_at ce_426 37 rfl) rfl rfl ?_
          refine e_op 54 em_426 (ce_at ce_426 38 rfl) rfl rfl ?_
          refine e_iadd 55 em_426 rfl (ce_at ce_426 39 rfl) ?_
          refine e_mv 56 em_426 (ce_at ce_426 40 rfl) rfl rfl ?_
          refine e_op 57 em_426 (ce_at ce_426 41 rfl) rfl rfl ?_
          refine e_isub 58 em_426 rfl (ce_at ce_426 42 rfl) ?_
          refine e_ivi 61 em_426 (ce_at ce_426 43 rfl) (by omega) (iv_v2 (by decide) tq_121 rfl) em_430 (Nat.le_of_ble_eq_true rfl) rfl (tm_symbolOf w (d - 1) (by omega) _ _ _) (fun r12 s12 => ?_)
          refine e_mv 62 em_426 (ce_at ce_426 44 rfl) rfl rfl ?_
          refine e_mv 63 em_426 (ce_at ce_426 45 rfl) rfl rfl ?_
          refine e_op 64 em_426 (ce_at ce_426 46 rfl) rfl rfl ?_
          refine e_gd fun g13 => ?_
          refine e_cmne 69 67 em_426 rfl rfl (ce_at ce_426 47 rfl) g13 (by decide) (fun h14 => ?_) (fun h14 => ?_)
          · refine e_mv 70 em_426 (ce_at ce_426 50 rfl) rfl rfl ?_
            refine e_getr 73 em_426 (ce_at ce_426 51 rfl) tq_121 rfl rfl ?_
            refine e_mv 74 em_426 (ce_at ce_426 52 rfl) rfl rfl ?_
            refine e_gd fun g15 => ?_
            refine e_ild 75 em_426 (ce_at ce_426 53 rfl) tq_192 (by decide) g15 rfl ?_
            refine e_op 76 em_426 (ce_at ce_426 54 rfl) rfl rfl ?_
            refine e_gd fun g16 => ?_
            refine e_cmeq 81 79 em_426 rfl rfl (ce_at ce_426 55 rfl) g16 (by decide) (fun h17 => ?_) (fun h17 => ?_)
            · refine e_mv 82 em_426 (ce_at ce_426 58 rfl) rfl rfl ?_
              refine e_getr 85 em_426 (ce_at ce_426 59 rfl) tq_121 rfl rfl ?_
              refine e_mv 86 em_426 (ce_at ce_426 60 rfl) rfl rfl ?_
              refine e_mv 87 em_426 (ce_at ce_426 61 rfl) rfl rfl ?_
              refine e_get 90 em_426 (ce_at ce_426 62 rfl) tq_121 rfl rfl ?_
              refine e_ist 91 em_426 (ce_at ce_426 63 rfl) tq_192 (by decide) g15 rfl (fun s18 => ?_)
              refine e_op 92 em_426 (ce_at ce_426 64 rfl) rfl rfl ?_
              exact e_reti em_426 (ce_at ce_426 65 rfl)
            · refine e_op 80 em_426 (ce_at ce_426 56 rfl) rfl rfl ?_
              exact e_reti em_426 (ce_at ce_426 57 rfl)
          · refine e_op 68 em_426 (ce_at ce_426 48 rfl) rfl rfl ?_
            exact e_reti em_426 (ce_at ce_426 49 rfl)
        · refine e_op 50 em_426 (ce_at ce_426 34 rfl) rfl rfl ?_
          exact e_reti em_426 (ce_at ce_426 35 rfl)
      · refine e_op 34 em_426 (ce_at ce_426 22 rfl) rfl rfl ?_
        exact e_reti em_426 (ce_at ce_426 23 rfl)
theorem fm_label (v1 : Int) (v2 : Int) (s : iS) : Fm Prod.snd L_m_label G_m_label s (m_label v1 v2 s) := fm_gd (fm_if (fm_some md_refl) (fm_gd (fm_gd (fm_if (fm_bd (fm_sub (fm_isSymbol _ _ _) (mem_sub_L rfl) (mem_sub_F rfl)) (fun r6 s6 => fm_gd (fm_if (fm_some md_refl) (fm_bd (fm_sub (fm_knownOf _ _ _) (mem_sub_L rfl) (mem_sub_F rfl)) (fun r9 s9 => fm_gd (fm_if (fm_bd (fm_sub (fm_symbolOf _ _ _) (mem_sub_L rfl) (mem_sub_F rfl)) (fun r12 s12 => fm_gd (fm_if (fm_some md_refl) (fm_gd (fm_gd (fm_if (fm_lt (md_upL (mem_L rfl)) (fun s18 => fm_some md_refl)) (fm_some md_refl))))))) (fm_some md_refl))))))) (fm_some md_refl)))))
/-! m_instruction -/
def L_m_instruction : List Nat := [189, 190, 191, 192, 193]
def G_m_instruction : List (Nat × Nat) := [(121, 110), (121, 112)]
noncomputable def m_instruction (v1 : Int) (v2 : Int) (v3 : Int) (s : iS) : Option (Int × iS) := gd (rg v3) (if v3 = 0 then gd (0 ≤ v1 ∧ v1 < 4000) (gd (rg (s 123 v1.toNat)) (if (s 123 v1.toNat) = 40 then bd (m_label v1 v2 s) (fun r9 s9 => some (r9, s9)) else if (s 123 v1.toNat) = 64 then bd (m_address (v1 + 1) (v2 - 1) s) (fun r8 s8 => some (r8, s8)) else bd (m_computes v1 v2 s) (fun r7 s7 => some (r7, s7)))) else some (1, s))
theorem tm_instruction (w : ev_W) (d : Nat) (hd : 5 ≤ d) (v1 : Int) (v2 : Int) (v3 : Int) (s : iS) : Ew hT w d 425 0 [(0, .ref (tb_nK + 121)), (1, iv v1), (2, iv v2), (3, iv v3)] [] s (Ci hT) (m_instruction v1 v2 v3 s) := by
  unfold m_instruction
  refine e_mv 1 em_425 (ce_at ce_425 0 rfl) rfl rfl ?_
  refine e_gd fun g1 => ?_
  refine e_ifeq 6 4 em_425 rfl rfl (ce_at ce_425 1 rfl) g1 (fun h2 => ?_) (fun h2 => ?_)
  · refine e_mv 7 em_425 (ce_at ce_425 4 rfl) rfl rfl ?_
    refine e_getr 10 em_425 (ce_at ce_425 5 rfl) tq_121 rfl rfl ?_
    refine e_mv 11 em_425 (ce_at ce_425 6 rfl) rfl rfl ?_
    refine e_gd fun g3 => ?_
    refine e_ild 12 em_425 (ce_at ce_425 7 rfl) tq_123 (by decide) g3 rfl ?_
    refine e_bip 14 em_425 (ce_at ce_425 8 rfl) (by decide) rfl ?_
    refine e_gd fun g4 => ?_
    refine e_cmne 24 17 em_425 rfl rfl (ce_at ce_425 9 rfl) g4 (by decide) (fun h5 => ?_) (fun h5 => ?_)
    · refine e_mv 25 em_425 (ce_at ce_425 15 rfl) rfl rfl ?_
      refine e_getr 28 em_425 (ce_at ce_425 16 rfl) tq_121 rfl rfl ?_
      refine e_mv 29 em_425 (ce_at ce_425 17 rfl) rfl rfl ?_
      refine e_ild 30 em_425 (ce_at ce_425 18 rfl) tq_123 (by decide) g3 rfl ?_
      refine e_bip 32 em_425 (ce_at ce_425 19 rfl) (by decide) rfl ?_
      refine e_cmne 48 35 em_425 rfl rfl (ce_at ce_425 20 rfl) g4 (by decide) (fun h6 => ?_) (fun h6 => ?_)
      · refine e_mv 49 em_425 (ce_at ce_425 30 rfl) rfl rfl ?_
        refine e_mv 50 em_425 (ce_at ce_425 31 rfl) rfl rfl ?_
        refine e_mv 51 em_425 (ce_at ce_425 32 rfl) rfl rfl ?_
        refine e_ivi 54 em_425 (ce_at ce_425 33 rfl) (by omega) (iv_v2 (by decide) tq_121 rfl) em_432 (Nat.le_of_ble_eq_true rfl) rfl (tm_computes w (d - 1) (by omega) _ _ _) (fun r7 s7 => ?_)
        exact e_reti em_425 (ce_at ce_425 34 rfl)
      · refine e_mv 36 em_425 (ce_at ce_425 21 rfl) rfl rfl ?_
        refine e_mv 37 em_425 (ce_at ce_425 22 rfl) rfl rfl ?_
        refine e_op 38 em_425 (ce_at ce_425 23 rfl) rfl rfl ?_
        refine e_iadd 39 em_425 rfl (ce_at ce_425 24 rfl) ?_
        refine e_mv 40 em_425 (ce_at ce_425 25 rfl) rfl rfl ?_
        refine e_op 41 em_425 (ce_at ce_425 26 rfl) rfl rfl ?_
        refine e_isub 42 em_425 rfl (ce_at ce_425 27 rfl) ?_
        refine e_ivi 45 em_425 (ce_at ce_425 28 rfl) (by omega) (iv_v2 (by decide) tq_121 rfl) em_431 (Nat.le_of_ble_eq_true rfl) rfl (tm_address w (d - 1) (by omega) _ _ _) (fun r8 s8 => ?_)
        refine e_goto em_425 54 (ce_at ce_425 29 rfl) rfl ?_
        exact e_reti em_425 (ce_at ce_425 34 rfl)
    · refine e_mv 18 em_425 (ce_at ce_425 10 rfl) rfl rfl ?_
      refine e_mv 19 em_425 (ce_at ce_425 11 rfl) rfl rfl ?_
      refine e_mv 20 em_425 (ce_at ce_425 12 rfl) rfl rfl ?_
      refine e_ivi 23 em_425 (ce_at ce_425 13 rfl) (by omega) (iv_v2 (by decide) tq_121 rfl) em_426 (Nat.le_of_ble_eq_true rfl) rfl (tm_label w (d - 1) (by omega) _ _ _) (fun r9 s9 => ?_)
      exact e_reti em_425 (ce_at ce_425 14 rfl)
  · refine e_op 5 em_425 (ce_at ce_425 2 rfl) rfl rfl ?_
    exact e_reti em_425 (ce_at ce_425 3 rfl)
theorem fm_instruction (v1 : Int) (v2 : Int) (v3 : Int) (s : iS) : Fm Prod.snd L_m_instruction G_m_instruction s (m_instruction v1 v2 v3 s) := fm_gd (fm_if (fm_gd (fm_gd (fm_if (fm_bd (fm_sub (fm_label _ _ _) (mem_sub_L rfl) (mem_sub_F rfl)) (fun r9 s9 => fm_some md_refl)) (fm_if (fm_bd (fm_sub (fm_address _ _ _) (mem_sub_L rfl) (mem_sub_F rfl)) (fun r8 s8 => fm_some md_refl)) (fm_bd (fm_sub (fm_computes _ _ _) (mem_sub_L rfl) (mem_sub_F rfl)) (fun r7 s7 => fm_some md_refl)))))) (fm_some md_refl))
/-! m_signs -/
def L_m_signs : List Nat := [123, 189, 190, 191, 192, 193, 194]
def G_m_signs : List (Nat × Nat) := [(121, 1), (121, 3), (121, 4), (121, 110), (121, 112), (121, 118), (121, 119), (121, 120), (121, 121)]
def m_signs_73C (w : ev_W) (d : Nat) (v2 : Int) (v3 : Int) : (Int × iS) ⊕ (Int × iS) → am_E → Prop := fun q r => q.elim (fun l => ev w d 422 73 ((fun l => [(0, .ref (tb_nK + 121)), (2, iv v2), (3, iv v3), (5, iv (l.1))]) l) [] (hT ((fun l => l.2) l)) r) (fun e => (fun e r => ev w d 422 141 [(0, .ref (tb_nK + 121)), (2, iv v2), (3, iv v3), (5, iv (e.1))] [] (hT (e.2)) r) e r)
noncomputable def m_signs_73b (v2 : Int) (v3 : Int) (v5 : Int) (s : iS) : Option ((Int × iS) ⊕ (Int × iS)) := gd (rg v5) (gd (rg (s 121 3)) (if (s 121 3) ≤ v5 then some (.inr (v5, s)) else gd (0 ≤ v5 ∧ v5 < 4000) (gd (rg (s 123 v5.toNat)) (if (s 123 v5.toNat) = 10 then some (.inr (v5, s)) else bd (m_isBlank (s 123 v5.toNat) s) (fun r7 s7 => gd (rg r7) (if r7 = 0 then gd (rg (s7 123 v5.toNat)) (if (s7 123 v5.toNat) = 47 then bd (m_at (v5 + 1) s7) (fun r12 s12 => gd (rg r12) (if r12 = 47 then some (.inr (v5, s12)) else some (.inl ((v5 + 1), s12)))) else some (.inl ((v5 + 1), s7))) else some (.inr (v5, s7))))))))
theorem tm_signs_73b (w : ev_W) (d : Nat) (hd : 6 ≤ d) (v2 : Int) (v3 : Int) (v5 : Int) (s : iS) : Ew hT w d 422 73 [(0, .ref (tb_nK + 121)), (2, iv v2), (3, iv v3), (5, iv v5)] [] s (m_signs_73C w d v2 v3) (m_signs_73b v2 v3 v5 s) := by
  unfold m_signs_73b
  refine e_mv 75 em_422 (ce_at ce_422 42 rfl) rfl rfl ?_
  refine e_mv 76 em_422 (ce_at ce_422 43 rfl) rfl rfl ?_
  refine e_get 79 em_422 (ce_at ce_422 44 rfl) tq_121 rfl rfl ?_
  refine e_gd fun g1 => ?_
  refine e_gd fun g2 => ?_
  refine e_cmge 141 82 em_422 rfl rfl (ce_at ce_422 45 rfl) g1 g2 (fun h3 => ?_) (fun h3 => ?_)
  · refine e_pk [0, 2, 3, 5] rfl rfl ?_
    exact e_out (fun r h => h)
  · refine e_mv 83 em_422 (ce_at ce_422 46 rfl) rfl rfl ?_
    refine e_getr 86 em_422 (ce_at ce_422 47 rfl) tq_121 rfl rfl ?_
    refine e_mv 88 em_422 (ce_at ce_422 48 rfl) rfl rfl ?_
    refine e_gd fun g4 => ?_
    refine e_ild 89 em_422 (ce_at ce_422 49 rfl) tq_123 (by decide) g4 rfl ?_
    refine e_bip 91 em_422 (ce_at ce_422 50 rfl) (by decide) rfl ?_
    refine e_gd fun g5 => ?_
    refine e_cmeq 141 94 em_422 rfl rfl (ce_at ce_422 51 rfl) g5 (by decide) (fun h6 => ?_) (fun h6 => ?_)
    · refine e_pk [0, 2, 3, 5] rfl rfl ?_
      exact e_out (fun r h => h)
    · refine e_mv 95 em_422 (ce_at ce_422 52 rfl) rfl rfl ?_
      refine e_getr 98 em_422 (ce_at ce_422 53 rfl) tq_121 rfl rfl ?_
      refine e_mv 100 em_422 (ce_at ce_422 54 rfl) rfl rfl ?_
      refine e_ild 101 em_422 (ce_at ce_422 55 rfl) tq_123 (by decide) g4 rfl ?_
      refine e_ivi 104 em_422 (ce_at ce_422 56 rfl) (by omega) (iv_s1 rfl) em_424 (Nat.le_of_ble_eq_true rfl) rfl (tm_isBlank hT w (d - 1) (by omega) _ _) (fun r7 s7 => ?_)
      refine e_gd fun g8 => ?_
      refine e_ifne 141 107 em_422 rfl rfl (ce_at ce_422 57 rfl) g8 (fun h9 => ?_) (fun h9 => ?_)
      · refine e_pk [0, 2, 3, 5] rfl rfl ?_
        exact e_out (fun r h => h)
      · refine e_mv 108 em_422 (ce_at ce_422 58 rfl) rfl rfl ?_
        refine e_getr 111 em_422 (ce_at ce_422 59 rfl) tq_121 rfl rfl ?_
        refine e_mv 113 em_422 (ce_at ce_422 60 rfl) rfl rfl ?_
        refine e_ild 114 em_422 (ce_at ce_422 61 rfl) tq_123 (by decide) g4 rfl ?_
        refine e_bip 116 em_422 (ce_at ce_422 62 rfl) (by decide) rfl ?_
        refine e_gd fun g10 => ?_
        refine e_cmne 132 119 em_422 rfl rfl (ce_at ce_422 63 rfl) g10 (by decide) (fun h11 => ?_) (fun h11 => ?_)
        · refine e_mv 134 em_422 (ce_at ce_422 71 rfl) rfl rfl ?_
          refine e_op 135 em_422 (ce_at ce_422 72 rfl) rfl rfl ?_
          refine e_iadd 136 em_422 rfl (ce_at ce_422 73 rfl) ?_
          refine e_mv 138 em_422 (ce_at ce_422 74 rfl) rfl rfl ?_
          refine e_goto em_422 73 (ce_at ce_422 75 rfl) rfl ?_
          refine e_pk [0, 2, 3, 5] rfl rfl ?_
          exact e_out (fun r h => h)
        · refine e_mv 120 em_422 (ce_at ce_422 64 rfl) rfl rfl ?_
          refine e_mv 122 em_422 (ce_at ce_422 65 rfl) rfl rfl ?_
          refine e_op 123 em_422 (ce_at ce_422 66 rfl) rfl rfl ?_
          refine e_iadd 124 em_422 rfl (ce_at ce_422 67 rfl) ?_
          refine e_ivi 127 em_422 (ce_at ce_422 68 rfl) (by omega) (iv_v1 (by decide) tq_121 rfl) em_302 (Nat.le_of_ble_eq_true rfl) rfl (tm_at w (d - 1) (by omega) _ _) (fun r12 s12 => ?_)
          refine e_bip 129 em_422 (ce_at ce_422 69 rfl) (by decide) rfl ?_
          refine e_gd fun g13 => ?_
          refine e_cmeq 141 132 em_422 rfl rfl (ce_at ce_422 70 rfl) g13 (by decide) (fun h14 => ?_) (fun h14 => ?_)
          · refine e_pk [0, 2, 3, 5] rfl rfl ?_
            exact e_out (fun r h => h)
          · refine e_mv 134 em_422 (ce_at ce_422 71 rfl) rfl rfl ?_
            refine e_op 135 em_422 (ce_at ce_422 72 rfl) rfl rfl ?_
            refine e_iadd 136 em_422 rfl (ce_at ce_422 73 rfl) ?_
            refine e_mv 138 em_422 (ce_at ce_422 74 rfl) rfl rfl ?_
            refine e_goto em_422 73 (ce_at ce_422 75 rfl) rfl ?_
            refine e_pk [0, 2, 3, 5] rfl rfl ?_
            exact e_out (fun r h => h)
theorem fm_signs_73b (v2 : Int) (v3 : Int) (v5 : Int) (s : iS) : Fm (fun r : (Int × iS) ⊕ (Int × iS) => r.elim (fun l => l.2) (fun e => e.2)) L_m_signs G_m_signs s (m_signs_73b v2 v3 v5 s) := fm_gd (fm_gd (fm_if (fm_some md_refl) (fm_gd (fm_gd (fm_if (fm_some md_refl) (fm_bd (fm_sub (fm_isBlank _ _) (mem_sub_L rfl) (mem_sub_F rfl)) (fun r7 s7 => fm_gd (fm_if (fm_gd (fm_if (fm_bd (fm_sub (fm_at _ _) (mem_sub_L rfl) (mem_sub_F rfl)) (fun r12 s12 => fm_gd (fm_if (fm_some md_refl) (fm_some md_refl)))) (fm_some md_refl))) (fm_some md_refl)))))))))
def m_signs_147C (w : ev_W) (d : Nat) (v2 : Int) : (Int × iS) ⊕ (Int × iS) → am_E → Prop := fun q r => q.elim (fun l => ev w d 422 147 ((fun l => [(0, .ref (tb_nK + 121)), (2, iv v2), (3, iv (l.1))]) l) [] (hT ((fun l => l.2) l)) r) (fun e => (fun e r => ev w d 422 23 [(0, .ref (tb_nK + 121)), (2, iv v2), (3, iv (e.1))] [] (hT (e.2)) r) e r)
noncomputable def m_signs_147b (v2 : Int) (v3 : Int) (s : iS) : Option ((Int × iS) ⊕ (Int × iS)) := gd (rg v3) (gd (rg (s 121 3)) (if (s 121 3) ≤ v3 then some (.inr (v3, s)) else gd (0 ≤ v3 ∧ v3 < 4000) (gd (rg (s 123 v3.toNat)) (if (s 123 v3.toNat) = 10 then some (.inr (v3, s)) else some (.inl ((v3 + 1), s))))))
theorem tm_signs_147b (w : ev_W) (d : Nat) (hd : 6 ≤ d) (v2 : Int) (v3 : Int) (s : iS) : Ew hT w d 422 147 [(0, .ref (tb_nK + 121)), (2, iv v2), (3, iv v3)] [] s (m_signs_147C w d v2) (m_signs_147b v2 v3 s) := by
  unfold m_signs_147b
  refine e_mv 148 em_422 (ce_at ce_422 79 rfl) rfl rfl ?_
  refine e_mv 149 em_422 (ce_at ce_422 80 rfl) rfl rfl ?_
  refine e_get 152 em_422 (ce_at ce_422 81 rfl) tq_121 rfl rfl ?_
  refine e_gd fun g1 => ?_
  refine e_gd fun g2 => ?_
  refine e_cmge 23 155 em_422 rfl rfl (ce_at ce_422 82 rfl) g1 g2 (fun h3 => ?_) (fun h3 => ?_)
  · refine e_pk [0, 2, 3] rfl rfl ?_
    exact e_out (fun r h => h)
  · refine e_mv 156 em_422 (ce_at ce_422 83 rfl) rfl rfl ?_
    refine e_getr 159 em_422 (ce_at ce_422 84 rfl) tq_121 rfl rfl ?_
    refine e_mv 160 em_422 (ce_at ce_422 85 rfl) rfl rfl ?_
    refine e_gd fun g4 => ?_
    refine e_ild 161 em_422 (ce_at ce_422 86 rfl) tq_123 (by decide) g4 rfl ?_
    refine e_bip 163 em_422 (ce_at ce_422 87 rfl) (by decide) rfl ?_
    refine e_gd fun g5 => ?_
    refine e_cmeq 23 166 em_422 rfl rfl (ce_at ce_422 88 rfl) g5 (by decide) (fun h6 => ?_) (fun h6 => ?_)
    · refine e_pk [0, 2, 3] rfl rfl ?_
      exact e_out (fun r h => h)
    · refine e_mv 167 em_422 (ce_at ce_422 89 rfl) rfl rfl ?_
      refine e_op 168 em_422 (ce_at ce_422 90 rfl) rfl rfl ?_
      refine e_iadd 169 em_422 rfl (ce_at ce_422 91 rfl) ?_
      refine e_mv 170 em_422 (ce_at ce_422 92 rfl) rfl rfl ?_
      refine e_goto em_422 147 (ce_at ce_422 93 rfl) rfl ?_
      refine e_pk [0, 2, 3] rfl rfl ?_
      exact e_out (fun r h => h)
theorem fm_signs_147b (v2 : Int) (v3 : Int) (s : iS) : Fm (fun r : (Int × iS) ⊕ (Int × iS) => r.elim (fun l => l.2) (fun e => e.2)) L_m_signs G_m_signs s (m_signs_147b v2 v3 s) := fm_gd (fm_gd (fm_if (fm_some md_refl) (fm_gd (fm_gd (fm_if (fm_some md_refl) (fm_some md_refl))))))
def m_signs_23C (w : ev_W) (d : Nat) : (Int × Int × iS) ⊕ ((Int × Int × iS) ⊕ (iS)) → am_E → Prop := fun q r => q.elim (fun l => ev w d 422 23 ((fun l => [(0, .ref (tb_nK + 121)), (2, iv (l.1)), (3, iv (l.2.1))]) l) [] (hT ((fun l => l.2.2) l)) r) (fun e => (fun e r => e.elim (fun e => ev w d 422 190 [(0, .ref (tb_nK + 121)), (3, iv (e.1)), (6, iv (e.2.1))] [] (hT (e.2.2)) r) (fun e => ev w d 422 216 [(0, .ref (tb_nK + 121))] [] (hT (e)) r)) e r)
noncomputable def m_signs_147 (v2 : Int) (v3 : Int) (s : iS) : Option ((Int × Int × iS) ⊕ ((Int × Int × iS) ⊕ (iS))) := (lp (L := Int × iS) (E := Int × iS) (fun l => m_signs_147b v2 (l.1) (l.2)) (v3, s)).bind (fun e => some (.inl (v2, e.1, e.2)))
theorem tm_signs_147 (w : ev_W) (d : Nat) (hd : 6 ≤ d) (v2 : Int) (v3 : Int) (s : iS) : Ew hT w d 422 147 [(0, .ref (tb_nK + 121)), (2, iv v2), (3, iv v3)] [] s (m_signs_23C w d) (m_signs_147 v2 v3 s) := by
  unfold m_signs_147
  refine e_lp (LO := fun l => [(0, .ref (tb_nK + 121)), (2, iv v2), (3, iv (l.1))]) (LS := fun l => l.2) (CE := fun e r => ev w d 422 23 [(0, .ref (tb_nK + 121)), (2, iv v2), (3, iv (e.1))] [] (hT (e.2)) r) (fun l => tm_signs_147b w d hd _ _ _) ?_ (v3, s)
  intro e
  show Ew hT w d 422 23 [(0, .ref (tb_nK + 121)), (2, iv v2), (3, iv (e.1))] [] e.2 (m_signs_23C w d) _
  refine e_pk [0, 2, 3] rfl rfl ?_
  exact e_out (fun r h => h)
theorem fm_signs_147 (v2 : Int) (v3 : Int) (s : iS) : Fm (fun r : (Int × Int × iS) ⊕ ((Int × Int × iS) ⊕ (iS)) => r.elim (fun l => l.2.2) (fun e => e.elim (fun e => e.2.2) (fun e => e))) L_m_signs G_m_signs s (m_signs_147 v2 v3 s) := fm_lp (LS := fun l => l.2) (LE := fun e => e.2) (fun l => fm_signs_147b _ _ _) (fun e => fm_some md_refl) (v3, s)
noncomputable def m_signs_141 (v2 : Int) (v3 : Int) (v5 : Int) (s : iS) : Option ((Int × Int × iS) ⊕ ((Int × Int × iS) ⊕ (iS))) := gd (rg v5) (gd (rg v3) (if v5 = v3 then m_signs_147 v2 v3 s else bd (m_instruction v3 (v5 - v3) v2 s) (fun r4 s4 => gd (rg r4) (if r4 ≤ 0 then some (.inl (1, v5, s4)) else some (.inr (.inl (v3, r4, s4)))))))
theorem tm_signs_141 (w : ev_W) (d : Nat) (hd : 6 ≤ d) (v2 : Int) (v3 : Int) (v5 : Int) (s : iS) : Ew hT w d 422 141 [(0, .ref (tb_nK + 121)), (2, iv v2), (3, iv v3), (5, iv v5)] [] s (m_signs_23C w d) (m_signs_141 v2 v3 v5 s) := by
  unfold m_signs_141
  refine e_mv 143 em_422 (ce_at ce_422 76 rfl) rfl rfl ?_
  refine e_mv 144 em_422 (ce_at ce_422 77 rfl) rfl rfl ?_
  refine e_gd fun g1 => ?_
  refine e_gd fun g2 => ?_
  refine e_cmne 173 147 em_422 rfl rfl (ce_at ce_422 78 rfl) g1 g2 (fun h3 => ?_) (fun h3 => ?_)
  · refine e_mv 174 em_422 (ce_at ce_422 94 rfl) rfl rfl ?_
    refine e_mv 175 em_422 (ce_at ce_422 95 rfl) rfl rfl ?_
    refine e_mv 177 em_422 (ce_at ce_422 96 rfl) rfl rfl ?_
    refine e_mv 178 em_422 (ce_at ce_422 97 rfl) rfl rfl ?_
    refine e_isub 179 em_422 rfl (ce_at ce_422 98 rfl) ?_
    refine e_mv 180 em_422 (ce_at ce_422 99 rfl) rfl rfl ?_
    refine e_ivi 183 em_422 (ce_at ce_422 100 rfl) (by omega) (iv_v3 (by decide) tq_121 rfl) em_425 (Nat.le_of_ble_eq_true rfl) rfl (tm_instruction w (d - 1) (by omega) _ _ _ _) (fun r4 s4 => ?_)
    refine e_mv 185 em_422 (ce_at ce_422 101 rfl) rfl rfl ?_
    refine e_mv 187 em_422 (ce_at ce_422 102 rfl) rfl rfl ?_
    refine e_gd fun g5 => ?_
    refine e_ifle 208 190 em_422 rfl rfl (ce_at ce_422 103 rfl) g5 (fun h6 => ?_) (fun h6 => ?_)
    · refine e_op 209 em_422 (ce_at ce_422 115 rfl) rfl rfl ?_
      refine e_mv 210 em_422 (ce_at ce_422 116 rfl) rfl rfl ?_
      refine e_mv 212 em_422 (ce_at ce_422 117 rfl) rfl rfl ?_
      refine e_mv 213 em_422 (ce_at ce_422 118 rfl) rfl rfl ?_
      refine e_goto em_422 23 (ce_at ce_422 119 rfl) rfl ?_
      refine e_pk [0, 2, 3] rfl rfl ?_
      exact e_out (fun r h => h)
    · refine e_pk [0, 3, 6] rfl rfl ?_
      exact e_out (fun r h => h)
  · refine e_pk [0, 2, 3] rfl rfl ?_
    exact tm_signs_147 w d hd _ _ _
theorem fm_signs_141 (v2 : Int) (v3 : Int) (v5 : Int) (s : iS) : Fm (fun r : (Int × Int × iS) ⊕ ((Int × Int × iS) ⊕ (iS)) => r.elim (fun l => l.2.2) (fun e => e.elim (fun e => e.2.2) (fun e => e))) L_m_signs G_m_signs s (m_signs_141 v2 v3 v5 s) := fm_gd (fm_gd (fm_if (fm_signs_147 _ _ _) (fm_bd (fm_sub (fm_instruction _ _ _ _) (mem_sub_L rfl) (mem_sub_F rfl)) (fun r4 s4 => fm_gd (fm_if (fm_some md_refl) (fm_some md_refl))))))
noncomputable def m_signs_73 (v2 : Int) (v3 : Int) (v5 : Int) (s : iS) : Option ((Int × Int × iS) ⊕ ((Int × Int × iS) ⊕ (iS))) := (lp (L := Int × iS) (E := Int × iS) (fun l => m_signs_73b v2 v3 (l.1) (l.2)) (v5, s)).bind (fun e => m_signs_141 v2 v3 (e.1) (e.2))
theorem tm_signs_73 (w : ev_W) (d : Nat) (hd : 6 ≤ d) (v2 : Int) (v3 : Int) (v5 : Int) (s : iS) : Ew hT w d 422 73 [(0, .ref (tb_nK + 121)), (2, iv v2), (3, iv v3), (5, iv v5)] [] s (m_signs_23C w d) (m_signs_73 v2 v3 v5 s) := by
  unfold m_signs_73
  refine e_lp (LO := fun l => [(0, .ref (tb_nK + 121)), (2, iv v2), (3, iv v3), (5, iv (l.1))]) (LS := fun l => l.2) (CE := fun e r => ev w d 422 141 [(0, .ref (tb_nK + 121)), (2, iv v2), (3, iv v3), (5, iv (e.1))] [] (hT (e.2)) r) (fun l => tm_signs_73b w d hd _ _ _ _) ?_ (v5, s)
  intro e
  show Ew hT w d 422 141 [(0, .ref (tb_nK + 121)), (2, iv v2), (3, iv v3), (5, iv (e.1))] [] e.2 (m_signs_23C w d) _
  refine e_pk [0, 2, 3, 5] rfl rfl ?_
  exact tm_signs_141 w d hd _ _ _ _
theorem fm_signs_73 (v2 : Int) (v3 : Int) (v5 : Int) (s : iS) : Fm (fun r : (Int × Int × iS) ⊕ ((Int × Int × iS) ⊕ (iS)) => r.elim (fun l => l.2.2) (fun e => e.elim (fun e => e.2.2) (fun e => e))) L_m_signs G_m_signs s (m_signs_73 v2 v3 v5 s) := fm_lp (LS := fun l => l.2) (LE := fun e => e.2) (fun l => fm_signs_73b _ _ _ _) (fun e => fm_signs_141 _ _ _ _) (v5, s)
noncomputable def m_signs_48 (v2 : Int) (v3 : Int) (v4 : Int) (s : iS) : Option ((Int × Int × iS) ⊕ ((Int × Int × iS) ⊕ (iS))) := gd (rg v4) (if v4 = 10 then some (.inl (v2, (v3 + 1), s)) else bd (m_isBlank v4 s) (fun r3 s3 => gd (rg r3) (if r3 = 0 then m_signs_73 v2 v3 v3 s3 else some (.inl (v2, (v3 + 1), s3)))))
theorem tm_signs_48 (w : ev_W) (d : Nat) (hd : 6 ≤ d) (v2 : Int) (v3 : Int) (v4 : Int) (s : iS) : Ew hT w d 422 48 [(0, .ref (tb_nK + 121)), (2, iv v2), (3, iv v3), (4, iv v4)] [] s (m_signs_23C w d) (m_signs_48 v2 v3 v4 s) := by
  unfold m_signs_48
  refine e_mv 50 em_422 (ce_at ce_422 29 rfl) rfl rfl ?_
  refine e_bip 52 em_422 (ce_at ce_422 30 rfl) (by decide) rfl ?_
  refine e_gd fun g1 => ?_
  refine e_cmeq 63 55 em_422 rfl rfl (ce_at ce_422 31 rfl) g1 (by decide) (fun h2 => ?_) (fun h2 => ?_)
  · refine e_mv 64 em_422 (ce_at ce_422 35 rfl) rfl rfl ?_
    refine e_op 65 em_422 (ce_at ce_422 36 rfl) rfl rfl ?_
    refine e_iadd 66 em_422 rfl (ce_at ce_422 37 rfl) ?_
    refine e_mv 67 em_422 (ce_at ce_422 38 rfl) rfl rfl ?_
    refine e_goto em_422 23 (ce_at ce_422 39 rfl) rfl ?_
    refine e_pk [0, 2, 3] rfl rfl ?_
    exact e_out (fun r h => h)
  · refine e_mv 57 em_422 (ce_at ce_422 32 rfl) rfl rfl ?_
    refine e_ivi 60 em_422 (ce_at ce_422 33 rfl) (by omega) (iv_s1 rfl) em_424 (Nat.le_of_ble_eq_true rfl) rfl (tm_isBlank hT w (d - 1) (by omega) _ _) (fun r3 s3 => ?_)
    refine e_gd fun g4 => ?_
    refine e_ifeq 70 63 em_422 rfl rfl (ce_at ce_422 34 rfl) g4 (fun h5 => ?_) (fun h5 => ?_)
    · refine e_mv 71 em_422 (ce_at ce_422 40 rfl) rfl rfl ?_
      refine e_mv 73 em_422 (ce_at ce_422 41 rfl) rfl rfl ?_
      refine e_pk [0, 2, 3, 5] rfl rfl ?_
      exact tm_signs_73 w d hd _ _ _ _
    · refine e_mv 64 em_422 (ce_at ce_422 35 rfl) rfl rfl ?_
      refine e_op 65 em_422 (ce_at ce_422 36 rfl) rfl rfl ?_
      refine e_iadd 66 em_422 rfl (ce_at ce_422 37 rfl) ?_
      refine e_mv 67 em_422 (ce_at ce_422 38 rfl) rfl rfl ?_
      refine e_goto em_422 23 (ce_at ce_422 39 rfl) rfl ?_
      refine e_pk [0, 2, 3] rfl rfl ?_
      exact e_out (fun r h => h)
theorem fm_signs_48 (v2 : Int) (v3 : Int) (v4 : Int) (s : iS) : Fm (fun r : (Int × Int × iS) ⊕ ((Int × Int × iS) ⊕ (iS)) => r.elim (fun l => l.2.2) (fun e => e.elim (fun e => e.2.2) (fun e => e))) L_m_signs G_m_signs s (m_signs_48 v2 v3 v4 s) := fm_gd (fm_if (fm_some md_refl) (fm_bd (fm_sub (fm_isBlank _ _) (mem_sub_L rfl) (mem_sub_F rfl)) (fun r3 s3 => fm_gd (fm_if (fm_signs_73 _ _ _ _) (fm_some md_refl)))))
noncomputable def m_signs_23b (v2 : Int) (v3 : Int) (s : iS) : Option ((Int × Int × iS) ⊕ ((Int × Int × iS) ⊕ (iS))) := gd (rg v3) (gd (rg (s 121 3)) (if (s 121 3) ≤ v3 then some (.inr (.inr s)) else gd (0 ≤ v3 ∧ v3 < 4000) (gd (rg (s 123 v3.toNat)) (if (s 123 v3.toNat) = 10 then m_signs_48 0 v3 (s 123 v3.toNat) s else m_signs_48 v2 v3 (s 123 v3.toNat) s))))
theorem tm_signs_23b (w : ev_W) (d : Nat) (hd : 6 ≤ d) (v2 : Int) (v3 : Int) (s : iS) : Ew hT w d 422 23 [(0, .ref (tb_nK + 121)), (2, iv v2), (3, iv v3)] [] s (m_signs_23C w d) (m_signs_23b v2 v3 s) := by
  unfold m_signs_23b
  refine e_mv 24 em_422 (ce_at ce_422 15 rfl) rfl rfl ?_
  refine e_mv 25 em_422 (ce_at ce_422 16 rfl) rfl rfl ?_
  refine e_get 28 em_422 (ce_at ce_422 17 rfl) tq_121 rfl rfl ?_
  refine e_gd fun g1 => ?_
  refine e_gd fun g2 => ?_
  refine e_cmge 216 31 em_422 rfl rfl (ce_at ce_422 18 rfl) g1 g2 (fun h3 => ?_) (fun h3 => ?_)
  · refine e_pk [0] rfl rfl ?_
    exact e_out (fun r h => h)
  · refine e_mv 32 em_422 (ce_at ce_422 19 rfl) rfl rfl ?_
    refine e_getr 35 em_422 (ce_at ce_422 20 rfl) tq_121 rfl rfl ?_
    refine e_mv 36 em_422 (ce_at ce_422 21 rfl) rfl rfl ?_
    refine e_gd fun g4 => ?_
    refine e_ild 37 em_422 (ce_at ce_422 22 rfl) tq_123 (by decide) g4 rfl ?_
    refine e_mv 39 em_422 (ce_at ce_422 23 rfl) rfl rfl ?_
    refine e_mv 41 em_422 (ce_at ce_422 24 rfl) rfl rfl ?_
    refine e_bip 43 em_422 (ce_at ce_422 25 rfl) (by decide) rfl ?_
    refine e_gd fun g5 => ?_
    refine e_cmne 48 46 em_422 rfl rfl (ce_at ce_422 26 rfl) g5 (by decide) (fun h6 => ?_) (fun h6 => ?_)
    · refine e_pk [0, 2, 3, 4] rfl rfl ?_
      exact tm_signs_48 w d hd _ _ _ _
    · refine e_op 47 em_422 (ce_at ce_422 27 rfl) rfl rfl ?_
      refine e_mv 48 em_422 (ce_at ce_422 28 rfl) rfl rfl ?_
      refine e_pk [0, 2, 3, 4] rfl rfl ?_
      exact tm_signs_48 w d hd _ _ _ _
theorem fm_signs_23b (v2 : Int) (v3 : Int) (s : iS) : Fm (fun r : (Int × Int × iS) ⊕ ((Int × Int × iS) ⊕ (iS)) => r.elim (fun l => l.2.2) (fun e => e.elim (fun e => e.2.2) (fun e => e))) L_m_signs G_m_signs s (m_signs_23b v2 v3 s) := fm_gd (fm_gd (fm_if (fm_some md_refl) (fm_gd (fm_gd (fm_if (fm_signs_48 _ _ _ _) (fm_signs_48 _ _ _ _))))))
noncomputable def m_signs_190 (v3 : Int) (v6 : Int) (s : iS) : Option (Int × iS) := lt' (up s 121 4 v3) (fun s1 => lt' (up s1 121 110 0) (fun s2 => lt' (up s2 121 112 0) (fun s3 => some (v6, s3))))
theorem tm_signs_190 (w : ev_W) (d : Nat) (hd : 6 ≤ d) (v3 : Int) (v6 : Int) (s : iS) : Ew hT w d 422 190 [(0, .ref (tb_nK + 121)), (3, iv v3), (6, iv v6)] [] s (Ci hT) (m_signs_190 v3 v6 s) := by
  unfold m_signs_190
  refine e_mv 191 em_422 (ce_at ce_422 104 rfl) rfl rfl ?_
  refine e_mv 192 em_422 (ce_at ce_422 105 rfl) rfl rfl ?_
  refine e_put 195 em_422 (ce_at ce_422 106 rfl) tq_121 rfl rfl rfl (fun s1 => ?_)
  refine e_mv 196 em_422 (ce_at ce_422 107 rfl) rfl rfl ?_
  refine e_op 197 em_422 (ce_at ce_422 108 rfl) rfl rfl ?_
  refine e_put 200 em_422 (ce_at ce_422 109 rfl) tq_121 rfl rfl rfl (fun s2 => ?_)
  refine e_mv 201 em_422 (ce_at ce_422 110 rfl) rfl rfl ?_
  refine e_op 202 em_422 (ce_at ce_422 111 rfl) rfl rfl ?_
  refine e_put 205 em_422 (ce_at ce_422 112 rfl) tq_121 rfl rfl rfl (fun s3 => ?_)
  refine e_mv 207 em_422 (ce_at ce_422 113 rfl) rfl rfl ?_
  exact e_reti em_422 (ce_at ce_422 114 rfl)
theorem fm_signs_190 (v3 : Int) (v6 : Int) (s : iS) : Fm Prod.snd L_m_signs G_m_signs s (m_signs_190 v3 v6 s) := fm_lt (md_upF (mem_F rfl)) (fun s1 => fm_lt (md_upF (mem_F rfl)) (fun s2 => fm_lt (md_upF (mem_F rfl)) (fun s3 => fm_some md_refl)))
def m_signs_223C (w : ev_W) (d : Nat) : (Int × Int × iS) ⊕ (iS) → am_E → Prop := fun q r => q.elim (fun l => ev w d 422 223 ((fun l => [(0, .ref (tb_nK + 121)), (4, iv (l.1)), (5, iv (l.2.1))]) l) [] (hT ((fun l => l.2.2) l)) r) (fun e => (fun e r => ev w d 422 267 [(0, .ref (tb_nK + 121))] [] (hT (e)) r) e r)
noncomputable def m_signs_223b (v4 : Int) (v5 : Int) (s : iS) : Option ((Int × Int × iS) ⊕ (iS)) := gd (rg v5) (gd (rg (s 121 112)) (if (s 121 112) ≤ v5 then some (.inr s) else gd (0 ≤ v5 ∧ v5 < 100) (gd (rg (s 192 v5.toNat)) (if (s 192 v5.toNat) = (-1) then lt' (up s 192 v5.toNat v4) (fun s7 => some (.inl ((v4 + 1), (v5 + 1), s7))) else some (.inl (v4, (v5 + 1), s))))))
theorem tm_signs_223b (w : ev_W) (d : Nat) (hd : 6 ≤ d) (v4 : Int) (v5 : Int) (s : iS) : Ew hT w d 422 223 [(0, .ref (tb_nK + 121)), (4, iv v4), (5, iv v5)] [] s (m_signs_223C w d) (m_signs_223b v4 v5 s) := by
  unfold m_signs_223b
  refine e_mv 225 em_422 (ce_at ce_422 124 rfl) rfl rfl ?_
  refine e_mv 226 em_422 (ce_at ce_422 125 rfl) rfl rfl ?_
  refine e_get 229 em_422 (ce_at ce_422 126 rfl) tq_121 rfl rfl ?_
  refine e_gd fun g1 => ?_
  refine e_gd fun g2 => ?_
  refine e_cmge 267 232 em_422 rfl rfl (ce_at ce_422 127 rfl) g1 g2 (fun h3 => ?_) (fun h3 => ?_)
  · refine e_pk [0] rfl rfl ?_
    exact e_out (fun r h => h)
  · refine e_mv 233 em_422 (ce_at ce_422 128 rfl) rfl rfl ?_
    refine e_getr 236 em_422 (ce_at ce_422 129 rfl) tq_121 rfl rfl ?_
    refine e_mv 238 em_422 (ce_at ce_422 130 rfl) rfl rfl ?_
    refine e_gd fun g4 => ?_
    refine e_ild 239 em_422 (ce_at ce_422 131 rfl) tq_192 (by decide) g4 rfl ?_
    refine e_op 240 em_422 (ce_at ce_422 132 rfl) rfl rfl ?_
    refine e_gd fun g5 => ?_
    refine e_cmeq 246 243 em_422 rfl rfl (ce_at ce_422 133 rfl) g5 (by decide) (fun h6 => ?_) (fun h6 => ?_)
    · refine e_mv 247 em_422 (ce_at ce_422 135 rfl) rfl rfl ?_
      refine e_getr 250 em_422 (ce_at ce_422 136 rfl) tq_121 rfl rfl ?_
      refine e_mv 252 em_422 (ce_at ce_422 137 rfl) rfl rfl ?_
      refine e_mv 254 em_422 (ce_at ce_422 138 rfl) rfl rfl ?_
      refine e_ist 255 em_422 (ce_at ce_422 139 rfl) tq_192 (by decide) g4 rfl (fun s7 => ?_)
      refine e_mv 257 em_422 (ce_at ce_422 140 rfl) rfl rfl ?_
      refine e_op 258 em_422 (ce_at ce_422 141 rfl) rfl rfl ?_
      refine e_iadd 259 em_422 rfl (ce_at ce_422 142 rfl) ?_
      refine e_mv 261 em_422 (ce_at ce_422 143 rfl) rfl rfl ?_
      refine e_iinc 264 em_422 (ce_at ce_422 144 rfl) rfl (by decide) rfl ?_
      refine e_goto em_422 223 (ce_at ce_422 145 rfl) rfl ?_
      refine e_pk [0, 4, 5] rfl rfl ?_
      exact e_out (fun r h => h)
    · refine e_goto em_422 261 (ce_at ce_422 134 rfl) rfl ?_
      refine e_iinc 264 em_422 (ce_at ce_422 144 rfl) rfl (by decide) rfl ?_
      refine e_goto em_422 223 (ce_at ce_422 145 rfl) rfl ?_
      refine e_pk [0, 4, 5] rfl rfl ?_
      exact e_out (fun r h => h)
theorem fm_signs_223b (v4 : Int) (v5 : Int) (s : iS) : Fm (fun r : (Int × Int × iS) ⊕ (iS) => r.elim (fun l => l.2.2) (fun e => e)) L_m_signs G_m_signs s (m_signs_223b v4 v5 s) := fm_gd (fm_gd (fm_if (fm_some md_refl) (fm_gd (fm_gd (fm_if (fm_lt (md_upL (mem_L rfl)) (fun s7 => fm_some md_refl)) (fm_some md_refl))))))
def m_signs_270C (w : ev_W) (d : Nat) : (Int × iS) ⊕ (iS) → am_E → Prop := fun q r => q.elim (fun l => ev w d 422 270 ((fun l => [(0, .ref (tb_nK + 121)), (5, iv (l.1))]) l) [] (hT ((fun l => l.2) l)) r) (fun e => (fun e r => ev w d 422 325 [] [] (hT (e)) r) e r)
noncomputable def m_signs_318 (v5 : Int) (t0 : Int) (t1 : Int) (s : iS) : Option ((Int × iS) ⊕ (iS)) := gd (0 ≤ t1 ∧ t1 < 2000) (lt' (up s 189 t1.toNat t0) (fun s2 => some (.inl ((v5 + 1), s2))))
theorem tm_signs_318 (w : ev_W) (d : Nat) (hd : 6 ≤ d) (v5 : Int) (t0 : Int) (t1 : Int) (s : iS) : Ew hT w d 422 318 [(0, .ref (tb_nK + 121)), (5, iv v5)] [iv t0, iv t1, .ref (tb_nK + 189)] s (m_signs_270C w d) (m_signs_318 v5 t0 t1 s) := by
  unfold m_signs_318
  refine e_gd fun g1 => ?_
  refine e_ist 319 em_422 (ce_at ce_422 173 rfl) tq_189 (by decide) g1 rfl (fun s2 => ?_)
  refine e_iinc 322 em_422 (ce_at ce_422 174 rfl) rfl (by decide) rfl ?_
  refine e_goto em_422 270 (ce_at ce_422 175 rfl) rfl ?_
  refine e_pk [0, 5] rfl rfl ?_
  exact e_out (fun r h => h)
theorem fm_signs_318 (v5 : Int) (t0 : Int) (t1 : Int) (s : iS) : Fm (fun r : (Int × iS) ⊕ (iS) => r.elim (fun l => l.2) (fun e => e)) L_m_signs G_m_signs s (m_signs_318 v5 t0 t1 s) := fm_gd (fm_lt (md_upL (mem_L rfl)) (fun s2 => fm_some md_refl))
noncomputable def m_signs_270b (v5 : Int) (s : iS) : Option ((Int × iS) ⊕ (iS)) := gd (rg v5) (gd (rg (s 121 110)) (if (s 121 110) ≤ v5 then some (.inr s) else gd (0 ≤ v5 ∧ v5 < 2000) (gd (rg (s 193 v5.toNat)) (if (s 193 v5.toNat) = (-1) then m_signs_318 v5 (s 189 v5.toNat) v5 s else gd (0 ≤ (s 193 v5.toNat) ∧ (s 193 v5.toNat) < 100) (m_signs_318 v5 (s 192 (s 193 v5.toNat).toNat) v5 s)))))
theorem tm_signs_270b (w : ev_W) (d : Nat) (hd : 6 ≤ d) (v5 : Int) (s : iS) : Ew hT w d 422 270 [(0, .ref (tb_nK + 121)), (5, iv v5)] [] s (m_signs_270C w d) (m_signs_270b v5 s) := by
  unfold m_signs_270b
  refine e_mv 272 em_422 (ce_at ce_422 148 rfl) rfl rfl ?_
  refine e_mv 273 em_422 (ce_at ce_422 149 rfl) rfl rfl ?_
  refine e_get 276 em_422 (ce_at ce_422 150 rfl) tq_121 rfl rfl ?_
  refine e_gd fun g1 => ?_
  refine e_gd fun g2 => ?_
  refine e_cmge 325 279 em_422 rfl rfl (ce_at ce_422 151 rfl) g1 g2 (fun h3 => ?_) (fun h3 => ?_)
  · refine e_pk [] rfl rfl ?_
    exact e_out (fun r h => h)
  · refine e_mv 280 em_422 (ce_at ce_422 152 rfl) rfl rfl ?_
    refine e_getr 283 em_422 (ce_at ce_422 153 rfl) tq_121 rfl rfl ?_
    refine e_mv 285 em_422 (ce_at ce_422 154 rfl) rfl rfl ?_
    refine e_mv 286 em_422 (ce_at ce_422 155 rfl) rfl rfl ?_
    refine e_getr 289 em_422 (ce_at ce_422 156 rfl) tq_121 rfl rfl ?_
    refine e_mv 291 em_422 (ce_at ce_422 157 rfl) rfl rfl ?_
    refine e_gd fun g4 => ?_
    refine e_ild 292 em_422 (ce_at ce_422 158 rfl) tq_193 (by decide) g4 rfl ?_
    refine e_op 293 em_422 (ce_at ce_422 159 rfl) rfl rfl ?_
    refine e_gd fun g5 => ?_
    refine e_cmne 306 296 em_422 rfl rfl (ce_at ce_422 160 rfl) g5 (by decide) (fun h6 => ?_) (fun h6 => ?_)
    · refine e_mv 307 em_422 (ce_at ce_422 166 rfl) rfl rfl ?_
      refine e_getr 310 em_422 (ce_at ce_422 167 rfl) tq_121 rfl rfl ?_
      refine e_mv 311 em_422 (ce_at ce_422 168 rfl) rfl rfl ?_
      refine e_getr 314 em_422 (ce_at ce_422 169 rfl) tq_121 rfl rfl ?_
      refine e_mv 316 em_422 (ce_at ce_422 170 rfl) rfl rfl ?_
      refine e_ild 317 em_422 (ce_at ce_422 171 rfl) tq_193 (by decide) g4 rfl ?_
      refine e_gd fun g7 => ?_
      refine e_ild 318 em_422 (ce_at ce_422 172 rfl) tq_192 (by decide) g7 rfl ?_
      refine e_pk [0, 5] rfl rfl ?_
      exact tm_signs_318 w d hd _ _ _ _
    · refine e_mv 297 em_422 (ce_at ce_422 161 rfl) rfl rfl ?_
      refine e_getr 300 em_422 (ce_at ce_422 162 rfl) tq_121 rfl rfl ?_
      refine e_mv 302 em_422 (ce_at ce_422 163 rfl) rfl rfl ?_
      refine e_ild 303 em_422 (ce_at ce_422 164 rfl) tq_189 (by decide) g4 rfl ?_
      refine e_goto em_422 318 (ce_at ce_422 165 rfl) rfl ?_
      refine e_pk [0, 5] rfl rfl ?_
      exact tm_signs_318 w d hd _ _ _ _
theorem fm_signs_270b (v5 : Int) (s : iS) : Fm (fun r : (Int × iS) ⊕ (iS) => r.elim (fun l => l.2) (fun e => e)) L_m_signs G_m_signs s (m_signs_270b v5 s) := fm_gd (fm_gd (fm_if (fm_some md_refl) (fm_gd (fm_gd (fm_if (fm_signs_318 _ _ _ _) (fm_gd (fm_signs_318 _ _ _ _)))))))
noncomputable def m_signs_270 (v5 : Int) (s : iS) : Option (Int × iS) := (lp (L := Int × iS) (E := iS) (fun l => m_signs_270b (l.1) (l.2)) (v5, s)).bind (fun e => some (0, e))
theorem tm_signs_270 (w : ev_W) (d : Nat) (hd : 6 ≤ d) (v5 : Int) (s : iS) : Ew hT w d 422 270 [(0, .ref (tb_nK + 121)), (5, iv v5)] [] s (Ci hT) (m_signs_270 v5 s) := by
  unfold m_signs_270
  refine e_lp (LO := fun l => [(0, .ref (tb_nK + 121)), (5, iv (l.1))]) (LS := fun l => l.2) (CE := fun e r => ev w d 422 325 [] [] (hT (e)) r) (fun l => tm_signs_270b w d hd _ _) ?_ (v5, s)
  intro e
  show Ew hT w d 422 325 [] [] e (Ci hT) _
  refine e_op 326 em_422 (ce_at ce_422 176 rfl) rfl rfl ?_
  exact e_reti em_422 (ce_at ce_422 177 rfl)
theorem fm_signs_270 (v5 : Int) (s : iS) : Fm Prod.snd L_m_signs G_m_signs s (m_signs_270 v5 s) := fm_lp (LS := fun l => l.2) (LE := fun e => e) (fun l => fm_signs_270b _ _) (fun e => fm_some md_refl) (v5, s)
noncomputable def m_signs_267 (s : iS) : Option (Int × iS) := m_signs_270 0 s
theorem tm_signs_267 (w : ev_W) (d : Nat) (hd : 6 ≤ d) (s : iS) : Ew hT w d 422 267 [(0, .ref (tb_nK + 121))] [] s (Ci hT) (m_signs_267 s) := by
  unfold m_signs_267
  refine e_op 268 em_422 (ce_at ce_422 146 rfl) rfl rfl ?_
  refine e_mv 270 em_422 (ce_at ce_422 147 rfl) rfl rfl ?_
  refine e_pk [0, 5] rfl rfl ?_
  exact tm_signs_270 w d hd _ _
theorem fm_signs_267 (s : iS) : Fm Prod.snd L_m_signs G_m_signs s (m_signs_267 s) := fm_signs_270 _ _
noncomputable def m_signs_223 (v4 : Int) (v5 : Int) (s : iS) : Option (Int × iS) := (lp (L := Int × Int × iS) (E := iS) (fun l => m_signs_223b (l.1) (l.2.1) (l.2.2)) (v4, v5, s)).bind (fun e => m_signs_267 e)
theorem tm_signs_223 (w : ev_W) (d : Nat) (hd : 6 ≤ d) (v4 : Int) (v5 : Int) (s : iS) : Ew hT w d 422 223 [(0, .ref (tb_nK + 121)), (4, iv v4), (5, iv v5)] [] s (Ci hT) (m_signs_223 v4 v5 s) := by
  unfold m_signs_223
  refine e_lp (LO := fun l => [(0, .ref (tb_nK + 121)), (4, iv (l.1)), (5, iv (l.2.1))]) (LS := fun l => l.2.2) (CE := fun e r => ev w d 422 267 [(0, .ref (tb_nK + 121))] [] (hT (e)) r) (fun l => tm_signs_223b w d hd _ _ _) ?_ (v4, v5, s)
  intro e
  show Ew hT w d 422 267 [(0, .ref (tb_nK + 121))] [] e (Ci hT) _
  refine e_pk [0] rfl rfl ?_
  exact tm_signs_267 w d hd _
theorem fm_signs_223 (v4 : Int) (v5 : Int) (s : iS) : Fm Prod.snd L_m_signs G_m_signs s (m_signs_223 v4 v5 s) := fm_lp (LS := fun l => l.2.2) (LE := fun e => e) (fun l => fm_signs_223b _ _ _) (fun e => fm_signs_267 _) (v4, v5, s)
noncomputable def m_signs_216 (s : iS) : Option (Int × iS) := m_signs_223 16 0 s
theorem tm_signs_216 (w : ev_W) (d : Nat) (hd : 6 ≤ d) (s : iS) : Ew hT w d 422 216 [(0, .ref (tb_nK + 121))] [] s (Ci hT) (m_signs_216 s) := by
  unfold m_signs_216
  refine e_bip 218 em_422 (ce_at ce_422 120 rfl) (by decide) rfl ?_
  refine e_mv 220 em_422 (ce_at ce_422 121 rfl) rfl rfl ?_
  refine e_op 221 em_422 (ce_at ce_422 122 rfl) rfl rfl ?_
  refine e_mv 223 em_422 (ce_at ce_422 123 rfl) rfl rfl ?_
  refine e_pk [0, 4, 5] rfl rfl ?_
  exact tm_signs_223 w d hd _ _ _
theorem fm_signs_216 (s : iS) : Fm Prod.snd L_m_signs G_m_signs s (m_signs_216 s) := fm_signs_223 _ _ _
noncomputable def m_signs_23 (v2 : Int) (v3 : Int) (s : iS) : Option (Int × iS) := (lp (L := Int × Int × iS) (E := (Int × Int × iS) ⊕ (iS)) (fun l => m_signs_23b (l.1) (l.2.1) (l.2.2)) (v2, v3, s)).bind (fun e => e.elim (fun e => m_signs_190 (e.1) (e.2.1) (e.2.2)) (fun e => m_signs_216 e))
theorem tm_signs_23 (w : ev_W) (d : Nat) (hd : 6 ≤ d) (v2 : Int) (v3 : Int) (s : iS) : Ew hT w d 422 23 [(0, .ref (tb_nK + 121)), (2, iv v2), (3, iv v3)] [] s (Ci hT) (m_signs_23 v2 v3 s) := by
  unfold m_signs_23
  refine e_lp (LO := fun l => [(0, .ref (tb_nK + 121)), (2, iv (l.1)), (3, iv (l.2.1))]) (LS := fun l => l.2.2) (CE := fun e r => e.elim (fun e => ev w d 422 190 [(0, .ref (tb_nK + 121)), (3, iv (e.1)), (6, iv (e.2.1))] [] (hT (e.2.2)) r) (fun e => ev w d 422 216 [(0, .ref (tb_nK + 121))] [] (hT (e)) r)) (fun l => tm_signs_23b w d hd _ _ _) ?_ (v2, v3, s)
  rintro (e | e)
  · show Ew hT w d 422 190 [(0, .ref (tb_nK + 121)), (3, iv (e.1)), (6, iv (e.2.1))] [] e.2.2 (Ci hT) _
    refine e_pk [0, 3, 6] rfl rfl ?_
    exact tm_signs_190 w d hd _ _ _
  · show Ew hT w d 422 216 [(0, .ref (tb_nK + 121))] [] e (Ci hT) _
    refine e_pk [0] rfl rfl ?_
    exact tm_signs_216 w d hd _
theorem fm_signs_23 (v2 : Int) (v3 : Int) (s : iS) : Fm Prod.snd L_m_signs G_m_signs s (m_signs_23 v2 v3 s) := fm_lp (LS := fun l => l.2.2) (LE := fun e => e.elim (fun e => e.2.2) (fun e => e)) (fun l => fm_signs_23b _ _ _) (fm_elim (fun e => fm_signs_190 _ _ _) (fun e => fm_signs_216 _)) (v2, v3, s)
noncomputable def m_signs (v1 : Int) (s : iS) : Option (Int × iS) := bd (m_takes v1 s) (fun r1 s1 => gd (rg r1) (if r1 = 0 then some ((-1), s1) else bd (m_resetProcessor s1) (fun _ s4 => lt' (up s4 121 4 (-1)) (fun s5 => m_signs_23 0 0 s5))))
theorem tm_signs (w : ev_W) (d : Nat) (hd : 6 ≤ d) (v1 : Int) (s : iS) : Ew hT w d 422 0 [(0, .ref (tb_nK + 121)), (1, iv v1)] [] s (Ci hT) (m_signs v1 s) := by
  unfold m_signs
  refine e_mv 1 em_422 (ce_at ce_422 0 rfl) rfl rfl ?_
  refine e_mv 2 em_422 (ce_at ce_422 1 rfl) rfl rfl ?_
  refine e_ivi 5 em_422 (ce_at ce_422 2 rfl) (by omega) (iv_v1 (by decide) tq_121 rfl) em_299 (Nat.le_of_ble_eq_true rfl) rfl (tm_takes w (d - 1) (by omega) _ _) (fun r1 s1 => ?_)
  refine e_gd fun g2 => ?_
  refine e_ifne 10 8 em_422 rfl rfl (ce_at ce_422 3 rfl) g2 (fun h3 => ?_) (fun h3 => ?_)
  · refine e_mv 11 em_422 (ce_at ce_422 6 rfl) rfl rfl ?_
    refine e_ivv 14 em_422 (ce_at ce_422 7 rfl) (by omega) (iv_v0 (by decide) tq_121 rfl) em_423 (Nat.le_of_ble_eq_true rfl) rfl (tm_resetProcessor w (d - 1) (by omega) _) (fun r4 s4 => ?_)
    refine e_mv 15 em_422 (ce_at ce_422 8 rfl) rfl rfl ?_
    refine e_op 16 em_422 (ce_at ce_422 9 rfl) rfl rfl ?_
    refine e_put 19 em_422 (ce_at ce_422 10 rfl) tq_121 rfl rfl rfl (fun s5 => ?_)
    refine e_op 20 em_422 (ce_at ce_422 11 rfl) rfl rfl ?_
    refine e_mv 21 em_422 (ce_at ce_422 12 rfl) rfl rfl ?_
    refine e_op 22 em_422 (ce_at ce_422 13 rfl) rfl rfl ?_
    refine e_mv 23 em_422 (ce_at ce_422 14 rfl) rfl rfl ?_
    refine e_pk [0, 2, 3] rfl rfl ?_
    exact tm_signs_23 w d hd _ _ _
  · refine e_op 9 em_422 (ce_at ce_422 4 rfl) rfl rfl ?_
    exact e_reti em_422 (ce_at ce_422 5 rfl)
theorem fm_signs (v1 : Int) (s : iS) : Fm Prod.snd L_m_signs G_m_signs s (m_signs v1 s) := fm_bd (fm_sub (fm_takes _ _) (mem_sub_L rfl) (mem_sub_F rfl)) (fun r1 s1 => fm_gd (fm_if (fm_some md_refl) (fm_bd (fm_sub (fm_resetProcessor _) (mem_sub_L rfl) (mem_sub_F rfl)) (fun r4 s4 => fm_lt (md_upF (mem_F rfl)) (fun s5 => fm_signs_23 _ _ _)))))
/-! m_code -/
def L_m_code : List Nat := []
def G_m_code : List (Nat × Nat) := []
noncomputable def m_code (v1 : Int) (s : iS) : Option (Int × iS) := gd (rg v1) (if v1 < 0 then some ((-1), s) else gd (rg (s 121 110)) (if v1 < (s 121 110) then gd (0 ≤ v1 ∧ v1 < 2000) (some ((s 189 v1.toNat), s)) else some ((-1), s)))
theorem tm_code (w : ev_W) (d : Nat) (hd : 0 ≤ d) (v1 : Int) (s : iS) : Ew hT w d 435 0 [(0, .ref (tb_nK + 121)), (1, iv v1)] [] s (Ci hT) (m_code v1 s) := by
  unfold m_code
  refine e_mv 1 em_435 (ce_at ce_435 0 rfl) rfl rfl ?_
  refine e_gd fun g1 => ?_
  refine e_iflt 12 4 em_435 rfl rfl (ce_at ce_435 1 rfl) g1 (fun h2 => ?_) (fun h2 => ?_)
  · refine e_op 13 em_435 (ce_at ce_435 6 rfl) rfl rfl ?_
    refine e_goto em_435 22 (ce_at ce_435 7 rfl) rfl ?_
    exact e_reti em_435 (ce_at ce_435 12 rfl)
  · refine e_mv 5 em_435 (ce_at ce_435 2 rfl) rfl rfl ?_
    refine e_mv 6 em_435 (ce_at ce_435 3 rfl) rfl rfl ?_
    refine e_get 9 em_435 (ce_at ce_435 4 rfl) tq_121 rfl rfl ?_
    refine e_gd fun g3 => ?_
    refine e_cmlt 16 12 em_435 rfl rfl (ce_at ce_435 5 rfl) g1 g3 (fun h4 => ?_) (fun h4 => ?_)
    · refine e_mv 17 em_435 (ce_at ce_435 8 rfl) rfl rfl ?_
      refine e_getr 20 em_435 (ce_at ce_435 9 rfl) tq_121 rfl rfl ?_
      refine e_mv 21 em_435 (ce_at ce_435 10 rfl) rfl rfl ?_
      refine e_gd fun g5 => ?_
      refine e_ild 22 em_435 (ce_at ce_435 11 rfl) tq_189 (by decide) g5 rfl ?_
      exact e_reti em_435 (ce_at ce_435 12 rfl)
    · refine e_op 13 em_435 (ce_at ce_435 6 rfl) rfl rfl ?_
      refine e_goto em_435 22 (ce_at ce_435 7 rfl) rfl ?_
      exact e_reti em_435 (ce_at ce_435 12 rfl)
theorem fm_code (v1 : Int) (s : iS) : Fm Prod.snd L_m_code G_m_code s (m_code v1 s) := fm_gd (fm_if (fm_some md_refl) (fm_gd (fm_if (fm_gd (fm_some md_refl)) (fm_some md_refl))))
/-! m_unit -/
def L_m_unit : List Nat := []
def G_m_unit : List (Nat × Nat) := []
noncomputable def m_unit_76 (v0 : Int) (t0 : Int) (s : iS) : Option (Int × iS) := gd (rg (i_and v0 1)) (if (i_and v0 1) = 0 then some ((i_s t0), s) else some ((i_s (i_xor t0 (-1))), s))
theorem tm_unit_76 (H : iS → List am_C) (w : ev_W) (d : Nat) (hd : 0 ≤ d) (v0 : Int) (t0 : Int) (s : iS) : Ew H w d 438 76 [(0, iv v0)] [iv t0] s (Ci H) (m_unit_76 v0 t0 s) := by
  unfold m_unit_76
  refine e_mv 78 em_438 (ce_at ce_438 47 rfl) rfl rfl ?_
  refine e_mv 79 em_438 (ce_at ce_438 48 rfl) rfl rfl ?_
  refine e_op 80 em_438 (ce_at ce_438 49 rfl) rfl rfl ?_
  refine e_iand 81 em_438 rfl (ce_at ce_438 50 rfl) ?_
  refine e_gd fun g1 => ?_
  refine e_ifne 89 84 em_438 rfl rfl (ce_at ce_438 51 rfl) g1 (fun h2 => ?_) (fun h2 => ?_)
  · refine e_mv 91 em_438 (ce_at ce_438 54 rfl) rfl rfl ?_
    refine e_op 92 em_438 (ce_at ce_438 55 rfl) rfl rfl ?_
    refine e_ixor 93 em_438 rfl (ce_at ce_438 56 rfl) ?_
    refine e_i2s 94 em_438 rfl (ce_at ce_438 57 rfl) ?_
    exact e_reti em_438 (ce_at ce_438 58 rfl)
  · refine e_mv 86 em_438 (ce_at ce_438 52 rfl) rfl rfl ?_
    refine e_goto em_438 93 (ce_at ce_438 53 rfl) rfl ?_
    refine e_i2s 94 em_438 rfl (ce_at ce_438 57 rfl) ?_
    exact e_reti em_438 (ce_at ce_438 58 rfl)
theorem fm_unit_76 (v0 : Int) (t0 : Int) (s : iS) : Fm Prod.snd L_m_unit G_m_unit s (m_unit_76 v0 t0 s) := fm_gd (fm_if (fm_some md_refl) (fm_some md_refl))
noncomputable def m_unit_57 (v0 : Int) (v3 : Int) (t0 : Int) (s : iS) : Option (Int × iS) := gd (rg (i_and v0 2)) (if (i_and v0 2) = 0 then m_unit_76 v0 (i_and v3 t0) s else m_unit_76 v0 (v3 + t0) s)
theorem tm_unit_57 (H : iS → List am_C) (w : ev_W) (d : Nat) (hd : 0 ≤ d) (v0 : Int) (v3 : Int) (t0 : Int) (s : iS) : Ew H w d 438 57 [(0, iv v0), (3, iv v3)] [iv t0] s (Ci H) (m_unit_57 v0 v3 t0 s) := by
  unfold m_unit_57
  refine e_mv 59 em_438 (ce_at ce_438 35 rfl) rfl rfl ?_
  refine e_mv 60 em_438 (ce_at ce_438 36 rfl) rfl rfl ?_
  refine e_op 61 em_438 (ce_at ce_438 37 rfl) rfl rfl ?_
  refine e_iand 62 em_438 rfl (ce_at ce_438 38 rfl) ?_
  refine e_gd fun g1 => ?_
  refine e_ifne 72 65 em_438 rfl rfl (ce_at ce_438 39 rfl) g1 (fun h2 => ?_) (fun h2 => ?_)
  · refine e_mv 73 em_438 (ce_at ce_438 44 rfl) rfl rfl ?_
    refine e_mv 75 em_438 (ce_at ce_438 45 rfl) rfl rfl ?_
    refine e_iadd 76 em_438 rfl (ce_at ce_438 46 rfl) ?_
    refine e_pk [0] rfl rfl ?_
    exact tm_unit_76 H w d hd _ _ _
  · refine e_mv 66 em_438 (ce_at ce_438 40 rfl) rfl rfl ?_
    refine e_mv 68 em_438 (ce_at ce_438 41 rfl) rfl rfl ?_
    refine e_iand 69 em_438 rfl (ce_at ce_438 42 rfl) ?_
    refine e_goto em_438 76 (ce_at ce_438 43 rfl) rfl ?_
    refine e_pk [0] rfl rfl ?_
    exact tm_unit_76 H w d hd _ _ _
theorem fm_unit_57 (v0 : Int) (v3 : Int) (t0 : Int) (s : iS) : Fm Prod.snd L_m_unit G_m_unit s (m_unit_57 v0 v3 t0 s) := fm_gd (fm_if (fm_unit_76 _ _ _) (fm_unit_76 _ _ _))
noncomputable def m_unit_40 (v0 : Int) (v3 : Int) (t0 : Int) (s : iS) : Option (Int × iS) := gd (rg (i_and v0 4)) (if (i_and v0 4) = 0 then m_unit_57 v0 v3 t0 s else m_unit_57 v0 v3 (i_xor t0 (-1)) s)
theorem tm_unit_40 (H : iS → List am_C) (w : ev_W) (d : Nat) (hd : 0 ≤ d) (v0 : Int) (v3 : Int) (t0 : Int) (s : iS) : Ew H w d 438 40 [(0, iv v0), (3, iv v3)] [iv t0] s (Ci H) (m_unit_40 v0 v3 t0 s) := by
  unfold m_unit_40
  refine e_mv 42 em_438 (ce_at ce_438 25 rfl) rfl rfl ?_
  refine e_mv 43 em_438 (ce_at ce_438 26 rfl) rfl rfl ?_
  refine e_op 44 em_438 (ce_at ce_438 27 rfl) rfl rfl ?_
  refine e_iand 45 em_438 rfl (ce_at ce_438 28 rfl) ?_
  refine e_gd fun g1 => ?_
  refine e_ifne 53 48 em_438 rfl rfl (ce_at ce_438 29 rfl) g1 (fun h2 => ?_) (fun h2 => ?_)
  · refine e_mv 55 em_438 (ce_at ce_438 32 rfl) rfl rfl ?_
    refine e_op 56 em_438 (ce_at ce_438 33 rfl) rfl rfl ?_
    refine e_ixor 57 em_438 rfl (ce_at ce_438 34 rfl) ?_
    refine e_pk [0, 3] rfl rfl ?_
    exact tm_unit_57 H w d hd _ _ _ _
  · refine e_mv 50 em_438 (ce_at ce_438 30 rfl) rfl rfl ?_
    refine e_goto em_438 57 (ce_at ce_438 31 rfl) rfl ?_
    refine e_pk [0, 3] rfl rfl ?_
    exact tm_unit_57 H w d hd _ _ _ _
theorem fm_unit_40 (v0 : Int) (v3 : Int) (t0 : Int) (s : iS) : Fm Prod.snd L_m_unit G_m_unit s (m_unit_40 v0 v3 t0 s) := fm_gd (fm_if (fm_unit_57 _ _ _ _) (fm_unit_57 _ _ _ _))
noncomputable def m_unit_27 (v0 : Int) (v2 : Int) (t0 : Int) (s : iS) : Option (Int × iS) := gd (rg (i_and v0 8)) (if (i_and v0 8) = 0 then m_unit_40 v0 t0 v2 s else m_unit_40 v0 t0 0 s)
theorem tm_unit_27 (H : iS → List am_C) (w : ev_W) (d : Nat) (hd : 0 ≤ d) (v0 : Int) (v2 : Int) (t0 : Int) (s : iS) : Ew H w d 438 27 [(0, iv v0), (2, iv v2)] [iv t0] s (Ci H) (m_unit_27 v0 v2 t0 s) := by
  unfold m_unit_27
  refine e_mv 28 em_438 (ce_at ce_438 17 rfl) rfl rfl ?_
  refine e_mv 29 em_438 (ce_at ce_438 18 rfl) rfl rfl ?_
  refine e_bip 31 em_438 (ce_at ce_438 19 rfl) (by decide) rfl ?_
  refine e_iand 32 em_438 rfl (ce_at ce_438 20 rfl) ?_
  refine e_gd fun g1 => ?_
  refine e_ifne 39 35 em_438 rfl rfl (ce_at ce_438 21 rfl) g1 (fun h2 => ?_) (fun h2 => ?_)
  · refine e_op 40 em_438 (ce_at ce_438 24 rfl) rfl rfl ?_
    refine e_pk [0, 3] rfl rfl ?_
    exact tm_unit_40 H w d hd _ _ _ _
  · refine e_mv 36 em_438 (ce_at ce_438 22 rfl) rfl rfl ?_
    refine e_goto em_438 40 (ce_at ce_438 23 rfl) rfl ?_
    refine e_pk [0, 3] rfl rfl ?_
    exact tm_unit_40 H w d hd _ _ _ _
theorem fm_unit_27 (v0 : Int) (v2 : Int) (t0 : Int) (s : iS) : Fm Prod.snd L_m_unit G_m_unit s (m_unit_27 v0 v2 t0 s) := fm_gd (fm_if (fm_unit_40 _ _ _ _) (fm_unit_40 _ _ _ _))
noncomputable def m_unit_12 (v0 : Int) (v2 : Int) (t0 : Int) (s : iS) : Option (Int × iS) := gd (rg (i_and v0 16)) (if (i_and v0 16) = 0 then m_unit_27 v0 v2 t0 s else m_unit_27 v0 v2 (i_xor t0 (-1)) s)
theorem tm_unit_12 (H : iS → List am_C) (w : ev_W) (d : Nat) (hd : 0 ≤ d) (v0 : Int) (v2 : Int) (t0 : Int) (s : iS) : Ew H w d 438 12 [(0, iv v0), (2, iv v2)] [iv t0] s (Ci H) (m_unit_12 v0 v2 t0 s) := by
  unfold m_unit_12
  refine e_mv 13 em_438 (ce_at ce_438 7 rfl) rfl rfl ?_
  refine e_mv 14 em_438 (ce_at ce_438 8 rfl) rfl rfl ?_
  refine e_bip 16 em_438 (ce_at ce_438 9 rfl) (by decide) rfl ?_
  refine e_iand 17 em_438 rfl (ce_at ce_438 10 rfl) ?_
  refine e_gd fun g1 => ?_
  refine e_ifne 24 20 em_438 rfl rfl (ce_at ce_438 11 rfl) g1 (fun h2 => ?_) (fun h2 => ?_)
  · refine e_mv 25 em_438 (ce_at ce_438 14 rfl) rfl rfl ?_
    refine e_op 26 em_438 (ce_at ce_438 15 rfl) rfl rfl ?_
    refine e_ixor 27 em_438 rfl (ce_at ce_438 16 rfl) ?_
    refine e_pk [0, 2] rfl rfl ?_
    exact tm_unit_27 H w d hd _ _ _ _
  · refine e_mv 21 em_438 (ce_at ce_438 12 rfl) rfl rfl ?_
    refine e_goto em_438 27 (ce_at ce_438 13 rfl) rfl ?_
    refine e_pk [0, 2] rfl rfl ?_
    exact tm_unit_27 H w d hd _ _ _ _
theorem fm_unit_12 (v0 : Int) (v2 : Int) (t0 : Int) (s : iS) : Fm Prod.snd L_m_unit G_m_unit s (m_unit_12 v0 v2 t0 s) := fm_gd (fm_if (fm_unit_27 _ _ _ _) (fm_unit_27 _ _ _ _))
noncomputable def m_unit (v0 : Int) (v1 : Int) (v2 : Int) (s : iS) : Option (Int × iS) := gd (rg (i_and v0 32)) (if (i_and v0 32) = 0 then m_unit_12 v0 v2 v1 s else m_unit_12 v0 v2 0 s)
theorem tm_unit (H : iS → List am_C) (w : ev_W) (d : Nat) (hd : 0 ≤ d) (v0 : Int) (v1 : Int) (v2 : Int) (s : iS) : Ew H w d 438 0 [(0, iv v0), (1, iv v1), (2, iv v2)] [] s (Ci H) (m_unit v0 v1 v2 s) := by
  unfold m_unit
  refine e_mv 1 em_438 (ce_at ce_438 0 rfl) rfl rfl ?_
  refine e_bip 3 em_438 (ce_at ce_438 1 rfl) (by decide) rfl ?_
  refine e_iand 4 em_438 rfl (ce_at ce_438 2 rfl) ?_
  refine e_gd fun g1 => ?_
  refine e_ifne 11 7 em_438 rfl rfl (ce_at ce_438 3 rfl) g1 (fun h2 => ?_) (fun h2 => ?_)
  · refine e_op 12 em_438 (ce_at ce_438 6 rfl) rfl rfl ?_
    refine e_pk [0, 2] rfl rfl ?_
    exact tm_unit_12 H w d hd _ _ _ _
  · refine e_mv 8 em_438 (ce_at ce_438 4 rfl) rfl rfl ?_
    refine e_goto em_438 12 (ce_at ce_438 5 rfl) rfl ?_
    refine e_pk [0, 2] rfl rfl ?_
    exact tm_unit_12 H w d hd _ _ _ _
theorem fm_unit (v0 : Int) (v1 : Int) (v2 : Int) (s : iS) : Fm Prod.snd L_m_unit G_m_unit s (m_unit v0 v1 v2 s) := fm_gd (fm_if (fm_unit_12 _ _ _ _) (fm_unit_12 _ _ _ _))
/-! m_oneCode -/
def L_m_oneCode : List Nat := [194]
def G_m_oneCode : List (Nat × Nat) := [(121, 118), (121, 119), (121, 120), (121, 121)]
noncomputable def m_oneCode_142 (v1 : Int) (v2 : Int) (t0 : Int) (s : iS) : Option (Int × iS) := gd (rg (i_and v1 t0)) (if (i_and v1 t0) = 0 then some (0, s) else lt' (up s 121 120 v2) (fun s3 => some (0, s3)))
theorem tm_oneCode_142 (w : ev_W) (d : Nat) (hd : 1 ≤ d) (v1 : Int) (v2 : Int) (t0 : Int) (s : iS) : Ew hT w d 437 142 [(0, .ref (tb_nK + 121)), (1, iv v1), (2, iv v2)] [iv t0] s (Cv hT) (m_oneCode_142 v1 v2 t0 s) := by
  unfold m_oneCode_142
  refine e_mv 144 em_437 (ce_at ce_437 82 rfl) rfl rfl ?_
  refine e_mv 145 em_437 (ce_at ce_437 83 rfl) rfl rfl ?_
  refine e_mv 147 em_437 (ce_at ce_437 84 rfl) rfl rfl ?_
  refine e_iand 148 em_437 rfl (ce_at ce_437 85 rfl) ?_
  refine e_gd fun g1 => ?_
  refine e_ifeq 156 151 em_437 rfl rfl (ce_at ce_437 86 rfl) g1 (fun h2 => ?_) (fun h2 => ?_)
  · exact e_retv em_437 (ce_at ce_437 90 rfl)
  · refine e_mv 152 em_437 (ce_at ce_437 87 rfl) rfl rfl ?_
    refine e_mv 153 em_437 (ce_at ce_437 88 rfl) rfl rfl ?_
    refine e_put 156 em_437 (ce_at ce_437 89 rfl) tq_121 rfl rfl rfl (fun s3 => ?_)
    exact e_retv em_437 (ce_at ce_437 90 rfl)
theorem fm_oneCode_142 (v1 : Int) (v2 : Int) (t0 : Int) (s : iS) : Fm Prod.snd L_m_oneCode G_m_oneCode s (m_oneCode_142 v1 v2 t0 s) := fm_gd (fm_if (fm_some md_refl) (fm_lt (md_upF (mem_F rfl)) (fun s3 => fm_some md_refl)))
noncomputable def m_oneCode_125 (v1 : Int) (v2 : Int) (v3 : Int) (s : iS) : Option (Int × iS) := gd (rg v3) (if v3 ≤ 0 then if v3 = 0 then m_oneCode_142 v1 v2 2 s else m_oneCode_142 v1 v2 4 s else m_oneCode_142 v1 v2 1 s)
theorem tm_oneCode_125 (w : ev_W) (d : Nat) (hd : 1 ≤ d) (v1 : Int) (v2 : Int) (v3 : Int) (s : iS) : Ew hT w d 437 125 [(0, .ref (tb_nK + 121)), (1, iv v1), (2, iv v2), (3, iv v3)] [] s (Cv hT) (m_oneCode_125 v1 v2 v3 s) := by
  unfold m_oneCode_125
  refine e_mv 126 em_437 (ce_at ce_437 73 rfl) rfl rfl ?_
  refine e_gd fun g1 => ?_
  refine e_ifle 133 129 em_437 rfl rfl (ce_at ce_437 74 rfl) g1 (fun h2 => ?_) (fun h2 => ?_)
  · refine e_mv 134 em_437 (ce_at ce_437 77 rfl) rfl rfl ?_
    refine e_ifne 141 137 em_437 rfl rfl (ce_at ce_437 78 rfl) g1 (fun h3 => ?_) (fun h3 => ?_)
    · refine e_op 142 em_437 (ce_at ce_437 81 rfl) rfl rfl ?_
      refine e_pk [0, 1, 2] rfl rfl ?_
      exact tm_oneCode_142 w d hd _ _ _ _
    · refine e_op 138 em_437 (ce_at ce_437 79 rfl) rfl rfl ?_
      refine e_goto em_437 142 (ce_at ce_437 80 rfl) rfl ?_
      refine e_pk [0, 1, 2] rfl rfl ?_
      exact tm_oneCode_142 w d hd _ _ _ _
  · refine e_op 130 em_437 (ce_at ce_437 75 rfl) rfl rfl ?_
    refine e_goto em_437 142 (ce_at ce_437 76 rfl) rfl ?_
    refine e_pk [0, 1, 2] rfl rfl ?_
    exact tm_oneCode_142 w d hd _ _ _ _
theorem fm_oneCode_125 (v1 : Int) (v2 : Int) (v3 : Int) (s : iS) : Fm Prod.snd L_m_oneCode G_m_oneCode s (m_oneCode_125 v1 v2 v3 s) := fm_gd (fm_if (fm_if (fm_oneCode_142 _ _ _ _) (fm_oneCode_142 _ _ _ _)) (fm_oneCode_142 _ _ _ _))
noncomputable def m_oneCode_113 (v1 : Int) (v2 : Int) (v3 : Int) (s : iS) : Option (Int × iS) := gd (rg (i_and v1 16)) (if (i_and v1 16) = 0 then m_oneCode_125 v1 v2 v3 s else lt' (up s 121 119 v3) (fun s3 => m_oneCode_125 v1 v2 v3 s3))
theorem tm_oneCode_113 (w : ev_W) (d : Nat) (hd : 1 ≤ d) (v1 : Int) (v2 : Int) (v3 : Int) (s : iS) : Ew hT w d 437 113 [(0, .ref (tb_nK + 121)), (1, iv v1), (2, iv v2), (3, iv v3)] [] s (Cv hT) (m_oneCode_113 v1 v2 v3 s) := by
  unfold m_oneCode_113
  refine e_mv 114 em_437 (ce_at ce_437 66 rfl) rfl rfl ?_
  refine e_bip 116 em_437 (ce_at ce_437 67 rfl) (by decide) rfl ?_
  refine e_iand 117 em_437 rfl (ce_at ce_437 68 rfl) ?_
  refine e_gd fun g1 => ?_
  refine e_ifeq 125 120 em_437 rfl rfl (ce_at ce_437 69 rfl) g1 (fun h2 => ?_) (fun h2 => ?_)
  · refine e_pk [0, 1, 2, 3] rfl rfl ?_
    exact tm_oneCode_125 w d hd _ _ _ _
  · refine e_mv 121 em_437 (ce_at ce_437 70 rfl) rfl rfl ?_
    refine e_mv 122 em_437 (ce_at ce_437 71 rfl) rfl rfl ?_
    refine e_put 125 em_437 (ce_at ce_437 72 rfl) tq_121 rfl rfl rfl (fun s3 => ?_)
    refine e_pk [0, 1, 2, 3] rfl rfl ?_
    exact tm_oneCode_125 w d hd _ _ _ _
theorem fm_oneCode_113 (v1 : Int) (v2 : Int) (v3 : Int) (s : iS) : Fm Prod.snd L_m_oneCode G_m_oneCode s (m_oneCode_113 v1 v2 v3 s) := fm_gd (fm_if (fm_oneCode_125 _ _ _ _) (fm_lt (md_upF (mem_F rfl)) (fun s3 => fm_oneCode_125 _ _ _ _)))
noncomputable def m_oneCode_101 (v1 : Int) (v2 : Int) (v3 : Int) (s : iS) : Option (Int × iS) := gd (rg (i_and v1 32)) (if (i_and v1 32) = 0 then m_oneCode_113 v1 v2 v3 s else lt' (up s 121 118 v3) (fun s3 => m_oneCode_113 v1 v2 v3 s3))
theorem tm_oneCode_101 (w : ev_W) (d : Nat) (hd : 1 ≤ d) (v1 : Int) (v2 : Int) (v3 : Int) (s : iS) : Ew hT w d 437 101 [(0, .ref (tb_nK + 121)), (1, iv v1), (2, iv v2), (3, iv v3)] [] s (Cv hT) (m_oneCode_101 v1 v2 v3 s) := by
  unfold m_oneCode_101
  refine e_mv 102 em_437 (ce_at ce_437 59 rfl) rfl rfl ?_
  refine e_bip 104 em_437 (ce_at ce_437 60 rfl) (by decide) rfl ?_
  refine e_iand 105 em_437 rfl (ce_at ce_437 61 rfl) ?_
  refine e_gd fun g1 => ?_
  refine e_ifeq 113 108 em_437 rfl rfl (ce_at ce_437 62 rfl) g1 (fun h2 => ?_) (fun h2 => ?_)
  · refine e_pk [0, 1, 2, 3] rfl rfl ?_
    exact tm_oneCode_113 w d hd _ _ _ _
  · refine e_mv 109 em_437 (ce_at ce_437 63 rfl) rfl rfl ?_
    refine e_mv 110 em_437 (ce_at ce_437 64 rfl) rfl rfl ?_
    refine e_put 113 em_437 (ce_at ce_437 65 rfl) tq_121 rfl rfl rfl (fun s3 => ?_)
    refine e_pk [0, 1, 2, 3] rfl rfl ?_
    exact tm_oneCode_113 w d hd _ _ _ _
theorem fm_oneCode_101 (v1 : Int) (v2 : Int) (v3 : Int) (s : iS) : Fm Prod.snd L_m_oneCode G_m_oneCode s (m_oneCode_101 v1 v2 v3 s) := fm_gd (fm_if (fm_oneCode_113 _ _ _ _) (fm_lt (md_upF (mem_F rfl)) (fun s3 => fm_oneCode_113 _ _ _ _)))
noncomputable def m_oneCode_83 (v1 : Int) (v2 : Int) (t0 : Int) (t1 : Int) (t2 : Int) (s : iS) : Option (Int × iS) := bd (m_unit t2 t1 t0 s) (fun r1 s1 => gd (rg (i_and v1 8)) (if (i_and v1 8) = 0 then m_oneCode_101 v1 v2 r1 s1 else gd (0 ≤ v2 ∧ v2 < 32768) (lt' (up s1 194 v2.toNat r1) (fun s5 => m_oneCode_101 v1 v2 r1 s5))))
theorem tm_oneCode_83 (w : ev_W) (d : Nat) (hd : 1 ≤ d) (v1 : Int) (v2 : Int) (t0 : Int) (t1 : Int) (t2 : Int) (s : iS) : Ew hT w d 437 83 [(0, .ref (tb_nK + 121)), (1, iv v1), (2, iv v2)] [iv t0, iv t1, iv t2] s (Cv hT) (m_oneCode_83 v1 v2 t0 t1 t2 s) := by
  unfold m_oneCode_83
  refine e_ivi 86 em_437 (ce_at ce_437 48 rfl) (by omega) (iv_s3 rfl) em_438 (Nat.le_of_ble_eq_true rfl) rfl (tm_unit hT w (d - 1) (by omega) _ _ _ _) (fun r1 s1 => ?_)
  refine e_mv 87 em_437 (ce_at ce_437 49 rfl) rfl rfl ?_
  refine e_mv 88 em_437 (ce_at ce_437 50 rfl) rfl rfl ?_
  refine e_bip 90 em_437 (ce_at ce_437 51 rfl) (by decide) rfl ?_
  refine e_iand 91 em_437 rfl (ce_at ce_437 52 rfl) ?_
  refine e_gd fun g2 => ?_
  refine e_ifeq 101 94 em_437 rfl rfl (ce_at ce_437 53 rfl) g2 (fun h3 => ?_) (fun h3 => ?_)
  · refine e_pk [0, 1, 2, 3] rfl rfl ?_
    exact tm_oneCode_101 w d hd _ _ _ _
  · refine e_mv 95 em_437 (ce_at ce_437 54 rfl) rfl rfl ?_
    refine e_getr 98 em_437 (ce_at ce_437 55 rfl) tq_121 rfl rfl ?_
    refine e_mv 99 em_437 (ce_at ce_437 56 rfl) rfl rfl ?_
    refine e_mv 100 em_437 (ce_at ce_437 57 rfl) rfl rfl ?_
    refine e_gd fun g4 => ?_
    refine e_ist 101 em_437 (ce_at ce_437 58 rfl) tq_194 (by decide) g4 rfl (fun s5 => ?_)
    refine e_pk [0, 1, 2, 3] rfl rfl ?_
    exact tm_oneCode_101 w d hd _ _ _ _
theorem fm_oneCode_83 (v1 : Int) (v2 : Int) (t0 : Int) (t1 : Int) (t2 : Int) (s : iS) : Fm Prod.snd L_m_oneCode G_m_oneCode s (m_oneCode_83 v1 v2 t0 t1 t2 s) := fm_bd (fm_sub (fm_unit _ _ _ _) (mem_sub_L rfl) (mem_sub_F rfl)) (fun r1 s1 => fm_gd (fm_if (fm_oneCode_101 _ _ _ _) (fm_gd (fm_lt (md_upL (mem_L rfl)) (fun s5 => fm_oneCode_101 _ _ _ _)))))
noncomputable def m_oneCode (s : iS) : Option (Int × iS) := gd (0 ≤ (s 121 120) ∧ (s 121 120) < 2000) (lt' (up s 121 120 ((s 121 120) + 1)) (fun s2 => lt' (up s2 121 121 ((s2 121 121) + 1)) (fun s3 => gd (rg (s 189 (s 121 120).toNat)) (if 32768 ≤ (s 189 (s 121 120).toNat) then gd (rg (i_and (s 189 (s 121 120).toNat) 4096)) (if (i_and (s 189 (s 121 120).toNat) 4096) = 0 then m_oneCode_83 (s 189 (s 121 120).toNat) (i_and (s3 121 118) 32767) (s3 121 118) (s3 121 119) (i_and (i_shr (s 189 (s 121 120).toNat) 6) 63) s3 else gd (0 ≤ (i_and (s3 121 118) 32767) ∧ (i_and (s3 121 118) 32767) < 32768) (m_oneCode_83 (s 189 (s 121 120).toNat) (i_and (s3 121 118) 32767) (s3 194 (i_and (s3 121 118) 32767).toNat) (s3 121 119) (i_and (i_shr (s 189 (s 121 120).toNat) 6) 63) s3)) else lt' (up s3 121 118 (s 189 (s 121 120).toNat)) (fun s9 => some (0, s9))))))
theorem tm_oneCode (w : ev_W) (d : Nat) (hd : 1 ≤ d) (s : iS) : Ew hT w d 437 0 [(0, .ref (tb_nK + 121))] [] s (Cv hT) (m_oneCode s) := by
  unfold m_oneCode
  refine e_mv 1 em_437 (ce_at ce_437 0 rfl) rfl rfl ?_
  refine e_getr 4 em_437 (ce_at ce_437 1 rfl) tq_121 rfl rfl ?_
  refine e_mv 5 em_437 (ce_at ce_437 2 rfl) rfl rfl ?_
  refine e_get 8 em_437 (ce_at ce_437 3 rfl) tq_121 rfl rfl ?_
  refine e_gd fun g1 => ?_
  refine e_ild 9 em_437 (ce_at ce_437 4 rfl) tq_189 (by decide) g1 rfl ?_
  refine e_mv 10 em_437 (ce_at ce_437 5 rfl) rfl rfl ?_
  refine e_mv 11 em_437 (ce_at ce_437 6 rfl) rfl rfl ?_
  refine e_mv 12 em_437 (ce_at ce_437 7 rfl) rfl rfl ?_
  refine e_get 15 em_437 (ce_at ce_437 8 rfl) tq_121 rfl rfl ?_
  refine e_op 16 em_437 (ce_at ce_437 9 rfl) rfl rfl ?_
  refine e_iadd 17 em_437 rfl (ce_at ce_437 10 rfl) ?_
  refine e_put 20 em_437 (ce_at ce_437 11 rfl) tq_121 rfl rfl rfl (fun s2 => ?_)
  refine e_mv 21 em_437 (ce_at ce_437 12 rfl) rfl rfl ?_
  refine e_mv 22 em_437 (ce_at ce_437 13 rfl) rfl rfl ?_
  refine e_get 25 em_437 (ce_at ce_437 14 rfl) tq_121 rfl rfl ?_
  refine e_op 26 em_437 (ce_at ce_437 15 rfl) rfl rfl ?_
  refine e_iadd 27 em_437 rfl (ce_at ce_437 16 rfl) ?_
  refine e_put 30 em_437 (ce_at ce_437 17 rfl) tq_121 rfl rfl rfl (fun s3 => ?_)
  refine e_mv 31 em_437 (ce_at ce_437 18 rfl) rfl rfl ?_
  refine e_ldc 33 em_437 (ce_at ce_437 19 rfl) (x := 32768) rfl rfl ?_
  refine e_gd fun g4 => ?_
  refine e_cmge 42 36 em_437 rfl rfl (ce_at ce_437 20 rfl) g4 (by decide) (fun h5 => ?_) (fun h5 => ?_)
  · refine e_mv 43 em_437 (ce_at ce_437 25 rfl) rfl rfl ?_
    refine e_get 46 em_437 (ce_at ce_437 26 rfl) tq_121 rfl rfl ?_
    refine e_sip 49 em_437 (ce_at ce_437 27 rfl) (by decide) rfl ?_
    refine e_iand 50 em_437 rfl (ce_at ce_437 28 rfl) ?_
    refine e_mv 51 em_437 (ce_at ce_437 29 rfl) rfl rfl ?_
    refine e_mv 52 em_437 (ce_at ce_437 30 rfl) rfl rfl ?_
    refine e_bip 54 em_437 (ce_at ce_437 31 rfl) (by decide) rfl ?_
    refine e_ishr 55 em_437 rfl (ce_at ce_437 32 rfl) ?_
    refine e_bip 57 em_437 (ce_at ce_437 33 rfl) (by decide) rfl ?_
    refine e_iand 58 em_437 rfl (ce_at ce_437 34 rfl) ?_
    refine e_mv 59 em_437 (ce_at ce_437 35 rfl) rfl rfl ?_
    refine e_get 62 em_437 (ce_at ce_437 36 rfl) tq_121 rfl rfl ?_
    refine e_mv 63 em_437 (ce_at ce_437 37 rfl) rfl rfl ?_
    refine e_sip 66 em_437 (ce_at ce_437 38 rfl) (by decide) rfl ?_
    refine e_iand 67 em_437 rfl (ce_at ce_437 39 rfl) ?_
    refine e_gd fun g6 => ?_
    refine e_ifne 77 70 em_437 rfl rfl (ce_at ce_437 40 rfl) g6 (fun h7 => ?_) (fun h7 => ?_)
    · refine e_mv 78 em_437 (ce_at ce_437 44 rfl) rfl rfl ?_
      refine e_getr 81 em_437 (ce_at ce_437 45 rfl) tq_121 rfl rfl ?_
      refine e_mv 82 em_437 (ce_at ce_437 46 rfl) rfl rfl ?_
      refine e_gd fun g8 => ?_
      refine e_ild 83 em_437 (ce_at ce_437 47 rfl) tq_194 (by decide) g8 rfl ?_
      refine e_pk [0, 1, 2] rfl rfl ?_
      exact tm_oneCode_83 w d hd _ _ _ _ _ _
    · refine e_mv 71 em_437 (ce_at ce_437 41 rfl) rfl rfl ?_
      refine e_get 74 em_437 (ce_at ce_437 42 rfl) tq_121 rfl rfl ?_
      refine e_goto em_437 83 (ce_at ce_437 43 rfl) rfl ?_
      refine e_pk [0, 1, 2] rfl rfl ?_
      exact tm_oneCode_83 w d hd _ _ _ _ _ _
  · refine e_mv 37 em_437 (ce_at ce_437 21 rfl) rfl rfl ?_
    refine e_mv 38 em_437 (ce_at ce_437 22 rfl) rfl rfl ?_
    refine e_put 41 em_437 (ce_at ce_437 23 rfl) tq_121 rfl rfl rfl (fun s9 => ?_)
    exact e_retv em_437 (ce_at ce_437 24 rfl)
theorem fm_oneCode (s : iS) : Fm Prod.snd L_m_oneCode G_m_oneCode s (m_oneCode s) := fm_gd (fm_lt (md_upF (mem_F rfl)) (fun s2 => fm_lt (md_upF (mem_F rfl)) (fun s3 => fm_gd (fm_if (fm_gd (fm_if (fm_oneCode_83 _ _ _ _ _ _) (fm_gd (fm_oneCode_83 _ _ _ _ _ _)))) (fm_lt (md_upF (mem_F rfl)) (fun s9 => fm_some md_refl))))))
/-! m_go_436 -/
def L_m_go_436 : List Nat := [194]
def G_m_go_436 : List (Nat × Nat) := [(121, 118), (121, 119), (121, 120), (121, 121)]
def m_go_436_15C (w : ev_W) (d : Nat) (v1 : Int) : (Int × iS) ⊕ (Int × iS) → am_E → Prop := fun q r => q.elim (fun l => ev w d 436 15 ((fun l => [(0, .ref (tb_nK + 121)), (1, iv v1), (2, iv (l.1))]) l) [] (hT ((fun l => l.2) l)) r) (fun e => (fun e r => ev w d 436 42 [(2, iv (e.1))] [] (hT (e.2)) r) e r)
noncomputable def m_go_436_15b (v1 : Int) (v2 : Int) (s : iS) : Option ((Int × iS) ⊕ (Int × iS)) := gd (rg v2) (gd (rg v1) (if v1 ≤ v2 then some (.inr (v2, s)) else gd (rg (s 121 120)) (gd (rg (s 121 110)) (if (s 121 110) ≤ (s 121 120) then some (.inr (v2, s)) else bd (m_oneCode s) (fun _ s7 => some (.inl ((v2 + 1), s7)))))))
theorem tm_go_436_15b (w : ev_W) (d : Nat) (hd : 2 ≤ d) (v1 : Int) (v2 : Int) (s : iS) : Ew hT w d 436 15 [(0, .ref (tb_nK + 121)), (1, iv v1), (2, iv v2)] [] s (m_go_436_15C w d v1) (m_go_436_15b v1 v2 s) := by
  unfold m_go_436_15b
  refine e_mv 16 em_436 (ce_at ce_436 9 rfl) rfl rfl ?_
  refine e_mv 17 em_436 (ce_at ce_436 10 rfl) rfl rfl ?_
  refine e_gd fun g1 => ?_
  refine e_gd fun g2 => ?_
  refine e_cmge 42 20 em_436 rfl rfl (ce_at ce_436 11 rfl) g1 g2 (fun h3 => ?_) (fun h3 => ?_)
  · refine e_pk [2] rfl rfl ?_
    exact e_out (fun r h => h)
  · refine e_mv 21 em_436 (ce_at ce_436 12 rfl) rfl rfl ?_
    refine e_get 24 em_436 (ce_at ce_436 13 rfl) tq_121 rfl rfl ?_
    refine e_mv 25 em_436 (ce_at ce_436 14 rfl) rfl rfl ?_
    refine e_get 28 em_436 (ce_at ce_436 15 rfl) tq_121 rfl rfl ?_
    refine e_gd fun g4 => ?_
    refine e_gd fun g5 => ?_
    refine e_cmge 42 31 em_436 rfl rfl (ce_at ce_436 16 rfl) g4 g5 (fun h6 => ?_) (fun h6 => ?_)
    · refine e_pk [2] rfl rfl ?_
      exact e_out (fun r h => h)
    · refine e_mv 32 em_436 (ce_at ce_436 17 rfl) rfl rfl ?_
      refine e_ivv 35 em_436 (ce_at ce_436 18 rfl) (by omega) (iv_v0 (by decide) tq_121 rfl) em_437 (Nat.le_of_ble_eq_true rfl) rfl (tm_oneCode w (d - 1) (by omega) _) (fun r7 s7 => ?_)
      refine e_mv 36 em_436 (ce_at ce_436 19 rfl) rfl rfl ?_
      refine e_op 37 em_436 (ce_at ce_436 20 rfl) rfl rfl ?_
      refine e_iadd 38 em_436 rfl (ce_at ce_436 21 rfl) ?_
      refine e_mv 39 em_436 (ce_at ce_436 22 rfl) rfl rfl ?_
      refine e_goto em_436 15 (ce_at ce_436 23 rfl) rfl ?_
      refine e_pk [0, 1, 2] rfl rfl ?_
      exact e_out (fun r h => h)
theorem fm_go_436_15b (v1 : Int) (v2 : Int) (s : iS) : Fm (fun r : (Int × iS) ⊕ (Int × iS) => r.elim (fun l => l.2) (fun e => e.2)) L_m_go_436 G_m_go_436 s (m_go_436_15b v1 v2 s) := fm_gd (fm_gd (fm_if (fm_some md_refl) (fm_gd (fm_gd (fm_if (fm_some md_refl) (fm_bd (fm_sub (fm_oneCode _) (mem_sub_L rfl) (mem_sub_F rfl)) (fun r7 s7 => fm_some md_refl)))))))
noncomputable def m_go_436_15 (v1 : Int) (v2 : Int) (s : iS) : Option (Int × iS) := (lp (L := Int × iS) (E := Int × iS) (fun l => m_go_436_15b v1 (l.1) (l.2)) (v2, s)).bind (fun e => some (e.1, e.2))
theorem tm_go_436_15 (w : ev_W) (d : Nat) (hd : 2 ≤ d) (v1 : Int) (v2 : Int) (s : iS) : Ew hT w d 436 15 [(0, .ref (tb_nK + 121)), (1, iv v1), (2, iv v2)] [] s (Ci hT) (m_go_436_15 v1 v2 s) := by
  unfold m_go_436_15
  refine e_lp (LO := fun l => [(0, .ref (tb_nK + 121)), (1, iv v1), (2, iv (l.1))]) (LS := fun l => l.2) (CE := fun e r => ev w d 436 42 [(2, iv (e.1))] [] (hT (e.2)) r) (fun l => tm_go_436_15b w d hd _ _ _) ?_ (v2, s)
  intro e
  show Ew hT w d 436 42 [(2, iv (e.1))] [] e.2 (Ci hT) _
  refine e_mv 43 em_436 (ce_at ce_436 24 rfl) rfl rfl ?_
  exact e_reti em_436 (ce_at ce_436 25 rfl)
theorem fm_go_436_15 (v1 : Int) (v2 : Int) (s : iS) : Fm Prod.snd L_m_go_436 G_m_go_436 s (m_go_436_15 v1 v2 s) := fm_lp (LS := fun l => l.2) (LE := fun e => e.2) (fun l => fm_go_436_15b _ _ _) (fun e => fm_some md_refl) (v2, s)
noncomputable def m_go_436 (v1 : Int) (s : iS) : Option (Int × iS) := gd (rg v1) (if v1 < 0 then some ((-1), s) else if v1 ≤ 20000 then m_go_436_15 v1 0 s else some ((-1), s))
theorem tm_go_436 (w : ev_W) (d : Nat) (hd : 2 ≤ d) (v1 : Int) (s : iS) : Ew hT w d 436 0 [(0, .ref (tb_nK + 121)), (1, iv v1)] [] s (Ci hT) (m_go_436 v1 s) := by
  unfold m_go_436
  refine e_mv 1 em_436 (ce_at ce_436 0 rfl) rfl rfl ?_
  refine e_gd fun g1 => ?_
  refine e_iflt 11 4 em_436 rfl rfl (ce_at ce_436 1 rfl) g1 (fun h2 => ?_) (fun h2 => ?_)
  · refine e_op 12 em_436 (ce_at ce_436 5 rfl) rfl rfl ?_
    exact e_reti em_436 (ce_at ce_436 6 rfl)
  · refine e_mv 5 em_436 (ce_at ce_436 2 rfl) rfl rfl ?_
    refine e_sip 8 em_436 (ce_at ce_436 3 rfl) (by decide) rfl ?_
    refine e_cmle 13 11 em_436 rfl rfl (ce_at ce_436 4 rfl) g1 (by decide) (fun h3 => ?_) (fun h3 => ?_)
    · refine e_op 14 em_436 (ce_at ce_436 7 rfl) rfl rfl ?_
      refine e_mv 15 em_436 (ce_at ce_436 8 rfl) rfl rfl ?_
      refine e_pk [0, 1, 2] rfl rfl ?_
      exact tm_go_436_15 w d hd _ _ _
    · refine e_op 12 em_436 (ce_at ce_436 5 rfl) rfl rfl ?_
      exact e_reti em_436 (ce_at ce_436 6 rfl)
theorem fm_go_436 (v1 : Int) (s : iS) : Fm Prod.snd L_m_go_436 G_m_go_436 s (m_go_436 v1 s) := fm_gd (fm_if (fm_some md_refl) (fm_if (fm_go_436_15 _ _ _) (fm_some md_refl)))
/-! m_set -/
def L_m_set : List Nat := [194]
def G_m_set : List (Nat × Nat) := []
noncomputable def m_set (v1 : Int) (v2 : Int) (s : iS) : Option (Int × iS) := gd (rg v1) (if v1 < 0 then some (0, s) else if v1 ≤ 32767 then gd (0 ≤ v1 ∧ v1 < 32768) (lt' (up s 194 v1.toNat (i_s v2)) (fun s5 => some (1, s5))) else some (0, s))
theorem tm_set (w : ev_W) (d : Nat) (hd : 0 ≤ d) (v1 : Int) (v2 : Int) (s : iS) : Ew hT w d 439 0 [(0, .ref (tb_nK + 121)), (1, iv v1), (2, iv v2)] [] s (Ci hT) (m_set v1 v2 s) := by
  unfold m_set
  refine e_mv 1 em_439 (ce_at ce_439 0 rfl) rfl rfl ?_
  refine e_gd fun g1 => ?_
  refine e_iflt 11 4 em_439 rfl rfl (ce_at ce_439 1 rfl) g1 (fun h2 => ?_) (fun h2 => ?_)
  · refine e_op 12 em_439 (ce_at ce_439 5 rfl) rfl rfl ?_
    exact e_retz em_439 (ce_at ce_439 6 rfl) (by decide)
  · refine e_mv 5 em_439 (ce_at ce_439 2 rfl) rfl rfl ?_
    refine e_sip 8 em_439 (ce_at ce_439 3 rfl) (by decide) rfl ?_
    refine e_cmle 13 11 em_439 rfl rfl (ce_at ce_439 4 rfl) g1 (by decide) (fun h3 => ?_) (fun h3 => ?_)
    · refine e_mv 14 em_439 (ce_at ce_439 7 rfl) rfl rfl ?_
      refine e_getr 17 em_439 (ce_at ce_439 8 rfl) tq_121 rfl rfl ?_
      refine e_mv 18 em_439 (ce_at ce_439 9 rfl) rfl rfl ?_
      refine e_mv 19 em_439 (ce_at ce_439 10 rfl) rfl rfl ?_
      refine e_i2s 20 em_439 rfl (ce_at ce_439 11 rfl) ?_
      refine e_gd fun g4 => ?_
      refine e_ist 21 em_439 (ce_at ce_439 12 rfl) tq_194 (by decide) g4 rfl (fun s5 => ?_)
      refine e_op 22 em_439 (ce_at ce_439 13 rfl) rfl rfl ?_
      exact e_retz em_439 (ce_at ce_439 14 rfl) (by decide)
    · refine e_op 12 em_439 (ce_at ce_439 5 rfl) rfl rfl ?_
      exact e_retz em_439 (ce_at ce_439 6 rfl) (by decide)
theorem fm_set (v1 : Int) (v2 : Int) (s : iS) : Fm Prod.snd L_m_set G_m_set s (m_set v1 v2 s) := fm_gd (fm_if (fm_some md_refl) (fm_if (fm_gd (fm_lt (md_upL (mem_L rfl)) (fun s5 => fm_some md_refl))) (fm_some md_refl)))
/-! m_store -/
def L_m_store : List Nat := []
def G_m_store : List (Nat × Nat) := []
noncomputable def m_store (v1 : Int) (s : iS) : Option (Int × iS) := gd (rg v1) (if v1 < 0 then some (100000, s) else if v1 ≤ 32767 then gd (0 ≤ v1 ∧ v1 < 32768) (some ((s 194 v1.toNat), s)) else some (100000, s))
theorem tm_store (w : ev_W) (d : Nat) (hd : 0 ≤ d) (v1 : Int) (s : iS) : Ew hT w d 440 0 [(0, .ref (tb_nK + 121)), (1, iv v1)] [] s (Ci hT) (m_store v1 s) := by
  unfold m_store
  refine e_mv 1 em_440 (ce_at ce_440 0 rfl) rfl rfl ?_
  refine e_gd fun g1 => ?_
  refine e_iflt 11 4 em_440 rfl rfl (ce_at ce_440 1 rfl) g1 (fun h2 => ?_) (fun h2 => ?_)
  · refine e_ldcw 14 em_440 (ce_at ce_440 5 rfl) (x := 100000) rfl rfl ?_
    refine e_goto em_440 23 (ce_at ce_440 6 rfl) rfl ?_
    exact e_reti em_440 (ce_at ce_440 11 rfl)
  · refine e_mv 5 em_440 (ce_at ce_440 2 rfl) rfl rfl ?_
    refine e_sip 8 em_440 (ce_at ce_440 3 rfl) (by decide) rfl ?_
    refine e_cmle 17 11 em_440 rfl rfl (ce_at ce_440 4 rfl) g1 (by decide) (fun h3 => ?_) (fun h3 => ?_)
    · refine e_mv 18 em_440 (ce_at ce_440 7 rfl) rfl rfl ?_
      refine e_getr 21 em_440 (ce_at ce_440 8 rfl) tq_121 rfl rfl ?_
      refine e_mv 22 em_440 (ce_at ce_440 9 rfl) rfl rfl ?_
      refine e_gd fun g4 => ?_
      refine e_ild 23 em_440 (ce_at ce_440 10 rfl) tq_194 (by decide) g4 rfl ?_
      exact e_reti em_440 (ce_at ce_440 11 rfl)
    · refine e_ldcw 14 em_440 (ce_at ce_440 5 rfl) (x := 100000) rfl rfl ?_
      refine e_goto em_440 23 (ce_at ce_440 6 rfl) rfl ?_
      exact e_reti em_440 (ce_at ce_440 11 rfl)
theorem fm_store (v1 : Int) (s : iS) : Fm Prod.snd L_m_store G_m_store s (m_store v1 s) := fm_gd (fm_if (fm_some md_refl) (fm_if (fm_gd (fm_some md_refl)) (fm_some md_refl)))
/-! m_register -/
def L_m_register : List Nat := []
def G_m_register : List (Nat × Nat) := []
noncomputable def m_register (v1 : Int) (s : iS) : Option (Int × iS) := gd (rg v1) (if v1 = 0 then some ((s 121 118), s) else if v1 = 1 then some ((s 121 119), s) else if v1 = 2 then some ((s 121 120), s) else if v1 = 3 then some ((s 121 110), s) else if v1 = 4 then some ((s 121 121), s) else if v1 = 5 then some ((s 121 112), s) else some (0, s))
theorem tm_register (w : ev_W) (d : Nat) (hd : 0 ≤ d) (v1 : Int) (s : iS) : Ew hT w d 441 0 [(0, .ref (tb_nK + 121)), (1, iv v1)] [] s (Ci hT) (m_register v1 s) := by
  unfold m_register
  refine e_mv 1 em_441 (ce_at ce_441 0 rfl) rfl rfl ?_
  refine e_gd fun g1 => ?_
  refine e_case 0 (fun h2 => ?_) (fun h2 => ?_)
  · refine e_sw em_441 40 (ce_at ce_441 1 rfl) (sw_in g1 (by omega) (by subst h2; rfl)) rfl ?_
    refine e_mv 41 em_441 (ce_at ce_441 2 rfl) rfl rfl ?_
    refine e_get 44 em_441 (ce_at ce_441 3 rfl) tq_121 rfl rfl ?_
    exact e_reti em_441 (ce_at ce_441 4 rfl)
  refine e_case 1 (fun h3 => ?_) (fun h3 => ?_)
  · refine e_sw em_441 45 (ce_at ce_441 1 rfl) (sw_in g1 (by omega) (by subst h3; rfl)) rfl ?_
    refine e_mv 46 em_441 (ce_at ce_441 5 rfl) rfl rfl ?_
    refine e_get 49 em_441 (ce_at ce_441 6 rfl) tq_121 rfl rfl ?_
    exact e_reti em_441 (ce_at ce_441 7 rfl)
  refine e_case 2 (fun h4 => ?_) (fun h4 => ?_)
  · refine e_sw em_441 50 (ce_at ce_441 1 rfl) (sw_in g1 (by omega) (by subst h4; rfl)) rfl ?_
    refine e_mv 51 em_441 (ce_at ce_441 8 rfl) rfl rfl ?_
    refine e_get 54 em_441 (ce_at ce_441 9 rfl) tq_121 rfl rfl ?_
    exact e_reti em_441 (ce_at ce_441 10 rfl)
  refine e_case 3 (fun h5 => ?_) (fun h5 => ?_)
  · refine e_sw em_441 55 (ce_at ce_441 1 rfl) (sw_in g1 (by omega) (by subst h5; rfl)) rfl ?_
    refine e_mv 56 em_441 (ce_at ce_441 11 rfl) rfl rfl ?_
    refine e_get 59 em_441 (ce_at ce_441 12 rfl) tq_121 rfl rfl ?_
    exact e_reti em_441 (ce_at ce_441 13 rfl)
  refine e_case 4 (fun h6 => ?_) (fun h6 => ?_)
  · refine e_sw em_441 60 (ce_at ce_441 1 rfl) (sw_in g1 (by omega) (by subst h6; rfl)) rfl ?_
    refine e_mv 61 em_441 (ce_at ce_441 14 rfl) rfl rfl ?_
    refine e_get 64 em_441 (ce_at ce_441 15 rfl) tq_121 rfl rfl ?_
    exact e_reti em_441 (ce_at ce_441 16 rfl)
  refine e_case 5 (fun h7 => ?_) (fun h7 => ?_)
  · refine e_sw em_441 65 (ce_at ce_441 1 rfl) (sw_in g1 (by omega) (by subst h7; rfl)) rfl ?_
    refine e_mv 66 em_441 (ce_at ce_441 17 rfl) rfl rfl ?_
    refine e_get 69 em_441 (ce_at ce_441 18 rfl) tq_121 rfl rfl ?_
    exact e_reti em_441 (ce_at ce_441 19 rfl)
  refine e_sw em_441 70 (ce_at ce_441 1 rfl) (sw_out g1 (by omega)) rfl ?_
  refine e_op 71 em_441 (ce_at ce_441 20 rfl) rfl rfl ?_
  exact e_reti em_441 (ce_at ce_441 21 rfl)
theorem fm_register (v1 : Int) (s : iS) : Fm Prod.snd L_m_register G_m_register s (m_register v1 s) := fm_gd (fm_if (fm_some md_refl) (fm_if (fm_some md_refl) (fm_if (fm_some md_refl) (fm_if (fm_some md_refl) (fm_if (fm_some md_refl) (fm_if (fm_some md_refl) (fm_some md_refl)))))))
/-! m_needNumber -/
def L_m_needNumber : List Nat := []
def G_m_needNumber : List (Nat × Nat) := [(121, 10), (121, 11), (121, 12)]
noncomputable def m_needNumber (s : iS) : Option (Int × iS) := gd (0 ≤ (s 121 10) ∧ (s 121 10) < 2002) (gd (rg (s 124 (s 121 10).toNat)) (if (s 124 (s 121 10).toNat) = 2 then bd (m_go s) (fun _ s4 => some (((s4 121 10) - 1), s4)) else bd (m_syntax s) (fun _ s5 => some (((s5 121 10) - 1), s5))))
theorem tm_needNumber (w : ev_W) (d : Nat) (hd : 2 ≤ d) (s : iS) : Ew hT w d 446 0 [(0, .ref (tb_nK + 121))] [] s (Ci hT) (m_needNumber s) := by
  unfold m_needNumber
  refine e_mv 1 em_446 (ce_at ce_446 0 rfl) rfl rfl ?_
  refine e_getr 4 em_446 (ce_at ce_446 1 rfl) tq_121 rfl rfl ?_
  refine e_mv 5 em_446 (ce_at ce_446 2 rfl) rfl rfl ?_
  refine e_get 8 em_446 (ce_at ce_446 3 rfl) tq_121 rfl rfl ?_
  refine e_gd fun g1 => ?_
  refine e_ild 9 em_446 (ce_at ce_446 4 rfl) tq_124 (by decide) g1 rfl ?_
  refine e_op 10 em_446 (ce_at ce_446 5 rfl) rfl rfl ?_
  refine e_gd fun g2 => ?_
  refine e_cmeq 20 13 em_446 rfl rfl (ce_at ce_446 6 rfl) g2 (by decide) (fun h3 => ?_) (fun h3 => ?_)
  · refine e_mv 21 em_446 (ce_at ce_446 10 rfl) rfl rfl ?_
    refine e_ivv 24 em_446 (ce_at ce_446 11 rfl) (by omega) (iv_v0 (by decide) tq_121 rfl) em_315 (Nat.le_of_ble_eq_true rfl) rfl (tm_go w (d - 1) (by omega) _) (fun r4 s4 => ?_)
    refine e_mv 25 em_446 (ce_at ce_446 12 rfl) rfl rfl ?_
    refine e_get 28 em_446 (ce_at ce_446 13 rfl) tq_121 rfl rfl ?_
    refine e_op 29 em_446 (ce_at ce_446 14 rfl) rfl rfl ?_
    refine e_isub 30 em_446 rfl (ce_at ce_446 15 rfl) ?_
    exact e_reti em_446 (ce_at ce_446 16 rfl)
  · refine e_mv 14 em_446 (ce_at ce_446 7 rfl) rfl rfl ?_
    refine e_ivv 17 em_446 (ce_at ce_446 8 rfl) (by omega) (iv_v0 (by decide) tq_121 rfl) em_316 (Nat.le_of_ble_eq_true rfl) rfl (tm_syntax w (d - 1) (by omega) _) (fun r5 s5 => ?_)
    refine e_goto em_446 24 (ce_at ce_446 9 rfl) rfl ?_
    refine e_mv 25 em_446 (ce_at ce_446 12 rfl) rfl rfl ?_
    refine e_get 28 em_446 (ce_at ce_446 13 rfl) tq_121 rfl rfl ?_
    refine e_op 29 em_446 (ce_at ce_446 14 rfl) rfl rfl ?_
    refine e_isub 30 em_446 rfl (ce_at ce_446 15 rfl) ?_
    exact e_reti em_446 (ce_at ce_446 16 rfl)
theorem fm_needNumber (s : iS) : Fm Prod.snd L_m_needNumber G_m_needNumber s (m_needNumber s) := fm_gd (fm_gd (fm_if (fm_bd (fm_sub (fm_go _) (mem_sub_L rfl) (mem_sub_F rfl)) (fun r4 s4 => fm_some md_refl)) (fm_bd (fm_sub (fm_syntax _) (mem_sub_L rfl) (mem_sub_F rfl)) (fun r5 s5 => fm_some md_refl))))
/-! m_range -/
def L_m_range : List Nat := []
def G_m_range : List (Nat × Nat) := [(121, 10), (121, 11), (121, 12), (121, 148), (121, 149), (121, 150)]
noncomputable def m_range_69 (v1 : Int) (v2 : Int) (s : iS) : Option (Int × iS) := bd (m_needSign 93 s) (fun _ s1 => gd (rg (s1 121 11)) (if (s1 121 11) ≤ 0 then gd (0 ≤ v1 ∧ v1 < 2002) (lt' (up s1 121 149 (s1 127 v1.toNat)) (fun s5 => gd (0 ≤ v2 ∧ v2 < 2002) (lt' (up s5 121 150 (s5 127 v2.toNat)) (fun s7 => some (0, s7))))) else some (0, s1)))
theorem tm_range_69 (w : ev_W) (d : Nat) (hd : 3 ≤ d) (v1 : Int) (v2 : Int) (s : iS) : Ew hT w d 449 69 [(0, .ref (tb_nK + 121)), (1, iv v1), (2, iv v2)] [] s (Cv hT) (m_range_69 v1 v2 s) := by
  unfold m_range_69
  refine e_mv 70 em_449 (ce_at ce_449 37 rfl) rfl rfl ?_
  refine e_bip 72 em_449 (ce_at ce_449 38 rfl) (by decide) rfl ?_
  refine e_ivv 75 em_449 (ce_at ce_449 39 rfl) (by omega) (iv_v1 (by decide) tq_121 rfl) em_325 (Nat.le_of_ble_eq_true rfl) rfl (tm_needSign w (d - 1) (by omega) _ _) (fun r1 s1 => ?_)
  refine e_mv 76 em_449 (ce_at ce_449 40 rfl) rfl rfl ?_
  refine e_get 79 em_449 (ce_at ce_449 41 rfl) tq_121 rfl rfl ?_
  refine e_gd fun g2 => ?_
  refine e_ifle 83 82 em_449 rfl rfl (ce_at ce_449 42 rfl) g2 (fun h3 => ?_) (fun h3 => ?_)
  · refine e_mv 84 em_449 (ce_at ce_449 44 rfl) rfl rfl ?_
    refine e_mv 85 em_449 (ce_at ce_449 45 rfl) rfl rfl ?_
    refine e_getr 88 em_449 (ce_at ce_449 46 rfl) tq_121 rfl rfl ?_
    refine e_mv 89 em_449 (ce_at ce_449 47 rfl) rfl rfl ?_
    refine e_gd fun g4 => ?_
    refine e_ild 90 em_449 (ce_at ce_449 48 rfl) tq_127 (by decide) g4 rfl ?_
    refine e_put 93 em_449 (ce_at ce_449 49 rfl) tq_121 rfl rfl rfl (fun s5 => ?_)
    refine e_mv 94 em_449 (ce_at ce_449 50 rfl) rfl rfl ?_
    refine e_mv 95 em_449 (ce_at ce_449 51 rfl) rfl rfl ?_
    refine e_getr 98 em_449 (ce_at ce_449 52 rfl) tq_121 rfl rfl ?_
    refine e_mv 99 em_449 (ce_at ce_449 53 rfl) rfl rfl ?_
    refine e_gd fun g6 => ?_
    refine e_ild 100 em_449 (ce_at ce_449 54 rfl) tq_127 (by decide) g6 rfl ?_
    refine e_put 103 em_449 (ce_at ce_449 55 rfl) tq_121 rfl rfl rfl (fun s7 => ?_)
    exact e_retv em_449 (ce_at ce_449 56 rfl)
  · exact e_retv em_449 (ce_at ce_449 43 rfl)
theorem fm_range_69 (v1 : Int) (v2 : Int) (s : iS) : Fm Prod.snd L_m_range G_m_range s (m_range_69 v1 v2 s) := fm_bd (fm_sub (fm_needSign _ _) (mem_sub_L rfl) (mem_sub_F rfl)) (fun r1 s1 => fm_gd (fm_if (fm_gd (fm_lt (md_upF (mem_F rfl)) (fun s5 => fm_gd (fm_lt (md_upF (mem_F rfl)) (fun s7 => fm_some md_refl))))) (fm_some md_refl)))
noncomputable def m_range (s : iS) : Option (Int × iS) := lt' (up s 121 148 (-1)) (fun s1 => lt' (up s1 121 149 0) (fun s2 => lt' (up s2 121 150 0) (fun s3 => bd (m_isSign 91 s3) (fun r4 s4 => gd (rg r4) (if r4 = 0 then some (0, s4) else lt' (up s4 121 148 (s4 121 10)) (fun s7 => bd (m_go s7) (fun _ s8 => bd (m_needNumber s8) (fun r9 s9 => gd (rg (s9 121 11)) (if (s9 121 11) = 0 then bd (m_isSign 46 s9) (fun r12 s12 => gd (rg r12) (if r12 = 0 then m_range_69 r9 r9 s12 else bd (m_go s12) (fun _ s15 => bd (m_needNumber s15) (fun r16 s16 => m_range_69 r9 r16 s16)))) else m_range_69 r9 r9 s9)))))))))
theorem tm_range (w : ev_W) (d : Nat) (hd : 3 ≤ d) (s : iS) : Ew hT w d 449 0 [(0, .ref (tb_nK + 121))] [] s (Cv hT) (m_range s) := by
  unfold m_range
  refine e_mv 1 em_449 (ce_at ce_449 0 rfl) rfl rfl ?_
  refine e_op 2 em_449 (ce_at ce_449 1 rfl) rfl rfl ?_
  refine e_put 5 em_449 (ce_at ce_449 2 rfl) tq_121 rfl rfl rfl (fun s1 => ?_)
  refine e_mv 6 em_449 (ce_at ce_449 3 rfl) rfl rfl ?_
  refine e_op 7 em_449 (ce_at ce_449 4 rfl) rfl rfl ?_
  refine e_put 10 em_449 (ce_at ce_449 5 rfl) tq_121 rfl rfl rfl (fun s2 => ?_)
  refine e_mv 11 em_449 (ce_at ce_449 6 rfl) rfl rfl ?_
  refine e_op 12 em_449 (ce_at ce_449 7 rfl) rfl rfl ?_
  refine e_put 15 em_449 (ce_at ce_449 8 rfl) tq_121 rfl rfl rfl (fun s3 => ?_)
  refine e_mv 16 em_449 (ce_at ce_449 9 rfl) rfl rfl ?_
  refine e_bip 18 em_449 (ce_at ce_449 10 rfl) (by decide) rfl ?_
  refine e_ivi 21 em_449 (ce_at ce_449 11 rfl) (by omega) (iv_v1 (by decide) tq_121 rfl) em_320 (Nat.le_of_ble_eq_true rfl) rfl (tm_isSign w (d - 1) (by omega) _ _) (fun r4 s4 => ?_)
  refine e_gd fun g5 => ?_
  refine e_ifne 25 24 em_449 rfl rfl (ce_at ce_449 12 rfl) g5 (fun h6 => ?_) (fun h6 => ?_)
  · refine e_mv 26 em_449 (ce_at ce_449 14 rfl) rfl rfl ?_
    refine e_mv 27 em_449 (ce_at ce_449 15 rfl) rfl rfl ?_
    refine e_get 30 em_449 (ce_at ce_449 16 rfl) tq_121 rfl rfl ?_
    refine e_put 33 em_449 (ce_at ce_449 17 rfl) tq_121 rfl rfl rfl (fun s7 => ?_)
    refine e_mv 34 em_449 (ce_at ce_449 18 rfl) rfl rfl ?_
    refine e_ivv 37 em_449 (ce_at ce_449 19 rfl) (by omega) (iv_v0 (by decide) tq_121 rfl) em_315 (Nat.le_of_ble_eq_true rfl) rfl (tm_go w (d - 1) (by omega) _) (fun r8 s8 => ?_)
    refine e_mv 38 em_449 (ce_at ce_449 20 rfl) rfl rfl ?_
    refine e_ivi 41 em_449 (ce_at ce_449 21 rfl) (by omega) (iv_v0 (by decide) tq_121 rfl) em_446 (Nat.le_of_ble_eq_true rfl) rfl (tm_needNumber w (d - 1) (by omega) _) (fun r9 s9 => ?_)
    refine e_mv 42 em_449 (ce_at ce_449 22 rfl) rfl rfl ?_
    refine e_mv 43 em_449 (ce_at ce_449 23 rfl) rfl rfl ?_
    refine e_mv 44 em_449 (ce_at ce_449 24 rfl) rfl rfl ?_
    refine e_mv 45 em_449 (ce_at ce_449 25 rfl) rfl rfl ?_
    refine e_get 48 em_449 (ce_at ce_449 26 rfl) tq_121 rfl rfl ?_
    refine e_gd fun g10 => ?_
    refine e_ifne 69 51 em_449 rfl rfl (ce_at ce_449 27 rfl) g10 (fun h11 => ?_) (fun h11 => ?_)
    · refine e_pk [0, 1, 2] rfl rfl ?_
      exact tm_range_69 w d hd _ _ _
    · refine e_mv 52 em_449 (ce_at ce_449 28 rfl) rfl rfl ?_
      refine e_bip 54 em_449 (ce_at ce_449 29 rfl) (by decide) rfl ?_
      refine e_ivi 57 em_449 (ce_at ce_449 30 rfl) (by omega) (iv_v1 (by decide) tq_121 rfl) em_320 (Nat.le_of_ble_eq_true rfl) rfl (tm_isSign w (d - 1) (by omega) _ _) (fun r12 s12 => ?_)
      refine e_gd fun g13 => ?_
      refine e_ifeq 69 60 em_449 rfl rfl (ce_at ce_449 31 rfl) g13 (fun h14 => ?_) (fun h14 => ?_)
      · refine e_pk [0, 1, 2] rfl rfl ?_
        exact tm_range_69 w d hd _ _ _
      · refine e_mv 61 em_449 (ce_at ce_449 32 rfl) rfl rfl ?_
        refine e_ivv 64 em_449 (ce_at ce_449 33 rfl) (by omega) (iv_v0 (by decide) tq_121 rfl) em_315 (Nat.le_of_ble_eq_true rfl) rfl (tm_go w (d - 1) (by omega) _) (fun r15 s15 => ?_)
        refine e_mv 65 em_449 (ce_at ce_449 34 rfl) rfl rfl ?_
        refine e_ivi 68 em_449 (ce_at ce_449 35 rfl) (by omega) (iv_v0 (by decide) tq_121 rfl) em_446 (Nat.le_of_ble_eq_true rfl) rfl (tm_needNumber w (d - 1) (by omega) _) (fun r16 s16 => ?_)
        refine e_mv 69 em_449 (ce_at ce_449 36 rfl) rfl rfl ?_
        refine e_pk [0, 1, 2] rfl rfl ?_
        exact tm_range_69 w d hd _ _ _
  · exact e_retv em_449 (ce_at ce_449 13 rfl)
theorem fm_range (s : iS) : Fm Prod.snd L_m_range G_m_range s (m_range s) := fm_lt (md_upF (mem_F rfl)) (fun s1 => fm_lt (md_upF (mem_F rfl)) (fun s2 => fm_lt (md_upF (mem_F rfl)) (fun s3 => fm_bd (fm_sub (fm_isSign _ _) (mem_sub_L rfl) (mem_sub_F rfl)) (fun r4 s4 => fm_gd (fm_if (fm_some md_refl) (fm_lt (md_upF (mem_F rfl)) (fun s7 => fm_bd (fm_sub (fm_go _) (mem_sub_L rfl) (mem_sub_F rfl)) (fun r8 s8 => fm_bd (fm_sub (fm_needNumber _) (mem_sub_L rfl) (mem_sub_F rfl)) (fun r9 s9 => fm_gd (fm_if (fm_bd (fm_sub (fm_isSign _ _) (mem_sub_L rfl) (mem_sub_F rfl)) (fun r12 s12 => fm_gd (fm_if (fm_range_69 _ _ _) (fm_bd (fm_sub (fm_go _) (mem_sub_L rfl) (mem_sub_F rfl)) (fun r15 s15 => fm_bd (fm_sub (fm_needNumber _) (mem_sub_L rfl) (mem_sub_F rfl)) (fun r16 s16 => fm_range_69 _ _ _)))))) (fm_range_69 _ _ _)))))))))))
/-! m_pinOf -/
def L_m_pinOf : List Nat := []
def G_m_pinOf : List (Nat × Nat) := []
def m_pinOf_7C (w : ev_W) (d : Nat) (v1 : Int) (v2 : Int) : (Int × iS) ⊕ ((Int × iS) ⊕ (iS)) → am_E → Prop := fun q r => q.elim (fun l => ev w d 450 7 ((fun l => [(0, .ref (tb_nK + 121)), (1, iv v1), (2, iv v2), (3, iv (l.1))]) l) [] (hT ((fun l => l.2) l)) r) (fun e => (fun e r => e.elim (fun e => ev w d 450 33 [(3, iv (e.1))] [] (hT (e.2)) r) (fun e => ev w d 450 41 [] [] (hT (e)) r)) e r)
noncomputable def m_pinOf_7b (v1 : Int) (v2 : Int) (v3 : Int) (s : iS) : Option ((Int × iS) ⊕ ((Int × iS) ⊕ (iS))) := gd (0 ≤ (v1 + 1) ∧ (v1 + 1) < 18) (gd (rg v3) (gd (rg (s 196 (v1 + 1).toNat)) (if (s 196 (v1 + 1).toNat) ≤ v3 then some (.inr (.inr s)) else gd (0 ≤ v3 ∧ v3 < 200) (bd (m_like (s 198 v3.toNat) v2 s) (fun r6 s6 => gd (rg r6) (if r6 = 0 then some (.inl ((v3 + 1), s6)) else some (.inr (.inl (v3, s6)))))))))
theorem tm_pinOf_7b (w : ev_W) (d : Nat) (hd : 1 ≤ d) (v1 : Int) (v2 : Int) (v3 : Int) (s : iS) : Ew hT w d 450 7 [(0, .ref (tb_nK + 121)), (1, iv v1), (2, iv v2), (3, iv v3)] [] s (m_pinOf_7C w d v1 v2) (m_pinOf_7b v1 v2 v3 s) := by
  unfold m_pinOf_7b
  refine e_mv 8 em_450 (ce_at ce_450 5 rfl) rfl rfl ?_
  refine e_mv 9 em_450 (ce_at ce_450 6 rfl) rfl rfl ?_
  refine e_getr 12 em_450 (ce_at ce_450 7 rfl) tq_121 rfl rfl ?_
  refine e_mv 13 em_450 (ce_at ce_450 8 rfl) rfl rfl ?_
  refine e_op 14 em_450 (ce_at ce_450 9 rfl) rfl rfl ?_
  refine e_iadd 15 em_450 rfl (ce_at ce_450 10 rfl) ?_
  refine e_gd fun g1 => ?_
  refine e_ild 16 em_450 (ce_at ce_450 11 rfl) tq_196 (by decide) g1 rfl ?_
  refine e_gd fun g2 => ?_
  refine e_gd fun g3 => ?_
  refine e_cmge 41 19 em_450 rfl rfl (ce_at ce_450 12 rfl) g2 g3 (fun h4 => ?_) (fun h4 => ?_)
  · refine e_pk [] rfl rfl ?_
    exact e_out (fun r h => h)
  · refine e_mv 20 em_450 (ce_at ce_450 13 rfl) rfl rfl ?_
    refine e_mv 21 em_450 (ce_at ce_450 14 rfl) rfl rfl ?_
    refine e_getr 24 em_450 (ce_at ce_450 15 rfl) tq_121 rfl rfl ?_
    refine e_mv 25 em_450 (ce_at ce_450 16 rfl) rfl rfl ?_
    refine e_gd fun g5 => ?_
    refine e_ild 26 em_450 (ce_at ce_450 17 rfl) tq_198 (by decide) g5 rfl ?_
    refine e_mv 27 em_450 (ce_at ce_450 18 rfl) rfl rfl ?_
    refine e_ivi 30 em_450 (ce_at ce_450 19 rfl) (by omega) (iv_v2 (by decide) tq_121 rfl) em_350 (Nat.le_of_ble_eq_true rfl) rfl (tm_like w (d - 1) (by omega) _ _ _) (fun r6 s6 => ?_)
    refine e_gd fun g7 => ?_
    refine e_ifeq 35 33 em_450 rfl rfl (ce_at ce_450 20 rfl) g7 (fun h8 => ?_) (fun h8 => ?_)
    · refine e_iinc 38 em_450 (ce_at ce_450 23 rfl) rfl (by decide) rfl ?_
      refine e_goto em_450 7 (ce_at ce_450 24 rfl) rfl ?_
      refine e_pk [0, 1, 2, 3] rfl rfl ?_
      exact e_out (fun r h => h)
    · refine e_pk [3] rfl rfl ?_
      exact e_out (fun r h => h)
theorem fm_pinOf_7b (v1 : Int) (v2 : Int) (v3 : Int) (s : iS) : Fm (fun r : (Int × iS) ⊕ ((Int × iS) ⊕ (iS)) => r.elim (fun l => l.2) (fun e => e.elim (fun e => e.2) (fun e => e))) L_m_pinOf G_m_pinOf s (m_pinOf_7b v1 v2 v3 s) := fm_gd (fm_gd (fm_gd (fm_if (fm_some md_refl) (fm_gd (fm_bd (fm_sub (fm_like _ _ _) (mem_sub_L rfl) (mem_sub_F rfl)) (fun r6 s6 => fm_gd (fm_if (fm_some md_refl) (fm_some md_refl))))))))
noncomputable def m_pinOf_7 (v1 : Int) (v2 : Int) (v3 : Int) (s : iS) : Option (Int × iS) := (lp (L := Int × iS) (E := (Int × iS) ⊕ (iS)) (fun l => m_pinOf_7b v1 v2 (l.1) (l.2)) (v3, s)).bind (fun e => e.elim (fun e => some (e.1, e.2)) (fun e => some ((-1), e)))
theorem tm_pinOf_7 (w : ev_W) (d : Nat) (hd : 1 ≤ d) (v1 : Int) (v2 : Int) (v3 : Int) (s : iS) : Ew hT w d 450 7 [(0, .ref (tb_nK + 121)), (1, iv v1), (2, iv v2), (3, iv v3)] [] s (Ci hT) (m_pinOf_7 v1 v2 v3 s) := by
  unfold m_pinOf_7
  refine e_lp (LO := fun l => [(0, .ref (tb_nK + 121)), (1, iv v1), (2, iv v2), (3, iv (l.1))]) (LS := fun l => l.2) (CE := fun e r => e.elim (fun e => ev w d 450 33 [(3, iv (e.1))] [] (hT (e.2)) r) (fun e => ev w d 450 41 [] [] (hT (e)) r)) (fun l => tm_pinOf_7b w d hd _ _ _ _) ?_ (v3, s)
  rintro (e | e)
  · show Ew hT w d 450 33 [(3, iv (e.1))] [] e.2 (Ci hT) _
    refine e_mv 34 em_450 (ce_at ce_450 21 rfl) rfl rfl ?_
    exact e_reti em_450 (ce_at ce_450 22 rfl)
  · show Ew hT w d 450 41 [] [] e (Ci hT) _
    refine e_op 42 em_450 (ce_at ce_450 25 rfl) rfl rfl ?_
    exact e_reti em_450 (ce_at ce_450 26 rfl)
theorem fm_pinOf_7 (v1 : Int) (v2 : Int) (v3 : Int) (s : iS) : Fm Prod.snd L_m_pinOf G_m_pinOf s (m_pinOf_7 v1 v2 v3 s) := fm_lp (LS := fun l => l.2) (LE := fun e => e.elim (fun e => e.2) (fun e => e)) (fun l => fm_pinOf_7b _ _ _ _) (fm_elim (fun e => fm_some md_refl) (fun e => fm_some md_refl)) (v3, s)
noncomputable def m_pinOf (v1 : Int) (v2 : Int) (s : iS) : Option (Int × iS) := gd (0 ≤ v1 ∧ v1 < 18) (m_pinOf_7 v1 v2 (s 196 v1.toNat) s)
theorem tm_pinOf (w : ev_W) (d : Nat) (hd : 1 ≤ d) (v1 : Int) (v2 : Int) (s : iS) : Ew hT w d 450 0 [(0, .ref (tb_nK + 121)), (1, iv v1), (2, iv v2)] [] s (Ci hT) (m_pinOf v1 v2 s) := by
  unfold m_pinOf
  refine e_mv 1 em_450 (ce_at ce_450 0 rfl) rfl rfl ?_
  refine e_getr 4 em_450 (ce_at ce_450 1 rfl) tq_121 rfl rfl ?_
  refine e_mv 5 em_450 (ce_at ce_450 2 rfl) rfl rfl ?_
  refine e_gd fun g1 => ?_
  refine e_ild 6 em_450 (ce_at ce_450 3 rfl) tq_196 (by decide) g1 rfl ?_
  refine e_mv 7 em_450 (ce_at ce_450 4 rfl) rfl rfl ?_
  refine e_pk [0, 1, 2, 3] rfl rfl ?_
  exact tm_pinOf_7 w d hd _ _ _ _
theorem fm_pinOf (v1 : Int) (v2 : Int) (s : iS) : Fm Prod.snd L_m_pinOf G_m_pinOf s (m_pinOf v1 v2 s) := fm_gd (fm_pinOf_7 _ _ _ _)
/-! m_innerOf -/
def L_m_innerOf : List Nat := []
def G_m_innerOf : List (Nat × Nat) := []
def m_innerOf_7C (w : ev_W) (d : Nat) (v1 : Int) (v2 : Int) : (Int × iS) ⊕ ((Int × iS) ⊕ (iS)) → am_E → Prop := fun q r => q.elim (fun l => ev w d 451 7 ((fun l => [(0, .ref (tb_nK + 121)), (1, iv v1), (2, iv v2), (3, iv (l.1))]) l) [] (hT ((fun l => l.2) l)) r) (fun e => (fun e r => e.elim (fun e => ev w d 451 33 [(3, iv (e.1))] [] (hT (e.2)) r) (fun e => ev w d 451 41 [] [] (hT (e)) r)) e r)
noncomputable def m_innerOf_7b (v1 : Int) (v2 : Int) (v3 : Int) (s : iS) : Option ((Int × iS) ⊕ ((Int × iS) ⊕ (iS))) := gd (0 ≤ (v1 + 1) ∧ (v1 + 1) < 18) (gd (rg v3) (gd (rg (s 212 (v1 + 1).toNat)) (if (s 212 (v1 + 1).toNat) ≤ v3 then some (.inr (.inr s)) else gd (0 ≤ v3 ∧ v3 < 700) (bd (m_like (s 213 v3.toNat) v2 s) (fun r6 s6 => gd (rg r6) (if r6 = 0 then some (.inl ((v3 + 1), s6)) else some (.inr (.inl (v3, s6)))))))))
theorem tm_innerOf_7b (w : ev_W) (d : Nat) (hd : 1 ≤ d) (v1 : Int) (v2 : Int) (v3 : Int) (s : iS) : Ew hT w d 451 7 [(0, .ref (tb_nK + 121)), (1, iv v1), (2, iv v2), (3, iv v3)] [] s (m_innerOf_7C w d v1 v2) (m_innerOf_7b v1 v2 v3 s) := by
  unfold m_innerOf_7b
  refine e_mv 8 em_451 (ce_at ce_451 5 rfl) rfl rfl ?_
  refine e_mv 9 em_451 (ce_at ce_451 6 rfl) rfl rfl ?_
  refine e_getr 12 em_451 (ce_at ce_451 7 rfl) tq_121 rfl rfl ?_
  refine e_mv 13 em_451 (ce_at ce_451 8 rfl) rfl rfl ?_
  refine e_op 14 em_451 (ce_at ce_451 9 rfl) rfl rfl ?_
  refine e_iadd 15 em_451 rfl (ce_at ce_451 10 rfl) ?_
  refine e_gd fun g1 => ?_
  refine e_ild 16 em_451 (ce_at ce_451 11 rfl) tq_212 (by decide) g1 rfl ?_
  refine e_gd fun g2 => ?_
  refine e_gd fun g3 => ?_
  refine e_cmge 41 19 em_451 rfl rfl (ce_at ce_451 12 rfl) g2 g3 (fun h4 => ?_) (fun h4 => ?_)
  · refine e_pk [] rfl rfl ?_
    exact e_out (fun r h => h)
  · refine e_mv 20 em_451 (ce_at ce_451 13 rfl) rfl rfl ?_
    refine e_mv 21 em_451 (ce_at ce_451 14 rfl) rfl rfl ?_
    refine e_getr 24 em_451 (ce_at ce_451 15 rfl) tq_121 rfl rfl ?_
    refine e_mv 25 em_451 (ce_at ce_451 16 rfl) rfl rfl ?_
    refine e_gd fun g5 => ?_
    refine e_ild 26 em_451 (ce_at ce_451 17 rfl) tq_213 (by decide) g5 rfl ?_
    refine e_mv 27 em_451 (ce_at ce_451 18 rfl) rfl rfl ?_
    refine e_ivi 30 em_451 (ce_at ce_451 19 rfl) (by omega) (iv_v2 (by decide) tq_121 rfl) em_350 (Nat.le_of_ble_eq_true rfl) rfl (tm_like w (d - 1) (by omega) _ _ _) (fun r6 s6 => ?_)
    refine e_gd fun g7 => ?_
    refine e_ifeq 35 33 em_451 rfl rfl (ce_at ce_451 20 rfl) g7 (fun h8 => ?_) (fun h8 => ?_)
    · refine e_iinc 38 em_451 (ce_at ce_451 23 rfl) rfl (by decide) rfl ?_
      refine e_goto em_451 7 (ce_at ce_451 24 rfl) rfl ?_
      refine e_pk [0, 1, 2, 3] rfl rfl ?_
      exact e_out (fun r h => h)
    · refine e_pk [3] rfl rfl ?_
      exact e_out (fun r h => h)
theorem fm_innerOf_7b (v1 : Int) (v2 : Int) (v3 : Int) (s : iS) : Fm (fun r : (Int × iS) ⊕ ((Int × iS) ⊕ (iS)) => r.elim (fun l => l.2) (fun e => e.elim (fun e => e.2) (fun e => e))) L_m_innerOf G_m_innerOf s (m_innerOf_7b v1 v2 v3 s) := fm_gd (fm_gd (fm_gd (fm_if (fm_some md_refl) (fm_gd (fm_bd (fm_sub (fm_like _ _ _) (mem_sub_L rfl) (mem_sub_F rfl)) (fun r6 s6 => fm_gd (fm_if (fm_some md_refl) (fm_some md_refl))))))))
noncomputable def m_innerOf_7 (v1 : Int) (v2 : Int) (v3 : Int) (s : iS) : Option (Int × iS) := (lp (L := Int × iS) (E := (Int × iS) ⊕ (iS)) (fun l => m_innerOf_7b v1 v2 (l.1) (l.2)) (v3, s)).bind (fun e => e.elim (fun e => some (e.1, e.2)) (fun e => some ((-1), e)))
theorem tm_innerOf_7 (w : ev_W) (d : Nat) (hd : 1 ≤ d) (v1 : Int) (v2 : Int) (v3 : Int) (s : iS) : Ew hT w d 451 7 [(0, .ref (tb_nK + 121)), (1, iv v1), (2, iv v2), (3, iv v3)] [] s (Ci hT) (m_innerOf_7 v1 v2 v3 s) := by
  unfold m_innerOf_7
  refine e_lp (LO := fun l => [(0, .ref (tb_nK + 121)), (1, iv v1), (2, iv v2), (3, iv (l.1))]) (LS := fun l => l.2) (CE := fun e r => e.elim (fun e => ev w d 451 33 [(3, iv (e.1))] [] (hT (e.2)) r) (fun e => ev w d 451 41 [] [] (hT (e)) r)) (fun l => tm_innerOf_7b w d hd _ _ _ _) ?_ (v3, s)
  rintro (e | e)
  · show Ew hT w d 451 33 [(3, iv (e.1))] [] e.2 (Ci hT) _
    refine e_mv 34 em_451 (ce_at ce_451 21 rfl) rfl rfl ?_
    exact e_reti em_451 (ce_at ce_451 22 rfl)
  · show Ew hT w d 451 41 [] [] e (Ci hT) _
    refine e_op 42 em_451 (ce_at ce_451 25 rfl) rfl rfl ?_
    exact e_reti em_451 (ce_at ce_451 26 rfl)
theorem fm_innerOf_7 (v1 : Int) (v2 : Int) (v3 : Int) (s : iS) : Fm Prod.snd L_m_innerOf G_m_innerOf s (m_innerOf_7 v1 v2 v3 s) := fm_lp (LS := fun l => l.2) (LE := fun e => e.elim (fun e => e.2) (fun e => e)) (fun l => fm_innerOf_7b _ _ _ _) (fm_elim (fun e => fm_some md_refl) (fun e => fm_some md_refl)) (v3, s)
noncomputable def m_innerOf (v1 : Int) (v2 : Int) (s : iS) : Option (Int × iS) := gd (0 ≤ v1 ∧ v1 < 18) (m_innerOf_7 v1 v2 (s 212 v1.toNat) s)
theorem tm_innerOf (w : ev_W) (d : Nat) (hd : 1 ≤ d) (v1 : Int) (v2 : Int) (s : iS) : Ew hT w d 451 0 [(0, .ref (tb_nK + 121)), (1, iv v1), (2, iv v2)] [] s (Ci hT) (m_innerOf v1 v2 s) := by
  unfold m_innerOf
  refine e_mv 1 em_451 (ce_at ce_451 0 rfl) rfl rfl ?_
  refine e_getr 4 em_451 (ce_at ce_451 1 rfl) tq_121 rfl rfl ?_
  refine e_mv 5 em_451 (ce_at ce_451 2 rfl) rfl rfl ?_
  refine e_gd fun g1 => ?_
  refine e_ild 6 em_451 (ce_at ce_451 3 rfl) tq_212 (by decide) g1 rfl ?_
  refine e_mv 7 em_451 (ce_at ce_451 4 rfl) rfl rfl ?_
  refine e_pk [0, 1, 2, 3] rfl rfl ?_
  exact tm_innerOf_7 w d hd _ _ _ _
theorem fm_innerOf (v1 : Int) (v2 : Int) (s : iS) : Fm Prod.snd L_m_innerOf G_m_innerOf s (m_innerOf v1 v2 s) := fm_gd (fm_innerOf_7 _ _ _ _)
/-! m_link -/
def L_m_link : List Nat := [196, 204, 205, 206, 207, 208, 209, 210, 211, 212, 213]
def G_m_link : List (Nat × Nat) := [(121, 10), (121, 11), (121, 12), (121, 134), (121, 144), (121, 148), (121, 149), (121, 150)]
noncomputable def m_link_304 (s : iS) : Option (Int × iS) := lt' (up s 121 134 ((s 121 134) + 1)) (fun s1 => some (0, s1))
theorem tm_link_304 (w : ev_W) (d : Nat) (hd : 4 ≤ d) (s : iS) : Ew hT w d 448 304 [(0, .ref (tb_nK + 121))] [] s (Cv hT) (m_link_304 s) := by
  unfold m_link_304
  refine e_mv 305 em_448 (ce_at ce_448 164 rfl) rfl rfl ?_
  refine e_mv 306 em_448 (ce_at ce_448 165 rfl) rfl rfl ?_
  refine e_get 309 em_448 (ce_at ce_448 166 rfl) tq_121 rfl rfl ?_
  refine e_op 310 em_448 (ce_at ce_448 167 rfl) rfl rfl ?_
  refine e_iadd 311 em_448 rfl (ce_at ce_448 168 rfl) ?_
  refine e_put 314 em_448 (ce_at ce_448 169 rfl) tq_121 rfl rfl rfl (fun s1 => ?_)
  exact e_retv em_448 (ce_at ce_448 170 rfl)
theorem fm_link_304 (s : iS) : Fm Prod.snd L_m_link G_m_link s (m_link_304 s) := fm_lt (md_upF (mem_F rfl)) (fun s1 => fm_some md_refl)
noncomputable def m_link_119 (s : iS) : Option (Int × iS) := bd (m_go s) (fun _ s1 => m_link_304 s1)
theorem tm_link_119 (w : ev_W) (d : Nat) (hd : 4 ≤ d) (s : iS) : Ew hT w d 448 119 [(0, .ref (tb_nK + 121))] [] s (Cv hT) (m_link_119 s) := by
  unfold m_link_119
  refine e_mv 120 em_448 (ce_at ce_448 64 rfl) rfl rfl ?_
  refine e_ivv 123 em_448 (ce_at ce_448 65 rfl) (by omega) (iv_v0 (by decide) tq_121 rfl) em_315 (Nat.le_of_ble_eq_true rfl) rfl (tm_go w (d - 1) (by omega) _) (fun r1 s1 => ?_)
  refine e_goto em_448 304 (ce_at ce_448 66 rfl) rfl ?_
  refine e_pk [0] rfl rfl ?_
  exact tm_link_304 w d hd _
theorem fm_link_119 (s : iS) : Fm Prod.snd L_m_link G_m_link s (m_link_119 s) := fm_bd (fm_sub (fm_go _) (mem_sub_L rfl) (mem_sub_F rfl)) (fun r1 s1 => fm_link_304 _)
noncomputable def m_link_250 (s : iS) : Option (Int × iS) := bd (m_go s) (fun _ s1 => bd (m_range s1) (fun _ s2 => gd (0 ≤ (s2 121 134) ∧ (s2 121 134) < 700) (lt' (up s2 209 (s2 121 134).toNat (s2 121 148)) (fun s4 => gd (0 ≤ (s4 121 134) ∧ (s4 121 134) < 700) (lt' (up s4 210 (s4 121 134).toNat (s4 121 149)) (fun s6 => gd (0 ≤ (s6 121 134) ∧ (s6 121 134) < 700) (lt' (up s6 211 (s6 121 134).toNat (s6 121 150)) (fun s8 => m_link_304 s8))))))))
theorem tm_link_250 (w : ev_W) (d : Nat) (hd : 4 ≤ d) (s : iS) : Ew hT w d 448 250 [(0, .ref (tb_nK + 121))] [] s (Cv hT) (m_link_250 s) := by
  unfold m_link_250
  refine e_mv 251 em_448 (ce_at ce_448 136 rfl) rfl rfl ?_
  refine e_ivv 254 em_448 (ce_at ce_448 137 rfl) (by omega) (iv_v0 (by decide) tq_121 rfl) em_315 (Nat.le_of_ble_eq_true rfl) rfl (tm_go w (d - 1) (by omega) _) (fun r1 s1 => ?_)
  refine e_mv 255 em_448 (ce_at ce_448 138 rfl) rfl rfl ?_
  refine e_ivv 258 em_448 (ce_at ce_448 139 rfl) (by omega) (iv_v0 (by decide) tq_121 rfl) em_449 (Nat.le_of_ble_eq_true rfl) rfl (tm_range w (d - 1) (by omega) _) (fun r2 s2 => ?_)
  refine e_mv 259 em_448 (ce_at ce_448 140 rfl) rfl rfl ?_
  refine e_getr 262 em_448 (ce_at ce_448 141 rfl) tq_121 rfl rfl ?_
  refine e_mv 263 em_448 (ce_at ce_448 142 rfl) rfl rfl ?_
  refine e_get 266 em_448 (ce_at ce_448 143 rfl) tq_121 rfl rfl ?_
  refine e_mv 267 em_448 (ce_at ce_448 144 rfl) rfl rfl ?_
  refine e_get 270 em_448 (ce_at ce_448 145 rfl) tq_121 rfl rfl ?_
  refine e_gd fun g3 => ?_
  refine e_ist 271 em_448 (ce_at ce_448 146 rfl) tq_209 (by decide) g3 rfl (fun s4 => ?_)
  refine e_mv 272 em_448 (ce_at ce_448 147 rfl) rfl rfl ?_
  refine e_getr 275 em_448 (ce_at ce_448 148 rfl) tq_121 rfl rfl ?_
  refine e_mv 276 em_448 (ce_at ce_448 149 rfl) rfl rfl ?_
  refine e_get 279 em_448 (ce_at ce_448 150 rfl) tq_121 rfl rfl ?_
  refine e_mv 280 em_448 (ce_at ce_448 151 rfl) rfl rfl ?_
  refine e_get 283 em_448 (ce_at ce_448 152 rfl) tq_121 rfl rfl ?_
  refine e_gd fun g5 => ?_
  refine e_ist 284 em_448 (ce_at ce_448 153 rfl) tq_210 (by decide) g5 rfl (fun s6 => ?_)
  refine e_mv 285 em_448 (ce_at ce_448 154 rfl) rfl rfl ?_
  refine e_getr 288 em_448 (ce_at ce_448 155 rfl) tq_121 rfl rfl ?_
  refine e_mv 289 em_448 (ce_at ce_448 156 rfl) rfl rfl ?_
  refine e_get 292 em_448 (ce_at ce_448 157 rfl) tq_121 rfl rfl ?_
  refine e_mv 293 em_448 (ce_at ce_448 158 rfl) rfl rfl ?_
  refine e_get 296 em_448 (ce_at ce_448 159 rfl) tq_121 rfl rfl ?_
  refine e_gd fun g7 => ?_
  refine e_ist 297 em_448 (ce_at ce_448 160 rfl) tq_211 (by decide) g7 rfl (fun s8 => ?_)
  refine e_goto em_448 304 (ce_at ce_448 161 rfl) rfl ?_
  refine e_pk [0] rfl rfl ?_
  exact tm_link_304 w d hd _
theorem fm_link_250 (s : iS) : Fm Prod.snd L_m_link G_m_link s (m_link_250 s) := fm_bd (fm_sub (fm_go _) (mem_sub_L rfl) (mem_sub_F rfl)) (fun r1 s1 => fm_bd (fm_sub (fm_range _) (mem_sub_L rfl) (mem_sub_F rfl)) (fun r2 s2 => fm_gd (fm_lt (md_upL (mem_L rfl)) (fun s4 => fm_gd (fm_lt (md_upL (mem_L rfl)) (fun s6 => fm_gd (fm_lt (md_upL (mem_L rfl)) (fun s8 => fm_link_304 _))))))))
noncomputable def m_link (s : iS) : Option (Int × iS) := bd (m_needName s) (fun r1 s1 => gd (rg (s1 121 11)) (if (s1 121 11) ≤ 0 then gd (0 ≤ (s1 121 134) ∧ (s1 121 134) < 700) (lt' (up s1 204 (s1 121 134).toNat r1) (fun s5 => bd (m_range s5) (fun _ s6 => gd (0 ≤ (s6 121 134) ∧ (s6 121 134) < 700) (lt' (up s6 205 (s6 121 134).toNat (s6 121 148)) (fun s8 => gd (0 ≤ (s8 121 134) ∧ (s8 121 134) < 700) (lt' (up s8 206 (s8 121 134).toNat (s8 121 149)) (fun s10 => gd (0 ≤ (s10 121 134) ∧ (s10 121 134) < 700) (lt' (up s10 207 (s10 121 134).toNat (s10 121 150)) (fun s12 => bd (m_needSign 61 s12) (fun _ s13 => gd (rg (s13 121 11)) (if (s13 121 11) ≤ 0 then gd (0 ≤ (s13 121 134) ∧ (s13 121 134) < 700) (lt' (up s13 208 (s13 121 134).toNat (s13 121 10)) (fun s17 => gd (0 ≤ (s17 121 134) ∧ (s17 121 134) < 700) (lt' (up s17 209 (s17 121 134).toNat (-1)) (fun s19 => bd (m_isWord 4 s19) (fun r20 s20 => gd (rg r20) (if r20 = 0 then bd (m_isWord 5 s20) (fun r23 s23 => gd (rg r23) (if r23 = 0 then gd (0 ≤ (s23 121 10) ∧ (s23 121 10) < 2002) (gd (rg (s23 124 (s23 121 10).toNat)) (if (s23 124 (s23 121 10).toNat) = 1 then gd (0 ≤ (s23 121 122) ∧ (s23 121 122) < 18) (lt' (up s23 196 (s23 121 122).toNat (s23 121 125)) (fun s31 => gd (0 ≤ (s31 121 122) ∧ (s31 121 122) < 18) (lt' (up s31 212 (s31 121 122).toNat (s31 121 144)) (fun s33 => bd (m_pinOf ((s23 121 122) - 1) (s33 121 10) s33) (fun r34 s34 => gd (rg r34) (if r34 = (-1) then bd (m_innerOf ((s23 121 122) - 1) (s34 121 10) s34) (fun r37 s37 => gd (rg r37) (if r37 = (-1) then gd (0 ≤ ((s23 121 122) - 1) ∧ ((s23 121 122) - 1) < 18) (bd (m_room ((s37 121 144) - (s37 212 ((s23 121 122) - 1).toNat)) 100 (s37 121 10) s37) (fun _ s41 => gd (rg (s41 121 11)) (if (s41 121 11) ≤ 0 then gd (0 ≤ (s41 121 144) ∧ (s41 121 144) < 700) (lt' (up s41 213 (s41 121 144).toNat (s41 121 10)) (fun s45 => lt' (up s45 121 144 ((s45 121 144) + 1)) (fun s46 => m_link_250 s46))) else some (0, s41)))) else m_link_250 s37)) else m_link_250 s34)))))) else bd (m_syntax s23) (fun _ s29 => m_link_304 s29))) else m_link_119 s23)) else m_link_119 s20)))))) else some (0, s13)))))))))))) else some (0, s1)))
theorem tm_link (w : ev_W) (d : Nat) (hd : 4 ≤ d) (s : iS) : Ew hT w d 448 0 [(0, .ref (tb_nK + 121))] [] s (Cv hT) (m_link s) := by
  unfold m_link
  refine e_mv 1 em_448 (ce_at ce_448 0 rfl) rfl rfl ?_
  refine e_ivi 4 em_448 (ce_at ce_448 1 rfl) (by omega) (iv_v0 (by decide) tq_121 rfl) em_332 (Nat.le_of_ble_eq_true rfl) rfl (tm_needName w (d - 1) (by omega) _) (fun r1 s1 => ?_)
  refine e_mv 5 em_448 (ce_at ce_448 2 rfl) rfl rfl ?_
  refine e_mv 6 em_448 (ce_at ce_448 3 rfl) rfl rfl ?_
  refine e_get 9 em_448 (ce_at ce_448 4 rfl) tq_121 rfl rfl ?_
  refine e_gd fun g2 => ?_
  refine e_ifle 13 12 em_448 rfl rfl (ce_at ce_448 5 rfl) g2 (fun h3 => ?_) (fun h3 => ?_)
  · refine e_mv 14 em_448 (ce_at ce_448 7 rfl) rfl rfl ?_
    refine e_getr 17 em_448 (ce_at ce_448 8 rfl) tq_121 rfl rfl ?_
    refine e_mv 18 em_448 (ce_at ce_448 9 rfl) rfl rfl ?_
    refine e_get 21 em_448 (ce_at ce_448 10 rfl) tq_121 rfl rfl ?_
    refine e_mv 22 em_448 (ce_at ce_448 11 rfl) rfl rfl ?_
    refine e_gd fun g4 => ?_
    refine e_ist 23 em_448 (ce_at ce_448 12 rfl) tq_204 (by decide) g4 rfl (fun s5 => ?_)
    refine e_mv 24 em_448 (ce_at ce_448 13 rfl) rfl rfl ?_
    refine e_ivv 27 em_448 (ce_at ce_448 14 rfl) (by omega) (iv_v0 (by decide) tq_121 rfl) em_449 (Nat.le_of_ble_eq_true rfl) rfl (tm_range w (d - 1) (by omega) _) (fun r6 s6 => ?_)
    refine e_mv 28 em_448 (ce_at ce_448 15 rfl) rfl rfl ?_
    refine e_getr 31 em_448 (ce_at ce_448 16 rfl) tq_121 rfl rfl ?_
    refine e_mv 32 em_448 (ce_at ce_448 17 rfl) rfl rfl ?_
    refine e_get 35 em_448 (ce_at ce_448 18 rfl) tq_121 rfl rfl ?_
    refine e_mv 36 em_448 (ce_at ce_448 19 rfl) rfl rfl ?_
    refine e_get 39 em_448 (ce_at ce_448 20 rfl) tq_121 rfl rfl ?_
    refine e_gd fun g7 => ?_
    refine e_ist 40 em_448 (ce_at ce_448 21 rfl) tq_205 (by decide) g7 rfl (fun s8 => ?_)
    refine e_mv 41 em_448 (ce_at ce_448 22 rfl) rfl rfl ?_
    refine e_getr 44 em_448 (ce_at ce_448 23 rfl) tq_121 rfl rfl ?_
    refine e_mv 45 em_448 (ce_at ce_448 24 rfl) rfl rfl ?_
    refine e_get 48 em_448 (ce_at ce_448 25 rfl) tq_121 rfl rfl ?_
    refine e_mv 49 em_448 (ce_at ce_448 26 rfl) rfl rfl ?_
    refine e_get 52 em_448 (ce_at ce_448 27 rfl) tq_121 rfl rfl ?_
    refine e_gd fun g9 => ?_
    refine e_ist 53 em_448 (ce_at ce_448 28 rfl) tq_206 (by decide) g9 rfl (fun s10 => ?_)
    refine e_mv 54 em_448 (ce_at ce_448 29 rfl) rfl rfl ?_
    refine e_getr 57 em_448 (ce_at ce_448 30 rfl) tq_121 rfl rfl ?_
    refine e_mv 58 em_448 (ce_at ce_448 31 rfl) rfl rfl ?_
    refine e_get 61 em_448 (ce_at ce_448 32 rfl) tq_121 rfl rfl ?_
    refine e_mv 62 em_448 (ce_at ce_448 33 rfl) rfl rfl ?_
    refine e_get 65 em_448 (ce_at ce_448 34 rfl) tq_121 rfl rfl ?_
    refine e_gd fun g11 => ?_
    refine e_ist 66 em_448 (ce_at ce_448 35 rfl) tq_207 (by decide) g11 rfl (fun s12 => ?_)
    refine e_mv 67 em_448 (ce_at ce_448 36 rfl) rfl rfl ?_
    refine e_bip 69 em_448 (ce_at ce_448 37 rfl) (by decide) rfl ?_
    refine e_ivv 72 em_448 (ce_at ce_448 38 rfl) (by omega) (iv_v1 (by decide) tq_121 rfl) em_325 (Nat.le_of_ble_eq_true rfl) rfl (tm_needSign w (d - 1) (by omega) _ _) (fun r13 s13 => ?_)
    refine e_mv 73 em_448 (ce_at ce_448 39 rfl) rfl rfl ?_
    refine e_get 76 em_448 (ce_at ce_448 40 rfl) tq_121 rfl rfl ?_
    refine e_gd fun g14 => ?_
    refine e_ifle 80 79 em_448 rfl rfl (ce_at ce_448 41 rfl) g14 (fun h15 => ?_) (fun h15 => ?_)
    · refine e_mv 81 em_448 (ce_at ce_448 43 rfl) rfl rfl ?_
      refine e_getr 84 em_448 (ce_at ce_448 44 rfl) tq_121 rfl rfl ?_
      refine e_mv 85 em_448 (ce_at ce_448 45 rfl) rfl rfl ?_
      refine e_get 88 em_448 (ce_at ce_448 46 rfl) tq_121 rfl rfl ?_
      refine e_mv 89 em_448 (ce_at ce_448 47 rfl) rfl rfl ?_
      refine e_get 92 em_448 (ce_at ce_448 48 rfl) tq_121 rfl rfl ?_
      refine e_gd fun g16 => ?_
      refine e_ist 93 em_448 (ce_at ce_448 49 rfl) tq_208 (by decide) g16 rfl (fun s17 => ?_)
      refine e_mv 94 em_448 (ce_at ce_448 50 rfl) rfl rfl ?_
      refine e_getr 97 em_448 (ce_at ce_448 51 rfl) tq_121 rfl rfl ?_
      refine e_mv 98 em_448 (ce_at ce_448 52 rfl) rfl rfl ?_
      refine e_get 101 em_448 (ce_at ce_448 53 rfl) tq_121 rfl rfl ?_
      refine e_op 102 em_448 (ce_at ce_448 54 rfl) rfl rfl ?_
      refine e_gd fun g18 => ?_
      refine e_ist 103 em_448 (ce_at ce_448 55 rfl) tq_209 (by decide) g18 rfl (fun s19 => ?_)
      refine e_mv 104 em_448 (ce_at ce_448 56 rfl) rfl rfl ?_
      refine e_op 105 em_448 (ce_at ce_448 57 rfl) rfl rfl ?_
      refine e_ivi 108 em_448 (ce_at ce_448 58 rfl) (by omega) (iv_v1 (by decide) tq_121 rfl) em_314 (Nat.le_of_ble_eq_true rfl) rfl (tm_isWord w (d - 1) (by omega) _ _) (fun r20 s20 => ?_)
      refine e_gd fun g21 => ?_
      refine e_ifne 119 111 em_448 rfl rfl (ce_at ce_448 59 rfl) g21 (fun h22 => ?_) (fun h22 => ?_)
      · refine e_pk [0] rfl rfl ?_
        exact tm_link_119 w d hd _
      · refine e_mv 112 em_448 (ce_at ce_448 60 rfl) rfl rfl ?_
        refine e_op 113 em_448 (ce_at ce_448 61 rfl) rfl rfl ?_
        refine e_ivi 116 em_448 (ce_at ce_448 62 rfl) (by omega) (iv_v1 (by decide) tq_121 rfl) em_314 (Nat.le_of_ble_eq_true rfl) rfl (tm_isWord w (d - 1) (by omega) _ _) (fun r23 s23 => ?_)
        refine e_gd fun g24 => ?_
        refine e_ifeq 126 119 em_448 rfl rfl (ce_at ce_448 63 rfl) g24 (fun h25 => ?_) (fun h25 => ?_)
        · refine e_mv 127 em_448 (ce_at ce_448 67 rfl) rfl rfl ?_
          refine e_getr 130 em_448 (ce_at ce_448 68 rfl) tq_121 rfl rfl ?_
          refine e_mv 131 em_448 (ce_at ce_448 69 rfl) rfl rfl ?_
          refine e_get 134 em_448 (ce_at ce_448 70 rfl) tq_121 rfl rfl ?_
          refine e_gd fun g26 => ?_
          refine e_ild 135 em_448 (ce_at ce_448 71 rfl) tq_124 (by decide) g26 rfl ?_
          refine e_op 136 em_448 (ce_at ce_448 72 rfl) rfl rfl ?_
          refine e_gd fun g27 => ?_
          refine e_cmne 300 139 em_448 rfl rfl (ce_at ce_448 73 rfl) g27 (by decide) (fun h28 => ?_) (fun h28 => ?_)
          · refine e_mv 301 em_448 (ce_at ce_448 162 rfl) rfl rfl ?_
            refine e_ivv 304 em_448 (ce_at ce_448 163 rfl) (by omega) (iv_v0 (by decide) tq_121 rfl) em_316 (Nat.le_of_ble_eq_true rfl) rfl (tm_syntax w (d - 1) (by omega) _) (fun r29 s29 => ?_)
            refine e_pk [0] rfl rfl ?_
            exact tm_link_304 w d hd _
          · refine e_mv 140 em_448 (ce_at ce_448 74 rfl) rfl rfl ?_
            refine e_get 143 em_448 (ce_at ce_448 75 rfl) tq_121 rfl rfl ?_
            refine e_op 144 em_448 (ce_at ce_448 76 rfl) rfl rfl ?_
            refine e_isub 145 em_448 rfl (ce_at ce_448 77 rfl) ?_
            refine e_mv 146 em_448 (ce_at ce_448 78 rfl) rfl rfl ?_
            refine e_mv 147 em_448 (ce_at ce_448 79 rfl) rfl rfl ?_
            refine e_getr 150 em_448 (ce_at ce_448 80 rfl) tq_121 rfl rfl ?_
            refine e_mv 151 em_448 (ce_at ce_448 81 rfl) rfl rfl ?_
            refine e_get 154 em_448 (ce_at ce_448 82 rfl) tq_121 rfl rfl ?_
            refine e_mv 155 em_448 (ce_at ce_448 83 rfl) rfl rfl ?_
            refine e_get 158 em_448 (ce_at ce_448 84 rfl) tq_121 rfl rfl ?_
            refine e_gd fun g30 => ?_
            refine e_ist 159 em_448 (ce_at ce_448 85 rfl) tq_196 (by decide) g30 rfl (fun s31 => ?_)
            refine e_mv 160 em_448 (ce_at ce_448 86 rfl) rfl rfl ?_
            refine e_getr 163 em_448 (ce_at ce_448 87 rfl) tq_121 rfl rfl ?_
            refine e_mv 164 em_448 (ce_at ce_448 88 rfl) rfl rfl ?_
            refine e_get 167 em_448 (ce_at ce_448 89 rfl) tq_121 rfl rfl ?_
            refine e_mv 168 em_448 (ce_at ce_448 90 rfl) rfl rfl ?_
            refine e_get 171 em_448 (ce_at ce_448 91 rfl) tq_121 rfl rfl ?_
            refine e_gd fun g32 => ?_
            refine e_ist 172 em_448 (ce_at ce_448 92 rfl) tq_212 (by decide) g32 rfl (fun s33 => ?_)
            refine e_mv 173 em_448 (ce_at ce_448 93 rfl) rfl rfl ?_
            refine e_mv 174 em_448 (ce_at ce_448 94 rfl) rfl rfl ?_
            refine e_mv 175 em_448 (ce_at ce_448 95 rfl) rfl rfl ?_
            refine e_get 178 em_448 (ce_at ce_448 96 rfl) tq_121 rfl rfl ?_
            refine e_ivi 181 em_448 (ce_at ce_448 97 rfl) (by omega) (iv_v2 (by decide) tq_121 rfl) em_450 (Nat.le_of_ble_eq_true rfl) rfl (tm_pinOf w (d - 1) (by omega) _ _ _) (fun r34 s34 => ?_)
            refine e_op 182 em_448 (ce_at ce_448 98 rfl) rfl rfl ?_
            refine e_gd fun g35 => ?_
            refine e_cmne 250 185 em_448 rfl rfl (ce_at ce_448 99 rfl) g35 (by decide) (fun h36 => ?_) (fun h36 => ?_)
            · refine e_pk [0] rfl rfl ?_
              exact tm_link_250 w d hd _
            · refine e_mv 186 em_448 (ce_at ce_448 100 rfl) rfl rfl ?_
              refine e_mv 187 em_448 (ce_at ce_448 101 rfl) rfl rfl ?_
              refine e_mv 188 em_448 (ce_at ce_448 102 rfl) rfl rfl ?_
              refine e_get 191 em_448 (ce_at ce_448 103 rfl) tq_121 rfl rfl ?_
              refine e_ivi 194 em_448 (ce_at ce_448 104 rfl) (by omega) (iv_v2 (by decide) tq_121 rfl) em_451 (Nat.le_of_ble_eq_true rfl) rfl (tm_innerOf w (d - 1) (by omega) _ _ _) (fun r37 s37 => ?_)
              refine e_op 195 em_448 (ce_at ce_448 105 rfl) rfl rfl ?_
              refine e_gd fun g38 => ?_
              refine e_cmne 250 198 em_448 rfl rfl (ce_at ce_448 106 rfl) g38 (by decide) (fun h39 => ?_) (fun h39 => ?_)
              · refine e_pk [0] rfl rfl ?_
                exact tm_link_250 w d hd _
              · refine e_mv 199 em_448 (ce_at ce_448 107 rfl) rfl rfl ?_
                refine e_mv 200 em_448 (ce_at ce_448 108 rfl) rfl rfl ?_
                refine e_get 203 em_448 (ce_at ce_448 109 rfl) tq_121 rfl rfl ?_
                refine e_mv 204 em_448 (ce_at ce_448 110 rfl) rfl rfl ?_
                refine e_getr 207 em_448 (ce_at ce_448 111 rfl) tq_121 rfl rfl ?_
                refine e_mv 208 em_448 (ce_at ce_448 112 rfl) rfl rfl ?_
                refine e_gd fun g40 => ?_
                refine e_ild 209 em_448 (ce_at ce_448 113 rfl) tq_212 (by decide) g40 rfl ?_
                refine e_isub 210 em_448 rfl (ce_at ce_448 114 rfl) ?_
                refine e_bip 212 em_448 (ce_at ce_448 115 rfl) (by decide) rfl ?_
                refine e_mv 213 em_448 (ce_at ce_448 116 rfl) rfl rfl ?_
                refine e_get 216 em_448 (ce_at ce_448 117 rfl) tq_121 rfl rfl ?_
                refine e_ivv 219 em_448 (ce_at ce_448 118 rfl) (by omega) (iv_v3 (by decide) tq_121 rfl) em_318 (Nat.le_of_ble_eq_true rfl) rfl (tm_room w (d - 1) (by omega) _ _ _ _) (fun r41 s41 => ?_)
                refine e_mv 220 em_448 (ce_at ce_448 119 rfl) rfl rfl ?_
                refine e_get 223 em_448 (ce_at ce_448 120 rfl) tq_121 rfl rfl ?_
                refine e_gd fun g42 => ?_
                refine e_ifle 227 226 em_448 rfl rfl (ce_at ce_448 121 rfl) g42 (fun h43 => ?_) (fun h43 => ?_)
                · refine e_mv 228 em_448 (ce_at ce_448 123 rfl) rfl rfl ?_
                  refine e_getr 231 em_448 (ce_at ce_448 124 rfl) tq_121 rfl rfl ?_
                  refine e_mv 232 em_448 (ce_at ce_448 125 rfl) rfl rfl ?_
                  refine e_get 235 em_448 (ce_at ce_448 126 rfl) tq_121 rfl rfl ?_
                  refine e_mv 236 em_448 (ce_at ce_448 127 rfl) rfl rfl ?_
                  refine e_get 239 em_448 (ce_at ce_448 128 rfl) tq_121 rfl rfl ?_
                  refine e_gd fun g44 => ?_
                  refine e_ist 240 em_448 (ce_at ce_448 129 rfl) tq_213 (by decide) g44 rfl (fun s45 => ?_)
                  refine e_mv 241 em_448 (ce_at ce_448 130 rfl) rfl rfl ?_
                  refine e_mv 242 em_448 (ce_at ce_448 131 rfl) rfl rfl ?_
                  refine e_get 245 em_448 (ce_at ce_448 132 rfl) tq_121 rfl rfl ?_
                  refine e_op 246 em_448 (ce_at ce_448 133 rfl) rfl rfl ?_
                  refine e_iadd 247 em_448 rfl (ce_at ce_448 134 rfl) ?_
                  refine e_put 250 em_448 (ce_at ce_448 135 rfl) tq_121 rfl rfl rfl (fun s46 => ?_)
                  refine e_pk [0] rfl rfl ?_
                  exact tm_link_250 w d hd _
                · exact e_retv em_448 (ce_at ce_448 122 rfl)
        · refine e_pk [0] rfl rfl ?_
          exact tm_link_119 w d hd _
    · exact e_retv em_448 (ce_at ce_448 42 rfl)
  · exact e_retv em_448 (ce_at ce_448 6 rfl)
theorem fm_link (s : iS) : Fm Prod.snd L_m_link G_m_link s (m_link s) := fm_bd (fm_sub (fm_needName _) (mem_sub_L rfl) (mem_sub_F rfl)) (fun r1 s1 => fm_gd (fm_if (fm_gd (fm_lt (md_upL (mem_L rfl)) (fun s5 => fm_bd (fm_sub (fm_range _) (mem_sub_L rfl) (mem_sub_F rfl)) (fun r6 s6 => fm_gd (fm_lt (md_upL (mem_L rfl)) (fun s8 => fm_gd (fm_lt (md_upL (mem_L rfl)) (fun s10 => fm_gd (fm_lt (md_upL (mem_L rfl)) (fun s12 => fm_bd (fm_sub (fm_needSign _ _) (mem_sub_L rfl) (mem_sub_F rfl)) (fun r13 s13 => fm_gd (fm_if (fm_gd (fm_lt (md_upL (mem_L rfl)) (fun s17 => fm_gd (fm_lt (md_upL (mem_L rfl)) (fun s19 => fm_bd (fm_sub (fm_isWord _ _) (mem_sub_L rfl) (mem_sub_F rfl)) (fun r20 s20 => fm_gd (fm_if (fm_bd (fm_sub (fm_isWord _ _) (mem_sub_L rfl) (mem_sub_F rfl)) (fun r23 s23 => fm_gd (fm_if (fm_gd (fm_gd (fm_if (fm_gd (fm_lt (md_upL (mem_L rfl)) (fun s31 => fm_gd (fm_lt (md_upL (mem_L rfl)) (fun s33 => fm_bd (fm_sub (fm_pinOf _ _ _) (mem_sub_L rfl) (mem_sub_F rfl)) (fun r34 s34 => fm_gd (fm_if (fm_bd (fm_sub (fm_innerOf _ _ _) (mem_sub_L rfl) (mem_sub_F rfl)) (fun r37 s37 => fm_gd (fm_if (fm_gd (fm_bd (fm_sub (fm_room _ _ _ _) (mem_sub_L rfl) (mem_sub_F rfl)) (fun r41 s41 => fm_gd (fm_if (fm_gd (fm_lt (md_upL (mem_L rfl)) (fun s45 => fm_lt (md_upF (mem_F rfl)) (fun s46 => fm_link_250 _)))) (fm_some md_refl))))) (fm_link_250 _)))) (fm_link_250 _)))))))) (fm_bd (fm_sub (fm_syntax _) (mem_sub_L rfl) (mem_sub_F rfl)) (fun r29 s29 => fm_link_304 _))))) (fm_link_119 _)))) (fm_link_119 _)))))))) (fm_some md_refl))))))))))))) (fm_some md_refl)))
/-! m_part -/
def L_m_part : List Nat := [196, 202, 203, 204, 205, 206, 207, 208, 209, 210, 211, 212, 213]
def G_m_part : List (Nat × Nat) := [(121, 10), (121, 11), (121, 12), (121, 131), (121, 134), (121, 144), (121, 148), (121, 149), (121, 150)]
def m_part_100C (w : ev_W) (d : Nat) : (Int × iS) ⊕ (iS) → am_E → Prop := fun q r => q.elim (fun l => ev w d 447 100 ((fun l => [(0, .ref (tb_nK + 121)), (1, iv (l.1))]) l) [] (hT ((fun l => l.2) l)) r) (fun e => (fun e r => ev w d 447 133 [(0, .ref (tb_nK + 121))] [] (hT (e)) r) e r)
noncomputable def m_part_100b (v1 : Int) (s : iS) : Option ((Int × iS) ⊕ (iS)) := gd (rg v1) (if v1 = 0 then some (.inr s) else gd (rg (s 121 11)) (if (s 121 11) = 0 then bd (m_link s) (fun _ s5 => bd (m_isSign 44 s5) (fun r6 s6 => gd (rg r6) (if r6 = 0 then some (.inl (r6, s6)) else bd (m_go s6) (fun _ s9 => some (.inl (r6, s9)))))) else some (.inr s)))
theorem tm_part_100b (w : ev_W) (d : Nat) (hd : 5 ≤ d) (v1 : Int) (s : iS) : Ew hT w d 447 100 [(0, .ref (tb_nK + 121)), (1, iv v1)] [] s (m_part_100C w d) (m_part_100b v1 s) := by
  unfold m_part_100b
  refine e_mv 101 em_447 (ce_at ce_447 56 rfl) rfl rfl ?_
  refine e_gd fun g1 => ?_
  refine e_ifeq 133 104 em_447 rfl rfl (ce_at ce_447 57 rfl) g1 (fun h2 => ?_) (fun h2 => ?_)
  · refine e_pk [0] rfl rfl ?_
    exact e_out (fun r h => h)
  · refine e_mv 105 em_447 (ce_at ce_447 58 rfl) rfl rfl ?_
    refine e_get 108 em_447 (ce_at ce_447 59 rfl) tq_121 rfl rfl ?_
    refine e_gd fun g3 => ?_
    refine e_ifne 133 111 em_447 rfl rfl (ce_at ce_447 60 rfl) g3 (fun h4 => ?_) (fun h4 => ?_)
    · refine e_pk [0] rfl rfl ?_
      exact e_out (fun r h => h)
    · refine e_mv 112 em_447 (ce_at ce_447 61 rfl) rfl rfl ?_
      refine e_ivv 115 em_447 (ce_at ce_447 62 rfl) (by omega) (iv_v0 (by decide) tq_121 rfl) em_448 (Nat.le_of_ble_eq_true rfl) rfl (tm_link w (d - 1) (by omega) _) (fun r5 s5 => ?_)
      refine e_mv 116 em_447 (ce_at ce_447 63 rfl) rfl rfl ?_
      refine e_bip 118 em_447 (ce_at ce_447 64 rfl) (by decide) rfl ?_
      refine e_ivi 121 em_447 (ce_at ce_447 65 rfl) (by omega) (iv_v1 (by decide) tq_121 rfl) em_320 (Nat.le_of_ble_eq_true rfl) rfl (tm_isSign w (d - 1) (by omega) _ _) (fun r6 s6 => ?_)
      refine e_mv 122 em_447 (ce_at ce_447 66 rfl) rfl rfl ?_
      refine e_mv 123 em_447 (ce_at ce_447 67 rfl) rfl rfl ?_
      refine e_gd fun g7 => ?_
      refine e_ifeq 100 126 em_447 rfl rfl (ce_at ce_447 68 rfl) g7 (fun h8 => ?_) (fun h8 => ?_)
      · refine e_pk [0, 1] rfl rfl ?_
        exact e_out (fun r h => h)
      · refine e_mv 127 em_447 (ce_at ce_447 69 rfl) rfl rfl ?_
        refine e_ivv 130 em_447 (ce_at ce_447 70 rfl) (by omega) (iv_v0 (by decide) tq_121 rfl) em_315 (Nat.le_of_ble_eq_true rfl) rfl (tm_go w (d - 1) (by omega) _) (fun r9 s9 => ?_)
        refine e_goto em_447 100 (ce_at ce_447 71 rfl) rfl ?_
        refine e_pk [0, 1] rfl rfl ?_
        exact e_out (fun r h => h)
theorem fm_part_100b (v1 : Int) (s : iS) : Fm (fun r : (Int × iS) ⊕ (iS) => r.elim (fun l => l.2) (fun e => e)) L_m_part G_m_part s (m_part_100b v1 s) := fm_gd (fm_if (fm_some md_refl) (fm_gd (fm_if (fm_bd (fm_sub (fm_link _) (mem_sub_L rfl) (mem_sub_F rfl)) (fun r5 s5 => fm_bd (fm_sub (fm_isSign _ _) (mem_sub_L rfl) (mem_sub_F rfl)) (fun r6 s6 => fm_gd (fm_if (fm_some md_refl) (fm_bd (fm_sub (fm_go _) (mem_sub_L rfl) (mem_sub_F rfl)) (fun r9 s9 => fm_some md_refl)))))) (fm_some md_refl))))
noncomputable def m_part_133 (s : iS) : Option (Int × iS) := bd (m_needSign 41 s) (fun _ s1 => bd (m_needSign 59 s1) (fun _ s2 => some (0, s2)))
theorem tm_part_133 (w : ev_W) (d : Nat) (hd : 5 ≤ d) (s : iS) : Ew hT w d 447 133 [(0, .ref (tb_nK + 121))] [] s (Cv hT) (m_part_133 s) := by
  unfold m_part_133
  refine e_mv 134 em_447 (ce_at ce_447 72 rfl) rfl rfl ?_
  refine e_bip 136 em_447 (ce_at ce_447 73 rfl) (by decide) rfl ?_
  refine e_ivv 139 em_447 (ce_at ce_447 74 rfl) (by omega) (iv_v1 (by decide) tq_121 rfl) em_325 (Nat.le_of_ble_eq_true rfl) rfl (tm_needSign w (d - 1) (by omega) _ _) (fun r1 s1 => ?_)
  refine e_mv 140 em_447 (ce_at ce_447 75 rfl) rfl rfl ?_
  refine e_bip 142 em_447 (ce_at ce_447 76 rfl) (by decide) rfl ?_
  refine e_ivv 145 em_447 (ce_at ce_447 77 rfl) (by omega) (iv_v1 (by decide) tq_121 rfl) em_325 (Nat.le_of_ble_eq_true rfl) rfl (tm_needSign w (d - 1) (by omega) _ _) (fun r2 s2 => ?_)
  exact e_retv em_447 (ce_at ce_447 78 rfl)
theorem fm_part_133 (s : iS) : Fm Prod.snd L_m_part G_m_part s (m_part_133 s) := fm_bd (fm_sub (fm_needSign _ _) (mem_sub_L rfl) (mem_sub_F rfl)) (fun r1 s1 => fm_bd (fm_sub (fm_needSign _ _) (mem_sub_L rfl) (mem_sub_F rfl)) (fun r2 s2 => fm_some md_refl))
noncomputable def m_part_100 (v1 : Int) (s : iS) : Option (Int × iS) := (lp (L := Int × iS) (E := iS) (fun l => m_part_100b (l.1) (l.2)) (v1, s)).bind (fun e => m_part_133 e)
theorem tm_part_100 (w : ev_W) (d : Nat) (hd : 5 ≤ d) (v1 : Int) (s : iS) : Ew hT w d 447 100 [(0, .ref (tb_nK + 121)), (1, iv v1)] [] s (Cv hT) (m_part_100 v1 s) := by
  unfold m_part_100
  refine e_lp (LO := fun l => [(0, .ref (tb_nK + 121)), (1, iv (l.1))]) (LS := fun l => l.2) (CE := fun e r => ev w d 447 133 [(0, .ref (tb_nK + 121))] [] (hT (e)) r) (fun l => tm_part_100b w d hd _ _) ?_ (v1, s)
  intro e
  show Ew hT w d 447 133 [(0, .ref (tb_nK + 121))] [] e (Cv hT) _
  refine e_pk [0] rfl rfl ?_
  exact tm_part_133 w d hd _
theorem fm_part_100 (v1 : Int) (s : iS) : Fm Prod.snd L_m_part G_m_part s (m_part_100 v1 s) := fm_lp (LS := fun l => l.2) (LE := fun e => e) (fun l => fm_part_100b _ _) (fun e => fm_part_133 _) (v1, s)
noncomputable def m_part (s : iS) : Option (Int × iS) := gd (0 ≤ (s 121 10) ∧ (s 121 10) < 2002) (gd (rg (s 124 (s 121 10).toNat)) (if (s 124 (s 121 10).toNat) = 1 then gd (0 ≤ ((s 121 122) - 1) ∧ ((s 121 122) - 1) < 18) (bd (m_room ((s 121 131) - (s 201 ((s 121 122) - 1).toNat)) 24 (s 121 10) s) (fun _ s5 => gd (rg (s5 121 11)) (if (s5 121 11) ≤ 0 then gd (0 ≤ (s5 121 131) ∧ (s5 121 131) < 400) (lt' (up s5 202 (s5 121 131).toNat (s5 121 10)) (fun s9 => gd (0 ≤ (s9 121 131) ∧ (s9 121 131) < 401) (lt' (up s9 203 (s9 121 131).toNat (s9 121 134)) (fun s11 => lt' (up s11 121 131 ((s11 121 131) + 1)) (fun s12 => bd (m_go s12) (fun _ s13 => bd (m_needSign 40 s13) (fun _ s14 => m_part_100 1 s14))))))) else some (0, s5)))) else bd (m_syntax s) (fun _ s15 => some (0, s15))))
theorem tm_part (w : ev_W) (d : Nat) (hd : 5 ≤ d) (s : iS) : Ew hT w d 447 0 [(0, .ref (tb_nK + 121))] [] s (Cv hT) (m_part s) := by
  unfold m_part
  refine e_mv 1 em_447 (ce_at ce_447 0 rfl) rfl rfl ?_
  refine e_getr 4 em_447 (ce_at ce_447 1 rfl) tq_121 rfl rfl ?_
  refine e_mv 5 em_447 (ce_at ce_447 2 rfl) rfl rfl ?_
  refine e_get 8 em_447 (ce_at ce_447 3 rfl) tq_121 rfl rfl ?_
  refine e_gd fun g1 => ?_
  refine e_ild 9 em_447 (ce_at ce_447 4 rfl) tq_124 (by decide) g1 rfl ?_
  refine e_op 10 em_447 (ce_at ce_447 5 rfl) rfl rfl ?_
  refine e_gd fun g2 => ?_
  refine e_cmeq 18 13 em_447 rfl rfl (ce_at ce_447 6 rfl) g2 (by decide) (fun h3 => ?_) (fun h3 => ?_)
  · refine e_mv 19 em_447 (ce_at ce_447 10 rfl) rfl rfl ?_
    refine e_mv 20 em_447 (ce_at ce_447 11 rfl) rfl rfl ?_
    refine e_get 23 em_447 (ce_at ce_447 12 rfl) tq_121 rfl rfl ?_
    refine e_mv 24 em_447 (ce_at ce_447 13 rfl) rfl rfl ?_
    refine e_getr 27 em_447 (ce_at ce_447 14 rfl) tq_121 rfl rfl ?_
    refine e_mv 28 em_447 (ce_at ce_447 15 rfl) rfl rfl ?_
    refine e_get 31 em_447 (ce_at ce_447 16 rfl) tq_121 rfl rfl ?_
    refine e_op 32 em_447 (ce_at ce_447 17 rfl) rfl rfl ?_
    refine e_isub 33 em_447 rfl (ce_at ce_447 18 rfl) ?_
    refine e_gd fun g4 => ?_
    refine e_ild 34 em_447 (ce_at ce_447 19 rfl) tq_201 (by decide) g4 rfl ?_
    refine e_isub 35 em_447 rfl (ce_at ce_447 20 rfl) ?_
    refine e_bip 37 em_447 (ce_at ce_447 21 rfl) (by decide) rfl ?_
    refine e_mv 38 em_447 (ce_at ce_447 22 rfl) rfl rfl ?_
    refine e_get 41 em_447 (ce_at ce_447 23 rfl) tq_121 rfl rfl ?_
    refine e_ivv 44 em_447 (ce_at ce_447 24 rfl) (by omega) (iv_v3 (by decide) tq_121 rfl) em_318 (Nat.le_of_ble_eq_true rfl) rfl (tm_room w (d - 1) (by omega) _ _ _ _) (fun r5 s5 => ?_)
    refine e_mv 45 em_447 (ce_at ce_447 25 rfl) rfl rfl ?_
    refine e_get 48 em_447 (ce_at ce_447 26 rfl) tq_121 rfl rfl ?_
    refine e_gd fun g6 => ?_
    refine e_ifle 52 51 em_447 rfl rfl (ce_at ce_447 27 rfl) g6 (fun h7 => ?_) (fun h7 => ?_)
    · refine e_mv 53 em_447 (ce_at ce_447 29 rfl) rfl rfl ?_
      refine e_getr 56 em_447 (ce_at ce_447 30 rfl) tq_121 rfl rfl ?_
      refine e_mv 57 em_447 (ce_at ce_447 31 rfl) rfl rfl ?_
      refine e_get 60 em_447 (ce_at ce_447 32 rfl) tq_121 rfl rfl ?_
      refine e_mv 61 em_447 (ce_at ce_447 33 rfl) rfl rfl ?_
      refine e_get 64 em_447 (ce_at ce_447 34 rfl) tq_121 rfl rfl ?_
      refine e_gd fun g8 => ?_
      refine e_ist 65 em_447 (ce_at ce_447 35 rfl) tq_202 (by decide) g8 rfl (fun s9 => ?_)
      refine e_mv 66 em_447 (ce_at ce_447 36 rfl) rfl rfl ?_
      refine e_getr 69 em_447 (ce_at ce_447 37 rfl) tq_121 rfl rfl ?_
      refine e_mv 70 em_447 (ce_at ce_447 38 rfl) rfl rfl ?_
      refine e_get 73 em_447 (ce_at ce_447 39 rfl) tq_121 rfl rfl ?_
      refine e_mv 74 em_447 (ce_at ce_447 40 rfl) rfl rfl ?_
      refine e_get 77 em_447 (ce_at ce_447 41 rfl) tq_121 rfl rfl ?_
      refine e_gd fun g10 => ?_
      refine e_ist 78 em_447 (ce_at ce_447 42 rfl) tq_203 (by decide) g10 rfl (fun s11 => ?_)
      refine e_mv 79 em_447 (ce_at ce_447 43 rfl) rfl rfl ?_
      refine e_mv 80 em_447 (ce_at ce_447 44 rfl) rfl rfl ?_
      refine e_get 83 em_447 (ce_at ce_447 45 rfl) tq_121 rfl rfl ?_
      refine e_op 84 em_447 (ce_at ce_447 46 rfl) rfl rfl ?_
      refine e_iadd 85 em_447 rfl (ce_at ce_447 47 rfl) ?_
      refine e_put 88 em_447 (ce_at ce_447 48 rfl) tq_121 rfl rfl rfl (fun s12 => ?_)
      refine e_mv 89 em_447 (ce_at ce_447 49 rfl) rfl rfl ?_
      refine e_ivv 92 em_447 (ce_at ce_447 50 rfl) (by omega) (iv_v0 (by decide) tq_121 rfl) em_315 (Nat.le_of_ble_eq_true rfl) rfl (tm_go w (d - 1) (by omega) _) (fun r13 s13 => ?_)
      refine e_mv 93 em_447 (ce_at ce_447 51 rfl) rfl rfl ?_
      refine e_bip 95 em_447 (ce_at ce_447 52 rfl) (by decide) rfl ?_
      refine e_ivv 98 em_447 (ce_at ce_447 53 rfl) (by omega) (iv_v1 (by decide) tq_121 rfl) em_325 (Nat.le_of_ble_eq_true rfl) rfl (tm_needSign w (d - 1) (by omega) _ _) (fun r14 s14 => ?_)
      refine e_op 99 em_447 (ce_at ce_447 54 rfl) rfl rfl ?_
      refine e_mv 100 em_447 (ce_at ce_447 55 rfl) rfl rfl ?_
      refine e_pk [0, 1] rfl rfl ?_
      exact tm_part_100 w d hd _ _
    · exact e_retv em_447 (ce_at ce_447 28 rfl)
  · refine e_mv 14 em_447 (ce_at ce_447 7 rfl) rfl rfl ?_
    refine e_ivv 17 em_447 (ce_at ce_447 8 rfl) (by omega) (iv_v0 (by decide) tq_121 rfl) em_316 (Nat.le_of_ble_eq_true rfl) rfl (tm_syntax w (d - 1) (by omega) _) (fun r15 s15 => ?_)
    exact e_retv em_447 (ce_at ce_447 9 rfl)
theorem fm_part (s : iS) : Fm Prod.snd L_m_part G_m_part s (m_part s) := fm_gd (fm_gd (fm_if (fm_gd (fm_bd (fm_sub (fm_room _ _ _ _) (mem_sub_L rfl) (mem_sub_F rfl)) (fun r5 s5 => fm_gd (fm_if (fm_gd (fm_lt (md_upL (mem_L rfl)) (fun s9 => fm_gd (fm_lt (md_upL (mem_L rfl)) (fun s11 => fm_lt (md_upF (mem_F rfl)) (fun s12 => fm_bd (fm_sub (fm_go _) (mem_sub_L rfl) (mem_sub_F rfl)) (fun r13 s13 => fm_bd (fm_sub (fm_needSign _ _) (mem_sub_L rfl) (mem_sub_F rfl)) (fun r14 s14 => fm_part_100 _ _)))))))) (fm_some md_refl))))) (fm_bd (fm_sub (fm_syntax _) (mem_sub_L rfl) (mem_sub_F rfl)) (fun r15 s15 => fm_some md_refl))))
/-! m_pinList -/
def L_m_pinList : List Nat := [197, 198, 199, 200]
def G_m_pinList : List (Nat × Nat) := [(121, 10), (121, 11), (121, 12), (121, 125)]
def m_pinList_2C (w : ev_W) (d : Nat) (v1 : Int) : (Int × iS) ⊕ ((iS) ⊕ ((iS) ⊕ ((iS) ⊕ (iS)))) → am_E → Prop := fun q r => q.elim (fun l => ev w d 445 2 ((fun l => [(0, .ref (tb_nK + 121)), (1, iv v1), (2, iv (l.1))]) l) [] (hT ((fun l => l.2) l)) r) (fun e => (fun e r => e.elim (fun e => ev w d 445 26 [(0, .ref (tb_nK + 121))] [] (hT (e)) r) (fun e => e.elim (fun e => ev w d 445 64 [] [] (hT (e)) r) (fun e => e.elim (fun e => ev w d 445 151 [] [] (hT (e)) r) (fun e => ev w d 445 220 [(0, .ref (tb_nK + 121))] [] (hT (e)) r)))) e r)
noncomputable def m_pinList_192 (v1 : Int) (s : iS) : Option ((Int × iS) ⊕ ((iS) ⊕ ((iS) ⊕ ((iS) ⊕ (iS))))) := lt' (up s 121 125 ((s 121 125) + 1)) (fun s1 => bd (m_isSign 44 s1) (fun r2 s2 => gd (rg r2) (if r2 = 0 then some (.inl (r2, s2)) else bd (m_go s2) (fun _ s5 => some (.inl (r2, s5))))))
theorem tm_pinList_192 (w : ev_W) (d : Nat) (hd : 3 ≤ d) (v1 : Int) (s : iS) : Ew hT w d 445 192 [(0, .ref (tb_nK + 121)), (1, iv v1)] [] s (m_pinList_2C w d v1) (m_pinList_192 v1 s) := by
  unfold m_pinList_192
  refine e_mv 193 em_445 (ce_at ce_445 106 rfl) rfl rfl ?_
  refine e_mv 194 em_445 (ce_at ce_445 107 rfl) rfl rfl ?_
  refine e_get 197 em_445 (ce_at ce_445 108 rfl) tq_121 rfl rfl ?_
  refine e_op 198 em_445 (ce_at ce_445 109 rfl) rfl rfl ?_
  refine e_iadd 199 em_445 rfl (ce_at ce_445 110 rfl) ?_
  refine e_put 202 em_445 (ce_at ce_445 111 rfl) tq_121 rfl rfl rfl (fun s1 => ?_)
  refine e_mv 203 em_445 (ce_at ce_445 112 rfl) rfl rfl ?_
  refine e_bip 205 em_445 (ce_at ce_445 113 rfl) (by decide) rfl ?_
  refine e_ivi 208 em_445 (ce_at ce_445 114 rfl) (by omega) (iv_v1 (by decide) tq_121 rfl) em_320 (Nat.le_of_ble_eq_true rfl) rfl (tm_isSign w (d - 1) (by omega) _ _) (fun r2 s2 => ?_)
  refine e_mv 209 em_445 (ce_at ce_445 115 rfl) rfl rfl ?_
  refine e_mv 210 em_445 (ce_at ce_445 116 rfl) rfl rfl ?_
  refine e_gd fun g3 => ?_
  refine e_ifeq 2 213 em_445 rfl rfl (ce_at ce_445 117 rfl) g3 (fun h4 => ?_) (fun h4 => ?_)
  · refine e_pk [0, 1, 2] rfl rfl ?_
    exact e_out (fun r h => h)
  · refine e_mv 214 em_445 (ce_at ce_445 118 rfl) rfl rfl ?_
    refine e_ivv 217 em_445 (ce_at ce_445 119 rfl) (by omega) (iv_v0 (by decide) tq_121 rfl) em_315 (Nat.le_of_ble_eq_true rfl) rfl (tm_go w (d - 1) (by omega) _) (fun r5 s5 => ?_)
    refine e_goto em_445 2 (ce_at ce_445 120 rfl) rfl ?_
    refine e_pk [0, 1, 2] rfl rfl ?_
    exact e_out (fun r h => h)
theorem fm_pinList_192 (v1 : Int) (s : iS) : Fm (fun r : (Int × iS) ⊕ ((iS) ⊕ ((iS) ⊕ ((iS) ⊕ (iS)))) => r.elim (fun l => l.2) (fun e => e.elim (fun e => e) (fun e => e.elim (fun e => e) (fun e => e.elim (fun e => e) (fun e => e))))) L_m_pinList G_m_pinList s (m_pinList_192 v1 s) := fm_lt (md_upF (mem_F rfl)) (fun s1 => fm_bd (fm_sub (fm_isSign _ _) (mem_sub_L rfl) (mem_sub_F rfl)) (fun r2 s2 => fm_gd (fm_if (fm_some md_refl) (fm_bd (fm_sub (fm_go _) (mem_sub_L rfl) (mem_sub_F rfl)) (fun r5 s5 => fm_some md_refl)))))
noncomputable def m_pinList_191 (v1 : Int) (t0 : Int) (t1 : Int) (s : iS) : Option ((Int × iS) ⊕ ((iS) ⊕ ((iS) ⊕ ((iS) ⊕ (iS))))) := gd (0 ≤ t1 ∧ t1 < 200) (lt' (up s 199 t1.toNat t0) (fun s2 => m_pinList_192 v1 s2))
theorem tm_pinList_191 (w : ev_W) (d : Nat) (hd : 3 ≤ d) (v1 : Int) (t0 : Int) (t1 : Int) (s : iS) : Ew hT w d 445 191 [(0, .ref (tb_nK + 121)), (1, iv v1)] [iv t0, iv t1, .ref (tb_nK + 199)] s (m_pinList_2C w d v1) (m_pinList_191 v1 t0 t1 s) := by
  unfold m_pinList_191
  refine e_gd fun g1 => ?_
  refine e_ist 192 em_445 (ce_at ce_445 105 rfl) tq_199 (by decide) g1 rfl (fun s2 => ?_)
  refine e_pk [0, 1] rfl rfl ?_
  exact tm_pinList_192 w d hd _ _
theorem fm_pinList_191 (v1 : Int) (t0 : Int) (t1 : Int) (s : iS) : Fm (fun r : (Int × iS) ⊕ ((iS) ⊕ ((iS) ⊕ ((iS) ⊕ (iS)))) => r.elim (fun l => l.2) (fun e => e.elim (fun e => e) (fun e => e.elim (fun e => e) (fun e => e.elim (fun e => e) (fun e => e))))) L_m_pinList G_m_pinList s (m_pinList_191 v1 t0 t1 s) := fm_gd (fm_lt (md_upL (mem_L rfl)) (fun s2 => fm_pinList_192 _ _))
noncomputable def m_pinList_186 (v1 : Int) (t0 : Int) (s : iS) : Option ((Int × iS) ⊕ ((iS) ⊕ ((iS) ⊕ ((iS) ⊕ (iS))))) := m_pinList_191 v1 1 t0 s
theorem tm_pinList_186 (w : ev_W) (d : Nat) (hd : 3 ≤ d) (v1 : Int) (t0 : Int) (s : iS) : Ew hT w d 445 186 [(0, .ref (tb_nK + 121)), (1, iv v1)] [iv t0, .ref (tb_nK + 199)] s (m_pinList_2C w d v1) (m_pinList_186 v1 t0 s) := by
  unfold m_pinList_186
  refine e_op 187 em_445 (ce_at ce_445 102 rfl) rfl rfl ?_
  refine e_goto em_445 191 (ce_at ce_445 103 rfl) rfl ?_
  refine e_pk [0, 1] rfl rfl ?_
  exact tm_pinList_191 w d hd _ _ _ _
theorem fm_pinList_186 (v1 : Int) (t0 : Int) (s : iS) : Fm (fun r : (Int × iS) ⊕ ((iS) ⊕ ((iS) ⊕ ((iS) ⊕ (iS)))) => r.elim (fun l => l.2) (fun e => e.elim (fun e => e) (fun e => e.elim (fun e => e) (fun e => e.elim (fun e => e) (fun e => e))))) L_m_pinList G_m_pinList s (m_pinList_186 v1 t0 s) := fm_pinList_191 _ _ _ _
noncomputable def m_pinList_2b (v1 : Int) (v2 : Int) (s : iS) : Option ((Int × iS) ⊕ ((iS) ⊕ ((iS) ⊕ ((iS) ⊕ (iS))))) := gd (rg v2) (if v2 = 0 then some (.inr (.inr (.inr (.inr s)))) else gd (rg (s 121 11)) (if (s 121 11) = 0 then gd (0 ≤ (s 121 10) ∧ (s 121 10) < 2002) (gd (rg (s 124 (s 121 10).toNat)) (if (s 124 (s 121 10).toNat) = 1 then gd (0 ≤ ((s 121 122) - 1) ∧ ((s 121 122) - 1) < 18) (bd (m_room ((s 121 125) - (s 196 ((s 121 122) - 1).toNat)) 12 (s 121 10) s) (fun _ s9 => gd (rg (s9 121 11)) (if (s9 121 11) ≤ 0 then gd (0 ≤ (s9 121 125) ∧ (s9 121 125) < 200) (lt' (up s9 198 (s9 121 125).toNat (s9 121 10)) (fun s13 => gd (0 ≤ (s13 121 125) ∧ (s13 121 125) < 200) (gd (v1 = 0 ∨ v1 = 1) (lt' (up s13 197 (s13 121 125).toNat v1) (fun s16 => gd (0 ≤ (s16 121 125) ∧ (s16 121 125) < 200) (lt' (up s16 200 (s16 121 125).toNat (-1)) (fun s18 => gd (0 ≤ (s18 121 125) ∧ (s18 121 125) < 200) (lt' (up s18 199 (s18 121 125).toNat 1) (fun s20 => bd (m_go s20) (fun _ s21 => bd (m_isSign 91 s21) (fun r22 s22 => gd (rg r22) (if r22 = 0 then m_pinList_192 v1 s22 else bd (m_go s22) (fun _ s25 => bd (m_needNumber s25) (fun r26 s26 => gd (0 ≤ (s25 121 125) ∧ (s25 121 125) < 200) (lt' (up s26 200 (s25 121 125).toNat r26) (fun s28 => bd (m_needSign 93 s28) (fun _ s29 => gd (rg (s29 121 11)) (if (s29 121 11) ≤ 0 then gd (0 ≤ (s29 121 125) ∧ (s29 121 125) < 200) (gd (0 ≤ (s29 200 (s29 121 125).toNat) ∧ (s29 200 (s29 121 125).toNat) < 2002) (gd (rg (s29 127 (s29 200 (s29 121 125).toNat).toNat)) (if (s29 127 (s29 200 (s29 121 125).toNat).toNat) < 1 then m_pinList_186 v1 (s29 121 125) s29 else if (s29 127 (s29 200 (s29 121 125).toNat).toNat) ≤ 16 then m_pinList_191 v1 (s29 127 (s29 200 (s29 121 125).toNat).toNat) (s29 121 125) s29 else m_pinList_186 v1 (s29 121 125) s29))) else some (.inr (.inr (.inr (.inl s29)))))))))))))))))))))) else some (.inr (.inr (.inl s9)))))) else some (.inr (.inl s)))) else some (.inr (.inr (.inr (.inr s))))))
theorem tm_pinList_2b (w : ev_W) (d : Nat) (hd : 3 ≤ d) (v1 : Int) (v2 : Int) (s : iS) : Ew hT w d 445 2 [(0, .ref (tb_nK + 121)), (1, iv v1), (2, iv v2)] [] s (m_pinList_2C w d v1) (m_pinList_2b v1 v2 s) := by
  unfold m_pinList_2b
  refine e_mv 3 em_445 (ce_at ce_445 2 rfl) rfl rfl ?_
  refine e_gd fun g1 => ?_
  refine e_ifeq 220 6 em_445 rfl rfl (ce_at ce_445 3 rfl) g1 (fun h2 => ?_) (fun h2 => ?_)
  · refine e_pk [0] rfl rfl ?_
    exact e_out (fun r h => h)
  · refine e_mv 7 em_445 (ce_at ce_445 4 rfl) rfl rfl ?_
    refine e_get 10 em_445 (ce_at ce_445 5 rfl) tq_121 rfl rfl ?_
    refine e_gd fun g3 => ?_
    refine e_ifne 220 13 em_445 rfl rfl (ce_at ce_445 6 rfl) g3 (fun h4 => ?_) (fun h4 => ?_)
    · refine e_pk [0] rfl rfl ?_
      exact e_out (fun r h => h)
    · refine e_mv 14 em_445 (ce_at ce_445 7 rfl) rfl rfl ?_
      refine e_getr 17 em_445 (ce_at ce_445 8 rfl) tq_121 rfl rfl ?_
      refine e_mv 18 em_445 (ce_at ce_445 9 rfl) rfl rfl ?_
      refine e_get 21 em_445 (ce_at ce_445 10 rfl) tq_121 rfl rfl ?_
      refine e_gd fun g5 => ?_
      refine e_ild 22 em_445 (ce_at ce_445 11 rfl) tq_124 (by decide) g5 rfl ?_
      refine e_op 23 em_445 (ce_at ce_445 12 rfl) rfl rfl ?_
      refine e_gd fun g6 => ?_
      refine e_cmeq 31 26 em_445 rfl rfl (ce_at ce_445 13 rfl) g6 (by decide) (fun h7 => ?_) (fun h7 => ?_)
      · refine e_mv 32 em_445 (ce_at ce_445 17 rfl) rfl rfl ?_
        refine e_mv 33 em_445 (ce_at ce_445 18 rfl) rfl rfl ?_
        refine e_get 36 em_445 (ce_at ce_445 19 rfl) tq_121 rfl rfl ?_
        refine e_mv 37 em_445 (ce_at ce_445 20 rfl) rfl rfl ?_
        refine e_getr 40 em_445 (ce_at ce_445 21 rfl) tq_121 rfl rfl ?_
        refine e_mv 41 em_445 (ce_at ce_445 22 rfl) rfl rfl ?_
        refine e_get 44 em_445 (ce_at ce_445 23 rfl) tq_121 rfl rfl ?_
        refine e_op 45 em_445 (ce_at ce_445 24 rfl) rfl rfl ?_
        refine e_isub 46 em_445 rfl (ce_at ce_445 25 rfl) ?_
        refine e_gd fun g8 => ?_
        refine e_ild 47 em_445 (ce_at ce_445 26 rfl) tq_196 (by decide) g8 rfl ?_
        refine e_isub 48 em_445 rfl (ce_at ce_445 27 rfl) ?_
        refine e_bip 50 em_445 (ce_at ce_445 28 rfl) (by decide) rfl ?_
        refine e_mv 51 em_445 (ce_at ce_445 29 rfl) rfl rfl ?_
        refine e_get 54 em_445 (ce_at ce_445 30 rfl) tq_121 rfl rfl ?_
        refine e_ivv 57 em_445 (ce_at ce_445 31 rfl) (by omega) (iv_v3 (by decide) tq_121 rfl) em_318 (Nat.le_of_ble_eq_true rfl) rfl (tm_room w (d - 1) (by omega) _ _ _ _) (fun r9 s9 => ?_)
        refine e_mv 58 em_445 (ce_at ce_445 32 rfl) rfl rfl ?_
        refine e_get 61 em_445 (ce_at ce_445 33 rfl) tq_121 rfl rfl ?_
        refine e_gd fun g10 => ?_
        refine e_ifle 65 64 em_445 rfl rfl (ce_at ce_445 34 rfl) g10 (fun h11 => ?_) (fun h11 => ?_)
        · refine e_mv 66 em_445 (ce_at ce_445 36 rfl) rfl rfl ?_
          refine e_getr 69 em_445 (ce_at ce_445 37 rfl) tq_121 rfl rfl ?_
          refine e_mv 70 em_445 (ce_at ce_445 38 rfl) rfl rfl ?_
          refine e_get 73 em_445 (ce_at ce_445 39 rfl) tq_121 rfl rfl ?_
          refine e_mv 74 em_445 (ce_at ce_445 40 rfl) rfl rfl ?_
          refine e_get 77 em_445 (ce_at ce_445 41 rfl) tq_121 rfl rfl ?_
          refine e_gd fun g12 => ?_
          refine e_ist 78 em_445 (ce_at ce_445 42 rfl) tq_198 (by decide) g12 rfl (fun s13 => ?_)
          refine e_mv 79 em_445 (ce_at ce_445 43 rfl) rfl rfl ?_
          refine e_getr 82 em_445 (ce_at ce_445 44 rfl) tq_121 rfl rfl ?_
          refine e_mv 83 em_445 (ce_at ce_445 45 rfl) rfl rfl ?_
          refine e_get 86 em_445 (ce_at ce_445 46 rfl) tq_121 rfl rfl ?_
          refine e_mv 87 em_445 (ce_at ce_445 47 rfl) rfl rfl ?_
          refine e_gd fun g14 => ?_
          refine e_gd fun g15 => ?_
          refine e_zst 88 em_445 (ce_at ce_445 48 rfl) tq_197 (by decide) g14 g15 rfl (fun s16 => ?_)
          refine e_mv 89 em_445 (ce_at ce_445 49 rfl) rfl rfl ?_
          refine e_getr 92 em_445 (ce_at ce_445 50 rfl) tq_121 rfl rfl ?_
          refine e_mv 93 em_445 (ce_at ce_445 51 rfl) rfl rfl ?_
          refine e_get 96 em_445 (ce_at ce_445 52 rfl) tq_121 rfl rfl ?_
          refine e_op 97 em_445 (ce_at ce_445 53 rfl) rfl rfl ?_
          refine e_gd fun g17 => ?_
          refine e_ist 98 em_445 (ce_at ce_445 54 rfl) tq_200 (by decide) g17 rfl (fun s18 => ?_)
          refine e_mv 99 em_445 (ce_at ce_445 55 rfl) rfl rfl ?_
          refine e_getr 102 em_445 (ce_at ce_445 56 rfl) tq_121 rfl rfl ?_
          refine e_mv 103 em_445 (ce_at ce_445 57 rfl) rfl rfl ?_
          refine e_get 106 em_445 (ce_at ce_445 58 rfl) tq_121 rfl rfl ?_
          refine e_op 107 em_445 (ce_at ce_445 59 rfl) rfl rfl ?_
          refine e_gd fun g19 => ?_
          refine e_ist 108 em_445 (ce_at ce_445 60 rfl) tq_199 (by decide) g19 rfl (fun s20 => ?_)
          refine e_mv 109 em_445 (ce_at ce_445 61 rfl) rfl rfl ?_
          refine e_ivv 112 em_445 (ce_at ce_445 62 rfl) (by omega) (iv_v0 (by decide) tq_121 rfl) em_315 (Nat.le_of_ble_eq_true rfl) rfl (tm_go w (d - 1) (by omega) _) (fun r21 s21 => ?_)
          refine e_mv 113 em_445 (ce_at ce_445 63 rfl) rfl rfl ?_
          refine e_bip 115 em_445 (ce_at ce_445 64 rfl) (by decide) rfl ?_
          refine e_ivi 118 em_445 (ce_at ce_445 65 rfl) (by omega) (iv_v1 (by decide) tq_121 rfl) em_320 (Nat.le_of_ble_eq_true rfl) rfl (tm_isSign w (d - 1) (by omega) _ _) (fun r22 s22 => ?_)
          refine e_gd fun g23 => ?_
          refine e_ifeq 192 121 em_445 rfl rfl (ce_at ce_445 66 rfl) g23 (fun h24 => ?_) (fun h24 => ?_)
          · refine e_pk [0, 1] rfl rfl ?_
            exact tm_pinList_192 w d hd _ _
          · refine e_mv 122 em_445 (ce_at ce_445 67 rfl) rfl rfl ?_
            refine e_ivv 125 em_445 (ce_at ce_445 68 rfl) (by omega) (iv_v0 (by decide) tq_121 rfl) em_315 (Nat.le_of_ble_eq_true rfl) rfl (tm_go w (d - 1) (by omega) _) (fun r25 s25 => ?_)
            refine e_mv 126 em_445 (ce_at ce_445 69 rfl) rfl rfl ?_
            refine e_getr 129 em_445 (ce_at ce_445 70 rfl) tq_121 rfl rfl ?_
            refine e_mv 130 em_445 (ce_at ce_445 71 rfl) rfl rfl ?_
            refine e_get 133 em_445 (ce_at ce_445 72 rfl) tq_121 rfl rfl ?_
            refine e_mv 134 em_445 (ce_at ce_445 73 rfl) rfl rfl ?_
            refine e_ivi 137 em_445 (ce_at ce_445 74 rfl) (by omega) (iv_v0 (by decide) tq_121 rfl) em_446 (Nat.le_of_ble_eq_true rfl) rfl (tm_needNumber w (d - 1) (by omega) _) (fun r26 s26 => ?_)
            refine e_gd fun g27 => ?_
            refine e_ist 138 em_445 (ce_at ce_445 75 rfl) tq_200 (by decide) g27 rfl (fun s28 => ?_)
            refine e_mv 139 em_445 (ce_at ce_445 76 rfl) rfl rfl ?_
            refine e_bip 141 em_445 (ce_at ce_445 77 rfl) (by decide) rfl ?_
            refine e_ivv 144 em_445 (ce_at ce_445 78 rfl) (by omega) (iv_v1 (by decide) tq_121 rfl) em_325 (Nat.le_of_ble_eq_true rfl) rfl (tm_needSign w (d - 1) (by omega) _ _) (fun r29 s29 => ?_)
            refine e_mv 145 em_445 (ce_at ce_445 79 rfl) rfl rfl ?_
            refine e_get 148 em_445 (ce_at ce_445 80 rfl) tq_121 rfl rfl ?_
            refine e_gd fun g30 => ?_
            refine e_ifle 152 151 em_445 rfl rfl (ce_at ce_445 81 rfl) g30 (fun h31 => ?_) (fun h31 => ?_)
            · refine e_mv 153 em_445 (ce_at ce_445 83 rfl) rfl rfl ?_
              refine e_getr 156 em_445 (ce_at ce_445 84 rfl) tq_121 rfl rfl ?_
              refine e_mv 157 em_445 (ce_at ce_445 85 rfl) rfl rfl ?_
              refine e_getr 160 em_445 (ce_at ce_445 86 rfl) tq_121 rfl rfl ?_
              refine e_mv 161 em_445 (ce_at ce_445 87 rfl) rfl rfl ?_
              refine e_get 164 em_445 (ce_at ce_445 88 rfl) tq_121 rfl rfl ?_
              refine e_gd fun g32 => ?_
              refine e_ild 165 em_445 (ce_at ce_445 89 rfl) tq_200 (by decide) g32 rfl ?_
              refine e_gd fun g33 => ?_
              refine e_ild 166 em_445 (ce_at ce_445 90 rfl) tq_127 (by decide) g33 rfl ?_
              refine e_mv 167 em_445 (ce_at ce_445 91 rfl) rfl rfl ?_
              refine e_mv 168 em_445 (ce_at ce_445 92 rfl) rfl rfl ?_
              refine e_getr 171 em_445 (ce_at ce_445 93 rfl) tq_121 rfl rfl ?_
              refine e_mv 172 em_445 (ce_at ce_445 94 rfl) rfl rfl ?_
              refine e_get 175 em_445 (ce_at ce_445 95 rfl) tq_121 rfl rfl ?_
              refine e_mv 176 em_445 (ce_at ce_445 96 rfl) rfl rfl ?_
              refine e_op 177 em_445 (ce_at ce_445 97 rfl) rfl rfl ?_
              refine e_gd fun g34 => ?_
              refine e_cmlt 186 180 em_445 rfl rfl (ce_at ce_445 98 rfl) g34 (by decide) (fun h35 => ?_) (fun h35 => ?_)
              · refine e_pk [0, 1] rfl rfl ?_
                exact tm_pinList_186 w d hd _ _ _
              · refine e_mv 181 em_445 (ce_at ce_445 99 rfl) rfl rfl ?_
                refine e_bip 183 em_445 (ce_at ce_445 100 rfl) (by decide) rfl ?_
                refine e_cmle 190 186 em_445 rfl rfl (ce_at ce_445 101 rfl) g34 (by decide) (fun h36 => ?_) (fun h36 => ?_)
                · refine e_mv 191 em_445 (ce_at ce_445 104 rfl) rfl rfl ?_
                  refine e_pk [0, 1] rfl rfl ?_
                  exact tm_pinList_191 w d hd _ _ _ _
                · refine e_pk [0, 1] rfl rfl ?_
                  exact tm_pinList_186 w d hd _ _ _
            · refine e_pk [] rfl rfl ?_
              exact e_out (fun r h => h)
        · refine e_pk [] rfl rfl ?_
          exact e_out (fun r h => h)
      · refine e_pk [0] rfl rfl ?_
        exact e_out (fun r h => h)
theorem fm_pinList_2b (v1 : Int) (v2 : Int) (s : iS) : Fm (fun r : (Int × iS) ⊕ ((iS) ⊕ ((iS) ⊕ ((iS) ⊕ (iS)))) => r.elim (fun l => l.2) (fun e => e.elim (fun e => e) (fun e => e.elim (fun e => e) (fun e => e.elim (fun e => e) (fun e => e))))) L_m_pinList G_m_pinList s (m_pinList_2b v1 v2 s) := fm_gd (fm_if (fm_some md_refl) (fm_gd (fm_if (fm_gd (fm_gd (fm_if (fm_gd (fm_bd (fm_sub (fm_room _ _ _ _) (mem_sub_L rfl) (mem_sub_F rfl)) (fun r9 s9 => fm_gd (fm_if (fm_gd (fm_lt (md_upL (mem_L rfl)) (fun s13 => fm_gd (fm_gd (fm_lt (md_upL (mem_L rfl)) (fun s16 => fm_gd (fm_lt (md_upL (mem_L rfl)) (fun s18 => fm_gd (fm_lt (md_upL (mem_L rfl)) (fun s20 => fm_bd (fm_sub (fm_go _) (mem_sub_L rfl) (mem_sub_F rfl)) (fun r21 s21 => fm_bd (fm_sub (fm_isSign _ _) (mem_sub_L rfl) (mem_sub_F rfl)) (fun r22 s22 => fm_gd (fm_if (fm_pinList_192 _ _) (fm_bd (fm_sub (fm_go _) (mem_sub_L rfl) (mem_sub_F rfl)) (fun r25 s25 => fm_bd (fm_sub (fm_needNumber _) (mem_sub_L rfl) (mem_sub_F rfl)) (fun r26 s26 => fm_gd (fm_lt (md_upL (mem_L rfl)) (fun s28 => fm_bd (fm_sub (fm_needSign _ _) (mem_sub_L rfl) (mem_sub_F rfl)) (fun r29 s29 => fm_gd (fm_if (fm_gd (fm_gd (fm_gd (fm_if (fm_pinList_186 _ _ _) (fm_if (fm_pinList_191 _ _ _ _) (fm_pinList_186 _ _ _)))))) (fm_some md_refl))))))))))))))))))))) (fm_some md_refl))))) (fm_some md_refl)))) (fm_some md_refl))))
noncomputable def m_pinList_26 (s : iS) : Option (Int × iS) := bd (m_syntax s) (fun _ s1 => some (0, s1))
theorem tm_pinList_26 (w : ev_W) (d : Nat) (hd : 3 ≤ d) (s : iS) : Ew hT w d 445 26 [(0, .ref (tb_nK + 121))] [] s (Cv hT) (m_pinList_26 s) := by
  unfold m_pinList_26
  refine e_mv 27 em_445 (ce_at ce_445 14 rfl) rfl rfl ?_
  refine e_ivv 30 em_445 (ce_at ce_445 15 rfl) (by omega) (iv_v0 (by decide) tq_121 rfl) em_316 (Nat.le_of_ble_eq_true rfl) rfl (tm_syntax w (d - 1) (by omega) _) (fun r1 s1 => ?_)
  exact e_retv em_445 (ce_at ce_445 16 rfl)
theorem fm_pinList_26 (s : iS) : Fm Prod.snd L_m_pinList G_m_pinList s (m_pinList_26 s) := fm_bd (fm_sub (fm_syntax _) (mem_sub_L rfl) (mem_sub_F rfl)) (fun r1 s1 => fm_some md_refl)
noncomputable def m_pinList_220 (s : iS) : Option (Int × iS) := bd (m_needSign 59 s) (fun _ s1 => some (0, s1))
theorem tm_pinList_220 (w : ev_W) (d : Nat) (hd : 3 ≤ d) (s : iS) : Ew hT w d 445 220 [(0, .ref (tb_nK + 121))] [] s (Cv hT) (m_pinList_220 s) := by
  unfold m_pinList_220
  refine e_mv 221 em_445 (ce_at ce_445 121 rfl) rfl rfl ?_
  refine e_bip 223 em_445 (ce_at ce_445 122 rfl) (by decide) rfl ?_
  refine e_ivv 226 em_445 (ce_at ce_445 123 rfl) (by omega) (iv_v1 (by decide) tq_121 rfl) em_325 (Nat.le_of_ble_eq_true rfl) rfl (tm_needSign w (d - 1) (by omega) _ _) (fun r1 s1 => ?_)
  exact e_retv em_445 (ce_at ce_445 124 rfl)
theorem fm_pinList_220 (s : iS) : Fm Prod.snd L_m_pinList G_m_pinList s (m_pinList_220 s) := fm_bd (fm_sub (fm_needSign _ _) (mem_sub_L rfl) (mem_sub_F rfl)) (fun r1 s1 => fm_some md_refl)
noncomputable def m_pinList_2 (v1 : Int) (v2 : Int) (s : iS) : Option (Int × iS) := (lp (L := Int × iS) (E := (iS) ⊕ ((iS) ⊕ ((iS) ⊕ (iS)))) (fun l => m_pinList_2b v1 (l.1) (l.2)) (v2, s)).bind (fun e => e.elim (fun e => m_pinList_26 e) (fun e => e.elim (fun e => some (0, e)) (fun e => e.elim (fun e => some (0, e)) (fun e => m_pinList_220 e))))
theorem tm_pinList_2 (w : ev_W) (d : Nat) (hd : 3 ≤ d) (v1 : Int) (v2 : Int) (s : iS) : Ew hT w d 445 2 [(0, .ref (tb_nK + 121)), (1, iv v1), (2, iv v2)] [] s (Cv hT) (m_pinList_2 v1 v2 s) := by
  unfold m_pinList_2
  refine e_lp (LO := fun l => [(0, .ref (tb_nK + 121)), (1, iv v1), (2, iv (l.1))]) (LS := fun l => l.2) (CE := fun e r => e.elim (fun e => ev w d 445 26 [(0, .ref (tb_nK + 121))] [] (hT (e)) r) (fun e => e.elim (fun e => ev w d 445 64 [] [] (hT (e)) r) (fun e => e.elim (fun e => ev w d 445 151 [] [] (hT (e)) r) (fun e => ev w d 445 220 [(0, .ref (tb_nK + 121))] [] (hT (e)) r)))) (fun l => tm_pinList_2b w d hd _ _ _) ?_ (v2, s)
  rintro (e | e | e | e)
  · show Ew hT w d 445 26 [(0, .ref (tb_nK + 121))] [] e (Cv hT) _
    refine e_pk [0] rfl rfl ?_
    exact tm_pinList_26 w d hd _
  · show Ew hT w d 445 64 [] [] e (Cv hT) _
    exact e_retv em_445 (ce_at ce_445 35 rfl)
  · show Ew hT w d 445 151 [] [] e (Cv hT) _
    exact e_retv em_445 (ce_at ce_445 82 rfl)
  · show Ew hT w d 445 220 [(0, .ref (tb_nK + 121))] [] e (Cv hT) _
    refine e_pk [0] rfl rfl ?_
    exact tm_pinList_220 w d hd _
theorem fm_pinList_2 (v1 : Int) (v2 : Int) (s : iS) : Fm Prod.snd L_m_pinList G_m_pinList s (m_pinList_2 v1 v2 s) := fm_lp (LS := fun l => l.2) (LE := fun e => e.elim (fun e => e) (fun e => e.elim (fun e => e) (fun e => e.elim (fun e => e) (fun e => e)))) (fun l => fm_pinList_2b _ _ _) (fm_elim (fun e => fm_pinList_26 _) (fm_elim (fun e => fm_some md_refl) (fm_elim (fun e => fm_some md_refl) (fun e => fm_pinList_220 _)))) (v2, s)
noncomputable def m_pinList (v1 : Int) (s : iS) : Option (Int × iS) := m_pinList_2 v1 1 s
theorem tm_pinList (w : ev_W) (d : Nat) (hd : 3 ≤ d) (v1 : Int) (s : iS) : Ew hT w d 445 0 [(0, .ref (tb_nK + 121)), (1, iv v1)] [] s (Cv hT) (m_pinList v1 s) := by
  unfold m_pinList
  refine e_op 1 em_445 (ce_at ce_445 0 rfl) rfl rfl ?_
  refine e_mv 2 em_445 (ce_at ce_445 1 rfl) rfl rfl ?_
  refine e_pk [0, 1, 2] rfl rfl ?_
  exact tm_pinList_2 w d hd _ _ _
theorem fm_pinList (v1 : Int) (s : iS) : Fm Prod.snd L_m_pinList G_m_pinList s (m_pinList v1 s) := fm_pinList_2 _ _ _
