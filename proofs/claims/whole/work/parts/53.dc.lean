/-! what the methods do, as functions, and that the machine does it; printed by wip/whole/dc.py -/
/-! m_checkLinks -/
def L_m_checkLinks : List Nat := [215, 217, 218]
def G_m_checkLinks : List (Nat × Nat) := [(121, 69), (121, 70)]
def m_checkLinks_2C (w : ev_W) (d : Nat) (v1 : Int) : (Int × iS) ⊕ (iS) → am_E → Prop := fun q r => q.elim (fun l => ev w d 461 2 ((fun l => [(0, .ref (tb_nK + 121)), (1, iv v1), (2, iv (l.1))]) l) [] (hT ((fun l => l.2) l)) r) (fun e => (fun e r => ev w d 461 22 [(0, .ref (tb_nK + 121)), (1, iv v1)] [] (hT (e)) r) e r)
noncomputable def m_checkLinks_2b (v1 : Int) (v2 : Int) (s : iS) : Option ((Int × iS) ⊕ (iS)) := gd (rg v2) (if 200 ≤ v2 then some (.inr s) else gd (0 ≤ v2 ∧ v2 < 200) (lt' (up s 218 v2.toNat 0) (fun s4 => some (.inl ((v2 + 1), s4)))))
theorem tm_checkLinks_2b (w : ev_W) (d : Nat) (hd : 3 ≤ d) (v1 : Int) (v2 : Int) (s : iS) : Ew hT w d 461 2 [(0, .ref (tb_nK + 121)), (1, iv v1), (2, iv v2)] [] s (m_checkLinks_2C w d v1) (m_checkLinks_2b v1 v2 s) := by
  unfold m_checkLinks_2b
  refine e_mv 3 em_461 (ce_at ce_461 2 rfl) rfl rfl ?_
  refine e_sip 6 em_461 (ce_at ce_461 3 rfl) (by decide) rfl ?_
  refine e_gd fun g1 => ?_
  refine e_cmge 22 9 em_461 rfl rfl (ce_at ce_461 4 rfl) g1 (by decide) (fun h2 => ?_) (fun h2 => ?_)
  · refine e_pk [0, 1] rfl rfl ?_
    exact e_out (fun r h => h)
  · refine e_mv 10 em_461 (ce_at ce_461 5 rfl) rfl rfl ?_
    refine e_getr 13 em_461 (ce_at ce_461 6 rfl) tq_121 rfl rfl ?_
    refine e_mv 14 em_461 (ce_at ce_461 7 rfl) rfl rfl ?_
    refine e_op 15 em_461 (ce_at ce_461 8 rfl) rfl rfl ?_
    refine e_gd fun g3 => ?_
    refine e_ist 16 em_461 (ce_at ce_461 9 rfl) tq_218 (by decide) g3 rfl (fun s4 => ?_)
    refine e_iinc 19 em_461 (ce_at ce_461 10 rfl) rfl (by decide) rfl ?_
    refine e_goto em_461 2 (ce_at ce_461 11 rfl) rfl ?_
    refine e_pk [0, 1, 2] rfl rfl ?_
    exact e_out (fun r h => h)
theorem fm_checkLinks_2b (v1 : Int) (v2 : Int) (s : iS) : Fm (fun r : (Int × iS) ⊕ (iS) => r.elim (fun l => l.2) (fun e => e)) L_m_checkLinks G_m_checkLinks s (m_checkLinks_2b v1 v2 s) := fm_gd (fm_if (fm_some md_refl) (fm_gd (fm_lt (md_upL (mem_L rfl)) (fun s4 => fm_some md_refl))))
def m_checkLinks_70C (w : ev_W) (d : Nat) (v1 : Int) (v2 : Int) (v3 : Int) : (Int × iS) ⊕ (iS) → am_E → Prop := fun q r => q.elim (fun l => ev w d 461 70 ((fun l => [(0, .ref (tb_nK + 121)), (1, iv v1), (2, iv v2), (3, iv v3), (4, iv (l.1))]) l) [] (hT ((fun l => l.2) l)) r) (fun e => (fun e r => ev w d 461 92 [(0, .ref (tb_nK + 121)), (1, iv v1), (2, iv v2), (3, iv v3)] [] (hT (e)) r) e r)
noncomputable def m_checkLinks_70b (v1 : Int) (v2 : Int) (v3 : Int) (v4 : Int) (s : iS) : Option ((Int × iS) ⊕ (iS)) := gd (rg v4) (if 200 ≤ v4 then some (.inr s) else gd (0 ≤ v4 ∧ v4 < 200) (lt' (up s 217 v4.toNat 0) (fun s4 => some (.inl ((v4 + 1), s4)))))
theorem tm_checkLinks_70b (w : ev_W) (d : Nat) (hd : 3 ≤ d) (v1 : Int) (v2 : Int) (v3 : Int) (v4 : Int) (s : iS) : Ew hT w d 461 70 [(0, .ref (tb_nK + 121)), (1, iv v1), (2, iv v2), (3, iv v3), (4, iv v4)] [] s (m_checkLinks_70C w d v1 v2 v3) (m_checkLinks_70b v1 v2 v3 v4 s) := by
  unfold m_checkLinks_70b
  refine e_mv 72 em_461 (ce_at ce_461 43 rfl) rfl rfl ?_
  refine e_sip 75 em_461 (ce_at ce_461 44 rfl) (by decide) rfl ?_
  refine e_gd fun g1 => ?_
  refine e_cmge 92 78 em_461 rfl rfl (ce_at ce_461 45 rfl) g1 (by decide) (fun h2 => ?_) (fun h2 => ?_)
  · refine e_pk [0, 1, 2, 3] rfl rfl ?_
    exact e_out (fun r h => h)
  · refine e_mv 79 em_461 (ce_at ce_461 46 rfl) rfl rfl ?_
    refine e_getr 82 em_461 (ce_at ce_461 47 rfl) tq_121 rfl rfl ?_
    refine e_mv 84 em_461 (ce_at ce_461 48 rfl) rfl rfl ?_
    refine e_op 85 em_461 (ce_at ce_461 49 rfl) rfl rfl ?_
    refine e_gd fun g3 => ?_
    refine e_ist 86 em_461 (ce_at ce_461 50 rfl) tq_217 (by decide) g3 rfl (fun s4 => ?_)
    refine e_iinc 89 em_461 (ce_at ce_461 51 rfl) rfl (by decide) rfl ?_
    refine e_goto em_461 70 (ce_at ce_461 52 rfl) rfl ?_
    refine e_pk [0, 1, 2, 3, 4] rfl rfl ?_
    exact e_out (fun r h => h)
theorem fm_checkLinks_70b (v1 : Int) (v2 : Int) (v3 : Int) (v4 : Int) (s : iS) : Fm (fun r : (Int × iS) ⊕ (iS) => r.elim (fun l => l.2) (fun e => e)) L_m_checkLinks G_m_checkLinks s (m_checkLinks_70b v1 v2 v3 v4 s) := fm_gd (fm_if (fm_some md_refl) (fm_gd (fm_lt (md_upL (mem_L rfl)) (fun s4 => fm_some md_refl))))
def m_checkLinks_100C (w : ev_W) (d : Nat) (v1 : Int) (v2 : Int) (v3 : Int) : (Int × iS) ⊕ (iS) → am_E → Prop := fun q r => q.elim (fun l => ev w d 461 100 ((fun l => [(0, .ref (tb_nK + 121)), (1, iv v1), (2, iv v2), (3, iv v3), (4, iv (l.1))]) l) [] (hT ((fun l => l.2) l)) r) (fun e => (fun e r => ev w d 461 350 [(0, .ref (tb_nK + 121)), (1, iv v1), (2, iv v2)] [] (hT (e)) r) e r)
noncomputable def m_checkLinks_333 (v1 : Int) (v2 : Int) (v3 : Int) (v4 : Int) (v8 : Int) (v9 : Int) (s : iS) : Option ((Int × iS) ⊕ (iS)) := bd (m_checkRight v1 v4 v9 v8 s) (fun _ s1 => some (.inl ((v4 + 1), s1)))
theorem tm_checkLinks_333 (w : ev_W) (d : Nat) (hd : 3 ≤ d) (v1 : Int) (v2 : Int) (v3 : Int) (v4 : Int) (v8 : Int) (v9 : Int) (s : iS) : Ew hT w d 461 333 [(0, .ref (tb_nK + 121)), (1, iv v1), (2, iv v2), (3, iv v3), (4, iv v4), (8, iv v8), (9, iv v9)] [] s (m_checkLinks_100C w d v1 v2 v3) (m_checkLinks_333 v1 v2 v3 v4 v8 v9 s) := by
  unfold m_checkLinks_333
  refine e_mv 334 em_461 (ce_at ce_461 187 rfl) rfl rfl ?_
  refine e_mv 335 em_461 (ce_at ce_461 188 rfl) rfl rfl ?_
  refine e_mv 337 em_461 (ce_at ce_461 189 rfl) rfl rfl ?_
  refine e_mv 339 em_461 (ce_at ce_461 190 rfl) rfl rfl ?_
  refine e_mv 341 em_461 (ce_at ce_461 191 rfl) rfl rfl ?_
  refine e_ivv 344 em_461 (ce_at ce_461 192 rfl) (by omega) (iv_v4 (by decide) tq_121 rfl) em_462 (Nat.le_of_ble_eq_true rfl) rfl (tm_checkRight w (d - 1) (by omega) _ _ _ _ _) (fun r1 s1 => ?_)
  refine e_iinc 347 em_461 (ce_at ce_461 193 rfl) rfl (by decide) rfl ?_
  refine e_goto em_461 100 (ce_at ce_461 194 rfl) rfl ?_
  refine e_pk [0, 1, 2, 3, 4] rfl rfl ?_
  exact e_out (fun r h => h)
theorem fm_checkLinks_333 (v1 : Int) (v2 : Int) (v3 : Int) (v4 : Int) (v8 : Int) (v9 : Int) (s : iS) : Fm (fun r : (Int × iS) ⊕ (iS) => r.elim (fun l => l.2) (fun e => e)) L_m_checkLinks G_m_checkLinks s (m_checkLinks_333 v1 v2 v3 v4 v8 v9 s) := fm_bd (fm_sub (fm_checkRight _ _ _ _ _) (mem_sub_L rfl) (mem_sub_F rfl)) (fun r1 s1 => fm_some md_refl)
noncomputable def m_checkLinks_316 (v1 : Int) (v2 : Int) (v3 : Int) (v4 : Int) (v5 : Int) (v8 : Int) (v9 : Int) (v10 : Int) (s : iS) : Option ((Int × iS) ⊕ (iS)) := gd (0 ≤ v5 ∧ v5 < 200) (lt' (up s 217 v5.toNat (i_or (s 217 v5.toNat) v10)) (fun s2 => m_checkLinks_333 v1 v2 v3 v4 v8 v9 s2))
theorem tm_checkLinks_316 (w : ev_W) (d : Nat) (hd : 3 ≤ d) (v1 : Int) (v2 : Int) (v3 : Int) (v4 : Int) (v5 : Int) (v8 : Int) (v9 : Int) (v10 : Int) (s : iS) : Ew hT w d 461 316 [(0, .ref (tb_nK + 121)), (1, iv v1), (2, iv v2), (3, iv v3), (4, iv v4), (5, iv v5), (8, iv v8), (9, iv v9), (10, iv v10)] [] s (m_checkLinks_100C w d v1 v2 v3) (m_checkLinks_316 v1 v2 v3 v4 v5 v8 v9 v10 s) := by
  unfold m_checkLinks_316
  refine e_mv 317 em_461 (ce_at ce_461 177 rfl) rfl rfl ?_
  refine e_getr 320 em_461 (ce_at ce_461 178 rfl) tq_121 rfl rfl ?_
  refine e_mv 322 em_461 (ce_at ce_461 179 rfl) rfl rfl ?_
  refine e_mv 323 em_461 (ce_at ce_461 180 rfl) rfl rfl ?_
  refine e_getr 326 em_461 (ce_at ce_461 181 rfl) tq_121 rfl rfl ?_
  refine e_mv 328 em_461 (ce_at ce_461 182 rfl) rfl rfl ?_
  refine e_gd fun g1 => ?_
  refine e_ild 329 em_461 (ce_at ce_461 183 rfl) tq_217 (by decide) g1 rfl ?_
  refine e_mv 331 em_461 (ce_at ce_461 184 rfl) rfl rfl ?_
  refine e_ior 332 em_461 rfl (ce_at ce_461 185 rfl) ?_
  refine e_ist 333 em_461 (ce_at ce_461 186 rfl) tq_217 (by decide) g1 rfl (fun s2 => ?_)
  refine e_pk [0, 1, 2, 3, 4, 8, 9] rfl rfl ?_
  exact tm_checkLinks_333 w d hd _ _ _ _ _ _ _
theorem fm_checkLinks_316 (v1 : Int) (v2 : Int) (v3 : Int) (v4 : Int) (v5 : Int) (v8 : Int) (v9 : Int) (v10 : Int) (s : iS) : Fm (fun r : (Int × iS) ⊕ (iS) => r.elim (fun l => l.2) (fun e => e)) L_m_checkLinks G_m_checkLinks s (m_checkLinks_316 v1 v2 v3 v4 v5 v8 v9 v10 s) := fm_gd (fm_lt (md_upL (mem_L rfl)) (fun s2 => fm_checkLinks_333 _ _ _ _ _ _ _))
noncomputable def m_checkLinks_288 (v1 : Int) (v2 : Int) (v3 : Int) (v4 : Int) (v5 : Int) (v8 : Int) (v9 : Int) (t0 : Int) (t1 : Int) (s : iS) : Option ((Int × iS) ⊕ (iS)) := gd (0 ≤ v5 ∧ v5 < 200) (gd (rg (i_and (s 217 v5.toNat) (i_shl t1 t0))) (if (i_and (s 217 v5.toNat) (i_shl t1 t0)) = 0 then m_checkLinks_316 v1 v2 v3 v4 v5 v8 v9 (i_shl t1 t0) s else gd (0 ≤ v4 ∧ v4 < 700) (bd (m_note 3 (s 204 v4.toNat) s) (fun _ s5 => m_checkLinks_316 v1 v2 v3 v4 v5 v8 v9 (i_shl t1 t0) s5))))
theorem tm_checkLinks_288 (w : ev_W) (d : Nat) (hd : 3 ≤ d) (v1 : Int) (v2 : Int) (v3 : Int) (v4 : Int) (v5 : Int) (v8 : Int) (v9 : Int) (t0 : Int) (t1 : Int) (s : iS) : Ew hT w d 461 288 [(0, .ref (tb_nK + 121)), (1, iv v1), (2, iv v2), (3, iv v3), (4, iv v4), (5, iv v5), (8, iv v8), (9, iv v9)] [iv t0, iv t1] s (m_checkLinks_100C w d v1 v2 v3) (m_checkLinks_288 v1 v2 v3 v4 v5 v8 v9 t0 t1 s) := by
  unfold m_checkLinks_288
  refine e_ishl 289 em_461 rfl (ce_at ce_461 161 rfl) ?_
  refine e_mv 291 em_461 (ce_at ce_461 162 rfl) rfl rfl ?_
  refine e_mv 292 em_461 (ce_at ce_461 163 rfl) rfl rfl ?_
  refine e_getr 295 em_461 (ce_at ce_461 164 rfl) tq_121 rfl rfl ?_
  refine e_mv 297 em_461 (ce_at ce_461 165 rfl) rfl rfl ?_
  refine e_gd fun g1 => ?_
  refine e_ild 298 em_461 (ce_at ce_461 166 rfl) tq_217 (by decide) g1 rfl ?_
  refine e_mv 300 em_461 (ce_at ce_461 167 rfl) rfl rfl ?_
  refine e_iand 301 em_461 rfl (ce_at ce_461 168 rfl) ?_
  refine e_gd fun g2 => ?_
  refine e_ifeq 316 304 em_461 rfl rfl (ce_at ce_461 169 rfl) g2 (fun h3 => ?_) (fun h3 => ?_)
  · refine e_pk [0, 1, 2, 3, 4, 5, 8, 9, 10] rfl rfl ?_
    exact tm_checkLinks_316 w d hd _ _ _ _ _ _ _ _ _
  · refine e_mv 305 em_461 (ce_at ce_461 170 rfl) rfl rfl ?_
    refine e_op 306 em_461 (ce_at ce_461 171 rfl) rfl rfl ?_
    refine e_mv 307 em_461 (ce_at ce_461 172 rfl) rfl rfl ?_
    refine e_getr 310 em_461 (ce_at ce_461 173 rfl) tq_121 rfl rfl ?_
    refine e_mv 312 em_461 (ce_at ce_461 174 rfl) rfl rfl ?_
    refine e_gd fun g4 => ?_
    refine e_ild 313 em_461 (ce_at ce_461 175 rfl) tq_204 (by decide) g4 rfl ?_
    refine e_ivv 316 em_461 (ce_at ce_461 176 rfl) (by omega) (iv_v2 (by decide) tq_121 rfl) em_351 (Nat.le_of_ble_eq_true rfl) rfl (tm_note w (d - 1) (by omega) _ _ _) (fun r5 s5 => ?_)
    refine e_pk [0, 1, 2, 3, 4, 5, 8, 9, 10] rfl rfl ?_
    exact tm_checkLinks_316 w d hd _ _ _ _ _ _ _ _ _
theorem fm_checkLinks_288 (v1 : Int) (v2 : Int) (v3 : Int) (v4 : Int) (v5 : Int) (v8 : Int) (v9 : Int) (t0 : Int) (t1 : Int) (s : iS) : Fm (fun r : (Int × iS) ⊕ (iS) => r.elim (fun l => l.2) (fun e => e)) L_m_checkLinks G_m_checkLinks s (m_checkLinks_288 v1 v2 v3 v4 v5 v8 v9 t0 t1 s) := fm_gd (fm_gd (fm_if (fm_checkLinks_316 _ _ _ _ _ _ _ _ _) (fm_gd (fm_bd (fm_sub (fm_note _ _ _) (mem_sub_L rfl) (mem_sub_F rfl)) (fun r5 s5 => fm_checkLinks_316 _ _ _ _ _ _ _ _ _)))))
noncomputable def m_checkLinks_241 (v1 : Int) (v2 : Int) (v3 : Int) (v4 : Int) (v5 : Int) (v7 : Int) (v8 : Int) (s : iS) : Option ((Int × iS) ⊕ (iS)) := bd (m_isOut v3 v5 s) (fun r1 s1 => gd (rg v7) (if v7 = 0 then m_checkLinks_333 v1 v2 v3 v4 v8 r1 s1 else gd (rg r1) (if r1 = 0 then gd (0 ≤ v4 ∧ v4 < 700) (gd (rg (s1 205 v4.toNat)) (if (s1 205 v4.toNat) = (-1) then m_checkLinks_288 v1 v2 v3 v4 v5 v8 r1 0 ((i_shl 1 v8) - 1) s1 else m_checkLinks_288 v1 v2 v3 v4 v5 v8 r1 (s1 206 v4.toNat) ((i_shl 1 v8) - 1) s1)) else m_checkLinks_333 v1 v2 v3 v4 v8 r1 s1)))
theorem tm_checkLinks_241 (w : ev_W) (d : Nat) (hd : 3 ≤ d) (v1 : Int) (v2 : Int) (v3 : Int) (v4 : Int) (v5 : Int) (v7 : Int) (v8 : Int) (s : iS) : Ew hT w d 461 241 [(0, .ref (tb_nK + 121)), (1, iv v1), (2, iv v2), (3, iv v3), (4, iv v4), (5, iv v5), (7, iv v7), (8, iv v8)] [] s (m_checkLinks_100C w d v1 v2 v3) (m_checkLinks_241 v1 v2 v3 v4 v5 v7 v8 s) := by
  unfold m_checkLinks_241
  refine e_mv 242 em_461 (ce_at ce_461 135 rfl) rfl rfl ?_
  refine e_mv 243 em_461 (ce_at ce_461 136 rfl) rfl rfl ?_
  refine e_mv 245 em_461 (ce_at ce_461 137 rfl) rfl rfl ?_
  refine e_ivi 248 em_461 (ce_at ce_461 138 rfl) (by omega) (iv_v2 (by decide) tq_121 rfl) em_457 (Nat.le_of_ble_eq_true rfl) rfl (tm_isOut w (d - 1) (by omega) _ _ _) (fun r1 s1 => ?_)
  refine e_mv 250 em_461 (ce_at ce_461 139 rfl) rfl rfl ?_
  refine e_mv 252 em_461 (ce_at ce_461 140 rfl) rfl rfl ?_
  refine e_gd fun g2 => ?_
  refine e_ifeq 333 255 em_461 rfl rfl (ce_at ce_461 141 rfl) g2 (fun h3 => ?_) (fun h3 => ?_)
  · refine e_pk [0, 1, 2, 3, 4, 8, 9] rfl rfl ?_
    exact tm_checkLinks_333 w d hd _ _ _ _ _ _ _
  · refine e_mv 257 em_461 (ce_at ce_461 142 rfl) rfl rfl ?_
    refine e_gd fun g4 => ?_
    refine e_ifne 333 260 em_461 rfl rfl (ce_at ce_461 143 rfl) g4 (fun h5 => ?_) (fun h5 => ?_)
    · refine e_pk [0, 1, 2, 3, 4, 8, 9] rfl rfl ?_
      exact tm_checkLinks_333 w d hd _ _ _ _ _ _ _
    · refine e_op 261 em_461 (ce_at ce_461 144 rfl) rfl rfl ?_
      refine e_mv 263 em_461 (ce_at ce_461 145 rfl) rfl rfl ?_
      refine e_ishl 264 em_461 rfl (ce_at ce_461 146 rfl) ?_
      refine e_op 265 em_461 (ce_at ce_461 147 rfl) rfl rfl ?_
      refine e_isub 266 em_461 rfl (ce_at ce_461 148 rfl) ?_
      refine e_mv 267 em_461 (ce_at ce_461 149 rfl) rfl rfl ?_
      refine e_getr 270 em_461 (ce_at ce_461 150 rfl) tq_121 rfl rfl ?_
      refine e_mv 272 em_461 (ce_at ce_461 151 rfl) rfl rfl ?_
      refine e_gd fun g6 => ?_
      refine e_ild 273 em_461 (ce_at ce_461 152 rfl) tq_205 (by decide) g6 rfl ?_
      refine e_op 274 em_461 (ce_at ce_461 153 rfl) rfl rfl ?_
      refine e_gd fun g7 => ?_
      refine e_cmne 281 277 em_461 rfl rfl (ce_at ce_461 154 rfl) g7 (by decide) (fun h8 => ?_) (fun h8 => ?_)
      · refine e_mv 282 em_461 (ce_at ce_461 157 rfl) rfl rfl ?_
        refine e_getr 285 em_461 (ce_at ce_461 158 rfl) tq_121 rfl rfl ?_
        refine e_mv 287 em_461 (ce_at ce_461 159 rfl) rfl rfl ?_
        refine e_ild 288 em_461 (ce_at ce_461 160 rfl) tq_206 (by decide) g6 rfl ?_
        refine e_pk [0, 1, 2, 3, 4, 5, 8, 9] rfl rfl ?_
        exact tm_checkLinks_288 w d hd _ _ _ _ _ _ _ _ _ _
      · refine e_op 278 em_461 (ce_at ce_461 155 rfl) rfl rfl ?_
        refine e_goto em_461 288 (ce_at ce_461 156 rfl) rfl ?_
        refine e_pk [0, 1, 2, 3, 4, 5, 8, 9] rfl rfl ?_
        exact tm_checkLinks_288 w d hd _ _ _ _ _ _ _ _ _ _
theorem fm_checkLinks_241 (v1 : Int) (v2 : Int) (v3 : Int) (v4 : Int) (v5 : Int) (v7 : Int) (v8 : Int) (s : iS) : Fm (fun r : (Int × iS) ⊕ (iS) => r.elim (fun l => l.2) (fun e => e)) L_m_checkLinks G_m_checkLinks s (m_checkLinks_241 v1 v2 v3 v4 v5 v7 v8 s) := fm_bd (fm_sub (fm_isOut _ _ _) (mem_sub_L rfl) (mem_sub_F rfl)) (fun r1 s1 => fm_gd (fm_if (fm_checkLinks_333 _ _ _ _ _ _ _) (fm_gd (fm_if (fm_gd (fm_gd (fm_if (fm_checkLinks_288 _ _ _ _ _ _ _ _ _ _) (fm_checkLinks_288 _ _ _ _ _ _ _ _ _ _)))) (fm_checkLinks_333 _ _ _ _ _ _ _)))))
noncomputable def m_checkLinks_222 (v1 : Int) (v2 : Int) (v3 : Int) (v4 : Int) (v5 : Int) (v7 : Int) (t0 : Int) (s : iS) : Option ((Int × iS) ⊕ (iS)) := gd (rg v7) (if v7 = 0 then gd (0 ≤ v4 ∧ v4 < 700) (bd (m_note 5 (s 205 v4.toNat) s) (fun _ s4 => m_checkLinks_241 v1 v2 v3 v4 v5 v7 t0 s4)) else m_checkLinks_241 v1 v2 v3 v4 v5 v7 t0 s)
theorem tm_checkLinks_222 (w : ev_W) (d : Nat) (hd : 3 ≤ d) (v1 : Int) (v2 : Int) (v3 : Int) (v4 : Int) (v5 : Int) (v7 : Int) (t0 : Int) (s : iS) : Ew hT w d 461 222 [(0, .ref (tb_nK + 121)), (1, iv v1), (2, iv v2), (3, iv v3), (4, iv v4), (5, iv v5), (7, iv v7)] [iv t0] s (m_checkLinks_100C w d v1 v2 v3) (m_checkLinks_222 v1 v2 v3 v4 v5 v7 t0 s) := by
  unfold m_checkLinks_222
  refine e_mv 224 em_461 (ce_at ce_461 125 rfl) rfl rfl ?_
  refine e_mv 226 em_461 (ce_at ce_461 126 rfl) rfl rfl ?_
  refine e_gd fun g1 => ?_
  refine e_ifne 241 229 em_461 rfl rfl (ce_at ce_461 127 rfl) g1 (fun h2 => ?_) (fun h2 => ?_)
  · refine e_pk [0, 1, 2, 3, 4, 5, 7, 8] rfl rfl ?_
    exact tm_checkLinks_241 w d hd _ _ _ _ _ _ _ _
  · refine e_mv 230 em_461 (ce_at ce_461 128 rfl) rfl rfl ?_
    refine e_op 231 em_461 (ce_at ce_461 129 rfl) rfl rfl ?_
    refine e_mv 232 em_461 (ce_at ce_461 130 rfl) rfl rfl ?_
    refine e_getr 235 em_461 (ce_at ce_461 131 rfl) tq_121 rfl rfl ?_
    refine e_mv 237 em_461 (ce_at ce_461 132 rfl) rfl rfl ?_
    refine e_gd fun g3 => ?_
    refine e_ild 238 em_461 (ce_at ce_461 133 rfl) tq_205 (by decide) g3 rfl ?_
    refine e_ivv 241 em_461 (ce_at ce_461 134 rfl) (by omega) (iv_v2 (by decide) tq_121 rfl) em_351 (Nat.le_of_ble_eq_true rfl) rfl (tm_note w (d - 1) (by omega) _ _ _) (fun r4 s4 => ?_)
    refine e_pk [0, 1, 2, 3, 4, 5, 7, 8] rfl rfl ?_
    exact tm_checkLinks_241 w d hd _ _ _ _ _ _ _ _
theorem fm_checkLinks_222 (v1 : Int) (v2 : Int) (v3 : Int) (v4 : Int) (v5 : Int) (v7 : Int) (t0 : Int) (s : iS) : Fm (fun r : (Int × iS) ⊕ (iS) => r.elim (fun l => l.2) (fun e => e)) L_m_checkLinks G_m_checkLinks s (m_checkLinks_222 v1 v2 v3 v4 v5 v7 t0 s) := fm_gd (fm_if (fm_gd (fm_bd (fm_sub (fm_note _ _ _) (mem_sub_L rfl) (mem_sub_F rfl)) (fun r4 s4 => fm_checkLinks_241 _ _ _ _ _ _ _ _))) (fm_checkLinks_241 _ _ _ _ _ _ _ _))
noncomputable def m_checkLinks_100b (v1 : Int) (v2 : Int) (v3 : Int) (v4 : Int) (s : iS) : Option ((Int × iS) ⊕ (iS)) := gd (0 ≤ (v2 + 1) ∧ (v2 + 1) < 401) (gd (rg v4) (gd (rg (s 203 (v2 + 1).toNat)) (if (s 203 (v2 + 1).toNat) ≤ v4 then some (.inr s) else gd (0 ≤ v4 ∧ v4 < 700) (bd (m_pinOfPart v3 (s 204 v4.toNat) s) (fun r6 s6 => gd (rg r6) (if r6 = (-1) then bd (m_note 4 (s6 204 v4.toNat) s6) (fun _ s14 => some (.inl ((v4 + 1), s14))) else bd (m_widthOf v3 r6 s6) (fun r9 s9 => bd (m_rangeFits (s9 205 v4.toNat) (s9 206 v4.toNat) (s9 207 v4.toNat) r9 s9) (fun r10 s10 => gd (rg r10) (if r10 = 0 then m_checkLinks_222 v1 v2 v3 v4 r6 r10 (-1) s10 else bd (m_bitsOf (s10 205 v4.toNat) (s10 206 v4.toNat) (s10 207 v4.toNat) r9 s10) (fun r13 s13 => m_checkLinks_222 v1 v2 v3 v4 r6 r10 r13 s13))))))))))
theorem tm_checkLinks_100b (w : ev_W) (d : Nat) (hd : 3 ≤ d) (v1 : Int) (v2 : Int) (v3 : Int) (v4 : Int) (s : iS) : Ew hT w d 461 100 [(0, .ref (tb_nK + 121)), (1, iv v1), (2, iv v2), (3, iv v3), (4, iv v4)] [] s (m_checkLinks_100C w d v1 v2 v3) (m_checkLinks_100b v1 v2 v3 v4 s) := by
  unfold m_checkLinks_100b
  refine e_mv 102 em_461 (ce_at ce_461 58 rfl) rfl rfl ?_
  refine e_mv 103 em_461 (ce_at ce_461 59 rfl) rfl rfl ?_
  refine e_getr 106 em_461 (ce_at ce_461 60 rfl) tq_121 rfl rfl ?_
  refine e_mv 107 em_461 (ce_at ce_461 61 rfl) rfl rfl ?_
  refine e_op 108 em_461 (ce_at ce_461 62 rfl) rfl rfl ?_
  refine e_iadd 109 em_461 rfl (ce_at ce_461 63 rfl) ?_
  refine e_gd fun g1 => ?_
  refine e_ild 110 em_461 (ce_at ce_461 64 rfl) tq_203 (by decide) g1 rfl ?_
  refine e_gd fun g2 => ?_
  refine e_gd fun g3 => ?_
  refine e_cmge 350 113 em_461 rfl rfl (ce_at ce_461 65 rfl) g2 g3 (fun h4 => ?_) (fun h4 => ?_)
  · refine e_pk [0, 1, 2] rfl rfl ?_
    exact e_out (fun r h => h)
  · refine e_mv 114 em_461 (ce_at ce_461 66 rfl) rfl rfl ?_
    refine e_mv 115 em_461 (ce_at ce_461 67 rfl) rfl rfl ?_
    refine e_mv 116 em_461 (ce_at ce_461 68 rfl) rfl rfl ?_
    refine e_getr 119 em_461 (ce_at ce_461 69 rfl) tq_121 rfl rfl ?_
    refine e_mv 121 em_461 (ce_at ce_461 70 rfl) rfl rfl ?_
    refine e_gd fun g5 => ?_
    refine e_ild 122 em_461 (ce_at ce_461 71 rfl) tq_204 (by decide) g5 rfl ?_
    refine e_ivi 125 em_461 (ce_at ce_461 72 rfl) (by omega) (iv_v2 (by decide) tq_121 rfl) em_456 (Nat.le_of_ble_eq_true rfl) rfl (tm_pinOfPart w (d - 1) (by omega) _ _ _) (fun r6 s6 => ?_)
    refine e_mv 127 em_461 (ce_at ce_461 73 rfl) rfl rfl ?_
    refine e_mv 129 em_461 (ce_at ce_461 74 rfl) rfl rfl ?_
    refine e_op 130 em_461 (ce_at ce_461 75 rfl) rfl rfl ?_
    refine e_gd fun g7 => ?_
    refine e_cmne 148 133 em_461 rfl rfl (ce_at ce_461 76 rfl) g7 (by decide) (fun h8 => ?_) (fun h8 => ?_)
    · refine e_mv 149 em_461 (ce_at ce_461 85 rfl) rfl rfl ?_
      refine e_mv 150 em_461 (ce_at ce_461 86 rfl) rfl rfl ?_
      refine e_mv 152 em_461 (ce_at ce_461 87 rfl) rfl rfl ?_
      refine e_ivi 155 em_461 (ce_at ce_461 88 rfl) (by omega) (iv_v2 (by decide) tq_121 rfl) em_458 (Nat.le_of_ble_eq_true rfl) rfl (tm_widthOf w (d - 1) (by omega) _ _ _) (fun r9 s9 => ?_)
      refine e_mv 157 em_461 (ce_at ce_461 89 rfl) rfl rfl ?_
      refine e_mv 158 em_461 (ce_at ce_461 90 rfl) rfl rfl ?_
      refine e_mv 159 em_461 (ce_at ce_461 91 rfl) rfl rfl ?_
      refine e_getr 162 em_461 (ce_at ce_461 92 rfl) tq_121 rfl rfl ?_
      refine e_mv 164 em_461 (ce_at ce_461 93 rfl) rfl rfl ?_
      refine e_ild 165 em_461 (ce_at ce_461 94 rfl) tq_205 (by decide) g5 rfl ?_
      refine e_mv 166 em_461 (ce_at ce_461 95 rfl) rfl rfl ?_
      refine e_getr 169 em_461 (ce_at ce_461 96 rfl) tq_121 rfl rfl ?_
      refine e_mv 171 em_461 (ce_at ce_461 97 rfl) rfl rfl ?_
      refine e_ild 172 em_461 (ce_at ce_461 98 rfl) tq_206 (by decide) g5 rfl ?_
      refine e_mv 173 em_461 (ce_at ce_461 99 rfl) rfl rfl ?_
      refine e_getr 176 em_461 (ce_at ce_461 100 rfl) tq_121 rfl rfl ?_
      refine e_mv 178 em_461 (ce_at ce_461 101 rfl) rfl rfl ?_
      refine e_ild 179 em_461 (ce_at ce_461 102 rfl) tq_207 (by decide) g5 rfl ?_
      refine e_mv 181 em_461 (ce_at ce_461 103 rfl) rfl rfl ?_
      refine e_ivi 184 em_461 (ce_at ce_461 104 rfl) (by omega) (iv_v4 (by decide) tq_121 rfl) em_459 (Nat.le_of_ble_eq_true rfl) rfl (tm_rangeFits w (d - 1) (by omega) _ _ _ _ _) (fun r10 s10 => ?_)
      refine e_mv 186 em_461 (ce_at ce_461 105 rfl) rfl rfl ?_
      refine e_mv 188 em_461 (ce_at ce_461 106 rfl) rfl rfl ?_
      refine e_gd fun g11 => ?_
      refine e_ifeq 221 191 em_461 rfl rfl (ce_at ce_461 107 rfl) g11 (fun h12 => ?_) (fun h12 => ?_)
      · refine e_op 222 em_461 (ce_at ce_461 124 rfl) rfl rfl ?_
        refine e_pk [0, 1, 2, 3, 4, 5, 7] rfl rfl ?_
        exact tm_checkLinks_222 w d hd _ _ _ _ _ _ _ _
      · refine e_mv 192 em_461 (ce_at ce_461 108 rfl) rfl rfl ?_
        refine e_mv 193 em_461 (ce_at ce_461 109 rfl) rfl rfl ?_
        refine e_getr 196 em_461 (ce_at ce_461 110 rfl) tq_121 rfl rfl ?_
        refine e_mv 198 em_461 (ce_at ce_461 111 rfl) rfl rfl ?_
        refine e_ild 199 em_461 (ce_at ce_461 112 rfl) tq_205 (by decide) g5 rfl ?_
        refine e_mv 200 em_461 (ce_at ce_461 113 rfl) rfl rfl ?_
        refine e_getr 203 em_461 (ce_at ce_461 114 rfl) tq_121 rfl rfl ?_
        refine e_mv 205 em_461 (ce_at ce_461 115 rfl) rfl rfl ?_
        refine e_ild 206 em_461 (ce_at ce_461 116 rfl) tq_206 (by decide) g5 rfl ?_
        refine e_mv 207 em_461 (ce_at ce_461 117 rfl) rfl rfl ?_
        refine e_getr 210 em_461 (ce_at ce_461 118 rfl) tq_121 rfl rfl ?_
        refine e_mv 212 em_461 (ce_at ce_461 119 rfl) rfl rfl ?_
        refine e_ild 213 em_461 (ce_at ce_461 120 rfl) tq_207 (by decide) g5 rfl ?_
        refine e_mv 215 em_461 (ce_at ce_461 121 rfl) rfl rfl ?_
        refine e_ivi 218 em_461 (ce_at ce_461 122 rfl) (by omega) (iv_v4 (by decide) tq_121 rfl) em_460 (Nat.le_of_ble_eq_true rfl) rfl (tm_bitsOf w (d - 1) (by omega) _ _ _ _ _) (fun r13 s13 => ?_)
        refine e_goto em_461 222 (ce_at ce_461 123 rfl) rfl ?_
        refine e_pk [0, 1, 2, 3, 4, 5, 7] rfl rfl ?_
        exact tm_checkLinks_222 w d hd _ _ _ _ _ _ _ _
    · refine e_mv 134 em_461 (ce_at ce_461 77 rfl) rfl rfl ?_
      refine e_op 135 em_461 (ce_at ce_461 78 rfl) rfl rfl ?_
      refine e_mv 136 em_461 (ce_at ce_461 79 rfl) rfl rfl ?_
      refine e_getr 139 em_461 (ce_at ce_461 80 rfl) tq_121 rfl rfl ?_
      refine e_mv 141 em_461 (ce_at ce_461 81 rfl) rfl rfl ?_
      refine e_ild 142 em_461 (ce_at ce_461 82 rfl) tq_204 (by decide) g5 rfl ?_
      refine e_ivv 145 em_461 (ce_at ce_461 83 rfl) (by omega) (iv_v2 (by decide) tq_121 rfl) em_351 (Nat.le_of_ble_eq_true rfl) rfl (tm_note w (d - 1) (by omega) _ _ _) (fun r14 s14 => ?_)
      refine e_goto em_461 344 (ce_at ce_461 84 rfl) rfl ?_
      refine e_iinc 347 em_461 (ce_at ce_461 193 rfl) rfl (by decide) rfl ?_
      refine e_goto em_461 100 (ce_at ce_461 194 rfl) rfl ?_
      refine e_pk [0, 1, 2, 3, 4] rfl rfl ?_
      exact e_out (fun r h => h)
theorem fm_checkLinks_100b (v1 : Int) (v2 : Int) (v3 : Int) (v4 : Int) (s : iS) : Fm (fun r : (Int × iS) ⊕ (iS) => r.elim (fun l => l.2) (fun e => e)) L_m_checkLinks G_m_checkLinks s (m_checkLinks_100b v1 v2 v3 v4 s) := fm_gd (fm_gd (fm_gd (fm_if (fm_some md_refl) (fm_gd (fm_bd (fm_sub (fm_pinOfPart _ _ _) (mem_sub_L rfl) (mem_sub_F rfl)) (fun r6 s6 => fm_gd (fm_if (fm_bd (fm_sub (fm_note _ _ _) (mem_sub_L rfl) (mem_sub_F rfl)) (fun r14 s14 => fm_some md_refl)) (fm_bd (fm_sub (fm_widthOf _ _ _) (mem_sub_L rfl) (mem_sub_F rfl)) (fun r9 s9 => fm_bd (fm_sub (fm_rangeFits _ _ _ _ _) (mem_sub_L rfl) (mem_sub_F rfl)) (fun r10 s10 => fm_gd (fm_if (fm_checkLinks_222 _ _ _ _ _ _ _ _) (fm_bd (fm_sub (fm_bitsOf _ _ _ _ _) (mem_sub_L rfl) (mem_sub_F rfl)) (fun r13 s13 => fm_checkLinks_222 _ _ _ _ _ _ _ _)))))))))))))
def m_checkLinks_29C (w : ev_W) (d : Nat) (v1 : Int) : (Int × iS) ⊕ (iS) → am_E → Prop := fun q r => q.elim (fun l => ev w d 461 29 ((fun l => [(0, .ref (tb_nK + 121)), (1, iv v1), (2, iv (l.1))]) l) [] (hT ((fun l => l.2) l)) r) (fun e => (fun e r => ev w d 461 356 [] [] (hT (e)) r) e r)
noncomputable def m_checkLinks_100 (v1 : Int) (v2 : Int) (v3 : Int) (v4 : Int) (s : iS) : Option ((Int × iS) ⊕ (iS)) := (lp (L := Int × iS) (E := iS) (fun l => m_checkLinks_100b v1 v2 v3 (l.1) (l.2)) (v4, s)).bind (fun e => some (.inl ((v2 + 1), e)))
theorem tm_checkLinks_100 (w : ev_W) (d : Nat) (hd : 3 ≤ d) (v1 : Int) (v2 : Int) (v3 : Int) (v4 : Int) (s : iS) : Ew hT w d 461 100 [(0, .ref (tb_nK + 121)), (1, iv v1), (2, iv v2), (3, iv v3), (4, iv v4)] [] s (m_checkLinks_29C w d v1) (m_checkLinks_100 v1 v2 v3 v4 s) := by
  unfold m_checkLinks_100
  refine e_lp (L := Int × iS) (E := iS) (LO := fun l => [(0, .ref (tb_nK + 121)), (1, iv v1), (2, iv v2), (3, iv v3), (4, iv (l.1))]) (LS := fun l => l.2) (CE := fun e r => ev w d 461 350 [(0, .ref (tb_nK + 121)), (1, iv v1), (2, iv v2)] [] (hT (e)) r) (fun l => tm_checkLinks_100b w d hd _ _ _ _ _) ?_ (v4, s)
  intro e
  show Ew hT w d 461 350 [(0, .ref (tb_nK + 121)), (1, iv v1), (2, iv v2)] [] e (m_checkLinks_29C w d v1) _
  refine e_iinc 353 em_461 (ce_at ce_461 195 rfl) rfl (by decide) rfl ?_
  refine e_goto em_461 29 (ce_at ce_461 196 rfl) rfl ?_
  refine e_pk [0, 1, 2] rfl rfl ?_
  exact e_out (fun r h => h)
theorem fm_checkLinks_100 (v1 : Int) (v2 : Int) (v3 : Int) (v4 : Int) (s : iS) : Fm (fun r : (Int × iS) ⊕ (iS) => r.elim (fun l => l.2) (fun e => e)) L_m_checkLinks G_m_checkLinks s (m_checkLinks_100 v1 v2 v3 v4 s) := by
  unfold m_checkLinks_100
  refine fm_lp (A := Int × iS) (E := iS) (LS := fun l => l.2) (LE := fun e => e) ?_ ?_ (v4, s)
  · exact fun l => fm_checkLinks_100b _ _ _ _ _
  · exact (fun e => fm_some md_refl)
noncomputable def m_checkLinks_92 (v1 : Int) (v2 : Int) (v3 : Int) (s : iS) : Option ((Int × iS) ⊕ (iS)) := gd (0 ≤ v2 ∧ v2 < 401) (m_checkLinks_100 v1 v2 v3 (s 203 v2.toNat) s)
theorem tm_checkLinks_92 (w : ev_W) (d : Nat) (hd : 3 ≤ d) (v1 : Int) (v2 : Int) (v3 : Int) (s : iS) : Ew hT w d 461 92 [(0, .ref (tb_nK + 121)), (1, iv v1), (2, iv v2), (3, iv v3)] [] s (m_checkLinks_29C w d v1) (m_checkLinks_92 v1 v2 v3 s) := by
  unfold m_checkLinks_92
  refine e_mv 93 em_461 (ce_at ce_461 53 rfl) rfl rfl ?_
  refine e_getr 96 em_461 (ce_at ce_461 54 rfl) tq_121 rfl rfl ?_
  refine e_mv 97 em_461 (ce_at ce_461 55 rfl) rfl rfl ?_
  refine e_gd fun g1 => ?_
  refine e_ild 98 em_461 (ce_at ce_461 56 rfl) tq_203 (by decide) g1 rfl ?_
  refine e_mv 100 em_461 (ce_at ce_461 57 rfl) rfl rfl ?_
  refine e_pk [0, 1, 2, 3, 4] rfl rfl ?_
  exact tm_checkLinks_100 w d hd _ _ _ _ _
theorem fm_checkLinks_92 (v1 : Int) (v2 : Int) (v3 : Int) (s : iS) : Fm (fun r : (Int × iS) ⊕ (iS) => r.elim (fun l => l.2) (fun e => e)) L_m_checkLinks G_m_checkLinks s (m_checkLinks_92 v1 v2 v3 s) := fm_gd (fm_checkLinks_100 _ _ _ _ _)
noncomputable def m_checkLinks_70 (v1 : Int) (v2 : Int) (v3 : Int) (v4 : Int) (s : iS) : Option ((Int × iS) ⊕ (iS)) := (lp (L := Int × iS) (E := iS) (fun l => m_checkLinks_70b v1 v2 v3 (l.1) (l.2)) (v4, s)).bind (fun e => m_checkLinks_92 v1 v2 v3 e)
theorem tm_checkLinks_70 (w : ev_W) (d : Nat) (hd : 3 ≤ d) (v1 : Int) (v2 : Int) (v3 : Int) (v4 : Int) (s : iS) : Ew hT w d 461 70 [(0, .ref (tb_nK + 121)), (1, iv v1), (2, iv v2), (3, iv v3), (4, iv v4)] [] s (m_checkLinks_29C w d v1) (m_checkLinks_70 v1 v2 v3 v4 s) := by
  unfold m_checkLinks_70
  refine e_lp (L := Int × iS) (E := iS) (LO := fun l => [(0, .ref (tb_nK + 121)), (1, iv v1), (2, iv v2), (3, iv v3), (4, iv (l.1))]) (LS := fun l => l.2) (CE := fun e r => ev w d 461 92 [(0, .ref (tb_nK + 121)), (1, iv v1), (2, iv v2), (3, iv v3)] [] (hT (e)) r) (fun l => tm_checkLinks_70b w d hd _ _ _ _ _) ?_ (v4, s)
  intro e
  show Ew hT w d 461 92 [(0, .ref (tb_nK + 121)), (1, iv v1), (2, iv v2), (3, iv v3)] [] e (m_checkLinks_29C w d v1) _
  refine e_pk [0, 1, 2, 3] rfl rfl ?_
  exact tm_checkLinks_92 w d hd _ _ _ _
theorem fm_checkLinks_70 (v1 : Int) (v2 : Int) (v3 : Int) (v4 : Int) (s : iS) : Fm (fun r : (Int × iS) ⊕ (iS) => r.elim (fun l => l.2) (fun e => e)) L_m_checkLinks G_m_checkLinks s (m_checkLinks_70 v1 v2 v3 v4 s) := by
  unfold m_checkLinks_70
  refine fm_lp (A := Int × iS) (E := iS) (LS := fun l => l.2) (LE := fun e => e) ?_ ?_ (v4, s)
  · exact fun l => fm_checkLinks_70b _ _ _ _ _
  · exact (fun e => fm_checkLinks_92 _ _ _ _)
noncomputable def m_checkLinks_29b (v1 : Int) (v2 : Int) (s : iS) : Option ((Int × iS) ⊕ (iS)) := gd (0 ≤ (v1 + 1) ∧ (v1 + 1) < 18) (gd (rg v2) (gd (rg (s 201 (v1 + 1).toNat)) (if (s 201 (v1 + 1).toNat) ≤ v2 then some (.inr s) else gd (0 ≤ v2 ∧ v2 < 400) (gd (rg (s 216 v2.toNat)) (if (s 216 v2.toNat) = (-1) then bd (m_note 4 (s 202 v2.toNat) s) (fun _ s8 => some (.inl ((v2 + 1), s8))) else m_checkLinks_70 v1 v2 (s 216 v2.toNat) 0 s)))))
theorem tm_checkLinks_29b (w : ev_W) (d : Nat) (hd : 3 ≤ d) (v1 : Int) (v2 : Int) (s : iS) : Ew hT w d 461 29 [(0, .ref (tb_nK + 121)), (1, iv v1), (2, iv v2)] [] s (m_checkLinks_29C w d v1) (m_checkLinks_29b v1 v2 s) := by
  unfold m_checkLinks_29b
  refine e_mv 30 em_461 (ce_at ce_461 17 rfl) rfl rfl ?_
  refine e_mv 31 em_461 (ce_at ce_461 18 rfl) rfl rfl ?_
  refine e_getr 34 em_461 (ce_at ce_461 19 rfl) tq_121 rfl rfl ?_
  refine e_mv 35 em_461 (ce_at ce_461 20 rfl) rfl rfl ?_
  refine e_op 36 em_461 (ce_at ce_461 21 rfl) rfl rfl ?_
  refine e_iadd 37 em_461 rfl (ce_at ce_461 22 rfl) ?_
  refine e_gd fun g1 => ?_
  refine e_ild 38 em_461 (ce_at ce_461 23 rfl) tq_201 (by decide) g1 rfl ?_
  refine e_gd fun g2 => ?_
  refine e_gd fun g3 => ?_
  refine e_cmge 356 41 em_461 rfl rfl (ce_at ce_461 24 rfl) g2 g3 (fun h4 => ?_) (fun h4 => ?_)
  · refine e_pk [] rfl rfl ?_
    exact e_out (fun r h => h)
  · refine e_mv 42 em_461 (ce_at ce_461 25 rfl) rfl rfl ?_
    refine e_getr 45 em_461 (ce_at ce_461 26 rfl) tq_121 rfl rfl ?_
    refine e_mv 46 em_461 (ce_at ce_461 27 rfl) rfl rfl ?_
    refine e_gd fun g5 => ?_
    refine e_ild 47 em_461 (ce_at ce_461 28 rfl) tq_216 (by decide) g5 rfl ?_
    refine e_mv 48 em_461 (ce_at ce_461 29 rfl) rfl rfl ?_
    refine e_mv 49 em_461 (ce_at ce_461 30 rfl) rfl rfl ?_
    refine e_op 50 em_461 (ce_at ce_461 31 rfl) rfl rfl ?_
    refine e_gd fun g6 => ?_
    refine e_cmne 67 53 em_461 rfl rfl (ce_at ce_461 32 rfl) g6 (by decide) (fun h7 => ?_) (fun h7 => ?_)
    · refine e_op 68 em_461 (ce_at ce_461 41 rfl) rfl rfl ?_
      refine e_mv 70 em_461 (ce_at ce_461 42 rfl) rfl rfl ?_
      refine e_pk [0, 1, 2, 3, 4] rfl rfl ?_
      exact tm_checkLinks_70 w d hd _ _ _ _ _
    · refine e_mv 54 em_461 (ce_at ce_461 33 rfl) rfl rfl ?_
      refine e_op 55 em_461 (ce_at ce_461 34 rfl) rfl rfl ?_
      refine e_mv 56 em_461 (ce_at ce_461 35 rfl) rfl rfl ?_
      refine e_getr 59 em_461 (ce_at ce_461 36 rfl) tq_121 rfl rfl ?_
      refine e_mv 60 em_461 (ce_at ce_461 37 rfl) rfl rfl ?_
      refine e_ild 61 em_461 (ce_at ce_461 38 rfl) tq_202 (by decide) g5 rfl ?_
      refine e_ivv 64 em_461 (ce_at ce_461 39 rfl) (by omega) (iv_v2 (by decide) tq_121 rfl) em_351 (Nat.le_of_ble_eq_true rfl) rfl (tm_note w (d - 1) (by omega) _ _ _) (fun r8 s8 => ?_)
      refine e_goto em_461 350 (ce_at ce_461 40 rfl) rfl ?_
      refine e_iinc 353 em_461 (ce_at ce_461 195 rfl) rfl (by decide) rfl ?_
      refine e_goto em_461 29 (ce_at ce_461 196 rfl) rfl ?_
      refine e_pk [0, 1, 2] rfl rfl ?_
      exact e_out (fun r h => h)
theorem fm_checkLinks_29b (v1 : Int) (v2 : Int) (s : iS) : Fm (fun r : (Int × iS) ⊕ (iS) => r.elim (fun l => l.2) (fun e => e)) L_m_checkLinks G_m_checkLinks s (m_checkLinks_29b v1 v2 s) := fm_gd (fm_gd (fm_gd (fm_if (fm_some md_refl) (fm_gd (fm_gd (fm_if (fm_bd (fm_sub (fm_note _ _ _) (mem_sub_L rfl) (mem_sub_F rfl)) (fun r8 s8 => fm_some md_refl)) (fm_checkLinks_70 _ _ _ _ _)))))))
noncomputable def m_checkLinks_29 (v1 : Int) (v2 : Int) (s : iS) : Option (Int × iS) := (lp (L := Int × iS) (E := iS) (fun l => m_checkLinks_29b v1 (l.1) (l.2)) (v2, s)).bind (fun e => some (0, e))
theorem tm_checkLinks_29 (w : ev_W) (d : Nat) (hd : 3 ≤ d) (v1 : Int) (v2 : Int) (s : iS) : Ew hT w d 461 29 [(0, .ref (tb_nK + 121)), (1, iv v1), (2, iv v2)] [] s (Cv hT) (m_checkLinks_29 v1 v2 s) := by
  unfold m_checkLinks_29
  refine e_lp (L := Int × iS) (E := iS) (LO := fun l => [(0, .ref (tb_nK + 121)), (1, iv v1), (2, iv (l.1))]) (LS := fun l => l.2) (CE := fun e r => ev w d 461 356 [] [] (hT (e)) r) (fun l => tm_checkLinks_29b w d hd _ _ _) ?_ (v2, s)
  intro e
  show Ew hT w d 461 356 [] [] e (Cv hT) _
  exact e_retv em_461 (ce_at ce_461 197 rfl)
theorem fm_checkLinks_29 (v1 : Int) (v2 : Int) (s : iS) : Fm Prod.snd L_m_checkLinks G_m_checkLinks s (m_checkLinks_29 v1 v2 s) := by
  unfold m_checkLinks_29
  refine fm_lp (A := Int × iS) (E := iS) (LS := fun l => l.2) (LE := fun e => e) ?_ ?_ (v2, s)
  · exact fun l => fm_checkLinks_29b _ _ _
  · exact (fun e => fm_some md_refl)
noncomputable def m_checkLinks_22 (v1 : Int) (s : iS) : Option (Int × iS) := gd (0 ≤ v1 ∧ v1 < 18) (m_checkLinks_29 v1 (s 201 v1.toNat) s)
theorem tm_checkLinks_22 (w : ev_W) (d : Nat) (hd : 3 ≤ d) (v1 : Int) (s : iS) : Ew hT w d 461 22 [(0, .ref (tb_nK + 121)), (1, iv v1)] [] s (Cv hT) (m_checkLinks_22 v1 s) := by
  unfold m_checkLinks_22
  refine e_mv 23 em_461 (ce_at ce_461 12 rfl) rfl rfl ?_
  refine e_getr 26 em_461 (ce_at ce_461 13 rfl) tq_121 rfl rfl ?_
  refine e_mv 27 em_461 (ce_at ce_461 14 rfl) rfl rfl ?_
  refine e_gd fun g1 => ?_
  refine e_ild 28 em_461 (ce_at ce_461 15 rfl) tq_201 (by decide) g1 rfl ?_
  refine e_mv 29 em_461 (ce_at ce_461 16 rfl) rfl rfl ?_
  refine e_pk [0, 1, 2] rfl rfl ?_
  exact tm_checkLinks_29 w d hd _ _ _
theorem fm_checkLinks_22 (v1 : Int) (s : iS) : Fm Prod.snd L_m_checkLinks G_m_checkLinks s (m_checkLinks_22 v1 s) := fm_gd (fm_checkLinks_29 _ _ _)
noncomputable def m_checkLinks_2 (v1 : Int) (v2 : Int) (s : iS) : Option (Int × iS) := (lp (L := Int × iS) (E := iS) (fun l => m_checkLinks_2b v1 (l.1) (l.2)) (v2, s)).bind (fun e => m_checkLinks_22 v1 e)
theorem tm_checkLinks_2 (w : ev_W) (d : Nat) (hd : 3 ≤ d) (v1 : Int) (v2 : Int) (s : iS) : Ew hT w d 461 2 [(0, .ref (tb_nK + 121)), (1, iv v1), (2, iv v2)] [] s (Cv hT) (m_checkLinks_2 v1 v2 s) := by
  unfold m_checkLinks_2
  refine e_lp (L := Int × iS) (E := iS) (LO := fun l => [(0, .ref (tb_nK + 121)), (1, iv v1), (2, iv (l.1))]) (LS := fun l => l.2) (CE := fun e r => ev w d 461 22 [(0, .ref (tb_nK + 121)), (1, iv v1)] [] (hT (e)) r) (fun l => tm_checkLinks_2b w d hd _ _ _) ?_ (v2, s)
  intro e
  show Ew hT w d 461 22 [(0, .ref (tb_nK + 121)), (1, iv v1)] [] e (Cv hT) _
  refine e_pk [0, 1] rfl rfl ?_
  exact tm_checkLinks_22 w d hd _ _
theorem fm_checkLinks_2 (v1 : Int) (v2 : Int) (s : iS) : Fm Prod.snd L_m_checkLinks G_m_checkLinks s (m_checkLinks_2 v1 v2 s) := by
  unfold m_checkLinks_2
  refine fm_lp (A := Int × iS) (E := iS) (LS := fun l => l.2) (LE := fun e => e) ?_ ?_ (v2, s)
  · exact fun l => fm_checkLinks_2b _ _ _
  · exact (fun e => fm_checkLinks_22 _ _)
noncomputable def m_checkLinks (v1 : Int) (s : iS) : Option (Int × iS) := m_checkLinks_2 v1 0 s
theorem tm_checkLinks (w : ev_W) (d : Nat) (hd : 3 ≤ d) (v1 : Int) (s : iS) : Ew hT w d 461 0 [(0, .ref (tb_nK + 121)), (1, iv v1)] [] s (Cv hT) (m_checkLinks v1 s) := by
  unfold m_checkLinks
  refine e_op 1 em_461 (ce_at ce_461 0 rfl) rfl rfl ?_
  refine e_mv 2 em_461 (ce_at ce_461 1 rfl) rfl rfl ?_
  refine e_pk [0, 1, 2] rfl rfl ?_
  exact tm_checkLinks_2 w d hd _ _ _
theorem fm_checkLinks (v1 : Int) (s : iS) : Fm Prod.snd L_m_checkLinks G_m_checkLinks s (m_checkLinks v1 s) := fm_checkLinks_2 _ _ _
/-! m_valueOf -/
def L_m_valueOf : List Nat := []
def G_m_valueOf : List (Nat × Nat) := []
noncomputable def m_valueOf (v1 : Int) (s : iS) : Option (Int × iS) := gd (rg v1) (if v1 = (-2) then some (1, s) else if 0 ≤ v1 then gd (0 ≤ v1 ∧ v1 < 40000) (some ((s 230 v1.toNat), s)) else some (0, s))
theorem tm_valueOf (w : ev_W) (d : Nat) (hd : 0 ≤ d) (v1 : Int) (s : iS) : Ew hT w d 477 0 [(0, .ref (tb_nK + 121)), (1, iv v1)] [] s (Ci hT) (m_valueOf v1 s) := by
  unfold m_valueOf
  refine e_mv 1 em_477 (ce_at ce_477 0 rfl) rfl rfl ?_
  refine e_bip 3 em_477 (ce_at ce_477 1 rfl) (by decide) rfl ?_
  refine e_gd fun g1 => ?_
  refine e_cmne 10 6 em_477 rfl rfl (ce_at ce_477 2 rfl) g1 (by decide) (fun h2 => ?_) (fun h2 => ?_)
  · refine e_mv 11 em_477 (ce_at ce_477 5 rfl) rfl rfl ?_
    refine e_ifge 18 14 em_477 rfl rfl (ce_at ce_477 6 rfl) g1 (fun h3 => ?_) (fun h3 => ?_)
    · refine e_mv 19 em_477 (ce_at ce_477 9 rfl) rfl rfl ?_
      refine e_getr 22 em_477 (ce_at ce_477 10 rfl) tq_121 rfl rfl ?_
      refine e_mv 23 em_477 (ce_at ce_477 11 rfl) rfl rfl ?_
      refine e_gd fun g4 => ?_
      refine e_ild 24 em_477 (ce_at ce_477 12 rfl) tq_230 (by decide) g4 rfl ?_
      exact e_reti em_477 (ce_at ce_477 13 rfl)
    · refine e_op 15 em_477 (ce_at ce_477 7 rfl) rfl rfl ?_
      refine e_goto em_477 24 (ce_at ce_477 8 rfl) rfl ?_
      exact e_reti em_477 (ce_at ce_477 13 rfl)
  · refine e_op 7 em_477 (ce_at ce_477 3 rfl) rfl rfl ?_
    refine e_goto em_477 24 (ce_at ce_477 4 rfl) rfl ?_
    exact e_reti em_477 (ce_at ce_477 13 rfl)
theorem fm_valueOf (v1 : Int) (s : iS) : Fm Prod.snd L_m_valueOf G_m_valueOf s (m_valueOf v1 s) := fm_gd (fm_if (fm_some md_refl) (fm_if (fm_gd (fm_some md_refl)) (fm_some md_refl)))
/-! m_settle -/
def L_m_settle : List Nat := [230]
def G_m_settle : List (Nat × Nat) := []
def m_settle_2C (w : ev_W) (d : Nat) : (Int × iS) ⊕ (iS) → am_E → Prop := fun q r => q.elim (fun l => ev w d 476 2 ((fun l => [(0, .ref (tb_nK + 121)), (1, iv (l.1))]) l) [] (hT ((fun l => l.2) l)) r) (fun e => (fun e r => ev w d 476 59 [] [] (hT (e)) r) e r)
noncomputable def m_settle_2b (v1 : Int) (s : iS) : Option ((Int × iS) ⊕ (iS)) := gd (rg v1) (gd (rg (s 121 166)) (if (s 121 166) ≤ v1 then some (.inr s) else gd (0 ≤ v1 ∧ v1 < 1500) (gd (0 ≤ (s 227 v1.toNat) ∧ (s 227 v1.toNat) < 1500) (bd (m_valueOf (s 228 (s 227 v1.toNat).toNat) s) (fun r6 s6 => bd (m_valueOf (s6 229 (s 227 v1.toNat).toNat) s6) (fun r7 s7 => gd (0 ≤ ((s 225 (s 227 v1.toNat).toNat) + 2) ∧ ((s 225 (s 227 v1.toNat).toNat) + 2) < 40000) (lt' (up s7 230 ((s 225 (s 227 v1.toNat).toNat) + 2).toNat (1 - (r6 * r7))) (fun s9 => some (.inl ((v1 + 1), s9))))))))))
theorem tm_settle_2b (w : ev_W) (d : Nat) (hd : 1 ≤ d) (v1 : Int) (s : iS) : Ew hT w d 476 2 [(0, .ref (tb_nK + 121)), (1, iv v1)] [] s (m_settle_2C w d) (m_settle_2b v1 s) := by
  unfold m_settle_2b
  refine e_mv 3 em_476 (ce_at ce_476 2 rfl) rfl rfl ?_
  refine e_mv 4 em_476 (ce_at ce_476 3 rfl) rfl rfl ?_
  refine e_get 7 em_476 (ce_at ce_476 4 rfl) tq_121 rfl rfl ?_
  refine e_gd fun g1 => ?_
  refine e_gd fun g2 => ?_
  refine e_cmge 59 10 em_476 rfl rfl (ce_at ce_476 5 rfl) g1 g2 (fun h3 => ?_) (fun h3 => ?_)
  · refine e_pk [] rfl rfl ?_
    exact e_out (fun r h => h)
  · refine e_mv 11 em_476 (ce_at ce_476 6 rfl) rfl rfl ?_
    refine e_getr 14 em_476 (ce_at ce_476 7 rfl) tq_121 rfl rfl ?_
    refine e_mv 15 em_476 (ce_at ce_476 8 rfl) rfl rfl ?_
    refine e_gd fun g4 => ?_
    refine e_ild 16 em_476 (ce_at ce_476 9 rfl) tq_227 (by decide) g4 rfl ?_
    refine e_mv 17 em_476 (ce_at ce_476 10 rfl) rfl rfl ?_
    refine e_mv 18 em_476 (ce_at ce_476 11 rfl) rfl rfl ?_
    refine e_getr 21 em_476 (ce_at ce_476 12 rfl) tq_121 rfl rfl ?_
    refine e_mv 22 em_476 (ce_at ce_476 13 rfl) rfl rfl ?_
    refine e_getr 25 em_476 (ce_at ce_476 14 rfl) tq_121 rfl rfl ?_
    refine e_mv 26 em_476 (ce_at ce_476 15 rfl) rfl rfl ?_
    refine e_gd fun g5 => ?_
    refine e_ild 27 em_476 (ce_at ce_476 16 rfl) tq_225 (by decide) g5 rfl ?_
    refine e_op 28 em_476 (ce_at ce_476 17 rfl) rfl rfl ?_
    refine e_iadd 29 em_476 rfl (ce_at ce_476 18 rfl) ?_
    refine e_op 30 em_476 (ce_at ce_476 19 rfl) rfl rfl ?_
    refine e_mv 31 em_476 (ce_at ce_476 20 rfl) rfl rfl ?_
    refine e_mv 32 em_476 (ce_at ce_476 21 rfl) rfl rfl ?_
    refine e_getr 35 em_476 (ce_at ce_476 22 rfl) tq_121 rfl rfl ?_
    refine e_mv 36 em_476 (ce_at ce_476 23 rfl) rfl rfl ?_
    refine e_ild 37 em_476 (ce_at ce_476 24 rfl) tq_228 (by decide) g5 rfl ?_
    refine e_ivi 40 em_476 (ce_at ce_476 25 rfl) (by omega) (iv_v1 (by decide) tq_121 rfl) em_477 (Nat.le_of_ble_eq_true rfl) rfl (tm_valueOf w (d - 1) (by omega) _ _) (fun r6 s6 => ?_)
    refine e_mv 41 em_476 (ce_at ce_476 26 rfl) rfl rfl ?_
    refine e_mv 42 em_476 (ce_at ce_476 27 rfl) rfl rfl ?_
    refine e_getr 45 em_476 (ce_at ce_476 28 rfl) tq_121 rfl rfl ?_
    refine e_mv 46 em_476 (ce_at ce_476 29 rfl) rfl rfl ?_
    refine e_ild 47 em_476 (ce_at ce_476 30 rfl) tq_229 (by decide) g5 rfl ?_
    refine e_ivi 50 em_476 (ce_at ce_476 31 rfl) (by omega) (iv_v1 (by decide) tq_121 rfl) em_477 (Nat.le_of_ble_eq_true rfl) rfl (tm_valueOf w (d - 1) (by omega) _ _) (fun r7 s7 => ?_)
    refine e_imul 51 em_476 rfl (ce_at ce_476 32 rfl) ?_
    refine e_isub 52 em_476 rfl (ce_at ce_476 33 rfl) ?_
    refine e_gd fun g8 => ?_
    refine e_ist 53 em_476 (ce_at ce_476 34 rfl) tq_230 (by decide) g8 rfl (fun s9 => ?_)
    refine e_iinc 56 em_476 (ce_at ce_476 35 rfl) rfl (by decide) rfl ?_
    refine e_goto em_476 2 (ce_at ce_476 36 rfl) rfl ?_
    refine e_pk [0, 1] rfl rfl ?_
    exact e_out (fun r h => h)
theorem fm_settle_2b (v1 : Int) (s : iS) : Fm (fun r : (Int × iS) ⊕ (iS) => r.elim (fun l => l.2) (fun e => e)) L_m_settle G_m_settle s (m_settle_2b v1 s) := fm_gd (fm_gd (fm_if (fm_some md_refl) (fm_gd (fm_gd (fm_bd (fm_sub (fm_valueOf _ _) (mem_sub_L rfl) (mem_sub_F rfl)) (fun r6 s6 => fm_bd (fm_sub (fm_valueOf _ _) (mem_sub_L rfl) (mem_sub_F rfl)) (fun r7 s7 => fm_gd (fm_lt (md_upL (mem_L rfl)) (fun s9 => fm_some md_refl)))))))))
noncomputable def m_settle_2 (v1 : Int) (s : iS) : Option (Int × iS) := (lp (L := Int × iS) (E := iS) (fun l => m_settle_2b (l.1) (l.2)) (v1, s)).bind (fun e => some (0, e))
theorem tm_settle_2 (w : ev_W) (d : Nat) (hd : 1 ≤ d) (v1 : Int) (s : iS) : Ew hT w d 476 2 [(0, .ref (tb_nK + 121)), (1, iv v1)] [] s (Cv hT) (m_settle_2 v1 s) := by
  unfold m_settle_2
  refine e_lp (L := Int × iS) (E := iS) (LO := fun l => [(0, .ref (tb_nK + 121)), (1, iv (l.1))]) (LS := fun l => l.2) (CE := fun e r => ev w d 476 59 [] [] (hT (e)) r) (fun l => tm_settle_2b w d hd _ _) ?_ (v1, s)
  intro e
  show Ew hT w d 476 59 [] [] e (Cv hT) _
  exact e_retv em_476 (ce_at ce_476 37 rfl)
theorem fm_settle_2 (v1 : Int) (s : iS) : Fm Prod.snd L_m_settle G_m_settle s (m_settle_2 v1 s) := by
  unfold m_settle_2
  refine fm_lp (A := Int × iS) (E := iS) (LS := fun l => l.2) (LE := fun e => e) ?_ ?_ (v1, s)
  · exact fun l => fm_settle_2b _ _
  · exact (fun e => fm_some md_refl)
noncomputable def m_settle (s : iS) : Option (Int × iS) := m_settle_2 0 s
theorem tm_settle (w : ev_W) (d : Nat) (hd : 1 ≤ d) (s : iS) : Ew hT w d 476 0 [(0, .ref (tb_nK + 121))] [] s (Cv hT) (m_settle s) := by
  unfold m_settle
  refine e_op 1 em_476 (ce_at ce_476 0 rfl) rfl rfl ?_
  refine e_mv 2 em_476 (ce_at ce_476 1 rfl) rfl rfl ?_
  refine e_pk [0, 1] rfl rfl ?_
  exact tm_settle_2 w d hd _ _
theorem fm_settle (s : iS) : Fm Prod.snd L_m_settle G_m_settle s (m_settle s) := fm_settle_2 _ _
/-! m_countAll -/
def L_m_countAll : List Nat := [220, 221]
def G_m_countAll : List (Nat × Nat) := []
def m_countAll_33C (w : ev_W) (d : Nat) (v1 : Int) (v2 : Int) (v3 : Int) : (Int × Int × iS) ⊕ (Int × iS) → am_E → Prop := fun q r => q.elim (fun l => ev w d 464 33 ((fun l => [(0, .ref (tb_nK + 121)), (1, iv v1), (2, iv v2), (3, lv v3), (5, lv (l.1)), (7, iv (l.2.1))]) l) [] (hT ((fun l => l.2.2) l)) r) (fun e => (fun e r => ev w d 464 65 [(0, .ref (tb_nK + 121)), (1, iv v1), (2, iv v2), (3, lv v3), (5, lv (e.1))] [] (hT (e.2)) r) e r)
noncomputable def m_countAll_33b (v1 : Int) (v2 : Int) (v3 : Int) (v5 : Int) (v7 : Int) (s : iS) : Option ((Int × Int × iS) ⊕ (Int × iS)) := gd (0 ≤ (v2 + 1) ∧ (v2 + 1) < 18) (gd (rg v7) (gd (rg (s 196 (v2 + 1).toNat)) (if (s 196 (v2 + 1).toNat) ≤ v7 then some (.inr (v5, s)) else gd (0 ≤ v7 ∧ v7 < 200) (gd (rg (s 199 v7.toNat)) (some (.inl ((v5 + (s 199 v7.toNat)), (v7 + 1), s)))))))
theorem tm_countAll_33b (w : ev_W) (d : Nat) (hd : 0 ≤ d) (v1 : Int) (v2 : Int) (v3 : Int) (v5 : Int) (v7 : Int) (s : iS) : Ew hT w d 464 33 [(0, .ref (tb_nK + 121)), (1, iv v1), (2, iv v2), (3, lv v3), (5, lv v5), (7, iv v7)] [] s (m_countAll_33C w d v1 v2 v3) (m_countAll_33b v1 v2 v3 v5 v7 s) := by
  unfold m_countAll_33b
  refine e_mv 35 em_464 (ce_at ce_464 21 rfl) rfl rfl ?_
  refine e_mv 36 em_464 (ce_at ce_464 22 rfl) rfl rfl ?_
  refine e_getr 39 em_464 (ce_at ce_464 23 rfl) tq_121 rfl rfl ?_
  refine e_mv 40 em_464 (ce_at ce_464 24 rfl) rfl rfl ?_
  refine e_op 41 em_464 (ce_at ce_464 25 rfl) rfl rfl ?_
  refine e_iadd 42 em_464 rfl (ce_at ce_464 26 rfl) ?_
  refine e_gd fun g1 => ?_
  refine e_ild 43 em_464 (ce_at ce_464 27 rfl) tq_196 (by decide) g1 rfl ?_
  refine e_gd fun g2 => ?_
  refine e_gd fun g3 => ?_
  refine e_cmge 65 46 em_464 rfl rfl (ce_at ce_464 28 rfl) g2 g3 (fun h4 => ?_) (fun h4 => ?_)
  · refine e_pk [0, 1, 2, 3, 5] rfl rfl ?_
    exact e_out (fun r h => h)
  · refine e_mv 48 em_464 (ce_at ce_464 29 rfl) rfl rfl ?_
    refine e_mv 49 em_464 (ce_at ce_464 30 rfl) rfl rfl ?_
    refine e_getr 52 em_464 (ce_at ce_464 31 rfl) tq_121 rfl rfl ?_
    refine e_mv 54 em_464 (ce_at ce_464 32 rfl) rfl rfl ?_
    refine e_gd fun g5 => ?_
    refine e_ild 55 em_464 (ce_at ce_464 33 rfl) tq_199 (by decide) g5 rfl ?_
    refine e_gd fun g6 => ?_
    refine e_i2l 56 em_464 rfl (ce_at ce_464 34 rfl) g6 ?_
    refine e_ladd 57 em_464 rfl (ce_at ce_464 35 rfl) ?_
    refine e_mv 59 em_464 (ce_at ce_464 36 rfl) rfl rfl ?_
    refine e_iinc 62 em_464 (ce_at ce_464 37 rfl) rfl (by decide) rfl ?_
    refine e_goto em_464 33 (ce_at ce_464 38 rfl) rfl ?_
    refine e_pk [0, 1, 2, 3, 5, 7] rfl rfl ?_
    exact e_out (fun r h => h)
theorem fm_countAll_33b (v1 : Int) (v2 : Int) (v3 : Int) (v5 : Int) (v7 : Int) (s : iS) : Fm (fun r : (Int × Int × iS) ⊕ (Int × iS) => r.elim (fun l => l.2.2) (fun e => e.2)) L_m_countAll G_m_countAll s (m_countAll_33b v1 v2 v3 v5 v7 s) := fm_gd (fm_gd (fm_gd (fm_if (fm_some md_refl) (fm_gd (fm_gd (fm_some md_refl))))))
def m_countAll_73C (w : ev_W) (d : Nat) (v1 : Int) (v2 : Int) (v3 : Int) : (Int × Int × iS) ⊕ (Int × iS) → am_E → Prop := fun q r => q.elim (fun l => ev w d 464 73 ((fun l => [(0, .ref (tb_nK + 121)), (1, iv v1), (2, iv v2), (3, lv v3), (5, lv (l.1)), (7, iv (l.2.1))]) l) [] (hT ((fun l => l.2.2) l)) r) (fun e => (fun e r => ev w d 464 119 [(0, .ref (tb_nK + 121)), (1, iv v1), (2, iv v2), (3, lv v3), (5, lv (e.1))] [] (hT (e.2)) r) e r)
noncomputable def m_countAll_73b (v1 : Int) (v2 : Int) (v3 : Int) (v5 : Int) (v7 : Int) (s : iS) : Option ((Int × Int × iS) ⊕ (Int × iS)) := gd (0 ≤ (v2 + 1) ∧ (v2 + 1) < 18) (gd (rg v7) (gd (rg (s 212 (v2 + 1).toNat)) (if (s 212 (v2 + 1).toNat) ≤ v7 then some (.inr (v5, s)) else gd (0 ≤ v7 ∧ v7 < 700) (gd (rg (s 214 v7.toNat)) (if (s 214 v7.toNat) ≤ 0 then some (.inl ((v5 + 0), (v7 + 1), s)) else some (.inl ((v5 + (s 214 v7.toNat)), (v7 + 1), s)))))))
theorem tm_countAll_73b (w : ev_W) (d : Nat) (hd : 0 ≤ d) (v1 : Int) (v2 : Int) (v3 : Int) (v5 : Int) (v7 : Int) (s : iS) : Ew hT w d 464 73 [(0, .ref (tb_nK + 121)), (1, iv v1), (2, iv v2), (3, lv v3), (5, lv v5), (7, iv v7)] [] s (m_countAll_73C w d v1 v2 v3) (m_countAll_73b v1 v2 v3 v5 v7 s) := by
  unfold m_countAll_73b
  refine e_mv 75 em_464 (ce_at ce_464 44 rfl) rfl rfl ?_
  refine e_mv 76 em_464 (ce_at ce_464 45 rfl) rfl rfl ?_
  refine e_getr 79 em_464 (ce_at ce_464 46 rfl) tq_121 rfl rfl ?_
  refine e_mv 80 em_464 (ce_at ce_464 47 rfl) rfl rfl ?_
  refine e_op 81 em_464 (ce_at ce_464 48 rfl) rfl rfl ?_
  refine e_iadd 82 em_464 rfl (ce_at ce_464 49 rfl) ?_
  refine e_gd fun g1 => ?_
  refine e_ild 83 em_464 (ce_at ce_464 50 rfl) tq_212 (by decide) g1 rfl ?_
  refine e_gd fun g2 => ?_
  refine e_gd fun g3 => ?_
  refine e_cmge 119 86 em_464 rfl rfl (ce_at ce_464 51 rfl) g2 g3 (fun h4 => ?_) (fun h4 => ?_)
  · refine e_pk [0, 1, 2, 3, 5] rfl rfl ?_
    exact e_out (fun r h => h)
  · refine e_mv 88 em_464 (ce_at ce_464 52 rfl) rfl rfl ?_
    refine e_mv 89 em_464 (ce_at ce_464 53 rfl) rfl rfl ?_
    refine e_getr 92 em_464 (ce_at ce_464 54 rfl) tq_121 rfl rfl ?_
    refine e_mv 94 em_464 (ce_at ce_464 55 rfl) rfl rfl ?_
    refine e_gd fun g5 => ?_
    refine e_ild 95 em_464 (ce_at ce_464 56 rfl) tq_214 (by decide) g5 rfl ?_
    refine e_gd fun g6 => ?_
    refine e_ifle 108 98 em_464 rfl rfl (ce_at ce_464 57 rfl) g6 (fun h7 => ?_) (fun h7 => ?_)
    · refine e_op 109 em_464 (ce_at ce_464 63 rfl) rfl rfl ?_
      refine e_i2l 110 em_464 rfl (ce_at ce_464 64 rfl) (by decide) ?_
      refine e_ladd 111 em_464 rfl (ce_at ce_464 65 rfl) ?_
      refine e_mv 113 em_464 (ce_at ce_464 66 rfl) rfl rfl ?_
      refine e_iinc 116 em_464 (ce_at ce_464 67 rfl) rfl (by decide) rfl ?_
      refine e_goto em_464 73 (ce_at ce_464 68 rfl) rfl ?_
      refine e_pk [0, 1, 2, 3, 5, 7] rfl rfl ?_
      exact e_out (fun r h => h)
    · refine e_mv 99 em_464 (ce_at ce_464 58 rfl) rfl rfl ?_
      refine e_getr 102 em_464 (ce_at ce_464 59 rfl) tq_121 rfl rfl ?_
      refine e_mv 104 em_464 (ce_at ce_464 60 rfl) rfl rfl ?_
      refine e_ild 105 em_464 (ce_at ce_464 61 rfl) tq_214 (by decide) g5 rfl ?_
      refine e_goto em_464 109 (ce_at ce_464 62 rfl) rfl ?_
      refine e_i2l 110 em_464 rfl (ce_at ce_464 64 rfl) g6 ?_
      refine e_ladd 111 em_464 rfl (ce_at ce_464 65 rfl) ?_
      refine e_mv 113 em_464 (ce_at ce_464 66 rfl) rfl rfl ?_
      refine e_iinc 116 em_464 (ce_at ce_464 67 rfl) rfl (by decide) rfl ?_
      refine e_goto em_464 73 (ce_at ce_464 68 rfl) rfl ?_
      refine e_pk [0, 1, 2, 3, 5, 7] rfl rfl ?_
      exact e_out (fun r h => h)
theorem fm_countAll_73b (v1 : Int) (v2 : Int) (v3 : Int) (v5 : Int) (v7 : Int) (s : iS) : Fm (fun r : (Int × Int × iS) ⊕ (Int × iS) => r.elim (fun l => l.2.2) (fun e => e.2)) L_m_countAll G_m_countAll s (m_countAll_73b v1 v2 v3 v5 v7 s) := fm_gd (fm_gd (fm_gd (fm_if (fm_some md_refl) (fm_gd (fm_gd (fm_if (fm_some md_refl) (fm_some md_refl)))))))
def m_countAll_127C (w : ev_W) (d : Nat) (v1 : Int) (v2 : Int) : (Int × Int × Int × iS) ⊕ (Int × Int × iS) → am_E → Prop := fun q r => q.elim (fun l => ev w d 464 127 ((fun l => [(0, .ref (tb_nK + 121)), (1, iv v1), (2, iv v2), (3, lv (l.1)), (5, lv (l.2.1)), (7, iv (l.2.2.1))]) l) [] (hT ((fun l => l.2.2.2) l)) r) (fun e => (fun e r => ev w d 464 214 [(0, .ref (tb_nK + 121)), (1, iv v1), (2, iv v2), (3, lv (e.1)), (5, lv (e.2.1))] [] (hT (e.2.2)) r) e r)
noncomputable def m_countAll_169 (v1 : Int) (v2 : Int) (v5 : Int) (v7 : Int) (v8 : Int) (t0 : Int) (t1 : Int) (s : iS) : Option ((Int × Int × Int × iS) ⊕ (Int × Int × iS)) := gd (rg v8) (if v8 ≤ 1 then if v8 = 0 then some (.inl ((t1 + t0), (v5 + 3), (v7 + 1), s)) else some (.inl ((t1 + t0), (v5 + 2), (v7 + 1), s)) else gd (0 ≤ (v8 - 2) ∧ (v8 - 2) < 16) (some (.inl ((t1 + t0), (v5 + (s 221 (v8 - 2).toNat)), (v7 + 1), s))))
theorem tm_countAll_169 (w : ev_W) (d : Nat) (hd : 0 ≤ d) (v1 : Int) (v2 : Int) (v5 : Int) (v7 : Int) (v8 : Int) (t0 : Int) (t1 : Int) (s : iS) : Ew hT w d 464 169 [(0, .ref (tb_nK + 121)), (1, iv v1), (2, iv v2), (5, lv v5), (7, iv v7), (8, iv v8)] [lv t0, lv t1] s (m_countAll_127C w d v1 v2) (m_countAll_169 v1 v2 v5 v7 v8 t0 t1 s) := by
  unfold m_countAll_169
  refine e_ladd 170 em_464 rfl (ce_at ce_464 99 rfl) ?_
  refine e_mv 171 em_464 (ce_at ce_464 100 rfl) rfl rfl ?_
  refine e_mv 173 em_464 (ce_at ce_464 101 rfl) rfl rfl ?_
  refine e_mv 175 em_464 (ce_at ce_464 102 rfl) rfl rfl ?_
  refine e_op 176 em_464 (ce_at ce_464 103 rfl) rfl rfl ?_
  refine e_gd fun g1 => ?_
  refine e_cmle 191 179 em_464 rfl rfl (ce_at ce_464 104 rfl) g1 (by decide) (fun h2 => ?_) (fun h2 => ?_)
  · refine e_mv 193 em_464 (ce_at ce_464 112 rfl) rfl rfl ?_
    refine e_ifne 202 196 em_464 rfl rfl (ce_at ce_464 113 rfl) g1 (fun h3 => ?_) (fun h3 => ?_)
    · refine e_ldcl 205 em_464 (ce_at ce_464 116 rfl) (x := 2) rfl rfl ?_
      refine e_ladd 206 em_464 rfl (ce_at ce_464 117 rfl) ?_
      refine e_mv 208 em_464 (ce_at ce_464 118 rfl) rfl rfl ?_
      refine e_iinc 211 em_464 (ce_at ce_464 119 rfl) rfl (by decide) rfl ?_
      refine e_goto em_464 127 (ce_at ce_464 120 rfl) rfl ?_
      refine e_pk [0, 1, 2, 3, 5, 7] rfl rfl ?_
      exact e_out (fun r h => h)
    · refine e_ldcl 199 em_464 (ce_at ce_464 114 rfl) (x := 3) rfl rfl ?_
      refine e_goto em_464 205 (ce_at ce_464 115 rfl) rfl ?_
      refine e_ladd 206 em_464 rfl (ce_at ce_464 117 rfl) ?_
      refine e_mv 208 em_464 (ce_at ce_464 118 rfl) rfl rfl ?_
      refine e_iinc 211 em_464 (ce_at ce_464 119 rfl) rfl (by decide) rfl ?_
      refine e_goto em_464 127 (ce_at ce_464 120 rfl) rfl ?_
      refine e_pk [0, 1, 2, 3, 5, 7] rfl rfl ?_
      exact e_out (fun r h => h)
  · refine e_mv 180 em_464 (ce_at ce_464 105 rfl) rfl rfl ?_
    refine e_getr 183 em_464 (ce_at ce_464 106 rfl) tq_121 rfl rfl ?_
    refine e_mv 185 em_464 (ce_at ce_464 107 rfl) rfl rfl ?_
    refine e_op 186 em_464 (ce_at ce_464 108 rfl) rfl rfl ?_
    refine e_isub 187 em_464 rfl (ce_at ce_464 109 rfl) ?_
    refine e_gd fun g4 => ?_
    refine e_lld 188 em_464 (ce_at ce_464 110 rfl) tq_221 (by decide) g4 rfl ?_
    refine e_goto em_464 205 (ce_at ce_464 111 rfl) rfl ?_
    refine e_ladd 206 em_464 rfl (ce_at ce_464 117 rfl) ?_
    refine e_mv 208 em_464 (ce_at ce_464 118 rfl) rfl rfl ?_
    refine e_iinc 211 em_464 (ce_at ce_464 119 rfl) rfl (by decide) rfl ?_
    refine e_goto em_464 127 (ce_at ce_464 120 rfl) rfl ?_
    refine e_pk [0, 1, 2, 3, 5, 7] rfl rfl ?_
    exact e_out (fun r h => h)
theorem fm_countAll_169 (v1 : Int) (v2 : Int) (v5 : Int) (v7 : Int) (v8 : Int) (t0 : Int) (t1 : Int) (s : iS) : Fm (fun r : (Int × Int × Int × iS) ⊕ (Int × Int × iS) => r.elim (fun l => l.2.2.2) (fun e => e.2.2)) L_m_countAll G_m_countAll s (m_countAll_169 v1 v2 v5 v7 v8 t0 t1 s) := fm_gd (fm_if (fm_if (fm_some md_refl) (fm_some md_refl)) (fm_gd (fm_some md_refl)))
noncomputable def m_countAll_127b (v1 : Int) (v2 : Int) (v3 : Int) (v5 : Int) (v7 : Int) (s : iS) : Option ((Int × Int × Int × iS) ⊕ (Int × Int × iS)) := gd (0 ≤ (v2 + 1) ∧ (v2 + 1) < 18) (gd (rg v7) (gd (rg (s 201 (v2 + 1).toNat)) (if (s 201 (v2 + 1).toNat) ≤ v7 then some (.inr (v3, v5, s)) else gd (0 ≤ v7 ∧ v7 < 400) (gd (rg (s 216 v7.toNat)) (if (s 216 v7.toNat) ≤ 1 then m_countAll_169 v1 v2 v5 v7 (s 216 v7.toNat) 1 v3 s else gd (0 ≤ ((s 216 v7.toNat) - 2) ∧ ((s 216 v7.toNat) - 2) < 16) (m_countAll_169 v1 v2 v5 v7 (s 216 v7.toNat) (s 220 ((s 216 v7.toNat) - 2).toNat) v3 s))))))
theorem tm_countAll_127b (w : ev_W) (d : Nat) (hd : 0 ≤ d) (v1 : Int) (v2 : Int) (v3 : Int) (v5 : Int) (v7 : Int) (s : iS) : Ew hT w d 464 127 [(0, .ref (tb_nK + 121)), (1, iv v1), (2, iv v2), (3, lv v3), (5, lv v5), (7, iv v7)] [] s (m_countAll_127C w d v1 v2) (m_countAll_127b v1 v2 v3 v5 v7 s) := by
  unfold m_countAll_127b
  refine e_mv 129 em_464 (ce_at ce_464 74 rfl) rfl rfl ?_
  refine e_mv 130 em_464 (ce_at ce_464 75 rfl) rfl rfl ?_
  refine e_getr 133 em_464 (ce_at ce_464 76 rfl) tq_121 rfl rfl ?_
  refine e_mv 134 em_464 (ce_at ce_464 77 rfl) rfl rfl ?_
  refine e_op 135 em_464 (ce_at ce_464 78 rfl) rfl rfl ?_
  refine e_iadd 136 em_464 rfl (ce_at ce_464 79 rfl) ?_
  refine e_gd fun g1 => ?_
  refine e_ild 137 em_464 (ce_at ce_464 80 rfl) tq_201 (by decide) g1 rfl ?_
  refine e_gd fun g2 => ?_
  refine e_gd fun g3 => ?_
  refine e_cmge 214 140 em_464 rfl rfl (ce_at ce_464 81 rfl) g2 g3 (fun h4 => ?_) (fun h4 => ?_)
  · refine e_pk [0, 1, 2, 3, 5] rfl rfl ?_
    exact e_out (fun r h => h)
  · refine e_mv 141 em_464 (ce_at ce_464 82 rfl) rfl rfl ?_
    refine e_getr 144 em_464 (ce_at ce_464 83 rfl) tq_121 rfl rfl ?_
    refine e_mv 146 em_464 (ce_at ce_464 84 rfl) rfl rfl ?_
    refine e_gd fun g5 => ?_
    refine e_ild 147 em_464 (ce_at ce_464 85 rfl) tq_216 (by decide) g5 rfl ?_
    refine e_mv 149 em_464 (ce_at ce_464 86 rfl) rfl rfl ?_
    refine e_mv 150 em_464 (ce_at ce_464 87 rfl) rfl rfl ?_
    refine e_mv 152 em_464 (ce_at ce_464 88 rfl) rfl rfl ?_
    refine e_op 153 em_464 (ce_at ce_464 89 rfl) rfl rfl ?_
    refine e_gd fun g6 => ?_
    refine e_cmle 168 156 em_464 rfl rfl (ce_at ce_464 90 rfl) g6 (by decide) (fun h7 => ?_) (fun h7 => ?_)
    · refine e_lcon 169 em_464 (ce_at ce_464 98 rfl) (x := 1) rfl rfl ?_
      refine e_pk [0, 1, 2, 5, 7, 8] rfl rfl ?_
      exact tm_countAll_169 w d hd _ _ _ _ _ _ _ _
    · refine e_mv 157 em_464 (ce_at ce_464 91 rfl) rfl rfl ?_
      refine e_getr 160 em_464 (ce_at ce_464 92 rfl) tq_121 rfl rfl ?_
      refine e_mv 162 em_464 (ce_at ce_464 93 rfl) rfl rfl ?_
      refine e_op 163 em_464 (ce_at ce_464 94 rfl) rfl rfl ?_
      refine e_isub 164 em_464 rfl (ce_at ce_464 95 rfl) ?_
      refine e_gd fun g8 => ?_
      refine e_lld 165 em_464 (ce_at ce_464 96 rfl) tq_220 (by decide) g8 rfl ?_
      refine e_goto em_464 169 (ce_at ce_464 97 rfl) rfl ?_
      refine e_pk [0, 1, 2, 5, 7, 8] rfl rfl ?_
      exact tm_countAll_169 w d hd _ _ _ _ _ _ _ _
theorem fm_countAll_127b (v1 : Int) (v2 : Int) (v3 : Int) (v5 : Int) (v7 : Int) (s : iS) : Fm (fun r : (Int × Int × Int × iS) ⊕ (Int × Int × iS) => r.elim (fun l => l.2.2.2) (fun e => e.2.2)) L_m_countAll G_m_countAll s (m_countAll_127b v1 v2 v3 v5 v7 s) := fm_gd (fm_gd (fm_gd (fm_if (fm_some md_refl) (fm_gd (fm_gd (fm_if (fm_countAll_169 _ _ _ _ _ _ _ _) (fm_gd (fm_countAll_169 _ _ _ _ _ _ _ _))))))))
def m_countAll_12C (w : ev_W) (d : Nat) (v1 : Int) : (Int × iS) ⊕ (iS) → am_E → Prop := fun q r => q.elim (fun l => ev w d 464 12 ((fun l => [(0, .ref (tb_nK + 121)), (1, iv v1), (2, iv (l.1))]) l) [] (hT ((fun l => l.2) l)) r) (fun e => (fun e r => ev w d 464 264 [(0, .ref (tb_nK + 121)), (1, iv v1)] [] (hT (e)) r) e r)
noncomputable def m_countAll_257 (v1 : Int) (v2 : Int) (t0 : Int) (t1 : Int) (s : iS) : Option ((Int × iS) ⊕ (iS)) := gd (0 ≤ t1 ∧ t1 < 16) (lt' (up s 221 t1.toNat t0) (fun s2 => some (.inl ((v2 + 1), s2))))
theorem tm_countAll_257 (w : ev_W) (d : Nat) (hd : 0 ≤ d) (v1 : Int) (v2 : Int) (t0 : Int) (t1 : Int) (s : iS) : Ew hT w d 464 257 [(0, .ref (tb_nK + 121)), (1, iv v1), (2, iv v2)] [lv t0, iv t1, .ref (tb_nK + 221)] s (m_countAll_12C w d v1) (m_countAll_257 v1 v2 t0 t1 s) := by
  unfold m_countAll_257
  refine e_gd fun g1 => ?_
  refine e_lst 258 em_464 (ce_at ce_464 142 rfl) tq_221 (by decide) g1 rfl (fun s2 => ?_)
  refine e_iinc 261 em_464 (ce_at ce_464 143 rfl) rfl (by decide) rfl ?_
  refine e_goto em_464 12 (ce_at ce_464 144 rfl) rfl ?_
  refine e_pk [0, 1, 2] rfl rfl ?_
  exact e_out (fun r h => h)
theorem fm_countAll_257 (v1 : Int) (v2 : Int) (t0 : Int) (t1 : Int) (s : iS) : Fm (fun r : (Int × iS) ⊕ (iS) => r.elim (fun l => l.2) (fun e => e)) L_m_countAll G_m_countAll s (m_countAll_257 v1 v2 t0 t1 s) := fm_gd (fm_lt (md_upL (mem_L rfl)) (fun s2 => fm_some md_refl))
noncomputable def m_countAll_234 (v1 : Int) (v2 : Int) (v5 : Int) (t0 : Int) (t1 : Int) (s : iS) : Option ((Int × iS) ⊕ (iS)) := gd (0 ≤ t1 ∧ t1 < 16) (lt' (up s 220 t1.toNat t0) (fun s2 => gd (rg (l_cmp v5 1000000)) (if (l_cmp v5 1000000) ≤ 0 then m_countAll_257 v1 v2 v5 v2 s2 else m_countAll_257 v1 v2 1000000 v2 s2)))
theorem tm_countAll_234 (w : ev_W) (d : Nat) (hd : 0 ≤ d) (v1 : Int) (v2 : Int) (v5 : Int) (t0 : Int) (t1 : Int) (s : iS) : Ew hT w d 464 234 [(0, .ref (tb_nK + 121)), (1, iv v1), (2, iv v2), (5, lv v5)] [lv t0, iv t1, .ref (tb_nK + 220)] s (m_countAll_12C w d v1) (m_countAll_234 v1 v2 v5 t0 t1 s) := by
  unfold m_countAll_234
  refine e_gd fun g1 => ?_
  refine e_lst 235 em_464 (ce_at ce_464 131 rfl) tq_220 (by decide) g1 rfl (fun s2 => ?_)
  refine e_mv 236 em_464 (ce_at ce_464 132 rfl) rfl rfl ?_
  refine e_getr 239 em_464 (ce_at ce_464 133 rfl) tq_121 rfl rfl ?_
  refine e_mv 240 em_464 (ce_at ce_464 134 rfl) rfl rfl ?_
  refine e_mv 242 em_464 (ce_at ce_464 135 rfl) rfl rfl ?_
  refine e_ldcl 245 em_464 (ce_at ce_464 136 rfl) (x := 1000000) rfl rfl ?_
  refine e_lcmp 246 em_464 rfl (ce_at ce_464 137 rfl) ?_
  refine e_gd fun g3 => ?_
  refine e_ifle 255 249 em_464 rfl rfl (ce_at ce_464 138 rfl) g3 (fun h4 => ?_) (fun h4 => ?_)
  · refine e_mv 257 em_464 (ce_at ce_464 141 rfl) rfl rfl ?_
    refine e_pk [0, 1, 2] rfl rfl ?_
    exact tm_countAll_257 w d hd _ _ _ _ _
  · refine e_ldcl 252 em_464 (ce_at ce_464 139 rfl) (x := 1000000) rfl rfl ?_
    refine e_goto em_464 257 (ce_at ce_464 140 rfl) rfl ?_
    refine e_pk [0, 1, 2] rfl rfl ?_
    exact tm_countAll_257 w d hd _ _ _ _ _
theorem fm_countAll_234 (v1 : Int) (v2 : Int) (v5 : Int) (t0 : Int) (t1 : Int) (s : iS) : Fm (fun r : (Int × iS) ⊕ (iS) => r.elim (fun l => l.2) (fun e => e)) L_m_countAll G_m_countAll s (m_countAll_234 v1 v2 v5 t0 t1 s) := fm_gd (fm_lt (md_upL (mem_L rfl)) (fun s2 => fm_gd (fm_if (fm_countAll_257 _ _ _ _ _) (fm_countAll_257 _ _ _ _ _))))
noncomputable def m_countAll_214 (v1 : Int) (v2 : Int) (v3 : Int) (v5 : Int) (s : iS) : Option ((Int × iS) ⊕ (iS)) := gd (rg (l_cmp v3 1000000)) (if (l_cmp v3 1000000) ≤ 0 then m_countAll_234 v1 v2 v5 v3 v2 s else m_countAll_234 v1 v2 v5 1000000 v2 s)
theorem tm_countAll_214 (w : ev_W) (d : Nat) (hd : 0 ≤ d) (v1 : Int) (v2 : Int) (v3 : Int) (v5 : Int) (s : iS) : Ew hT w d 464 214 [(0, .ref (tb_nK + 121)), (1, iv v1), (2, iv v2), (3, lv v3), (5, lv v5)] [] s (m_countAll_12C w d v1) (m_countAll_214 v1 v2 v3 v5 s) := by
  unfold m_countAll_214
  refine e_mv 215 em_464 (ce_at ce_464 121 rfl) rfl rfl ?_
  refine e_getr 218 em_464 (ce_at ce_464 122 rfl) tq_121 rfl rfl ?_
  refine e_mv 219 em_464 (ce_at ce_464 123 rfl) rfl rfl ?_
  refine e_mv 220 em_464 (ce_at ce_464 124 rfl) rfl rfl ?_
  refine e_ldcl 223 em_464 (ce_at ce_464 125 rfl) (x := 1000000) rfl rfl ?_
  refine e_lcmp 224 em_464 rfl (ce_at ce_464 126 rfl) ?_
  refine e_gd fun g1 => ?_
  refine e_ifle 233 227 em_464 rfl rfl (ce_at ce_464 127 rfl) g1 (fun h2 => ?_) (fun h2 => ?_)
  · refine e_mv 234 em_464 (ce_at ce_464 130 rfl) rfl rfl ?_
    refine e_pk [0, 1, 2, 5] rfl rfl ?_
    exact tm_countAll_234 w d hd _ _ _ _ _ _
  · refine e_ldcl 230 em_464 (ce_at ce_464 128 rfl) (x := 1000000) rfl rfl ?_
    refine e_goto em_464 234 (ce_at ce_464 129 rfl) rfl ?_
    refine e_pk [0, 1, 2, 5] rfl rfl ?_
    exact tm_countAll_234 w d hd _ _ _ _ _ _
theorem fm_countAll_214 (v1 : Int) (v2 : Int) (v3 : Int) (v5 : Int) (s : iS) : Fm (fun r : (Int × iS) ⊕ (iS) => r.elim (fun l => l.2) (fun e => e)) L_m_countAll G_m_countAll s (m_countAll_214 v1 v2 v3 v5 s) := fm_gd (fm_if (fm_countAll_234 _ _ _ _ _ _) (fm_countAll_234 _ _ _ _ _ _))
noncomputable def m_countAll_127 (v1 : Int) (v2 : Int) (v3 : Int) (v5 : Int) (v7 : Int) (s : iS) : Option ((Int × iS) ⊕ (iS)) := (lp (L := Int × Int × Int × iS) (E := Int × Int × iS) (fun l => m_countAll_127b v1 v2 (l.1) (l.2.1) (l.2.2.1) (l.2.2.2)) (v3, v5, v7, s)).bind (fun e => m_countAll_214 v1 v2 (e.1) (e.2.1) (e.2.2))
theorem tm_countAll_127 (w : ev_W) (d : Nat) (hd : 0 ≤ d) (v1 : Int) (v2 : Int) (v3 : Int) (v5 : Int) (v7 : Int) (s : iS) : Ew hT w d 464 127 [(0, .ref (tb_nK + 121)), (1, iv v1), (2, iv v2), (3, lv v3), (5, lv v5), (7, iv v7)] [] s (m_countAll_12C w d v1) (m_countAll_127 v1 v2 v3 v5 v7 s) := by
  unfold m_countAll_127
  refine e_lp (L := Int × Int × Int × iS) (E := Int × Int × iS) (LO := fun l => [(0, .ref (tb_nK + 121)), (1, iv v1), (2, iv v2), (3, lv (l.1)), (5, lv (l.2.1)), (7, iv (l.2.2.1))]) (LS := fun l => l.2.2.2) (CE := fun e r => ev w d 464 214 [(0, .ref (tb_nK + 121)), (1, iv v1), (2, iv v2), (3, lv (e.1)), (5, lv (e.2.1))] [] (hT (e.2.2)) r) (fun l => tm_countAll_127b w d hd _ _ _ _ _ _) ?_ (v3, v5, v7, s)
  intro e
  show Ew hT w d 464 214 [(0, .ref (tb_nK + 121)), (1, iv v1), (2, iv v2), (3, lv (e.1)), (5, lv (e.2.1))] [] e.2.2 (m_countAll_12C w d v1) _
  refine e_pk [0, 1, 2, 3, 5] rfl rfl ?_
  exact tm_countAll_214 w d hd _ _ _ _ _
theorem fm_countAll_127 (v1 : Int) (v2 : Int) (v3 : Int) (v5 : Int) (v7 : Int) (s : iS) : Fm (fun r : (Int × iS) ⊕ (iS) => r.elim (fun l => l.2) (fun e => e)) L_m_countAll G_m_countAll s (m_countAll_127 v1 v2 v3 v5 v7 s) := by
  unfold m_countAll_127
  refine fm_lp (A := Int × Int × Int × iS) (E := Int × Int × iS) (LS := fun l => l.2.2.2) (LE := fun e => e.2.2) ?_ ?_ (v3, v5, v7, s)
  · exact fun l => fm_countAll_127b _ _ _ _ _ _
  · exact (fun e => fm_countAll_214 _ _ _ _ _)
noncomputable def m_countAll_119 (v1 : Int) (v2 : Int) (v3 : Int) (v5 : Int) (s : iS) : Option ((Int × iS) ⊕ (iS)) := gd (0 ≤ v2 ∧ v2 < 18) (m_countAll_127 v1 v2 v3 v5 (s 201 v2.toNat) s)
theorem tm_countAll_119 (w : ev_W) (d : Nat) (hd : 0 ≤ d) (v1 : Int) (v2 : Int) (v3 : Int) (v5 : Int) (s : iS) : Ew hT w d 464 119 [(0, .ref (tb_nK + 121)), (1, iv v1), (2, iv v2), (3, lv v3), (5, lv v5)] [] s (m_countAll_12C w d v1) (m_countAll_119 v1 v2 v3 v5 s) := by
  unfold m_countAll_119
  refine e_mv 120 em_464 (ce_at ce_464 69 rfl) rfl rfl ?_
  refine e_getr 123 em_464 (ce_at ce_464 70 rfl) tq_121 rfl rfl ?_
  refine e_mv 124 em_464 (ce_at ce_464 71 rfl) rfl rfl ?_
  refine e_gd fun g1 => ?_
  refine e_ild 125 em_464 (ce_at ce_464 72 rfl) tq_201 (by decide) g1 rfl ?_
  refine e_mv 127 em_464 (ce_at ce_464 73 rfl) rfl rfl ?_
  refine e_pk [0, 1, 2, 3, 5, 7] rfl rfl ?_
  exact tm_countAll_127 w d hd _ _ _ _ _ _
theorem fm_countAll_119 (v1 : Int) (v2 : Int) (v3 : Int) (v5 : Int) (s : iS) : Fm (fun r : (Int × iS) ⊕ (iS) => r.elim (fun l => l.2) (fun e => e)) L_m_countAll G_m_countAll s (m_countAll_119 v1 v2 v3 v5 s) := fm_gd (fm_countAll_127 _ _ _ _ _ _)
noncomputable def m_countAll_73 (v1 : Int) (v2 : Int) (v3 : Int) (v5 : Int) (v7 : Int) (s : iS) : Option ((Int × iS) ⊕ (iS)) := (lp (L := Int × Int × iS) (E := Int × iS) (fun l => m_countAll_73b v1 v2 v3 (l.1) (l.2.1) (l.2.2)) (v5, v7, s)).bind (fun e => m_countAll_119 v1 v2 v3 (e.1) (e.2))
theorem tm_countAll_73 (w : ev_W) (d : Nat) (hd : 0 ≤ d) (v1 : Int) (v2 : Int) (v3 : Int) (v5 : Int) (v7 : Int) (s : iS) : Ew hT w d 464 73 [(0, .ref (tb_nK + 121)), (1, iv v1), (2, iv v2), (3, lv v3), (5, lv v5), (7, iv v7)] [] s (m_countAll_12C w d v1) (m_countAll_73 v1 v2 v3 v5 v7 s) := by
  unfold m_countAll_73
  refine e_lp (L := Int × Int × iS) (E := Int × iS) (LO := fun l => [(0, .ref (tb_nK + 121)), (1, iv v1), (2, iv v2), (3, lv v3), (5, lv (l.1)), (7, iv (l.2.1))]) (LS := fun l => l.2.2) (CE := fun e r => ev w d 464 119 [(0, .ref (tb_nK + 121)), (1, iv v1), (2, iv v2), (3, lv v3), (5, lv (e.1))] [] (hT (e.2)) r) (fun l => tm_countAll_73b w d hd _ _ _ _ _ _) ?_ (v5, v7, s)
  intro e
  show Ew hT w d 464 119 [(0, .ref (tb_nK + 121)), (1, iv v1), (2, iv v2), (3, lv v3), (5, lv (e.1))] [] e.2 (m_countAll_12C w d v1) _
  refine e_pk [0, 1, 2, 3, 5] rfl rfl ?_
  exact tm_countAll_119 w d hd _ _ _ _ _
theorem fm_countAll_73 (v1 : Int) (v2 : Int) (v3 : Int) (v5 : Int) (v7 : Int) (s : iS) : Fm (fun r : (Int × iS) ⊕ (iS) => r.elim (fun l => l.2) (fun e => e)) L_m_countAll G_m_countAll s (m_countAll_73 v1 v2 v3 v5 v7 s) := by
  unfold m_countAll_73
  refine fm_lp (A := Int × Int × iS) (E := Int × iS) (LS := fun l => l.2.2) (LE := fun e => e.2) ?_ ?_ (v5, v7, s)
  · exact fun l => fm_countAll_73b _ _ _ _ _ _
  · exact (fun e => fm_countAll_119 _ _ _ _ _)
noncomputable def m_countAll_65 (v1 : Int) (v2 : Int) (v3 : Int) (v5 : Int) (s : iS) : Option ((Int × iS) ⊕ (iS)) := gd (0 ≤ v2 ∧ v2 < 18) (m_countAll_73 v1 v2 v3 v5 (s 212 v2.toNat) s)
theorem tm_countAll_65 (w : ev_W) (d : Nat) (hd : 0 ≤ d) (v1 : Int) (v2 : Int) (v3 : Int) (v5 : Int) (s : iS) : Ew hT w d 464 65 [(0, .ref (tb_nK + 121)), (1, iv v1), (2, iv v2), (3, lv v3), (5, lv v5)] [] s (m_countAll_12C w d v1) (m_countAll_65 v1 v2 v3 v5 s) := by
  unfold m_countAll_65
  refine e_mv 66 em_464 (ce_at ce_464 39 rfl) rfl rfl ?_
  refine e_getr 69 em_464 (ce_at ce_464 40 rfl) tq_121 rfl rfl ?_
  refine e_mv 70 em_464 (ce_at ce_464 41 rfl) rfl rfl ?_
  refine e_gd fun g1 => ?_
  refine e_ild 71 em_464 (ce_at ce_464 42 rfl) tq_212 (by decide) g1 rfl ?_
  refine e_mv 73 em_464 (ce_at ce_464 43 rfl) rfl rfl ?_
  refine e_pk [0, 1, 2, 3, 5, 7] rfl rfl ?_
  exact tm_countAll_73 w d hd _ _ _ _ _ _
theorem fm_countAll_65 (v1 : Int) (v2 : Int) (v3 : Int) (v5 : Int) (s : iS) : Fm (fun r : (Int × iS) ⊕ (iS) => r.elim (fun l => l.2) (fun e => e)) L_m_countAll G_m_countAll s (m_countAll_65 v1 v2 v3 v5 s) := fm_gd (fm_countAll_73 _ _ _ _ _ _)
noncomputable def m_countAll_33 (v1 : Int) (v2 : Int) (v3 : Int) (v5 : Int) (v7 : Int) (s : iS) : Option ((Int × iS) ⊕ (iS)) := (lp (L := Int × Int × iS) (E := Int × iS) (fun l => m_countAll_33b v1 v2 v3 (l.1) (l.2.1) (l.2.2)) (v5, v7, s)).bind (fun e => m_countAll_65 v1 v2 v3 (e.1) (e.2))
theorem tm_countAll_33 (w : ev_W) (d : Nat) (hd : 0 ≤ d) (v1 : Int) (v2 : Int) (v3 : Int) (v5 : Int) (v7 : Int) (s : iS) : Ew hT w d 464 33 [(0, .ref (tb_nK + 121)), (1, iv v1), (2, iv v2), (3, lv v3), (5, lv v5), (7, iv v7)] [] s (m_countAll_12C w d v1) (m_countAll_33 v1 v2 v3 v5 v7 s) := by
  unfold m_countAll_33
  refine e_lp (L := Int × Int × iS) (E := Int × iS) (LO := fun l => [(0, .ref (tb_nK + 121)), (1, iv v1), (2, iv v2), (3, lv v3), (5, lv (l.1)), (7, iv (l.2.1))]) (LS := fun l => l.2.2) (CE := fun e r => ev w d 464 65 [(0, .ref (tb_nK + 121)), (1, iv v1), (2, iv v2), (3, lv v3), (5, lv (e.1))] [] (hT (e.2)) r) (fun l => tm_countAll_33b w d hd _ _ _ _ _ _) ?_ (v5, v7, s)
  intro e
  show Ew hT w d 464 65 [(0, .ref (tb_nK + 121)), (1, iv v1), (2, iv v2), (3, lv v3), (5, lv (e.1))] [] e.2 (m_countAll_12C w d v1) _
  refine e_pk [0, 1, 2, 3, 5] rfl rfl ?_
  exact tm_countAll_65 w d hd _ _ _ _ _
theorem fm_countAll_33 (v1 : Int) (v2 : Int) (v3 : Int) (v5 : Int) (v7 : Int) (s : iS) : Fm (fun r : (Int × iS) ⊕ (iS) => r.elim (fun l => l.2) (fun e => e)) L_m_countAll G_m_countAll s (m_countAll_33 v1 v2 v3 v5 v7 s) := by
  unfold m_countAll_33
  refine fm_lp (A := Int × Int × iS) (E := Int × iS) (LS := fun l => l.2.2) (LE := fun e => e.2) ?_ ?_ (v5, v7, s)
  · exact fun l => fm_countAll_33b _ _ _ _ _ _
  · exact (fun e => fm_countAll_65 _ _ _ _ _)
noncomputable def m_countAll_12b (v1 : Int) (v2 : Int) (s : iS) : Option ((Int × iS) ⊕ (iS)) := gd (rg v2) (gd (rg (s 121 122)) (if (s 121 122) ≤ v2 then some (.inr s) else gd (0 ≤ v2 ∧ v2 < 18) (m_countAll_33 v1 v2 0 0 (s 196 v2.toNat) s)))
theorem tm_countAll_12b (w : ev_W) (d : Nat) (hd : 0 ≤ d) (v1 : Int) (v2 : Int) (s : iS) : Ew hT w d 464 12 [(0, .ref (tb_nK + 121)), (1, iv v1), (2, iv v2)] [] s (m_countAll_12C w d v1) (m_countAll_12b v1 v2 s) := by
  unfold m_countAll_12b
  refine e_mv 13 em_464 (ce_at ce_464 8 rfl) rfl rfl ?_
  refine e_mv 14 em_464 (ce_at ce_464 9 rfl) rfl rfl ?_
  refine e_get 17 em_464 (ce_at ce_464 10 rfl) tq_121 rfl rfl ?_
  refine e_gd fun g1 => ?_
  refine e_gd fun g2 => ?_
  refine e_cmge 264 20 em_464 rfl rfl (ce_at ce_464 11 rfl) g1 g2 (fun h3 => ?_) (fun h3 => ?_)
  · refine e_pk [0, 1] rfl rfl ?_
    exact e_out (fun r h => h)
  · refine e_lcon 21 em_464 (ce_at ce_464 12 rfl) (x := 0) rfl rfl ?_
    refine e_mv 22 em_464 (ce_at ce_464 13 rfl) rfl rfl ?_
    refine e_lcon 23 em_464 (ce_at ce_464 14 rfl) (x := 0) rfl rfl ?_
    refine e_mv 25 em_464 (ce_at ce_464 15 rfl) rfl rfl ?_
    refine e_mv 26 em_464 (ce_at ce_464 16 rfl) rfl rfl ?_
    refine e_getr 29 em_464 (ce_at ce_464 17 rfl) tq_121 rfl rfl ?_
    refine e_mv 30 em_464 (ce_at ce_464 18 rfl) rfl rfl ?_
    refine e_gd fun g4 => ?_
    refine e_ild 31 em_464 (ce_at ce_464 19 rfl) tq_196 (by decide) g4 rfl ?_
    refine e_mv 33 em_464 (ce_at ce_464 20 rfl) rfl rfl ?_
    refine e_pk [0, 1, 2, 3, 5, 7] rfl rfl ?_
    exact tm_countAll_33 w d hd _ _ _ _ _ _
theorem fm_countAll_12b (v1 : Int) (v2 : Int) (s : iS) : Fm (fun r : (Int × iS) ⊕ (iS) => r.elim (fun l => l.2) (fun e => e)) L_m_countAll G_m_countAll s (m_countAll_12b v1 v2 s) := fm_gd (fm_gd (fm_if (fm_some md_refl) (fm_gd (fm_countAll_33 _ _ _ _ _ _))))
def m_countAll_2C (w : ev_W) (d : Nat) : (Int × iS) ⊕ (iS) → am_E → Prop := fun q r => q.elim (fun l => ev w d 464 2 ((fun l => [(0, .ref (tb_nK + 121)), (1, iv (l.1))]) l) [] (hT ((fun l => l.2) l)) r) (fun e => (fun e r => ev w d 464 270 [] [] (hT (e)) r) e r)
noncomputable def m_countAll_12 (v1 : Int) (v2 : Int) (s : iS) : Option ((Int × iS) ⊕ (iS)) := (lp (L := Int × iS) (E := iS) (fun l => m_countAll_12b v1 (l.1) (l.2)) (v2, s)).bind (fun e => some (.inl ((v1 + 1), e)))
theorem tm_countAll_12 (w : ev_W) (d : Nat) (hd : 0 ≤ d) (v1 : Int) (v2 : Int) (s : iS) : Ew hT w d 464 12 [(0, .ref (tb_nK + 121)), (1, iv v1), (2, iv v2)] [] s (m_countAll_2C w d) (m_countAll_12 v1 v2 s) := by
  unfold m_countAll_12
  refine e_lp (L := Int × iS) (E := iS) (LO := fun l => [(0, .ref (tb_nK + 121)), (1, iv v1), (2, iv (l.1))]) (LS := fun l => l.2) (CE := fun e r => ev w d 464 264 [(0, .ref (tb_nK + 121)), (1, iv v1)] [] (hT (e)) r) (fun l => tm_countAll_12b w d hd _ _ _) ?_ (v2, s)
  intro e
  show Ew hT w d 464 264 [(0, .ref (tb_nK + 121)), (1, iv v1)] [] e (m_countAll_2C w d) _
  refine e_iinc 267 em_464 (ce_at ce_464 145 rfl) rfl (by decide) rfl ?_
  refine e_goto em_464 2 (ce_at ce_464 146 rfl) rfl ?_
  refine e_pk [0, 1] rfl rfl ?_
  exact e_out (fun r h => h)
theorem fm_countAll_12 (v1 : Int) (v2 : Int) (s : iS) : Fm (fun r : (Int × iS) ⊕ (iS) => r.elim (fun l => l.2) (fun e => e)) L_m_countAll G_m_countAll s (m_countAll_12 v1 v2 s) := by
  unfold m_countAll_12
  refine fm_lp (A := Int × iS) (E := iS) (LS := fun l => l.2) (LE := fun e => e) ?_ ?_ (v2, s)
  · exact fun l => fm_countAll_12b _ _ _
  · exact (fun e => fm_some md_refl)
noncomputable def m_countAll_2b (v1 : Int) (s : iS) : Option ((Int × iS) ⊕ (iS)) := gd (rg v1) (gd (rg (s 121 122)) (if (s 121 122) ≤ v1 then some (.inr s) else m_countAll_12 v1 0 s))
theorem tm_countAll_2b (w : ev_W) (d : Nat) (hd : 0 ≤ d) (v1 : Int) (s : iS) : Ew hT w d 464 2 [(0, .ref (tb_nK + 121)), (1, iv v1)] [] s (m_countAll_2C w d) (m_countAll_2b v1 s) := by
  unfold m_countAll_2b
  refine e_mv 3 em_464 (ce_at ce_464 2 rfl) rfl rfl ?_
  refine e_mv 4 em_464 (ce_at ce_464 3 rfl) rfl rfl ?_
  refine e_get 7 em_464 (ce_at ce_464 4 rfl) tq_121 rfl rfl ?_
  refine e_gd fun g1 => ?_
  refine e_gd fun g2 => ?_
  refine e_cmge 270 10 em_464 rfl rfl (ce_at ce_464 5 rfl) g1 g2 (fun h3 => ?_) (fun h3 => ?_)
  · refine e_pk [] rfl rfl ?_
    exact e_out (fun r h => h)
  · refine e_op 11 em_464 (ce_at ce_464 6 rfl) rfl rfl ?_
    refine e_mv 12 em_464 (ce_at ce_464 7 rfl) rfl rfl ?_
    refine e_pk [0, 1, 2] rfl rfl ?_
    exact tm_countAll_12 w d hd _ _ _
theorem fm_countAll_2b (v1 : Int) (s : iS) : Fm (fun r : (Int × iS) ⊕ (iS) => r.elim (fun l => l.2) (fun e => e)) L_m_countAll G_m_countAll s (m_countAll_2b v1 s) := fm_gd (fm_gd (fm_if (fm_some md_refl) (fm_countAll_12 _ _ _)))
noncomputable def m_countAll_2 (v1 : Int) (s : iS) : Option (Int × iS) := (lp (L := Int × iS) (E := iS) (fun l => m_countAll_2b (l.1) (l.2)) (v1, s)).bind (fun e => some (0, e))
theorem tm_countAll_2 (w : ev_W) (d : Nat) (hd : 0 ≤ d) (v1 : Int) (s : iS) : Ew hT w d 464 2 [(0, .ref (tb_nK + 121)), (1, iv v1)] [] s (Cv hT) (m_countAll_2 v1 s) := by
  unfold m_countAll_2
  refine e_lp (L := Int × iS) (E := iS) (LO := fun l => [(0, .ref (tb_nK + 121)), (1, iv (l.1))]) (LS := fun l => l.2) (CE := fun e r => ev w d 464 270 [] [] (hT (e)) r) (fun l => tm_countAll_2b w d hd _ _) ?_ (v1, s)
  intro e
  show Ew hT w d 464 270 [] [] e (Cv hT) _
  exact e_retv em_464 (ce_at ce_464 147 rfl)
theorem fm_countAll_2 (v1 : Int) (s : iS) : Fm Prod.snd L_m_countAll G_m_countAll s (m_countAll_2 v1 s) := by
  unfold m_countAll_2
  refine fm_lp (A := Int × iS) (E := iS) (LS := fun l => l.2) (LE := fun e => e) ?_ ?_ (v1, s)
  · exact fun l => fm_countAll_2b _ _
  · exact (fun e => fm_some md_refl)
noncomputable def m_countAll (s : iS) : Option (Int × iS) := m_countAll_2 0 s
theorem tm_countAll (w : ev_W) (d : Nat) (hd : 0 ≤ d) (s : iS) : Ew hT w d 464 0 [(0, .ref (tb_nK + 121))] [] s (Cv hT) (m_countAll s) := by
  unfold m_countAll
  refine e_op 1 em_464 (ce_at ce_464 0 rfl) rfl rfl ?_
  refine e_mv 2 em_464 (ce_at ce_464 1 rfl) rfl rfl ?_
  refine e_pk [0, 1] rfl rfl ?_
  exact tm_countAll_2 w d hd _ _
theorem fm_countAll (s : iS) : Fm Prod.snd L_m_countAll G_m_countAll s (m_countAll s) := fm_countAll_2 _ _
/-! m_levelOf -/
def L_m_levelOf : List Nat := []
def G_m_levelOf : List (Nat × Nat) := []
noncomputable def m_levelOf (v1 : Int) (s : iS) : Option (Int × iS) := gd (rg v1) (if v1 < 0 then some (0, s) else gd (0 ≤ v1 ∧ v1 < 40000) (gd (rg (s 223 v1.toNat)) (if (s 223 v1.toNat) = 0 then some (0, s) else gd (0 ≤ ((s 223 v1.toNat) - 1) ∧ ((s 223 v1.toNat) - 1) < 1500) (gd (rg (s 224 ((s 223 v1.toNat) - 1).toNat)) (if (s 224 ((s 223 v1.toNat) - 1).toNat) = 0 then some ((s 226 ((s 223 v1.toNat) - 1).toNat), s) else some (0, s))))))
theorem tm_levelOf (w : ev_W) (d : Nat) (hd : 0 ≤ d) (v1 : Int) (s : iS) : Ew hT w d 475 0 [(0, .ref (tb_nK + 121)), (1, iv v1)] [] s (Ci hT) (m_levelOf v1 s) := by
  unfold m_levelOf
  refine e_mv 1 em_475 (ce_at ce_475 0 rfl) rfl rfl ?_
  refine e_gd fun g1 => ?_
  refine e_iflt 29 4 em_475 rfl rfl (ce_at ce_475 1 rfl) g1 (fun h2 => ?_) (fun h2 => ?_)
  · refine e_op 30 em_475 (ce_at ce_475 17 rfl) rfl rfl ?_
    exact e_reti em_475 (ce_at ce_475 18 rfl)
  · refine e_mv 5 em_475 (ce_at ce_475 2 rfl) rfl rfl ?_
    refine e_getr 8 em_475 (ce_at ce_475 3 rfl) tq_121 rfl rfl ?_
    refine e_mv 9 em_475 (ce_at ce_475 4 rfl) rfl rfl ?_
    refine e_gd fun g3 => ?_
    refine e_ild 10 em_475 (ce_at ce_475 5 rfl) tq_223 (by decide) g3 rfl ?_
    refine e_gd fun g4 => ?_
    refine e_ifeq 29 13 em_475 rfl rfl (ce_at ce_475 6 rfl) g4 (fun h5 => ?_) (fun h5 => ?_)
    · refine e_op 30 em_475 (ce_at ce_475 17 rfl) rfl rfl ?_
      exact e_reti em_475 (ce_at ce_475 18 rfl)
    · refine e_mv 14 em_475 (ce_at ce_475 7 rfl) rfl rfl ?_
      refine e_getr 17 em_475 (ce_at ce_475 8 rfl) tq_121 rfl rfl ?_
      refine e_mv 18 em_475 (ce_at ce_475 9 rfl) rfl rfl ?_
      refine e_getr 21 em_475 (ce_at ce_475 10 rfl) tq_121 rfl rfl ?_
      refine e_mv 22 em_475 (ce_at ce_475 11 rfl) rfl rfl ?_
      refine e_ild 23 em_475 (ce_at ce_475 12 rfl) tq_223 (by decide) g3 rfl ?_
      refine e_op 24 em_475 (ce_at ce_475 13 rfl) rfl rfl ?_
      refine e_isub 25 em_475 rfl (ce_at ce_475 14 rfl) ?_
      refine e_gd fun g6 => ?_
      refine e_zld 26 em_475 (ce_at ce_475 15 rfl) tq_224 (by decide) g6 rfl ?_
      refine e_gd fun g7 => ?_
      refine e_ifeq 31 29 em_475 rfl rfl (ce_at ce_475 16 rfl) g7 (fun h8 => ?_) (fun h8 => ?_)
      · refine e_mv 32 em_475 (ce_at ce_475 19 rfl) rfl rfl ?_
        refine e_getr 35 em_475 (ce_at ce_475 20 rfl) tq_121 rfl rfl ?_
        refine e_mv 36 em_475 (ce_at ce_475 21 rfl) rfl rfl ?_
        refine e_getr 39 em_475 (ce_at ce_475 22 rfl) tq_121 rfl rfl ?_
        refine e_mv 40 em_475 (ce_at ce_475 23 rfl) rfl rfl ?_
        refine e_ild 41 em_475 (ce_at ce_475 24 rfl) tq_223 (by decide) g3 rfl ?_
        refine e_op 42 em_475 (ce_at ce_475 25 rfl) rfl rfl ?_
        refine e_isub 43 em_475 rfl (ce_at ce_475 26 rfl) ?_
        refine e_ild 44 em_475 (ce_at ce_475 27 rfl) tq_226 (by decide) g6 rfl ?_
        exact e_reti em_475 (ce_at ce_475 28 rfl)
      · refine e_op 30 em_475 (ce_at ce_475 17 rfl) rfl rfl ?_
        exact e_reti em_475 (ce_at ce_475 18 rfl)
theorem fm_levelOf (v1 : Int) (s : iS) : Fm Prod.snd L_m_levelOf G_m_levelOf s (m_levelOf v1 s) := fm_gd (fm_if (fm_some md_refl) (fm_gd (fm_gd (fm_if (fm_some md_refl) (fm_gd (fm_gd (fm_if (fm_some md_refl) (fm_some md_refl))))))))
/-! m_order -/
def L_m_order : List Nat := [226, 227]
def G_m_order : List (Nat × Nat) := [(121, 166)]
def m_order_9C (w : ev_W) (d : Nat) : (Int × Int × iS) ⊕ (Int × iS) → am_E → Prop := fun q r => q.elim (fun l => ev w d 474 9 ((fun l => [(0, .ref (tb_nK + 121)), (1, iv (l.1)), (2, iv (l.2.1))]) l) [] (hT ((fun l => l.2.2) l)) r) (fun e => (fun e r => ev w d 474 47 [(0, .ref (tb_nK + 121)), (1, iv (e.1))] [] (hT (e.2)) r) e r)
noncomputable def m_order_9b (v1 : Int) (v2 : Int) (s : iS) : Option ((Int × Int × iS) ⊕ (Int × iS)) := gd (rg v2) (gd (rg (s 121 161)) (if (s 121 161) ≤ v2 then some (.inr (v1, s)) else gd (0 ≤ v2 ∧ v2 < 1500) (lt' (up s 226 v2.toNat (-1)) (fun s5 => gd (rg (s5 224 v2.toNat)) (if (s5 224 v2.toNat) = 0 then some (.inl ((v1 + 1), (v2 + 1), s5)) else some (.inl (v1, (v2 + 1), s5)))))))
theorem tm_order_9b (w : ev_W) (d : Nat) (hd : 1 ≤ d) (v1 : Int) (v2 : Int) (s : iS) : Ew hT w d 474 9 [(0, .ref (tb_nK + 121)), (1, iv v1), (2, iv v2)] [] s (m_order_9C w d) (m_order_9b v1 v2 s) := by
  unfold m_order_9b
  refine e_mv 10 em_474 (ce_at ce_474 7 rfl) rfl rfl ?_
  refine e_mv 11 em_474 (ce_at ce_474 8 rfl) rfl rfl ?_
  refine e_get 14 em_474 (ce_at ce_474 9 rfl) tq_121 rfl rfl ?_
  refine e_gd fun g1 => ?_
  refine e_gd fun g2 => ?_
  refine e_cmge 47 17 em_474 rfl rfl (ce_at ce_474 10 rfl) g1 g2 (fun h3 => ?_) (fun h3 => ?_)
  · refine e_pk [0, 1] rfl rfl ?_
    exact e_out (fun r h => h)
  · refine e_mv 18 em_474 (ce_at ce_474 11 rfl) rfl rfl ?_
    refine e_getr 21 em_474 (ce_at ce_474 12 rfl) tq_121 rfl rfl ?_
    refine e_mv 22 em_474 (ce_at ce_474 13 rfl) rfl rfl ?_
    refine e_op 23 em_474 (ce_at ce_474 14 rfl) rfl rfl ?_
    refine e_gd fun g4 => ?_
    refine e_ist 24 em_474 (ce_at ce_474 15 rfl) tq_226 (by decide) g4 rfl (fun s5 => ?_)
    refine e_mv 25 em_474 (ce_at ce_474 16 rfl) rfl rfl ?_
    refine e_getr 28 em_474 (ce_at ce_474 17 rfl) tq_121 rfl rfl ?_
    refine e_mv 29 em_474 (ce_at ce_474 18 rfl) rfl rfl ?_
    refine e_zld 30 em_474 (ce_at ce_474 19 rfl) tq_224 (by decide) g4 rfl ?_
    refine e_gd fun g6 => ?_
    refine e_ifeq 37 33 em_474 rfl rfl (ce_at ce_474 20 rfl) g6 (fun h7 => ?_) (fun h7 => ?_)
    · refine e_mv 38 em_474 (ce_at ce_474 23 rfl) rfl rfl ?_
      refine e_op 39 em_474 (ce_at ce_474 24 rfl) rfl rfl ?_
      refine e_iadd 40 em_474 rfl (ce_at ce_474 25 rfl) ?_
      refine e_mv 41 em_474 (ce_at ce_474 26 rfl) rfl rfl ?_
      refine e_iinc 44 em_474 (ce_at ce_474 27 rfl) rfl (by decide) rfl ?_
      refine e_goto em_474 9 (ce_at ce_474 28 rfl) rfl ?_
      refine e_pk [0, 1, 2] rfl rfl ?_
      exact e_out (fun r h => h)
    · refine e_mv 34 em_474 (ce_at ce_474 21 rfl) rfl rfl ?_
      refine e_goto em_474 40 (ce_at ce_474 22 rfl) rfl ?_
      refine e_mv 41 em_474 (ce_at ce_474 26 rfl) rfl rfl ?_
      refine e_iinc 44 em_474 (ce_at ce_474 27 rfl) rfl (by decide) rfl ?_
      refine e_goto em_474 9 (ce_at ce_474 28 rfl) rfl ?_
      refine e_pk [0, 1, 2] rfl rfl ?_
      exact e_out (fun r h => h)
theorem fm_order_9b (v1 : Int) (v2 : Int) (s : iS) : Fm (fun r : (Int × Int × iS) ⊕ (Int × iS) => r.elim (fun l => l.2.2) (fun e => e.2)) L_m_order G_m_order s (m_order_9b v1 v2 s) := fm_gd (fm_gd (fm_if (fm_some md_refl) (fm_gd (fm_lt (md_upL (mem_L rfl)) (fun s5 => fm_gd (fm_if (fm_some md_refl) (fm_some md_refl)))))))
def m_order_57C (w : ev_W) (d : Nat) (v1 : Int) : (Int × Int × iS) ⊕ (Int × iS) → am_E → Prop := fun q r => q.elim (fun l => ev w d 474 57 ((fun l => [(0, .ref (tb_nK + 121)), (1, iv v1), (2, iv (l.1)), (3, iv (l.2.1))]) l) [] (hT ((fun l => l.2.2) l)) r) (fun e => (fun e r => ev w d 474 176 [(0, .ref (tb_nK + 121)), (1, iv v1), (2, iv (e.1))] [] (hT (e.2)) r) e r)
noncomputable def m_order_146 (v1 : Int) (v3 : Int) (t0 : Int) (t1 : Int) (t2 : Int) (s : iS) : Option ((Int × Int × iS) ⊕ (Int × iS)) := gd (0 ≤ t2 ∧ t2 < 1500) (lt' (up s 226 t2.toNat (t1 + t0)) (fun s2 => gd (0 ≤ (s2 121 166) ∧ (s2 121 166) < 1500) (lt' (up s2 227 (s2 121 166).toNat v3) (fun s4 => lt' (up s4 121 166 ((s4 121 166) + 1)) (fun s5 => some (.inl (1, (v3 + 1), s5)))))))
theorem tm_order_146 (w : ev_W) (d : Nat) (hd : 1 ≤ d) (v1 : Int) (v3 : Int) (t0 : Int) (t1 : Int) (t2 : Int) (s : iS) : Ew hT w d 474 146 [(0, .ref (tb_nK + 121)), (1, iv v1), (3, iv v3)] [iv t0, iv t1, iv t2, .ref (tb_nK + 226)] s (m_order_57C w d v1) (m_order_146 v1 v3 t0 t1 t2 s) := by
  unfold m_order_146
  refine e_iadd 147 em_474 rfl (ce_at ce_474 84 rfl) ?_
  refine e_gd fun g1 => ?_
  refine e_ist 148 em_474 (ce_at ce_474 85 rfl) tq_226 (by decide) g1 rfl (fun s2 => ?_)
  refine e_mv 149 em_474 (ce_at ce_474 86 rfl) rfl rfl ?_
  refine e_getr 152 em_474 (ce_at ce_474 87 rfl) tq_121 rfl rfl ?_
  refine e_mv 153 em_474 (ce_at ce_474 88 rfl) rfl rfl ?_
  refine e_get 156 em_474 (ce_at ce_474 89 rfl) tq_121 rfl rfl ?_
  refine e_mv 157 em_474 (ce_at ce_474 90 rfl) rfl rfl ?_
  refine e_gd fun g3 => ?_
  refine e_ist 158 em_474 (ce_at ce_474 91 rfl) tq_227 (by decide) g3 rfl (fun s4 => ?_)
  refine e_mv 159 em_474 (ce_at ce_474 92 rfl) rfl rfl ?_
  refine e_mv 160 em_474 (ce_at ce_474 93 rfl) rfl rfl ?_
  refine e_get 163 em_474 (ce_at ce_474 94 rfl) tq_121 rfl rfl ?_
  refine e_op 164 em_474 (ce_at ce_474 95 rfl) rfl rfl ?_
  refine e_iadd 165 em_474 rfl (ce_at ce_474 96 rfl) ?_
  refine e_put 168 em_474 (ce_at ce_474 97 rfl) tq_121 rfl rfl rfl (fun s5 => ?_)
  refine e_op 169 em_474 (ce_at ce_474 98 rfl) rfl rfl ?_
  refine e_mv 170 em_474 (ce_at ce_474 99 rfl) rfl rfl ?_
  refine e_iinc 173 em_474 (ce_at ce_474 100 rfl) rfl (by decide) rfl ?_
  refine e_goto em_474 57 (ce_at ce_474 101 rfl) rfl ?_
  refine e_pk [0, 1, 2, 3] rfl rfl ?_
  exact e_out (fun r h => h)
theorem fm_order_146 (v1 : Int) (v3 : Int) (t0 : Int) (t1 : Int) (t2 : Int) (s : iS) : Fm (fun r : (Int × Int × iS) ⊕ (Int × iS) => r.elim (fun l => l.2.2) (fun e => e.2)) L_m_order G_m_order s (m_order_146 v1 v3 t0 t1 t2 s) := fm_gd (fm_lt (md_upL (mem_L rfl)) (fun s2 => fm_gd (fm_lt (md_upL (mem_L rfl)) (fun s4 => fm_lt (md_upF (mem_F rfl)) (fun s5 => fm_some md_refl)))))
noncomputable def m_order_57b (v1 : Int) (v2 : Int) (v3 : Int) (s : iS) : Option ((Int × Int × iS) ⊕ (Int × iS)) := gd (rg v3) (gd (rg (s 121 161)) (if (s 121 161) ≤ v3 then some (.inr (v2, s)) else gd (0 ≤ v3 ∧ v3 < 1500) (gd (rg (s 224 v3.toNat)) (if (s 224 v3.toNat) = 0 then gd (rg (s 226 v3.toNat)) (if (s 226 v3.toNat) = (-1) then bd (m_levelOf (s 228 v3.toNat) s) (fun r9 s9 => bd (m_levelOf (s9 229 v3.toNat) s9) (fun r10 s10 => gd (rg r9) (if r9 = (-1) then some (.inl (v2, (v3 + 1), s10)) else gd (rg r10) (if r10 = (-1) then some (.inl (v2, (v3 + 1), s10)) else if r9 ≤ r10 then m_order_146 v1 v3 r10 1 v3 s10 else m_order_146 v1 v3 r9 1 v3 s10)))) else some (.inl (v2, (v3 + 1), s))) else some (.inl (v2, (v3 + 1), s))))))
theorem tm_order_57b (w : ev_W) (d : Nat) (hd : 1 ≤ d) (v1 : Int) (v2 : Int) (v3 : Int) (s : iS) : Ew hT w d 474 57 [(0, .ref (tb_nK + 121)), (1, iv v1), (2, iv v2), (3, iv v3)] [] s (m_order_57C w d v1) (m_order_57b v1 v2 v3 s) := by
  unfold m_order_57b
  refine e_mv 58 em_474 (ce_at ce_474 37 rfl) rfl rfl ?_
  refine e_mv 59 em_474 (ce_at ce_474 38 rfl) rfl rfl ?_
  refine e_get 62 em_474 (ce_at ce_474 39 rfl) tq_121 rfl rfl ?_
  refine e_gd fun g1 => ?_
  refine e_gd fun g2 => ?_
  refine e_cmge 176 65 em_474 rfl rfl (ce_at ce_474 40 rfl) g1 g2 (fun h3 => ?_) (fun h3 => ?_)
  · refine e_pk [0, 1, 2] rfl rfl ?_
    exact e_out (fun r h => h)
  · refine e_mv 66 em_474 (ce_at ce_474 41 rfl) rfl rfl ?_
    refine e_getr 69 em_474 (ce_at ce_474 42 rfl) tq_121 rfl rfl ?_
    refine e_mv 70 em_474 (ce_at ce_474 43 rfl) rfl rfl ?_
    refine e_gd fun g4 => ?_
    refine e_zld 71 em_474 (ce_at ce_474 44 rfl) tq_224 (by decide) g4 rfl ?_
    refine e_gd fun g5 => ?_
    refine e_ifne 170 74 em_474 rfl rfl (ce_at ce_474 45 rfl) g5 (fun h6 => ?_) (fun h6 => ?_)
    · refine e_iinc 173 em_474 (ce_at ce_474 100 rfl) rfl (by decide) rfl ?_
      refine e_goto em_474 57 (ce_at ce_474 101 rfl) rfl ?_
      refine e_pk [0, 1, 2, 3] rfl rfl ?_
      exact e_out (fun r h => h)
    · refine e_mv 75 em_474 (ce_at ce_474 46 rfl) rfl rfl ?_
      refine e_getr 78 em_474 (ce_at ce_474 47 rfl) tq_121 rfl rfl ?_
      refine e_mv 79 em_474 (ce_at ce_474 48 rfl) rfl rfl ?_
      refine e_ild 80 em_474 (ce_at ce_474 49 rfl) tq_226 (by decide) g4 rfl ?_
      refine e_op 81 em_474 (ce_at ce_474 50 rfl) rfl rfl ?_
      refine e_gd fun g7 => ?_
      refine e_cmeq 87 84 em_474 rfl rfl (ce_at ce_474 51 rfl) g7 (by decide) (fun h8 => ?_) (fun h8 => ?_)
      · refine e_mv 88 em_474 (ce_at ce_474 53 rfl) rfl rfl ?_
        refine e_mv 89 em_474 (ce_at ce_474 54 rfl) rfl rfl ?_
        refine e_getr 92 em_474 (ce_at ce_474 55 rfl) tq_121 rfl rfl ?_
        refine e_mv 93 em_474 (ce_at ce_474 56 rfl) rfl rfl ?_
        refine e_ild 94 em_474 (ce_at ce_474 57 rfl) tq_228 (by decide) g4 rfl ?_
        refine e_ivi 97 em_474 (ce_at ce_474 58 rfl) (by omega) (iv_v1 (by decide) tq_121 rfl) em_475 (Nat.le_of_ble_eq_true rfl) rfl (tm_levelOf w (d - 1) (by omega) _ _) (fun r9 s9 => ?_)
        refine e_mv 99 em_474 (ce_at ce_474 59 rfl) rfl rfl ?_
        refine e_mv 100 em_474 (ce_at ce_474 60 rfl) rfl rfl ?_
        refine e_mv 101 em_474 (ce_at ce_474 61 rfl) rfl rfl ?_
        refine e_getr 104 em_474 (ce_at ce_474 62 rfl) tq_121 rfl rfl ?_
        refine e_mv 105 em_474 (ce_at ce_474 63 rfl) rfl rfl ?_
        refine e_ild 106 em_474 (ce_at ce_474 64 rfl) tq_229 (by decide) g4 rfl ?_
        refine e_ivi 109 em_474 (ce_at ce_474 65 rfl) (by omega) (iv_v1 (by decide) tq_121 rfl) em_475 (Nat.le_of_ble_eq_true rfl) rfl (tm_levelOf w (d - 1) (by omega) _ _) (fun r10 s10 => ?_)
        refine e_mv 111 em_474 (ce_at ce_474 66 rfl) rfl rfl ?_
        refine e_mv 113 em_474 (ce_at ce_474 67 rfl) rfl rfl ?_
        refine e_op 114 em_474 (ce_at ce_474 68 rfl) rfl rfl ?_
        refine e_gd fun g11 => ?_
        refine e_cmeq 170 117 em_474 rfl rfl (ce_at ce_474 69 rfl) g11 (by decide) (fun h12 => ?_) (fun h12 => ?_)
        · refine e_iinc 173 em_474 (ce_at ce_474 100 rfl) rfl (by decide) rfl ?_
          refine e_goto em_474 57 (ce_at ce_474 101 rfl) rfl ?_
          refine e_pk [0, 1, 2, 3] rfl rfl ?_
          exact e_out (fun r h => h)
        · refine e_mv 119 em_474 (ce_at ce_474 70 rfl) rfl rfl ?_
          refine e_op 120 em_474 (ce_at ce_474 71 rfl) rfl rfl ?_
          refine e_gd fun g13 => ?_
          refine e_cmne 126 123 em_474 rfl rfl (ce_at ce_474 72 rfl) g13 (by decide) (fun h14 => ?_) (fun h14 => ?_)
          · refine e_mv 127 em_474 (ce_at ce_474 74 rfl) rfl rfl ?_
            refine e_getr 130 em_474 (ce_at ce_474 75 rfl) tq_121 rfl rfl ?_
            refine e_mv 131 em_474 (ce_at ce_474 76 rfl) rfl rfl ?_
            refine e_op 132 em_474 (ce_at ce_474 77 rfl) rfl rfl ?_
            refine e_mv 134 em_474 (ce_at ce_474 78 rfl) rfl rfl ?_
            refine e_mv 136 em_474 (ce_at ce_474 79 rfl) rfl rfl ?_
            refine e_cmle 144 139 em_474 rfl rfl (ce_at ce_474 80 rfl) g11 g13 (fun h15 => ?_) (fun h15 => ?_)
            · refine e_mv 146 em_474 (ce_at ce_474 83 rfl) rfl rfl ?_
              refine e_pk [0, 1, 3] rfl rfl ?_
              exact tm_order_146 w d hd _ _ _ _ _ _
            · refine e_mv 141 em_474 (ce_at ce_474 81 rfl) rfl rfl ?_
              refine e_goto em_474 146 (ce_at ce_474 82 rfl) rfl ?_
              refine e_pk [0, 1, 3] rfl rfl ?_
              exact tm_order_146 w d hd _ _ _ _ _ _
          · refine e_goto em_474 170 (ce_at ce_474 73 rfl) rfl ?_
            refine e_iinc 173 em_474 (ce_at ce_474 100 rfl) rfl (by decide) rfl ?_
            refine e_goto em_474 57 (ce_at ce_474 101 rfl) rfl ?_
            refine e_pk [0, 1, 2, 3] rfl rfl ?_
            exact e_out (fun r h => h)
      · refine e_goto em_474 170 (ce_at ce_474 52 rfl) rfl ?_
        refine e_iinc 173 em_474 (ce_at ce_474 100 rfl) rfl (by decide) rfl ?_
        refine e_goto em_474 57 (ce_at ce_474 101 rfl) rfl ?_
        refine e_pk [0, 1, 2, 3] rfl rfl ?_
        exact e_out (fun r h => h)
theorem fm_order_57b (v1 : Int) (v2 : Int) (v3 : Int) (s : iS) : Fm (fun r : (Int × Int × iS) ⊕ (Int × iS) => r.elim (fun l => l.2.2) (fun e => e.2)) L_m_order G_m_order s (m_order_57b v1 v2 v3 s) := fm_gd (fm_gd (fm_if (fm_some md_refl) (fm_gd (fm_gd (fm_if (fm_gd (fm_if (fm_bd (fm_sub (fm_levelOf _ _) (mem_sub_L rfl) (mem_sub_F rfl)) (fun r9 s9 => fm_bd (fm_sub (fm_levelOf _ _) (mem_sub_L rfl) (mem_sub_F rfl)) (fun r10 s10 => fm_gd (fm_if (fm_some md_refl) (fm_gd (fm_if (fm_some md_refl) (fm_if (fm_order_146 _ _ _ _ _ _) (fm_order_146 _ _ _ _ _ _)))))))) (fm_some md_refl))) (fm_some md_refl))))))
def m_order_49C (w : ev_W) (d : Nat) (v1 : Int) : (Int × iS) ⊕ (iS) → am_E → Prop := fun q r => q.elim (fun l => ev w d 474 49 ((fun l => [(0, .ref (tb_nK + 121)), (1, iv v1), (2, iv (l.1))]) l) [] (hT ((fun l => l.2) l)) r) (fun e => (fun e r => ev w d 474 179 [(0, .ref (tb_nK + 121)), (1, iv v1)] [] (hT (e)) r) e r)
noncomputable def m_order_57 (v1 : Int) (v2 : Int) (v3 : Int) (s : iS) : Option ((Int × iS) ⊕ (iS)) := (lp (L := Int × Int × iS) (E := Int × iS) (fun l => m_order_57b v1 (l.1) (l.2.1) (l.2.2)) (v2, v3, s)).bind (fun e => some (.inl (e.1, e.2)))
theorem tm_order_57 (w : ev_W) (d : Nat) (hd : 1 ≤ d) (v1 : Int) (v2 : Int) (v3 : Int) (s : iS) : Ew hT w d 474 57 [(0, .ref (tb_nK + 121)), (1, iv v1), (2, iv v2), (3, iv v3)] [] s (m_order_49C w d v1) (m_order_57 v1 v2 v3 s) := by
  unfold m_order_57
  refine e_lp (L := Int × Int × iS) (E := Int × iS) (LO := fun l => [(0, .ref (tb_nK + 121)), (1, iv v1), (2, iv (l.1)), (3, iv (l.2.1))]) (LS := fun l => l.2.2) (CE := fun e r => ev w d 474 176 [(0, .ref (tb_nK + 121)), (1, iv v1), (2, iv (e.1))] [] (hT (e.2)) r) (fun l => tm_order_57b w d hd _ _ _ _) ?_ (v2, v3, s)
  intro e
  show Ew hT w d 474 176 [(0, .ref (tb_nK + 121)), (1, iv v1), (2, iv (e.1))] [] e.2 (m_order_49C w d v1) _
  refine e_goto em_474 49 (ce_at ce_474 102 rfl) rfl ?_
  refine e_pk [0, 1, 2] rfl rfl ?_
  exact e_out (fun r h => h)
theorem fm_order_57 (v1 : Int) (v2 : Int) (v3 : Int) (s : iS) : Fm (fun r : (Int × iS) ⊕ (iS) => r.elim (fun l => l.2) (fun e => e)) L_m_order G_m_order s (m_order_57 v1 v2 v3 s) := by
  unfold m_order_57
  refine fm_lp (A := Int × Int × iS) (E := Int × iS) (LS := fun l => l.2.2) (LE := fun e => e.2) ?_ ?_ (v2, v3, s)
  · exact fun l => fm_order_57b _ _ _ _
  · exact (fun e => fm_some md_refl)
noncomputable def m_order_49b (v1 : Int) (v2 : Int) (s : iS) : Option ((Int × iS) ⊕ (iS)) := gd (rg v2) (if v2 = 0 then some (.inr s) else m_order_57 v1 0 0 s)
theorem tm_order_49b (w : ev_W) (d : Nat) (hd : 1 ≤ d) (v1 : Int) (v2 : Int) (s : iS) : Ew hT w d 474 49 [(0, .ref (tb_nK + 121)), (1, iv v1), (2, iv v2)] [] s (m_order_49C w d v1) (m_order_49b v1 v2 s) := by
  unfold m_order_49b
  refine e_mv 50 em_474 (ce_at ce_474 31 rfl) rfl rfl ?_
  refine e_gd fun g1 => ?_
  refine e_ifeq 179 53 em_474 rfl rfl (ce_at ce_474 32 rfl) g1 (fun h2 => ?_) (fun h2 => ?_)
  · refine e_pk [0, 1] rfl rfl ?_
    exact e_out (fun r h => h)
  · refine e_op 54 em_474 (ce_at ce_474 33 rfl) rfl rfl ?_
    refine e_mv 55 em_474 (ce_at ce_474 34 rfl) rfl rfl ?_
    refine e_op 56 em_474 (ce_at ce_474 35 rfl) rfl rfl ?_
    refine e_mv 57 em_474 (ce_at ce_474 36 rfl) rfl rfl ?_
    refine e_pk [0, 1, 2, 3] rfl rfl ?_
    exact tm_order_57 w d hd _ _ _ _
theorem fm_order_49b (v1 : Int) (v2 : Int) (s : iS) : Fm (fun r : (Int × iS) ⊕ (iS) => r.elim (fun l => l.2) (fun e => e)) L_m_order G_m_order s (m_order_49b v1 v2 s) := fm_gd (fm_if (fm_some md_refl) (fm_order_57 _ _ _ _))
noncomputable def m_order_179 (v1 : Int) (s : iS) : Option (Int × iS) := gd (rg (s 121 166)) (gd (rg v1) (if (s 121 166) = v1 then some (1, s) else some (0, s)))
theorem tm_order_179 (w : ev_W) (d : Nat) (hd : 1 ≤ d) (v1 : Int) (s : iS) : Ew hT w d 474 179 [(0, .ref (tb_nK + 121)), (1, iv v1)] [] s (Ci hT) (m_order_179 v1 s) := by
  unfold m_order_179
  refine e_mv 180 em_474 (ce_at ce_474 103 rfl) rfl rfl ?_
  refine e_get 183 em_474 (ce_at ce_474 104 rfl) tq_121 rfl rfl ?_
  refine e_mv 184 em_474 (ce_at ce_474 105 rfl) rfl rfl ?_
  refine e_gd fun g1 => ?_
  refine e_gd fun g2 => ?_
  refine e_cmne 191 187 em_474 rfl rfl (ce_at ce_474 106 rfl) g1 g2 (fun h3 => ?_) (fun h3 => ?_)
  · refine e_op 192 em_474 (ce_at ce_474 109 rfl) rfl rfl ?_
    exact e_retz em_474 (ce_at ce_474 110 rfl) (by decide)
  · refine e_op 188 em_474 (ce_at ce_474 107 rfl) rfl rfl ?_
    refine e_goto em_474 192 (ce_at ce_474 108 rfl) rfl ?_
    exact e_retz em_474 (ce_at ce_474 110 rfl) (by decide)
theorem fm_order_179 (v1 : Int) (s : iS) : Fm Prod.snd L_m_order G_m_order s (m_order_179 v1 s) := fm_gd (fm_gd (fm_if (fm_some md_refl) (fm_some md_refl)))
noncomputable def m_order_49 (v1 : Int) (v2 : Int) (s : iS) : Option (Int × iS) := (lp (L := Int × iS) (E := iS) (fun l => m_order_49b v1 (l.1) (l.2)) (v2, s)).bind (fun e => m_order_179 v1 e)
theorem tm_order_49 (w : ev_W) (d : Nat) (hd : 1 ≤ d) (v1 : Int) (v2 : Int) (s : iS) : Ew hT w d 474 49 [(0, .ref (tb_nK + 121)), (1, iv v1), (2, iv v2)] [] s (Ci hT) (m_order_49 v1 v2 s) := by
  unfold m_order_49
  refine e_lp (L := Int × iS) (E := iS) (LO := fun l => [(0, .ref (tb_nK + 121)), (1, iv v1), (2, iv (l.1))]) (LS := fun l => l.2) (CE := fun e r => ev w d 474 179 [(0, .ref (tb_nK + 121)), (1, iv v1)] [] (hT (e)) r) (fun l => tm_order_49b w d hd _ _ _) ?_ (v2, s)
  intro e
  show Ew hT w d 474 179 [(0, .ref (tb_nK + 121)), (1, iv v1)] [] e (Ci hT) _
  refine e_pk [0, 1] rfl rfl ?_
  exact tm_order_179 w d hd _ _
theorem fm_order_49 (v1 : Int) (v2 : Int) (s : iS) : Fm Prod.snd L_m_order G_m_order s (m_order_49 v1 v2 s) := by
  unfold m_order_49
  refine fm_lp (A := Int × iS) (E := iS) (LS := fun l => l.2) (LE := fun e => e) ?_ ?_ (v2, s)
  · exact fun l => fm_order_49b _ _ _
  · exact (fun e => fm_order_179 _ _)
noncomputable def m_order_47 (v1 : Int) (s : iS) : Option (Int × iS) := m_order_49 v1 1 s
theorem tm_order_47 (w : ev_W) (d : Nat) (hd : 1 ≤ d) (v1 : Int) (s : iS) : Ew hT w d 474 47 [(0, .ref (tb_nK + 121)), (1, iv v1)] [] s (Ci hT) (m_order_47 v1 s) := by
  unfold m_order_47
  refine e_op 48 em_474 (ce_at ce_474 29 rfl) rfl rfl ?_
  refine e_mv 49 em_474 (ce_at ce_474 30 rfl) rfl rfl ?_
  refine e_pk [0, 1, 2] rfl rfl ?_
  exact tm_order_49 w d hd _ _ _
theorem fm_order_47 (v1 : Int) (s : iS) : Fm Prod.snd L_m_order G_m_order s (m_order_47 v1 s) := fm_order_49 _ _ _
noncomputable def m_order_9 (v1 : Int) (v2 : Int) (s : iS) : Option (Int × iS) := (lp (L := Int × Int × iS) (E := Int × iS) (fun l => m_order_9b (l.1) (l.2.1) (l.2.2)) (v1, v2, s)).bind (fun e => m_order_47 (e.1) (e.2))
theorem tm_order_9 (w : ev_W) (d : Nat) (hd : 1 ≤ d) (v1 : Int) (v2 : Int) (s : iS) : Ew hT w d 474 9 [(0, .ref (tb_nK + 121)), (1, iv v1), (2, iv v2)] [] s (Ci hT) (m_order_9 v1 v2 s) := by
  unfold m_order_9
  refine e_lp (L := Int × Int × iS) (E := Int × iS) (LO := fun l => [(0, .ref (tb_nK + 121)), (1, iv (l.1)), (2, iv (l.2.1))]) (LS := fun l => l.2.2) (CE := fun e r => ev w d 474 47 [(0, .ref (tb_nK + 121)), (1, iv (e.1))] [] (hT (e.2)) r) (fun l => tm_order_9b w d hd _ _ _) ?_ (v1, v2, s)
  intro e
  show Ew hT w d 474 47 [(0, .ref (tb_nK + 121)), (1, iv (e.1))] [] e.2 (Ci hT) _
  refine e_pk [0, 1] rfl rfl ?_
  exact tm_order_47 w d hd _ _
theorem fm_order_9 (v1 : Int) (v2 : Int) (s : iS) : Fm Prod.snd L_m_order G_m_order s (m_order_9 v1 v2 s) := by
  unfold m_order_9
  refine fm_lp (A := Int × Int × iS) (E := Int × iS) (LS := fun l => l.2.2) (LE := fun e => e.2) ?_ ?_ (v1, v2, s)
  · exact fun l => fm_order_9b _ _ _
  · exact (fun e => fm_order_47 _ _)
noncomputable def m_order (s : iS) : Option (Int × iS) := lt' (up s 121 166 0) (fun s1 => m_order_9 0 0 s1)
theorem tm_order (w : ev_W) (d : Nat) (hd : 1 ≤ d) (s : iS) : Ew hT w d 474 0 [(0, .ref (tb_nK + 121))] [] s (Ci hT) (m_order s) := by
  unfold m_order
  refine e_mv 1 em_474 (ce_at ce_474 0 rfl) rfl rfl ?_
  refine e_op 2 em_474 (ce_at ce_474 1 rfl) rfl rfl ?_
  refine e_put 5 em_474 (ce_at ce_474 2 rfl) tq_121 rfl rfl rfl (fun s1 => ?_)
  refine e_op 6 em_474 (ce_at ce_474 3 rfl) rfl rfl ?_
  refine e_mv 7 em_474 (ce_at ce_474 4 rfl) rfl rfl ?_
  refine e_op 8 em_474 (ce_at ce_474 5 rfl) rfl rfl ?_
  refine e_mv 9 em_474 (ce_at ce_474 6 rfl) rfl rfl ?_
  refine e_pk [0, 1, 2] rfl rfl ?_
  exact tm_order_9 w d hd _ _ _
theorem fm_order (s : iS) : Fm Prod.snd L_m_order G_m_order s (m_order s) := fm_lt (md_upF (mem_F rfl)) (fun s1 => fm_order_9 _ _ _)
/-! m_newBits -/
def L_m_newBits : List Nat := [222, 223]
def G_m_newBits : List (Nat × Nat) := [(121, 158)]
def m_newBits_2C (w : ev_W) (d : Nat) (v1 : Int) : (Int × iS) ⊕ (iS) → am_E → Prop := fun q r => q.elim (fun l => ev w d 470 2 ((fun l => [(0, .ref (tb_nK + 121)), (1, iv v1), (2, iv (l.1))]) l) [] (hT ((fun l => l.2) l)) r) (fun e => (fun e r => ev w d 470 37 [(0, .ref (tb_nK + 121)), (1, iv v1)] [] (hT (e)) r) e r)
noncomputable def m_newBits_2b (v1 : Int) (v2 : Int) (s : iS) : Option ((Int × iS) ⊕ (iS)) := gd (rg v2) (gd (rg v1) (if v1 ≤ v2 then some (.inr s) else gd (0 ≤ ((s 121 158) + v2) ∧ ((s 121 158) + v2) < 40000) (lt' (up s 222 ((s 121 158) + v2).toNat (-1)) (fun s5 => gd (0 ≤ ((s5 121 158) + v2) ∧ ((s5 121 158) + v2) < 40000) (lt' (up s5 223 ((s5 121 158) + v2).toNat 0) (fun s7 => some (.inl ((v2 + 1), s7))))))))
theorem tm_newBits_2b (w : ev_W) (d : Nat) (hd : 0 ≤ d) (v1 : Int) (v2 : Int) (s : iS) : Ew hT w d 470 2 [(0, .ref (tb_nK + 121)), (1, iv v1), (2, iv v2)] [] s (m_newBits_2C w d v1) (m_newBits_2b v1 v2 s) := by
  unfold m_newBits_2b
  refine e_mv 3 em_470 (ce_at ce_470 2 rfl) rfl rfl ?_
  refine e_mv 4 em_470 (ce_at ce_470 3 rfl) rfl rfl ?_
  refine e_gd fun g1 => ?_
  refine e_gd fun g2 => ?_
  refine e_cmge 37 7 em_470 rfl rfl (ce_at ce_470 4 rfl) g1 g2 (fun h3 => ?_) (fun h3 => ?_)
  · refine e_pk [0, 1] rfl rfl ?_
    exact e_out (fun r h => h)
  · refine e_mv 8 em_470 (ce_at ce_470 5 rfl) rfl rfl ?_
    refine e_getr 11 em_470 (ce_at ce_470 6 rfl) tq_121 rfl rfl ?_
    refine e_mv 12 em_470 (ce_at ce_470 7 rfl) rfl rfl ?_
    refine e_get 15 em_470 (ce_at ce_470 8 rfl) tq_121 rfl rfl ?_
    refine e_mv 16 em_470 (ce_at ce_470 9 rfl) rfl rfl ?_
    refine e_iadd 17 em_470 rfl (ce_at ce_470 10 rfl) ?_
    refine e_op 18 em_470 (ce_at ce_470 11 rfl) rfl rfl ?_
    refine e_gd fun g4 => ?_
    refine e_ist 19 em_470 (ce_at ce_470 12 rfl) tq_222 (by decide) g4 rfl (fun s5 => ?_)
    refine e_mv 20 em_470 (ce_at ce_470 13 rfl) rfl rfl ?_
    refine e_getr 23 em_470 (ce_at ce_470 14 rfl) tq_121 rfl rfl ?_
    refine e_mv 24 em_470 (ce_at ce_470 15 rfl) rfl rfl ?_
    refine e_get 27 em_470 (ce_at ce_470 16 rfl) tq_121 rfl rfl ?_
    refine e_mv 28 em_470 (ce_at ce_470 17 rfl) rfl rfl ?_
    refine e_iadd 29 em_470 rfl (ce_at ce_470 18 rfl) ?_
    refine e_op 30 em_470 (ce_at ce_470 19 rfl) rfl rfl ?_
    refine e_gd fun g6 => ?_
    refine e_ist 31 em_470 (ce_at ce_470 20 rfl) tq_223 (by decide) g6 rfl (fun s7 => ?_)
    refine e_iinc 34 em_470 (ce_at ce_470 21 rfl) rfl (by decide) rfl ?_
    refine e_goto em_470 2 (ce_at ce_470 22 rfl) rfl ?_
    refine e_pk [0, 1, 2] rfl rfl ?_
    exact e_out (fun r h => h)
theorem fm_newBits_2b (v1 : Int) (v2 : Int) (s : iS) : Fm (fun r : (Int × iS) ⊕ (iS) => r.elim (fun l => l.2) (fun e => e)) L_m_newBits G_m_newBits s (m_newBits_2b v1 v2 s) := fm_gd (fm_gd (fm_if (fm_some md_refl) (fm_gd (fm_lt (md_upL (mem_L rfl)) (fun s5 => fm_gd (fm_lt (md_upL (mem_L rfl)) (fun s7 => fm_some md_refl)))))))
noncomputable def m_newBits_37 (v1 : Int) (s : iS) : Option (Int × iS) := lt' (up s 121 158 ((s 121 158) + v1)) (fun s1 => some (((s1 121 158) - v1), s1))
theorem tm_newBits_37 (w : ev_W) (d : Nat) (hd : 0 ≤ d) (v1 : Int) (s : iS) : Ew hT w d 470 37 [(0, .ref (tb_nK + 121)), (1, iv v1)] [] s (Ci hT) (m_newBits_37 v1 s) := by
  unfold m_newBits_37
  refine e_mv 38 em_470 (ce_at ce_470 23 rfl) rfl rfl ?_
  refine e_mv 39 em_470 (ce_at ce_470 24 rfl) rfl rfl ?_
  refine e_get 42 em_470 (ce_at ce_470 25 rfl) tq_121 rfl rfl ?_
  refine e_mv 43 em_470 (ce_at ce_470 26 rfl) rfl rfl ?_
  refine e_iadd 44 em_470 rfl (ce_at ce_470 27 rfl) ?_
  refine e_put 47 em_470 (ce_at ce_470 28 rfl) tq_121 rfl rfl rfl (fun s1 => ?_)
  refine e_mv 48 em_470 (ce_at ce_470 29 rfl) rfl rfl ?_
  refine e_get 51 em_470 (ce_at ce_470 30 rfl) tq_121 rfl rfl ?_
  refine e_mv 52 em_470 (ce_at ce_470 31 rfl) rfl rfl ?_
  refine e_isub 53 em_470 rfl (ce_at ce_470 32 rfl) ?_
  exact e_reti em_470 (ce_at ce_470 33 rfl)
theorem fm_newBits_37 (v1 : Int) (s : iS) : Fm Prod.snd L_m_newBits G_m_newBits s (m_newBits_37 v1 s) := fm_lt (md_upF (mem_F rfl)) (fun s1 => fm_some md_refl)
noncomputable def m_newBits_2 (v1 : Int) (v2 : Int) (s : iS) : Option (Int × iS) := (lp (L := Int × iS) (E := iS) (fun l => m_newBits_2b v1 (l.1) (l.2)) (v2, s)).bind (fun e => m_newBits_37 v1 e)
theorem tm_newBits_2 (w : ev_W) (d : Nat) (hd : 0 ≤ d) (v1 : Int) (v2 : Int) (s : iS) : Ew hT w d 470 2 [(0, .ref (tb_nK + 121)), (1, iv v1), (2, iv v2)] [] s (Ci hT) (m_newBits_2 v1 v2 s) := by
  unfold m_newBits_2
  refine e_lp (L := Int × iS) (E := iS) (LO := fun l => [(0, .ref (tb_nK + 121)), (1, iv v1), (2, iv (l.1))]) (LS := fun l => l.2) (CE := fun e r => ev w d 470 37 [(0, .ref (tb_nK + 121)), (1, iv v1)] [] (hT (e)) r) (fun l => tm_newBits_2b w d hd _ _ _) ?_ (v2, s)
  intro e
  show Ew hT w d 470 37 [(0, .ref (tb_nK + 121)), (1, iv v1)] [] e (Ci hT) _
  refine e_pk [0, 1] rfl rfl ?_
  exact tm_newBits_37 w d hd _ _
theorem fm_newBits_2 (v1 : Int) (v2 : Int) (s : iS) : Fm Prod.snd L_m_newBits G_m_newBits s (m_newBits_2 v1 v2 s) := by
  unfold m_newBits_2
  refine fm_lp (A := Int × iS) (E := iS) (LS := fun l => l.2) (LE := fun e => e) ?_ ?_ (v2, s)
  · exact fun l => fm_newBits_2b _ _ _
  · exact (fun e => fm_newBits_37 _ _)
noncomputable def m_newBits (v1 : Int) (s : iS) : Option (Int × iS) := m_newBits_2 v1 0 s
theorem tm_newBits (w : ev_W) (d : Nat) (hd : 0 ≤ d) (v1 : Int) (s : iS) : Ew hT w d 470 0 [(0, .ref (tb_nK + 121)), (1, iv v1)] [] s (Ci hT) (m_newBits v1 s) := by
  unfold m_newBits
  refine e_op 1 em_470 (ce_at ce_470 0 rfl) rfl rfl ?_
  refine e_mv 2 em_470 (ce_at ce_470 1 rfl) rfl rfl ?_
  refine e_pk [0, 1, 2] rfl rfl ?_
  exact tm_newBits_2 w d hd _ _ _
theorem fm_newBits (v1 : Int) (s : iS) : Fm Prod.snd L_m_newBits G_m_newBits s (m_newBits v1 s) := fm_newBits_2 _ _ _
/-! m_pinPlace -/
def L_m_pinPlace : List Nat := []
def G_m_pinPlace : List (Nat × Nat) := []
def m_pinPlace_10C (w : ev_W) (d : Nat) (v2 : Int) : (Int × Int × iS) ⊕ (Int × iS) → am_E → Prop := fun q r => q.elim (fun l => ev w d 469 10 ((fun l => [(0, .ref (tb_nK + 121)), (2, iv v2), (3, iv (l.1)), (4, iv (l.2.1))]) l) [] (hT ((fun l => l.2.2) l)) r) (fun e => (fun e r => ev w d 469 32 [(3, iv (e.1))] [] (hT (e.2)) r) e r)
noncomputable def m_pinPlace_10b (v2 : Int) (v3 : Int) (v4 : Int) (s : iS) : Option ((Int × Int × iS) ⊕ (Int × iS)) := gd (rg v4) (gd (rg v2) (if v2 ≤ v4 then some (.inr (v3, s)) else gd (0 ≤ v4 ∧ v4 < 200) (some (.inl ((v3 + (s 199 v4.toNat)), (v4 + 1), s)))))
theorem tm_pinPlace_10b (w : ev_W) (d : Nat) (hd : 0 ≤ d) (v2 : Int) (v3 : Int) (v4 : Int) (s : iS) : Ew hT w d 469 10 [(0, .ref (tb_nK + 121)), (2, iv v2), (3, iv v3), (4, iv v4)] [] s (m_pinPlace_10C w d v2) (m_pinPlace_10b v2 v3 v4 s) := by
  unfold m_pinPlace_10b
  refine e_mv 12 em_469 (ce_at ce_469 7 rfl) rfl rfl ?_
  refine e_mv 13 em_469 (ce_at ce_469 8 rfl) rfl rfl ?_
  refine e_gd fun g1 => ?_
  refine e_gd fun g2 => ?_
  refine e_cmge 32 16 em_469 rfl rfl (ce_at ce_469 9 rfl) g1 g2 (fun h3 => ?_) (fun h3 => ?_)
  · refine e_pk [3] rfl rfl ?_
    exact e_out (fun r h => h)
  · refine e_mv 17 em_469 (ce_at ce_469 10 rfl) rfl rfl ?_
    refine e_mv 18 em_469 (ce_at ce_469 11 rfl) rfl rfl ?_
    refine e_getr 21 em_469 (ce_at ce_469 12 rfl) tq_121 rfl rfl ?_
    refine e_mv 23 em_469 (ce_at ce_469 13 rfl) rfl rfl ?_
    refine e_gd fun g4 => ?_
    refine e_ild 24 em_469 (ce_at ce_469 14 rfl) tq_199 (by decide) g4 rfl ?_
    refine e_iadd 25 em_469 rfl (ce_at ce_469 15 rfl) ?_
    refine e_mv 26 em_469 (ce_at ce_469 16 rfl) rfl rfl ?_
    refine e_iinc 29 em_469 (ce_at ce_469 17 rfl) rfl (by decide) rfl ?_
    refine e_goto em_469 10 (ce_at ce_469 18 rfl) rfl ?_
    refine e_pk [0, 2, 3, 4] rfl rfl ?_
    exact e_out (fun r h => h)
theorem fm_pinPlace_10b (v2 : Int) (v3 : Int) (v4 : Int) (s : iS) : Fm (fun r : (Int × Int × iS) ⊕ (Int × iS) => r.elim (fun l => l.2.2) (fun e => e.2)) L_m_pinPlace G_m_pinPlace s (m_pinPlace_10b v2 v3 v4 s) := fm_gd (fm_gd (fm_if (fm_some md_refl) (fm_gd (fm_some md_refl))))
noncomputable def m_pinPlace_10 (v2 : Int) (v3 : Int) (v4 : Int) (s : iS) : Option (Int × iS) := (lp (L := Int × Int × iS) (E := Int × iS) (fun l => m_pinPlace_10b v2 (l.1) (l.2.1) (l.2.2)) (v3, v4, s)).bind (fun e => some (e.1, e.2))
theorem tm_pinPlace_10 (w : ev_W) (d : Nat) (hd : 0 ≤ d) (v2 : Int) (v3 : Int) (v4 : Int) (s : iS) : Ew hT w d 469 10 [(0, .ref (tb_nK + 121)), (2, iv v2), (3, iv v3), (4, iv v4)] [] s (Ci hT) (m_pinPlace_10 v2 v3 v4 s) := by
  unfold m_pinPlace_10
  refine e_lp (L := Int × Int × iS) (E := Int × iS) (LO := fun l => [(0, .ref (tb_nK + 121)), (2, iv v2), (3, iv (l.1)), (4, iv (l.2.1))]) (LS := fun l => l.2.2) (CE := fun e r => ev w d 469 32 [(3, iv (e.1))] [] (hT (e.2)) r) (fun l => tm_pinPlace_10b w d hd _ _ _ _) ?_ (v3, v4, s)
  intro e
  show Ew hT w d 469 32 [(3, iv (e.1))] [] e.2 (Ci hT) _
  refine e_mv 33 em_469 (ce_at ce_469 19 rfl) rfl rfl ?_
  exact e_reti em_469 (ce_at ce_469 20 rfl)
theorem fm_pinPlace_10 (v2 : Int) (v3 : Int) (v4 : Int) (s : iS) : Fm Prod.snd L_m_pinPlace G_m_pinPlace s (m_pinPlace_10 v2 v3 v4 s) := by
  unfold m_pinPlace_10
  refine fm_lp (A := Int × Int × iS) (E := Int × iS) (LS := fun l => l.2.2) (LE := fun e => e.2) ?_ ?_ (v3, v4, s)
  · exact fun l => fm_pinPlace_10b _ _ _ _
  · exact (fun e => fm_some md_refl)
noncomputable def m_pinPlace (v1 : Int) (v2 : Int) (s : iS) : Option (Int × iS) := gd (0 ≤ v1 ∧ v1 < 18) (m_pinPlace_10 v2 0 (s 196 v1.toNat) s)
theorem tm_pinPlace (w : ev_W) (d : Nat) (hd : 0 ≤ d) (v1 : Int) (v2 : Int) (s : iS) : Ew hT w d 469 0 [(0, .ref (tb_nK + 121)), (1, iv v1), (2, iv v2)] [] s (Ci hT) (m_pinPlace v1 v2 s) := by
  unfold m_pinPlace
  refine e_op 1 em_469 (ce_at ce_469 0 rfl) rfl rfl ?_
  refine e_mv 2 em_469 (ce_at ce_469 1 rfl) rfl rfl ?_
  refine e_mv 3 em_469 (ce_at ce_469 2 rfl) rfl rfl ?_
  refine e_getr 6 em_469 (ce_at ce_469 3 rfl) tq_121 rfl rfl ?_
  refine e_mv 7 em_469 (ce_at ce_469 4 rfl) rfl rfl ?_
  refine e_gd fun g1 => ?_
  refine e_ild 8 em_469 (ce_at ce_469 5 rfl) tq_196 (by decide) g1 rfl ?_
  refine e_mv 10 em_469 (ce_at ce_469 6 rfl) rfl rfl ?_
  refine e_pk [0, 2, 3, 4] rfl rfl ?_
  exact tm_pinPlace_10 w d hd _ _ _ _
theorem fm_pinPlace (v1 : Int) (v2 : Int) (s : iS) : Fm Prod.snd L_m_pinPlace G_m_pinPlace s (m_pinPlace v1 v2 s) := fm_gd (fm_pinPlace_10 _ _ _ _)
/-! m_innerPlace -/
def L_m_innerPlace : List Nat := []
def G_m_innerPlace : List (Nat × Nat) := []
def m_innerPlace_22C (w : ev_W) (d : Nat) (v2 : Int) : (Int × Int × iS) ⊕ (Int × iS) → am_E → Prop := fun q r => q.elim (fun l => ev w d 468 22 ((fun l => [(0, .ref (tb_nK + 121)), (2, iv v2), (3, iv (l.1)), (4, iv (l.2.1))]) l) [] (hT ((fun l => l.2.2) l)) r) (fun e => (fun e r => ev w d 468 58 [(3, iv (e.1))] [] (hT (e.2)) r) e r)
noncomputable def m_innerPlace_22b (v2 : Int) (v3 : Int) (v4 : Int) (s : iS) : Option ((Int × Int × iS) ⊕ (Int × iS)) := gd (rg v4) (gd (rg v2) (if v2 ≤ v4 then some (.inr (v3, s)) else gd (0 ≤ v4 ∧ v4 < 700) (gd (rg (s 214 v4.toNat)) (if (s 214 v4.toNat) ≤ 0 then some (.inl ((v3 + 0), (v4 + 1), s)) else some (.inl ((v3 + (s 214 v4.toNat)), (v4 + 1), s))))))
theorem tm_innerPlace_22b (w : ev_W) (d : Nat) (hd : 1 ≤ d) (v2 : Int) (v3 : Int) (v4 : Int) (s : iS) : Ew hT w d 468 22 [(0, .ref (tb_nK + 121)), (2, iv v2), (3, iv v3), (4, iv v4)] [] s (m_innerPlace_22C w d v2) (m_innerPlace_22b v2 v3 v4 s) := by
  unfold m_innerPlace_22b
  refine e_mv 24 em_468 (ce_at ce_468 15 rfl) rfl rfl ?_
  refine e_mv 25 em_468 (ce_at ce_468 16 rfl) rfl rfl ?_
  refine e_gd fun g1 => ?_
  refine e_gd fun g2 => ?_
  refine e_cmge 58 28 em_468 rfl rfl (ce_at ce_468 17 rfl) g1 g2 (fun h3 => ?_) (fun h3 => ?_)
  · refine e_pk [3] rfl rfl ?_
    exact e_out (fun r h => h)
  · refine e_mv 29 em_468 (ce_at ce_468 18 rfl) rfl rfl ?_
    refine e_mv 30 em_468 (ce_at ce_468 19 rfl) rfl rfl ?_
    refine e_getr 33 em_468 (ce_at ce_468 20 rfl) tq_121 rfl rfl ?_
    refine e_mv 35 em_468 (ce_at ce_468 21 rfl) rfl rfl ?_
    refine e_gd fun g4 => ?_
    refine e_ild 36 em_468 (ce_at ce_468 22 rfl) tq_214 (by decide) g4 rfl ?_
    refine e_gd fun g5 => ?_
    refine e_ifle 49 39 em_468 rfl rfl (ce_at ce_468 23 rfl) g5 (fun h6 => ?_) (fun h6 => ?_)
    · refine e_op 50 em_468 (ce_at ce_468 29 rfl) rfl rfl ?_
      refine e_iadd 51 em_468 rfl (ce_at ce_468 30 rfl) ?_
      refine e_mv 52 em_468 (ce_at ce_468 31 rfl) rfl rfl ?_
      refine e_iinc 55 em_468 (ce_at ce_468 32 rfl) rfl (by decide) rfl ?_
      refine e_goto em_468 22 (ce_at ce_468 33 rfl) rfl ?_
      refine e_pk [0, 2, 3, 4] rfl rfl ?_
      exact e_out (fun r h => h)
    · refine e_mv 40 em_468 (ce_at ce_468 24 rfl) rfl rfl ?_
      refine e_getr 43 em_468 (ce_at ce_468 25 rfl) tq_121 rfl rfl ?_
      refine e_mv 45 em_468 (ce_at ce_468 26 rfl) rfl rfl ?_
      refine e_ild 46 em_468 (ce_at ce_468 27 rfl) tq_214 (by decide) g4 rfl ?_
      refine e_goto em_468 50 (ce_at ce_468 28 rfl) rfl ?_
      refine e_iadd 51 em_468 rfl (ce_at ce_468 30 rfl) ?_
      refine e_mv 52 em_468 (ce_at ce_468 31 rfl) rfl rfl ?_
      refine e_iinc 55 em_468 (ce_at ce_468 32 rfl) rfl (by decide) rfl ?_
      refine e_goto em_468 22 (ce_at ce_468 33 rfl) rfl ?_
      refine e_pk [0, 2, 3, 4] rfl rfl ?_
      exact e_out (fun r h => h)
theorem fm_innerPlace_22b (v2 : Int) (v3 : Int) (v4 : Int) (s : iS) : Fm (fun r : (Int × Int × iS) ⊕ (Int × iS) => r.elim (fun l => l.2.2) (fun e => e.2)) L_m_innerPlace G_m_innerPlace s (m_innerPlace_22b v2 v3 v4 s) := fm_gd (fm_gd (fm_if (fm_some md_refl) (fm_gd (fm_gd (fm_if (fm_some md_refl) (fm_some md_refl))))))
noncomputable def m_innerPlace_22 (v2 : Int) (v3 : Int) (v4 : Int) (s : iS) : Option (Int × iS) := (lp (L := Int × Int × iS) (E := Int × iS) (fun l => m_innerPlace_22b v2 (l.1) (l.2.1) (l.2.2)) (v3, v4, s)).bind (fun e => some (e.1, e.2))
theorem tm_innerPlace_22 (w : ev_W) (d : Nat) (hd : 1 ≤ d) (v2 : Int) (v3 : Int) (v4 : Int) (s : iS) : Ew hT w d 468 22 [(0, .ref (tb_nK + 121)), (2, iv v2), (3, iv v3), (4, iv v4)] [] s (Ci hT) (m_innerPlace_22 v2 v3 v4 s) := by
  unfold m_innerPlace_22
  refine e_lp (L := Int × Int × iS) (E := Int × iS) (LO := fun l => [(0, .ref (tb_nK + 121)), (2, iv v2), (3, iv (l.1)), (4, iv (l.2.1))]) (LS := fun l => l.2.2) (CE := fun e r => ev w d 468 58 [(3, iv (e.1))] [] (hT (e.2)) r) (fun l => tm_innerPlace_22b w d hd _ _ _ _) ?_ (v3, v4, s)
  intro e
  show Ew hT w d 468 58 [(3, iv (e.1))] [] e.2 (Ci hT) _
  refine e_mv 59 em_468 (ce_at ce_468 34 rfl) rfl rfl ?_
  exact e_reti em_468 (ce_at ce_468 35 rfl)
theorem fm_innerPlace_22 (v2 : Int) (v3 : Int) (v4 : Int) (s : iS) : Fm Prod.snd L_m_innerPlace G_m_innerPlace s (m_innerPlace_22 v2 v3 v4 s) := by
  unfold m_innerPlace_22
  refine fm_lp (A := Int × Int × iS) (E := Int × iS) (LS := fun l => l.2.2) (LE := fun e => e.2) ?_ ?_ (v3, v4, s)
  · exact fun l => fm_innerPlace_22b _ _ _ _
  · exact (fun e => fm_some md_refl)
noncomputable def m_innerPlace (v1 : Int) (v2 : Int) (s : iS) : Option (Int × iS) := gd (0 ≤ (v1 + 1) ∧ (v1 + 1) < 18) (bd (m_pinPlace v1 (s 196 (v1 + 1).toNat) s) (fun r2 s2 => gd (0 ≤ v1 ∧ v1 < 18) (m_innerPlace_22 v2 r2 (s2 212 v1.toNat) s2)))
theorem tm_innerPlace (w : ev_W) (d : Nat) (hd : 1 ≤ d) (v1 : Int) (v2 : Int) (s : iS) : Ew hT w d 468 0 [(0, .ref (tb_nK + 121)), (1, iv v1), (2, iv v2)] [] s (Ci hT) (m_innerPlace v1 v2 s) := by
  unfold m_innerPlace
  refine e_mv 1 em_468 (ce_at ce_468 0 rfl) rfl rfl ?_
  refine e_mv 2 em_468 (ce_at ce_468 1 rfl) rfl rfl ?_
  refine e_mv 3 em_468 (ce_at ce_468 2 rfl) rfl rfl ?_
  refine e_getr 6 em_468 (ce_at ce_468 3 rfl) tq_121 rfl rfl ?_
  refine e_mv 7 em_468 (ce_at ce_468 4 rfl) rfl rfl ?_
  refine e_op 8 em_468 (ce_at ce_468 5 rfl) rfl rfl ?_
  refine e_iadd 9 em_468 rfl (ce_at ce_468 6 rfl) ?_
  refine e_gd fun g1 => ?_
  refine e_ild 10 em_468 (ce_at ce_468 7 rfl) tq_196 (by decide) g1 rfl ?_
  refine e_ivi 13 em_468 (ce_at ce_468 8 rfl) (by omega) (iv_v2 (by decide) tq_121 rfl) em_469 (Nat.le_of_ble_eq_true rfl) rfl (tm_pinPlace w (d - 1) (by omega) _ _ _) (fun r2 s2 => ?_)
  refine e_mv 14 em_468 (ce_at ce_468 9 rfl) rfl rfl ?_
  refine e_mv 15 em_468 (ce_at ce_468 10 rfl) rfl rfl ?_
  refine e_getr 18 em_468 (ce_at ce_468 11 rfl) tq_121 rfl rfl ?_
  refine e_mv 19 em_468 (ce_at ce_468 12 rfl) rfl rfl ?_
  refine e_gd fun g3 => ?_
  refine e_ild 20 em_468 (ce_at ce_468 13 rfl) tq_212 (by decide) g3 rfl ?_
  refine e_mv 22 em_468 (ce_at ce_468 14 rfl) rfl rfl ?_
  refine e_pk [0, 2, 3, 4] rfl rfl ?_
  exact tm_innerPlace_22 w d hd _ _ _ _
theorem fm_innerPlace (v1 : Int) (v2 : Int) (s : iS) : Fm Prod.snd L_m_innerPlace G_m_innerPlace s (m_innerPlace v1 v2 s) := fm_gd (fm_bd (fm_sub (fm_pinPlace _ _ _) (mem_sub_L rfl) (mem_sub_F rfl)) (fun r2 s2 => fm_gd (fm_innerPlace_22 _ _ _ _)))
/-! m_ownBits -/
def L_m_ownBits : List Nat := []
def G_m_ownBits : List (Nat × Nat) := []
noncomputable def m_ownBits (v1 : Int) (s : iS) : Option (Int × iS) := gd (0 ≤ (v1 + 1) ∧ (v1 + 1) < 18) (bd (m_innerPlace v1 (s 212 (v1 + 1).toNat) s) (fun r2 s2 => some (r2, s2)))
theorem tm_ownBits (w : ev_W) (d : Nat) (hd : 2 ≤ d) (v1 : Int) (s : iS) : Ew hT w d 467 0 [(0, .ref (tb_nK + 121)), (1, iv v1)] [] s (Ci hT) (m_ownBits v1 s) := by
  unfold m_ownBits
  refine e_mv 1 em_467 (ce_at ce_467 0 rfl) rfl rfl ?_
  refine e_mv 2 em_467 (ce_at ce_467 1 rfl) rfl rfl ?_
  refine e_mv 3 em_467 (ce_at ce_467 2 rfl) rfl rfl ?_
  refine e_getr 6 em_467 (ce_at ce_467 3 rfl) tq_121 rfl rfl ?_
  refine e_mv 7 em_467 (ce_at ce_467 4 rfl) rfl rfl ?_
  refine e_op 8 em_467 (ce_at ce_467 5 rfl) rfl rfl ?_
  refine e_iadd 9 em_467 rfl (ce_at ce_467 6 rfl) ?_
  refine e_gd fun g1 => ?_
  refine e_ild 10 em_467 (ce_at ce_467 7 rfl) tq_212 (by decide) g1 rfl ?_
  refine e_ivi 13 em_467 (ce_at ce_467 8 rfl) (by omega) (iv_v2 (by decide) tq_121 rfl) em_468 (Nat.le_of_ble_eq_true rfl) rfl (tm_innerPlace w (d - 1) (by omega) _ _ _) (fun r2 s2 => ?_)
  exact e_reti em_467 (ce_at ce_467 9 rfl)
theorem fm_ownBits (v1 : Int) (s : iS) : Fm Prod.snd L_m_ownBits G_m_ownBits s (m_ownBits v1 s) := fm_gd (fm_bd (fm_sub (fm_innerPlace _ _ _) (mem_sub_L rfl) (mem_sub_F rfl)) (fun r2 s2 => fm_some md_refl))
/-! m_newPart -/
def L_m_newPart : List Nat := [222, 223, 224, 225, 231, 232]
def G_m_newPart : List (Nat × Nat) := [(121, 158), (121, 161), (121, 170)]
noncomputable def m_newPart_118 (v2 : Int) (t0 : Int) (t1 : Int) (s : iS) : Option (Int × iS) := gd (0 ≤ (t1 + t0) ∧ (t1 + t0) < 40000) (lt' (up s 223 (t1 + t0).toNat (s 121 161)) (fun s2 => some (v2, s2)))
theorem tm_newPart_118 (w : ev_W) (d : Nat) (hd : 3 ≤ d) (v2 : Int) (t0 : Int) (t1 : Int) (s : iS) : Ew hT w d 466 118 [(0, .ref (tb_nK + 121)), (2, iv v2)] [iv t0, iv t1, .ref (tb_nK + 223)] s (Ci hT) (m_newPart_118 v2 t0 t1 s) := by
  unfold m_newPart_118
  refine e_iadd 119 em_466 rfl (ce_at ce_466 72 rfl) ?_
  refine e_mv 120 em_466 (ce_at ce_466 73 rfl) rfl rfl ?_
  refine e_get 123 em_466 (ce_at ce_466 74 rfl) tq_121 rfl rfl ?_
  refine e_gd fun g1 => ?_
  refine e_ist 124 em_466 (ce_at ce_466 75 rfl) tq_223 (by decide) g1 rfl (fun s2 => ?_)
  refine e_mv 125 em_466 (ce_at ce_466 76 rfl) rfl rfl ?_
  exact e_reti em_466 (ce_at ce_466 77 rfl)
theorem fm_newPart_118 (v2 : Int) (t0 : Int) (t1 : Int) (s : iS) : Fm Prod.snd L_m_newPart G_m_newPart s (m_newPart_118 v2 t0 t1 s) := fm_gd (fm_lt (md_upL (mem_L rfl)) (fun s2 => fm_some md_refl))
noncomputable def m_newPart_83 (v1 : Int) (v2 : Int) (t0 : Int) (t1 : Int) (s : iS) : Option (Int × iS) := gd (0 ≤ t1 ∧ t1 < 1500) (gd (t0 = 0 ∨ t0 = 1) (lt' (up s 224 t1.toNat t0) (fun s3 => gd (0 ≤ (s3 121 161) ∧ (s3 121 161) < 1500) (lt' (up s3 225 (s3 121 161).toNat v2) (fun s5 => lt' (up s5 121 161 ((s5 121 161) + 1)) (fun s6 => gd (rg v1) (if v1 = 0 then m_newPart_118 v2 2 v2 s6 else m_newPart_118 v2 1 v2 s6)))))))
theorem tm_newPart_83 (w : ev_W) (d : Nat) (hd : 3 ≤ d) (v1 : Int) (v2 : Int) (t0 : Int) (t1 : Int) (s : iS) : Ew hT w d 466 83 [(0, .ref (tb_nK + 121)), (1, iv v1), (2, iv v2)] [iv t0, iv t1, .ref (tb_nK + 224)] s (Ci hT) (m_newPart_83 v1 v2 t0 t1 s) := by
  unfold m_newPart_83
  refine e_gd fun g1 => ?_
  refine e_gd fun g2 => ?_
  refine e_zst 84 em_466 (ce_at ce_466 51 rfl) tq_224 (by decide) g1 g2 rfl (fun s3 => ?_)
  refine e_mv 85 em_466 (ce_at ce_466 52 rfl) rfl rfl ?_
  refine e_getr 88 em_466 (ce_at ce_466 53 rfl) tq_121 rfl rfl ?_
  refine e_mv 89 em_466 (ce_at ce_466 54 rfl) rfl rfl ?_
  refine e_get 92 em_466 (ce_at ce_466 55 rfl) tq_121 rfl rfl ?_
  refine e_mv 93 em_466 (ce_at ce_466 56 rfl) rfl rfl ?_
  refine e_gd fun g4 => ?_
  refine e_ist 94 em_466 (ce_at ce_466 57 rfl) tq_225 (by decide) g4 rfl (fun s5 => ?_)
  refine e_mv 95 em_466 (ce_at ce_466 58 rfl) rfl rfl ?_
  refine e_mv 96 em_466 (ce_at ce_466 59 rfl) rfl rfl ?_
  refine e_get 99 em_466 (ce_at ce_466 60 rfl) tq_121 rfl rfl ?_
  refine e_op 100 em_466 (ce_at ce_466 61 rfl) rfl rfl ?_
  refine e_iadd 101 em_466 rfl (ce_at ce_466 62 rfl) ?_
  refine e_put 104 em_466 (ce_at ce_466 63 rfl) tq_121 rfl rfl rfl (fun s6 => ?_)
  refine e_mv 105 em_466 (ce_at ce_466 64 rfl) rfl rfl ?_
  refine e_getr 108 em_466 (ce_at ce_466 65 rfl) tq_121 rfl rfl ?_
  refine e_mv 109 em_466 (ce_at ce_466 66 rfl) rfl rfl ?_
  refine e_mv 110 em_466 (ce_at ce_466 67 rfl) rfl rfl ?_
  refine e_gd fun g7 => ?_
  refine e_ifne 117 113 em_466 rfl rfl (ce_at ce_466 68 rfl) g7 (fun h8 => ?_) (fun h8 => ?_)
  · refine e_op 118 em_466 (ce_at ce_466 71 rfl) rfl rfl ?_
    refine e_pk [0, 2] rfl rfl ?_
    exact tm_newPart_118 w d hd _ _ _ _
  · refine e_op 114 em_466 (ce_at ce_466 69 rfl) rfl rfl ?_
    refine e_goto em_466 118 (ce_at ce_466 70 rfl) rfl ?_
    refine e_pk [0, 2] rfl rfl ?_
    exact tm_newPart_118 w d hd _ _ _ _
theorem fm_newPart_83 (v1 : Int) (v2 : Int) (t0 : Int) (t1 : Int) (s : iS) : Fm Prod.snd L_m_newPart G_m_newPart s (m_newPart_83 v1 v2 t0 t1 s) := fm_gd (fm_gd (fm_lt (md_upL (mem_L rfl)) (fun s3 => fm_gd (fm_lt (md_upL (mem_L rfl)) (fun s5 => fm_lt (md_upF (mem_F rfl)) (fun s6 => fm_gd (fm_if (fm_newPart_118 _ _ _ _) (fm_newPart_118 _ _ _ _))))))))
noncomputable def m_newPart_61 (v1 : Int) (t0 : Int) (s : iS) : Option (Int × iS) := bd (m_newBits t0 s) (fun r1 s1 => gd (rg v1) (if v1 = 1 then m_newPart_83 v1 r1 1 (s1 121 161) s1 else m_newPart_83 v1 r1 0 (s1 121 161) s1))
theorem tm_newPart_61 (w : ev_W) (d : Nat) (hd : 3 ≤ d) (v1 : Int) (t0 : Int) (s : iS) : Ew hT w d 466 61 [(0, .ref (tb_nK + 121)), (1, iv v1)] [iv t0, .ref (tb_nK + 121)] s (Ci hT) (m_newPart_61 v1 t0 s) := by
  unfold m_newPart_61
  refine e_ivi 64 em_466 (ce_at ce_466 39 rfl) (by omega) (iv_v1 (by decide) tq_121 rfl) em_470 (Nat.le_of_ble_eq_true rfl) rfl (tm_newBits w (d - 1) (by omega) _ _) (fun r1 s1 => ?_)
  refine e_mv 65 em_466 (ce_at ce_466 40 rfl) rfl rfl ?_
  refine e_mv 66 em_466 (ce_at ce_466 41 rfl) rfl rfl ?_
  refine e_getr 69 em_466 (ce_at ce_466 42 rfl) tq_121 rfl rfl ?_
  refine e_mv 70 em_466 (ce_at ce_466 43 rfl) rfl rfl ?_
  refine e_get 73 em_466 (ce_at ce_466 44 rfl) tq_121 rfl rfl ?_
  refine e_mv 74 em_466 (ce_at ce_466 45 rfl) rfl rfl ?_
  refine e_op 75 em_466 (ce_at ce_466 46 rfl) rfl rfl ?_
  refine e_gd fun g2 => ?_
  refine e_cmne 82 78 em_466 rfl rfl (ce_at ce_466 47 rfl) g2 (by decide) (fun h3 => ?_) (fun h3 => ?_)
  · refine e_op 83 em_466 (ce_at ce_466 50 rfl) rfl rfl ?_
    refine e_pk [0, 1, 2] rfl rfl ?_
    exact tm_newPart_83 w d hd _ _ _ _ _
  · refine e_op 79 em_466 (ce_at ce_466 48 rfl) rfl rfl ?_
    refine e_goto em_466 83 (ce_at ce_466 49 rfl) rfl ?_
    refine e_pk [0, 1, 2] rfl rfl ?_
    exact tm_newPart_83 w d hd _ _ _ _ _
theorem fm_newPart_61 (v1 : Int) (t0 : Int) (s : iS) : Fm Prod.snd L_m_newPart G_m_newPart s (m_newPart_61 v1 t0 s) := fm_bd (fm_sub (fm_newBits _ _) (mem_sub_L rfl) (mem_sub_F rfl)) (fun r1 s1 => fm_gd (fm_if (fm_newPart_83 _ _ _ _ _) (fm_newPart_83 _ _ _ _ _)))
noncomputable def m_newPart (v1 : Int) (s : iS) : Option (Int × iS) := gd (rg v1) (if v1 ≤ 1 then if v1 = 0 then m_newPart_61 v1 3 s else m_newPart_61 v1 2 s else bd (m_ownBits (v1 - 2) s) (fun r4 s4 => bd (m_newBits r4 s4) (fun r5 s5 => gd (0 ≤ (s5 121 170) ∧ (s5 121 170) < 20000) (lt' (up s5 231 (s5 121 170).toNat (v1 - 2)) (fun s7 => gd (0 ≤ (s7 121 170) ∧ (s7 121 170) < 20000) (lt' (up s7 232 (s7 121 170).toNat r5) (fun s9 => lt' (up s9 121 170 ((s9 121 170) + 1)) (fun s10 => some (r5, s10)))))))))
theorem tm_newPart (w : ev_W) (d : Nat) (hd : 3 ≤ d) (v1 : Int) (s : iS) : Ew hT w d 466 0 [(0, .ref (tb_nK + 121)), (1, iv v1)] [] s (Ci hT) (m_newPart v1 s) := by
  unfold m_newPart
  refine e_mv 1 em_466 (ce_at ce_466 0 rfl) rfl rfl ?_
  refine e_op 2 em_466 (ce_at ce_466 1 rfl) rfl rfl ?_
  refine e_gd fun g1 => ?_
  refine e_cmle 51 5 em_466 rfl rfl (ce_at ce_466 2 rfl) g1 (by decide) (fun h2 => ?_) (fun h2 => ?_)
  · refine e_mv 52 em_466 (ce_at ce_466 33 rfl) rfl rfl ?_
    refine e_mv 53 em_466 (ce_at ce_466 34 rfl) rfl rfl ?_
    refine e_ifne 60 56 em_466 rfl rfl (ce_at ce_466 35 rfl) g1 (fun h3 => ?_) (fun h3 => ?_)
    · refine e_op 61 em_466 (ce_at ce_466 38 rfl) rfl rfl ?_
      refine e_pk [0, 1] rfl rfl ?_
      exact tm_newPart_61 w d hd _ _ _
    · refine e_op 57 em_466 (ce_at ce_466 36 rfl) rfl rfl ?_
      refine e_goto em_466 61 (ce_at ce_466 37 rfl) rfl ?_
      refine e_pk [0, 1] rfl rfl ?_
      exact tm_newPart_61 w d hd _ _ _
  · refine e_mv 6 em_466 (ce_at ce_466 3 rfl) rfl rfl ?_
    refine e_mv 7 em_466 (ce_at ce_466 4 rfl) rfl rfl ?_
    refine e_mv 8 em_466 (ce_at ce_466 5 rfl) rfl rfl ?_
    refine e_op 9 em_466 (ce_at ce_466 6 rfl) rfl rfl ?_
    refine e_isub 10 em_466 rfl (ce_at ce_466 7 rfl) ?_
    refine e_ivi 13 em_466 (ce_at ce_466 8 rfl) (by omega) (iv_v1 (by decide) tq_121 rfl) em_467 (Nat.le_of_ble_eq_true rfl) rfl (tm_ownBits w (d - 1) (by omega) _ _) (fun r4 s4 => ?_)
    refine e_ivi 16 em_466 (ce_at ce_466 9 rfl) (by omega) (iv_v1 (by decide) tq_121 rfl) em_470 (Nat.le_of_ble_eq_true rfl) rfl (tm_newBits w (d - 1) (by omega) _ _) (fun r5 s5 => ?_)
    refine e_mv 17 em_466 (ce_at ce_466 10 rfl) rfl rfl ?_
    refine e_mv 18 em_466 (ce_at ce_466 11 rfl) rfl rfl ?_
    refine e_getr 21 em_466 (ce_at ce_466 12 rfl) tq_121 rfl rfl ?_
    refine e_mv 22 em_466 (ce_at ce_466 13 rfl) rfl rfl ?_
    refine e_get 25 em_466 (ce_at ce_466 14 rfl) tq_121 rfl rfl ?_
    refine e_mv 26 em_466 (ce_at ce_466 15 rfl) rfl rfl ?_
    refine e_op 27 em_466 (ce_at ce_466 16 rfl) rfl rfl ?_
    refine e_isub 28 em_466 rfl (ce_at ce_466 17 rfl) ?_
    refine e_gd fun g6 => ?_
    refine e_ist 29 em_466 (ce_at ce_466 18 rfl) tq_231 (by decide) g6 rfl (fun s7 => ?_)
    refine e_mv 30 em_466 (ce_at ce_466 19 rfl) rfl rfl ?_
    refine e_getr 33 em_466 (ce_at ce_466 20 rfl) tq_121 rfl rfl ?_
    refine e_mv 34 em_466 (ce_at ce_466 21 rfl) rfl rfl ?_
    refine e_get 37 em_466 (ce_at ce_466 22 rfl) tq_121 rfl rfl ?_
    refine e_mv 38 em_466 (ce_at ce_466 23 rfl) rfl rfl ?_
    refine e_gd fun g8 => ?_
    refine e_ist 39 em_466 (ce_at ce_466 24 rfl) tq_232 (by decide) g8 rfl (fun s9 => ?_)
    refine e_mv 40 em_466 (ce_at ce_466 25 rfl) rfl rfl ?_
    refine e_mv 41 em_466 (ce_at ce_466 26 rfl) rfl rfl ?_
    refine e_get 44 em_466 (ce_at ce_466 27 rfl) tq_121 rfl rfl ?_
    refine e_op 45 em_466 (ce_at ce_466 28 rfl) rfl rfl ?_
    refine e_iadd 46 em_466 rfl (ce_at ce_466 29 rfl) ?_
    refine e_put 49 em_466 (ce_at ce_466 30 rfl) tq_121 rfl rfl rfl (fun s10 => ?_)
    refine e_mv 50 em_466 (ce_at ce_466 31 rfl) rfl rfl ?_
    exact e_reti em_466 (ce_at ce_466 32 rfl)
theorem fm_newPart (v1 : Int) (s : iS) : Fm Prod.snd L_m_newPart G_m_newPart s (m_newPart v1 s) := fm_gd (fm_if (fm_if (fm_newPart_61 _ _ _) (fm_newPart_61 _ _ _)) (fm_bd (fm_sub (fm_ownBits _ _) (mem_sub_L rfl) (mem_sub_F rfl)) (fun r4 s4 => fm_bd (fm_sub (fm_newBits _ _) (mem_sub_L rfl) (mem_sub_F rfl)) (fun r5 s5 => fm_gd (fm_lt (md_upL (mem_L rfl)) (fun s7 => fm_gd (fm_lt (md_upL (mem_L rfl)) (fun s9 => fm_lt (md_upF (mem_F rfl)) (fun s10 => fm_some md_refl)))))))))
/-! m_isTrue -/
def L_m_isTrue : List Nat := []
def G_m_isTrue : List (Nat × Nat) := []
noncomputable def m_isTrue (v1 : Int) (s : iS) : Option (Int × iS) := gd (0 ≤ v1 ∧ v1 < 2002) (gd (rg (s 127 v1.toNat)) (if (s 127 v1.toNat) = 4 then some ((-2), s) else some ((-1), s)))
theorem tm_isTrue (w : ev_W) (d : Nat) (hd : 0 ≤ d) (v1 : Int) (s : iS) : Ew hT w d 472 0 [(0, .ref (tb_nK + 121)), (1, iv v1)] [] s (Ci hT) (m_isTrue v1 s) := by
  unfold m_isTrue
  refine e_mv 1 em_472 (ce_at ce_472 0 rfl) rfl rfl ?_
  refine e_getr 4 em_472 (ce_at ce_472 1 rfl) tq_121 rfl rfl ?_
  refine e_mv 5 em_472 (ce_at ce_472 2 rfl) rfl rfl ?_
  refine e_gd fun g1 => ?_
  refine e_ild 6 em_472 (ce_at ce_472 3 rfl) tq_127 (by decide) g1 rfl ?_
  refine e_op 7 em_472 (ce_at ce_472 4 rfl) rfl rfl ?_
  refine e_gd fun g2 => ?_
  refine e_cmne 15 10 em_472 rfl rfl (ce_at ce_472 5 rfl) g2 (by decide) (fun h3 => ?_) (fun h3 => ?_)
  · refine e_op 16 em_472 (ce_at ce_472 8 rfl) rfl rfl ?_
    exact e_reti em_472 (ce_at ce_472 9 rfl)
  · refine e_bip 12 em_472 (ce_at ce_472 6 rfl) (by decide) rfl ?_
    refine e_goto em_472 16 (ce_at ce_472 7 rfl) rfl ?_
    exact e_reti em_472 (ce_at ce_472 9 rfl)
theorem fm_isTrue (v1 : Int) (s : iS) : Fm Prod.snd L_m_isTrue G_m_isTrue s (m_isTrue v1 s) := fm_gd (fm_gd (fm_if (fm_some md_refl) (fm_some md_refl)))
/-! m_connect -/
def L_m_connect : List Nat := [222]
def G_m_connect : List (Nat × Nat) := []
def m_connect_201C (w : ev_W) (d : Nat) (v3 : Int) (v6 : Int) (v8 : Int) (v9 : Int) (v10 : Int) (v11 : Int) (v12 : Int) : (Int × iS) ⊕ (iS) → am_E → Prop := fun q r => q.elim (fun l => ev w d 471 201 ((fun l => [(0, .ref (tb_nK + 121)), (3, iv v3), (6, iv v6), (8, iv v8), (9, iv v9), (10, iv v10), (11, iv v11), (12, iv v12), (13, iv (l.1))]) l) [] (hT ((fun l => l.2) l)) r) (fun e => (fun e r => ev w d 471 271 [] [] (hT (e)) r) e r)
noncomputable def m_connect_264 (v3 : Int) (v6 : Int) (v8 : Int) (v9 : Int) (v10 : Int) (v11 : Int) (v12 : Int) (v13 : Int) (t0 : Int) (t1 : Int) (s : iS) : Option ((Int × iS) ⊕ (iS)) := gd (0 ≤ t1 ∧ t1 < 40000) (lt' (up s 222 t1.toNat t0) (fun s2 => some (.inl ((v13 + 1), s2))))
theorem tm_connect_264 (w : ev_W) (d : Nat) (hd : 3 ≤ d) (v3 : Int) (v6 : Int) (v8 : Int) (v9 : Int) (v10 : Int) (v11 : Int) (v12 : Int) (v13 : Int) (t0 : Int) (t1 : Int) (s : iS) : Ew hT w d 471 264 [(0, .ref (tb_nK + 121)), (3, iv v3), (6, iv v6), (8, iv v8), (9, iv v9), (10, iv v10), (11, iv v11), (12, iv v12), (13, iv v13)] [iv t0, iv t1, .ref (tb_nK + 222)] s (m_connect_201C w d v3 v6 v8 v9 v10 v11 v12) (m_connect_264 v3 v6 v8 v9 v10 v11 v12 v13 t0 t1 s) := by
  unfold m_connect_264
  refine e_gd fun g1 => ?_
  refine e_ist 265 em_471 (ce_at ce_471 145 rfl) tq_222 (by decide) g1 rfl (fun s2 => ?_)
  refine e_iinc 268 em_471 (ce_at ce_471 146 rfl) rfl (by decide) rfl ?_
  refine e_goto em_471 201 (ce_at ce_471 147 rfl) rfl ?_
  refine e_pk [0, 3, 6, 8, 9, 10, 11, 12, 13] rfl rfl ?_
  exact e_out (fun r h => h)
theorem fm_connect_264 (v3 : Int) (v6 : Int) (v8 : Int) (v9 : Int) (v10 : Int) (v11 : Int) (v12 : Int) (v13 : Int) (t0 : Int) (t1 : Int) (s : iS) : Fm (fun r : (Int × iS) ⊕ (iS) => r.elim (fun l => l.2) (fun e => e)) L_m_connect G_m_connect s (m_connect_264 v3 v6 v8 v9 v10 v11 v12 v13 t0 t1 s) := fm_gd (fm_lt (md_upL (mem_L rfl)) (fun s2 => fm_some md_refl))
noncomputable def m_connect_201b (v3 : Int) (v6 : Int) (v8 : Int) (v9 : Int) (v10 : Int) (v11 : Int) (v12 : Int) (v13 : Int) (s : iS) : Option ((Int × iS) ⊕ (iS)) := gd (rg v13) (gd (rg v8) (if v8 ≤ v13 then some (.inr s) else bd (m_isOut v3 v6 s) (fun r4 s4 => gd (rg r4) (if r4 = 0 then gd (rg v11) (if v11 = 0 then m_connect_264 v3 v6 v8 v9 v10 v11 v12 v13 (v12 + v13) (v9 + v13) s4 else bd (m_isTrue v10 s4) (fun r9 s9 => m_connect_264 v3 v6 v8 v9 v10 v11 v12 v13 r9 (v9 + v13) s9)) else gd (0 ≤ (v12 + v13) ∧ (v12 + v13) < 40000) (lt' (up s4 222 (v12 + v13).toNat (v9 + v13)) (fun s11 => some (.inl ((v13 + 1), s11))))))))
theorem tm_connect_201b (w : ev_W) (d : Nat) (hd : 3 ≤ d) (v3 : Int) (v6 : Int) (v8 : Int) (v9 : Int) (v10 : Int) (v11 : Int) (v12 : Int) (v13 : Int) (s : iS) : Ew hT w d 471 201 [(0, .ref (tb_nK + 121)), (3, iv v3), (6, iv v6), (8, iv v8), (9, iv v9), (10, iv v10), (11, iv v11), (12, iv v12), (13, iv v13)] [] s (m_connect_201C w d v3 v6 v8 v9 v10 v11 v12) (m_connect_201b v3 v6 v8 v9 v10 v11 v12 v13 s) := by
  unfold m_connect_201b
  refine e_mv 203 em_471 (ce_at ce_471 113 rfl) rfl rfl ?_
  refine e_mv 205 em_471 (ce_at ce_471 114 rfl) rfl rfl ?_
  refine e_gd fun g1 => ?_
  refine e_gd fun g2 => ?_
  refine e_cmge 271 208 em_471 rfl rfl (ce_at ce_471 115 rfl) g1 g2 (fun h3 => ?_) (fun h3 => ?_)
  · refine e_pk [] rfl rfl ?_
    exact e_out (fun r h => h)
  · refine e_mv 209 em_471 (ce_at ce_471 116 rfl) rfl rfl ?_
    refine e_mv 210 em_471 (ce_at ce_471 117 rfl) rfl rfl ?_
    refine e_mv 212 em_471 (ce_at ce_471 118 rfl) rfl rfl ?_
    refine e_ivi 215 em_471 (ce_at ce_471 119 rfl) (by omega) (iv_v2 (by decide) tq_121 rfl) em_457 (Nat.le_of_ble_eq_true rfl) rfl (tm_isOut w (d - 1) (by omega) _ _ _) (fun r4 s4 => ?_)
    refine e_gd fun g5 => ?_
    refine e_ifeq 236 218 em_471 rfl rfl (ce_at ce_471 120 rfl) g5 (fun h6 => ?_) (fun h6 => ?_)
    · refine e_mv 237 em_471 (ce_at ce_471 131 rfl) rfl rfl ?_
      refine e_getr 240 em_471 (ce_at ce_471 132 rfl) tq_121 rfl rfl ?_
      refine e_mv 242 em_471 (ce_at ce_471 133 rfl) rfl rfl ?_
      refine e_mv 244 em_471 (ce_at ce_471 134 rfl) rfl rfl ?_
      refine e_iadd 245 em_471 rfl (ce_at ce_471 135 rfl) ?_
      refine e_mv 247 em_471 (ce_at ce_471 136 rfl) rfl rfl ?_
      refine e_gd fun g7 => ?_
      refine e_ifeq 259 250 em_471 rfl rfl (ce_at ce_471 137 rfl) g7 (fun h8 => ?_) (fun h8 => ?_)
      · refine e_mv 261 em_471 (ce_at ce_471 142 rfl) rfl rfl ?_
        refine e_mv 263 em_471 (ce_at ce_471 143 rfl) rfl rfl ?_
        refine e_iadd 264 em_471 rfl (ce_at ce_471 144 rfl) ?_
        refine e_pk [0, 3, 6, 8, 9, 10, 11, 12, 13] rfl rfl ?_
        exact tm_connect_264 w d hd _ _ _ _ _ _ _ _ _ _ _
      · refine e_mv 251 em_471 (ce_at ce_471 138 rfl) rfl rfl ?_
        refine e_mv 253 em_471 (ce_at ce_471 139 rfl) rfl rfl ?_
        refine e_ivi 256 em_471 (ce_at ce_471 140 rfl) (by omega) (iv_v1 (by decide) tq_121 rfl) em_472 (Nat.le_of_ble_eq_true rfl) rfl (tm_isTrue w (d - 1) (by omega) _ _) (fun r9 s9 => ?_)
        refine e_goto em_471 264 (ce_at ce_471 141 rfl) rfl ?_
        refine e_pk [0, 3, 6, 8, 9, 10, 11, 12, 13] rfl rfl ?_
        exact tm_connect_264 w d hd _ _ _ _ _ _ _ _ _ _ _
    · refine e_mv 219 em_471 (ce_at ce_471 121 rfl) rfl rfl ?_
      refine e_getr 222 em_471 (ce_at ce_471 122 rfl) tq_121 rfl rfl ?_
      refine e_mv 224 em_471 (ce_at ce_471 123 rfl) rfl rfl ?_
      refine e_mv 226 em_471 (ce_at ce_471 124 rfl) rfl rfl ?_
      refine e_iadd 227 em_471 rfl (ce_at ce_471 125 rfl) ?_
      refine e_mv 229 em_471 (ce_at ce_471 126 rfl) rfl rfl ?_
      refine e_mv 231 em_471 (ce_at ce_471 127 rfl) rfl rfl ?_
      refine e_iadd 232 em_471 rfl (ce_at ce_471 128 rfl) ?_
      refine e_gd fun g10 => ?_
      refine e_ist 233 em_471 (ce_at ce_471 129 rfl) tq_222 (by decide) g10 rfl (fun s11 => ?_)
      refine e_goto em_471 265 (ce_at ce_471 130 rfl) rfl ?_
      refine e_iinc 268 em_471 (ce_at ce_471 146 rfl) rfl (by decide) rfl ?_
      refine e_goto em_471 201 (ce_at ce_471 147 rfl) rfl ?_
      refine e_pk [0, 3, 6, 8, 9, 10, 11, 12, 13] rfl rfl ?_
      exact e_out (fun r h => h)
theorem fm_connect_201b (v3 : Int) (v6 : Int) (v8 : Int) (v9 : Int) (v10 : Int) (v11 : Int) (v12 : Int) (v13 : Int) (s : iS) : Fm (fun r : (Int × iS) ⊕ (iS) => r.elim (fun l => l.2) (fun e => e)) L_m_connect G_m_connect s (m_connect_201b v3 v6 v8 v9 v10 v11 v12 v13 s) := fm_gd (fm_gd (fm_if (fm_some md_refl) (fm_bd (fm_sub (fm_isOut _ _ _) (mem_sub_L rfl) (mem_sub_F rfl)) (fun r4 s4 => fm_gd (fm_if (fm_gd (fm_if (fm_connect_264 _ _ _ _ _ _ _ _ _ _ _) (fm_bd (fm_sub (fm_isTrue _ _) (mem_sub_L rfl) (mem_sub_F rfl)) (fun r9 s9 => fm_connect_264 _ _ _ _ _ _ _ _ _ _ _)))) (fm_gd (fm_lt (md_upL (mem_L rfl)) (fun s11 => fm_some md_refl))))))))
noncomputable def m_connect_201 (v3 : Int) (v6 : Int) (v8 : Int) (v9 : Int) (v10 : Int) (v11 : Int) (v12 : Int) (v13 : Int) (s : iS) : Option (Int × iS) := (lp (L := Int × iS) (E := iS) (fun l => m_connect_201b v3 v6 v8 v9 v10 v11 v12 (l.1) (l.2)) (v13, s)).bind (fun e => some (0, e))
theorem tm_connect_201 (w : ev_W) (d : Nat) (hd : 3 ≤ d) (v3 : Int) (v6 : Int) (v8 : Int) (v9 : Int) (v10 : Int) (v11 : Int) (v12 : Int) (v13 : Int) (s : iS) : Ew hT w d 471 201 [(0, .ref (tb_nK + 121)), (3, iv v3), (6, iv v6), (8, iv v8), (9, iv v9), (10, iv v10), (11, iv v11), (12, iv v12), (13, iv v13)] [] s (Cv hT) (m_connect_201 v3 v6 v8 v9 v10 v11 v12 v13 s) := by
  unfold m_connect_201
  refine e_lp (L := Int × iS) (E := iS) (LO := fun l => [(0, .ref (tb_nK + 121)), (3, iv v3), (6, iv v6), (8, iv v8), (9, iv v9), (10, iv v10), (11, iv v11), (12, iv v12), (13, iv (l.1))]) (LS := fun l => l.2) (CE := fun e r => ev w d 471 271 [] [] (hT (e)) r) (fun l => tm_connect_201b w d hd _ _ _ _ _ _ _ _ _) ?_ (v13, s)
  intro e
  show Ew hT w d 471 271 [] [] e (Cv hT) _
  exact e_retv em_471 (ce_at ce_471 148 rfl)
theorem fm_connect_201 (v3 : Int) (v6 : Int) (v8 : Int) (v9 : Int) (v10 : Int) (v11 : Int) (v12 : Int) (v13 : Int) (s : iS) : Fm Prod.snd L_m_connect G_m_connect s (m_connect_201 v3 v6 v8 v9 v10 v11 v12 v13 s) := by
  unfold m_connect_201
  refine fm_lp (A := Int × iS) (E := iS) (LS := fun l => l.2) (LE := fun e => e) ?_ ?_ (v13, s)
  · exact fun l => fm_connect_201b _ _ _ _ _ _ _ _ _
  · exact (fun e => fm_some md_refl)
noncomputable def m_connect_198 (v3 : Int) (v6 : Int) (v8 : Int) (v9 : Int) (v10 : Int) (v11 : Int) (v12 : Int) (s : iS) : Option (Int × iS) := m_connect_201 v3 v6 v8 v9 v10 v11 v12 0 s
theorem tm_connect_198 (w : ev_W) (d : Nat) (hd : 3 ≤ d) (v3 : Int) (v6 : Int) (v8 : Int) (v9 : Int) (v10 : Int) (v11 : Int) (v12 : Int) (s : iS) : Ew hT w d 471 198 [(0, .ref (tb_nK + 121)), (3, iv v3), (6, iv v6), (8, iv v8), (9, iv v9), (10, iv v10), (11, iv v11), (12, iv v12)] [] s (Cv hT) (m_connect_198 v3 v6 v8 v9 v10 v11 v12 s) := by
  unfold m_connect_198
  refine e_op 199 em_471 (ce_at ce_471 111 rfl) rfl rfl ?_
  refine e_mv 201 em_471 (ce_at ce_471 112 rfl) rfl rfl ?_
  refine e_pk [0, 3, 6, 8, 9, 10, 11, 12, 13] rfl rfl ?_
  exact tm_connect_201 w d hd _ _ _ _ _ _ _ _ _
theorem fm_connect_198 (v3 : Int) (v6 : Int) (v8 : Int) (v9 : Int) (v10 : Int) (v11 : Int) (v12 : Int) (s : iS) : Fm Prod.snd L_m_connect G_m_connect s (m_connect_198 v3 v6 v8 v9 v10 v11 v12 s) := fm_connect_201 _ _ _ _ _ _ _ _ _
noncomputable def m_connect_195 (v3 : Int) (v6 : Int) (v8 : Int) (v9 : Int) (v10 : Int) (v11 : Int) (t0 : Int) (t1 : Int) (s : iS) : Option (Int × iS) := m_connect_198 v3 v6 v8 v9 v10 v11 (t1 + t0) s
theorem tm_connect_195 (w : ev_W) (d : Nat) (hd : 3 ≤ d) (v3 : Int) (v6 : Int) (v8 : Int) (v9 : Int) (v10 : Int) (v11 : Int) (t0 : Int) (t1 : Int) (s : iS) : Ew hT w d 471 195 [(0, .ref (tb_nK + 121)), (3, iv v3), (6, iv v6), (8, iv v8), (9, iv v9), (10, iv v10), (11, iv v11)] [iv t0, iv t1] s (Cv hT) (m_connect_195 v3 v6 v8 v9 v10 v11 t0 t1 s) := by
  unfold m_connect_195
  refine e_iadd 196 em_471 rfl (ce_at ce_471 109 rfl) ?_
  refine e_mv 198 em_471 (ce_at ce_471 110 rfl) rfl rfl ?_
  refine e_pk [0, 3, 6, 8, 9, 10, 11, 12] rfl rfl ?_
  exact tm_connect_198 w d hd _ _ _ _ _ _ _ _
theorem fm_connect_195 (v3 : Int) (v6 : Int) (v8 : Int) (v9 : Int) (v10 : Int) (v11 : Int) (t0 : Int) (t1 : Int) (s : iS) : Fm Prod.snd L_m_connect G_m_connect s (m_connect_195 v3 v6 v8 v9 v10 v11 t0 t1 s) := fm_connect_198 _ _ _ _ _ _ _ _
noncomputable def m_connect_194 (v3 : Int) (v6 : Int) (v8 : Int) (v9 : Int) (v10 : Int) (v11 : Int) (t0 : Int) (t1 : Int) (t2 : Int) (s : iS) : Option (Int × iS) := m_connect_195 v3 v6 v8 v9 v10 v11 (t1 + t0) t2 s
theorem tm_connect_194 (w : ev_W) (d : Nat) (hd : 3 ≤ d) (v3 : Int) (v6 : Int) (v8 : Int) (v9 : Int) (v10 : Int) (v11 : Int) (t0 : Int) (t1 : Int) (t2 : Int) (s : iS) : Ew hT w d 471 194 [(0, .ref (tb_nK + 121)), (3, iv v3), (6, iv v6), (8, iv v8), (9, iv v9), (10, iv v10), (11, iv v11)] [iv t0, iv t1, iv t2] s (Cv hT) (m_connect_194 v3 v6 v8 v9 v10 v11 t0 t1 t2 s) := by
  unfold m_connect_194
  refine e_iadd 195 em_471 rfl (ce_at ce_471 108 rfl) ?_
  refine e_pk [0, 3, 6, 8, 9, 10, 11] rfl rfl ?_
  exact tm_connect_195 w d hd _ _ _ _ _ _ _ _ _
theorem fm_connect_194 (v3 : Int) (v6 : Int) (v8 : Int) (v9 : Int) (v10 : Int) (v11 : Int) (t0 : Int) (t1 : Int) (t2 : Int) (s : iS) : Fm Prod.snd L_m_connect G_m_connect s (m_connect_194 v3 v6 v8 v9 v10 v11 t0 t1 t2 s) := fm_connect_195 _ _ _ _ _ _ _ _ _
noncomputable def m_connect_124 (v1 : Int) (v2 : Int) (v3 : Int) (v5 : Int) (v6 : Int) (v8 : Int) (v9 : Int) (v10 : Int) (t0 : Int) (s : iS) : Option (Int × iS) := gd (rg t0) (if t0 = 0 then bd (m_pinOf v1 v10 s) (fun r3 s3 => gd (rg r3) (if r3 = (-1) then bd (m_innerOf v1 v10 s3) (fun r10 s10 => bd (m_innerPlace v1 r10 s10) (fun r11 s11 => m_connect_195 v3 v6 v8 v9 v10 t0 r11 v2 s11)) else bd (m_pinPlace v1 r3 s3) (fun r6 s6 => gd (0 ≤ v5 ∧ v5 < 700) (gd (rg (s6 209 v5.toNat)) (if (s6 209 v5.toNat) = (-1) then m_connect_194 v3 v6 v8 v9 v10 t0 0 r6 v2 s6 else m_connect_194 v3 v6 v8 v9 v10 t0 (s6 210 v5.toNat) r6 v2 s6))))) else m_connect_198 v3 v6 v8 v9 v10 t0 0 s)
theorem tm_connect_124 (w : ev_W) (d : Nat) (hd : 3 ≤ d) (v1 : Int) (v2 : Int) (v3 : Int) (v5 : Int) (v6 : Int) (v8 : Int) (v9 : Int) (v10 : Int) (t0 : Int) (s : iS) : Ew hT w d 471 124 [(0, .ref (tb_nK + 121)), (1, iv v1), (2, iv v2), (3, iv v3), (5, iv v5), (6, iv v6), (8, iv v8), (9, iv v9), (10, iv v10)] [iv t0] s (Cv hT) (m_connect_124 v1 v2 v3 v5 v6 v8 v9 v10 t0 s) := by
  unfold m_connect_124
  refine e_mv 126 em_471 (ce_at ce_471 70 rfl) rfl rfl ?_
  refine e_op 127 em_471 (ce_at ce_471 71 rfl) rfl rfl ?_
  refine e_mv 129 em_471 (ce_at ce_471 72 rfl) rfl rfl ?_
  refine e_mv 131 em_471 (ce_at ce_471 73 rfl) rfl rfl ?_
  refine e_gd fun g1 => ?_
  refine e_ifne 198 134 em_471 rfl rfl (ce_at ce_471 74 rfl) g1 (fun h2 => ?_) (fun h2 => ?_)
  · refine e_pk [0, 3, 6, 8, 9, 10, 11, 12] rfl rfl ?_
    exact tm_connect_198 w d hd _ _ _ _ _ _ _ _
  · refine e_mv 135 em_471 (ce_at ce_471 75 rfl) rfl rfl ?_
    refine e_mv 136 em_471 (ce_at ce_471 76 rfl) rfl rfl ?_
    refine e_mv 138 em_471 (ce_at ce_471 77 rfl) rfl rfl ?_
    refine e_ivi 141 em_471 (ce_at ce_471 78 rfl) (by omega) (iv_v2 (by decide) tq_121 rfl) em_450 (Nat.le_of_ble_eq_true rfl) rfl (tm_pinOf w (d - 1) (by omega) _ _ _) (fun r3 s3 => ?_)
    refine e_mv 143 em_471 (ce_at ce_471 79 rfl) rfl rfl ?_
    refine e_mv 144 em_471 (ce_at ce_471 80 rfl) rfl rfl ?_
    refine e_mv 146 em_471 (ce_at ce_471 81 rfl) rfl rfl ?_
    refine e_op 147 em_471 (ce_at ce_471 82 rfl) rfl rfl ?_
    refine e_gd fun g4 => ?_
    refine e_cmne 165 150 em_471 rfl rfl (ce_at ce_471 83 rfl) g4 (by decide) (fun h5 => ?_) (fun h5 => ?_)
    · refine e_mv 166 em_471 (ce_at ce_471 92 rfl) rfl rfl ?_
      refine e_mv 167 em_471 (ce_at ce_471 93 rfl) rfl rfl ?_
      refine e_mv 169 em_471 (ce_at ce_471 94 rfl) rfl rfl ?_
      refine e_ivi 172 em_471 (ce_at ce_471 95 rfl) (by omega) (iv_v2 (by decide) tq_121 rfl) em_469 (Nat.le_of_ble_eq_true rfl) rfl (tm_pinPlace w (d - 1) (by omega) _ _ _) (fun r6 s6 => ?_)
      refine e_mv 173 em_471 (ce_at ce_471 96 rfl) rfl rfl ?_
      refine e_getr 176 em_471 (ce_at ce_471 97 rfl) tq_121 rfl rfl ?_
      refine e_mv 178 em_471 (ce_at ce_471 98 rfl) rfl rfl ?_
      refine e_gd fun g7 => ?_
      refine e_ild 179 em_471 (ce_at ce_471 99 rfl) tq_209 (by decide) g7 rfl ?_
      refine e_op 180 em_471 (ce_at ce_471 100 rfl) rfl rfl ?_
      refine e_gd fun g8 => ?_
      refine e_cmne 187 183 em_471 rfl rfl (ce_at ce_471 101 rfl) g8 (by decide) (fun h9 => ?_) (fun h9 => ?_)
      · refine e_mv 188 em_471 (ce_at ce_471 104 rfl) rfl rfl ?_
        refine e_getr 191 em_471 (ce_at ce_471 105 rfl) tq_121 rfl rfl ?_
        refine e_mv 193 em_471 (ce_at ce_471 106 rfl) rfl rfl ?_
        refine e_ild 194 em_471 (ce_at ce_471 107 rfl) tq_210 (by decide) g7 rfl ?_
        refine e_pk [0, 3, 6, 8, 9, 10, 11] rfl rfl ?_
        exact tm_connect_194 w d hd _ _ _ _ _ _ _ _ _ _
      · refine e_op 184 em_471 (ce_at ce_471 102 rfl) rfl rfl ?_
        refine e_goto em_471 194 (ce_at ce_471 103 rfl) rfl ?_
        refine e_pk [0, 3, 6, 8, 9, 10, 11] rfl rfl ?_
        exact tm_connect_194 w d hd _ _ _ _ _ _ _ _ _ _
    · refine e_mv 151 em_471 (ce_at ce_471 84 rfl) rfl rfl ?_
      refine e_mv 152 em_471 (ce_at ce_471 85 rfl) rfl rfl ?_
      refine e_mv 153 em_471 (ce_at ce_471 86 rfl) rfl rfl ?_
      refine e_mv 154 em_471 (ce_at ce_471 87 rfl) rfl rfl ?_
      refine e_mv 156 em_471 (ce_at ce_471 88 rfl) rfl rfl ?_
      refine e_ivi 159 em_471 (ce_at ce_471 89 rfl) (by omega) (iv_v2 (by decide) tq_121 rfl) em_451 (Nat.le_of_ble_eq_true rfl) rfl (tm_innerOf w (d - 1) (by omega) _ _ _) (fun r10 s10 => ?_)
      refine e_ivi 162 em_471 (ce_at ce_471 90 rfl) (by omega) (iv_v2 (by decide) tq_121 rfl) em_468 (Nat.le_of_ble_eq_true rfl) rfl (tm_innerPlace w (d - 1) (by omega) _ _ _) (fun r11 s11 => ?_)
      refine e_goto em_471 195 (ce_at ce_471 91 rfl) rfl ?_
      refine e_pk [0, 3, 6, 8, 9, 10, 11] rfl rfl ?_
      exact tm_connect_195 w d hd _ _ _ _ _ _ _ _ _
theorem fm_connect_124 (v1 : Int) (v2 : Int) (v3 : Int) (v5 : Int) (v6 : Int) (v8 : Int) (v9 : Int) (v10 : Int) (t0 : Int) (s : iS) : Fm Prod.snd L_m_connect G_m_connect s (m_connect_124 v1 v2 v3 v5 v6 v8 v9 v10 t0 s) := fm_gd (fm_if (fm_bd (fm_sub (fm_pinOf _ _ _) (mem_sub_L rfl) (mem_sub_F rfl)) (fun r3 s3 => fm_gd (fm_if (fm_bd (fm_sub (fm_innerOf _ _ _) (mem_sub_L rfl) (mem_sub_F rfl)) (fun r10 s10 => fm_bd (fm_sub (fm_innerPlace _ _ _) (mem_sub_L rfl) (mem_sub_F rfl)) (fun r11 s11 => fm_connect_195 _ _ _ _ _ _ _ _ _))) (fm_bd (fm_sub (fm_pinPlace _ _ _) (mem_sub_L rfl) (mem_sub_F rfl)) (fun r6 s6 => fm_gd (fm_gd (fm_if (fm_connect_194 _ _ _ _ _ _ _ _ _ _) (fm_connect_194 _ _ _ _ _ _ _ _ _ _)))))))) (fm_connect_198 _ _ _ _ _ _ _ _))
noncomputable def m_connect_96 (v1 : Int) (v2 : Int) (v3 : Int) (v5 : Int) (v6 : Int) (v8 : Int) (t0 : Int) (t1 : Int) (s : iS) : Option (Int × iS) := gd (0 ≤ v5 ∧ v5 < 700) (gd (0 ≤ (s 208 v5.toNat) ∧ (s 208 v5.toNat) < 2002) (gd (rg (s 124 (s 208 v5.toNat).toNat)) (if (s 124 (s 208 v5.toNat).toNat) = 1 then m_connect_124 v1 v2 v3 v5 v6 v8 (t1 + t0) (s 208 v5.toNat) 0 s else m_connect_124 v1 v2 v3 v5 v6 v8 (t1 + t0) (s 208 v5.toNat) 1 s)))
theorem tm_connect_96 (w : ev_W) (d : Nat) (hd : 3 ≤ d) (v1 : Int) (v2 : Int) (v3 : Int) (v5 : Int) (v6 : Int) (v8 : Int) (t0 : Int) (t1 : Int) (s : iS) : Ew hT w d 471 96 [(0, .ref (tb_nK + 121)), (1, iv v1), (2, iv v2), (3, iv v3), (5, iv v5), (6, iv v6), (8, iv v8)] [iv t0, iv t1] s (Cv hT) (m_connect_96 v1 v2 v3 v5 v6 v8 t0 t1 s) := by
  unfold m_connect_96
  refine e_iadd 97 em_471 rfl (ce_at ce_471 54 rfl) ?_
  refine e_mv 99 em_471 (ce_at ce_471 55 rfl) rfl rfl ?_
  refine e_mv 100 em_471 (ce_at ce_471 56 rfl) rfl rfl ?_
  refine e_getr 103 em_471 (ce_at ce_471 57 rfl) tq_121 rfl rfl ?_
  refine e_mv 105 em_471 (ce_at ce_471 58 rfl) rfl rfl ?_
  refine e_gd fun g1 => ?_
  refine e_ild 106 em_471 (ce_at ce_471 59 rfl) tq_208 (by decide) g1 rfl ?_
  refine e_mv 108 em_471 (ce_at ce_471 60 rfl) rfl rfl ?_
  refine e_mv 109 em_471 (ce_at ce_471 61 rfl) rfl rfl ?_
  refine e_getr 112 em_471 (ce_at ce_471 62 rfl) tq_121 rfl rfl ?_
  refine e_mv 114 em_471 (ce_at ce_471 63 rfl) rfl rfl ?_
  refine e_gd fun g2 => ?_
  refine e_ild 115 em_471 (ce_at ce_471 64 rfl) tq_124 (by decide) g2 rfl ?_
  refine e_op 116 em_471 (ce_at ce_471 65 rfl) rfl rfl ?_
  refine e_gd fun g3 => ?_
  refine e_cmeq 123 119 em_471 rfl rfl (ce_at ce_471 66 rfl) g3 (by decide) (fun h4 => ?_) (fun h4 => ?_)
  · refine e_op 124 em_471 (ce_at ce_471 69 rfl) rfl rfl ?_
    refine e_pk [0, 1, 2, 3, 5, 6, 8, 9, 10] rfl rfl ?_
    exact tm_connect_124 w d hd _ _ _ _ _ _ _ _ _ _
  · refine e_op 120 em_471 (ce_at ce_471 67 rfl) rfl rfl ?_
    refine e_goto em_471 124 (ce_at ce_471 68 rfl) rfl ?_
    refine e_pk [0, 1, 2, 3, 5, 6, 8, 9, 10] rfl rfl ?_
    exact tm_connect_124 w d hd _ _ _ _ _ _ _ _ _ _
theorem fm_connect_96 (v1 : Int) (v2 : Int) (v3 : Int) (v5 : Int) (v6 : Int) (v8 : Int) (t0 : Int) (t1 : Int) (s : iS) : Fm Prod.snd L_m_connect G_m_connect s (m_connect_96 v1 v2 v3 v5 v6 v8 t0 t1 s) := fm_gd (fm_gd (fm_gd (fm_if (fm_connect_124 _ _ _ _ _ _ _ _ _ _) (fm_connect_124 _ _ _ _ _ _ _ _ _ _))))
noncomputable def m_connect_73 (v1 : Int) (v2 : Int) (v3 : Int) (v5 : Int) (v6 : Int) (v8 : Int) (t0 : Int) (t1 : Int) (s : iS) : Option (Int × iS) := gd (0 ≤ v5 ∧ v5 < 700) (gd (rg (s 205 v5.toNat)) (if (s 205 v5.toNat) = (-1) then m_connect_96 v1 v2 v3 v5 v6 v8 0 (t1 + t0) s else m_connect_96 v1 v2 v3 v5 v6 v8 (s 206 v5.toNat) (t1 + t0) s))
theorem tm_connect_73 (w : ev_W) (d : Nat) (hd : 3 ≤ d) (v1 : Int) (v2 : Int) (v3 : Int) (v5 : Int) (v6 : Int) (v8 : Int) (t0 : Int) (t1 : Int) (s : iS) : Ew hT w d 471 73 [(0, .ref (tb_nK + 121)), (1, iv v1), (2, iv v2), (3, iv v3), (5, iv v5), (6, iv v6), (8, iv v8)] [iv t0, iv t1] s (Cv hT) (m_connect_73 v1 v2 v3 v5 v6 v8 t0 t1 s) := by
  unfold m_connect_73
  refine e_iadd 74 em_471 rfl (ce_at ce_471 41 rfl) ?_
  refine e_mv 75 em_471 (ce_at ce_471 42 rfl) rfl rfl ?_
  refine e_getr 78 em_471 (ce_at ce_471 43 rfl) tq_121 rfl rfl ?_
  refine e_mv 80 em_471 (ce_at ce_471 44 rfl) rfl rfl ?_
  refine e_gd fun g1 => ?_
  refine e_ild 81 em_471 (ce_at ce_471 45 rfl) tq_205 (by decide) g1 rfl ?_
  refine e_op 82 em_471 (ce_at ce_471 46 rfl) rfl rfl ?_
  refine e_gd fun g2 => ?_
  refine e_cmne 89 85 em_471 rfl rfl (ce_at ce_471 47 rfl) g2 (by decide) (fun h3 => ?_) (fun h3 => ?_)
  · refine e_mv 90 em_471 (ce_at ce_471 50 rfl) rfl rfl ?_
    refine e_getr 93 em_471 (ce_at ce_471 51 rfl) tq_121 rfl rfl ?_
    refine e_mv 95 em_471 (ce_at ce_471 52 rfl) rfl rfl ?_
    refine e_ild 96 em_471 (ce_at ce_471 53 rfl) tq_206 (by decide) g1 rfl ?_
    refine e_pk [0, 1, 2, 3, 5, 6, 8] rfl rfl ?_
    exact tm_connect_96 w d hd _ _ _ _ _ _ _ _ _
  · refine e_op 86 em_471 (ce_at ce_471 48 rfl) rfl rfl ?_
    refine e_goto em_471 96 (ce_at ce_471 49 rfl) rfl ?_
    refine e_pk [0, 1, 2, 3, 5, 6, 8] rfl rfl ?_
    exact tm_connect_96 w d hd _ _ _ _ _ _ _ _ _
theorem fm_connect_73 (v1 : Int) (v2 : Int) (v3 : Int) (v5 : Int) (v6 : Int) (v8 : Int) (t0 : Int) (t1 : Int) (s : iS) : Fm Prod.snd L_m_connect G_m_connect s (m_connect_73 v1 v2 v3 v5 v6 v8 t0 t1 s) := fm_gd (fm_gd (fm_if (fm_connect_96 _ _ _ _ _ _ _ _ _) (fm_connect_96 _ _ _ _ _ _ _ _ _)))
noncomputable def m_connect (v1 : Int) (v2 : Int) (v3 : Int) (v4 : Int) (v5 : Int) (s : iS) : Option (Int × iS) := gd (0 ≤ v5 ∧ v5 < 700) (bd (m_pinOfPart v3 (s 204 v5.toNat) s) (fun r2 s2 => bd (m_widthOf v3 r2 s2) (fun r3 s3 => bd (m_bitsOf (s3 205 v5.toNat) (s3 206 v5.toNat) (s3 207 v5.toNat) r3 s3) (fun r4 s4 => gd (rg v3) (if v3 ≤ 1 then m_connect_73 v1 v2 v3 v5 r2 r4 r2 v4 s4 else bd (m_pinPlace (v3 - 2) r2 s4) (fun r7 s7 => m_connect_73 v1 v2 v3 v5 r2 r4 r7 v4 s7))))))
theorem tm_connect (w : ev_W) (d : Nat) (hd : 3 ≤ d) (v1 : Int) (v2 : Int) (v3 : Int) (v4 : Int) (v5 : Int) (s : iS) : Ew hT w d 471 0 [(0, .ref (tb_nK + 121)), (1, iv v1), (2, iv v2), (3, iv v3), (4, iv v4), (5, iv v5)] [] s (Cv hT) (m_connect v1 v2 v3 v4 v5 s) := by
  unfold m_connect
  refine e_mv 1 em_471 (ce_at ce_471 0 rfl) rfl rfl ?_
  refine e_mv 2 em_471 (ce_at ce_471 1 rfl) rfl rfl ?_
  refine e_mv 3 em_471 (ce_at ce_471 2 rfl) rfl rfl ?_
  refine e_getr 6 em_471 (ce_at ce_471 3 rfl) tq_121 rfl rfl ?_
  refine e_mv 8 em_471 (ce_at ce_471 4 rfl) rfl rfl ?_
  refine e_gd fun g1 => ?_
  refine e_ild 9 em_471 (ce_at ce_471 5 rfl) tq_204 (by decide) g1 rfl ?_
  refine e_ivi 12 em_471 (ce_at ce_471 6 rfl) (by omega) (iv_v2 (by decide) tq_121 rfl) em_456 (Nat.le_of_ble_eq_true rfl) rfl (tm_pinOfPart w (d - 1) (by omega) _ _ _) (fun r2 s2 => ?_)
  refine e_mv 14 em_471 (ce_at ce_471 7 rfl) rfl rfl ?_
  refine e_mv 15 em_471 (ce_at ce_471 8 rfl) rfl rfl ?_
  refine e_mv 16 em_471 (ce_at ce_471 9 rfl) rfl rfl ?_
  refine e_mv 18 em_471 (ce_at ce_471 10 rfl) rfl rfl ?_
  refine e_ivi 21 em_471 (ce_at ce_471 11 rfl) (by omega) (iv_v2 (by decide) tq_121 rfl) em_458 (Nat.le_of_ble_eq_true rfl) rfl (tm_widthOf w (d - 1) (by omega) _ _ _) (fun r3 s3 => ?_)
  refine e_mv 23 em_471 (ce_at ce_471 12 rfl) rfl rfl ?_
  refine e_mv 24 em_471 (ce_at ce_471 13 rfl) rfl rfl ?_
  refine e_mv 25 em_471 (ce_at ce_471 14 rfl) rfl rfl ?_
  refine e_getr 28 em_471 (ce_at ce_471 15 rfl) tq_121 rfl rfl ?_
  refine e_mv 30 em_471 (ce_at ce_471 16 rfl) rfl rfl ?_
  refine e_ild 31 em_471 (ce_at ce_471 17 rfl) tq_205 (by decide) g1 rfl ?_
  refine e_mv 32 em_471 (ce_at ce_471 18 rfl) rfl rfl ?_
  refine e_getr 35 em_471 (ce_at ce_471 19 rfl) tq_121 rfl rfl ?_
  refine e_mv 37 em_471 (ce_at ce_471 20 rfl) rfl rfl ?_
  refine e_ild 38 em_471 (ce_at ce_471 21 rfl) tq_206 (by decide) g1 rfl ?_
  refine e_mv 39 em_471 (ce_at ce_471 22 rfl) rfl rfl ?_
  refine e_getr 42 em_471 (ce_at ce_471 23 rfl) tq_121 rfl rfl ?_
  refine e_mv 44 em_471 (ce_at ce_471 24 rfl) rfl rfl ?_
  refine e_ild 45 em_471 (ce_at ce_471 25 rfl) tq_207 (by decide) g1 rfl ?_
  refine e_mv 47 em_471 (ce_at ce_471 26 rfl) rfl rfl ?_
  refine e_ivi 50 em_471 (ce_at ce_471 27 rfl) (by omega) (iv_v4 (by decide) tq_121 rfl) em_460 (Nat.le_of_ble_eq_true rfl) rfl (tm_bitsOf w (d - 1) (by omega) _ _ _ _ _) (fun r4 s4 => ?_)
  refine e_mv 52 em_471 (ce_at ce_471 28 rfl) rfl rfl ?_
  refine e_mv 54 em_471 (ce_at ce_471 29 rfl) rfl rfl ?_
  refine e_mv 55 em_471 (ce_at ce_471 30 rfl) rfl rfl ?_
  refine e_op 56 em_471 (ce_at ce_471 31 rfl) rfl rfl ?_
  refine e_gd fun g5 => ?_
  refine e_cmle 71 59 em_471 rfl rfl (ce_at ce_471 32 rfl) g5 (by decide) (fun h6 => ?_) (fun h6 => ?_)
  · refine e_mv 73 em_471 (ce_at ce_471 40 rfl) rfl rfl ?_
    refine e_pk [0, 1, 2, 3, 5, 6, 8] rfl rfl ?_
    exact tm_connect_73 w d hd _ _ _ _ _ _ _ _ _
  · refine e_mv 60 em_471 (ce_at ce_471 33 rfl) rfl rfl ?_
    refine e_mv 61 em_471 (ce_at ce_471 34 rfl) rfl rfl ?_
    refine e_op 62 em_471 (ce_at ce_471 35 rfl) rfl rfl ?_
    refine e_isub 63 em_471 rfl (ce_at ce_471 36 rfl) ?_
    refine e_mv 65 em_471 (ce_at ce_471 37 rfl) rfl rfl ?_
    refine e_ivi 68 em_471 (ce_at ce_471 38 rfl) (by omega) (iv_v2 (by decide) tq_121 rfl) em_469 (Nat.le_of_ble_eq_true rfl) rfl (tm_pinPlace w (d - 1) (by omega) _ _ _) (fun r7 s7 => ?_)
    refine e_goto em_471 73 (ce_at ce_471 39 rfl) rfl ?_
    refine e_pk [0, 1, 2, 3, 5, 6, 8] rfl rfl ?_
    exact tm_connect_73 w d hd _ _ _ _ _ _ _ _ _
theorem fm_connect (v1 : Int) (v2 : Int) (v3 : Int) (v4 : Int) (v5 : Int) (s : iS) : Fm Prod.snd L_m_connect G_m_connect s (m_connect v1 v2 v3 v4 v5 s) := fm_gd (fm_bd (fm_sub (fm_pinOfPart _ _ _) (mem_sub_L rfl) (mem_sub_F rfl)) (fun r2 s2 => fm_bd (fm_sub (fm_widthOf _ _ _) (mem_sub_L rfl) (mem_sub_F rfl)) (fun r3 s3 => fm_bd (fm_sub (fm_bitsOf _ _ _ _ _) (mem_sub_L rfl) (mem_sub_F rfl)) (fun r4 s4 => fm_gd (fm_if (fm_connect_73 _ _ _ _ _ _ _ _ _) (fm_bd (fm_sub (fm_pinPlace _ _ _) (mem_sub_L rfl) (mem_sub_F rfl)) (fun r7 s7 => fm_connect_73 _ _ _ _ _ _ _ _ _)))))))
/-! m_source -/
def L_m_source : List Nat := []
def G_m_source : List (Nat × Nat) := []
def m_source_2C (w : ev_W) (d : Nat) : (Int × iS) ⊕ (Int × iS) → am_E → Prop := fun q r => q.elim (fun l => ev w d 473 2 ((fun l => [(0, .ref (tb_nK + 121)), (2, iv (l.1))]) l) [] (hT ((fun l => l.2) l)) r) (fun e => (fun e r => ev w d 473 35 [(2, iv (e.1))] [] (hT (e.2)) r) e r)
noncomputable def m_source_2b (v2 : Int) (s : iS) : Option ((Int × iS) ⊕ (Int × iS)) := gd (rg v2) (if v2 < 0 then some (.inr (v2, s)) else gd (0 ≤ v2 ∧ v2 < 40000) (gd (rg (s 223 v2.toNat)) (if (s 223 v2.toNat) = 0 then gd (rg (s 222 v2.toNat)) (if (s 222 v2.toNat) = (-1) then some (.inr (v2, s)) else some (.inl ((s 222 v2.toNat), s))) else some (.inr (v2, s)))))
theorem tm_source_2b (w : ev_W) (d : Nat) (hd : 0 ≤ d) (v2 : Int) (s : iS) : Ew hT w d 473 2 [(0, .ref (tb_nK + 121)), (2, iv v2)] [] s (m_source_2C w d) (m_source_2b v2 s) := by
  unfold m_source_2b
  refine e_mv 3 em_473 (ce_at ce_473 2 rfl) rfl rfl ?_
  refine e_gd fun g1 => ?_
  refine e_iflt 35 6 em_473 rfl rfl (ce_at ce_473 3 rfl) g1 (fun h2 => ?_) (fun h2 => ?_)
  · refine e_pk [2] rfl rfl ?_
    exact e_out (fun r h => h)
  · refine e_mv 7 em_473 (ce_at ce_473 4 rfl) rfl rfl ?_
    refine e_getr 10 em_473 (ce_at ce_473 5 rfl) tq_121 rfl rfl ?_
    refine e_mv 11 em_473 (ce_at ce_473 6 rfl) rfl rfl ?_
    refine e_gd fun g3 => ?_
    refine e_ild 12 em_473 (ce_at ce_473 7 rfl) tq_223 (by decide) g3 rfl ?_
    refine e_gd fun g4 => ?_
    refine e_ifne 35 15 em_473 rfl rfl (ce_at ce_473 8 rfl) g4 (fun h5 => ?_) (fun h5 => ?_)
    · refine e_pk [2] rfl rfl ?_
      exact e_out (fun r h => h)
    · refine e_mv 16 em_473 (ce_at ce_473 9 rfl) rfl rfl ?_
      refine e_getr 19 em_473 (ce_at ce_473 10 rfl) tq_121 rfl rfl ?_
      refine e_mv 20 em_473 (ce_at ce_473 11 rfl) rfl rfl ?_
      refine e_ild 21 em_473 (ce_at ce_473 12 rfl) tq_222 (by decide) g3 rfl ?_
      refine e_op 22 em_473 (ce_at ce_473 13 rfl) rfl rfl ?_
      refine e_gd fun g6 => ?_
      refine e_cmeq 35 25 em_473 rfl rfl (ce_at ce_473 14 rfl) g6 (by decide) (fun h7 => ?_) (fun h7 => ?_)
      · refine e_pk [2] rfl rfl ?_
        exact e_out (fun r h => h)
      · refine e_mv 26 em_473 (ce_at ce_473 15 rfl) rfl rfl ?_
        refine e_getr 29 em_473 (ce_at ce_473 16 rfl) tq_121 rfl rfl ?_
        refine e_mv 30 em_473 (ce_at ce_473 17 rfl) rfl rfl ?_
        refine e_ild 31 em_473 (ce_at ce_473 18 rfl) tq_222 (by decide) g3 rfl ?_
        refine e_mv 32 em_473 (ce_at ce_473 19 rfl) rfl rfl ?_
        refine e_goto em_473 2 (ce_at ce_473 20 rfl) rfl ?_
        refine e_pk [0, 2] rfl rfl ?_
        exact e_out (fun r h => h)
theorem fm_source_2b (v2 : Int) (s : iS) : Fm (fun r : (Int × iS) ⊕ (Int × iS) => r.elim (fun l => l.2) (fun e => e.2)) L_m_source G_m_source s (m_source_2b v2 s) := fm_gd (fm_if (fm_some md_refl) (fm_gd (fm_gd (fm_if (fm_gd (fm_if (fm_some md_refl) (fm_some md_refl))) (fm_some md_refl)))))
noncomputable def m_source_2 (v2 : Int) (s : iS) : Option (Int × iS) := (lp (L := Int × iS) (E := Int × iS) (fun l => m_source_2b (l.1) (l.2)) (v2, s)).bind (fun e => some (e.1, e.2))
theorem tm_source_2 (w : ev_W) (d : Nat) (hd : 0 ≤ d) (v2 : Int) (s : iS) : Ew hT w d 473 2 [(0, .ref (tb_nK + 121)), (2, iv v2)] [] s (Ci hT) (m_source_2 v2 s) := by
  unfold m_source_2
  refine e_lp (L := Int × iS) (E := Int × iS) (LO := fun l => [(0, .ref (tb_nK + 121)), (2, iv (l.1))]) (LS := fun l => l.2) (CE := fun e r => ev w d 473 35 [(2, iv (e.1))] [] (hT (e.2)) r) (fun l => tm_source_2b w d hd _ _) ?_ (v2, s)
  intro e
  show Ew hT w d 473 35 [(2, iv (e.1))] [] e.2 (Ci hT) _
  refine e_mv 36 em_473 (ce_at ce_473 21 rfl) rfl rfl ?_
  exact e_reti em_473 (ce_at ce_473 22 rfl)
theorem fm_source_2 (v2 : Int) (s : iS) : Fm Prod.snd L_m_source G_m_source s (m_source_2 v2 s) := by
  unfold m_source_2
  refine fm_lp (A := Int × iS) (E := Int × iS) (LS := fun l => l.2) (LE := fun e => e.2) ?_ ?_ (v2, s)
  · exact fun l => fm_source_2b _ _
  · exact (fun e => fm_some md_refl)
noncomputable def m_source (v1 : Int) (s : iS) : Option (Int × iS) := m_source_2 v1 s
theorem tm_source (w : ev_W) (d : Nat) (hd : 0 ≤ d) (v1 : Int) (s : iS) : Ew hT w d 473 0 [(0, .ref (tb_nK + 121)), (1, iv v1)] [] s (Ci hT) (m_source v1 s) := by
  unfold m_source
  refine e_mv 1 em_473 (ce_at ce_473 0 rfl) rfl rfl ?_
  refine e_mv 2 em_473 (ce_at ce_473 1 rfl) rfl rfl ?_
  refine e_pk [0, 2] rfl rfl ?_
  exact tm_source_2 w d hd _ _
theorem fm_source (v1 : Int) (s : iS) : Fm Prod.snd L_m_source G_m_source s (m_source v1 s) := fm_source_2 _ _
/-! m_build -/
def L_m_build : List Nat := [222, 223, 224, 225, 228, 229, 231, 232]
def G_m_build : List (Nat × Nat) := [(121, 158), (121, 161), (121, 170)]
def m_build_106C (w : ev_W) (d : Nat) (v2 : Int) (v3 : Int) (v4 : Int) (v5 : Int) : (Int × iS) ⊕ (iS) → am_E → Prop := fun q r => q.elim (fun l => ev w d 465 106 ((fun l => [(0, .ref (tb_nK + 121)), (2, iv v2), (3, iv v3), (4, iv v4), (5, iv v5), (6, iv (l.1))]) l) [] (hT ((fun l => l.2) l)) r) (fun e => (fun e r => ev w d 465 143 [(0, .ref (tb_nK + 121)), (2, iv v2), (3, iv v3), (4, iv v4)] [] (hT (e)) r) e r)
noncomputable def m_build_106b (v2 : Int) (v3 : Int) (v4 : Int) (v5 : Int) (v6 : Int) (s : iS) : Option ((Int × iS) ⊕ (iS)) := gd (0 ≤ (v4 + 1) ∧ (v4 + 1) < 401) (gd (rg v6) (gd (rg (s 203 (v4 + 1).toNat)) (if (s 203 (v4 + 1).toNat) ≤ v6 then some (.inr s) else gd (0 ≤ v4 ∧ v4 < 400) (bd (m_connect v2 v3 (s 216 v4.toNat) v5 v6 s) (fun _ s6 => some (.inl ((v6 + 1), s6)))))))
theorem tm_build_106b (w : ev_W) (d : Nat) (hd : 4 ≤ d) (v2 : Int) (v3 : Int) (v4 : Int) (v5 : Int) (v6 : Int) (s : iS) : Ew hT w d 465 106 [(0, .ref (tb_nK + 121)), (2, iv v2), (3, iv v3), (4, iv v4), (5, iv v5), (6, iv v6)] [] s (m_build_106C w d v2 v3 v4 v5) (m_build_106b v2 v3 v4 v5 v6 s) := by
  unfold m_build_106b
  refine e_mv 108 em_465 (ce_at ce_465 62 rfl) rfl rfl ?_
  refine e_mv 109 em_465 (ce_at ce_465 63 rfl) rfl rfl ?_
  refine e_getr 112 em_465 (ce_at ce_465 64 rfl) tq_121 rfl rfl ?_
  refine e_mv 114 em_465 (ce_at ce_465 65 rfl) rfl rfl ?_
  refine e_op 115 em_465 (ce_at ce_465 66 rfl) rfl rfl ?_
  refine e_iadd 116 em_465 rfl (ce_at ce_465 67 rfl) ?_
  refine e_gd fun g1 => ?_
  refine e_ild 117 em_465 (ce_at ce_465 68 rfl) tq_203 (by decide) g1 rfl ?_
  refine e_gd fun g2 => ?_
  refine e_gd fun g3 => ?_
  refine e_cmge 143 120 em_465 rfl rfl (ce_at ce_465 69 rfl) g2 g3 (fun h4 => ?_) (fun h4 => ?_)
  · refine e_pk [0, 2, 3, 4] rfl rfl ?_
    exact e_out (fun r h => h)
  · refine e_mv 121 em_465 (ce_at ce_465 70 rfl) rfl rfl ?_
    refine e_mv 122 em_465 (ce_at ce_465 71 rfl) rfl rfl ?_
    refine e_mv 123 em_465 (ce_at ce_465 72 rfl) rfl rfl ?_
    refine e_mv 124 em_465 (ce_at ce_465 73 rfl) rfl rfl ?_
    refine e_getr 127 em_465 (ce_at ce_465 74 rfl) tq_121 rfl rfl ?_
    refine e_mv 129 em_465 (ce_at ce_465 75 rfl) rfl rfl ?_
    refine e_gd fun g5 => ?_
    refine e_ild 130 em_465 (ce_at ce_465 76 rfl) tq_216 (by decide) g5 rfl ?_
    refine e_mv 132 em_465 (ce_at ce_465 77 rfl) rfl rfl ?_
    refine e_mv 134 em_465 (ce_at ce_465 78 rfl) rfl rfl ?_
    refine e_ivv 137 em_465 (ce_at ce_465 79 rfl) (by omega) (iv_v5 (by decide) tq_121 rfl) em_471 (Nat.le_of_ble_eq_true rfl) rfl (tm_connect w (d - 1) (by omega) _ _ _ _ _ _) (fun r6 s6 => ?_)
    refine e_iinc 140 em_465 (ce_at ce_465 80 rfl) rfl (by decide) rfl ?_
    refine e_goto em_465 106 (ce_at ce_465 81 rfl) rfl ?_
    refine e_pk [0, 2, 3, 4, 5, 6] rfl rfl ?_
    exact e_out (fun r h => h)
theorem fm_build_106b (v2 : Int) (v3 : Int) (v4 : Int) (v5 : Int) (v6 : Int) (s : iS) : Fm (fun r : (Int × iS) ⊕ (iS) => r.elim (fun l => l.2) (fun e => e)) L_m_build G_m_build s (m_build_106b v2 v3 v4 v5 v6 s) := fm_gd (fm_gd (fm_gd (fm_if (fm_some md_refl) (fm_gd (fm_bd (fm_sub (fm_connect _ _ _ _ _ _) (mem_sub_L rfl) (mem_sub_F rfl)) (fun r6 s6 => fm_some md_refl))))))
def m_build_71C (w : ev_W) (d : Nat) (v2 : Int) (v3 : Int) : (Int × iS) ⊕ (iS) → am_E → Prop := fun q r => q.elim (fun l => ev w d 465 71 ((fun l => [(0, .ref (tb_nK + 121)), (2, iv v2), (3, iv v3), (4, iv (l.1))]) l) [] (hT ((fun l => l.2) l)) r) (fun e => (fun e r => ev w d 465 149 [(0, .ref (tb_nK + 121))] [] (hT (e)) r) e r)
noncomputable def m_build_106 (v2 : Int) (v3 : Int) (v4 : Int) (v5 : Int) (v6 : Int) (s : iS) : Option ((Int × iS) ⊕ (iS)) := (lp (L := Int × iS) (E := iS) (fun l => m_build_106b v2 v3 v4 v5 (l.1) (l.2)) (v6, s)).bind (fun e => some (.inl ((v4 + 1), e)))
theorem tm_build_106 (w : ev_W) (d : Nat) (hd : 4 ≤ d) (v2 : Int) (v3 : Int) (v4 : Int) (v5 : Int) (v6 : Int) (s : iS) : Ew hT w d 465 106 [(0, .ref (tb_nK + 121)), (2, iv v2), (3, iv v3), (4, iv v4), (5, iv v5), (6, iv v6)] [] s (m_build_71C w d v2 v3) (m_build_106 v2 v3 v4 v5 v6 s) := by
  unfold m_build_106
  refine e_lp (L := Int × iS) (E := iS) (LO := fun l => [(0, .ref (tb_nK + 121)), (2, iv v2), (3, iv v3), (4, iv v4), (5, iv v5), (6, iv (l.1))]) (LS := fun l => l.2) (CE := fun e r => ev w d 465 143 [(0, .ref (tb_nK + 121)), (2, iv v2), (3, iv v3), (4, iv v4)] [] (hT (e)) r) (fun l => tm_build_106b w d hd _ _ _ _ _ _) ?_ (v6, s)
  intro e
  show Ew hT w d 465 143 [(0, .ref (tb_nK + 121)), (2, iv v2), (3, iv v3), (4, iv v4)] [] e (m_build_71C w d v2 v3) _
  refine e_iinc 146 em_465 (ce_at ce_465 82 rfl) rfl (by decide) rfl ?_
  refine e_goto em_465 71 (ce_at ce_465 83 rfl) rfl ?_
  refine e_pk [0, 2, 3, 4] rfl rfl ?_
  exact e_out (fun r h => h)
theorem fm_build_106 (v2 : Int) (v3 : Int) (v4 : Int) (v5 : Int) (v6 : Int) (s : iS) : Fm (fun r : (Int × iS) ⊕ (iS) => r.elim (fun l => l.2) (fun e => e)) L_m_build G_m_build s (m_build_106 v2 v3 v4 v5 v6 s) := by
  unfold m_build_106
  refine fm_lp (A := Int × iS) (E := iS) (LS := fun l => l.2) (LE := fun e => e) ?_ ?_ (v6, s)
  · exact fun l => fm_build_106b _ _ _ _ _ _
  · exact (fun e => fm_some md_refl)
noncomputable def m_build_71b (v2 : Int) (v3 : Int) (v4 : Int) (s : iS) : Option ((Int × iS) ⊕ (iS)) := gd (0 ≤ (v2 + 1) ∧ (v2 + 1) < 18) (gd (rg v4) (gd (rg (s 201 (v2 + 1).toNat)) (if (s 201 (v2 + 1).toNat) ≤ v4 then some (.inr s) else gd (0 ≤ v4 ∧ v4 < 400) (bd (m_newPart (s 216 v4.toNat) s) (fun r6 s6 => gd (0 ≤ v4 ∧ v4 < 401) (m_build_106 v2 v3 v4 r6 (s6 203 v4.toNat) s6))))))
theorem tm_build_71b (w : ev_W) (d : Nat) (hd : 4 ≤ d) (v2 : Int) (v3 : Int) (v4 : Int) (s : iS) : Ew hT w d 465 71 [(0, .ref (tb_nK + 121)), (2, iv v2), (3, iv v3), (4, iv v4)] [] s (m_build_71C w d v2 v3) (m_build_71b v2 v3 v4 s) := by
  unfold m_build_71b
  refine e_mv 73 em_465 (ce_at ce_465 42 rfl) rfl rfl ?_
  refine e_mv 74 em_465 (ce_at ce_465 43 rfl) rfl rfl ?_
  refine e_getr 77 em_465 (ce_at ce_465 44 rfl) tq_121 rfl rfl ?_
  refine e_mv 78 em_465 (ce_at ce_465 45 rfl) rfl rfl ?_
  refine e_op 79 em_465 (ce_at ce_465 46 rfl) rfl rfl ?_
  refine e_iadd 80 em_465 rfl (ce_at ce_465 47 rfl) ?_
  refine e_gd fun g1 => ?_
  refine e_ild 81 em_465 (ce_at ce_465 48 rfl) tq_201 (by decide) g1 rfl ?_
  refine e_gd fun g2 => ?_
  refine e_gd fun g3 => ?_
  refine e_cmge 149 84 em_465 rfl rfl (ce_at ce_465 49 rfl) g2 g3 (fun h4 => ?_) (fun h4 => ?_)
  · refine e_pk [0] rfl rfl ?_
    exact e_out (fun r h => h)
  · refine e_mv 85 em_465 (ce_at ce_465 50 rfl) rfl rfl ?_
    refine e_mv 86 em_465 (ce_at ce_465 51 rfl) rfl rfl ?_
    refine e_getr 89 em_465 (ce_at ce_465 52 rfl) tq_121 rfl rfl ?_
    refine e_mv 91 em_465 (ce_at ce_465 53 rfl) rfl rfl ?_
    refine e_gd fun g5 => ?_
    refine e_ild 92 em_465 (ce_at ce_465 54 rfl) tq_216 (by decide) g5 rfl ?_
    refine e_ivi 95 em_465 (ce_at ce_465 55 rfl) (by omega) (iv_v1 (by decide) tq_121 rfl) em_466 (Nat.le_of_ble_eq_true rfl) rfl (tm_newPart w (d - 1) (by omega) _ _) (fun r6 s6 => ?_)
    refine e_mv 97 em_465 (ce_at ce_465 56 rfl) rfl rfl ?_
    refine e_mv 98 em_465 (ce_at ce_465 57 rfl) rfl rfl ?_
    refine e_getr 101 em_465 (ce_at ce_465 58 rfl) tq_121 rfl rfl ?_
    refine e_mv 103 em_465 (ce_at ce_465 59 rfl) rfl rfl ?_
    refine e_gd fun g7 => ?_
    refine e_ild 104 em_465 (ce_at ce_465 60 rfl) tq_203 (by decide) g7 rfl ?_
    refine e_mv 106 em_465 (ce_at ce_465 61 rfl) rfl rfl ?_
    refine e_pk [0, 2, 3, 4, 5, 6] rfl rfl ?_
    exact tm_build_106 w d hd _ _ _ _ _ _
theorem fm_build_71b (v2 : Int) (v3 : Int) (v4 : Int) (s : iS) : Fm (fun r : (Int × iS) ⊕ (iS) => r.elim (fun l => l.2) (fun e => e)) L_m_build G_m_build s (m_build_71b v2 v3 v4 s) := fm_gd (fm_gd (fm_gd (fm_if (fm_some md_refl) (fm_gd (fm_bd (fm_sub (fm_newPart _ _) (mem_sub_L rfl) (mem_sub_F rfl)) (fun r6 s6 => fm_gd (fm_build_106 _ _ _ _ _ _)))))))
def m_build_26C (w : ev_W) (d : Nat) : (iS) ⊕ (iS) → am_E → Prop := fun q r => q.elim (fun l => ev w d 465 26 ((fun l => [(0, .ref (tb_nK + 121))]) l) [] (hT ((fun l => l) l)) r) (fun e => (fun e r => ev w d 465 152 [(0, .ref (tb_nK + 121))] [] (hT (e)) r) e r)
noncomputable def m_build_71 (v2 : Int) (v3 : Int) (v4 : Int) (s : iS) : Option ((iS) ⊕ (iS)) := (lp (L := Int × iS) (E := iS) (fun l => m_build_71b v2 v3 (l.1) (l.2)) (v4, s)).bind (fun e => some (.inl e))
theorem tm_build_71 (w : ev_W) (d : Nat) (hd : 4 ≤ d) (v2 : Int) (v3 : Int) (v4 : Int) (s : iS) : Ew hT w d 465 71 [(0, .ref (tb_nK + 121)), (2, iv v2), (3, iv v3), (4, iv v4)] [] s (m_build_26C w d) (m_build_71 v2 v3 v4 s) := by
  unfold m_build_71
  refine e_lp (L := Int × iS) (E := iS) (LO := fun l => [(0, .ref (tb_nK + 121)), (2, iv v2), (3, iv v3), (4, iv (l.1))]) (LS := fun l => l.2) (CE := fun e r => ev w d 465 149 [(0, .ref (tb_nK + 121))] [] (hT (e)) r) (fun l => tm_build_71b w d hd _ _ _ _) ?_ (v4, s)
  intro e
  show Ew hT w d 465 149 [(0, .ref (tb_nK + 121))] [] e (m_build_26C w d) _
  refine e_goto em_465 26 (ce_at ce_465 84 rfl) rfl ?_
  refine e_pk [0] rfl rfl ?_
  exact e_out (fun r h => h)
theorem fm_build_71 (v2 : Int) (v3 : Int) (v4 : Int) (s : iS) : Fm (fun r : (iS) ⊕ (iS) => r.elim (fun l => l) (fun e => e)) L_m_build G_m_build s (m_build_71 v2 v3 v4 s) := by
  unfold m_build_71
  refine fm_lp (A := Int × iS) (E := iS) (LS := fun l => l.2) (LE := fun e => e) ?_ ?_ (v4, s)
  · exact fun l => fm_build_71b _ _ _ _
  · exact (fun e => fm_some md_refl)
noncomputable def m_build_26b (s : iS) : Option ((iS) ⊕ (iS)) := gd (rg (s 121 170)) (if (s 121 170) ≤ 0 then some (.inr s) else lt' (up s 121 170 ((s 121 170) - 1)) (fun s3 => gd (0 ≤ (s3 121 170) ∧ (s3 121 170) < 20000) (gd (0 ≤ (s3 231 (s3 121 170).toNat) ∧ (s3 231 (s3 121 170).toNat) < 18) (m_build_71 (s3 231 (s3 121 170).toNat) (s3 232 (s3 121 170).toNat) (s3 201 (s3 231 (s3 121 170).toNat).toNat) s3))))
theorem tm_build_26b (w : ev_W) (d : Nat) (hd : 4 ≤ d) (s : iS) : Ew hT w d 465 26 [(0, .ref (tb_nK + 121))] [] s (m_build_26C w d) (m_build_26b s) := by
  unfold m_build_26b
  refine e_mv 27 em_465 (ce_at ce_465 16 rfl) rfl rfl ?_
  refine e_get 30 em_465 (ce_at ce_465 17 rfl) tq_121 rfl rfl ?_
  refine e_gd fun g1 => ?_
  refine e_ifle 152 33 em_465 rfl rfl (ce_at ce_465 18 rfl) g1 (fun h2 => ?_) (fun h2 => ?_)
  · refine e_pk [0] rfl rfl ?_
    exact e_out (fun r h => h)
  · refine e_mv 34 em_465 (ce_at ce_465 19 rfl) rfl rfl ?_
    refine e_mv 35 em_465 (ce_at ce_465 20 rfl) rfl rfl ?_
    refine e_get 38 em_465 (ce_at ce_465 21 rfl) tq_121 rfl rfl ?_
    refine e_op 39 em_465 (ce_at ce_465 22 rfl) rfl rfl ?_
    refine e_isub 40 em_465 rfl (ce_at ce_465 23 rfl) ?_
    refine e_put 43 em_465 (ce_at ce_465 24 rfl) tq_121 rfl rfl rfl (fun s3 => ?_)
    refine e_mv 44 em_465 (ce_at ce_465 25 rfl) rfl rfl ?_
    refine e_getr 47 em_465 (ce_at ce_465 26 rfl) tq_121 rfl rfl ?_
    refine e_mv 48 em_465 (ce_at ce_465 27 rfl) rfl rfl ?_
    refine e_get 51 em_465 (ce_at ce_465 28 rfl) tq_121 rfl rfl ?_
    refine e_gd fun g4 => ?_
    refine e_ild 52 em_465 (ce_at ce_465 29 rfl) tq_231 (by decide) g4 rfl ?_
    refine e_mv 53 em_465 (ce_at ce_465 30 rfl) rfl rfl ?_
    refine e_mv 54 em_465 (ce_at ce_465 31 rfl) rfl rfl ?_
    refine e_getr 57 em_465 (ce_at ce_465 32 rfl) tq_121 rfl rfl ?_
    refine e_mv 58 em_465 (ce_at ce_465 33 rfl) rfl rfl ?_
    refine e_get 61 em_465 (ce_at ce_465 34 rfl) tq_121 rfl rfl ?_
    refine e_ild 62 em_465 (ce_at ce_465 35 rfl) tq_232 (by decide) g4 rfl ?_
    refine e_mv 63 em_465 (ce_at ce_465 36 rfl) rfl rfl ?_
    refine e_mv 64 em_465 (ce_at ce_465 37 rfl) rfl rfl ?_
    refine e_getr 67 em_465 (ce_at ce_465 38 rfl) tq_121 rfl rfl ?_
    refine e_mv 68 em_465 (ce_at ce_465 39 rfl) rfl rfl ?_
    refine e_gd fun g5 => ?_
    refine e_ild 69 em_465 (ce_at ce_465 40 rfl) tq_201 (by decide) g5 rfl ?_
    refine e_mv 71 em_465 (ce_at ce_465 41 rfl) rfl rfl ?_
    refine e_pk [0, 2, 3, 4] rfl rfl ?_
    exact tm_build_71 w d hd _ _ _ _
theorem fm_build_26b (s : iS) : Fm (fun r : (iS) ⊕ (iS) => r.elim (fun l => l) (fun e => e)) L_m_build G_m_build s (m_build_26b s) := fm_gd (fm_if (fm_some md_refl) (fm_lt (md_upF (mem_F rfl)) (fun s3 => fm_gd (fm_gd (fm_build_71 _ _ _ _)))))
def m_build_154C (w : ev_W) (d : Nat) : (Int × iS) ⊕ (iS) → am_E → Prop := fun q r => q.elim (fun l => ev w d 465 154 ((fun l => [(0, .ref (tb_nK + 121)), (2, iv (l.1))]) l) [] (hT ((fun l => l.2) l)) r) (fun e => (fun e r => ev w d 465 215 [] [] (hT (e)) r) e r)
noncomputable def m_build_208 (v2 : Int) (t0 : Int) (t1 : Int) (s : iS) : Option ((Int × iS) ⊕ (iS)) := gd (0 ≤ t1 ∧ t1 < 1500) (lt' (up s 229 t1.toNat t0) (fun s2 => some (.inl ((v2 + 1), s2))))
theorem tm_build_208 (w : ev_W) (d : Nat) (hd : 4 ≤ d) (v2 : Int) (t0 : Int) (t1 : Int) (s : iS) : Ew hT w d 465 208 [(0, .ref (tb_nK + 121)), (2, iv v2)] [iv t0, iv t1, .ref (tb_nK + 229)] s (m_build_154C w d) (m_build_208 v2 t0 t1 s) := by
  unfold m_build_208
  refine e_gd fun g1 => ?_
  refine e_ist 209 em_465 (ce_at ce_465 119 rfl) tq_229 (by decide) g1 rfl (fun s2 => ?_)
  refine e_iinc 212 em_465 (ce_at ce_465 120 rfl) rfl (by decide) rfl ?_
  refine e_goto em_465 154 (ce_at ce_465 121 rfl) rfl ?_
  refine e_pk [0, 2] rfl rfl ?_
  exact e_out (fun r h => h)
theorem fm_build_208 (v2 : Int) (t0 : Int) (t1 : Int) (s : iS) : Fm (fun r : (Int × iS) ⊕ (iS) => r.elim (fun l => l.2) (fun e => e)) L_m_build G_m_build s (m_build_208 v2 t0 t1 s) := fm_gd (fm_lt (md_upL (mem_L rfl)) (fun s2 => fm_some md_refl))
noncomputable def m_build_154b (v2 : Int) (s : iS) : Option ((Int × iS) ⊕ (iS)) := gd (rg v2) (gd (rg (s 121 161)) (if (s 121 161) ≤ v2 then some (.inr s) else gd (0 ≤ v2 ∧ v2 < 1500) (bd (m_source (s 225 v2.toNat) s) (fun r5 s5 => lt' (up s5 228 v2.toNat r5) (fun s6 => gd (rg (s6 224 v2.toNat)) (if (s6 224 v2.toNat) = 0 then bd (m_source ((s6 225 v2.toNat) + 1) s6) (fun r9 s9 => m_build_208 v2 r9 v2 s9) else m_build_208 v2 (-1) v2 s6))))))
theorem tm_build_154b (w : ev_W) (d : Nat) (hd : 4 ≤ d) (v2 : Int) (s : iS) : Ew hT w d 465 154 [(0, .ref (tb_nK + 121)), (2, iv v2)] [] s (m_build_154C w d) (m_build_154b v2 s) := by
  unfold m_build_154b
  refine e_mv 155 em_465 (ce_at ce_465 87 rfl) rfl rfl ?_
  refine e_mv 156 em_465 (ce_at ce_465 88 rfl) rfl rfl ?_
  refine e_get 159 em_465 (ce_at ce_465 89 rfl) tq_121 rfl rfl ?_
  refine e_gd fun g1 => ?_
  refine e_gd fun g2 => ?_
  refine e_cmge 215 162 em_465 rfl rfl (ce_at ce_465 90 rfl) g1 g2 (fun h3 => ?_) (fun h3 => ?_)
  · refine e_pk [] rfl rfl ?_
    exact e_out (fun r h => h)
  · refine e_mv 163 em_465 (ce_at ce_465 91 rfl) rfl rfl ?_
    refine e_getr 166 em_465 (ce_at ce_465 92 rfl) tq_121 rfl rfl ?_
    refine e_mv 167 em_465 (ce_at ce_465 93 rfl) rfl rfl ?_
    refine e_mv 168 em_465 (ce_at ce_465 94 rfl) rfl rfl ?_
    refine e_mv 169 em_465 (ce_at ce_465 95 rfl) rfl rfl ?_
    refine e_getr 172 em_465 (ce_at ce_465 96 rfl) tq_121 rfl rfl ?_
    refine e_mv 173 em_465 (ce_at ce_465 97 rfl) rfl rfl ?_
    refine e_gd fun g4 => ?_
    refine e_ild 174 em_465 (ce_at ce_465 98 rfl) tq_225 (by decide) g4 rfl ?_
    refine e_ivi 177 em_465 (ce_at ce_465 99 rfl) (by omega) (iv_v1 (by decide) tq_121 rfl) em_473 (Nat.le_of_ble_eq_true rfl) rfl (tm_source w (d - 1) (by omega) _ _) (fun r5 s5 => ?_)
    refine e_ist 178 em_465 (ce_at ce_465 100 rfl) tq_228 (by decide) g4 rfl (fun s6 => ?_)
    refine e_mv 179 em_465 (ce_at ce_465 101 rfl) rfl rfl ?_
    refine e_getr 182 em_465 (ce_at ce_465 102 rfl) tq_121 rfl rfl ?_
    refine e_mv 183 em_465 (ce_at ce_465 103 rfl) rfl rfl ?_
    refine e_mv 184 em_465 (ce_at ce_465 104 rfl) rfl rfl ?_
    refine e_getr 187 em_465 (ce_at ce_465 105 rfl) tq_121 rfl rfl ?_
    refine e_mv 188 em_465 (ce_at ce_465 106 rfl) rfl rfl ?_
    refine e_zld 189 em_465 (ce_at ce_465 107 rfl) tq_224 (by decide) g4 rfl ?_
    refine e_gd fun g7 => ?_
    refine e_ifeq 196 192 em_465 rfl rfl (ce_at ce_465 108 rfl) g7 (fun h8 => ?_) (fun h8 => ?_)
    · refine e_mv 197 em_465 (ce_at ce_465 111 rfl) rfl rfl ?_
      refine e_mv 198 em_465 (ce_at ce_465 112 rfl) rfl rfl ?_
      refine e_getr 201 em_465 (ce_at ce_465 113 rfl) tq_121 rfl rfl ?_
      refine e_mv 202 em_465 (ce_at ce_465 114 rfl) rfl rfl ?_
      refine e_ild 203 em_465 (ce_at ce_465 115 rfl) tq_225 (by decide) g4 rfl ?_
      refine e_op 204 em_465 (ce_at ce_465 116 rfl) rfl rfl ?_
      refine e_iadd 205 em_465 rfl (ce_at ce_465 117 rfl) ?_
      refine e_ivi 208 em_465 (ce_at ce_465 118 rfl) (by omega) (iv_v1 (by decide) tq_121 rfl) em_473 (Nat.le_of_ble_eq_true rfl) rfl (tm_source w (d - 1) (by omega) _ _) (fun r9 s9 => ?_)
      refine e_pk [0, 2] rfl rfl ?_
      exact tm_build_208 w d hd _ _ _ _
    · refine e_op 193 em_465 (ce_at ce_465 109 rfl) rfl rfl ?_
      refine e_goto em_465 208 (ce_at ce_465 110 rfl) rfl ?_
      refine e_pk [0, 2] rfl rfl ?_
      exact tm_build_208 w d hd _ _ _ _
theorem fm_build_154b (v2 : Int) (s : iS) : Fm (fun r : (Int × iS) ⊕ (iS) => r.elim (fun l => l.2) (fun e => e)) L_m_build G_m_build s (m_build_154b v2 s) := fm_gd (fm_gd (fm_if (fm_some md_refl) (fm_gd (fm_bd (fm_sub (fm_source _ _) (mem_sub_L rfl) (mem_sub_F rfl)) (fun r5 s5 => fm_lt (md_upL (mem_L rfl)) (fun s6 => fm_gd (fm_if (fm_bd (fm_sub (fm_source _ _) (mem_sub_L rfl) (mem_sub_F rfl)) (fun r9 s9 => fm_build_208 _ _ _ _)) (fm_build_208 _ _ _ _))))))))
noncomputable def m_build_154 (v2 : Int) (s : iS) : Option (Int × iS) := (lp (L := Int × iS) (E := iS) (fun l => m_build_154b (l.1) (l.2)) (v2, s)).bind (fun e => some (0, e))
theorem tm_build_154 (w : ev_W) (d : Nat) (hd : 4 ≤ d) (v2 : Int) (s : iS) : Ew hT w d 465 154 [(0, .ref (tb_nK + 121)), (2, iv v2)] [] s (Cv hT) (m_build_154 v2 s) := by
  unfold m_build_154
  refine e_lp (L := Int × iS) (E := iS) (LO := fun l => [(0, .ref (tb_nK + 121)), (2, iv (l.1))]) (LS := fun l => l.2) (CE := fun e r => ev w d 465 215 [] [] (hT (e)) r) (fun l => tm_build_154b w d hd _ _) ?_ (v2, s)
  intro e
  show Ew hT w d 465 215 [] [] e (Cv hT) _
  exact e_retv em_465 (ce_at ce_465 122 rfl)
theorem fm_build_154 (v2 : Int) (s : iS) : Fm Prod.snd L_m_build G_m_build s (m_build_154 v2 s) := by
  unfold m_build_154
  refine fm_lp (A := Int × iS) (E := iS) (LS := fun l => l.2) (LE := fun e => e) ?_ ?_ (v2, s)
  · exact fun l => fm_build_154b _ _
  · exact (fun e => fm_some md_refl)
noncomputable def m_build_152 (s : iS) : Option (Int × iS) := m_build_154 0 s
theorem tm_build_152 (w : ev_W) (d : Nat) (hd : 4 ≤ d) (s : iS) : Ew hT w d 465 152 [(0, .ref (tb_nK + 121))] [] s (Cv hT) (m_build_152 s) := by
  unfold m_build_152
  refine e_op 153 em_465 (ce_at ce_465 85 rfl) rfl rfl ?_
  refine e_mv 154 em_465 (ce_at ce_465 86 rfl) rfl rfl ?_
  refine e_pk [0, 2] rfl rfl ?_
  exact tm_build_154 w d hd _ _
theorem fm_build_152 (s : iS) : Fm Prod.snd L_m_build G_m_build s (m_build_152 s) := fm_build_154 _ _
noncomputable def m_build_26 (s : iS) : Option (Int × iS) := (lp (L := iS) (E := iS) (fun l => m_build_26b l) s).bind (fun e => m_build_152 e)
theorem tm_build_26 (w : ev_W) (d : Nat) (hd : 4 ≤ d) (s : iS) : Ew hT w d 465 26 [(0, .ref (tb_nK + 121))] [] s (Cv hT) (m_build_26 s) := by
  unfold m_build_26
  refine e_lp (L := iS) (E := iS) (LO := fun l => [(0, .ref (tb_nK + 121))]) (LS := fun l => l) (CE := fun e r => ev w d 465 152 [(0, .ref (tb_nK + 121))] [] (hT (e)) r) (fun l => tm_build_26b w d hd _) ?_ s
  intro e
  show Ew hT w d 465 152 [(0, .ref (tb_nK + 121))] [] e (Cv hT) _
  refine e_pk [0] rfl rfl ?_
  exact tm_build_152 w d hd _
theorem fm_build_26 (s : iS) : Fm Prod.snd L_m_build G_m_build s (m_build_26 s) := by
  unfold m_build_26
  refine fm_lp (A := iS) (E := iS) (LS := fun l => l) (LE := fun e => e) ?_ ?_ s
  · exact fun l => fm_build_26b _
  · exact (fun e => fm_build_152 _)
noncomputable def m_build (s : iS) : Option (Int × iS) := lt' (up s 121 158 0) (fun s1 => lt' (up s1 121 161 0) (fun s2 => lt' (up s2 121 170 0) (fun s3 => bd (m_newPart (2 + (s3 121 174)) s3) (fun r4 s4 => m_build_26 s4))))
theorem tm_build (w : ev_W) (d : Nat) (hd : 4 ≤ d) (s : iS) : Ew hT w d 465 0 [(0, .ref (tb_nK + 121))] [] s (Cv hT) (m_build s) := by
  unfold m_build
  refine e_mv 1 em_465 (ce_at ce_465 0 rfl) rfl rfl ?_
  refine e_op 2 em_465 (ce_at ce_465 1 rfl) rfl rfl ?_
  refine e_put 5 em_465 (ce_at ce_465 2 rfl) tq_121 rfl rfl rfl (fun s1 => ?_)
  refine e_mv 6 em_465 (ce_at ce_465 3 rfl) rfl rfl ?_
  refine e_op 7 em_465 (ce_at ce_465 4 rfl) rfl rfl ?_
  refine e_put 10 em_465 (ce_at ce_465 5 rfl) tq_121 rfl rfl rfl (fun s2 => ?_)
  refine e_mv 11 em_465 (ce_at ce_465 6 rfl) rfl rfl ?_
  refine e_op 12 em_465 (ce_at ce_465 7 rfl) rfl rfl ?_
  refine e_put 15 em_465 (ce_at ce_465 8 rfl) tq_121 rfl rfl rfl (fun s3 => ?_)
  refine e_mv 16 em_465 (ce_at ce_465 9 rfl) rfl rfl ?_
  refine e_op 17 em_465 (ce_at ce_465 10 rfl) rfl rfl ?_
  refine e_mv 18 em_465 (ce_at ce_465 11 rfl) rfl rfl ?_
  refine e_get 21 em_465 (ce_at ce_465 12 rfl) tq_121 rfl rfl ?_
  refine e_iadd 22 em_465 rfl (ce_at ce_465 13 rfl) ?_
  refine e_ivi 25 em_465 (ce_at ce_465 14 rfl) (by omega) (iv_v1 (by decide) tq_121 rfl) em_466 (Nat.le_of_ble_eq_true rfl) rfl (tm_newPart w (d - 1) (by omega) _ _) (fun r4 s4 => ?_)
  refine e_mv 26 em_465 (ce_at ce_465 15 rfl) rfl rfl ?_
  refine e_pk [0] rfl rfl ?_
  exact tm_build_26 w d hd _
theorem fm_build (s : iS) : Fm Prod.snd L_m_build G_m_build s (m_build s) := fm_lt (md_upF (mem_F rfl)) (fun s1 => fm_lt (md_upF (mem_F rfl)) (fun s2 => fm_lt (md_upF (mem_F rfl)) (fun s3 => fm_bd (fm_sub (fm_newPart _ _) (mem_sub_L rfl) (mem_sub_F rfl)) (fun r4 s4 => fm_build_26 _))))
/-! m_checkRing -/
def L_m_checkRing : List Nat := [219]
def G_m_checkRing : List (Nat × Nat) := [(121, 69), (121, 70)]
def m_checkRing_2C (w : ev_W) (d : Nat) : (Int × iS) ⊕ (iS) → am_E → Prop := fun q r => q.elim (fun l => ev w d 463 2 ((fun l => [(0, .ref (tb_nK + 121)), (1, iv (l.1))]) l) [] (hT ((fun l => l.2) l)) r) (fun e => (fun e r => ev w d 463 22 [(0, .ref (tb_nK + 121))] [] (hT (e)) r) e r)
noncomputable def m_checkRing_2b (v1 : Int) (s : iS) : Option ((Int × iS) ⊕ (iS)) := gd (rg v1) (if 256 ≤ v1 then some (.inr s) else gd (0 ≤ v1 ∧ v1 < 256) (lt' (up s 219 v1.toNat 0) (fun s4 => some (.inl ((v1 + 1), s4)))))
theorem tm_checkRing_2b (w : ev_W) (d : Nat) (hd : 1 ≤ d) (v1 : Int) (s : iS) : Ew hT w d 463 2 [(0, .ref (tb_nK + 121)), (1, iv v1)] [] s (m_checkRing_2C w d) (m_checkRing_2b v1 s) := by
  unfold m_checkRing_2b
  refine e_mv 3 em_463 (ce_at ce_463 2 rfl) rfl rfl ?_
  refine e_sip 6 em_463 (ce_at ce_463 3 rfl) (by decide) rfl ?_
  refine e_gd fun g1 => ?_
  refine e_cmge 22 9 em_463 rfl rfl (ce_at ce_463 4 rfl) g1 (by decide) (fun h2 => ?_) (fun h2 => ?_)
  · refine e_pk [0] rfl rfl ?_
    exact e_out (fun r h => h)
  · refine e_mv 10 em_463 (ce_at ce_463 5 rfl) rfl rfl ?_
    refine e_getr 13 em_463 (ce_at ce_463 6 rfl) tq_121 rfl rfl ?_
    refine e_mv 14 em_463 (ce_at ce_463 7 rfl) rfl rfl ?_
    refine e_op 15 em_463 (ce_at ce_463 8 rfl) rfl rfl ?_
    refine e_gd fun g3 => ?_
    refine e_zst 16 em_463 (ce_at ce_463 9 rfl) tq_219 (by decide) g3 (by decide) rfl (fun s4 => ?_)
    refine e_iinc 19 em_463 (ce_at ce_463 10 rfl) rfl (by decide) rfl ?_
    refine e_goto em_463 2 (ce_at ce_463 11 rfl) rfl ?_
    refine e_pk [0, 1] rfl rfl ?_
    exact e_out (fun r h => h)
theorem fm_checkRing_2b (v1 : Int) (s : iS) : Fm (fun r : (Int × iS) ⊕ (iS) => r.elim (fun l => l.2) (fun e => e)) L_m_checkRing G_m_checkRing s (m_checkRing_2b v1 s) := fm_gd (fm_if (fm_some md_refl) (fm_gd (fm_lt (md_upL (mem_L rfl)) (fun s4 => fm_some md_refl))))
def m_checkRing_39C (w : ev_W) (d : Nat) (v1 : Int) : (Int × iS) ⊕ (iS) → am_E → Prop := fun q r => q.elim (fun l => ev w d 463 39 ((fun l => [(0, .ref (tb_nK + 121)), (1, iv v1), (2, iv (l.1))]) l) [] (hT ((fun l => l.2) l)) r) (fun e => (fun e r => ev w d 463 86 [(0, .ref (tb_nK + 121)), (1, iv v1)] [] (hT (e)) r) e r)
noncomputable def m_checkRing_39b (v1 : Int) (v2 : Int) (s : iS) : Option ((Int × iS) ⊕ (iS)) := gd (0 ≤ (v1 + 1) ∧ (v1 + 1) < 18) (gd (rg v2) (gd (rg (s 201 (v1 + 1).toNat)) (if (s 201 (v1 + 1).toNat) ≤ v2 then some (.inr s) else gd (0 ≤ v2 ∧ v2 < 400) (gd (rg (s 216 v2.toNat)) (if (s 216 v2.toNat) ≤ 1 then some (.inl ((v2 + 1), s)) else gd (0 ≤ (((16 * v1) + (s 216 v2.toNat)) - 2) ∧ (((16 * v1) + (s 216 v2.toNat)) - 2) < 256) (lt' (up s 219 (((16 * v1) + (s 216 v2.toNat)) - 2).toNat 1) (fun s9 => some (.inl ((v2 + 1), s9)))))))))
theorem tm_checkRing_39b (w : ev_W) (d : Nat) (hd : 1 ≤ d) (v1 : Int) (v2 : Int) (s : iS) : Ew hT w d 463 39 [(0, .ref (tb_nK + 121)), (1, iv v1), (2, iv v2)] [] s (m_checkRing_39C w d v1) (m_checkRing_39b v1 v2 s) := by
  unfold m_checkRing_39b
  refine e_mv 40 em_463 (ce_at ce_463 23 rfl) rfl rfl ?_
  refine e_mv 41 em_463 (ce_at ce_463 24 rfl) rfl rfl ?_
  refine e_getr 44 em_463 (ce_at ce_463 25 rfl) tq_121 rfl rfl ?_
  refine e_mv 45 em_463 (ce_at ce_463 26 rfl) rfl rfl ?_
  refine e_op 46 em_463 (ce_at ce_463 27 rfl) rfl rfl ?_
  refine e_iadd 47 em_463 rfl (ce_at ce_463 28 rfl) ?_
  refine e_gd fun g1 => ?_
  refine e_ild 48 em_463 (ce_at ce_463 29 rfl) tq_201 (by decide) g1 rfl ?_
  refine e_gd fun g2 => ?_
  refine e_gd fun g3 => ?_
  refine e_cmge 86 51 em_463 rfl rfl (ce_at ce_463 30 rfl) g2 g3 (fun h4 => ?_) (fun h4 => ?_)
  · refine e_pk [0, 1] rfl rfl ?_
    exact e_out (fun r h => h)
  · refine e_mv 52 em_463 (ce_at ce_463 31 rfl) rfl rfl ?_
    refine e_getr 55 em_463 (ce_at ce_463 32 rfl) tq_121 rfl rfl ?_
    refine e_mv 56 em_463 (ce_at ce_463 33 rfl) rfl rfl ?_
    refine e_gd fun g5 => ?_
    refine e_ild 57 em_463 (ce_at ce_463 34 rfl) tq_216 (by decide) g5 rfl ?_
    refine e_op 58 em_463 (ce_at ce_463 35 rfl) rfl rfl ?_
    refine e_gd fun g6 => ?_
    refine e_cmle 80 61 em_463 rfl rfl (ce_at ce_463 36 rfl) g6 (by decide) (fun h7 => ?_) (fun h7 => ?_)
    · refine e_iinc 83 em_463 (ce_at ce_463 51 rfl) rfl (by decide) rfl ?_
      refine e_goto em_463 39 (ce_at ce_463 52 rfl) rfl ?_
      refine e_pk [0, 1, 2] rfl rfl ?_
      exact e_out (fun r h => h)
    · refine e_mv 62 em_463 (ce_at ce_463 37 rfl) rfl rfl ?_
      refine e_getr 65 em_463 (ce_at ce_463 38 rfl) tq_121 rfl rfl ?_
      refine e_bip 67 em_463 (ce_at ce_463 39 rfl) (by decide) rfl ?_
      refine e_mv 68 em_463 (ce_at ce_463 40 rfl) rfl rfl ?_
      refine e_imul 69 em_463 rfl (ce_at ce_463 41 rfl) ?_
      refine e_mv 70 em_463 (ce_at ce_463 42 rfl) rfl rfl ?_
      refine e_getr 73 em_463 (ce_at ce_463 43 rfl) tq_121 rfl rfl ?_
      refine e_mv 74 em_463 (ce_at ce_463 44 rfl) rfl rfl ?_
      refine e_ild 75 em_463 (ce_at ce_463 45 rfl) tq_216 (by decide) g5 rfl ?_
      refine e_iadd 76 em_463 rfl (ce_at ce_463 46 rfl) ?_
      refine e_op 77 em_463 (ce_at ce_463 47 rfl) rfl rfl ?_
      refine e_isub 78 em_463 rfl (ce_at ce_463 48 rfl) ?_
      refine e_op 79 em_463 (ce_at ce_463 49 rfl) rfl rfl ?_
      refine e_gd fun g8 => ?_
      refine e_zst 80 em_463 (ce_at ce_463 50 rfl) tq_219 (by decide) g8 (by decide) rfl (fun s9 => ?_)
      refine e_iinc 83 em_463 (ce_at ce_463 51 rfl) rfl (by decide) rfl ?_
      refine e_goto em_463 39 (ce_at ce_463 52 rfl) rfl ?_
      refine e_pk [0, 1, 2] rfl rfl ?_
      exact e_out (fun r h => h)
theorem fm_checkRing_39b (v1 : Int) (v2 : Int) (s : iS) : Fm (fun r : (Int × iS) ⊕ (iS) => r.elim (fun l => l.2) (fun e => e)) L_m_checkRing G_m_checkRing s (m_checkRing_39b v1 v2 s) := fm_gd (fm_gd (fm_gd (fm_if (fm_some md_refl) (fm_gd (fm_gd (fm_if (fm_some md_refl) (fm_gd (fm_lt (md_upL (mem_L rfl)) (fun s9 => fm_some md_refl)))))))))
def m_checkRing_24C (w : ev_W) (d : Nat) : (Int × iS) ⊕ (iS) → am_E → Prop := fun q r => q.elim (fun l => ev w d 463 24 ((fun l => [(0, .ref (tb_nK + 121)), (1, iv (l.1))]) l) [] (hT ((fun l => l.2) l)) r) (fun e => (fun e r => ev w d 463 92 [(0, .ref (tb_nK + 121))] [] (hT (e)) r) e r)
noncomputable def m_checkRing_39 (v1 : Int) (v2 : Int) (s : iS) : Option ((Int × iS) ⊕ (iS)) := (lp (L := Int × iS) (E := iS) (fun l => m_checkRing_39b v1 (l.1) (l.2)) (v2, s)).bind (fun e => some (.inl ((v1 + 1), e)))
theorem tm_checkRing_39 (w : ev_W) (d : Nat) (hd : 1 ≤ d) (v1 : Int) (v2 : Int) (s : iS) : Ew hT w d 463 39 [(0, .ref (tb_nK + 121)), (1, iv v1), (2, iv v2)] [] s (m_checkRing_24C w d) (m_checkRing_39 v1 v2 s) := by
  unfold m_checkRing_39
  refine e_lp (L := Int × iS) (E := iS) (LO := fun l => [(0, .ref (tb_nK + 121)), (1, iv v1), (2, iv (l.1))]) (LS := fun l => l.2) (CE := fun e r => ev w d 463 86 [(0, .ref (tb_nK + 121)), (1, iv v1)] [] (hT (e)) r) (fun l => tm_checkRing_39b w d hd _ _ _) ?_ (v2, s)
  intro e
  show Ew hT w d 463 86 [(0, .ref (tb_nK + 121)), (1, iv v1)] [] e (m_checkRing_24C w d) _
  refine e_iinc 89 em_463 (ce_at ce_463 53 rfl) rfl (by decide) rfl ?_
  refine e_goto em_463 24 (ce_at ce_463 54 rfl) rfl ?_
  refine e_pk [0, 1] rfl rfl ?_
  exact e_out (fun r h => h)
theorem fm_checkRing_39 (v1 : Int) (v2 : Int) (s : iS) : Fm (fun r : (Int × iS) ⊕ (iS) => r.elim (fun l => l.2) (fun e => e)) L_m_checkRing G_m_checkRing s (m_checkRing_39 v1 v2 s) := by
  unfold m_checkRing_39
  refine fm_lp (A := Int × iS) (E := iS) (LS := fun l => l.2) (LE := fun e => e) ?_ ?_ (v2, s)
  · exact fun l => fm_checkRing_39b _ _ _
  · exact (fun e => fm_some md_refl)
noncomputable def m_checkRing_24b (v1 : Int) (s : iS) : Option ((Int × iS) ⊕ (iS)) := gd (rg v1) (gd (rg (s 121 122)) (if (s 121 122) ≤ v1 then some (.inr s) else gd (0 ≤ v1 ∧ v1 < 18) (m_checkRing_39 v1 (s 201 v1.toNat) s)))
theorem tm_checkRing_24b (w : ev_W) (d : Nat) (hd : 1 ≤ d) (v1 : Int) (s : iS) : Ew hT w d 463 24 [(0, .ref (tb_nK + 121)), (1, iv v1)] [] s (m_checkRing_24C w d) (m_checkRing_24b v1 s) := by
  unfold m_checkRing_24b
  refine e_mv 25 em_463 (ce_at ce_463 14 rfl) rfl rfl ?_
  refine e_mv 26 em_463 (ce_at ce_463 15 rfl) rfl rfl ?_
  refine e_get 29 em_463 (ce_at ce_463 16 rfl) tq_121 rfl rfl ?_
  refine e_gd fun g1 => ?_
  refine e_gd fun g2 => ?_
  refine e_cmge 92 32 em_463 rfl rfl (ce_at ce_463 17 rfl) g1 g2 (fun h3 => ?_) (fun h3 => ?_)
  · refine e_pk [0] rfl rfl ?_
    exact e_out (fun r h => h)
  · refine e_mv 33 em_463 (ce_at ce_463 18 rfl) rfl rfl ?_
    refine e_getr 36 em_463 (ce_at ce_463 19 rfl) tq_121 rfl rfl ?_
    refine e_mv 37 em_463 (ce_at ce_463 20 rfl) rfl rfl ?_
    refine e_gd fun g4 => ?_
    refine e_ild 38 em_463 (ce_at ce_463 21 rfl) tq_201 (by decide) g4 rfl ?_
    refine e_mv 39 em_463 (ce_at ce_463 22 rfl) rfl rfl ?_
    refine e_pk [0, 1, 2] rfl rfl ?_
    exact tm_checkRing_39 w d hd _ _ _
theorem fm_checkRing_24b (v1 : Int) (s : iS) : Fm (fun r : (Int × iS) ⊕ (iS) => r.elim (fun l => l.2) (fun e => e)) L_m_checkRing G_m_checkRing s (m_checkRing_24b v1 s) := fm_gd (fm_gd (fm_if (fm_some md_refl) (fm_gd (fm_checkRing_39 _ _ _))))
def m_checkRing_114C (w : ev_W) (d : Nat) (v1 : Int) (v2 : Int) : (Int × iS) ⊕ (iS) → am_E → Prop := fun q r => q.elim (fun l => ev w d 463 114 ((fun l => [(0, .ref (tb_nK + 121)), (1, iv v1), (2, iv v2), (3, iv (l.1))]) l) [] (hT ((fun l => l.2) l)) r) (fun e => (fun e r => ev w d 463 186 [(0, .ref (tb_nK + 121)), (1, iv v1), (2, iv v2)] [] (hT (e)) r) e r)
noncomputable def m_checkRing_179 (v1 : Int) (v2 : Int) (v3 : Int) (t0 : Int) (t1 : Int) (s : iS) : Option ((Int × iS) ⊕ (iS)) := gd (0 ≤ t1 ∧ t1 < 256) (gd (t0 = 0 ∨ t0 = 1) (lt' (up s 219 t1.toNat t0) (fun s3 => some (.inl ((v3 + 1), s3)))))
theorem tm_checkRing_179 (w : ev_W) (d : Nat) (hd : 1 ≤ d) (v1 : Int) (v2 : Int) (v3 : Int) (t0 : Int) (t1 : Int) (s : iS) : Ew hT w d 463 179 [(0, .ref (tb_nK + 121)), (1, iv v1), (2, iv v2), (3, iv v3)] [iv t0, iv t1, .ref (tb_nK + 219)] s (m_checkRing_114C w d v1 v2) (m_checkRing_179 v1 v2 v3 t0 t1 s) := by
  unfold m_checkRing_179
  refine e_gd fun g1 => ?_
  refine e_gd fun g2 => ?_
  refine e_zst 180 em_463 (ce_at ce_463 110 rfl) tq_219 (by decide) g1 g2 rfl (fun s3 => ?_)
  refine e_iinc 183 em_463 (ce_at ce_463 111 rfl) rfl (by decide) rfl ?_
  refine e_goto em_463 114 (ce_at ce_463 112 rfl) rfl ?_
  refine e_pk [0, 1, 2, 3] rfl rfl ?_
  exact e_out (fun r h => h)
theorem fm_checkRing_179 (v1 : Int) (v2 : Int) (v3 : Int) (t0 : Int) (t1 : Int) (s : iS) : Fm (fun r : (Int × iS) ⊕ (iS) => r.elim (fun l => l.2) (fun e => e)) L_m_checkRing G_m_checkRing s (m_checkRing_179 v1 v2 v3 t0 t1 s) := fm_gd (fm_gd (fm_lt (md_upL (mem_L rfl)) (fun s3 => fm_some md_refl)))
noncomputable def m_checkRing_174 (v1 : Int) (v2 : Int) (v3 : Int) (t0 : Int) (s : iS) : Option ((Int × iS) ⊕ (iS)) := m_checkRing_179 v1 v2 v3 1 t0 s
theorem tm_checkRing_174 (w : ev_W) (d : Nat) (hd : 1 ≤ d) (v1 : Int) (v2 : Int) (v3 : Int) (t0 : Int) (s : iS) : Ew hT w d 463 174 [(0, .ref (tb_nK + 121)), (1, iv v1), (2, iv v2), (3, iv v3)] [iv t0, .ref (tb_nK + 219)] s (m_checkRing_114C w d v1 v2) (m_checkRing_174 v1 v2 v3 t0 s) := by
  unfold m_checkRing_174
  refine e_op 175 em_463 (ce_at ce_463 107 rfl) rfl rfl ?_
  refine e_goto em_463 179 (ce_at ce_463 108 rfl) rfl ?_
  refine e_pk [0, 1, 2, 3] rfl rfl ?_
  exact tm_checkRing_179 w d hd _ _ _ _ _ _
theorem fm_checkRing_174 (v1 : Int) (v2 : Int) (v3 : Int) (t0 : Int) (s : iS) : Fm (fun r : (Int × iS) ⊕ (iS) => r.elim (fun l => l.2) (fun e => e)) L_m_checkRing G_m_checkRing s (m_checkRing_174 v1 v2 v3 t0 s) := fm_checkRing_179 _ _ _ _ _ _
noncomputable def m_checkRing_178 (v1 : Int) (v2 : Int) (v3 : Int) (t0 : Int) (s : iS) : Option ((Int × iS) ⊕ (iS)) := m_checkRing_179 v1 v2 v3 0 t0 s
theorem tm_checkRing_178 (w : ev_W) (d : Nat) (hd : 1 ≤ d) (v1 : Int) (v2 : Int) (v3 : Int) (t0 : Int) (s : iS) : Ew hT w d 463 178 [(0, .ref (tb_nK + 121)), (1, iv v1), (2, iv v2), (3, iv v3)] [iv t0, .ref (tb_nK + 219)] s (m_checkRing_114C w d v1 v2) (m_checkRing_178 v1 v2 v3 t0 s) := by
  unfold m_checkRing_178
  refine e_op 179 em_463 (ce_at ce_463 109 rfl) rfl rfl ?_
  refine e_pk [0, 1, 2, 3] rfl rfl ?_
  exact tm_checkRing_179 w d hd _ _ _ _ _ _
theorem fm_checkRing_178 (v1 : Int) (v2 : Int) (v3 : Int) (t0 : Int) (s : iS) : Fm (fun r : (Int × iS) ⊕ (iS) => r.elim (fun l => l.2) (fun e => e)) L_m_checkRing G_m_checkRing s (m_checkRing_178 v1 v2 v3 t0 s) := fm_checkRing_179 _ _ _ _ _ _
noncomputable def m_checkRing_114b (v1 : Int) (v2 : Int) (v3 : Int) (s : iS) : Option ((Int × iS) ⊕ (iS)) := gd (rg v3) (gd (rg (s 121 122)) (if (s 121 122) ≤ v3 then some (.inr s) else gd (0 ≤ ((16 * v2) + v3) ∧ ((16 * v2) + v3) < 256) (gd (rg (s 219 ((16 * v2) + v3).toNat)) (if (s 219 ((16 * v2) + v3).toNat) = 0 then gd (0 ≤ ((16 * v2) + v1) ∧ ((16 * v2) + v1) < 256) (gd (rg (s 219 ((16 * v2) + v1).toNat)) (if (s 219 ((16 * v2) + v1).toNat) = 0 then m_checkRing_178 v1 v2 v3 ((16 * v2) + v3) s else gd (0 ≤ ((16 * v1) + v3) ∧ ((16 * v1) + v3) < 256) (gd (rg (s 219 ((16 * v1) + v3).toNat)) (if (s 219 ((16 * v1) + v3).toNat) = 0 then m_checkRing_178 v1 v2 v3 ((16 * v2) + v3) s else m_checkRing_174 v1 v2 v3 ((16 * v2) + v3) s)))) else m_checkRing_174 v1 v2 v3 ((16 * v2) + v3) s))))
theorem tm_checkRing_114b (w : ev_W) (d : Nat) (hd : 1 ≤ d) (v1 : Int) (v2 : Int) (v3 : Int) (s : iS) : Ew hT w d 463 114 [(0, .ref (tb_nK + 121)), (1, iv v1), (2, iv v2), (3, iv v3)] [] s (m_checkRing_114C w d v1 v2) (m_checkRing_114b v1 v2 v3 s) := by
  unfold m_checkRing_114b
  refine e_mv 115 em_463 (ce_at ce_463 69 rfl) rfl rfl ?_
  refine e_mv 116 em_463 (ce_at ce_463 70 rfl) rfl rfl ?_
  refine e_get 119 em_463 (ce_at ce_463 71 rfl) tq_121 rfl rfl ?_
  refine e_gd fun g1 => ?_
  refine e_gd fun g2 => ?_
  refine e_cmge 186 122 em_463 rfl rfl (ce_at ce_463 72 rfl) g1 g2 (fun h3 => ?_) (fun h3 => ?_)
  · refine e_pk [0, 1, 2] rfl rfl ?_
    exact e_out (fun r h => h)
  · refine e_mv 123 em_463 (ce_at ce_463 73 rfl) rfl rfl ?_
    refine e_getr 126 em_463 (ce_at ce_463 74 rfl) tq_121 rfl rfl ?_
    refine e_bip 128 em_463 (ce_at ce_463 75 rfl) (by decide) rfl ?_
    refine e_mv 129 em_463 (ce_at ce_463 76 rfl) rfl rfl ?_
    refine e_imul 130 em_463 rfl (ce_at ce_463 77 rfl) ?_
    refine e_mv 131 em_463 (ce_at ce_463 78 rfl) rfl rfl ?_
    refine e_iadd 132 em_463 rfl (ce_at ce_463 79 rfl) ?_
    refine e_mv 133 em_463 (ce_at ce_463 80 rfl) rfl rfl ?_
    refine e_getr 136 em_463 (ce_at ce_463 81 rfl) tq_121 rfl rfl ?_
    refine e_bip 138 em_463 (ce_at ce_463 82 rfl) (by decide) rfl ?_
    refine e_mv 139 em_463 (ce_at ce_463 83 rfl) rfl rfl ?_
    refine e_imul 140 em_463 rfl (ce_at ce_463 84 rfl) ?_
    refine e_mv 141 em_463 (ce_at ce_463 85 rfl) rfl rfl ?_
    refine e_iadd 142 em_463 rfl (ce_at ce_463 86 rfl) ?_
    refine e_gd fun g4 => ?_
    refine e_zld 143 em_463 (ce_at ce_463 87 rfl) tq_219 (by decide) g4 rfl ?_
    refine e_gd fun g5 => ?_
    refine e_ifne 174 146 em_463 rfl rfl (ce_at ce_463 88 rfl) g5 (fun h6 => ?_) (fun h6 => ?_)
    · refine e_pk [0, 1, 2, 3] rfl rfl ?_
      exact tm_checkRing_174 w d hd _ _ _ _ _
    · refine e_mv 147 em_463 (ce_at ce_463 89 rfl) rfl rfl ?_
      refine e_getr 150 em_463 (ce_at ce_463 90 rfl) tq_121 rfl rfl ?_
      refine e_bip 152 em_463 (ce_at ce_463 91 rfl) (by decide) rfl ?_
      refine e_mv 153 em_463 (ce_at ce_463 92 rfl) rfl rfl ?_
      refine e_imul 154 em_463 rfl (ce_at ce_463 93 rfl) ?_
      refine e_mv 155 em_463 (ce_at ce_463 94 rfl) rfl rfl ?_
      refine e_iadd 156 em_463 rfl (ce_at ce_463 95 rfl) ?_
      refine e_gd fun g7 => ?_
      refine e_zld 157 em_463 (ce_at ce_463 96 rfl) tq_219 (by decide) g7 rfl ?_
      refine e_gd fun g8 => ?_
      refine e_ifeq 178 160 em_463 rfl rfl (ce_at ce_463 97 rfl) g8 (fun h9 => ?_) (fun h9 => ?_)
      · refine e_pk [0, 1, 2, 3] rfl rfl ?_
        exact tm_checkRing_178 w d hd _ _ _ _ _
      · refine e_mv 161 em_463 (ce_at ce_463 98 rfl) rfl rfl ?_
        refine e_getr 164 em_463 (ce_at ce_463 99 rfl) tq_121 rfl rfl ?_
        refine e_bip 166 em_463 (ce_at ce_463 100 rfl) (by decide) rfl ?_
        refine e_mv 167 em_463 (ce_at ce_463 101 rfl) rfl rfl ?_
        refine e_imul 168 em_463 rfl (ce_at ce_463 102 rfl) ?_
        refine e_mv 169 em_463 (ce_at ce_463 103 rfl) rfl rfl ?_
        refine e_iadd 170 em_463 rfl (ce_at ce_463 104 rfl) ?_
        refine e_gd fun g10 => ?_
        refine e_zld 171 em_463 (ce_at ce_463 105 rfl) tq_219 (by decide) g10 rfl ?_
        refine e_gd fun g11 => ?_
        refine e_ifeq 178 174 em_463 rfl rfl (ce_at ce_463 106 rfl) g11 (fun h12 => ?_) (fun h12 => ?_)
        · refine e_pk [0, 1, 2, 3] rfl rfl ?_
          exact tm_checkRing_178 w d hd _ _ _ _ _
        · refine e_pk [0, 1, 2, 3] rfl rfl ?_
          exact tm_checkRing_174 w d hd _ _ _ _ _
theorem fm_checkRing_114b (v1 : Int) (v2 : Int) (v3 : Int) (s : iS) : Fm (fun r : (Int × iS) ⊕ (iS) => r.elim (fun l => l.2) (fun e => e)) L_m_checkRing G_m_checkRing s (m_checkRing_114b v1 v2 v3 s) := fm_gd (fm_gd (fm_if (fm_some md_refl) (fm_gd (fm_gd (fm_if (fm_gd (fm_gd (fm_if (fm_checkRing_178 _ _ _ _ _) (fm_gd (fm_gd (fm_if (fm_checkRing_178 _ _ _ _ _) (fm_checkRing_174 _ _ _ _ _))))))) (fm_checkRing_174 _ _ _ _ _))))))
def m_checkRing_104C (w : ev_W) (d : Nat) (v1 : Int) : (Int × iS) ⊕ (iS) → am_E → Prop := fun q r => q.elim (fun l => ev w d 463 104 ((fun l => [(0, .ref (tb_nK + 121)), (1, iv v1), (2, iv (l.1))]) l) [] (hT ((fun l => l.2) l)) r) (fun e => (fun e r => ev w d 463 192 [(0, .ref (tb_nK + 121)), (1, iv v1)] [] (hT (e)) r) e r)
noncomputable def m_checkRing_114 (v1 : Int) (v2 : Int) (v3 : Int) (s : iS) : Option ((Int × iS) ⊕ (iS)) := (lp (L := Int × iS) (E := iS) (fun l => m_checkRing_114b v1 v2 (l.1) (l.2)) (v3, s)).bind (fun e => some (.inl ((v2 + 1), e)))
theorem tm_checkRing_114 (w : ev_W) (d : Nat) (hd : 1 ≤ d) (v1 : Int) (v2 : Int) (v3 : Int) (s : iS) : Ew hT w d 463 114 [(0, .ref (tb_nK + 121)), (1, iv v1), (2, iv v2), (3, iv v3)] [] s (m_checkRing_104C w d v1) (m_checkRing_114 v1 v2 v3 s) := by
  unfold m_checkRing_114
  refine e_lp (L := Int × iS) (E := iS) (LO := fun l => [(0, .ref (tb_nK + 121)), (1, iv v1), (2, iv v2), (3, iv (l.1))]) (LS := fun l => l.2) (CE := fun e r => ev w d 463 186 [(0, .ref (tb_nK + 121)), (1, iv v1), (2, iv v2)] [] (hT (e)) r) (fun l => tm_checkRing_114b w d hd _ _ _ _) ?_ (v3, s)
  intro e
  show Ew hT w d 463 186 [(0, .ref (tb_nK + 121)), (1, iv v1), (2, iv v2)] [] e (m_checkRing_104C w d v1) _
  refine e_iinc 189 em_463 (ce_at ce_463 113 rfl) rfl (by decide) rfl ?_
  refine e_goto em_463 104 (ce_at ce_463 114 rfl) rfl ?_
  refine e_pk [0, 1, 2] rfl rfl ?_
  exact e_out (fun r h => h)
theorem fm_checkRing_114 (v1 : Int) (v2 : Int) (v3 : Int) (s : iS) : Fm (fun r : (Int × iS) ⊕ (iS) => r.elim (fun l => l.2) (fun e => e)) L_m_checkRing G_m_checkRing s (m_checkRing_114 v1 v2 v3 s) := by
  unfold m_checkRing_114
  refine fm_lp (A := Int × iS) (E := iS) (LS := fun l => l.2) (LE := fun e => e) ?_ ?_ (v3, s)
  · exact fun l => fm_checkRing_114b _ _ _ _
  · exact (fun e => fm_some md_refl)
noncomputable def m_checkRing_104b (v1 : Int) (v2 : Int) (s : iS) : Option ((Int × iS) ⊕ (iS)) := gd (rg v2) (gd (rg (s 121 122)) (if (s 121 122) ≤ v2 then some (.inr s) else m_checkRing_114 v1 v2 0 s))
theorem tm_checkRing_104b (w : ev_W) (d : Nat) (hd : 1 ≤ d) (v1 : Int) (v2 : Int) (s : iS) : Ew hT w d 463 104 [(0, .ref (tb_nK + 121)), (1, iv v1), (2, iv v2)] [] s (m_checkRing_104C w d v1) (m_checkRing_104b v1 v2 s) := by
  unfold m_checkRing_104b
  refine e_mv 105 em_463 (ce_at ce_463 63 rfl) rfl rfl ?_
  refine e_mv 106 em_463 (ce_at ce_463 64 rfl) rfl rfl ?_
  refine e_get 109 em_463 (ce_at ce_463 65 rfl) tq_121 rfl rfl ?_
  refine e_gd fun g1 => ?_
  refine e_gd fun g2 => ?_
  refine e_cmge 192 112 em_463 rfl rfl (ce_at ce_463 66 rfl) g1 g2 (fun h3 => ?_) (fun h3 => ?_)
  · refine e_pk [0, 1] rfl rfl ?_
    exact e_out (fun r h => h)
  · refine e_op 113 em_463 (ce_at ce_463 67 rfl) rfl rfl ?_
    refine e_mv 114 em_463 (ce_at ce_463 68 rfl) rfl rfl ?_
    refine e_pk [0, 1, 2, 3] rfl rfl ?_
    exact tm_checkRing_114 w d hd _ _ _ _
theorem fm_checkRing_104b (v1 : Int) (v2 : Int) (s : iS) : Fm (fun r : (Int × iS) ⊕ (iS) => r.elim (fun l => l.2) (fun e => e)) L_m_checkRing G_m_checkRing s (m_checkRing_104b v1 v2 s) := fm_gd (fm_gd (fm_if (fm_some md_refl) (fm_checkRing_114 _ _ _ _)))
def m_checkRing_94C (w : ev_W) (d : Nat) : (Int × iS) ⊕ (iS) → am_E → Prop := fun q r => q.elim (fun l => ev w d 463 94 ((fun l => [(0, .ref (tb_nK + 121)), (1, iv (l.1))]) l) [] (hT ((fun l => l.2) l)) r) (fun e => (fun e r => ev w d 463 198 [(0, .ref (tb_nK + 121))] [] (hT (e)) r) e r)
noncomputable def m_checkRing_104 (v1 : Int) (v2 : Int) (s : iS) : Option ((Int × iS) ⊕ (iS)) := (lp (L := Int × iS) (E := iS) (fun l => m_checkRing_104b v1 (l.1) (l.2)) (v2, s)).bind (fun e => some (.inl ((v1 + 1), e)))
theorem tm_checkRing_104 (w : ev_W) (d : Nat) (hd : 1 ≤ d) (v1 : Int) (v2 : Int) (s : iS) : Ew hT w d 463 104 [(0, .ref (tb_nK + 121)), (1, iv v1), (2, iv v2)] [] s (m_checkRing_94C w d) (m_checkRing_104 v1 v2 s) := by
  unfold m_checkRing_104
  refine e_lp (L := Int × iS) (E := iS) (LO := fun l => [(0, .ref (tb_nK + 121)), (1, iv v1), (2, iv (l.1))]) (LS := fun l => l.2) (CE := fun e r => ev w d 463 192 [(0, .ref (tb_nK + 121)), (1, iv v1)] [] (hT (e)) r) (fun l => tm_checkRing_104b w d hd _ _ _) ?_ (v2, s)
  intro e
  show Ew hT w d 463 192 [(0, .ref (tb_nK + 121)), (1, iv v1)] [] e (m_checkRing_94C w d) _
  refine e_iinc 195 em_463 (ce_at ce_463 115 rfl) rfl (by decide) rfl ?_
  refine e_goto em_463 94 (ce_at ce_463 116 rfl) rfl ?_
  refine e_pk [0, 1] rfl rfl ?_
  exact e_out (fun r h => h)
theorem fm_checkRing_104 (v1 : Int) (v2 : Int) (s : iS) : Fm (fun r : (Int × iS) ⊕ (iS) => r.elim (fun l => l.2) (fun e => e)) L_m_checkRing G_m_checkRing s (m_checkRing_104 v1 v2 s) := by
  unfold m_checkRing_104
  refine fm_lp (A := Int × iS) (E := iS) (LS := fun l => l.2) (LE := fun e => e) ?_ ?_ (v2, s)
  · exact fun l => fm_checkRing_104b _ _ _
  · exact (fun e => fm_some md_refl)
noncomputable def m_checkRing_94b (v1 : Int) (s : iS) : Option ((Int × iS) ⊕ (iS)) := gd (rg v1) (gd (rg (s 121 122)) (if (s 121 122) ≤ v1 then some (.inr s) else m_checkRing_104 v1 0 s))
theorem tm_checkRing_94b (w : ev_W) (d : Nat) (hd : 1 ≤ d) (v1 : Int) (s : iS) : Ew hT w d 463 94 [(0, .ref (tb_nK + 121)), (1, iv v1)] [] s (m_checkRing_94C w d) (m_checkRing_94b v1 s) := by
  unfold m_checkRing_94b
  refine e_mv 95 em_463 (ce_at ce_463 57 rfl) rfl rfl ?_
  refine e_mv 96 em_463 (ce_at ce_463 58 rfl) rfl rfl ?_
  refine e_get 99 em_463 (ce_at ce_463 59 rfl) tq_121 rfl rfl ?_
  refine e_gd fun g1 => ?_
  refine e_gd fun g2 => ?_
  refine e_cmge 198 102 em_463 rfl rfl (ce_at ce_463 60 rfl) g1 g2 (fun h3 => ?_) (fun h3 => ?_)
  · refine e_pk [0] rfl rfl ?_
    exact e_out (fun r h => h)
  · refine e_op 103 em_463 (ce_at ce_463 61 rfl) rfl rfl ?_
    refine e_mv 104 em_463 (ce_at ce_463 62 rfl) rfl rfl ?_
    refine e_pk [0, 1, 2] rfl rfl ?_
    exact tm_checkRing_104 w d hd _ _ _
theorem fm_checkRing_94b (v1 : Int) (s : iS) : Fm (fun r : (Int × iS) ⊕ (iS) => r.elim (fun l => l.2) (fun e => e)) L_m_checkRing G_m_checkRing s (m_checkRing_94b v1 s) := fm_gd (fm_gd (fm_if (fm_some md_refl) (fm_checkRing_104 _ _ _)))
def m_checkRing_200C (w : ev_W) (d : Nat) : (Int × iS) ⊕ (iS) → am_E → Prop := fun q r => q.elim (fun l => ev w d 463 200 ((fun l => [(0, .ref (tb_nK + 121)), (1, iv (l.1))]) l) [] (hT ((fun l => l.2) l)) r) (fun e => (fun e r => ev w d 463 238 [] [] (hT (e)) r) e r)
noncomputable def m_checkRing_200b (v1 : Int) (s : iS) : Option ((Int × iS) ⊕ (iS)) := gd (rg v1) (gd (rg (s 121 122)) (if (s 121 122) ≤ v1 then some (.inr s) else gd (0 ≤ (17 * v1) ∧ (17 * v1) < 256) (gd (rg (s 219 (17 * v1).toNat)) (if (s 219 (17 * v1).toNat) = 0 then some (.inl ((v1 + 1), s)) else gd (0 ≤ v1 ∧ v1 < 17) (bd (m_note 6 (s 195 v1.toNat) s) (fun _ s8 => some (.inl ((v1 + 1), s8))))))))
theorem tm_checkRing_200b (w : ev_W) (d : Nat) (hd : 1 ≤ d) (v1 : Int) (s : iS) : Ew hT w d 463 200 [(0, .ref (tb_nK + 121)), (1, iv v1)] [] s (m_checkRing_200C w d) (m_checkRing_200b v1 s) := by
  unfold m_checkRing_200b
  refine e_mv 201 em_463 (ce_at ce_463 119 rfl) rfl rfl ?_
  refine e_mv 202 em_463 (ce_at ce_463 120 rfl) rfl rfl ?_
  refine e_get 205 em_463 (ce_at ce_463 121 rfl) tq_121 rfl rfl ?_
  refine e_gd fun g1 => ?_
  refine e_gd fun g2 => ?_
  refine e_cmge 238 208 em_463 rfl rfl (ce_at ce_463 122 rfl) g1 g2 (fun h3 => ?_) (fun h3 => ?_)
  · refine e_pk [] rfl rfl ?_
    exact e_out (fun r h => h)
  · refine e_mv 209 em_463 (ce_at ce_463 123 rfl) rfl rfl ?_
    refine e_getr 212 em_463 (ce_at ce_463 124 rfl) tq_121 rfl rfl ?_
    refine e_bip 214 em_463 (ce_at ce_463 125 rfl) (by decide) rfl ?_
    refine e_mv 215 em_463 (ce_at ce_463 126 rfl) rfl rfl ?_
    refine e_imul 216 em_463 rfl (ce_at ce_463 127 rfl) ?_
    refine e_gd fun g4 => ?_
    refine e_zld 217 em_463 (ce_at ce_463 128 rfl) tq_219 (by decide) g4 rfl ?_
    refine e_gd fun g5 => ?_
    refine e_ifeq 232 220 em_463 rfl rfl (ce_at ce_463 129 rfl) g5 (fun h6 => ?_) (fun h6 => ?_)
    · refine e_iinc 235 em_463 (ce_at ce_463 137 rfl) rfl (by decide) rfl ?_
      refine e_goto em_463 200 (ce_at ce_463 138 rfl) rfl ?_
      refine e_pk [0, 1] rfl rfl ?_
      exact e_out (fun r h => h)
    · refine e_mv 221 em_463 (ce_at ce_463 130 rfl) rfl rfl ?_
      refine e_bip 223 em_463 (ce_at ce_463 131 rfl) (by decide) rfl ?_
      refine e_mv 224 em_463 (ce_at ce_463 132 rfl) rfl rfl ?_
      refine e_getr 227 em_463 (ce_at ce_463 133 rfl) tq_121 rfl rfl ?_
      refine e_mv 228 em_463 (ce_at ce_463 134 rfl) rfl rfl ?_
      refine e_gd fun g7 => ?_
      refine e_ild 229 em_463 (ce_at ce_463 135 rfl) tq_195 (by decide) g7 rfl ?_
      refine e_ivv 232 em_463 (ce_at ce_463 136 rfl) (by omega) (iv_v2 (by decide) tq_121 rfl) em_351 (Nat.le_of_ble_eq_true rfl) rfl (tm_note w (d - 1) (by omega) _ _ _) (fun r8 s8 => ?_)
      refine e_iinc 235 em_463 (ce_at ce_463 137 rfl) rfl (by decide) rfl ?_
      refine e_goto em_463 200 (ce_at ce_463 138 rfl) rfl ?_
      refine e_pk [0, 1] rfl rfl ?_
      exact e_out (fun r h => h)
theorem fm_checkRing_200b (v1 : Int) (s : iS) : Fm (fun r : (Int × iS) ⊕ (iS) => r.elim (fun l => l.2) (fun e => e)) L_m_checkRing G_m_checkRing s (m_checkRing_200b v1 s) := fm_gd (fm_gd (fm_if (fm_some md_refl) (fm_gd (fm_gd (fm_if (fm_some md_refl) (fm_gd (fm_bd (fm_sub (fm_note _ _ _) (mem_sub_L rfl) (mem_sub_F rfl)) (fun r8 s8 => fm_some md_refl))))))))
noncomputable def m_checkRing_200 (v1 : Int) (s : iS) : Option (Int × iS) := (lp (L := Int × iS) (E := iS) (fun l => m_checkRing_200b (l.1) (l.2)) (v1, s)).bind (fun e => some (0, e))
theorem tm_checkRing_200 (w : ev_W) (d : Nat) (hd : 1 ≤ d) (v1 : Int) (s : iS) : Ew hT w d 463 200 [(0, .ref (tb_nK + 121)), (1, iv v1)] [] s (Cv hT) (m_checkRing_200 v1 s) := by
  unfold m_checkRing_200
  refine e_lp (L := Int × iS) (E := iS) (LO := fun l => [(0, .ref (tb_nK + 121)), (1, iv (l.1))]) (LS := fun l => l.2) (CE := fun e r => ev w d 463 238 [] [] (hT (e)) r) (fun l => tm_checkRing_200b w d hd _ _) ?_ (v1, s)
  intro e
  show Ew hT w d 463 238 [] [] e (Cv hT) _
  exact e_retv em_463 (ce_at ce_463 139 rfl)
theorem fm_checkRing_200 (v1 : Int) (s : iS) : Fm Prod.snd L_m_checkRing G_m_checkRing s (m_checkRing_200 v1 s) := by
  unfold m_checkRing_200
  refine fm_lp (A := Int × iS) (E := iS) (LS := fun l => l.2) (LE := fun e => e) ?_ ?_ (v1, s)
  · exact fun l => fm_checkRing_200b _ _
  · exact (fun e => fm_some md_refl)
noncomputable def m_checkRing_198 (s : iS) : Option (Int × iS) := m_checkRing_200 0 s
theorem tm_checkRing_198 (w : ev_W) (d : Nat) (hd : 1 ≤ d) (s : iS) : Ew hT w d 463 198 [(0, .ref (tb_nK + 121))] [] s (Cv hT) (m_checkRing_198 s) := by
  unfold m_checkRing_198
  refine e_op 199 em_463 (ce_at ce_463 117 rfl) rfl rfl ?_
  refine e_mv 200 em_463 (ce_at ce_463 118 rfl) rfl rfl ?_
  refine e_pk [0, 1] rfl rfl ?_
  exact tm_checkRing_200 w d hd _ _
theorem fm_checkRing_198 (s : iS) : Fm Prod.snd L_m_checkRing G_m_checkRing s (m_checkRing_198 s) := fm_checkRing_200 _ _
noncomputable def m_checkRing_94 (v1 : Int) (s : iS) : Option (Int × iS) := (lp (L := Int × iS) (E := iS) (fun l => m_checkRing_94b (l.1) (l.2)) (v1, s)).bind (fun e => m_checkRing_198 e)
theorem tm_checkRing_94 (w : ev_W) (d : Nat) (hd : 1 ≤ d) (v1 : Int) (s : iS) : Ew hT w d 463 94 [(0, .ref (tb_nK + 121)), (1, iv v1)] [] s (Cv hT) (m_checkRing_94 v1 s) := by
  unfold m_checkRing_94
  refine e_lp (L := Int × iS) (E := iS) (LO := fun l => [(0, .ref (tb_nK + 121)), (1, iv (l.1))]) (LS := fun l => l.2) (CE := fun e r => ev w d 463 198 [(0, .ref (tb_nK + 121))] [] (hT (e)) r) (fun l => tm_checkRing_94b w d hd _ _) ?_ (v1, s)
  intro e
  show Ew hT w d 463 198 [(0, .ref (tb_nK + 121))] [] e (Cv hT) _
  refine e_pk [0] rfl rfl ?_
  exact tm_checkRing_198 w d hd _
theorem fm_checkRing_94 (v1 : Int) (s : iS) : Fm Prod.snd L_m_checkRing G_m_checkRing s (m_checkRing_94 v1 s) := by
  unfold m_checkRing_94
  refine fm_lp (A := Int × iS) (E := iS) (LS := fun l => l.2) (LE := fun e => e) ?_ ?_ (v1, s)
  · exact fun l => fm_checkRing_94b _ _
  · exact (fun e => fm_checkRing_198 _)
noncomputable def m_checkRing_92 (s : iS) : Option (Int × iS) := m_checkRing_94 0 s
theorem tm_checkRing_92 (w : ev_W) (d : Nat) (hd : 1 ≤ d) (s : iS) : Ew hT w d 463 92 [(0, .ref (tb_nK + 121))] [] s (Cv hT) (m_checkRing_92 s) := by
  unfold m_checkRing_92
  refine e_op 93 em_463 (ce_at ce_463 55 rfl) rfl rfl ?_
  refine e_mv 94 em_463 (ce_at ce_463 56 rfl) rfl rfl ?_
  refine e_pk [0, 1] rfl rfl ?_
  exact tm_checkRing_94 w d hd _ _
theorem fm_checkRing_92 (s : iS) : Fm Prod.snd L_m_checkRing G_m_checkRing s (m_checkRing_92 s) := fm_checkRing_94 _ _
noncomputable def m_checkRing_24 (v1 : Int) (s : iS) : Option (Int × iS) := (lp (L := Int × iS) (E := iS) (fun l => m_checkRing_24b (l.1) (l.2)) (v1, s)).bind (fun e => m_checkRing_92 e)
theorem tm_checkRing_24 (w : ev_W) (d : Nat) (hd : 1 ≤ d) (v1 : Int) (s : iS) : Ew hT w d 463 24 [(0, .ref (tb_nK + 121)), (1, iv v1)] [] s (Cv hT) (m_checkRing_24 v1 s) := by
  unfold m_checkRing_24
  refine e_lp (L := Int × iS) (E := iS) (LO := fun l => [(0, .ref (tb_nK + 121)), (1, iv (l.1))]) (LS := fun l => l.2) (CE := fun e r => ev w d 463 92 [(0, .ref (tb_nK + 121))] [] (hT (e)) r) (fun l => tm_checkRing_24b w d hd _ _) ?_ (v1, s)
  intro e
  show Ew hT w d 463 92 [(0, .ref (tb_nK + 121))] [] e (Cv hT) _
  refine e_pk [0] rfl rfl ?_
  exact tm_checkRing_92 w d hd _
theorem fm_checkRing_24 (v1 : Int) (s : iS) : Fm Prod.snd L_m_checkRing G_m_checkRing s (m_checkRing_24 v1 s) := by
  unfold m_checkRing_24
  refine fm_lp (A := Int × iS) (E := iS) (LS := fun l => l.2) (LE := fun e => e) ?_ ?_ (v1, s)
  · exact fun l => fm_checkRing_24b _ _
  · exact (fun e => fm_checkRing_92 _)
noncomputable def m_checkRing_22 (s : iS) : Option (Int × iS) := m_checkRing_24 0 s
theorem tm_checkRing_22 (w : ev_W) (d : Nat) (hd : 1 ≤ d) (s : iS) : Ew hT w d 463 22 [(0, .ref (tb_nK + 121))] [] s (Cv hT) (m_checkRing_22 s) := by
  unfold m_checkRing_22
  refine e_op 23 em_463 (ce_at ce_463 12 rfl) rfl rfl ?_
  refine e_mv 24 em_463 (ce_at ce_463 13 rfl) rfl rfl ?_
  refine e_pk [0, 1] rfl rfl ?_
  exact tm_checkRing_24 w d hd _ _
theorem fm_checkRing_22 (s : iS) : Fm Prod.snd L_m_checkRing G_m_checkRing s (m_checkRing_22 s) := fm_checkRing_24 _ _
noncomputable def m_checkRing_2 (v1 : Int) (s : iS) : Option (Int × iS) := (lp (L := Int × iS) (E := iS) (fun l => m_checkRing_2b (l.1) (l.2)) (v1, s)).bind (fun e => m_checkRing_22 e)
theorem tm_checkRing_2 (w : ev_W) (d : Nat) (hd : 1 ≤ d) (v1 : Int) (s : iS) : Ew hT w d 463 2 [(0, .ref (tb_nK + 121)), (1, iv v1)] [] s (Cv hT) (m_checkRing_2 v1 s) := by
  unfold m_checkRing_2
  refine e_lp (L := Int × iS) (E := iS) (LO := fun l => [(0, .ref (tb_nK + 121)), (1, iv (l.1))]) (LS := fun l => l.2) (CE := fun e r => ev w d 463 22 [(0, .ref (tb_nK + 121))] [] (hT (e)) r) (fun l => tm_checkRing_2b w d hd _ _) ?_ (v1, s)
  intro e
  show Ew hT w d 463 22 [(0, .ref (tb_nK + 121))] [] e (Cv hT) _
  refine e_pk [0] rfl rfl ?_
  exact tm_checkRing_22 w d hd _
theorem fm_checkRing_2 (v1 : Int) (s : iS) : Fm Prod.snd L_m_checkRing G_m_checkRing s (m_checkRing_2 v1 s) := by
  unfold m_checkRing_2
  refine fm_lp (A := Int × iS) (E := iS) (LS := fun l => l.2) (LE := fun e => e) ?_ ?_ (v1, s)
  · exact fun l => fm_checkRing_2b _ _
  · exact (fun e => fm_checkRing_22 _)
noncomputable def m_checkRing (s : iS) : Option (Int × iS) := m_checkRing_2 0 s
theorem tm_checkRing (w : ev_W) (d : Nat) (hd : 1 ≤ d) (s : iS) : Ew hT w d 463 0 [(0, .ref (tb_nK + 121))] [] s (Cv hT) (m_checkRing s) := by
  unfold m_checkRing
  refine e_op 1 em_463 (ce_at ce_463 0 rfl) rfl rfl ?_
  refine e_mv 2 em_463 (ce_at ce_463 1 rfl) rfl rfl ?_
  refine e_pk [0, 1] rfl rfl ?_
  exact tm_checkRing_2 w d hd _ _
theorem fm_checkRing (s : iS) : Fm Prod.snd L_m_checkRing G_m_checkRing s (m_checkRing s) := fm_checkRing_2 _ _
/-! m_chips -/
def L_m_chips : List Nat := [123, 124, 125, 126, 127, 195, 196, 197, 198, 199, 200, 201, 202, 203, 204, 205, 206, 207, 208, 209, 210, 211, 212, 213, 214, 215, 216, 217, 218, 219, 220, 221, 222, 223, 224, 225, 226, 227, 228, 229, 230, 231, 232]
def G_m_chips : List (Nat × Nat) := [(121, 1), (121, 3), (121, 4), (121, 9), (121, 10), (121, 11), (121, 12), (121, 69), (121, 70), (121, 122), (121, 125), (121, 131), (121, 134), (121, 144), (121, 148), (121, 149), (121, 150), (121, 152), (121, 158), (121, 161), (121, 166), (121, 170), (121, 173), (121, 174)]
def m_chips_58C (w : ev_W) (d : Nat) : (Int × iS) ⊕ (iS) → am_E → Prop := fun q r => q.elim (fun l => ev w d 442 58 ((fun l => [(0, .ref (tb_nK + 121)), (2, iv (l.1))]) l) [] (hT ((fun l => l.2) l)) r) (fun e => (fun e r => ev w d 442 82 [(0, .ref (tb_nK + 121))] [] (hT (e)) r) e r)
noncomputable def m_chips_58b (v2 : Int) (s : iS) : Option ((Int × iS) ⊕ (iS)) := gd (rg v2) (gd (rg (s 121 122)) (if (s 121 122) ≤ v2 then some (.inr s) else bd (m_findInner v2 s) (fun _ s4 => bd (m_checkLinks v2 s4) (fun _ s5 => some (.inl ((v2 + 1), s5))))))
theorem tm_chips_58b (w : ev_W) (d : Nat) (hd : 8 ≤ d) (v2 : Int) (s : iS) : Ew hT w d 442 58 [(0, .ref (tb_nK + 121)), (2, iv v2)] [] s (m_chips_58C w d) (m_chips_58b v2 s) := by
  unfold m_chips_58b
  refine e_mv 59 em_442 (ce_at ce_442 32 rfl) rfl rfl ?_
  refine e_mv 60 em_442 (ce_at ce_442 33 rfl) rfl rfl ?_
  refine e_get 63 em_442 (ce_at ce_442 34 rfl) tq_121 rfl rfl ?_
  refine e_gd fun g1 => ?_
  refine e_gd fun g2 => ?_
  refine e_cmge 82 66 em_442 rfl rfl (ce_at ce_442 35 rfl) g1 g2 (fun h3 => ?_) (fun h3 => ?_)
  · refine e_pk [0] rfl rfl ?_
    exact e_out (fun r h => h)
  · refine e_mv 67 em_442 (ce_at ce_442 36 rfl) rfl rfl ?_
    refine e_mv 68 em_442 (ce_at ce_442 37 rfl) rfl rfl ?_
    refine e_ivv 71 em_442 (ce_at ce_442 38 rfl) (by omega) (iv_v1 (by decide) tq_121 rfl) em_454 (Nat.le_of_ble_eq_true rfl) rfl (tm_findInner w (d - 1) (by omega) _ _) (fun r4 s4 => ?_)
    refine e_mv 72 em_442 (ce_at ce_442 39 rfl) rfl rfl ?_
    refine e_mv 73 em_442 (ce_at ce_442 40 rfl) rfl rfl ?_
    refine e_ivv 76 em_442 (ce_at ce_442 41 rfl) (by omega) (iv_v1 (by decide) tq_121 rfl) em_461 (Nat.le_of_ble_eq_true rfl) rfl (tm_checkLinks w (d - 1) (by omega) _ _) (fun r5 s5 => ?_)
    refine e_iinc 79 em_442 (ce_at ce_442 42 rfl) rfl (by decide) rfl ?_
    refine e_goto em_442 58 (ce_at ce_442 43 rfl) rfl ?_
    refine e_pk [0, 2] rfl rfl ?_
    exact e_out (fun r h => h)
theorem fm_chips_58b (v2 : Int) (s : iS) : Fm (fun r : (Int × iS) ⊕ (iS) => r.elim (fun l => l.2) (fun e => e)) L_m_chips G_m_chips s (m_chips_58b v2 s) := fm_gd (fm_gd (fm_if (fm_some md_refl) (fm_bd (fm_sub (fm_findInner _ _) (mem_sub_L rfl) (mem_sub_F rfl)) (fun r4 s4 => fm_bd (fm_sub (fm_checkLinks _ _) (mem_sub_L rfl) (mem_sub_F rfl)) (fun r5 s5 => fm_some md_refl)))))
def m_chips_222C (w : ev_W) (d : Nat) : (Int × iS) ⊕ (iS) → am_E → Prop := fun q r => q.elim (fun l => ev w d 442 222 ((fun l => [(0, .ref (tb_nK + 121)), (2, iv (l.1))]) l) [] (hT ((fun l => l.2) l)) r) (fun e => (fun e r => ev w d 442 243 [(0, .ref (tb_nK + 121))] [] (hT (e)) r) e r)
noncomputable def m_chips_222b (v2 : Int) (s : iS) : Option ((Int × iS) ⊕ (iS)) := gd (rg v2) (gd (rg (s 121 158)) (if (s 121 158) ≤ v2 then some (.inr s) else gd (0 ≤ v2 ∧ v2 < 40000) (lt' (up s 230 v2.toNat 0) (fun s5 => some (.inl ((v2 + 1), s5))))))
theorem tm_chips_222b (w : ev_W) (d : Nat) (hd : 8 ≤ d) (v2 : Int) (s : iS) : Ew hT w d 442 222 [(0, .ref (tb_nK + 121)), (2, iv v2)] [] s (m_chips_222C w d) (m_chips_222b v2 s) := by
  unfold m_chips_222b
  refine e_mv 223 em_442 (ce_at ce_442 117 rfl) rfl rfl ?_
  refine e_mv 224 em_442 (ce_at ce_442 118 rfl) rfl rfl ?_
  refine e_get 227 em_442 (ce_at ce_442 119 rfl) tq_121 rfl rfl ?_
  refine e_gd fun g1 => ?_
  refine e_gd fun g2 => ?_
  refine e_cmge 243 230 em_442 rfl rfl (ce_at ce_442 120 rfl) g1 g2 (fun h3 => ?_) (fun h3 => ?_)
  · refine e_pk [0] rfl rfl ?_
    exact e_out (fun r h => h)
  · refine e_mv 231 em_442 (ce_at ce_442 121 rfl) rfl rfl ?_
    refine e_getr 234 em_442 (ce_at ce_442 122 rfl) tq_121 rfl rfl ?_
    refine e_mv 235 em_442 (ce_at ce_442 123 rfl) rfl rfl ?_
    refine e_op 236 em_442 (ce_at ce_442 124 rfl) rfl rfl ?_
    refine e_gd fun g4 => ?_
    refine e_ist 237 em_442 (ce_at ce_442 125 rfl) tq_230 (by decide) g4 rfl (fun s5 => ?_)
    refine e_iinc 240 em_442 (ce_at ce_442 126 rfl) rfl (by decide) rfl ?_
    refine e_goto em_442 222 (ce_at ce_442 127 rfl) rfl ?_
    refine e_pk [0, 2] rfl rfl ?_
    exact e_out (fun r h => h)
theorem fm_chips_222b (v2 : Int) (s : iS) : Fm (fun r : (Int × iS) ⊕ (iS) => r.elim (fun l => l.2) (fun e => e)) L_m_chips G_m_chips s (m_chips_222b v2 s) := fm_gd (fm_gd (fm_if (fm_some md_refl) (fm_gd (fm_lt (md_upL (mem_L rfl)) (fun s5 => fm_some md_refl)))))
noncomputable def m_chips_243 (s : iS) : Option (Int × iS) := bd (m_settle s) (fun _ s1 => some (0, s1))
theorem tm_chips_243 (w : ev_W) (d : Nat) (hd : 8 ≤ d) (s : iS) : Ew hT w d 442 243 [(0, .ref (tb_nK + 121))] [] s (Ci hT) (m_chips_243 s) := by
  unfold m_chips_243
  refine e_mv 244 em_442 (ce_at ce_442 128 rfl) rfl rfl ?_
  refine e_ivv 247 em_442 (ce_at ce_442 129 rfl) (by omega) (iv_v0 (by decide) tq_121 rfl) em_476 (Nat.le_of_ble_eq_true rfl) rfl (tm_settle w (d - 1) (by omega) _) (fun r1 s1 => ?_)
  refine e_op 248 em_442 (ce_at ce_442 130 rfl) rfl rfl ?_
  exact e_reti em_442 (ce_at ce_442 131 rfl)
theorem fm_chips_243 (s : iS) : Fm Prod.snd L_m_chips G_m_chips s (m_chips_243 s) := fm_bd (fm_sub (fm_settle _) (mem_sub_L rfl) (mem_sub_F rfl)) (fun r1 s1 => fm_some md_refl)
noncomputable def m_chips_222 (v2 : Int) (s : iS) : Option (Int × iS) := (lp (L := Int × iS) (E := iS) (fun l => m_chips_222b (l.1) (l.2)) (v2, s)).bind (fun e => m_chips_243 e)
theorem tm_chips_222 (w : ev_W) (d : Nat) (hd : 8 ≤ d) (v2 : Int) (s : iS) : Ew hT w d 442 222 [(0, .ref (tb_nK + 121)), (2, iv v2)] [] s (Ci hT) (m_chips_222 v2 s) := by
  unfold m_chips_222
  refine e_lp (L := Int × iS) (E := iS) (LO := fun l => [(0, .ref (tb_nK + 121)), (2, iv (l.1))]) (LS := fun l => l.2) (CE := fun e r => ev w d 442 243 [(0, .ref (tb_nK + 121))] [] (hT (e)) r) (fun l => tm_chips_222b w d hd _ _) ?_ (v2, s)
  intro e
  show Ew hT w d 442 243 [(0, .ref (tb_nK + 121))] [] e (Ci hT) _
  refine e_pk [0] rfl rfl ?_
  exact tm_chips_243 w d hd _
theorem fm_chips_222 (v2 : Int) (s : iS) : Fm Prod.snd L_m_chips G_m_chips s (m_chips_222 v2 s) := by
  unfold m_chips_222
  refine fm_lp (A := Int × iS) (E := iS) (LS := fun l => l.2) (LE := fun e => e) ?_ ?_ (v2, s)
  · exact fun l => fm_chips_222b _ _
  · exact (fun e => fm_chips_243 _)
noncomputable def m_chips_185 (s : iS) : Option (Int × iS) := lt' (up s 121 4 (s 121 70)) (fun s1 => gd (rg (s1 121 69)) (if (s1 121 69) ≤ 0 then lt' (up s1 121 4 (-1)) (fun s4 => lt' (up s4 121 152 1) (fun s5 => lt' (up s5 121 173 0) (fun s6 => m_chips_222 0 s6))) else some ((s1 121 69), s1)))
theorem tm_chips_185 (w : ev_W) (d : Nat) (hd : 8 ≤ d) (s : iS) : Ew hT w d 442 185 [(0, .ref (tb_nK + 121))] [] s (Ci hT) (m_chips_185 s) := by
  unfold m_chips_185
  refine e_mv 186 em_442 (ce_at ce_442 96 rfl) rfl rfl ?_
  refine e_mv 187 em_442 (ce_at ce_442 97 rfl) rfl rfl ?_
  refine e_get 190 em_442 (ce_at ce_442 98 rfl) tq_121 rfl rfl ?_
  refine e_put 193 em_442 (ce_at ce_442 99 rfl) tq_121 rfl rfl rfl (fun s1 => ?_)
  refine e_mv 194 em_442 (ce_at ce_442 100 rfl) rfl rfl ?_
  refine e_get 197 em_442 (ce_at ce_442 101 rfl) tq_121 rfl rfl ?_
  refine e_gd fun g2 => ?_
  refine e_ifle 205 200 em_442 rfl rfl (ce_at ce_442 102 rfl) g2 (fun h3 => ?_) (fun h3 => ?_)
  · refine e_mv 206 em_442 (ce_at ce_442 106 rfl) rfl rfl ?_
    refine e_op 207 em_442 (ce_at ce_442 107 rfl) rfl rfl ?_
    refine e_put 210 em_442 (ce_at ce_442 108 rfl) tq_121 rfl rfl rfl (fun s4 => ?_)
    refine e_mv 211 em_442 (ce_at ce_442 109 rfl) rfl rfl ?_
    refine e_op 212 em_442 (ce_at ce_442 110 rfl) rfl rfl ?_
    refine e_put 215 em_442 (ce_at ce_442 111 rfl) tq_121 rfl rfl rfl (fun s5 => ?_)
    refine e_mv 216 em_442 (ce_at ce_442 112 rfl) rfl rfl ?_
    refine e_op 217 em_442 (ce_at ce_442 113 rfl) rfl rfl ?_
    refine e_put 220 em_442 (ce_at ce_442 114 rfl) tq_121 rfl rfl rfl (fun s6 => ?_)
    refine e_op 221 em_442 (ce_at ce_442 115 rfl) rfl rfl ?_
    refine e_mv 222 em_442 (ce_at ce_442 116 rfl) rfl rfl ?_
    refine e_pk [0, 2] rfl rfl ?_
    exact tm_chips_222 w d hd _ _
  · refine e_mv 201 em_442 (ce_at ce_442 103 rfl) rfl rfl ?_
    refine e_get 204 em_442 (ce_at ce_442 104 rfl) tq_121 rfl rfl ?_
    exact e_reti em_442 (ce_at ce_442 105 rfl)
theorem fm_chips_185 (s : iS) : Fm Prod.snd L_m_chips G_m_chips s (m_chips_185 s) := fm_lt (md_upF (mem_F rfl)) (fun s1 => fm_gd (fm_if (fm_lt (md_upF (mem_F rfl)) (fun s4 => fm_lt (md_upF (mem_F rfl)) (fun s5 => fm_lt (md_upF (mem_F rfl)) (fun s6 => fm_chips_222 _ _)))) (fm_some md_refl)))
noncomputable def m_chips_171 (s : iS) : Option (Int × iS) := lt' (up s 121 69 6) (fun s1 => lt' (up s1 121 70 (s1 121 3)) (fun s2 => m_chips_185 s2))
theorem tm_chips_171 (w : ev_W) (d : Nat) (hd : 8 ≤ d) (s : iS) : Ew hT w d 442 171 [(0, .ref (tb_nK + 121))] [] s (Ci hT) (m_chips_171 s) := by
  unfold m_chips_171
  refine e_mv 172 em_442 (ce_at ce_442 89 rfl) rfl rfl ?_
  refine e_bip 174 em_442 (ce_at ce_442 90 rfl) (by decide) rfl ?_
  refine e_put 177 em_442 (ce_at ce_442 91 rfl) tq_121 rfl rfl rfl (fun s1 => ?_)
  refine e_mv 178 em_442 (ce_at ce_442 92 rfl) rfl rfl ?_
  refine e_mv 179 em_442 (ce_at ce_442 93 rfl) rfl rfl ?_
  refine e_get 182 em_442 (ce_at ce_442 94 rfl) tq_121 rfl rfl ?_
  refine e_put 185 em_442 (ce_at ce_442 95 rfl) tq_121 rfl rfl rfl (fun s2 => ?_)
  refine e_pk [0] rfl rfl ?_
  exact tm_chips_185 w d hd _
theorem fm_chips_171 (s : iS) : Fm Prod.snd L_m_chips G_m_chips s (m_chips_171 s) := fm_lt (md_upF (mem_F rfl)) (fun s1 => fm_lt (md_upF (mem_F rfl)) (fun s2 => fm_chips_185 _))
noncomputable def m_chips_160 (v2 : Int) (s : iS) : Option (Int × iS) := gd (rg v2) (if v2 = 0 then m_chips_171 s else bd (m_order s) (fun r3 s3 => gd (rg r3) (if r3 = 0 then m_chips_171 s3 else m_chips_185 s3)))
theorem tm_chips_160 (w : ev_W) (d : Nat) (hd : 8 ≤ d) (v2 : Int) (s : iS) : Ew hT w d 442 160 [(0, .ref (tb_nK + 121)), (2, iv v2)] [] s (Ci hT) (m_chips_160 v2 s) := by
  unfold m_chips_160
  refine e_mv 161 em_442 (ce_at ce_442 84 rfl) rfl rfl ?_
  refine e_gd fun g1 => ?_
  refine e_ifeq 171 164 em_442 rfl rfl (ce_at ce_442 85 rfl) g1 (fun h2 => ?_) (fun h2 => ?_)
  · refine e_pk [0] rfl rfl ?_
    exact tm_chips_171 w d hd _
  · refine e_mv 165 em_442 (ce_at ce_442 86 rfl) rfl rfl ?_
    refine e_ivi 168 em_442 (ce_at ce_442 87 rfl) (by omega) (iv_v0 (by decide) tq_121 rfl) em_474 (Nat.le_of_ble_eq_true rfl) rfl (tm_order w (d - 1) (by omega) _) (fun r3 s3 => ?_)
    refine e_gd fun g4 => ?_
    refine e_ifne 185 171 em_442 rfl rfl (ce_at ce_442 88 rfl) g4 (fun h5 => ?_) (fun h5 => ?_)
    · refine e_pk [0] rfl rfl ?_
      exact tm_chips_185 w d hd _
    · refine e_pk [0] rfl rfl ?_
      exact tm_chips_171 w d hd _
theorem fm_chips_160 (v2 : Int) (s : iS) : Fm Prod.snd L_m_chips G_m_chips s (m_chips_160 v2 s) := fm_gd (fm_if (fm_chips_171 _) (fm_bd (fm_sub (fm_order _) (mem_sub_L rfl) (mem_sub_F rfl)) (fun r3 s3 => fm_gd (fm_if (fm_chips_171 _) (fm_chips_185 _)))))
noncomputable def m_chips_151 (t0 : Int) (s : iS) : Option (Int × iS) := gd (rg t0) (if t0 = 0 then m_chips_160 t0 s else bd (m_build s) (fun _ s3 => m_chips_160 t0 s3))
theorem tm_chips_151 (w : ev_W) (d : Nat) (hd : 8 ≤ d) (t0 : Int) (s : iS) : Ew hT w d 442 151 [(0, .ref (tb_nK + 121))] [iv t0] s (Ci hT) (m_chips_151 t0 s) := by
  unfold m_chips_151
  refine e_mv 152 em_442 (ce_at ce_442 79 rfl) rfl rfl ?_
  refine e_mv 153 em_442 (ce_at ce_442 80 rfl) rfl rfl ?_
  refine e_gd fun g1 => ?_
  refine e_ifeq 160 156 em_442 rfl rfl (ce_at ce_442 81 rfl) g1 (fun h2 => ?_) (fun h2 => ?_)
  · refine e_pk [0, 2] rfl rfl ?_
    exact tm_chips_160 w d hd _ _
  · refine e_mv 157 em_442 (ce_at ce_442 82 rfl) rfl rfl ?_
    refine e_ivv 160 em_442 (ce_at ce_442 83 rfl) (by omega) (iv_v0 (by decide) tq_121 rfl) em_465 (Nat.le_of_ble_eq_true rfl) rfl (tm_build w (d - 1) (by omega) _) (fun r3 s3 => ?_)
    refine e_pk [0, 2] rfl rfl ?_
    exact tm_chips_160 w d hd _ _
theorem fm_chips_151 (t0 : Int) (s : iS) : Fm Prod.snd L_m_chips G_m_chips s (m_chips_151 t0 s) := fm_gd (fm_if (fm_chips_160 _ _) (fm_bd (fm_sub (fm_build _) (mem_sub_L rfl) (mem_sub_F rfl)) (fun r3 s3 => fm_chips_160 _ _)))
noncomputable def m_chips_150 (s : iS) : Option (Int × iS) := m_chips_151 0 s
theorem tm_chips_150 (w : ev_W) (d : Nat) (hd : 8 ≤ d) (s : iS) : Ew hT w d 442 150 [(0, .ref (tb_nK + 121))] [] s (Ci hT) (m_chips_150 s) := by
  unfold m_chips_150
  refine e_op 151 em_442 (ce_at ce_442 78 rfl) rfl rfl ?_
  refine e_pk [0] rfl rfl ?_
  exact tm_chips_151 w d hd _ _
theorem fm_chips_150 (s : iS) : Fm Prod.snd L_m_chips G_m_chips s (m_chips_150 s) := fm_chips_151 _ _
noncomputable def m_chips_93 (s : iS) : Option (Int × iS) := gd (rg (s 121 69)) (if (s 121 69) = 0 then lt' (up s 121 174 ((s 121 122) - 1)) (fun s3 => bd (m_countAll s3) (fun _ s4 => gd (0 ≤ (s4 121 174) ∧ (s4 121 174) < 16) (gd (rg (l_cmp (s4 220 (s4 121 174).toNat) 1500)) (if 0 < (l_cmp (s4 220 (s4 121 174).toNat) 1500) then m_chips_150 s4 else gd (rg (l_cmp (s4 221 (s4 121 174).toNat) 40000)) (if 0 < (l_cmp (s4 221 (s4 121 174).toNat) 40000) then m_chips_150 s4 else m_chips_151 1 s4))))) else m_chips_185 s)
theorem tm_chips_93 (w : ev_W) (d : Nat) (hd : 8 ≤ d) (s : iS) : Ew hT w d 442 93 [(0, .ref (tb_nK + 121))] [] s (Ci hT) (m_chips_93 s) := by
  unfold m_chips_93
  refine e_mv 94 em_442 (ce_at ce_442 49 rfl) rfl rfl ?_
  refine e_get 97 em_442 (ce_at ce_442 50 rfl) tq_121 rfl rfl ?_
  refine e_gd fun g1 => ?_
  refine e_ifne 185 100 em_442 rfl rfl (ce_at ce_442 51 rfl) g1 (fun h2 => ?_) (fun h2 => ?_)
  · refine e_pk [0] rfl rfl ?_
    exact tm_chips_185 w d hd _
  · refine e_mv 101 em_442 (ce_at ce_442 52 rfl) rfl rfl ?_
    refine e_mv 102 em_442 (ce_at ce_442 53 rfl) rfl rfl ?_
    refine e_get 105 em_442 (ce_at ce_442 54 rfl) tq_121 rfl rfl ?_
    refine e_op 106 em_442 (ce_at ce_442 55 rfl) rfl rfl ?_
    refine e_isub 107 em_442 rfl (ce_at ce_442 56 rfl) ?_
    refine e_put 110 em_442 (ce_at ce_442 57 rfl) tq_121 rfl rfl rfl (fun s3 => ?_)
    refine e_mv 111 em_442 (ce_at ce_442 58 rfl) rfl rfl ?_
    refine e_ivv 114 em_442 (ce_at ce_442 59 rfl) (by omega) (iv_v0 (by decide) tq_121 rfl) em_464 (Nat.le_of_ble_eq_true rfl) rfl (tm_countAll w (d - 1) (by omega) _) (fun r4 s4 => ?_)
    refine e_mv 115 em_442 (ce_at ce_442 60 rfl) rfl rfl ?_
    refine e_getr 118 em_442 (ce_at ce_442 61 rfl) tq_121 rfl rfl ?_
    refine e_mv 119 em_442 (ce_at ce_442 62 rfl) rfl rfl ?_
    refine e_get 122 em_442 (ce_at ce_442 63 rfl) tq_121 rfl rfl ?_
    refine e_gd fun g5 => ?_
    refine e_lld 123 em_442 (ce_at ce_442 64 rfl) tq_220 (by decide) g5 rfl ?_
    refine e_ldcl 126 em_442 (ce_at ce_442 65 rfl) (x := 1500) rfl rfl ?_
    refine e_lcmp 127 em_442 rfl (ce_at ce_442 66 rfl) ?_
    refine e_gd fun g6 => ?_
    refine e_ifgt 150 130 em_442 rfl rfl (ce_at ce_442 67 rfl) g6 (fun h7 => ?_) (fun h7 => ?_)
    · refine e_pk [0] rfl rfl ?_
      exact tm_chips_150 w d hd _
    · refine e_mv 131 em_442 (ce_at ce_442 68 rfl) rfl rfl ?_
      refine e_getr 134 em_442 (ce_at ce_442 69 rfl) tq_121 rfl rfl ?_
      refine e_mv 135 em_442 (ce_at ce_442 70 rfl) rfl rfl ?_
      refine e_get 138 em_442 (ce_at ce_442 71 rfl) tq_121 rfl rfl ?_
      refine e_lld 139 em_442 (ce_at ce_442 72 rfl) tq_221 (by decide) g5 rfl ?_
      refine e_ldcl 142 em_442 (ce_at ce_442 73 rfl) (x := 40000) rfl rfl ?_
      refine e_lcmp 143 em_442 rfl (ce_at ce_442 74 rfl) ?_
      refine e_gd fun g8 => ?_
      refine e_ifgt 150 146 em_442 rfl rfl (ce_at ce_442 75 rfl) g8 (fun h9 => ?_) (fun h9 => ?_)
      · refine e_pk [0] rfl rfl ?_
        exact tm_chips_150 w d hd _
      · refine e_op 147 em_442 (ce_at ce_442 76 rfl) rfl rfl ?_
        refine e_goto em_442 151 (ce_at ce_442 77 rfl) rfl ?_
        refine e_pk [0] rfl rfl ?_
        exact tm_chips_151 w d hd _ _
theorem fm_chips_93 (s : iS) : Fm Prod.snd L_m_chips G_m_chips s (m_chips_93 s) := fm_gd (fm_if (fm_lt (md_upF (mem_F rfl)) (fun s3 => fm_bd (fm_sub (fm_countAll _) (mem_sub_L rfl) (mem_sub_F rfl)) (fun r4 s4 => fm_gd (fm_gd (fm_if (fm_chips_150 _) (fm_gd (fm_if (fm_chips_150 _) (fm_chips_151 _ _)))))))) (fm_chips_185 _))
noncomputable def m_chips_82 (s : iS) : Option (Int × iS) := gd (rg (s 121 69)) (if (s 121 69) = 0 then bd (m_checkRing s) (fun _ s3 => m_chips_93 s3) else m_chips_93 s)
theorem tm_chips_82 (w : ev_W) (d : Nat) (hd : 8 ≤ d) (s : iS) : Ew hT w d 442 82 [(0, .ref (tb_nK + 121))] [] s (Ci hT) (m_chips_82 s) := by
  unfold m_chips_82
  refine e_mv 83 em_442 (ce_at ce_442 44 rfl) rfl rfl ?_
  refine e_get 86 em_442 (ce_at ce_442 45 rfl) tq_121 rfl rfl ?_
  refine e_gd fun g1 => ?_
  refine e_ifne 93 89 em_442 rfl rfl (ce_at ce_442 46 rfl) g1 (fun h2 => ?_) (fun h2 => ?_)
  · refine e_pk [0] rfl rfl ?_
    exact tm_chips_93 w d hd _
  · refine e_mv 90 em_442 (ce_at ce_442 47 rfl) rfl rfl ?_
    refine e_ivv 93 em_442 (ce_at ce_442 48 rfl) (by omega) (iv_v0 (by decide) tq_121 rfl) em_463 (Nat.le_of_ble_eq_true rfl) rfl (tm_checkRing w (d - 1) (by omega) _) (fun r3 s3 => ?_)
    refine e_pk [0] rfl rfl ?_
    exact tm_chips_93 w d hd _
theorem fm_chips_82 (s : iS) : Fm Prod.snd L_m_chips G_m_chips s (m_chips_82 s) := fm_gd (fm_if (fm_bd (fm_sub (fm_checkRing _) (mem_sub_L rfl) (mem_sub_F rfl)) (fun r3 s3 => fm_chips_93 _)) (fm_chips_93 _))
noncomputable def m_chips_58 (v2 : Int) (s : iS) : Option (Int × iS) := (lp (L := Int × iS) (E := iS) (fun l => m_chips_58b (l.1) (l.2)) (v2, s)).bind (fun e => m_chips_82 e)
theorem tm_chips_58 (w : ev_W) (d : Nat) (hd : 8 ≤ d) (v2 : Int) (s : iS) : Ew hT w d 442 58 [(0, .ref (tb_nK + 121)), (2, iv v2)] [] s (Ci hT) (m_chips_58 v2 s) := by
  unfold m_chips_58
  refine e_lp (L := Int × iS) (E := iS) (LO := fun l => [(0, .ref (tb_nK + 121)), (2, iv (l.1))]) (LS := fun l => l.2) (CE := fun e r => ev w d 442 82 [(0, .ref (tb_nK + 121))] [] (hT (e)) r) (fun l => tm_chips_58b w d hd _ _) ?_ (v2, s)
  intro e
  show Ew hT w d 442 82 [(0, .ref (tb_nK + 121))] [] e (Ci hT) _
  refine e_pk [0] rfl rfl ?_
  exact tm_chips_82 w d hd _
theorem fm_chips_58 (v2 : Int) (s : iS) : Fm Prod.snd L_m_chips G_m_chips s (m_chips_58 v2 s) := by
  unfold m_chips_58
  refine fm_lp (A := Int × iS) (E := iS) (LS := fun l => l.2) (LE := fun e => e) ?_ ?_ (v2, s)
  · exact fun l => fm_chips_58b _ _
  · exact (fun e => fm_chips_82 _)
noncomputable def m_chips (v1 : Int) (s : iS) : Option (Int × iS) := bd (m_takes v1 s) (fun r1 s1 => gd (rg r1) (if r1 = 0 then some ((-1), s1) else lt' (up s1 121 152 0) (fun s4 => bd (m_tokenize 2000 1 s4) (fun _ s5 => bd (m_chipTexts s5) (fun _ s6 => lt' (up s6 121 4 (s6 121 12)) (fun s7 => gd (rg (s7 121 11)) (if (s7 121 11) ≤ 0 then lt' (up s7 121 69 0) (fun s10 => bd (m_checkPins s10) (fun _ s11 => m_chips_58 0 s11)) else some ((s7 121 11), s7))))))))
theorem tm_chips (w : ev_W) (d : Nat) (hd : 8 ≤ d) (v1 : Int) (s : iS) : Ew hT w d 442 0 [(0, .ref (tb_nK + 121)), (1, iv v1)] [] s (Ci hT) (m_chips v1 s) := by
  unfold m_chips
  refine e_mv 1 em_442 (ce_at ce_442 0 rfl) rfl rfl ?_
  refine e_mv 2 em_442 (ce_at ce_442 1 rfl) rfl rfl ?_
  refine e_ivi 5 em_442 (ce_at ce_442 2 rfl) (by omega) (iv_v1 (by decide) tq_121 rfl) em_299 (Nat.le_of_ble_eq_true rfl) rfl (tm_takes w (d - 1) (by omega) _ _) (fun r1 s1 => ?_)
  refine e_gd fun g2 => ?_
  refine e_ifne 10 8 em_442 rfl rfl (ce_at ce_442 3 rfl) g2 (fun h3 => ?_) (fun h3 => ?_)
  · refine e_mv 11 em_442 (ce_at ce_442 6 rfl) rfl rfl ?_
    refine e_op 12 em_442 (ce_at ce_442 7 rfl) rfl rfl ?_
    refine e_put 15 em_442 (ce_at ce_442 8 rfl) tq_121 rfl rfl rfl (fun s4 => ?_)
    refine e_mv 16 em_442 (ce_at ce_442 9 rfl) rfl rfl ?_
    refine e_sip 19 em_442 (ce_at ce_442 10 rfl) (by decide) rfl ?_
    refine e_op 20 em_442 (ce_at ce_442 11 rfl) rfl rfl ?_
    refine e_ivv 23 em_442 (ce_at ce_442 12 rfl) (by omega) (iv_v2 (by decide) tq_121 rfl) em_300 (Nat.le_of_ble_eq_true rfl) rfl (tm_tokenize w (d - 1) (by omega) _ _ _) (fun r5 s5 => ?_)
    refine e_mv 24 em_442 (ce_at ce_442 13 rfl) rfl rfl ?_
    refine e_ivv 27 em_442 (ce_at ce_442 14 rfl) (by omega) (iv_v0 (by decide) tq_121 rfl) em_443 (Nat.le_of_ble_eq_true rfl) rfl (tm_chipTexts w (d - 1) (by omega) _) (fun r6 s6 => ?_)
    refine e_mv 28 em_442 (ce_at ce_442 15 rfl) rfl rfl ?_
    refine e_mv 29 em_442 (ce_at ce_442 16 rfl) rfl rfl ?_
    refine e_get 32 em_442 (ce_at ce_442 17 rfl) tq_121 rfl rfl ?_
    refine e_put 35 em_442 (ce_at ce_442 18 rfl) tq_121 rfl rfl rfl (fun s7 => ?_)
    refine e_mv 36 em_442 (ce_at ce_442 19 rfl) rfl rfl ?_
    refine e_get 39 em_442 (ce_at ce_442 20 rfl) tq_121 rfl rfl ?_
    refine e_gd fun g8 => ?_
    refine e_ifle 47 42 em_442 rfl rfl (ce_at ce_442 21 rfl) g8 (fun h9 => ?_) (fun h9 => ?_)
    · refine e_mv 48 em_442 (ce_at ce_442 25 rfl) rfl rfl ?_
      refine e_op 49 em_442 (ce_at ce_442 26 rfl) rfl rfl ?_
      refine e_put 52 em_442 (ce_at ce_442 27 rfl) tq_121 rfl rfl rfl (fun s10 => ?_)
      refine e_mv 53 em_442 (ce_at ce_442 28 rfl) rfl rfl ?_
      refine e_ivv 56 em_442 (ce_at ce_442 29 rfl) (by omega) (iv_v0 (by decide) tq_121 rfl) em_452 (Nat.le_of_ble_eq_true rfl) rfl (tm_checkPins w (d - 1) (by omega) _) (fun r11 s11 => ?_)
      refine e_op 57 em_442 (ce_at ce_442 30 rfl) rfl rfl ?_
      refine e_mv 58 em_442 (ce_at ce_442 31 rfl) rfl rfl ?_
      refine e_pk [0, 2] rfl rfl ?_
      exact tm_chips_58 w d hd _ _
    · refine e_mv 43 em_442 (ce_at ce_442 22 rfl) rfl rfl ?_
      refine e_get 46 em_442 (ce_at ce_442 23 rfl) tq_121 rfl rfl ?_
      exact e_reti em_442 (ce_at ce_442 24 rfl)
  · refine e_op 9 em_442 (ce_at ce_442 4 rfl) rfl rfl ?_
    exact e_reti em_442 (ce_at ce_442 5 rfl)
theorem fm_chips (v1 : Int) (s : iS) : Fm Prod.snd L_m_chips G_m_chips s (m_chips v1 s) := fm_bd (fm_sub (fm_takes _ _) (mem_sub_L rfl) (mem_sub_F rfl)) (fun r1 s1 => fm_gd (fm_if (fm_some md_refl) (fm_lt (md_upF (mem_F rfl)) (fun s4 => fm_bd (fm_sub (fm_tokenize _ _ _) (mem_sub_L rfl) (mem_sub_F rfl)) (fun r5 s5 => fm_bd (fm_sub (fm_chipTexts _) (mem_sub_L rfl) (mem_sub_F rfl)) (fun r6 s6 => fm_lt (md_upF (mem_F rfl)) (fun s7 => fm_gd (fm_if (fm_lt (md_upF (mem_F rfl)) (fun s10 => fm_bd (fm_sub (fm_checkPins _) (mem_sub_L rfl) (mem_sub_F rfl)) (fun r11 s11 => fm_chips_58 _ _))) (fm_some md_refl)))))))))
