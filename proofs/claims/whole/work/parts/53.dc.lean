/-! what the methods do, as functions, and that the machine does it; printed by wip/whole/dc.py -/
/-! m_newBits -/
def L_m_newBits : List Nat := [222, 223]
def G_m_newBits : List (Nat × Nat) := [(121, 158)]
def m_newBits_2C (w : ev_W) (d : Nat) (v1 : Int) : (Int × iS) ⊕ (iS) → am_E → Prop := fun q r => q.elim (fun l => ev w d 470 2 ((fun l => [(0, .ref (tb_nK + 121)), (1, iv v1), (2, iv (l.1))]) l) [] (hT ((fun l => l.2) l)) r) (fun e => (fun e r => ev w d 470 37 [(0, .ref (tb_nK + 121)), (1, iv v1)] [] (hT (e)) r) e r)
noncomputable def m_newBits_2b (v1 : Int) (v2 : Int) (s : iS) : Option ((Int × iS) ⊕ (iS)) := gd (rg v2) (gd (rg v1) (if v1 ≤ v2 then some (.inr s) else gd (0 ≤ ((s 121 158) + v2) ∧ ((s 121 158) + v2) < 40000) (lt' (up s 222 ((s 121 158) + v2).toNat (-1)) (fun s5 => gd (0 ≤ ((s5 121 158) + v2) ∧ ((s5 121 158) + v2) < 40000) (lt' (up s5 223 ((s5 121 158) + v2).toNat 0) (fun s7 => some (.inl ((v2 + 1), s7))))))))
theorem tm_newBits_2b (w : ev_W) (d : Nat) (hd : 0 ≤ d) (v1 : Int) (v2 : Int) (s : iS) : Ew hT w d 470 2 [(0, .ref (tb_nK + 121)), (1, iv v1), (2, iv v2)] [] s (m_newBits_2C w d v1) (m_newBits_2b v1 v2 s) := by
  unfold m_newBits_2b
  refine e_mv 3 em_470 (ce_at ce_470 2 rfl) rfl rfl ?_
  refine e_mv 4 em_470 (ce_at ce_470 3 rfl) rfl rfl ?_
  refine e_gd fun g1 => ?_
  refine e_gd fun g2 => ?_
  refine e_cmge 37 7 em_470 rfl rfl (ce_at ce_470 4 rfl) g1 g2 (fun h3 => ?_) (fun h3 => ?_)
  · refine e_pk [0, 1] rfl rfl ?_
    exact e_out (fun r h => h)
  · refine e_mv 8 em_470 (ce_at ce_470 5 rfl) rfl rfl ?_
    refine e_getr 11 em_470 (ce_at ce_470 6 rfl) tq_121 rfl rfl ?_
    refine e_mv 12 em_470 (ce_at ce_470 7 rfl) rfl rfl ?_
    refine e_get 15 em_470 (ce_at ce_470 8 rfl) tq_121 rfl rfl ?_
    refine e_mv 16 em_470 (ce_at ce_470 9 rfl) rfl rfl ?_
    refine e_iadd 17 em_470 rfl (ce_at ce_470 10 rfl) ?_
    refine e_op 18 em_470 (ce_at ce_470 11 rfl) rfl rfl ?_
    refine e_gd fun g4 => ?_
    refine e_ist 19 em_470 (ce_at ce_470 12 rfl) tq_222 (by decide) g4 rfl (fun s5 => ?_)
    refine e_mv 20 em_470 (ce_at ce_470 13 rfl) rfl rfl ?_
    refine e_getr 23 em_470 (ce_at ce_470 14 rfl) tq_121 rfl rfl ?_
    refine e_mv 24 em_470 (ce_at ce_470 15 rfl) rfl rfl ?_
    refine e_get 27 em_470 (ce_at ce_470 16 rfl) tq_121 rfl rfl ?_
    refine e_mv 28 em_470 (ce_at ce_470 17 rfl) rfl rfl ?_
    refine e_iadd 29 em_470 rfl (ce_at ce_470 18 rfl) ?_
    refine e_op 30 em_470 (ce_at ce_470 19 rfl) rfl rfl ?_
    refine e_gd fun g6 => ?_
    refine e_ist 31 em_470 (ce_at ce_470 20 rfl) tq_223 (by decide) g6 rfl (fun s7 => ?_)
    refine e_iinc 34 em_470 (ce_at ce_470 21 rfl) rfl (by decide) rfl ?_
    refine e_goto em_470 2 (ce_at ce_470 22 rfl) rfl ?_
    refine e_pk [0, 1, 2] rfl rfl ?_
    exact e_out (fun r h => h)
theorem fm_newBits_2b (v1 : Int) (v2 : Int) (s : iS) : Fm (fun r : (Int × iS) ⊕ (iS) => r.elim (fun l => l.2) (fun e => e)) L_m_newBits G_m_newBits s (m_newBits_2b v1 v2 s) := fm_gd (fm_gd (fm_if (fm_some md_refl) (fm_gd (fm_lt (md_upL (mem_L rfl)) (fun s5 => fm_gd (fm_lt (md_upL (mem_L rfl)) (fun s7 => fm_some md_refl)))))))
noncomputable def m_newBits_37 (v1 : Int) (s : iS) : Option (Int × iS) := lt' (up s 121 158 ((s 121 158) + v1)) (fun s1 => some (((s1 121 158) - v1), s1))
theorem tm_newBits_37 (w : ev_W) (d : Nat) (hd : 0 ≤ d) (v1 : Int) (s : iS) : Ew hT w d 470 37 [(0, .ref (tb_nK + 121)), (1, iv v1)] [] s (Ci hT) (m_newBits_37 v1 s) := by
  unfold m_newBits_37
  refine e_mv 38 em_470 (ce_at ce_470 23 rfl) rfl rfl ?_
  refine e_mv 39 em_470 (ce_at ce_470 24 rfl) rfl rfl ?_
  refine e_get 42 em_470 (ce_at ce_470 25 rfl) tq_121 rfl rfl ?_
  refine e_mv 43 em_470 (ce_at ce_470 26 rfl) rfl rfl ?_
  refine e_iadd 44 em_470 rfl (ce_at ce_470 27 rfl) ?_
  refine e_put 47 em_470 (ce_at ce_470 28 rfl) tq_121 rfl rfl rfl (fun s1 => ?_)
  refine e_mv 48 em_470 (ce_at ce_470 29 rfl) rfl rfl ?_
  refine e_get 51 em_470 (ce_at ce_470 30 rfl) tq_121 rfl rfl ?_
  refine e_mv 52 em_470 (ce_at ce_470 31 rfl) rfl rfl ?_
  refine e_isub 53 em_470 rfl (ce_at ce_470 32 rfl) ?_
  exact e_reti em_470 (ce_at ce_470 33 rfl)
theorem fm_newBits_37 (v1 : Int) (s : iS) : Fm Prod.snd L_m_newBits G_m_newBits s (m_newBits_37 v1 s) := fm_lt (md_upF (mem_F rfl)) (fun s1 => fm_some md_refl)
noncomputable def m_newBits_2 (v1 : Int) (v2 : Int) (s : iS) : Option (Int × iS) := (lp (L := Int × iS) (E := iS) (fun l => m_newBits_2b v1 (l.1) (l.2)) (v2, s)).bind (fun e => m_newBits_37 v1 e)
theorem tm_newBits_2 (w : ev_W) (d : Nat) (hd : 0 ≤ d) (v1 : Int) (v2 : Int) (s : iS) : Ew hT w d 470 2 [(0, .ref (tb_nK + 121)), (1, iv v1), (2, iv v2)] [] s (Ci hT) (m_newBits_2 v1 v2 s) := by
  unfold m_newBits_2
  refine e_lp (LO := fun l => [(0, .ref (tb_nK + 121)), (1, iv v1), (2, iv (l.1))]) (LS := fun l => l.2) (CE := fun e r => ev w d 470 37 [(0, .ref (tb_nK + 121)), (1, iv v1)] [] (hT (e)) r) (fun l => tm_newBits_2b w d hd _ _ _) ?_ (v2, s)
  intro e
  show Ew hT w d 470 37 [(0, .ref (tb_nK + 121)), (1, iv v1)] [] e (Ci hT) _
  refine e_pk [0, 1] rfl rfl ?_
  exact tm_newBits_37 w d hd _ _
theorem fm_newBits_2 (v1 : Int) (v2 : Int) (s : iS) : Fm Prod.snd L_m_newBits G_m_newBits s (m_newBits_2 v1 v2 s) := fm_lp (LS := fun l => l.2) (LE := fun e => e) (fun l => fm_newBits_2b _ _ _) (fun e => fm_newBits_37 _ _) (v2, s)
noncomputable def m_newBits (v1 : Int) (s : iS) : Option (Int × iS) := m_newBits_2 v1 0 s
theorem tm_newBits (w : ev_W) (d : Nat) (hd : 0 ≤ d) (v1 : Int) (s : iS) : Ew hT w d 470 0 [(0, .ref (tb_nK + 121)), (1, iv v1)] [] s (Ci hT) (m_newBits v1 s) := by
  unfold m_newBits
  refine e_op 1 em_470 (ce_at ce_470 0 rfl) rfl rfl ?_
  refine e_mv 2 em_470 (ce_at ce_470 1 rfl) rfl rfl ?_
  refine e_pk [0, 1, 2] rfl rfl ?_
  exact tm_newBits_2 w d hd _ _ _
theorem fm_newBits (v1 : Int) (s : iS) : Fm Prod.snd L_m_newBits G_m_newBits s (m_newBits v1 s) := fm_newBits_2 _ _ _
/-! m_pinPlace -/
def L_m_pinPlace : List Nat := []
def G_m_pinPlace : List (Nat × Nat) := []
def m_pinPlace_10C (w : ev_W) (d : Nat) (v2 : Int) : (Int × Int × iS) ⊕ (Int × iS) → am_E → Prop := fun q r => q.elim (fun l => ev w d 469 10 ((fun l => [(0, .ref (tb_nK + 121)), (2, iv v2), (3, iv (l.1)), (4, iv (l.2.1))]) l) [] (hT ((fun l => l.2.2) l)) r) (fun e => (fun e r => ev w d 469 32 [(3, iv (e.1))] [] (hT (e.2)) r) e r)
noncomputable def m_pinPlace_10b (v2 : Int) (v3 : Int) (v4 : Int) (s : iS) : Option ((Int × Int × iS) ⊕ (Int × iS)) := gd (rg v4) (gd (rg v2) (if v2 ≤ v4 then some (.inr (v3, s)) else gd (0 ≤ v4 ∧ v4 < 200) (some (.inl ((v3 + (s 199 v4.toNat)), (v4 + 1), s)))))
theorem tm_pinPlace_10b (w : ev_W) (d : Nat) (hd : 0 ≤ d) (v2 : Int) (v3 : Int) (v4 : Int) (s : iS) : Ew hT w d 469 10 [(0, .ref (tb_nK + 121)), (2, iv v2), (3, iv v3), (4, iv v4)] [] s (m_pinPlace_10C w d v2) (m_pinPlace_10b v2 v3 v4 s) := by
  unfold m_pinPlace_10b
  refine e_mv 12 em_469 (ce_at ce_469 7 rfl) rfl rfl ?_
  refine e_mv 13 em_469 (ce_at ce_469 8 rfl) rfl rfl ?_
  refine e_gd fun g1 => ?_
  refine e_gd fun g2 => ?_
  refine e_cmge 32 16 em_469 rfl rfl (ce_at ce_469 9 rfl) g1 g2 (fun h3 => ?_) (fun h3 => ?_)
  · refine e_pk [3] rfl rfl ?_
    exact e_out (fun r h => h)
  · refine e_mv 17 em_469 (ce_at ce_469 10 rfl) rfl rfl ?_
    refine e_mv 18 em_469 (ce_at ce_469 11 rfl) rfl rfl ?_
    refine e_getr 21 em_469 (ce_at ce_469 12 rfl) tq_121 rfl rfl ?_
    refine e_mv 23 em_469 (ce_at ce_469 13 rfl) rfl rfl ?_
    refine e_gd fun g4 => ?_
    refine e_ild 24 em_469 (ce_at ce_469 14 rfl) tq_199 (by decide) g4 rfl ?_
    refine e_iadd 25 em_469 rfl (ce_at ce_469 15 rfl) ?_
    refine e_mv 26 em_469 (ce_at ce_469 16 rfl) rfl rfl ?_
    refine e_iinc 29 em_469 (ce_at ce_469 17 rfl) rfl (by decide) rfl ?_
    refine e_goto em_469 10 (ce_at ce_469 18 rfl) rfl ?_
    refine e_pk [0, 2, 3, 4] rfl rfl ?_
    exact e_out (fun r h => h)
theorem fm_pinPlace_10b (v2 : Int) (v3 : Int) (v4 : Int) (s : iS) : Fm (fun r : (Int × Int × iS) ⊕ (Int × iS) => r.elim (fun l => l.2.2) (fun e => e.2)) L_m_pinPlace G_m_pinPlace s (m_pinPlace_10b v2 v3 v4 s) := fm_gd (fm_gd (fm_if (fm_some md_refl) (fm_gd (fm_some md_refl))))
noncomputable def m_pinPlace_10 (v2 : Int) (v3 : Int) (v4 : Int) (s : iS) : Option (Int × iS) := (lp (L := Int × Int × iS) (E := Int × iS) (fun l => m_pinPlace_10b v2 (l.1) (l.2.1) (l.2.2)) (v3, v4, s)).bind (fun e => some (e.1, e.2))
theorem tm_pinPlace_10 (w : ev_W) (d : Nat) (hd : 0 ≤ d) (v2 : Int) (v3 : Int) (v4 : Int) (s : iS) : Ew hT w d 469 10 [(0, .ref (tb_nK + 121)), (2, iv v2), (3, iv v3), (4, iv v4)] [] s (Ci hT) (m_pinPlace_10 v2 v3 v4 s) := by
  unfold m_pinPlace_10
  refine e_lp (LO := fun l => [(0, .ref (tb_nK + 121)), (2, iv v2), (3, iv (l.1)), (4, iv (l.2.1))]) (LS := fun l => l.2.2) (CE := fun e r => ev w d 469 32 [(3, iv (e.1))] [] (hT (e.2)) r) (fun l => tm_pinPlace_10b w d hd _ _ _ _) ?_ (v3, v4, s)
  intro e
  show Ew hT w d 469 32 [(3, iv (e.1))] [] e.2 (Ci hT) _
  refine e_mv 33 em_469 (ce_at ce_469 19 rfl) rfl rfl ?_
  exact e_reti em_469 (ce_at ce_469 20 rfl)
theorem fm_pinPlace_10 (v2 : Int) (v3 : Int) (v4 : Int) (s : iS) : Fm Prod.snd L_m_pinPlace G_m_pinPlace s (m_pinPlace_10 v2 v3 v4 s) := fm_lp (LS := fun l => l.2.2) (LE := fun e => e.2) (fun l => fm_pinPlace_10b _ _ _ _) (fun e => fm_some md_refl) (v3, v4, s)
noncomputable def m_pinPlace (v1 : Int) (v2 : Int) (s : iS) : Option (Int × iS) := gd (0 ≤ v1 ∧ v1 < 18) (m_pinPlace_10 v2 0 (s 196 v1.toNat) s)
theorem tm_pinPlace (w : ev_W) (d : Nat) (hd : 0 ≤ d) (v1 : Int) (v2 : Int) (s : iS) : Ew hT w d 469 0 [(0, .ref (tb_nK + 121)), (1, iv v1), (2, iv v2)] [] s (Ci hT) (m_pinPlace v1 v2 s) := by
  unfold m_pinPlace
  refine e_op 1 em_469 (ce_at ce_469 0 rfl) rfl rfl ?_
  refine e_mv 2 em_469 (ce_at ce_469 1 rfl) rfl rfl ?_
  refine e_mv 3 em_469 (ce_at ce_469 2 rfl) rfl rfl ?_
  refine e_getr 6 em_469 (ce_at ce_469 3 rfl) tq_121 rfl rfl ?_
  refine e_mv 7 em_469 (ce_at ce_469 4 rfl) rfl rfl ?_
  refine e_gd fun g1 => ?_
  refine e_ild 8 em_469 (ce_at ce_469 5 rfl) tq_196 (by decide) g1 rfl ?_
  refine e_mv 10 em_469 (ce_at ce_469 6 rfl) rfl rfl ?_
  refine e_pk [0, 2, 3, 4] rfl rfl ?_
  exact tm_pinPlace_10 w d hd _ _ _ _
theorem fm_pinPlace (v1 : Int) (v2 : Int) (s : iS) : Fm Prod.snd L_m_pinPlace G_m_pinPlace s (m_pinPlace v1 v2 s) := fm_gd (fm_pinPlace_10 _ _ _ _)
/-! m_innerPlace -/
def L_m_innerPlace : List Nat := []
def G_m_innerPlace : List (Nat × Nat) := []
def m_innerPlace_22C (w : ev_W) (d : Nat) (v2 : Int) : (Int × Int × iS) ⊕ (Int × iS) → am_E → Prop := fun q r => q.elim (fun l => ev w d 468 22 ((fun l => [(0, .ref (tb_nK + 121)), (2, iv v2), (3, iv (l.1)), (4, iv (l.2.1))]) l) [] (hT ((fun l => l.2.2) l)) r) (fun e => (fun e r => ev w d 468 58 [(3, iv (e.1))] [] (hT (e.2)) r) e r)
noncomputable def m_innerPlace_22b (v2 : Int) (v3 : Int) (v4 : Int) (s : iS) : Option ((Int × Int × iS) ⊕ (Int × iS)) := gd (rg v4) (gd (rg v2) (if v2 ≤ v4 then some (.inr (v3, s)) else gd (0 ≤ v4 ∧ v4 < 700) (gd (rg (s 214 v4.toNat)) (if (s 214 v4.toNat) ≤ 0 then some (.inl ((v3 + 0), (v4 + 1), s)) else some (.inl ((v3 + (s 214 v4.toNat)), (v4 + 1), s))))))
theorem tm_innerPlace_22b (w : ev_W) (d : Nat) (hd : 1 ≤ d) (v2 : Int) (v3 : Int) (v4 : Int) (s : iS) : Ew hT w d 468 22 [(0, .ref (tb_nK + 121)), (2, iv v2), (3, iv v3), (4, iv v4)] [] s (m_innerPlace_22C w d v2) (m_innerPlace_22b v2 v3 v4 s) := by
  unfold m_innerPlace_22b
  refine e_mv 24 em_468 (ce_at ce_468 15 rfl) rfl rfl ?_
  refine e_mv 25 em_468 (ce_at ce_468 16 rfl) rfl rfl ?_
  refine e_gd fun g1 => ?_
  refine e_gd fun g2 => ?_
  refine e_cmge 58 28 em_468 rfl rfl (ce_at ce_468 17 rfl) g1 g2 (fun h3 => ?_) (fun h3 => ?_)
  · refine e_pk [3] rfl rfl ?_
    exact e_out (fun r h => h)
  · refine e_mv 29 em_468 (ce_at ce_468 18 rfl) rfl rfl ?_
    refine e_mv 30 em_468 (ce_at ce_468 19 rfl) rfl rfl ?_
    refine e_getr 33 em_468 (ce_at ce_468 20 rfl) tq_121 rfl rfl ?_
    refine e_mv 35 em_468 (ce_at ce_468 21 rfl) rfl rfl ?_
    refine e_gd fun g4 => ?_
    refine e_ild 36 em_468 (ce_at ce_468 22 rfl) tq_214 (by decide) g4 rfl ?_
    refine e_gd fun g5 => ?_
    refine e_ifle 49 39 em_468 rfl rfl (ce_at ce_468 23 rfl) g5 (fun h6 => ?_) (fun h6 => ?_)
    · refine e_op 50 em_468 (ce_at ce_468 29 rfl) rfl rfl ?_
      refine e_iadd 51 em_468 rfl (ce_at ce_468 30 rfl) ?_
      refine e_mv 52 em_468 (ce_at ce_468 31 rfl) rfl rfl ?_
      refine e_iinc 55 em_468 (ce_at ce_468 32 rfl) rfl (by decide) rfl ?_
      refine e_goto em_468 22 (ce_at ce_468 33 rfl) rfl ?_
      refine e_pk [0, 2, 3, 4] rfl rfl ?_
      exact e_out (fun r h => h)
    · refine e_mv 40 em_468 (ce_at ce_468 24 rfl) rfl rfl ?_
      refine e_getr 43 em_468 (ce_at ce_468 25 rfl) tq_121 rfl rfl ?_
      refine e_mv 45 em_468 (ce_at ce_468 26 rfl) rfl rfl ?_
      refine e_ild 46 em_468 (ce_at ce_468 27 rfl) tq_214 (by decide) g4 rfl ?_
      refine e_goto em_468 50 (ce_at ce_468 28 rfl) rfl ?_
      refine e_iadd 51 em_468 rfl (ce_at ce_468 30 rfl) ?_
      refine e_mv 52 em_468 (ce_at ce_468 31 rfl) rfl rfl ?_
      refine e_iinc 55 em_468 (ce_at ce_468 32 rfl) rfl (by decide) rfl ?_
      refine e_goto em_468 22 (ce_at ce_468 33 rfl) rfl ?_
      refine e_pk [0, 2, 3, 4] rfl rfl ?_
      exact e_out (fun r h => h)
theorem fm_innerPlace_22b (v2 : Int) (v3 : Int) (v4 : Int) (s : iS) : Fm (fun r : (Int × Int × iS) ⊕ (Int × iS) => r.elim (fun l => l.2.2) (fun e => e.2)) L_m_innerPlace G_m_innerPlace s (m_innerPlace_22b v2 v3 v4 s) := fm_gd (fm_gd (fm_if (fm_some md_refl) (fm_gd (fm_gd (fm_if (fm_some md_refl) (fm_some md_refl))))))
noncomputable def m_innerPlace_22 (v2 : Int) (v3 : Int) (v4 : Int) (s : iS) : Option (Int × iS) := (lp (L := Int × Int × iS) (E := Int × iS) (fun l => m_innerPlace_22b v2 (l.1) (l.2.1) (l.2.2)) (v3, v4, s)).bind (fun e => some (e.1, e.2))
theorem tm_innerPlace_22 (w : ev_W) (d : Nat) (hd : 1 ≤ d) (v2 : Int) (v3 : Int) (v4 : Int) (s : iS) : Ew hT w d 468 22 [(0, .ref (tb_nK + 121)), (2, iv v2), (3, iv v3), (4, iv v4)] [] s (Ci hT) (m_innerPlace_22 v2 v3 v4 s) := by
  unfold m_innerPlace_22
  refine e_lp (LO := fun l => [(0, .ref (tb_nK + 121)), (2, iv v2), (3, iv (l.1)), (4, iv (l.2.1))]) (LS := fun l => l.2.2) (CE := fun e r => ev w d 468 58 [(3, iv (e.1))] [] (hT (e.2)) r) (fun l => tm_innerPlace_22b w d hd _ _ _ _) ?_ (v3, v4, s)
  intro e
  show Ew hT w d 468 58 [(3, iv (e.1))] [] e.2 (Ci hT) _
  refine e_mv 59 em_468 (ce_at ce_468 34 rfl) rfl rfl ?_
  exact e_reti em_468 (ce_at ce_468 35 rfl)
theorem fm_innerPlace_22 (v2 : Int) (v3 : Int) (v4 : Int) (s : iS) : Fm Prod.snd L_m_innerPlace G_m_innerPlace s (m_innerPlace_22 v2 v3 v4 s) := fm_lp (LS := fun l => l.2.2) (LE := fun e => e.2) (fun l => fm_innerPlace_22b _ _ _ _) (fun e => fm_some md_refl) (v3, v4, s)
noncomputable def m_innerPlace (v1 : Int) (v2 : Int) (s : iS) : Option (Int × iS) := gd (0 ≤ (v1 + 1) ∧ (v1 + 1) < 18) (bd (m_pinPlace v1 (s 196 (v1 + 1).toNat) s) (fun r2 s2 => gd (0 ≤ v1 ∧ v1 < 18) (m_innerPlace_22 v2 r2 (s2 212 v1.toNat) s2)))
theorem tm_innerPlace (w : ev_W) (d : Nat) (hd : 1 ≤ d) (v1 : Int) (v2 : Int) (s : iS) : Ew hT w d 468 0 [(0, .ref (tb_nK + 121)), (1, iv v1), (2, iv v2)] [] s (Ci hT) (m_innerPlace v1 v2 s) := by
  unfold m_innerPlace
  refine e_mv 1 em_468 (ce_at ce_468 0 rfl) rfl rfl ?_
  refine e_mv 2 em_468 (ce_at ce_468 1 rfl) rfl rfl ?_
  refine e_mv 3 em_468 (ce_at ce_468 2 rfl) rfl rfl ?_
  refine e_getr 6 em_468 (ce_at ce_468 3 rfl) tq_121 rfl rfl ?_
  refine e_mv 7 em_468 (ce_at ce_468 4 rfl) rfl rfl ?_
  refine e_op 8 em_468 (ce_at ce_468 5 rfl) rfl rfl ?_
  refine e_iadd 9 em_468 rfl (ce_at ce_468 6 rfl) ?_
  refine e_gd fun g1 => ?_
  refine e_ild 10 em_468 (ce_at ce_468 7 rfl) tq_196 (by decide) g1 rfl ?_
  refine e_ivi 13 em_468 (ce_at ce_468 8 rfl) (by omega) (iv_v2 (by decide) tq_121 rfl) em_469 (Nat.le_of_ble_eq_true rfl) rfl (tm_pinPlace w (d - 1) (by omega) _ _ _) (fun r2 s2 => ?_)
  refine e_mv 14 em_468 (ce_at ce_468 9 rfl) rfl rfl ?_
  refine e_mv 15 em_468 (ce_at ce_468 10 rfl) rfl rfl ?_
  refine e_getr 18 em_468 (ce_at ce_468 11 rfl) tq_121 rfl rfl ?_
  refine e_mv 19 em_468 (ce_at ce_468 12 rfl) rfl rfl ?_
  refine e_gd fun g3 => ?_
  refine e_ild 20 em_468 (ce_at ce_468 13 rfl) tq_212 (by decide) g3 rfl ?_
  refine e_mv 22 em_468 (ce_at ce_468 14 rfl) rfl rfl ?_
  refine e_pk [0, 2, 3, 4] rfl rfl ?_
  exact tm_innerPlace_22 w d hd _ _ _ _
theorem fm_innerPlace (v1 : Int) (v2 : Int) (s : iS) : Fm Prod.snd L_m_innerPlace G_m_innerPlace s (m_innerPlace v1 v2 s) := fm_gd (fm_bd (fm_sub (fm_pinPlace _ _ _) (mem_sub_L rfl) (mem_sub_F rfl)) (fun r2 s2 => fm_gd (fm_innerPlace_22 _ _ _ _)))
/-! m_ownBits -/
def L_m_ownBits : List Nat := []
def G_m_ownBits : List (Nat × Nat) := []
noncomputable def m_ownBits (v1 : Int) (s : iS) : Option (Int × iS) := gd (0 ≤ (v1 + 1) ∧ (v1 + 1) < 18) (bd (m_innerPlace v1 (s 212 (v1 + 1).toNat) s) (fun r2 s2 => some (r2, s2)))
theorem tm_ownBits (w : ev_W) (d : Nat) (hd : 2 ≤ d) (v1 : Int) (s : iS) : Ew hT w d 467 0 [(0, .ref (tb_nK + 121)), (1, iv v1)] [] s (Ci hT) (m_ownBits v1 s) := by
  unfold m_ownBits
  refine e_mv 1 em_467 (ce_at ce_467 0 rfl) rfl rfl ?_
  refine e_mv 2 em_467 (ce_at ce_467 1 rfl) rfl rfl ?_
  refine e_mv 3 em_467 (ce_at ce_467 2 rfl) rfl rfl ?_
  refine e_getr 6 em_467 (ce_at ce_467 3 rfl) tq_121 rfl rfl ?_
  refine e_mv 7 em_467 (ce_at ce_467 4 rfl) rfl rfl ?_
  refine e_op 8 em_467 (ce_at ce_467 5 rfl) rfl rfl ?_
  refine e_iadd 9 em_467 rfl (ce_at ce_467 6 rfl) ?_
  refine e_gd fun g1 => ?_
  refine e_ild 10 em_467 (ce_at ce_467 7 rfl) tq_212 (by decide) g1 rfl ?_
  refine e_ivi 13 em_467 (ce_at ce_467 8 rfl) (by omega) (iv_v2 (by decide) tq_121 rfl) em_468 (Nat.le_of_ble_eq_true rfl) rfl (tm_innerPlace w (d - 1) (by omega) _ _ _) (fun r2 s2 => ?_)
  exact e_reti em_467 (ce_at ce_467 9 rfl)
theorem fm_ownBits (v1 : Int) (s : iS) : Fm Prod.snd L_m_ownBits G_m_ownBits s (m_ownBits v1 s) := fm_gd (fm_bd (fm_sub (fm_innerPlace _ _ _) (mem_sub_L rfl) (mem_sub_F rfl)) (fun r2 s2 => fm_some md_refl))
/-! m_newPart -/
def L_m_newPart : List Nat := [222, 223, 224, 225, 231, 232]
def G_m_newPart : List (Nat × Nat) := [(121, 158), (121, 161), (121, 170)]
noncomputable def m_newPart_118 (v2 : Int) (t0 : Int) (t1 : Int) (s : iS) : Option (Int × iS) := gd (0 ≤ (t1 + t0) ∧ (t1 + t0) < 40000) (lt' (up s 223 (t1 + t0).toNat (s 121 161)) (fun s2 => some (v2, s2)))
theorem tm_newPart_118 (w : ev_W) (d : Nat) (hd : 3 ≤ d) (v2 : Int) (t0 : Int) (t1 : Int) (s : iS) : Ew hT w d 466 118 [(0, .ref (tb_nK + 121)), (2, iv v2)] [iv t0, iv t1, .ref (tb_nK + 223)] s (Ci hT) (m_newPart_118 v2 t0 t1 s) := by
  unfold m_newPart_118
  refine e_iadd 119 em_466 rfl (ce_at ce_466 72 rfl) ?_
  refine e_mv 120 em_466 (ce_at ce_466 73 rfl) rfl rfl ?_
  refine e_get 123 em_466 (ce_at ce_466 74 rfl) tq_121 rfl rfl ?_
  refine e_gd fun g1 => ?_
  refine e_ist 124 em_466 (ce_at ce_466 75 rfl) tq_223 (by decide) g1 rfl (fun s2 => ?_)
  refine e_mv 125 em_466 (ce_at ce_466 76 rfl) rfl rfl ?_
  exact e_reti em_466 (ce_at ce_466 77 rfl)
theorem fm_newPart_118 (v2 : Int) (t0 : Int) (t1 : Int) (s : iS) : Fm Prod.snd L_m_newPart G_m_newPart s (m_newPart_118 v2 t0 t1 s) := fm_gd (fm_lt (md_upL (mem_L rfl)) (fun s2 => fm_some md_refl))
noncomputable def m_newPart_83 (v1 : Int) (v2 : Int) (t0 : Int) (t1 : Int) (s : iS) : Option (Int × iS) := gd (0 ≤ t1 ∧ t1 < 1500) (gd (t0 = 0 ∨ t0 = 1) (lt' (up s 224 t1.toNat t0) (fun s3 => gd (0 ≤ (s3 121 161) ∧ (s3 121 161) < 1500) (lt' (up s3 225 (s3 121 161).toNat v2) (fun s5 => lt' (up s5 121 161 ((s5 121 161) + 1)) (fun s6 => gd (rg v1) (if v1 = 0 then m_newPart_118 v2 2 v2 s6 else m_newPart_118 v2 1 v2 s6)))))))
theorem tm_newPart_83 (w : ev_W) (d : Nat) (hd : 3 ≤ d) (v1 : Int) (v2 : Int) (t0 : Int) (t1 : Int) (s : iS) : Ew hT w d 466 83 [(0, .ref (tb_nK + 121)), (1, iv v1), (2, iv v2)] [iv t0, iv t1, .ref (tb_nK + 224)] s (Ci hT) (m_newPart_83 v1 v2 t0 t1 s) := by
  unfold m_newPart_83
  refine e_gd fun g1 => ?_
  refine e_gd fun g2 => ?_
  refine e_zst 84 em_466 (ce_at ce_466 51 rfl) tq_224 (by decide) g1 g2 rfl (fun s3 => ?_)
  refine e_mv 85 em_466 (ce_at ce_466 52 rfl) rfl rfl ?_
  refine e_getr 88 em_466 (ce_at ce_466 53 rfl) tq_121 rfl rfl ?_
  refine e_mv 89 em_466 (ce_at ce_466 54 rfl) rfl rfl ?_
  refine e_get 92 em_466 (ce_at ce_466 55 rfl) tq_121 rfl rfl ?_
  refine e_mv 93 em_466 (ce_at ce_466 56 rfl) rfl rfl ?_
  refine e_gd fun g4 => ?_
  refine e_ist 94 em_466 (ce_at ce_466 57 rfl) tq_225 (by decide) g4 rfl (fun s5 => ?_)
  refine e_mv 95 em_466 (ce_at ce_466 58 rfl) rfl rfl ?_
  refine e_mv 96 em_466 (ce_at ce_466 59 rfl) rfl rfl ?_
  refine e_get 99 em_466 (ce_at ce_466 60 rfl) tq_121 rfl rfl ?_
  refine e_op 100 em_466 (ce_at ce_466 61 rfl) rfl rfl ?_
  refine e_iadd 101 em_466 rfl (ce_at ce_466 62 rfl) ?_
  refine e_put 104 em_466 (ce_at ce_466 63 rfl) tq_121 rfl rfl rfl (fun s6 => ?_)
  refine e_mv 105 em_466 (ce_at ce_466 64 rfl) rfl rfl ?_
  refine e_getr 108 em_466 (ce_at ce_466 65 rfl) tq_121 rfl rfl ?_
  refine e_mv 109 em_466 (ce_at ce_466 66 rfl) rfl rfl ?_
  refine e_mv 110 em_466 (ce_at ce_466 67 rfl) rfl rfl ?_
  refine e_gd fun g7 => ?_
  refine e_ifne 117 113 em_466 rfl rfl (ce_at ce_466 68 rfl) g7 (fun h8 => ?_) (fun h8 => ?_)
  · refine e_op 118 em_466 (ce_at ce_466 71 rfl) rfl rfl ?_
    refine e_pk [0, 2] rfl rfl ?_
    exact tm_newPart_118 w d hd _ _ _ _
  · refine e_op 114 em_466 (ce_at ce_466 69 rfl) rfl rfl ?_
    refine e_goto em_466 118 (ce_at ce_466 70 rfl) rfl ?_
    refine e_pk [0, 2] rfl rfl ?_
    exact tm_newPart_118 w d hd _ _ _ _
theorem fm_newPart_83 (v1 : Int) (v2 : Int) (t0 : Int) (t1 : Int) (s : iS) : Fm Prod.snd L_m_newPart G_m_newPart s (m_newPart_83 v1 v2 t0 t1 s) := fm_gd (fm_gd (fm_lt (md_upL (mem_L rfl)) (fun s3 => fm_gd (fm_lt (md_upL (mem_L rfl)) (fun s5 => fm_lt (md_upF (mem_F rfl)) (fun s6 => fm_gd (fm_if (fm_newPart_118 _ _ _ _) (fm_newPart_118 _ _ _ _))))))))
noncomputable def m_newPart_61 (v1 : Int) (t0 : Int) (s : iS) : Option (Int × iS) := bd (m_newBits t0 s) (fun r1 s1 => gd (rg v1) (if v1 = 1 then m_newPart_83 v1 r1 1 (s1 121 161) s1 else m_newPart_83 v1 r1 0 (s1 121 161) s1))
theorem tm_newPart_61 (w : ev_W) (d : Nat) (hd : 3 ≤ d) (v1 : Int) (t0 : Int) (s : iS) : Ew hT w d 466 61 [(0, .ref (tb_nK + 121)), (1, iv v1)] [iv t0, .ref (tb_nK + 121)] s (Ci hT) (m_newPart_61 v1 t0 s) := by
  unfold m_newPart_61
  refine e_ivi 64 em_466 (ce_at ce_466 39 rfl) (by omega) (iv_v1 (by decide) tq_121 rfl) em_470 (Nat.le_of_ble_eq_true rfl) rfl (tm_newBits w (d - 1) (by omega) _ _) (fun r1 s1 => ?_)
  refine e_mv 65 em_466 (ce_at ce_466 40 rfl) rfl rfl ?_
  refine e_mv 66 em_466 (ce_at ce_466 41 rfl) rfl rfl ?_
  refine e_getr 69 em_466 (ce_at ce_466 42 rfl) tq_121 rfl rfl ?_
  refine e_mv 70 em_466 (ce_at ce_466 43 rfl) rfl rfl ?_
  refine e_get 73 em_466 (ce_at ce_466 44 rfl) tq_121 rfl rfl ?_
  refine e_mv 74 em_466 (ce_at ce_466 45 rfl) rfl rfl ?_
  refine e_op 75 em_466 (ce_at ce_466 46 rfl) rfl rfl ?_
  refine e_gd fun g2 => ?_
  refine e_cmne 82 78 em_466 rfl rfl (ce_at ce_466 47 rfl) g2 (by decide) (fun h3 => ?_) (fun h3 => ?_)
  · refine e_op 83 em_466 (ce_at ce_466 50 rfl) rfl rfl ?_
    refine e_pk [0, 1, 2] rfl rfl ?_
    exact tm_newPart_83 w d hd _ _ _ _ _
  · refine e_op 79 em_466 (ce_at ce_466 48 rfl) rfl rfl ?_
    refine e_goto em_466 83 (ce_at ce_466 49 rfl) rfl ?_
    refine e_pk [0, 1, 2] rfl rfl ?_
    exact tm_newPart_83 w d hd _ _ _ _ _
theorem fm_newPart_61 (v1 : Int) (t0 : Int) (s : iS) : Fm Prod.snd L_m_newPart G_m_newPart s (m_newPart_61 v1 t0 s) := fm_bd (fm_sub (fm_newBits _ _) (mem_sub_L rfl) (mem_sub_F rfl)) (fun r1 s1 => fm_gd (fm_if (fm_newPart_83 _ _ _ _ _) (fm_newPart_83 _ _ _ _ _)))
noncomputable def m_newPart (v1 : Int) (s : iS) : Option (Int × iS) := gd (rg v1) (if v1 ≤ 1 then if v1 = 0 then m_newPart_61 v1 3 s else m_newPart_61 v1 2 s else bd (m_ownBits (v1 - 2) s) (fun r4 s4 => bd (m_newBits r4 s4) (fun r5 s5 => gd (0 ≤ (s5 121 170) ∧ (s5 121 170) < 20000) (lt' (up s5 231 (s5 121 170).toNat (v1 - 2)) (fun s7 => gd (0 ≤ (s7 121 170) ∧ (s7 121 170) < 20000) (lt' (up s7 232 (s7 121 170).toNat r5) (fun s9 => lt' (up s9 121 170 ((s9 121 170) + 1)) (fun s10 => some (r5, s10)))))))))
theorem tm_newPart (w : ev_W) (d : Nat) (hd : 3 ≤ d) (v1 : Int) (s : iS) : Ew hT w d 466 0 [(0, .ref (tb_nK + 121)), (1, iv v1)] [] s (Ci hT) (m_newPart v1 s) := by
  unfold m_newPart
  refine e_mv 1 em_466 (ce_at ce_466 0 rfl) rfl rfl ?_
  refine e_op 2 em_466 (ce_at ce_466 1 rfl) rfl rfl ?_
  refine e_gd fun g1 => ?_
  refine e_cmle 51 5 em_466 rfl rfl (ce_at ce_466 2 rfl) g1 (by decide) (fun h2 => ?_) (fun h2 => ?_)
  · refine e_mv 52 em_466 (ce_at ce_466 33 rfl) rfl rfl ?_
    refine e_mv 53 em_466 (ce_at ce_466 34 rfl) rfl rfl ?_
    refine e_ifne 60 56 em_466 rfl rfl (ce_at ce_466 35 rfl) g1 (fun h3 => ?_) (fun h3 => ?_)
    · refine e_op 61 em_466 (ce_at ce_466 38 rfl) rfl rfl ?_
      refine e_pk [0, 1] rfl rfl ?_
      exact tm_newPart_61 w d hd _ _ _
    · refine e_op 57 em_466 (ce_at ce_466 36 rfl) rfl rfl ?_
      refine e_goto em_466 61 (ce_at ce_466 37 rfl) rfl ?_
      refine e_pk [0, 1] rfl rfl ?_
      exact tm_newPart_61 w d hd _ _ _
  · refine e_mv 6 em_466 (ce_at ce_466 3 rfl) rfl rfl ?_
    refine e_mv 7 em_466 (ce_at ce_466 4 rfl) rfl rfl ?_
    refine e_mv 8 em_466 (ce_at ce_466 5 rfl) rfl rfl ?_
    refine e_op 9 em_466 (ce_at ce_466 6 rfl) rfl rfl ?_
    refine e_isub 10 em_466 rfl (ce_at ce_466 7 rfl) ?_
    refine e_ivi 13 em_466 (ce_at ce_466 8 rfl) (by omega) (iv_v1 (by decide) tq_121 rfl) em_467 (Nat.le_of_ble_eq_true rfl) rfl (tm_ownBits w (d - 1) (by omega) _ _) (fun r4 s4 => ?_)
    refine e_ivi 16 em_466 (ce_at ce_466 9 rfl) (by omega) (iv_v1 (by decide) tq_121 rfl) em_470 (Nat.le_of_ble_eq_true rfl) rfl (tm_newBits w (d - 1) (by omega) _ _) (fun r5 s5 => ?_)
    refine e_mv 17 em_466 (ce_at ce_466 10 rfl) rfl rfl ?_
    refine e_mv 18 em_466 (ce_at ce_466 11 rfl) rfl rfl ?_
    refine e_getr 21 em_466 (ce_at ce_466 12 rfl) tq_121 rfl rfl ?_
    refine e_mv 22 em_466 (ce_at ce_466 13 rfl) rfl rfl ?_
    refine e_get 25 em_466 (ce_at ce_466 14 rfl) tq_121 rfl rfl ?_
    refine e_mv 26 em_466 (ce_at ce_466 15 rfl) rfl rfl ?_
    refine e_op 27 em_466 (ce_at ce_466 16 rfl) rfl rfl ?_
    refine e_isub 28 em_466 rfl (ce_at ce_466 17 rfl) ?_
    refine e_gd fun g6 => ?_
    refine e_ist 29 em_466 (ce_at ce_466 18 rfl) tq_231 (by decide) g6 rfl (fun s7 => ?_)
    refine e_mv 30 em_466 (ce_at ce_466 19 rfl) rfl rfl ?_
    refine e_getr 33 em_466 (ce_at ce_466 20 rfl) tq_121 rfl rfl ?_
    refine e_mv 34 em_466 (ce_at ce_466 21 rfl) rfl rfl ?_
    refine e_get 37 em_466 (ce_at ce_466 22 rfl) tq_121 rfl rfl ?_
    refine e_mv 38 em_466 (ce_at ce_466 23 rfl) rfl rfl ?_
    refine e_gd fun g8 => ?_
    refine e_ist 39 em_466 (ce_at ce_466 24 rfl) tq_232 (by decide) g8 rfl (fun s9 => ?_)
    refine e_mv 40 em_466 (ce_at ce_466 25 rfl) rfl rfl ?_
    refine e_mv 41 em_466 (ce_at ce_466 26 rfl) rfl rfl ?_
    refine e_get 44 em_466 (ce_at ce_466 27 rfl) tq_121 rfl rfl ?_
    refine e_op 45 em_466 (ce_at ce_466 28 rfl) rfl rfl ?_
    refine e_iadd 46 em_466 rfl (ce_at ce_466 29 rfl) ?_
    refine e_put 49 em_466 (ce_at ce_466 30 rfl) tq_121 rfl rfl rfl (fun s10 => ?_)
    refine e_mv 50 em_466 (ce_at ce_466 31 rfl) rfl rfl ?_
    exact e_reti em_466 (ce_at ce_466 32 rfl)
theorem fm_newPart (v1 : Int) (s : iS) : Fm Prod.snd L_m_newPart G_m_newPart s (m_newPart v1 s) := fm_gd (fm_if (fm_if (fm_newPart_61 _ _ _) (fm_newPart_61 _ _ _)) (fm_bd (fm_sub (fm_ownBits _ _) (mem_sub_L rfl) (mem_sub_F rfl)) (fun r4 s4 => fm_bd (fm_sub (fm_newBits _ _) (mem_sub_L rfl) (mem_sub_F rfl)) (fun r5 s5 => fm_gd (fm_lt (md_upL (mem_L rfl)) (fun s7 => fm_gd (fm_lt (md_upL (mem_L rfl)) (fun s9 => fm_lt (md_upF (mem_F rfl)) (fun s10 => fm_some md_refl)))))))))
/-! m_isTrue -/
def L_m_isTrue : List Nat := []
def G_m_isTrue : List (Nat × Nat) := []
noncomputable def m_isTrue (v1 : Int) (s : iS) : Option (Int × iS) := gd (0 ≤ v1 ∧ v1 < 2002) (gd (rg (s 127 v1.toNat)) (if (s 127 v1.toNat) = 4 then some ((-2), s) else some ((-1), s)))
theorem tm_isTrue (w : ev_W) (d : Nat) (hd : 0 ≤ d) (v1 : Int) (s : iS) : Ew hT w d 472 0 [(0, .ref (tb_nK + 121)), (1, iv v1)] [] s (Ci hT) (m_isTrue v1 s) := by
  unfold m_isTrue
  refine e_mv 1 em_472 (ce_at ce_472 0 rfl) rfl rfl ?_
  refine e_getr 4 em_472 (ce_at ce_472 1 rfl) tq_121 rfl rfl ?_
  refine e_mv 5 em_472 (ce_at ce_472 2 rfl) rfl rfl ?_
  refine e_gd fun g1 => ?_
  refine e_ild 6 em_472 (ce_at ce_472 3 rfl) tq_127 (by decide) g1 rfl ?_
  refine e_op 7 em_472 (ce_at ce_472 4 rfl) rfl rfl ?_
  refine e_gd fun g2 => ?_
  refine e_cmne 15 10 em_472 rfl rfl (ce_at ce_472 5 rfl) g2 (by decide) (fun h3 => ?_) (fun h3 => ?_)
  · refine e_op 16 em_472 (ce_at ce_472 8 rfl) rfl rfl ?_
    exact e_reti em_472 (ce_at ce_472 9 rfl)
  · refine e_bip 12 em_472 (ce_at ce_472 6 rfl) (by decide) rfl ?_
    refine e_goto em_472 16 (ce_at ce_472 7 rfl) rfl ?_
    exact e_reti em_472 (ce_at ce_472 9 rfl)
theorem fm_isTrue (v1 : Int) (s : iS) : Fm Prod.snd L_m_isTrue G_m_isTrue s (m_isTrue v1 s) := fm_gd (fm_gd (fm_if (fm_some md_refl) (fm_some md_refl)))
/-! m_connect -/
def L_m_connect : List Nat := [222]
def G_m_connect : List (Nat × Nat) := []
def m_connect_201C (w : ev_W) (d : Nat) (v3 : Int) (v6 : Int) (v8 : Int) (v9 : Int) (v10 : Int) (v11 : Int) (v12 : Int) : (Int × iS) ⊕ (iS) → am_E → Prop := fun q r => q.elim (fun l => ev w d 471 201 ((fun l => [(0, .ref (tb_nK + 121)), (3, iv v3), (6, iv v6), (8, iv v8), (9, iv v9), (10, iv v10), (11, iv v11), (12, iv v12), (13, iv (l.1))]) l) [] (hT ((fun l => l.2) l)) r) (fun e => (fun e r => ev w d 471 271 [] [] (hT (e)) r) e r)
noncomputable def m_connect_264 (v3 : Int) (v6 : Int) (v8 : Int) (v9 : Int) (v10 : Int) (v11 : Int) (v12 : Int) (v13 : Int) (t0 : Int) (t1 : Int) (s : iS) : Option ((Int × iS) ⊕ (iS)) := gd (0 ≤ t1 ∧ t1 < 40000) (lt' (up s 222 t1.toNat t0) (fun s2 => some (.inl ((v13 + 1), s2))))
theorem tm_connect_264 (w : ev_W) (d : Nat) (hd : 3 ≤ d) (v3 : Int) (v6 : Int) (v8 : Int) (v9 : Int) (v10 : Int) (v11 : Int) (v12 : Int) (v13 : Int) (t0 : Int) (t1 : Int) (s : iS) : Ew hT w d 471 264 [(0, .ref (tb_nK + 121)), (3, iv v3), (6, iv v6), (8, iv v8), (9, iv v9), (10, iv v10), (11, iv v11), (12, iv v12), (13, iv v13)] [iv t0, iv t1, .ref (tb_nK + 222)] s (m_connect_201C w d v3 v6 v8 v9 v10 v11 v12) (m_connect_264 v3 v6 v8 v9 v10 v11 v12 v13 t0 t1 s) := by
  unfold m_connect_264
  refine e_gd fun g1 => ?_
  refine e_ist 265 em_471 (ce_at ce_471 145 rfl) tq_222 (by decide) g1 rfl (fun s2 => ?_)
  refine e_iinc 268 em_471 (ce_at ce_471 146 rfl) rfl (by decide) rfl ?_
  refine e_goto em_471 201 (ce_at ce_471 147 rfl) rfl ?_
  refine e_pk [0, 3, 6, 8, 9, 10, 11, 12, 13] rfl rfl ?_
  exact e_out (fun r h => h)
theorem fm_connect_264 (v3 : Int) (v6 : Int) (v8 : Int) (v9 : Int) (v10 : Int) (v11 : Int) (v12 : Int) (v13 : Int) (t0 : Int) (t1 : Int) (s : iS) : Fm (fun r : (Int × iS) ⊕ (iS) => r.elim (fun l => l.2) (fun e => e)) L_m_connect G_m_connect s (m_connect_264 v3 v6 v8 v9 v10 v11 v12 v13 t0 t1 s) := fm_gd (fm_lt (md_upL (mem_L rfl)) (fun s2 => fm_some md_refl))
noncomputable def m_connect_201b (v3 : Int) (v6 : Int) (v8 : Int) (v9 : Int) (v10 : Int) (v11 : Int) (v12 : Int) (v13 : Int) (s : iS) : Option ((Int × iS) ⊕ (iS)) := gd (rg v13) (gd (rg v8) (if v8 ≤ v13 then some (.inr s) else bd (m_isOut v3 v6 s) (fun r4 s4 => gd (rg r4) (if r4 = 0 then gd (rg v11) (if v11 = 0 then m_connect_264 v3 v6 v8 v9 v10 v11 v12 v13 (v12 + v13) (v9 + v13) s4 else bd (m_isTrue v10 s4) (fun r9 s9 => m_connect_264 v3 v6 v8 v9 v10 v11 v12 v13 r9 (v9 + v13) s9)) else gd (0 ≤ (v12 + v13) ∧ (v12 + v13) < 40000) (lt' (up s4 222 (v12 + v13).toNat (v9 + v13)) (fun s11 => some (.inl ((v13 + 1), s11))))))))
theorem tm_connect_201b (w : ev_W) (d : Nat) (hd : 3 ≤ d) (v3 : Int) (v6 : Int) (v8 : Int) (v9 : Int) (v10 : Int) (v11 : Int) (v12 : Int) (v13 : Int) (s : iS) : Ew hT w d 471 201 [(0, .ref (tb_nK + 121)), (3, iv v3), (6, iv v6), (8, iv v8), (9, iv v9), (10, iv v10), (11, iv v11), (12, iv v12), (13, iv v13)] [] s (m_connect_201C w d v3 v6 v8 v9 v10 v11 v12) (m_connect_201b v3 v6 v8 v9 v10 v11 v12 v13 s) := by
  unfold m_connect_201b
  refine e_mv 203 em_471 (ce_at ce_471 113 rfl) rfl rfl ?_
  refine e_mv 205 em_471 (ce_at ce_471 114 rfl) rfl rfl ?_
  refine e_gd fun g1 => ?_
  refine e_gd fun g2 => ?_
  refine e_cmge 271 208 em_471 rfl rfl (ce_at ce_471 115 rfl) g1 g2 (fun h3 => ?_) (fun h3 => ?_)
  · refine e_pk [] rfl rfl ?_
    exact e_out (fun r h => h)
  · refine e_mv 209 em_471 (ce_at ce_471 116 rfl) rfl rfl ?_
    refine e_mv 210 em_471 (ce_at ce_471 117 rfl) rfl rfl ?_
    refine e_mv 212 em_471 (ce_at ce_471 118 rfl) rfl rfl ?_
    refine e_ivi 215 em_471 (ce_at ce_471 119 rfl) (by omega) (iv_v2 (by decide) tq_121 rfl) em_457 (Nat.le_of_ble_eq_true rfl) rfl (tm_isOut w (d - 1) (by omega) _ _ _) (fun r4 s4 => ?_)
    refine e_gd fun g5 => ?_
    refine e_ifeq 236 218 em_471 rfl rfl (ce_at ce_471 120 rfl) g5 (fun h6 => ?_) (fun h6 => ?_)
    · refine e_mv 237 em_471 (ce_at ce_471 131 rfl) rfl rfl ?_
      refine e_getr 240 em_471 (ce_at ce_471 132 rfl) tq_121 rfl rfl ?_
      refine e_mv 242 em_471 (ce_at ce_471 133 rfl) rfl rfl ?_
      refine e_mv 244 em_471 (ce_at ce_471 134 rfl) rfl rfl ?_
      refine e_iadd 245 em_471 rfl (ce_at ce_471 135 rfl) ?_
      refine e_mv 247 em_471 (ce_at ce_471 136 rfl) rfl rfl ?_
      refine e_gd fun g7 => ?_
      refine e_ifeq 259 250 em_471 rfl rfl (ce_at ce_471 137 rfl) g7 (fun h8 => ?_) (fun h8 => ?_)
      · refine e_mv 261 em_471 (ce_at ce_471 142 rfl) rfl rfl ?_
        refine e_mv 263 em_471 (ce_at ce_471 143 rfl) rfl rfl ?_
        refine e_iadd 264 em_471 rfl (ce_at ce_471 144 rfl) ?_
        refine e_pk [0, 3, 6, 8, 9, 10, 11, 12, 13] rfl rfl ?_
        exact tm_connect_264 w d hd _ _ _ _ _ _ _ _ _ _ _
      · refine e_mv 251 em_471 (ce_at ce_471 138 rfl) rfl rfl ?_
        refine e_mv 253 em_471 (ce_at ce_471 139 rfl) rfl rfl ?_
        refine e_ivi 256 em_471 (ce_at ce_471 140 rfl) (by omega) (iv_v1 (by decide) tq_121 rfl) em_472 (Nat.le_of_ble_eq_true rfl) rfl (tm_isTrue w (d - 1) (by omega) _ _) (fun r9 s9 => ?_)
        refine e_goto em_471 264 (ce_at ce_471 141 rfl) rfl ?_
        refine e_pk [0, 3, 6, 8, 9, 10, 11, 12, 13] rfl rfl ?_
        exact tm_connect_264 w d hd _ _ _ _ _ _ _ _ _ _ _
    · refine e_mv 219 em_471 (ce_at ce_471 121 rfl) rfl rfl ?_
      refine e_getr 222 em_471 (ce_at ce_471 122 rfl) tq_121 rfl rfl ?_
      refine e_mv 224 em_471 (ce_at ce_471 123 rfl) rfl rfl ?_
      refine e_mv 226 em_471 (ce_at ce_471 124 rfl) rfl rfl ?_
      refine e_iadd 227 em_471 rfl (ce_at ce_471 125 rfl) ?_
      refine e_mv 229 em_471 (ce_at ce_471 126 rfl) rfl rfl ?_
      refine e_mv 231 em_471 (ce_at ce_471 127 rfl) rfl rfl ?_
      refine e_iadd 232 em_471 rfl (ce_at ce_471 128 rfl) ?_
      refine e_gd fun g10 => ?_
      refine e_ist 233 em_471 (ce_at ce_471 129 rfl) tq_222 (by decide) g10 rfl (fun s11 => ?_)
      refine e_goto em_471 265 (ce_at ce_471 130 rfl) rfl ?_
      refine e_iinc 268 em_471 (ce_at ce_471 146 rfl) rfl (by decide) rfl ?_
      refine e_goto em_471 201 (ce_at ce_471 147 rfl) rfl ?_
      refine e_pk [0, 3, 6, 8, 9, 10, 11, 12, 13] rfl rfl ?_
      exact e_out (fun r h => h)
theorem fm_connect_201b (v3 : Int) (v6 : Int) (v8 : Int) (v9 : Int) (v10 : Int) (v11 : Int) (v12 : Int) (v13 : Int) (s : iS) : Fm (fun r : (Int × iS) ⊕ (iS) => r.elim (fun l => l.2) (fun e => e)) L_m_connect G_m_connect s (m_connect_201b v3 v6 v8 v9 v10 v11 v12 v13 s) := fm_gd (fm_gd (fm_if (fm_some md_refl) (fm_bd (fm_sub (fm_isOut _ _ _) (mem_sub_L rfl) (mem_sub_F rfl)) (fun r4 s4 => fm_gd (fm_if (fm_gd (fm_if (fm_connect_264 _ _ _ _ _ _ _ _ _ _ _) (fm_bd (fm_sub (fm_isTrue _ _) (mem_sub_L rfl) (mem_sub_F rfl)) (fun r9 s9 => fm_connect_264 _ _ _ _ _ _ _ _ _ _ _)))) (fm_gd (fm_lt (md_upL (mem_L rfl)) (fun s11 => fm_some md_refl))))))))
noncomputable def m_connect_201 (v3 : Int) (v6 : Int) (v8 : Int) (v9 : Int) (v10 : Int) (v11 : Int) (v12 : Int) (v13 : Int) (s : iS) : Option (Int × iS) := (lp (L := Int × iS) (E := iS) (fun l => m_connect_201b v3 v6 v8 v9 v10 v11 v12 (l.1) (l.2)) (v13, s)).bind (fun e => some (0, e))
theorem tm_connect_201 (w : ev_W) (d : Nat) (hd : 3 ≤ d) (v3 : Int) (v6 : Int) (v8 : Int) (v9 : Int) (v10 : Int) (v11 : Int) (v12 : Int) (v13 : Int) (s : iS) : Ew hT w d 471 201 [(0, .ref (tb_nK + 121)), (3, iv v3), (6, iv v6), (8, iv v8), (9, iv v9), (10, iv v10), (11, iv v11), (12, iv v12), (13, iv v13)] [] s (Cv hT) (m_connect_201 v3 v6 v8 v9 v10 v11 v12 v13 s) := by
  unfold m_connect_201
  refine e_lp (LO := fun l => [(0, .ref (tb_nK + 121)), (3, iv v3), (6, iv v6), (8, iv v8), (9, iv v9), (10, iv v10), (11, iv v11), (12, iv v12), (13, iv (l.1))]) (LS := fun l => l.2) (CE := fun e r => ev w d 471 271 [] [] (hT (e)) r) (fun l => tm_connect_201b w d hd _ _ _ _ _ _ _ _ _) ?_ (v13, s)
  intro e
  show Ew hT w d 471 271 [] [] e (Cv hT) _
  exact e_retv em_471 (ce_at ce_471 148 rfl)
theorem fm_connect_201 (v3 : Int) (v6 : Int) (v8 : Int) (v9 : Int) (v10 : Int) (v11 : Int) (v12 : Int) (v13 : Int) (s : iS) : Fm Prod.snd L_m_connect G_m_connect s (m_connect_201 v3 v6 v8 v9 v10 v11 v12 v13 s) := fm_lp (LS := fun l => l.2) (LE := fun e => e) (fun l => fm_connect_201b _ _ _ _ _ _ _ _ _) (fun e => fm_some md_refl) (v13, s)
noncomputable def m_connect_198 (v3 : Int) (v6 : Int) (v8 : Int) (v9 : Int) (v10 : Int) (v11 : Int) (v12 : Int) (s : iS) : Option (Int × iS) := m_connect_201 v3 v6 v8 v9 v10 v11 v12 0 s
theorem tm_connect_198 (w : ev_W) (d : Nat) (hd : 3 ≤ d) (v3 : Int) (v6 : Int) (v8 : Int) (v9 : Int) (v10 : Int) (v11 : Int) (v12 : Int) (s : iS) : Ew hT w d 471 198 [(0, .ref (tb_nK + 121)), (3, iv v3), (6, iv v6), (8, iv v8), (9, iv v9), (10, iv v10), (11, iv v11), (12, iv v12)] [] s (Cv hT) (m_connect_198 v3 v6 v8 v9 v10 v11 v12 s) := by
  unfold m_connect_198
  refine e_op 199 em_471 (ce_at ce_471 111 rfl) rfl rfl ?_
  refine e_mv 201 em_471 (ce_at ce_471 112 rfl) rfl rfl ?_
  refine e_pk [0, 3, 6, 8, 9, 10, 11, 12, 13] rfl rfl ?_
  exact tm_connect_201 w d hd _ _ _ _ _ _ _ _ _
theorem fm_connect_198 (v3 : Int) (v6 : Int) (v8 : Int) (v9 : Int) (v10 : Int) (v11 : Int) (v12 : Int) (s : iS) : Fm Prod.snd L_m_connect G_m_connect s (m_connect_198 v3 v6 v8 v9 v10 v11 v12 s) := fm_connect_201 _ _ _ _ _ _ _ _ _
noncomputable def m_connect_195 (v3 : Int) (v6 : Int) (v8 : Int) (v9 : Int) (v10 : Int) (v11 : Int) (t0 : Int) (t1 : Int) (s : iS) : Option (Int × iS) := m_connect_198 v3 v6 v8 v9 v10 v11 (t1 + t0) s
theorem tm_connect_195 (w : ev_W) (d : Nat) (hd : 3 ≤ d) (v3 : Int) (v6 : Int) (v8 : Int) (v9 : Int) (v10 : Int) (v11 : Int) (t0 : Int) (t1 : Int) (s : iS) : Ew hT w d 471 195 [(0, .ref (tb_nK + 121)), (3, iv v3), (6, iv v6), (8, iv v8), (9, iv v9), (10, iv v10), (11, iv v11)] [iv t0, iv t1] s (Cv hT) (m_connect_195 v3 v6 v8 v9 v10 v11 t0 t1 s) := by
  unfold m_connect_195
  refine e_iadd 196 em_471 rfl (ce_at ce_471 109 rfl) ?_
  refine e_mv 198 em_471 (ce_at ce_471 110 rfl) rfl rfl ?_
  refine e_pk [0, 3, 6, 8, 9, 10, 11, 12] rfl rfl ?_
  exact tm_connect_198 w d hd _ _ _ _ _ _ _ _
theorem fm_connect_195 (v3 : Int) (v6 : Int) (v8 : Int) (v9 : Int) (v10 : Int) (v11 : Int) (t0 : Int) (t1 : Int) (s : iS) : Fm Prod.snd L_m_connect G_m_connect s (m_connect_195 v3 v6 v8 v9 v10 v11 t0 t1 s) := fm_connect_198 _ _ _ _ _ _ _ _
noncomputable def m_connect_194 (v3 : Int) (v6 : Int) (v8 : Int) (v9 : Int) (v10 : Int) (v11 : Int) (t0 : Int) (t1 : Int) (t2 : Int) (s : iS) : Option (Int × iS) := m_connect_195 v3 v6 v8 v9 v10 v11 (t1 + t0) t2 s
theorem tm_connect_194 (w : ev_W) (d : Nat) (hd : 3 ≤ d) (v3 : Int) (v6 : Int) (v8 : Int) (v9 : Int) (v10 : Int) (v11 : Int) (t0 : Int) (t1 : Int) (t2 : Int) (s : iS) : Ew hT w d 471 194 [(0, .ref (tb_nK + 121)), (3, iv v3), (6, iv v6), (8, iv v8), (9, iv v9), (10, iv v10), (11, iv v11)] [iv t0, iv t1, iv t2] s (Cv hT) (m_connect_194 v3 v6 v8 v9 v10 v11 t0 t1 t2 s) := by
  unfold m_connect_194
  refine e_iadd 195 em_471 rfl (ce_at ce_471 108 rfl) ?_
  refine e_pk [0, 3, 6, 8, 9, 10, 11] rfl rfl ?_
  exact tm_connect_195 w d hd _ _ _ _ _ _ _ _ _
theorem fm_connect_194 (v3 : Int) (v6 : Int) (v8 : Int) (v9 : Int) (v10 : Int) (v11 : Int) (t0 : Int) (t1 : Int) (t2 : Int) (s : iS) : Fm Prod.snd L_m_connect G_m_connect s (m_connect_194 v3 v6 v8 v9 v10 v11 t0 t1 t2 s) := fm_connect_195 _ _ _ _ _ _ _ _ _
noncomputable def m_connect_124 (v1 : Int) (v2 : Int) (v3 : Int) (v5 : Int) (v6 : Int) (v8 : Int) (v9 : Int) (v10 : Int) (t0 : Int) (s : iS) : Option (Int × iS) := gd (rg t0) (if t0 = 0 then bd (m_pinOf v1 v10 s) (fun r3 s3 => gd (rg r3) (if r3 = (-1) then bd (m_innerOf v1 v10 s3) (fun r10 s10 => bd (m_innerPlace v1 r10 s10) (fun r11 s11 => m_connect_195 v3 v6 v8 v9 v10 t0 r11 v2 s11)) else bd (m_pinPlace v1 r3 s3) (fun r6 s6 => gd (0 ≤ v5 ∧ v5 < 700) (gd (rg (s6 209 v5.toNat)) (if (s6 209 v5.toNat) = (-1) then m_connect_194 v3 v6 v8 v9 v10 t0 0 r6 v2 s6 else m_connect_194 v3 v6 v8 v9 v10 t0 (s6 210 v5.toNat) r6 v2 s6))))) else m_connect_198 v3 v6 v8 v9 v10 t0 0 s)
theorem tm_connect_124 (w : ev_W) (d : Nat) (hd : 3 ≤ d) (v1 : Int) (v2 : Int) (v3 : Int) (v5 : Int) (v6 : Int) (v8 : Int) (v9 : Int) (v10 : Int) (t0 : Int) (s : iS) : Ew hT w d 471 124 [(0, .ref (tb_nK + 121)), (1, iv v1), (2, iv v2), (3, iv v3), (5, iv v5), (6, iv v6), (8, iv v8), (9, iv v9), (10, iv v10)] [iv t0] s (Cv hT) (m_connect_124 v1 v2 v3 v5 v6 v8 v9 v10 t0 s) := by
  unfold m_connect_124
  refine e_mv 126 em_471 (ce_at ce_471 70 rfl) rfl rfl ?_
  refine e_op 127 em_471 (ce_at ce_471 71 rfl) rfl rfl ?_
  refine e_mv 129 em_471 (ce_at ce_471 72 rfl) rfl rfl ?_
  refine e_mv 131 em_471 (ce_at ce_471 73 rfl) rfl rfl ?_
  refine e_gd fun g1 => ?_
  refine e_ifne 198 134 em_471 rfl rfl (ce_at ce_471 74 rfl) g1 (fun h2 => ?_) (fun h2 => ?_)
  · refine e_pk [0, 3, 6, 8, 9, 10, 11, 12] rfl rfl ?_
    exact tm_connect_198 w d hd _ _ _ _ _ _ _ _
  · refine e_mv 135 em_471 (ce_at ce_471 75 rfl) rfl rfl ?_
    refine e_mv 136 em_471 (ce_at ce_471 76 rfl) rfl rfl ?_
    refine e_mv 138 em_471 (ce_at ce_471 77 rfl) rfl rfl ?_
    refine e_ivi 141 em_471 (ce_at ce_471 78 rfl) (by omega) (iv_v2 (by decide) tq_121 rfl) em_450 (Nat.le_of_ble_eq_true rfl) rfl (tm_pinOf w (d - 1) (by omega) _ _ _) (fun r3 s3 => ?_)
    refine e_mv 143 em_471 (ce_at ce_471 79 rfl) rfl rfl ?_
    refine e_mv 144 em_471 (ce_at ce_471 80 rfl) rfl rfl ?_
    refine e_mv 146 em_471 (ce_at ce_471 81 rfl) rfl rfl ?_
    refine e_op 147 em_471 (ce_at ce_471 82 rfl) rfl rfl ?_
    refine e_gd fun g4 => ?_
    refine e_cmne 165 150 em_471 rfl rfl (ce_at ce_471 83 rfl) g4 (by decide) (fun h5 => ?_) (fun h5 => ?_)
    · refine e_mv 166 em_471 (ce_at ce_471 92 rfl) rfl rfl ?_
      refine e_mv 167 em_471 (ce_at ce_471 93 rfl) rfl rfl ?_
      refine e_mv 169 em_471 (ce_at ce_471 94 rfl) rfl rfl ?_
      refine e_ivi 172 em_471 (ce_at ce_471 95 rfl) (by omega) (iv_v2 (by decide) tq_121 rfl) em_469 (Nat.le_of_ble_eq_true rfl) rfl (tm_pinPlace w (d - 1) (by omega) _ _ _) (fun r6 s6 => ?_)
      refine e_mv 173 em_471 (ce_at ce_471 96 rfl) rfl rfl ?_
      refine e_getr 176 em_471 (ce_at ce_471 97 rfl) tq_121 rfl rfl ?_
      refine e_mv 178 em_471 (ce_at ce_471 98 rfl) rfl rfl ?_
      refine e_gd fun g7 => ?_
      refine e_ild 179 em_471 (ce_at ce_471 99 rfl) tq_209 (by decide) g7 rfl ?_
      refine e_op 180 em_471 (ce_at ce_471 100 rfl) rfl rfl ?_
      refine e_gd fun g8 => ?_
      refine e_cmne 187 183 em_471 rfl rfl (ce_at ce_471 101 rfl) g8 (by decide) (fun h9 => ?_) (fun h9 => ?_)
      · refine e_mv 188 em_471 (ce_at ce_471 104 rfl) rfl rfl ?_
        refine e_getr 191 em_471 (ce_at ce_471 105 rfl) tq_121 rfl rfl ?_
        refine e_mv 193 em_471 (ce_at ce_471 106 rfl) rfl rfl ?_
        refine e_ild 194 em_471 (ce_at ce_471 107 rfl) tq_210 (by decide) g7 rfl ?_
        refine e_pk [0, 3, 6, 8, 9, 10, 11] rfl rfl ?_
        exact tm_connect_194 w d hd _ _ _ _ _ _ _ _ _ _
      · refine e_op 184 em_471 (ce_at ce_471 102 rfl) rfl rfl ?_
        refine e_goto em_471 194 (ce_at ce_471 103 rfl) rfl ?_
        refine e_pk [0, 3, 6, 8, 9, 10, 11] rfl rfl ?_
        exact tm_connect_194 w d hd _ _ _ _ _ _ _ _ _ _
    · refine e_mv 151 em_471 (ce_at ce_471 84 rfl) rfl rfl ?_
      refine e_mv 152 em_471 (ce_at ce_471 85 rfl) rfl rfl ?_
      refine e_mv 153 em_471 (ce_at ce_471 86 rfl) rfl rfl ?_
      refine e_mv 154 em_471 (ce_at ce_471 87 rfl) rfl rfl ?_
      refine e_mv 156 em_471 (ce_at ce_471 88 rfl) rfl rfl ?_
      refine e_ivi 159 em_471 (ce_at ce_471 89 rfl) (by omega) (iv_v2 (by decide) tq_121 rfl) em_451 (Nat.le_of_ble_eq_true rfl) rfl (tm_innerOf w (d - 1) (by omega) _ _ _) (fun r10 s10 => ?_)
      refine e_ivi 162 em_471 (ce_at ce_471 90 rfl) (by omega) (iv_v2 (by decide) tq_121 rfl) em_468 (Nat.le_of_ble_eq_true rfl) rfl (tm_innerPlace w (d - 1) (by omega) _ _ _) (fun r11 s11 => ?_)
      refine e_goto em_471 195 (ce_at ce_471 91 rfl) rfl ?_
      refine e_pk [0, 3, 6, 8, 9, 10, 11] rfl rfl ?_
      exact tm_connect_195 w d hd _ _ _ _ _ _ _ _ _
theorem fm_connect_124 (v1 : Int) (v2 : Int) (v3 : Int) (v5 : Int) (v6 : Int) (v8 : Int) (v9 : Int) (v10 : Int) (t0 : Int) (s : iS) : Fm Prod.snd L_m_connect G_m_connect s (m_connect_124 v1 v2 v3 v5 v6 v8 v9 v10 t0 s) := fm_gd (fm_if (fm_bd (fm_sub (fm_pinOf _ _ _) (mem_sub_L rfl) (mem_sub_F rfl)) (fun r3 s3 => fm_gd (fm_if (fm_bd (fm_sub (fm_innerOf _ _ _) (mem_sub_L rfl) (mem_sub_F rfl)) (fun r10 s10 => fm_bd (fm_sub (fm_innerPlace _ _ _) (mem_sub_L rfl) (mem_sub_F rfl)) (fun r11 s11 => fm_connect_195 _ _ _ _ _ _ _ _ _))) (fm_bd (fm_sub (fm_pinPlace _ _ _) (mem_sub_L rfl) (mem_sub_F rfl)) (fun r6 s6 => fm_gd (fm_gd (fm_if (fm_connect_194 _ _ _ _ _ _ _ _ _ _) (fm_connect_194 _ _ _ _ _ _ _ _ _ _)))))))) (fm_connect_198 _ _ _ _ _ _ _ _))
noncomputable def m_connect_96 (v1 : Int) (v2 : Int) (v3 : Int) (v5 : Int) (v6 : Int) (v8 : Int) (t0 : Int) (t1 : Int) (s : iS) : Option (Int × iS) := gd (0 ≤ v5 ∧ v5 < 700) (gd (0 ≤ (s 208 v5.toNat) ∧ (s 208 v5.toNat) < 2002) (gd (rg (s 124 (s 208 v5.toNat).toNat)) (if (s 124 (s 208 v5.toNat).toNat) = 1 then m_connect_124 v1 v2 v3 v5 v6 v8 (t1 + t0) (s 208 v5.toNat) 0 s else m_connect_124 v1 v2 v3 v5 v6 v8 (t1 + t0) (s 208 v5.toNat) 1 s)))
theorem tm_connect_96 (w : ev_W) (d : Nat) (hd : 3 ≤ d) (v1 : Int) (v2 : Int) (v3 : Int) (v5 : Int) (v6 : Int) (v8 : Int) (t0 : Int) (t1 : Int) (s : iS) : Ew hT w d 471 96 [(0, .ref (tb_nK + 121)), (1, iv v1), (2, iv v2), (3, iv v3), (5, iv v5), (6, iv v6), (8, iv v8)] [iv t0, iv t1] s (Cv hT) (m_connect_96 v1 v2 v3 v5 v6 v8 t0 t1 s) := by
  unfold m_connect_96
  refine e_iadd 97 em_471 rfl (ce_at ce_471 54 rfl) ?_
  refine e_mv 99 em_471 (ce_at ce_471 55 rfl) rfl rfl ?_
  refine e_mv 100 em_471 (ce_at ce_471 56 rfl) rfl rfl ?_
  refine e_getr 103 em_471 (ce_at ce_471 57 rfl) tq_121 rfl rfl ?_
  refine e_mv 105 em_471 (ce_at ce_471 58 rfl) rfl rfl ?_
  refine e_gd fun g1 => ?_
  refine e_ild 106 em_471 (ce_at ce_471 59 rfl) tq_208 (by decide) g1 rfl ?_
  refine e_mv 108 em_471 (ce_at ce_471 60 rfl) rfl rfl ?_
  refine e_mv 109 em_471 (ce_at ce_471 61 rfl) rfl rfl ?_
  refine e_getr 112 em_471 (ce_at ce_471 62 rfl) tq_121 rfl rfl ?_
  refine e_mv 114 em_471 (ce_at ce_471 63 rfl) rfl rfl ?_
  refine e_gd fun g2 => ?_
  refine e_ild 115 em_471 (ce_at ce_471 64 rfl) tq_124 (by decide) g2 rfl ?_
  refine e_op 116 em_471 (ce_at ce_471 65 rfl) rfl rfl ?_
  refine e_gd fun g3 => ?_
  refine e_cmeq 123 119 em_471 rfl rfl (ce_at ce_471 66 rfl) g3 (by decide) (fun h4 => ?_) (fun h4 => ?_)
  · refine e_op 124 em_471 (ce_at ce_471 69 rfl) rfl rfl ?_
    refine e_pk [0, 1, 2, 3, 5, 6, 8, 9, 10] rfl rfl ?_
    exact tm_connect_124 w d hd _ _ _ _ _ _ _ _ _ _
  · refine e_op 120 em_471 (ce_at ce_471 67 rfl) rfl rfl ?_
    refine e_goto em_471 124 (ce_at ce_471 68 rfl) rfl ?_
    refine e_pk [0, 1, 2, 3, 5, 6, 8, 9, 10] rfl rfl ?_
    exact tm_connect_124 w d hd _ _ _ _ _ _ _ _ _ _
theorem fm_connect_96 (v1 : Int) (v2 : Int) (v3 : Int) (v5 : Int) (v6 : Int) (v8 : Int) (t0 : Int) (t1 : Int) (s : iS) : Fm Prod.snd L_m_connect G_m_connect s (m_connect_96 v1 v2 v3 v5 v6 v8 t0 t1 s) := fm_gd (fm_gd (fm_gd (fm_if (fm_connect_124 _ _ _ _ _ _ _ _ _ _) (fm_connect_124 _ _ _ _ _ _ _ _ _ _))))
noncomputable def m_connect_73 (v1 : Int) (v2 : Int) (v3 : Int) (v5 : Int) (v6 : Int) (v8 : Int) (t0 : Int) (t1 : Int) (s : iS) : Option (Int × iS) := gd (0 ≤ v5 ∧ v5 < 700) (gd (rg (s 205 v5.toNat)) (if (s 205 v5.toNat) = (-1) then m_connect_96 v1 v2 v3 v5 v6 v8 0 (t1 + t0) s else m_connect_96 v1 v2 v3 v5 v6 v8 (s 206 v5.toNat) (t1 + t0) s))
theorem tm_connect_73 (w : ev_W) (d : Nat) (hd : 3 ≤ d) (v1 : Int) (v2 : Int) (v3 : Int) (v5 : Int) (v6 : Int) (v8 : Int) (t0 : Int) (t1 : Int) (s : iS) : Ew hT w d 471 73 [(0, .ref (tb_nK + 121)), (1, iv v1), (2, iv v2), (3, iv v3), (5, iv v5), (6, iv v6), (8, iv v8)] [iv t0, iv t1] s (Cv hT) (m_connect_73 v1 v2 v3 v5 v6 v8 t0 t1 s) := by
  unfold m_connect_73
  refine e_iadd 74 em_471 rfl (ce_at ce_471 41 rfl) ?_
  refine e_mv 75 em_471 (ce_at ce_471 42 rfl) rfl rfl ?_
  refine e_getr 78 em_471 (ce_at ce_471 43 rfl) tq_121 rfl rfl ?_
  refine e_mv 80 em_471 (ce_at ce_471 44 rfl) rfl rfl ?_
  refine e_gd fun g1 => ?_
  refine e_ild 81 em_471 (ce_at ce_471 45 rfl) tq_205 (by decide) g1 rfl ?_
  refine e_op 82 em_471 (ce_at ce_471 46 rfl) rfl rfl ?_
  refine e_gd fun g2 => ?_
  refine e_cmne 89 85 em_471 rfl rfl (ce_at ce_471 47 rfl) g2 (by decide) (fun h3 => ?_) (fun h3 => ?_)
  · refine e_mv 90 em_471 (ce_at ce_471 50 rfl) rfl rfl ?_
    refine e_getr 93 em_471 (ce_at ce_471 51 rfl) tq_121 rfl rfl ?_
    refine e_mv 95 em_471 (ce_at ce_471 52 rfl) rfl rfl ?_
    refine e_ild 96 em_471 (ce_at ce_471 53 rfl) tq_206 (by decide) g1 rfl ?_
    refine e_pk [0, 1, 2, 3, 5, 6, 8] rfl rfl ?_
    exact tm_connect_96 w d hd _ _ _ _ _ _ _ _ _
  · refine e_op 86 em_471 (ce_at ce_471 48 rfl) rfl rfl ?_
    refine e_goto em_471 96 (ce_at ce_471 49 rfl) rfl ?_
    refine e_pk [0, 1, 2, 3, 5, 6, 8] rfl rfl ?_
    exact tm_connect_96 w d hd _ _ _ _ _ _ _ _ _
theorem fm_connect_73 (v1 : Int) (v2 : Int) (v3 : Int) (v5 : Int) (v6 : Int) (v8 : Int) (t0 : Int) (t1 : Int) (s : iS) : Fm Prod.snd L_m_connect G_m_connect s (m_connect_73 v1 v2 v3 v5 v6 v8 t0 t1 s) := fm_gd (fm_gd (fm_if (fm_connect_96 _ _ _ _ _ _ _ _ _) (fm_connect_96 _ _ _ _ _ _ _ _ _)))
noncomputable def m_connect (v1 : Int) (v2 : Int) (v3 : Int) (v4 : Int) (v5 : Int) (s : iS) : Option (Int × iS) := gd (0 ≤ v5 ∧ v5 < 700) (bd (m_pinOfPart v3 (s 204 v5.toNat) s) (fun r2 s2 => bd (m_widthOf v3 r2 s2) (fun r3 s3 => bd (m_bitsOf (s3 205 v5.toNat) (s3 206 v5.toNat) (s3 207 v5.toNat) r3 s3) (fun r4 s4 => gd (rg v3) (if v3 ≤ 1 then m_connect_73 v1 v2 v3 v5 r2 r4 r2 v4 s4 else bd (m_pinPlace (v3 - 2) r2 s4) (fun r7 s7 => m_connect_73 v1 v2 v3 v5 r2 r4 r7 v4 s7))))))
theorem tm_connect (w : ev_W) (d : Nat) (hd : 3 ≤ d) (v1 : Int) (v2 : Int) (v3 : Int) (v4 : Int) (v5 : Int) (s : iS) : Ew hT w d 471 0 [(0, .ref (tb_nK + 121)), (1, iv v1), (2, iv v2), (3, iv v3), (4, iv v4), (5, iv v5)] [] s (Cv hT) (m_connect v1 v2 v3 v4 v5 s) := by
  unfold m_connect
  refine e_mv 1 em_471 (ce_at ce_471 0 rfl) rfl rfl ?_
  refine e_mv 2 em_471 (ce_at ce_471 1 rfl) rfl rfl ?_
  refine e_mv 3 em_471 (ce_at ce_471 2 rfl) rfl rfl ?_
  refine e_getr 6 em_471 (ce_at ce_471 3 rfl) tq_121 rfl rfl ?_
  refine e_mv 8 em_471 (ce_at ce_471 4 rfl) rfl rfl ?_
  refine e_gd fun g1 => ?_
  refine e_ild 9 em_471 (ce_at ce_471 5 rfl) tq_204 (by decide) g1 rfl ?_
  refine e_ivi 12 em_471 (ce_at ce_471 6 rfl) (by omega) (iv_v2 (by decide) tq_121 rfl) em_456 (Nat.le_of_ble_eq_true rfl) rfl (tm_pinOfPart w (d - 1) (by omega) _ _ _) (fun r2 s2 => ?_)
  refine e_mv 14 em_471 (ce_at ce_471 7 rfl) rfl rfl ?_
  refine e_mv 15 em_471 (ce_at ce_471 8 rfl) rfl rfl ?_
  refine e_mv 16 em_471 (ce_at ce_471 9 rfl) rfl rfl ?_
  refine e_mv 18 em_471 (ce_at ce_471 10 rfl) rfl rfl ?_
  refine e_ivi 21 em_471 (ce_at ce_471 11 rfl) (by omega) (iv_v2 (by decide) tq_121 rfl) em_458 (Nat.le_of_ble_eq_true rfl) rfl (tm_widthOf w (d - 1) (by omega) _ _ _) (fun r3 s3 => ?_)
  refine e_mv 23 em_471 (ce_at ce_471 12 rfl) rfl rfl ?_
  refine e_mv 24 em_471 (ce_at ce_471 13 rfl) rfl rfl ?_
  refine e_mv 25 em_471 (ce_at ce_471 14 rfl) rfl rfl ?_
  refine e_getr 28 em_471 (ce_at ce_471 15 rfl) tq_121 rfl rfl ?_
  refine e_mv 30 em_471 (ce_at ce_471 16 rfl) rfl rfl ?_
  refine e_ild 31 em_471 (ce_at ce_471 17 rfl) tq_205 (by decide) g1 rfl ?_
  refine e_mv 32 em_471 (ce_at ce_471 18 rfl) rfl rfl ?_
  refine e_getr 35 em_471 (ce_at ce_471 19 rfl) tq_121 rfl rfl ?_
  refine e_mv 37 em_471 (ce_at ce_471 20 rfl) rfl rfl ?_
  refine e_ild 38 em_471 (ce_at ce_471 21 rfl) tq_206 (by decide) g1 rfl ?_
  refine e_mv 39 em_471 (ce_at ce_471 22 rfl) rfl rfl ?_
  refine e_getr 42 em_471 (ce_at ce_471 23 rfl) tq_121 rfl rfl ?_
  refine e_mv 44 em_471 (ce_at ce_471 24 rfl) rfl rfl ?_
  refine e_ild 45 em_471 (ce_at ce_471 25 rfl) tq_207 (by decide) g1 rfl ?_
  refine e_mv 47 em_471 (ce_at ce_471 26 rfl) rfl rfl ?_
  refine e_ivi 50 em_471 (ce_at ce_471 27 rfl) (by omega) (iv_v4 (by decide) tq_121 rfl) em_460 (Nat.le_of_ble_eq_true rfl) rfl (tm_bitsOf w (d - 1) (by omega) _ _ _ _ _) (fun r4 s4 => ?_)
  refine e_mv 52 em_471 (ce_at ce_471 28 rfl) rfl rfl ?_
  refine e_mv 54 em_471 (ce_at ce_471 29 rfl) rfl rfl ?_
  refine e_mv 55 em_471 (ce_at ce_471 30 rfl) rfl rfl ?_
  refine e_op 56 em_471 (ce_at ce_471 31 rfl) rfl rfl ?_
  refine e_gd fun g5 => ?_
  refine e_cmle 71 59 em_471 rfl rfl (ce_at ce_471 32 rfl) g5 (by decide) (fun h6 => ?_) (fun h6 => ?_)
  · refine e_mv 73 em_471 (ce_at ce_471 40 rfl) rfl rfl ?_
    refine e_pk [0, 1, 2, 3, 5, 6, 8] rfl rfl ?_
    exact tm_connect_73 w d hd _ _ _ _ _ _ _ _ _
  · refine e_mv 60 em_471 (ce_at ce_471 33 rfl) rfl rfl ?_
    refine e_mv 61 em_471 (ce_at ce_471 34 rfl) rfl rfl ?_
    refine e_op 62 em_471 (ce_at ce_471 35 rfl) rfl rfl ?_
    refine e_isub 63 em_471 rfl (ce_at ce_471 36 rfl) ?_
    refine e_mv 65 em_471 (ce_at ce_471 37 rfl) rfl rfl ?_
    refine e_ivi 68 em_471 (ce_at ce_471 38 rfl) (by omega) (iv_v2 (by decide) tq_121 rfl) em_469 (Nat.le_of_ble_eq_true rfl) rfl (tm_pinPlace w (d - 1) (by omega) _ _ _) (fun r7 s7 => ?_)
    refine e_goto em_471 73 (ce_at ce_471 39 rfl) rfl ?_
    refine e_pk [0, 1, 2, 3, 5, 6, 8] rfl rfl ?_
    exact tm_connect_73 w d hd _ _ _ _ _ _ _ _ _
theorem fm_connect (v1 : Int) (v2 : Int) (v3 : Int) (v4 : Int) (v5 : Int) (s : iS) : Fm Prod.snd L_m_connect G_m_connect s (m_connect v1 v2 v3 v4 v5 s) := fm_gd (fm_bd (fm_sub (fm_pinOfPart _ _ _) (mem_sub_L rfl) (mem_sub_F rfl)) (fun r2 s2 => fm_bd (fm_sub (fm_widthOf _ _ _) (mem_sub_L rfl) (mem_sub_F rfl)) (fun r3 s3 => fm_bd (fm_sub (fm_bitsOf _ _ _ _ _) (mem_sub_L rfl) (mem_sub_F rfl)) (fun r4 s4 => fm_gd (fm_if (fm_connect_73 _ _ _ _ _ _ _ _ _) (fm_bd (fm_sub (fm_pinPlace _ _ _) (mem_sub_L rfl) (mem_sub_F rfl)) (fun r7 s7 => fm_connect_73 _ _ _ _ _ _ _ _ _)))))))
/-! m_source -/
def L_m_source : List Nat := []
def G_m_source : List (Nat × Nat) := []
def m_source_2C (w : ev_W) (d : Nat) : (Int × iS) ⊕ (Int × iS) → am_E → Prop := fun q r => q.elim (fun l => ev w d 473 2 ((fun l => [(0, .ref (tb_nK + 121)), (2, iv (l.1))]) l) [] (hT ((fun l => l.2) l)) r) (fun e => (fun e r => ev w d 473 35 [(2, iv (e.1))] [] (hT (e.2)) r) e r)
noncomputable def m_source_2b (v2 : Int) (s : iS) : Option ((Int × iS) ⊕ (Int × iS)) := gd (rg v2) (if v2 < 0 then some (.inr (v2, s)) else gd (0 ≤ v2 ∧ v2 < 40000) (gd (rg (s 223 v2.toNat)) (if (s 223 v2.toNat) = 0 then gd (rg (s 222 v2.toNat)) (if (s 222 v2.toNat) = (-1) then some (.inr (v2, s)) else some (.inl ((s 222 v2.toNat), s))) else some (.inr (v2, s)))))
theorem tm_source_2b (w : ev_W) (d : Nat) (hd : 0 ≤ d) (v2 : Int) (s : iS) : Ew hT w d 473 2 [(0, .ref (tb_nK + 121)), (2, iv v2)] [] s (m_source_2C w d) (m_source_2b v2 s) := by
  unfold m_source_2b
  refine e_mv 3 em_473 (ce_at ce_473 2 rfl) rfl rfl ?_
  refine e_gd fun g1 => ?_
  refine e_iflt 35 6 em_473 rfl rfl (ce_at ce_473 3 rfl) g1 (fun h2 => ?_) (fun h2 => ?_)
  · refine e_pk [2] rfl rfl ?_
    exact e_out (fun r h => h)
  · refine e_mv 7 em_473 (ce_at ce_473 4 rfl) rfl rfl ?_
    refine e_getr 10 em_473 (ce_at ce_473 5 rfl) tq_121 rfl rfl ?_
    refine e_mv 11 em_473 (ce_at ce_473 6 rfl) rfl rfl ?_
    refine e_gd fun g3 => ?_
    refine e_ild 12 em_473 (ce_at ce_473 7 rfl) tq_223 (by decide) g3 rfl ?_
    refine e_gd fun g4 => ?_
    refine e_ifne 35 15 em_473 rfl rfl (ce_at ce_473 8 rfl) g4 (fun h5 => ?_) (fun h5 => ?_)
    · refine e_pk [2] rfl rfl ?_
      exact e_out (fun r h => h)
    · refine e_mv 16 em_473 (ce_at ce_473 9 rfl) rfl rfl ?_
      refine e_getr 19 em_473 (ce_at ce_473 10 rfl) tq_121 rfl rfl ?_
      refine e_mv 20 em_473 (ce_at ce_473 11 rfl) rfl rfl ?_
      refine e_ild 21 em_473 (ce_at ce_473 12 rfl) tq_222 (by decide) g3 rfl ?_
      refine e_op 22 em_473 (ce_at ce_473 13 rfl) rfl rfl ?_
      refine e_gd fun g6 => ?_
      refine e_cmeq 35 25 em_473 rfl rfl (ce_at ce_473 14 rfl) g6 (by decide) (fun h7 => ?_) (fun h7 => ?_)
      · refine e_pk [2] rfl rfl ?_
        exact e_out (fun r h => h)
      · refine e_mv 26 em_473 (ce_at ce_473 15 rfl) rfl rfl ?_
        refine e_getr 29 em_473 (ce_at ce_473 16 rfl) tq_121 rfl rfl ?_
        refine e_mv 30 em_473 (ce_at ce_473 17 rfl) rfl rfl ?_
        refine e_ild 31 em_473 (ce_at ce_473 18 rfl) tq_222 (by decide) g3 rfl ?_
        refine e_mv 32 em_473 (ce_at ce_473 19 rfl) rfl rfl ?_
        refine e_goto em_473 2 (ce_at ce_473 20 rfl) rfl ?_
        refine e_pk [0, 2] rfl rfl ?_
        exact e_out (fun r h => h)
theorem fm_source_2b (v2 : Int) (s : iS) : Fm (fun r : (Int × iS) ⊕ (Int × iS) => r.elim (fun l => l.2) (fun e => e.2)) L_m_source G_m_source s (m_source_2b v2 s) := fm_gd (fm_if (fm_some md_refl) (fm_gd (fm_gd (fm_if (fm_gd (fm_if (fm_some md_refl) (fm_some md_refl))) (fm_some md_refl)))))
noncomputable def m_source_2 (v2 : Int) (s : iS) : Option (Int × iS) := (lp (L := Int × iS) (E := Int × iS) (fun l => m_source_2b (l.1) (l.2)) (v2, s)).bind (fun e => some (e.1, e.2))
theorem tm_source_2 (w : ev_W) (d : Nat) (hd : 0 ≤ d) (v2 : Int) (s : iS) : Ew hT w d 473 2 [(0, .ref (tb_nK + 121)), (2, iv v2)] [] s (Ci hT) (m_source_2 v2 s) := by
  unfold m_source_2
  refine e_lp (LO := fun l => [(0, .ref (tb_nK + 121)), (2, iv (l.1))]) (LS := fun l => l.2) (CE := fun e r => ev w d 473 35 [(2, iv (e.1))] [] (hT (e.2)) r) (fun l => tm_source_2b w d hd _ _) ?_ (v2, s)
  intro e
  show Ew hT w d 473 35 [(2, iv (e.1))] [] e.2 (Ci hT) _
  refine e_mv 36 em_473 (ce_at ce_473 21 rfl) rfl rfl ?_
  exact e_reti em_473 (ce_at ce_473 22 rfl)
theorem fm_source_2 (v2 : Int) (s : iS) : Fm Prod.snd L_m_source G_m_source s (m_source_2 v2 s) := fm_lp (LS := fun l => l.2) (LE := fun e => e.2) (fun l => fm_source_2b _ _) (fun e => fm_some md_refl) (v2, s)
noncomputable def m_source (v1 : Int) (s : iS) : Option (Int × iS) := m_source_2 v1 s
theorem tm_source (w : ev_W) (d : Nat) (hd : 0 ≤ d) (v1 : Int) (s : iS) : Ew hT w d 473 0 [(0, .ref (tb_nK + 121)), (1, iv v1)] [] s (Ci hT) (m_source v1 s) := by
  unfold m_source
  refine e_mv 1 em_473 (ce_at ce_473 0 rfl) rfl rfl ?_
  refine e_mv 2 em_473 (ce_at ce_473 1 rfl) rfl rfl ?_
  refine e_pk [0, 2] rfl rfl ?_
  exact tm_source_2 w d hd _ _
theorem fm_source (v1 : Int) (s : iS) : Fm Prod.snd L_m_source G_m_source s (m_source v1 s) := fm_source_2 _ _
/-! m_build -/
def L_m_build : List Nat := [222, 223, 224, 225, 228, 229, 231, 232]
def G_m_build : List (Nat × Nat) := [(121, 158), (121, 161), (121, 170)]
def m_build_106C (w : ev_W) (d : Nat) (v2 : Int) (v3 : Int) (v4 : Int) (v5 : Int) : (Int × iS) ⊕ (iS) → am_E → Prop := fun q r => q.elim (fun l => ev w d 465 106 ((fun l => [(0, .ref (tb_nK + 121)), (2, iv v2), (3, iv v3), (4, iv v4), (5, iv v5), (6, iv (l.1))]) l) [] (hT ((fun l => l.2) l)) r) (fun e => (fun e r => ev w d 465 143 [(0, .ref (tb_nK + 121)), (2, iv v2), (3, iv v3), (4, iv v4)] [] (hT (e)) r) e r)
noncomputable def m_build_106b (v2 : Int) (v3 : Int) (v4 : Int) (v5 : Int) (v6 : Int) (s : iS) : Option ((Int × iS) ⊕ (iS)) := gd (0 ≤ (v4 + 1) ∧ (v4 + 1) < 401) (gd (rg v6) (gd (rg (s 203 (v4 + 1).toNat)) (if (s 203 (v4 + 1).toNat) ≤ v6 then some (.inr s) else gd (0 ≤ v4 ∧ v4 < 400) (bd (m_connect v2 v3 (s 216 v4.toNat) v5 v6 s) (fun _ s6 => some (.inl ((v6 + 1), s6)))))))
theorem tm_build_106b (w : ev_W) (d : Nat) (hd : 4 ≤ d) (v2 : Int) (v3 : Int) (v4 : Int) (v5 : Int) (v6 : Int) (s : iS) : Ew hT w d 465 106 [(0, .ref (tb_nK + 121)), (2, iv v2), (3, iv v3), (4, iv v4), (5, iv v5), (6, iv v6)] [] s (m_build_106C w d v2 v3 v4 v5) (m_build_106b v2 v3 v4 v5 v6 s) := by
  unfold m_build_106b
  refine e_mv 108 em_465 (ce_at ce_465 62 rfl) rfl rfl ?_
  refine e_mv 109 em_465 (ce_at ce_465 63 rfl) rfl rfl ?_
  refine e_getr 112 em_465 (ce_at ce_465 64 rfl) tq_121 rfl rfl ?_
  refine e_mv 114 em_465 (ce_at ce_465 65 rfl) rfl rfl ?_
  refine e_op 115 em_465 (ce_at ce_465 66 rfl) rfl rfl ?_
  refine e_iadd 116 em_465 rfl (ce_at ce_465 67 rfl) ?_
  refine e_gd fun g1 => ?_
  refine e_ild 117 em_465 (ce_at ce_465 68 rfl) tq_203 (by decide) g1 rfl ?_
  refine e_gd fun g2 => ?_
  refine e_gd fun g3 => ?_
  refine e_cmge 143 120 em_465 rfl rfl (ce_at ce_465 69 rfl) g2 g3 (fun h4 => ?_) (fun h4 => ?_)
  · refine e_pk [0, 2, 3, 4] rfl rfl ?_
    exact e_out (fun r h => h)
  · refine e_mv 121 em_465 (ce_at ce_465 70 rfl) rfl rfl ?_
    refine e_mv 122 em_465 (ce_at ce_465 71 rfl) rfl rfl ?_
    refine e_mv 123 em_465 (ce_at ce_465 72 rfl) rfl rfl ?_
    refine e_mv 124 em_465 (ce_at ce_465 73 rfl) rfl rfl ?_
    refine e_getr 127 em_465 (ce_at ce_465 74 rfl) tq_121 rfl rfl ?_
    refine e_mv 129 em_465 (ce_at ce_465 75 rfl) rfl rfl ?_
    refine e_gd fun g5 => ?_
    refine e_ild 130 em_465 (ce_at ce_465 76 rfl) tq_216 (by decide) g5 rfl ?_
    refine e_mv 132 em_465 (ce_at ce_465 77 rfl) rfl rfl ?_
    refine e_mv 134 em_465 (ce_at ce_465 78 rfl) rfl rfl ?_
    refine e_ivv 137 em_465 (ce_at ce_465 79 rfl) (by omega) (iv_v5 (by decide) tq_121 rfl) em_471 (Nat.le_of_ble_eq_true rfl) rfl (tm_connect w (d - 1) (by omega) _ _ _ _ _ _) (fun r6 s6 => ?_)
    refine e_iinc 140 em_465 (ce_at ce_465 80 rfl) rfl (by decide) rfl ?_
    refine e_goto em_465 106 (ce_at ce_465 81 rfl) rfl ?_
    refine e_pk [0, 2, 3, 4, 5, 6] rfl rfl ?_
    exact e_out (fun r h => h)
theorem fm_build_106b (v2 : Int) (v3 : Int) (v4 : Int) (v5 : Int) (v6 : Int) (s : iS) : Fm (fun r : (Int × iS) ⊕ (iS) => r.elim (fun l => l.2) (fun e => e)) L_m_build G_m_build s (m_build_106b v2 v3 v4 v5 v6 s) := fm_gd (fm_gd (fm_gd (fm_if (fm_some md_refl) (fm_gd (fm_bd (fm_sub (fm_connect _ _ _ _ _ _) (mem_sub_L rfl) (mem_sub_F rfl)) (fun r6 s6 => fm_some md_refl))))))
def m_build_71C (w : ev_W) (d : Nat) (v2 : Int) (v3 : Int) : (Int × iS) ⊕ (iS) → am_E → Prop := fun q r => q.elim (fun l => ev w d 465 71 ((fun l => [(0, .ref (tb_nK + 121)), (2, iv v2), (3, iv v3), (4, iv (l.1))]) l) [] (hT ((fun l => l.2) l)) r) (fun e => (fun e r => ev w d 465 149 [(0, .ref (tb_nK + 121))] [] (hT (e)) r) e r)
noncomputable def m_build_106 (v2 : Int) (v3 : Int) (v4 : Int) (v5 : Int) (v6 : Int) (s : iS) : Option ((Int × iS) ⊕ (iS)) := (lp (L := Int × iS) (E := iS) (fun l => m_build_106b v2 v3 v4 v5 (l.1) (l.2)) (v6, s)).bind (fun e => some (.inl ((v4 + 1), e)))
theorem tm_build_106 (w : ev_W) (d : Nat) (hd : 4 ≤ d) (v2 : Int) (v3 : Int) (v4 : Int) (v5 : Int) (v6 : Int) (s : iS) : Ew hT w d 465 106 [(0, .ref (tb_nK + 121)), (2, iv v2), (3, iv v3), (4, iv v4), (5, iv v5), (6, iv v6)] [] s (m_build_71C w d v2 v3) (m_build_106 v2 v3 v4 v5 v6 s) := by
  unfold m_build_106
  refine e_lp (LO := fun l => [(0, .ref (tb_nK + 121)), (2, iv v2), (3, iv v3), (4, iv v4), (5, iv v5), (6, iv (l.1))]) (LS := fun l => l.2) (CE := fun e r => ev w d 465 143 [(0, .ref (tb_nK + 121)), (2, iv v2), (3, iv v3), (4, iv v4)] [] (hT (e)) r) (fun l => tm_build_106b w d hd _ _ _ _ _ _) ?_ (v6, s)
  intro e
  show Ew hT w d 465 143 [(0, .ref (tb_nK + 121)), (2, iv v2), (3, iv v3), (4, iv v4)] [] e (m_build_71C w d v2 v3) _
  refine e_iinc 146 em_465 (ce_at ce_465 82 rfl) rfl (by decide) rfl ?_
  refine e_goto em_465 71 (ce_at ce_465 83 rfl) rfl ?_
  refine e_pk [0, 2, 3, 4] rfl rfl ?_
  exact e_out (fun r h => h)
theorem fm_build_106 (v2 : Int) (v3 : Int) (v4 : Int) (v5 : Int) (v6 : Int) (s : iS) : Fm (fun r : (Int × iS) ⊕ (iS) => r.elim (fun l => l.2) (fun e => e)) L_m_build G_m_build s (m_build_106 v2 v3 v4 v5 v6 s) := fm_lp (LS := fun l => l.2) (LE := fun e => e) (fun l => fm_build_106b _ _ _ _ _ _) (fun e => fm_some md_refl) (v6, s)
noncomputable def m_build_71b (v2 : Int) (v3 : Int) (v4 : Int) (s : iS) : Option ((Int × iS) ⊕ (iS)) := gd (0 ≤ (v2 + 1) ∧ (v2 + 1) < 18) (gd (rg v4) (gd (rg (s 201 (v2 + 1).toNat)) (if (s 201 (v2 + 1).toNat) ≤ v4 then some (.inr s) else gd (0 ≤ v4 ∧ v4 < 400) (bd (m_newPart (s 216 v4.toNat) s) (fun r6 s6 => gd (0 ≤ v4 ∧ v4 < 401) (m_build_106 v2 v3 v4 r6 (s6 203 v4.toNat) s6))))))
theorem tm_build_71b (w : ev_W) (d : Nat) (hd : 4 ≤ d) (v2 : Int) (v3 : Int) (v4 : Int) (s : iS) : Ew hT w d 465 71 [(0, .ref (tb_nK + 121)), (2, iv v2), (3, iv v3), (4, iv v4)] [] s (m_build_71C w d v2 v3) (m_build_71b v2 v3 v4 s) := by
  unfold m_build_71b
  refine e_mv 73 em_465 (ce_at ce_465 42 rfl) rfl rfl ?_
  refine e_mv 74 em_465 (ce_at ce_465 43 rfl) rfl rfl ?_
  refine e_getr 77 em_465 (ce_at ce_465 44 rfl) tq_121 rfl rfl ?_
  refine e_mv 78 em_465 (ce_at ce_465 45 rfl) rfl rfl ?_
  refine e_op 79 em_465 (ce_at ce_465 46 rfl) rfl rfl ?_
  refine e_iadd 80 em_465 rfl (ce_at ce_465 47 rfl) ?_
  refine e_gd fun g1 => ?_
  refine e_ild 81 em_465 (ce_at ce_465 48 rfl) tq_201 (by decide) g1 rfl ?_
  refine e_gd fun g2 => ?_
  refine e_gd fun g3 => ?_
  refine e_cmge 149 84 em_465 rfl rfl (ce_at ce_465 49 rfl) g2 g3 (fun h4 => ?_) (fun h4 => ?_)
  · refine e_pk [0] rfl rfl ?_
    exact e_out (fun r h => h)
  · refine e_mv 85 em_465 (ce_at ce_465 50 rfl) rfl rfl ?_
    refine e_mv 86 em_465 (ce_at ce_465 51 rfl) rfl rfl ?_
    refine e_getr 89 em_465 (ce_at ce_465 52 rfl) tq_121 rfl rfl ?_
    refine e_mv 91 em_465 (ce_at ce_465 53 rfl) rfl rfl ?_
    refine e_gd fun g5 => ?_
    refine e_ild 92 em_465 (ce_at ce_465 54 rfl) tq_216 (by decide) g5 rfl ?_
    refine e_ivi 95 em_465 (ce_at ce_465 55 rfl) (by omega) (iv_v1 (by decide) tq_121 rfl) em_466 (Nat.le_of_ble_eq_true rfl) rfl (tm_newPart w (d - 1) (by omega) _ _) (fun r6 s6 => ?_)
    refine e_mv 97 em_465 (ce_at ce_465 56 rfl) rfl rfl ?_
    refine e_mv 98 em_465 (ce_at ce_465 57 rfl) rfl rfl ?_
    refine e_getr 101 em_465 (ce_at ce_465 58 rfl) tq_121 rfl rfl ?_
    refine e_mv 103 em_465 (ce_at ce_465 59 rfl) rfl rfl ?_
    refine e_gd fun g7 => ?_
    refine e_ild 104 em_465 (ce_at ce_465 60 rfl) tq_203 (by decide) g7 rfl ?_
    refine e_mv 106 em_465 (ce_at ce_465 61 rfl) rfl rfl ?_
    refine e_pk [0, 2, 3, 4, 5, 6] rfl rfl ?_
    exact tm_build_106 w d hd _ _ _ _ _ _
theorem fm_build_71b (v2 : Int) (v3 : Int) (v4 : Int) (s : iS) : Fm (fun r : (Int × iS) ⊕ (iS) => r.elim (fun l => l.2) (fun e => e)) L_m_build G_m_build s (m_build_71b v2 v3 v4 s) := fm_gd (fm_gd (fm_gd (fm_if (fm_some md_refl) (fm_gd (fm_bd (fm_sub (fm_newPart _ _) (mem_sub_L rfl) (mem_sub_F rfl)) (fun r6 s6 => fm_gd (fm_build_106 _ _ _ _ _ _)))))))
def m_build_26C (w : ev_W) (d : Nat) : (iS) ⊕ (iS) → am_E → Prop := fun q r => q.elim (fun l => ev w d 465 26 ((fun l => [(0, .ref (tb_nK + 121))]) l) [] (hT ((fun l => l) l)) r) (fun e => (fun e r => ev w d 465 152 [(0, .ref (tb_nK + 121))] [] (hT (e)) r) e r)
noncomputable def m_build_71 (v2 : Int) (v3 : Int) (v4 : Int) (s : iS) : Option ((iS) ⊕ (iS)) := (lp (L := Int × iS) (E := iS) (fun l => m_build_71b v2 v3 (l.1) (l.2)) (v4, s)).bind (fun e => some (.inl e))
theorem tm_build_71 (w : ev_W) (d : Nat) (hd : 4 ≤ d) (v2 : Int) (v3 : Int) (v4 : Int) (s : iS) : Ew hT w d 465 71 [(0, .ref (tb_nK + 121)), (2, iv v2), (3, iv v3), (4, iv v4)] [] s (m_build_26C w d) (m_build_71 v2 v3 v4 s) := by
  unfold m_build_71
  refine e_lp (LO := fun l => [(0, .ref (tb_nK + 121)), (2, iv v2), (3, iv v3), (4, iv (l.1))]) (LS := fun l => l.2) (CE := fun e r => ev w d 465 149 [(0, .ref (tb_nK + 121))] [] (hT (e)) r) (fun l => tm_build_71b w d hd _ _ _ _) ?_ (v4, s)
  intro e
  show Ew hT w d 465 149 [(0, .ref (tb_nK + 121))] [] e (m_build_26C w d) _
  refine e_goto em_465 26 (ce_at ce_465 84 rfl) rfl ?_
  refine e_pk [0] rfl rfl ?_
  exact e_out (fun r h => h)
theorem fm_build_71 (v2 : Int) (v3 : Int) (v4 : Int) (s : iS) : Fm (fun r : (iS) ⊕ (iS) => r.elim (fun l => l) (fun e => e)) L_m_build G_m_build s (m_build_71 v2 v3 v4 s) := fm_lp (LS := fun l => l.2) (LE := fun e => e) (fun l => fm_build_71b _ _ _ _) (fun e => fm_some md_refl) (v4, s)
noncomputable def m_build_26b (s : iS) : Option ((iS) ⊕ (iS)) := gd (rg (s 121 170)) (if (s 121 170) ≤ 0 then some (.inr s) else lt' (up s 121 170 ((s 121 170) - 1)) (fun s3 => gd (0 ≤ (s3 121 170) ∧ (s3 121 170) < 20000) (gd (0 ≤ (s3 231 (s3 121 170).toNat) ∧ (s3 231 (s3 121 170).toNat) < 18) (m_build_71 (s3 231 (s3 121 170).toNat) (s3 232 (s3 121 170).toNat) (s3 201 (s3 231 (s3 121 170).toNat).toNat) s3))))
theorem tm_build_26b (w : ev_W) (d : Nat) (hd : 4 ≤ d) (s : iS) : Ew hT w d 465 26 [(0, .ref (tb_nK + 121))] [] s (m_build_26C w d) (m_build_26b s) := by
  unfold m_build_26b
  refine e_mv 27 em_465 (ce_at ce_465 16 rfl) rfl rfl ?_
  refine e_get 30 em_465 (ce_at ce_465 17 rfl) tq_121 rfl rfl ?_
  refine e_gd fun g1 => ?_
  refine e_ifle 152 33 em_465 rfl rfl (ce_at ce_465 18 rfl) g1 (fun h2 => ?_) (fun h2 => ?_)
  · refine e_pk [0] rfl rfl ?_
    exact e_out (fun r h => h)
  · refine e_mv 34 em_465 (ce_at ce_465 19 rfl) rfl rfl ?_
    refine e_mv 35 em_465 (ce_at ce_465 20 rfl) rfl rfl ?_
    refine e_get 38 em_465 (ce_at ce_465 21 rfl) tq_121 rfl rfl ?_
    refine e_op 39 em_465 (ce_at ce_465 22 rfl) rfl rfl ?_
    refine e_isub 40 em_465 rfl (ce_at ce_465 23 rfl) ?_
    refine e_put 43 em_465 (ce_at ce_465 24 rfl) tq_121 rfl rfl rfl (fun s3 => ?_)
    refine e_mv 44 em_465 (ce_at ce_465 25 rfl) rfl rfl ?_
    refine e_getr 47 em_465 (ce_at ce_465 26 rfl) tq_121 rfl rfl ?_
    refine e_mv 48 em_465 (ce_at ce_465 27 rfl) rfl rfl ?_
    refine e_get 51 em_465 (ce_at ce_465 28 rfl) tq_121 rfl rfl ?_
    refine e_gd fun g4 => ?_
    refine e_ild 52 em_465 (ce_at ce_465 29 rfl) tq_231 (by decide) g4 rfl ?_
    refine e_mv 53 em_465 (ce_at ce_465 30 rfl) rfl rfl ?_
    refine e_mv 54 em_465 (ce_at ce_465 31 rfl) rfl rfl ?_
    refine e_getr 57 em_465 (ce_at ce_465 32 rfl) tq_121 rfl rfl ?_
    refine e_mv 58 em_465 (ce_at ce_465 33 rfl) rfl rfl ?_
    refine e_get 61 em_465 (ce_at ce_465 34 rfl) tq_121 rfl rfl ?_
    refine e_ild 62 em_465 (ce_at ce_465 35 rfl) tq_232 (by decide) g4 rfl ?_
    refine e_mv 63 em_465 (ce_at ce_465 36 rfl) rfl rfl ?_
    refine e_mv 64 em_465 (ce_at ce_465 37 rfl) rfl rfl ?_
    refine e_getr 67 em_465 (ce_at ce_465 38 rfl) tq_121 rfl rfl ?_
    refine e_mv 68 em_465 (ce_at ce_465 39 rfl) rfl rfl ?_
    refine e_gd fun g5 => ?_
    refine e_ild 69 em_465 (ce_at ce_465 40 rfl) tq_201 (by decide) g5 rfl ?_
    refine e_mv 71 em_465 (ce_at ce_465 41 rfl) rfl rfl ?_
    refine e_pk [0, 2, 3, 4] rfl rfl ?_
    exact tm_build_71 w d hd _ _ _ _
theorem fm_build_26b (s : iS) : Fm (fun r : (iS) ⊕ (iS) => r.elim (fun l => l) (fun e => e)) L_m_build G_m_build s (m_build_26b s) := fm_gd (fm_if (fm_some md_refl) (fm_lt (md_upF (mem_F rfl)) (fun s3 => fm_gd (fm_gd (fm_build_71 _ _ _ _)))))
def m_build_154C (w : ev_W) (d : Nat) : (Int × iS) ⊕ (iS) → am_E → Prop := fun q r => q.elim (fun l => ev w d 465 154 ((fun l => [(0, .ref (tb_nK + 121)), (2, iv (l.1))]) l) [] (hT ((fun l => l.2) l)) r) (fun e => (fun e r => ev w d 465 215 [] [] (hT (e)) r) e r)
noncomputable def m_build_208 (v2 : Int) (t0 : Int) (t1 : Int) (s : iS) : Option ((Int × iS) ⊕ (iS)) := gd (0 ≤ t1 ∧ t1 < 1500) (lt' (up s 229 t1.toNat t0) (fun s2 => some (.inl ((v2 + 1), s2))))
theorem tm_build_208 (w : ev_W) (d : Nat) (hd : 4 ≤ d) (v2 : Int) (t0 : Int) (t1 : Int) (s : iS) : Ew hT w d 465 208 [(0, .ref (tb_nK + 121)), (2, iv v2)] [iv t0, iv t1, .ref (tb_nK + 229)] s (m_build_154C w d) (m_build_208 v2 t0 t1 s) := by
  unfold m_build_208
  refine e_gd fun g1 => ?_
  refine e_ist 209 em_465 (ce_at ce_465 119 rfl) tq_229 (by decide) g1 rfl (fun s2 => ?_)
  refine e_iinc 212 em_465 (ce_at ce_465 120 rfl) rfl (by decide) rfl ?_
  refine e_goto em_465 154 (ce_at ce_465 121 rfl) rfl ?_
  refine e_pk [0, 2] rfl rfl ?_
  exact e_out (fun r h => h)
theorem fm_build_208 (v2 : Int) (t0 : Int) (t1 : Int) (s : iS) : Fm (fun r : (Int × iS) ⊕ (iS) => r.elim (fun l => l.2) (fun e => e)) L_m_build G_m_build s (m_build_208 v2 t0 t1 s) := fm_gd (fm_lt (md_upL (mem_L rfl)) (fun s2 => fm_some md_refl))
noncomputable def m_build_154b (v2 : Int) (s : iS) : Option ((Int × iS) ⊕ (iS)) := gd (rg v2) (gd (rg (s 121 161)) (if (s 121 161) ≤ v2 then some (.inr s) else gd (0 ≤ v2 ∧ v2 < 1500) (bd (m_source (s 225 v2.toNat) s) (fun r5 s5 => lt' (up s5 228 v2.toNat r5) (fun s6 => gd (rg (s6 224 v2.toNat)) (if (s6 224 v2.toNat) = 0 then bd (m_source ((s6 225 v2.toNat) + 1) s6) (fun r9 s9 => m_build_208 v2 r9 v2 s9) else m_build_208 v2 (-1) v2 s6))))))
theorem tm_build_154b (w : ev_W) (d : Nat) (hd : 4 ≤ d) (v2 : Int) (s : iS) : Ew hT w d 465 154 [(0, .ref (tb_nK + 121)), (2, iv v2)] [] s (m_build_154C w d) (m_build_154b v2 s) := by
  unfold m_build_154b
  refine e_mv 155 em_465 (ce_at ce_465 87 rfl) rfl rfl ?_
  refine e_mv 156 em_465 (ce_at ce_465 88 rfl) rfl rfl ?_
  refine e_get 159 em_465 (ce_at ce_465 89 rfl) tq_121 rfl rfl ?_
  refine e_gd fun g1 => ?_
  refine e_gd fun g2 => ?_
  refine e_cmge 215 162 em_465 rfl rfl (ce_at ce_465 90 rfl) g1 g2 (fun h3 => ?_) (fun h3 => ?_)
  · refine e_pk [] rfl rfl ?_
    exact e_out (fun r h => h)
  · refine e_mv 163 em_465 (ce_at ce_465 91 rfl) rfl rfl ?_
    refine e_getr 166 em_465 (ce_at ce_465 92 rfl) tq_121 rfl rfl ?_
    refine e_mv 167 em_465 (ce_at ce_465 93 rfl) rfl rfl ?_
    refine e_mv 168 em_465 (ce_at ce_465 94 rfl) rfl rfl ?_
    refine e_mv 169 em_465 (ce_at ce_465 95 rfl) rfl rfl ?_
    refine e_getr 172 em_465 (ce_at ce_465 96 rfl) tq_121 rfl rfl ?_
    refine e_mv 173 em_465 (ce_at ce_465 97 rfl) rfl rfl ?_
    refine e_gd fun g4 => ?_
    refine e_ild 174 em_465 (ce_at ce_465 98 rfl) tq_225 (by decide) g4 rfl ?_
    refine e_ivi 177 em_465 (ce_at ce_465 99 rfl) (by omega) (iv_v1 (by decide) tq_121 rfl) em_473 (Nat.le_of_ble_eq_true rfl) rfl (tm_source w (d - 1) (by omega) _ _) (fun r5 s5 => ?_)
    refine e_ist 178 em_465 (ce_at ce_465 100 rfl) tq_228 (by decide) g4 rfl (fun s6 => ?_)
    refine e_mv 179 em_465 (ce_at ce_465 101 rfl) rfl rfl ?_
    refine e_getr 182 em_465 (ce_at ce_465 102 rfl) tq_121 rfl rfl ?_
    refine e_mv 183 em_465 (ce_at ce_465 103 rfl) rfl rfl ?_
    refine e_mv 184 em_465 (ce_at ce_465 104 rfl) rfl rfl ?_
    refine e_getr 187 em_465 (ce_at ce_465 105 rfl) tq_121 rfl rfl ?_
    refine e_mv 188 em_465 (ce_at ce_465 106 rfl) rfl rfl ?_
    refine e_zld 189 em_465 (ce_at ce_465 107 rfl) tq_224 (by decide) g4 rfl ?_
    refine e_gd fun g7 => ?_
    refine e_ifeq 196 192 em_465 rfl rfl (ce_at ce_465 108 rfl) g7 (fun h8 => ?_) (fun h8 => ?_)
    · refine e_mv 197 em_465 (ce_at ce_465 111 rfl) rfl rfl ?_
      refine e_mv 198 em_465 (ce_at ce_465 112 rfl) rfl rfl ?_
      refine e_getr 201 em_465 (ce_at ce_465 113 rfl) tq_121 rfl rfl ?_
      refine e_mv 202 em_465 (ce_at ce_465 114 rfl) rfl rfl ?_
      refine e_ild 203 em_465 (ce_at ce_465 115 rfl) tq_225 (by decide) g4 rfl ?_
      refine e_op 204 em_465 (ce_at ce_465 116 rfl) rfl rfl ?_
      refine e_iadd 205 em_465 rfl (ce_at ce_465 117 rfl) ?_
      refine e_ivi 208 em_465 (ce_at ce_465 118 rfl) (by omega) (iv_v1 (by decide) tq_121 rfl) em_473 (Nat.le_of_ble_eq_true rfl) rfl (tm_source w (d - 1) (by omega) _ _) (fun r9 s9 => ?_)
      refine e_pk [0, 2] rfl rfl ?_
      exact tm_build_208 w d hd _ _ _ _
    · refine e_op 193 em_465 (ce_at ce_465 109 rfl) rfl rfl ?_
      refine e_goto em_465 208 (ce_at ce_465 110 rfl) rfl ?_
      refine e_pk [0, 2] rfl rfl ?_
      exact tm_build_208 w d hd _ _ _ _
theorem fm_build_154b (v2 : Int) (s : iS) : Fm (fun r : (Int × iS) ⊕ (iS) => r.elim (fun l => l.2) (fun e => e)) L_m_build G_m_build s (m_build_154b v2 s) := fm_gd (fm_gd (fm_if (fm_some md_refl) (fm_gd (fm_bd (fm_sub (fm_source _ _) (mem_sub_L rfl) (mem_sub_F rfl)) (fun r5 s5 => fm_lt (md_upL (mem_L rfl)) (fun s6 => fm_gd (fm_if (fm_bd (fm_sub (fm_source _ _) (mem_sub_L rfl) (mem_sub_F rfl)) (fun r9 s9 => fm_build_208 _ _ _ _)) (fm_build_208 _ _ _ _))))))))
noncomputable def m_build_154 (v2 : Int) (s : iS) : Option (Int × iS) := (lp (L := Int × iS) (E := iS) (fun l => m_build_154b (l.1) (l.2)) (v2, s)).bind (fun e => some (0, e))
theorem tm_build_154 (w : ev_W) (d : Nat) (hd : 4 ≤ d) (v2 : Int) (s : iS) : Ew hT w d 465 154 [(0, .ref (tb_nK + 121)), (2, iv v2)] [] s (Cv hT) (m_build_154 v2 s) := by
  unfold m_build_154
  refine e_lp (LO := fun l => [(0, .ref (tb_nK + 121)), (2, iv (l.1))]) (LS := fun l => l.2) (CE := fun e r => ev w d 465 215 [] [] (hT (e)) r) (fun l => tm_build_154b w d hd _ _) ?_ (v2, s)
  intro e
  show Ew hT w d 465 215 [] [] e (Cv hT) _
  exact e_retv em_465 (ce_at ce_465 122 rfl)
theorem fm_build_154 (v2 : Int) (s : iS) : Fm Prod.snd L_m_build G_m_build s (m_build_154 v2 s) := fm_lp (LS := fun l => l.2) (LE := fun e => e) (fun l => fm_build_154b _ _) (fun e => fm_some md_refl) (v2, s)
noncomputable def m_build_152 (s : iS) : Option (Int × iS) := m_build_154 0 s
theorem tm_build_152 (w : ev_W) (d : Nat) (hd : 4 ≤ d) (s : iS) : Ew hT w d 465 152 [(0, .ref (tb_nK + 121))] [] s (Cv hT) (m_build_152 s) := by
  unfold m_build_152
  refine e_op 153 em_465 (ce_at ce_465 85 rfl) rfl rfl ?_
  refine e_mv 154 em_465 (ce_at ce_465 86 rfl) rfl rfl ?_
  refine e_pk [0, 2] rfl rfl ?_
  exact tm_build_154 w d hd _ _
theorem fm_build_152 (s : iS) : Fm Prod.snd L_m_build G_m_build s (m_build_152 s) := fm_build_154 _ _
noncomputable def m_build_26 (s : iS) : Option (Int × iS) := (lp (L := iS) (E := iS) (fun l => m_build_26b l) s).bind (fun e => m_build_152 e)
theorem tm_build_26 (w : ev_W) (d : Nat) (hd : 4 ≤ d) (s : iS) : Ew hT w d 465 26 [(0, .ref (tb_nK + 121))] [] s (Cv hT) (m_build_26 s) := by
  unfold m_build_26
  refine e_lp (LO := fun l => [(0, .ref (tb_nK + 121))]) (LS := fun l => l) (CE := fun e r => ev w d 465 152 [(0, .ref (tb_nK + 121))] [] (hT (e)) r) (fun l => tm_build_26b w d hd _) ?_ s
  intro e
  show Ew hT w d 465 152 [(0, .ref (tb_nK + 121))] [] e (Cv hT) _
  refine e_pk [0] rfl rfl ?_
  exact tm_build_152 w d hd _
theorem fm_build_26 (s : iS) : Fm Prod.snd L_m_build G_m_build s (m_build_26 s) := fm_lp (LS := fun l => l) (LE := fun e => e) (fun l => fm_build_26b _) (fun e => fm_build_152 _) s
noncomputable def m_build (s : iS) : Option (Int × iS) := lt' (up s 121 158 0) (fun s1 => lt' (up s1 121 161 0) (fun s2 => lt' (up s2 121 170 0) (fun s3 => bd (m_newPart (2 + (s3 121 174)) s3) (fun r4 s4 => m_build_26 s4))))
theorem tm_build (w : ev_W) (d : Nat) (hd : 4 ≤ d) (s : iS) : Ew hT w d 465 0 [(0, .ref (tb_nK + 121))] [] s (Cv hT) (m_build s) := by
  unfold m_build
  refine e_mv 1 em_465 (ce_at ce_465 0 rfl) rfl rfl ?_
  refine e_op 2 em_465 (ce_at ce_465 1 rfl) rfl rfl ?_
  refine e_put 5 em_465 (ce_at ce_465 2 rfl) tq_121 rfl rfl rfl (fun s1 => ?_)
  refine e_mv 6 em_465 (ce_at ce_465 3 rfl) rfl rfl ?_
  refine e_op 7 em_465 (ce_at ce_465 4 rfl) rfl rfl ?_
  refine e_put 10 em_465 (ce_at ce_465 5 rfl) tq_121 rfl rfl rfl (fun s2 => ?_)
  refine e_mv 11 em_465 (ce_at ce_465 6 rfl) rfl rfl ?_
  refine e_op 12 em_465 (ce_at ce_465 7 rfl) rfl rfl ?_
  refine e_put 15 em_465 (ce_at ce_465 8 rfl) tq_121 rfl rfl rfl (fun s3 => ?_)
  refine e_mv 16 em_465 (ce_at ce_465 9 rfl) rfl rfl ?_
  refine e_op 17 em_465 (ce_at ce_465 10 rfl) rfl rfl ?_
  refine e_mv 18 em_465 (ce_at ce_465 11 rfl) rfl rfl ?_
  refine e_get 21 em_465 (ce_at ce_465 12 rfl) tq_121 rfl rfl ?_
  refine e_iadd 22 em_465 rfl (ce_at ce_465 13 rfl) ?_
  refine e_ivi 25 em_465 (ce_at ce_465 14 rfl) (by omega) (iv_v1 (by decide) tq_121 rfl) em_466 (Nat.le_of_ble_eq_true rfl) rfl (tm_newPart w (d - 1) (by omega) _ _) (fun r4 s4 => ?_)
  refine e_mv 26 em_465 (ce_at ce_465 15 rfl) rfl rfl ?_
  refine e_pk [0] rfl rfl ?_
  exact tm_build_26 w d hd _
theorem fm_build (s : iS) : Fm Prod.snd L_m_build G_m_build s (m_build s) := fm_lt (md_upF (mem_F rfl)) (fun s1 => fm_lt (md_upF (mem_F rfl)) (fun s2 => fm_lt (md_upF (mem_F rfl)) (fun s3 => fm_bd (fm_sub (fm_newPart _ _) (mem_sub_L rfl) (mem_sub_F rfl)) (fun r4 s4 => fm_build_26 _))))
/-! m_checkRing -/
def L_m_checkRing : List Nat := [219]
def G_m_checkRing : List (Nat × Nat) := [(121, 69), (121, 70)]
def m_checkRing_2C (w : ev_W) (d : Nat) : (Int × iS) ⊕ (iS) → am_E → Prop := fun q r => q.elim (fun l => ev w d 463 2 ((fun l => [(0, .ref (tb_nK + 121)), (1, iv (l.1))]) l) [] (hT ((fun l => l.2) l)) r) (fun e => (fun e r => ev w d 463 22 [(0, .ref (tb_nK + 121))] [] (hT (e)) r) e r)
noncomputable def m_checkRing_2b (v1 : Int) (s : iS) : Option ((Int × iS) ⊕ (iS)) := gd (rg v1) (if 256 ≤ v1 then some (.inr s) else gd (0 ≤ v1 ∧ v1 < 256) (lt' (up s 219 v1.toNat 0) (fun s4 => some (.inl ((v1 + 1), s4)))))
theorem tm_checkRing_2b (w : ev_W) (d : Nat) (hd : 1 ≤ d) (v1 : Int) (s : iS) : Ew hT w d 463 2 [(0, .ref (tb_nK + 121)), (1, iv v1)] [] s (m_checkRing_2C w d) (m_checkRing_2b v1 s) := by
  unfold m_checkRing_2b
  refine e_mv 3 em_463 (ce_at ce_463 2 rfl) rfl rfl ?_
  refine e_sip 6 em_463 (ce_at ce_463 3 rfl) (by decide) rfl ?_
  refine e_gd fun g1 => ?_
  refine e_cmge 22 9 em_463 rfl rfl (ce_at ce_463 4 rfl) g1 (by decide) (fun h2 => ?_) (fun h2 => ?_)
  · refine e_pk [0] rfl rfl ?_
    exact e_out (fun r h => h)
  · refine e_mv 10 em_463 (ce_at ce_463 5 rfl) rfl rfl ?_
    refine e_getr 13 em_463 (ce_at ce_463 6 rfl) tq_121 rfl rfl ?_
    refine e_mv 14 em_463 (ce_at ce_463 7 rfl) rfl rfl ?_
    refine e_op 15 em_463 (ce_at ce_463 8 rfl) rfl rfl ?_
    refine e_gd fun g3 => ?_
    refine e_zst 16 em_463 (ce_at ce_463 9 rfl) tq_219 (by decide) g3 (by decide) rfl (fun s4 => ?_)
    refine e_iinc 19 em_463 (ce_at ce_463 10 rfl) rfl (by decide) rfl ?_
    refine e_goto em_463 2 (ce_at ce_463 11 rfl) rfl ?_
    refine e_pk [0, 1] rfl rfl ?_
    exact e_out (fun r h => h)
theorem fm_checkRing_2b (v1 : Int) (s : iS) : Fm (fun r : (Int × iS) ⊕ (iS) => r.elim (fun l => l.2) (fun e => e)) L_m_checkRing G_m_checkRing s (m_checkRing_2b v1 s) := fm_gd (fm_if (fm_some md_refl) (fm_gd (fm_lt (md_upL (mem_L rfl)) (fun s4 => fm_some md_refl))))
def m_checkRing_39C (w : ev_W) (d : Nat) (v1 : Int) : (Int × iS) ⊕ (iS) → am_E → Prop := fun q r => q.elim (fun l => ev w d 463 39 ((fun l => [(0, .ref (tb_nK + 121)), (1, iv v1), (2, iv (l.1))]) l) [] (hT ((fun l => l.2) l)) r) (fun e => (fun e r => ev w d 463 86 [(0, .ref (tb_nK + 121)), (1, iv v1)] [] (hT (e)) r) e r)
noncomputable def m_checkRing_39b (v1 : Int) (v2 : Int) (s : iS) : Option ((Int × iS) ⊕ (iS)) := gd (0 ≤ (v1 + 1) ∧ (v1 + 1) < 18) (gd (rg v2) (gd (rg (s 201 (v1 + 1).toNat)) (if (s 201 (v1 + 1).toNat) ≤ v2 then some (.inr s) else gd (0 ≤ v2 ∧ v2 < 400) (gd (rg (s 216 v2.toNat)) (if (s 216 v2.toNat) ≤ 1 then some (.inl ((v2 + 1), s)) else gd (0 ≤ (((16 * v1) + (s 216 v2.toNat)) - 2) ∧ (((16 * v1) + (s 216 v2.toNat)) - 2) < 256) (lt' (up s 219 (((16 * v1) + (s 216 v2.toNat)) - 2).toNat 1) (fun s9 => some (.inl ((v2 + 1), s9)))))))))
theorem tm_checkRing_39b (w : ev_W) (d : Nat) (hd : 1 ≤ d) (v1 : Int) (v2 : Int) (s : iS) : Ew hT w d 463 39 [(0, .ref (tb_nK + 121)), (1, iv v1), (2, iv v2)] [] s (m_checkRing_39C w d v1) (m_checkRing_39b v1 v2 s) := by
  unfold m_checkRing_39b
  refine e_mv 40 em_463 (ce_at ce_463 23 rfl) rfl rfl ?_
  refine e_mv 41 em_463 (ce_at ce_463 24 rfl) rfl rfl ?_
  refine e_getr 44 em_463 (ce_at ce_463 25 rfl) tq_121 rfl rfl ?_
  refine e_mv 45 em_463 (ce_at ce_463 26 rfl) rfl rfl ?_
  refine e_op 46 em_463 (ce_at ce_463 27 rfl) rfl rfl ?_
  refine e_iadd 47 em_463 rfl (ce_at ce_463 28 rfl) ?_
  refine e_gd fun g1 => ?_
  refine e_ild 48 em_463 (ce_at ce_463 29 rfl) tq_201 (by decide) g1 rfl ?_
  refine e_gd fun g2 => ?_
  refine e_gd fun g3 => ?_
  refine e_cmge 86 51 em_463 rfl rfl (ce_at ce_463 30 rfl) g2 g3 (fun h4 => ?_) (fun h4 => ?_)
  · refine e_pk [0, 1] rfl rfl ?_
    exact e_out (fun r h => h)
  · refine e_mv 52 em_463 (ce_at ce_463 31 rfl) rfl rfl ?_
    refine e_getr 55 em_463 (ce_at ce_463 32 rfl) tq_121 rfl rfl ?_
    refine e_mv 56 em_463 (ce_at ce_463 33 rfl) rfl rfl ?_
    refine e_gd fun g5 => ?_
    refine e_ild 57 em_463 (ce_at ce_463 34 rfl) tq_216 (by decide) g5 rfl ?_
    refine e_op 58 em_463 (ce_at ce_463 35 rfl) rfl rfl ?_
    refine e_gd fun g6 => ?_
    refine e_cmle 80 61 em_463 rfl rfl (ce_at ce_463 36 rfl) g6 (by decide) (fun h7 => ?_) (fun h7 => ?_)
    · refine e_iinc 83 em_463 (ce_at ce_463 51 rfl) rfl (by decide) rfl ?_
      refine e_goto em_463 39 (ce_at ce_463 52 rfl) rfl ?_
      refine e_pk [0, 1, 2] rfl rfl ?_
      exact e_out (fun r h => h)
    · refine e_mv 62 em_463 (ce_at ce_463 37 rfl) rfl rfl ?_
      refine e_getr 65 em_463 (ce_at ce_463 38 rfl) tq_121 rfl rfl ?_
      refine e_bip 67 em_463 (ce_at ce_463 39 rfl) (by decide) rfl ?_
      refine e_mv 68 em_463 (ce_at ce_463 40 rfl) rfl rfl ?_
      refine e_imul 69 em_463 rfl (ce_at ce_463 41 rfl) ?_
      refine e_mv 70 em_463 (ce_at ce_463 42 rfl) rfl rfl ?_
      refine e_getr 73 em_463 (ce_at ce_463 43 rfl) tq_121 rfl rfl ?_
      refine e_mv 74 em_463 (ce_at ce_463 44 rfl) rfl rfl ?_
      refine e_ild 75 em_463 (ce_at ce_463 45 rfl) tq_216 (by decide) g5 rfl ?_
      refine e_iadd 76 em_463 rfl (ce_at ce_463 46 rfl) ?_
      refine e_op 77 em_463 (ce_at ce_463 47 rfl) rfl rfl ?_
      refine e_isub 78 em_463 rfl (ce_at ce_463 48 rfl) ?_
      refine e_op 79 em_463 (ce_at ce_463 49 rfl) rfl rfl ?_
      refine e_gd fun g8 => ?_
      refine e_zst 80 em_463 (ce_at ce_463 50 rfl) tq_219 (by decide) g8 (by decide) rfl (fun s9 => ?_)
      refine e_iinc 83 em_463 (ce_at ce_463 51 rfl) rfl (by decide) rfl ?_
      refine e_goto em_463 39 (ce_at ce_463 52 rfl) rfl ?_
      refine e_pk [0, 1, 2] rfl rfl ?_
      exact e_out (fun r h => h)
theorem fm_checkRing_39b (v1 : Int) (v2 : Int) (s : iS) : Fm (fun r : (Int × iS) ⊕ (iS) => r.elim (fun l => l.2) (fun e => e)) L_m_checkRing G_m_checkRing s (m_checkRing_39b v1 v2 s) := fm_gd (fm_gd (fm_gd (fm_if (fm_some md_refl) (fm_gd (fm_gd (fm_if (fm_some md_refl) (fm_gd (fm_lt (md_upL (mem_L rfl)) (fun s9 => fm_some md_refl)))))))))
def m_checkRing_24C (w : ev_W) (d : Nat) : (Int × iS) ⊕ (iS) → am_E → Prop := fun q r => q.elim (fun l => ev w d 463 24 ((fun l => [(0, .ref (tb_nK + 121)), (1, iv (l.1))]) l) [] (hT ((fun l => l.2) l)) r) (fun e => (fun e r => ev w d 463 92 [(0, .ref (tb_nK + 121))] [] (hT (e)) r) e r)
noncomputable def m_checkRing_39 (v1 : Int) (v2 : Int) (s : iS) : Option ((Int × iS) ⊕ (iS)) := (lp (L := Int × iS) (E := iS) (fun l => m_checkRing_39b v1 (l.1) (l.2)) (v2, s)).bind (fun e => some (.inl ((v1 + 1), e)))
theorem tm_checkRing_39 (w : ev_W) (d : Nat) (hd : 1 ≤ d) (v1 : Int) (v2 : Int) (s : iS) : Ew hT w d 463 39 [(0, .ref (tb_nK + 121)), (1, iv v1), (2, iv v2)] [] s (m_checkRing_24C w d) (m_checkRing_39 v1 v2 s) := by
  unfold m_checkRing_39
  refine e_lp (LO := fun l => [(0, .ref (tb_nK + 121)), (1, iv v1), (2, iv (l.1))]) (LS := fun l => l.2) (CE := fun e r => ev w d 463 86 [(0, .ref (tb_nK + 121)), (1, iv v1)] [] (hT (e)) r) (fun l => tm_checkRing_39b w d hd _ _ _) ?_ (v2, s)
  intro e
  show Ew hT w d 463 86 [(0, .ref (tb_nK + 121)), (1, iv v1)] [] e (m_checkRing_24C w d) _
  refine e_iinc 89 em_463 (ce_at ce_463 53 rfl) rfl (by decide) rfl ?_
  refine e_goto em_463 24 (ce_at ce_463 54 rfl) rfl ?_
  refine e_pk [0, 1] rfl rfl ?_
  exact e_out (fun r h => h)
theorem fm_checkRing_39 (v1 : Int) (v2 : Int) (s : iS) : Fm (fun r : (Int × iS) ⊕ (iS) => r.elim (fun l => l.2) (fun e => e)) L_m_checkRing G_m_checkRing s (m_checkRing_39 v1 v2 s) := fm_lp (LS := fun l => l.2) (LE := fun e => e) (fun l => fm_checkRing_39b _ _ _) (fun e => fm_some md_refl) (v2, s)
noncomputable def m_checkRing_24b (v1 : Int) (s : iS) : Option ((Int × iS) ⊕ (iS)) := gd (rg v1) (gd (rg (s 121 122)) (if (s 121 122) ≤ v1 then some (.inr s) else gd (0 ≤ v1 ∧ v1 < 18) (m_checkRing_39 v1 (s 201 v1.toNat) s)))
theorem tm_checkRing_24b (w : ev_W) (d : Nat) (hd : 1 ≤ d) (v1 : Int) (s : iS) : Ew hT w d 463 24 [(0, .ref (tb_nK + 121)), (1, iv v1)] [] s (m_checkRing_24C w d) (m_checkRing_24b v1 s) := by
  unfold m_checkRing_24b
  refine e_mv 25 em_463 (ce_at ce_463 14 rfl) rfl rfl ?_
  refine e_mv 26 em_463 (ce_at ce_463 15 rfl) rfl rfl ?_
  refine e_get 29 em_463 (ce_at ce_463 16 rfl) tq_121 rfl rfl ?_
  refine e_gd fun g1 => ?_
  refine e_gd fun g2 => ?_
  refine e_cmge 92 32 em_463 rfl rfl (ce_at ce_463 17 rfl) g1 g2 (fun h3 => ?_) (fun h3 => ?_)
  · refine e_pk [0] rfl rfl ?_
    exact e_out (fun r h => h)
  · refine e_mv 33 em_463 (ce_at ce_463 18 rfl) rfl rfl ?_
    refine e_getr 36 em_463 (ce_at ce_463 19 rfl) tq_121 rfl rfl ?_
    refine e_mv 37 em_463 (ce_at ce_463 20 rfl) rfl rfl ?_
    refine e_gd fun g4 => ?_
    refine e_ild 38 em_463 (ce_at ce_463 21 rfl) tq_201 (by decide) g4 rfl ?_
    refine e_mv 39 em_463 (ce_at ce_463 22 rfl) rfl rfl ?_
    refine e_pk [0, 1, 2] rfl rfl ?_
    exact tm_checkRing_39 w d hd _ _ _
theorem fm_checkRing_24b (v1 : Int) (s : iS) : Fm (fun r : (Int × iS) ⊕ (iS) => r.elim (fun l => l.2) (fun e => e)) L_m_checkRing G_m_checkRing s (m_checkRing_24b v1 s) := fm_gd (fm_gd (fm_if (fm_some md_refl) (fm_gd (fm_checkRing_39 _ _ _))))
def m_checkRing_114C (w : ev_W) (d : Nat) (v1 : Int) (v2 : Int) : (Int × iS) ⊕ (iS) → am_E → Prop := fun q r => q.elim (fun l => ev w d 463 114 ((fun l => [(0, .ref (tb_nK + 121)), (1, iv v1), (2, iv v2), (3, iv (l.1))]) l) [] (hT ((fun l => l.2) l)) r) (fun e => (fun e r => ev w d 463 186 [(0, .ref (tb_nK + 121)), (1, iv v1), (2, iv v2)] [] (hT (e)) r) e r)
noncomputable def m_checkRing_179 (v1 : Int) (v2 : Int) (v3 : Int) (t0 : Int) (t1 : Int) (s : iS) : Option ((Int × iS) ⊕ (iS)) := gd (0 ≤ t1 ∧ t1 < 256) (gd (t0 = 0 ∨ t0 = 1) (lt' (up s 219 t1.toNat t0) (fun s3 => some (.inl ((v3 + 1), s3)))))
theorem tm_checkRing_179 (w : ev_W) (d : Nat) (hd : 1 ≤ d) (v1 : Int) (v2 : Int) (v3 : Int) (t0 : Int) (t1 : Int) (s : iS) : Ew hT w d 463 179 [(0, .ref (tb_nK + 121)), (1, iv v1), (2, iv v2), (3, iv v3)] [iv t0, iv t1, .ref (tb_nK + 219)] s (m_checkRing_114C w d v1 v2) (m_checkRing_179 v1 v2 v3 t0 t1 s) := by
  unfold m_checkRing_179
  refine e_gd fun g1 => ?_
  refine e_gd fun g2 => ?_
  refine e_zst 180 em_463 (ce_at ce_463 110 rfl) tq_219 (by decide) g1 g2 rfl (fun s3 => ?_)
  refine e_iinc 183 em_463 (ce_at ce_463 111 rfl) rfl (by decide) rfl ?_
  refine e_goto em_463 114 (ce_at ce_463 112 rfl) rfl ?_
  refine e_pk [0, 1, 2, 3] rfl rfl ?_
  exact e_out (fun r h => h)
theorem fm_checkRing_179 (v1 : Int) (v2 : Int) (v3 : Int) (t0 : Int) (t1 : Int) (s : iS) : Fm (fun r : (Int × iS) ⊕ (iS) => r.elim (fun l => l.2) (fun e => e)) L_m_checkRing G_m_checkRing s (m_checkRing_179 v1 v2 v3 t0 t1 s) := fm_gd (fm_gd (fm_lt (md_upL (mem_L rfl)) (fun s3 => fm_some md_refl)))
noncomputable def m_checkRing_174 (v1 : Int) (v2 : Int) (v3 : Int) (t0 : Int) (s : iS) : Option ((Int × iS) ⊕ (iS)) := m_checkRing_179 v1 v2 v3 1 t0 s
theorem tm_checkRing_174 (w : ev_W) (d : Nat) (hd : 1 ≤ d) (v1 : Int) (v2 : Int) (v3 : Int) (t0 : Int) (s : iS) : Ew hT w d 463 174 [(0, .ref (tb_nK + 121)), (1, iv v1), (2, iv v2), (3, iv v3)] [iv t0, .ref (tb_nK + 219)] s (m_checkRing_114C w d v1 v2) (m_checkRing_174 v1 v2 v3 t0 s) := by
  unfold m_checkRing_174
  refine e_op 175 em_463 (ce_at ce_463 107 rfl) rfl rfl ?_
  refine e_goto em_463 179 (ce_at ce_463 108 rfl) rfl ?_
  refine e_pk [0, 1, 2, 3] rfl rfl ?_
  exact tm_checkRing_179 w d hd _ _ _ _ _ _
theorem fm_checkRing_174 (v1 : Int) (v2 : Int) (v3 : Int) (t0 : Int) (s : iS) : Fm (fun r : (Int × iS) ⊕ (iS) => r.elim (fun l => l.2) (fun e => e)) L_m_checkRing G_m_checkRing s (m_checkRing_174 v1 v2 v3 t0 s) := fm_checkRing_179 _ _ _ _ _ _
noncomputable def m_checkRing_178 (v1 : Int) (v2 : Int) (v3 : Int) (t0 : Int) (s : iS) : Option ((Int × iS) ⊕ (iS)) := m_checkRing_179 v1 v2 v3 0 t0 s
theorem tm_checkRing_178 (w : ev_W) (d : Nat) (hd : 1 ≤ d) (v1 : Int) (v2 : Int) (v3 : Int) (t0 : Int) (s : iS) : Ew hT w d 463 178 [(0, .ref (tb_nK + 121)), (1, iv v1), (2, iv v2), (3, iv v3)] [iv t0, .ref (tb_nK + 219)] s (m_checkRing_114C w d v1 v2) (m_checkRing_178 v1 v2 v3 t0 s) := by
  unfold m_checkRing_178
  refine e_op 179 em_463 (ce_at ce_463 109 rfl) rfl rfl ?_
  refine e_pk [0, 1, 2, 3] rfl rfl ?_
  exact tm_checkRing_179 w d hd _ _ _ _ _ _
theorem fm_checkRing_178 (v1 : Int) (v2 : Int) (v3 : Int) (t0 : Int) (s : iS) : Fm (fun r : (Int × iS) ⊕ (iS) => r.elim (fun l => l.2) (fun e => e)) L_m_checkRing G_m_checkRing s (m_checkRing_178 v1 v2 v3 t0 s) := fm_checkRing_179 _ _ _ _ _ _
noncomputable def m_checkRing_114b (v1 : Int) (v2 : Int) (v3 : Int) (s : iS) : Option ((Int × iS) ⊕ (iS)) := gd (rg v3) (gd (rg (s 121 122)) (if (s 121 122) ≤ v3 then some (.inr s) else gd (0 ≤ ((16 * v2) + v3) ∧ ((16 * v2) + v3) < 256) (gd (rg (s 219 ((16 * v2) + v3).toNat)) (if (s 219 ((16 * v2) + v3).toNat) = 0 then gd (0 ≤ ((16 * v2) + v1) ∧ ((16 * v2) + v1) < 256) (gd (rg (s 219 ((16 * v2) + v1).toNat)) (if (s 219 ((16 * v2) + v1).toNat) = 0 then m_checkRing_178 v1 v2 v3 ((16 * v2) + v3) s else gd (0 ≤ ((16 * v1) + v3) ∧ ((16 * v1) + v3) < 256) (gd (rg (s 219 ((16 * v1) + v3).toNat)) (if (s 219 ((16 * v1) + v3).toNat) = 0 then m_checkRing_178 v1 v2 v3 ((16 * v2) + v3) s else m_checkRing_174 v1 v2 v3 ((16 * v2) + v3) s)))) else m_checkRing_174 v1 v2 v3 ((16 * v2) + v3) s))))
theorem tm_checkRing_114b (w : ev_W) (d : Nat) (hd : 1 ≤ d) (v1 : Int) (v2 : Int) (v3 : Int) (s : iS) : Ew hT w d 463 114 [(0, .ref (tb_nK + 121)), (1, iv v1), (2, iv v2), (3, iv v3)] [] s (m_checkRing_114C w d v1 v2) (m_checkRing_114b v1 v2 v3 s) := by
  unfold m_checkRing_114b
  refine e_mv 115 em_463 (ce_at ce_463 69 rfl) rfl rfl ?_
  refine e_mv 116 em_463 (ce_at ce_463 70 rfl) rfl rfl ?_
  refine e_get 119 em_463 (ce_at ce_463 71 rfl) tq_121 rfl rfl ?_
  refine e_gd fun g1 => ?_
  refine e_gd fun g2 => ?_
  refine e_cmge 186 122 em_463 rfl rfl (ce_at ce_463 72 rfl) g1 g2 (fun h3 => ?_) (fun h3 => ?_)
  · refine e_pk [0, 1, 2] rfl rfl ?_
    exact e_out (fun r h => h)
  · refine e_mv 123 em_463 (ce_at ce_463 73 rfl) rfl rfl ?_
    refine e_getr 126 em_463 (ce_at ce_463 74 rfl) tq_121 rfl rfl ?_
    refine e_bip 128 em_463 (ce_at ce_463 75 rfl) (by decide) rfl ?_
    refine e_mv 129 em_463 (ce_at ce_463 76 rfl) rfl rfl ?_
    refine e_imul 130 em_463 rfl (ce_at ce_463 77 rfl) ?_
    refine e_mv 131 em_463 (ce_at ce_463 78 rfl) rfl rfl ?_
    refine e_iadd 132 em_463 rfl (ce_at ce_463 79 rfl) ?_
    refine e_mv 133 em_463 (ce_at ce_463 80 rfl) rfl rfl ?_
    refine e_getr 136 em_463 (ce_at ce_463 81 rfl) tq_121 rfl rfl ?_
    refine e_bip 138 em_463 (ce_at ce_463 82 rfl) (by decide) rfl ?_
    refine e_mv 139 em_463 (ce_at ce_463 83 rfl) rfl rfl ?_
    refine e_imul 140 em_463 rfl (ce_at ce_463 84 rfl) ?_
    refine e_mv 141 em_463 (ce_at ce_463 85 rfl) rfl rfl ?_
    refine e_iadd 142 em_463 rfl (ce_at ce_463 86 rfl) ?_
    refine e_gd fun g4 => ?_
    refine e_zld 143 em_463 (ce_at ce_463 87 rfl) tq_219 (by decide) g4 rfl ?_
    refine e_gd fun g5 => ?_
    refine e_ifne 174 146 em_463 rfl rfl (ce_at ce_463 88 rfl) g5 (fun h6 => ?_) (fun h6 => ?_)
    · refine e_pk [0, 1, 2, 3] rfl rfl ?_
      exact tm_checkRing_174 w d hd _ _ _ _ _
    · refine e_mv 147 em_463 (ce_at ce_463 89 rfl) rfl rfl ?_
      refine e_getr 150 em_463 (ce_at ce_463 90 rfl) tq_121 rfl rfl ?_
      refine e_bip 152 em_463 (ce_at ce_463 91 rfl) (by decide) rfl ?_
      refine e_mv 153 em_463 (ce_at ce_463 92 rfl) rfl rfl ?_
      refine e_imul 154 em_463 rfl (ce_at ce_463 93 rfl) ?_
      refine e_mv 155 em_463 (ce_at ce_463 94 rfl) rfl rfl ?_
      refine e_iadd 156 em_463 rfl (ce_at ce_463 95 rfl) ?_
      refine e_gd fun g7 => ?_
      refine e_zld 157 em_463 (ce_at ce_463 96 rfl) tq_219 (by decide) g7 rfl ?_
      refine e_gd fun g8 => ?_
      refine e_ifeq 178 160 em_463 rfl rfl (ce_at ce_463 97 rfl) g8 (fun h9 => ?_) (fun h9 => ?_)
      · refine e_pk [0, 1, 2, 3] rfl rfl ?_
        exact tm_checkRing_178 w d hd _ _ _ _ _
      · refine e_mv 161 em_463 (ce_at ce_463 98 rfl) rfl rfl ?_
        refine e_getr 164 em_463 (ce_at ce_463 99 rfl) tq_121 rfl rfl ?_
        refine e_bip 166 em_463 (ce_at ce_463 100 rfl) (by decide) rfl ?_
        refine e_mv 167 em_463 (ce_at ce_463 101 rfl) rfl rfl ?_
        refine e_imul 168 em_463 rfl (ce_at ce_463 102 rfl) ?_
        refine e_mv 169 em_463 (ce_at ce_463 103 rfl) rfl rfl ?_
        refine e_iadd 170 em_463 rfl (ce_at ce_463 104 rfl) ?_
        refine e_gd fun g10 => ?_
        refine e_zld 171 em_463 (ce_at ce_463 105 rfl) tq_219 (by decide) g10 rfl ?_
        refine e_gd fun g11 => ?_
        refine e_ifeq 178 174 em_463 rfl rfl (ce_at ce_463 106 rfl) g11 (fun h12 => ?_) (fun h12 => ?_)
        · refine e_pk [0, 1, 2, 3] rfl rfl ?_
          exact tm_checkRing_178 w d hd _ _ _ _ _
        · refine e_pk [0, 1, 2, 3] rfl rfl ?_
          exact tm_checkRing_174 w d hd _ _ _ _ _
theorem fm_checkRing_114b (v1 : Int) (v2 : Int) (v3 : Int) (s : iS) : Fm (fun r : (Int × iS) ⊕ (iS) => r.elim (fun l => l.2) (fun e => e)) L_m_checkRing G_m_checkRing s (m_checkRing_114b v1 v2 v3 s) := fm_gd (fm_gd (fm_if (fm_some md_refl) (fm_gd (fm_gd (fm_if (fm_gd (fm_gd (fm_if (fm_checkRing_178 _ _ _ _ _) (fm_gd (fm_gd (fm_if (fm_checkRing_178 _ _ _ _ _) (fm_checkRing_174 _ _ _ _ _))))))) (fm_checkRing_174 _ _ _ _ _))))))
def m_checkRing_104C (w : ev_W) (d : Nat) (v1 : Int) : (Int × iS) ⊕ (iS) → am_E → Prop := fun q r => q.elim (fun l => ev w d 463 104 ((fun l => [(0, .ref (tb_nK + 121)), (1, iv v1), (2, iv (l.1))]) l) [] (hT ((fun l => l.2) l)) r) (fun e => (fun e r => ev w d 463 192 [(0, .ref (tb_nK + 121)), (1, iv v1)] [] (hT (e)) r) e r)
noncomputable def m_checkRing_114 (v1 : Int) (v2 : Int) (v3 : Int) (s : iS) : Option ((Int × iS) ⊕ (iS)) := (lp (L := Int × iS) (E := iS) (fun l => m_checkRing_114b v1 v2 (l.1) (l.2)) (v3, s)).bind (fun e => some (.inl ((v2 + 1), e)))
theorem tm_checkRing_114 (w : ev_W) (d : Nat) (hd : 1 ≤ d) (v1 : Int) (v2 : Int) (v3 : Int) (s : iS) : Ew hT w d 463 114 [(0, .ref (tb_nK + 121)), (1, iv v1), (2, iv v2), (3, iv v3)] [] s (m_checkRing_104C w d v1) (m_checkRing_114 v1 v2 v3 s) := by
  unfold m_checkRing_114
  refine e_lp (LO := fun l => [(0, .ref (tb_nK + 121)), (1, iv v1), (2, iv v2), (3, iv (l.1))]) (LS := fun l => l.2) (CE := fun e r => ev w d 463 186 [(0, .ref (tb_nK + 121)), (1, iv v1), (2, iv v2)] [] (hT (e)) r) (fun l => tm_checkRing_114b w d hd _ _ _ _) ?_ (v3, s)
  intro e
  show Ew hT w d 463 186 [(0, .ref (tb_nK + 121)), (1, iv v1), (2, iv v2)] [] e (m_checkRing_104C w d v1) _
  refine e_iinc 189 em_463 (ce_at ce_463 113 rfl) rfl (by decide) rfl ?_
  refine e_goto em_463 104 (ce_at ce_463 114 rfl) rfl ?_
  refine e_pk [0, 1, 2] rfl rfl ?_
  exact e_out (fun r h => h)
theorem fm_checkRing_114 (v1 : Int) (v2 : Int) (v3 : Int) (s : iS) : Fm (fun r : (Int × iS) ⊕ (iS) => r.elim (fun l => l.2) (fun e => e)) L_m_checkRing G_m_checkRing s (m_checkRing_114 v1 v2 v3 s) := fm_lp (LS := fun l => l.2) (LE := fun e => e) (fun l => fm_checkRing_114b _ _ _ _) (fun e => fm_some md_refl) (v3, s)
noncomputable def m_checkRing_104b (v1 : Int) (v2 : Int) (s : iS) : Option ((Int × iS) ⊕ (iS)) := gd (rg v2) (gd (rg (s 121 122)) (if (s 121 122) ≤ v2 then some (.inr s) else m_checkRing_114 v1 v2 0 s))
theorem tm_checkRing_104b (w : ev_W) (d : Nat) (hd : 1 ≤ d) (v1 : Int) (v2 : Int) (s : iS) : Ew hT w d 463 104 [(0, .ref (tb_nK + 121)), (1, iv v1), (2, iv v2)] [] s (m_checkRing_104C w d v1) (m_checkRing_104b v1 v2 s) := by
  unfold m_checkRing_104b
  refine e_mv 105 em_463 (ce_at ce_463 63 rfl) rfl rfl ?_
  refine e_mv 106 em_463 (ce_at ce_463 64 rfl) rfl rfl ?_
  refine e_get 109 em_463 (ce_at ce_463 65 rfl) tq_121 rfl rfl ?_
  refine e_gd fun g1 => ?_
  refine e_gd fun g2 => ?_
  refine e_cmge 192 112 em_463 rfl rfl (ce_at ce_463 66 rfl) g1 g2 (fun h3 => ?_) (fun h3 => ?_)
  · refine e_pk [0, 1] rfl rfl ?_
    exact e_out (fun r h => h)
  · refine e_op 113 em_463 (ce_at ce_463 67 rfl) rfl rfl ?_
    refine e_mv 114 em_463 (ce_at ce_463 68 rfl) rfl rfl ?_
    refine e_pk [0, 1, 2, 3] rfl rfl ?_
    exact tm_checkRing_114 w d hd _ _ _ _
theorem fm_checkRing_104b (v1 : Int) (v2 : Int) (s : iS) : Fm (fun r : (Int × iS) ⊕ (iS) => r.elim (fun l => l.2) (fun e => e)) L_m_checkRing G_m_checkRing s (m_checkRing_104b v1 v2 s) := fm_gd (fm_gd (fm_if (fm_some md_refl) (fm_checkRing_114 _ _ _ _)))
def m_checkRing_94C (w : ev_W) (d : Nat) : (Int × iS) ⊕ (iS) → am_E → Prop := fun q r => q.elim (fun l => ev w d 463 94 ((fun l => [(0, .ref (tb_nK + 121)), (1, iv (l.1))]) l) [] (hT ((fun l => l.2) l)) r) (fun e => (fun e r => ev w d 463 198 [(0, .ref (tb_nK + 121))] [] (hT (e)) r) e r)
noncomputable def m_checkRing_104 (v1 : Int) (v2 : Int) (s : iS) : Option ((Int × iS) ⊕ (iS)) := (lp (L := Int × iS) (E := iS) (fun l => m_checkRing_104b v1 (l.1) (l.2)) (v2, s)).bind (fun e => some (.inl ((v1 + 1), e)))
theorem tm_checkRing_104 (w : ev_W) (d : Nat) (hd : 1 ≤ d) (v1 : Int) (v2 : Int) (s : iS) : Ew hT w d 463 104 [(0, .ref (tb_nK + 121)), (1, iv v1), (2, iv v2)] [] s (m_checkRing_94C w d) (m_checkRing_104 v1 v2 s) := by
  unfold m_checkRing_104
  refine e_lp (LO := fun l => [(0, .ref (tb_nK + 121)), (1, iv v1), (2, iv (l.1))]) (LS := fun l => l.2) (CE := fun e r => ev w d 463 192 [(0, .ref (tb_nK + 121)), (1, iv v1)] [] (hT (e)) r) (fun l => tm_checkRing_104b w d hd _ _ _) ?_ (v2, s)
  intro e
  show Ew hT w d 463 192 [(0, .ref (tb_nK + 121)), (1, iv v1)] [] e (m_checkRing_94C w d) _
  refine e_iinc 195 em_463 (ce_at ce_463 115 rfl) rfl (by decide) rfl ?_
  refine e_goto em_463 94 (ce_at ce_463 116 rfl) rfl ?_
  refine e_pk [0, 1] rfl rfl ?_
  exact e_out (fun r h => h)
theorem fm_checkRing_104 (v1 : Int) (v2 : Int) (s : iS) : Fm (fun r : (Int × iS) ⊕ (iS) => r.elim (fun l => l.2) (fun e => e)) L_m_checkRing G_m_checkRing s (m_checkRing_104 v1 v2 s) := fm_lp (LS := fun l => l.2) (LE := fun e => e) (fun l => fm_checkRing_104b _ _ _) (fun e => fm_some md_refl) (v2, s)
noncomputable def m_checkRing_94b (v1 : Int) (s : iS) : Option ((Int × iS) ⊕ (iS)) := gd (rg v1) (gd (rg (s 121 122)) (if (s 121 122) ≤ v1 then some (.inr s) else m_checkRing_104 v1 0 s))
theorem tm_checkRing_94b (w : ev_W) (d : Nat) (hd : 1 ≤ d) (v1 : Int) (s : iS) : Ew hT w d 463 94 [(0, .ref (tb_nK + 121)), (1, iv v1)] [] s (m_checkRing_94C w d) (m_checkRing_94b v1 s) := by
  unfold m_checkRing_94b
  refine e_mv 95 em_463 (ce_at ce_463 57 rfl) rfl rfl ?_
  refine e_mv 96 em_463 (ce_at ce_463 58 rfl) rfl rfl ?_
  refine e_get 99 em_463 (ce_at ce_463 59 rfl) tq_121 rfl rfl ?_
  refine e_gd fun g1 => ?_
  refine e_gd fun g2 => ?_
  refine e_cmge 198 102 em_463 rfl rfl (ce_at ce_463 60 rfl) g1 g2 (fun h3 => ?_) (fun h3 => ?_)
  · refine e_pk [0] rfl rfl ?_
    exact e_out (fun r h => h)
  · refine e_op 103 em_463 (ce_at ce_463 61 rfl) rfl rfl ?_
    refine e_mv 104 em_463 (ce_at ce_463 62 rfl) rfl rfl ?_
    refine e_pk [0, 1, 2] rfl rfl ?_
    exact tm_checkRing_104 w d hd _ _ _
theorem fm_checkRing_94b (v1 : Int) (s : iS) : Fm (fun r : (Int × iS) ⊕ (iS) => r.elim (fun l => l.2) (fun e => e)) L_m_checkRing G_m_checkRing s (m_checkRing_94b v1 s) := fm_gd (fm_gd (fm_if (fm_some md_refl) (fm_checkRing_104 _ _ _)))
def m_checkRing_200C (w : ev_W) (d : Nat) : (Int × iS) ⊕ (iS) → am_E → Prop := fun q r => q.elim (fun l => ev w d 463 200 ((fun l => [(0, .ref (tb_nK + 121)), (1, iv (l.1))]) l) [] (hT ((fun l => l.2) l)) r) (fun e => (fun e r => ev w d 463 238 [] [] (hT (e)) r) e r)
noncomputable def m_checkRing_200b (v1 : Int) (s : iS) : Option ((Int × iS) ⊕ (iS)) := gd (rg v1) (gd (rg (s 121 122)) (if (s 121 122) ≤ v1 then some (.inr s) else gd (0 ≤ (17 * v1) ∧ (17 * v1) < 256) (gd (rg (s 219 (17 * v1).toNat)) (if (s 219 (17 * v1).toNat) = 0 then some (.inl ((v1 + 1), s)) else gd (0 ≤ v1 ∧ v1 < 17) (bd (m_note 6 (s 195 v1.toNat) s) (fun _ s8 => some (.inl ((v1 + 1), s8))))))))
theorem tm_checkRing_200b (w : ev_W) (d : Nat) (hd : 1 ≤ d) (v1 : Int) (s : iS) : Ew hT w d 463 200 [(0, .ref (tb_nK + 121)), (1, iv v1)] [] s (m_checkRing_200C w d) (m_checkRing_200b v1 s) := by
  unfold m_checkRing_200b
  refine e_mv 201 em_463 (ce_at ce_463 119 rfl) rfl rfl ?_
  refine e_mv 202 em_463 (ce_at ce_463 120 rfl) rfl rfl ?_
  refine e_get 205 em_463 (ce_at ce_463 121 rfl) tq_121 rfl rfl ?_
  refine e_gd fun g1 => ?_
  refine e_gd fun g2 => ?_
  refine e_cmge 238 208 em_463 rfl rfl (ce_at ce_463 122 rfl) g1 g2 (fun h3 => ?_) (fun h3 => ?_)
  · refine e_pk [] rfl rfl ?_
    exact e_out (fun r h => h)
  · refine e_mv 209 em_463 (ce_at ce_463 123 rfl) rfl rfl ?_
    refine e_getr 212 em_463 (ce_at ce_463 124 rfl) tq_121 rfl rfl ?_
    refine e_bip 214 em_463 (ce_at ce_463 125 rfl) (by decide) rfl ?_
    refine e_mv 215 em_463 (ce_at ce_463 126 rfl) rfl rfl ?_
    refine e_imul 216 em_463 rfl (ce_at ce_463 127 rfl) ?_
    refine e_gd fun g4 => ?_
    refine e_zld 217 em_463 (ce_at ce_463 128 rfl) tq_219 (by decide) g4 rfl ?_
    refine e_gd fun g5 => ?_
    refine e_ifeq 232 220 em_463 rfl rfl (ce_at ce_463 129 rfl) g5 (fun h6 => ?_) (fun h6 => ?_)
    · refine e_iinc 235 em_463 (ce_at ce_463 137 rfl) rfl (by decide) rfl ?_
      refine e_goto em_463 200 (ce_at ce_463 138 rfl) rfl ?_
      refine e_pk [0, 1] rfl rfl ?_
      exact e_out (fun r h => h)
    · refine e_mv 221 em_463 (ce_at ce_463 130 rfl) rfl rfl ?_
      refine e_bip 223 em_463 (ce_at ce_463 131 rfl) (by decide) rfl ?_
      refine e_mv 224 em_463 (ce_at ce_463 132 rfl) rfl rfl ?_
      refine e_getr 227 em_463 (ce_at ce_463 133 rfl) tq_121 rfl rfl ?_
      refine e_mv 228 em_463 (ce_at ce_463 134 rfl) rfl rfl ?_
      refine e_gd fun g7 => ?_
      refine e_ild 229 em_463 (ce_at ce_463 135 rfl) tq_195 (by decide) g7 rfl ?_
      refine e_ivv 232 em_463 (ce_at ce_463 136 rfl) (by omega) (iv_v2 (by decide) tq_121 rfl) em_351 (Nat.le_of_ble_eq_true rfl) rfl (tm_note w (d - 1) (by omega) _ _ _) (fun r8 s8 => ?_)
      refine e_iinc 235 em_463 (ce_at ce_463 137 rfl) rfl (by decide) rfl ?_
      refine e_goto em_463 200 (ce_at ce_463 138 rfl) rfl ?_
      refine e_pk [0, 1] rfl rfl ?_
      exact e_out (fun r h => h)
theorem fm_checkRing_200b (v1 : Int) (s : iS) : Fm (fun r : (Int × iS) ⊕ (iS) => r.elim (fun l => l.2) (fun e => e)) L_m_checkRing G_m_checkRing s (m_checkRing_200b v1 s) := fm_gd (fm_gd (fm_if (fm_some md_refl) (fm_gd (fm_gd (fm_if (fm_some md_refl) (fm_gd (fm_bd (fm_sub (fm_note _ _ _) (mem_sub_L rfl) (mem_sub_F rfl)) (fun r8 s8 => fm_some md_refl))))))))
noncomputable def m_checkRing_200 (v1 : Int) (s : iS) : Option (Int × iS) := (lp (L := Int × iS) (E := iS) (fun l => m_checkRing_200b (l.1) (l.2)) (v1, s)).bind (fun e => some (0, e))
theorem tm_checkRing_200 (w : ev_W) (d : Nat) (hd : 1 ≤ d) (v1 : Int) (s : iS) : Ew hT w d 463 200 [(0, .ref (tb_nK + 121)), (1, iv v1)] [] s (Cv hT) (m_checkRing_200 v1 s) := by
  unfold m_checkRing_200
  refine e_lp (LO := fun l => [(0, .ref (tb_nK + 121)), (1, iv (l.1))]) (LS := fun l => l.2) (CE := fun e r => ev w d 463 238 [] [] (hT (e)) r) (fun l => tm_checkRing_200b w d hd _ _) ?_ (v1, s)
  intro e
  show Ew hT w d 463 238 [] [] e (Cv hT) _
  exact e_retv em_463 (ce_at ce_463 139 rfl)
theorem fm_checkRing_200 (v1 : Int) (s : iS) : Fm Prod.snd L_m_checkRing G_m_checkRing s (m_checkRing_200 v1 s) := fm_lp (LS := fun l => l.2) (LE := fun e => e) (fun l => fm_checkRing_200b _ _) (fun e => fm_some md_refl) (v1, s)
noncomputable def m_checkRing_198 (s : iS) : Option (Int × iS) := m_checkRing_200 0 s
theorem tm_checkRing_198 (w : ev_W) (d : Nat) (hd : 1 ≤ d) (s : iS) : Ew hT w d 463 198 [(0, .ref (tb_nK + 121))] [] s (Cv hT) (m_checkRing_198 s) := by
  unfold m_checkRing_198
  refine e_op 199 em_463 (ce_at ce_463 117 rfl) rfl rfl ?_
  refine e_mv 200 em_463 (ce_at ce_463 118 rfl) rfl rfl ?_
  refine e_pk [0, 1] rfl rfl ?_
  exact tm_checkRing_200 w d hd _ _
theorem fm_checkRing_198 (s : iS) : Fm Prod.snd L_m_checkRing G_m_checkRing s (m_checkRing_198 s) := fm_checkRing_200 _ _
noncomputable def m_checkRing_94 (v1 : Int) (s : iS) : Option (Int × iS) := (lp (L := Int × iS) (E := iS) (fun l => m_checkRing_94b (l.1) (l.2)) (v1, s)).bind (fun e => m_checkRing_198 e)
theorem tm_checkRing_94 (w : ev_W) (d : Nat) (hd : 1 ≤ d) (v1 : Int) (s : iS) : Ew hT w d 463 94 [(0, .ref (tb_nK + 121)), (1, iv v1)] [] s (Cv hT) (m_checkRing_94 v1 s) := by
  unfold m_checkRing_94
  refine e_lp (LO := fun l => [(0, .ref (tb_nK + 121)), (1, iv (l.1))]) (LS := fun l => l.2) (CE := fun e r => ev w d 463 198 [(0, .ref (tb_nK + 121))] [] (hT (e)) r) (fun l => tm_checkRing_94b w d hd _ _) ?_ (v1, s)
  intro e
  show Ew hT w d 463 198 [(0, .ref (tb_nK + 121))] [] e (Cv hT) _
  refine e_pk [0] rfl rfl ?_
  exact tm_checkRing_198 w d hd _
theorem fm_checkRing_94 (v1 : Int) (s : iS) : Fm Prod.snd L_m_checkRing G_m_checkRing s (m_checkRing_94 v1 s) := fm_lp (LS := fun l => l.2) (LE := fun e => e) (fun l => fm_checkRing_94b _ _) (fun e => fm_checkRing_198 _) (v1, s)
noncomputable def m_checkRing_92 (s : iS) : Option (Int × iS) := m_checkRing_94 0 s
theorem tm_checkRing_92 (w : ev_W) (d : Nat) (hd : 1 ≤ d) (s : iS) : Ew hT w d 463 92 [(0, .ref (tb_nK + 121))] [] s (Cv hT) (m_checkRing_92 s) := by
  unfold m_checkRing_92
  refine e_op 93 em_463 (ce_at ce_463 55 rfl) rfl rfl ?_
  refine e_mv 94 em_463 (ce_at ce_463 56 rfl) rfl rfl ?_
  refine e_pk [0, 1] rfl rfl ?_
  exact tm_checkRing_94 w d hd _ _
theorem fm_checkRing_92 (s : iS) : Fm Prod.snd L_m_checkRing G_m_checkRing s (m_checkRing_92 s) := fm_checkRing_94 _ _
noncomputable def m_checkRing_24 (v1 : Int) (s : iS) : Option (Int × iS) := (lp (L := Int × iS) (E := iS) (fun l => m_checkRing_24b (l.1) (l.2)) (v1, s)).bind (fun e => m_checkRing_92 e)
theorem tm_checkRing_24 (w : ev_W) (d : Nat) (hd : 1 ≤ d) (v1 : Int) (s : iS) : Ew hT w d 463 24 [(0, .ref (tb_nK + 121)), (1, iv v1)] [] s (Cv hT) (m_checkRing_24 v1 s) := by
  unfold m_checkRing_24
  refine e_lp (LO := fun l => [(0, .ref (tb_nK + 121)), (1, iv (l.1))]) (LS := fun l => l.2) (CE := fun e r => ev w d 463 92 [(0, .ref (tb_nK + 121))] [] (hT (e)) r) (fun l => tm_checkRing_24b w d hd _ _) ?_ (v1, s)
  intro e
  show Ew hT w d 463 92 [(0, .ref (tb_nK + 121))] [] e (Cv hT) _
  refine e_pk [0] rfl rfl ?_
  exact tm_checkRing_92 w d hd _
theorem fm_checkRing_24 (v1 : Int) (s : iS) : Fm Prod.snd L_m_checkRing G_m_checkRing s (m_checkRing_24 v1 s) := fm_lp (LS := fun l => l.2) (LE := fun e => e) (fun l => fm_checkRing_24b _ _) (fun e => fm_checkRing_92 _) (v1, s)
noncomputable def m_checkRing_22 (s : iS) : Option (Int × iS) := m_checkRing_24 0 s
theorem tm_checkRing_22 (w : ev_W) (d : Nat) (hd : 1 ≤ d) (s : iS) : Ew hT w d 463 22 [(0, .ref (tb_nK + 121))] [] s (Cv hT) (m_checkRing_22 s) := by
  unfold m_checkRing_22
  refine e_op 23 em_463 (ce_at ce_463 12 rfl) rfl rfl ?_
  refine e_mv 24 em_463 (ce_at ce_463 13 rfl) rfl rfl ?_
  refine e_pk [0, 1] rfl rfl ?_
  exact tm_checkRing_24 w d hd _ _
theorem fm_checkRing_22 (s : iS) : Fm Prod.snd L_m_checkRing G_m_checkRing s (m_checkRing_22 s) := fm_checkRing_24 _ _
noncomputable def m_checkRing_2 (v1 : Int) (s : iS) : Option (Int × iS) := (lp (L := Int × iS) (E := iS) (fun l => m_checkRing_2b (l.1) (l.2)) (v1, s)).bind (fun e => m_checkRing_22 e)
theorem tm_checkRing_2 (w : ev_W) (d : Nat) (hd : 1 ≤ d) (v1 : Int) (s : iS) : Ew hT w d 463 2 [(0, .ref (tb_nK + 121)), (1, iv v1)] [] s (Cv hT) (m_checkRing_2 v1 s) := by
  unfold m_checkRing_2
  refine e_lp (LO := fun l => [(0, .ref (tb_nK + 121)), (1, iv (l.1))]) (LS := fun l => l.2) (CE := fun e r => ev w d 463 22 [(0, .ref (tb_nK + 121))] [] (hT (e)) r) (fun l => tm_checkRing_2b w d hd _ _) ?_ (v1, s)
  intro e
  show Ew hT w d 463 22 [(0, .ref (tb_nK + 121))] [] e (Cv hT) _
  refine e_pk [0] rfl rfl ?_
  exact tm_checkRing_22 w d hd _
theorem fm_checkRing_2 (v1 : Int) (s : iS) : Fm Prod.snd L_m_checkRing G_m_checkRing s (m_checkRing_2 v1 s) := fm_lp (LS := fun l => l.2) (LE := fun e => e) (fun l => fm_checkRing_2b _ _) (fun e => fm_checkRing_22 _) (v1, s)
noncomputable def m_checkRing (s : iS) : Option (Int × iS) := m_checkRing_2 0 s
theorem tm_checkRing (w : ev_W) (d : Nat) (hd : 1 ≤ d) (s : iS) : Ew hT w d 463 0 [(0, .ref (tb_nK + 121))] [] s (Cv hT) (m_checkRing s) := by
  unfold m_checkRing
  refine e_op 1 em_463 (ce_at ce_463 0 rfl) rfl rfl ?_
  refine e_mv 2 em_463 (ce_at ce_463 1 rfl) rfl rfl ?_
  refine e_pk [0, 1] rfl rfl ?_
  exact tm_checkRing_2 w d hd _ _
theorem fm_checkRing (s : iS) : Fm Prod.snd L_m_checkRing G_m_checkRing s (m_checkRing s) := fm_checkRing_2 _ _
/-! m_chips -/
def L_m_chips : List Nat := [123, 124, 125, 126, 127, 195, 196, 197, 198, 199, 200, 201, 202, 203, 204, 205, 206, 207, 208, 209, 210, 211, 212, 213, 214, 215, 216, 217, 218, 219, 220, 221, 222, 223, 224, 225, 226, 227, 228, 229, 230, 231, 232]
def G_m_chips : List (Nat × Nat) := [(121, 1), (121, 3), (121, 4), (121, 9), (121, 10), (121, 11), (121, 12), (121, 69), (121, 70), (121, 122), (121, 125), (121, 131), (121, 134), (121, 144), (121, 148), (121, 149), (121, 150), (121, 152), (121, 158), (121, 161), (121, 166), (121, 170), (121, 173), (121, 174)]
def m_chips_58C (w : ev_W) (d : Nat) : (Int × iS) ⊕ (iS) → am_E → Prop := fun q r => q.elim (fun l => ev w d 442 58 ((fun l => [(0, .ref (tb_nK + 121)), (2, iv (l.1))]) l) [] (hT ((fun l => l.2) l)) r) (fun e => (fun e r => ev w d 442 82 [(0, .ref (tb_nK + 121))] [] (hT (e)) r) e r)
noncomputable def m_chips_58b (v2 : Int) (s : iS) : Option ((Int × iS) ⊕ (iS)) := gd (rg v2) (gd (rg (s 121 122)) (if (s 121 122) ≤ v2 then some (.inr s) else bd (m_findInner v2 s) (fun _ s4 => bd (m_checkLinks v2 s4) (fun _ s5 => some (.inl ((v2 + 1), s5))))))
theorem tm_chips_58b (w : ev_W) (d : Nat) (hd : 8 ≤ d) (v2 : Int) (s : iS) : Ew hT w d 442 58 [(0, .ref (tb_nK + 121)), (2, iv v2)] [] s (m_chips_58C w d) (m_chips_58b v2 s) := by
  unfold m_chips_58b
  refine e_mv 59 em_442 (ce_at ce_442 32 rfl) rfl rfl ?_
  refine e_mv 60 em_442 (ce_at ce_442 33 rfl) rfl rfl ?_
  refine e_get 63 em_442 (ce_at ce_442 34 rfl) tq_121 rfl rfl ?_
  refine e_gd fun g1 => ?_
  refine e_gd fun g2 => ?_
  refine e_cmge 82 66 em_442 rfl rfl (ce_at ce_442 35 rfl) g1 g2 (fun h3 => ?_) (fun h3 => ?_)
  · refine e_pk [0] rfl rfl ?_
    exact e_out (fun r h => h)
  · refine e_mv 67 em_442 (ce_at ce_442 36 rfl) rfl rfl ?_
    refine e_mv 68 em_442 (ce_at ce_442 37 rfl) rfl rfl ?_
    refine e_ivv 71 em_442 (ce_at ce_442 38 rfl) (by omega) (iv_v1 (by decide) tq_121 rfl) em_454 (Nat.le_of_ble_eq_true rfl) rfl (tm_findInner w (d - 1) (by omega) _ _) (fun r4 s4 => ?_)
    refine e_mv 72 em_442 (ce_at ce_442 39 rfl) rfl rfl ?_
    refine e_mv 73 em_442 (ce_at ce_442 40 rfl) rfl rfl ?_
    refine e_ivv 76 em_442 (ce_at ce_442 41 rfl) (by omega) (iv_v1 (by decide) tq_121 rfl) em_461 (Nat.le_of_ble_eq_true rfl) rfl (tm_checkLinks w (d - 1) (by omega) _ _) (fun r5 s5 => ?_)
    refine e_iinc 79 em_442 (ce_at ce_442 42 rfl) rfl (by decide) rfl ?_
    refine e_goto em_442 58 (ce_at ce_442 43 rfl) rfl ?_
    refine e_pk [0, 2] rfl rfl ?_
    exact e_out (fun r h => h)
theorem fm_chips_58b (v2 : Int) (s : iS) : Fm (fun r : (Int × iS) ⊕ (iS) => r.elim (fun l => l.2) (fun e => e)) L_m_chips G_m_chips s (m_chips_58b v2 s) := fm_gd (fm_gd (fm_if (fm_some md_refl) (fm_bd (fm_sub (fm_findInner _ _) (mem_sub_L rfl) (mem_sub_F rfl)) (fun r4 s4 => fm_bd (fm_sub (fm_checkLinks _ _) (mem_sub_L rfl) (mem_sub_F rfl)) (fun r5 s5 => fm_some md_refl)))))
def m_chips_222C (w : ev_W) (d : Nat) : (Int × iS) ⊕ (iS) → am_E → Prop := fun q r => q.elim (fun l => ev w d 442 222 ((fun l => [(0, .ref (tb_nK + 121)), (2, iv (l.1))]) l) [] (hT ((fun l => l.2) l)) r) (fun e => (fun e r => ev w d 442 243 [(0, .ref (tb_nK + 121))] [] (hT (e)) r) e r)
noncomputable def m_chips_222b (v2 : Int) (s : iS) : Option ((Int × iS) ⊕ (iS)) := gd (rg v2) (gd (rg (s 121 158)) (if (s 121 158) ≤ v2 then some (.inr s) else gd (0 ≤ v2 ∧ v2 < 40000) (lt' (up s 230 v2.toNat 0) (fun s5 => some (.inl ((v2 + 1), s5))))))
theorem tm_chips_222b (w : ev_W) (d : Nat) (hd : 8 ≤ d) (v2 : Int) (s : iS) : Ew hT w d 442 222 [(0, .ref (tb_nK + 121)), (2, iv v2)] [] s (m_chips_222C w d) (m_chips_222b v2 s) := by
  unfold m_chips_222b
  refine e_mv 223 em_442 (ce_at ce_442 117 rfl) rfl rfl ?_
  refine e_mv 224 em_442 (ce_at ce_442 118 rfl) rfl rfl ?_
  refine e_get 227 em_442 (ce_at ce_442 119 rfl) tq_121 rfl rfl ?_
  refine e_gd fun g1 => ?_
  refine e_gd fun g2 => ?_
  refine e_cmge 243 230 em_442 rfl rfl (ce_at ce_442 120 rfl) g1 g2 (fun h3 => ?_) (fun h3 => ?_)
  · refine e_pk [0] rfl rfl ?_
    exact e_out (fun r h => h)
  · refine e_mv 231 em_442 (ce_at ce_442 121 rfl) rfl rfl ?_
    refine e_getr 234 em_442 (ce_at ce_442 122 rfl) tq_121 rfl rfl ?_
    refine e_mv 235 em_442 (ce_at ce_442 123 rfl) rfl rfl ?_
    refine e_op 236 em_442 (ce_at ce_442 124 rfl) rfl rfl ?_
    refine e_gd fun g4 => ?_
    refine e_ist 237 em_442 (ce_at ce_442 125 rfl) tq_230 (by decide) g4 rfl (fun s5 => ?_)
    refine e_iinc 240 em_442 (ce_at ce_442 126 rfl) rfl (by decide) rfl ?_
    refine e_goto em_442 222 (ce_at ce_442 127 rfl) rfl ?_
    refine e_pk [0, 2] rfl rfl ?_
    exact e_out (fun r h => h)
theorem fm_chips_222b (v2 : Int) (s : iS) : Fm (fun r : (Int × iS) ⊕ (iS) => r.elim (fun l => l.2) (fun e => e)) L_m_chips G_m_chips s (m_chips_222b v2 s) := fm_gd (fm_gd (fm_if (fm_some md_refl) (fm_gd (fm_lt (md_upL (mem_L rfl)) (fun s5 => fm_some md_refl)))))
noncomputable def m_chips_243 (s : iS) : Option (Int × iS) := bd (m_settle s) (fun _ s1 => some (0, s1))
theorem tm_chips_243 (w : ev_W) (d : Nat) (hd : 8 ≤ d) (s : iS) : Ew hT w d 442 243 [(0, .ref (tb_nK + 121))] [] s (Ci hT) (m_chips_243 s) := by
  unfold m_chips_243
  refine e_mv 244 em_442 (ce_at ce_442 128 rfl) rfl rfl ?_
  refine e_ivv 247 em_442 (ce_at ce_442 129 rfl) (by omega) (iv_v0 (by decide) tq_121 rfl) em_476 (Nat.le_of_ble_eq_true rfl) rfl (tm_settle w (d - 1) (by omega) _) (fun r1 s1 => ?_)
  refine e_op 248 em_442 (ce_at ce_442 130 rfl) rfl rfl ?_
  exact e_reti em_442 (ce_at ce_442 131 rfl)
theorem fm_chips_243 (s : iS) : Fm Prod.snd L_m_chips G_m_chips s (m_chips_243 s) := fm_bd (fm_sub (fm_settle _) (mem_sub_L rfl) (mem_sub_F rfl)) (fun r1 s1 => fm_some md_refl)
noncomputable def m_chips_222 (v2 : Int) (s : iS) : Option (Int × iS) := (lp (L := Int × iS) (E := iS) (fun l => m_chips_222b (l.1) (l.2)) (v2, s)).bind (fun e => m_chips_243 e)
theorem tm_chips_222 (w : ev_W) (d : Nat) (hd : 8 ≤ d) (v2 : Int) (s : iS) : Ew hT w d 442 222 [(0, .ref (tb_nK + 121)), (2, iv v2)] [] s (Ci hT) (m_chips_222 v2 s) := by
  unfold m_chips_222
  refine e_lp (LO := fun l => [(0, .ref (tb_nK + 121)), (2, iv (l.1))]) (LS := fun l => l.2) (CE := fun e r => ev w d 442 243 [(0, .ref (tb_nK + 121))] [] (hT (e)) r) (fun l => tm_chips_222b w d hd _ _) ?_ (v2, s)
  intro e
  show Ew hT w d 442 243 [(0, .ref (tb_nK + 121))] [] e (Ci hT) _
  refine e_pk [0] rfl rfl ?_
  exact tm_chips_243 w d hd _
theorem fm_chips_222 (v2 : Int) (s : iS) : Fm Prod.snd L_m_chips G_m_chips s (m_chips_222 v2 s) := fm_lp (LS := fun l => l.2) (LE := fun e => e) (fun l => fm_chips_222b _ _) (fun e => fm_chips_243 _) (v2, s)
noncomputable def m_chips_185 (s : iS) : Option (Int × iS) := lt' (up s 121 4 (s 121 70)) (fun s1 => gd (rg (s1 121 69)) (if (s1 121 69) ≤ 0 then lt' (up s1 121 4 (-1)) (fun s4 => lt' (up s4 121 152 1) (fun s5 => lt' (up s5 121 173 0) (fun s6 => m_chips_222 0 s6))) else some ((s1 121 69), s1)))
theorem tm_chips_185 (w : ev_W) (d : Nat) (hd : 8 ≤ d) (s : iS) : Ew hT w d 442 185 [(0, .ref (tb_nK + 121))] [] s (Ci hT) (m_chips_185 s) := by
  unfold m_chips_185
  refine e_mv 186 em_442 (ce_at ce_442 96 rfl) rfl rfl ?_
  refine e_mv 187 em_442 (ce_at ce_442 97 rfl) rfl rfl ?_
  refine e_get 190 em_442 (ce_at ce_442 98 rfl) tq_121 rfl rfl ?_
  refine e_put 193 em_442 (ce_at ce_442 99 rfl) tq_121 rfl rfl rfl (fun s1 => ?_)
  refine e_mv 194 em_442 (ce_at ce_442 100 rfl) rfl rfl ?_
  refine e_get 197 em_442 (ce_at ce_442 101 rfl) tq_121 rfl rfl ?_
  refine e_gd fun g2 => ?_
  refine e_ifle 205 200 em_442 rfl rfl (ce_at ce_442 102 rfl) g2 (fun h3 => ?_) (fun h3 => ?_)
  · refine e_mv 206 em_442 (ce_at ce_442 106 rfl) rfl rfl ?_
    refine e_op 207 em_442 (ce_at ce_442 107 rfl) rfl rfl ?_
    refine e_put 210 em_442 (ce_at ce_442 108 rfl) tq_121 rfl rfl rfl (fun s4 => ?_)
    refine e_mv 211 em_442 (ce_at ce_442 109 rfl) rfl rfl ?_
    refine e_op 212 em_442 (ce_at ce_442 110 rfl) rfl rfl ?_
    refine e_put 215 em_442 (ce_at ce_442 111 rfl) tq_121 rfl rfl rfl (fun s5 => ?_)
    refine e_mv 216 em_442 (ce_at ce_442 112 rfl) rfl rfl ?_
    refine e_op 217 em_442 (ce_at ce_442 113 rfl) rfl rfl ?_
    refine e_put 220 em_442 (ce_at ce_442 114 rfl) tq_121 rfl rfl rfl (fun s6 => ?_)
    refine e_op 221 em_442 (ce_at ce_442 115 rfl) rfl rfl ?_
    refine e_mv 222 em_442 (ce_at ce_442 116 rfl) rfl rfl ?_
    refine e_pk [0, 2] rfl rfl ?_
    exact tm_chips_222 w d hd _ _
  · refine e_mv 201 em_442 (ce_at ce_442 103 rfl) rfl rfl ?_
    refine e_get 204 em_442 (ce_at ce_442 104 rfl) tq_121 rfl rfl ?_
    exact e_reti em_442 (ce_at ce_442 105 rfl)
theorem fm_chips_185 (s : iS) : Fm Prod.snd L_m_chips G_m_chips s (m_chips_185 s) := fm_lt (md_upF (mem_F rfl)) (fun s1 => fm_gd (fm_if (fm_lt (md_upF (mem_F rfl)) (fun s4 => fm_lt (md_upF (mem_F rfl)) (fun s5 => fm_lt (md_upF (mem_F rfl)) (fun s6 => fm_chips_222 _ _)))) (fm_some md_refl)))
noncomputable def m_chips_171 (s : iS) : Option (Int × iS) := lt' (up s 121 69 6) (fun s1 => lt' (up s1 121 70 (s1 121 3)) (fun s2 => m_chips_185 s2))
theorem tm_chips_171 (w : ev_W) (d : Nat) (hd : 8 ≤ d) (s : iS) : Ew hT w d 442 171 [(0, .ref (tb_nK + 121))] [] s (Ci hT) (m_chips_171 s) := by
  unfold m_chips_171
  refine e_mv 172 em_442 (ce_at ce_442 89 rfl) rfl rfl ?_
  refine e_bip 174 em_442 (ce_at ce_442 90 rfl) (by decide) rfl ?_
  refine e_put 177 em_442 (ce_at ce_442 91 rfl) tq_121 rfl rfl rfl (fun s1 => ?_)
  refine e_mv 178 em_442 (ce_at ce_442 92 rfl) rfl rfl ?_
  refine e_mv 179 em_442 (ce_at ce_442 93 rfl) rfl rfl ?_
  refine e_get 182 em_442 (ce_at ce_442 94 rfl) tq_121 rfl rfl ?_
  refine e_put 185 em_442 (ce_at ce_442 95 rfl) tq_121 rfl rfl rfl (fun s2 => ?_)
  refine e_pk [0] rfl rfl ?_
  exact tm_chips_185 w d hd _
theorem fm_chips_171 (s : iS) : Fm Prod.snd L_m_chips G_m_chips s (m_chips_171 s) := fm_lt (md_upF (mem_F rfl)) (fun s1 => fm_lt (md_upF (mem_F rfl)) (fun s2 => fm_chips_185 _))
noncomputable def m_chips_160 (v2 : Int) (s : iS) : Option (Int × iS) := gd (rg v2) (if v2 = 0 then m_chips_171 s else bd (m_order s) (fun r3 s3 => gd (rg r3) (if r3 = 0 then m_chips_171 s3 else m_chips_185 s3)))
theorem tm_chips_160 (w : ev_W) (d : Nat) (hd : 8 ≤ d) (v2 : Int) (s : iS) : Ew hT w d 442 160 [(0, .ref (tb_nK + 121)), (2, iv v2)] [] s (Ci hT) (m_chips_160 v2 s) := by
  unfold m_chips_160
  refine e_mv 161 em_442 (ce_at ce_442 84 rfl) rfl rfl ?_
  refine e_gd fun g1 => ?_
  refine e_ifeq 171 164 em_442 rfl rfl (ce_at ce_442 85 rfl) g1 (fun h2 => ?_) (fun h2 => ?_)
  · refine e_pk [0] rfl rfl ?_
    exact tm_chips_171 w d hd _
  · refine e_mv 165 em_442 (ce_at ce_442 86 rfl) rfl rfl ?_
    refine e_ivi 168 em_442 (ce_at ce_442 87 rfl) (by omega) (iv_v0 (by decide) tq_121 rfl) em_474 (Nat.le_of_ble_eq_true rfl) rfl (tm_order w (d - 1) (by omega) _) (fun r3 s3 => ?_)
    refine e_gd fun g4 => ?_
    refine e_ifne 185 171 em_442 rfl rfl (ce_at ce_442 88 rfl) g4 (fun h5 => ?_) (fun h5 => ?_)
    · refine e_pk [0] rfl rfl ?_
      exact tm_chips_185 w d hd _
    · refine e_pk [0] rfl rfl ?_
      exact tm_chips_171 w d hd _
theorem fm_chips_160 (v2 : Int) (s : iS) : Fm Prod.snd L_m_chips G_m_chips s (m_chips_160 v2 s) := fm_gd (fm_if (fm_chips_171 _) (fm_bd (fm_sub (fm_order _) (mem_sub_L rfl) (mem_sub_F rfl)) (fun r3 s3 => fm_gd (fm_if (fm_chips_171 _) (fm_chips_185 _)))))
noncomputable def m_chips_151 (t0 : Int) (s : iS) : Option (Int × iS) := gd (rg t0) (if t0 = 0 then m_chips_160 t0 s else bd (m_build s) (fun _ s3 => m_chips_160 t0 s3))
theorem tm_chips_151 (w : ev_W) (d : Nat) (hd : 8 ≤ d) (t0 : Int) (s : iS) : Ew hT w d 442 151 [(0, .ref (tb_nK + 121))] [iv t0] s (Ci hT) (m_chips_151 t0 s) := by
  unfold m_chips_151
  refine e_mv 152 em_442 (ce_at ce_442 79 rfl) rfl rfl ?_
  refine e_mv 153 em_442 (ce_at ce_442 80 rfl) rfl rfl ?_
  refine e_gd fun g1 => ?_
  refine e_ifeq 160 156 em_442 rfl rfl (ce_at ce_442 81 rfl) g1 (fun h2 => ?_) (fun h2 => ?_)
  · refine e_pk [0, 2] rfl rfl ?_
    exact tm_chips_160 w d hd _ _
  · refine e_mv 157 em_442 (ce_at ce_442 82 rfl) rfl rfl ?_
    refine e_ivv 160 em_442 (ce_at ce_442 83 rfl) (by omega) (iv_v0 (by decide) tq_121 rfl) em_465 (Nat.le_of_ble_eq_true rfl) rfl (tm_build w (d - 1) (by omega) _) (fun r3 s3 => ?_)
    refine e_pk [0, 2] rfl rfl ?_
    exact tm_chips_160 w d hd _ _
theorem fm_chips_151 (t0 : Int) (s : iS) : Fm Prod.snd L_m_chips G_m_chips s (m_chips_151 t0 s) := fm_gd (fm_if (fm_chips_160 _ _) (fm_bd (fm_sub (fm_build _) (mem_sub_L rfl) (mem_sub_F rfl)) (fun r3 s3 => fm_chips_160 _ _)))
noncomputable def m_chips_150 (s : iS) : Option (Int × iS) := m_chips_151 0 s
theorem tm_chips_150 (w : ev_W) (d : Nat) (hd : 8 ≤ d) (s : iS) : Ew hT w d 442 150 [(0, .ref (tb_nK + 121))] [] s (Ci hT) (m_chips_150 s) := by
  unfold m_chips_150
  refine e_op 151 em_442 (ce_at ce_442 78 rfl) rfl rfl ?_
  refine e_pk [0] rfl rfl ?_
  exact tm_chips_151 w d hd _ _
theorem fm_chips_150 (s : iS) : Fm Prod.snd L_m_chips G_m_chips s (m_chips_150 s) := fm_chips_151 _ _
noncomputable def m_chips_93 (s : iS) : Option (Int × iS) := gd (rg (s 121 69)) (if (s 121 69) = 0 then lt' (up s 121 174 ((s 121 122) - 1)) (fun s3 => bd (m_countAll s3) (fun _ s4 => gd (0 ≤ (s4 121 174) ∧ (s4 121 174) < 16) (gd (rg (l_cmp (s4 220 (s4 121 174).toNat) 1500)) (if 0 < (l_cmp (s4 220 (s4 121 174).toNat) 1500) then m_chips_150 s4 else gd (rg (l_cmp (s4 221 (s4 121 174).toNat) 40000)) (if 0 < (l_cmp (s4 221 (s4 121 174).toNat) 40000) then m_chips_150 s4 else m_chips_151 1 s4))))) else m_chips_185 s)
theorem tm_chips_93 (w : ev_W) (d : Nat) (hd : 8 ≤ d) (s : iS) : Ew hT w d 442 93 [(0, .ref (tb_nK + 121))] [] s (Ci hT) (m_chips_93 s) := by
  unfold m_chips_93
  refine e_mv 94 em_442 (ce_at ce_442 49 rfl) rfl rfl ?_
  refine e_get 97 em_442 (ce_at ce_442 50 rfl) tq_121 rfl rfl ?_
  refine e_gd fun g1 => ?_
  refine e_ifne 185 100 em_442 rfl rfl (ce_at ce_442 51 rfl) g1 (fun h2 => ?_) (fun h2 => ?_)
  · refine e_pk [0] rfl rfl ?_
    exact tm_chips_185 w d hd _
  · refine e_mv 101 em_442 (ce_at ce_442 52 rfl) rfl rfl ?_
    refine e_mv 102 em_442 (ce_at ce_442 53 rfl) rfl rfl ?_
    refine e_get 105 em_442 (ce_at ce_442 54 rfl) tq_121 rfl rfl ?_
    refine e_op 106 em_442 (ce_at ce_442 55 rfl) rfl rfl ?_
    refine e_isub 107 em_442 rfl (ce_at ce_442 56 rfl) ?_
    refine e_put 110 em_442 (ce_at ce_442 57 rfl) tq_121 rfl rfl rfl (fun s3 => ?_)
    refine e_mv 111 em_442 (ce_at ce_442 58 rfl) rfl rfl ?_
    refine e_ivv 114 em_442 (ce_at ce_442 59 rfl) (by omega) (iv_v0 (by decide) tq_121 rfl) em_464 (Nat.le_of_ble_eq_true rfl) rfl (tm_countAll w (d - 1) (by omega) _) (fun r4 s4 => ?_)
    refine e_mv 115 em_442 (ce_at ce_442 60 rfl) rfl rfl ?_
    refine e_getr 118 em_442 (ce_at ce_442 61 rfl) tq_121 rfl rfl ?_
    refine e_mv 119 em_442 (ce_at ce_442 62 rfl) rfl rfl ?_
    refine e_get 122 em_442 (ce_at ce_442 63 rfl) tq_121 rfl rfl ?_
    refine e_gd fun g5 => ?_
    refine e_lld 123 em_442 (ce_at ce_442 64 rfl) tq_220 (by decide) g5 rfl ?_
    refine e_ldcl 126 em_442 (ce_at ce_442 65 rfl) (x := 1500) rfl rfl ?_
    refine e_lcmp 127 em_442 rfl (ce_at ce_442 66 rfl) ?_
    refine e_gd fun g6 => ?_
    refine e_ifgt 150 130 em_442 rfl rfl (ce_at ce_442 67 rfl) g6 (fun h7 => ?_) (fun h7 => ?_)
    · refine e_pk [0] rfl rfl ?_
      exact tm_chips_150 w d hd _
    · refine e_mv 131 em_442 (ce_at ce_442 68 rfl) rfl rfl ?_
      refine e_getr 134 em_442 (ce_at ce_442 69 rfl) tq_121 rfl rfl ?_
      refine e_mv 135 em_442 (ce_at ce_442 70 rfl) rfl rfl ?_
      refine e_get 138 em_442 (ce_at ce_442 71 rfl) tq_121 rfl rfl ?_
      refine e_lld 139 em_442 (ce_at ce_442 72 rfl) tq_221 (by decide) g5 rfl ?_
      refine e_ldcl 142 em_442 (ce_at ce_442 73 rfl) (x := 40000) rfl rfl ?_
      refine e_lcmp 143 em_442 rfl (ce_at ce_442 74 rfl) ?_
      refine e_gd fun g8 => ?_
      refine e_ifgt 150 146 em_442 rfl rfl (ce_at ce_442 75 rfl) g8 (fun h9 => ?_) (fun h9 => ?_)
      · refine e_pk [0] rfl rfl ?_
        exact tm_chips_150 w d hd _
      · refine e_op 147 em_442 (ce_at ce_442 76 rfl) rfl rfl ?_
        refine e_goto em_442 151 (ce_at ce_442 77 rfl) rfl ?_
        refine e_pk [0] rfl rfl ?_
        exact tm_chips_151 w d hd _ _
theorem fm_chips_93 (s : iS) : Fm Prod.snd L_m_chips G_m_chips s (m_chips_93 s) := fm_gd (fm_if (fm_lt (md_upF (mem_F rfl)) (fun s3 => fm_bd (fm_sub (fm_countAll _) (mem_sub_L rfl) (mem_sub_F rfl)) (fun r4 s4 => fm_gd (fm_gd (fm_if (fm_chips_150 _) (fm_gd (fm_if (fm_chips_150 _) (fm_chips_151 _ _)))))))) (fm_chips_185 _))
noncomputable def m_chips_82 (s : iS) : Option (Int × iS) := gd (rg (s 121 69)) (if (s 121 69) = 0 then bd (m_checkRing s) (fun _ s3 => m_chips_93 s3) else m_chips_93 s)
theorem tm_chips_82 (w : ev_W) (d : Nat) (hd : 8 ≤ d) (s : iS) : Ew hT w d 442 82 [(0, .ref (tb_nK + 121))] [] s (Ci hT) (m_chips_82 s) := by
  unfold m_chips_82
  refine e_mv 83 em_442 (ce_at ce_442 44 rfl) rfl rfl ?_
  refine e_get 86 em_442 (ce_at ce_442 45 rfl) tq_121 rfl rfl ?_
  refine e_gd fun g1 => ?_
  refine e_ifne 93 89 em_442 rfl rfl (ce_at ce_442 46 rfl) g1 (fun h2 => ?_) (fun h2 => ?_)
  · refine e_pk [0] rfl rfl ?_
    exact tm_chips_93 w d hd _
  · refine e_mv 90 em_442 (ce_at ce_442 47 rfl) rfl rfl ?_
    refine e_ivv 93 em_442 (ce_at ce_442 48 rfl) (by omega) (iv_v0 (by decide) tq_121 rfl) em_463 (Nat.le_of_ble_eq_true rfl) rfl (tm_checkRing w (d - 1) (by omega) _) (fun r3 s3 => ?_)
    refine e_pk [0] rfl rfl ?_
    exact tm_chips_93 w d hd _
theorem fm_chips_82 (s : iS) : Fm Prod.snd L_m_chips G_m_chips s (m_chips_82 s) := fm_gd (fm_if (fm_bd (fm_sub (fm_checkRing _) (mem_sub_L rfl) (mem_sub_F rfl)) (fun r3 s3 => fm_chips_93 _)) (fm_chips_93 _))
noncomputable def m_chips_58 (v2 : Int) (s : iS) : Option (Int × iS) := (lp (L := Int × iS) (E := iS) (fun l => m_chips_58b (l.1) (l.2)) (v2, s)).bind (fun e => m_chips_82 e)
theorem tm_chips_58 (w : ev_W) (d : Nat) (hd : 8 ≤ d) (v2 : Int) (s : iS) : Ew hT w d 442 58 [(0, .ref (tb_nK + 121)), (2, iv v2)] [] s (Ci hT) (m_chips_58 v2 s) := by
  unfold m_chips_58
  refine e_lp (LO := fun l => [(0, .ref (tb_nK + 121)), (2, iv (l.1))]) (LS := fun l => l.2) (CE := fun e r => ev w d 442 82 [(0, .ref (tb_nK + 121))] [] (hT (e)) r) (fun l => tm_chips_58b w d hd _ _) ?_ (v2, s)
  intro e
  show Ew hT w d 442 82 [(0, .ref (tb_nK + 121))] [] e (Ci hT) _
  refine e_pk [0] rfl rfl ?_
  exact tm_chips_82 w d hd _
theorem fm_chips_58 (v2 : Int) (s : iS) : Fm Prod.snd L_m_chips G_m_chips s (m_chips_58 v2 s) := fm_lp (LS := fun l => l.2) (LE := fun e => e) (fun l => fm_chips_58b _ _) (fun e => fm_chips_82 _) (v2, s)
noncomputable def m_chips (v1 : Int) (s : iS) : Option (Int × iS) := bd (m_takes v1 s) (fun r1 s1 => gd (rg r1) (if r1 = 0 then some ((-1), s1) else lt' (up s1 121 152 0) (fun s4 => bd (m_tokenize 2000 1 s4) (fun _ s5 => bd (m_chipTexts s5) (fun _ s6 => lt' (up s6 121 4 (s6 121 12)) (fun s7 => gd (rg (s7 121 11)) (if (s7 121 11) ≤ 0 then lt' (up s7 121 69 0) (fun s10 => bd (m_checkPins s10) (fun _ s11 => m_chips_58 0 s11)) else some ((s7 121 11), s7))))))))
theorem tm_chips (w : ev_W) (d : Nat) (hd : 8 ≤ d) (v1 : Int) (s : iS) : Ew hT w d 442 0 [(0, .ref (tb_nK + 121)), (1, iv v1)] [] s (Ci hT) (m_chips v1 s) := by
  unfold m_chips
  refine e_mv 1 em_442 (ce_at ce_442 0 rfl) rfl rfl ?_
  refine e_mv 2 em_442 (ce_at ce_442 1 rfl) rfl rfl ?_
  refine e_ivi 5 em_442 (ce_at ce_442 2 rfl) (by omega) (iv_v1 (by decide) tq_121 rfl) em_299 (Nat.le_of_ble_eq_true rfl) rfl (tm_takes w (d - 1) (by omega) _ _) (fun r1 s1 => ?_)
  refine e_gd fun g2 => ?_
  refine e_ifne 10 8 em_442 rfl rfl (ce_at ce_442 3 rfl) g2 (fun h3 => ?_) (fun h3 => ?_)
  · refine e_mv 11 em_442 (ce_at ce_442 6 rfl) rfl rfl ?_
    refine e_op 12 em_442 (ce_at ce_442 7 rfl) rfl rfl ?_
    refine e_put 15 em_442 (ce_at ce_442 8 rfl) tq_121 rfl rfl rfl (fun s4 => ?_)
    refine e_mv 16 em_442 (ce_at ce_442 9 rfl) rfl rfl ?_
    refine e_sip 19 em_442 (ce_at ce_442 10 rfl) (by decide) rfl ?_
    refine e_op 20 em_442 (ce_at ce_442 11 rfl) rfl rfl ?_
    refine e_ivv 23 em_442 (ce_at ce_442 12 rfl) (by omega) (iv_v2 (by decide) tq_121 rfl) em_300 (Nat.le_of_ble_eq_true rfl) rfl (tm_tokenize w (d - 1) (by omega) _ _ _) (fun r5 s5 => ?_)
    refine e_mv 24 em_442 (ce_at ce_442 13 rfl) rfl rfl ?_
    refine e_ivv 27 em_442 (ce_at ce_442 14 rfl) (by omega) (iv_v0 (by decide) tq_121 rfl) em_443 (Nat.le_of_ble_eq_true rfl) rfl (tm_chipTexts w (d - 1) (by omega) _) (fun r6 s6 => ?_)
    refine e_mv 28 em_442 (ce_at ce_442 15 rfl) rfl rfl ?_
    refine e_mv 29 em_442 (ce_at ce_442 16 rfl) rfl rfl ?_
    refine e_get 32 em_442 (ce_at ce_442 17 rfl) tq_121 rfl rfl ?_
    refine e_put 35 em_442 (ce_at ce_442 18 rfl) tq_121 rfl rfl rfl (fun s7 => ?_)
    refine e_mv 36 em_442 (ce_at ce_442 19 rfl) rfl rfl ?_
    refine e_get 39 em_442 (ce_at ce_442 20 rfl) tq_121 rfl rfl ?_
    refine e_gd fun g8 => ?_
    refine e_ifle 47 42 em_442 rfl rfl (ce_at ce_442 21 rfl) g8 (fun h9 => ?_) (fun h9 => ?_)
    · refine e_mv 48 em_442 (ce_at ce_442 25 rfl) rfl rfl ?_
      refine e_op 49 em_442 (ce_at ce_442 26 rfl) rfl rfl ?_
      refine e_put 52 em_442 (ce_at ce_442 27 rfl) tq_121 rfl rfl rfl (fun s10 => ?_)
      refine e_mv 53 em_442 (ce_at ce_442 28 rfl) rfl rfl ?_
      refine e_ivv 56 em_442 (ce_at ce_442 29 rfl) (by omega) (iv_v0 (by decide) tq_121 rfl) em_452 (Nat.le_of_ble_eq_true rfl) rfl (tm_checkPins w (d - 1) (by omega) _) (fun r11 s11 => ?_)
      refine e_op 57 em_442 (ce_at ce_442 30 rfl) rfl rfl ?_
      refine e_mv 58 em_442 (ce_at ce_442 31 rfl) rfl rfl ?_
      refine e_pk [0, 2] rfl rfl ?_
      exact tm_chips_58 w d hd _ _
    · refine e_mv 43 em_442 (ce_at ce_442 22 rfl) rfl rfl ?_
      refine e_get 46 em_442 (ce_at ce_442 23 rfl) tq_121 rfl rfl ?_
      exact e_reti em_442 (ce_at ce_442 24 rfl)
  · refine e_op 9 em_442 (ce_at ce_442 4 rfl) rfl rfl ?_
    exact e_reti em_442 (ce_at ce_442 5 rfl)
theorem fm_chips (v1 : Int) (s : iS) : Fm Prod.snd L_m_chips G_m_chips s (m_chips v1 s) := fm_bd (fm_sub (fm_takes _ _) (mem_sub_L rfl) (mem_sub_F rfl)) (fun r1 s1 => fm_gd (fm_if (fm_some md_refl) (fm_lt (md_upF (mem_F rfl)) (fun s4 => fm_bd (fm_sub (fm_tokenize _ _ _) (mem_sub_L rfl) (mem_sub_F rfl)) (fun r5 s5 => fm_bd (fm_sub (fm_chipTexts _) (mem_sub_L rfl) (mem_sub_F rfl)) (fun r6 s6 => fm_lt (md_upF (mem_F rfl)) (fun s7 => fm_gd (fm_if (fm_lt (md_upF (mem_F rfl)) (fun s10 => fm_bd (fm_sub (fm_checkPins _) (mem_sub_L rfl) (mem_sub_F rfl)) (fun r11 s11 => fm_chips_58 _ _))) (fm_some md_refl)))))))))
/-! m_boardPin -/
def L_m_boardPin : List Nat := []
def G_m_boardPin : List (Nat × Nat) := []
def m_boardPin_13C (w : ev_W) (d : Nat) (v1 : Int) (v2 : Int) : (Int × Int × iS) ⊕ ((Int × iS) ⊕ (iS)) → am_E → Prop := fun q r => q.elim (fun l => ev w d 479 13 ((fun l => [(0, .ref (tb_nK + 121)), (1, iv v1), (2, iv v2), (3, iv (l.1)), (4, iv (l.2.1))]) l) [] (hT ((fun l => l.2.2) l)) r) (fun e => (fun e r => e.elim (fun e => ev w d 479 58 [(4, iv (e.1))] [] (hT (e.2)) r) (fun e => ev w d 479 71 [] [] (hT (e)) r)) e r)
noncomputable def m_boardPin_13b (v1 : Int) (v2 : Int) (v3 : Int) (v4 : Int) (s : iS) : Option ((Int × Int × iS) ⊕ ((Int × iS) ⊕ (iS))) := gd (rg (s 121 152)) (if (s 121 152) = 0 then some (.inr (.inr s)) else gd (rg v1) (if v1 < 0 then some (.inr (.inr s)) else gd (0 ≤ ((s 121 174) + 1) ∧ ((s 121 174) + 1) < 18) (gd (rg v4) (gd (rg (s 196 ((s 121 174) + 1).toNat)) (if (s 196 ((s 121 174) + 1).toNat) ≤ v4 then some (.inr (.inr s)) else gd (0 ≤ v4 ∧ v4 < 200) (gd (rg (s 197 v4.toNat)) (gd (rg v2) (if (s 197 v4.toNat) = v2 then gd (rg v3) (if v3 = 0 then some (.inr (.inl (v4, s))) else some (.inl ((v3 - 1), (v4 + 1), s))) else some (.inl (v3, (v4 + 1), s))))))))))
theorem tm_boardPin_13b (w : ev_W) (d : Nat) (hd : 0 ≤ d) (v1 : Int) (v2 : Int) (v3 : Int) (v4 : Int) (s : iS) : Ew hT w d 479 13 [(0, .ref (tb_nK + 121)), (1, iv v1), (2, iv v2), (3, iv v3), (4, iv v4)] [] s (m_boardPin_13C w d v1 v2) (m_boardPin_13b v1 v2 v3 v4 s) := by
  unfold m_boardPin_13b
  refine e_mv 14 em_479 (ce_at ce_479 8 rfl) rfl rfl ?_
  refine e_get 17 em_479 (ce_at ce_479 9 rfl) tq_121 rfl rfl ?_
  refine e_gd fun g1 => ?_
  refine e_ifeq 71 20 em_479 rfl rfl (ce_at ce_479 10 rfl) g1 (fun h2 => ?_) (fun h2 => ?_)
  · refine e_pk [] rfl rfl ?_
    exact e_out (fun r h => h)
  · refine e_mv 21 em_479 (ce_at ce_479 11 rfl) rfl rfl ?_
    refine e_gd fun g3 => ?_
    refine e_iflt 71 24 em_479 rfl rfl (ce_at ce_479 12 rfl) g3 (fun h4 => ?_) (fun h4 => ?_)
    · refine e_pk [] rfl rfl ?_
      exact e_out (fun r h => h)
    · refine e_mv 26 em_479 (ce_at ce_479 13 rfl) rfl rfl ?_
      refine e_mv 27 em_479 (ce_at ce_479 14 rfl) rfl rfl ?_
      refine e_getr 30 em_479 (ce_at ce_479 15 rfl) tq_121 rfl rfl ?_
      refine e_mv 31 em_479 (ce_at ce_479 16 rfl) rfl rfl ?_
      refine e_get 34 em_479 (ce_at ce_479 17 rfl) tq_121 rfl rfl ?_
      refine e_op 35 em_479 (ce_at ce_479 18 rfl) rfl rfl ?_
      refine e_iadd 36 em_479 rfl (ce_at ce_479 19 rfl) ?_
      refine e_gd fun g5 => ?_
      refine e_ild 37 em_479 (ce_at ce_479 20 rfl) tq_196 (by decide) g5 rfl ?_
      refine e_gd fun g6 => ?_
      refine e_gd fun g7 => ?_
      refine e_cmge 71 40 em_479 rfl rfl (ce_at ce_479 21 rfl) g6 g7 (fun h8 => ?_) (fun h8 => ?_)
      · refine e_pk [] rfl rfl ?_
        exact e_out (fun r h => h)
      · refine e_mv 41 em_479 (ce_at ce_479 22 rfl) rfl rfl ?_
        refine e_getr 44 em_479 (ce_at ce_479 23 rfl) tq_121 rfl rfl ?_
        refine e_mv 46 em_479 (ce_at ce_479 24 rfl) rfl rfl ?_
        refine e_gd fun g9 => ?_
        refine e_zld 47 em_479 (ce_at ce_479 25 rfl) tq_197 (by decide) g9 rfl ?_
        refine e_mv 48 em_479 (ce_at ce_479 26 rfl) rfl rfl ?_
        refine e_gd fun g10 => ?_
        refine e_gd fun g11 => ?_
        refine e_cmeq 54 51 em_479 rfl rfl (ce_at ce_479 27 rfl) g10 g11 (fun h12 => ?_) (fun h12 => ?_)
        · refine e_mv 55 em_479 (ce_at ce_479 29 rfl) rfl rfl ?_
          refine e_gd fun g13 => ?_
          refine e_ifne 61 58 em_479 rfl rfl (ce_at ce_479 30 rfl) g13 (fun h14 => ?_) (fun h14 => ?_)
          · refine e_mv 62 em_479 (ce_at ce_479 33 rfl) rfl rfl ?_
            refine e_op 63 em_479 (ce_at ce_479 34 rfl) rfl rfl ?_
            refine e_isub 64 em_479 rfl (ce_at ce_479 35 rfl) ?_
            refine e_mv 65 em_479 (ce_at ce_479 36 rfl) rfl rfl ?_
            refine e_iinc 68 em_479 (ce_at ce_479 37 rfl) rfl (by decide) rfl ?_
            refine e_goto em_479 13 (ce_at ce_479 38 rfl) rfl ?_
            refine e_pk [0, 1, 2, 3, 4] rfl rfl ?_
            exact e_out (fun r h => h)
          · refine e_pk [4] rfl rfl ?_
            exact e_out (fun r h => h)
        · refine e_goto em_479 65 (ce_at ce_479 28 rfl) rfl ?_
          refine e_iinc 68 em_479 (ce_at ce_479 37 rfl) rfl (by decide) rfl ?_
          refine e_goto em_479 13 (ce_at ce_479 38 rfl) rfl ?_
          refine e_pk [0, 1, 2, 3, 4] rfl rfl ?_
          exact e_out (fun r h => h)
theorem fm_boardPin_13b (v1 : Int) (v2 : Int) (v3 : Int) (v4 : Int) (s : iS) : Fm (fun r : (Int × Int × iS) ⊕ ((Int × iS) ⊕ (iS)) => r.elim (fun l => l.2.2) (fun e => e.elim (fun e => e.2) (fun e => e))) L_m_boardPin G_m_boardPin s (m_boardPin_13b v1 v2 v3 v4 s) := fm_gd (fm_if (fm_some md_refl) (fm_gd (fm_if (fm_some md_refl) (fm_gd (fm_gd (fm_gd (fm_if (fm_some md_refl) (fm_gd (fm_gd (fm_gd (fm_if (fm_gd (fm_if (fm_some md_refl) (fm_some md_refl))) (fm_some md_refl))))))))))))
noncomputable def m_boardPin_13 (v1 : Int) (v2 : Int) (v3 : Int) (v4 : Int) (s : iS) : Option (Int × iS) := (lp (L := Int × Int × iS) (E := (Int × iS) ⊕ (iS)) (fun l => m_boardPin_13b v1 v2 (l.1) (l.2.1) (l.2.2)) (v3, v4, s)).bind (fun e => e.elim (fun e => some (e.1, e.2)) (fun e => some ((-1), e)))
theorem tm_boardPin_13 (w : ev_W) (d : Nat) (hd : 0 ≤ d) (v1 : Int) (v2 : Int) (v3 : Int) (v4 : Int) (s : iS) : Ew hT w d 479 13 [(0, .ref (tb_nK + 121)), (1, iv v1), (2, iv v2), (3, iv v3), (4, iv v4)] [] s (Ci hT) (m_boardPin_13 v1 v2 v3 v4 s) := by
  unfold m_boardPin_13
  refine e_lp (LO := fun l => [(0, .ref (tb_nK + 121)), (1, iv v1), (2, iv v2), (3, iv (l.1)), (4, iv (l.2.1))]) (LS := fun l => l.2.2) (CE := fun e r => e.elim (fun e => ev w d 479 58 [(4, iv (e.1))] [] (hT (e.2)) r) (fun e => ev w d 479 71 [] [] (hT (e)) r)) (fun l => tm_boardPin_13b w d hd _ _ _ _ _) ?_ (v3, v4, s)
  rintro (e | e)
  · show Ew hT w d 479 58 [(4, iv (e.1))] [] e.2 (Ci hT) _
    refine e_mv 60 em_479 (ce_at ce_479 31 rfl) rfl rfl ?_
    exact e_reti em_479 (ce_at ce_479 32 rfl)
  · show Ew hT w d 479 71 [] [] e (Ci hT) _
    refine e_op 72 em_479 (ce_at ce_479 39 rfl) rfl rfl ?_
    exact e_reti em_479 (ce_at ce_479 40 rfl)
theorem fm_boardPin_13 (v1 : Int) (v2 : Int) (v3 : Int) (v4 : Int) (s : iS) : Fm Prod.snd L_m_boardPin G_m_boardPin s (m_boardPin_13 v1 v2 v3 v4 s) := fm_lp (LS := fun l => l.2.2) (LE := fun e => e.elim (fun e => e.2) (fun e => e)) (fun l => fm_boardPin_13b _ _ _ _ _) (fm_elim (fun e => fm_some md_refl) (fun e => fm_some md_refl)) (v3, v4, s)
noncomputable def m_boardPin (v1 : Int) (v2 : Int) (s : iS) : Option (Int × iS) := gd (0 ≤ (s 121 174) ∧ (s 121 174) < 18) (m_boardPin_13 v1 v2 v1 (s 196 (s 121 174).toNat) s)
theorem tm_boardPin (w : ev_W) (d : Nat) (hd : 0 ≤ d) (v1 : Int) (v2 : Int) (s : iS) : Ew hT w d 479 0 [(0, .ref (tb_nK + 121)), (1, iv v1), (2, iv v2)] [] s (Ci hT) (m_boardPin v1 v2 s) := by
  unfold m_boardPin
  refine e_mv 1 em_479 (ce_at ce_479 0 rfl) rfl rfl ?_
  refine e_mv 2 em_479 (ce_at ce_479 1 rfl) rfl rfl ?_
  refine e_mv 3 em_479 (ce_at ce_479 2 rfl) rfl rfl ?_
  refine e_getr 6 em_479 (ce_at ce_479 3 rfl) tq_121 rfl rfl ?_
  refine e_mv 7 em_479 (ce_at ce_479 4 rfl) rfl rfl ?_
  refine e_get 10 em_479 (ce_at ce_479 5 rfl) tq_121 rfl rfl ?_
  refine e_gd fun g1 => ?_
  refine e_ild 11 em_479 (ce_at ce_479 6 rfl) tq_196 (by decide) g1 rfl ?_
  refine e_mv 13 em_479 (ce_at ce_479 7 rfl) rfl rfl ?_
  refine e_pk [0, 1, 2, 3, 4] rfl rfl ?_
  exact tm_boardPin_13 w d hd _ _ _ _ _
theorem fm_boardPin (v1 : Int) (v2 : Int) (s : iS) : Fm Prod.snd L_m_boardPin G_m_boardPin s (m_boardPin v1 v2 s) := fm_gd (fm_boardPin_13 _ _ _ _ _)
/-! m_drive -/
def L_m_drive : List Nat := [230]
def G_m_drive : List (Nat × Nat) := []
def m_drive_17C (w : ev_W) (d : Nat) (v2 : Int) (v3 : Int) : (Int × iS) ⊕ (iS) → am_E → Prop := fun q r => q.elim (fun l => ev w d 478 17 ((fun l => [(0, .ref (tb_nK + 121)), (2, iv v2), (3, iv v3), (4, iv (l.1))]) l) [] (hT ((fun l => l.2) l)) r) (fun e => (fun e r => ev w d 478 57 [(0, .ref (tb_nK + 121))] [] (hT (e)) r) e r)
noncomputable def m_drive_17b (v2 : Int) (v3 : Int) (v4 : Int) (s : iS) : Option ((Int × iS) ⊕ (iS)) := gd (0 ≤ v3 ∧ v3 < 200) (gd (rg v4) (gd (rg (s 199 v3.toNat)) (if (s 199 v3.toNat) ≤ v4 then some (.inr s) else bd (m_pinPlace (s 121 174) v3 s) (fun r5 s5 => gd (0 ≤ (r5 + v4) ∧ (r5 + v4) < 40000) (lt' (up s5 230 (r5 + v4).toNat (i_and (i_shr v2 v4) 1)) (fun s7 => some (.inl ((v4 + 1), s7))))))))
theorem tm_drive_17b (w : ev_W) (d : Nat) (hd : 2 ≤ d) (v2 : Int) (v3 : Int) (v4 : Int) (s : iS) : Ew hT w d 478 17 [(0, .ref (tb_nK + 121)), (2, iv v2), (3, iv v3), (4, iv v4)] [] s (m_drive_17C w d v2 v3) (m_drive_17b v2 v3 v4 s) := by
  unfold m_drive_17b
  refine e_mv 19 em_478 (ce_at ce_478 12 rfl) rfl rfl ?_
  refine e_mv 20 em_478 (ce_at ce_478 13 rfl) rfl rfl ?_
  refine e_getr 23 em_478 (ce_at ce_478 14 rfl) tq_121 rfl rfl ?_
  refine e_mv 24 em_478 (ce_at ce_478 15 rfl) rfl rfl ?_
  refine e_gd fun g1 => ?_
  refine e_ild 25 em_478 (ce_at ce_478 16 rfl) tq_199 (by decide) g1 rfl ?_
  refine e_gd fun g2 => ?_
  refine e_gd fun g3 => ?_
  refine e_cmge 57 28 em_478 rfl rfl (ce_at ce_478 17 rfl) g2 g3 (fun h4 => ?_) (fun h4 => ?_)
  · refine e_pk [0] rfl rfl ?_
    exact e_out (fun r h => h)
  · refine e_mv 29 em_478 (ce_at ce_478 18 rfl) rfl rfl ?_
    refine e_getr 32 em_478 (ce_at ce_478 19 rfl) tq_121 rfl rfl ?_
    refine e_mv 33 em_478 (ce_at ce_478 20 rfl) rfl rfl ?_
    refine e_mv 34 em_478 (ce_at ce_478 21 rfl) rfl rfl ?_
    refine e_get 37 em_478 (ce_at ce_478 22 rfl) tq_121 rfl rfl ?_
    refine e_mv 38 em_478 (ce_at ce_478 23 rfl) rfl rfl ?_
    refine e_ivi 41 em_478 (ce_at ce_478 24 rfl) (by omega) (iv_v2 (by decide) tq_121 rfl) em_469 (Nat.le_of_ble_eq_true rfl) rfl (tm_pinPlace w (d - 1) (by omega) _ _ _) (fun r5 s5 => ?_)
    refine e_mv 43 em_478 (ce_at ce_478 25 rfl) rfl rfl ?_
    refine e_iadd 44 em_478 rfl (ce_at ce_478 26 rfl) ?_
    refine e_mv 45 em_478 (ce_at ce_478 27 rfl) rfl rfl ?_
    refine e_mv 47 em_478 (ce_at ce_478 28 rfl) rfl rfl ?_
    refine e_ishr 48 em_478 rfl (ce_at ce_478 29 rfl) ?_
    refine e_op 49 em_478 (ce_at ce_478 30 rfl) rfl rfl ?_
    refine e_iand 50 em_478 rfl (ce_at ce_478 31 rfl) ?_
    refine e_gd fun g6 => ?_
    refine e_ist 51 em_478 (ce_at ce_478 32 rfl) tq_230 (by decide) g6 rfl (fun s7 => ?_)
    refine e_iinc 54 em_478 (ce_at ce_478 33 rfl) rfl (by decide) rfl ?_
    refine e_goto em_478 17 (ce_at ce_478 34 rfl) rfl ?_
    refine e_pk [0, 2, 3, 4] rfl rfl ?_
    exact e_out (fun r h => h)
theorem fm_drive_17b (v2 : Int) (v3 : Int) (v4 : Int) (s : iS) : Fm (fun r : (Int × iS) ⊕ (iS) => r.elim (fun l => l.2) (fun e => e)) L_m_drive G_m_drive s (m_drive_17b v2 v3 v4 s) := fm_gd (fm_gd (fm_gd (fm_if (fm_some md_refl) (fm_bd (fm_sub (fm_pinPlace _ _ _) (mem_sub_L rfl) (mem_sub_F rfl)) (fun r5 s5 => fm_gd (fm_lt (md_upL (mem_L rfl)) (fun s7 => fm_some md_refl)))))))
noncomputable def m_drive_57 (s : iS) : Option (Int × iS) := bd (m_settle s) (fun _ s1 => some (1, s1))
theorem tm_drive_57 (w : ev_W) (d : Nat) (hd : 2 ≤ d) (s : iS) : Ew hT w d 478 57 [(0, .ref (tb_nK + 121))] [] s (Ci hT) (m_drive_57 s) := by
  unfold m_drive_57
  refine e_mv 58 em_478 (ce_at ce_478 35 rfl) rfl rfl ?_
  refine e_ivv 61 em_478 (ce_at ce_478 36 rfl) (by omega) (iv_v0 (by decide) tq_121 rfl) em_476 (Nat.le_of_ble_eq_true rfl) rfl (tm_settle w (d - 1) (by omega) _) (fun r1 s1 => ?_)
  refine e_op 62 em_478 (ce_at ce_478 37 rfl) rfl rfl ?_
  exact e_retz em_478 (ce_at ce_478 38 rfl) (by decide)
theorem fm_drive_57 (s : iS) : Fm Prod.snd L_m_drive G_m_drive s (m_drive_57 s) := fm_bd (fm_sub (fm_settle _) (mem_sub_L rfl) (mem_sub_F rfl)) (fun r1 s1 => fm_some md_refl)
noncomputable def m_drive_17 (v2 : Int) (v3 : Int) (v4 : Int) (s : iS) : Option (Int × iS) := (lp (L := Int × iS) (E := iS) (fun l => m_drive_17b v2 v3 (l.1) (l.2)) (v4, s)).bind (fun e => m_drive_57 e)
theorem tm_drive_17 (w : ev_W) (d : Nat) (hd : 2 ≤ d) (v2 : Int) (v3 : Int) (v4 : Int) (s : iS) : Ew hT w d 478 17 [(0, .ref (tb_nK + 121)), (2, iv v2), (3, iv v3), (4, iv v4)] [] s (Ci hT) (m_drive_17 v2 v3 v4 s) := by
  unfold m_drive_17
  refine e_lp (LO := fun l => [(0, .ref (tb_nK + 121)), (2, iv v2), (3, iv v3), (4, iv (l.1))]) (LS := fun l => l.2) (CE := fun e r => ev w d 478 57 [(0, .ref (tb_nK + 121))] [] (hT (e)) r) (fun l => tm_drive_17b w d hd _ _ _ _) ?_ (v4, s)
  intro e
  show Ew hT w d 478 57 [(0, .ref (tb_nK + 121))] [] e (Ci hT) _
  refine e_pk [0] rfl rfl ?_
  exact tm_drive_57 w d hd _
theorem fm_drive_17 (v2 : Int) (v3 : Int) (v4 : Int) (s : iS) : Fm Prod.snd L_m_drive G_m_drive s (m_drive_17 v2 v3 v4 s) := fm_lp (LS := fun l => l.2) (LE := fun e => e) (fun l => fm_drive_17b _ _ _ _) (fun e => fm_drive_57 _) (v4, s)
noncomputable def m_drive (v1 : Int) (v2 : Int) (s : iS) : Option (Int × iS) := bd (m_boardPin v1 0 s) (fun r1 s1 => gd (rg r1) (if r1 = (-1) then some (0, s1) else m_drive_17 v2 r1 0 s1))
theorem tm_drive (w : ev_W) (d : Nat) (hd : 2 ≤ d) (v1 : Int) (v2 : Int) (s : iS) : Ew hT w d 478 0 [(0, .ref (tb_nK + 121)), (1, iv v1), (2, iv v2)] [] s (Ci hT) (m_drive v1 v2 s) := by
  unfold m_drive
  refine e_mv 1 em_478 (ce_at ce_478 0 rfl) rfl rfl ?_
  refine e_mv 2 em_478 (ce_at ce_478 1 rfl) rfl rfl ?_
  refine e_op 3 em_478 (ce_at ce_478 2 rfl) rfl rfl ?_
  refine e_ivi 6 em_478 (ce_at ce_478 3 rfl) (by omega) (iv_v2 (by decide) tq_121 rfl) em_479 (Nat.le_of_ble_eq_true rfl) rfl (tm_boardPin w (d - 1) (by omega) _ _ _) (fun r1 s1 => ?_)
  refine e_mv 7 em_478 (ce_at ce_478 4 rfl) rfl rfl ?_
  refine e_mv 8 em_478 (ce_at ce_478 5 rfl) rfl rfl ?_
  refine e_op 9 em_478 (ce_at ce_478 6 rfl) rfl rfl ?_
  refine e_gd fun g2 => ?_
  refine e_cmne 14 12 em_478 rfl rfl (ce_at ce_478 7 rfl) g2 (by decide) (fun h3 => ?_) (fun h3 => ?_)
  · refine e_op 15 em_478 (ce_at ce_478 10 rfl) rfl rfl ?_
    refine e_mv 17 em_478 (ce_at ce_478 11 rfl) rfl rfl ?_
    refine e_pk [0, 2, 3, 4] rfl rfl ?_
    exact tm_drive_17 w d hd _ _ _ _
  · refine e_op 13 em_478 (ce_at ce_478 8 rfl) rfl rfl ?_
    exact e_retz em_478 (ce_at ce_478 9 rfl) (by decide)
theorem fm_drive (v1 : Int) (v2 : Int) (s : iS) : Fm Prod.snd L_m_drive G_m_drive s (m_drive v1 v2 s) := fm_bd (fm_sub (fm_boardPin _ _ _) (mem_sub_L rfl) (mem_sub_F rfl)) (fun r1 s1 => fm_gd (fm_if (fm_some md_refl) (fm_drive_17 _ _ _ _)))
/-! m_pin -/
def L_m_pin : List Nat := []
def G_m_pin : List (Nat × Nat) := []
def m_pin_26C (w : ev_W) (d : Nat) (v2 : Int) : (Int × Int × iS) ⊕ (Int × iS) → am_E → Prop := fun q r => q.elim (fun l => ev w d 480 26 ((fun l => [(0, .ref (tb_nK + 121)), (2, iv v2), (3, iv (l.1)), (4, iv (l.2.1))]) l) [] (hT ((fun l => l.2.2) l)) r) (fun e => (fun e r => ev w d 480 62 [(3, iv (e.1))] [] (hT (e.2)) r) e r)
noncomputable def m_pin_26b (v2 : Int) (v3 : Int) (v4 : Int) (s : iS) : Option ((Int × Int × iS) ⊕ (Int × iS)) := gd (rg v4) (if v4 < 0 then some (.inr (v3, s)) else bd (m_pinPlace (s 121 174) v2 s) (fun r3 s3 => bd (m_source (r3 + v4) s3) (fun r4 s4 => bd (m_valueOf r4 s4) (fun r5 s5 => some (.inl (((2 * v3) + r5), (v4 + (-1)), s5))))))
theorem tm_pin_26b (w : ev_W) (d : Nat) (hd : 1 ≤ d) (v2 : Int) (v3 : Int) (v4 : Int) (s : iS) : Ew hT w d 480 26 [(0, .ref (tb_nK + 121)), (2, iv v2), (3, iv v3), (4, iv v4)] [] s (m_pin_26C w d v2) (m_pin_26b v2 v3 v4 s) := by
  unfold m_pin_26b
  refine e_mv 28 em_480 (ce_at ce_480 19 rfl) rfl rfl ?_
  refine e_gd fun g1 => ?_
  refine e_iflt 62 31 em_480 rfl rfl (ce_at ce_480 20 rfl) g1 (fun h2 => ?_) (fun h2 => ?_)
  · refine e_pk [3] rfl rfl ?_
    exact e_out (fun r h => h)
  · refine e_op 32 em_480 (ce_at ce_480 21 rfl) rfl rfl ?_
    refine e_mv 33 em_480 (ce_at ce_480 22 rfl) rfl rfl ?_
    refine e_imul 34 em_480 rfl (ce_at ce_480 23 rfl) ?_
    refine e_mv 35 em_480 (ce_at ce_480 24 rfl) rfl rfl ?_
    refine e_mv 36 em_480 (ce_at ce_480 25 rfl) rfl rfl ?_
    refine e_mv 37 em_480 (ce_at ce_480 26 rfl) rfl rfl ?_
    refine e_mv 38 em_480 (ce_at ce_480 27 rfl) rfl rfl ?_
    refine e_get 41 em_480 (ce_at ce_480 28 rfl) tq_121 rfl rfl ?_
    refine e_mv 42 em_480 (ce_at ce_480 29 rfl) rfl rfl ?_
    refine e_ivi 45 em_480 (ce_at ce_480 30 rfl) (by omega) (iv_v2 (by decide) tq_121 rfl) em_469 (Nat.le_of_ble_eq_true rfl) rfl (tm_pinPlace w (d - 1) (by omega) _ _ _) (fun r3 s3 => ?_)
    refine e_mv 47 em_480 (ce_at ce_480 31 rfl) rfl rfl ?_
    refine e_iadd 48 em_480 rfl (ce_at ce_480 32 rfl) ?_
    refine e_ivi 51 em_480 (ce_at ce_480 33 rfl) (by omega) (iv_v1 (by decide) tq_121 rfl) em_473 (Nat.le_of_ble_eq_true rfl) rfl (tm_source w (d - 1) (by omega) _ _) (fun r4 s4 => ?_)
    refine e_ivi 54 em_480 (ce_at ce_480 34 rfl) (by omega) (iv_v1 (by decide) tq_121 rfl) em_477 (Nat.le_of_ble_eq_true rfl) rfl (tm_valueOf w (d - 1) (by omega) _ _) (fun r5 s5 => ?_)
    refine e_iadd 55 em_480 rfl (ce_at ce_480 35 rfl) ?_
    refine e_mv 56 em_480 (ce_at ce_480 36 rfl) rfl rfl ?_
    refine e_iinc 59 em_480 (ce_at ce_480 37 rfl) rfl (by decide) rfl ?_
    refine e_goto em_480 26 (ce_at ce_480 38 rfl) rfl ?_
    refine e_pk [0, 2, 3, 4] rfl rfl ?_
    exact e_out (fun r h => h)
theorem fm_pin_26b (v2 : Int) (v3 : Int) (v4 : Int) (s : iS) : Fm (fun r : (Int × Int × iS) ⊕ (Int × iS) => r.elim (fun l => l.2.2) (fun e => e.2)) L_m_pin G_m_pin s (m_pin_26b v2 v3 v4 s) := fm_gd (fm_if (fm_some md_refl) (fm_bd (fm_sub (fm_pinPlace _ _ _) (mem_sub_L rfl) (mem_sub_F rfl)) (fun r3 s3 => fm_bd (fm_sub (fm_source _ _) (mem_sub_L rfl) (mem_sub_F rfl)) (fun r4 s4 => fm_bd (fm_sub (fm_valueOf _ _) (mem_sub_L rfl) (mem_sub_F rfl)) (fun r5 s5 => fm_some md_refl)))))
noncomputable def m_pin_26 (v2 : Int) (v3 : Int) (v4 : Int) (s : iS) : Option (Int × iS) := (lp (L := Int × Int × iS) (E := Int × iS) (fun l => m_pin_26b v2 (l.1) (l.2.1) (l.2.2)) (v3, v4, s)).bind (fun e => some (e.1, e.2))
theorem tm_pin_26 (w : ev_W) (d : Nat) (hd : 1 ≤ d) (v2 : Int) (v3 : Int) (v4 : Int) (s : iS) : Ew hT w d 480 26 [(0, .ref (tb_nK + 121)), (2, iv v2), (3, iv v3), (4, iv v4)] [] s (Ci hT) (m_pin_26 v2 v3 v4 s) := by
  unfold m_pin_26
  refine e_lp (LO := fun l => [(0, .ref (tb_nK + 121)), (2, iv v2), (3, iv (l.1)), (4, iv (l.2.1))]) (LS := fun l => l.2.2) (CE := fun e r => ev w d 480 62 [(3, iv (e.1))] [] (hT (e.2)) r) (fun l => tm_pin_26b w d hd _ _ _ _) ?_ (v3, v4, s)
  intro e
  show Ew hT w d 480 62 [(3, iv (e.1))] [] e.2 (Ci hT) _
  refine e_mv 63 em_480 (ce_at ce_480 39 rfl) rfl rfl ?_
  exact e_reti em_480 (ce_at ce_480 40 rfl)
theorem fm_pin_26 (v2 : Int) (v3 : Int) (v4 : Int) (s : iS) : Fm Prod.snd L_m_pin G_m_pin s (m_pin_26 v2 v3 v4 s) := fm_lp (LS := fun l => l.2.2) (LE := fun e => e.2) (fun l => fm_pin_26b _ _ _ _) (fun e => fm_some md_refl) (v3, v4, s)
noncomputable def m_pin (v1 : Int) (s : iS) : Option (Int × iS) := bd (m_boardPin v1 1 s) (fun r1 s1 => gd (rg r1) (if r1 = (-1) then some ((-1), s1) else gd (0 ≤ r1 ∧ r1 < 200) (m_pin_26 r1 0 ((s1 199 r1.toNat) - 1) s1)))
theorem tm_pin (w : ev_W) (d : Nat) (hd : 1 ≤ d) (v1 : Int) (s : iS) : Ew hT w d 480 0 [(0, .ref (tb_nK + 121)), (1, iv v1)] [] s (Ci hT) (m_pin v1 s) := by
  unfold m_pin
  refine e_mv 1 em_480 (ce_at ce_480 0 rfl) rfl rfl ?_
  refine e_mv 2 em_480 (ce_at ce_480 1 rfl) rfl rfl ?_
  refine e_op 3 em_480 (ce_at ce_480 2 rfl) rfl rfl ?_
  refine e_ivi 6 em_480 (ce_at ce_480 3 rfl) (by omega) (iv_v2 (by decide) tq_121 rfl) em_479 (Nat.le_of_ble_eq_true rfl) rfl (tm_boardPin w (d - 1) (by omega) _ _ _) (fun r1 s1 => ?_)
  refine e_mv 7 em_480 (ce_at ce_480 4 rfl) rfl rfl ?_
  refine e_mv 8 em_480 (ce_at ce_480 5 rfl) rfl rfl ?_
  refine e_op 9 em_480 (ce_at ce_480 6 rfl) rfl rfl ?_
  refine e_gd fun g2 => ?_
  refine e_cmne 14 12 em_480 rfl rfl (ce_at ce_480 7 rfl) g2 (by decide) (fun h3 => ?_) (fun h3 => ?_)
  · refine e_op 15 em_480 (ce_at ce_480 10 rfl) rfl rfl ?_
    refine e_mv 16 em_480 (ce_at ce_480 11 rfl) rfl rfl ?_
    refine e_mv 17 em_480 (ce_at ce_480 12 rfl) rfl rfl ?_
    refine e_getr 20 em_480 (ce_at ce_480 13 rfl) tq_121 rfl rfl ?_
    refine e_mv 21 em_480 (ce_at ce_480 14 rfl) rfl rfl ?_
    refine e_gd fun g4 => ?_
    refine e_ild 22 em_480 (ce_at ce_480 15 rfl) tq_199 (by decide) g4 rfl ?_
    refine e_op 23 em_480 (ce_at ce_480 16 rfl) rfl rfl ?_
    refine e_isub 24 em_480 rfl (ce_at ce_480 17 rfl) ?_
    refine e_mv 26 em_480 (ce_at ce_480 18 rfl) rfl rfl ?_
    refine e_pk [0, 2, 3, 4] rfl rfl ?_
    exact tm_pin_26 w d hd _ _ _ _
  · refine e_op 13 em_480 (ce_at ce_480 8 rfl) rfl rfl ?_
    exact e_reti em_480 (ce_at ce_480 9 rfl)
theorem fm_pin (v1 : Int) (s : iS) : Fm Prod.snd L_m_pin G_m_pin s (m_pin v1 s) := fm_bd (fm_sub (fm_boardPin _ _ _) (mem_sub_L rfl) (mem_sub_F rfl)) (fun r1 s1 => fm_gd (fm_if (fm_some md_refl) (fm_gd (fm_pin_26 _ _ _ _))))
/-! m_tick -/
def L_m_tick : List Nat := [230, 233]
def G_m_tick : List (Nat × Nat) := [(121, 173)]
def m_tick_13C (w : ev_W) (d : Nat) (v1 : Int) : (Int × iS) ⊕ (iS) → am_E → Prop := fun q r => q.elim (fun l => ev w d 481 13 ((fun l => [(0, .ref (tb_nK + 121)), (1, iv v1), (2, iv (l.1))]) l) [] (hT ((fun l => l.2) l)) r) (fun e => (fun e r => ev w d 481 43 [(0, .ref (tb_nK + 121)), (1, iv v1)] [] (hT (e)) r) e r)
noncomputable def m_tick_13b (v1 : Int) (v2 : Int) (s : iS) : Option ((Int × iS) ⊕ (iS)) := gd (rg v2) (gd (rg (s 121 161)) (if (s 121 161) ≤ v2 then some (.inr s) else gd (0 ≤ v2 ∧ v2 < 1500) (bd (m_valueOf (s 228 v2.toNat) s) (fun r5 s5 => lt' (up s5 233 v2.toNat r5) (fun s6 => some (.inl ((v2 + 1), s6)))))))
theorem tm_tick_13b (w : ev_W) (d : Nat) (hd : 2 ≤ d) (v1 : Int) (v2 : Int) (s : iS) : Ew hT w d 481 13 [(0, .ref (tb_nK + 121)), (1, iv v1), (2, iv v2)] [] s (m_tick_13C w d v1) (m_tick_13b v1 v2 s) := by
  unfold m_tick_13b
  refine e_mv 14 em_481 (ce_at ce_481 9 rfl) rfl rfl ?_
  refine e_mv 15 em_481 (ce_at ce_481 10 rfl) rfl rfl ?_
  refine e_get 18 em_481 (ce_at ce_481 11 rfl) tq_121 rfl rfl ?_
  refine e_gd fun g1 => ?_
  refine e_gd fun g2 => ?_
  refine e_cmge 43 21 em_481 rfl rfl (ce_at ce_481 12 rfl) g1 g2 (fun h3 => ?_) (fun h3 => ?_)
  · refine e_pk [0, 1] rfl rfl ?_
    exact e_out (fun r h => h)
  · refine e_mv 22 em_481 (ce_at ce_481 13 rfl) rfl rfl ?_
    refine e_getr 25 em_481 (ce_at ce_481 14 rfl) tq_121 rfl rfl ?_
    refine e_mv 26 em_481 (ce_at ce_481 15 rfl) rfl rfl ?_
    refine e_mv 27 em_481 (ce_at ce_481 16 rfl) rfl rfl ?_
    refine e_mv 28 em_481 (ce_at ce_481 17 rfl) rfl rfl ?_
    refine e_getr 31 em_481 (ce_at ce_481 18 rfl) tq_121 rfl rfl ?_
    refine e_mv 32 em_481 (ce_at ce_481 19 rfl) rfl rfl ?_
    refine e_gd fun g4 => ?_
    refine e_ild 33 em_481 (ce_at ce_481 20 rfl) tq_228 (by decide) g4 rfl ?_
    refine e_ivi 36 em_481 (ce_at ce_481 21 rfl) (by omega) (iv_v1 (by decide) tq_121 rfl) em_477 (Nat.le_of_ble_eq_true rfl) rfl (tm_valueOf w (d - 1) (by omega) _ _) (fun r5 s5 => ?_)
    refine e_ist 37 em_481 (ce_at ce_481 22 rfl) tq_233 (by decide) g4 rfl (fun s6 => ?_)
    refine e_iinc 40 em_481 (ce_at ce_481 23 rfl) rfl (by decide) rfl ?_
    refine e_goto em_481 13 (ce_at ce_481 24 rfl) rfl ?_
    refine e_pk [0, 1, 2] rfl rfl ?_
    exact e_out (fun r h => h)
theorem fm_tick_13b (v1 : Int) (v2 : Int) (s : iS) : Fm (fun r : (Int × iS) ⊕ (iS) => r.elim (fun l => l.2) (fun e => e)) L_m_tick G_m_tick s (m_tick_13b v1 v2 s) := fm_gd (fm_gd (fm_if (fm_some md_refl) (fm_gd (fm_bd (fm_sub (fm_valueOf _ _) (mem_sub_L rfl) (mem_sub_F rfl)) (fun r5 s5 => fm_lt (md_upL (mem_L rfl)) (fun s6 => fm_some md_refl))))))
def m_tick_45C (w : ev_W) (d : Nat) : (Int × Int × iS) ⊕ (Int × iS) → am_E → Prop := fun q r => q.elim (fun l => ev w d 481 45 ((fun l => [(0, .ref (tb_nK + 121)), (1, iv (l.1)), (2, iv (l.2.1))]) l) [] (hT ((fun l => l.2.2) l)) r) (fun e => (fun e r => ev w d 481 116 [(0, .ref (tb_nK + 121)), (1, iv (e.1))] [] (hT (e.2)) r) e r)
noncomputable def m_tick_91 (v1 : Int) (v2 : Int) (s : iS) : Option ((Int × Int × iS) ⊕ (Int × iS)) := gd (0 ≤ v2 ∧ v2 < 1500) (gd (0 ≤ ((s 225 v2.toNat) + 1) ∧ ((s 225 v2.toNat) + 1) < 40000) (lt' (up s 230 ((s 225 v2.toNat) + 1).toNat (s 233 v2.toNat)) (fun s3 => some (.inl (v1, (v2 + 1), s3)))))
theorem tm_tick_91 (w : ev_W) (d : Nat) (hd : 2 ≤ d) (v1 : Int) (v2 : Int) (s : iS) : Ew hT w d 481 91 [(0, .ref (tb_nK + 121)), (1, iv v1), (2, iv v2)] [] s (m_tick_45C w d) (m_tick_91 v1 v2 s) := by
  unfold m_tick_91
  refine e_mv 92 em_481 (ce_at ce_481 55 rfl) rfl rfl ?_
  refine e_getr 95 em_481 (ce_at ce_481 56 rfl) tq_121 rfl rfl ?_
  refine e_mv 96 em_481 (ce_at ce_481 57 rfl) rfl rfl ?_
  refine e_getr 99 em_481 (ce_at ce_481 58 rfl) tq_121 rfl rfl ?_
  refine e_mv 100 em_481 (ce_at ce_481 59 rfl) rfl rfl ?_
  refine e_gd fun g1 => ?_
  refine e_ild 101 em_481 (ce_at ce_481 60 rfl) tq_225 (by decide) g1 rfl ?_
  refine e_op 102 em_481 (ce_at ce_481 61 rfl) rfl rfl ?_
  refine e_iadd 103 em_481 rfl (ce_at ce_481 62 rfl) ?_
  refine e_mv 104 em_481 (ce_at ce_481 63 rfl) rfl rfl ?_
  refine e_getr 107 em_481 (ce_at ce_481 64 rfl) tq_121 rfl rfl ?_
  refine e_mv 108 em_481 (ce_at ce_481 65 rfl) rfl rfl ?_
  refine e_ild 109 em_481 (ce_at ce_481 66 rfl) tq_233 (by decide) g1 rfl ?_
  refine e_gd fun g2 => ?_
  refine e_ist 110 em_481 (ce_at ce_481 67 rfl) tq_230 (by decide) g2 rfl (fun s3 => ?_)
  refine e_iinc 113 em_481 (ce_at ce_481 68 rfl) rfl (by decide) rfl ?_
  refine e_goto em_481 45 (ce_at ce_481 69 rfl) rfl ?_
  refine e_pk [0, 1, 2] rfl rfl ?_
  exact e_out (fun r h => h)
theorem fm_tick_91 (v1 : Int) (v2 : Int) (s : iS) : Fm (fun r : (Int × Int × iS) ⊕ (Int × iS) => r.elim (fun l => l.2.2) (fun e => e.2)) L_m_tick G_m_tick s (m_tick_91 v1 v2 s) := fm_gd (fm_gd (fm_lt (md_upL (mem_L rfl)) (fun s3 => fm_some md_refl)))
noncomputable def m_tick_45b (v1 : Int) (v2 : Int) (s : iS) : Option ((Int × Int × iS) ⊕ (Int × iS)) := gd (rg v2) (gd (rg (s 121 161)) (if (s 121 161) ≤ v2 then some (.inr (v1, s)) else gd (0 ≤ v2 ∧ v2 < 1500) (gd (rg (s 224 v2.toNat)) (if (s 224 v2.toNat) = 0 then some (.inl (v1, (v2 + 1), s)) else gd (0 ≤ ((s 225 v2.toNat) + 1) ∧ ((s 225 v2.toNat) + 1) < 40000) (gd (rg (s 230 ((s 225 v2.toNat) + 1).toNat)) (gd (rg (s 233 v2.toNat)) (if (s 230 ((s 225 v2.toNat) + 1).toNat) = (s 233 v2.toNat) then m_tick_91 v1 v2 s else m_tick_91 (v1 + 1) v2 s)))))))
theorem tm_tick_45b (w : ev_W) (d : Nat) (hd : 2 ≤ d) (v1 : Int) (v2 : Int) (s : iS) : Ew hT w d 481 45 [(0, .ref (tb_nK + 121)), (1, iv v1), (2, iv v2)] [] s (m_tick_45C w d) (m_tick_45b v1 v2 s) := by
  unfold m_tick_45b
  refine e_mv 46 em_481 (ce_at ce_481 27 rfl) rfl rfl ?_
  refine e_mv 47 em_481 (ce_at ce_481 28 rfl) rfl rfl ?_
  refine e_get 50 em_481 (ce_at ce_481 29 rfl) tq_121 rfl rfl ?_
  refine e_gd fun g1 => ?_
  refine e_gd fun g2 => ?_
  refine e_cmge 116 53 em_481 rfl rfl (ce_at ce_481 30 rfl) g1 g2 (fun h3 => ?_) (fun h3 => ?_)
  · refine e_pk [0, 1] rfl rfl ?_
    exact e_out (fun r h => h)
  · refine e_mv 54 em_481 (ce_at ce_481 31 rfl) rfl rfl ?_
    refine e_getr 57 em_481 (ce_at ce_481 32 rfl) tq_121 rfl rfl ?_
    refine e_mv 58 em_481 (ce_at ce_481 33 rfl) rfl rfl ?_
    refine e_gd fun g4 => ?_
    refine e_zld 59 em_481 (ce_at ce_481 34 rfl) tq_224 (by decide) g4 rfl ?_
    refine e_gd fun g5 => ?_
    refine e_ifne 65 62 em_481 rfl rfl (ce_at ce_481 35 rfl) g5 (fun h6 => ?_) (fun h6 => ?_)
    · refine e_mv 66 em_481 (ce_at ce_481 37 rfl) rfl rfl ?_
      refine e_getr 69 em_481 (ce_at ce_481 38 rfl) tq_121 rfl rfl ?_
      refine e_mv 70 em_481 (ce_at ce_481 39 rfl) rfl rfl ?_
      refine e_getr 73 em_481 (ce_at ce_481 40 rfl) tq_121 rfl rfl ?_
      refine e_mv 74 em_481 (ce_at ce_481 41 rfl) rfl rfl ?_
      refine e_ild 75 em_481 (ce_at ce_481 42 rfl) tq_225 (by decide) g4 rfl ?_
      refine e_op 76 em_481 (ce_at ce_481 43 rfl) rfl rfl ?_
      refine e_iadd 77 em_481 rfl (ce_at ce_481 44 rfl) ?_
      refine e_gd fun g7 => ?_
      refine e_ild 78 em_481 (ce_at ce_481 45 rfl) tq_230 (by decide) g7 rfl ?_
      refine e_mv 79 em_481 (ce_at ce_481 46 rfl) rfl rfl ?_
      refine e_getr 82 em_481 (ce_at ce_481 47 rfl) tq_121 rfl rfl ?_
      refine e_mv 83 em_481 (ce_at ce_481 48 rfl) rfl rfl ?_
      refine e_ild 84 em_481 (ce_at ce_481 49 rfl) tq_233 (by decide) g4 rfl ?_
      refine e_gd fun g8 => ?_
      refine e_gd fun g9 => ?_
      refine e_cmeq 91 87 em_481 rfl rfl (ce_at ce_481 50 rfl) g8 g9 (fun h10 => ?_) (fun h10 => ?_)
      · refine e_pk [0, 1, 2] rfl rfl ?_
        exact tm_tick_91 w d hd _ _ _
      · refine e_mv 88 em_481 (ce_at ce_481 51 rfl) rfl rfl ?_
        refine e_op 89 em_481 (ce_at ce_481 52 rfl) rfl rfl ?_
        refine e_iadd 90 em_481 rfl (ce_at ce_481 53 rfl) ?_
        refine e_mv 91 em_481 (ce_at ce_481 54 rfl) rfl rfl ?_
        refine e_pk [0, 1, 2] rfl rfl ?_
        exact tm_tick_91 w d hd _ _ _
    · refine e_goto em_481 110 (ce_at ce_481 36 rfl) rfl ?_
      refine e_iinc 113 em_481 (ce_at ce_481 68 rfl) rfl (by decide) rfl ?_
      refine e_goto em_481 45 (ce_at ce_481 69 rfl) rfl ?_
      refine e_pk [0, 1, 2] rfl rfl ?_
      exact e_out (fun r h => h)
theorem fm_tick_45b (v1 : Int) (v2 : Int) (s : iS) : Fm (fun r : (Int × Int × iS) ⊕ (Int × iS) => r.elim (fun l => l.2.2) (fun e => e.2)) L_m_tick G_m_tick s (m_tick_45b v1 v2 s) := fm_gd (fm_gd (fm_if (fm_some md_refl) (fm_gd (fm_gd (fm_if (fm_some md_refl) (fm_gd (fm_gd (fm_gd (fm_if (fm_tick_91 _ _ _) (fm_tick_91 _ _ _))))))))))
noncomputable def m_tick_116 (v1 : Int) (s : iS) : Option (Int × iS) := lt' (up s 121 173 ((s 121 173) + 1)) (fun s1 => bd (m_settle s1) (fun _ s2 => some (v1, s2)))
theorem tm_tick_116 (w : ev_W) (d : Nat) (hd : 2 ≤ d) (v1 : Int) (s : iS) : Ew hT w d 481 116 [(0, .ref (tb_nK + 121)), (1, iv v1)] [] s (Ci hT) (m_tick_116 v1 s) := by
  unfold m_tick_116
  refine e_mv 117 em_481 (ce_at ce_481 70 rfl) rfl rfl ?_
  refine e_mv 118 em_481 (ce_at ce_481 71 rfl) rfl rfl ?_
  refine e_get 121 em_481 (ce_at ce_481 72 rfl) tq_121 rfl rfl ?_
  refine e_op 122 em_481 (ce_at ce_481 73 rfl) rfl rfl ?_
  refine e_iadd 123 em_481 rfl (ce_at ce_481 74 rfl) ?_
  refine e_put 126 em_481 (ce_at ce_481 75 rfl) tq_121 rfl rfl rfl (fun s1 => ?_)
  refine e_mv 127 em_481 (ce_at ce_481 76 rfl) rfl rfl ?_
  refine e_ivv 130 em_481 (ce_at ce_481 77 rfl) (by omega) (iv_v0 (by decide) tq_121 rfl) em_476 (Nat.le_of_ble_eq_true rfl) rfl (tm_settle w (d - 1) (by omega) _) (fun r2 s2 => ?_)
  refine e_mv 131 em_481 (ce_at ce_481 78 rfl) rfl rfl ?_
  exact e_reti em_481 (ce_at ce_481 79 rfl)
theorem fm_tick_116 (v1 : Int) (s : iS) : Fm Prod.snd L_m_tick G_m_tick s (m_tick_116 v1 s) := fm_lt (md_upF (mem_F rfl)) (fun s1 => fm_bd (fm_sub (fm_settle _) (mem_sub_L rfl) (mem_sub_F rfl)) (fun r2 s2 => fm_some md_refl))
noncomputable def m_tick_45 (v1 : Int) (v2 : Int) (s : iS) : Option (Int × iS) := (lp (L := Int × Int × iS) (E := Int × iS) (fun l => m_tick_45b (l.1) (l.2.1) (l.2.2)) (v1, v2, s)).bind (fun e => m_tick_116 (e.1) (e.2))
theorem tm_tick_45 (w : ev_W) (d : Nat) (hd : 2 ≤ d) (v1 : Int) (v2 : Int) (s : iS) : Ew hT w d 481 45 [(0, .ref (tb_nK + 121)), (1, iv v1), (2, iv v2)] [] s (Ci hT) (m_tick_45 v1 v2 s) := by
  unfold m_tick_45
  refine e_lp (LO := fun l => [(0, .ref (tb_nK + 121)), (1, iv (l.1)), (2, iv (l.2.1))]) (LS := fun l => l.2.2) (CE := fun e r => ev w d 481 116 [(0, .ref (tb_nK + 121)), (1, iv (e.1))] [] (hT (e.2)) r) (fun l => tm_tick_45b w d hd _ _ _) ?_ (v1, v2, s)
  intro e
  show Ew hT w d 481 116 [(0, .ref (tb_nK + 121)), (1, iv (e.1))] [] e.2 (Ci hT) _
  refine e_pk [0, 1] rfl rfl ?_
  exact tm_tick_116 w d hd _ _
theorem fm_tick_45 (v1 : Int) (v2 : Int) (s : iS) : Fm Prod.snd L_m_tick G_m_tick s (m_tick_45 v1 v2 s) := fm_lp (LS := fun l => l.2.2) (LE := fun e => e.2) (fun l => fm_tick_45b _ _ _) (fun e => fm_tick_116 _ _) (v1, v2, s)
noncomputable def m_tick_43 (v1 : Int) (s : iS) : Option (Int × iS) := m_tick_45 v1 0 s
theorem tm_tick_43 (w : ev_W) (d : Nat) (hd : 2 ≤ d) (v1 : Int) (s : iS) : Ew hT w d 481 43 [(0, .ref (tb_nK + 121)), (1, iv v1)] [] s (Ci hT) (m_tick_43 v1 s) := by
  unfold m_tick_43
  refine e_op 44 em_481 (ce_at ce_481 25 rfl) rfl rfl ?_
  refine e_mv 45 em_481 (ce_at ce_481 26 rfl) rfl rfl ?_
  refine e_pk [0, 1, 2] rfl rfl ?_
  exact tm_tick_45 w d hd _ _ _
theorem fm_tick_43 (v1 : Int) (s : iS) : Fm Prod.snd L_m_tick G_m_tick s (m_tick_43 v1 s) := fm_tick_45 _ _ _
noncomputable def m_tick_13 (v1 : Int) (v2 : Int) (s : iS) : Option (Int × iS) := (lp (L := Int × iS) (E := iS) (fun l => m_tick_13b v1 (l.1) (l.2)) (v2, s)).bind (fun e => m_tick_43 v1 e)
theorem tm_tick_13 (w : ev_W) (d : Nat) (hd : 2 ≤ d) (v1 : Int) (v2 : Int) (s : iS) : Ew hT w d 481 13 [(0, .ref (tb_nK + 121)), (1, iv v1), (2, iv v2)] [] s (Ci hT) (m_tick_13 v1 v2 s) := by
  unfold m_tick_13
  refine e_lp (LO := fun l => [(0, .ref (tb_nK + 121)), (1, iv v1), (2, iv (l.1))]) (LS := fun l => l.2) (CE := fun e r => ev w d 481 43 [(0, .ref (tb_nK + 121)), (1, iv v1)] [] (hT (e)) r) (fun l => tm_tick_13b w d hd _ _ _) ?_ (v2, s)
  intro e
  show Ew hT w d 481 43 [(0, .ref (tb_nK + 121)), (1, iv v1)] [] e (Ci hT) _
  refine e_pk [0, 1] rfl rfl ?_
  exact tm_tick_43 w d hd _ _
theorem fm_tick_13 (v1 : Int) (v2 : Int) (s : iS) : Fm Prod.snd L_m_tick G_m_tick s (m_tick_13 v1 v2 s) := fm_lp (LS := fun l => l.2) (LE := fun e => e) (fun l => fm_tick_13b _ _ _) (fun e => fm_tick_43 _ _) (v2, s)
noncomputable def m_tick (s : iS) : Option (Int × iS) := gd (rg (s 121 152)) (if (s 121 152) = 0 then some ((-1), s) else m_tick_13 0 0 s)
theorem tm_tick (w : ev_W) (d : Nat) (hd : 2 ≤ d) (s : iS) : Ew hT w d 481 0 [(0, .ref (tb_nK + 121))] [] s (Ci hT) (m_tick s) := by
  unfold m_tick
  refine e_mv 1 em_481 (ce_at ce_481 0 rfl) rfl rfl ?_
  refine e_get 4 em_481 (ce_at ce_481 1 rfl) tq_121 rfl rfl ?_
  refine e_gd fun g1 => ?_
  refine e_ifne 9 7 em_481 rfl rfl (ce_at ce_481 2 rfl) g1 (fun h2 => ?_) (fun h2 => ?_)
  · refine e_op 10 em_481 (ce_at ce_481 5 rfl) rfl rfl ?_
    refine e_mv 11 em_481 (ce_at ce_481 6 rfl) rfl rfl ?_
    refine e_op 12 em_481 (ce_at ce_481 7 rfl) rfl rfl ?_
    refine e_mv 13 em_481 (ce_at ce_481 8 rfl) rfl rfl ?_
    refine e_pk [0, 1, 2] rfl rfl ?_
    exact tm_tick_13 w d hd _ _ _
  · refine e_op 8 em_481 (ce_at ce_481 3 rfl) rfl rfl ?_
    exact e_reti em_481 (ce_at ce_481 4 rfl)
theorem fm_tick (s : iS) : Fm Prod.snd L_m_tick G_m_tick s (m_tick s) := fm_gd (fm_if (fm_some md_refl) (fm_tick_13 _ _ _))
/-! m_countPins -/
def L_m_countPins : List Nat := []
def G_m_countPins : List (Nat × Nat) := []
def m_countPins_12C (w : ev_W) (d : Nat) (v1 : Int) : (Int × Int × iS) ⊕ (Int × iS) → am_E → Prop := fun q r => q.elim (fun l => ev w d 483 12 ((fun l => [(0, .ref (tb_nK + 121)), (1, iv v1), (2, iv (l.1)), (3, iv (l.2.1))]) l) [] (hT ((fun l => l.2.2) l)) r) (fun e => (fun e r => ev w d 483 51 [(2, iv (e.1))] [] (hT (e.2)) r) e r)
noncomputable def m_countPins_12b (v1 : Int) (v2 : Int) (v3 : Int) (s : iS) : Option ((Int × Int × iS) ⊕ (Int × iS)) := gd (0 ≤ ((s 121 174) + 1) ∧ ((s 121 174) + 1) < 18) (gd (rg v3) (gd (rg (s 196 ((s 121 174) + 1).toNat)) (if (s 196 ((s 121 174) + 1).toNat) ≤ v3 then some (.inr (v2, s)) else gd (0 ≤ v3 ∧ v3 < 200) (gd (rg (s 197 v3.toNat)) (gd (rg v1) (if (s 197 v3.toNat) = v1 then some (.inl ((v2 + 1), (v3 + 1), s)) else some (.inl (v2, (v3 + 1), s))))))))
theorem tm_countPins_12b (w : ev_W) (d : Nat) (hd : 0 ≤ d) (v1 : Int) (v2 : Int) (v3 : Int) (s : iS) : Ew hT w d 483 12 [(0, .ref (tb_nK + 121)), (1, iv v1), (2, iv v2), (3, iv v3)] [] s (m_countPins_12C w d v1) (m_countPins_12b v1 v2 v3 s) := by
  unfold m_countPins_12b
  refine e_mv 13 em_483 (ce_at ce_483 8 rfl) rfl rfl ?_
  refine e_mv 14 em_483 (ce_at ce_483 9 rfl) rfl rfl ?_
  refine e_getr 17 em_483 (ce_at ce_483 10 rfl) tq_121 rfl rfl ?_
  refine e_mv 18 em_483 (ce_at ce_483 11 rfl) rfl rfl ?_
  refine e_get 21 em_483 (ce_at ce_483 12 rfl) tq_121 rfl rfl ?_
  refine e_op 22 em_483 (ce_at ce_483 13 rfl) rfl rfl ?_
  refine e_iadd 23 em_483 rfl (ce_at ce_483 14 rfl) ?_
  refine e_gd fun g1 => ?_
  refine e_ild 24 em_483 (ce_at ce_483 15 rfl) tq_196 (by decide) g1 rfl ?_
  refine e_gd fun g2 => ?_
  refine e_gd fun g3 => ?_
  refine e_cmge 51 27 em_483 rfl rfl (ce_at ce_483 16 rfl) g2 g3 (fun h4 => ?_) (fun h4 => ?_)
  · refine e_pk [2] rfl rfl ?_
    exact e_out (fun r h => h)
  · refine e_mv 28 em_483 (ce_at ce_483 17 rfl) rfl rfl ?_
    refine e_getr 31 em_483 (ce_at ce_483 18 rfl) tq_121 rfl rfl ?_
    refine e_mv 32 em_483 (ce_at ce_483 19 rfl) rfl rfl ?_
    refine e_gd fun g5 => ?_
    refine e_zld 33 em_483 (ce_at ce_483 20 rfl) tq_197 (by decide) g5 rfl ?_
    refine e_mv 34 em_483 (ce_at ce_483 21 rfl) rfl rfl ?_
    refine e_gd fun g6 => ?_
    refine e_gd fun g7 => ?_
    refine e_cmne 43 37 em_483 rfl rfl (ce_at ce_483 22 rfl) g6 g7 (fun h8 => ?_) (fun h8 => ?_)
    · refine e_mv 44 em_483 (ce_at ce_483 27 rfl) rfl rfl ?_
      refine e_mv 45 em_483 (ce_at ce_483 28 rfl) rfl rfl ?_
      refine e_iinc 48 em_483 (ce_at ce_483 29 rfl) rfl (by decide) rfl ?_
      refine e_goto em_483 12 (ce_at ce_483 30 rfl) rfl ?_
      refine e_pk [0, 1, 2, 3] rfl rfl ?_
      exact e_out (fun r h => h)
    · refine e_mv 38 em_483 (ce_at ce_483 23 rfl) rfl rfl ?_
      refine e_op 39 em_483 (ce_at ce_483 24 rfl) rfl rfl ?_
      refine e_iadd 40 em_483 rfl (ce_at ce_483 25 rfl) ?_
      refine e_goto em_483 44 (ce_at ce_483 26 rfl) rfl ?_
      refine e_mv 45 em_483 (ce_at ce_483 28 rfl) rfl rfl ?_
      refine e_iinc 48 em_483 (ce_at ce_483 29 rfl) rfl (by decide) rfl ?_
      refine e_goto em_483 12 (ce_at ce_483 30 rfl) rfl ?_
      refine e_pk [0, 1, 2, 3] rfl rfl ?_
      exact e_out (fun r h => h)
theorem fm_countPins_12b (v1 : Int) (v2 : Int) (v3 : Int) (s : iS) : Fm (fun r : (Int × Int × iS) ⊕ (Int × iS) => r.elim (fun l => l.2.2) (fun e => e.2)) L_m_countPins G_m_countPins s (m_countPins_12b v1 v2 v3 s) := fm_gd (fm_gd (fm_gd (fm_if (fm_some md_refl) (fm_gd (fm_gd (fm_gd (fm_if (fm_some md_refl) (fm_some md_refl))))))))
noncomputable def m_countPins_12 (v1 : Int) (v2 : Int) (v3 : Int) (s : iS) : Option (Int × iS) := (lp (L := Int × Int × iS) (E := Int × iS) (fun l => m_countPins_12b v1 (l.1) (l.2.1) (l.2.2)) (v2, v3, s)).bind (fun e => some (e.1, e.2))
theorem tm_countPins_12 (w : ev_W) (d : Nat) (hd : 0 ≤ d) (v1 : Int) (v2 : Int) (v3 : Int) (s : iS) : Ew hT w d 483 12 [(0, .ref (tb_nK + 121)), (1, iv v1), (2, iv v2), (3, iv v3)] [] s (Ci hT) (m_countPins_12 v1 v2 v3 s) := by
  unfold m_countPins_12
  refine e_lp (LO := fun l => [(0, .ref (tb_nK + 121)), (1, iv v1), (2, iv (l.1)), (3, iv (l.2.1))]) (LS := fun l => l.2.2) (CE := fun e r => ev w d 483 51 [(2, iv (e.1))] [] (hT (e.2)) r) (fun l => tm_countPins_12b w d hd _ _ _ _) ?_ (v2, v3, s)
  intro e
  show Ew hT w d 483 51 [(2, iv (e.1))] [] e.2 (Ci hT) _
  refine e_mv 52 em_483 (ce_at ce_483 31 rfl) rfl rfl ?_
  exact e_reti em_483 (ce_at ce_483 32 rfl)
theorem fm_countPins_12 (v1 : Int) (v2 : Int) (v3 : Int) (s : iS) : Fm Prod.snd L_m_countPins G_m_countPins s (m_countPins_12 v1 v2 v3 s) := fm_lp (LS := fun l => l.2.2) (LE := fun e => e.2) (fun l => fm_countPins_12b _ _ _ _) (fun e => fm_some md_refl) (v2, v3, s)
noncomputable def m_countPins (v1 : Int) (s : iS) : Option (Int × iS) := gd (0 ≤ (s 121 174) ∧ (s 121 174) < 18) (m_countPins_12 v1 0 (s 196 (s 121 174).toNat) s)
theorem tm_countPins (w : ev_W) (d : Nat) (hd : 0 ≤ d) (v1 : Int) (s : iS) : Ew hT w d 483 0 [(0, .ref (tb_nK + 121)), (1, iv v1)] [] s (Ci hT) (m_countPins v1 s) := by
  unfold m_countPins
  refine e_op 1 em_483 (ce_at ce_483 0 rfl) rfl rfl ?_
  refine e_mv 2 em_483 (ce_at ce_483 1 rfl) rfl rfl ?_
  refine e_mv 3 em_483 (ce_at ce_483 2 rfl) rfl rfl ?_
  refine e_getr 6 em_483 (ce_at ce_483 3 rfl) tq_121 rfl rfl ?_
  refine e_mv 7 em_483 (ce_at ce_483 4 rfl) rfl rfl ?_
  refine e_get 10 em_483 (ce_at ce_483 5 rfl) tq_121 rfl rfl ?_
  refine e_gd fun g1 => ?_
  refine e_ild 11 em_483 (ce_at ce_483 6 rfl) tq_196 (by decide) g1 rfl ?_
  refine e_mv 12 em_483 (ce_at ce_483 7 rfl) rfl rfl ?_
  refine e_pk [0, 1, 2, 3] rfl rfl ?_
  exact tm_countPins_12 w d hd _ _ _ _
theorem fm_countPins (v1 : Int) (s : iS) : Fm Prod.snd L_m_countPins G_m_countPins s (m_countPins v1 s) := fm_gd (fm_countPins_12 _ _ _ _)
/-! m_gates -/
def L_m_gates : List Nat := []
def G_m_gates : List (Nat × Nat) := []
def m_gates_26C (w : ev_W) (d : Nat) (v1 : Int) : (Int × Int × Int × iS) ⊕ (Int × Int × iS) → am_E → Prop := fun q r => q.elim (fun l => ev w d 482 26 ((fun l => [(0, .ref (tb_nK + 121)), (1, iv v1), (2, iv (l.1)), (3, iv (l.2.1)), (4, iv (l.2.2.1))]) l) [] (hT ((fun l => l.2.2.2) l)) r) (fun e => (fun e r => ev w d 482 90 [(0, .ref (tb_nK + 121)), (1, iv v1), (2, iv (e.1)), (3, iv (e.2.1))] [] (hT (e.2.2)) r) e r)
noncomputable def m_gates_26b (v1 : Int) (v2 : Int) (v3 : Int) (v4 : Int) (s : iS) : Option ((Int × Int × Int × iS) ⊕ (Int × Int × iS)) := gd (rg v4) (gd (rg (s 121 166)) (if (s 121 166) ≤ v4 then some (.inr (v2, v3, s)) else gd (0 ≤ v4 ∧ v4 < 1500) (gd (0 ≤ (s 227 v4.toNat) ∧ (s 227 v4.toNat) < 1500) (gd (0 ≤ ((s 225 (s 227 v4.toNat).toNat) + 2) ∧ ((s 225 (s 227 v4.toNat).toNat) + 2) < 40000) (gd (rg (s 226 (s 227 v4.toNat).toNat)) (gd (rg v3) (if (s 226 (s 227 v4.toNat).toNat) ≤ v3 then some (.inl ((v2 + (s 230 ((s 225 (s 227 v4.toNat).toNat) + 2).toNat)), v3, (v4 + 1), s)) else some (.inl ((v2 + (s 230 ((s 225 (s 227 v4.toNat).toNat) + 2).toNat)), (s 226 (s 227 v4.toNat).toNat), (v4 + 1), s)))))))))
theorem tm_gates_26b (w : ev_W) (d : Nat) (hd : 1 ≤ d) (v1 : Int) (v2 : Int) (v3 : Int) (v4 : Int) (s : iS) : Ew hT w d 482 26 [(0, .ref (tb_nK + 121)), (1, iv v1), (2, iv v2), (3, iv v3), (4, iv v4)] [] s (m_gates_26C w d v1) (m_gates_26b v1 v2 v3 v4 s) := by
  unfold m_gates_26b
  refine e_mv 28 em_482 (ce_at ce_482 16 rfl) rfl rfl ?_
  refine e_mv 29 em_482 (ce_at ce_482 17 rfl) rfl rfl ?_
  refine e_get 32 em_482 (ce_at ce_482 18 rfl) tq_121 rfl rfl ?_
  refine e_gd fun g1 => ?_
  refine e_gd fun g2 => ?_
  refine e_cmge 90 35 em_482 rfl rfl (ce_at ce_482 19 rfl) g1 g2 (fun h3 => ?_) (fun h3 => ?_)
  · refine e_pk [0, 1, 2, 3] rfl rfl ?_
    exact e_out (fun r h => h)
  · refine e_mv 36 em_482 (ce_at ce_482 20 rfl) rfl rfl ?_
    refine e_getr 39 em_482 (ce_at ce_482 21 rfl) tq_121 rfl rfl ?_
    refine e_mv 41 em_482 (ce_at ce_482 22 rfl) rfl rfl ?_
    refine e_gd fun g4 => ?_
    refine e_ild 42 em_482 (ce_at ce_482 23 rfl) tq_227 (by decide) g4 rfl ?_
    refine e_mv 44 em_482 (ce_at ce_482 24 rfl) rfl rfl ?_
    refine e_mv 45 em_482 (ce_at ce_482 25 rfl) rfl rfl ?_
    refine e_mv 46 em_482 (ce_at ce_482 26 rfl) rfl rfl ?_
    refine e_getr 49 em_482 (ce_at ce_482 27 rfl) tq_121 rfl rfl ?_
    refine e_mv 50 em_482 (ce_at ce_482 28 rfl) rfl rfl ?_
    refine e_getr 53 em_482 (ce_at ce_482 29 rfl) tq_121 rfl rfl ?_
    refine e_mv 55 em_482 (ce_at ce_482 30 rfl) rfl rfl ?_
    refine e_gd fun g5 => ?_
    refine e_ild 56 em_482 (ce_at ce_482 31 rfl) tq_225 (by decide) g5 rfl ?_
    refine e_op 57 em_482 (ce_at ce_482 32 rfl) rfl rfl ?_
    refine e_iadd 58 em_482 rfl (ce_at ce_482 33 rfl) ?_
    refine e_gd fun g6 => ?_
    refine e_ild 59 em_482 (ce_at ce_482 34 rfl) tq_230 (by decide) g6 rfl ?_
    refine e_iadd 60 em_482 rfl (ce_at ce_482 35 rfl) ?_
    refine e_mv 61 em_482 (ce_at ce_482 36 rfl) rfl rfl ?_
    refine e_mv 62 em_482 (ce_at ce_482 37 rfl) rfl rfl ?_
    refine e_getr 65 em_482 (ce_at ce_482 38 rfl) tq_121 rfl rfl ?_
    refine e_mv 67 em_482 (ce_at ce_482 39 rfl) rfl rfl ?_
    refine e_ild 68 em_482 (ce_at ce_482 40 rfl) tq_226 (by decide) g5 rfl ?_
    refine e_mv 69 em_482 (ce_at ce_482 41 rfl) rfl rfl ?_
    refine e_gd fun g7 => ?_
    refine e_gd fun g8 => ?_
    refine e_cmle 82 72 em_482 rfl rfl (ce_at ce_482 42 rfl) g7 g8 (fun h9 => ?_) (fun h9 => ?_)
    · refine e_mv 83 em_482 (ce_at ce_482 48 rfl) rfl rfl ?_
      refine e_mv 84 em_482 (ce_at ce_482 49 rfl) rfl rfl ?_
      refine e_iinc 87 em_482 (ce_at ce_482 50 rfl) rfl (by decide) rfl ?_
      refine e_goto em_482 26 (ce_at ce_482 51 rfl) rfl ?_
      refine e_pk [0, 1, 2, 3, 4] rfl rfl ?_
      exact e_out (fun r h => h)
    · refine e_mv 73 em_482 (ce_at ce_482 43 rfl) rfl rfl ?_
      refine e_getr 76 em_482 (ce_at ce_482 44 rfl) tq_121 rfl rfl ?_
      refine e_mv 78 em_482 (ce_at ce_482 45 rfl) rfl rfl ?_
      refine e_ild 79 em_482 (ce_at ce_482 46 rfl) tq_226 (by decide) g5 rfl ?_
      refine e_goto em_482 83 (ce_at ce_482 47 rfl) rfl ?_
      refine e_mv 84 em_482 (ce_at ce_482 49 rfl) rfl rfl ?_
      refine e_iinc 87 em_482 (ce_at ce_482 50 rfl) rfl (by decide) rfl ?_
      refine e_goto em_482 26 (ce_at ce_482 51 rfl) rfl ?_
      refine e_pk [0, 1, 2, 3, 4] rfl rfl ?_
      exact e_out (fun r h => h)
theorem fm_gates_26b (v1 : Int) (v2 : Int) (v3 : Int) (v4 : Int) (s : iS) : Fm (fun r : (Int × Int × Int × iS) ⊕ (Int × Int × iS) => r.elim (fun l => l.2.2.2) (fun e => e.2.2)) L_m_gates G_m_gates s (m_gates_26b v1 v2 v3 v4 s) := fm_gd (fm_gd (fm_if (fm_some md_refl) (fm_gd (fm_gd (fm_gd (fm_gd (fm_gd (fm_if (fm_some md_refl) (fm_some md_refl)))))))))
noncomputable def m_gates_90 (v1 : Int) (v2 : Int) (v3 : Int) (s : iS) : Option (Int × iS) := gd (rg v1) (if v1 = 0 then some ((s 121 166), s) else if v1 = 1 then some (((s 121 161) - (s 121 166)), s) else if v1 = 2 then bd (m_countPins 0 s) (fun r5 s5 => some (r5, s5)) else if v1 = 3 then bd (m_countPins 1 s) (fun r7 s7 => some (r7, s7)) else if v1 = 4 then some ((s 121 122), s) else if v1 = 5 then some (v3, s) else if v1 = 6 then some ((s 121 173), s) else some (v2, s))
theorem tm_gates_90 (w : ev_W) (d : Nat) (hd : 1 ≤ d) (v1 : Int) (v2 : Int) (v3 : Int) (s : iS) : Ew hT w d 482 90 [(0, .ref (tb_nK + 121)), (1, iv v1), (2, iv v2), (3, iv v3)] [] s (Ci hT) (m_gates_90 v1 v2 v3 s) := by
  unfold m_gates_90
  refine e_mv 91 em_482 (ce_at ce_482 52 rfl) rfl rfl ?_
  refine e_gd fun g1 => ?_
  refine e_case 0 (fun h2 => ?_) (fun h2 => ?_)
  · refine e_sw em_482 132 (ce_at ce_482 53 rfl) (sw_in g1 (by omega) (by subst h2; rfl)) rfl ?_
    refine e_mv 133 em_482 (ce_at ce_482 54 rfl) rfl rfl ?_
    refine e_get 136 em_482 (ce_at ce_482 55 rfl) tq_121 rfl rfl ?_
    exact e_reti em_482 (ce_at ce_482 56 rfl)
  refine e_case 1 (fun h3 => ?_) (fun h3 => ?_)
  · refine e_sw em_482 137 (ce_at ce_482 53 rfl) (sw_in g1 (by omega) (by subst h3; rfl)) rfl ?_
    refine e_mv 138 em_482 (ce_at ce_482 57 rfl) rfl rfl ?_
    refine e_get 141 em_482 (ce_at ce_482 58 rfl) tq_121 rfl rfl ?_
    refine e_mv 142 em_482 (ce_at ce_482 59 rfl) rfl rfl ?_
    refine e_get 145 em_482 (ce_at ce_482 60 rfl) tq_121 rfl rfl ?_
    refine e_isub 146 em_482 rfl (ce_at ce_482 61 rfl) ?_
    exact e_reti em_482 (ce_at ce_482 62 rfl)
  refine e_case 2 (fun h4 => ?_) (fun h4 => ?_)
  · refine e_sw em_482 147 (ce_at ce_482 53 rfl) (sw_in g1 (by omega) (by subst h4; rfl)) rfl ?_
    refine e_mv 148 em_482 (ce_at ce_482 63 rfl) rfl rfl ?_
    refine e_op 149 em_482 (ce_at ce_482 64 rfl) rfl rfl ?_
    refine e_ivi 152 em_482 (ce_at ce_482 65 rfl) (by omega) (iv_v1 (by decide) tq_121 rfl) em_483 (Nat.le_of_ble_eq_true rfl) rfl (tm_countPins w (d - 1) (by omega) _ _) (fun r5 s5 => ?_)
    exact e_reti em_482 (ce_at ce_482 66 rfl)
  refine e_case 3 (fun h6 => ?_) (fun h6 => ?_)
  · refine e_sw em_482 153 (ce_at ce_482 53 rfl) (sw_in g1 (by omega) (by subst h6; rfl)) rfl ?_
    refine e_mv 154 em_482 (ce_at ce_482 67 rfl) rfl rfl ?_
    refine e_op 155 em_482 (ce_at ce_482 68 rfl) rfl rfl ?_
    refine e_ivi 158 em_482 (ce_at ce_482 69 rfl) (by omega) (iv_v1 (by decide) tq_121 rfl) em_483 (Nat.le_of_ble_eq_true rfl) rfl (tm_countPins w (d - 1) (by omega) _ _) (fun r7 s7 => ?_)
    exact e_reti em_482 (ce_at ce_482 70 rfl)
  refine e_case 4 (fun h8 => ?_) (fun h8 => ?_)
  · refine e_sw em_482 159 (ce_at ce_482 53 rfl) (sw_in g1 (by omega) (by subst h8; rfl)) rfl ?_
    refine e_mv 160 em_482 (ce_at ce_482 71 rfl) rfl rfl ?_
    refine e_get 163 em_482 (ce_at ce_482 72 rfl) tq_121 rfl rfl ?_
    exact e_reti em_482 (ce_at ce_482 73 rfl)
  refine e_case 5 (fun h9 => ?_) (fun h9 => ?_)
  · refine e_sw em_482 164 (ce_at ce_482 53 rfl) (sw_in g1 (by omega) (by subst h9; rfl)) rfl ?_
    refine e_mv 165 em_482 (ce_at ce_482 74 rfl) rfl rfl ?_
    exact e_reti em_482 (ce_at ce_482 75 rfl)
  refine e_case 6 (fun h10 => ?_) (fun h10 => ?_)
  · refine e_sw em_482 166 (ce_at ce_482 53 rfl) (sw_in g1 (by omega) (by subst h10; rfl)) rfl ?_
    refine e_mv 167 em_482 (ce_at ce_482 76 rfl) rfl rfl ?_
    refine e_get 170 em_482 (ce_at ce_482 77 rfl) tq_121 rfl rfl ?_
    exact e_reti em_482 (ce_at ce_482 78 rfl)
  refine e_sw em_482 171 (ce_at ce_482 53 rfl) (sw_out g1 (by omega)) rfl ?_
  refine e_mv 172 em_482 (ce_at ce_482 79 rfl) rfl rfl ?_
  exact e_reti em_482 (ce_at ce_482 80 rfl)
theorem fm_gates_90 (v1 : Int) (v2 : Int) (v3 : Int) (s : iS) : Fm Prod.snd L_m_gates G_m_gates s (m_gates_90 v1 v2 v3 s) := fm_gd (fm_if (fm_some md_refl) (fm_if (fm_some md_refl) (fm_if (fm_bd (fm_sub (fm_countPins _ _) (mem_sub_L rfl) (mem_sub_F rfl)) (fun r5 s5 => fm_some md_refl)) (fm_if (fm_bd (fm_sub (fm_countPins _ _) (mem_sub_L rfl) (mem_sub_F rfl)) (fun r7 s7 => fm_some md_refl)) (fm_if (fm_some md_refl) (fm_if (fm_some md_refl) (fm_if (fm_some md_refl) (fm_some md_refl))))))))
noncomputable def m_gates_26 (v1 : Int) (v2 : Int) (v3 : Int) (v4 : Int) (s : iS) : Option (Int × iS) := (lp (L := Int × Int × Int × iS) (E := Int × Int × iS) (fun l => m_gates_26b v1 (l.1) (l.2.1) (l.2.2.1) (l.2.2.2)) (v2, v3, v4, s)).bind (fun e => m_gates_90 v1 (e.1) (e.2.1) (e.2.2))
theorem tm_gates_26 (w : ev_W) (d : Nat) (hd : 1 ≤ d) (v1 : Int) (v2 : Int) (v3 : Int) (v4 : Int) (s : iS) : Ew hT w d 482 26 [(0, .ref (tb_nK + 121)), (1, iv v1), (2, iv v2), (3, iv v3), (4, iv v4)] [] s (Ci hT) (m_gates_26 v1 v2 v3 v4 s) := by
  unfold m_gates_26
  refine e_lp (LO := fun l => [(0, .ref (tb_nK + 121)), (1, iv v1), (2, iv (l.1)), (3, iv (l.2.1)), (4, iv (l.2.2.1))]) (LS := fun l => l.2.2.2) (CE := fun e r => ev w d 482 90 [(0, .ref (tb_nK + 121)), (1, iv v1), (2, iv (e.1)), (3, iv (e.2.1))] [] (hT (e.2.2)) r) (fun l => tm_gates_26b w d hd _ _ _ _ _) ?_ (v2, v3, v4, s)
  intro e
  show Ew hT w d 482 90 [(0, .ref (tb_nK + 121)), (1, iv v1), (2, iv (e.1)), (3, iv (e.2.1))] [] e.2.2 (Ci hT) _
  refine e_pk [0, 1, 2, 3] rfl rfl ?_
  exact tm_gates_90 w d hd _ _ _ _
theorem fm_gates_26 (v1 : Int) (v2 : Int) (v3 : Int) (v4 : Int) (s : iS) : Fm Prod.snd L_m_gates G_m_gates s (m_gates_26 v1 v2 v3 v4 s) := fm_lp (LS := fun l => l.2.2.2) (LE := fun e => e.2.2) (fun l => fm_gates_26b _ _ _ _ _) (fun e => fm_gates_90 _ _ _ _) (v2, v3, v4, s)
noncomputable def m_gates (v1 : Int) (s : iS) : Option (Int × iS) := gd (rg (s 121 152)) (if (s 121 152) = 0 then some ((-1), s) else gd (rg v1) (if v1 < 0 then some ((-1), s) else if v1 ≤ 7 then m_gates_26 v1 0 0 0 s else some ((-1), s)))
theorem tm_gates (w : ev_W) (d : Nat) (hd : 1 ≤ d) (v1 : Int) (s : iS) : Ew hT w d 482 0 [(0, .ref (tb_nK + 121)), (1, iv v1)] [] s (Ci hT) (m_gates v1 s) := by
  unfold m_gates
  refine e_mv 1 em_482 (ce_at ce_482 0 rfl) rfl rfl ?_
  refine e_get 4 em_482 (ce_at ce_482 1 rfl) tq_121 rfl rfl ?_
  refine e_gd fun g1 => ?_
  refine e_ifeq 17 7 em_482 rfl rfl (ce_at ce_482 2 rfl) g1 (fun h2 => ?_) (fun h2 => ?_)
  · refine e_op 18 em_482 (ce_at ce_482 8 rfl) rfl rfl ?_
    exact e_reti em_482 (ce_at ce_482 9 rfl)
  · refine e_mv 8 em_482 (ce_at ce_482 3 rfl) rfl rfl ?_
    refine e_gd fun g3 => ?_
    refine e_iflt 17 11 em_482 rfl rfl (ce_at ce_482 4 rfl) g3 (fun h4 => ?_) (fun h4 => ?_)
    · refine e_op 18 em_482 (ce_at ce_482 8 rfl) rfl rfl ?_
      exact e_reti em_482 (ce_at ce_482 9 rfl)
    · refine e_mv 12 em_482 (ce_at ce_482 5 rfl) rfl rfl ?_
      refine e_bip 14 em_482 (ce_at ce_482 6 rfl) (by decide) rfl ?_
      refine e_cmle 19 17 em_482 rfl rfl (ce_at ce_482 7 rfl) g3 (by decide) (fun h5 => ?_) (fun h5 => ?_)
      · refine e_op 20 em_482 (ce_at ce_482 10 rfl) rfl rfl ?_
        refine e_mv 21 em_482 (ce_at ce_482 11 rfl) rfl rfl ?_
        refine e_op 22 em_482 (ce_at ce_482 12 rfl) rfl rfl ?_
        refine e_mv 23 em_482 (ce_at ce_482 13 rfl) rfl rfl ?_
        refine e_op 24 em_482 (ce_at ce_482 14 rfl) rfl rfl ?_
        refine e_mv 26 em_482 (ce_at ce_482 15 rfl) rfl rfl ?_
        refine e_pk [0, 1, 2, 3, 4] rfl rfl ?_
        exact tm_gates_26 w d hd _ _ _ _ _
      · refine e_op 18 em_482 (ce_at ce_482 8 rfl) rfl rfl ?_
        exact e_reti em_482 (ce_at ce_482 9 rfl)
theorem fm_gates (v1 : Int) (s : iS) : Fm Prod.snd L_m_gates G_m_gates s (m_gates v1 s) := fm_gd (fm_if (fm_some md_refl) (fm_gd (fm_if (fm_some md_refl) (fm_if (fm_gates_26 _ _ _ _ _) (fm_some md_refl)))))
/-! scp_tail -/
def L_scp_tail : List Nat := [32]
def G_scp_tail : List (Nat × Nat) := []
def scp_tail_195C (H : iS → List am_C) (w : ev_W) (d : Nat) : (Int × iS) ⊕ (iS) → am_E → Prop := fun q r => q.elim (fun l => ev w d 19 195 ((fun l => [(0, .ref (tb_nK + 23)), (1, iv (l.1))]) l) [] (H ((fun l => l.2) l)) r) (fun e => (fun e r => ev w d 19 250 [] [] (H (e)) r) e r)
noncomputable def scp_tail_243 (v1 : Int) (t0 : Int) (t1 : Int) (s : iS) : Option ((Int × iS) ⊕ (iS)) := gd (0 ≤ t1 ∧ t1 < 100) (lt' (up s 32 t1.toNat t0) (fun s2 => some (.inl ((v1 + 1), s2))))
theorem tscp_tail_243 (H : iS → List am_C) (w : ev_W) (d : Nat) (hd : 0 ≤ d) (hc_23 : Ho H 23 5 [some 24, some 27, some 30, some 31, some 32, some 33, some 36, some 37, some 38, some 39, some 40, none, none, none, none, none]) (hc_32 : Ha H 32 0 100) (v1 : Int) (t0 : Int) (t1 : Int) (s : iS) : Ew H w d 19 243 [(0, .ref (tb_nK + 23)), (1, iv v1)] [iv t0, iv t1, .ref (tb_nK + 32)] s (scp_tail_195C H w d) (scp_tail_243 v1 t0 t1 s) := by
  unfold scp_tail_243
  refine e_gd fun g1 => ?_
  refine e_ist 244 em_19 (ce_at ce_19 115 rfl) hc_32 (by decide) g1 rfl (fun s2 => ?_)
  refine e_iinc 247 em_19 (ce_at ce_19 116 rfl) rfl (by decide) rfl ?_
  refine e_goto em_19 195 (ce_at ce_19 117 rfl) rfl ?_
  refine e_pk [0, 1] rfl rfl ?_
  exact e_out (fun r h => h)
theorem fscp_tail_243 (v1 : Int) (t0 : Int) (t1 : Int) (s : iS) : Fm (fun r : (Int × iS) ⊕ (iS) => r.elim (fun l => l.2) (fun e => e)) L_scp_tail G_scp_tail s (scp_tail_243 v1 t0 t1 s) := fm_gd (fm_lt (md_upL (mem_L rfl)) (fun s2 => fm_some md_refl))
noncomputable def scp_tail_224 (v1 : Int) (t0 : Int) (s : iS) : Option ((Int × iS) ⊕ (iS)) := gd (rg t0) (if t0 = 0 then scp_tail_243 v1 258 v1 s else scp_tail_243 v1 259 v1 s)
theorem tscp_tail_224 (H : iS → List am_C) (w : ev_W) (d : Nat) (hd : 0 ≤ d) (hc_23 : Ho H 23 5 [some 24, some 27, some 30, some 31, some 32, some 33, some 36, some 37, some 38, some 39, some 40, none, none, none, none, none]) (hc_32 : Ha H 32 0 100) (v1 : Int) (t0 : Int) (s : iS) : Ew H w d 19 224 [(0, .ref (tb_nK + 23)), (1, iv v1)] [iv t0] s (scp_tail_195C H w d) (scp_tail_224 v1 t0 s) := by
  unfold scp_tail_224
  refine e_mv 225 em_19 (ce_at ce_19 106 rfl) rfl rfl ?_
  refine e_mv 226 em_19 (ce_at ce_19 107 rfl) rfl rfl ?_
  refine e_getr 229 em_19 (ce_at ce_19 108 rfl) hc_23 rfl rfl ?_
  refine e_mv 230 em_19 (ce_at ce_19 109 rfl) rfl rfl ?_
  refine e_mv 231 em_19 (ce_at ce_19 110 rfl) rfl rfl ?_
  refine e_gd fun g1 => ?_
  refine e_ifeq 240 234 em_19 rfl rfl (ce_at ce_19 111 rfl) g1 (fun h2 => ?_) (fun h2 => ?_)
  · refine e_sip 243 em_19 (ce_at ce_19 114 rfl) (by decide) rfl ?_
    refine e_pk [0, 1] rfl rfl ?_
    exact tscp_tail_243 H w d hd hc_23 hc_32 _ _ _ _
  · refine e_sip 237 em_19 (ce_at ce_19 112 rfl) (by decide) rfl ?_
    refine e_goto em_19 243 (ce_at ce_19 113 rfl) rfl ?_
    refine e_pk [0, 1] rfl rfl ?_
    exact tscp_tail_243 H w d hd hc_23 hc_32 _ _ _ _
theorem fscp_tail_224 (v1 : Int) (t0 : Int) (s : iS) : Fm (fun r : (Int × iS) ⊕ (iS) => r.elim (fun l => l.2) (fun e => e)) L_scp_tail G_scp_tail s (scp_tail_224 v1 t0 s) := fm_gd (fm_if (fscp_tail_243 _ _ _ _) (fscp_tail_243 _ _ _ _))
noncomputable def scp_tail_219 (v1 : Int) (s : iS) : Option ((Int × iS) ⊕ (iS)) := scp_tail_224 v1 1 s
theorem tscp_tail_219 (H : iS → List am_C) (w : ev_W) (d : Nat) (hd : 0 ≤ d) (hc_23 : Ho H 23 5 [some 24, some 27, some 30, some 31, some 32, some 33, some 36, some 37, some 38, some 39, some 40, none, none, none, none, none]) (hc_32 : Ha H 32 0 100) (v1 : Int) (s : iS) : Ew H w d 19 219 [(0, .ref (tb_nK + 23)), (1, iv v1)] [] s (scp_tail_195C H w d) (scp_tail_219 v1 s) := by
  unfold scp_tail_219
  refine e_op 220 em_19 (ce_at ce_19 103 rfl) rfl rfl ?_
  refine e_goto em_19 224 (ce_at ce_19 104 rfl) rfl ?_
  refine e_pk [0, 1] rfl rfl ?_
  exact tscp_tail_224 H w d hd hc_23 hc_32 _ _ _
theorem fscp_tail_219 (v1 : Int) (s : iS) : Fm (fun r : (Int × iS) ⊕ (iS) => r.elim (fun l => l.2) (fun e => e)) L_scp_tail G_scp_tail s (scp_tail_219 v1 s) := fscp_tail_224 _ _ _
noncomputable def scp_tail_223 (v1 : Int) (s : iS) : Option ((Int × iS) ⊕ (iS)) := scp_tail_224 v1 0 s
theorem tscp_tail_223 (H : iS → List am_C) (w : ev_W) (d : Nat) (hd : 0 ≤ d) (hc_23 : Ho H 23 5 [some 24, some 27, some 30, some 31, some 32, some 33, some 36, some 37, some 38, some 39, some 40, none, none, none, none, none]) (hc_32 : Ha H 32 0 100) (v1 : Int) (s : iS) : Ew H w d 19 223 [(0, .ref (tb_nK + 23)), (1, iv v1)] [] s (scp_tail_195C H w d) (scp_tail_223 v1 s) := by
  unfold scp_tail_223
  refine e_op 224 em_19 (ce_at ce_19 105 rfl) rfl rfl ?_
  refine e_pk [0, 1] rfl rfl ?_
  exact tscp_tail_224 H w d hd hc_23 hc_32 _ _ _
theorem fscp_tail_223 (v1 : Int) (s : iS) : Fm (fun r : (Int × iS) ⊕ (iS) => r.elim (fun l => l.2) (fun e => e)) L_scp_tail G_scp_tail s (scp_tail_223 v1 s) := fscp_tail_224 _ _ _
noncomputable def scp_tail_195b (v1 : Int) (s : iS) : Option ((Int × iS) ⊕ (iS)) := gd (rg v1) (if 40 ≤ v1 then some (.inr s) else if v1 = 11 then scp_tail_219 v1 s else if v1 < 13 then scp_tail_223 v1 s else if 20 < v1 then scp_tail_223 v1 s else scp_tail_219 v1 s)
theorem tscp_tail_195b (H : iS → List am_C) (w : ev_W) (d : Nat) (hd : 0 ≤ d) (hc_23 : Ho H 23 5 [some 24, some 27, some 30, some 31, some 32, some 33, some 36, some 37, some 38, some 39, some 40, none, none, none, none, none]) (hc_32 : Ha H 32 0 100) (v1 : Int) (s : iS) : Ew H w d 19 195 [(0, .ref (tb_nK + 23)), (1, iv v1)] [] s (scp_tail_195C H w d) (scp_tail_195b v1 s) := by
  unfold scp_tail_195b
  refine e_mv 196 em_19 (ce_at ce_19 91 rfl) rfl rfl ?_
  refine e_bip 198 em_19 (ce_at ce_19 92 rfl) (by decide) rfl ?_
  refine e_gd fun g1 => ?_
  refine e_cmge 250 201 em_19 rfl rfl (ce_at ce_19 93 rfl) g1 (by decide) (fun h2 => ?_) (fun h2 => ?_)
  · refine e_pk [] rfl rfl ?_
    exact e_out (fun r h => h)
  · refine e_mv 202 em_19 (ce_at ce_19 94 rfl) rfl rfl ?_
    refine e_bip 204 em_19 (ce_at ce_19 95 rfl) (by decide) rfl ?_
    refine e_cmeq 219 207 em_19 rfl rfl (ce_at ce_19 96 rfl) g1 (by decide) (fun h3 => ?_) (fun h3 => ?_)
    · refine e_pk [0, 1] rfl rfl ?_
      exact tscp_tail_219 H w d hd hc_23 hc_32 _ _
    · refine e_mv 208 em_19 (ce_at ce_19 97 rfl) rfl rfl ?_
      refine e_bip 210 em_19 (ce_at ce_19 98 rfl) (by decide) rfl ?_
      refine e_cmlt 223 213 em_19 rfl rfl (ce_at ce_19 99 rfl) g1 (by decide) (fun h4 => ?_) (fun h4 => ?_)
      · refine e_pk [0, 1] rfl rfl ?_
        exact tscp_tail_223 H w d hd hc_23 hc_32 _ _
      · refine e_mv 214 em_19 (ce_at ce_19 100 rfl) rfl rfl ?_
        refine e_bip 216 em_19 (ce_at ce_19 101 rfl) (by decide) rfl ?_
        refine e_cmgt 223 219 em_19 rfl rfl (ce_at ce_19 102 rfl) g1 (by decide) (fun h5 => ?_) (fun h5 => ?_)
        · refine e_pk [0, 1] rfl rfl ?_
          exact tscp_tail_223 H w d hd hc_23 hc_32 _ _
        · refine e_pk [0, 1] rfl rfl ?_
          exact tscp_tail_219 H w d hd hc_23 hc_32 _ _
theorem fscp_tail_195b (v1 : Int) (s : iS) : Fm (fun r : (Int × iS) ⊕ (iS) => r.elim (fun l => l.2) (fun e => e)) L_scp_tail G_scp_tail s (scp_tail_195b v1 s) := fm_gd (fm_if (fm_some md_refl) (fm_if (fscp_tail_219 _ _) (fm_if (fscp_tail_223 _ _) (fm_if (fscp_tail_223 _ _) (fscp_tail_219 _ _)))))
noncomputable def scp_tail_195 (v1 : Int) (s : iS) : Option (Int × iS) := (lp (L := Int × iS) (E := iS) (fun l => scp_tail_195b (l.1) (l.2)) (v1, s)).bind (fun e => some (0, e))
theorem tscp_tail_195 (H : iS → List am_C) (w : ev_W) (d : Nat) (hd : 0 ≤ d) (hc_23 : Ho H 23 5 [some 24, some 27, some 30, some 31, some 32, some 33, some 36, some 37, some 38, some 39, some 40, none, none, none, none, none]) (hc_32 : Ha H 32 0 100) (v1 : Int) (s : iS) : Ew H w d 19 195 [(0, .ref (tb_nK + 23)), (1, iv v1)] [] s (Cv H) (scp_tail_195 v1 s) := by
  unfold scp_tail_195
  refine e_lp (LO := fun l => [(0, .ref (tb_nK + 23)), (1, iv (l.1))]) (LS := fun l => l.2) (CE := fun e r => ev w d 19 250 [] [] (H (e)) r) (fun l => tscp_tail_195b H w d hd hc_23 hc_32 _ _) ?_ (v1, s)
  intro e
  show Ew H w d 19 250 [] [] e (Cv H) _
  exact e_retv em_19 (ce_at ce_19 118 rfl)
theorem fscp_tail_195 (v1 : Int) (s : iS) : Fm Prod.snd L_scp_tail G_scp_tail s (scp_tail_195 v1 s) := fm_lp (LS := fun l => l.2) (LE := fun e => e) (fun l => fscp_tail_195b _ _) (fun e => fm_some md_refl) (v1, s)
noncomputable def scp_tail_193 (s : iS) : Option (Int × iS) := scp_tail_195 0 s
theorem tscp_tail_193 (H : iS → List am_C) (w : ev_W) (d : Nat) (hd : 0 ≤ d) (hc_23 : Ho H 23 5 [some 24, some 27, some 30, some 31, some 32, some 33, some 36, some 37, some 38, some 39, some 40, none, none, none, none, none]) (hc_32 : Ha H 32 0 100) (s : iS) : Ew H w d 19 193 [(0, .ref (tb_nK + 23))] [] s (Cv H) (scp_tail_193 s) := by
  unfold scp_tail_193
  refine e_op 194 em_19 (ce_at ce_19 89 rfl) rfl rfl ?_
  refine e_mv 195 em_19 (ce_at ce_19 90 rfl) rfl rfl ?_
  refine e_pk [0, 1] rfl rfl ?_
  exact tscp_tail_195 H w d hd hc_23 hc_32 _ _
theorem fscp_tail_193 (s : iS) : Fm Prod.snd L_scp_tail G_scp_tail s (scp_tail_193 s) := fscp_tail_195 _ _
/-! crd_tail -/
def L_crd_tail : List Nat := [76, 77]
def G_crd_tail : List (Nat × Nat) := []
noncomputable def crd_tail_132 (s : iS) : Option (Int × iS) := lt' (up s 76 1 3) (fun s1 => lt' (up s1 76 2 5) (fun s2 => lt' (up s2 77 0 2) (fun s3 => lt' (up s3 77 1 4) (fun s4 => some (0, s4)))))
theorem tcrd_tail_132 (H : iS → List am_C) (w : ev_W) (d : Nat) (hd : 0 ≤ d) (hc_71 : Ho H 71 10 [some 2, some 72, some 75, some 76, some 77, some 78, some 79, some 82, some 83, some 84, some 85, some 86, some 87, none, none]) (hc_76 : Ha H 76 0 19) (hc_77 : Ha H 77 0 18) (s : iS) : Ew H w d 26 132 [(0, .ref (tb_nK + 71))] [] s (Cv H) (crd_tail_132 s) := by
  unfold crd_tail_132
  refine e_mv 133 em_26 (ce_at ce_26 62 rfl) rfl rfl ?_
  refine e_getr 136 em_26 (ce_at ce_26 63 rfl) hc_71 rfl rfl ?_
  refine e_op 137 em_26 (ce_at ce_26 64 rfl) rfl rfl ?_
  refine e_op 138 em_26 (ce_at ce_26 65 rfl) rfl rfl ?_
  refine e_ist 139 em_26 (ce_at ce_26 66 rfl) hc_76 (by decide) (by decide) rfl (fun s1 => ?_)
  refine e_mv 140 em_26 (ce_at ce_26 67 rfl) rfl rfl ?_
  refine e_getr 143 em_26 (ce_at ce_26 68 rfl) hc_71 rfl rfl ?_
  refine e_op 144 em_26 (ce_at ce_26 69 rfl) rfl rfl ?_
  refine e_op 145 em_26 (ce_at ce_26 70 rfl) rfl rfl ?_
  refine e_ist 146 em_26 (ce_at ce_26 71 rfl) hc_76 (by decide) (by decide) rfl (fun s2 => ?_)
  refine e_mv 147 em_26 (ce_at ce_26 72 rfl) rfl rfl ?_
  refine e_getr 150 em_26 (ce_at ce_26 73 rfl) hc_71 rfl rfl ?_
  refine e_op 151 em_26 (ce_at ce_26 74 rfl) rfl rfl ?_
  refine e_op 152 em_26 (ce_at ce_26 75 rfl) rfl rfl ?_
  refine e_ist 153 em_26 (ce_at ce_26 76 rfl) hc_77 (by decide) (by decide) rfl (fun s3 => ?_)
  refine e_mv 154 em_26 (ce_at ce_26 77 rfl) rfl rfl ?_
  refine e_getr 157 em_26 (ce_at ce_26 78 rfl) hc_71 rfl rfl ?_
  refine e_op 158 em_26 (ce_at ce_26 79 rfl) rfl rfl ?_
  refine e_op 159 em_26 (ce_at ce_26 80 rfl) rfl rfl ?_
  refine e_ist 160 em_26 (ce_at ce_26 81 rfl) hc_77 (by decide) (by decide) rfl (fun s4 => ?_)
  exact e_retv em_26 (ce_at ce_26 82 rfl)
theorem fcrd_tail_132 (s : iS) : Fm Prod.snd L_crd_tail G_crd_tail s (crd_tail_132 s) := fm_lt (md_upL (mem_L rfl)) (fun s1 => fm_lt (md_upL (mem_L rfl)) (fun s2 => fm_lt (md_upL (mem_L rfl)) (fun s3 => fm_lt (md_upL (mem_L rfl)) (fun s4 => fm_some md_refl))))
/-! cck_tail -/
def L_cck_tail : List Nat := [91, 92, 93]
def G_cck_tail : List (Nat × Nat) := []
def cck_tail_150C (H : iS → List am_C) (w : ev_W) (d : Nat) : (Int × iS) ⊕ (iS) → am_E → Prop := fun q r => q.elim (fun l => ev w d 27 150 ((fun l => [(0, .ref (tb_nK + 90)), (3, iv (l.1))]) l) [] (H ((fun l => l.2) l)) r) (fun e => (fun e r => ev w d 27 186 [(0, .ref (tb_nK + 90))] [] (H (e)) r) e r)
noncomputable def cck_tail_178 (v3 : Int) (t0 : Int) (t1 : Int) (t2 : Int) (s : iS) : Option ((Int × iS) ⊕ (iS)) := gd (0 ≤ t2 ∧ t2 < 197) (lt' (up s 92 t2.toNat (t1 - t0)) (fun s2 => some (.inl ((v3 + 1), s2))))
theorem tcck_tail_178 (H : iS → List am_C) (w : ev_W) (d : Nat) (hd : 0 ≤ d) (hc_90 : Ho H 90 11 [some 2, some 71, some 91, some 92, some 93, some 94, some 95, some 96, some 97, some 98, some 99, some 102, some 103, some 104, some 105, some 106, some 107]) (hc_91 : Ha H 91 0 197) (hc_92 : Ha H 92 0 197) (hc_93 : Ha H 93 0 18) (v3 : Int) (t0 : Int) (t1 : Int) (t2 : Int) (s : iS) : Ew H w d 27 178 [(0, .ref (tb_nK + 90)), (3, iv v3)] [iv t0, iv t1, iv t2, .ref (tb_nK + 92)] s (cck_tail_150C H w d) (cck_tail_178 v3 t0 t1 t2 s) := by
  unfold cck_tail_178
  refine e_isub 179 em_27 rfl (ce_at ce_27 91 rfl) ?_
  refine e_gd fun g1 => ?_
  refine e_ist 180 em_27 (ce_at ce_27 92 rfl) hc_92 (by decide) g1 rfl (fun s2 => ?_)
  refine e_iinc 183 em_27 (ce_at ce_27 93 rfl) rfl (by decide) rfl ?_
  refine e_goto em_27 150 (ce_at ce_27 94 rfl) rfl ?_
  refine e_pk [0, 3] rfl rfl ?_
  exact e_out (fun r h => h)
theorem fcck_tail_178 (v3 : Int) (t0 : Int) (t1 : Int) (t2 : Int) (s : iS) : Fm (fun r : (Int × iS) ⊕ (iS) => r.elim (fun l => l.2) (fun e => e)) L_cck_tail G_cck_tail s (cck_tail_178 v3 t0 t1 t2 s) := fm_gd (fm_lt (md_upL (mem_L rfl)) (fun s2 => fm_some md_refl))
noncomputable def cck_tail_150b (v3 : Int) (s : iS) : Option ((Int × iS) ⊕ (iS)) := gd (rg v3) (if 5 ≤ v3 then some (.inr s) else gd (0 ≤ v3 ∧ v3 < 197) (lt' (up s 91 v3.toNat 1) (fun s4 => if 3 ≤ v3 then cck_tail_178 v3 3 v3 v3 s4 else cck_tail_178 v3 0 v3 v3 s4)))
theorem tcck_tail_150b (H : iS → List am_C) (w : ev_W) (d : Nat) (hd : 0 ≤ d) (hc_90 : Ho H 90 11 [some 2, some 71, some 91, some 92, some 93, some 94, some 95, some 96, some 97, some 98, some 99, some 102, some 103, some 104, some 105, some 106, some 107]) (hc_91 : Ha H 91 0 197) (hc_92 : Ha H 92 0 197) (hc_93 : Ha H 93 0 18) (v3 : Int) (s : iS) : Ew H w d 27 150 [(0, .ref (tb_nK + 90)), (3, iv v3)] [] s (cck_tail_150C H w d) (cck_tail_150b v3 s) := by
  unfold cck_tail_150b
  refine e_mv 151 em_27 (ce_at ce_27 73 rfl) rfl rfl ?_
  refine e_op 152 em_27 (ce_at ce_27 74 rfl) rfl rfl ?_
  refine e_gd fun g1 => ?_
  refine e_cmge 186 155 em_27 rfl rfl (ce_at ce_27 75 rfl) g1 (by decide) (fun h2 => ?_) (fun h2 => ?_)
  · refine e_pk [0] rfl rfl ?_
    exact e_out (fun r h => h)
  · refine e_mv 156 em_27 (ce_at ce_27 76 rfl) rfl rfl ?_
    refine e_getr 159 em_27 (ce_at ce_27 77 rfl) hc_90 rfl rfl ?_
    refine e_mv 160 em_27 (ce_at ce_27 78 rfl) rfl rfl ?_
    refine e_op 161 em_27 (ce_at ce_27 79 rfl) rfl rfl ?_
    refine e_gd fun g3 => ?_
    refine e_ist 162 em_27 (ce_at ce_27 80 rfl) hc_91 (by decide) g3 rfl (fun s4 => ?_)
    refine e_mv 163 em_27 (ce_at ce_27 81 rfl) rfl rfl ?_
    refine e_getr 166 em_27 (ce_at ce_27 82 rfl) hc_90 rfl rfl ?_
    refine e_mv 167 em_27 (ce_at ce_27 83 rfl) rfl rfl ?_
    refine e_mv 168 em_27 (ce_at ce_27 84 rfl) rfl rfl ?_
    refine e_mv 169 em_27 (ce_at ce_27 85 rfl) rfl rfl ?_
    refine e_op 170 em_27 (ce_at ce_27 86 rfl) rfl rfl ?_
    refine e_cmge 177 173 em_27 rfl rfl (ce_at ce_27 87 rfl) g1 (by decide) (fun h5 => ?_) (fun h5 => ?_)
    · refine e_op 178 em_27 (ce_at ce_27 90 rfl) rfl rfl ?_
      refine e_pk [0, 3] rfl rfl ?_
      exact tcck_tail_178 H w d hd hc_90 hc_91 hc_92 hc_93 _ _ _ _ _
    · refine e_op 174 em_27 (ce_at ce_27 88 rfl) rfl rfl ?_
      refine e_goto em_27 178 (ce_at ce_27 89 rfl) rfl ?_
      refine e_pk [0, 3] rfl rfl ?_
      exact tcck_tail_178 H w d hd hc_90 hc_91 hc_92 hc_93 _ _ _ _ _
theorem fcck_tail_150b (v3 : Int) (s : iS) : Fm (fun r : (Int × iS) ⊕ (iS) => r.elim (fun l => l.2) (fun e => e)) L_cck_tail G_cck_tail s (cck_tail_150b v3 s) := fm_gd (fm_if (fm_some md_refl) (fm_gd (fm_lt (md_upL (mem_L rfl)) (fun s4 => fm_if (fcck_tail_178 _ _ _ _ _) (fcck_tail_178 _ _ _ _ _)))))
noncomputable def cck_tail_186 (s : iS) : Option (Int × iS) := lt' (up s 93 0 3) (fun s1 => lt' (up s1 93 1 2) (fun s2 => some (0, s2)))
theorem tcck_tail_186 (H : iS → List am_C) (w : ev_W) (d : Nat) (hd : 0 ≤ d) (hc_90 : Ho H 90 11 [some 2, some 71, some 91, some 92, some 93, some 94, some 95, some 96, some 97, some 98, some 99, some 102, some 103, some 104, some 105, some 106, some 107]) (hc_91 : Ha H 91 0 197) (hc_92 : Ha H 92 0 197) (hc_93 : Ha H 93 0 18) (s : iS) : Ew H w d 27 186 [(0, .ref (tb_nK + 90))] [] s (Cv H) (cck_tail_186 s) := by
  unfold cck_tail_186
  refine e_mv 187 em_27 (ce_at ce_27 95 rfl) rfl rfl ?_
  refine e_getr 190 em_27 (ce_at ce_27 96 rfl) hc_90 rfl rfl ?_
  refine e_op 191 em_27 (ce_at ce_27 97 rfl) rfl rfl ?_
  refine e_op 192 em_27 (ce_at ce_27 98 rfl) rfl rfl ?_
  refine e_ist 193 em_27 (ce_at ce_27 99 rfl) hc_93 (by decide) (by decide) rfl (fun s1 => ?_)
  refine e_mv 194 em_27 (ce_at ce_27 100 rfl) rfl rfl ?_
  refine e_getr 197 em_27 (ce_at ce_27 101 rfl) hc_90 rfl rfl ?_
  refine e_op 198 em_27 (ce_at ce_27 102 rfl) rfl rfl ?_
  refine e_op 199 em_27 (ce_at ce_27 103 rfl) rfl rfl ?_
  refine e_ist 200 em_27 (ce_at ce_27 104 rfl) hc_93 (by decide) (by decide) rfl (fun s2 => ?_)
  exact e_retv em_27 (ce_at ce_27 105 rfl)
theorem fcck_tail_186 (s : iS) : Fm Prod.snd L_cck_tail G_cck_tail s (cck_tail_186 s) := fm_lt (md_upL (mem_L rfl)) (fun s1 => fm_lt (md_upL (mem_L rfl)) (fun s2 => fm_some md_refl))
noncomputable def cck_tail_150 (v3 : Int) (s : iS) : Option (Int × iS) := (lp (L := Int × iS) (E := iS) (fun l => cck_tail_150b (l.1) (l.2)) (v3, s)).bind (fun e => cck_tail_186 e)
theorem tcck_tail_150 (H : iS → List am_C) (w : ev_W) (d : Nat) (hd : 0 ≤ d) (hc_90 : Ho H 90 11 [some 2, some 71, some 91, some 92, some 93, some 94, some 95, some 96, some 97, some 98, some 99, some 102, some 103, some 104, some 105, some 106, some 107]) (hc_91 : Ha H 91 0 197) (hc_92 : Ha H 92 0 197) (hc_93 : Ha H 93 0 18) (v3 : Int) (s : iS) : Ew H w d 27 150 [(0, .ref (tb_nK + 90)), (3, iv v3)] [] s (Cv H) (cck_tail_150 v3 s) := by
  unfold cck_tail_150
  refine e_lp (LO := fun l => [(0, .ref (tb_nK + 90)), (3, iv (l.1))]) (LS := fun l => l.2) (CE := fun e r => ev w d 27 186 [(0, .ref (tb_nK + 90))] [] (H (e)) r) (fun l => tcck_tail_150b H w d hd hc_90 hc_91 hc_92 hc_93 _ _) ?_ (v3, s)
  intro e
  show Ew H w d 27 186 [(0, .ref (tb_nK + 90))] [] e (Cv H) _
  refine e_pk [0] rfl rfl ?_
  exact tcck_tail_186 H w d hd hc_90 hc_91 hc_92 hc_93 _
theorem fcck_tail_150 (v3 : Int) (s : iS) : Fm Prod.snd L_cck_tail G_cck_tail s (cck_tail_150 v3 s) := fm_lp (LS := fun l => l.2) (LE := fun e => e) (fun l => fcck_tail_150b _ _) (fun e => fcck_tail_186 _) (v3, s)
noncomputable def cck_tail_148 (s : iS) : Option (Int × iS) := cck_tail_150 0 s
theorem tcck_tail_148 (H : iS → List am_C) (w : ev_W) (d : Nat) (hd : 0 ≤ d) (hc_90 : Ho H 90 11 [some 2, some 71, some 91, some 92, some 93, some 94, some 95, some 96, some 97, some 98, some 99, some 102, some 103, some 104, some 105, some 106, some 107]) (hc_91 : Ha H 91 0 197) (hc_92 : Ha H 92 0 197) (hc_93 : Ha H 93 0 18) (s : iS) : Ew H w d 27 148 [(0, .ref (tb_nK + 90))] [] s (Cv H) (cck_tail_148 s) := by
  unfold cck_tail_148
  refine e_op 149 em_27 (ce_at ce_27 71 rfl) rfl rfl ?_
  refine e_mv 150 em_27 (ce_at ce_27 72 rfl) rfl rfl ?_
  refine e_pk [0, 3] rfl rfl ?_
  exact tcck_tail_150 H w d hd hc_90 hc_91 hc_92 hc_93 _ _
theorem fcck_tail_148 (s : iS) : Fm Prod.snd L_cck_tail G_cck_tail s (cck_tail_148 s) := fcck_tail_150 _ _
/-! str_coder_v3 -/
def L_str_coder_v3 : List Nat := []
def G_str_coder_v3 : List (Nat × Nat) := []
noncomputable def str_coder_v3 (n0 : Nat) (g0 : Nat → Int32) (s : iS) : Option (Int × iS) := some (0, s)
theorem tstr_coder_v3 (H : iS → List am_C) (w : ev_W) (d : Nat) (hd : 0 ≤ d) (n0 : Nat) (g0 : Nat → Int32) (r0 : Nat) (h_r0 : r0 < tb_nK) (fl_r0 : List Value) (hf_r0 : tb_KF[r0]? = some fl_r0) (b0 : Nat) (h0_r0 : fl_r0[0]? = some (.ref b0)) (h1_r0 : fl_r0[1]? = some (iv 0)) (ho_r0 : tb_KO[r0]? = some "java/lang/String") (h_b0 : b0 < tb_nK) (hk_b0 : (tb_KT w.2.1 w.2.2)[b0]? = some (.byte, n0, g0)) (hl_n0 : n0 < 2147483648) (s : iS) : Ew H w d 5 0 [(0, .ref r0)] [] s (Ci H) (str_coder_v3 n0 g0 s) := by
  unfold str_coder_v3
  refine e_gst 3 em_5 (ce_at ce_5 0 rfl) rfl rfl ?_
  refine e_jF 6 em_5 (ce_at ce_5 1 rfl) rfl rfl ?_
  refine e_mv 7 em_5 (ce_at ce_5 2 rfl) rfl rfl ?_
  refine e_getk 10 em_5 (ce_at ce_5 3 rfl) h_r0 hf_r0 h1_r0 rfl ?_
  refine e_goto em_5 14 (ce_at ce_5 4 rfl) rfl ?_
  exact e_retb em_5 (ce_at ce_5 6 rfl) (by decide)
theorem fstr_coder_v3 (n0 : Nat) (g0 : Nat → Int32) (s : iS) : Fm Prod.snd L_str_coder_v3 G_str_coder_v3 s (str_coder_v3 n0 g0 s) := fm_some md_refl
/-! str_length_v3 -/
def L_str_length_v3 : List Nat := []
def G_str_length_v3 : List (Nat × Nat) := []
noncomputable def str_length_v3 (n0 : Nat) (g0 : Nat → Int32) (s : iS) : Option (Int × iS) := some ((i_shr (n0 : Int) 0), s)
theorem tstr_length_v3 (H : iS → List am_C) (w : ev_W) (d : Nat) (hd : 1 ≤ d) (n0 : Nat) (g0 : Nat → Int32) (r0 : Nat) (h_r0 : r0 < tb_nK) (fl_r0 : List Value) (hf_r0 : tb_KF[r0]? = some fl_r0) (b0 : Nat) (h0_r0 : fl_r0[0]? = some (.ref b0)) (h1_r0 : fl_r0[1]? = some (iv 0)) (ho_r0 : tb_KO[r0]? = some "java/lang/String") (h_b0 : b0 < tb_nK) (hk_b0 : (tb_KT w.2.1 w.2.2)[b0]? = some (.byte, n0, g0)) (hl_n0 : n0 < 2147483648) (s : iS) : Ew H w d 4 0 [(0, .ref r0)] [] s (Ci H) (str_length_v3 n0 g0 s) := by
  unfold str_length_v3
  refine e_mv 1 em_4 (ce_at ce_4 0 rfl) rfl rfl ?_
  refine e_getk 4 em_4 (ce_at ce_4 1 rfl) h_r0 hf_r0 h0_r0 rfl ?_
  refine e_alenk 5 em_4 (ce_at ce_4 2 rfl) h_b0 hk_b0 (by decide) rfl rfl ?_
  refine e_mv 6 em_4 (ce_at ce_4 3 rfl) rfl rfl ?_
  refine e_ivc 9 em_4 (ce_at ce_4 4 rfl) (by omega) (iv_k0 h_r0 ho_r0 rfl) em_5 (Nat.le_of_ble_eq_true rfl) rfl (tstr_coder_v3 H w (d - 1) (by omega) n0 g0 r0 h_r0 fl_r0 hf_r0 b0 h0_r0 h1_r0 ho_r0 h_b0 hk_b0 hl_n0 _) (x := 0) rfl ?_
  refine e_ishr 10 em_4 rfl (ce_at ce_4 5 rfl) ?_
  exact e_reti em_4 (ce_at ce_4 6 rfl)
theorem fstr_length_v3 (n0 : Nat) (g0 : Nat → Int32) (s : iS) : Fm Prod.snd L_str_length_v3 G_str_length_v3 s (str_length_v3 n0 g0 s) := fm_some md_refl
/-! str_isLatin1_v3 -/
def L_str_isLatin1_v3 : List Nat := []
def G_str_isLatin1_v3 : List (Nat × Nat) := []
noncomputable def str_isLatin1_v3 (n0 : Nat) (g0 : Nat → Int32) (s : iS) : Option (Int × iS) := some (1, s)
theorem tstr_isLatin1_v3 (H : iS → List am_C) (w : ev_W) (d : Nat) (hd : 0 ≤ d) (n0 : Nat) (g0 : Nat → Int32) (r0 : Nat) (h_r0 : r0 < tb_nK) (fl_r0 : List Value) (hf_r0 : tb_KF[r0]? = some fl_r0) (b0 : Nat) (h0_r0 : fl_r0[0]? = some (.ref b0)) (h1_r0 : fl_r0[1]? = some (iv 0)) (ho_r0 : tb_KO[r0]? = some "java/lang/String") (h_b0 : b0 < tb_nK) (hk_b0 : (tb_KT w.2.1 w.2.2)[b0]? = some (.byte, n0, g0)) (hl_n0 : n0 < 2147483648) (s : iS) : Ew H w d 7 0 [(0, .ref r0)] [] s (Ci H) (str_isLatin1_v3 n0 g0 s) := by
  unfold str_isLatin1_v3
  refine e_gst 3 em_7 (ce_at ce_7 0 rfl) rfl rfl ?_
  refine e_jF 6 em_7 (ce_at ce_7 1 rfl) rfl rfl ?_
  refine e_mv 7 em_7 (ce_at ce_7 2 rfl) rfl rfl ?_
  refine e_getk 10 em_7 (ce_at ce_7 3 rfl) h_r0 hf_r0 h1_r0 rfl ?_
  refine e_jF 13 em_7 (ce_at ce_7 4 rfl) rfl rfl ?_
  refine e_op 14 em_7 (ce_at ce_7 5 rfl) rfl rfl ?_
  refine e_goto em_7 18 (ce_at ce_7 6 rfl) rfl ?_
  exact e_retz em_7 (ce_at ce_7 8 rfl) (by decide)
theorem fstr_isLatin1_v3 (n0 : Nat) (g0 : Nat → Int32) (s : iS) : Fm Prod.snd L_str_isLatin1_v3 G_str_isLatin1_v3 s (str_isLatin1_v3 n0 g0 s) := fm_some md_refl
/-! jdk_internal_util_Preconditions_checkIndex -/
def L_jdk_internal_util_Preconditions_checkIndex : List Nat := []
def G_jdk_internal_util_Preconditions_checkIndex : List (Nat × Nat) := []
noncomputable def jdk_internal_util_Preconditions_checkIndex_9 (v0 : Int) (v1 : Int) (s : iS) : Option (Int × iS) := none
theorem tjdk_internal_util_Preconditions_checkIndex_9 (H : iS → List am_C) (w : ev_W) (d : Nat) (hd : 0 ≤ d) (v0 : Int) (v1 : Int) (s : iS) : Ew H w d 10 9 [(0, iv v0), (1, iv v1), (2, w.1)] [] s (Ci H) (jdk_internal_util_Preconditions_checkIndex_9 v0 v1 s) := by
  unfold jdk_internal_util_Preconditions_checkIndex_9
  refine e_mv 10 em_10 (ce_at ce_10 5 rfl) rfl rfl ?_
  refine e_mv 11 em_10 (ce_at ce_10 6 rfl) rfl rfl ?_
  refine e_mv 12 em_10 (ce_at ce_10 7 rfl) rfl rfl ?_
  exact e_none
theorem fjdk_internal_util_Preconditions_checkIndex_9 (v0 : Int) (v1 : Int) (s : iS) : Fm Prod.snd L_jdk_internal_util_Preconditions_checkIndex G_jdk_internal_util_Preconditions_checkIndex s (jdk_internal_util_Preconditions_checkIndex_9 v0 v1 s) := fm_none
noncomputable def jdk_internal_util_Preconditions_checkIndex (v0 : Int) (v1 : Int) (s : iS) : Option (Int × iS) := gd (rg v0) (if v0 < 0 then jdk_internal_util_Preconditions_checkIndex_9 v0 v1 s else gd (rg v1) (if v0 < v1 then some (v0, s) else jdk_internal_util_Preconditions_checkIndex_9 v0 v1 s))
theorem tjdk_internal_util_Preconditions_checkIndex (H : iS → List am_C) (w : ev_W) (d : Nat) (hd : 0 ≤ d) (v0 : Int) (v1 : Int) (s : iS) : Ew H w d 10 0 [(0, iv v0), (1, iv v1), (2, w.1)] [] s (Ci H) (jdk_internal_util_Preconditions_checkIndex v0 v1 s) := by
  unfold jdk_internal_util_Preconditions_checkIndex
  refine e_mv 1 em_10 (ce_at ce_10 0 rfl) rfl rfl ?_
  refine e_gd fun g1 => ?_
  refine e_iflt 9 4 em_10 rfl rfl (ce_at ce_10 1 rfl) g1 (fun h2 => ?_) (fun h2 => ?_)
  · refine e_pk [0, 1, 2] rfl rfl ?_
    exact tjdk_internal_util_Preconditions_checkIndex_9 H w d hd _ _ _
  · refine e_mv 5 em_10 (ce_at ce_10 2 rfl) rfl rfl ?_
    refine e_mv 6 em_10 (ce_at ce_10 3 rfl) rfl rfl ?_
    refine e_gd fun g3 => ?_
    refine e_cmlt 16 9 em_10 rfl rfl (ce_at ce_10 4 rfl) g1 g3 (fun h4 => ?_) (fun h4 => ?_)
    · refine e_mv 17 em_10 (ce_at ce_10 8 rfl) rfl rfl ?_
      exact e_reti em_10 (ce_at ce_10 9 rfl)
    · refine e_pk [0, 1, 2] rfl rfl ?_
      exact tjdk_internal_util_Preconditions_checkIndex_9 H w d hd _ _ _
theorem fjdk_internal_util_Preconditions_checkIndex (v0 : Int) (v1 : Int) (s : iS) : Fm Prod.snd L_jdk_internal_util_Preconditions_checkIndex G_jdk_internal_util_Preconditions_checkIndex s (jdk_internal_util_Preconditions_checkIndex v0 v1 s) := fm_gd (fm_if (fjdk_internal_util_Preconditions_checkIndex_9 _ _ _) (fm_gd (fm_if (fm_some md_refl) (fjdk_internal_util_Preconditions_checkIndex_9 _ _ _))))
/-! str_checkIndex -/
def L_str_checkIndex : List Nat := []
def G_str_checkIndex : List (Nat × Nat) := []
noncomputable def str_checkIndex (v0 : Int) (v1 : Int) (s : iS) : Option (Int × iS) := bd (jdk_internal_util_Preconditions_checkIndex v0 v1 s) (fun r1 s1 => some (0, s1))
theorem tstr_checkIndex (H : iS → List am_C) (w : ev_W) (d : Nat) (hd : 1 ≤ d) (v0 : Int) (v1 : Int) (s : iS) : Ew H w d 9 0 [(0, iv v0), (1, iv v1)] [] s (Cv H) (str_checkIndex v0 v1 s) := by
  unfold str_checkIndex
  refine e_mv 1 em_9 (ce_at ce_9 0 rfl) rfl rfl ?_
  refine e_mv 2 em_9 (ce_at ce_9 1 rfl) rfl rfl ?_
  refine e_gst 5 em_9 (ce_at ce_9 2 rfl) rfl rfl ?_
  refine e_ivi 8 em_9 (ce_at ce_9 3 rfl) (by omega) (iv_s3 rfl) em_10 (Nat.le_of_ble_eq_true rfl) rfl (tjdk_internal_util_Preconditions_checkIndex H w (d - 1) (by omega) _ _ _) (fun r1 s1 => ?_)
  refine e_op 9 em_9 (ce_at ce_9 4 rfl) rfl rfl ?_
  exact e_retv em_9 (ce_at ce_9 5 rfl)
theorem fstr_checkIndex (v0 : Int) (v1 : Int) (s : iS) : Fm Prod.snd L_str_checkIndex G_str_checkIndex s (str_checkIndex v0 v1 s) := fm_bd (fm_sub (fjdk_internal_util_Preconditions_checkIndex _ _ _) (mem_sub_L rfl) (mem_sub_F rfl)) (fun r1 s1 => fm_some md_refl)
/-! sl1_charAt -/
def L_sl1_charAt : List Nat := []
def G_sl1_charAt : List (Nat × Nat) := []
noncomputable def sl1_charAt (n0 : Nat) (g0 : Nat → Int32) (v1 : Int) (s : iS) : Option (Int × iS) := bd (str_checkIndex v1 (n0 : Int) s) (fun _ s1 => gd (0 ≤ v1 ∧ v1 < (n0 : Int)) (gd (0 ≤ (i_c (i_and ((g0 v1.toNat).toInt) 255)) ∧ (i_c (i_and ((g0 v1.toNat).toInt) 255)) < 65536) (some ((i_c (i_and ((g0 v1.toNat).toInt) 255)), s1))))
theorem tsl1_charAt (H : iS → List am_C) (w : ev_W) (d : Nat) (hd : 2 ≤ d) (n0 : Nat) (g0 : Nat → Int32) (b0 : Nat) (h_b0 : b0 < tb_nK) (hk_b0 : (tb_KT w.2.1 w.2.2)[b0]? = some (.byte, n0, g0)) (hl_n0 : n0 < 2147483648) (v1 : Int) (s : iS) : Ew H w d 8 0 [(0, .ref b0), (1, iv v1)] [] s (Ci H) (sl1_charAt n0 g0 v1 s) := by
  unfold sl1_charAt
  refine e_mv 1 em_8 (ce_at ce_8 0 rfl) rfl rfl ?_
  refine e_mv 2 em_8 (ce_at ce_8 1 rfl) rfl rfl ?_
  refine e_alenk 3 em_8 (ce_at ce_8 2 rfl) h_b0 hk_b0 (by decide) rfl rfl ?_
  refine e_ivv 6 em_8 (ce_at ce_8 3 rfl) (by omega) (iv_s2 rfl) em_9 (Nat.le_of_ble_eq_true rfl) rfl (tstr_checkIndex H w (d - 1) (by omega) _ _ _) (fun r1 s1 => ?_)
  refine e_mv 7 em_8 (ce_at ce_8 4 rfl) rfl rfl ?_
  refine e_mv 8 em_8 (ce_at ce_8 5 rfl) rfl rfl ?_
  refine e_gd fun g2 => ?_
  refine e_bldk 9 em_8 (ce_at ce_8 6 rfl) h_b0 hk_b0 hl_n0 g2 rfl ?_
  refine e_sip 12 em_8 (ce_at ce_8 7 rfl) (by decide) rfl ?_
  refine e_iand 13 em_8 rfl (ce_at ce_8 8 rfl) ?_
  refine e_i2c 14 em_8 rfl (ce_at ce_8 9 rfl) ?_
  refine e_gd fun g3 => ?_
  exact e_retc em_8 (ce_at ce_8 10 rfl) g3
theorem fsl1_charAt (n0 : Nat) (g0 : Nat → Int32) (v1 : Int) (s : iS) : Fm Prod.snd L_sl1_charAt G_sl1_charAt s (sl1_charAt n0 g0 v1 s) := fm_bd (fm_sub (fstr_checkIndex _ _ _) (mem_sub_L rfl) (mem_sub_F rfl)) (fun r1 s1 => fm_gd (fm_gd (fm_some md_refl)))
/-! str_charAt -/
def L_str_charAt : List Nat := []
def G_str_charAt : List (Nat × Nat) := []
noncomputable def str_charAt (n0 : Nat) (g0 : Nat → Int32) (v1 : Int) (s : iS) : Option (Int × iS) := bd (sl1_charAt n0 g0 v1 s) (fun r2 s2 => gd (0 ≤ r2 ∧ r2 < 65536) (some (r2, s2)))
theorem tstr_charAt (H : iS → List am_C) (w : ev_W) (d : Nat) (hd : 3 ≤ d) (n0 : Nat) (g0 : Nat → Int32) (r0 : Nat) (h_r0 : r0 < tb_nK) (fl_r0 : List Value) (hf_r0 : tb_KF[r0]? = some fl_r0) (b0 : Nat) (h0_r0 : fl_r0[0]? = some (.ref b0)) (h1_r0 : fl_r0[1]? = some (iv 0)) (ho_r0 : tb_KO[r0]? = some "java/lang/String") (h_b0 : b0 < tb_nK) (hk_b0 : (tb_KT w.2.1 w.2.2)[b0]? = some (.byte, n0, g0)) (hl_n0 : n0 < 2147483648) (v1 : Int) (s : iS) : Ew H w d 6 0 [(0, .ref r0), (1, iv v1)] [] s (Ci H) (str_charAt n0 g0 v1 s) := by
  unfold str_charAt
  refine e_mv 1 em_6 (ce_at ce_6 0 rfl) rfl rfl ?_
  refine e_ivc 4 em_6 (ce_at ce_6 1 rfl) (by omega) (iv_k0 h_r0 ho_r0 rfl) em_7 (Nat.le_of_ble_eq_true rfl) rfl (tstr_isLatin1_v3 H w (d - 1) (by omega) n0 g0 r0 h_r0 fl_r0 hf_r0 b0 h0_r0 h1_r0 ho_r0 h_b0 hk_b0 hl_n0 _) (x := 1) rfl ?_
  refine e_jF 7 em_6 (ce_at ce_6 2 rfl) rfl rfl ?_
  refine e_mv 8 em_6 (ce_at ce_6 3 rfl) rfl rfl ?_
  refine e_getk 11 em_6 (ce_at ce_6 4 rfl) h_r0 hf_r0 h0_r0 rfl ?_
  refine e_mv 12 em_6 (ce_at ce_6 5 rfl) rfl rfl ?_
  refine e_ivi 15 em_6 (ce_at ce_6 6 rfl) (by omega) (iv_s2 rfl) em_8 (Nat.le_of_ble_eq_true rfl) rfl (tsl1_charAt H w (d - 1) (by omega) n0 g0 b0 h_b0 hk_b0 hl_n0 _ _) (fun r2 s2 => ?_)
  refine e_gd fun g3 => ?_
  exact e_retc em_6 (ce_at ce_6 7 rfl) g3
theorem fstr_charAt (n0 : Nat) (g0 : Nat → Int32) (v1 : Int) (s : iS) : Fm Prod.snd L_str_charAt G_str_charAt s (str_charAt n0 g0 v1 s) := fm_bd (fm_sub (fsl1_charAt n0 g0 _ _) (mem_sub_L rfl) (mem_sub_F rfl)) (fun r2 s2 => fm_gd (fm_some md_refl))
/-! nam_half -/
def L_nam_half : List Nat := []
def G_nam_half : List (Nat × Nat) := []
def nam_half_5C (H : iS → List am_C) (w : ev_W) (d : Nat) (r0 : Nat) (n0 : Nat) (g0 : Nat → Int32) (v1 : Int) (v2 : Int) : (Int × Int × iS) ⊕ (Int × iS) → am_E → Prop := fun q r => q.elim (fun l => ev w d 15 5 ((fun l => [(0, .ref r0), (1, iv v1), (2, iv v2), (3, lv (l.1)), (5, iv (l.2.1))]) l) [] (H ((fun l => l.2.2) l)) r) (fun e => (fun e r => ev w d 15 43 [(3, lv (e.1))] [] (H (e.2)) r) e r)
noncomputable def nam_half_5b (n0 : Nat) (g0 : Nat → Int32) (v1 : Int) (v2 : Int) (v3 : Int) (v5 : Int) (s : iS) : Option ((Int × Int × iS) ⊕ (Int × iS)) := gd (rg v5) (gd (rg (v1 + 8)) (if (v1 + 8) ≤ v5 then some (.inr (v3, s)) else gd (rg v2) (if v2 ≤ v5 then some (.inl ((l_or (l_shl v3 8) 0), (v5 + 1), s)) else bd (str_charAt n0 g0 v5 s) (fun r6 s6 => gd (rg r6) (some (.inl ((l_or (l_shl v3 8) r6), (v5 + 1), s6)))))))
theorem tnam_half_5b (H : iS → List am_C) (w : ev_W) (d : Nat) (hd : 4 ≤ d) (n0 : Nat) (g0 : Nat → Int32) (r0 : Nat) (h_r0 : r0 < tb_nK) (fl_r0 : List Value) (hf_r0 : tb_KF[r0]? = some fl_r0) (b0 : Nat) (h0_r0 : fl_r0[0]? = some (.ref b0)) (h1_r0 : fl_r0[1]? = some (iv 0)) (ho_r0 : tb_KO[r0]? = some "java/lang/String") (h_b0 : b0 < tb_nK) (hk_b0 : (tb_KT w.2.1 w.2.2)[b0]? = some (.byte, n0, g0)) (hl_n0 : n0 < 2147483648) (v1 : Int) (v2 : Int) (v3 : Int) (v5 : Int) (s : iS) : Ew H w d 15 5 [(0, .ref r0), (1, iv v1), (2, iv v2), (3, lv v3), (5, iv v5)] [] s (nam_half_5C H w d r0 n0 g0 v1 v2) (nam_half_5b n0 g0 v1 v2 v3 v5 s) := by
  unfold nam_half_5b
  refine e_mv 7 em_15 (ce_at ce_15 4 rfl) rfl rfl ?_
  refine e_mv 8 em_15 (ce_at ce_15 5 rfl) rfl rfl ?_
  refine e_bip 10 em_15 (ce_at ce_15 6 rfl) (by decide) rfl ?_
  refine e_iadd 11 em_15 rfl (ce_at ce_15 7 rfl) ?_
  refine e_gd fun g1 => ?_
  refine e_gd fun g2 => ?_
  refine e_cmge 43 14 em_15 rfl rfl (ce_at ce_15 8 rfl) g1 g2 (fun h3 => ?_) (fun h3 => ?_)
  · refine e_pk [3] rfl rfl ?_
    exact e_out (fun r h => h)
  · refine e_mv 15 em_15 (ce_at ce_15 9 rfl) rfl rfl ?_
    refine e_bip 17 em_15 (ce_at ce_15 10 rfl) (by decide) rfl ?_
    refine e_lshl 18 em_15 rfl (ce_at ce_15 11 rfl) ?_
    refine e_mv 20 em_15 (ce_at ce_15 12 rfl) rfl rfl ?_
    refine e_mv 21 em_15 (ce_at ce_15 13 rfl) rfl rfl ?_
    refine e_gd fun g4 => ?_
    refine e_cmge 33 24 em_15 rfl rfl (ce_at ce_15 14 rfl) g1 g4 (fun h5 => ?_) (fun h5 => ?_)
    · refine e_op 34 em_15 (ce_at ce_15 19 rfl) rfl rfl ?_
      refine e_i2l 35 em_15 rfl (ce_at ce_15 20 rfl) (by decide) ?_
      refine e_lor 36 em_15 rfl (ce_at ce_15 21 rfl) ?_
      refine e_mv 37 em_15 (ce_at ce_15 22 rfl) rfl rfl ?_
      refine e_iinc 40 em_15 (ce_at ce_15 23 rfl) rfl (by decide) rfl ?_
      refine e_goto em_15 5 (ce_at ce_15 24 rfl) rfl ?_
      refine e_pk [0, 1, 2, 3, 5] rfl rfl ?_
      exact e_out (fun r h => h)
    · refine e_mv 25 em_15 (ce_at ce_15 15 rfl) rfl rfl ?_
      refine e_mv 27 em_15 (ce_at ce_15 16 rfl) rfl rfl ?_
      refine e_ivi 30 em_15 (ce_at ce_15 17 rfl) (by omega) (iv_k1 h_r0 ho_r0 rfl) em_6 (Nat.le_of_ble_eq_true rfl) rfl (tstr_charAt H w (d - 1) (by omega) n0 g0 r0 h_r0 fl_r0 hf_r0 b0 h0_r0 h1_r0 ho_r0 h_b0 hk_b0 hl_n0 _ _) (fun r6 s6 => ?_)
      refine e_goto em_15 34 (ce_at ce_15 18 rfl) rfl ?_
      refine e_gd fun g7 => ?_
      refine e_i2l 35 em_15 rfl (ce_at ce_15 20 rfl) g7 ?_
      refine e_lor 36 em_15 rfl (ce_at ce_15 21 rfl) ?_
      refine e_mv 37 em_15 (ce_at ce_15 22 rfl) rfl rfl ?_
      refine e_iinc 40 em_15 (ce_at ce_15 23 rfl) rfl (by decide) rfl ?_
      refine e_goto em_15 5 (ce_at ce_15 24 rfl) rfl ?_
      refine e_pk [0, 1, 2, 3, 5] rfl rfl ?_
      exact e_out (fun r h => h)
theorem fnam_half_5b (n0 : Nat) (g0 : Nat → Int32) (v1 : Int) (v2 : Int) (v3 : Int) (v5 : Int) (s : iS) : Fm (fun r : (Int × Int × iS) ⊕ (Int × iS) => r.elim (fun l => l.2.2) (fun e => e.2)) L_nam_half G_nam_half s (nam_half_5b n0 g0 v1 v2 v3 v5 s) := fm_gd (fm_gd (fm_if (fm_some md_refl) (fm_gd (fm_if (fm_some md_refl) (fm_bd (fm_sub (fstr_charAt n0 g0 _ _) (mem_sub_L rfl) (mem_sub_F rfl)) (fun r6 s6 => fm_gd (fm_some md_refl)))))))
noncomputable def nam_half_5 (n0 : Nat) (g0 : Nat → Int32) (v1 : Int) (v2 : Int) (v3 : Int) (v5 : Int) (s : iS) : Option (Int × iS) := (lp (L := Int × Int × iS) (E := Int × iS) (fun l => nam_half_5b n0 g0 v1 v2 (l.1) (l.2.1) (l.2.2)) (v3, v5, s)).bind (fun e => some (e.1, e.2))
theorem tnam_half_5 (H : iS → List am_C) (w : ev_W) (d : Nat) (hd : 4 ≤ d) (n0 : Nat) (g0 : Nat → Int32) (r0 : Nat) (h_r0 : r0 < tb_nK) (fl_r0 : List Value) (hf_r0 : tb_KF[r0]? = some fl_r0) (b0 : Nat) (h0_r0 : fl_r0[0]? = some (.ref b0)) (h1_r0 : fl_r0[1]? = some (iv 0)) (ho_r0 : tb_KO[r0]? = some "java/lang/String") (h_b0 : b0 < tb_nK) (hk_b0 : (tb_KT w.2.1 w.2.2)[b0]? = some (.byte, n0, g0)) (hl_n0 : n0 < 2147483648) (v1 : Int) (v2 : Int) (v3 : Int) (v5 : Int) (s : iS) : Ew H w d 15 5 [(0, .ref r0), (1, iv v1), (2, iv v2), (3, lv v3), (5, iv v5)] [] s (Cl H) (nam_half_5 n0 g0 v1 v2 v3 v5 s) := by
  unfold nam_half_5
  refine e_lp (LO := fun l => [(0, .ref r0), (1, iv v1), (2, iv v2), (3, lv (l.1)), (5, iv (l.2.1))]) (LS := fun l => l.2.2) (CE := fun e r => ev w d 15 43 [(3, lv (e.1))] [] (H (e.2)) r) (fun l => tnam_half_5b H w d hd n0 g0 r0 h_r0 fl_r0 hf_r0 b0 h0_r0 h1_r0 ho_r0 h_b0 hk_b0 hl_n0 _ _ _ _ _) ?_ (v3, v5, s)
  intro e
  show Ew H w d 15 43 [(3, lv (e.1))] [] e.2 (Cl H) _
  refine e_mv 44 em_15 (ce_at ce_15 25 rfl) rfl rfl ?_
  exact e_retl em_15 (ce_at ce_15 26 rfl)
theorem fnam_half_5 (n0 : Nat) (g0 : Nat → Int32) (v1 : Int) (v2 : Int) (v3 : Int) (v5 : Int) (s : iS) : Fm Prod.snd L_nam_half G_nam_half s (nam_half_5 n0 g0 v1 v2 v3 v5 s) := fm_lp (LS := fun l => l.2.2) (LE := fun e => e.2) (fun l => fnam_half_5b n0 g0 _ _ _ _ _) (fun e => fm_some md_refl) (v3, v5, s)
noncomputable def nam_half (n0 : Nat) (g0 : Nat → Int32) (v1 : Int) (v2 : Int) (s : iS) : Option (Int × iS) := nam_half_5 n0 g0 v1 v2 0 v1 s
theorem tnam_half (H : iS → List am_C) (w : ev_W) (d : Nat) (hd : 4 ≤ d) (n0 : Nat) (g0 : Nat → Int32) (r0 : Nat) (h_r0 : r0 < tb_nK) (fl_r0 : List Value) (hf_r0 : tb_KF[r0]? = some fl_r0) (b0 : Nat) (h0_r0 : fl_r0[0]? = some (.ref b0)) (h1_r0 : fl_r0[1]? = some (iv 0)) (ho_r0 : tb_KO[r0]? = some "java/lang/String") (h_b0 : b0 < tb_nK) (hk_b0 : (tb_KT w.2.1 w.2.2)[b0]? = some (.byte, n0, g0)) (hl_n0 : n0 < 2147483648) (v1 : Int) (v2 : Int) (s : iS) : Ew H w d 15 0 [(0, .ref r0), (1, iv v1), (2, iv v2)] [] s (Cl H) (nam_half n0 g0 v1 v2 s) := by
  unfold nam_half
  refine e_lcon 1 em_15 (ce_at ce_15 0 rfl) (x := 0) rfl rfl ?_
  refine e_mv 2 em_15 (ce_at ce_15 1 rfl) rfl rfl ?_
  refine e_mv 3 em_15 (ce_at ce_15 2 rfl) rfl rfl ?_
  refine e_mv 5 em_15 (ce_at ce_15 3 rfl) rfl rfl ?_
  refine e_pk [0, 1, 2, 3, 5] rfl rfl ?_
  exact tnam_half_5 H w d hd n0 g0 r0 h_r0 fl_r0 hf_r0 b0 h0_r0 h1_r0 ho_r0 h_b0 hk_b0 hl_n0 _ _ _ _ _
theorem fnam_half (n0 : Nat) (g0 : Nat → Int32) (v1 : Int) (v2 : Int) (s : iS) : Fm Prod.snd L_nam_half G_nam_half s (nam_half n0 g0 v1 v2 s) := fnam_half_5 n0 g0 _ _ _ _ _
/-! nam_addWords -/
def nam_addWords_4C (H : iS → List am_C) (w : ev_W) (d : Nat) (r1 : Nat) (c0 : Nat) (a0 : Nat) (b0 : Nat) (n0 : Nat) (n1 : Nat) (g1 : Nat → Int32) : (Int × Int × iS) ⊕ (iS) → am_E → Prop := fun q r => q.elim (fun l => ev w d 3 4 ((fun l => [(0, .ref (tb_nK + c0)), (1, .ref r1), (2, iv (l.1)), (3, iv (l.2.1))]) l) [] (H ((fun l => l.2.2) l)) r) (fun e => (fun e r => ev w d 3 64 [] [] (H (e)) r) e r)
noncomputable def nam_addWords_54 (c0 : Nat) (a0 : Nat) (b0 : Nat) (n0 : Nat) (n1 : Nat) (g1 : Nat → Int32) (v3 : Int) (s : iS) : Option ((Int × Int × iS) ⊕ (iS)) := some (.inl ((v3 + 1), (v3 + 1), s))
theorem tnam_addWords_54 (H : iS → List am_C) (w : ev_W) (d : Nat) (hd : 5 ≤ d) (c0 : Nat) (a0 : Nat) (b0 : Nat) (n0 : Nat) (n1 : Nat) (g1 : Nat → Int32) (h_c0 : Ho H c0 2 [some a0, some b0, none]) (h_a0 : Ha H a0 1 n0) (h_b0 : Ha H b0 1 n0) (hl_n0 : n0 < 2147483648) (r1 : Nat) (h_r1 : r1 < tb_nK) (fl_r1 : List Value) (hf_r1 : tb_KF[r1]? = some fl_r1) (b1 : Nat) (h0_r1 : fl_r1[0]? = some (.ref b1)) (h1_r1 : fl_r1[1]? = some (iv 0)) (ho_r1 : tb_KO[r1]? = some "java/lang/String") (h_b1 : b1 < tb_nK) (hk_b1 : (tb_KT w.2.1 w.2.2)[b1]? = some (.byte, n1, g1)) (hl_n1 : n1 < 2147483648) (v3 : Int) (s : iS) : Ew H w d 3 54 [(0, .ref (tb_nK + c0)), (1, .ref r1), (3, iv v3)] [] s (nam_addWords_4C H w d r1 c0 a0 b0 n0 n1 g1) (nam_addWords_54 c0 a0 b0 n0 n1 g1 v3 s) := by
  unfold nam_addWords_54
  refine e_mv 55 em_3 (ce_at ce_3 32 rfl) rfl rfl ?_
  refine e_op 56 em_3 (ce_at ce_3 33 rfl) rfl rfl ?_
  refine e_iadd 57 em_3 rfl (ce_at ce_3 34 rfl) ?_
  refine e_mv 58 em_3 (ce_at ce_3 35 rfl) rfl rfl ?_
  refine e_iinc 61 em_3 (ce_at ce_3 36 rfl) rfl (by decide) rfl ?_
  refine e_goto em_3 4 (ce_at ce_3 37 rfl) rfl ?_
  refine e_pk [0, 1, 2, 3] rfl rfl ?_
  exact e_out (fun r h => h)
theorem fnam_addWords_54 (c0 : Nat) (a0 : Nat) (b0 : Nat) (n0 : Nat) (n1 : Nat) (g1 : Nat → Int32) (v3 : Int) (s : iS) : Fm (fun r : (Int × Int × iS) ⊕ (iS) => r.elim (fun l => l.2.2) (fun e => e)) [a0, b0] [(c0, 2)] s (nam_addWords_54 c0 a0 b0 n0 n1 g1 v3 s) := fm_some md_refl
noncomputable def nam_addWords_30 (c0 : Nat) (a0 : Nat) (b0 : Nat) (n0 : Nat) (n1 : Nat) (g1 : Nat → Int32) (v2 : Int) (v3 : Int) (s : iS) : Option ((Int × Int × iS) ⊕ (iS)) := gd (rg v3) (gd (rg v2) (if v3 ≤ v2 then nam_addWords_54 c0 a0 b0 n0 n1 g1 v3 s else bd (nam_half n1 g1 v2 v3 s) (fun r4 s4 => bd (nam_half n1 g1 (v2 + 8) v3 s4) (fun r5 s5 => bd (nam_add c0 a0 b0 n0 r4 r5 s5) (fun _ s6 => nam_addWords_54 c0 a0 b0 n0 n1 g1 v3 s6)))))
theorem tnam_addWords_30 (H : iS → List am_C) (w : ev_W) (d : Nat) (hd : 5 ≤ d) (c0 : Nat) (a0 : Nat) (b0 : Nat) (n0 : Nat) (n1 : Nat) (g1 : Nat → Int32) (h_c0 : Ho H c0 2 [some a0, some b0, none]) (h_a0 : Ha H a0 1 n0) (h_b0 : Ha H b0 1 n0) (hl_n0 : n0 < 2147483648) (r1 : Nat) (h_r1 : r1 < tb_nK) (fl_r1 : List Value) (hf_r1 : tb_KF[r1]? = some fl_r1) (b1 : Nat) (h0_r1 : fl_r1[0]? = some (.ref b1)) (h1_r1 : fl_r1[1]? = some (iv 0)) (ho_r1 : tb_KO[r1]? = some "java/lang/String") (h_b1 : b1 < tb_nK) (hk_b1 : (tb_KT w.2.1 w.2.2)[b1]? = some (.byte, n1, g1)) (hl_n1 : n1 < 2147483648) (v2 : Int) (v3 : Int) (s : iS) : Ew H w d 3 30 [(0, .ref (tb_nK + c0)), (1, .ref r1), (2, iv v2), (3, iv v3)] [] s (nam_addWords_4C H w d r1 c0 a0 b0 n0 n1 g1) (nam_addWords_30 c0 a0 b0 n0 n1 g1 v2 v3 s) := by
  unfold nam_addWords_30
  refine e_mv 31 em_3 (ce_at ce_3 17 rfl) rfl rfl ?_
  refine e_mv 32 em_3 (ce_at ce_3 18 rfl) rfl rfl ?_
  refine e_gd fun g1 => ?_
  refine e_gd fun g2 => ?_
  refine e_cmle 54 35 em_3 rfl rfl (ce_at ce_3 19 rfl) g1 g2 (fun h3 => ?_) (fun h3 => ?_)
  · refine e_pk [0, 1, 3] rfl rfl ?_
    exact tnam_addWords_54 H w d hd c0 a0 b0 n0 n1 g1 h_c0 h_a0 h_b0 hl_n0 r1 h_r1 fl_r1 hf_r1 b1 h0_r1 h1_r1 ho_r1 h_b1 hk_b1 hl_n1 _ _
  · refine e_mv 36 em_3 (ce_at ce_3 20 rfl) rfl rfl ?_
    refine e_mv 37 em_3 (ce_at ce_3 21 rfl) rfl rfl ?_
    refine e_mv 38 em_3 (ce_at ce_3 22 rfl) rfl rfl ?_
    refine e_mv 39 em_3 (ce_at ce_3 23 rfl) rfl rfl ?_
    refine e_ivl 42 em_3 (ce_at ce_3 24 rfl) (by omega) (iv_s3 rfl) em_15 (Nat.le_of_ble_eq_true rfl) rfl (tnam_half H w (d - 1) (by omega) n1 g1 r1 h_r1 fl_r1 hf_r1 b1 h0_r1 h1_r1 ho_r1 h_b1 hk_b1 hl_n1 _ _ _) (fun r4 s4 => ?_)
    refine e_mv 43 em_3 (ce_at ce_3 25 rfl) rfl rfl ?_
    refine e_mv 44 em_3 (ce_at ce_3 26 rfl) rfl rfl ?_
    refine e_bip 46 em_3 (ce_at ce_3 27 rfl) (by decide) rfl ?_
    refine e_iadd 47 em_3 rfl (ce_at ce_3 28 rfl) ?_
    refine e_mv 48 em_3 (ce_at ce_3 29 rfl) rfl rfl ?_
    refine e_ivl 51 em_3 (ce_at ce_3 30 rfl) (by omega) (iv_s3 rfl) em_15 (Nat.le_of_ble_eq_true rfl) rfl (tnam_half H w (d - 1) (by omega) n1 g1 r1 h_r1 fl_r1 hf_r1 b1 h0_r1 h1_r1 ho_r1 h_b1 hk_b1 hl_n1 _ _ _) (fun r5 s5 => ?_)
    refine e_ivv 54 em_3 (ce_at ce_3 31 rfl) (by omega) (iv_v2 (by decide) h_c0 rfl) em_16 (Nat.le_of_ble_eq_true rfl) rfl (tnam_add H w (d - 1) (by omega) c0 a0 b0 n0 h_c0 h_a0 h_b0 hl_n0 _ _ _) (fun r6 s6 => ?_)
    refine e_pk [0, 1, 3] rfl rfl ?_
    exact tnam_addWords_54 H w d hd c0 a0 b0 n0 n1 g1 h_c0 h_a0 h_b0 hl_n0 r1 h_r1 fl_r1 hf_r1 b1 h0_r1 h1_r1 ho_r1 h_b1 hk_b1 hl_n1 _ _
theorem fnam_addWords_30 (c0 : Nat) (a0 : Nat) (b0 : Nat) (n0 : Nat) (n1 : Nat) (g1 : Nat → Int32) (v2 : Int) (v3 : Int) (s : iS) : Fm (fun r : (Int × Int × iS) ⊕ (iS) => r.elim (fun l => l.2.2) (fun e => e)) [a0, b0] [(c0, 2)] s (nam_addWords_30 c0 a0 b0 n0 n1 g1 v2 v3 s) := fm_gd (fm_gd (fm_if (fnam_addWords_54 c0 a0 b0 n0 n1 g1 _ _) (fm_bd (fm_sub (fnam_half n1 g1 _ _ _) (fun _ h => by cases h) (fun _ h => by cases h)) (fun r4 s4 => fm_bd (fm_sub (fnam_half n1 g1 _ _ _) (fun _ h => by cases h) (fun _ h => by cases h)) (fun r5 s5 => fm_bd (fnam_add c0 a0 b0 n0 _ _ _) (fun r6 s6 => fnam_addWords_54 c0 a0 b0 n0 n1 g1 _ _))))))
noncomputable def nam_addWords_4b (c0 : Nat) (a0 : Nat) (b0 : Nat) (n0 : Nat) (n1 : Nat) (g1 : Nat → Int32) (v2 : Int) (v3 : Int) (s : iS) : Option ((Int × Int × iS) ⊕ (iS)) := bd (str_length_v3 n1 g1 s) (fun r1 s1 => gd (rg v3) (gd (rg r1) (if r1 < v3 then some (.inr s1) else bd (str_length_v3 n1 g1 s1) (fun r5 s5 => gd (rg r5) (if v3 = r5 then nam_addWords_30 c0 a0 b0 n0 n1 g1 v2 v3 s5 else bd (str_charAt n1 g1 v3 s5) (fun r8 s8 => gd (rg r8) (if r8 = 32 then nam_addWords_30 c0 a0 b0 n0 n1 g1 v2 v3 s8 else some (.inl (v2, (v3 + 1), s8)))))))))
theorem tnam_addWords_4b (H : iS → List am_C) (w : ev_W) (d : Nat) (hd : 5 ≤ d) (c0 : Nat) (a0 : Nat) (b0 : Nat) (n0 : Nat) (n1 : Nat) (g1 : Nat → Int32) (h_c0 : Ho H c0 2 [some a0, some b0, none]) (h_a0 : Ha H a0 1 n0) (h_b0 : Ha H b0 1 n0) (hl_n0 : n0 < 2147483648) (r1 : Nat) (h_r1 : r1 < tb_nK) (fl_r1 : List Value) (hf_r1 : tb_KF[r1]? = some fl_r1) (b1 : Nat) (h0_r1 : fl_r1[0]? = some (.ref b1)) (h1_r1 : fl_r1[1]? = some (iv 0)) (ho_r1 : tb_KO[r1]? = some "java/lang/String") (h_b1 : b1 < tb_nK) (hk_b1 : (tb_KT w.2.1 w.2.2)[b1]? = some (.byte, n1, g1)) (hl_n1 : n1 < 2147483648) (v2 : Int) (v3 : Int) (s : iS) : Ew H w d 3 4 [(0, .ref (tb_nK + c0)), (1, .ref r1), (2, iv v2), (3, iv v3)] [] s (nam_addWords_4C H w d r1 c0 a0 b0 n0 n1 g1) (nam_addWords_4b c0 a0 b0 n0 n1 g1 v2 v3 s) := by
  unfold nam_addWords_4b
  refine e_mv 5 em_3 (ce_at ce_3 4 rfl) rfl rfl ?_
  refine e_mv 6 em_3 (ce_at ce_3 5 rfl) rfl rfl ?_
  refine e_ivi 9 em_3 (ce_at ce_3 6 rfl) (by omega) (iv_k0 h_r1 ho_r1 rfl) em_4 (Nat.le_of_ble_eq_true rfl) rfl (tstr_length_v3 H w (d - 1) (by omega) n1 g1 r1 h_r1 fl_r1 hf_r1 b1 h0_r1 h1_r1 ho_r1 h_b1 hk_b1 hl_n1 _) (fun r1 s1 => ?_)
  refine e_gd fun g2 => ?_
  refine e_gd fun g3 => ?_
  refine e_cmgt 64 12 em_3 rfl rfl (ce_at ce_3 7 rfl) g2 g3 (fun h4 => ?_) (fun h4 => ?_)
  · refine e_pk [] rfl rfl ?_
    exact e_out (fun r h => h)
  · refine e_mv 13 em_3 (ce_at ce_3 8 rfl) rfl rfl ?_
    refine e_mv 14 em_3 (ce_at ce_3 9 rfl) rfl rfl ?_
    refine e_ivi 17 em_3 (ce_at ce_3 10 rfl) (by omega) (iv_k0 h_r1 ho_r1 rfl) em_4 (Nat.le_of_ble_eq_true rfl) rfl (tstr_length_v3 H w (d - 1) (by omega) n1 g1 r1 h_r1 fl_r1 hf_r1 b1 h0_r1 h1_r1 ho_r1 h_b1 hk_b1 hl_n1 _) (fun r5 s5 => ?_)
    refine e_gd fun g6 => ?_
    refine e_cmeq 30 20 em_3 rfl rfl (ce_at ce_3 11 rfl) g2 g6 (fun h7 => ?_) (fun h7 => ?_)
    · refine e_pk [0, 1, 2, 3] rfl rfl ?_
      exact tnam_addWords_30 H w d hd c0 a0 b0 n0 n1 g1 h_c0 h_a0 h_b0 hl_n0 r1 h_r1 fl_r1 hf_r1 b1 h0_r1 h1_r1 ho_r1 h_b1 hk_b1 hl_n1 _ _ _
    · refine e_mv 21 em_3 (ce_at ce_3 12 rfl) rfl rfl ?_
      refine e_mv 22 em_3 (ce_at ce_3 13 rfl) rfl rfl ?_
      refine e_ivi 25 em_3 (ce_at ce_3 14 rfl) (by omega) (iv_k1 h_r1 ho_r1 rfl) em_6 (Nat.le_of_ble_eq_true rfl) rfl (tstr_charAt H w (d - 1) (by omega) n1 g1 r1 h_r1 fl_r1 hf_r1 b1 h0_r1 h1_r1 ho_r1 h_b1 hk_b1 hl_n1 _ _) (fun r8 s8 => ?_)
      refine e_bip 27 em_3 (ce_at ce_3 15 rfl) (by decide) rfl ?_
      refine e_gd fun g9 => ?_
      refine e_cmne 58 30 em_3 rfl rfl (ce_at ce_3 16 rfl) g9 (by decide) (fun h10 => ?_) (fun h10 => ?_)
      · refine e_iinc 61 em_3 (ce_at ce_3 36 rfl) rfl (by decide) rfl ?_
        refine e_goto em_3 4 (ce_at ce_3 37 rfl) rfl ?_
        refine e_pk [0, 1, 2, 3] rfl rfl ?_
        exact e_out (fun r h => h)
      · refine e_pk [0, 1, 2, 3] rfl rfl ?_
        exact tnam_addWords_30 H w d hd c0 a0 b0 n0 n1 g1 h_c0 h_a0 h_b0 hl_n0 r1 h_r1 fl_r1 hf_r1 b1 h0_r1 h1_r1 ho_r1 h_b1 hk_b1 hl_n1 _ _ _
theorem fnam_addWords_4b (c0 : Nat) (a0 : Nat) (b0 : Nat) (n0 : Nat) (n1 : Nat) (g1 : Nat → Int32) (v2 : Int) (v3 : Int) (s : iS) : Fm (fun r : (Int × Int × iS) ⊕ (iS) => r.elim (fun l => l.2.2) (fun e => e)) [a0, b0] [(c0, 2)] s (nam_addWords_4b c0 a0 b0 n0 n1 g1 v2 v3 s) := fm_bd (fm_sub (fstr_length_v3 n1 g1 _) (fun _ h => by cases h) (fun _ h => by cases h)) (fun r1 s1 => fm_gd (fm_gd (fm_if (fm_some md_refl) (fm_bd (fm_sub (fstr_length_v3 n1 g1 _) (fun _ h => by cases h) (fun _ h => by cases h)) (fun r5 s5 => fm_gd (fm_if (fnam_addWords_30 c0 a0 b0 n0 n1 g1 _ _ _) (fm_bd (fm_sub (fstr_charAt n1 g1 _ _) (fun _ h => by cases h) (fun _ h => by cases h)) (fun r8 s8 => fm_gd (fm_if (fnam_addWords_30 c0 a0 b0 n0 n1 g1 _ _ _) (fm_some md_refl))))))))))
noncomputable def nam_addWords_4 (c0 : Nat) (a0 : Nat) (b0 : Nat) (n0 : Nat) (n1 : Nat) (g1 : Nat → Int32) (v2 : Int) (v3 : Int) (s : iS) : Option (Int × iS) := (lp (L := Int × Int × iS) (E := iS) (fun l => nam_addWords_4b c0 a0 b0 n0 n1 g1 (l.1) (l.2.1) (l.2.2)) (v2, v3, s)).bind (fun e => some (0, e))
theorem tnam_addWords_4 (H : iS → List am_C) (w : ev_W) (d : Nat) (hd : 5 ≤ d) (c0 : Nat) (a0 : Nat) (b0 : Nat) (n0 : Nat) (n1 : Nat) (g1 : Nat → Int32) (h_c0 : Ho H c0 2 [some a0, some b0, none]) (h_a0 : Ha H a0 1 n0) (h_b0 : Ha H b0 1 n0) (hl_n0 : n0 < 2147483648) (r1 : Nat) (h_r1 : r1 < tb_nK) (fl_r1 : List Value) (hf_r1 : tb_KF[r1]? = some fl_r1) (b1 : Nat) (h0_r1 : fl_r1[0]? = some (.ref b1)) (h1_r1 : fl_r1[1]? = some (iv 0)) (ho_r1 : tb_KO[r1]? = some "java/lang/String") (h_b1 : b1 < tb_nK) (hk_b1 : (tb_KT w.2.1 w.2.2)[b1]? = some (.byte, n1, g1)) (hl_n1 : n1 < 2147483648) (v2 : Int) (v3 : Int) (s : iS) : Ew H w d 3 4 [(0, .ref (tb_nK + c0)), (1, .ref r1), (2, iv v2), (3, iv v3)] [] s (Cv H) (nam_addWords_4 c0 a0 b0 n0 n1 g1 v2 v3 s) := by
  unfold nam_addWords_4
  refine e_lp (LO := fun l => [(0, .ref (tb_nK + c0)), (1, .ref r1), (2, iv (l.1)), (3, iv (l.2.1))]) (LS := fun l => l.2.2) (CE := fun e r => ev w d 3 64 [] [] (H (e)) r) (fun l => tnam_addWords_4b H w d hd c0 a0 b0 n0 n1 g1 h_c0 h_a0 h_b0 hl_n0 r1 h_r1 fl_r1 hf_r1 b1 h0_r1 h1_r1 ho_r1 h_b1 hk_b1 hl_n1 _ _ _) ?_ (v2, v3, s)
  intro e
  show Ew H w d 3 64 [] [] e (Cv H) _
  exact e_retv em_3 (ce_at ce_3 38 rfl)
theorem fnam_addWords_4 (c0 : Nat) (a0 : Nat) (b0 : Nat) (n0 : Nat) (n1 : Nat) (g1 : Nat → Int32) (v2 : Int) (v3 : Int) (s : iS) : Fm Prod.snd [a0, b0] [(c0, 2)] s (nam_addWords_4 c0 a0 b0 n0 n1 g1 v2 v3 s) := fm_lp (LS := fun l => l.2.2) (LE := fun e => e) (fun l => fnam_addWords_4b c0 a0 b0 n0 n1 g1 _ _ _) (fun e => fm_some md_refl) (v2, v3, s)
noncomputable def nam_addWords (c0 : Nat) (a0 : Nat) (b0 : Nat) (n0 : Nat) (n1 : Nat) (g1 : Nat → Int32) (s : iS) : Option (Int × iS) := nam_addWords_4 c0 a0 b0 n0 n1 g1 0 0 s
theorem tnam_addWords (H : iS → List am_C) (w : ev_W) (d : Nat) (hd : 5 ≤ d) (c0 : Nat) (a0 : Nat) (b0 : Nat) (n0 : Nat) (n1 : Nat) (g1 : Nat → Int32) (h_c0 : Ho H c0 2 [some a0, some b0, none]) (h_a0 : Ha H a0 1 n0) (h_b0 : Ha H b0 1 n0) (hl_n0 : n0 < 2147483648) (r1 : Nat) (h_r1 : r1 < tb_nK) (fl_r1 : List Value) (hf_r1 : tb_KF[r1]? = some fl_r1) (b1 : Nat) (h0_r1 : fl_r1[0]? = some (.ref b1)) (h1_r1 : fl_r1[1]? = some (iv 0)) (ho_r1 : tb_KO[r1]? = some "java/lang/String") (h_b1 : b1 < tb_nK) (hk_b1 : (tb_KT w.2.1 w.2.2)[b1]? = some (.byte, n1, g1)) (hl_n1 : n1 < 2147483648) (s : iS) : Ew H w d 3 0 [(0, .ref (tb_nK + c0)), (1, .ref r1)] [] s (Cv H) (nam_addWords c0 a0 b0 n0 n1 g1 s) := by
  unfold nam_addWords
  refine e_op 1 em_3 (ce_at ce_3 0 rfl) rfl rfl ?_
  refine e_mv 2 em_3 (ce_at ce_3 1 rfl) rfl rfl ?_
  refine e_op 3 em_3 (ce_at ce_3 2 rfl) rfl rfl ?_
  refine e_mv 4 em_3 (ce_at ce_3 3 rfl) rfl rfl ?_
  refine e_pk [0, 1, 2, 3] rfl rfl ?_
  exact tnam_addWords_4 H w d hd c0 a0 b0 n0 n1 g1 h_c0 h_a0 h_b0 hl_n0 r1 h_r1 fl_r1 hf_r1 b1 h0_r1 h1_r1 ho_r1 h_b1 hk_b1 hl_n1 _ _ _
theorem fnam_addWords (c0 : Nat) (a0 : Nat) (b0 : Nat) (n0 : Nat) (n1 : Nat) (g1 : Nat → Int32) (s : iS) : Fm Prod.snd [a0, b0] [(c0, 2)] s (nam_addWords c0 a0 b0 n0 n1 g1 s) := fnam_addWords_4 c0 a0 b0 n0 n1 g1 _ _ _
/-! m_system -/
def L_m_system : List Nat := [164, 165, 166, 167, 168]
def G_m_system : List (Nat × Nat) := []
def m_system_97C (H : iS → List am_C) (w : ev_W) (d : Nat) (v1 : Int) (v2 : Int) : (Int × iS) ⊕ (Int × iS) → am_E → Prop := fun q r => q.elim (fun l => ev w d 295 97 ((fun l => [(0, .ref (tb_nK + 121)), (1, iv v1), (2, iv v2), (3, iv (l.1))]) l) [] (H ((fun l => l.2) l)) r) (fun e => (fun e r => ev w d 295 114 [(0, .ref (tb_nK + 121)), (1, iv v1), (2, iv v2), (3, iv (e.1))] [] (H (e.2)) r) e r)
noncomputable def m_system_97b (v1 : Int) (v2 : Int) (v3 : Int) (s : iS) : Option ((Int × iS) ⊕ (Int × iS)) := gd (0 ≤ v3 ∧ v3 < 465) (gd (rg ((ka_5 v3.toNat).toInt)) (if (ka_5 v3.toNat).toInt = 32 then some (.inr (v3, s)) else some (.inl ((v3 + 1), s))))
theorem tm_system_97b (H : iS → List am_C) (w : ev_W) (d : Nat) (hd : 0 ≤ d) (hc_121 : Ho H 121 13 [some 122, none, some 123, none, none, some 124, some 125, some 126, some 127, none, none, none, none, some 128, none, some 129, none, none, some 130, some 131, some 132, some 133, some 134, some 135, some 136, none, some 137, some 138, some 139, some 140, some 141, some 142, some 143, none, some 144, some 145, some 146, some 147, some 148, none, some 149, some 150, some 151, some 152, some 153, some 154, some 155, some 156, none, none, none, none, some 157, some 158, some 159, none, some 160, some 161, some 162, some 163, none, none, none, some 164, some 165, some 166, some 167, some 168, some 169, none, none, none, none, some 170, none, some 171, none, some 172, some 173, some 174, some 175, none, some 176, some 177, some 178, some 179, some 180, none, none, none, some 181, some 182, some 183, some 184, some 185, none, none, none, none, none, none, some 186, none, none, none, some 187, none, none, none, some 188, none, some 189, none, some 190, some 191, some 192, some 193, some 194, none, none, none, none, none, some 195, some 196, none, some 197, some 198, some 199, some 200, some 201, none, some 202, some 203, none, some 204, some 205, some 206, some 207, some 208, some 209, some 210, some 211, some 212, none, some 213, some 214, some 215, none, none, none, some 216, none, some 217, some 218, some 219, some 220, some 221, none, some 222, some 223, none, some 224, some 225, some 226, some 227, none, some 228, some 229, some 230, none, some 231, some 232, none, none, some 233]) (hc_164 : Ha H 164 0 9) (hc_165 : Ha H 165 0 8) (hc_166 : Ha H 166 0 60) (hc_167 : Ha H 167 4 60) (hc_168 : Ha H 168 0 60) (v1 : Int) (v2 : Int) (v3 : Int) (s : iS) : Ew H w d 295 97 [(0, .ref (tb_nK + 121)), (1, iv v1), (2, iv v2), (3, iv v3)] [] s (m_system_97C H w d v1 v2) (m_system_97b v1 v2 v3 s) := by
  unfold m_system_97b
  refine e_gst 100 em_295 (ce_at ce_295 66 rfl) rfl rfl ?_
  refine e_mv 101 em_295 (ce_at ce_295 67 rfl) rfl rfl ?_
  refine e_gd fun g1 => ?_
  refine e_cldk 102 em_295 (ce_at ce_295 68 rfl) (by decide) (kt_5 _ _) (by decide) g1 rfl ?_
  refine e_bip 104 em_295 (ce_at ce_295 69 rfl) (by decide) rfl ?_
  refine e_gd fun g2 => ?_
  refine e_cmeq 114 107 em_295 rfl rfl (ce_at ce_295 70 rfl) g2 (by decide) (fun h3 => ?_) (fun h3 => ?_)
  · refine e_pk [0, 1, 2, 3] rfl rfl ?_
    exact e_out (fun r h => h)
  · refine e_mv 108 em_295 (ce_at ce_295 71 rfl) rfl rfl ?_
    refine e_op 109 em_295 (ce_at ce_295 72 rfl) rfl rfl ?_
    refine e_iadd 110 em_295 rfl (ce_at ce_295 73 rfl) ?_
    refine e_mv 111 em_295 (ce_at ce_295 74 rfl) rfl rfl ?_
    refine e_goto em_295 97 (ce_at ce_295 75 rfl) rfl ?_
    refine e_pk [0, 1, 2, 3] rfl rfl ?_
    exact e_out (fun r h => h)
theorem fm_system_97b (v1 : Int) (v2 : Int) (v3 : Int) (s : iS) : Fm (fun r : (Int × iS) ⊕ (Int × iS) => r.elim (fun l => l.2) (fun e => e.2)) L_m_system G_m_system s (m_system_97b v1 v2 v3 s) := fm_gd (fm_gd (fm_if (fm_some md_refl) (fm_some md_refl)))
def m_system_6C (H : iS → List am_C) (w : ev_W) (d : Nat) : (Int × Int × Int × iS) ⊕ (Int × iS) → am_E → Prop := fun q r => q.elim (fun l => ev w d 295 6 ((fun l => [(0, .ref (tb_nK + 121)), (1, iv (l.1)), (2, iv (l.2.1)), (3, iv (l.2.2.1))]) l) [] (H ((fun l => l.2.2.2) l)) r) (fun e => (fun e r => ev w d 295 121 [(0, .ref (tb_nK + 121)), (2, iv (e.1))] [] (H (e.2)) r) e r)
noncomputable def m_system_97 (v1 : Int) (v2 : Int) (v3 : Int) (s : iS) : Option ((Int × Int × Int × iS) ⊕ (Int × iS)) := (lp (L := Int × iS) (E := Int × iS) (fun l => m_system_97b v1 v2 (l.1) (l.2)) (v3, s)).bind (fun e => some (.inl (v1, v2, (e.1 + 1), e.2)))
theorem tm_system_97 (H : iS → List am_C) (w : ev_W) (d : Nat) (hd : 0 ≤ d) (hc_121 : Ho H 121 13 [some 122, none, some 123, none, none, some 124, some 125, some 126, some 127, none, none, none, none, some 128, none, some 129, none, none, some 130, some 131, some 132, some 133, some 134, some 135, some 136, none, some 137, some 138, some 139, some 140, some 141, some 142, some 143, none, some 144, some 145, some 146, some 147, some 148, none, some 149, some 150, some 151, some 152, some 153, some 154, some 155, some 156, none, none, none, none, some 157, some 158, some 159, none, some 160, some 161, some 162, some 163, none, none, none, some 164, some 165, some 166, some 167, some 168, some 169, none, none, none, none, some 170, none, some 171, none, some 172, some 173, some 174, some 175, none, some 176, some 177, some 178, some 179, some 180, none, none, none, some 181, some 182, some 183, some 184, some 185, none, none, none, none, none, none, some 186, none, none, none, some 187, none, none, none, some 188, none, some 189, none, some 190, some 191, some 192, some 193, some 194, none, none, none, none, none, some 195, some 196, none, some 197, some 198, some 199, some 200, some 201, none, some 202, some 203, none, some 204, some 205, some 206, some 207, some 208, some 209, some 210, some 211, some 212, none, some 213, some 214, some 215, none, none, none, some 216, none, some 217, some 218, some 219, some 220, some 221, none, some 222, some 223, none, some 224, some 225, some 226, some 227, none, some 228, some 229, some 230, none, some 231, some 232, none, none, some 233]) (hc_164 : Ha H 164 0 9) (hc_165 : Ha H 165 0 8) (hc_166 : Ha H 166 0 60) (hc_167 : Ha H 167 4 60) (hc_168 : Ha H 168 0 60) (v1 : Int) (v2 : Int) (v3 : Int) (s : iS) : Ew H w d 295 97 [(0, .ref (tb_nK + 121)), (1, iv v1), (2, iv v2), (3, iv v3)] [] s (m_system_6C H w d) (m_system_97 v1 v2 v3 s) := by
  unfold m_system_97
  refine e_lp (LO := fun l => [(0, .ref (tb_nK + 121)), (1, iv v1), (2, iv v2), (3, iv (l.1))]) (LS := fun l => l.2) (CE := fun e r => ev w d 295 114 [(0, .ref (tb_nK + 121)), (1, iv v1), (2, iv v2), (3, iv (e.1))] [] (H (e.2)) r) (fun l => tm_system_97b H w d hd hc_121 hc_164 hc_165 hc_166 hc_167 hc_168 _ _ _ _) ?_ (v3, s)
  intro e
  show Ew H w d 295 114 [(0, .ref (tb_nK + 121)), (1, iv v1), (2, iv v2), (3, iv (e.1))] [] e.2 (m_system_6C H w d) _
  refine e_mv 115 em_295 (ce_at ce_295 76 rfl) rfl rfl ?_
  refine e_op 116 em_295 (ce_at ce_295 77 rfl) rfl rfl ?_
  refine e_iadd 117 em_295 rfl (ce_at ce_295 78 rfl) ?_
  refine e_mv 118 em_295 (ce_at ce_295 79 rfl) rfl rfl ?_
  refine e_goto em_295 6 (ce_at ce_295 80 rfl) rfl ?_
  refine e_pk [0, 1, 2, 3] rfl rfl ?_
  exact e_out (fun r h => h)
theorem fm_system_97 (v1 : Int) (v2 : Int) (v3 : Int) (s : iS) : Fm (fun r : (Int × Int × Int × iS) ⊕ (Int × iS) => r.elim (fun l => l.2.2.2) (fun e => e.2)) L_m_system G_m_system s (m_system_97 v1 v2 v3 s) := fm_lp (LS := fun l => l.2) (LE := fun e => e.2) (fun l => fm_system_97b _ _ _ _) (fun e => fm_some md_refl) (v3, s)
noncomputable def m_system_67 (v1 : Int) (v2 : Int) (v3 : Int) (t0 : Int) (t1 : Int) (s : iS) : Option ((Int × Int × Int × iS) ⊕ (Int × iS)) := gd (0 ≤ t1 ∧ t1 < 60) (gd (t0 = 0 ∨ t0 = 1) (lt' (up s 167 t1.toNat t0) (fun s3 => gd (0 ≤ (v3 + 1) ∧ (v3 + 1) < 465) (gd (0 ≤ v2 ∧ v2 < 60) (lt' (up s3 168 v2.toNat ((ka_5 ((v3 + 1).toNat)).toInt - 48)) (fun s6 => lt' (up s6 166 v2.toNat (v3 + 2)) (fun s7 => m_system_97 v1 (v2 + 1) v3 s7)))))))
theorem tm_system_67 (H : iS → List am_C) (w : ev_W) (d : Nat) (hd : 0 ≤ d) (hc_121 : Ho H 121 13 [some 122, none, some 123, none, none, some 124, some 125, some 126, some 127, none, none, none, none, some 128, none, some 129, none, none, some 130, some 131, some 132, some 133, some 134, some 135, some 136, none, some 137, some 138, some 139, some 140, some 141, some 142, some 143, none, some 144, some 145, some 146, some 147, some 148, none, some 149, some 150, some 151, some 152, some 153, some 154, some 155, some 156, none, none, none, none, some 157, some 158, some 159, none, some 160, some 161, some 162, some 163, none, none, none, some 164, some 165, some 166, some 167, some 168, some 169, none, none, none, none, some 170, none, some 171, none, some 172, some 173, some 174, some 175, none, some 176, some 177, some 178, some 179, some 180, none, none, none, some 181, some 182, some 183, some 184, some 185, none, none, none, none, none, none, some 186, none, none, none, some 187, none, none, none, some 188, none, some 189, none, some 190, some 191, some 192, some 193, some 194, none, none, none, none, none, some 195, some 196, none, some 197, some 198, some 199, some 200, some 201, none, some 202, some 203, none, some 204, some 205, some 206, some 207, some 208, some 209, some 210, some 211, some 212, none, some 213, some 214, some 215, none, none, none, some 216, none, some 217, some 218, some 219, some 220, some 221, none, some 222, some 223, none, some 224, some 225, some 226, some 227, none, some 228, some 229, some 230, none, some 231, some 232, none, none, some 233]) (hc_164 : Ha H 164 0 9) (hc_165 : Ha H 165 0 8) (hc_166 : Ha H 166 0 60) (hc_167 : Ha H 167 4 60) (hc_168 : Ha H 168 0 60) (v1 : Int) (v2 : Int) (v3 : Int) (t0 : Int) (t1 : Int) (s : iS) : Ew H w d 295 67 [(0, .ref (tb_nK + 121)), (1, iv v1), (2, iv v2), (3, iv v3)] [iv t0, iv t1, .ref (tb_nK + 167)] s (m_system_6C H w d) (m_system_67 v1 v2 v3 t0 t1 s) := by
  unfold m_system_67
  refine e_gd fun g1 => ?_
  refine e_gd fun g2 => ?_
  refine e_zst 68 em_295 (ce_at ce_295 43 rfl) hc_167 (by decide) g1 g2 rfl (fun s3 => ?_)
  refine e_mv 69 em_295 (ce_at ce_295 44 rfl) rfl rfl ?_
  refine e_getr 72 em_295 (ce_at ce_295 45 rfl) hc_121 rfl rfl ?_
  refine e_mv 73 em_295 (ce_at ce_295 46 rfl) rfl rfl ?_
  refine e_gst 76 em_295 (ce_at ce_295 47 rfl) rfl rfl ?_
  refine e_mv 77 em_295 (ce_at ce_295 48 rfl) rfl rfl ?_
  refine e_op 78 em_295 (ce_at ce_295 49 rfl) rfl rfl ?_
  refine e_iadd 79 em_295 rfl (ce_at ce_295 50 rfl) ?_
  refine e_gd fun g4 => ?_
  refine e_cldk 80 em_295 (ce_at ce_295 51 rfl) (by decide) (kt_5 _ _) (by decide) g4 rfl ?_
  refine e_bip 82 em_295 (ce_at ce_295 52 rfl) (by decide) rfl ?_
  refine e_isub 83 em_295 rfl (ce_at ce_295 53 rfl) ?_
  refine e_gd fun g5 => ?_
  refine e_ist 84 em_295 (ce_at ce_295 54 rfl) hc_168 (by decide) g5 rfl (fun s6 => ?_)
  refine e_mv 85 em_295 (ce_at ce_295 55 rfl) rfl rfl ?_
  refine e_getr 88 em_295 (ce_at ce_295 56 rfl) hc_121 rfl rfl ?_
  refine e_mv 89 em_295 (ce_at ce_295 57 rfl) rfl rfl ?_
  refine e_mv 90 em_295 (ce_at ce_295 58 rfl) rfl rfl ?_
  refine e_op 91 em_295 (ce_at ce_295 59 rfl) rfl rfl ?_
  refine e_iadd 92 em_295 rfl (ce_at ce_295 60 rfl) ?_
  refine e_ist 93 em_295 (ce_at ce_295 61 rfl) hc_166 (by decide) g5 rfl (fun s7 => ?_)
  refine e_mv 94 em_295 (ce_at ce_295 62 rfl) rfl rfl ?_
  refine e_op 95 em_295 (ce_at ce_295 63 rfl) rfl rfl ?_
  refine e_iadd 96 em_295 rfl (ce_at ce_295 64 rfl) ?_
  refine e_mv 97 em_295 (ce_at ce_295 65 rfl) rfl rfl ?_
  refine e_pk [0, 1, 2, 3] rfl rfl ?_
  exact tm_system_97 H w d hd hc_121 hc_164 hc_165 hc_166 hc_167 hc_168 _ _ _ _
theorem fm_system_67 (v1 : Int) (v2 : Int) (v3 : Int) (t0 : Int) (t1 : Int) (s : iS) : Fm (fun r : (Int × Int × Int × iS) ⊕ (Int × iS) => r.elim (fun l => l.2.2.2) (fun e => e.2)) L_m_system G_m_system s (m_system_67 v1 v2 v3 t0 t1 s) := fm_gd (fm_gd (fm_lt (md_upL (mem_L rfl)) (fun s3 => fm_gd (fm_gd (fm_lt (md_upL (mem_L rfl)) (fun s6 => fm_lt (md_upL (mem_L rfl)) (fun s7 => fm_system_97 _ _ _ _)))))))
noncomputable def m_system_6b (v1 : Int) (v2 : Int) (v3 : Int) (s : iS) : Option ((Int × Int × Int × iS) ⊕ (Int × iS)) := gd (rg v3) (if 465 ≤ v3 then some (.inr (v2, s)) else gd (0 ≤ v3 ∧ v3 < 465) (gd (rg ((ka_5 v3.toNat).toInt)) (if (ka_5 v3.toNat).toInt = 33 then gd (0 ≤ v1 ∧ v1 < 8) (lt' (up s 165 v1.toNat (v3 + 1)) (fun s8 => gd (0 ≤ v1 ∧ v1 < 9) (lt' (up s8 164 v1.toNat v2) (fun s10 => m_system_97 (v1 + 1) v2 v3 s10)))) else if (ka_5 v3.toNat).toInt = 35 then m_system_67 v1 v2 v3 1 v2 s else m_system_67 v1 v2 v3 0 v2 s)))
theorem tm_system_6b (H : iS → List am_C) (w : ev_W) (d : Nat) (hd : 0 ≤ d) (hc_121 : Ho H 121 13 [some 122, none, some 123, none, none, some 124, some 125, some 126, some 127, none, none, none, none, some 128, none, some 129, none, none, some 130, some 131, some 132, some 133, some 134, some 135, some 136, none, some 137, some 138, some 139, some 140, some 141, some 142, some 143, none, some 144, some 145, some 146, some 147, some 148, none, some 149, some 150, some 151, some 152, some 153, some 154, some 155, some 156, none, none, none, none, some 157, some 158, some 159, none, some 160, some 161, some 162, some 163, none, none, none, some 164, some 165, some 166, some 167, some 168, some 169, none, none, none, none, some 170, none, some 171, none, some 172, some 173, some 174, some 175, none, some 176, some 177, some 178, some 179, some 180, none, none, none, some 181, some 182, some 183, some 184, some 185, none, none, none, none, none, none, some 186, none, none, none, some 187, none, none, none, some 188, none, some 189, none, some 190, some 191, some 192, some 193, some 194, none, none, none, none, none, some 195, some 196, none, some 197, some 198, some 199, some 200, some 201, none, some 202, some 203, none, some 204, some 205, some 206, some 207, some 208, some 209, some 210, some 211, some 212, none, some 213, some 214, some 215, none, none, none, some 216, none, some 217, some 218, some 219, some 220, some 221, none, some 222, some 223, none, some 224, some 225, some 226, some 227, none, some 228, some 229, some 230, none, some 231, some 232, none, none, some 233]) (hc_164 : Ha H 164 0 9) (hc_165 : Ha H 165 0 8) (hc_166 : Ha H 166 0 60) (hc_167 : Ha H 167 4 60) (hc_168 : Ha H 168 0 60) (v1 : Int) (v2 : Int) (v3 : Int) (s : iS) : Ew H w d 295 6 [(0, .ref (tb_nK + 121)), (1, iv v1), (2, iv v2), (3, iv v3)] [] s (m_system_6C H w d) (m_system_6b v1 v2 v3 s) := by
  unfold m_system_6b
  refine e_mv 7 em_295 (ce_at ce_295 6 rfl) rfl rfl ?_
  refine e_gst 10 em_295 (ce_at ce_295 7 rfl) rfl rfl ?_
  refine e_alenk 11 em_295 (ce_at ce_295 8 rfl) (by decide) (kt_5 _ _) (by decide) rfl rfl ?_
  refine e_gd fun g1 => ?_
  refine e_cmge 121 14 em_295 rfl rfl (ce_at ce_295 9 rfl) g1 (by decide) (fun h2 => ?_) (fun h2 => ?_)
  · refine e_pk [0, 2] rfl rfl ?_
    exact e_out (fun r h => h)
  · refine e_gst 17 em_295 (ce_at ce_295 10 rfl) rfl rfl ?_
    refine e_mv 18 em_295 (ce_at ce_295 11 rfl) rfl rfl ?_
    refine e_gd fun g3 => ?_
    refine e_cldk 19 em_295 (ce_at ce_295 12 rfl) (by decide) (kt_5 _ _) (by decide) g3 rfl ?_
    refine e_bip 21 em_295 (ce_at ce_295 13 rfl) (by decide) rfl ?_
    refine e_gd fun g4 => ?_
    refine e_cmne 47 24 em_295 rfl rfl (ce_at ce_295 14 rfl) g4 (by decide) (fun h5 => ?_) (fun h5 => ?_)
    · refine e_mv 48 em_295 (ce_at ce_295 32 rfl) rfl rfl ?_
      refine e_getr 51 em_295 (ce_at ce_295 33 rfl) hc_121 rfl rfl ?_
      refine e_mv 52 em_295 (ce_at ce_295 34 rfl) rfl rfl ?_
      refine e_gst 55 em_295 (ce_at ce_295 35 rfl) rfl rfl ?_
      refine e_mv 56 em_295 (ce_at ce_295 36 rfl) rfl rfl ?_
      refine e_cldk 57 em_295 (ce_at ce_295 37 rfl) (by decide) (kt_5 _ _) (by decide) g3 rfl ?_
      refine e_bip 59 em_295 (ce_at ce_295 38 rfl) (by decide) rfl ?_
      refine e_cmne 66 62 em_295 rfl rfl (ce_at ce_295 39 rfl) g4 (by decide) (fun h6 => ?_) (fun h6 => ?_)
      · refine e_op 67 em_295 (ce_at ce_295 42 rfl) rfl rfl ?_
        refine e_pk [0, 1, 2, 3] rfl rfl ?_
        exact tm_system_67 H w d hd hc_121 hc_164 hc_165 hc_166 hc_167 hc_168 _ _ _ _ _ _
      · refine e_op 63 em_295 (ce_at ce_295 40 rfl) rfl rfl ?_
        refine e_goto em_295 67 (ce_at ce_295 41 rfl) rfl ?_
        refine e_pk [0, 1, 2, 3] rfl rfl ?_
        exact tm_system_67 H w d hd hc_121 hc_164 hc_165 hc_166 hc_167 hc_168 _ _ _ _ _ _
    · refine e_mv 25 em_295 (ce_at ce_295 15 rfl) rfl rfl ?_
      refine e_getr 28 em_295 (ce_at ce_295 16 rfl) hc_121 rfl rfl ?_
      refine e_mv 29 em_295 (ce_at ce_295 17 rfl) rfl rfl ?_
      refine e_mv 30 em_295 (ce_at ce_295 18 rfl) rfl rfl ?_
      refine e_op 31 em_295 (ce_at ce_295 19 rfl) rfl rfl ?_
      refine e_iadd 32 em_295 rfl (ce_at ce_295 20 rfl) ?_
      refine e_gd fun g7 => ?_
      refine e_ist 33 em_295 (ce_at ce_295 21 rfl) hc_165 (by decide) g7 rfl (fun s8 => ?_)
      refine e_mv 34 em_295 (ce_at ce_295 22 rfl) rfl rfl ?_
      refine e_getr 37 em_295 (ce_at ce_295 23 rfl) hc_121 rfl rfl ?_
      refine e_mv 38 em_295 (ce_at ce_295 24 rfl) rfl rfl ?_
      refine e_mv 39 em_295 (ce_at ce_295 25 rfl) rfl rfl ?_
      refine e_gd fun g9 => ?_
      refine e_ist 40 em_295 (ce_at ce_295 26 rfl) hc_164 (by decide) g9 rfl (fun s10 => ?_)
      refine e_mv 41 em_295 (ce_at ce_295 27 rfl) rfl rfl ?_
      refine e_op 42 em_295 (ce_at ce_295 28 rfl) rfl rfl ?_
      refine e_iadd 43 em_295 rfl (ce_at ce_295 29 rfl) ?_
      refine e_mv 44 em_295 (ce_at ce_295 30 rfl) rfl rfl ?_
      refine e_goto em_295 97 (ce_at ce_295 31 rfl) rfl ?_
      refine e_pk [0, 1, 2, 3] rfl rfl ?_
      exact tm_system_97 H w d hd hc_121 hc_164 hc_165 hc_166 hc_167 hc_168 _ _ _ _
theorem fm_system_6b (v1 : Int) (v2 : Int) (v3 : Int) (s : iS) : Fm (fun r : (Int × Int × Int × iS) ⊕ (Int × iS) => r.elim (fun l => l.2.2.2) (fun e => e.2)) L_m_system G_m_system s (m_system_6b v1 v2 v3 s) := fm_gd (fm_if (fm_some md_refl) (fm_gd (fm_gd (fm_if (fm_gd (fm_lt (md_upL (mem_L rfl)) (fun s8 => fm_gd (fm_lt (md_upL (mem_L rfl)) (fun s10 => fm_system_97 _ _ _ _))))) (fm_if (fm_system_67 _ _ _ _ _ _) (fm_system_67 _ _ _ _ _ _))))))
noncomputable def m_system_121 (v2 : Int) (s : iS) : Option (Int × iS) := lt' (up s 164 8 v2) (fun s1 => some (0, s1))
theorem tm_system_121 (H : iS → List am_C) (w : ev_W) (d : Nat) (hd : 0 ≤ d) (hc_121 : Ho H 121 13 [some 122, none, some 123, none, none, some 124, some 125, some 126, some 127, none, none, none, none, some 128, none, some 129, none, none, some 130, some 131, some 132, some 133, some 134, some 135, some 136, none, some 137, some 138, some 139, some 140, some 141, some 142, some 143, none, some 144, some 145, some 146, some 147, some 148, none, some 149, some 150, some 151, some 152, some 153, some 154, some 155, some 156, none, none, none, none, some 157, some 158, some 159, none, some 160, some 161, some 162, some 163, none, none, none, some 164, some 165, some 166, some 167, some 168, some 169, none, none, none, none, some 170, none, some 171, none, some 172, some 173, some 174, some 175, none, some 176, some 177, some 178, some 179, some 180, none, none, none, some 181, some 182, some 183, some 184, some 185, none, none, none, none, none, none, some 186, none, none, none, some 187, none, none, none, some 188, none, some 189, none, some 190, some 191, some 192, some 193, some 194, none, none, none, none, none, some 195, some 196, none, some 197, some 198, some 199, some 200, some 201, none, some 202, some 203, none, some 204, some 205, some 206, some 207, some 208, some 209, some 210, some 211, some 212, none, some 213, some 214, some 215, none, none, none, some 216, none, some 217, some 218, some 219, some 220, some 221, none, some 222, some 223, none, some 224, some 225, some 226, some 227, none, some 228, some 229, some 230, none, some 231, some 232, none, none, some 233]) (hc_164 : Ha H 164 0 9) (hc_165 : Ha H 165 0 8) (hc_166 : Ha H 166 0 60) (hc_167 : Ha H 167 4 60) (hc_168 : Ha H 168 0 60) (v2 : Int) (s : iS) : Ew H w d 295 121 [(0, .ref (tb_nK + 121)), (2, iv v2)] [] s (Cv H) (m_system_121 v2 s) := by
  unfold m_system_121
  refine e_mv 122 em_295 (ce_at ce_295 81 rfl) rfl rfl ?_
  refine e_getr 125 em_295 (ce_at ce_295 82 rfl) hc_121 rfl rfl ?_
  refine e_bip 127 em_295 (ce_at ce_295 83 rfl) (by decide) rfl ?_
  refine e_mv 128 em_295 (ce_at ce_295 84 rfl) rfl rfl ?_
  refine e_ist 129 em_295 (ce_at ce_295 85 rfl) hc_164 (by decide) (by decide) rfl (fun s1 => ?_)
  exact e_retv em_295 (ce_at ce_295 86 rfl)
theorem fm_system_121 (v2 : Int) (s : iS) : Fm Prod.snd L_m_system G_m_system s (m_system_121 v2 s) := fm_lt (md_upL (mem_L rfl)) (fun s1 => fm_some md_refl)
noncomputable def m_system_6 (v1 : Int) (v2 : Int) (v3 : Int) (s : iS) : Option (Int × iS) := (lp (L := Int × Int × Int × iS) (E := Int × iS) (fun l => m_system_6b (l.1) (l.2.1) (l.2.2.1) (l.2.2.2)) (v1, v2, v3, s)).bind (fun e => m_system_121 (e.1) (e.2))
theorem tm_system_6 (H : iS → List am_C) (w : ev_W) (d : Nat) (hd : 0 ≤ d) (hc_121 : Ho H 121 13 [some 122, none, some 123, none, none, some 124, some 125, some 126, some 127, none, none, none, none, some 128, none, some 129, none, none, some 130, some 131, some 132, some 133, some 134, some 135, some 136, none, some 137, some 138, some 139, some 140, some 141, some 142, some 143, none, some 144, some 145, some 146, some 147, some 148, none, some 149, some 150, some 151, some 152, some 153, some 154, some 155, some 156, none, none, none, none, some 157, some 158, some 159, none, some 160, some 161, some 162, some 163, none, none, none, some 164, some 165, some 166, some 167, some 168, some 169, none, none, none, none, some 170, none, some 171, none, some 172, some 173, some 174, some 175, none, some 176, some 177, some 178, some 179, some 180, none, none, none, some 181, some 182, some 183, some 184, some 185, none, none, none, none, none, none, some 186, none, none, none, some 187, none, none, none, some 188, none, some 189, none, some 190, some 191, some 192, some 193, some 194, none, none, none, none, none, some 195, some 196, none, some 197, some 198, some 199, some 200, some 201, none, some 202, some 203, none, some 204, some 205, some 206, some 207, some 208, some 209, some 210, some 211, some 212, none, some 213, some 214, some 215, none, none, none, some 216, none, some 217, some 218, some 219, some 220, some 221, none, some 222, some 223, none, some 224, some 225, some 226, some 227, none, some 228, some 229, some 230, none, some 231, some 232, none, none, some 233]) (hc_164 : Ha H 164 0 9) (hc_165 : Ha H 165 0 8) (hc_166 : Ha H 166 0 60) (hc_167 : Ha H 167 4 60) (hc_168 : Ha H 168 0 60) (v1 : Int) (v2 : Int) (v3 : Int) (s : iS) : Ew H w d 295 6 [(0, .ref (tb_nK + 121)), (1, iv v1), (2, iv v2), (3, iv v3)] [] s (Cv H) (m_system_6 v1 v2 v3 s) := by
  unfold m_system_6
  refine e_lp (LO := fun l => [(0, .ref (tb_nK + 121)), (1, iv (l.1)), (2, iv (l.2.1)), (3, iv (l.2.2.1))]) (LS := fun l => l.2.2.2) (CE := fun e r => ev w d 295 121 [(0, .ref (tb_nK + 121)), (2, iv (e.1))] [] (H (e.2)) r) (fun l => tm_system_6b H w d hd hc_121 hc_164 hc_165 hc_166 hc_167 hc_168 _ _ _ _) ?_ (v1, v2, v3, s)
  intro e
  show Ew H w d 295 121 [(0, .ref (tb_nK + 121)), (2, iv (e.1))] [] e.2 (Cv H) _
  refine e_pk [0, 2] rfl rfl ?_
  exact tm_system_121 H w d hd hc_121 hc_164 hc_165 hc_166 hc_167 hc_168 _ _
theorem fm_system_6 (v1 : Int) (v2 : Int) (v3 : Int) (s : iS) : Fm Prod.snd L_m_system G_m_system s (m_system_6 v1 v2 v3 s) := fm_lp (LS := fun l => l.2.2.2) (LE := fun e => e.2) (fun l => fm_system_6b _ _ _ _) (fun e => fm_system_121 _ _) (v1, v2, v3, s)
noncomputable def m_system (s : iS) : Option (Int × iS) := m_system_6 0 0 0 s
theorem tm_system (H : iS → List am_C) (w : ev_W) (d : Nat) (hd : 0 ≤ d) (hc_121 : Ho H 121 13 [some 122, none, some 123, none, none, some 124, some 125, some 126, some 127, none, none, none, none, some 128, none, some 129, none, none, some 130, some 131, some 132, some 133, some 134, some 135, some 136, none, some 137, some 138, some 139, some 140, some 141, some 142, some 143, none, some 144, some 145, some 146, some 147, some 148, none, some 149, some 150, some 151, some 152, some 153, some 154, some 155, some 156, none, none, none, none, some 157, some 158, some 159, none, some 160, some 161, some 162, some 163, none, none, none, some 164, some 165, some 166, some 167, some 168, some 169, none, none, none, none, some 170, none, some 171, none, some 172, some 173, some 174, some 175, none, some 176, some 177, some 178, some 179, some 180, none, none, none, some 181, some 182, some 183, some 184, some 185, none, none, none, none, none, none, some 186, none, none, none, some 187, none, none, none, some 188, none, some 189, none, some 190, some 191, some 192, some 193, some 194, none, none, none, none, none, some 195, some 196, none, some 197, some 198, some 199, some 200, some 201, none, some 202, some 203, none, some 204, some 205, some 206, some 207, some 208, some 209, some 210, some 211, some 212, none, some 213, some 214, some 215, none, none, none, some 216, none, some 217, some 218, some 219, some 220, some 221, none, some 222, some 223, none, some 224, some 225, some 226, some 227, none, some 228, some 229, some 230, none, some 231, some 232, none, none, some 233]) (hc_164 : Ha H 164 0 9) (hc_165 : Ha H 165 0 8) (hc_166 : Ha H 166 0 60) (hc_167 : Ha H 167 4 60) (hc_168 : Ha H 168 0 60) (s : iS) : Ew H w d 295 0 [(0, .ref (tb_nK + 121))] [] s (Cv H) (m_system s) := by
  unfold m_system
  refine e_op 1 em_295 (ce_at ce_295 0 rfl) rfl rfl ?_
  refine e_mv 2 em_295 (ce_at ce_295 1 rfl) rfl rfl ?_
  refine e_op 3 em_295 (ce_at ce_295 2 rfl) rfl rfl ?_
  refine e_mv 4 em_295 (ce_at ce_295 3 rfl) rfl rfl ?_
  refine e_op 5 em_295 (ce_at ce_295 4 rfl) rfl rfl ?_
  refine e_mv 6 em_295 (ce_at ce_295 5 rfl) rfl rfl ?_
  refine e_pk [0, 1, 2, 3] rfl rfl ?_
  exact tm_system_6 H w d hd hc_121 hc_164 hc_165 hc_166 hc_167 hc_168 _ _ _ _
theorem fm_system (s : iS) : Fm Prod.snd L_m_system G_m_system s (m_system s) := fm_system_6 _ _ _ _
