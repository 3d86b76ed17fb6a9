/-! the system's subs: strings -/
section LBe
variable {s s' t t' : iS} {a b v x y : Int} {f g : iS → Option (Int × iS)} {V : Int → Int → Prop}
theorem DCl_gd {c : Prop} [Decidable c] (hc : c) (h : DCl f) : DCl (fun s => gd c (f s)) := fun s t h1 h2 => by
  obtain ⟨r, e1, e2⟩ := h s t h1 h2
  exact ⟨r, by show gd c (f s) = _; rw [gd_pos hc, e1], e2⟩
theorem DRf_gd {c : Prop} [Decidable c] (hc : c) (h : DRf f) : DRf (fun s => gd c (f s)) := fun s t h1 h2 => by
  obtain ⟨r, e1, e2⟩ := h s t h1 h2
  exact ⟨r, by show gd c (f t) = _; rw [gd_pos hc, e1], e2⟩
theorem DCl_if {c : Prop} [Decidable c] (h : DCl f) (h' : DCl g) : DCl (fun s => if c then f s else g s) := fun s t h1 h2 => by
  by_cases q : c
  · obtain ⟨r, e1, e2⟩ := h s t h1 h2
    exact ⟨r, by show (if c then f s else g s) = _; rw [if_pos q, e1], e2⟩
  · obtain ⟨r, e1, e2⟩ := h' s t h1 h2
    exact ⟨r, by show (if c then f s else g s) = _; rw [if_neg q, e1], e2⟩
theorem DRf_if {c : Prop} [Decidable c] (h : DRf f) (h' : DRf g) : DRf (fun s => if c then f s else g s) := fun s t h1 h2 => by
  by_cases q : c
  · obtain ⟨r, e1, e2⟩ := h s t h1 h2
    exact ⟨r, by show (if c then f t else g t) = _; rw [if_pos q, e1], e2⟩
  · obtain ⟨r, e1, e2⟩ := h' s t h1 h2
    exact ⟨r, by show (if c then f t else g t) = _; rw [if_neg q, e1], e2⟩
theorem DCl_5 (h : DCl g) : DCl (fun s => gd (rg (s 44 5)) (if (s 44 5) = 0 then f s else g s)) := fun s t h1 h2 => by
  obtain ⟨r, e1, e2⟩ := h s t h1 h2
  exact ⟨r, by show gd (rg (s 44 5)) (if (s 44 5) = 0 then f s else g s) = _; rw [h2.1, gr (by omega), if_neg (by omega), e1], e2⟩
theorem DRf_99 (h : DRf g) : DRf (fun s => gd (rg (s 121 99)) (if (s 121 99) = (-1) then f s else g s)) := fun s t h1 h2 => by
  obtain ⟨r, e1, e2⟩ := h s t h1 h2
  exact ⟨r, by show gd (rg (t 121 99)) (if (t 121 99) = (-1) then f t else g t) = _; rw [h2.2, gr (by omega), if_neg (by omega), e1], e2⟩
theorem kk5 {α : Type} {X Y : Option α} (hg : gO s t) : gd (rg (s 44 5)) (if (s 44 5) = 0 then X else Y) = X := by rw [hg.1, gr (by omega), if_pos rfl]
theorem kk99 {α : Type} {X Y : Option α} (hg : gO s t) : gd (rg (t 121 99)) (if (t 121 99) = (-1) then X else Y) = X := by rw [hg.2, gr (by omega), if_pos rfl]
/-- a new string -/
theorem ns32_dr : DRf (m_newString_32 v x) := DRf_99 (DRf_some (by decide))
theorem ns10_dr (hv : w16 v) : DRf (m_newString_10 v) := DRf_99 ns32_dr
theorem nsc_dc (hx : w16 x) : DCl (fun s3 => gd (rg (s3 44 5)) (if (s3 44 5) = 0 then bd (mem_write x v s3) (fun r6 s6 => bd (mem_write (x + 1) 0 s6) (fun r7 s7 => some (x, s7))) else some (x, s3))) := DCl_5 (DCl_some hx)
theorem ns_ok1 (h : LB s t) (hg : gO s t) (hv : w16 v) : Ov (fun r r' => r = r' ∧ w16 r) (lib_newString v s) (m_newString v t) := by
  unfold lib_newString m_newString
  rw [gr (by omega), gr (by omega)]
  by_cases c : 0 ≤ v
  · rw [if_pos c, if_pos c]
    unfold m_newString_10 m_word16
    rw [kk99 hg, bq]
    refine Ov_bd (mk_ok1 h hg (i_s_rg _)) (fun r r' s3 t3 hr hl hg3 => ?_) (fun r hr => nsc_dc hr) (fun _ _ => ns32_dr)
    obtain ⟨e, r1, r2⟩ := hr
    subst e
    unfold m_newString_32
    rw [kk5 hg3, kk99 hg3]
    refine Ov_bd (wr_ok1 hl hg3) (fun _ _ s4 t4 _ hl4 hg4 => ?_) (fun _ _ => DCl_bd wr_dc (fun _ _ => DCl_some ⟨by omega, by omega⟩)) (fun _ _ => DRf_bd wr_dr (fun _ _ => DRf_some ⟨by omega, by omega⟩))
    exact Ov_bd (wr_ok1 hl4 hg4) (fun _ _ s5 t5 _ hl5 hg5 => Ov_some hl5 hg5 ⟨rfl, by omega, by omega⟩) (fun _ _ => DCl_some ⟨by omega, by omega⟩) (fun _ _ => DRf_some ⟨by omega, by omega⟩)
  · rw [if_neg c, if_neg c]
    exact Ov_bd (V := fun _ _ => False) (fail_go h hg (by decide)) (fun _ _ _ _ q _ _ => q.elim) (fun r hr => DCl_some hr) (fun _ _ => ns10_dr hv)
/-- a sign of a string -/
theorem ca35_dr : DRf (m_charAt_35 a b) := DRf_99 (DRf_some (by decide))
theorem ca10_dr : DRf (m_charAt_10 a b) := DRf_99 ca35_dr
theorem ca18_dc : DCl lib_charAt_18 := DCl_bd fail_dc (fun _ hr => DCl_some hr)
theorem ca_ok1 (h : LB s t) (hg : gO s t) (hb : w16 b) : Ov (fun r r' => r = r' ∧ w16 r) (lib_charAt a b s) (m_charAt a b t) := by
  unfold lib_charAt m_charAt
  rw [gr (by omega), gr (by omega)]
  by_cases c : 0 ≤ b
  · rw [if_neg (by omega), if_pos c]
    unfold m_charAt_10
    rw [kk99 hg]
    refine Ov_bd (rd_ok1 h hg) (fun r r' s3 t3 hr hl hg3 => ?_) (fun r hr => DCl_gd ⟨by omega, by omega⟩ (DCl_if (DCl_bd rd_dc (fun _ hr => DCl_some hr)) ca18_dc)) (fun r hr => DRf_gd ⟨by omega, by omega⟩ (DRf_gd ⟨by omega, by omega⟩ (DRf_if ca35_dr (DRf_bd err_dr (fun _ _ => ca35_dr)))))
    obtain ⟨e, r1⟩ := hr
    subst e
    rw [gr (by omega), gr (by omega), gr (by omega)]
    by_cases c2 : b < r
    · rw [if_pos c2, if_pos c2]
      unfold m_charAt_35
      rw [kk99 hg3]
      exact Ov_bd (rd_ok1 hl hg3) (fun r r' s4 t4 hr hl4 hg4 => Ov_some hl4 hg4 hr) (fun _ hr => DCl_some hr) (fun _ hr => DRf_some hr)
    · rw [if_neg c2, if_neg c2]
      exact Ov_bd (V := fun _ _ => False) (fail_go hl hg3 (by decide)) (fun _ _ _ _ q _ _ => q.elim) (fun r hr => DCl_some hr) (fun _ _ => ca35_dr)
  · rw [if_pos (by omega), if_neg c]
    exact Ov_bd (V := fun _ _ => False) (fail_go h hg (by decide)) (fun _ _ _ _ q _ _ => q.elim) (fun r hr => DCl_some hr) (fun _ _ => ca10_dr)
/-- one sign more -/
theorem ap23_dr : DRf (m_append_23 a b x) := DRf_99 (DRf_some (by decide))
theorem ap_dr : DRf (m_append a b) := DRf_bd rd_dr (fun r hr => DRf_bd rd_dr (fun r' hr' => DRf_gd ⟨by omega, by omega⟩ (DRf_gd ⟨by omega, by omega⟩ (DRf_if ap23_dr (DRf_bd err_dr (fun _ _ => ap23_dr))))))
theorem ap_dc (ha : w16 a) : DCl (lib_appendChar a b) := DCl_bd rd_dc (fun r hr => DCl_bd rd_dc (fun r' hr' => DCl_gd ⟨by omega, by omega⟩ (DCl_gd ⟨by omega, by omega⟩ (DCl_if (DCl_bd wr_dc (fun _ _ => DCl_bd wr_dc (fun _ _ => DCl_some ha))) (DCl_bd fail_dc (fun _ hr => DCl_some hr))))))
theorem ap_ok1 (h : LB s t) (hg : gO s t) (ha : w16 a) : Ov (fun r r' => r = a ∧ r' = 0) (lib_appendChar a b s) (m_append a b t) := by
  unfold lib_appendChar m_append
  refine Ov_bd (rd_ok1 h hg) (fun r r' s1 t1 hr hl hg1 => ?_) (fun r hr => DCl_bd rd_dc (fun r' hr' => DCl_gd ⟨by omega, by omega⟩ (DCl_gd ⟨by omega, by omega⟩ (DCl_if (DCl_bd wr_dc (fun _ _ => DCl_bd wr_dc (fun _ _ => DCl_some ha))) (DCl_bd fail_dc (fun _ hr => DCl_some hr)))))) (fun r hr => DRf_bd rd_dr (fun r' hr' => DRf_gd ⟨by omega, by omega⟩ (DRf_gd ⟨by omega, by omega⟩ (DRf_if ap23_dr (DRf_bd err_dr (fun _ _ => ap23_dr))))))
  obtain ⟨e, r1⟩ := hr
  subst e
  refine Ov_bd (rd_ok1 hl hg1) (fun r2 r2' s2 t2 hr2 hl2 hg2 => ?_) (fun r' hr' => DCl_gd ⟨by omega, by omega⟩ (DCl_gd ⟨by omega, by omega⟩ (DCl_if (DCl_bd wr_dc (fun _ _ => DCl_bd wr_dc (fun _ _ => DCl_some ha))) (DCl_bd fail_dc (fun _ hr => DCl_some hr))))) (fun r' hr' => DRf_gd ⟨by omega, by omega⟩ (DRf_gd ⟨by omega, by omega⟩ (DRf_if ap23_dr (DRf_bd err_dr (fun _ _ => ap23_dr)))))
  obtain ⟨e, r3⟩ := hr2
  subst e
  rw [gr (by omega), gr (by omega), gr (by omega), gr (by omega)]
  by_cases c : r < r2
  · rw [if_pos c, if_pos c]
    unfold m_append_23
    rw [kk99 hg2]
    refine Ov_bd (wr_ok1 hl2 hg2) (fun _ _ s3 t3 _ hl3 hg3 => ?_) (fun _ _ => DCl_bd wr_dc (fun _ _ => DCl_some ha)) (fun _ _ => DRf_99 (DRf_some (by decide)))
    rw [kk99 hg3]
    exact Ov_bd (wr_ok1 hl3 hg3) (fun _ _ s4 t4 _ hl4 hg4 => Ov_some hl4 hg4 ⟨rfl, rfl⟩) (fun _ _ => DCl_some ha) (fun _ _ => DRf_some (by decide))
  · rw [if_neg c, if_neg c]
    exact Ov_bd (V := fun _ _ => False) (fail_go hl2 hg2 (by decide)) (fun _ _ _ _ q _ _ => q.elim) (fun r hr => DCl_some hr) (fun _ _ => ap23_dr)
/-- units of numbers -/
def unt (v : Int) : Int := if v < 10 then 1 else if v < 100 then 10 else if v < 1000 then 100 else if v < 10000 then 1000 else 10000
theorem hu_ok (hv : 0 ≤ v ∧ v ≤ 32768) : lib_highestUnit v s = some (unt v, s) := by
  have dv : ∀ d : Int, 0 < d → v.tdiv d = v / d := fun d _ => Int.tdiv_eq_ediv_of_nonneg hv.1
  have st : ∀ x : Int, 0 < x ∧ x < 10000 → 10 ≤ v / x → lib_highestUnit_2 v x s = lib_highestUnit_2 v (x * 10) s := fun x hx h => by
    have := Int.ediv_le_self x hv.1
    unfold lib_highestUnit_2
    rw [lp_next (f := fun l : Int × iS => lib_highestUnit_2b v (l.1) (l.2)) (l := (x, s)) (l' := (x * 10, s)) (by
      show lib_highestUnit_2b v x s = _
      unfold lib_highestUnit_2b
      rw [gr (by omega), if_neg (by omega), gr (by omega), gd_pos (by omega), dv x hx.1, gr (by omega), if_neg (by omega)])]
  have en : ∀ x : Int, 0 < x ∧ x ≤ 10000 → (x = 10000 ∨ v / x < 10) → lib_highestUnit_2 v x s = some (x, s) := fun x hx h => by
    have h1 := Int.ediv_le_self x hv.1
    have h2 : 0 ≤ v / x := Int.ediv_nonneg hv.1 (by omega)
    unfold lib_highestUnit_2
    rw [lp_end (f := fun l : Int × iS => lib_highestUnit_2b v (l.1) (l.2)) (l := (x, s)) (e := (x, s)) (by
      show lib_highestUnit_2b v x s = _
      unfold lib_highestUnit_2b
      rw [gr (by omega)]
      by_cases c : 10000 ≤ x
      · rw [if_pos c]
      · rw [if_neg c, gr (by omega), gd_pos (by omega), dv x hx.1, gr (by omega), if_pos (by omega)]), bn]
  unfold lib_highestUnit unt
  by_cases c1 : v < 10
  · rw [if_pos c1, en 1 (by omega) (by omega)]
  rw [if_neg c1, st 1 (by omega) (by omega)]
  by_cases c2 : v < 100
  · rw [if_pos c2, en _ (by omega) (by omega)]
    rfl
  rw [if_neg c2, st _ (by omega) (by omega)]
  by_cases c3 : v < 1000
  · rw [if_pos c3, en _ (by omega) (by omega)]
    rfl
  rw [if_neg c3, st _ (by omega) (by omega)]
  by_cases c4 : v < 10000
  · rw [if_pos c4, en _ (by omega) (by omega)]
    rfl
  rw [if_neg c4, st _ (by omega) (by omega), en (1 * 10 * 10 * 10 * 10) (by omega) (Or.inl (by omega))]
  rfl
theorem fp_ok (hv : 0 ≤ v ∧ v ≤ 32768) : m_firstPower v t = some (unt v, t) := by
  have dv : ∀ d : Int, 0 < d → v.tdiv d = v / d := fun d _ => Int.tdiv_eq_ediv_of_nonneg hv.1
  have st : ∀ x : Int, 0 < x ∧ x ≤ 10000 → 10 ≤ v / x → m_firstPower_2 v x t = m_firstPower_2 v (x * 10) t := fun x hx h => by
    have := Int.ediv_le_self x hv.1
    unfold m_firstPower_2
    rw [lp_next (f := fun l : Int × iS => m_firstPower_2b v (l.1) (l.2)) (l := (x, t)) (l' := (x * 10, t)) (by
      show m_firstPower_2b v x t = _
      unfold m_firstPower_2b
      rw [gr (by omega), gr (by omega), gd_pos (by omega), dv x hx.1, gr (by omega), if_neg (by omega)])]
  have en : ∀ x : Int, 0 < x ∧ x ≤ 10000 → v / x < 10 → m_firstPower_2 v x t = some (x, t) := fun x hx h => by
    have h2 : 0 ≤ v / x := Int.ediv_nonneg hv.1 (by omega)
    unfold m_firstPower_2
    rw [lp_end (f := fun l : Int × iS => m_firstPower_2b v (l.1) (l.2)) (l := (x, t)) (e := (x, t)) (by
      show m_firstPower_2b v x t = _
      unfold m_firstPower_2b
      rw [gr (by omega), gr (by omega), gd_pos (by omega), dv x hx.1, gr (by omega), if_pos (by omega)]), bn]
  unfold m_firstPower unt
  by_cases c1 : v < 10
  · rw [if_pos c1, en 1 (by omega) (by omega)]
  rw [if_neg c1, st 1 (by omega) (by omega)]
  by_cases c2 : v < 100
  · rw [if_pos c2, en _ (by omega) (by omega)]
    rfl
  rw [if_neg c2, st _ (by omega) (by omega)]
  by_cases c3 : v < 1000
  · rw [if_pos c3, en _ (by omega) (by omega)]
    rfl
  rw [if_neg c3, st _ (by omega) (by omega)]
  by_cases c4 : v < 10000
  · rw [if_pos c4, en _ (by omega) (by omega)]
    rfl
  rw [if_neg c4, st _ (by omega) (by omega), en _ (by omega) (by omega)]
  rfl
end LBe
