/-! the system's subs: all of them -/
section LBl
variable {s s' t t' : iS} {a b c d v : Int} {V : Int → Int → Prop}
theorem bd_id {x : Option (Int × iS)} : bd x (fun r s => some (r, s)) = x := by
  cases x with
  | none => rfl
  | some q => rfl
theorem Ov_r0 {V' : Int → Int → Prop} {X Y : Option (Int × iS)} (h : Ov V X Y) (hV : ∀ r r', V r r' → V' r 0) : Ov V' X (bd Y (fun _ s => some (0, s))) := by
  rcases h with ⟨r, r', s', t', e1, e2, e3, e4, e5⟩ | ⟨r, r', s', t', e1, e2, e3, e4, e5⟩
  · exact Or.inl ⟨r, 0, s', t', e1, by rw [e2, bq], hV r r' e3, e4, e5⟩
  · exact Or.inr ⟨r, 0, s', t', e1, by rw [e2, bq], ⟨e3.1, by decide⟩, e4, e5⟩
/-- the answer of a sub of the system -/
def VS1 (r r' : Int) : Prop := r = i_s r' ∧ r32 r'
theorem VS1_eq {r r' : Int} (h : r = r' ∧ w16 r) : VS1 r r' := ⟨by rw [← h.1, i_s_id h.2], by have := h.2; have := h.1; omega⟩
theorem VS1_0 {r r' : Int} (h : r = 0 ∧ r' = 0) : VS1 r 0 := ⟨by rw [h.1]; rfl, by decide⟩
theorem VS1_0' {r r' : Int} (h : r = 0 ∧ r' = 0) : VS1 r r' := by rw [h.2]; exact VS1_0 h
theorem sc18_dc : DCl lib_setCharAt_18 := DCl_bd fail_dc (fun _ hr => DCl_some hr)
theorem st131_dr : DRf (m_strings_131 a) := fun s t h hk => DRf_99 (f := fun z => bd (m_write ((a + 2) + (z 188 1)) (z 188 2) z) (fun _ s3 => some (0, s3))) (DRf_some (by decide)) s t h hk
theorem st101_dr : DRf (m_strings_101 a) := fun s t h hk => by
  obtain ⟨r, e1, e2⟩ := st131_dr (a := a) s t h hk
  refine ⟨r, ?_, e2⟩
  unfold m_strings_101
  rw [hk.2, gr (by omega), if_neg (by omega), e1]
theorem st193_dr : DRf (m_strings_193 a b) := DRf_99 (DRf_some (by decide))
/-- a sign of a string is put -/
theorem sc_ok1 (h : LB s t) (hg : gO s t) (ha : w16 a) (hb : w16 b) (h0 : t 188 0 = a) (h1 : t 188 1 = b) (h2 : t 188 2 = c) : Ov (fun r r' => r = 0 ∧ r' = 0) (lib_setCharAt a b c s) (gd (rg (t 188 1)) (if 0 ≤ (t 188 1) then m_strings_101 (t 188 0) t else bd (m_err 16 t) (fun _ s11 => m_strings_101 (t 188 0) s11))) := by
  unfold lib_setCharAt
  rw [h0, h1, gr (by omega), gr (by omega)]
  by_cases q : 0 ≤ b
  · rw [if_neg (by omega), if_pos q]
    unfold m_strings_101
    rw [kk99 hg, h1]
    have e2 : ∀ r t3, m_read (a + 1) t = some (r, t3) → t3 188 1 = b ∧ t3 188 2 = c := fun r t3 e => by
      have fr : md L_m_read G_m_read t t3 := fm_read _ _ _ e
      obtain ⟨f1, _⟩ := chk_ok (D := [188]) (E := []) rfl fr
      rw [f1 188 (by decide)]
      exact ⟨h1, h2⟩
    rcases rd_ok1 (a := a + 1) h hg with ⟨r, r', s1, t1, e1, e3, ⟨e4, e5⟩, e6, e7⟩ | ⟨r, r', s1, t1, e1, e3, e4, e6, e7⟩
    · subst e4
      obtain ⟨f1, f2⟩ := e2 r t1 e3
      rw [e1, e3, bq, bq, gr (by omega), gr (by omega), gr (by omega)]
      by_cases q2 : b < r
      · rw [if_pos q2, if_pos q2]
        unfold m_strings_131
        rw [kk99 e7, f1, f2, bd_id]
        exact Ov_r0 (wr_ok1 e6 e7) (fun _ _ z => ⟨z.1, rfl⟩)
      · rw [if_neg q2, if_neg q2]
        exact Ov_bd (V := fun _ _ => False) (fail_go e6 e7 (by decide)) (fun _ _ _ _ q _ _ => q.elim) (fun r hr => DCl_some hr) (fun _ _ => st131_dr)
    · obtain ⟨r2, b1, b2⟩ := (DCl_gd (c := rg r) ⟨by omega, by omega⟩ (DCl_if (c := b < r) (DCl_bd (wr_dc (a := (a + 2) + b) (b := c)) (fun _ hr => DCl_some hr)) sc18_dc)) s1 t1 e6 e7
      obtain ⟨r3, d1, d2⟩ := (DRf_gd (c := rg b) ⟨by omega, by omega⟩ (DRf_gd (c := rg r') ⟨by omega, by omega⟩ (DRf_if (c := b < r') (st131_dr (a := a)) (DRf_bd (err_dr (v := 16)) (fun _ _ => st131_dr (a := a)))))) s1 t1 e6 e7
      rw [e1, e3, bq, bq]
      exact Or.inr ⟨r2, r3, s1, t1, b1, d1, ⟨b2, d2⟩, e6, e7⟩
  · rw [if_pos (by omega), if_neg q]
    exact Ov_bd (V := fun _ _ => False) (fail_go h hg (by decide)) (fun _ _ _ _ q _ _ => q.elim) (fun r hr => DCl_some hr) (fun _ _ => st101_dr)
/-- the last sign goes -/
theorem er_ok1 (h : LB s t) (hg : gO s t) (ha : w16 a) (h0 : t 188 0 = a) : Ov (fun r r' => r = 0 ∧ r' = 0) (lib_eraseLastChar a s) (bd (m_read ((t 188 0) + 1) t) (fun r15 s15 => gd (rg r15) (if 1 ≤ r15 then m_strings_193 (t 188 0) r15 s15 else bd (m_err 18 s15) (fun _ s18 => m_strings_193 (t 188 0) r15 s18)))) := by
  unfold lib_eraseLastChar
  rw [h0]
  refine Ov_bd (rd_ok1 h hg) (fun r r' s1 t1 hr hl hg1 => ?_) (fun r hr => DCl_gd ⟨by omega, by omega⟩ (DCl_if (DCl_bd wr_dc (fun _ hr => DCl_some hr)) (DCl_bd fail_dc (fun _ hr => DCl_some hr)))) (fun r hr => DRf_gd ⟨by omega, by omega⟩ (DRf_if st193_dr (DRf_bd err_dr (fun _ _ => st193_dr))))
  obtain ⟨e, r1⟩ := hr
  subst e
  rw [gr (by omega), gr (by omega)]
  by_cases q : 1 ≤ r
  · rw [if_pos q, if_pos q]
    unfold m_strings_193
    rw [kk99 hg1, bd_id]
    exact Ov_r0 (wr_ok1 hl hg1) (fun _ _ z => ⟨z.1, rfl⟩)
  · rw [if_neg q, if_neg q]
    exact Ov_bd (V := fun _ _ => False) (fail_go hl hg1 (by decide)) (fun _ _ _ _ q _ _ => q.elim) (fun r hr => DCl_some hr) (fun _ _ => st193_dr)
end LBl
