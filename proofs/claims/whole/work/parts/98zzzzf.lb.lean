/-! the system's subs: numbers in strings, output, keys -/
section LBf
variable {s s' t t' : iS} {a b v x y : Int} {V : Int → Int → Prop}
theorem dgt_ok (hv : 0 ≤ v ∧ v ≤ 32768) (hx : 0 < x ∧ x ≤ 10000) : m_digit v x t = some (48 + (v / x) % 10, t) ∧ v.tdiv x = v / x ∧ (v.tdiv x).tmod 10 = (v / x) % 10 ∧ (0 ≤ v / x ∧ v / x ≤ 32768) ∧ (0 ≤ (v / x) % 10 ∧ (v / x) % 10 < 10) := by
  have e1 : v.tdiv x = v / x := Int.tdiv_eq_ediv_of_nonneg hv.1
  have h1 := Int.ediv_le_self x hv.1
  have h2 : 0 ≤ v / x := Int.ediv_nonneg hv.1 (by omega)
  have e2 : (v / x).tmod 10 = (v / x) % 10 := Int.tmod_eq_emod_of_nonneg h2
  refine ⟨?_, e1, by rw [e1, e2], by omega, by omega⟩
  unfold m_digit
  rw [gr (by omega), gr (by omega), gd_pos (by omega), e1, gr (by omega), e2]
/-- the units, one after the other -/
def isU (x : Int) : Prop := x = 0 ∨ x = 1 ∨ x = 10 ∨ x = 100 ∨ x = 1000 ∨ x = 10000
theorem unt_U : isU (unt v) ∧ 0 < unt v := by
  unfold unt isU
  repeat' split
  all_goals omega
theorem isU_nx (h : isU x) (hx : 0 < x) : isU (x.tdiv 10) ∧ 0 ≤ x.tdiv 10 ∧ x.tdiv 10 < x ∧ x ≤ 10000 := by
  unfold isU at *
  rcases h with h | h | h | h | h | h <;> subst h <;> simp <;> omega
/-- the class goes on behind a failure, and changes nothing -/
theorem si35_dc (ha : w16 a) (hv : 0 ≤ v ∧ v ≤ 32768) (h : LB s t) (hk : kO s t) : ∀ (k : Nat) (x : Int), isU x → 0 ≤ x → x ≤ (k : Int) → lib_setInt_35 a v x s = some (0, s) := by
  intro k
  induction k with
  | zero =>
    intro x h1 h2 h3
    have : x = 0 := by omega
    subst this
    unfold lib_setInt_35
    rw [lp_end (f := fun l : Int × iS => lib_setInt_35b a v (l.1) (l.2)) (l := (0, s)) (e := s) (by
      show lib_setInt_35b a v 0 s = _
      unfold lib_setInt_35b
      rw [gr (by omega), if_pos (by omega)]), bn]
  | succ k ih =>
    intro x h1 h2 h3
    by_cases c : x = 0
    · exact ih x h1 h2 (by omega)
    · obtain ⟨u1, u2, u3, u4⟩ := isU_nx h1 (by omega)
      obtain ⟨d1, d2, d3, d4, d5⟩ := dgt_ok (t := t) hv (x := x) ⟨by omega, u4⟩
      obtain ⟨r, e1, _⟩ := ap_dc (a := a) (b := 48 + (v / x) % 10) ha s t h hk
      have st : lib_setInt_35 a v x s = lib_setInt_35 a v (x.tdiv 10) s := by
        unfold lib_setInt_35
        rw [lp_next (f := fun l : Int × iS => lib_setInt_35b a v (l.1) (l.2)) (l := (x, s)) (l' := (x.tdiv 10, s)) (by
          show lib_setInt_35b a v x s = _
          unfold lib_setInt_35b
          rw [gr (by omega), if_neg (by omega), gr (by omega), gd_pos c, d3, d2, gr (by omega), e1, bq])]
      rw [st]
      exact ih _ u1 u2 (by omega)
theorem si44_dr (h : LB s t) (hk : kO s t) (hx : isU x) : m_setInt_44 a v x t = some (0, t) := by
  unfold isU at hx
  unfold m_setInt_44
  rw [lp_end (f := fun l : Int × iS => m_setInt_44b a v (l.1) (l.2)) (l := (x, t)) (e := t) (by
    show m_setInt_44b a v x t = _
    unfold m_setInt_44b
    rw [gr (by omega)]
    by_cases c : x ≤ 0
    · rw [if_pos c]
    · rw [if_neg c, hk.2, gr (by omega), if_neg (by omega)]), bn]
theorem si_lp (ha : w16 a) (hv : 0 ≤ v ∧ v ≤ 32768) : ∀ (k : Nat) (x : Int) (s t : iS), LB s t → gO s t → isU x → 0 ≤ x → x ≤ (k : Int) → Ov (fun r r' => r = 0 ∧ r' = 0) (lib_setInt_35 a v x s) (m_setInt_44 a v x t) := by
  intro k
  induction k with
  | zero =>
    intro x s t h hg h1 h2 h3
    have : x = 0 := by omega
    subst this
    refine Or.inl ⟨0, 0, s, t, ?_, ?_, ⟨rfl, rfl⟩, h, hg⟩
    · unfold lib_setInt_35
      rw [lp_end (f := fun l : Int × iS => lib_setInt_35b a v (l.1) (l.2)) (l := (0, s)) (e := s) (by
        show lib_setInt_35b a v 0 s = _
        unfold lib_setInt_35b
        rw [gr (by omega), if_pos (by omega)]), bn]
    · unfold m_setInt_44
      rw [lp_end (f := fun l : Int × iS => m_setInt_44b a v (l.1) (l.2)) (l := (0, t)) (e := t) (by
        show m_setInt_44b a v 0 t = _
        unfold m_setInt_44b
        rw [gr (by omega), if_pos (by omega)]), bn]
  | succ k ih =>
    intro x s t h hg h1 h2 h3
    by_cases c : x = 0
    · exact ih x s t h hg h1 h2 (by omega)
    · obtain ⟨u1, u2, u3, u4⟩ := isU_nx h1 (by omega)
      obtain ⟨d1, d2, d3, d4, d5⟩ := dgt_ok (t := t) hv (x := x) ⟨by omega, u4⟩
      have A := ap_ok1 (b := 48 + (v / x) % 10) h hg ha
      have cC : ∀ r s1, lib_appendChar a (48 + (v / x) % 10) s = some (r, s1) → lib_setInt_35 a v x s = lib_setInt_35 a v (x.tdiv 10) s1 := fun r s1 e => by
        unfold lib_setInt_35
        rw [lp_next (f := fun l : Int × iS => lib_setInt_35b a v (l.1) (l.2)) (l := (x, s)) (l' := (x.tdiv 10, s1)) (by
          show lib_setInt_35b a v x s = _
          unfold lib_setInt_35b
          rw [gr (by omega), if_neg (by omega), gr (by omega), gd_pos c, d3, d2, gr (by omega), e, bq])]
      have cR : ∀ r t1, m_append a (48 + (v / x) % 10) t = some (r, t1) → m_setInt_44 a v x t = m_setInt_44 a v (x.tdiv 10) t1 := fun r t1 e => by
        unfold m_setInt_44
        rw [lp_next (f := fun l : Int × iS => m_setInt_44b a v (l.1) (l.2)) (l := (x, t)) (l' := (x.tdiv 10, t1)) (by
          show m_setInt_44b a v x t = _
          unfold m_setInt_44b
          rw [gr (by omega), if_neg (by omega), kk99 hg, d1, bq, e, bq])]
      rcases A with ⟨r, r', s1, t1, e1, e2, e3, e4, e5⟩ | ⟨r, r', s1, t1, e1, e2, e3, e4, e5⟩
      · rw [cC r s1 e1, cR r' t1 e2]
        exact ih _ s1 t1 e4 e5 u1 u2 (by omega)
      · rw [cC r s1 e1, cR r' t1 e2]
        exact Or.inr ⟨0, 0, s1, t1, si35_dc ha hv e4 e5 (k + 1) _ u1 u2 (by omega), si44_dr e4 e5 u1, ⟨by decide, by decide⟩, e4, e5⟩
/-- a number is put into a string -/
theorem si_ok1 (h : LB s t) (hg : gO s t) (ha : w16 a) (hb : w16 b) : Ov (fun r r' => r = 0 ∧ r' = 0) (lib_setInt a b s) (m_setInt a b t) := by
  have hab : ∀ s : iS, mth_abs b s = some (if 0 ≤ b then b else -b, s) := fun s => by
    unfold mth_abs
    rw [gr (by omega)]
    split <;> rfl
  have hv : 0 ≤ (if 0 ≤ b then b else -b) ∧ (if 0 ≤ b then b else -b) ≤ 32768 := by split <;> omega
  have C24 : ∀ s : iS, lib_setInt_24 a b s = lib_setInt_35 a (if 0 ≤ b then b else -b) (unt (if 0 ≤ b then b else -b)) s := fun s => by
    unfold lib_setInt_24
    rw [hab s, bq, hu_ok hv, bq]
  have R38 : ∀ t : iS, m_setInt_38 a (if 0 ≤ b then b else -b) t = m_setInt_44 a (if 0 ≤ b then b else -b) (unt (if 0 ≤ b then b else -b)) t := fun t => by
    unfold m_setInt_38
    rw [fp_ok hv, bq]
  have un := unt_U (v := if 0 ≤ b then b else -b)
  have un2 : unt (if 0 ≤ b then b else -b) ≤ ((10000 : Nat) : Int) := by
    have := un.1
    unfold isU at this
    omega
  have D24 : DCl (lib_setInt_24 a b) := fun s t h hk => ⟨0, by rw [C24]; exact si35_dc ha hv h hk 10000 _ un.1 (by omega) un2, by decide⟩
  have D38 : DRf (m_setInt_38 a (if 0 ≤ b then b else -b)) := fun s t h hk => ⟨0, by rw [R38]; exact si44_dr h hk un.1, by decide⟩
  have eM : m_setInt a b t = bd (m_write (a + 1) 0 t) (fun _ s1 => m_setInt_18 a b (if 0 ≤ b then b else -b) s1) := by
    unfold m_setInt
    congr 1
    funext _ s1
    rw [gr (by omega)]
    split <;> rfl
  rw [eM]
  unfold lib_setInt m_setInt_18
  refine Ov_bd (wr_ok1 h hg) (fun _ _ s1 t1 _ hl hg1 => ?_) (fun _ _ => DCl_gd ⟨by omega, by omega⟩ (DCl_if D24 (DCl_bd (ap_dc ha) (fun _ _ => D24)))) (fun _ _ => DRf_gd ⟨by omega, by omega⟩ (DRf_if D38 (DRf_99 D38)))
  rw [gr (by omega), gr (by omega)]
  by_cases c : 0 ≤ b
  · rw [if_pos c, if_pos c]
    have q := si_lp ha hv 10000 _ s1 t1 hl hg1 un.1 (by omega) un2
    rw [← C24, ← R38] at q
    exact q
  · rw [if_neg c, if_neg c, kk99 hg1]
    refine Ov_bd (ap_ok1 hl hg1 ha) (fun _ _ s2 t2 _ hl2 hg2 => ?_) (fun _ _ => D24) (fun _ _ => D38)
    have q := si_lp ha hv 10000 _ s2 t2 hl2 hg2 un.1 (by omega) un2
    rw [← C24, ← R38] at q
    exact q
/-- a sign is printed -/
theorem pr_ok1 (h : LB s t) (hg : gO s t) : ∃ s' t', lib_printChar v s = some (0, s') ∧ m_print v t = some (0, t') ∧ LB s' t' ∧ gO s' t' ∧ (∀ c k, c ≠ 49 → ¬ (c = 48 ∧ k = 3) → s' c k = s c k) ∧ (∀ c k, c ≠ 187 → ¬ (c = 121 ∧ k = 106) → t' c k = t c k) := by
  have h' := h
  obtain ⟨h1, h2, ⟨o1, o2, o3, o4⟩, h4, h5⟩ := h
  have hb := i_and_le v (m := 255) (by decide)
  by_cases c : 3000 ≤ s 48 3
  · refine ⟨s, t, ?_, ?_, h', hg, fun _ _ _ _ => rfl, fun _ _ _ _ => rfl⟩
    · unfold lib_printChar
      rw [gr (by omega), if_pos c]
    · unfold m_print
      rw [kk99 hg, gr (by omega), if_pos (by omega)]
  · refine ⟨up (up s 49 (s 48 3).toNat (i_and v 255)) 48 3 (s 48 3 + 1), up (up t 187 (t 121 106).toNat (i_and v 255)) 121 106 (t 121 106 + 1), ?_, ?_, ⟨MW_of h1 (by rw [up_cell (by decide), up_cell (by decide)]) (by rw [up_cell (by decide), up_cell (by decide)]) (by rw [up_ne (by omega), up_ne (by omega)]) (by rw [up_ne (by omega), up_ne (by omega)]), BK_of h2 (by rw [up_ne (by omega), up_ne (by omega)]) (by rw [up_ne (by omega), up_ne (by omega)]) (by rw [up_cell (by decide), up_cell (by decide)]) (by rw [up_cell (by decide), up_cell (by decide)]) (by rw [up_cell (by decide), up_cell (by decide)]) (by rw [up_cell (by decide), up_cell (by decide)]) (by rw [up_ne (by omega), up_ne (by omega)]), ?_, KY_of h4 (by rw [up_ne (by omega), up_ne (by omega)]) (by rw [up_ne (by omega), up_ne (by omega)]) (by rw [up_ne (by omega), up_ne (by omega)]) (by rw [up_ne (by omega), up_ne (by omega)]) (by rw [up_cell (by decide), up_cell (by decide)]) (by rw [up_cell (by decide), up_cell (by decide)]), CO_of h5 (by rw [up_ne (by omega), up_ne (by omega)]) (by rw [up_ne (by omega), up_ne (by omega)])⟩, ⟨by rw [up_ne (by omega), up_ne (by omega)]; exact hg.1, by rw [up_ne (by omega), up_ne (by omega)]; exact hg.2⟩, fun c k q1 q2 => by rw [up_ne (by omega), up_ne (by omega)], fun c k q1 q2 => by rw [up_ne (by omega), up_ne (by omega)]⟩
    · unfold lib_printChar
      rw [gr (by omega), if_neg c, gd_pos (by omega), lt_eq, up_ne (show ¬ (48 = 49 ∧ 3 = (s 48 3).toNat) by omega), lt_eq]
    · unfold m_print
      rw [kk99 hg, gr (by omega), if_neg (by omega), gd_pos (by omega), lt_eq, up_ne (show ¬ (121 = 187 ∧ 106 = (t 121 106).toNat) by omega), lt_eq]
    · show ROv _ _ _ _ _ _
      rw [up_same, up_same, up_ne (show ¬ (48 = 48 ∧ 4 = 3) by omega), up_ne (show ¬ (48 = 49 ∧ 4 = (s 48 3).toNat) by omega), up_ne (show ¬ (121 = 121 ∧ 107 = 106) by omega), up_ne (show ¬ (121 = 187 ∧ 107 = (t 121 106).toNat) by omega), up_cell (show 49 ≠ 48 by decide), up_cell (show 187 ≠ 121 by decide)]
      refine ⟨by omega, o2, by omega, fun i hi => ?_⟩
      by_cases ci : (i : Int) = s 48 3
      · rw [show (s 48 3).toNat = i by omega, show (t 121 106).toNat = i by omega, up_same, up_same]
        exact ⟨rfl, by omega, by omega⟩
      · rw [up_ne (by omega), up_ne (by omega)]
        exact o4 i (by omega)
/-- a string is printed -/
theorem ps_lp (ha : w16 a) {n : Nat} (hn : n ≤ 32768) : ∀ (k j : Nat) (s t : iS), LB s t → gO s t → isP (i_s (a + 1)) → t 175 (i_s (a + 1)).toNat = (n : Int) → j + k = n → Ov (fun r r' => r = 0 ∧ r' = 0) (lib_printString_13 a (n : Int) (j : Int) s) (m_printString_10 a (n : Int) (j : Int) t) := by
  intro k
  induction k with
  | zero =>
    intro j s t h hg hp hv hj
    refine Or.inl ⟨0, 0, s, t, ?_, ?_, ⟨rfl, rfl⟩, h, hg⟩
    · unfold lib_printString_13
      rw [lp_end (f := fun l : Int × iS => lib_printString_13b a (n : Int) (l.1) (l.2)) (l := ((j : Int), s)) (e := s) (by
        show lib_printString_13b a (n : Int) (j : Int) s = _
        unfold lib_printString_13b
        rw [gr (by omega), gr (by omega), if_pos (by omega)]), bn]
    · unfold m_printString_10
      rw [lp_end (f := fun l : Int × iS => m_printString_10b a (n : Int) (l.1) (l.2)) (l := ((j : Int), t)) (e := t) (by
        show m_printString_10b a (n : Int) (j : Int) t = _
        unfold m_printString_10b
        rw [gr (by omega), gr (by omega), if_pos (by omega)]), bn]
  | succ k ih =>
    intro j s t h hg hp hv hj
    obtain ⟨rr1, rr2, rr3⟩ := rd_y (a := a + 1) h hp
    have cA : m_charAt a (j : Int) t = bd (m_read ((a + 2) + (j : Int)) t) (fun r3 s3 => some (r3, s3)) := by
      unfold m_charAt m_charAt_10 m_charAt_35
      rw [gr (by omega), if_pos (by omega), kk99 hg, rr2, bq, hv, gr (by omega), gr (by omega), if_pos (by omega), kk99 hg]
    rcases rd_ok1 (a := (a + 2) + (j : Int)) h hg with ⟨r, r', s1, t1, e1, e2, e3, e4, e5⟩ | ⟨r, r', s1, t1, e1, e2, e3, e4, e5⟩
    · -- it is there
      obtain ⟨q, _⟩ := e3
      subst q
      have hp2 : isP (i_s ((a + 2) + (j : Int))) := by
        by_cases z : isP (i_s ((a + 2) + (j : Int)))
        · exact z
        · exfalso
          unfold mem_read mem_fail at e1
          rw [idx_n (i_s_rg _) z, bq, gr (by omega), if_pos rfl, hg.1, gr (by omega), if_pos rfl, lt_eq, lt_eq, bq] at e1
          have w : up (up s 44 5 1) 44 6 20 = s1 := congrArg Prod.snd (Option.some.inj e1)
          have w2 := e5.1
          rw [← w, up_ne (by omega), up_same] at w2
          omega
      obtain ⟨y1, y2, y3⟩ := rd_y h hp2
      rw [e1] at y1
      rw [e2] at y2
      have w1 : s1 = s := congrArg Prod.snd (Option.some.inj y1)
      have w2 : t1 = t := congrArg Prod.snd (Option.some.inj y2)
      subst w1 w2
      obtain ⟨s2, t2, p1, p2, p3, p4, p5, p6⟩ := pr_ok1 (v := r) e4 e5
      have st1 : lib_printString_13 a (n : Int) (j : Int) s1 = lib_printString_13 a (n : Int) ((j + 1 : Nat) : Int) s2 := by
        unfold lib_printString_13
        rw [lp_next (f := fun l : Int × iS => lib_printString_13b a (n : Int) (l.1) (l.2)) (l := ((j : Int), s1)) (l' := (((j + 1 : Nat) : Int), s2)) (by
          show lib_printString_13b a (n : Int) (j : Int) s1 = _
          unfold lib_printString_13b
          rw [gr (by omega), gr (by omega), if_neg (by omega), kk5 hg, e1, bq, kk5 e5, p1, bq]
          rfl)]
      have st2 : m_printString_10 a (n : Int) (j : Int) t1 = m_printString_10 a (n : Int) ((j + 1 : Nat) : Int) t2 := by
        unfold m_printString_10
        rw [lp_next (f := fun l : Int × iS => m_printString_10b a (n : Int) (l.1) (l.2)) (l := ((j : Int), t1)) (l' := (((j + 1 : Nat) : Int), t2)) (by
          show m_printString_10b a (n : Int) (j : Int) t1 = _
          unfold m_printString_10b
          rw [gr (by omega), gr (by omega), if_neg (by omega), kk99 hg, cA, e2, bq, bq, p2, bq]
          rfl)]
      rw [st1, st2]
      exact ih (j + 1) s2 t2 p3 p4 hp (by rw [p6 175 _ (by omega) (by omega)]; exact hv) (by omega)
    · -- no word
      refine Or.inr ⟨0, 0, s1, t1, ?_, ?_, ⟨by decide, by decide⟩, e4, e5⟩
      · have st1 : lib_printString_13 a (n : Int) (j : Int) s = lib_printString_13 a (n : Int) ((j + 1 : Nat) : Int) s1 := by
          unfold lib_printString_13
          rw [lp_next (f := fun l : Int × iS => lib_printString_13b a (n : Int) (l.1) (l.2)) (l := ((j : Int), s)) (l' := (((j + 1 : Nat) : Int), s1)) (by
            show lib_printString_13b a (n : Int) (j : Int) s = _
            unfold lib_printString_13b
            rw [gr (by omega), gr (by omega), if_neg (by omega), kk5 hg, e1, bq, e5.1, gr (by omega), if_neg (by omega)]
            rfl)]
        rw [st1]
        unfold lib_printString_13
        rw [lp_end (f := fun l : Int × iS => lib_printString_13b a (n : Int) (l.1) (l.2)) (l := (((j + 1 : Nat) : Int), s1)) (e := s1) (by
          show lib_printString_13b a (n : Int) ((j + 1 : Nat) : Int) s1 = _
          unfold lib_printString_13b
          rw [gr (by omega), gr (by omega)]
          by_cases c : (n : Int) ≤ ((j + 1 : Nat) : Int)
          · rw [if_pos c]
          · rw [if_neg c, e5.1, gr (by omega), if_neg (by omega)]), bn]
      · have pd : m_print r' t1 = some (0, t1) := by
          unfold m_print
          rw [e5.2, gr (by omega), if_neg (by omega)]
        have st2 : m_printString_10 a (n : Int) (j : Int) t = m_printString_10 a (n : Int) ((j + 1 : Nat) : Int) t1 := by
          unfold m_printString_10
          rw [lp_next (f := fun l : Int × iS => m_printString_10b a (n : Int) (l.1) (l.2)) (l := ((j : Int), t)) (l' := (((j + 1 : Nat) : Int), t1)) (by
            show m_printString_10b a (n : Int) (j : Int) t = _
            unfold m_printString_10b
            rw [gr (by omega), gr (by omega), if_neg (by omega), kk99 hg, cA, e2, bq, bq, pd, bq]
            rfl)]
        rw [st2]
        unfold m_printString_10
        rw [lp_end (f := fun l : Int × iS => m_printString_10b a (n : Int) (l.1) (l.2)) (l := (((j + 1 : Nat) : Int), t1)) (e := t1) (by
          show m_printString_10b a (n : Int) ((j + 1 : Nat) : Int) t1 = _
          unfold m_printString_10b
          rw [gr (by omega), gr (by omega)]
          by_cases c : (n : Int) ≤ ((j + 1 : Nat) : Int)
          · rw [if_pos c]
          · rw [if_neg c, e5.2, gr (by omega), if_neg (by omega)]), bn]
end LBf
