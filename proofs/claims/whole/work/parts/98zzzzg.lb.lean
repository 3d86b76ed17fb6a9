/-! the system's subs: printing, keys, lines, numbers of strings -/
section LBg
variable {s s' t t' : iS} {a b v x y : Int} {V : Int → Int → Prop}
/-- no word is there: the failure -/
theorem rd_fl (h : LB s t) (hg : gO s t) (hn : ¬ isP (i_s a)) : ∃ s' t', mem_read a s = some (0, s') ∧ m_read a t = some (0, t') ∧ LB s' t' ∧ kO s' t' := by
  rcases fail_go (V := fun _ _ => False) (v := 20) h hg (by decide) with ⟨_, _, _, _, _, _, e, _⟩ | ⟨r, r', s', t', e1, e2, e3, e4, e5⟩
  · exact e.elim
  · have q1 : r = 0 := by
      unfold mem_fail at e1
      rw [hg.1, gr (by omega), if_pos rfl, lt_eq, lt_eq] at e1
      exact (congrArg Prod.fst (Option.some.inj e1)).symm
    refine ⟨s', t', ?_, ?_, e4, e5⟩
    · unfold mem_read
      rw [idx_n (i_s_rg a) hn, bq, gr (by omega), if_pos rfl, e1, bq, q1]
    · unfold m_read m_word16 m_read_18
      rw [bq, isp_n (i_s_rg a) hn, bq, gr (by omega), if_pos rfl, e2, bq, isp_n (i_s_rg a) hn, bq, gr (by omega), if_pos rfl]
theorem ps13_0 {n : Int} (hn : n ≤ 0 ∧ -32768 ≤ n) : lib_printString_13 a n 0 s = some (0, s) := by
  unfold lib_printString_13
  rw [lp_end (f := fun l : Int × iS => lib_printString_13b a n (l.1) (l.2)) (l := (0, s)) (e := s) (by
    show lib_printString_13b a n 0 s = _
    unfold lib_printString_13b
    rw [gr (by omega), gr (by omega), if_pos hn.1]), bn]
theorem ps10_0 {n : Int} (hn : n ≤ 0 ∧ -32768 ≤ n) : m_printString_10 a n 0 t = some (0, t) := by
  unfold m_printString_10
  rw [lp_end (f := fun l : Int × iS => m_printString_10b a n (l.1) (l.2)) (l := (0, t)) (e := t) (by
    show m_printString_10b a n 0 t = _
    unfold m_printString_10b
    rw [gr (by omega), gr (by omega), if_pos hn.1]), bn]
/-- a string is printed -/
theorem ps_ok1 (h : LB s t) (hg : gO s t) (ha : w16 a) : Ov (fun r r' => r = 0 ∧ r' = 0) (lib_printString a s) (m_printString a t) := by
  unfold lib_printString m_printString
  by_cases hp : isP (i_s (a + 1))
  · obtain ⟨e1, e2, e3⟩ := rd_y (a := a + 1) h hp
    rw [e1, e2, bq, bq]
    by_cases c : t 175 (i_s (a + 1)).toNat ≤ 0
    · exact Or.inl ⟨0, 0, s, t, ps13_0 ⟨c, e3.1⟩, ps10_0 ⟨c, e3.1⟩, ⟨rfl, rfl⟩, h, hg⟩
    · obtain ⟨n, hn⟩ : ∃ n : Nat, t 175 (i_s (a + 1)).toNat = (n : Int) := ⟨(t 175 (i_s (a + 1)).toNat).toNat, by omega⟩
      have q := ps_lp (n := n) ha (by omega) n 0 s t h hg hp hn (by omega)
      rw [hn]
      exact q
  · obtain ⟨s', t', e1, e2, e3, e4⟩ := rd_fl (a := a + 1) h hg hp
    rw [e1, e2, bq, bq]
    exact Or.inr ⟨0, 0, s', t', ps13_0 (by omega), ps10_0 (by omega), ⟨by decide, by decide⟩, e3, e4⟩
/-- a number is printed -/
theorem pi_lp (hv : 0 ≤ v ∧ v ≤ 32768) : ∀ (k : Nat) (x : Int) (s t : iS), LB s t → gO s t → isU x → 0 ≤ x → x ≤ (k : Int) → ∃ s' t', lib_printInt_21 v x s = some (0, s') ∧ m_printInt_26 v x t = some (0, t') ∧ LB s' t' ∧ gO s' t' := by
  intro k
  induction k with
  | zero =>
    intro x s t h hg h1 h2 h3
    have : x = 0 := by omega
    subst this
    refine ⟨s, t, ?_, ?_, h, hg⟩
    · unfold lib_printInt_21
      rw [lp_end (f := fun l : Int × iS => lib_printInt_21b v (l.1) (l.2)) (l := (0, s)) (e := s) (by
        show lib_printInt_21b v 0 s = _
        unfold lib_printInt_21b
        rw [gr (by omega), if_pos (by omega)]), bn]
    · unfold m_printInt_26
      rw [lp_end (f := fun l : Int × iS => m_printInt_26b v (l.1) (l.2)) (l := (0, t)) (e := t) (by
        show m_printInt_26b v 0 t = _
        unfold m_printInt_26b
        rw [gr (by omega), if_pos (by omega)]), bn]
  | succ k ih =>
    intro x s t h hg h1 h2 h3
    by_cases c : x = 0
    · exact ih x s t h hg h1 h2 (by omega)
    · obtain ⟨u1, u2, u3, u4⟩ := isU_nx h1 (by omega)
      obtain ⟨d1, d2, d3, d4, d5⟩ := dgt_ok (t := t) hv (x := x) ⟨by omega, u4⟩
      obtain ⟨s1, t1, p1, p2, p3, p4, _⟩ := pr_ok1 (v := 48 + (v / x) % 10) h hg
      have st1 : lib_printInt_21 v x s = lib_printInt_21 v (x.tdiv 10) s1 := by
        unfold lib_printInt_21
        rw [lp_next (f := fun l : Int × iS => lib_printInt_21b v (l.1) (l.2)) (l := (x, s)) (l' := (x.tdiv 10, s1)) (by
          show lib_printInt_21b v x s = _
          unfold lib_printInt_21b
          rw [gr (by omega), if_neg (by omega), gr (by omega), gd_pos c, d3, d2, gr (by omega), p1, bq])]
      have st2 : m_printInt_26 v x t = m_printInt_26 v (x.tdiv 10) t1 := by
        unfold m_printInt_26
        rw [lp_next (f := fun l : Int × iS => m_printInt_26b v (l.1) (l.2)) (l := (x, t)) (l' := (x.tdiv 10, t1)) (by
          show m_printInt_26b v x t = _
          unfold m_printInt_26b
          rw [gr (by omega), if_neg (by omega), d1, bq, p2, bq])]
      rw [st1, st2]
      exact ih _ s1 t1 p3 p4 u1 u2 (by omega)
theorem pi_ok1 (h : LB s t) (hg : gO s t) (hb : w16 b) : Ov (fun r r' => r = 0 ∧ r' = 0) (lib_printInt b s) (m_printInt b t) := by
  have hab : ∀ s : iS, mth_abs b s = some (if 0 ≤ b then b else -b, s) := fun s => by
    unfold mth_abs
    rw [gr (by omega)]
    split <;> rfl
  have hv : 0 ≤ (if 0 ≤ b then b else -b) ∧ (if 0 ≤ b then b else -b) ≤ 32768 := by split <;> omega
  have un := unt_U (v := if 0 ≤ b then b else -b)
  have un2 : unt (if 0 ≤ b then b else -b) ≤ ((10000 : Nat) : Int) := by
    have := un.1
    unfold isU at this
    omega
  have go : ∀ s t : iS, LB s t → gO s t → Ov (fun r r' => r = 0 ∧ r' = 0) (lib_printInt_11 b s) (m_printInt_21 (if 0 ≤ b then b else -b) t) := fun s t h hg => by
    obtain ⟨s', t', e1, e2, e3, e4⟩ := pi_lp hv 10000 _ s t h hg un.1 (by omega) un2
    refine Or.inl ⟨0, 0, s', t', ?_, ?_, ⟨rfl, rfl⟩, e3, e4⟩
    · unfold lib_printInt_11
      rw [hab s, bq, hu_ok hv, bq, e1]
    · unfold m_printInt_21
      rw [fp_ok hv, bq, e2]
  have eM : m_printInt b t = m_printInt_10 b (if 0 ≤ b then b else -b) t := by
    unfold m_printInt
    rw [gr (by omega)]
    split <;> rfl
  rw [eM]
  unfold lib_printInt m_printInt_10
  rw [gr (by omega), gr (by omega)]
  by_cases c : 0 ≤ b
  · rw [if_pos c, if_pos c]
    exact go s t h hg
  · rw [if_neg c, if_neg c]
    obtain ⟨s1, t1, p1, p2, p3, p4, _⟩ := pr_ok1 (v := 45) h hg
    rw [p1, p2, bq, bq]
    exact go s1 t1 p3 p4
/-- keys -/
theorem nk_ok (h : LB s t) : lib_nextKey s = some ((if s 48 5 ≤ s 48 6 then 0 else s 50 (s 48 6).toNat), s) ∧ w16 (if s 48 5 ≤ s 48 6 then 0 else s 50 (s 48 6).toNat) := by
  obtain ⟨_, _, _, ⟨k1, k2, k3, k4, k5⟩, _⟩ := h
  unfold lib_nextKey
  rw [gr (by omega), gr (by omega)]
  by_cases c : s 48 5 ≤ s 48 6
  · rw [if_pos c, if_pos c]
    exact ⟨rfl, by decide⟩
  · have := k5 (s 48 6).toNat (by omega)
    rw [if_neg c, if_neg (by omega), gd_pos (by omega), if_neg c]
    exact ⟨rfl, by omega, by omega⟩
theorem LB_key (h : LB s t) (hc : ¬ s 48 5 ≤ s 48 6) : LB (up s 48 6 (s 48 6 + 1)) (up t 121 103 (t 121 103 + 1)) := by
  obtain ⟨h1, h2, h3, ⟨k1, k2, k3, k4, k5⟩, h5⟩ := h
  refine ⟨MW_of h1 (up_cell (by decide)) (up_cell (by decide)) (up_ne (by omega)) (up_ne (by omega)), BK_of h2 (up_ne (by omega)) (up_ne (by omega)) (up_cell (by decide)) (up_cell (by decide)) (up_cell (by decide)) (up_cell (by decide)) (up_ne (by omega)), OU_of h3 (up_ne (by omega)) (up_ne (by omega)) (up_ne (by omega)) (up_ne (by omega)) (up_cell (by decide)) (up_cell (by decide)), ?_, CO_of h5 (up_ne (by omega)) (up_ne (by omega))⟩
  unfold KY
  rw [up_same, up_same, up_ne (show ¬ (48 = 48 ∧ 5 = 6) by omega), up_ne (show ¬ (121 = 121 ∧ 102 = 103) by omega), up_cell (show 50 ≠ 48 by decide), up_cell (show 186 ≠ 121 by decide)]
  exact ⟨k1, k2, by omega, by omega, k5⟩
/-- a line is read, key by key -/
theorem rl_lp (ha : w16 a) : ∀ (k : Nat) (s t : iS), LB s t → gO s t → s 48 5 - s 48 6 = (k : Int) → Ov (fun r r' => r = r' ∧ w16 r) (lib_readLine_30 a (s 48 6) s) (m_readLine_26 a 1 t) := by
  intro k
  induction k with
  | zero =>
    intro s t h hg hk
    obtain ⟨_, _, _, ⟨k1, k2, k3, k4, k5⟩, _⟩ := id h
    refine Or.inl ⟨a, a, s, t, ?_, ?_, ⟨rfl, ha⟩, h, hg⟩
    · unfold lib_readLine_30
      rw [lp_end (f := fun l : Int × iS => lib_readLine_30b a (l.1) (l.2)) (l := (s 48 6, s)) (e := .inr s) (by
        show lib_readLine_30b a (s 48 6) s = _
        unfold lib_readLine_30b
        rw [gr (by omega), gr (by omega), if_pos (by omega)]), bn]
      rfl
    · unfold m_readLine_26
      rw [lp_end (f := fun l : Int × iS => m_readLine_26b a (l.1) (l.2)) (l := (1, t)) (e := t) (by
        show m_readLine_26b a 1 t = _
        unfold m_readLine_26b
        rw [gr (by omega), if_neg (by omega), kk99 hg, gr (by omega), gr (by omega), if_pos (by omega)]), bn]
  | succ k ih =>
    intro s t h hg hk
    obtain ⟨_, _, _, ⟨k1, k2, k3, k4, k5⟩, _⟩ := id h
    have c : ¬ s 48 5 ≤ s 48 6 := by omega
    have ky := k5 (s 48 6).toNat (by omega)
    have hL := LB_key h c
    have hG : gO (up s 48 6 (s 48 6 + 1)) (up t 121 103 (t 121 103 + 1)) := ⟨by rw [up_ne (by omega)]; exact hg.1, by rw [up_ne (by omega)]; exact hg.2⟩
    have rc : lib_readChar s = some (s 50 (s 48 6).toNat, up s 48 6 (s 48 6 + 1)) := by
      unfold lib_readChar
      rw [(nk_ok h).1, bq, if_neg c, gr (by omega), gr (by omega), if_neg c, lt_eq]
    have kr : t 186 (t 121 103).toNat = s 50 (s 48 6).toNat := by rw [← k3]; exact ky.1.symm
    by_cases c10 : s 50 (s 48 6).toNat = 10
    · refine Or.inl ⟨a, a, _, _, ?_, ?_, ⟨rfl, ha⟩, hL, hG⟩
      · unfold lib_readLine_30
        rw [lp_end (f := fun l : Int × iS => lib_readLine_30b a (l.1) (l.2)) (l := (s 48 6, s)) (e := .inl (up s 48 6 (s 48 6 + 1))) (by
          show lib_readLine_30b a (s 48 6) s = _
          unfold lib_readLine_30b
          rw [gr (by omega), gr (by omega), if_neg c, kk5 hg, rc, bq, gr (by omega), if_pos c10]), bn]
        rfl
      · unfold m_readLine_26
        rw [lp_next (f := fun l : Int × iS => m_readLine_26b a (l.1) (l.2)) (l := (1, t)) (l' := (0, up t 121 103 (t 121 103 + 1))) (by
          show m_readLine_26b a 1 t = _
          unfold m_readLine_26b
          rw [gr (by omega), if_neg (by omega), kk99 hg, gr (by omega), gr (by omega), if_neg (by omega), gd_pos (by omega), lt_eq, kr, gr (by omega), if_pos c10]), lp_end (f := fun l : Int × iS => m_readLine_26b a (l.1) (l.2)) (l := (0, up t 121 103 (t 121 103 + 1))) (e := up t 121 103 (t 121 103 + 1)) (by
          show m_readLine_26b a 0 _ = _
          unfold m_readLine_26b
          rw [gr (by omega), if_pos rfl]), bn]
    · have cC : ∀ r s1, lib_appendChar a (s 50 (s 48 6).toNat) (up s 48 6 (s 48 6 + 1)) = some (r, s1) → lib_readLine_30 a (s 48 6) s = lib_readLine_30 a (s 48 6 + 1) s1 := fun r s1 e => by
        unfold lib_readLine_30
        rw [lp_next (f := fun l : Int × iS => lib_readLine_30b a (l.1) (l.2)) (l := (s 48 6, s)) (l' := (s 48 6 + 1, s1)) (by
          show lib_readLine_30b a (s 48 6) s = _
          unfold lib_readLine_30b
          rw [gr (by omega), gr (by omega), if_neg c, kk5 hg, rc, bq, gr (by omega), if_neg c10, e, bq])]
      have cR : ∀ r t1, m_append a (s 50 (s 48 6).toNat) (up t 121 103 (t 121 103 + 1)) = some (r, t1) → m_readLine_26 a 1 t = m_readLine_26 a 1 t1 := fun r t1 e => by
        unfold m_readLine_26
        rw [lp_next (f := fun l : Int × iS => m_readLine_26b a (l.1) (l.2)) (l := (1, t)) (l' := (1, t1)) (by
          show m_readLine_26b a 1 t = _
          unfold m_readLine_26b
          rw [gr (by omega), if_neg (by omega), kk99 hg, gr (by omega), gr (by omega), if_neg (by omega), gd_pos (by omega), lt_eq, kr, gr (by omega), if_neg c10, e, bq])]
      rcases ap_ok1 (b := s 50 (s 48 6).toNat) hL hG ha with ⟨r, r', s1, t1, e1, e2, e3, e4, e5⟩ | ⟨r, r', s1, t1, e1, e2, e3, e4, e5⟩
      · rw [cC r s1 e1, cR r' t1 e2]
        have fr : md L_lib_appendChar G_lib_appendChar (up s 48 6 (s 48 6 + 1)) s1 := flib_appendChar _ _ _ _ e1
        have f6 : s1 48 6 = s 48 6 + 1 := by rw [(chk_ok (D := []) (E := [(48, 5), (48, 6)]) rfl fr).2 (48, 6) (by decide)]; exact up_same _ _ _ _
        have f5 : s1 48 5 = s 48 5 := by
          have q := (chk_ok (D := []) (E := [(48, 5), (48, 6)]) rfl fr).2 (48, 5) (by decide)
          simp only at q
          rw [q, up_ne (by omega)]
        rw [← f6]
        exact ih s1 t1 e4 e5 (by omega)
      · rw [cC r s1 e1, cR r' t1 e2]
        have fr : md L_lib_appendChar G_lib_appendChar (up s 48 6 (s 48 6 + 1)) s1 := flib_appendChar _ _ _ _ e1
        have f5 : s1 48 5 = s 48 5 := by
          have q := (chk_ok (D := []) (E := [(48, 5), (48, 6)]) rfl fr).2 (48, 5) (by decide)
          simp only at q
          rw [q, up_ne (by omega)]
        refine Or.inr ⟨a, a, s1, t1, ?_, ?_, ⟨ha, by omega⟩, e4, e5⟩
        · unfold lib_readLine_30
          rw [lp_end (f := fun l : Int × iS => lib_readLine_30b a (l.1) (l.2)) (l := (s 48 6 + 1, s1)) (e := .inr s1) (by
            show lib_readLine_30b a (s 48 6 + 1) s1 = _
            unfold lib_readLine_30b
            rw [gr (by omega), f5, gr (by omega)]
            by_cases c2 : s 48 5 ≤ s 48 6 + 1
            · rw [if_pos c2]
            · rw [if_neg c2, e5.1, gr (by omega), if_neg (by omega)]), bn]
          rfl
        · unfold m_readLine_26
          rw [lp_end (f := fun l : Int × iS => m_readLine_26b a (l.1) (l.2)) (l := (1, t1)) (e := t1) (by
            show m_readLine_26b a 1 t1 = _
            unfold m_readLine_26b
            rw [gr (by omega), if_neg (by omega), e5.2, gr (by omega), if_neg (by omega)]), bn]
theorem rl26_d (hk : kO s t) : m_readLine_26 a 1 t = some (a, t) := by
  unfold m_readLine_26
  rw [lp_end (f := fun l : Int × iS => m_readLine_26b a (l.1) (l.2)) (l := (1, t)) (e := t) (by
    show m_readLine_26b a 1 t = _
    unfold m_readLine_26b
    rw [gr (by omega), if_neg (by omega), hk.2, gr (by omega), if_neg (by omega)]), bn]
theorem rl30_d (ha : w16 a) (h : LB s t) (hk : kO s t) : lib_readLine_30 a (s 48 6) s = some (a, s) := by
  obtain ⟨_, _, _, ⟨k1, k2, k3, k4, k5⟩, _⟩ := h
  unfold lib_readLine_30
  rw [lp_end (f := fun l : Int × iS => lib_readLine_30b a (l.1) (l.2)) (l := (s 48 6, s)) (e := .inr s) (by
    show lib_readLine_30b a (s 48 6) s = _
    unfold lib_readLine_30b
    rw [gr (by omega), gr (by omega)]
    by_cases c2 : s 48 5 ≤ s 48 6
    · rw [if_pos c2]
    · rw [if_neg c2, hk.1, gr (by omega), if_neg (by omega)]), bn]
  rfl
theorem rl_ok1 (h : LB s t) (hg : gO s t) (ha : w16 a) : Ov (fun r r' => r = r' ∧ w16 r) (lib_readLine a s) (m_readLine a t) := by
  unfold lib_readLine m_readLine
  refine Ov_bd (ps_ok1 h hg ha) (fun _ _ s1 t1 _ hl hg1 => ?_) (fun _ _ => DCl_5 (DCl_some (by decide))) (fun _ _ => DRf_99 (fun s t _ hk => ⟨0, by unfold m_readLine_23; exact rl26_d hk, by decide⟩))
  rw [kk5 hg1, kk99 hg1]
  refine Ov_bd (ns_ok1 hl hg1 (by decide)) (fun r r' s2 t2 hr hl2 hg2 => ?_) (fun r hr s t hl hk => ⟨r, rl30_d hr hl hk, hr⟩) (fun r hr s t _ hk => ⟨r, by unfold m_readLine_23; exact rl26_d hk, hr⟩)
  obtain ⟨e, hr⟩ := hr
  subst e
  unfold m_readLine_23
  have kk := hl2.2.2.2.1
  exact rl_lp hr (s2 48 5 - s2 48 6).toNat s2 t2 hl2 hg2 (by unfold KY at kk; omega)
end LBg
