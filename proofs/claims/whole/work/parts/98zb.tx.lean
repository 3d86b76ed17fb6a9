/-! the text behind a fault: the class -/
/-- what stands behind a fault: all but the program, the signs, and the parameters of the text's own subs -/
def KS (s s' : iS) : Prop := ∀ c k, c ≠ 14 → c ≠ 20 → c ≠ 22 → ¬ (c = 31 ∧ 40 ≤ k) → s' c k = s c k
/-- counters of the class are ints -/
def TD (s : iS) : Prop := (0 ≤ s 23 11 ∧ s 23 11 < 1000000) ∧ (0 ≤ s 23 12 ∧ s 23 12 < 1000000) ∧ (0 ≤ s 40 4 ∧ s 40 4 < 1000000)
theorem KS_refl {s : iS} : KS s s := fun _ _ _ _ _ _ => rfl
theorem KS_trans {s s1 s2 : iS} (h : KS s s1) (h2 : KS s1 s2) : KS s s2 := fun c k a b d e => (h2 c k a b d e).trans (h c k a b d e)
theorem KS_up {s : iS} {c k : Nat} {x : Int} (h : c = 14 ∨ c = 20 ∨ c = 22 ∨ c = 31 ∧ 40 ≤ k) : KS s (up s c k x) := fun c' k' a b d e => up_ne (by omega)
theorem TD_KS {s s' : iS} (h : TD s) (hk : KS s s') : TD s' := by
  unfold TD at h ⊢
  rw [hk 23 11 (by omega) (by omega) (by omega) (by omega), hk 23 12 (by omega) (by omega) (by omega) (by omega), hk 40 4 (by omega) (by omega) (by omega) (by omega)]
  exact h
section TXa
variable {F : Nat → Int} {n N : Nat} {P : Nat → Nat} {s0 t0 s : iS} {f : Int} {u : Nat}
theorem CD_upx {c k : Nat} {x : Int} (h : CD s0 N s f u) (hc : c = 14 ∧ k ≠ 7 ∨ c = 20 ∨ c = 22 ∧ k ≠ 4 ∨ c = 31) : CD s0 N (up s c k x) f u := by
  obtain ⟨h1, h2, h3, h4, h5, h6, h7⟩ := h
  exact ⟨SC_up h1 (by omega), by rw [up_ne (by omega)]; exact h2, by rw [up_ne (by omega)]; exact h3, by rw [up_ne (by omega)]; exact h4, by rw [up_ne (by omega)]; exact h5, by rw [up_ne (by omega)]; exact h6, SBo_up h7 (by omega)⟩
theorem cz_type (h : TKR 0 F n N P s0 t0) (hf : ft f u N) (hd : CD s0 N s f u) : trl_readType s = some (-1, s) := by
  obtain ⟨h1, h2, h3, _⟩ := hd
  unfold trl_readType
  rw [cKD h h1 h2, bq, gr (by omega), if_neg (by omega), if_neg (by omega), if_neg (by omega), if_neg (by omega), cStD h h1 (by omega) h2, bq]
theorem cz_decl (h : TKR 0 F n N P s0 t0) (hf : ft f u N) (hd : CD s0 N s f u) {v w : Int} : trl_declare v w s = some (0, s) := by
  obtain ⟨h1, h2, h3, _⟩ := hd
  unfold trl_declare
  rw [cKD h h1 h2, bq, gr (by omega), if_neg (by omega), cStD h h1 (by omega) h2, bq]
theorem cz_var13 (h : TKR 0 F n N P s0 t0) (hf : ft f u N) (hd : CD s0 N s f u) {v w x : Int} (hx : 0 ≤ x ∧ x < 100000) : trl_readVariables_13 v w x s = some (0, s) := by
  unfold trl_readVariables_13
  rw [lp_end (f := fun l : Int × iS => trl_readVariables_13b v w (l.1) (l.2)) (l := (x, s)) (e := s) (by
    show trl_readVariables_13b v w x s = _
    unfold trl_readVariables_13b
    rw [gr (by omega)]
    by_cases c : 1000 ≤ x
    · rw [if_pos c]
    · rw [if_neg c, cKD h hd.1 hd.2.1, bq, gr (by omega), if_neg (by omega)]), bn]
  unfold trl_readVariables_57
  rw [cz_ex h hf hd (by omega), bq]
theorem cz_vars (h : TKR 0 F n N P s0 t0) (hf : ft f u N) (hd : CD s0 N s f u) {v : Int} : trl_readVariables v s = some (0, s) := by
  unfold trl_readVariables
  rw [cz_type h hf hd, bq, cz_decl h hf hd, bq, cz_var13 h hf hd (by omega)]
theorem cz_cv10 {v x : Int} (hv : -1 ≤ v ∧ v ≤ 255) (hx : 0 ≤ x ∧ x < 100000) : trl_readClassVariables_10 v x s = some (0, s) := by
  unfold trl_readClassVariables_10
  rw [lp_end (f := fun l : Int × Int × iS => trl_readClassVariables_10b (l.1) (l.2.1) (l.2.2)) (l := (v, x, s)) (e := s) (by
    show trl_readClassVariables_10b v x s = _
    unfold trl_readClassVariables_10b
    rw [gr (by omega)]
    by_cases c : 1000 ≤ x
    · rw [if_pos c]
    · rw [if_neg c, gr (by omega), if_neg (by omega), if_neg (by omega)]), bn]
theorem cz_cvs (h : TKR 0 F n N P s0 t0) (hd : CD s0 N s f u) : trl_readClassVariables s = some (0, s) := by
  unfold trl_readClassVariables
  rw [cKD h hd.1 hd.2.1, bq, cz_cv10 (by omega) (by omega)]
theorem cz_snam (h : TKR 0 F n N P s0 t0) (hf : ft f u N) (hd : CD s0 N s f u) {v : Int} : trl_readSubName v s = some (0, s) := by
  obtain ⟨h1, h2, h3, _⟩ := hd
  unfold trl_readSubName
  rw [cKD h h1 h2, bq, gr (by omega), if_neg (by omega), cStD h h1 (by omega) h2, bq]
theorem cz_cnam (h : TKR 0 F n N P s0 t0) (hf : ft f u N) (hd : CD s0 N s f u) : trl_readClassName s = some (0, s) := by
  obtain ⟨h1, h2, h3, _⟩ := hd
  unfold trl_readClassName
  rw [cKD h h1 h2, bq, gr (by omega), if_neg (by omega), cStD h h1 (by omega) h2, bq]
theorem cz_tell (hd : CD s0 N s f u) (ht : TD s) : ∃ s', scp_tellParameters s = some (0, s') ∧ CD s0 N s' f u ∧ KS s s' := by
  obtain ⟨t1, t2, t3⟩ := ht
  unfold scp_tellParameters
  rw [gr (by omega)]
  by_cases c : s 23 12 < 40
  · rw [if_pos c]
    exact ⟨s, rfl, hd, KS_refl⟩
  · rw [if_neg c]
    by_cases c2 : 100 ≤ s 23 12
    · rw [if_pos c2]
      exact ⟨s, rfl, hd, KS_refl⟩
    · rw [if_neg c2, gd_pos (by omega), lt_eq]
      exact ⟨_, rfl, CD_upx hd (by omega), KS_up (by omega)⟩
theorem cz_par79 (h : TKR 0 F n N P s0 t0) (hf : ft f u N) (hd : CD s0 N s f u) (ht : TD s) : ∃ s', trl_readParameters_79 s = some (0, s') ∧ CD s0 N s' f u ∧ KS s s' := by
  unfold trl_readParameters_79
  rw [cz_ex h hf hd (by omega), bq]
  obtain ⟨s', e, d1, d2⟩ := cz_tell hd ht
  exact ⟨s', by rw [e, bq], d1, d2⟩
theorem cz_par32 (h : TKR 0 F n N P s0 t0) (hf : ft f u N) (hd : CD s0 N s f u) (ht : TD s) {x : Int} (hx : 0 ≤ x ∧ x < 100000) : ∃ s', trl_readParameters_32 x s = some (0, s') ∧ CD s0 N s' f u ∧ KS s s' := by
  unfold trl_readParameters_32
  rw [lp_end (f := fun l : Int × iS => trl_readParameters_32b (l.1) (l.2)) (l := (x, s)) (e := s) (by
    show trl_readParameters_32b x s = _
    unfold trl_readParameters_32b
    rw [gr (by omega)]
    by_cases c : 1000 ≤ x
    · rw [if_pos c]
    · rw [if_neg c, cKD h hd.1 hd.2.1, bq, gr (by omega), if_neg (by omega)]), bn]
  exact cz_par79 h hf hd ht
theorem cz_pars (h : TKR 0 F n N P s0 t0) (hf : ft f u N) (hd : CD s0 N s f u) (ht : TD s) : ∃ s', trl_readParameters s = some (0, s') ∧ CD s0 N s' f u ∧ KS s s' := by
  unfold trl_readParameters
  rw [cz_ex h hf hd (by omega), bq, cKD h hd.1 hd.2.1, bq, gr (by omega), if_neg (by omega), cz_type h hf hd, bq, cz_decl h hf hd, bq]
  exact cz_par32 h hf hd ht (by omega)
theorem cz_begin (hd : CD s0 N s f u) (ht : TD s) {v : Int} (hv : 0 ≤ v ∧ v < 1000) : ∃ s', trl_beginBody v s = some (0, s') ∧ CD s0 N s' f u ∧ KS s s' := by
  have B : ∃ s1, prg_beginSub (s 23 12) s = some (0, s1) ∧ CD s0 N s1 f u ∧ KS s s1 := by
    obtain ⟨t1, t2, t3⟩ := ht
    have d1 : CD s0 N (up (up s 14 9 (s 14 8)) 14 12 (-1)) f u := CD_upx (CD_upx hd (by omega)) (by omega)
    have k1 : KS s (up (up s 14 9 (s 14 8)) 14 12 (-1)) := KS_trans (KS_up (by omega)) (KS_up (by omega))
    unfold prg_beginSub
    rw [lt_eq, lt_eq, gr (by omega), if_neg (by omega)]
    by_cases c : 100 ≤ s 23 12
    · rw [if_pos c]
      exact ⟨_, rfl, d1, k1⟩
    · rw [if_neg c, gd_pos (by omega), lt_eq]
      exact ⟨_, rfl, CD_upx d1 (by omega), KS_trans k1 (KS_up (by omega))⟩
  obtain ⟨s1, e1, d1, k1⟩ := B
  have ht1 := TD_KS ht k1
  obtain ⟨t1, t2, t3⟩ := ht1
  have b2 := d1.2.2.2.2.2.2.2.1
  have h7 : s1 14 7 = 0 := d1.2.2.2.2.2.1
  have M : ∃ r, scp_numberOf (s1 23 11) (s1 23 12) s1 = some (r, s1) := by
    unfold scp_numberOf scp_firstSubOf
    rw [gr (by omega), if_neg (by omega), gr (by omega)]
    by_cases c : s1 24 2 < s1 23 11
    · rw [if_pos c, bq]
      exact ⟨_, rfl⟩
    · rw [if_neg c, gd_pos (by omega), bq]
      exact ⟨_, rfl⟩
  obtain ⟨r, e2⟩ := M
  refine ⟨s1, ?_, d1, k1⟩
  unfold trl_beginBody
  rw [e1, bq, e2, bq, pad0 h7, bq, gr (by omega)]
  by_cases c : v = 259
  · rw [if_pos c, pad0 h7, bq, pad0 h7, bq]
  · rw [if_neg c]
    by_cases c2 : v = 257
    · rw [if_pos c2]
      have X : ∃ r, mth_max 1 (s1 40 4) s1 = some (r, s1) := by
        unfold mth_max
        rw [gr (by omega), gr (by omega)]
        split <;> exact ⟨_, rfl⟩
      obtain ⟨r', e3⟩ := X
      rw [e3, bq, pad0 h7, bq, pad0 h7, bq, pai0 h7, bq, pad0 h7, bq]
    · rw [if_neg c2]
theorem cz_end (hd : CD s0 N s f u) : prg_endSub s = some (0, s) := by
  unfold prg_endSub
  rw [hd.2.2.2.2.2.1, gr (by omega), if_pos rfl]
theorem cz_116 (h : TKR 0 F n N P s0 t0) (hf : ft f u N) (hd : CD s0 N s f u) (ht : TD s) {v : Int} (hv : 0 ≤ v ∧ v < 1000) : ∃ s', trl_readSub_116 v s = some (0, s') ∧ CD s0 N s' f u ∧ KS s s' := by
  unfold trl_readSub_116
  rw [lt_eq]
  have k0 : KS s (up s 22 7 0) := KS_up (by omega)
  obtain ⟨s1, e1, d1, k1⟩ := cz_begin (s := up s 22 7 0) (CD_upx hd (by omega)) (TD_KS ht k0) hv
  rw [e1, bq, show trlS 90 0 0 0 0 s1 = some (0, s1) by rw [trlS_0]; unfold trl_readStatements; exact cz_st h d1 (by omega), bq, pad0 d1.2.2.2.2.2.1, bq, pad0 d1.2.2.2.2.2.1, bq, cz_end d1, bq, cz_ex h hf d1 (by omega), bq, lt_eq]
  exact ⟨_, rfl, CD_upx d1 (by omega), KS_trans (KS_trans k0 k1) (KS_up (by omega))⟩
theorem cz_72 (h : TKR 0 F n N P s0 t0) (hf : ft f u N) (hd : CD s0 N s f u) (ht : TD s) {v x : Int} (hv : 0 ≤ v ∧ v < 1000) (hx : 0 ≤ x ∧ x < 100000) : ∃ s', trl_readSub_72 v x s = some (0, s') ∧ CD s0 N s' f u ∧ KS s s' := by
  unfold trl_readSub_72
  rw [lp_end (f := fun l : Int × iS => trl_readSub_72b v (l.1) (l.2)) (l := (x, s)) (e := s) (by
    show trl_readSub_72b v x s = _
    unfold trl_readSub_72b
    rw [gr (by omega)]
    by_cases c : 1000 ≤ x
    · rw [if_pos c]
    · rw [if_neg c, cKD h hd.1 hd.2.1, bq, gr (by omega), if_neg (by omega)]), bn]
  exact cz_116 h hf hd ht hv
theorem cz_72o (h : TKR 0 F n N P s0 t0) (hf : ft f u N) (hd : CD s0 N s f u) (ht : TD s) {v : Int} (hv : 0 ≤ v ∧ v < 1000) : ∃ s', bd (trl_openSign 123 s) (fun _ s3 => trl_readSub_72 v 0 s3) = some (0, s') ∧ CD s0 N s' f u ∧ KS s s' := by
  rw [cz_open h hf hd (by omega), bq]
  exact cz_72 h hf hd ht hv (by omega)
theorem cz_72p (h : TKR 0 F n N P s0 t0) (hf : ft f u N) (hd : CD s0 N s f u) (ht : TD s) {v : Int} (hv : 0 ≤ v ∧ v < 1000) : ∃ s', bd (trl_readParameters s) (fun _ s2 => bd (trl_openSign 123 s2) (fun _ s3 => trl_readSub_72 v 0 s3)) = some (0, s') ∧ CD s0 N s' f u ∧ KS s s' := by
  obtain ⟨s1, e1, d1, k1⟩ := cz_pars h hf hd ht
  rw [e1, bq]
  obtain ⟨s2, e2, d2, k2⟩ := cz_72o h hf d1 (TD_KS ht k1) hv
  exact ⟨s2, e2, d2, KS_trans k1 k2⟩
theorem cz_55 (h : TKR 0 F n N P s0 t0) (hf : ft f u N) (hd : CD s0 N s f u) (ht : TD s) {v : Int} (hv : 0 ≤ v ∧ v < 1000) : ∃ s', trl_readSub_55 v s = some (0, s') ∧ CD s0 N s' f u ∧ KS s s' := by
  unfold trl_readSub_55
  rw [cz_snam h hf hd, bq]
  exact cz_72p h hf hd ht hv
theorem cz_97 (h : TKR 0 F n N P s0 t0) (hf : ft f u N) (hd : CD s0 N s f u) {v w x : Int} (hx : 0 ≤ x ∧ x < 100000) : trl_readText_97 v w x s = some (.inl (w + 1, up s 22 5 (s 22 5 - 1))) := by
  unfold trl_readText_97
  rw [lp_end (f := fun l : Int × iS => trl_readText_97b v w (l.1) (l.2)) (l := (x, s)) (e := s) (by
    show trl_readText_97b v w x s = _
    unfold trl_readText_97b
    rw [gr (by omega)]
    by_cases c : 1000 ≤ x
    · rw [if_pos c]
    · rw [if_neg c, cKD h hd.1 hd.2.1, bq]
      unfold trl_beginsSub
      rw [gr (by omega), if_neg (by omega), if_neg (by omega), if_neg (by omega), bq, gr (by omega), if_pos rfl]), bn]
  unfold trl_readText_127
  rw [cz_ex h hf hd (by omega), bq, lt_eq]
theorem cz_48 (h : TKR 0 F n N P s0 t0) (hf : ft f u N) (hd : CD s0 N s f u) {x : Int} (hx : 0 ≤ x ∧ x < 100000) : trl_readText_48 0 x s = some (0, s) := by
  unfold trl_readText_48
  rw [lp_end (f := fun l : Int × iS => trl_readText_48b 0 (l.1) (l.2)) (l := (x, s)) (e := s) (by
    show trl_readText_48b 0 x s = _
    unfold trl_readText_48b
    rw [gr (by omega)]
    by_cases c : 1000 ≤ x
    · rw [if_pos c]
    · rw [if_neg c, cKD h hd.1 hd.2.1, bq, gr (by omega), if_neg (by omega)]), bn]
  unfold trl_readText_152
  rw [cz_ex h hf hd (by omega), bq, gr (by omega), if_pos rfl]
end TXa
