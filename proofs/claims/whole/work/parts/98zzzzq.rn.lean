/-! both machines: stacks, turns -/
/-- the class's stack, the reference's -/
def STK (s : iS) (L : List Int) : Prop := s 51 6 = (L.length : Int) ∧ ∀ k, k < L.length → s 52 k = L.getD k 0
def RTK (t : iS) (L : List Int) : Prop := t 121 87 = (L.length : Int) ∧ ∀ k, k < L.length → t 180 k = L.getD k 0
section RNd
variable {s s' sB t t' : iS} {L M : List Int} {v x : Int} {n m : Nat}
theorem STK_of (h : STK s L) (h1 : s' 51 6 = s 51 6) (h2 : s' 52 = s 52) : STK s' L := by
  unfold STK at h ⊢
  rw [h1, h2]
  exact h
theorem RTK_of (h : RTK t L) (h1 : t' 121 87 = t 121 87) (h2 : t' 180 = t 180) : RTK t' L := by
  unfold RTK at h ⊢
  rw [h1, h2]
  exact h
noncomputable def cpu (s : iS) (n : Nat) (v : Int) : iS := up (up s 52 n v) 51 6 ((n : Int) + 1)
noncomputable def rpu (t : iS) (n : Nat) (v : Int) : iS := up (up t 180 n v) 121 87 ((n : Int) + 1)
theorem cpu_ne {c k : Nat} (h : c ≠ 52) (h2 : ¬ (c = 51 ∧ k = 6)) : cpu s n v c k = s c k := by
  unfold cpu
  rw [up_ne h2, up_ne (by omega)]
theorem rpu_ne {c k : Nat} (h : c ≠ 180) (h2 : ¬ (c = 121 ∧ k = 87)) : rpu t n v c k = t c k := by
  unfold rpu
  rw [up_ne h2, up_ne (by omega)]
theorem push_ok (h : STK s L) (hl : L.length < 16384) : mac_push v s = some (0, cpu s L.length v) ∧ STK (cpu s L.length v) (L ++ [v]) := by
  obtain ⟨h1, h2⟩ := h
  constructor
  · unfold mac_push cpu
    rw [h1, gr (by omega), if_neg (by omega), gd_pos (by omega), Int.toNat_natCast, lt_eq, up_ne (by omega), h1, lt_eq]
  · unfold cpu
    refine ⟨by rw [up_same, List.length_append, List.length_singleton]; omega, fun k hk => ?_⟩
    rw [List.length_append, List.length_singleton] at hk
    by_cases c : k < L.length
    · rw [gdL c, up_ne (by omega), up_ne (by omega)]
      exact h2 k c
    · have : k = L.length := by omega
      subst this
      rw [gdR (Nat.le_refl _), Nat.sub_self, up_ne (by omega), up_same]
      rfl
theorem rput_ok (h : RTK t L) (hl : L.length < 20000) : m_put v t = some (0, rpu t L.length (i_s v)) ∧ RTK (rpu t L.length (i_s v)) (L ++ [i_s v]) := by
  obtain ⟨h1, h2⟩ := h
  constructor
  · unfold m_put m_word16 rpu
    rw [bq, h1, gd_pos (by omega), Int.toNat_natCast, lt_eq, up_ne (by omega), h1, lt_eq]
  · unfold rpu
    refine ⟨by rw [up_same, List.length_append, List.length_singleton]; omega, fun k hk => ?_⟩
    rw [List.length_append, List.length_singleton] at hk
    by_cases c : k < L.length
    · rw [gdL c, up_ne (by omega), up_ne (by omega)]
      exact h2 k c
    · have : k = L.length := by omega
      subst this
      rw [gdR (Nat.le_refl _), Nat.sub_self, up_ne (by omega), up_same]
      rfl
theorem pop_ok (h : STK s (L ++ [v])) (hl : L.length < 16384) : mac_pop s = some (v, up s 51 6 (L.length : Int)) ∧ STK (up s 51 6 (L.length : Int)) L := by
  obtain ⟨h1, h2⟩ := h
  rw [List.length_append, List.length_singleton] at h1
  have hv : s 52 L.length = v := by
    rw [h2 L.length (by simp), gdR (Nat.le_refl _), Nat.sub_self]
    rfl
  constructor
  · unfold mac_pop
    rw [h1, gr (by omega), if_neg (by omega), show ((L.length + 1 : Nat) : Int) - 1 = (L.length : Int) by omega, lt_eq, up_same, gd_pos (by omega), Int.toNat_natCast, up_ne (by omega), hv]
  · refine ⟨up_same _ _ _ _, fun k hk => ?_⟩
    rw [up_ne (by omega), h2 k (by rw [List.length_append]; omega), gdL hk]
theorem rpop_ok (h : RTK t (L ++ [v])) (hl : L.length < 20000) : m_pop t = some (v, up t 121 87 (L.length : Int)) ∧ RTK (up t 121 87 (L.length : Int)) L := by
  obtain ⟨h1, h2⟩ := h
  rw [List.length_append, List.length_singleton] at h1
  have hv : t 180 L.length = v := by
    rw [h2 L.length (by simp), gdR (Nat.le_refl _), Nat.sub_self]
    rfl
  constructor
  · unfold m_pop
    rw [h1, show ((L.length + 1 : Nat) : Int) - 1 = (L.length : Int) by omega, lt_eq, up_same, gd_pos (by omega), Int.toNat_natCast, up_ne (by omega), hv]
  · refine ⟨up_same _ _ _ _, fun k hk => ?_⟩
    rw [up_ne (by omega), h2 k (by rw [List.length_append]; omega), gdL hk]
/-- n turns of the class -/
def TN (n : Nat) (s s' : iS) : Prop := ∀ v : Int, 0 ≤ v → v + (n : Int) ≤ 20000000 → mac_execute_77 v s = mac_execute_77 (v + (n : Int)) s'
theorem TN_0 : TN 0 s s := fun v _ _ => by rw [show v + ((0 : Nat) : Int) = v by omega]
theorem TN_add {s1 s2 s3 : iS} (h1 : TN n s1 s2) (h2 : TN m s2 s3) : TN (n + m) s1 s3 := fun v h h' => by
  rw [h1 v h (by omega), h2 (v + (n : Int)) (by omega) (by omega), show v + (n : Int) + (m : Int) = v + ((n + m : Nat) : Int) by omega]
/-- what a mark does -/
def MKB (s : iS) (mk : Int) (sB : iS) : Prop := mk = -1 ∧ sB = s ∨ 0 ≤ mk ∧ mk ≤ 100000 ∧ s 51 16 < s 51 15 ∧ sB = up (up s 51 18 mk) 51 16 (s 51 16 + 1)
theorem mayB {mk : Int} (h : MKB s mk sB) (h16 : 0 ≤ s 51 16 ∧ s 51 16 ≤ 5000) (h15 : 0 ≤ s 51 15 ∧ s 51 15 ≤ 5000) : mac_mayBegin mk s = some (1, sB) := by
  unfold mac_mayBegin mac_spendStep
  rcases h with ⟨h1, h2⟩ | ⟨h1, h1', h2, h3⟩
  · rw [h1, gr (by omega), if_pos rfl, h2]
  · rw [gr (by omega), if_neg (by omega), lt_eq, up_ne (show ¬ (51 = 51 ∧ 16 = 18) by omega), up_ne (show ¬ (51 = 51 ∧ 15 = 18) by omega), gr (by omega), gr (by omega), if_pos h2, lt_eq, bq, gd_pos (Or.inr rfl), h3]
/-- one turn -/
theorem turn {q : Nat} {mk r : Int} {sz : Nat} (h14 : s 51 14 = -1) (hq : s 51 7 = (q : Int)) (h8 : s 14 8 = (sz : Int)) (hsz : sz ≤ 3000) (hqs : q < sz) (hmk : s 19 q = mk) (hB : MKB s mk sB) (h16 : 0 ≤ s 51 16 ∧ s 51 16 ≤ 5000) (h15 : 0 ≤ s 51 15 ∧ s 51 15 ≤ 5000) (hd : mac_doCommand (s 15 q) (s 16 q) (s 17 q) (s 18 q) (up sB 51 7 ((q : Int) + 1)) = some (r, s')) : TN 1 s s' := fun v h h' => by
  have fB : ∀ c, 15 ≤ c → c ≤ 18 → up sB 51 7 ((q : Int) + 1) c q = s c q := fun c z1 z2 => by
    rw [up_ne (by omega)]
    rcases hB with ⟨_, e⟩ | ⟨_, _, _, e⟩
    · rw [e]
    · rw [e, up_ne (by omega), up_ne (by omega)]
  unfold mac_execute_77
  rw [lp_next (f := fun l : Int × iS => mac_execute_77b (l.1) (l.2)) (l := (v, s)) (l' := (v + ((1 : Nat) : Int), s')) (by
    show mac_execute_77b v s = _
    unfold mac_execute_77b
    rw [gr (by omega), if_neg (by omega), h14, gr (by omega), if_pos rfl, hq, gr (by omega), if_neg (by omega), h8, gr (by omega), if_pos (by omega), gd_pos (by omega), Int.toNat_natCast, hmk, mayB hB h16 h15, bq, gr (by omega), if_neg (by omega), lt_eq, fB 15 (by omega) (by omega), fB 16 (by omega) (by omega), fB 17 (by omega) (by omega), fB 18 (by omega) (by omega), hd, bq]
    rfl)]
/-- no fuel at a mark -/
theorem turn0 {q : Nat} {mk : Int} {sz : Nat} (h14 : s 51 14 = -1) (hq : s 51 7 = (q : Int)) (h8 : s 14 8 = (sz : Int)) (hsz : sz ≤ 3000) (hqs : q < sz) (hmk : s 19 q = mk) (hm : 0 ≤ mk ∧ mk ≤ 100000) (h16 : 0 ≤ s 51 16 ∧ s 51 16 ≤ 5000) (h15 : s 51 15 = s 51 16) : TN 1 s (up (up s 51 18 mk) 51 14 1) := fun v h h' => by
  unfold mac_execute_77
  rw [lp_next (f := fun l : Int × iS => mac_execute_77b (l.1) (l.2)) (l := (v, s)) (l' := (v + ((1 : Nat) : Int), up (up s 51 18 mk) 51 14 1)) (by
    show mac_execute_77b v s = _
    unfold mac_execute_77b mac_mayBegin mac_spendStep
    rw [gr (by omega), if_neg (by omega), h14, gr (by omega), if_pos rfl, hq, gr (by omega), if_neg (by omega), h8, gr (by omega), if_pos (by omega), gd_pos (by omega), Int.toNat_natCast, hmk, gr (by omega), if_neg (by omega), lt_eq, up_ne (show ¬ (51 = 51 ∧ 16 = 18) by omega), up_ne (show ¬ (51 = 51 ∧ 15 = 18) by omega), gr (by omega), gr (by omega), if_neg (by omega), lt_eq, bq, gd_pos (Or.inl rfl), bq, gr (by omega), if_pos rfl]
    rfl)]
/-- the machine has ended -/
theorem exe_end {v : Int} (hv : 0 ≤ v ∧ v ≤ 20000000) (h : s 51 14 ≠ -1) (h2 : 0 ≤ s 51 14 ∧ s 51 14 ≤ 3) : mac_execute_77 v s = mac_execute_188 s := by
  unfold mac_execute_77
  rw [lp_end (f := fun l : Int × iS => mac_execute_77b (l.1) (l.2)) (l := (v, s)) (e := s) (by
    show mac_execute_77b v s = _
    unfold mac_execute_77b
    rw [gr (by omega)]
    by_cases c : 20000000 ≤ v
    · rw [if_pos c]
    · rw [if_neg c, gr (by omega), if_neg h]), bn]
/-- the reference's loop -/
theorem run_nx (h : t 121 99 = -1) {r : Int} (e : m_doItem t = some (r, t')) : m_run_141 t = m_run_141 t' := by
  unfold m_run_141
  rw [lp_next (f := fun l : iS => m_run_141b l) (l := t) (l' := t') (by
    show m_run_141b t = _
    unfold m_run_141b
    rw [h, gr (by omega), if_pos rfl, e, bq])]
theorem run_en (h : t 121 99 ≠ -1) (h2 : 0 ≤ t 121 99 ∧ t 121 99 ≤ 3) : m_run_141 t = m_run_156 t := by
  unfold m_run_141
  rw [lp_end (f := fun l : iS => m_run_141b l) (l := t) (e := t) (by
    show m_run_141b t = _
    unfold m_run_141b
    rw [gr (by omega), if_neg h]), bn]
/-- nothing failed, nothing halted -/
theorem d258 (h5 : s 44 5 = 0) (h9 : s 48 9 = 0) : mac_doCommand_258 s = some (0, s) := by
  unfold mac_doCommand_258
  rw [h5, gr (by omega), if_pos rfl, h9, gr (by omega), if_pos rfl]
theorem d258_f (h5 : s 44 5 = 1) : mac_doCommand_258 s = some (0, up s 51 14 3) := by
  unfold mac_doCommand_258
  rw [h5, gr (by omega), if_neg (by omega), lt_eq]
theorem d258_h (h5 : s 44 5 = 0) (h9 : s 48 9 = 1) : mac_doCommand_258 s = some (0, up s 51 14 0) := by
  unfold mac_doCommand_258
  rw [h5, gr (by omega), if_pos rfl, h9, gr (by omega), if_neg (by omega), lt_eq]
end RNd
