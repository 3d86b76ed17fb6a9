/-! the reference's commands -/
section CMa
variable {F : Nat → Int} {n N : Nat} {P : Nat → Nat} {s0 t0 t t' t'' : iS} {j u k x : Nat} {K : List Nat} {U : List urec} {W : List wrec} {Y : List Nat} {l l' : List (Int × Int × Int)} {a b c v : Int}
/-- the reference's commands so far -/
def RCm (l : List (Int × Int × Int)) (t : iS) : Prop := t 121 76 = (l.length : Int) ∧ ∀ i, i < l.length → t 172 i = (l.getD i (0, 0, 0)).1 ∧ t 173 i = (l.getD i (0, 0, 0)).2.1 ∧ t 174 i = (l.getD i (0, 0, 0)).2.2
def FM (t t' : iS) : Prop := ∀ c k, c ≠ 172 → c ≠ 173 → c ≠ 174 → ¬ (c = 121 ∧ k = 76) → t' c k = t c k
theorem FM_refl : FM t t := fun _ _ _ _ _ _ => rfl
theorem FM_trans (h : FM t t') (h' : FM t' t'') : FM t t'' := fun c k a b d e => (h' c k a b d e).trans (h c k a b d e)
/-- one command more -/
noncomputable def cmT (t : iS) (m : Nat) (a b c : Int) : iS := up (up (up (up t 172 m a) 173 m b) 174 m c) 121 76 ((m : Int) + 1)
theorem com_eq {α : Type} {g : Int → iS → Option α} (h : RCm l t) (hl : l.length < 12000) : bd (m_com a b c t) g = g 0 (cmT t l.length a b c) := by
  have e := h.1
  have E : ∀ z : iS, z 121 76 = (l.length : Int) → (0 ≤ z 121 76 ∧ z 121 76 < 12000) ∧ (z 121 76).toNat = l.length := fun z hz => by rw [hz]; exact ⟨by omega, by omega⟩
  have e1 : up t 172 l.length a 121 76 = (l.length : Int) := by rw [up_ne (by omega)]; exact e
  have e2 : up (up t 172 l.length a) 173 l.length b 121 76 = (l.length : Int) := by rw [up_ne (by omega)]; exact e1
  have e3 : up (up (up t 172 l.length a) 173 l.length b) 174 l.length c 121 76 = (l.length : Int) := by rw [up_ne (by omega)]; exact e2
  unfold m_com cmT
  rw [gd_pos (E t e).1, lt_eq, (E t e).2, gd_pos (E _ e1).1, lt_eq, (E _ e1).2, gd_pos (E _ e2).1, lt_eq, (E _ e2).2, lt_eq, bq, e3]
theorem cmT_FM {m : Nat} : FM t (cmT t m a b c) := fun x k q1 q2 q3 q4 => by
  unfold cmT
  rw [up_ne (by omega), up_ne (by omega), up_ne (by omega), up_ne (by omega)]
theorem cmT_RC (h : RCm l t) : RCm (l ++ [(a, b, c)]) (cmT t l.length a b c) := by
  refine ⟨?_, fun i hi => ?_⟩
  · unfold cmT
    rw [up_same, List.length_append, List.length_singleton]
    omega
  · rw [List.length_append, List.length_singleton] at hi
    unfold cmT
    by_cases d : i = l.length
    · subst d
      rw [gd_end, up_ne (by omega), up_ne (by omega), up_ne (by omega), up_same, up_ne (by omega), up_ne (by omega), up_same, up_ne (by omega), up_same]
      exact ⟨rfl, rfl, rfl⟩
    · rw [gd_app (show i < l.length by omega), up_ne (by omega), up_ne (by omega), up_ne (by omega), up_ne (by omega), up_ne (by omega), up_ne (by omega), up_ne (by omega), up_ne (by omega), up_ne (by omega), up_ne (by omega), up_ne (by omega), up_ne (by omega)]
      exact h.2 i (by omega)
/-- one command and no more -/
theorem com_1 (h : RCm l t) (hl : l.length < 12000) : ∃ t', bd (m_com a b c t) (fun _ s => some ((0 : Int), s)) = some (0, t') ∧ RCm (l ++ [(a, b, c)]) t' ∧ FM t t' := ⟨_, com_eq h hl, cmT_RC h, cmT_FM⟩
theorem comV_ok (h : RG F n N P s0 t0 K U W Y t) (hc : RCm l t) (hl : l.length < 12000) (hx : x < W.length) (hu : (wGt W x).2.2.1 = 2 → (wGt W x).2.1 = (u : Int)) (huU : u < U.length) : ∃ t', (∀ g : iS → Option (Int × iS), bd (m_comVariable v (x : Int) t) (fun _ s => g s) = g t') ∧ RCm (l ++ [(v, sgT (wGt W x), nuT (soF U u) (wGt W x))]) t' ∧ FM t t' := by
  have hW := h.2.2.2.1
  obtain ⟨⟨b1, b2, b3, b4, b5⟩, b6, b7, ⟨b8, b8'⟩, b9, b10, b11, b12, b13, b14⟩ := RG_W h hx
  have b15 := (h.2.1.2.2.2.2.2.2.2.1 x hx).2.2.2.2.2.1
  have u2 : t 131 u = soF U u := (RG_U h huU).2.1
  have us : soF U u = 1 ∨ soF U u = 2 ∨ soF U u = 3 := (RG_U h huU).2.2.2.2.2.2.2.2.2.2
  refine ⟨cmT t l.length v (sgT (wGt W x)) (nuT (soF U u) (wGt W x)), fun g => ?_, cmT_RC hc, cmT_FM⟩
  have e42 : ∀ z : Int, m_comVariable_42 v (x : Int) z t = some (0, cmT t l.length v z (nuT (soF U u) (wGt W x))) := fun z => by
    unfold m_comVariable_42 m_comVariable_72 m_comVariable_73 nuT
    rw [gd_pos (by omega), Int.toNat_natCast, b3, b2, b15, gr (by omega)]
    change (if (wGt W x).2.2.1 = 2 then gd (0 ≤ (wGt W x).2.1 ∧ (wGt W x).2.1 < 61) _ else _) = some (0, cmT t l.length v z ((wGt W x).2.2.2.2.2.1 + _))
    by_cases c1 : (wGt W x).2.2.1 = 2
    · have hs := hu c1
      have hs' : (W.getD x (0, 0, 0, 0, 0, 0, 0)).2.1 = (u : Int) := hs
      rw [if_pos c1, hs, gd_pos (by omega), hs', Int.toNat_natCast, u2, gr (by omega)]
      by_cases c2 : soF U u = 3
      · rw [if_pos c2, gd_pos (by omega), com_eq hc hl, if_pos ⟨c1, c2⟩]
        rfl
      · rw [if_neg c2, gd_pos (by omega), com_eq hc hl, if_neg (fun e => c2 e.2)]
        rfl
    · rw [if_neg c1, gd_pos (by omega), com_eq hc hl, if_neg (fun e => c1 e.1)]
      rfl
  unfold m_comVariable
  rw [gd_pos (by omega), Int.toNat_natCast, b3, gr (by omega), e42, e42, e42, e42]
  change bd (if (wGt W x).2.2.1 = 0 then _ else if (wGt W x).2.2.1 = 1 then _ else if (wGt W x).2.2.1 = 2 then _ else _) _ = _
  unfold sgT
  by_cases c0 : (wGt W x).2.2.1 = 0
  · rw [if_pos c0, if_pos c0, bq]
  · rw [if_neg c0, if_neg c0]
    by_cases c1 : (wGt W x).2.2.1 = 1
    · rw [if_pos c1, if_pos c1, bq]
    · rw [if_neg c1, if_neg c1]
      by_cases c2 : (wGt W x).2.2.1 = 2
      · rw [if_pos c2, if_pos c2, bq]
      · rw [if_neg c2, if_neg c2, bq]
/-- a command as three numbers -/
def c3 (x : crc) : Int × Int × Int := (x.1, x.2.1, x.2.2.1)
theorem comS_ok (hc : RCm l t) (hl : l.length < 12000) (hv : -2147483648 ≤ v ∧ v ≤ 2147483647) : ∃ t', m_comSign v t = some (0, t') ∧ RCm (l ++ [c3 (opC v)]) t' ∧ FM t t' := by
  unfold m_comSign opC
  rw [gr hv]
  by_cases c1 : v = 38
  · rw [if_pos c1, if_pos c1]; exact com_1 hc hl
  rw [if_neg c1, if_neg c1]
  by_cases c2 : v = 42
  · rw [if_pos c2, if_pos c2]; exact com_1 hc hl
  rw [if_neg c2, if_neg c2]
  by_cases c3 : v = 43
  · rw [if_pos c3, if_pos c3]; exact com_1 hc hl
  rw [if_neg c3, if_neg c3]
  by_cases c4 : v = 45
  · rw [if_pos c4, if_pos c4]; exact com_1 hc hl
  rw [if_neg c4, if_neg c4]
  by_cases c5 : v = 47
  · rw [if_pos c5, if_pos c5]; exact com_1 hc hl
  rw [if_neg c5, if_neg c5]
  by_cases c6 : v = 60
  · rw [if_pos c6, if_pos c6]; exact com_1 hc hl
  rw [if_neg c6, if_neg c6]
  by_cases c7 : v = 62
  · rw [if_pos c7, if_pos c7]; exact com_1 hc hl
  rw [if_neg c7, if_neg c7]
  by_cases c8 : v = 124
  · rw [if_pos c8, if_pos c8]; exact com_1 hc hl
  rw [if_neg c8, if_neg c8]
  exact com_1 hc hl
/-- the bytes of a string -/
theorem comStr {q z : Nat} (hk : k < 5000) (h146 : t 146 k = (z : Int)) (h170 : t 170 k = (q : Int)) (hz : z ≤ 60 ∧ q + z + 2 ≤ 4000) (hF : ∀ i, i < z → t 171 (q + 1 + i) = F (q + 1 + i)) : ∀ (m i : Nat) (l : List (Int × Int × Int)) (t1 : iS), i + m = z → RCm l t1 → FM t t1 → l.length + 2 * m < 12000 → ∃ t', m_comItem_164 (k : Int) (i : Int) t1 = some (0, t') ∧ RCm (l ++ (strC F q (i + 1) m).map c3) t' ∧ FM t t'
  | 0, i, l, t1, hi, hc, hf, hl => by
    have st : m_comItem_164b (k : Int) (i : Int) t1 = some (.inr t1) := by
      unfold m_comItem_164b
      rw [gd_pos (by omega), gr (by omega), Int.toNat_natCast, hf 146 k (by omega) (by omega) (by omega) (by omega), h146, gr (by omega), if_pos (by omega)]
    refine ⟨t1, ?_, by rw [show strC F q (i + 1) 0 = [] from rfl, List.map_nil, List.append_nil]; exact hc, hf⟩
    unfold m_comItem_164
    rw [lp_end (f := fun l : Int × iS => m_comItem_164b (k : Int) (l.1) (l.2)) (l := ((i : Int), t1)) st]
    rfl
  | m + 1, i, l, t1, hi, hc, hf, hl => by
    have hc1 : RCm (l ++ [((0 : Int), (0 : Int), F (q + 1 + i))]) (cmT t1 l.length 0 0 (F (q + 1 + i))) := cmT_RC hc
    have hl1 : (l ++ [((0 : Int), (0 : Int), F (q + 1 + i))]).length < 12000 := by rw [List.length_append, List.length_singleton]; omega
    have st : ∃ t2, m_comItem_164b (k : Int) (i : Int) t1 = some (.inl (((i + 1 : Nat) : Int), t2)) ∧ RCm (l ++ [(0, 0, F (q + 1 + i))] ++ [(15, 304, 2)]) t2 ∧ FM t t2 := by
      refine ⟨_, ?_, cmT_RC hc1, FM_trans hf (FM_trans cmT_FM cmT_FM)⟩
      unfold m_comItem_164b
      rw [gd_pos (by omega), gr (by omega), Int.toNat_natCast, hf 146 k (by omega) (by omega) (by omega) (by omega), h146, gr (by omega), if_neg (by omega), hf 170 k (by omega) (by omega) (by omega) (by omega), h170, gd_pos (by omega), show ((q : Int) + 1 + (i : Int)).toNat = q + 1 + i by omega, hf 171 (q + 1 + i) (by omega) (by omega) (by omega) (by omega), hF i (by omega), com_eq hc (by omega), com_eq hc1 hl1]
      rfl
    obtain ⟨t2, s1, s2, s3⟩ := st
    obtain ⟨t3, r1, r2, r3⟩ := comStr hk h146 h170 hz hF m (i + 1) _ t2 (by omega) s2 s3 (by simp; omega)
    refine ⟨t3, ?_, ?_, r3⟩
    · rw [← r1]
      unfold m_comItem_164
      rw [lp_next (f := fun l : Int × iS => m_comItem_164b (k : Int) (l.1) (l.2)) (l := ((i : Int), t1)) s1]
    · have e : (strC F q (i + 1) (m + 1)).map c3 = [(0, 0, F (q + 1 + i))] ++ [(15, 304, 2)] ++ (strC F q (i + 1 + 1) m).map c3 := by
        show ((0, 0, F (q + (i + 1)), 0) :: (15, 304, 2, 16) :: strC F q (i + 1 + 1) m).map c3 = _
        rw [show q + (i + 1) = q + 1 + i by omega]
        rfl
      rw [e, ← List.append_assoc, ← List.append_assoc]
      exact r2
end CMa
