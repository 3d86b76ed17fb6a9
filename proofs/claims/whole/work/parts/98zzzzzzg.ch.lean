/-! chips: ranges, links -/
section CHe
variable {F : Nat → Int} {n N : Nat} {P : Nat → Nat} {s0 t0 s t s' t' : iS} {p x j : Nat} {C : List chR} {O I J : List Nat} {Q : List (Nat × Int)} {R L : List (Nat × Nat)} {c0 : chR}
/-- the first pin of a chip with a name, as the reference finds it -/
theorem r_pinOf (h : TKH F n N P s0 t0) (hr : SR t0 t) {i a b : Nat} {qk : Nat → Nat} (h1 : t 196 i = (a : Int)) (h2 : t 196 (i + 1) = (b : Int)) (hi : i < 17) (hb : b ≤ 200) (ha : a ≤ 1000) (hq : ∀ k, a ≤ k → k < b → t 198 k = (qk k : Int) ∧ qk k < N ∧ s0 9 (qk k) = 3) (hj : j < N ∧ s0 9 j = 3) : m_pinOf (i : Int) (j : Int) t = some (fst1 (fun k => nmT F P t0 (qk k) = nmT F P t0 j) a (b - a), t) := by
  have fin : ∀ v : Nat, b ≤ v → v ≤ 1000 → m_pinOf_7 (i : Int) (j : Int) (v : Int) t = some (-1, t) := fun v hv hv2 => by
    unfold m_pinOf_7
    rw [lp_end (f := fun l : Int × iS => m_pinOf_7b (i : Int) (j : Int) (l.1) (l.2)) (e := .inr t) (by
      show m_pinOf_7b (i : Int) (j : Int) (v : Int) t = _
      unfold m_pinOf_7b
      rw [gd_pos (by omega), gr (by omega), show ((i : Int) + 1).toNat = i + 1 by omega, h2, gr (by omega), if_pos (by omega)])]
    rfl
  have go : ∀ (k v : Nat), v + k = b → a ≤ v → m_pinOf_7 (i : Int) (j : Int) (v : Int) t = some (fst1 (fun k => nmT F P t0 (qk k) = nmT F P t0 j) v k, t) := by
    intro k
    induction k with
    | zero =>
      intro v hv _
      rw [fin v (by omega) (by omega)]
      rfl
    | succ k ih =>
      intro v hv hav
      obtain ⟨q1, q2, q3⟩ := hq v hav (by omega)
      have lk := cH_like h hr ⟨q2, q3⟩ hj
      have st : m_pinOf_7b (i : Int) (j : Int) (v : Int) t = if nmT F P t0 (qk v) = nmT F P t0 j then some (.inr (.inl ((v : Int), t))) else some (.inl (((v + 1 : Nat) : Int), t)) := by
        unfold m_pinOf_7b
        rw [gd_pos (by omega), gr (by omega), show ((i : Int) + 1).toNat = i + 1 by omega, h2, gr (by omega), if_neg (by omega), gd_pos (by omega), Int.toNat_natCast, q1, lk, bq]
        by_cases c : nmT F P t0 (qk v) = nmT F P t0 j
        · rw [if_pos c, if_pos c, gr (by omega), if_neg (by omega)]
        · rw [if_neg c, if_neg c, gr (by omega), if_pos rfl]
          rfl
      by_cases c : nmT F P t0 (qk v) = nmT F P t0 j
      · rw [if_pos c] at st
        unfold m_pinOf_7
        rw [lp_end (f := fun l : Int × iS => m_pinOf_7b (i : Int) (j : Int) (l.1) (l.2)) (l := ((v : Int), t)) st]
        simp only [fst1, if_pos c]
        rfl
      · rw [if_neg c] at st
        have e3 : m_pinOf_7 (i : Int) (j : Int) (v : Int) t = m_pinOf_7 (i : Int) (j : Int) ((v + 1 : Nat) : Int) t := by
          unfold m_pinOf_7
          rw [lp_next (f := fun l : Int × iS => m_pinOf_7b (i : Int) (j : Int) (l.1) (l.2)) (l := ((v : Int), t)) st]
        rw [e3, ih (v + 1) (by omega) (by omega)]
        simp only [fst1, if_neg c]
  unfold m_pinOf
  rw [gd_pos (by omega), Int.toNat_natCast, h1]
  by_cases c : a ≤ b
  · exact go (b - a) a (by omega) (Nat.le_refl _)
  · rw [fin a (by omega) ha, show b - a = 0 by omega]
    rfl
/-- the first inner name -/
theorem r_innerOf (h : TKH F n N P s0 t0) (hr : SR t0 t) {i a b : Nat} {qk : Nat → Nat} (h1 : t 212 i = (a : Int)) (h2 : t 212 (i + 1) = (b : Int)) (hi : i < 17) (hb : b ≤ 700) (ha : a ≤ 1000) (hq : ∀ k, a ≤ k → k < b → t 213 k = (qk k : Int) ∧ qk k < N ∧ s0 9 (qk k) = 3) (hj : j < N ∧ s0 9 j = 3) : m_innerOf (i : Int) (j : Int) t = some (fst1 (fun k => nmT F P t0 (qk k) = nmT F P t0 j) a (b - a), t) := by
  have fin : ∀ v : Nat, b ≤ v → v ≤ 1000 → m_innerOf_7 (i : Int) (j : Int) (v : Int) t = some (-1, t) := fun v hv hv2 => by
    unfold m_innerOf_7
    rw [lp_end (f := fun l : Int × iS => m_innerOf_7b (i : Int) (j : Int) (l.1) (l.2)) (e := .inr t) (by
      show m_innerOf_7b (i : Int) (j : Int) (v : Int) t = _
      unfold m_innerOf_7b
      rw [gd_pos (by omega), gr (by omega), show ((i : Int) + 1).toNat = i + 1 by omega, h2, gr (by omega), if_pos (by omega)])]
    rfl
  have go : ∀ (k v : Nat), v + k = b → a ≤ v → m_innerOf_7 (i : Int) (j : Int) (v : Int) t = some (fst1 (fun k => nmT F P t0 (qk k) = nmT F P t0 j) v k, t) := by
    intro k
    induction k with
    | zero =>
      intro v hv _
      rw [fin v (by omega) (by omega)]
      rfl
    | succ k ih =>
      intro v hv hav
      obtain ⟨q1, q2, q3⟩ := hq v hav (by omega)
      have lk := cH_like h hr ⟨q2, q3⟩ hj
      have st : m_innerOf_7b (i : Int) (j : Int) (v : Int) t = if nmT F P t0 (qk v) = nmT F P t0 j then some (.inr (.inl ((v : Int), t))) else some (.inl (((v + 1 : Nat) : Int), t)) := by
        unfold m_innerOf_7b
        rw [gd_pos (by omega), gr (by omega), show ((i : Int) + 1).toNat = i + 1 by omega, h2, gr (by omega), if_neg (by omega), gd_pos (by omega), Int.toNat_natCast, q1, lk, bq]
        by_cases c : nmT F P t0 (qk v) = nmT F P t0 j
        · rw [if_pos c, if_pos c, gr (by omega), if_neg (by omega)]
        · rw [if_neg c, if_neg c, gr (by omega), if_pos rfl]
          rfl
      by_cases c : nmT F P t0 (qk v) = nmT F P t0 j
      · rw [if_pos c] at st
        unfold m_innerOf_7
        rw [lp_end (f := fun l : Int × iS => m_innerOf_7b (i : Int) (j : Int) (l.1) (l.2)) (l := ((v : Int), t)) st]
        simp only [fst1, if_pos c]
        rfl
      · rw [if_neg c] at st
        have e3 : m_innerOf_7 (i : Int) (j : Int) (v : Int) t = m_innerOf_7 (i : Int) (j : Int) ((v + 1 : Nat) : Int) t := by
          unfold m_innerOf_7
          rw [lp_next (f := fun l : Int × iS => m_innerOf_7b (i : Int) (j : Int) (l.1) (l.2)) (l := ((v : Int), t)) st]
        rw [e3, ih (v + 1) (by omega) (by omega)]
        simp only [fst1, if_neg c]
  unfold m_innerOf
  rw [gd_pos (by omega), Int.toNat_natCast, h1]
  by_cases c : a ≤ b
  · exact go (b - a) a (by omega) (Nat.le_refl _)
  · rw [fin a (by omega) ha, show b - a = 0 by omega]
    rfl
/-- a range, behind token x -/
theorem h_range (h : TKR 1 F n N P s0 t0) (hl : LVh N s0 t0 (x + 1) s t) (sz : SZc s ∧ SZr t) : ∃ s' t', crd_readRange s = some (0, s') ∧ m_range t = some (0, t') ∧ ((∃ p', x + 1 ≤ p' ∧ LVh N s0 t0 p' s' t' ∧ rOK s0 N x ∧ (t' 121 148 = rgA s0 x ∧ t' 121 149 = rgI s0 x ∧ t' 121 150 = rgJ s0 x) ∧ (∀ c k, c ≠ 2 → s' c k = s c k) ∧ (∀ c k, ¬ (c = 121 ∧ (k = 10 ∨ k = 148 ∨ k = 149 ∨ k = 150)) → t' c k = t c k)) ∨ RDd P s0 t0 N s' t') := by
  have hN := N2001 h
  obtain ⟨ta, hta⟩ : ∃ ta, ta = up (up (up t 121 148 (-1)) 121 149 0) 121 150 0 := ⟨_, rfl⟩
  have fta : ∀ c k, ¬ (c = 121 ∧ (k = 148 ∨ k = 149 ∨ k = 150)) → ta c k = t c k := fun c k z => by rw [hta, up_ne (by omega), up_ne (by omega), up_ne (by omega)]
  have lva : LVh N s0 t0 (x + 1) s ta := LVh_of hl (fun _ _ _ => rfl) (fun c k z => fta c k (by omega))
  have er : m_range t = bd (m_isSign 91 ta) (fun r4 s4 => gd (rg r4) (if r4 = 0 then some (0, s4) else lt' (up s4 121 148 (s4 121 10)) (fun s7 => bd (m_go s7) (fun _ s8 => bd (m_needNumber s8) (fun r9 s9 => gd (rg (s9 121 11)) (if (s9 121 11) = 0 then bd (m_isSign 46 s9) (fun r12 s12 => gd (rg r12) (if r12 = 0 then m_range_69 r9 r9 s12 else bd (m_go s12) (fun _ s15 => bd (m_needNumber s15) (fun r16 s16 => m_range_69 r9 r16 s16)))) else m_range_69 r9 r9 s9)))))) := by
    unfold m_range
    rw [lt_eq, lt_eq, lt_eq, ← hta]
  obtain ⟨a1, a2, a3, a4, a5, a6, a7⟩ := lva
  rw [rS h a2 a4 a5 (by omega), bq] at er
  have kk := kRg h a5
  by_cases c : s0 9 (x + 1) = 91
  case neg =>
    rw [if_neg c, gr (by omega), if_pos rfl] at er
    refine ⟨s, ta, ?_, er, Or.inl ⟨x + 1, Nat.le_refl _, ⟨a1, a2, a3, a4, a5, a6, a7⟩, ⟨a5, fun z => absurd z c⟩, ?_, fun _ _ _ => rfl, fun c k z => fta c k (by omega)⟩⟩
    · unfold crd_readRange
      rw [cK h a1 a3 a5, bq, gr (by omega), if_neg c]
    · unfold rgA rgI rgJ
      rw [if_neg c, if_neg c, if_neg c, hta]
      refine ⟨?_, ?_, ?_⟩
      · rw [up_ne (by omega), up_ne (by omega), up_same]
      · rw [up_ne (by omega), up_same]
      · rw [up_same]
  have hp2 := nlast h a5 (by omega)
  obtain ⟨tb, htb⟩ : ∃ tb, tb = up ta 121 148 ((x + 1 : Nat) : Int) := ⟨_, rfl⟩
  have ftb : ∀ c k, ¬ (c = 121 ∧ (k = 148 ∨ k = 149 ∨ k = 150)) → tb c k = t c k := fun c k z => by rw [htb, up_ne (by omega), fta c k z]
  have lvb : LVh N s0 t0 (x + 1) s tb := LVh_of hl (fun _ _ _ => rfl) (fun c k z => ftb c k (by omega))
  have lvc := LVh_nx lvb hp2
  obtain ⟨sc, hsc⟩ : ∃ sc, sc = up s 2 12 ((x + 1 + 1 : Nat) : Int) := ⟨_, rfl⟩
  obtain ⟨tc, htc⟩ : ∃ tc, tc = up tb 121 10 ((x + 1 + 1 : Nat) : Int) := ⟨_, rfl⟩
  rw [← hsc, ← htc] at lvc
  have fsc : ∀ c k, c ≠ 2 → sc c k = s c k := fun c k z => by rw [hsc, up_ne (by omega)]
  have ftc : ∀ c k, ¬ (c = 121 ∧ (k = 10 ∨ k = 148 ∨ k = 149 ∨ k = 150)) → tc c k = t c k := fun c k z => by rw [htc, up_ne (by omega), ftb c k (by omega)]
  have tc148 : tc 121 148 = ((x + 1 : Nat) : Int) := by rw [htc, up_ne (by omega), htb, up_same]
  have ec : crd_readRange s = bd (tok_expect 4 sc) (fun _ s5 => bd (tok_kind s5) (fun r6 s6 => gd (rg r6) (if r6 = 46 then lt' (up s6 2 12 ((s6 2 12) + 1)) (fun s9 => bd (tok_expect 4 s9) (fun _ s10 => crd_readRange_67 s10)) else crd_readRange_67 s6))) := by
    unfold crd_readRange
    rw [cK h a1 a3 a5, bq, gr (by omega), if_pos c, lt_eq, a3, show ((x + 1 : Nat) : Int) + 1 = ((x + 1 + 1 : Nat) : Int) by omega, ← hsc]
  rw [if_pos c, gr (by omega), if_neg (by omega), lt_eq, a4, ← htb, rGo lvb.2.2.2.2.2.2 lvb.2.2.2.1, bq, ← htc] at er
  have szc : SZc sc ∧ SZr tc := ⟨SZc_of sz.1 (fun c k z => fsc c k (by omega)), SZr_of sz.2 (fun k z => ftc 121 k (by omega))⟩
  have d67 : ∀ {f : Int} {q : Nat} {z : iS}, cDd N s0 f q z → crd_readRange_67 z = some (0, z) := fun {f q z} hd => by
    unfold crd_readRange_67
    rw [dEx h hd (by omega), bq]
  have d69 : ∀ {f : Int} {q : Nat} {z : iS} {v w : Int}, rDd N P t0 f q z → m_range_69 v w z = some (0, z) := fun {f q z v w} hd => by
    have d6 := hd.2.2
    have d2 := hd.1.2.1
    unfold m_range_69
    rw [eSg h hd (by omega), bq, gr (by omega), if_neg (by omega)]
  -- the closing sign
  have cl : ∀ (p' v w : Nat) (sx tx : iS), LVh N s0 t0 p' sx tx → SZc sx ∧ SZr tx → v < N → w < N → s0 9 v = 4 → s0 9 w = 4 → (∀ c k, c ≠ 2 → sx c k = s c k) → (∀ c k, ¬ (c = 121 ∧ (k = 10 ∨ k = 148 ∨ k = 149 ∨ k = 150)) → tx c k = t c k) → tx 121 148 = ((x + 1 : Nat) : Int) → x + 1 ≤ p' → ∃ s' t', crd_readRange_67 sx = some (0, s') ∧ m_range_69 (v : Int) (w : Int) tx = some (0, t') ∧ ((∃ p2, p' + 1 = p2 ∧ x + 1 ≤ p2 ∧ LVh N s0 t0 p2 s' t' ∧ (t' 121 148 = ((x + 1 : Nat) : Int) ∧ t' 121 149 = s0 11 v ∧ t' 121 150 = s0 11 w) ∧ (∀ c k, c ≠ 2 → s' c k = s c k) ∧ (∀ c k, ¬ (c = 121 ∧ (k = 10 ∨ k = 148 ∨ k = 149 ∨ k = 150)) → t' c k = t c k)) ∨ RDd P s0 t0 N s' t') := fun p' v w sx tx y1 y2 y3 y4 y5 y6 y7 y8 y9 y10 => by
    unfold crd_readRange_67 m_range_69
    rcases bSg h y1 (c := 93) (by omega) with ⟨m1, m2, m3, m4⟩ | ⟨f, m1, m2, m3, -⟩
    · have x1 : (up tx 121 10 ((p' + 1 : Nat) : Int)) 127 v = s0 11 v := by rw [m4.2.1.2.2.2.2.1]; exact (tkV h y3 y5).1
      have x2 : (up (up tx 121 10 ((p' + 1 : Nat) : Int)) 121 149 (s0 11 v)) 127 w = s0 11 w := by rw [up_ne (by omega), m4.2.1.2.2.2.2.1]; exact (tkV h y4 y6).1
      rw [m2, bq, m3, bq, m4.2.2.2.2.2.2, gr (by omega), if_pos (by omega), gd_pos (by omega), Int.toNat_natCast, x1, lt_eq, gd_pos (by omega), Int.toNat_natCast, x2, lt_eq]
      refine ⟨_, _, rfl, rfl, Or.inl ⟨p' + 1, rfl, by omega, LVh_of m4 (fun _ _ _ => rfl) (fun c k z => by rw [up_ne (by omega), up_ne (by omega)]), ⟨by rw [up_ne (by omega), up_ne (by omega), up_ne (by omega)]; exact y9, by rw [up_ne (by omega), up_same], up_same _ _ _ _⟩, fun c k z => by rw [up_ne (by omega)]; exact y7 c k z, fun c k z => by rw [up_ne (by omega), up_ne (by omega), up_ne (by omega)]; exact y8 c k z⟩⟩
    · have f11 : flt tx f P p' 121 11 = f := by unfold flt; rw [up_ne (by omega), up_same]
      rw [m2, bq, m3, bq, f11, gr (by omega), if_neg (by omega)]
      exact ⟨_, _, rfl, rfl, Or.inr (RDd_st y1 y2 m1)⟩
  rcases bNm h lvc with ⟨n1, n2, n3, n4⟩ | ⟨f, n1, n2, n3⟩
  case inr =>
    have dc : cDd N s0 f (x + 1 + 1) (stp sc f (x + 1 + 1) N) := ⟨DCh_st lvc.1, SZc_st szc.1, n1⟩
    have dr : rDd N P t0 f (x + 1 + 1) (flt tc f P (x + 1 + 1)) := ⟨DRh_fl lvc.2.1 lvc.2.2.2.1 lvc.2.2.2.2.1, SZr_fl szc.2, n1⟩
    refine ⟨_, _, ?_, ?_, Or.inr ⟨f, x + 1 + 1, n1, lvc.2.2.2.2.1, dc.1, dc.2.1, dr.1, dr.2.1⟩⟩
    · rw [ec, n2, bq, dK h dc, bq, gr (by omega), if_neg (by omega), d67 dc]
    · have d2 := dr.1.2.1
      rw [er, n3, bq, d2, gr (by omega), if_neg (by omega), d69 dr]
  have hp3 := n4.2.2.2.2.1
  have k3 := kRg h hp3
  rw [n2, bq, cK h n4.1 n4.2.2.1 hp3, bq, gr (by omega)] at ec
  rw [n3, bq, n4.2.2.2.2.2.2, gr (by omega), if_pos rfl, rS h n4.2.1 n4.2.2.2.1 hp3 (by omega), bq] at er
  obtain ⟨sd, hsd⟩ : ∃ sd, sd = up sc 2 12 ((x + 1 + 1 + 1 : Nat) : Int) := ⟨_, rfl⟩
  obtain ⟨td, htd⟩ : ∃ td, td = up tc 121 10 ((x + 1 + 1 + 1 : Nat) : Int) := ⟨_, rfl⟩
  rw [← hsd, ← htd] at n4
  rw [← hsd] at ec
  rw [← htd] at er
  have fsd : ∀ c k, c ≠ 2 → sd c k = s c k := fun c k z => by rw [hsd, up_ne (by omega), fsc c k z]
  have ftd : ∀ c k, ¬ (c = 121 ∧ (k = 10 ∨ k = 148 ∨ k = 149 ∨ k = 150)) → td c k = t c k := fun c k z => by rw [htd, up_ne (by omega), ftc c k z]
  have td148 : td 121 148 = ((x + 1 : Nat) : Int) := by rw [htd, up_ne (by omega)]; exact tc148
  have szd : SZc sd ∧ SZr td := ⟨SZc_of sz.1 (fun c k z => fsd c k (by omega)), SZr_of sz.2 (fun k z => ftd 121 k (by omega))⟩
  by_cases d : s0 9 (x + 1 + 1 + 1) = 46
  case neg =>
    rw [if_neg d] at ec
    rw [if_neg d, gr (by omega), if_pos rfl] at er
    obtain ⟨s', t', y1, y2, y3⟩ := cl (x + 1 + 1 + 1) (x + 1 + 1) (x + 1 + 1) sd td n4 szd lvc.2.2.2.2.1 lvc.2.2.2.2.1 n1 n1 fsd ftd td148 (by omega)
    refine ⟨s', t', by rw [ec, y1], by rw [er]; exact y2, ?_⟩
    rcases y3 with ⟨p2, z1, z2, z3, z4, z5, z6⟩ | y3
    · refine Or.inl ⟨p2, z2, z3, ⟨a5, fun _ => ⟨hp3, n1, fun q => absurd q d⟩⟩, ?_, z5, z6⟩
      unfold rgA rgI rgJ
      rw [if_pos c, if_pos c, if_pos c, if_neg d]
      exact z4
    · exact Or.inr y3
  have hp4 := nlast h hp3 (by omega)
  have n5 := LVh_nx n4 hp4
  rw [if_pos d, lt_eq, n4.2.2.1, show ((x + 1 + 1 + 1 : Nat) : Int) + 1 = ((x + 1 + 1 + 1 + 1 : Nat) : Int) by omega] at ec
  rw [if_pos d, gr (by omega), if_neg (by omega), rGo n4.2.2.2.2.2.2 n4.2.2.2.1, bq] at er
  obtain ⟨se, hse⟩ : ∃ se, se = up sd 2 12 ((x + 1 + 1 + 1 + 1 : Nat) : Int) := ⟨_, rfl⟩
  obtain ⟨te, hte⟩ : ∃ te, te = up td 121 10 ((x + 1 + 1 + 1 + 1 : Nat) : Int) := ⟨_, rfl⟩
  rw [← hse, ← hte] at n5
  rw [← hse] at ec
  rw [← hte] at er
  have fse : ∀ c k, c ≠ 2 → se c k = s c k := fun c k z => by rw [hse, up_ne (by omega), fsd c k z]
  have fte : ∀ c k, ¬ (c = 121 ∧ (k = 10 ∨ k = 148 ∨ k = 149 ∨ k = 150)) → te c k = t c k := fun c k z => by rw [hte, up_ne (by omega), ftd c k z]
  have te148 : te 121 148 = ((x + 1 : Nat) : Int) := by rw [hte, up_ne (by omega)]; exact td148
  have sze : SZc se ∧ SZr te := ⟨SZc_of sz.1 (fun c k z => fse c k (by omega)), SZr_of sz.2 (fun k z => fte 121 k (by omega))⟩
  rcases bNm h n5 with ⟨o1, o2, o3, o4⟩ | ⟨f, o1, o2, o3⟩
  · obtain ⟨s', t', y1, y2, y3⟩ := cl (x + 1 + 1 + 1 + 1 + 1) (x + 1 + 1) (x + 1 + 1 + 1 + 1) (up se 2 12 ((x + 1 + 1 + 1 + 1 + 1 : Nat) : Int)) (up te 121 10 ((x + 1 + 1 + 1 + 1 + 1 : Nat) : Int)) o4 ⟨SZc_of sz.1 (fun c k z => by rw [up_ne (by omega)]; exact fse c k (by omega)), SZr_of sze.2 (fun k z => up_ne (by omega))⟩ lvc.2.2.2.2.1 n5.2.2.2.2.1 n1 o1 (fun c k z => by rw [up_ne (by omega)]; exact fse c k z) (fun c k z => by rw [up_ne (by omega)]; exact fte c k z) (by rw [up_ne (by omega)]; exact te148) (by omega)
    refine ⟨s', t', by rw [ec, o2, bq, y1], by rw [er, o3, bq]; exact y2, ?_⟩
    rcases y3 with ⟨p2, z1, z2, z3, z4, z5, z6⟩ | y3
    · have z9 := z3.2.2.2.2.1
      refine Or.inl ⟨p2, z2, z3, ⟨a5, fun _ => ⟨hp3, n1, fun _ => ⟨by omega, o1⟩⟩⟩, ?_, z5, z6⟩
      unfold rgA rgI rgJ
      rw [if_pos c, if_pos c, if_pos c, if_pos d]
      exact z4
    · exact Or.inr y3
  · have dc : cDd N s0 f (x + 1 + 1 + 1 + 1) (stp se f (x + 1 + 1 + 1 + 1) N) := ⟨DCh_st n5.1, SZc_st sze.1, o1⟩
    have dr : rDd N P t0 f (x + 1 + 1 + 1 + 1) (flt te f P (x + 1 + 1 + 1 + 1)) := ⟨DRh_fl n5.2.1 n5.2.2.2.1 n5.2.2.2.2.1, SZr_fl sze.2, o1⟩
    exact ⟨_, _, by rw [ec, o2, bq, d67 dc], by rw [er, o3, bq, d69 dr], Or.inr ⟨f, x + 1 + 1 + 1 + 1, o1, n5.2.2.2.2.1, dc.1, dc.2.1, dr.1, dr.2.1⟩⟩
end CHe
