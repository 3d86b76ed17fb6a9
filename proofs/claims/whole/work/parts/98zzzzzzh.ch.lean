/-! chips: links -/
section CHf
variable {F : Nat → Int} {n N : Nat} {P : Nat → Nat} {s0 t0 s t s' t' : iS} {p q j : Nat} {C : List chR} {O I J : List Nat} {Q : List (Nat × Int)} {R L : List (Nat × Nat)} {c0 : chR} {f : Int}
def lOK (s0 : iS) (N : Nat) (l : Nat × Nat) : Prop := l.1 < N ∧ s0 9 l.1 = 3 ∧ rOK s0 N l.1 ∧ l.2 + 1 < N ∧ (s0 9 l.2 = 3 ∧ rOK s0 N l.2 ∨ s0 9 l.2 = 304 ∨ s0 9 l.2 = 305)
/-- the names on right sides are pins or inner names -/
def cvL (F : Nat → Int) (P : Nat → Nat) (s0 t0 : iS) (fp : Nat) (Q : List (Nat × Int)) (J : List Nat) (l : Nat × Nat) : Prop := s0 9 l.2 = 3 → (∃ k, fp ≤ k ∧ k < Q.length ∧ nmT F P t0 (Q.getD k (0, 0)).1 = nmT F P t0 l.2) ∨ (∃ x ∈ J, nmT F P t0 x = nmT F P t0 l.2)
/-- a name is asked for -/
theorem bNa (h : TKR 1 F n N P s0 t0) (hl : LVh N s0 t0 p s t) : (s0 9 p = 3 ∧ tok_expect 3 s = some (0, up s 2 12 ((p + 1 : Nat) : Int)) ∧ m_needName t = some ((p : Int), up t 121 10 ((p + 1 : Nat) : Int)) ∧ LVh N s0 t0 (p + 1) (up s 2 12 ((p + 1 : Nat) : Int)) (up t 121 10 ((p + 1 : Nat) : Int))) ∨ (∃ f, (0 < f ∧ f < 3) ∧ tok_expect 3 s = some (0, stp s f p N) ∧ m_needName t = some (0, flt t f P p)) := by
  obtain ⟨a1, a2, a3, a4, a5, a6, a7⟩ := hl
  have k := kd1 h a5
  have hN := N2001 h
  by_cases q : s0 9 p = 3
  · refine Or.inl ⟨q, cEx h a1 a3 a5 (by omega) q, ?_, LVh_nx ⟨a1, a2, a3, a4, a5, a6, a7⟩ (nlast h a5 (by omega))⟩
    have e : up t 121 10 ((p + 1 : Nat) : Int) 121 11 = 0 := by rw [up_ne (by omega)]; exact a7
    unfold m_needName m_needName_24
    rw [a4, gd_pos (by omega), Int.toNat_natCast, a2.2.1, gr (by omega), if_pos (k.1.mpr q), rGo a7 a4, bq, e, gr (by omega), if_pos rfl, up_same, show ((p + 1 : Nat) : Int) - 1 = (p : Int) by omega]
  · refine Or.inr ⟨if s0 9 p = 2 then 2 else 1, by split <;> omega, cEx0 h a1 a6.1 a3 a5 (by omega) q, ?_⟩
    have e : ∀ f, flt t f P p 121 11 = f := fun f => by unfold flt; rw [up_ne (by omega), up_same]
    unfold m_needName m_needName_24
    rw [a4, gd_pos (by omega), Int.toNat_natCast, a2.2.1, gr (by omega), if_neg (fun z => q (k.1.mp z)), rSy h a2 a7 a4 a5, bq, e]
    by_cases c : s0 9 p = 2
    · rw [if_pos c, gr (by omega), if_neg (by omega)]
    · rw [if_neg c, gr (by omega), if_neg (by omega)]
/-- the rest of a link -/
noncomputable def kL3 (v a : Int) (s3 : iS) : Option (Int × iS) := bd (tok_kind s3) (fun r4 s4 => gd (rg r4) (if r4 = 3 then bd (crd_noteInner v s4) (fun _ s14 => bd (crd_readRange s14) (fun _ s15 => crd_readLink_110 a (s3 2 12) s15)) else bd (tok_kind s4) (fun r7 s7 => gd (rg r7) (if r7 = 304 then crd_readLink_86 a (s3 2 12) s7 else bd (tok_kind s7) (fun r10 s10 => gd (rg r10) (if r10 = 305 then crd_readLink_86 a (s3 2 12) s10 else bd (tok_stop 1 s10) (fun _ s13 => crd_readLink_110 a (s3 2 12) s13)))))))
noncomputable def kL2 (v a : Int) (s2 : iS) : Option (Int × iS) := bd (tok_expect 61 s2) (fun _ s3 => kL3 v a s3)
theorem readLink_k {v : Int} : crd_readLink v s = bd (tok_expect 3 s) (fun _ s1 => bd (crd_readRange s1) (fun _ s2 => kL2 v (s 2 12) s2)) := rfl
theorem dkL3 {v a : Int} (h : TKR 1 F n N P s0 t0) (hd : cDd N s0 f q s) : ∃ s', kL3 v a s = some (0, s') ∧ cDd N s0 f q s' := by
  unfold kL3
  rw [dK h hd, bq, gr (by omega), if_neg (by omega), dK h hd, bq, gr (by omega), if_neg (by omega), dK h hd, bq, gr (by omega), if_neg (by omega), dSt h hd, bq]
  exact dL110 hd
theorem dkL2 {v a : Int} (h : TKR 1 F n N P s0 t0) (hd : cDd N s0 f q s) : ∃ s', kL2 v a s = some (0, s') ∧ cDd N s0 f q s' := by
  unfold kL2
  rw [dEx h hd (by omega), bq]
  exact dkL3 h hd
/-- the rest of a link in the reference -/
noncomputable def jL4 (s23 : iS) : Option (Int × iS) := gd (0 ≤ (s23 121 122) ∧ (s23 121 122) < 18) (lt' (up s23 196 (s23 121 122).toNat (s23 121 125)) (fun s31 => gd (0 ≤ (s31 121 122) ∧ (s31 121 122) < 18) (lt' (up s31 212 (s31 121 122).toNat (s31 121 144)) (fun s33 => bd (m_pinOf ((s23 121 122) - 1) (s33 121 10) s33) (fun r34 s34 => gd (rg r34) (if r34 = (-1) then bd (m_innerOf ((s23 121 122) - 1) (s34 121 10) s34) (fun r37 s37 => gd (rg r37) (if r37 = (-1) then gd (0 ≤ ((s23 121 122) - 1) ∧ ((s23 121 122) - 1) < 18) (bd (m_room ((s37 121 144) - (s37 212 ((s23 121 122) - 1).toNat)) 100 (s37 121 10) s37) (fun _ s41 => gd (rg (s41 121 11)) (if (s41 121 11) ≤ 0 then gd (0 ≤ (s41 121 144) ∧ (s41 121 144) < 700) (lt' (up s41 213 (s41 121 144).toNat (s41 121 10)) (fun s45 => lt' (up s45 121 144 ((s45 121 144) + 1)) (fun s46 => m_link_250 s46))) else some (0, s41)))) else m_link_250 s37)) else m_link_250 s34))))))
noncomputable def jL3 (s13 : iS) : Option (Int × iS) := gd (rg (s13 121 11)) (if (s13 121 11) ≤ 0 then gd (0 ≤ (s13 121 134) ∧ (s13 121 134) < 700) (lt' (up s13 208 (s13 121 134).toNat (s13 121 10)) (fun s17 => gd (0 ≤ (s17 121 134) ∧ (s17 121 134) < 700) (lt' (up s17 209 (s17 121 134).toNat (-1)) (fun s19 => bd (m_isWord 4 s19) (fun r20 s20 => gd (rg r20) (if r20 = 0 then bd (m_isWord 5 s20) (fun r23 s23 => gd (rg r23) (if r23 = 0 then gd (0 ≤ (s23 121 10) ∧ (s23 121 10) < 2002) (gd (rg (s23 124 (s23 121 10).toNat)) (if (s23 124 (s23 121 10).toNat) = 1 then jL4 s23 else bd (m_syntax s23) (fun _ s29 => m_link_304 s29))) else m_link_119 s23)) else m_link_119 s20)))))) else some (0, s13))
noncomputable def jL2 (s6 : iS) : Option (Int × iS) := gd (0 ≤ (s6 121 134) ∧ (s6 121 134) < 700) (lt' (up s6 205 (s6 121 134).toNat (s6 121 148)) (fun s8 => gd (0 ≤ (s8 121 134) ∧ (s8 121 134) < 700) (lt' (up s8 206 (s8 121 134).toNat (s8 121 149)) (fun s10 => gd (0 ≤ (s10 121 134) ∧ (s10 121 134) < 700) (lt' (up s10 207 (s10 121 134).toNat (s10 121 150)) (fun s12 => bd (m_needSign 61 s12) (fun _ s13 => jL3 s13)))))))
theorem link_j : m_link t = bd (m_needName t) (fun r1 s1 => gd (rg (s1 121 11)) (if (s1 121 11) ≤ 0 then gd (0 ≤ (s1 121 134) ∧ (s1 121 134) < 700) (lt' (up s1 204 (s1 121 134).toNat r1) (fun s5 => bd (m_range s5) (fun _ s6 => jL2 s6))) else some (0, s1))) := rfl
theorem ejL3 (hd : rDd N P t0 f q t) : jL3 t = some (0, t) := by
  have d6 := hd.2.2
  have d2 := hd.1.2.1
  unfold jL3
  rw [gr (by omega), if_neg (by omega)]
theorem ejL2 (h : TKR 1 F n N P s0 t0) (hd : rDd N P t0 f q t) : ∃ t', jL2 t = some (0, t') ∧ rDd N P t0 f q t' := by
  have z := hd.2.1.2.2
  obtain ⟨t3, h3⟩ : ∃ t3, t3 = up (up (up t 205 (t 121 134).toNat (t 121 148)) 206 (t 121 134).toNat (t 121 149)) 207 (t 121 134).toNat (t 121 150) := ⟨_, rfl⟩
  have d3 : rDd N P t0 f q t3 := rDd_of hd (fun c k z => by rw [h3, up_ne (by omega), up_ne (by omega), up_ne (by omega)]) (SZr_of hd.2.1 (fun k z => by rw [h3, up_ne (by omega), up_ne (by omega), up_ne (by omega)]))
  refine ⟨t3, ?_, d3⟩
  unfold jL2
  rw [gd_pos (by omega), lt_eq, up_ne (show ¬ (121 = 205 ∧ _) by omega), gd_pos (by omega), up_ne (show ¬ (121 = 205 ∧ _) by omega), lt_eq, up_ne (show ¬ (121 = 206 ∧ _) by omega), up_ne (show ¬ (121 = 205 ∧ _) by omega), gd_pos (by omega), up_ne (show ¬ (121 = 206 ∧ _) by omega), up_ne (show ¬ (121 = 205 ∧ _) by omega), lt_eq, ← h3, eSg h d3 (by omega), bq, ejL3 d3]
/-- the class puts a link behind the others -/
theorem l110 {a b : Nat} (h : s 71 14 = (j : Int)) (hj : j < 500) : crd_readLink_110 (a : Int) (b : Int) s = some (0, up (up (up s 85 j (a : Int)) 86 j (b : Int)) 71 14 ((j + 1 : Nat) : Int)) := by
  unfold crd_readLink_110
  rw [h, gr (by omega), if_neg (by omega), gd_pos (by omega), Int.toNat_natCast, lt_eq, up_ne (by omega), h, gd_pos (by omega), Int.toNat_natCast, lt_eq, lt_eq, up_ne (by omega), up_ne (by omega), h]
  rfl
/-- both have a link more -/
theorem RLv_l {l : Nat × Nat} (hl : RLv F P s0 t0 N C O Q R L I J p s t) (hq : LVh N s0 t0 q s' t') (hs : ∀ c k, 71 ≤ c ∧ c ≤ 89 → c ≠ 85 → c ≠ 86 → ¬ (c = 71 ∧ k = 14) → s' c k = s c k) (h85 : ∀ k, k < L.length → s' 85 k = s 85 k ∧ s' 86 k = s 86 k) (h85' : s' 85 L.length = (l.1 : Int) ∧ s' 86 L.length = (l.2 : Int)) (h14 : s' 71 14 = ((L.length + 1 : Nat) : Int))
    (ht : ∀ c k, c = 121 ∧ (k = 122 ∨ k = 125 ∨ k = 131 ∨ k = 144) ∨ (195 ≤ c ∧ c ≤ 213 ∧ ¬ (c = 196 ∧ C.length ≤ k) ∧ ¬ (c = 212 ∧ C.length ≤ k) ∧ ¬ (204 ≤ c ∧ c ≤ 211 ∧ L.length ≤ k)) → t' c k = t c k) (h134 : t' 121 134 = ((L.length + 1 : Nat) : Int))
    (hr : (t' 204 L.length = (l.1 : Int) ∧ t' 205 L.length = rgA s0 l.1 ∧ t' 206 L.length = rgI s0 l.1 ∧ t' 207 L.length = rgJ s0 l.1) ∧ t' 208 L.length = (l.2 : Int) ∧ (s0 9 l.2 = 3 → t' 209 L.length = rgA s0 l.2 ∧ t' 210 L.length = rgI s0 l.2 ∧ t' 211 L.length = rgJ s0 l.2) ∧ (s0 9 l.2 ≠ 3 → t' 209 L.length = -1)) : RLv F P s0 t0 N C O Q R (L ++ [l]) I J q s' t' := by
  obtain ⟨-, ⟨h2, h3, h4⟩, ⟨h5, h6⟩, ⟨h7, h8⟩, ⟨h9, h10⟩, ⟨h11, h12⟩, h13⟩ := hl
  refine ⟨hq, ⟨PcC_of h2 (fun c k z => hs c k (by omega) (by omega) (by omega) (by omega)), PrC_of h3 (fun c k z => ht c k (by omega)), PcO_of h4 (fun k z => hs 77 k (by omega) (by omega) (by omega) (by omega))⟩, ⟨PcP_of h5 (fun c k z => hs c k (by omega) (by omega) (by omega) (by omega)), PrP_of h6 (fun c k z => ht c k (by omega))⟩, ⟨PcR_of h7 (fun c k z => hs c k (by omega) (by omega) (by omega) (by omega)), PrR_of h8 (fun c k z => ht c k (by omega))⟩, ⟨⟨by rw [h14, List.length_append]; rfl, fun i hi => ?_⟩, ⟨by rw [h134, List.length_append]; rfl, fun i hi => ?_⟩⟩, ⟨PcI_of h11 (fun c k z => hs c k (by omega) (by omega) (by omega) (by omega)), PrI_of h12 (fun c k z => ht c k (by omega))⟩, STc_of h13 (fun c k z => hs c k (by omega) (by omega) (by omega) (by omega))⟩
  · rw [List.length_append, List.length_singleton] at hi
    by_cases c : i < L.length
    · rw [(h85 i c).1, (h85 i c).2, gdL c]
      exact h9.2 i c
    · have : i = L.length := by omega
      subst this
      rw [gd_end]
      exact h85'
  · rw [List.length_append, List.length_singleton] at hi
    by_cases c : i < L.length
    · rw [ht 204 i (by omega), ht 205 i (by omega), ht 206 i (by omega), ht 207 i (by omega), ht 208 i (by omega), ht 209 i (by omega), ht 210 i (by omega), ht 211 i (by omega), gdL c]
      exact h10.2 i c
    · have : i = L.length := by omega
      subst this
      rw [gd_end]
      exact hr
/-- a link -/
theorem h_link (hH : TKH F n N P s0 t0) (hl : RLv F P s0 t0 N (C ++ [c0]) O Q R L I J p s t) (hb : bdL (C ++ [c0]) Q R L J) (h4 : 4 * L.length + 2 ≤ p) (hI : I.length + J.length ≤ L.length) (hc : c0.2.1 ≤ Q.length ∧ c0.2.2.2 = I.length) (hQ : ∀ x ∈ Q, x.1 < N ∧ s0 9 x.1 = 3) (hJ : ∀ x ∈ J, x < N ∧ s0 9 x = 3) : ∃ s' t', crd_readLink ((C.length + 2 : Nat) : Int) s = some (0, s') ∧ m_link t = some (0, t') ∧ ((∃ l js p', RLv F P s0 t0 N (C ++ [c0]) O Q R (L ++ [l]) I (J ++ js) p' s' t' ∧ 4 * (L.length + 1) + 1 ≤ p' ∧ p < p' ∧ lOK s0 N l ∧ (J ++ js).length ≤ 100 ∧ cvL F P s0 t0 c0.2.1 Q (J ++ js) l ∧ (js = [] ∨ js = [l.2] ∧ s0 9 l.2 = 3 ∧ (∀ k, c0.2.1 ≤ k → k < Q.length → nmT F P t0 (Q.getD k (0, 0)).1 ≠ nmT F P t0 l.2) ∧ ∀ x ∈ J, nmT F P t0 x ≠ nmT F P t0 l.2)) ∨ RDd P s0 t0 N s' t') := by
  have h := hH.1
  have hN := N2001 h
  obtain ⟨zc, zr⟩ := RLv_sz hl hb
  have ll : (C ++ [c0]).length = C.length + 1 := by rw [List.length_append]; rfl
  have C16 : C.length + 1 ≤ 16 := by have := hb.1; omega
  have L500 : L.length < 500 := by have := hl.1.2.2.2.2.1; omega
  have hl' := hl
  obtain ⟨⟨a1, a2, a3, a4, a5, a6, a7⟩, ⟨pc1, pc2, po⟩, ⟨⟨q1, q2⟩, q3, q4⟩, ⟨u1, u2⟩, ⟨u3, u4⟩, ⟨u5, u6⟩, u7⟩ := hl'
  have e134 : t 121 134 = (L.length : Int) := u4.1
  have s14 : s 71 14 = (L.length : Int) := u3.1
  rw [readLink_k, link_j, a3]
  rcases bNa h hl.1 with ⟨n1, n2, n3, n4⟩ | ⟨f, n1, n2, n3⟩
  case inr =>
    have dc : cDd N s0 f p (stp s f p N) := ⟨DCh_st a1, SZc_st zc, n1⟩
    have f11 : flt t f P p 121 11 = f := by unfold flt; rw [up_ne (by omega), up_same]
    obtain ⟨s', y1, y2⟩ := dkL2 (v := ((C.length + 2 : Nat) : Int)) (a := (p : Int)) h dc
    refine ⟨s', flt t f P p, by rw [n2, bq, dRange h dc, bq, y1], by rw [n3, bq, f11, gr (by omega), if_neg (by omega)], Or.inr ⟨f, p, n1, a5, y2.1, y2.2.1, DRh_fl a2 a4 a5, SZr_fl zr⟩⟩
  -- the left name
  obtain ⟨sa, hsa⟩ : ∃ sa, sa = up s 2 12 ((p + 1 : Nat) : Int) := ⟨_, rfl⟩
  obtain ⟨ta, hta⟩ : ∃ ta, ta = up (up t 121 10 ((p + 1 : Nat) : Int)) 204 L.length (p : Int) := ⟨_, rfl⟩
  have fsa : ∀ c k, c ≠ 2 → sa c k = s c k := fun c k z => by rw [hsa, up_ne (by omega)]
  have fta : ∀ c k, ¬ (c = 121 ∧ k = 10) → ¬ (c = 204 ∧ k = L.length) → ta c k = t c k := fun c k z1 z2 => by rw [hta, up_ne z2, up_ne z1]
  have ta204 : ta 204 L.length = (p : Int) := by rw [hta, up_same]
  have lva : LVh N s0 t0 (p + 1) sa ta := LVh_of n4 (fun c k z => by rw [hsa]) (fun c k z => by rw [hta, up_ne (by omega)])
  have sza : SZc sa ∧ SZr ta := ⟨SZc_of zc (fun c k z => fsa c k (by omega)), SZr_of zr (fun k z => fta 121 k (by omega) (by omega))⟩
  have ec : bd (tok_expect 3 s) (fun _ s1 => bd (crd_readRange s1) (fun _ s2 => kL2 ((C.length + 2 : Nat) : Int) (p : Int) s2)) = bd (crd_readRange sa) (fun _ s2 => kL2 ((C.length + 2 : Nat) : Int) (p : Int) s2) := by rw [n2, bq, ← hsa]
  have er : bd (m_needName t) (fun r1 s1 => gd (rg (s1 121 11)) (if (s1 121 11) ≤ 0 then gd (0 ≤ (s1 121 134) ∧ (s1 121 134) < 700) (lt' (up s1 204 (s1 121 134).toNat r1) (fun s5 => bd (m_range s5) (fun _ s6 => jL2 s6))) else some (0, s1))) = bd (m_range ta) (fun _ s6 => jL2 s6) := by
    have x1 : up t 121 10 ((p + 1 : Nat) : Int) 121 134 = (L.length : Int) := by rw [up_ne (by omega)]; exact e134
    rw [n3, bq, n4.2.2.2.2.2.2, gr (by omega), if_pos (by omega), x1, gd_pos (by omega), Int.toNat_natCast, lt_eq, ← hta]
  rw [ec, er]
  obtain ⟨sb, tb, b1, b2, b3⟩ := h_range (x := p) h lva sza
  rcases b3 with ⟨pb, b4, b5, b6, ⟨b7, b8, b9⟩, b10, b11⟩ | ⟨f, u, b4, b5, b6, b7, b8, b9⟩
  case inr =>
    obtain ⟨s', y1, y2⟩ := dkL2 (v := ((C.length + 2 : Nat) : Int)) (a := (p : Int)) h ⟨b6, b7, b4⟩
    obtain ⟨t', w1, w2⟩ := ejL2 h ⟨b8, b9, b4⟩
    exact ⟨s', t', by rw [b1, bq, y1], by rw [b2, bq, w1], Or.inr ⟨f, u, b4, b5, y2.1, y2.2.1, w2.1, w2.2.1⟩⟩
  rw [b1, bq, b2, bq]
  have fsb : ∀ c k, c ≠ 2 → sb c k = s c k := fun c k z => by rw [b10 c k z, fsa c k z]
  have ftb : ∀ c k, ¬ (c = 121 ∧ (k = 10 ∨ k = 148 ∨ k = 149 ∨ k = 150)) → ¬ (c = 204 ∧ k = L.length) → tb c k = t c k := fun c k z1 z2 => by rw [b11 c k z1, fta c k (by omega) z2]
  have tb134 : tb 121 134 = (L.length : Int) := by rw [ftb 121 134 (by omega) (by omega)]; exact e134
  have tb204 : tb 204 L.length = (p : Int) := by rw [b11 204 _ (by omega)]; exact ta204
  -- the sign =
  obtain ⟨tc, htc⟩ : ∃ tc, tc = up (up (up tb 205 L.length (rgA s0 p)) 206 L.length (rgI s0 p)) 207 L.length (rgJ s0 p) := ⟨_, rfl⟩
  have ftc : ∀ c k, ¬ (205 ≤ c ∧ c ≤ 207 ∧ k = L.length) → tc c k = tb c k := fun c k z => by rw [htc, up_ne (by omega), up_ne (by omega), up_ne (by omega)]
  have ejc : jL2 tb = bd (m_needSign 61 tc) (fun _ s13 => jL3 s13) := by
    unfold jL2
    rw [tb134, gd_pos (by omega), Int.toNat_natCast, b7, lt_eq, up_ne (show ¬ (121 = 205 ∧ _) by omega), tb134, gd_pos (by omega), Int.toNat_natCast, up_ne (show ¬ (121 = 205 ∧ _) by omega), b8, lt_eq, up_ne (show ¬ (121 = 206 ∧ _) by omega), up_ne (show ¬ (121 = 205 ∧ _) by omega), tb134, gd_pos (by omega), Int.toNat_natCast, up_ne (show ¬ (121 = 206 ∧ _) by omega), up_ne (show ¬ (121 = 205 ∧ _) by omega), b9, lt_eq, ← htc]
  have lvc : LVh N s0 t0 pb sb tc := LVh_of b5 (fun _ _ _ => rfl) (fun c k z => ftc c k (by omega))
  have szc : SZc sb ∧ SZr tc := ⟨SZc_of zc (fun c k z => fsb c k (by omega)), SZr_of zr (fun k z => by rw [ftc 121 k (by omega), ftb 121 k (by omega) (by omega)])⟩
  rw [ejc]
  unfold kL2
  rcases bSg h lvc (c := 61) (by omega) with ⟨m1, m2, m3, m4⟩ | ⟨f, m1, m2, m3, -⟩
  case inr =>
    have dc : cDd N s0 f pb (stp sb f pb N) := ⟨DCh_st lvc.1, SZc_st szc.1, m1⟩
    have dr : rDd N P t0 f pb (flt tc f P pb) := ⟨DRh_fl lvc.2.1 lvc.2.2.2.1 lvc.2.2.2.2.1, SZr_fl szc.2, m1⟩
    obtain ⟨s', y1, y2⟩ := dkL3 (v := ((C.length + 2 : Nat) : Int)) (a := (p : Int)) h dc
    exact ⟨s', _, by rw [m2, bq, y1], by rw [m3, bq, ejL3 dr], Or.inr ⟨f, pb, m1, lvc.2.2.2.2.1, y2.1, y2.2.1, dr.1, dr.2.1⟩⟩
  rw [m2, bq, m3, bq]
  obtain ⟨r, hr⟩ : ∃ r, r = pb + 1 := ⟨_, rfl⟩
  rw [← hr] at m4 ⊢
  obtain ⟨sd, hsd⟩ : ∃ sd, sd = up sb 2 12 ((r : Nat) : Int) := ⟨_, rfl⟩
  obtain ⟨td, htd⟩ : ∃ td, td = up tc 121 10 ((r : Nat) : Int) := ⟨_, rfl⟩
  rw [← hsd, ← htd] at m4 ⊢
  have fsd : ∀ c k, c ≠ 2 → sd c k = s c k := fun c k z => by rw [hsd, up_ne (by omega), fsb c k z]
  have ftd : ∀ c k, ¬ (c = 121 ∧ (k = 10 ∨ k = 148 ∨ k = 149 ∨ k = 150)) → ¬ (204 ≤ c ∧ c ≤ 207 ∧ k = L.length) → td c k = t c k := fun c k z1 z2 => by rw [htd, up_ne (by omega), ftc c k (by omega), ftb c k z1 (by omega)]
  have left : td 204 L.length = (p : Int) ∧ td 205 L.length = rgA s0 p ∧ td 206 L.length = rgI s0 p ∧ td 207 L.length = rgJ s0 p := by
    rw [htd, up_ne (by omega), up_ne (by omega), up_ne (by omega), up_ne (by omega), htc]
    refine ⟨?_, ?_, ?_, ?_⟩
    · rw [up_ne (by omega), up_ne (by omega), up_ne (by omega)]; exact tb204
    · rw [up_ne (by omega), up_ne (by omega), up_same]
    · rw [up_ne (by omega), up_same]
    · rw [up_same]
  obtain ⟨te, hte⟩ : ∃ te, te = up (up td 208 L.length (r : Int)) 209 L.length (-1) := ⟨_, rfl⟩
  have fte : ∀ c k, ¬ (c = 121 ∧ (k = 10 ∨ k = 148 ∨ k = 149 ∨ k = 150)) → ¬ (204 ≤ c ∧ c ≤ 209 ∧ k = L.length) → te c k = t c k := fun c k z1 z2 => by rw [hte, up_ne (by omega), up_ne (by omega), ftd c k z1 (by omega)]
  have fted : ∀ c k, ¬ ((c = 208 ∨ c = 209) ∧ k = L.length) → te c k = td c k := fun c k z => by rw [hte, up_ne (by omega), up_ne (by omega)]
  have te208 : te 208 L.length = (r : Int) ∧ te 209 L.length = -1 := by
    rw [hte]
    exact ⟨by rw [up_ne (by omega), up_same], up_same _ _ _ _⟩
  have lve : LVh N s0 t0 r sd te := LVh_of m4 (fun _ _ _ => rfl) (fun c k z => fted c k (by omega))
  have rN := m4.2.2.2.2.1
  have kr := kRg h rN
  have kdr := kd1 h rN
  have td134 : td 121 134 = (L.length : Int) := by rw [ftd 121 134 (by omega) (by omega)]; exact e134
  have ej3 : jL3 td = (if s0 9 r = 304 then m_link_119 te else if s0 9 r = 305 then m_link_119 te else if s0 9 r = 3 then jL4 te else bd (m_syntax te) (fun _ s29 => m_link_304 s29)) := by
    unfold jL3
    rw [m4.2.2.2.2.2.2, gr (by omega), if_pos (by omega), td134, gd_pos (by omega), Int.toNat_natCast, m4.2.2.2.1, lt_eq, up_ne (show ¬ (121 = 208 ∧ _) by omega), td134, gd_pos (by omega), Int.toNat_natCast, lt_eq, ← hte, rWc h lve.2.1 lve.2.2.2.1 rN (by omega), bq]
    by_cases c4 : s0 9 r = 304
    · rw [if_pos c4, if_pos (show s0 9 r = 4 + 300 by omega), gr (by omega), if_neg (by omega)]
    · rw [if_neg c4, if_neg (show ¬ s0 9 r = 4 + 300 by omega), gr (by omega), if_pos rfl, rWc h lve.2.1 lve.2.2.2.1 rN (by omega), bq]
      by_cases c5 : s0 9 r = 305
      · rw [if_pos c5, if_pos (show s0 9 r = 5 + 300 by omega), gr (by omega), if_neg (by omega)]
      · rw [if_neg c5, if_neg (show ¬ s0 9 r = 5 + 300 by omega), gr (by omega), if_pos rfl, lve.2.2.2.1, gd_pos (by omega), Int.toNat_natCast, lve.2.1.2.1, gr (by omega)]
        by_cases c3 : s0 9 r = 3
        · rw [if_pos c3, if_pos (kdr.1.mpr c3)]
        · rw [if_neg c3, if_neg (fun z => c3 (kdr.1.mp z))]
  have d14 : sd 71 14 = (L.length : Int) := by rw [fsd 71 14 (by omega)]; exact s14
  have ek3 : kL3 ((C.length + 2 : Nat) : Int) (p : Int) sd = (if s0 9 r = 3 then bd (crd_noteInner ((C.length + 2 : Nat) : Int) sd) (fun _ s14 => bd (crd_readRange s14) (fun _ s15 => crd_readLink_110 (p : Int) (r : Int) s15)) else if s0 9 r = 304 then crd_readLink_86 (p : Int) (r : Int) sd else if s0 9 r = 305 then crd_readLink_86 (p : Int) (r : Int) sd else bd (tok_stop 1 sd) (fun _ s13 => crd_readLink_110 (p : Int) (r : Int) s13)) := by
    unfold kL3
    rw [cK h lve.1 lve.2.2.1 rN, bq, gr (by omega), m4.2.2.1]
    by_cases c3 : s0 9 r = 3
    · rw [if_pos c3, if_pos c3]
    · rw [if_neg c3, if_neg c3, cK h lve.1 lve.2.2.1 rN, bq, gr (by omega)]
      by_cases c4 : s0 9 r = 304
      · rw [if_pos c4, if_pos c4]
      · rw [if_neg c4, if_neg c4, cK h lve.1 lve.2.2.1 rN, bq, gr (by omega)]
  have l500 : (J ++ ([] : List Nat)).length ≤ 100 := by rw [List.append_nil]; exact hb.2.2.2.2
  have p4 : 4 * (L.length + 1) + 1 ≤ r + 1 := by omega
  -- true and false
  have con : (s0 9 r = 304 ∨ s0 9 r = 305) → ∃ s' t', crd_readLink_86 (p : Int) (r : Int) sd = some (0, s') ∧ m_link_119 te = some (0, t') ∧ ((∃ l js p', RLv F P s0 t0 N (C ++ [c0]) O Q R (L ++ [l]) I (J ++ js) p' s' t' ∧ 4 * (L.length + 1) + 1 ≤ p' ∧ p < p' ∧ lOK s0 N l ∧ (J ++ js).length ≤ 100 ∧ cvL F P s0 t0 c0.2.1 Q (J ++ js) l ∧ (js = [] ∨ js = [l.2] ∧ s0 9 l.2 = 3 ∧ (∀ k, c0.2.1 ≤ k → k < Q.length → nmT F P t0 (Q.getD k (0, 0)).1 ≠ nmT F P t0 l.2) ∧ ∀ x ∈ J, nmT F P t0 x ≠ nmT F P t0 l.2)) ∨ RDd P s0 t0 N s' t') := fun z => by
    have r1 := nlast h rN (by omega)
    have lvf := LVh_nx lve r1
    have e1 : crd_readLink_86 (p : Int) (r : Int) sd = some (0, up (up (up (up sd 2 12 ((r + 1 : Nat) : Int)) 85 L.length (p : Int)) 86 L.length (r : Int)) 71 14 ((L.length + 1 : Nat) : Int)) := by
      unfold crd_readLink_86
      rw [lt_eq, lve.2.2.1, show (r : Int) + 1 = ((r + 1 : Nat) : Int) by omega, l110 (j := L.length) (by rw [up_ne (by omega)]; exact d14) L500]
    have e2 : m_link_119 te = some (0, up (up te 121 10 ((r + 1 : Nat) : Int)) 121 134 ((L.length + 1 : Nat) : Int)) := by
      unfold m_link_119 m_link_304
      rw [rGo lve.2.2.2.2.2.2 lve.2.2.2.1, bq, lt_eq, up_ne (show ¬ (121 = 121 ∧ 134 = 10) by omega), fted 121 134 (by omega), td134]
      rfl
    refine ⟨_, _, e1, e2, Or.inl ⟨(p, r), [], r + 1, ?_, p4, by omega, ⟨a5, n1, b6, r1, Or.inr z⟩, l500, fun z3 => by have z3' : s0 9 r = 3 := z3; omega, Or.inl rfl⟩⟩
    rw [List.append_nil]
    refine RLv_l hl (LVh_of lvf (fun c k z => by rw [up_ne (by omega), up_ne (by omega), up_ne (by omega)]) (fun c k z => up_ne (by omega))) (fun c k z1 z2 z3 z4 => by rw [up_ne z4, up_ne (by omega), up_ne (by omega), up_ne (by omega), fsd c k (by omega)]) (fun k hk => ⟨by rw [up_ne (by omega), up_ne (by omega), up_ne (by omega), up_ne (by omega), fsd 85 k (by omega)], by rw [up_ne (by omega), up_ne (by omega), up_ne (by omega), up_ne (by omega), fsd 86 k (by omega)]⟩) ⟨by rw [up_ne (by omega), up_ne (by omega), up_same], by rw [up_ne (by omega), up_same]⟩ (up_same _ _ _ _) (fun c k z => by rw [up_ne (by omega), up_ne (by omega), fte c k (by omega) (by omega)]) (up_same _ _ _ _) ⟨⟨?_, ?_, ?_, ?_⟩, ?_, fun z3 => ?_, fun _ => ?_⟩
    · rw [up_ne (by omega), up_ne (by omega), fted 204 _ (by omega)]; exact left.1
    · rw [up_ne (by omega), up_ne (by omega), fted 205 _ (by omega)]; exact left.2.1
    · rw [up_ne (by omega), up_ne (by omega), fted 206 _ (by omega)]; exact left.2.2.1
    · rw [up_ne (by omega), up_ne (by omega), fted 207 _ (by omega)]; exact left.2.2.2
    · rw [up_ne (by omega), up_ne (by omega)]; exact te208.1
    · have z3' : s0 9 r = 3 := z3
      omega
    · rw [up_ne (by omega), up_ne (by omega)]; exact te208.2
  rw [ek3, ej3]
  by_cases c3 : s0 9 r = 3
  case neg =>
    rw [if_neg c3]
    by_cases c4 : s0 9 r = 304
    · rw [if_pos c4, if_pos c4]
      exact con (Or.inl c4)
    rw [if_neg c4, if_neg c4]
    by_cases c5 : s0 9 r = 305
    · rw [if_pos c5, if_pos c5]
      exact con (Or.inr c5)
    rw [if_neg c5, if_neg c5, if_neg c3, cSt h lve.1 lve.2.2.2.2.2.1.1 lve.2.2.1 rN, bq, rSy h lve.2.1 lve.2.2.2.2.2.2 lve.2.2.2.1 rN, bq]
    have sze : SZc sd ∧ SZr te := ⟨SZc_of zc (fun c k z => fsd c k (by omega)), SZr_of zr (fun k z => fte 121 k (by omega) (by omega))⟩
    have hf : 0 < (if s0 9 r = 2 then (2 : Int) else 1) ∧ (if s0 9 r = 2 then (2 : Int) else 1) < 3 := by split <;> omega
    obtain ⟨s', y1, y2⟩ := dL110 (x := (p : Int)) (y := (r : Int)) (s := stp sd (if s0 9 r = 2 then 2 else 1) r N) (N := N) (s0 := s0) (f := if s0 9 r = 2 then 2 else 1) (q := r) ⟨DCh_st lve.1, SZc_st sze.1, hf⟩
    have dr : rDd N P t0 (if s0 9 r = 2 then 2 else 1) r (flt te (if s0 9 r = 2 then 2 else 1) P r) := ⟨DRh_fl lve.2.1 lve.2.2.2.1 rN, SZr_fl sze.2, hf⟩
    have g134 : flt te (if s0 9 r = 2 then 2 else 1) P r 121 134 = (L.length : Int) := by unfold flt; rw [up_ne (by omega), up_ne (by omega), fted 121 134 (by omega)]; exact td134
    have dr2 : rDd N P t0 (if s0 9 r = 2 then 2 else 1) r (up (flt te (if s0 9 r = 2 then 2 else 1) P r) 121 134 ((L.length : Int) + 1)) := rDd_of dr (fun c k z => up_ne (by omega)) ⟨by rw [up_ne (by omega)]; exact dr.2.1.1, by rw [up_ne (by omega)]; exact dr.2.1.2.1, by rw [up_same]; omega⟩
    refine ⟨s', _, y1, ?_, Or.inr ⟨_, r, hf, rN, y2.1, y2.2.1, dr2.1, dr2.2.1⟩⟩
    unfold m_link_304
    rw [lt_eq, g134]
  -- a name on the right
  rw [if_pos c3, if_neg (by omega), if_neg (by omega), if_pos c3]
  have r1 := nlast h rN (by omega)
  -- what the class finds
  have gC : ∀ w ∈ cpN ++ Q.map (fun q => nmT F P t0 q.1), gw w := fun w hw => by
    rcases List.mem_append.mp hw with z | z
    · have d : cpN.all (fun w => decide (w.length ≤ 16 ∧ 0 < w.length ∧ ∀ x ∈ w, 0 < x ∧ x < 256)) = true := by decide
      have z' := of_decide_eq_true (List.all_eq_true.mp d w z)
      exact z'
    · obtain ⟨x, x1, x2⟩ := List.mem_map.mp z
      rw [← x2]
      exact (tkN h (hQ x x1).1 (hQ x x1).2).1
  have gJ : ∀ w ∈ J.map (nmT F P t0), gw w := fun w hw => by
    obtain ⟨x, x1, x2⟩ := List.mem_map.mp hw
    rw [← x2]
    exact (tkN h (hJ x x1).1 (hJ x x1).2).1
  have lt5 : (cpN ++ Q.map (fun q => nmT F P t0 q.1)).length = 5 + Q.length := by
    rw [List.length_append, List.length_map]
    rfl
  have Q192 := hb.2.1
  have J100 := hb.2.2.2.2
  have e76 : sd 76 (C.length + 2) = ((5 + c0.2.1 : Nat) : Int) := by
    have := (pc1.2 C.length (by omega)).2.1
    rw [c_last, Nat.add_comm 2] at this
    rw [fsd 76 _ (by omega), this]
    omega
  have fi1 := cFi (c := 79) (a := 80) (b := 81) (M := 197) (f := 5 + c0.2.1) (e := 197) h lve.1 rN c3 (TB_of q1 (funext fun k => fsd 79 k (by omega)) (funext fun k => fsd 80 k (by omega)) (funext fun k => fsd 81 k (by omega))) gC (by omega) (by rw [lt5]; omega) (by omega) (by omega)
  have fi2 := cFi (c := 87) (a := 88) (b := 89) (M := 100) (f := 0) (e := 100) h lve.1 rN c3 (TB_of u5 (funext fun k => fsd 87 k (by omega)) (funext fun k => fsd 88 k (by omega)) (funext fun k => fsd 89 k (by omega))) gJ (by omega) (by rw [List.length_map]; omega) (by omega) (by omega)
  obtain ⟨pf, hpf⟩ : ∃ pf, pf = fst1 (fun i => (cpN ++ Q.map (fun q => nmT F P t0 q.1)).getD i [] = nmT F P t0 r) (5 + c0.2.1) (min 197 (cpN ++ Q.map (fun q => nmT F P t0 q.1)).length - (5 + c0.2.1)) := ⟨_, rfl⟩
  obtain ⟨jf, hjf⟩ : ∃ jf, jf = fst1 (fun i => (J.map (nmT F P t0)).getD i [] = nmT F P t0 r) 0 (min 100 (J.map (nmT F P t0)).length - 0) := ⟨_, rfl⟩
  rw [← hpf] at fi1
  rw [← hjf] at fi2
  have qn : ∀ k, k < Q.length → (cpN ++ Q.map (fun q => nmT F P t0 q.1)).getD (5 + k) [] = nmT F P t0 (Q.getD k (0, 0)).1 := fun k hk => by
    rw [gdR (by show 5 ≤ 5 + k; omega), show 5 + k - cpN.length = k from by show 5 + k - 5 = k; omega, List.getD_eq_getElem?_getD, List.getElem?_map, List.getD_eq_getElem?_getD, List.getElem?_eq_getElem hk]
    rfl
  have jn : ∀ k, k < J.length → (J.map (nmT F P t0)).getD k [] = nmT F P t0 (J.getD k 0) := fun k hk => by
    rw [List.getD_eq_getElem?_getD, List.getElem?_map, List.getD_eq_getElem?_getD, List.getElem?_eq_getElem hk]
    rfl
  have pf1 : pf = -1 ↔ ∀ k, c0.2.1 ≤ k → k < Q.length → nmT F P t0 (Q.getD k (0, 0)).1 ≠ nmT F P t0 r := by
    rw [hpf, fst1_no, lt5]
    constructor
    · intro z k k1 k2
      have := z (5 + k) (by omega) (by omega)
      rw [qn k k2] at this
      exact this
    · intro z k k1 k2
      rw [show k = 5 + (k - 5) by omega, qn (k - 5) (by omega)]
      exact z (k - 5) (by omega) (by omega)
  have jf1 : jf = -1 ↔ ∀ x ∈ J, nmT F P t0 x ≠ nmT F P t0 r := by
    rw [hjf, fst1_no, List.length_map]
    constructor
    · intro z x hx
      obtain ⟨k, hk, e⟩ := List.getElem_of_mem hx
      have := z k (by omega) (by omega)
      rw [jn k hk] at this
      have e2 : J.getD k 0 = x := by rw [List.getD_eq_getElem?_getD, List.getElem?_eq_getElem hk]; exact e
      rw [e2] at this
      exact this
    · intro z k k1 k2
      rw [jn k (by omega)]
      exact z _ (gd_mem (by omega))
  have pfr : rg pf := by
    have := fst1_rg (P := fun i => (cpN ++ Q.map (fun q => nmT F P t0 q.1)).getD i [] = nmT F P t0 r) (min 197 (cpN ++ Q.map (fun q => nmT F P t0 q.1)).length - (5 + c0.2.1)) (5 + c0.2.1)
    rw [← hpf, lt5] at this
    exact ⟨by omega, by omega⟩
  have jfr : rg jf := by
    have := fst1_rg (P := fun i => (J.map (nmT F P t0)).getD i [] = nmT F P t0 r) (min 100 (J.map (nmT F P t0)).length - 0) 0
    rw [← hjf, List.length_map] at this
    exact ⟨by omega, by omega⟩
  -- the reference's rows
  obtain ⟨tg, htg⟩ : ∃ tg, tg = up (up te 196 (C.length + 1) (Q.length : Int)) 212 (C.length + 1) ((I.length + J.length : Nat) : Int) := ⟨_, rfl⟩
  have ftg : ∀ c k, ¬ ((c = 196 ∨ c = 212) ∧ k = C.length + 1) → tg c k = te c k := fun c k z => by rw [htg, up_ne (by omega), up_ne (by omega)]
  have lvg : LVh N s0 t0 r sd tg := LVh_of lve (fun _ _ _ => rfl) (fun c k z => ftg c k (by omega))
  have e122 : te 121 122 = ((C.length + 1 : Nat) : Int) := by rw [fte 121 122 (by omega) (by omega), pc2.1, ll]
  have e144 : te 121 144 = ((I.length + J.length : Nat) : Int) := by rw [fte 121 144 (by omega) (by omega), u6.1, List.length_append]
  have g122 : tg 121 122 = ((C.length + 1 : Nat) : Int) := by rw [ftg 121 122 (by omega)]; exact e122
  have g144 : tg 121 144 = ((I.length + J.length : Nat) : Int) := by rw [ftg 121 144 (by omega)]; exact e144
  have g196 : tg 196 C.length = (c0.2.1 : Int) := by
    have := (pc2.2 C.length (by omega)).2.1
    rw [c_last] at this
    rw [ftg 196 _ (by omega), fte 196 _ (by omega) (by omega), this]
  have g196' : tg 196 (C.length + 1) = (Q.length : Int) := by rw [htg, up_ne (by omega), up_same]
  have g212 : tg 212 C.length = (I.length : Int) := by
    have := (pc2.2 C.length (by omega)).2.2.2
    rw [c_last, hc.2] at this
    rw [ftg 212 _ (by omega), fte 212 _ (by omega) (by omega), this]
  have g212' : tg 212 (C.length + 1) = ((I.length + J.length : Nat) : Int) := by rw [htg, up_same]
  have po := r_pinOf (j := r) (i := C.length) (a := c0.2.1) (b := Q.length) (qk := fun k => (Q.getD k (0, 0)).1) hH lvg.2.1 g196 g196' (by omega) (by omega) (by omega) (fun k k1 k2 => ⟨by rw [ftg 198 k (by omega), fte 198 k (by omega) (by omega)]; exact (q4 k k2).1, (hQ _ (gd_mem k2)).1, (hQ _ (gd_mem k2)).2⟩) ⟨rN, c3⟩
  have io := r_innerOf (j := r) (i := C.length) (a := I.length) (b := I.length + J.length) (qk := fun k => (I ++ J).getD k 0) hH lvg.2.1 g212 g212' (by omega) (by omega) (by omega) (fun k k1 k2 => by
    have e : (I ++ J).getD k 0 ∈ J := by
      rw [gdR k1]
      exact gd_mem (by omega)
    exact ⟨by rw [ftg 213 k (by omega), fte 213 k (by omega) (by omega)]; exact u6.2 k (by rw [List.length_append]; omega), (hJ _ e).1, (hJ _ e).2⟩) ⟨rN, c3⟩
  obtain ⟨pr, hpr⟩ : ∃ pr, pr = fst1 (fun k => nmT F P t0 (Q.getD k (0, 0)).1 = nmT F P t0 r) c0.2.1 (Q.length - c0.2.1) := ⟨_, rfl⟩
  obtain ⟨jr, hjr⟩ : ∃ jr, jr = fst1 (fun k => nmT F P t0 ((I ++ J).getD k 0) = nmT F P t0 r) I.length (I.length + J.length - I.length) := ⟨_, rfl⟩
  rw [← hpr] at po
  rw [← hjr] at io
  have pr1 : pr = -1 ↔ ∀ k, c0.2.1 ≤ k → k < Q.length → nmT F P t0 (Q.getD k (0, 0)).1 ≠ nmT F P t0 r := by
    rw [hpr, fst1_no]
    exact ⟨fun z k k1 k2 => z k k1 (by omega), fun z k k1 k2 => z k k1 (by omega)⟩
  have jr1 : jr = -1 ↔ ∀ x ∈ J, nmT F P t0 x ≠ nmT F P t0 r := by
    rw [hjr, fst1_no]
    constructor
    · intro z x hx
      obtain ⟨k, hk, e⟩ := List.getElem_of_mem hx
      have := z (I.length + k) (by omega) (by omega)
      rw [gdR (by omega), Nat.add_sub_cancel_left] at this
      have e2 : J.getD k 0 = x := by rw [List.getD_eq_getElem?_getD, List.getElem?_eq_getElem hk]; exact e
      rw [e2] at this
      exact this
    · intro z k k1 k2
      rw [gdR k1]
      exact z _ (gd_mem (by omega))
  have prr : rg pr := by
    have := fst1_rg (P := fun k => nmT F P t0 (Q.getD k (0, 0)).1 = nmT F P t0 r) (Q.length - c0.2.1) c0.2.1
    rw [← hpr] at this
    exact ⟨by omega, by omega⟩
  have jrr : rg jr := by
    have := fst1_rg (P := fun k => nmT F P t0 ((I ++ J).getD k 0) = nmT F P t0 r) (I.length + J.length - I.length) I.length
    rw [← hjr] at this
    exact ⟨by omega, by omega⟩
  have ej4 : jL4 te = (if pr = -1 then (if jr = -1 then bd (m_room ((J.length : Nat) : Int) 100 (r : Int) tg) (fun _ s41 => gd (rg (s41 121 11)) (if (s41 121 11) ≤ 0 then gd (0 ≤ (s41 121 144) ∧ (s41 121 144) < 700) (lt' (up s41 213 (s41 121 144).toNat (s41 121 10)) (fun s45 => lt' (up s45 121 144 ((s45 121 144) + 1)) (fun s46 => m_link_250 s46))) else some (0, s41))) else m_link_250 tg) else m_link_250 tg) := by
    unfold jL4
    have x125 : te 121 125 = (Q.length : Int) := by rw [fte 121 125 (by omega) (by omega)]; exact q3
    rw [e122, gd_pos (by omega), Int.toNat_natCast, x125, lt_eq, up_ne (show ¬ (121 = 196 ∧ _) by omega), e122, gd_pos (by omega), Int.toNat_natCast, up_ne (show ¬ (121 = 196 ∧ _) by omega), e144, lt_eq, ← htg, lvg.2.2.2.1, show ((C.length + 1 : Nat) : Int) - 1 = (C.length : Int) by omega, po, bq, gd_pos prr]
    by_cases c : pr = -1
    · rw [if_pos c, if_pos c, lvg.2.2.2.1, io, bq, gd_pos jrr]
      by_cases d : jr = -1
      · rw [if_pos d, if_pos d, gd_pos (by omega), Int.toNat_natCast, g144, g212, lvg.2.2.2.1, show ((I.length + J.length : Nat) : Int) - (I.length : Int) = ((J.length : Nat) : Int) by omega]
      · rw [if_neg d, if_neg d]
    · rw [if_neg c, if_neg c]
  have en : crd_noteInner ((C.length + 2 : Nat) : Int) sd = (if pf = -1 then (if jf = -1 then (if J.length < 100 then bd (tok_addTo 87 88 89 100 (r : Int) sd) (fun _ s3 => crd_noteInner_109 s3) else bd (tok_stop 2 sd) (fun _ s5 => some (0, s5))) else crd_noteInner_109 sd) else crd_noteInner_109 sd) := by
    have x87 : sd 87 2 = (J.length : Int) := by rw [fsd 87 2 (by omega), u5.1, List.length_map]
    unfold crd_noteInner crd_noteInner_56 crd_noteInner_61 crd_noteInner_87
    rw [gd_pos (by omega), Int.toNat_natCast, lve.2.2.1, e76, show (197 : Int) = ((197 : Nat) : Int) from rfl, fi1, bq, gd_pos pfr]
    by_cases c : pf = -1
    · rw [if_pos c, if_pos c, lve.2.2.1, show (0 : Int) = ((0 : Nat) : Int) from rfl, show (100 : Int) = ((100 : Nat) : Int) from rfl, fi2, bq, gd_pos jfr]
      by_cases d : jf = -1
      · rw [if_pos d, if_pos d, gr (by omega), if_pos rfl, x87, gr (by omega)]
        by_cases e : J.length < 100
        · rw [if_pos e, if_pos (by omega), if_pos rfl, gr (by omega), lve.2.2.1]
        · rw [if_neg e, if_neg (by omega)]
      · rw [if_neg d, if_neg d, gr (by omega), if_neg (by omega), gr (by omega), if_neg (by omega)]
    · rw [if_neg c, if_neg c, gr (by omega), if_neg (by omega), gr (by omega), if_neg (by omega)]
  -- behind the name: the range, and the link is put down
  have tail : ∀ (js : List Nat) (sx tx : iS), RLv F P s0 t0 N (C ++ [c0]) O Q R L I (J ++ js) r sx tx → (∀ c k, 204 ≤ c ∧ c ≤ 209 → tx c k = te c k) → (J ++ js).length ≤ 100 → cvL F P s0 t0 c0.2.1 Q (J ++ js) (p, r) → (js = [] ∨ js = [r] ∧ s0 9 r = 3 ∧ (∀ k, c0.2.1 ≤ k → k < Q.length → nmT F P t0 (Q.getD k (0, 0)).1 ≠ nmT F P t0 r) ∧ ∀ x ∈ J, nmT F P t0 x ≠ nmT F P t0 r) → ∃ s' t', bd (crd_readRange (up sx 2 12 ((r + 1 : Nat) : Int))) (fun _ s15 => crd_readLink_110 (p : Int) (r : Int) s15) = some (0, s') ∧ m_link_250 tx = some (0, t') ∧ ((∃ l js p', RLv F P s0 t0 N (C ++ [c0]) O Q R (L ++ [l]) I (J ++ js) p' s' t' ∧ 4 * (L.length + 1) + 1 ≤ p' ∧ p < p' ∧ lOK s0 N l ∧ (J ++ js).length ≤ 100 ∧ cvL F P s0 t0 c0.2.1 Q (J ++ js) l ∧ (js = [] ∨ js = [l.2] ∧ s0 9 l.2 = 3 ∧ (∀ k, c0.2.1 ≤ k → k < Q.length → nmT F P t0 (Q.getD k (0, 0)).1 ≠ nmT F P t0 l.2) ∧ ∀ x ∈ J, nmT F P t0 x ≠ nmT F P t0 l.2)) ∨ RDd P s0 t0 N s' t') := fun js sx tx y1 y2 y3 y4 y5 => by
    have y1' := RLv_nx y1 r1
    have szx := RLv_sz y1' (show bdL (C ++ [c0]) Q R L (J ++ js) from ⟨hb.1, hb.2.1, hb.2.2.1, hb.2.2.2.1, y3⟩)
    obtain ⟨sy, ty, z1, z2, z3⟩ := h_range (x := r) h y1'.1 szx
    have x134 : tx 121 134 = (L.length : Int) := y1.2.2.2.2.1.2.1
    have e250 : m_link_250 tx = bd (m_range (up tx 121 10 ((r + 1 : Nat) : Int))) (fun _ s2 => gd (0 ≤ (s2 121 134) ∧ (s2 121 134) < 700) (lt' (up s2 209 (s2 121 134).toNat (s2 121 148)) (fun s4 => gd (0 ≤ (s4 121 134) ∧ (s4 121 134) < 700) (lt' (up s4 210 (s4 121 134).toNat (s4 121 149)) (fun s6 => gd (0 ≤ (s6 121 134) ∧ (s6 121 134) < 700) (lt' (up s6 211 (s6 121 134).toNat (s6 121 150)) (fun s8 => m_link_304 s8))))))) := by
      unfold m_link_250
      rw [rGo y1.1.2.2.2.2.2.2 y1.1.2.2.2.1, bq]
    rw [z1, bq, e250, z2, bq]
    rcases z3 with ⟨py, w1, w2, w3, ⟨w4, w5, w6⟩, w7, w8⟩ | ⟨f, u, w1, w2, w3, w4, w5, w6⟩
    · have y134 : ty 121 134 = (L.length : Int) := by rw [w8 121 134 (by omega), up_ne (by omega)]; exact x134
      have y14 : sy 71 14 = (L.length : Int) := by rw [w7 71 14 (by omega), up_ne (by omega)]; exact y1.2.2.2.2.1.1.1
      have tr : ∀ {X : Option (Int × iS)}, X = some (0, up (up (up (up ty 209 L.length (rgA s0 r)) 210 L.length (rgI s0 r)) 211 L.length (rgJ s0 r)) 121 134 ((L.length + 1 : Nat) : Int)) → X = some (0, up (up (up (up ty 209 L.length (rgA s0 r)) 210 L.length (rgI s0 r)) 211 L.length (rgJ s0 r)) 121 134 ((L.length + 1 : Nat) : Int)) := fun e => e
      have fy : ∀ c k, 204 ≤ c ∧ c ≤ 208 → ty c k = te c k := fun c k z => by rw [w8 c k (by omega), up_ne (by omega), y2 c k (by omega)]
      refine ⟨up (up (up sy 85 L.length (p : Int)) 86 L.length (r : Int)) 71 14 ((L.length + 1 : Nat) : Int), up (up (up (up ty 209 L.length (rgA s0 r)) 210 L.length (rgI s0 r)) 211 L.length (rgJ s0 r)) 121 134 ((L.length + 1 : Nat) : Int), l110 y14 L500, ?_, Or.inl ⟨(p, r), js, py, ?_, by omega, by omega, ⟨a5, n1, b6, r1, Or.inl ⟨c3, w3⟩⟩, y3, y4, y5⟩⟩
      · unfold m_link_304
        rw [y134, gd_pos (by omega), Int.toNat_natCast, w4, lt_eq, up_ne (show ¬ (121 = 209 ∧ _) by omega), y134, gd_pos (by omega), Int.toNat_natCast, up_ne (show ¬ (121 = 209 ∧ _) by omega), w5, lt_eq, up_ne (show ¬ (121 = 210 ∧ _) by omega), up_ne (show ¬ (121 = 209 ∧ _) by omega), y134, gd_pos (by omega), Int.toNat_natCast, up_ne (show ¬ (121 = 210 ∧ _) by omega), up_ne (show ¬ (121 = 209 ∧ _) by omega), w6, lt_eq, lt_eq, up_ne (show ¬ (121 = 211 ∧ _) by omega), up_ne (show ¬ (121 = 210 ∧ _) by omega), up_ne (show ¬ (121 = 209 ∧ _) by omega), y134]
        rfl
      · refine RLv_l y1 (LVh_of w2 (fun c k z => by rw [up_ne (by omega), up_ne (by omega), up_ne (by omega)]) (fun c k z => by rw [up_ne (by omega), up_ne (by omega), up_ne (by omega), up_ne (by omega)])) (fun c k x1 x2 x3 x4 => by rw [up_ne x4, up_ne (by omega), up_ne (by omega), w7 c k (by omega), up_ne (by omega)]) (fun k hk => ⟨by rw [up_ne (by omega), up_ne (by omega), up_ne (by omega), w7 85 k (by omega), up_ne (by omega)], by rw [up_ne (by omega), up_ne (by omega), up_ne (by omega), w7 86 k (by omega), up_ne (by omega)]⟩) ⟨by rw [up_ne (by omega), up_ne (by omega), up_same], by rw [up_ne (by omega), up_same]⟩ (up_same _ _ _ _) (fun c k z => by rw [up_ne (by omega), up_ne (by omega), up_ne (by omega), up_ne (by omega), w8 c k (by omega), up_ne (by omega)]) (up_same _ _ _ _) ⟨⟨?_, ?_, ?_, ?_⟩, ?_, fun _ => ⟨?_, ?_, ?_⟩, fun z => absurd c3 z⟩
        · rw [up_ne (by omega), up_ne (by omega), up_ne (by omega), up_ne (by omega), fy 204 _ (by omega), fted 204 _ (by omega)]; exact left.1
        · rw [up_ne (by omega), up_ne (by omega), up_ne (by omega), up_ne (by omega), fy 205 _ (by omega), fted 205 _ (by omega)]; exact left.2.1
        · rw [up_ne (by omega), up_ne (by omega), up_ne (by omega), up_ne (by omega), fy 206 _ (by omega), fted 206 _ (by omega)]; exact left.2.2.1
        · rw [up_ne (by omega), up_ne (by omega), up_ne (by omega), up_ne (by omega), fy 207 _ (by omega), fted 207 _ (by omega)]; exact left.2.2.2
        · rw [up_ne (by omega), up_ne (by omega), up_ne (by omega), up_ne (by omega), fy 208 _ (by omega)]; exact te208.1
        · rw [up_ne (by omega), up_ne (by omega), up_ne (by omega), up_same]
        · rw [up_ne (by omega), up_ne (by omega), up_same]
        · rw [up_ne (by omega), up_same]
    · obtain ⟨s', g1, g2⟩ := dL110 (x := (p : Int)) (y := (r : Int)) (s := sy) (N := N) (s0 := s0) (f := f) (q := u) ⟨w3, w4, w1⟩
      have z134 := w6.2.2
      obtain ⟨tz, htz⟩ : ∃ tz, tz = up (up (up ty 209 (ty 121 134).toNat (ty 121 148)) 210 (ty 121 134).toNat (ty 121 149)) 211 (ty 121 134).toNat (ty 121 150) := ⟨_, rfl⟩
      have ftz : ∀ c k, ¬ (209 ≤ c ∧ c ≤ 211) → tz c k = ty c k := fun c k z => by rw [htz, up_ne (by omega), up_ne (by omega), up_ne (by omega)]
      -- how many links there are
      have m134 : ty 121 134 = (L.length : Int) := by
        have := (show md L_m_range G_m_range (up tx 121 10 ((r + 1 : Nat) : Int)) ty from fm_range _ _ z2) 121 134 (by simp [L_m_range]) (by simp [G_m_range])
        rw [this, up_ne (by omega)]
        exact x134
      have dz : rDd N P t0 f u (up tz 121 134 (ty 121 134 + 1)) := rDd_of ⟨w5, w6, w1⟩ (fun c k z => by rw [up_ne (by omega), ftz c k (by omega)]) ⟨by rw [up_ne (by omega), ftz 121 122 (by omega)]; exact w6.1, by rw [up_ne (by omega), ftz 121 131 (by omega)]; exact w6.2.1, by rw [up_same]; omega⟩
      refine ⟨s', up tz 121 134 (ty 121 134 + 1), g1, ?_, Or.inr ⟨f, u, w1, w2, g2.1, g2.2.1, dz.1, dz.2.1⟩⟩
      unfold m_link_304
      rw [gd_pos (by omega), lt_eq, up_ne (show ¬ (121 = 209 ∧ _) by omega), gd_pos (by omega), up_ne (show ¬ (121 = 209 ∧ _) by omega), lt_eq, up_ne (show ¬ (121 = 210 ∧ _) by omega), up_ne (show ¬ (121 = 209 ∧ _) by omega), gd_pos (by omega), up_ne (show ¬ (121 = 210 ∧ _) by omega), up_ne (show ¬ (121 = 209 ∧ _) by omega), lt_eq, ← htz, lt_eq, ftz 121 134 (by omega)]
  have e109 : ∀ sx : iS, LVh N s0 t0 r sx te → crd_noteInner_109 sx = some (0, up sx 2 12 ((r + 1 : Nat) : Int)) := fun sx hx => by
    unfold crd_noteInner_109
    rw [lt_eq, hx.2.2.1]
    rfl
  have rlg : RLv F P s0 t0 N (C ++ [c0]) O Q R L I J r sd tg := RLv_of hl lvg (fun c k z => fsd c k (by omega)) (fun c k z => by rw [ftg c k (by omega), fte c k (by omega) (by omega)])
  rw [en, ej4]
  by_cases c : ∀ k, c0.2.1 ≤ k → k < Q.length → nmT F P t0 (Q.getD k (0, 0)).1 ≠ nmT F P t0 r
  case neg =>
    rw [if_neg (fun z => c (pf1.mp z)), if_neg (fun z => c (pr1.mp z)), e109 sd lve, bq]
    refine tail [] sd tg (by rw [List.append_nil]; exact rlg) (fun c k z => ftg c k (by omega)) l500 (fun _ => Or.inl ?_) (Or.inl rfl)
    simp only [Classical.not_forall] at c
    obtain ⟨k, k1, k2, k3⟩ := c
    exact ⟨k, k1, k2, Classical.not_not.mp k3⟩
  rw [if_pos (pf1.mpr c), if_pos (pr1.mpr c)]
  by_cases d : ∀ x ∈ J, nmT F P t0 x ≠ nmT F P t0 r
  case neg =>
    rw [if_neg (fun z => d (jf1.mp z)), if_neg (fun z => d (jr1.mp z)), e109 sd lve, bq]
    refine tail [] sd tg (by rw [List.append_nil]; exact rlg) (fun c k z => ftg c k (by omega)) l500 (fun _ => Or.inr ?_) (Or.inl rfl)
    simp only [Classical.not_forall] at d
    obtain ⟨x, x1, x2⟩ := d
    rw [List.append_nil]
    exact ⟨x, x1, Classical.not_not.mp x2⟩
  rw [if_pos (jf1.mpr d), if_pos (jr1.mpr d)]
  unfold m_room
  by_cases e : J.length < 100
  case neg =>
    have szg := RLv_sz rlg hb
    have dc : cDd N s0 2 r (stp sd 2 r N) := ⟨DCh_st lve.1, SZc_st szg.1, by omega, by omega⟩
    have f11 : flt tg 2 P r 121 11 = 2 := by unfold flt; rw [up_ne (by omega), up_same]
    rw [if_neg e, cSt h lve.1 lve.2.2.2.2.2.1.1 lve.2.2.1 rN, if_neg (by omega), bq, bq, dRange h dc, bq, gr (by omega), gr (by omega), if_neg (by omega), rWr lvg.2.1 h lvg.2.2.2.2.2.2 rN, bq, bq, f11, gr (by omega), if_neg (by omega)]
    obtain ⟨s', y1, y2⟩ := dL110 (x := (p : Int)) (y := (r : Int)) dc
    exact ⟨s', _, y1, rfl, Or.inr ⟨2, r, by omega, rN, y2.1, y2.2.1, DRh_fl lvg.2.1 lvg.2.2.2.1 rN, SZr_fl szg.2⟩⟩
  rw [if_pos e, gr (by omega), gr (by omega), if_pos (by omega), bq, lvg.2.2.2.2.2.2, gr (by omega), if_pos (by omega), g144, gd_pos (by omega), Int.toNat_natCast, lvg.2.2.2.1, lt_eq, lt_eq, up_ne (show ¬ (121 = 213 ∧ _) by omega), g144]
  obtain ⟨ad1, ad2⟩ := cAdc (c := 87) (a := 88) (b' := 89) (M := 100) h lve.1 rN c3 (TB_of u5 (funext fun k => fsd 87 k (by omega)) (funext fun k => fsd 88 k (by omega)) (funext fun k => fsd 89 k (by omega))) (by omega) (by rw [List.length_map]; omega) ⟨by omega, by omega, by omega⟩
  rw [List.length_map] at ad1 ad2
  obtain ⟨sh, hsh⟩ : ∃ sh, sh = nmad sd 87 88 89 J.length (nmT F P t0 r) := ⟨_, rfl⟩
  rw [← hsh] at ad1 ad2
  have fsh : ∀ c k, c ≠ 87 → c ≠ 88 → c ≠ 89 → sh c k = sd c k := fun c k z1 z2 z3 => by rw [hsh, nmad_ne (by omega) (by omega) (by omega)]
  obtain ⟨ti, hti⟩ : ∃ ti, ti = up (up tg 213 (I.length + J.length) (r : Int)) 121 144 (((I.length + J.length : Nat) : Int) + 1) := ⟨_, rfl⟩
  have fti : ∀ c k, ¬ (c = 213 ∧ k = I.length + J.length) → ¬ (c = 121 ∧ k = 144) → ti c k = tg c k := fun c k z1 z2 => by rw [hti, up_ne z2, up_ne z1]
  have lvh : LVh N s0 t0 r sh te := LVh_of lve (fun c k z => fsh c k (by omega) (by omega) (by omega)) (fun _ _ _ => rfl)
  rw [ad1, bq, e109 sh lvh, bq, ← hti]
  have lJ : (J ++ [r]).length = J.length + 1 := by rw [List.length_append]; rfl
  refine tail [r] sh ti ?_ (fun c k z => by rw [fti c k (by omega) (by omega), ftg c k (by omega)]) (by omega) (fun _ => Or.inr ⟨r, by simp, rfl⟩) (Or.inr ⟨rfl, c3, c, d⟩)
  obtain ⟨-, ⟨h2, h3, h4⟩, ⟨h5, h6⟩, ⟨h7, h8⟩, ⟨h9, h10⟩, ⟨h11, h12⟩, h13⟩ := rlg
  refine ⟨LVh_of lvg (fun c k z => fsh c k (by omega) (by omega) (by omega)) (fun c k z => fti c k (by omega) (by omega)), ⟨PcC_of h2 (fun c k z => fsh c k (by omega) (by omega) (by omega)), PrC_of h3 (fun c k z => fti c k (by omega) (by omega)), PcO_of h4 (fun k z => fsh 77 k (by omega) (by omega) (by omega))⟩, ⟨PcP_of h5 (fun c k z => fsh c k (by omega) (by omega) (by omega)), PrP_of h6 (fun c k z => fti c k (by omega) (by omega))⟩, ⟨PcR_of h7 (fun c k z => fsh c k (by omega) (by omega) (by omega)), PrR_of h8 (fun c k z => fti c k (by omega) (by omega))⟩, ⟨PcL_of h9 (fun c k z => fsh c k (by omega) (by omega) (by omega)), PrL_of h10 (fun c k z => fti c k (by omega) (by omega))⟩, ⟨?_, ?_, fun i hi => ?_⟩, STc_of h13 (fun c k z => fsh c k (by omega) (by omega) (by omega))⟩
  · unfold PcI
    rw [List.map_append]
    exact ad2
  · rw [hti, up_same, ← List.append_assoc, List.length_append, List.length_append, List.length_singleton]
    omega
  · rw [← List.append_assoc] at hi ⊢
    rw [List.length_append, List.length_append, List.length_singleton] at hi
    by_cases z : i < I.length + J.length
    · rw [fti 213 i (by omega) (by omega), gdL (by rw [List.length_append]; exact z)]
      exact h12.2 i (by rw [List.length_append]; exact z)
    · have e' : i = (I ++ J).length := by rw [List.length_append]; omega
      rw [e', gd_end, List.length_append, hti, up_ne (by omega), up_same]
end CHf
