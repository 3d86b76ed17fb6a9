/-! signs: the whole text -/
section AS
variable {n m a k p : Nat} {own : List (List Int)} {s t s' t' : iS}
def ASr (n p : Nat) (line : Int) (s t : iS) : Prop := ∃ s' t', lp CF ((p : Int), line, s) = some s' ∧ ((lp RF (0, (p : Int), t) = some (.inr t') ∧ s' 55 14 = 0 ∧ s' 55 15 = -1 ∧ LI n s' t' ∧ ∃ own m, RA n own m (-1) s' t') ∨ (∃ bad pl : Int, lp RF (0, (p : Int), t) = some (.inl (pl, bad, t')) ∧ (bad = 1 ∨ bad = 2 ∨ bad = 3) ∧ s' 55 14 = bad ∧ s' 55 15 = pl ∧ (0 ≤ pl ∧ pl < 4000) ∧ LI n s' t' ∧ RK s'))
theorem ins_ok (hn : n ≤ 4000) (hL : LI n s t) (h : RA n own m (-1) s t) (h0 : s 55 14 = 0) (h15 : s 55 15 = -1) {q : Nat} (hq : 1 ≤ q) (hk : p + q ≤ n) (hs : ∀ j, p ≤ j → j < p + q → ¬ spt (s 1) n j) : ∃ bad s' t', pro_readInstruction (p : Int) ((p + q : Nat) : Int) s = some (0, s') ∧ m_instruction (p : Int) (q : Int) 0 t = some (bad, t') ∧ OUT bad (p : Int) n s' t' := by
  obtain ⟨l1, l2, l3, l4, l5, l6, l7⟩ := hL
  have b := l3 p
  have ep := l5 p (by omega)
  have mi : m_instruction (p : Int) (q : Int) 0 t = if s 1 p = 40 then bd (m_label (p : Int) (q : Int) t) (fun r9 s9 => some (r9, s9)) else if s 1 p = 64 then bd (m_address ((p : Int) + 1) ((q : Int) - 1) t) (fun r8 s8 => some (r8, s8)) else bd (m_computes (p : Int) (q : Int) t) (fun r7 s7 => some (r7, s7)) := by
    unfold m_instruction
    rw [gr (by omega), if_pos rfl, gd_pos (by omega), Int.toNat_natCast, ← ep, gr (by omega)]
  unfold pro_readInstruction
  simp only [Int.toNat_natCast]
  rw [gd_pos (by omega), gr (by omega), mi]
  by_cases c1 : s 1 p = 64
  · rw [if_pos c1, if_neg (by omega), if_pos c1]
    obtain ⟨k, rfl⟩ : ∃ k, q = 1 + k := ⟨q - 1, by omega⟩
    obtain ⟨bad, s', t', g1, g2, g3⟩ := adr_ok (p := p) (k := k) l3 l4 hn l5 h h0 h15 (by omega)
    rw [show p + (1 + k) = p + 1 + k by omega, g1, bq, show ((1 + k : Nat) : Int) - 1 = (k : Int) by omega, g2, bq]
    exact ⟨bad, s', t', rfl, rfl, g3⟩
  · rw [if_neg c1]
    by_cases c2 : s 1 p = 40
    · rw [if_pos c2, if_pos c2]
      obtain ⟨bad, s', t', g1, g2, g3⟩ := lab_ok (p := p) l3 l4 hn l5 h h0 h15 c2 hq hk
      rw [g1, bq, g2, bq]
      exact ⟨bad, s', t', rfl, rfl, g3⟩
    · rw [if_neg c2, if_neg c2, if_neg c1]
      obtain ⟨bad, s', t', g1, g2, g3⟩ := com_ok (p := p) l3 l4 hn l5 l6 h h0 h15 hq hk hs
      rw [g1, bq, g2, bq]
      exact ⟨bad, s', t', rfl, rfl, g3⟩
theorem rd48 (h13 : s 55 13 = n) (hn : n ≤ 4000) (hb : BY (s 1)) {i : Nat} (hi : i ≤ n) : pro_readLine_48 (i : Int) s = some (((scn (fun j => s 1 j = 10) i (n - i) + 1 : Nat) : Int), s) := rle_ok h13 hn hb hi
theorem asm_ok (hn : n ≤ 4000) : ∀ (d p : Nat) (line : Int) (own : List (List Int)) (m : Nat) (s t : iS), n ≤ p + d → p ≤ n → LI n s t → RA n own m (-1) s t → s 55 14 = 0 → s 55 15 = -1 → 0 ≤ line → line ≤ p → ASr n p line s t := by
  intro d
  induction d with
  | zero =>
    intro p line own m s t hd hp hL hA h14 h15 g1 g2
    have : p = n := by omega
    subst this
    exact ⟨s, t, cend hL.1 hn (by omega) (by omega), Or.inl ⟨lp_end (rend hL.2.1 hn), h14, h15, hL, own, m, hA⟩⟩
  | succ d ihd =>
    intro p line own m s t hd hp hL hA h14 h15 g1 g2
    by_cases hpn : p = n
    · subst hpn
      exact ⟨s, t, cend hL.1 hn (by omega) (by omega), Or.inl ⟨lp_end (rend hL.2.1 hn), h14, h15, hL, own, m, hA⟩⟩
    obtain ⟨l1, l2, l3, l4, l5, l6, l7⟩ := id hL
    -- what follows a line's end
    have next : ∀ (q e : Nat) (v2 : Int) (own : List (List Int)) (m : Nat) (s1 t1 : iS), LI n s1 t1 → RA n own m (-1) s1 t1 → s1 55 14 = 0 → s1 55 15 = -1 → p ≤ q → q ≤ n → (q < n → t1 123 q = 10 ∨ cmt (t1 123) n q) → p ≤ e → e ≤ q → (∀ j, e ≤ j → j < q → s1 1 j ≠ 10) → pro_readLine (p : Int) s = some (((scn (fun j => s1 1 j = 10) e (n - e) + 1 : Nat) : Int), s1) → lp RF (0, (p : Int), t) = lp RF (v2, (q : Int), t1) → ASr n p line s t := by
      intro q e v2 own m s1 t1 L1 A1 z14 z15 hq1 hq2 hq3 he1 he2 he3 hr hR
      have sc := scn_le (P := fun j => t1 123 j = 10) (n - q) q
      have E : scn (fun j => s1 1 j = 10) e (n - e) = scn (fun j => t1 123 j = 10) q (n - q) := by
        refine scn_at (by omega) (by omega) (fun j j1 j2 => ?_) (fun z => ?_)
        · by_cases cc : j < q
          · exact he3 j j1 cc
          · rw [L1.2.2.2.2.1 j (by omega)]
            exact scn_not (P := fun j => t1 123 j = 10) (n - q) q j (by omega) j2
        · rw [L1.2.2.2.2.1 _ (by omega)]
          exact scn_is (P := fun j => t1 123 j = 10) (n - q) q (by omega)
      rw [E] at hr
      have C := cstp l1 hn (by omega) ⟨g1, g2⟩ h14 hr
      have R := rle (v2 := v2) L1.2.1 hn L1.2.2.2.1 hq2 hq3
      unfold ASr
      rw [C, hR, R]
      by_cases cc : scn (fun j => t1 123 j = 10) q (n - q) < n
      · rw [if_pos cc]
        exact ihd (scn (fun j => t1 123 j = 10) q (n - q) + 1) (line + 1) own m s1 t1 (by omega) (by omega) L1 A1 z14 z15 (by omega) (by omega)
      · rw [if_neg cc]
        exact ⟨s1, t1, cend L1.1 hn (by omega) (by omega), Or.inl ⟨rfl, z14, z15, L1, own, m, A1⟩⟩
    have sc1 := scn_le (P := fun j => ¬ bl (s 1 j)) (n - p) p
    generalize hst : scn (fun j => ¬ bl (s 1 j)) p (n - p) = st at sc1
    have blk : ∀ j, p ≤ j → j < st → bl (s 1 j) := fun j j1 j2 => Classical.not_not.mp (scn_not (P := fun j => ¬ bl (s 1 j)) (n - p) p j j1 (by rw [hst]; exact j2))
    have hR0 : lp RF (0, (p : Int), t) = lp RF (0, (st : Int), t) := by
      have := rbs (v2 := 0) l2 hn l4 (st - p) p (by omega) (fun j j1 j2 => by rw [← l5 j (by omega)]; exact blk j j1 (by omega))
      rw [this, show p + (st - p) = st by omega]
    have sc2 := scn_le (P := fun j => spt (s 1) n j) (n - st) st
    generalize hen : scn (fun j => spt (s 1) n j) st (n - st) = en at sc2
    have nsp : ∀ j, st ≤ j → j < en → ¬ spt (s 1) n j := fun j j1 j2 => scn_not (P := fun j => spt (s 1) n j) (n - st) st j j1 (by rw [hen]; exact j2)
    have isp : en < n → spt (s 1) n en := fun z => by
      have := scn_is (P := fun j => spt (s 1) n j) (n - st) st (by rw [hen]; omega)
      rwa [hen] at this
    have rd : pro_readLine (p : Int) s = gd (rg (en : Int)) (gd (rg (st : Int)) (if (en : Int) ≤ (st : Int) then pro_readLine_48 (en : Int) s else bd (pro_readInstruction (st : Int) (en : Int) s) (fun _ s6 => bd (pro_skipBlanks (en : Int) s6) (fun r7 s7 => bd (pro_instructionEnd r7 s7) (fun r8 s8 => gd (rg r8) (gd (rg r7) (if r8 ≤ r7 then pro_readLine_48 (en : Int) s8 else bd (pro_stopAt r7 1 s8) (fun _ s12 => pro_readLine_48 (en : Int) s12)))))))) := by
      unfold pro_readLine
      rw [sbl_ok l1 hn l3 (by omega), bq, hst, ien_ok l1 hn l3 (by omega), bq, hen]
    rw [gr (by omega), gr (by omega)] at rd
    have spt_eq : ∀ j, j < n → (spt (s 1) n j ↔ spt (t 123) n j) := by
      intro j hj
      have e1 := l5 j hj
      unfold spt cmt
      rw [e1]
      by_cases c : j + 1 < n
      · rw [l5 (j + 1) c]
      · constructor
        · rintro (z | z | z)
          · exact Or.inl z
          · exact Or.inr (Or.inl z)
          · exact absurd z.1 c
        · rintro (z | z | z)
          · exact Or.inl z
          · exact Or.inr (Or.inl z)
          · exact absurd z.1 c
    by_cases c1 : en = st
    · rw [if_pos (by omega), rd48 l1 hn l3 (by omega)] at rd
      refine next st en 0 own m s t hL hA h14 h15 (by omega) (by omega) (fun z => ?_) (by omega) (by omega) (fun j j1 j2 => by omega) rd hR0
      have nb : ¬ bl (s 1 st) := by
        have := scn_is (P := fun j => ¬ bl (s 1 j)) (n - p) p (by rw [hst]; omega)
        rwa [hst] at this
      have h1 := (spt_eq st z).mp (by have := isp (by omega); rwa [c1] at this)
      rw [l5 st z] at nb
      rcases h1 with z | z | z
      · exact absurd z nb
      · exact Or.inl z
      · exact Or.inr z
    rw [if_neg (by omega)] at rd
    obtain ⟨bad, s6, t6, i1, i2, i3⟩ := ins_ok (p := st) (q := en - st) hn hL hA h14 h15 (by omega) (by omega) (fun j j1 j2 => nsp j j1 (by omega))
    rw [show st + (en - st) = en by omega] at i1
    have L6 := LI_step hL i1 i2
    obtain ⟨k1, k2, k3, k4, k5, k6, k7⟩ := id L6
    have m1 : s6 1 = s 1 := md_row (fpro_readInstruction _ _ s _ i1) (by decide) (by decide)
    have m2 : t6 123 = t 123 := md_row (fm_instruction _ _ _ t _ i2) (by decide) (by decide)
    have nb : ¬ bl (s 1 st) ∧ s 1 st ≠ 10 := by
      have := nsp st (by omega) (by omega)
      exact ⟨fun z => this (Or.inl z), fun z => this (Or.inr (Or.inl z))⟩
    have hR1 : RF (0, (st : Int), t) = gd (rg bad) (if bad ≤ 0 then some (.inl (1, (en : Int), t6)) else some (.inr (.inl ((st : Int), bad, t6)))) := by
      rw [rtk l2 hn l4 (by omega) (by rw [← l5 st (by omega)]; exact nb.1) (by rw [← l5 st (by omega)]; exact nb.2)]
      have e : scn (fun j => spt (t 123) n j) st (n - st) = en := by
        rw [← hen]
        exact scn_eq (n - st) st (fun j j1 j2 => (spt_eq j (by omega)).symm)
      unfold m_signs_141
      rw [e, gr (by omega), gr (by omega), if_neg (by omega), show (en : Int) - (st : Int) = ((en - st : Nat) : Int) by omega, i2, bq]
    rw [i1, bq, sbl_ok k1 hn k3 (by omega), bq] at rd
    have sc3 := scn_le (P := fun j => ¬ bl (s6 1 j)) (n - en) en
    generalize hse : scn (fun j => ¬ bl (s6 1 j)) en (n - en) = se at sc3 rd
    rw [ien_ok k1 hn k3 (by omega), bq] at rd
    have sc4 := scn_le (P := fun j => spt (s6 1) n j) (n - se) se
    generalize hee : scn (fun j => spt (s6 1) n j) se (n - se) = ee at sc4 rd
    rw [gr (by omega), gr (by omega)] at rd
    have blk2 : ∀ j, en ≤ j → j < se → bl (s6 1 j) := fun j j1 j2 => Classical.not_not.mp (scn_not (P := fun j => ¬ bl (s6 1 j)) (n - en) en j j1 (by rw [hse]; exact j2))
    have sc5 := scn_le (P := fun j => s6 1 j = 10) (n - en) en
    rcases i3 with ⟨o1, o2, o5, own', m', o3⟩ | ⟨o1, o2, o3, o4⟩
    · -- the instruction was good
      rw [o1, gr (by omega), if_pos (by omega)] at hR1
      have hR2 : lp RF (0, (p : Int), t) = lp RF (1, (se : Int), t6) := by
        rw [hR0, lp_next hR1]
        have := rbs (v2 := 1) k2 hn k4 (se - en) en (by omega) (fun j j1 j2 => by rw [← k5 j (by omega)]; exact blk2 j j1 (by omega))
        rw [this, show en + (se - en) = se by omega]
      by_cases c2 : ee = se
      · rw [if_pos (by omega), rd48 k1 hn k3 (by omega)] at rd
        refine next se en 1 own' m' s6 t6 L6 o3 o2 o5 (by omega) (by omega) (fun z => ?_) (by omega) (by omega) (fun j j1 j2 q => ?_) rd hR2
        · have nb2 : ¬ bl (s6 1 se) := by
            have := scn_is (P := fun j => ¬ bl (s6 1 j)) (n - en) en (by rw [hse]; omega)
            rwa [hse] at this
          have h1 : spt (s6 1) n se := by
            have := scn_is (P := fun j => spt (s6 1) n j) (n - se) se (by rw [hee]; omega)
            rwa [hee, c2] at this
          rw [m1] at h1 nb2
          have h1 := (spt_eq se z).mp h1
          rw [l5 se z] at nb2
          rw [m2]
          rcases h1 with z | z | z
          · exact absurd z nb2
          · exact Or.inl z
          · exact Or.inr z
        · have := blk2 j j1 j2
          omega
      · rw [if_neg (by omega), pst0 o2, bq] at rd
        have q1 : up (up s6 55 14 1) 55 15 (se : Int) 1 = s6 1 := by rw [up_cell (by decide), up_cell (by decide)]
        have q13 : up (up s6 55 14 1) 55 15 (se : Int) 55 13 = (n : Int) := by rw [up_ne (by omega), up_ne (by omega)]; exact k1
        have q14 : up (up s6 55 14 1) 55 15 (se : Int) 55 14 = 1 := by rw [up_ne (by omega), up_same]
        rw [rd48 q13 hn (by rw [q1]; exact k3) (by omega), q1] at rd
        have nsp2 : ¬ spt (s6 1) n se := scn_not (P := fun j => spt (s6 1) n j) (n - se) se se (by omega) (by rw [hee]; omega)
        rw [m1] at nsp2
        have hR3 : RF (1, (se : Int), t6) = some (.inr (.inl ((se : Int), 1, t6))) := by
          have e1 : t6 123 se = s 1 se := by rw [m2, l5 se (by omega)]
          rw [rtk k2 hn k4 (by omega) (by rw [e1]; exact fun z => nsp2 (Or.inl z)) (by rw [e1]; exact fun z => nsp2 (Or.inr (Or.inl z)))]
          have e : scn (fun j => spt (t6 123) n j) se (n - se) = ee := by
            rw [← hee, m1, m2]
            exact scn_eq (n - se) se (fun j j1 j2 => (spt_eq j (by omega)).symm)
          unfold m_signs_141 m_instruction
          rw [e, gr (by omega), gr (by omega), if_neg (by omega), gr (by omega), if_neg (by omega), bq, gr (by omega), if_neg (by omega)]
        refine ⟨up (up s6 55 14 1) 55 15 (se : Int), t6, ?_, Or.inr ⟨1, (se : Int), ?_, by omega, q14, up_same _ _ _ _, by omega, LI_st L6, RK_55 (RK_55 (RA_RK o3))⟩⟩
        · rw [cstp l1 hn (by omega) ⟨g1, g2⟩ h14 rd]
          exact cflt q13 hn (by omega) (by omega) (by omega)
        · rw [hR2, lp_end hR3]
    · -- refused
      rw [gr (by omega), if_neg (by omega)] at hR1
      have rd' : pro_readLine (p : Int) s = some (((scn (fun j => s6 1 j = 10) en (n - en) + 1 : Nat) : Int), s6) := by
        rw [rd]
        by_cases c2 : ee = se
        · rw [if_pos (by omega), rd48 k1 hn k3 (by omega)]
        · rw [if_neg (by omega), pst1 (by omega), bq, rd48 k1 hn k3 (by omega)]
      refine ⟨s6, t6, ?_, Or.inr ⟨bad, (st : Int), ?_, o1, o2, o3, by omega, L6, o4⟩⟩
      · rw [cstp l1 hn (by omega) ⟨g1, g2⟩ h14 rd']
        exact cflt k1 hn (by omega) (by omega) (by omega)
      · rw [hR0, lp_end hR1]
end AS
