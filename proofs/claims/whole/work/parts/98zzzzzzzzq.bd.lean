/-! chips: the reference's links, bits and counts, in the plan -/
section CMg
variable {F : Nat → Int} {n N : Nat} {P : Nat → Nat} {s0 t0 s t s' t' : iS} {C : List chR} {O E I : List Nat} {Q : List (Nat × Int)} {R L : List (Nat × Nat)} {c b i j k q r l m : Nat} {f : Nat → Nat → Nat} {p : Nat → Nat → Nat}
theorem ofI_g (hs : KHS F P s0 t0 N C O Q R L E I) (hi : i < 2) (h1 : paI C Q R I i ≤ k) (h2 : k ≤ paI C Q R I (i + 1)) : ofI s0 C Q R I i k = k - bsI i ∧ bsI i = paI C Q R I i := by
  obtain ⟨g0, g1, g2⟩ := paI_g hs
  have p1 : ∀ k, k < 5 → pwN s0 Q k = 1 := fun k hk => by unfold pwN pwI; rw [if_pos hk]; rfl
  have go : ∀ a m, a + m ≤ 5 → sW (pwN s0 Q) a m = m := by
    intro a m
    induction m with
    | zero => intro _; rfl
    | succ m ih =>
      intro hm
      rw [sW_s, ih (by omega), p1 (a + m) (by omega)]
  have : i = 0 ∨ i = 1 := by omega
  rcases this with e | e
  · subst e
    have h2' : k ≤ paI C Q R I 1 := h2
    have b0 : bsI 0 = 0 := rfl
    unfold ofI
    rw [g0, b0, go 0 (k - 0) (by omega)]
    exact ⟨rfl, rfl⟩
  · subst e
    have h2' : k ≤ paI C Q R I 2 := h2
    have b0 : bsI 1 = 3 := rfl
    unfold ofI
    rw [g1, b0, go 3 (k - 3) (by omega)]
    exact ⟨rfl, rfl⟩
theorem pl_f (h : TKH F n N P s0 t0) (hs : KHS F P s0 t0 N C O Q R L E I) (hO : KO s0 C Q R I 0 s) (hk : CKD F P s0 t0 C O Q R L E I C.length s t) (hp : p = plT F P s0 t0 C O Q R E I s f) : (p 4 0 = 3 ∧ p 5 0 = 2 ∧ p 4 1 = 2 ∧ p 5 1 = 1) ∧ (∀ c, c < C.length → p 4 (2 + c) = owT (bCh s0 C Q R I c) (tbI F P s0 t0 C O Q R L E I c) ∧ p 14 (2 + c) = bCh s0 C Q R I c) ∧ ∀ i, i < 2 + C.length → p 5 i < p 14 i ∧ p 14 i ≤ p 4 i ∧ 2 ≤ p 4 i ∧ p 4 i ≤ 100000 := by
  have ow := own_f hs hO hk
  obtain ⟨g0, g1, g2⟩ := paI_g hs
  have v4 : ∀ i, p 4 i = (s 93 i).toNat := fun i => by rw [hp]; rfl
  have v5 : ∀ i, p 5 i = ofI s0 C Q R I i (ooI O i) := fun i => by rw [hp]; rfl
  have v14 : ∀ i, p 14 i = ofI s0 C Q R I i (paI C Q R I (i + 1)) := fun i => by rw [hp]; rfl
  have q0 : ofI s0 C Q R I 0 2 = 2 := (ofI_g hs (by omega) (by omega) (show 2 ≤ paI C Q R I 1 by omega)).1
  have q1 : ofI s0 C Q R I 1 4 = 1 := (ofI_g hs (by omega) (by omega) (show 4 ≤ paI C Q R I 2 by omega)).1
  have q2 : ofI s0 C Q R I 0 (paI C Q R I (0 + 1)) = 3 := by have := (ofI_g (k := 3) (i := 0) (s0 := s0) hs (by omega) (by omega) (show 3 ≤ paI C Q R I 1 by omega)).1; exact this
  have q3 : ofI s0 C Q R I 1 (paI C Q R I (1 + 1)) = 2 := by
    have := (ofI_g (k := 5) (i := 1) (s0 := s0) hs (by omega) (by omega) (show 5 ≤ paI C Q R I 2 by omega)).1
    show ofI s0 C Q R I 1 (paI C Q R I 2) = 2
    rw [g2]
    exact this
  have ch : ∀ c, c < C.length → p 4 (2 + c) = owT (bCh s0 C Q R I c) (tbI F P s0 t0 C O Q R L E I c) ∧ p 14 (2 + c) = bCh s0 C Q R I c := fun c hc => ⟨by rw [v4, ow.2 c hc]; rfl, v14 _⟩
  refine ⟨⟨by rw [v4, ow.1.1]; rfl, by rw [v5]; exact q0, by rw [v4, ow.1.2]; rfl, by rw [v5]; exact q1⟩, ch, fun i hi => ?_⟩
  by_cases z : i < 2
  · have : i = 0 ∨ i = 1 := by omega
    rcases this with e | e <;> subst e
    · rw [v4, v5, v14, ow.1.1, show ooI O 0 = 2 from rfl, q0, q2]
      exact ⟨by omega, by decide, by decide, by decide⟩
    · rw [v4, v5, v14, ow.1.2, show ooI O 1 = 4 from rfl, q1, q3]
      exact ⟨by omega, by decide, by decide, by decide⟩
  · obtain ⟨c, rfl⟩ : ∃ c, i = 2 + c := ⟨i - 2, by omega⟩
    obtain ⟨a1, a2⟩ := ch c (by omega)
    obtain ⟨o1, o2⟩ := owT_f hs h (O := O) (L := L) (E := E) (show c < C.length by omega)
    have pm := paI_m hs hi
    have f0 : ∀ k, paI C Q R I (2 + c) ≤ k → ofI s0 C Q R I (2 + c) k < ofI s0 C Q R I (2 + c) (k + 1) := fun k hk => by
      rw [ofI_s hk]
      have := pwN_f (s0 := s0) (Q := Q) (k := k)
      omega
    have m1 := f0 (paI C Q R I (2 + c)) (by omega)
    have m2 := f0 (ooI O (2 + c)) (by omega)
    have m3 := ofI_m (s0 := s0) (C := C) (Q := Q) (R := R) (I := I) (i := 2 + c) (k := ooI O (2 + c) + 1) (k' := paI C Q R I (2 + c + 1)) (by omega) (by omega)
    have m4 := ofI_m (s0 := s0) (C := C) (Q := Q) (R := R) (I := I) (i := 2 + c) (k := paI C Q R I (2 + c) + 1) (k' := ooI O (2 + c)) (by omega) (by omega)
    have bb : bCh s0 C Q R I c = ofI s0 C Q R I (2 + c) (paI C Q R I (2 + c + 1)) := rfl
    rw [a1, a2, v5]
    omega
theorem PH_f (h : TKH F n N P s0 t0) (hs : KHS F P s0 t0 N C O Q R L E I) (hc : KC F P s0 t0 C O Q R L E s) (hw : KW s0 C Q R I Q.length s) (hO : KO s0 C Q R I 0 s) (hk : CKD F P s0 t0 C O Q R L E I C.length s t) (hL : LKA F P s0 t0 C O Q R L E I C.length s) (hp : p = plT F P s0 t0 C O Q R E I s f) : PHw p (phT F P s0 t0 C O Q R L E I) := by
  have p10 : p 10 0 = C.length := by rw [hp]; rfl
  have p0 : ∀ c, p 0 c = (hAt C Q R I c).2.2.1 := fun c => by rw [hp]; rfl
  have p2 : ∀ r, p 2 r = (R.getD r (0, 0)).2 := fun r => by rw [hp]; rfl
  have p3 : ∀ r, p 3 r = E.getD r 0 := fun r => by rw [hp]; rfl
  obtain ⟨-, pf, -⟩ := pl_f h hs hO hk hp
  intro c hcl
  rw [p10] at hcl
  obtain ⟨f1, f2⟩ := pf c hcl
  rw [f1, f2]
  refine ⟨fun j hj => (phT_lt h hs hL hcl hj).1, fun i j hi hj e => phT_inj h hs hL hcl hi hj e, fun j hj => phT_p hj, fun k l hk' l1 l2 l3 x hx => ?_⟩
  unfold npC at hk'
  rw [p0, p0] at hk'
  rw [p2, p0] at l1
  rw [p3, p0] at l2
  obtain ⟨-, -, k0, -, -, -, -, -, hR⟩ := lk_v (r := (hAt C Q R I c).2.2.1 + k) h hs hc hw hO hk hL hcl (by omega) ⟨l1, l2⟩ hp
  rcases hR with ⟨-, k', -, -, -, -, q⟩ | ⟨-, -, m, m1, -, m2, m3⟩ | ⟨-, q, -⟩ | ⟨-, q, -⟩
  · rw [phT_p (by omega), phT_p (by omega)]
  · rw [m2, show plM F P s0 t0 C O Q R L E I c m + 2 - 2 = plM F P s0 t0 C O Q R L E I c m by omega, phT_i h hs hL hcl m1 (by omega) (by omega), phT_i h hs hL hcl m1 (Nat.le_refl _) (by omega)]
    omega
  · omega
  · omega
theorem KR_st (h : KR s0 t0 C Q R L I t) (hS : STr t t') : KR s0 t0 C Q R L I t' := KR_of h (fun c k z => hS c k (by omega) (by omega))
theorem HO_f (h : TKH F n N P s0 t0) (hs : KHS F P s0 t0 N C O Q R L E I) (hO : KO s0 C Q R I 0 s) (hk : CKD F P s0 t0 C O Q R L E I C.length s t) (hr : KR s0 t0 C Q R L I t) (hp : p = plT F P s0 t0 C O Q R E I s f) : HOw p t := by
  have bd' := KHS_bd hs
  have p10 : p 10 0 = C.length := by rw [hp]; rfl
  obtain ⟨-, pf, -⟩ := pl_f h hs hO hk hp
  intro u hu c hcl
  rw [p10] at hcl
  have ru := KR_st hr hu
  have im := (KHS_m hs 1 c (by omega)).2.2
  have hI : IRr F P t0 C Q R I c (tbI F P s0 t0 C O Q R L E I c) u := fun x x1 x2 => by rw [hu 214 x (by omega) (by omega)]; exact (hk c hcl).2.2 x x1 x2
  unfold m_ownBits
  rw [gd_pos (by omega), show ((c : Int) + 1).toNat = c + 1 by omega, (KR_c ru (c := c + 1) (by omega)).2.2, r_ipl hs ru hcl hI (tb_TOK h hs hcl) im (Nat.le_refl _), bq, rpX_e h hs hcl, (pf c hcl).1]
theorem HC_f (h : TKH F n N P s0 t0) (hs : KHS F P s0 t0 N C O Q R L E I) (hc : KC F P s0 t0 C O Q R L E s) (hw : KW s0 C Q R I Q.length s) (hO : KO s0 C Q R I 0 s) (hk : CKD F P s0 t0 C O Q R L E I C.length s t) (hL : LKA F P s0 t0 C O Q R L E I C.length s) (hr : KR s0 t0 C Q R L I t) (hp : p = plT F P s0 t0 C O Q R E I s f) : HCn p (phT F P s0 t0 C O Q R L E I) t := by
  have bd' := KHS_bd hs
  have hN := N2001 h.1
  have p10 : p 10 0 = C.length := by rw [hp]; rfl
  have p0 : ∀ c, p 0 c = (hAt C Q R I c).2.2.1 := fun c => by rw [hp]; rfl
  have p2 : ∀ r, p 2 r = (R.getD r (0, 0)).2 := fun r => by rw [hp]; rfl
  have p3 : ∀ r, p 3 r = E.getD r 0 := fun r => by rw [hp]; rfl
  obtain ⟨-, pf, pg⟩ := pl_f h hs hO hk hp
  have hph := PH_f h hs hc hw hO hk hL hp
  intro u hu c k l b q hcl hk' l1 l2 hb hq
  have ph4 := (hph c hcl).2.2.2 k l hk' l1 l2
  have ph1 := (hph c hcl).1
  rw [p10] at hcl
  unfold npC at hk'
  rw [p0, p0] at hk'
  obtain ⟨r, hr'⟩ : ∃ r, r = p 0 c + k := ⟨_, rfl⟩
  rw [← hr'] at l1 l2 hq ⊢
  rw [p0] at hr'
  rw [p2] at l1
  rw [p3] at l2
  have rr : (hAt C Q R I c).2.2.1 ≤ r ∧ r < (hAt C Q R I (c + 1)).2.2.1 := by omega
  have rq := (KHS_q hs (c := c + 1) (by omega)).2.1
  obtain ⟨lw, -, k0, ⟨k1, k2⟩, f1, f2, f3, f4, f5⟩ := lk_v h hs hc hw hO hk hL hcl rr ⟨l1, l2⟩ hp
  obtain ⟨-, -, -, -, pp, -, -, i5⟩ := KHS_c hs hcl
  obtain ⟨-, -, le, g⟩ := pp r rr.1 rr.2
  obtain ⟨⟨lo1, lo2, lo3, lo4, lo5⟩, -⟩ := g l l1 l2
  have lx : l < L.length := by omega
  have ru := KR_st hr hu
  obtain ⟨⟨r1, r2, r3, r4⟩, r5, r6, r7⟩ := ru.2.1.2.2.2.1.2 l lx
  have lLd : (L.getD l (0, 0)).1 = lL L l := rfl
  have lRd : (L.getD l (0, 0)).2 = lR L l := rfl
  rw [lLd] at lo1 lo2 lo3 r1 r2 r3 r4
  rw [lRd] at lo4 lo5 r5 r6 r7
  have ir : p 1 r < 2 + C.length := by
    have e1 : p 1 r = (cix F P t0 C (R.getD r (0, 0)).1).toNat := by rw [hp]; rfl
    rw [e1]
    rcases cix_rg (j := (R.getD r (0, 0)).1) hs with z | ⟨i, z1, z2⟩
    · exact absurd z (hL c hcl r rr.1 rr.2).1
    · omega
  obtain ⟨i, hi⟩ : ∃ i, i = p 1 r := ⟨_, rfl⟩
  rw [← hi] at k1 k2 f1 f2 f3 f4 ir hq ⊢
  have pgi := pg i ir
  have pgc := pg (2 + c) (by omega)
  have pm := paI_m hs ir
  obtain ⟨lw1, lw2⟩ := lw
  rw [← hi] at lw2
  have kp : pfI F P t0 C Q R I i (lL L l) = (k0 : Int) := f1
  have rp := r_pin h hs ru (⟨lo1, lo2⟩ : lL L l < N ∧ s0 9 (lL L l) = 3) ir
  rw [kp, if_neg (by omega)] at rp
  have ro := r_out hs ru ir ⟨k1, k2⟩
  have wd : rwB s0 (lL L l) (pwI s0 Q k0) = (p 6 l : Int) := by
    rw [← f3]
    unfold wLl
    rw [f1, Int.toNat_natCast]
  have rf := (r_fit (t := u) h.1 lo3 (w := pwI s0 Q k0) pwI_rg).2 (by rw [wd]; omega)
  rw [wd] at rf
  have b5 : 2 ≤ i → bsI i = 5 := fun z => by unfold bsI; rw [if_neg (by omega), if_neg (by omega)]
  have lo0 : 0 ≤ loB s0 (lL L l) := (lo_rg h.1 lo3 (w := pwI s0 Q k0) pwI_rg).1.1
  have p6 : 1 ≤ p 6 l := by
    have := (lo_rg h.1 lo3 (w := pwI s0 Q k0) pwI_rg).2.2
    rw [wd] at this
    omega
  have pmc := paI_m hs (show 2 + c < 2 + C.length by omega)
  -- the left place
  have hd : m_connect (c : Int) (b : Int) (i : Int) (q : Int) (l : Int) u = m_connect_96 (c : Int) (b : Int) (i : Int) (l : Int) ((k0 : Int) - (bsI i : Int)) (p 6 l : Int) (loB s0 (lL L l)) ((q : Int) + (ofI s0 C Q R I i k0 : Int)) u := by
    have h73 : m_connect_73 (c : Int) (b : Int) (i : Int) (l : Int) ((k0 : Int) - (bsI i : Int)) (p 6 l : Int) (ofI s0 C Q R I i k0 : Int) (q : Int) u = m_connect_96 (c : Int) (b : Int) (i : Int) (l : Int) ((k0 : Int) - (bsI i : Int)) (p 6 l : Int) (loB s0 (lL L l)) ((q : Int) + (ofI s0 C Q R I i k0 : Int)) u := by
      unfold m_connect_73
      rw [gd_pos (by omega), Int.toNat_natCast, r2, r3]
      unfold rgA loB rgI
      by_cases z : s0 9 (lL L l + 1) = 91
      · have := lo3.1
        rw [if_pos z, if_pos z, gr (by omega), if_neg (by omega)]
      · rw [if_neg z, if_neg z, gr (by omega), if_pos rfl]
    unfold m_connect
    rw [gd_pos (by omega), Int.toNat_natCast, r1, rp, bq, ro.2, bq, r2, r3, r4, rf, bq, gr (by omega)]
    by_cases z : i < 2
    · have og := ofI_g (s0 := s0) hs z k1 (by omega)
      rw [if_pos (by omega), ← h73, og.1, show ((k0 - bsI i : Nat) : Int) = (k0 : Int) - (bsI i : Int) by omega]
    · have e2 : 2 + (i - 2) = i := by omega
      have ppl := r_ppl hs ru (c := i - 2) (k := k0) (by omega) (by rw [e2]; exact k1) (by rw [e2]; omega)
      rw [e2] at ppl
      rw [if_neg (by omega), show (i : Int) - 2 = ((i - 2 : Nat) : Int) by omega, b5 (by omega), show ((5 : Nat) : Int) = 5 from rfl, ppl, bq]
      rw [b5 (by omega), show ((5 : Nat) : Int) = 5 from rfl] at h73
      exact h73
  have lR2 : lR L l < 2002 := by omega
  have kd := kd1 h.1 (show lR L l < N by omega)
  have lef : (q : Int) + (ofI s0 C Q R I i k0 : Int) + loB s0 (lL L l) = ((q + p 7 l : Nat) : Int) := by omega
  have leB : q + p 7 l + p 6 l ≤ 40000 := by
    rcases lw2 with ⟨-, z, -⟩ | ⟨-, -, z, -⟩ <;> omega
  have oo : ∀ u' : iS, (∀ c' x, c' ≠ 222 → u' c' x = u c' x) → m_isOut (i : Int) ((k0 : Int) - (bsI i : Int)) u' = some ((p 8 l : Int), u') := fun u' hu' => by
    have := (r_out hs (KR_of ru (fun c' x z => hu' c' x (by omega))) ir ⟨k1, k2⟩).1
    rw [this, f4]
    split <;> rfl
  have o01 : (p 8 l : Int) = 0 ∨ (p 8 l : Int) = 1 := by rw [f4]; split <;> simp
  have h96 : m_connect (c : Int) (b : Int) (i : Int) (q : Int) (l : Int) u = if s0 9 (lR L l) = 3 then m_connect_124 (c : Int) (b : Int) (i : Int) (l : Int) ((k0 : Int) - (bsI i : Int)) (p 6 l : Int) ((q + p 7 l : Nat) : Int) (lR L l : Int) 0 u else m_connect_124 (c : Int) (b : Int) (i : Int) (l : Int) ((k0 : Int) - (bsI i : Int)) (p 6 l : Int) ((q + p 7 l : Nat) : Int) (lR L l : Int) 1 u := by
    rw [hd]
    unfold m_connect_96
    rw [gd_pos (by omega), Int.toNat_natCast, r5, gd_pos (by omega), Int.toNat_natCast, ru.1.2.1, gr (by omega), lef]
    by_cases z : s0 9 (lR L l) = 3
    · rw [if_pos z, if_pos (kd.1.mpr z)]
    · rw [if_neg z, if_neg (fun y => z (kd.1.mp y))]
  -- names on the right
  have nameR : ∀ ri : Nat, s0 9 (lR L l) = 3 → 2 ≤ p 9 l → ri = b + phT F P s0 t0 C O Q R L E I c (p 9 l - 2) → (p 8 l = 1 → ri + p 6 l ≤ 40000) → m_connect_124 (c : Int) (b : Int) (i : Int) (l : Int) ((k0 : Int) - (bsI i : Int)) (p 6 l : Int) ((q + p 7 l : Nat) : Int) (lR L l : Int) 0 u = m_connect_198 (i : Int) ((k0 : Int) - (bsI i : Int)) (p 6 l : Int) ((q + p 7 l : Nat) : Int) (lR L l : Int) 0 (ri : Int) u → ∃ t', m_connect (c : Int) (b : Int) (i : Int) (q : Int) (l : Int) u = some (0, t') ∧ (∀ c' x, c' ≠ 222 → t' c' x = u c' x) ∧ (p 8 l = 0 → ∀ x, t' 222 x = if q + p 7 l ≤ x ∧ x < q + p 7 l + p 6 l then (if p 9 l < 2 then (p 9 l : Int) - 2 else ((b + phT F P s0 t0 C O Q R L E I c (p 9 l - 2) + (x - (q + p 7 l)) : Nat) : Int)) else u 222 x) ∧ (p 8 l = 1 → ∀ x, t' 222 x = if b + phT F P s0 t0 C O Q R L E I c (p 9 l - 2) ≤ x ∧ x < b + phT F P s0 t0 C O Q R L E I c (p 9 l - 2) + p 6 l then ((q + p 7 l + (x - (b + phT F P s0 t0 C O Q R L E I c (p 9 l - 2))) : Nat) : Int) else u 222 x) := by
    intro ri n3 p9 hri hB h124
    obtain ⟨t', a1, a2, a3, a4⟩ := r_cl (t := u) (v10 := (lR L l : Int)) (cst := 0) (tv := 0) (le := q + p 7 l) (ri := ri) (w := p 6 l) oo o01 (Or.inl rfl) (fun z => by omega) (fun _ => leB) (fun z => hB (by omega)) lw1
    refine ⟨t', ?_, a2, fun z x => ?_, fun z x => ?_⟩
    · rw [h96, if_pos n3, h124]
      unfold m_connect_198
      exact a1
    · rw [a3 (by omega) x, if_pos (show (0 : Int) = 0 from rfl), if_neg (show ¬ p 9 l < 2 by omega), hri]
    · rw [a4 (by omega) x, hri]
  have constR : ∀ tv : Int, s0 9 (lR L l) ≠ 3 → p 9 l < 2 → tv = (p 9 l : Int) - 2 → p 8 l = 0 → (∀ u' : iS, (∀ c' x, c' ≠ 222 → u' c' x = u c' x) → m_isTrue (lR L l : Int) u' = some (tv, u')) → ∃ t', m_connect (c : Int) (b : Int) (i : Int) (q : Int) (l : Int) u = some (0, t') ∧ (∀ c' x, c' ≠ 222 → t' c' x = u c' x) ∧ (p 8 l = 0 → ∀ x, t' 222 x = if q + p 7 l ≤ x ∧ x < q + p 7 l + p 6 l then (if p 9 l < 2 then (p 9 l : Int) - 2 else ((b + phT F P s0 t0 C O Q R L E I c (p 9 l - 2) + (x - (q + p 7 l)) : Nat) : Int)) else u 222 x) ∧ (p 8 l = 1 → ∀ x, t' 222 x = if b + phT F P s0 t0 C O Q R L E I c (p 9 l - 2) ≤ x ∧ x < b + phT F P s0 t0 C O Q R L E I c (p 9 l - 2) + p 6 l then ((q + p 7 l + (x - (b + phT F P s0 t0 C O Q R L E I c (p 9 l - 2))) : Nat) : Int) else u 222 x) := by
    intro tv n3 p9 htv p8 hT
    obtain ⟨t', a1, a2, a3, a4⟩ := r_cl (t := u) (v10 := (lR L l : Int)) (cst := 1) (tv := tv) (le := q + p 7 l) (ri := 0) (w := p 6 l) oo o01 (Or.inr rfl) (fun _ => hT) (fun _ => leB) (fun z => by omega) lw1
    refine ⟨t', ?_, a2, fun z x => ?_, fun z => by omega⟩
    · rw [h96, if_neg n3]
      unfold m_connect_124
      rw [gr (by omega), if_neg (by omega)]
      unfold m_connect_198
      exact a1
    · rw [a3 (by omega) x, if_neg (show ¬ (1 : Int) = 0 by omega), if_pos p9, htv]
  have isT : ∀ tv : Int, ((t0 127 (lR L l) = 4 ∧ tv = -2) ∨ (t0 127 (lR L l) = 5 ∧ tv = -1)) → ∀ u' : iS, (∀ c' x, c' ≠ 222 → u' c' x = u c' x) → m_isTrue (lR L l : Int) u' = some (tv, u') := fun tv ht u' hu' => by
    unfold m_isTrue
    rw [gd_pos (by omega), Int.toNat_natCast, hu' 127 _ (by omega), ru.1.2.2.2.2.1]
    rcases ht with ⟨z1, z2⟩ | ⟨z1, z2⟩
    · rw [z1, gr (by omega), if_pos rfl, z2]
    · rw [z1, gr (by omega), if_neg (by omega), z2]
  have tk := tkK h.1 (show lR L l < N by omega)
  rw [if_neg (by decide), if_neg (by decide)] at tk
  rcases f5 with ⟨n3, k', g1, ⟨g2, g3⟩, g4, g5, g6⟩ | ⟨n3, g1, m, g2, g3, g4, g5⟩ | ⟨n3, g1, g2⟩ | ⟨n3, g1, g2⟩
  · -- an own pin
    have rok : rOK s0 N (lR L l) := by
      rcases lo5 with z | z | z
      · exact z.2
      · omega
      · omega
    obtain ⟨r6a, r6b, r6c⟩ := r6 n3
    have rp2 := r_pin h hs ru (⟨by omega, n3⟩ : lR L l < N ∧ s0 9 (lR L l) = 3) (show 2 + c < 2 + C.length by omega)
    have kp' : pfI F P t0 C Q R I (2 + c) (lR L l) = (k' : Int) := g1
    have rp' : m_pinOf (c : Int) (lR L l : Int) u = some ((k' : Int) - 5, u) := by
      unfold m_pinOfPart at rp2
      rw [gr (by omega), if_neg (by omega), show ((2 + c : Nat) : Int) - 2 = (c : Int) by omega, kp', if_neg (by omega)] at rp2
      have b5 : bsI (2 + c) = 5 := by unfold bsI; rw [if_neg (by omega), if_neg (by omega)]
      rw [b5] at rp2
      obtain ⟨x, z, e1, e2⟩ := bd_inv rp2
      obtain ⟨e3, e4⟩ := Prod.mk.inj (Option.some.inj e2)
      rw [e1, e3, e4]
      rfl
    have pid : phT F P s0 t0 C O Q R L E I c (p 9 l - 2) = p 9 l - 2 := phT_p (by omega)
    have pc5 := (paI_c (Q := Q) (R := R) (I := I) hcl).1
    refine nameR (b + (p 9 l - 2)) n3 (by omega) (by rw [pid]) (fun _ => by have := (pf c hcl).2; omega) ?_
    unfold m_connect_124
    rw [gr (by omega), if_pos rfl, rp', bq, gr (by omega), if_neg (by omega), r_ppl hs ru hcl g2 (by omega), bq, gd_pos (by omega), Int.toNat_natCast, r6a, r6b]
    unfold m_connect_194 m_connect_195
    unfold rgA rgI
    have lb : loB s0 (lR L l) = rgI s0 (lR L l) := rfl
    unfold rgI at lb
    by_cases z : s0 9 (lR L l + 1) = 91
    · rw [if_pos z] at lb
      have := rok.1
      rw [if_pos z, if_pos z, gr (by omega), if_neg (by omega), ← lb, show (b : Int) + ((ofI s0 C Q R I (2 + c) k' : Int) + loB s0 (lR L l)) = ((b + (p 9 l - 2) : Nat) : Int) by omega]
    · rw [if_neg z] at lb
      rw [if_neg z, gr (by omega), if_pos rfl, show (b : Int) + ((ofI s0 C Q R I (2 + c) k' : Int) + 0) = ((b + (p 9 l - 2) : Nat) : Int) by omega]
  · -- an inner name
    have hI : IRr F P t0 C Q R I c (tbI F P s0 t0 C O Q R L E I c) u := fun x x1 x2 => by rw [hu 214 x (by omega) (by omega)]; exact (hk c hcl).2.2 x x1 x2
    obtain ⟨⟨x1, x2, x3⟩, w, e1, e2, e3, e4, e5, -⟩ := ent_f h hs hL hcl g2
    have rp2 := r_pin h hs ru (⟨by omega, n3⟩ : lR L l < N ∧ s0 9 (lR L l) = 3) (show 2 + c < 2 + C.length by omega)
    have kp' : pfI F P t0 C Q R I (2 + c) (lR L l) = -1 := g1
    have rp' : m_pinOf (c : Int) (lR L l : Int) u = some (-1, u) := by
      unfold m_pinOfPart at rp2
      rw [gr (by omega), if_neg (by omega), show ((2 + c : Nat) : Int) - 2 = (c : Int) by omega, kp', if_pos rfl] at rp2
      obtain ⟨x, z, e1, e2⟩ := bd_inv rp2
      obtain ⟨e3, e4⟩ := Prod.mk.inj (Option.some.inj e2)
      rw [e1, e3, e4]
    have fx : fst1 (fun x => nmT F P t0 (I.getD x 0) = nmT F P t0 (lR L l)) (hAt C Q R I c).2.2.2 ((hAt C Q R I (c + 1)).2.2.2 - (hAt C Q R I c).2.2.2) = (xIn F P s0 t0 C O Q R L E I c m : Int) := by
      unfold xIn
      rw [g3]
      rcases fst1_rg (P := fun x => nmT F P t0 (I.getD x 0) = nmT F P t0 (lR L l)) ((hAt C Q R I (c + 1)).2.2.2 - (hAt C Q R I c).2.2.2) (hAt C Q R I c).2.2.2 with z | ⟨z1, z2, z3⟩
      · rw [fst1_no] at z
        exact absurd (by rw [x3, g3]) (z _ x1 (by omega))
      · omega
    have pid : phT F P s0 t0 C O Q R L E I c (p 9 l - 2) = rpX F P s0 t0 C O Q R L E I c (xIn F P s0 t0 C O Q R L E I c m) := by
      rw [g4, show plM F P s0 t0 C O Q R L E I c m + 2 - 2 = plM F P s0 t0 C O Q R L E I c m by omega, phT_i h hs hL hcl g2 (Nat.le_refl _) (by omega)]
      omega
    have rm := rpX_m (F := F) (P := P) (s0 := s0) (t0 := t0) (O := O) (L := L) (E := E) (c := c) (C := C) (Q := Q) (R := R) (I := I) (x := xIn F P s0 t0 C O Q R L E I c m + 1) (y := (hAt C Q R I (c + 1)).2.2.2) (by omega) (by omega)
    rw [rpX_e h hs hcl, ← (pf c hcl).1] at rm
    refine nameR (b + rpX F P s0 t0 C O Q R L E I c (xIn F P s0 t0 C O Q R L E I c m)) n3 (by omega) (by rw [pid]) (fun _ => by omega) ?_
    unfold m_connect_124
    rw [gr (by omega), if_pos rfl, rp', bq, gr (by omega), if_pos rfl, r_in h hs ru hcl ⟨by omega, n3⟩, bq, fx, r_ipl hs ru hcl hI (tb_TOK h hs hcl) x1 (by omega), bq]
    unfold m_connect_195
    rfl
  · exact constR (-2) (by omega) (by omega) (by omega) g2 (isT (-2) (Or.inl ⟨by omega, rfl⟩))
  · exact constR (-1) (by omega) (by omega) (by omega) g2 (isT (-1) (Or.inr ⟨by omega, rfl⟩))
end CMg
