/-! chips: the plan is sound where no chip is within itself -/
section CMh
variable (p : Nat → Nat → Nat)
def sbF : Nat → Nat → Nat
  | 0, _ => 0
  | f + 1, i => if i < 2 then 0 else sW (fun r => p 4 (p 1 r) + sbF f (p 1 r)) (p 0 (i - 2)) (npC p (i - 2))
def gtF : Nat → Nat → Nat
  | 0, i => if i < 2 then 1 else 0
  | f + 1, i => if i < 2 then 1 else sW (fun r => gtF f (p 1 r)) (p 0 (i - 2)) (npC p (i - 2))
def rkF (i : Nat) : Nat := if i < 2 then 0 else rkW (wSt (wPt p) (p 10 0)) (p 10 0) (i - 2) + 1
end CMh
section CMi
variable {p : Nat → Nat → Nat}
theorem rkF_lt (h : WF0 p) (hn : ∀ c, c < p 10 0 → wSt (wPt p) (p 10 0) c c = false) {c r : Nat} (hc : c < p 10 0) (h1 : p 0 c ≤ r) (h2 : r < p 0 (c + 1)) : rkF p (p 1 r) < rkF p (2 + c) := by
  unfold rkF
  rw [if_neg (show ¬ 2 + c < 2 by omega), show 2 + c - 2 = c by omega]
  by_cases z : p 1 r < 2
  · rw [if_pos z]; omega
  · rw [if_neg z]
    have pr := h.2.2 c r hc h1 h2
    have w0 : wPt p c (p 1 r - 2) = true := by
      unfold wPt wPn
      rw [List.any_eq_true]
      refine ⟨r - p 0 c, List.mem_range.mpr (by unfold npC; omega), ?_⟩
      rw [show p 0 c + (r - p 0 c) = r by omega, show 2 + (p 1 r - 2) = p 1 r by omega]
      simp
    have := rkW_lt (w := wSt (wPt p) (p 10 0)) (n := p 10 0) (a := c) (b := p 1 r - 2) (fun m a b hm h1 h2 => wSt_tr _ m a b hm h1 h2) hn (by omega) (wSt_le _ w0)
    omega
theorem sbF_st (h : WF0 p) (hn : ∀ c, c < p 10 0 → wSt (wPt p) (p 10 0) c c = false) : ∀ (f g i : Nat), i < 2 + p 10 0 → rkF p i ≤ f → rkF p i ≤ g → sbF p f i = sbF p g i ∧ gtF p f i = gtF p g i
  | 0, g, i, hi, h1, h2 => by
    have z : i < 2 := by
      by_cases z : i < 2
      · exact z
      · unfold rkF at h1
        rw [if_neg z] at h1
        omega
    cases g with
    | zero => exact ⟨rfl, rfl⟩
    | succ g =>
      refine ⟨?_, ?_⟩
      · show 0 = if i < 2 then 0 else _
        rw [if_pos z]
      · show (if i < 2 then 1 else 0) = if i < 2 then 1 else _
        rw [if_pos z, if_pos z]
  | f + 1, g, i, hi, h1, h2 => by
    by_cases z : i < 2
    · cases g with
      | zero =>
        refine ⟨?_, ?_⟩
        · show (if i < 2 then 0 else _) = 0
          rw [if_pos z]
        · show (if i < 2 then 1 else _) = if i < 2 then 1 else 0
          rw [if_pos z, if_pos z]
      | succ g =>
        refine ⟨?_, ?_⟩
        · show (if i < 2 then 0 else _) = if i < 2 then 0 else _
          rw [if_pos z, if_pos z]
        · show (if i < 2 then 1 else _) = if i < 2 then 1 else _
          rw [if_pos z, if_pos z]
    · have ri : 1 ≤ rkF p i := by unfold rkF; rw [if_neg z]; omega
      cases g with
      | zero => omega
      | succ g =>
        have e2 : 2 + (i - 2) = i := by omega
        have st : ∀ k, k < npC p (i - 2) → p 1 (p 0 (i - 2) + k) < 2 + p 10 0 ∧ rkF p (p 1 (p 0 (i - 2) + k)) ≤ f ∧ rkF p (p 1 (p 0 (i - 2) + k)) ≤ g := fun k hk => by
          have w := WF0_r h (c := i - 2) (k := k) (by omega) hk
          have := rkF_lt h hn (c := i - 2) (r := p 0 (i - 2) + k) (by omega) (by omega) w.1
          rw [e2] at this
          exact ⟨w.2, by omega, by omega⟩
        refine ⟨?_, ?_⟩
        · show (if i < 2 then 0 else _) = if i < 2 then 0 else _
          rw [if_neg z, if_neg z]
          refine sW_cg _ (fun k hk => ?_)
          obtain ⟨a1, a2, a3⟩ := st k hk
          show p 4 _ + sbF p f _ = p 4 _ + sbF p g _
          rw [(sbF_st h hn f g _ a1 a2 a3).1]
        · show (if i < 2 then 1 else _) = if i < 2 then 1 else _
          rw [if_neg z, if_neg z]
          refine sW_cg _ (fun k hk => ?_)
          obtain ⟨a1, a2, a3⟩ := st k hk
          exact (sbF_st h hn f g _ a1 a2 a3).2
/-- the plan with bits, gates and ranks -/
def plR (p : Nat → Nat → Nat) (k : Nat) : Nat → Nat := if k = 0 then sbF p 20 else if k = 1 then gtF p 20 else rkF p
theorem WFp_mk {q : Nat → Nat → Nat} (h : WF0 p) (hn : ∀ c, c < p 10 0 → wSt (wPt p) (p 10 0) c c = false) (hq : ∀ k, k ≠ 11 → k ≠ 12 → k ≠ 13 → q k = p k) (h11 : q 11 = sbF p 20) (h12 : q 12 = gtF p 20) (h13 : q 13 = rkF p) (hg : p 4 0 = 3 ∧ p 5 0 = 2 ∧ p 4 1 = 2 ∧ p 5 1 = 1) (hi : ∀ i, i < 2 + p 10 0 → p 5 i < p 14 i ∧ p 14 i ≤ p 4 i ∧ 2 ≤ p 4 i) (hl : ∀ c r, c < p 10 0 → p 0 c ≤ r → r < p 0 (c + 1) → p 2 r ≤ p 3 r ∧ p 3 r ≤ 500 ∧ ∀ l, p 2 r ≤ l → l < p 3 r → LKw p c r l) : WFp q ∧ (∀ c, c < p 10 0 → q 13 (2 + c) ≤ p 10 0) ∧ q 13 0 = 0 ∧ q 13 1 = 0 := by
  have rk : ∀ c, c < p 10 0 → 1 ≤ rkF p (2 + c) ∧ rkF p (2 + c) ≤ p 10 0 := fun c hc => by
    unfold rkF
    rw [if_neg (show ¬ 2 + c < 2 by omega), show 2 + c - 2 = c by omega]
    have := rkW_n (w := wSt (wPt p) (p 10 0)) hc (hn c hc)
    omega
  have c16 := h.1.2
  have nq : ∀ c, npC q c = npC p c := fun c => by unfold npC; rw [hq 0 (by omega) (by omega) (by omega)]
  have r0 : q 0 = p 0 := hq 0 (by omega) (by omega) (by omega)
  have r1 : q 1 = p 1 := hq 1 (by omega) (by omega) (by omega)
  have r2 : q 2 = p 2 := hq 2 (by omega) (by omega) (by omega)
  have r3 : q 3 = p 3 := hq 3 (by omega) (by omega) (by omega)
  have r4 : q 4 = p 4 := hq 4 (by omega) (by omega) (by omega)
  have r5 : q 5 = p 5 := hq 5 (by omega) (by omega) (by omega)
  have r10 : q 10 = p 10 := hq 10 (by omega) (by omega) (by omega)
  have r14 : q 14 = p 14 := hq 14 (by omega) (by omega) (by omega)
  refine ⟨⟨by rw [r10]; exact h.1, fun c hc => ?_, fun c r hc h1 h2 => ?_, ?_, ?_⟩, fun c hc => by rw [h13]; exact (rk c hc).2, by rw [h13]; rfl, by rw [h13]; rfl⟩
  · rw [r10] at hc
    obtain ⟨a1, a2⟩ := h.2.1 c hc
    obtain ⟨b1, b2⟩ := rk c hc
    rw [r0, h13, h11, h12, nq, r4, r1]
    have st : ∀ k, k < npC p c → p 1 (p 0 c + k) < 2 + p 10 0 ∧ rkF p (p 1 (p 0 c + k)) ≤ 19 ∧ rkF p (p 1 (p 0 c + k)) ≤ 20 := fun k hk => by
      have w := WF0_r h hc hk
      have := rkF_lt h hn hc (show p 0 c ≤ p 0 c + k by omega) w.1
      exact ⟨w.2, by omega, by omega⟩
    refine ⟨a1, a2, b1, by omega, ?_, ?_⟩
    · show (if 2 + c < 2 then 0 else sW (fun r => p 4 (p 1 r) + sbF p 19 (p 1 r)) (p 0 (2 + c - 2)) (npC p (2 + c - 2))) = _
      rw [if_neg (by omega), show 2 + c - 2 = c by omega]
      refine sW_cg _ (fun k hk => ?_)
      obtain ⟨x1, x2, x3⟩ := st k hk
      show p 4 _ + sbF p 19 _ = p 4 _ + sbF p 20 _
      rw [(sbF_st h hn 19 20 _ x1 x2 x3).1]
    · show (if 2 + c < 2 then 1 else sW (fun r => gtF p 19 (p 1 r)) (p 0 (2 + c - 2)) (npC p (2 + c - 2))) = _
      rw [if_neg (by omega), show 2 + c - 2 = c by omega]
      refine sW_cg _ (fun k hk => ?_)
      obtain ⟨x1, x2, x3⟩ := st k hk
      exact (sbF_st h hn 19 20 _ x1 x2 x3).2
  · rw [r10] at hc
    rw [r0] at h1 h2
    obtain ⟨a1, a2, a3⟩ := hl c r hc h1 h2
    rw [r1, r10, h13, r2, r3]
    refine ⟨h.2.2 c r hc h1 h2, rkF_lt h hn hc h1 h2, a1, a2, fun l l1 l2 => ?_⟩
    have := a3 l l1 l2
    unfold LKw at this ⊢
    rw [hq 6 (by omega) (by omega) (by omega), hq 8 (by omega) (by omega) (by omega), hq 7 (by omega) (by omega) (by omega), hq 9 (by omega) (by omega) (by omega), r5, r1, r4, r14]
    exact this
  · rw [r4, r5, h11, h12]
    exact ⟨hg.1, hg.2.1, hg.2.2.1, hg.2.2.2, rfl, rfl, rfl, rfl⟩
  · intro i hi'
    rw [r10] at hi'
    rw [r5, r14, r4]
    exact hi i hi'
end CMi
section CMj
variable {F : Nat → Int} {n N : Nat} {P : Nat → Nat} {s0 t0 s t s' t' : iS} {C : List chR} {O E I : List Nat} {Q : List (Nat × Int)} {R L : List (Nat × Nat)} {c b i j k r l m : Nat} {f : Nat → Nat → Nat} {p : Nat → Nat → Nat}
theorem W0_f (hs : KHS F P s0 t0 N C O Q R L E I) (hL : ∀ x, x < C.length → ∀ r, (hAt C Q R I x).2.2.1 ≤ r → r < (hAt C Q R I (x + 1)).2.2.1 → cix F P t0 C (R.getD r (0, 0)).1 ≠ -1) (hp : p = plT F P s0 t0 C O Q R E I s f) : WF0 p := by
  have bd' := KHS_bd hs
  have p10 : p 10 0 = C.length := by rw [hp]; rfl
  have p0 : ∀ c, p 0 c = (hAt C Q R I c).2.2.1 := fun c => by rw [hp]; rfl
  have p1 : ∀ r, p 1 r = (cix F P t0 C (R.getD r (0, 0)).1).toNat := fun r => by rw [hp]; rfl
  refine ⟨by omega, fun c hc => ?_, fun c r hc h1 h2 => ?_⟩
  · rw [p0, p0]
    have a := (KHS_m hs 1 c (by omega)).2.1
    have b := (KHS_q hs (c := c + 1) (by omega)).2.1
    omega
  · rw [p0] at h1 h2
    rw [p10] at hc ⊢
    rw [p1]
    rcases cix_rg (j := (R.getD r (0, 0)).1) hs with z | ⟨i, z1, z2⟩
    · exact absurd z (hL c hc r h1 h2)
    · omega
theorem PLC_f (h : TKH F n N P s0 t0) (hs : KHS F P s0 t0 N C O Q R L E I) (hc : KC F P s0 t0 C O Q R L E s) (hw : KW s0 C Q R I Q.length s) (hO : KO s0 C Q R I 0 s) (hk : CKD F P s0 t0 C O Q R L E I C.length s t) (hL : LKA F P s0 t0 C O Q R L E I C.length s) (hp : p = plT F P s0 t0 C O Q R E I s f) : PLC p s := by
  have bd' := KHS_bd hs
  have p10 : p 10 0 = C.length := by rw [hp]; rfl
  have p0 : ∀ c, p 0 c = (hAt C Q R I c).2.2.1 := fun c => by rw [hp]; rfl
  have p1 : ∀ r, p 1 r = (cix F P t0 C (R.getD r (0, 0)).1).toNat := fun r => by rw [hp]; rfl
  have p2 : ∀ r, p 2 r = (R.getD r (0, 0)).2 := fun r => by rw [hp]; rfl
  have p3 : ∀ r, p 3 r = E.getD r 0 := fun r => by rw [hp]; rfl
  have p4 : ∀ r, p 4 r = (s 93 r).toNat := fun r => by rw [hp]; rfl
  have ow := own_f hs hO hk
  refine ⟨fun c hc' => ?_, fun i hi => ?_, fun c r hc' h1 h2 => ?_⟩
  · rw [p10] at hc'
    rw [p0]
    exact (KC_c (I := I) hc (by omega) hc').2
  · rw [p10] at hi
    rw [p4]
    by_cases z : i < 2
    · have : i = 0 ∨ i = 1 := by omega
      rcases this with e | e <;> rw [e]
      · rw [ow.1.1]; rfl
      · rw [ow.1.2]; rfl
    · have := ow.2 (i - 2) (by omega)
      rw [show 2 + (i - 2) = i by omega] at this
      rw [this]
      rfl
  · rw [p10] at hc'
    rw [p0] at h1 h2
    have rq := (KHS_q hs (c := c + 1) (by omega)).2.1
    have el := hs.2.2.1.1
    have e94 := ((hk c hc').1 r h1 h2).1
    have ne := (hL c hc' r h1 h2).1
    refine ⟨?_, ?_, ?_, fun l l1 l2 => ?_⟩
    · rw [e94, p1]
      rcases cix_rg (j := (R.getD r (0, 0)).1) hs with z | ⟨i, z1, z2⟩
      · exact absurd z ne
      · omega
    · rw [p2]
      exact (hc.2.1.2.2.2.1.2 r (by omega)).2
    · rw [p3]
      exact hc.2.2.2.1 r (by omega)
    · rw [p2] at l1
      rw [p3] at l2
      exact (lk_v h hs hc hw hO hk hL hc' ⟨h1, h2⟩ ⟨l1, l2⟩ hp).2.1
theorem PLR_f (hs : KHS F P s0 t0 N C O Q R L E I) (hk : CKD F P s0 t0 C O Q R L E I C.length s t) (hL : LKA F P s0 t0 C O Q R L E I C.length s) (hr : KR s0 t0 C Q R L I t) (hp : p = plT F P s0 t0 C O Q R E I s f) : PLR p t := by
  have bd' := KHS_bd hs
  have p10 : p 10 0 = C.length := by rw [hp]; rfl
  have p0 : ∀ c, p 0 c = (hAt C Q R I c).2.2.1 := fun c => by rw [hp]; rfl
  have p1 : ∀ r, p 1 r = (cix F P t0 C (R.getD r (0, 0)).1).toNat := fun r => by rw [hp]; rfl
  have p2 : ∀ r, p 2 r = (R.getD r (0, 0)).2 := fun r => by rw [hp]; rfl
  have p3 : ∀ r, p 3 r = E.getD r 0 := fun r => by rw [hp]; rfl
  refine ⟨fun c hc' => ?_, fun c r hc' h1 h2 => ?_⟩
  · rw [p10] at hc'
    rw [p0]
    exact (KR_c hr hc').2.1
  · rw [p10] at hc'
    rw [p0] at h1 h2
    have rq := (KHS_q hs (c := c + 1) (by omega)).2.1
    obtain ⟨el, e2, -, e4⟩ := hs.2.2.1
    have e216 := ((hk c hc').1 r h1 h2).2
    have ne := (hL c hc' r h1 h2).1
    refine ⟨?_, ?_, ?_⟩
    · rw [e216, p1]
      rcases cix_rg (j := (R.getD r (0, 0)).1) hs with z | ⟨i, z1, z2⟩
      · exact absurd z ne
      · omega
    · rw [p2]
      exact (hr.2.1.2.2.1.2 r (by omega)).2
    · rw [p3]
      by_cases z : r + 1 < R.length
      · rw [(hr.2.1.2.2.1.2 (r + 1) z).2, e2 r z]
      · have e : r + 1 = R.length := by omega
        rw [e, hr.2.2.2.2.2, ← e4 (by omega), ← e]
        rfl
theorem HB_f (h : TKH F n N P s0 t0) (hs : KHS F P s0 t0 N C O Q R L E I) (hO : KO s0 C Q R I 0 s) (hk : CKD F P s0 t0 C O Q R L E I C.length s t) (hr : KR s0 t0 C Q R L I t) (hp : p = plT F P s0 t0 C O Q R E I s f) : HBo p t := by
  have bd' := KHS_bd hs
  have p10 : p 10 0 = C.length := by rw [hp]; rfl
  have p0 : ∀ c, p 0 c = (hAt C Q R I c).2.2.1 := fun c => by rw [hp]; rfl
  obtain ⟨-, pf, -⟩ := pl_f h hs hO hk hp
  intro u hu c hcl v1
  rw [p10] at hcl
  have ru : KR s0 t0 C Q R L I u := KR_of hr (fun c' x z => hu c' x (by omega))
  have hT := tb_TOK (O := O) (L := L) (E := E) h hs hcl
  have hI : IRr F P t0 C Q R I c (tbI F P s0 t0 C O Q R L E I c) u := fun x x1 x2 => by rw [hu 214 x (by omega)]; exact (hk c hcl).2.2 x x1 x2
  obtain ⟨p1, p2⟩ := paI_c (Q := Q) (R := R) (I := I) hcl
  obtain ⟨e196, e201, e212⟩ := KR_c ru (c := c) (by omega)
  obtain ⟨e196', -, e212'⟩ := KR_c ru (c := c + 1) (by omega)
  obtain ⟨qq, -, ii⟩ := KHS_q hs (c := c + 1) (by omega)
  obtain ⟨mq, -, mi⟩ := KHS_m hs 1 c (by omega)
  obtain ⟨a, ha⟩ : ∃ a, a = (hAt C Q R I c).2.1 := ⟨_, rfl⟩
  obtain ⟨z, hz⟩ : ∃ z, z = (hAt C Q R I (c + 1)).2.1 := ⟨_, rfl⟩
  rw [← ha] at p1 e196 mq
  rw [← hz] at p2 e196' mq qq
  have bB : bCh s0 C Q R I c ≤ 100000 := by have := (owT_f hs h (O := O) (L := L) (E := E) hcl); omega
  have L1 := lpG (f := fun l : Int × Int × iS => m_countAll_33b v1 (c : Int) 0 (l.1) (l.2.1) (l.2.2)) (M := z - a) (I := fun x l => l = (((sW (pwN s0 Q) (5 + a) x : Nat) : Int), ((a + x : Nat) : Int), u)) (J := fun e => e = (((sW (pwN s0 Q) (5 + a) (z - a) : Nat) : Int), u)) (by
    rintro x l hx rfl
    refine ⟨_, ?_, rfl⟩
    show m_countAll_33b v1 (c : Int) 0 ((sW (pwN s0 Q) (5 + a) x : Nat) : Int) ((a + x : Nat) : Int) u = _
    have pw := (ru.2.1.2.1.2 (a + x) (by omega)).2.2.1
    have pv : pwN s0 Q (5 + a + x) = (wdP s0 (Q.getD (a + x) (0, 0)).1).toNat := by
      unfold pwN pwI
      rw [if_neg (by omega), show 5 + a + x - 5 = a + x by omega]
    have pr := wdP_rg (s0 := s0) (j := (Q.getD (a + x) (0, 0)).1)
    unfold m_countAll_33b
    rw [gd_pos (by omega), gr (by omega), show ((c : Int) + 1).toNat = c + 1 by omega, e196', gr (by omega), if_neg (by omega), gd_pos (by omega), Int.toNat_natCast, pw, gr (by omega), sW_s, show ((sW (pwN s0 Q) (5 + a) x + pwN s0 Q (5 + a + x) : Nat) : Int) = ((sW (pwN s0 Q) (5 + a) x : Nat) : Int) + wdP s0 (Q.getD (a + x) (0, 0)).1 by omega, show ((a + (x + 1) : Nat) : Int) = ((a + x : Nat) : Int) + 1 by omega]) (by
    rintro l rfl
    refine ⟨_, ?_, rfl⟩
    show m_countAll_33b v1 (c : Int) 0 ((sW (pwN s0 Q) (5 + a) (z - a) : Nat) : Int) ((a + (z - a) : Nat) : Int) u = _
    unfold m_countAll_33b
    rw [gd_pos (by omega), gr (by omega), show ((c : Int) + 1).toNat = c + 1 by omega, e196', gr (by omega), if_pos (by omega)]) (z - a) 0 ((0 : Int), (a : Int), u) (by omega) rfl
  obtain ⟨e, l1, l2⟩ := L1
  have eb : sW (pwN s0 Q) (5 + a) (z - a) = bCh s0 C Q R I c := by
    unfold bCh ofI
    rw [p1, p2, show 5 + z - (5 + a) = z - a by omega]
  rw [eb] at l2
  obtain ⟨y, hy⟩ : ∃ y, y = (hAt C Q R I c).2.2.2 := ⟨_, rfl⟩
  obtain ⟨w, hw⟩ : ∃ w, w = (hAt C Q R I (c + 1)).2.2.2 := ⟨_, rfl⟩
  rw [← hy] at e212 mi
  rw [← hw] at e212' mi ii
  have L2 := lpG (f := fun l : Int × Int × iS => m_countAll_73b v1 (c : Int) 0 (l.1) (l.2.1) (l.2.2)) (M := w - y) (I := fun x l => l = (((bCh s0 C Q R I c + sW (iwX F P s0 t0 C O Q R L E I c) y x : Nat) : Int), ((y + x : Nat) : Int), u)) (J := fun e => e = (((bCh s0 C Q R I c + sW (iwX F P s0 t0 C O Q R L E I c) y (w - y) : Nat) : Int), u)) (by
    rintro x l hx rfl
    refine ⟨_, ?_, rfl⟩
    show m_countAll_73b v1 (c : Int) 0 ((bCh s0 C Q R I c + sW (iwX F P s0 t0 C O Q R L E I c) y x : Nat) : Int) ((y + x : Nat) : Int) u = _
    have e214 := hI (y + x) (by omega) (by omega)
    have wn := (wOf_ne (F := F) (P := P) (t0 := t0) (nm := nmT F P t0 (I.getD (y + x) 0)) _ (fun e he => (hT.1 e he).2.2)).2
    have iw : iwX F P s0 t0 C O Q R L E I c (y + x) = (wOf F P t0 (tbI F P s0 t0 C O Q R L E I c) (nmT F P t0 (I.getD (y + x) 0))).toNat := rfl
    unfold m_countAll_73b
    rw [gd_pos (by omega), gr (by omega), show ((c : Int) + 1).toNat = c + 1 by omega, e212', gr (by omega), if_neg (by omega), gd_pos (by omega), Int.toNat_natCast, e214, gr (by omega), sW_s, show ((y + (x + 1) : Nat) : Int) = ((y + x : Nat) : Int) + 1 by omega]
    by_cases q : wOf F P t0 (tbI F P s0 t0 C O Q R L E I c) (nmT F P t0 (I.getD (y + x) 0)) ≤ 0
    · rw [if_pos q, show ((bCh s0 C Q R I c + (sW (iwX F P s0 t0 C O Q R L E I c) y x + iwX F P s0 t0 C O Q R L E I c (y + x)) : Nat) : Int) = ((bCh s0 C Q R I c + sW (iwX F P s0 t0 C O Q R L E I c) y x : Nat) : Int) + 0 by omega]
    · rw [if_neg q, show ((bCh s0 C Q R I c + (sW (iwX F P s0 t0 C O Q R L E I c) y x + iwX F P s0 t0 C O Q R L E I c (y + x)) : Nat) : Int) = ((bCh s0 C Q R I c + sW (iwX F P s0 t0 C O Q R L E I c) y x : Nat) : Int) + wOf F P t0 (tbI F P s0 t0 C O Q R L E I c) (nmT F P t0 (I.getD (y + x) 0)) by omega]) (by
    rintro l rfl
    refine ⟨_, ?_, rfl⟩
    show m_countAll_73b v1 (c : Int) 0 ((bCh s0 C Q R I c + sW (iwX F P s0 t0 C O Q R L E I c) y (w - y) : Nat) : Int) ((y + (w - y) : Nat) : Int) u = _
    unfold m_countAll_73b
    rw [gd_pos (by omega), gr (by omega), show ((c : Int) + 1).toNat = c + 1 by omega, e212', gr (by omega), if_pos (by omega)]) (w - y) 0 (((bCh s0 C Q R I c : Nat) : Int), (y : Int), u) (by omega) rfl
  obtain ⟨e', l3, l4⟩ := L2
  have eo : bCh s0 C Q R I c + sW (iwX F P s0 t0 C O Q R L E I c) y (w - y) = p 4 (2 + c) := by
    rw [(pf c hcl).1, ← rpX_e h hs hcl]
    unfold rpX
    rw [← hy, ← hw]
  rw [eo] at l4
  unfold m_countAll_12b
  rw [gr (by omega), ru.2.1.1.1, gr (by omega), if_neg (by omega), gd_pos (by omega), Int.toNat_natCast, e196]
  unfold m_countAll_33
  have l1' : lp (L := Int × Int × iS) (E := Int × iS) (fun l => m_countAll_33b v1 (c : Int) 0 (l.1) (l.2.1) (l.2.2)) (0, (a : Int), u) = some e := l1
  rw [l1', l2, bn]
  show m_countAll_65 v1 (c : Int) 0 ((bCh s0 C Q R I c : Nat) : Int) u = _
  unfold m_countAll_65
  rw [gd_pos (by omega), Int.toNat_natCast, e212]
  unfold m_countAll_73
  rw [l3, l4, bn]
  show m_countAll_119 v1 (c : Int) 0 ((p 4 (2 + c) : Nat) : Int) u = _
  unfold m_countAll_119
  rw [gd_pos (by omega), Int.toNat_natCast, e201, p0]
end CMj
