/-! chips: the plan of a text that is checked: the class's side -/
section CMd
variable (F : Nat → Int) (P : Nat → Nat) (s0 t0 : iS) (C : List chR) (O : List Nat) (Q : List (Nat × Int)) (R L : List (Nat × Nat)) (E I : List Nat)
def ouG (k : Nat) : Nat := if k < 5 then (if k = 2 ∨ k = 4 then 1 else 0) else (Q.getD (k - 5) (0, 0)).2.toNat
def plT (s : iS) (f : Nat → Nat → Nat) : Nat → Nat → Nat
  | 0, c => (hAt C Q R I c).2.2.1
  | 1, r => (cix F P t0 C (R.getD r (0, 0)).1).toNat
  | 2, r => (R.getD r (0, 0)).2
  | 3, r => E.getD r 0
  | 4, i => (s 93 i).toNat
  | 5, i => ofI s0 C Q R I i (ooI O i)
  | 6, l => (s 97 l).toNat
  | 7, l => (s 92 (s 95 l).toNat + s 96 l).toNat
  | 8, l => ouG Q (s 95 l).toNat
  | 9, l => (s 98 l + 2).toNat
  | 10, _ => C.length
  | 11, i => f 0 i
  | 12, i => f 1 i
  | 13, i => f 2 i
  | 14, i => ofI s0 C Q R I i (paI C Q R I (i + 1))
  | _, _ => 0
end CMd
section CMe
variable {F : Nat → Int} {n N : Nat} {P : Nat → Nat} {s0 t0 s t s' t' : iS} {C : List chR} {O E I : List Nat} {Q : List (Nat × Int)} {R L : List (Nat × Nat)} {c b i j k q r l m : Nat} {f : Nat → Nat → Nat}
theorem pwN_f : 1 ≤ pwN s0 Q k ∧ pwN s0 Q k ≤ 16 ∧ pwI s0 Q k = (pwN s0 Q k : Int) := by
  have := pwI_rg (s0 := s0) (Q := Q) (k := k)
  unfold pwN
  omega
theorem ofI_s (h : paI C Q R I i ≤ k) : ofI s0 C Q R I i (k + 1) = ofI s0 C Q R I i k + pwN s0 Q k := by
  unfold ofI
  rw [show k + 1 - paI C Q R I i = k - paI C Q R I i + 1 by omega, sW_s, show paI C Q R I i + (k - paI C Q R I i) = k by omega]
theorem ofI_m {k' : Nat} (h : paI C Q R I i ≤ k) (h2 : k ≤ k') : ofI s0 C Q R I i k ≤ ofI s0 C Q R I i k' := by
  unfold ofI
  have := sW_mono (f := pwN s0 Q) (a := paI C Q R I i) (k' - k) (k - paI C Q R I i)
  rw [show k - paI C Q R I i + (k' - k) = k' - paI C Q R I i by omega] at this
  exact this
theorem paI_g (hs : KHS F P s0 t0 N C O Q R L E I) : paI C Q R I 0 = 0 ∧ paI C Q R I 1 = 3 ∧ paI C Q R I 2 = 5 := by
  have := KHS_0 hs
  refine ⟨rfl, rfl, ?_⟩
  show 5 + (hAt C Q R I 0).2.1 = 5
  have e : (hAt C Q R I 0).2.1 = 0 := by rw [this]
  omega
theorem ouG_f (hs : KHS F P s0 t0 N C O Q R L E I) (hi : i < 2 + C.length) (h1 : paI C Q R I i ≤ k) (h2 : k < paI C Q R I (i + 1)) : ouG Q k = if k < ooI O i then 0 else 1 := by
  obtain ⟨g0, g1, g2⟩ := paI_g hs
  by_cases z : i < 2
  · have : i = 0 ∨ i = 1 := by omega
    rcases this with e | e
    · subst e
      have o : ooI O 0 = 2 := rfl
      have h2' : k < paI C Q R I 1 := h2
      rw [o]
      unfold ouG
      rw [if_pos (by omega)]
      by_cases y : k < 2
      · rw [if_pos y, if_neg (by omega)]
      · rw [if_neg y, if_pos (by omega)]
    · subst e
      have o : ooI O 1 = 4 := rfl
      have h2' : k < paI C Q R I 2 := h2
      rw [o]
      unfold ouG
      rw [if_pos (by omega)]
      by_cases y : k < 4
      · rw [if_pos y, if_neg (by omega)]
      · rw [if_neg y, if_pos (by omega)]
  · obtain ⟨c, rfl⟩ : ∃ c, i = 2 + c := ⟨i - 2, by omega⟩
    obtain ⟨p1, p2⟩ := paI_c (Q := Q) (R := R) (I := I) (show c < C.length by omega)
    rw [p1] at h1
    rw [p2] at h2
    have o : ooI O (2 + c) = 5 + O.getD c 0 := by unfold ooI; rw [if_neg (by omega), if_neg (by omega), show 2 + c - 2 = c by omega]
    obtain ⟨-, -, b, -⟩ := KHS_c hs (show c < C.length by omega)
    have := (b (k - 5) (by omega) (by omega)).2
    rw [o]
    unfold ouG
    rw [if_neg (by omega), this]
    by_cases y : k - 5 < O.getD c 0
    · rw [if_pos y, if_pos (by omega)]
      rfl
    · rw [if_neg y, if_neg (by omega)]
      rfl
theorem e77 (hs : KHS F P s0 t0 N C O Q R L E I) (hc : KC F P s0 t0 C O Q R L E s) (hi : i < 2 + C.length) : s 77 i = ((ooI O i : Nat) : Int) := by
  have b := KHS_bd hs
  unfold ooI
  by_cases x0 : i = 0
  · rw [if_pos x0, x0, hc.2.2.1.2.2.1]; rfl
  · rw [if_neg x0]
    by_cases x1 : i = 1
    · rw [if_pos x1, x1, hc.2.2.1.2.2.2.1]; rfl
    · rw [if_neg x1]
      have := hc.2.1.2.1 (i - 2) (by omega)
      rw [show 2 + (i - 2) = i by omega] at this
      rw [this]
      omega
/-- own bits of the chips -/
theorem own_f (hs : KHS F P s0 t0 N C O Q R L E I) (hO : KO s0 C Q R I 0 s) (hk : CKD F P s0 t0 C O Q R L E I C.length s t) : (s 93 0 = 3 ∧ s 93 1 = 2) ∧ ∀ c, c < C.length → s 93 (2 + c) = (owT (bCh s0 C Q R I c) (tbI F P s0 t0 C O Q R L E I c) : Int) := by
  obtain ⟨g0, g1, g2⟩ := paI_g hs
  have p1 : ∀ k, k < 5 → pwN s0 Q k = 1 := fun k hk => by unfold pwN pwI; rw [if_pos hk]; rfl
  refine ⟨⟨?_, ?_⟩, fun c hc => (hk c hc).2.1⟩
  · rw [hO 0 (by omega)]
    have : ofI s0 C Q R I 0 (paI C Q R I (0 + 1)) = 3 := by
      show sW (pwN s0 Q) 0 3 = 3
      show 0 + pwN s0 Q 0 + pwN s0 Q 1 + pwN s0 Q 2 = 3
      rw [p1 0 (by omega), p1 1 (by omega), p1 2 (by omega)]
    rw [this]
    rfl
  · rw [hO 1 (by omega)]
    have : ofI s0 C Q R I 1 (paI C Q R I (1 + 1)) = 2 := by
      show sW (pwN s0 Q) 3 (paI C Q R I 2 - 3) = 2
      rw [g2]
      show 0 + pwN s0 Q 3 + pwN s0 Q 4 = 2
      rw [p1 3 (by omega), p1 4 (by omega)]
    rw [this]
    rfl
theorem owT_f (hs : KHS F P s0 t0 N C O Q R L E I) (h : TKH F n N P s0 t0) (hcl : c < C.length) : bCh s0 C Q R I c ≤ owT (bCh s0 C Q R I c) (tbI F P s0 t0 C O Q R L E I c) ∧ owT (bCh s0 C Q R I c) (tbI F P s0 t0 C O Q R L E I c) ≤ 100000 := by
  have hT := tb_TOK h hs hcl
  have tl := (TOK_len hs hcl hT).1
  have pm := paI_m hs (show 2 + c < 2 + C.length by omega)
  have b1 : bCh s0 C Q R I c ≤ 16 * 12 := by
    unfold bCh ofI
    have := sW_le (f := pwN s0 Q) (a := paI C Q R I (2 + c)) (b := 16) (fun x => pwN_f.2.1) (paI C Q R I (2 + c + 1) - paI C Q R I (2 + c))
    omega
  have go : ∀ T : List tEn, (∀ e ∈ T, e.2.2.1 = -1 ∨ 1 ≤ e.2.2.1 ∧ e.2.2.1 ≤ 16) → (T.map (fun e => e.2.2.1.toNat)).sum ≤ 16 * T.length := by
    intro T
    induction T with
    | nil => intro _; exact Nat.le_refl _
    | cons e T ih =>
      intro q
      have a := ih (fun e he => q e (List.mem_cons_of_mem _ he))
      have b := q e List.mem_cons_self
      rw [List.map_cons, List.sum_cons, List.length_cons]
      omega
  have := go _ (fun e he => (hT.1 e he).2.2)
  unfold owT
  omega
/-- a link, in the plan -/
theorem lk_v (h : TKH F n N P s0 t0) (hs : KHS F P s0 t0 N C O Q R L E I) (hc : KC F P s0 t0 C O Q R L E s) (hw : KW s0 C Q R I Q.length s) (hO : KO s0 C Q R I 0 s) (hk : CKD F P s0 t0 C O Q R L E I C.length s t) (hL : LKA F P s0 t0 C O Q R L E I C.length s) (hcl : c < C.length) (hrr : (hAt C Q R I c).2.2.1 ≤ r ∧ r < (hAt C Q R I (c + 1)).2.2.1) (hl : (R.getD r (0, 0)).2 ≤ l ∧ l < E.getD r 0) {p : Nat → Nat → Nat} (hp : p = plT F P s0 t0 C O Q R E I s f) : LKw p c r l ∧ LKs p r l s ∧ ∃ k : Nat, (paI C Q R I (p 1 r) ≤ k ∧ k < paI C Q R I (p 1 r + 1)) ∧ kL F P t0 C Q R L I (p 1 r) l = (k : Int) ∧ (p 7 l : Int) = (ofI s0 C Q R I (p 1 r) k : Int) + loB s0 (lL L l) ∧ wLl F P s0 t0 C Q R L I (p 1 r) l = (p 6 l : Int) ∧ p 8 l = (if k < ooI O (p 1 r) then 0 else 1) ∧ ((s0 9 (lR L l) = 3 ∧ ∃ k' : Nat, kR F P t0 C Q R L I c l = (k' : Int) ∧ (paI C Q R I (2 + c) ≤ k' ∧ k' < paI C Q R I (2 + c + 1)) ∧ 0 ≤ loB s0 (lR L l) ∧ (p 9 l : Int) = (ofI s0 C Q R I (2 + c) k' : Int) + loB s0 (lR L l) + 2 ∧ p 9 l - 2 + p 6 l ≤ bCh s0 C Q R I c) ∨ (s0 9 (lR L l) = 3 ∧ kR F P t0 C Q R L I c l = -1 ∧ ∃ m : Nat, m < (tbI F P s0 t0 C O Q R L E I c).length ∧ nmT F P t0 ((tbI F P s0 t0 C O Q R L E I c).getD m (0, 0, 0, 0)).1 = nmT F P t0 (lR L l) ∧ p 9 l = plM F P s0 t0 C O Q R L E I c m + 2 ∧ plM F P s0 t0 C O Q R L E I c (m + 1) = plM F P s0 t0 C O Q R L E I c m + p 6 l) ∨ (s0 9 (lR L l) = 304 ∧ p 9 l = 0 ∧ p 8 l = 0) ∨ (s0 9 (lR L l) = 305 ∧ p 9 l = 1 ∧ p 8 l = 0)) := by
  have bd' := KHS_bd hs
  obtain ⟨ne, hl'⟩ := hL c hcl r hrr.1 hrr.2
  obtain ⟨lkc, mi, mo, hx⟩ := hl' l hl.1 hl.2
  have p1 : p 1 r = (cix F P t0 C (R.getD r (0, 0)).1).toNat := by rw [hp]; rfl
  rw [← p1] at lkc hx
  have ir : p 1 r < 2 + C.length := by
    rw [p1]
    rcases cix_rg (j := (R.getD r (0, 0)).1) hs with z | ⟨i, z1, z2⟩
    · exact absurd z ne
    · omega
  obtain ⟨k, w, f1, ⟨f2, f3, f4⟩, f5, f6, ⟨f7, f8⟩, f9⟩ := lnk_f h hs hcl hrr hl ir hx
  obtain ⟨c1, c2, c3, c4⟩ := lkc
  rw [f1] at c1
  rw [f5] at c3
  have pm := paI_m hs ir
  have e92 : s 92 k = (ofI s0 C Q R I (p 1 r) k : Int) := hw.2 (p 1 r) k ir f2 f3 (by omega)
  have pw := pwN_f (s0 := s0) (Q := Q) (k := k)
  have os := ofI_s (s0 := s0) (Q := Q) f2
  have v6 : p 6 l = w := by rw [hp]; show (s 97 l).toNat = w; rw [c3]; rfl
  have v7 : (p 7 l : Int) = (ofI s0 C Q R I (p 1 r) k : Int) + loB s0 (lL L l) := by
    have : p 7 l = (s 92 (s 95 l).toNat + s 96 l).toNat := by rw [hp]; rfl
    rw [this, c1, Int.toNat_natCast, e92, c2]
    omega
  have v8 : p 8 l = if k < ooI O (p 1 r) then 0 else 1 := by
    have : p 8 l = ouG Q (s 95 l).toNat := by rw [hp]; rfl
    rw [this, c1, Int.toNat_natCast, ouG_f hs ir f2 f3]
  have e77' := e77 hs hc ir
  have v5 : ∀ i, p 5 i = ofI s0 C Q R I i (ooI O i) := fun i => by rw [hp]; rfl
  have v14 : ∀ i, p 14 i = ofI s0 C Q R I i (paI C Q R I (i + 1)) := fun i => by rw [hp]; rfl
  have ow := own_f hs hO hk
  have v4 : p 4 (2 + c) = owT (bCh s0 C Q R I c) (tbI F P s0 t0 C O Q R L E I c) := by
    have : p 4 (2 + c) = (s 93 (2 + c)).toNat := by rw [hp]; rfl
    rw [this, ow.2 c hcl]
    rfl
  have v9 : p 9 l = (s 98 l + 2).toNat := by rw [hp]; rfl
  have hL0 : ∀ z : Int, s 98 l = z → -2 ≤ z → (p 9 l : Int) = z + 2 := fun z hz h2 => by rw [v9, hz]; omega
  have k197 : (k : Int) < 197 := by omega
  have tg : tgR F P s0 t0 C Q R L I c l (tbI F P s0 t0 C O Q R L E I c) = s 98 l := c4.symm
  have owl := (owT_f hs h (O := O) (L := L) (E := E) hcl).1
  -- the right side
  have right : ((s0 9 (lR L l) = 3 ∧ ∃ k' : Nat, kR F P t0 C Q R L I c l = (k' : Int) ∧ (paI C Q R I (2 + c) ≤ k' ∧ k' < paI C Q R I (2 + c + 1)) ∧ 0 ≤ loB s0 (lR L l) ∧ (p 9 l : Int) = (ofI s0 C Q R I (2 + c) k' : Int) + loB s0 (lR L l) + 2 ∧ p 9 l - 2 + p 6 l ≤ bCh s0 C Q R I c) ∨ (s0 9 (lR L l) = 3 ∧ kR F P t0 C Q R L I c l = -1 ∧ ∃ m : Nat, m < (tbI F P s0 t0 C O Q R L E I c).length ∧ nmT F P t0 ((tbI F P s0 t0 C O Q R L E I c).getD m (0, 0, 0, 0)).1 = nmT F P t0 (lR L l) ∧ p 9 l = plM F P s0 t0 C O Q R L E I c m + 2 ∧ plM F P s0 t0 C O Q R L E I c (m + 1) = plM F P s0 t0 C O Q R L E I c m + p 6 l) ∨ (s0 9 (lR L l) = 304 ∧ p 9 l = 0 ∧ p 8 l = 0) ∨ (s0 9 (lR L l) = 305 ∧ p 9 l = 1 ∧ p 8 l = 0)) ∧ LKw p c r l := by
    have left0 : k < ooI O (p 1 r) → p 7 l + p 6 l ≤ p 5 (p 1 r) := fun z => by
      have := ofI_m (s0 := s0) (C := C) (Q := Q) (R := R) (I := I) (i := p 1 r) (k := k + 1) (k' := ooI O (p 1 r)) (by omega) (by omega)
      rw [v5, v6]
      omega
    have left1 : ooI O (p 1 r) ≤ k → p 5 (p 1 r) ≤ p 7 l ∧ p 7 l + p 6 l ≤ p 14 (p 1 r) := fun z => by
      have a := ofI_m (s0 := s0) (C := C) (Q := Q) (R := R) (I := I) (i := p 1 r) (k := ooI O (p 1 r)) (k' := k) (by omega) z
      have b := ofI_m (s0 := s0) (C := C) (Q := Q) (R := R) (I := I) (i := p 1 r) (k := k + 1) (k' := paI C Q R I (p 1 r + 1)) (by omega) (by omega)
      rw [v5, v14, v6]
      omega
    rcases f9 with ⟨n3, k', g1, g2, g3, g4, g5, g6⟩ | ⟨n3, g1, m, g2, g3, g4, g5, g6⟩ | ⟨n3, g1⟩
    · have t98 : s 98 l = (ofI s0 C Q R I (2 + c) k' : Int) + loB s0 (lR L l) := by
        rw [← tg]
        unfold tgR
        rw [if_pos n3, g1, if_neg (by omega), Int.toNat_natCast]
      have pw' := pwN_f (s0 := s0) (Q := Q) (k := k')
      have os' := ofI_s (s0 := s0) (Q := Q) g2
      have om := ofI_m (s0 := s0) (C := C) (Q := Q) (R := R) (I := I) (i := 2 + c) (k := k' + 1) (k' := paI C Q R I (2 + c + 1)) (by omega) (by omega)
      have p9 := hL0 _ t98 (by omega)
      have bb : bCh s0 C Q R I c = ofI s0 C Q R I (2 + c) (paI C Q R I (2 + c + 1)) := rfl
      have pmc := paI_m hs (show 2 + c < 2 + C.length by omega)
      refine ⟨Or.inl ⟨n3, k', g1, ⟨g2, g3⟩, g5, by omega, by omega⟩, by omega, ?_⟩
      by_cases y : k < ooI O (p 1 r)
      · refine Or.inl ⟨by rw [v8, if_pos y], left0 y, Or.inr ?_⟩
        omega
      · have y1 := left1 (by omega)
        have y2 := g4.mpr (by omega)
        have y3 := ofI_m (s0 := s0) (C := C) (Q := Q) (R := R) (I := I) (i := 2 + c) (k := ooI O (2 + c)) (k' := k') (by omega) y2
        refine Or.inr ⟨by rw [v8, if_neg y], y1.1, y1.2, by omega, ?_, by omega⟩
        rw [v5]
        omega
    · obtain ⟨-, w', e1, e2, e3, e4, -, r', e6, e7, e8⟩ := ent_f h hs hL hcl g2
      have ee : eR F P t0 L (tbI F P s0 t0 C O Q R L E I c) l = (tbI F P s0 t0 C O Q R L E I c).getD m (0, 0, 0, 0) := by unfold eR; rw [g3, Int.toNat_natCast]
      have t98 : s 98 l = (plM F P s0 t0 C O Q R L E I c m : Int) := by
        rw [← tg]
        unfold tgR
        rw [if_pos n3, if_pos g1, ee, e3]
      have p9 := hL0 _ t98 (by omega)
      -- widths agree
      have ww : w' = w := by
        by_cases y : k < ooI O (p 1 r)
        · rcases g6 y with q | q
          · omega
          · omega
        · have q := g5 (by omega)
          have rl := (KHS_q hs (c := c + 1) (by omega)).2.1
          have er : r' = r := LK_u hs (by omega) (by omega) e7 (by rw [q]; exact hl)
          rw [q, er, ← p1, f5] at e8
          omega
      have mx := plM_m (F := F) (P := P) (s0 := s0) (t0 := t0) (C := C) (O := O) (Q := Q) (R := R) (L := L) (E := E) (I := I) (c := c) ((tbI F P s0 t0 C O Q R L E I c).length - (m + 1)) (m + 1) (by omega)
      rw [show m + 1 + ((tbI F P s0 t0 C O Q R L E I c).length - (m + 1)) = (tbI F P s0 t0 C O Q R L E I c).length by omega, plM_e, e4] at mx
      have m0 := plM_m (F := F) (P := P) (s0 := s0) (t0 := t0) (C := C) (O := O) (Q := Q) (R := R) (L := L) (E := E) (I := I) (c := c) m 0 (by omega)
      rw [Nat.zero_add, plM_0] at m0
      have pmc := paI_m hs (show 2 + c < 2 + C.length by omega)
      have bb : bCh s0 C Q R I c = ofI s0 C Q R I (2 + c) (paI C Q R I (2 + c + 1)) := rfl
      have y3 := ofI_m (s0 := s0) (C := C) (Q := Q) (R := R) (I := I) (i := 2 + c) (k := ooI O (2 + c)) (k' := paI C Q R I (2 + c + 1)) (by omega) (by omega)
      refine ⟨Or.inr (Or.inl ⟨n3, g1, m, g2, g4, by omega, by omega⟩), by omega, ?_⟩
      by_cases y : k < ooI O (p 1 r)
      · refine Or.inl ⟨by rw [v8, if_pos y], left0 y, Or.inr ?_⟩
        omega
      · have y1 := left1 (by omega)
        refine Or.inr ⟨by rw [v8, if_neg y], y1.1, y1.2, by omega, ?_, by omega⟩
        rw [v5]
        omega
    · have y8 : p 8 l = 0 := by rw [v8, if_pos g1]
      rcases n3 with n3 | n3
      · have t98 : s 98 l = -2 := by
          rw [← tg]
          unfold tgR
          rw [if_neg (by omega), if_pos n3]
        have p9 := hL0 _ t98 (by omega)
        exact ⟨Or.inr (Or.inr (Or.inl ⟨n3, by omega, y8⟩)), by omega, Or.inl ⟨y8, left0 g1, Or.inl (by omega)⟩⟩
      · have t98 : s 98 l = -1 := by
          rw [← tg]
          unfold tgR
          rw [if_neg (by omega), if_neg (by omega)]
        have p9 := hL0 _ t98 (by omega)
        exact ⟨Or.inr (Or.inr (Or.inr ⟨n3, by omega, y8⟩)), by omega, Or.inl ⟨y8, left0 g1, Or.inl (by omega)⟩⟩
  have t98r : -2 ≤ s 98 l := by
    rw [← tg]
    unfold tgR
    split
    · split
      · omega
      · rcases f9 with ⟨n3, k', g1, g2, g3, g4, g5, g6⟩ | ⟨n3, g1, g2⟩ | ⟨n3, g1⟩
        · omega
        · omega
        · omega
    · split <;> omega
  refine ⟨right.2, ⟨by omega, by rw [c1, Int.toNat_natCast, e92, c2, v7], by rw [c3, v6], by have := hL0 _ rfl t98r; omega, by rw [e77']; have := pm; omega, ?_⟩, k, ⟨f2, f3⟩, f1, v7, by rw [f5, v6], v8, right.1⟩
  rw [v8, c1, e77']
  by_cases y : k < ooI O (p 1 r)
  · rw [if_pos y, if_pos (by omega)]
  · rw [if_neg y, if_neg (by omega)]
end CMe
