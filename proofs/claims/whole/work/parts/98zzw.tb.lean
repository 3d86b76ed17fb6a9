/-! the reference's checks: all names -/
section RK5
variable {F : Nat → Int} {n N : Nat} {P : Nat → Nat} {s0 t0 t t' t'' : iS} {a b i j u : Nat} {K : List Nat} {U : List urec} {W : List wrec} {Y : List Nat} {ow y : Int} {L : List Nat}
/-- what the checks leave alone -/
def FR (t t' : iS) : Prop := ∀ c k, ¬ (c = 121 ∧ (k = 69 ∨ k = 70 ∨ k = 72)) → c ≠ 169 → c ≠ 145 → ¬ (152 ≤ c ∧ c ≤ 155) → t' c k = t c k
def FN (t t' : iS) : Prop := ∀ c k, ¬ (c = 121 ∧ (k = 69 ∨ k = 70)) → t' c k = t c k
theorem FN_refl : FN t t := fun _ _ _ => rfl
theorem FN_trans (h : FN t t') (h' : FN t' t'') : FN t t'' := fun c k q => (h' c k q).trans (h c k q)
theorem FN_FR (h : FN t t') : FR t t' := fun c k q _ _ _ => h c k (by omega)
theorem FR_trans (h : FR t t') (h' : FR t' t'') : FR t t'' := fun c k q1 q2 q3 q4 => (h' c k q1 q2 q3 q4).trans (h c k q1 q2 q3 q4)
theorem RG_fr (h : RG F n N P s0 t0 K U W Y t) (hf : FR t t') : RG F n N P s0 t0 K U W Y t' := by
  have e : ∀ c k, c ≠ 121 → c ≠ 169 → c ≠ 145 → ¬ (152 ≤ c ∧ c ≤ 155) → t' c k = t c k := fun c k q1 q2 q3 q4 => hf c k (by omega) q2 q3 q4
  have e1 : ∀ k, k ≠ 69 → k ≠ 70 → k ≠ 72 → t' 121 k = t 121 k := fun k q1 q2 q3 => hf 121 k (by omega) (by omega) (by omega) (by omega)
  obtain ⟨⟨h1, h2, h3, h4⟩, ⟨x1, x2, x3, x4, x5, x6, x7, x8, x9, x10, x11, x12, x13⟩, h6⟩ := h
  refine ⟨⟨h1, h2, ?_, ?_⟩, ⟨?_, fun i hi => ?_, x3, ?_, fun i hi => ?_, x6, ?_, fun i hi => ?_, x9, ?_, fun q => ?_, fun c hc => ?_, fun u hu => ?_⟩, h6⟩
  · obtain ⟨a1, a2, a3, a4, a5, a6⟩ := h3
    refine ⟨?_, ?_, ?_, ?_, ?_, by rw [e1 3 (by omega) (by omega) (by omega)]; exact a6⟩
    · rw [← a1]; exact funext fun k => e 123 k (by omega) (by omega) (by omega) (by omega)
    · rw [← a2]; exact funext fun k => e 124 k (by omega) (by omega) (by omega) (by omega)
    · rw [← a3]; exact funext fun k => e 125 k (by omega) (by omega) (by omega) (by omega)
    · rw [← a4]; exact funext fun k => e 126 k (by omega) (by omega) (by omega) (by omega)
    · rw [← a5]; exact funext fun k => e 127 k (by omega) (by omega) (by omega) (by omega)
  · obtain ⟨b1, b2, b3⟩ := h4
    refine ⟨fun i hi => ?_, ?_, fun i hi => ?_⟩
    · rw [e 165 i (by omega) (by omega) (by omega) (by omega), e 164 i (by omega) (by omega) (by omega) (by omega)]; exact b1 i hi
    · rw [e 164 8 (by omega) (by omega) (by omega) (by omega)]; exact b2
    · rw [e 166 i (by omega) (by omega) (by omega) (by omega), e 167 i (by omega) (by omega) (by omega) (by omega), e 168 i (by omega) (by omega) (by omega) (by omega)]; exact b3 i hi
  · rw [e1 14 (by omega) (by omega) (by omega)]; exact x1
  · rw [e 128 i (by omega) (by omega) (by omega) (by omega)]; exact x2 i hi
  · rw [e1 17 (by omega) (by omega) (by omega)]; exact x4
  · rw [e 130 i (by omega) (by omega) (by omega) (by omega), e 131 i (by omega) (by omega) (by omega) (by omega), e 132 i (by omega) (by omega) (by omega) (by omega), e 133 i (by omega) (by omega) (by omega) (by omega)]; exact x5 i hi
  · rw [e1 25 (by omega) (by omega) (by omega)]; exact x7
  · rw [e 137 i (by omega) (by omega) (by omega) (by omega), e 138 i (by omega) (by omega) (by omega) (by omega), e 139 i (by omega) (by omega) (by omega) (by omega), e 140 i (by omega) (by omega) (by omega) (by omega), e 141 i (by omega) (by omega) (by omega) (by omega), e 142 i (by omega) (by omega) (by omega) (by omega), e 143 i (by omega) (by omega) (by omega) (by omega)]; exact x8 i hi
  · rw [e1 16 (by omega) (by omega) (by omega)]; exact x10
  · rw [e1 60 (by omega) (by omega) (by omega)]; exact x11 q
  · rw [e 129 c (by omega) (by omega) (by omega) (by omega)]; exact x12 c hc
  · rw [e 134 u (by omega) (by omega) (by omega) (by omega), e 135 u (by omega) (by omega) (by omega) (by omega)]; exact x13 u hu
theorem RBc_fr (h : RBc P N L t) (hf : ∀ k, k = 69 ∨ k = 70 → t' 121 k = t 121 k) : RBc P N L t' := by
  unfold RBc at h ⊢
  rw [hf 69 (by omega), hf 70 (by omega)]
  exact h
def gT (F : Nat → Int) (P : Nat → Nat) (s0 t0 : iS) (K : List Nat) (y : Int) : List Nat := if y = -1 then [] else if s0 9 y.toNat = 3 then gY F P t0 K y.toNat else []
theorem chkT_ok (h : RG F n N P s0 t0 K U W Y t) (hb : RBc P N L t) (hy : y = -1 ∨ ∃ j : Nat, y = (j : Int) ∧ j < N) : ∃ t', m_checkType y t = some (0, t') ∧ RBc P N (L ++ gT F P s0 t0 K y) t' ∧ FN t t' ∧ RG F n N P s0 t0 K U W Y t' := by
  have hN := N1001 h.1.1
  unfold m_checkType gT
  rcases hy with c | ⟨j, c, hj⟩
  · rw [gr (by omega), if_pos c, if_pos c, List.append_nil]
    exact ⟨t, rfl, hb, FN_refl, h⟩
  · subst c
    have k := tkK h.1.1 hj
    rw [gr (by omega), if_neg (show ¬ ((j : Int) = -1) by omega), gd_pos (by omega), Int.toNat_natCast, h.1.2.2.1.2.1, gr (by omega), if_neg (show ¬ ((j : Int) = -1) by omega)]
    by_cases c : s0 9 j = 3
    · rw [if_pos (by omega), if_pos c, cls_ok h ⟨hj, c⟩, bq]
      have r := fst1_rg (P := fun i => (sysCN ++ K.map (nmT F P t0)).getD i [] = nmT F P t0 j) (8 + K.length) 0
      change fcK F P t0 K j = -1 ∨ _ ≤ fcK F P t0 K j ∧ fcK F P t0 K j < _ ∧ _ at r
      have hK := h.2.1.2.2.1
      rw [gr (by omega)]
      unfold gY
      by_cases c2 : fcK F P t0 K j = -1
      · rw [if_pos c2, if_pos c2]
        obtain ⟨t', e1, e2, e3⟩ := note_ok (f := 4) h.1 hb (by omega) hj
        refine ⟨t', ?_, e2, e3, RG_fr h (FN_FR e3)⟩
        rw [show m_note 4 (j : Int) t = _ from e1, bq]
      · rw [if_neg c2, if_neg c2, List.append_nil]
        exact ⟨t, rfl, hb, FN_refl, h⟩
    · rw [if_neg (by omega), if_neg c, List.append_nil]
      exact ⟨t, rfl, hb, FN_refl, h⟩
theorem fst1_self {Q : Nat → Prop} [DecidablePred Q] {a i k : Nat} (h : Q (a + i)) : fst1 Q a (i + (k + 1)) = ((a + i : Nat) : Int) ↔ fst1 Q a i = -1 := by
  rw [fst1_split]
  have r := fst1_rg (P := Q) i a
  by_cases c : fst1 Q a i = -1
  · rw [if_pos c, fst1_y h]
    exact ⟨fun _ => c, fun _ => rfl⟩
  · rw [if_neg c]
    omega
/-- a loop over numbers, with an invariant -/
theorem lpN {f : Int → iS → Option ((Int × iS) ⊕ iS)} {M : Nat} {I : Nat → iS → Prop} (h1 : ∀ i t, i < M → I i t → ∃ t', f (i : Int) t = some (.inl ((i : Int) + 1, t')) ∧ I (i + 1) t') (h2 : ∀ t, I M t → f (M : Int) t = some (.inr t)) : ∀ (k i : Nat) (t : iS), i + k = M → I i t → ∃ t', lp (L := Int × iS) (E := iS) (fun l => f (l.1) (l.2)) ((i : Int), t) = some t' ∧ I M t'
  | 0, i, t, e, h => by
    have : i = M := by omega
    subst this
    exact ⟨t, lp_end (f := fun l : Int × iS => f (l.1) (l.2)) (h2 t h), h⟩
  | k + 1, i, t, e, h => by
    obtain ⟨t', q1, q2⟩ := h1 i t (by omega) h
    obtain ⟨t'', r1, r2⟩ := lpN h1 h2 k (i + 1) t' (by omega) q2
    refine ⟨t'', ?_, r2⟩
    rw [lp_next (f := fun l : Int × iS => f (l.1) (l.2)) (l := ((i : Int), t)) q1]
    exact r1
theorem rg_s (g : Nat → List Nat) : (List.range (i + 1)).flatMap g = (List.range i).flatMap g ++ g i := by
  rw [List.range_succ, List.flatMap_append, List.flatMap_singleton]
/-- classes -/
theorem cn32 (h : RG F n N P s0 t0 K U W Y t) (hi : i < K.length) : ∀ (k x : Nat) (v2 : Int), x + k = i → (v2 = 0 ∨ v2 = 1) → m_checkNames_32 (i : Int) v2 (x : Int) t = m_checkNames_72 (i : Int) (if v2 = 0 ∧ fst1 (fun x => nmT F P t0 (K.getD x 0) = nmT F P t0 (K.getD i 0)) x k = -1 then 0 else 1) t
  | 0, x, v2, hx, hv => by
    have hK := h.2.1.2.2.1
    have st : m_checkNames_32b (i : Int) v2 (x : Int) t = some (.inr (v2, t)) := by
      unfold m_checkNames_32b
      rw [gr (by omega), gr (by omega), if_pos (by omega)]
    unfold m_checkNames_32
    rw [lp_end (f := fun l : Int × Int × iS => m_checkNames_32b (i : Int) (l.1) (l.2.1) (l.2.2)) (l := (v2, (x : Int), t)) st]
    rcases hv with c | c <;> subst c
    · rw [if_pos ⟨rfl, rfl⟩]; rfl
    · rw [if_neg (fun e => by have := e.1; omega)]; rfl
  | k + 1, x, v2, hx, hv => by
    have hK := h.2.1.2.2.1
    obtain ⟨k1, k2, k3⟩ := RG_K h (i := x) (by omega)
    obtain ⟨k4, k5, k6⟩ := RG_K h hi
    have st : m_checkNames_32b (i : Int) v2 (x : Int) t = some (.inl (if v2 = 0 ∧ ¬ (nmT F P t0 (K.getD x 0) = nmT F P t0 (K.getD i 0)) then 0 else 1, ((x + 1 : Nat) : Int), t)) := by
      unfold m_checkNames_32b
      rw [gr (by omega), gr (by omega), if_neg (by omega), gr (by omega)]
      rcases hv with c | c
      · subst c
        rw [if_pos rfl, gd_pos (by omega), gd_pos (by omega), Int.toNat_natCast, Int.toNat_natCast, k1, k4, like_ok h.1 ⟨k2, k3⟩ ⟨k5, k6⟩, bq]
        by_cases d : nmT F P t0 (K.getD x 0) = nmT F P t0 (K.getD i 0)
        · rw [if_pos d, gr (by omega), if_neg (by omega), if_neg (fun e => e.2 d)]
          rfl
        · rw [if_neg d, gr (by omega), if_pos rfl, if_pos ⟨rfl, d⟩]
          rfl
      · subst c
        rw [if_neg (by omega), if_neg (fun e => by have := e.1; omega)]
        rfl
    have nx : m_checkNames_32 (i : Int) v2 (x : Int) t = m_checkNames_32 (i : Int) (if v2 = 0 ∧ ¬ (nmT F P t0 (K.getD x 0) = nmT F P t0 (K.getD i 0)) then 0 else 1) ((x + 1 : Nat) : Int) t := by
      unfold m_checkNames_32
      rw [lp_next (f := fun l : Int × Int × iS => m_checkNames_32b (i : Int) (l.1) (l.2.1) (l.2.2)) (l := (v2, (x : Int), t)) st]
    rw [nx, cn32 h hi k (x + 1) _ (by omega) (by split <;> omega)]
    by_cases d : nmT F P t0 (K.getD x 0) = nmT F P t0 (K.getD i 0)
    · rw [if_neg (show ¬ (v2 = 0 ∧ ¬ nmT F P t0 (K.getD x 0) = nmT F P t0 (K.getD i 0)) from fun e => e.2 d), if_neg (fun e => by have := e.1; omega), fst1_y (Q := fun x => nmT F P t0 (K.getD x 0) = nmT F P t0 (K.getD i 0)) d, if_neg (fun e => by have := e.2; omega)]
    · rw [fst1_n (Q := fun x => nmT F P t0 (K.getD x 0) = nmT F P t0 (K.getD i 0)) d]
      rcases hv with c | c
      · rw [if_pos (show v2 = 0 ∧ ¬ nmT F P t0 (K.getD x 0) = nmT F P t0 (K.getD i 0) from ⟨c, d⟩), c]
      · rw [if_neg (show ¬ (v2 = 0 ∧ ¬ nmT F P t0 (K.getD x 0) = nmT F P t0 (K.getD i 0)) from fun e => by have := e.1; omega), if_neg (fun e => by have := e.1; omega), if_neg (fun e => by have := e.1; omega)]
theorem sc_u {x : Nat} (hi : x < K.length) : (sysCN ++ K.map (nmT F P t0)).getD (8 + x) [] = nmT F P t0 (K.getD x 0) := by
  rw [show 8 + x = sysCN.length + x from rfl, List.getD_eq_getElem?_getD, List.getElem?_append_right (by omega), show sysCN.length + x - sysCN.length = x by omega, List.getElem?_map, List.getD_eq_getElem?_getD, List.getElem?_eq_getElem hi]
  rfl
theorem gK_eq (hi : i < K.length) : gK F P t0 K K i = if fst1 (fun x => sysCN.getD x [] = nmT F P t0 (K.getD i 0)) 0 8 = -1 ∧ fst1 (fun x => nmT F P t0 (K.getD x 0) = nmT F P t0 (K.getD i 0)) 0 i = -1 then [] else [16 * K.getD i 0 + 3] := by
  unfold gK fcK
  have e1 : fst1 (fun x => (sysCN ++ K.map (nmT F P t0)).getD x [] = nmT F P t0 (K.getD i 0)) 0 8 = fst1 (fun x => sysCN.getD x [] = nmT F P t0 (K.getD i 0)) 0 8 := fst1_cg 8 0 (fun x _ hx => by
    rw [gdL (show x < sysCN.length from by show x < 8; omega)])
  have e2 : fst1 (fun x => (sysCN ++ K.map (nmT F P t0)).getD x [] = nmT F P t0 (K.getD i 0)) 8 i = -1 ↔ fst1 (fun x => nmT F P t0 (K.getD x 0) = nmT F P t0 (K.getD i 0)) 0 i = -1 := by
    rw [fst1_no, fst1_no]
    refine ⟨fun z x h1 h2 hq => z (8 + x) (by omega) (by omega) (by rw [sc_u (by omega)]; exact hq), fun z x h1 h2 hq => z (x - 8) (by omega) (by omega) (by
      rw [show x = 8 + (x - 8) by omega, sc_u (by omega)] at hq
      exact hq)⟩
  have s := fst1_self (Q := fun x => (sysCN ++ K.map (nmT F P t0)).getD x [] = nmT F P t0 (K.getD i 0)) (a := 0) (i := 8 + i) (k := K.length - i - 1) (by
    show (sysCN ++ K.map (nmT F P t0)).getD (0 + (8 + i)) [] = _
    rw [Nat.zero_add, sc_u hi])
  rw [show 8 + i + (K.length - i - 1 + 1) = 8 + K.length by omega] at s
  have s' : (fst1 (fun x => (sysCN ++ K.map (nmT F P t0)).getD x [] = nmT F P t0 (K.getD i 0)) 0 (8 + K.length) = 8 + (i : Int)) ↔ (fst1 (fun x => sysCN.getD x [] = nmT F P t0 (K.getD i 0)) 0 8 = -1 ∧ fst1 (fun x => nmT F P t0 (K.getD x 0) = nmT F P t0 (K.getD i 0)) 0 i = -1) := by
    rw [show (8 : Int) + (i : Int) = ((0 + (8 + i) : Nat) : Int) by omega, s, fst1_split, show 0 + 8 = 8 from rfl, e1]
    by_cases c : fst1 (fun x => sysCN.getD x [] = nmT F P t0 (K.getD i 0)) 0 8 = -1
    · rw [if_pos c, e2]
      exact ⟨fun z => ⟨c, z⟩, fun z => z.2⟩
    · rw [if_neg c]
      exact ⟨fun z => absurd z c, fun z => absurd z.1 c⟩
  by_cases c : fst1 (fun x => sysCN.getD x [] = nmT F P t0 (K.getD i 0)) 0 8 = -1 ∧ fst1 (fun x => nmT F P t0 (K.getD x 0) = nmT F P t0 (K.getD i 0)) 0 i = -1
  · rw [if_pos c, if_pos (s'.mpr c)]
  · rw [if_neg c, if_neg (fun z => c (s'.mp z))]
theorem cn_K (h : RG F n N P s0 t0 K U W Y t) (hb : RBc P N L t) : ∃ t', lp (L := Int × iS) (E := iS) (fun l => m_checkNames_2b (l.1) (l.2)) (0, t) = some t' ∧ RBc P N (L ++ rgM (gK F P t0 K) K) t' ∧ FN t t' ∧ RG F n N P s0 t0 K U W Y t' := by
  have hK := h.2.1.2.2.1
  have B := lpN (f := m_checkNames_2b) (M := K.length) (I := fun i t' => RBc P N (L ++ (List.range i).flatMap (gK F P t0 K K)) t' ∧ FN t t') (fun i t1 hi ⟨q1, q2⟩ => by
    have g := RG_fr h (FN_FR q2)
    obtain ⟨k1, k2, k3⟩ := RG_K g hi
    unfold m_checkNames_2b
    have r := fst1_rg (P := fun x => sysCN.getD x [] = nmT F P t0 (K.getD i 0)) 8 0
    rw [gr (by omega), g.2.1.1, gr (by omega), if_neg (by omega), gd_pos (by omega), Int.toNat_natCast, k1, sysc_ok g.1 ⟨k2, k3⟩, bq, gr (by omega)]
    unfold m_checkNames_29
    have c0 := cn32 g hi i 0 0 (by omega) (Or.inl rfl)
    have c1 := cn32 g hi i 0 1 (by omega) (Or.inr rfl)
    rw [show m_checkNames_32 (i : Int) 0 0 t1 = _ from c0, show m_checkNames_32 (i : Int) 1 0 t1 = _ from c1, rg_s, gK_eq hi, ← List.append_assoc]
    have n0 : m_checkNames_72 (i : Int) 0 t1 = some (.inl ((i : Int) + 1, t1)) := by
      unfold m_checkNames_72
      rw [gr (by omega), if_pos rfl]
    obtain ⟨t2, e1, e2, e3⟩ := note_ok (f := 3) g.1 q1 (by omega) k2
    have n1 : m_checkNames_72 (i : Int) 1 t1 = some (.inl ((i : Int) + 1, t2)) := by
      unfold m_checkNames_72
      rw [gr (by omega), if_neg (by omega), gd_pos (by omega), Int.toNat_natCast, k1, show m_note 3 _ t1 = _ from e1, bq]
    by_cases c : fst1 (fun x => sysCN.getD x [] = nmT F P t0 (K.getD i 0)) 0 8 = -1
    · rw [if_pos c]
      by_cases d : fst1 (fun x => nmT F P t0 (K.getD x 0) = nmT F P t0 (K.getD i 0)) 0 i = -1
      · rw [if_pos ⟨rfl, d⟩, if_pos ⟨c, d⟩, n0, List.append_nil]
        exact ⟨t1, rfl, q1, q2⟩
      · rw [if_neg (fun z => d z.2), if_neg (fun z => d z.2), n1]
        exact ⟨t2, rfl, e2, FN_trans q2 e3⟩
    · rw [if_neg c, if_neg (fun z => by have := z.1; omega), if_neg (fun z => c z.1), n1]
      exact ⟨t2, rfl, e2, FN_trans q2 e3⟩) (fun t1 ⟨q1, q2⟩ => by
    have g := RG_fr h (FN_FR q2)
    unfold m_checkNames_2b
    rw [gr (by omega), g.2.1.1, gr (by omega), if_pos (by omega)]) K.length 0 t (by omega) ⟨by rw [List.range_zero, List.flatMap_nil, List.append_nil]; exact hb, FN_refl⟩
  obtain ⟨t', b1, b2, b3⟩ := B
  exact ⟨t', b1, b2, b3, RG_fr h (FN_FR b3)⟩
end RK5
