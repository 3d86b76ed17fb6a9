/-! the reference's checks: a call, all calls, main -/
section RKa
variable {F : Nat → Int} {n N : Nat} {P : Nat → Nat} {s0 t0 t t2 t' t'' : iS} {a b i j u q k c l : Nat} {K : List Nat} {U : List urec} {W : List wrec} {Y : List Nat} {ow y v f o m : Int} {L : List Nat}
/-- a call as the checks want it -/
def COK (s0 : iS) (N : Nat) (U : List urec) (t2 : iS) (c : Nat) : Prop := (0 ≤ t2 156 c ∧ t2 156 c < (U.length : Int)) ∧ (t2 149 c = -1 ∨ (0 ≤ t2 149 c ∧ t2 149 c < (N : Int) ∧ s0 9 (t2 149 c).toNat = 3)) ∧ (0 ≤ t2 150 c ∧ t2 150 c < (N : Int) ∧ s0 9 (t2 150 c).toNat = 3) ∧ (-1000 ≤ t2 151 c ∧ t2 151 c ≤ 2000)
/-- what is noted of a call -/
def ntR (F : Nat → Int) (P : Nat → Nat) (s0 t0 : iS) (K : List Nat) (U : List urec) (W : List wrec) (q : Nat) (f : Int) (l : Nat) (m : Int) : List Nat :=
  (if f = -1 then [] else vNt U W q (rvI F P t0 U W q f.toNat) f.toNat) ++ (if owR F P s0 t0 K U W q f = -1 then (if rvI F P t0 U W q f.toNat = -1 then [16 * f.toNat + 4] else [16 * l + 4]) else nt173 F P t0 U W q (obR F P t0 U W q f) (owR F P s0 t0 K U W q f) l m)
def gC (F : Nat → Int) (P : Nat → Nat) (s0 t0 : iS) (K : List Nat) (U : List urec) (W : List wrec) (t2 : iS) (c : Nat) : List Nat := ntR F P s0 t0 K U W (t2 156 c).toNat (t2 149 c) (t2 150 c).toNat (t2 151 c)
/-- the rows of a call behind its check -/
def CR (F : Nat → Int) (P : Nat → Nat) (s0 t0 : iS) (K : List Nat) (U : List urec) (W : List wrec) (q : Nat) (f : Int) (l : Nat) (c : Nat) (t' : iS) : Prop := t' 152 c = obR F P t0 U W q f ∧ (f ≠ -1 → t' 153 c = rvI F P t0 U W q f.toNat) ∧ (owR F P s0 t0 K U W q f ≠ -1 → t' 154 c = owR F P s0 t0 K U W q f ∧ t' 155 c = sbR F P t0 U (owR F P s0 t0 K U W q f) l)
theorem fcK_rg : fcK F P t0 K j = -1 ∨ (0 ≤ fcK F P t0 K j ∧ fcK F P t0 K j < 8 + (K.length : Int)) := by
  have r := fst1_rg (P := fun i => (sysCN ++ K.map (nmT F P t0)).getD i [] = nmT F P t0 j) (8 + K.length) 0
  change fcK F P t0 K j = -1 ∨ _ ≤ fcK F P t0 K j ∧ fcK F P t0 K j < _ ∧ _ at r
  omega
theorem owR_rg (h : RG F n N P s0 t0 K U W Y t) (hq : q < U.length) : owR F P s0 t0 K U W q f = -1 ∨ (0 ≤ owR F P s0 t0 K U W q f ∧ owR F P s0 t0 K U W q f < 8 + (K.length : Int)) := by
  have u := h.2.2.2.2.1 (uAt U q) (gd_mem hq)
  unfold owR tyT
  have r1 := fcK_rg (F := F) (P := P) (t0 := t0) (K := K) (j := f.toNat)
  have r2 := fcK_rg (F := F) (P := P) (t0 := t0) (K := K) (j := (wGt W (rvI F P t0 U W q f.toNat).toNat).2.2.2.1.toNat)
  split
  · omega
  · split
    · exact r1
    · split
      · exact r2
      · exact Or.inl rfl
theorem cc143 (h : RG F n N P s0 t0 K U W Y t) (hb : RBc P N L t) (hc : c < 1000) (hq : q < U.length) (hl : l < N ∧ s0 9 l = 3) (ho : t 152 c = o) (ho2 : 0 ≤ o ∧ o ≤ 2) (hm : t 151 c = m) (hm2 : -1000 ≤ m ∧ m ≤ 2000) (hf : t 149 c = (j : Int)) (hj : j < N) (hv : v = -1 ∨ (0 ≤ v ∧ v < (W.length : Int))) (hw : ow = -1 ∨ (0 ≤ ow ∧ ow < 100)) : ∃ t', m_checkCall_143 (c : Int) (q : Int) (l : Int) v ow t = some (0, t') ∧ RBc P N (L ++ (if ow = -1 then (if v = -1 then [16 * j + 4] else [16 * l + 4]) else nt173 F P t0 U W q o ow l m)) t' ∧ FC c t t' ∧ t' 152 c = o ∧ t' 153 c = t 153 c ∧ (ow ≠ -1 → t' 154 c = ow ∧ t' 155 c = sbR F P t0 U ow l) := by
  have hW := h.2.2.2.1
  unfold m_checkCall_143
  rw [gr (by omega)]
  have nt : ∀ x : Nat, x < N → ∃ t', m_checkCall_169 (x : Int) 4 t = some (0, t') ∧ RBc P N (L ++ [16 * x + 4]) t' ∧ FC c t t' ∧ t' 152 c = o ∧ t' 153 c = t 153 c := fun x hx => by
    obtain ⟨t', e1, e2, e3⟩ := note_ok (f := 4) h.1 hb (by omega) hx
    refine ⟨t', ?_, e2, FN_FC e3, by rw [e3 152 c (by omega)]; exact ho, e3 153 c (by omega)⟩
    unfold m_checkCall_169
    rw [show m_note 4 (x : Int) t = _ from e1, bq]
  by_cases c1 : ow = -1
  · rw [if_pos c1, if_pos c1, gr (by omega)]
    by_cases c2 : v = -1
    · rw [if_pos c2, if_pos c2, gd_pos (by omega), Int.toNat_natCast, hf]
      obtain ⟨t', e1, e2, e3, e4, e5⟩ := nt j hj
      exact ⟨t', e1, e2, e3, e4, e5, fun z => absurd c1 z⟩
    · rw [if_neg c2, if_neg c2]
      obtain ⟨t', e1, e2, e3, e4, e5⟩ := nt l hl.1
      exact ⟨t', e1, e2, e3, e4, e5, fun z => absurd c1 z⟩
  · rw [if_neg c1, if_neg c1]
    obtain ⟨t', e1, e2, e3, e4, e5, e6, e7⟩ := cc173 h hb hc hq hl ho ho2 (ow := ow) (by omega) hm hm2
    exact ⟨t', e1, e2, e3, e4, e5, fun _ => ⟨e6, e7⟩⟩
theorem cc71 (h : RG F n N P s0 t0 K U W Y t) (hb : RBc P N L t) (hc : c < 1000) (hq : q < U.length) (hl : l < N ∧ s0 9 l = 3) (hm : t 151 c = m) (hm2 : -1000 ≤ m ∧ m ≤ 2000) (hf : t 149 c = (j : Int)) (hj : j < N ∧ s0 9 j = 3) : ∃ t', m_checkCall_71 (c : Int) (q : Int) (l : Int) (rvI F P t0 U W q j) (obR F P t0 U W q (j : Int)) (c : Int) t = some (0, t') ∧ RBc P N (L ++ ntR F P s0 t0 K U W q (j : Int) l m) t' ∧ FC c t t' ∧ CR F P s0 t0 K U W q (j : Int) l c t' := by
  have hN := N1001 h.1.1
  have hW := h.2.2.2.1
  have hK := h.2.1.2.2.1
  have rr := rvI_rg (F := F) (P := P) (t0 := t0) (U := U) (W := W) (u := q) (j := j)
  have jn : ¬ ((j : Int) = -1) := by omega
  have ob : 0 ≤ obR F P t0 U W q (j : Int) ∧ obR F P t0 U W q (j : Int) ≤ 2 := by
    unfold obR
    split
    · omega
    · split <;> omega
  unfold m_checkCall_71
  rw [gd_pos (by omega), lt_eq, gd_pos (by omega), lt_eq, Int.toNat_natCast]
  have f1 : FC c t (up (up t 152 c (obR F P t0 U W q (j : Int))) 153 c (rvI F P t0 U W q j)) := FC_trans (FC_up (by omega)) (FC_up (by omega))
  have b1 : RBc P N L (up (up t 152 c (obR F P t0 U W q (j : Int))) 153 c (rvI F P t0 U W q j)) := RBc_fr hb (fun k _ => by rw [up_ne (by omega), up_ne (by omega)])
  have e52 : up (up t 152 c (obR F P t0 U W q (j : Int))) 153 c (rvI F P t0 U W q j) 152 c = obR F P t0 U W q (j : Int) := by rw [up_ne (by omega), up_same]
  have e53 : up (up t 152 c (obR F P t0 U W q (j : Int))) 153 c (rvI F P t0 U W q j) 153 c = rvI F P t0 U W q j := up_same _ _ _ _
  generalize up (up t 152 c (obR F P t0 U W q (j : Int))) 153 c (rvI F P t0 U W q j) = t1 at f1 b1 e52 e53 ⊢
  have g1 := RG_fr h (FC_FR f1)
  have e49 : t1 149 c = (j : Int) := (f1 149 c (by omega) (by omega)).trans hf
  obtain ⟨t5, d1, d2, d3, d4⟩ := cv_ok (j := j) g1 b1 hq rr (fun _ => hj.1)
  rw [e49, d1, bq, gr (by omega)]
  have h49 : t5 149 c = (j : Int) := (d3 149 c (by omega)).trans e49
  have fin : ∀ w : Int, w = owR F P s0 t0 K U W q (j : Int) → ∃ t', m_checkCall_143 (c : Int) (q : Int) (l : Int) (rvI F P t0 U W q j) w t5 = some (0, t') ∧ RBc P N (L ++ ntR F P s0 t0 K U W q (j : Int) l m) t' ∧ FC c t t' ∧ CR F P s0 t0 K U W q (j : Int) l c t' := fun w ew => by
    have ro := owR_rg (f := (j : Int)) h hq
    obtain ⟨t', a1, a2, a3, a4, a5, a6⟩ := cc143 (ow := w) (v := rvI F P t0 U W q j) (o := obR F P t0 U W q (j : Int)) (m := m) d4 d2 hc hq hl ((d3 152 c (by omega)).trans e52) ob (by rw [d3 151 c (by omega), f1 151 c (by omega) (by omega)]; exact hm) hm2 h49 hj.1 rr (by omega)
    rw [ew] at a2 a6
    refine ⟨t', a1, ?_, FC_trans f1 (FC_trans (FN_FC d3) a3), a4, fun _ => ?_, a6⟩
    · unfold ntR
      rw [if_neg jn, Int.toNat_natCast, ← List.append_assoc]
      exact a2
    · rw [a5, d3 153 c (by omega), e53, Int.toNat_natCast]
  by_cases c1 : rvI F P t0 U W q j = -1
  · rw [if_pos c1, h49, cls_ok d4 hj, bq]
    refine fin _ ?_
    unfold owR
    rw [if_neg jn, Int.toNat_natCast, if_pos c1]
  · obtain ⟨x, ex⟩ : ∃ x : Nat, rvI F P t0 U W q j = (x : Int) := ⟨(rvI F P t0 U W q j).toNat, by omega⟩
    have hx : x < W.length := by omega
    have w4 := (RG_W d4 hx).1.2.2.2.1
    obtain ⟨⟨y, y1, y2, y3⟩, _⟩ := d4.2.2.1.2.1 _ (gd_mem (d := ((0, 0, 0, 0, 0, 0, 0) : wrec)) hx)
    have k := tkK h.1.1 y2
    have eo : owR F P s0 t0 K U W q (j : Int) = if s0 9 y = 3 then fcK F P t0 K y else -1 := by
      unfold owR tyT wGt
      rw [if_neg jn, Int.toNat_natCast, if_neg c1, ex, Int.toNat_natCast, y1, Int.toNat_natCast]
    rw [if_neg c1, gd_pos (by omega), show (rvI F P t0 U W q j).toNat = x by omega, w4, y1, gd_pos (by omega), Int.toNat_natCast, d4.1.2.2.1.2.1, gr (by omega)]
    by_cases c2 : s0 9 y = 3
    · rw [if_pos (by omega), cls_ok d4 ⟨y2, c2⟩, bq]
      exact fin _ (by rw [eo, if_pos c2])
    · rw [if_neg (by omega)]
      exact fin _ (by rw [eo, if_neg c2])
theorem rcall_ok (h : RG F n N P s0 t0 K U W Y t) (hb : RBc P N L t) (hc : c < 1000) (hk : COK s0 N U t c) : ∃ t', m_checkCall (c : Int) t = some (0, t') ∧ RBc P N (L ++ gC F P s0 t0 K U W t c) t' ∧ FC c t t' ∧ CR F P s0 t0 K U W (t 156 c).toNat (t 149 c) (t 150 c).toNat c t' := by
  have hN := N1001 h.1.1
  have hW := h.2.2.2.1
  have hK := h.2.1.2.2.1
  have hU := h.2.1.2.2.2.2.2.1
  obtain ⟨⟨k1, k1'⟩, k2, ⟨k3, k3', k3''⟩, k4⟩ := hk
  obtain ⟨q, eq⟩ : ∃ q : Nat, t 156 c = (q : Int) := ⟨(t 156 c).toNat, by omega⟩
  obtain ⟨l, el⟩ : ∃ l : Nat, t 150 c = (l : Int) := ⟨(t 150 c).toNat, by omega⟩
  have hq : q < U.length := by omega
  rw [el, Int.toNat_natCast] at k3''
  have hl : l < N ∧ s0 9 l = 3 := ⟨by omega, k3''⟩
  obtain ⟨u1, u2, u3, u4, u5, u6, u7, u8, u9, u10, u11⟩ := RG_U h hq
  unfold m_checkCall gC
  rw [gd_pos (by omega), Int.toNat_natCast, eq, gd_pos (by omega), lt_eq, el, Int.toNat_natCast, Int.toNat_natCast, up_ne (by omega)]
  have f1 : FC c t (up t 152 c 2) := FC_up (by omega)
  have b1 : RBc P N L (up t 152 c 2) := RBc_fr hb (fun k _ => by rw [up_ne (by omega)])
  have e52 : up t 152 c 2 152 c = 2 := up_same _ _ _ _
  generalize up t 152 c 2 = t1 at f1 b1 e52 ⊢
  have g1 := RG_fr h (FC_FR f1)
  rcases k2 with z | ⟨z1, z2, z3⟩
  · rw [z, gr (by omega), if_pos rfl, u1]
    have eo : owR F P s0 t0 K U W q (-1) = 8 + (U.getD q (0, 0, 0, 0)).1 := by unfold owR uAt; rw [if_pos rfl]
    have eb : obR F P t0 U W q (-1) = 2 := by unfold obR; rw [if_pos rfl]
    obtain ⟨t', a1, a2, a3, a4, a5, a6, a7⟩ := cc173 (ow := 8 + (U.getD q (0, 0, 0, 0)).1) (o := 2) (m := t 151 c) g1 b1 hc hq hl e52 (by omega) (by omega) (f1 151 c (by omega) (by omega)) k4
    refine ⟨t', a1, ?_, FC_trans f1 a3, by rw [eb]; exact a4, fun z => absurd rfl z, fun _ => by rw [eo]; exact ⟨a6, a7⟩⟩
    unfold ntR
    rw [if_pos rfl, List.nil_append, eo, eb, if_neg (by omega)]
    exact a2
  · obtain ⟨j, ej⟩ : ∃ j : Nat, t 149 c = (j : Int) := ⟨(t 149 c).toNat, by omega⟩
    rw [ej, Int.toNat_natCast] at z3
    have hj : j < N ∧ s0 9 j = 3 := ⟨by omega, z3⟩
    have rr := rvI_rg (F := F) (P := P) (t0 := t0) (U := U) (W := W) (u := q) (j := j)
    obtain ⟨t', a1, a2, a3, a4⟩ := cc71 (m := t 151 c) g1 b1 hc hq hl (f1 151 c (by omega) (by omega)) k4 ((f1 149 c (by omega) (by omega)).trans ej) hj
    rw [ej, gr (by omega), if_neg (by omega), var_ok g1 hj hq, bq, gr (by omega)]
    refine ⟨t', ?_, a2, FC_trans f1 a3, a4⟩
    have eb : obR F P t0 U W q (j : Int) = if rvI F P t0 U W q j = -1 then 0 else 1 := by unfold obR; rw [if_neg (by omega), Int.toNat_natCast]
    rw [eb] at a1
    by_cases c1 : rvI F P t0 U W q j = -1
    · rw [if_pos c1] at a1
      rw [if_pos c1]
      exact a1
    · rw [if_neg c1] at a1
      rw [if_neg c1]
      exact a1
theorem calls_ok {C : Nat} (h : RG F n N P s0 t0 K U W Y t) (hb : RBc P N L t) (hC : t 121 39 = (C : Int)) (hC2 : C ≤ 1000) (hk : ∀ c, c < C → COK s0 N U t c) : ∃ t', lp (L := Int × iS) (E := iS) (fun l => m_load_67b (l.1) (l.2)) (0, t) = some t' ∧ RBc P N (L ++ (List.range C).flatMap (gC F P s0 t0 K U W t)) t' ∧ (∀ x k, ¬ (x = 121 ∧ (k = 69 ∨ k = 70)) → ¬ (152 ≤ x ∧ x ≤ 155) → t' x k = t x k) ∧ RG F n N P s0 t0 K U W Y t' ∧ ∀ c, c < C → CR F P s0 t0 K U W (t 156 c).toNat (t 149 c) (t 150 c).toNat c t' := by
  have fr : ∀ t', (∀ x k, ¬ (x = 121 ∧ (k = 69 ∨ k = 70)) → ¬ (152 ≤ x ∧ x ≤ 155) → t' x k = t x k) → FR t t' := fun t' h x k a _ _ d => h x k (by omega) d
  have B := lpN (f := m_load_67b) (M := C) (I := fun i t' => RBc P N (L ++ (List.range i).flatMap (gC F P s0 t0 K U W t)) t' ∧ (∀ x k, ¬ (x = 121 ∧ (k = 69 ∨ k = 70)) → ¬ (152 ≤ x ∧ x ≤ 155) → t' x k = t x k) ∧ ∀ c, c < i → CR F P s0 t0 K U W (t 156 c).toNat (t 149 c) (t 150 c).toNat c t') (fun i t1 hi ⟨q1, q2, q3⟩ => by
    have g := RG_fr h (fr t1 q2)
    have r := fun x (hx : ¬ (152 ≤ x ∧ x ≤ 155) ∧ x ≠ 121) => q2 x i (by omega) hx.1
    have k' : COK s0 N U t1 i := by
      have := hk i hi
      unfold COK at this ⊢
      rw [r 156 (by omega), r 149 (by omega), r 150 (by omega), r 151 (by omega)]
      exact this
    obtain ⟨t2, e1, e2, e3, e4⟩ := rcall_ok g q1 (by omega) k'
    unfold gC at e2
    rw [r 156 (by omega), r 149 (by omega), r 150 (by omega), r 151 (by omega)] at e2
    rw [r 156 (by omega), r 149 (by omega), r 150 (by omega)] at e4
    unfold m_load_67b
    rw [gr (by omega), q2 121 39 (by omega) (by omega), hC, gr (by omega), if_neg (by omega), e1, bq, rg_s, ← List.append_assoc]
    refine ⟨t2, rfl, e2, fun x k a b => (e3 x k a (by omega)).trans (q2 x k a b), fun c hc => ?_⟩
    by_cases c1 : c = i
    · subst c1; exact e4
    · have f : ∀ x, 152 ≤ x → x ≤ 155 → t2 x c = t1 x c := fun x a b => e3 x c (by omega) (by omega)
      have := q3 c (by omega)
      unfold CR at this ⊢
      rw [f 152 (by omega) (by omega), f 153 (by omega) (by omega), f 154 (by omega) (by omega), f 155 (by omega) (by omega)]
      exact this) (fun t1 ⟨q1, q2, q3⟩ => by
    unfold m_load_67b
    rw [gr (by omega), q2 121 39 (by omega) (by omega), hC, gr (by omega), if_pos (by omega)]) C 0 t (by omega) ⟨by rw [List.range_zero, List.flatMap_nil, List.append_nil]; exact hb, fun _ _ _ _ => rfl, fun c hc => by omega⟩
  obtain ⟨t', b1, b2, b3, b4⟩ := B
  exact ⟨t', b1, b2, b3, RG_fr h (fr t' b3), b4⟩
end RKa
