/-! chips: links are checked by the reference -/
section CIo
variable (F : Nat → Int) (P : Nat → Nat) (s0 t0 : iS) (N : Nat) (C : List chR) (O : List Nat) (Q : List (Nat × Int)) (R L : List (Nat × Nat)) (E I : List Nat)
/-- has an inner name been linked from an OUT pin ahead of link l -/
def ilT : List tEn → Nat → List Int → Int
  | [], _, _ => 0
  | e :: T, l, nm => if nmT F P t0 e.1 = nm then (if e.2.1 < l then 1 else 0) else ilT T l nm
/-- the reference's notes of a right side -/
def yR (c l : Nat) (T : List tEn) (out w : Int) (mo : Nat → Int) : List Nat :=
  if s0 9 (lR L l) = 3 then
    if kR F P t0 C Q R L I c l = -1 then
      (if s0 9 (lR L l + 1) = 91 then [16 * (lR L l + 1) + 5] else []) ++ ((if out = 1 ∧ ilT F P t0 T l (nmT F P t0 (lR L l)) ≠ 0 then [16 * lR L l + 3] else []) ++ ((if out = 0 ∧ wOf F P t0 T (nmT F P t0 (lR L l)) = 0 then [16 * lR L l + 4] else []) ++ (if out = 0 ∧ 0 < wOf F P t0 T (nmT F P t0 (lR L l)) ∧ s0 9 (lR L l + 1) ≠ 91 ∧ w ≠ -1 ∧ wOf F P t0 T (nmT F P t0 (lR L l)) ≠ w then [16 * lR L l + 5] else [])))
    else if oR F P t0 C O Q R L I c l = out then
      if wR F P s0 t0 C Q R L I c l = -1 then [16 * (lR L l + 1) + 5]
      else (if w ≠ -1 ∧ wR F P s0 t0 C Q R L I c l ≠ w then [16 * lR L l + 5] else []) ++ (if out = 1 ∧ i_and (mo ((kR F P t0 C Q R L I c l).toNat - paI C Q R I (2 + c))) (mkB (loB s0 (lR L l)) (wR F P s0 t0 C Q R L I c l)) ≠ 0 then [16 * lR L l + 3] else [])
    else [16 * lR L l + 4]
  else if out = 1 then [16 * lR L l + 4] else []
def yK (c i l : Nat) (T : List tEn) (mi mo : Nat → Int) : List Nat := if kL F P t0 C Q R L I i l = -1 then [16 * lL L l + 4] else xL F P s0 t0 C O Q R L I i l mi ++ yR F P s0 t0 C O Q R L I c l T (oL F P t0 C O Q R L I i l) (wLl F P s0 t0 C Q R L I i l) mo
/-- the reference's row of inner names that are linked, behind link l (given: does that link give one) -/
def ILr (c : Nat) (T : List tEn) (l : Nat) (t : iS) : Prop := ∀ x, (hAt C Q R I c).2.2.2 ≤ x → x < (hAt C Q R I (c + 1)).2.2.2 → t 215 x = ilT F P t0 T l (nmT F P t0 (I.getD x 0))
/-- the bits that are linked, in the reference's rows -/
def MIr (i : Nat) (mi : Nat → Int) (t : iS) : Prop := ∀ k, paI C Q R I i ≤ k → k < paI C Q R I (i + 1) → t 217 (k - bsI i) = mi (k - paI C Q R I i)
def MOr (c : Nat) (mo : Nat → Int) (t : iS) : Prop := ∀ q, (hAt C Q R I c).2.1 ≤ q → q < (hAt C Q R I (c + 1)).2.1 → t 218 q = mo (q - (hAt C Q R I c).2.1)
end CIo
section CIp
variable {F : Nat → Int} {n N : Nat} {P : Nat → Nat} {s0 t0 s t s' t' : iS} {C : List chR} {O E I : List Nat} {Q : List (Nat × Int)} {R L : List (Nat × Nat)} {c b i j k q r l : Nat} {Z : List Nat} {T : List tEn} {out w : Int}
theorem ilT_rg {nm : List Int} : ∀ (T : List tEn), ilT F P t0 T l nm = 0 ∨ ilT F P t0 T l nm = 1
  | [] => Or.inl rfl
  | e :: T => by
    have x : ilT F P t0 (e :: T) l nm = if nmT F P t0 e.1 = nm then (if e.2.1 < l then 1 else 0) else ilT F P t0 T l nm := rfl
    rw [x]
    split
    · split
      · exact Or.inr rfl
      · exact Or.inl rfl
    · exact ilT_rg T
theorem nt_if {f : Nat} {p : Prop} [Decidable p] (h : TKR 1 F n N P s0 t0) (hn : n ≤ 4000) (hr : SR t0 t) (hb : RBc P N Z t) (hf : 1 ≤ f ∧ f ≤ 7) (hj : j < N) {α : Type} {G : iS → Option α} : ∃ t1, (if p then bd (m_note (f : Int) (j : Int) t) (fun _ s8 => G s8) else G t) = G t1 ∧ RBc P N (Z ++ (if p then [16 * j + f] else [])) t1 ∧ (∀ c k, ¬ (c = 121 ∧ (k = 69 ∨ k = 70)) → t1 c k = t c k) := by
  by_cases z : p
  · obtain ⟨s1, a1, a2, a3⟩ := note_c h hn hr hb hf hj
    exact ⟨s1, by rw [if_pos z, a1, bq], by rw [if_pos z]; exact a2, a3⟩
  · exact ⟨t, by rw [if_neg z], by rw [if_neg z, List.append_nil]; exact hb, fun _ _ _ => rfl⟩
theorem SR_n (h : SR t0 t) (hf : ∀ c k, ¬ (c = 121 ∧ (k = 69 ∨ k = 70)) → t' c k = t c k) : SR t0 t' := by
  obtain ⟨b1, b2, b3, b4, b5, b6⟩ := h
  have r' : ∀ c, c ≠ 121 → t' c = t c := fun c z => funext fun k => hf c k (by omega)
  exact ⟨by rw [r' 123 (by omega)]; exact b1, by rw [r' 124 (by omega)]; exact b2, by rw [r' 125 (by omega)]; exact b3, by rw [r' 126 (by omega)]; exact b4, by rw [r' 127 (by omega)]; exact b5, by rw [hf 121 3 (by omega)]; exact b6⟩
/-- the reference: the right side of a link -/
theorem r_right (h : TKH F n N P s0 t0) (hs : KHS F P s0 t0 N C O Q R L E I) (hr : KR s0 t0 C Q R L I t) (hb : RBc P N Z t) (hcl : c < C.length) (hrr : (hAt C Q R I c).2.2.1 ≤ r ∧ r < (hAt C Q R I (c + 1)).2.2.1) (hl : (R.getD r (0, 0)).2 ≤ l ∧ l < E.getD r 0) (hT : TOK F P s0 t0 N C Q R L I c b T) (hI : IRr F P t0 C Q R I c T t) (hIL : ILr F P t0 C Q R I c T l t) (ho : out = 0 ∨ out = 1) (hw1 : -1 ≤ w ∧ w ≤ 16) {mo : Nat → Int} (hmo : MOr C Q R I c mo t) : ∃ t', m_checkRight (c : Int) (l : Int) out w t = some (0, t') ∧ RBc P N (Z ++ yR F P s0 t0 C O Q R L I c l T out w mo) t' ∧ MOr C Q R I c (mR F P s0 t0 C O Q R L I c l out mo) t' ∧ (∀ x, (hAt C Q R I c).2.2.2 ≤ x → x < (hAt C Q R I (c + 1)).2.2.2 → t' 215 x = if s0 9 (lR L l) = 3 ∧ kR F P t0 C Q R L I c l = -1 ∧ out = 1 ∧ nmT F P t0 (I.getD x 0) = nmT F P t0 (lR L l) then 1 else t 215 x) ∧ (∀ c' k, ¬ (c' = 121 ∧ (k = 69 ∨ k = 70)) → ¬ (c' = 215 ∧ (hAt C Q R I c).2.2.2 ≤ k ∧ k < (hAt C Q R I (c + 1)).2.2.2) → ¬ (c' = 218) → t' c' k = t c' k) := by
  have hN := N2001 h.1
  have n4 := h.2.2.1
  have bd' := KHS_bd hs
  obtain ⟨-, ⟨-, -, qe, -⟩, -, -, p, ⟨i1, i2, i3⟩, i4, i5⟩ := KHS_c hs hcl
  obtain ⟨-, -, le, g⟩ := p r hrr.1 hrr.2
  obtain ⟨⟨-, -, -, lo4, lo5⟩, -⟩ := g l hl.1 hl.2
  have lx : l < L.length := by omega
  obtain ⟨-, r5, r6, r7⟩ := hr.2.1.2.2.2.1.2 l lx
  have lRd : (L.getD l (0, 0)).2 = lR L l := rfl
  rw [lRd] at lo4 lo5 r5 r6 r7
  have cv : ∀ _ : Unit, _ := fun _ => fun z1 z2 => KHS_cv hs hcl hrr hl (L := L) (l := l) z1 z2
  generalize hj : lR L l = j at *
  have jN : j < N := by omega
  have kd := kd1 h.1 jN
  have hi2 : 2 + c < 2 + C.length := by omega
  obtain ⟨p1, p2⟩ := paI_c (Q := Q) (R := R) (I := I) hcl
  unfold m_checkRight
  rw [gd_pos (by omega), Int.toNat_natCast, r5, gd_pos (by omega), Int.toNat_natCast, hr.1.2.1, gr (by omega)]
  by_cases c3 : s0 9 j = 3
  case neg =>
    have ey : yR F P s0 t0 C O Q R L I c l T out w mo = if out = 1 then [16 * j + 4] else [] := by unfold yR; rw [hj, if_neg c3]
    have em : mR F P s0 t0 C O Q R L I c l out mo = mo := by unfold mR; rw [hj, if_neg (fun z => c3 z.1)]
    rw [if_neg (fun z => c3 (kd.1.mp z)), gr (by omega), ey, em]
    have il : ∀ (t' : iS), (∀ k, t' 215 k = t 215 k) → ∀ x, (hAt C Q R I c).2.2.2 ≤ x → x < (hAt C Q R I (c + 1)).2.2.2 → t' 215 x = if s0 9 j = 3 ∧ kR F P t0 C Q R L I c l = -1 ∧ out = 1 ∧ nmT F P t0 (I.getD x 0) = nmT F P t0 j then 1 else t 215 x := fun t' e x _ _ => by rw [if_neg (fun z => c3 z.1), e]
    by_cases o : out = 1
    · obtain ⟨t1, a1, a2, a3⟩ := note_c (f := 4) (j := j) h.1 n4 hr.1 hb (by omega) jN
      rw [if_neg (by omega), if_pos o, show (4 : Int) = ((4 : Nat) : Int) from rfl, a1, bq]
      exact ⟨t1, rfl, a2, fun q q1 q2 => by rw [a3 218 q (by omega)]; exact hmo q q1 q2, il t1 (fun k => a3 215 k (by omega)), fun c' k z1 z2 z3 => a3 c' k z1⟩
    · rw [if_pos (by omega), if_neg o, List.append_nil]
      exact ⟨t, rfl, hb, hmo, il t (fun _ => rfl), fun _ _ _ _ _ => rfl⟩
  have rok : rOK s0 N j := by
    rcases lo5 with z | z
    · exact z.2
    · omega
  obtain ⟨r6, r7', r8⟩ := r6 c3
  have j1 := rok.1
  -- the pin
  have ek : kR F P t0 C Q R L I c l = pfI F P t0 C Q R I (2 + c) j := by unfold kR; rw [hj]
  have rp := r_pin h hs hr (⟨jN, c3⟩ : j < N ∧ s0 9 j = 3) hi2
  have rp' : m_pinOf (c : Int) (j : Int) t = some (if pfI F P t0 C Q R I (2 + c) j = -1 then -1 else pfI F P t0 C Q R I (2 + c) j - 5, t) := by
    unfold m_pinOfPart at rp
    rw [gr (by omega), if_neg (by omega), show ((2 + c : Nat) : Int) - 2 = (c : Int) by omega] at rp
    have b5 : bsI (2 + c) = 5 := by unfold bsI; rw [if_neg (by omega), if_neg (by omega)]
    rw [b5] at rp
    obtain ⟨x, z, e1, e2⟩ := bd_inv rp
    obtain ⟨e3, e4⟩ := Prod.mk.inj (Option.some.inj e2)
    rw [e1, e3, e4]
    rfl
  rw [if_pos (kd.1.mpr c3), rp', bq]
  rcases pfI_rg (j := j) hs hi2 with z | ⟨k, z1, z2, z3, z4⟩
  · -- an inner name
    rw [z] at ek
    have em : mR F P s0 t0 C O Q R L I c l out mo = mo := by unfold mR; rw [if_neg (fun y => y.2.1 ek)]
    obtain ⟨y, y1, y2, y3⟩ := cv () c3 z
    rw [z, if_pos rfl, gr (by omega), if_pos rfl, em, r_in h hs hr hcl ⟨jN, c3⟩, bq, r6]
    obtain ⟨fx, hfx⟩ : ∃ fx, fx = fst1 (fun x => nmT F P t0 (I.getD x 0) = nmT F P t0 j) (hAt C Q R I c).2.2.2 ((hAt C Q R I (c + 1)).2.2.2 - (hAt C Q R I c).2.2.2) := ⟨_, rfl⟩
    have fr := fst1_rg (P := fun x => nmT F P t0 (I.getD x 0) = nmT F P t0 j) ((hAt C Q R I (c + 1)).2.2.2 - (hAt C Q R I c).2.2.2) (hAt C Q R I c).2.2.2
    rw [← hfx] at fr ⊢
    have fx0 : fx ≠ -1 := fun z => by
      rw [hfx, fst1_no] at z
      exact z y y1 (by omega) y3
    obtain ⟨x, hx, x1, x2, x3⟩ : ∃ x : Nat, fx = (x : Int) ∧ (hAt C Q R I c).2.2.2 ≤ x ∧ x < (hAt C Q R I (c + 1)).2.2.2 ∧ nmT F P t0 (I.getD x 0) = nmT F P t0 j := by
      rcases fr with z | ⟨z5, z6, z7⟩
      · exact absurd z fx0
      · exact ⟨fx.toNat, by omega, by omega, by omega, z7⟩
    rw [hx]
    have xu : ∀ u, (hAt C Q R I c).2.2.2 ≤ u → u < (hAt C Q R I (c + 1)).2.2.2 → (nmT F P t0 (I.getD u 0) = nmT F P t0 j ↔ u = x) := fun u u1 u2 => by
      constructor
      · intro z
        rcases Nat.lt_trichotomy u x with w | w | w
        · exact absurd (z.trans x3.symm) (i5 u x u1 w x2)
        · exact w
        · exact absurd (x3.trans z.symm) (i5 x u x1 w u2)
      · intro z
        rw [z]; exact x3
    have e214 : t 214 x = wOf F P t0 T (nmT F P t0 j) := by rw [hI x x1 x2, x3]
    have e215 : t 215 x = ilT F P t0 T l (nmT F P t0 j) := by rw [hIL x x1 x2, x3]
    obtain ⟨wn, wr⟩ := wOf_ne (F := F) (P := P) (t0 := t0) (nm := nmT F P t0 j) T (fun e he => (hT.1 e he).2.2)
    have ir := ilT_rg (F := F) (P := P) (t0 := t0) (l := l) (nm := nmT F P t0 j) T
    obtain ⟨ww, hww⟩ : ∃ ww, ww = wOf F P t0 T (nmT F P t0 j) := ⟨_, rfl⟩
    obtain ⟨il, hil⟩ : ∃ il, il = ilT F P t0 T l (nmT F P t0 j) := ⟨_, rfl⟩
    have eA : (rgA s0 j = -1 ↔ ¬ s0 9 (j + 1) = 91) ∧ (s0 9 (j + 1) = 91 → rgA s0 j = ((j + 1 : Nat) : Int)) := by
      unfold rgA
      by_cases q : s0 9 (j + 1) = 91
      · rw [if_pos q]; exact ⟨⟨fun y => by omega, fun y => absurd q y⟩, fun _ => rfl⟩
      · rw [if_neg q]; exact ⟨⟨fun _ => q, fun _ => rfl⟩, fun y => absurd y q⟩
    have ey : yR F P s0 t0 C O Q R L I c l T out w mo = (if s0 9 (j + 1) = 91 then [16 * (j + 1) + 5] else []) ++ ((if out = 1 ∧ il ≠ 0 then [16 * j + 3] else []) ++ ((if out = 0 ∧ ww = 0 then [16 * j + 4] else []) ++ (if out = 0 ∧ 0 < ww ∧ s0 9 (j + 1) ≠ 91 ∧ w ≠ -1 ∧ ww ≠ w then [16 * j + 5] else []))) := by
      unfold yR
      rw [hj, if_pos c3, if_pos ek, hww, hil]
    rw [← hww] at e214 wr
    rw [← hil] at e215 ir
    have g214 : ∀ (tx : iS), (∀ c k, ¬ (c = 121 ∧ (k = 69 ∨ k = 70)) → tx c k = t c k) → tx 214 x = ww ∧ tx 215 x = il ∧ tx 209 l = rgA s0 j := fun tx f => ⟨by rw [f 214 x (by omega)]; exact e214, by rw [f 215 x (by omega)]; exact e215, by rw [f 209 l (by omega)]; exact r6⟩
    -- a range
    obtain ⟨ta, a1, a2, a3⟩ := nt_if (p := s0 9 (j + 1) = 91) (f := 5) (j := j + 1) (G := fun z => m_checkRight_76 (l : Int) out w (j : Int) (x : Int) z) h.1 n4 hr.1 hb (by omega) j1
    have A : gd (rg (rgA s0 j)) (if rgA s0 j = (-1) then m_checkRight_76 (l : Int) out w (j : Int) (x : Int) t else bd (m_note 5 (rgA s0 j) t) (fun _ s26 => m_checkRight_76 (l : Int) out w (j : Int) (x : Int) s26)) = m_checkRight_76 (l : Int) out w (j : Int) (x : Int) ta := by
      rw [← a1]
      by_cases q : s0 9 (j + 1) = 91
      · rw [eA.2 q, gr (by omega), if_neg (by omega), if_pos q]
        rfl
      · rw [eA.1.mpr q, gr (by omega), if_pos rfl, if_neg q]
    -- linked before
    obtain ⟨tb, b1, b2, b3⟩ := nt_if (p := out = 1 ∧ il ≠ 0) (f := 3) (j := j) (G := fun z => m_checkRight_97 (l : Int) out w (j : Int) (x : Int) z) h.1 n4 (SR_n hr.1 a3) a2 (by omega) jN
    have B : m_checkRight_76 (l : Int) out w (j : Int) (x : Int) ta = m_checkRight_97 (l : Int) out w (j : Int) (x : Int) tb := by
      rw [← b1]
      unfold m_checkRight_76
      rw [gr (by omega)]
      by_cases o : out = 0
      · rw [if_pos o, if_neg (fun y => by omega)]
      · rw [if_neg o, gd_pos (by omega), Int.toNat_natCast, (g214 ta a3).2.1, gr (by omega)]
        by_cases q : il = 0
        · rw [if_pos q, if_neg (fun y => y.2 q)]
        · rw [if_neg q, if_pos ⟨by omega, q⟩]
          rfl
    have f2 : ∀ c k, ¬ (c = 121 ∧ (k = 69 ∨ k = 70)) → tb c k = t c k := fun c k y => by rw [b3 c k y, a3 c k y]
    -- not linked at all
    obtain ⟨tc, d1, d2, d3⟩ := nt_if (p := out = 0 ∧ ww = 0) (f := 4) (j := j) (G := fun z => m_checkRight_118 (l : Int) out w (j : Int) (x : Int) z) h.1 n4 (SR_n hr.1 f2) b2 (by omega) jN
    have D : m_checkRight_97 (l : Int) out w (j : Int) (x : Int) tb = m_checkRight_118 (l : Int) out w (j : Int) (x : Int) tc := by
      rw [← d1]
      unfold m_checkRight_97
      rw [gr (by omega)]
      by_cases o : out = 0
      · rw [if_pos o, gd_pos (by omega), Int.toNat_natCast, (g214 tb f2).1, gr (by omega)]
        by_cases q : ww = 0
        · rw [if_pos q, if_pos ⟨o, q⟩]
          rfl
        · rw [if_neg q, if_neg (fun y => q y.2)]
      · rw [if_neg o, if_neg (fun y => o y.1)]
    have f3 : ∀ c k, ¬ (c = 121 ∧ (k = 69 ∨ k = 70)) → tc c k = t c k := fun c k y => by rw [d3 c k y, f2 c k y]
    -- unlike widths
    obtain ⟨td, g1, g2, g3⟩ := nt_if (p := out = 0 ∧ 0 < ww ∧ s0 9 (j + 1) ≠ 91 ∧ w ≠ -1 ∧ ww ≠ w) (f := 5) (j := j) (G := fun z => m_checkRight_167 out (x : Int) z) h.1 n4 (SR_n hr.1 f3) d2 (by omega) jN
    have G' : m_checkRight_118 (l : Int) out w (j : Int) (x : Int) tc = m_checkRight_167 out (x : Int) td := by
      rw [← g1]
      unfold m_checkRight_118
      rw [gr (by omega)]
      by_cases o : out = 0
      · rw [if_pos o, gd_pos (by omega), Int.toNat_natCast, (g214 tc f3).1, gr (by omega)]
        by_cases q : ww ≤ 0
        · rw [if_pos q, if_neg (fun y => by omega)]
        · rw [if_neg q, gd_pos (by omega), Int.toNat_natCast, (g214 tc f3).2.2]
          by_cases q2 : s0 9 (j + 1) = 91
          · rw [eA.2 q2, gr (by omega), if_neg (by omega), if_neg (fun y => y.2.2.1 q2)]
          · rw [eA.1.mpr q2, gr (by omega), if_pos rfl, gr (by omega)]
            by_cases q3 : w = -1
            · rw [if_pos q3, if_neg (fun y => y.2.2.2.1 q3)]
            · rw [if_neg q3]
              by_cases q4 : ww = w
              · rw [if_pos q4, if_neg (fun y => y.2.2.2.2 q4)]
              · rw [if_neg q4, if_pos ⟨o, by omega, q2, q3, q4⟩]
                rfl
      · rw [if_neg o, if_neg (fun y => o y.1)]
    have f4 : ∀ c k, ¬ (c = 121 ∧ (k = 69 ∨ k = 70)) → td c k = t c k := fun c k y => by rw [g3 c k y, f3 c k y]
    have H : m_checkRight_167 out (x : Int) td = some (0, up td 215 x (if out = 1 then 1 else il)) := by
      unfold m_checkRight_167 m_checkRight_187 m_checkRight_192
      rw [gd_pos (by omega), Int.toNat_natCast, (g214 td f4).2.1, gr (by omega)]
      by_cases q : il = 0
      · rw [if_pos q, gr (by omega)]
        by_cases o : out = 0
        · rw [if_pos o, gd_pos (by omega), gd_pos (Or.inl rfl), lt_eq, if_neg (by omega), q]
        · rw [if_neg o, gd_pos (by omega), gd_pos (Or.inr rfl), lt_eq, if_pos (by omega)]
      · rw [if_neg q, gd_pos (by omega), gd_pos (Or.inr rfl), lt_eq]
        by_cases o : out = 1
        · rw [if_pos o]
        · rw [if_neg o, show il = 1 by omega]
    rw [A, B, D, G', H]
    refine ⟨_, rfl, ?_, fun q q1 q2 => by rw [up_ne (by omega), f4 218 q (by omega)]; exact hmo q q1 q2, fun u u1 u2 => ?_, fun c' k q1 q2 q3 => by rw [up_ne (by omega), f4 c' k q1]⟩
    · rw [ey]
      have : Z ++ ((if s0 9 (j + 1) = 91 then [16 * (j + 1) + 5] else []) ++ ((if out = 1 ∧ il ≠ 0 then [16 * j + 3] else []) ++ ((if out = 0 ∧ ww = 0 then [16 * j + 4] else []) ++ (if out = 0 ∧ 0 < ww ∧ s0 9 (j + 1) ≠ 91 ∧ w ≠ -1 ∧ ww ≠ w then [16 * j + 5] else [])))) = (((Z ++ (if s0 9 (j + 1) = 91 then [16 * (j + 1) + 5] else [])) ++ (if out = 1 ∧ il ≠ 0 then [16 * j + 3] else [])) ++ (if out = 0 ∧ ww = 0 then [16 * j + 4] else [])) ++ (if out = 0 ∧ 0 < ww ∧ s0 9 (j + 1) ≠ 91 ∧ w ≠ -1 ∧ ww ≠ w then [16 * j + 5] else []) := by
        simp only [List.append_assoc]
      rw [this]
      unfold RBc at g2 ⊢
      rw [up_ne (by omega), up_ne (by omega)]
      exact g2
    · by_cases ux : u = x
      · rw [ux, up_same]
        by_cases o : out = 1
        · rw [if_pos o, if_pos ⟨c3, ek, o, x3⟩]
        · rw [if_neg o, if_neg (fun y => o y.2.2.1)]
          exact e215.symm
      · rw [up_ne (by omega), f4 215 u (by omega), if_neg (fun y => ux ((xu u u1 u2).mp y.2.2.2))]
  -- a pin of the chip
  rw [z1] at ek
  have pm := paI_m hs hi2
  have kne : ¬ kR F P t0 C Q R L I c l = -1 := by rw [ek]; omega
  obtain ⟨qk, hq⟩ : ∃ qk, k = 5 + qk := ⟨k - 5, by omega⟩
  have qQ : qk < Q.length := by omega
  obtain ⟨-, x2, x3, -⟩ := hr.2.1.2.1.2 qk qQ
  obtain ⟨-, -, yy, -⟩ := KHS_c hs hcl
  have y2 := (yy qk (by omega) (by omega)).2
  have oo : ooI O (2 + c) = 5 + O.getD c 0 := by unfold ooI; rw [if_neg (by omega), if_neg (by omega), show 2 + c - 2 = c by omega]
  have eo : oR F P t0 C O Q R L I c l = (Q.getD qk (0, 0)).2 := by
    unfold oR
    rw [ek, y2, oo]
    by_cases y : qk < O.getD c 0
    · rw [if_pos y, if_neg (by omega)]
    · rw [if_neg y, if_pos (by omega)]
  have orr : (Q.getD qk (0, 0)).2 = 0 ∨ (Q.getD qk (0, 0)).2 = 1 := by rw [y2]; split <;> omega
  have il0 : ∀ (t' : iS), (∀ k, t' 215 k = t 215 k) → ∀ x, (hAt C Q R I c).2.2.2 ≤ x → x < (hAt C Q R I (c + 1)).2.2.2 → t' 215 x = if s0 9 j = 3 ∧ kR F P t0 C Q R L I c l = -1 ∧ out = 1 ∧ nmT F P t0 (I.getD x 0) = nmT F P t0 j then 1 else t 215 x := fun t' e x _ _ => by rw [if_neg (fun z => kne z.2.1), e]
  rw [z1, if_neg (show ¬ (k : Int) = -1 by omega), gr (by omega), if_neg (by omega), gd_pos (by omega), show ((k : Int) - 5).toNat = qk by omega, x2, gr (by omega), gr (by omega), ← eo]
  by_cases oe : oR F P t0 C O Q R L I c l = out
  case neg =>
    have ey : yR F P s0 t0 C O Q R L I c l T out w mo = [16 * j + 4] := by unfold yR; rw [hj, if_pos c3, if_neg kne, if_neg oe]
    have em : mR F P s0 t0 C O Q R L I c l out mo = mo := by unfold mR; rw [if_neg (fun y => oe (y.2.2.1.trans y.2.2.2.1.symm))]
    obtain ⟨t1, a1, a2, a3⟩ := note_c (f := 4) (j := j) h.1 n4 hr.1 hb (by omega) jN
    rw [if_neg oe, show (4 : Int) = ((4 : Nat) : Int) from rfl, a1, bq, ey, em]
    exact ⟨t1, rfl, a2, fun q q1 q2 => by rw [a3 218 q (by omega)]; exact hmo q q1 q2, il0 t1 (fun k => a3 215 k (by omega)), fun c' k z1 z2 z3 => a3 c' k z1⟩
  have pr := pwI_rg (s0 := s0) (Q := Q) (k := k)
  have pw : pwI s0 Q k = wdP s0 (Q.getD qk (0, 0)).1 := by unfold pwI; rw [if_neg (by omega), show k - 5 = qk by omega]
  have ew : wR F P s0 t0 C Q R L I c l = rwB s0 j (pwI s0 Q k) := by unfold wR; rw [hj, ek, Int.toNat_natCast]
  obtain ⟨lr1, lr2, lr3⟩ := lo_rg h.1 rok pr
  rw [← ew] at lr3
  obtain ⟨rf1, rf2⟩ := r_fit (t := t) h.1 rok pr
  rw [← ew] at rf1 rf2
  rw [if_pos oe, r6, r7', r8, x3, ← pw, rf1, bq]
  by_cases wm : wR F P s0 t0 C Q R L I c l = -1
  · have ey : yR F P s0 t0 C O Q R L I c l T out w mo = [16 * (j + 1) + 5] := by unfold yR; rw [hj, if_pos c3, if_neg kne, if_pos oe, if_pos wm]
    have em : mR F P s0 t0 C O Q R L I c l out mo = mo := by unfold mR; rw [if_neg (fun y => y.2.2.2.2 wm)]
    have ra : rgA s0 j = ((j + 1 : Nat) : Int) := by
      unfold rgA
      by_cases q : s0 9 (j + 1) = 91
      · rw [if_pos q]
      · exfalso
        have : rwB s0 j (pwI s0 Q k) = pwI s0 Q k := by
          unfold rwB hiB loB rgI
          rw [if_neg q, if_neg q, if_neg (by omega), if_neg (by omega)]
          omega
        rw [← ew] at this
        omega
    obtain ⟨t1, a1, a2, a3⟩ := note_c (f := 5) (j := j + 1) h.1 n4 hr.1 hb (by omega) j1
    rw [if_pos wm, gr (by omega), if_pos rfl, r6, ra, show (5 : Int) = ((5 : Nat) : Int) from rfl, a1, bq, ey, em]
    exact ⟨t1, rfl, a2, fun q q1 q2 => by rw [a3 218 q (by omega)]; exact hmo q q1 q2, il0 t1 (fun k => a3 215 k (by omega)), fun c' k z1 z2 z3 => a3 c' k z1⟩
  rw [if_neg wm, gr (by omega), if_neg (by omega), r6, r7', r8, rf2 wm, bq, gr (by omega)]
  have ey : yR F P s0 t0 C O Q R L I c l T out w mo = (if w ≠ -1 ∧ wR F P s0 t0 C Q R L I c l ≠ w then [16 * j + 5] else []) ++ (if out = 1 ∧ i_and (mo (k - paI C Q R I (2 + c))) (mkB (loB s0 j) (wR F P s0 t0 C Q R L I c l)) ≠ 0 then [16 * j + 3] else []) := by unfold yR; rw [hj, if_pos c3, if_neg kne, if_pos oe, if_neg wm, ek, Int.toNat_natCast]
  obtain ⟨ta, a1, a2, a3⟩ := nt_if (p := w ≠ -1 ∧ wR F P s0 t0 C Q R L I c l ≠ w) (f := 5) (j := j) (G := fun z => m_checkRight_307 (l : Int) out (j : Int) ((k : Int) - 5) (wR F P s0 t0 C Q R L I c l) z) h.1 n4 hr.1 hb (by omega) jN
  have A : (if w = (-1) then m_checkRight_307 (l : Int) out (j : Int) ((k : Int) - 5) (wR F P s0 t0 C Q R L I c l) t else gd (rg (wR F P s0 t0 C Q R L I c l)) (if wR F P s0 t0 C Q R L I c l = w then m_checkRight_307 (l : Int) out (j : Int) ((k : Int) - 5) (wR F P s0 t0 C Q R L I c l) t else bd (m_note 5 (j : Int) t) (fun _ s20 => m_checkRight_307 (l : Int) out (j : Int) ((k : Int) - 5) (wR F P s0 t0 C Q R L I c l) s20))) = m_checkRight_307 (l : Int) out (j : Int) ((k : Int) - 5) (wR F P s0 t0 C Q R L I c l) ta := by
    rw [← a1]
    by_cases q1 : w = -1
    · rw [if_pos q1, if_neg (fun y => y.1 q1)]
    · rw [if_neg q1, gr (by omega)]
      by_cases q2 : wR F P s0 t0 C Q R L I c l = w
      · rw [if_pos q2, if_neg (fun y => y.2 q2)]
      · rw [if_neg q2, if_pos ⟨q1, q2⟩]
        rfl
  rw [A, ey, ← List.append_assoc]
  generalize hZ1 : Z ++ (if w ≠ -1 ∧ wR F P s0 t0 C Q R L I c l ≠ w then [16 * j + 5] else []) = Z1 at *
  unfold m_checkRight_307
  rw [gr (by omega)]
  by_cases o : out = 0
  · have em : mR F P s0 t0 C O Q R L I c l out mo = mo := by unfold mR; rw [if_neg (fun y => by omega)]
    rw [if_pos o, if_neg (fun y => by omega), List.append_nil, em]
    exact ⟨ta, rfl, a2, fun q q1 q2 => by rw [a3 218 q (by omega)]; exact hmo q q1 q2, il0 ta (fun k => a3 215 k (by omega)), fun c' k z1 z2 z3 => a3 c' k z1⟩
  have o1 : out = 1 := by omega
  have em : mR F P s0 t0 C O Q R L I c l out mo = mU mo (k - paI C Q R I (2 + c)) (mkB (loB s0 j) (wR F P s0 t0 C Q R L I c l)) := by
    unfold mR
    rw [hj, if_pos ⟨c3, kne, by rw [oe]; exact o1, o1, wm⟩, ek, Int.toNat_natCast]
  rw [if_neg o, gd_pos (by omega), Int.toNat_natCast, show ta 209 l = rgA s0 j by rw [a3 209 l (by omega)]; exact r6, show ta 210 l = rgI s0 j by rw [a3 210 l (by omega)]; exact r7']
  obtain ⟨mv, hmv⟩ : ∃ mv, mv = mkB (loB s0 j) (wR F P s0 t0 C Q R L I c l) := ⟨_, rfl⟩
  have B : gd (rg (rgA s0 j)) (if rgA s0 j = (-1) then m_checkRight_338 (j : Int) ((k : Int) - 5) 0 ((i_shl 1 (wR F P s0 t0 C Q R L I c l)) - 1) ta else m_checkRight_338 (j : Int) ((k : Int) - 5) (rgI s0 j) ((i_shl 1 (wR F P s0 t0 C Q R L I c l)) - 1) ta) = m_checkRight_338 (j : Int) ((k : Int) - 5) (rgI s0 j) ((i_shl 1 (wR F P s0 t0 C Q R L I c l)) - 1) ta := by
    unfold rgA rgI
    by_cases q : s0 9 (j + 1) = 91
    · rw [if_pos q, if_pos q, gr (by omega), if_neg (by omega)]
    · rw [if_neg q, if_neg q, gr (by omega), if_pos rfl]
  have hmv' : i_shl ((i_shl 1 (wR F P s0 t0 C Q R L I c l)) - 1) (rgI s0 j) = mv := by rw [hmv]; rfl
  have m218 : ta 218 qk = mo (k - paI C Q R I (2 + c)) := by
    rw [a3 218 qk (by omega), hmo qk (by omega) (by omega), show k - paI C Q R I (2 + c) = qk - (hAt C Q R I c).2.1 by omega]
  rw [B]
  unfold m_checkRight_338 m_checkRight_361
  rw [gd_pos (by omega), show ((k : Int) - 5).toNat = qk by omega, hmv', m218, gd_pos and_rg, ← hmv]
  have fin : ∀ tx : iS, (∀ c k, ¬ (c = 121 ∧ (k = 69 ∨ k = 70)) → tx c k = t c k) → MOr C Q R I c (mR F P s0 t0 C O Q R L I c l out mo) (up tx 218 qk (i_or (tx 218 qk) mv)) := fun tx f q q1 q2 => by
    rw [em, ← hmv]
    unfold mU
    by_cases y : q = qk
    · rw [y, up_same, if_pos (by omega), f 218 qk (by omega), hmo qk (by omega) (by omega)]
    · rw [up_ne (by omega), if_neg (by omega), f 218 q (by omega)]
      exact hmo q q1 q2
  by_cases y : i_and (mo (k - paI C Q R I (2 + c))) mv = 0
  · rw [if_pos y, if_neg (fun q => q.2 y), List.append_nil, gd_pos (by omega), lt_eq]
    refine ⟨_, rfl, ?_, by rw [← m218]; exact fin ta a3, il0 _ (fun k => by rw [up_ne (by omega), a3 215 k (by omega)]), fun c' k z1 z2 z3 => by rw [up_ne (by omega), a3 c' k z1]⟩
    unfold RBc at a2 ⊢
    rw [up_ne (by omega), up_ne (by omega)]
    exact a2
  · obtain ⟨tb, b1, b2, b3⟩ := note_c (f := 3) (j := j) h.1 n4 (SR_n hr.1 a3) a2 (by omega) jN
    have f2 : ∀ c k, ¬ (c = 121 ∧ (k = 69 ∨ k = 70)) → tb c k = t c k := fun c k y => by rw [b3 c k y, a3 c k y]
    rw [if_neg y, if_pos ⟨o1, y⟩, show (3 : Int) = ((3 : Nat) : Int) from rfl, b1, bq, gd_pos (by omega), lt_eq]
    refine ⟨_, rfl, ?_, fin tb f2, il0 _ (fun k => by rw [up_ne (by omega), f2 215 k (by omega)]), fun c' k z1 z2 z3 => by rw [up_ne (by omega), f2 c' k z1]⟩
    unfold RBc at b2 ⊢
    rw [up_ne (by omega), up_ne (by omega)]
    exact b2
end CIp
