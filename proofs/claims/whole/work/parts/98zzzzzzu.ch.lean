/-! chips: links are checked by the class -/
theorem and_rg {x y : Int} : rg (i_and x y) := ⟨Int32.le_toInt _, Int32.toInt_lt _⟩
/-- bits that are linked -/
def mkB (lo w : Int) : Int := i_shl ((i_shl 1 w) - 1) lo
def mU (m : Nat → Int) (j : Nat) (v : Int) : Nat → Int := fun x => if x = j then i_or (m x) v else m x
section CIk
variable (F : Nat → Int) (P : Nat → Nat) (s0 t0 : iS) (N : Nat) (C : List chR) (O : List Nat) (Q : List (Nat × Int)) (R L : List (Nat × Nat)) (E I : List Nat)
/-- the right side's own pin, its width; the inner name -/
def kR (c l : Nat) : Int := pfI F P t0 C Q R I (2 + c) (lR L l)
def wR (c l : Nat) : Int := rwB s0 (lR L l) (pwI s0 Q (kR F P t0 C Q R L I c l).toNat)
def eR (T : List tEn) (l : Nat) : tEn := T.getD (fnT F P t0 T (nmT F P t0 (lR L l))).toNat (0, 0, 0, 0)
def oR (c l : Nat) : Int := if (ooI O (2 + c) : Int) ≤ kR F P t0 C Q R L I c l then 1 else 0
/-- notes of a link's right side -/
def xR (c l : Nat) (T : List tEn) (out w : Int) (mo : Nat → Int) : List Nat :=
  if s0 9 (lR L l) = 3 then
    if kR F P t0 C Q R L I c l = -1 then
      if fnT F P t0 T (nmT F P t0 (lR L l)) = -1 then [16 * lR L l + 4]
      else (if out = 1 ∧ (eR F P t0 L T l).2.1 ≠ l then [16 * lR L l + 3] else []) ++ (if s0 9 (lR L l + 1) = 91 then [16 * (lR L l + 1) + 5] else if out = 0 ∧ (eR F P t0 L T l).2.2.1 ≠ -1 ∧ w ≠ -1 ∧ (eR F P t0 L T l).2.2.1 ≠ w then [16 * lR L l + 5] else [])
    else if oR F P t0 C O Q R L I c l = out then
      if wR F P s0 t0 C Q R L I c l = -1 then [16 * (lR L l + 1) + 5]
      else (if out = 1 ∧ i_and (mo ((kR F P t0 C Q R L I c l).toNat - paI C Q R I (2 + c))) (mkB (loB s0 (lR L l)) (wR F P s0 t0 C Q R L I c l)) ≠ 0 then [16 * lR L l + 3] else []) ++ (if w ≠ -1 ∧ wR F P s0 t0 C Q R L I c l ≠ w then [16 * lR L l + 5] else [])
    else [16 * lR L l + 4]
  else if out = 1 then [16 * lR L l + 4] else []
/-- the bits of OUT pins behind a link -/
def mR (c l : Nat) (out : Int) (mo : Nat → Int) : Nat → Int := if s0 9 (lR L l) = 3 ∧ kR F P t0 C Q R L I c l ≠ -1 ∧ oR F P t0 C O Q R L I c l = 1 ∧ out = 1 ∧ wR F P s0 t0 C Q R L I c l ≠ -1 then mU mo ((kR F P t0 C Q R L I c l).toNat - paI C Q R I (2 + c)) (mkB (loB s0 (lR L l)) (wR F P s0 t0 C Q R L I c l)) else mo
/-- where a link's right side lies in the chip -/
def tgR (c l : Nat) (T : List tEn) : Int := if s0 9 (lR L l) = 3 then (if kR F P t0 C Q R L I c l = -1 then ((eR F P t0 L T l).2.2.2 : Int) else (ofI s0 C Q R I (2 + c) (kR F P t0 C Q R L I c l).toNat : Int) + loB s0 (lR L l)) else if s0 9 (lR L l) = 304 then -2 else -1
end CIk
section CIl
variable {F : Nat → Int} {n N : Nat} {P : Nat → Nat} {s0 t0 s t s' t' : iS} {C : List chR} {O E I : List Nat} {Q : List (Nat × Int)} {R L : List (Nat × Nat)} {c b i j k q r l : Nat} {Z : List Nat} {T : List tEn} {out w : Int}
theorem bl_if2 {f : Nat} {p : Prop} [Decidable p] (h : BLc Z s) (hf : 1 ≤ f ∧ f ≤ 7) (hj : j < 2001) {G : iS → Option (Int × iS)} : ∃ s1, (if p then bd (tok_blame (f : Int) (j : Int) s) (fun _ s8 => G s8) else G s) = G s1 ∧ BLc (Z ++ (if p then [16 * j + f] else [])) s1 ∧ (∀ c k, ¬ (c = 2 ∧ (k = 13 ∨ k = 14)) → s1 c k = s c k) := by
  by_cases z : p
  · obtain ⟨s1, a1, a2, a3⟩ := bl_add h hf hj
    exact ⟨s1, by rw [if_pos z, a1, bq], by rw [if_pos z]; exact a2, a3⟩
  · exact ⟨s, by rw [if_neg z], by rw [if_neg z, List.append_nil]; exact h, fun _ _ _ => rfl⟩
/-- sides of unlike widths -/
theorem c_cmp (hb : BLc Z s) (hl : l < 500) (h97 : s 97 l = w) (hw : -1 ≤ w ∧ w ≤ 16) (h86 : s 86 l = (j : Int)) (hj : j < 2001) {w' : Int} (hw' : -1 ≤ w' ∧ w' ≤ 16) : ∃ s1, cck_compareWidths (l : Int) w' s = some (0, s1) ∧ BLc (Z ++ (if w' ≠ -1 ∧ w ≠ -1 ∧ w' ≠ w then [16 * j + 5] else [])) s1 ∧ (∀ c k, ¬ (c = 2 ∧ (k = 13 ∨ k = 14)) → s1 c k = s c k) := by
  unfold cck_compareWidths
  rw [gr (by omega)]
  by_cases c1 : w' = -1
  · rw [if_pos c1, if_neg (fun z => z.1 c1), List.append_nil]
    exact ⟨s, rfl, hb, fun _ _ _ => rfl⟩
  rw [if_neg c1, gd_pos (by omega), Int.toNat_natCast, h97, gr (by omega)]
  by_cases c2 : w = -1
  · rw [if_pos c2, if_neg (fun z => z.2.1 c2), List.append_nil]
    exact ⟨s, rfl, hb, fun _ _ _ => rfl⟩
  rw [if_neg c2]
  by_cases c3 : w' = w
  · rw [if_pos c3, if_neg (fun z => z.2.2 c3), List.append_nil]
    exact ⟨s, rfl, hb, fun _ _ _ => rfl⟩
  · obtain ⟨s1, a1, a2, a3⟩ := bl_add (f := 5) (t := j) hb (by omega) hj
    rw [if_neg c3, if_pos ⟨c1, c2, c3⟩, h86, show (5 : Int) = ((5 : Nat) : Int) from rfl, a1, bq]
    exact ⟨s1, rfl, a2, a3⟩
/-- bits are linked -/
theorem c_lkd {a0 : Nat} {v : Int} (hj : j < 12) : cck_isLinked a0 12 (j : Int) v s = some (if i_and (s a0 j) v = 0 then 0 else 1, up s a0 j (i_or (s a0 j) v)) := by
  unfold cck_isLinked cck_isLinked_25
  rw [gr (by omega), if_neg (by omega), gr (by omega), if_pos (by omega), gd_pos (by omega), Int.toNat_natCast, gd_pos and_rg]
  by_cases z : i_and (s a0 j) v = 0
  · rw [if_pos z, if_pos z, gd_pos (by omega), lt_eq, gd_pos (Or.inl rfl)]
  · rw [if_neg z, if_neg z, gd_pos (by omega), lt_eq, gd_pos (Or.inr rfl)]
/-- the class: the right side of a link -/
theorem c_right (h : TKR 1 F n N P s0 t0) (hs : KHS F P s0 t0 N C O Q R L E I) (hc : KC F P s0 t0 C O Q R L E s) (hb : BLc Z s) (hw : KW s0 C Q R I Q.length s) (hcl : c < C.length) (hrr : (hAt C Q R I c).2.2.1 ≤ r ∧ r < (hAt C Q R I (c + 1)).2.2.1) (hl : (R.getD r (0, 0)).2 ≤ l ∧ l < E.getD r 0) (hT : TOK F P s0 t0 N C Q R L I c b T) (hI : IRc F P t0 c b T s) (ho : out = 0 ∨ out = 1) (h97 : s 97 l = w) (hw1 : -1 ≤ w ∧ w ≤ 16) : ∃ s', cck_checkRight ((2 + c : Nat) : Int) (l : Int) out s = some (0, s') ∧ BLc (Z ++ xR F P s0 t0 C O Q R L I c l T out w (s 106)) s' ∧ s' 106 = mR F P s0 t0 C O Q R L I c l out (s 106) ∧ (xR F P s0 t0 C O Q R L I c l T out w (s 106) = [] → s' 98 l = tgR F P s0 t0 C Q R L I c l T) ∧ (∀ c' k, ¬ (c' = 2 ∧ (k = 13 ∨ k = 14)) → ¬ (c' = 98 ∧ k = l) → c' ≠ 106 → s' c' k = s c' k) := by
  have hN := N2001 h
  have bd' := KHS_bd hs
  obtain ⟨-, -, -, -, p, -, -, -⟩ := KHS_c hs hcl
  obtain ⟨-, -, le, g⟩ := p r hrr.1 hrr.2
  obtain ⟨⟨-, -, -, lo4, lo5⟩, -⟩ := g l hl.1 hl.2
  obtain ⟨tl, -⟩ := TOK_len hs hcl hT
  have lx : l < L.length := by omega
  have e86 : s 86 l = (lR L l : Int) := (hc.2.1.2.2.2.2.2 l lx).2
  have lRd : (L.getD l (0, 0)).2 = lR L l := rfl
  rw [lRd] at lo4 lo5
  generalize hj : lR L l = j at *
  have jN : j < N := by omega
  have kr := kRg h jN
  unfold cck_checkRight
  rw [gd_pos (by omega), Int.toNat_natCast, e86, cKo h hc.1 jN, bq, gr (by omega)]
  by_cases c3 : s0 9 j = 3
  case neg =>
    have ex : xR F P s0 t0 C O Q R L I c l T out w (s 106) = if out = 1 then [16 * j + 4] else [] := by unfold xR; rw [hj, if_neg c3]
    have em : mR F P s0 t0 C O Q R L I c l out (s 106) = s 106 := by unfold mR; rw [hj, if_neg (fun z => c3 z.1)]
    have et : tgR F P s0 t0 C Q R L I c l T = if s0 9 j = 304 then -2 else -1 := by unfold tgR; rw [hj, if_neg c3]
    have go : ∀ v : Int, ∃ s', cck_checkRight_50 out (j : Int) v (l : Int) s = some (0, s') ∧ BLc (Z ++ (if out = 1 then [16 * j + 4] else [])) s' ∧ s' 106 = s 106 ∧ s' 98 l = v ∧ (∀ c' k, ¬ (c' = 2 ∧ (k = 13 ∨ k = 14)) → ¬ (c' = 98 ∧ k = l) → c' ≠ 106 → s' c' k = s c' k) := fun v => by
      have b1 : BLc Z (up s 98 l v) := BLc_of hb (up_ne (by omega)) (up_ne (by omega))
      unfold cck_checkRight_50
      rw [gd_pos (by omega), Int.toNat_natCast, lt_eq, gr (by omega)]
      by_cases o : out = 1
      · obtain ⟨s1, a1, a2, a3⟩ := bl_add (f := 4) (t := j) b1 (by omega) (by omega)
        rw [if_neg (by omega), if_pos o, show (4 : Int) = ((4 : Nat) : Int) from rfl, a1, bq]
        exact ⟨s1, rfl, a2, funext fun k => by rw [a3 106 k (by omega), up_ne (by omega)], by rw [a3 98 l (by omega), up_same], fun c' k z1 z2 z3 => by rw [a3 c' k z1, up_ne z2]⟩
      · rw [if_pos (by omega), if_neg o, List.append_nil]
        exact ⟨_, rfl, b1, funext fun k => up_ne (by omega), up_same _ _ _ _, fun c' k z1 z2 z3 => up_ne z2⟩
    rw [ex, em, et, if_neg c3, cKo h hc.1 jN, bq, gr (by omega)]
    by_cases c4 : s0 9 j = 304
    · rw [if_pos c4, if_pos c4]
      obtain ⟨s', a1, a2, a3, a4, a5⟩ := go (-2)
      exact ⟨s', a1, a2, a3, fun _ => a4, a5⟩
    · rw [if_neg c4, if_neg c4]
      obtain ⟨s', a1, a2, a3, a4, a5⟩ := go (-1)
      exact ⟨s', a1, a2, a3, fun _ => a4, a5⟩
  have rok : rOK s0 N j := by
    rcases lo5 with z | z
    · exact z.2
    · omega
  have hi2 : 2 + c < 2 + C.length := by omega
  rw [if_pos c3, c_pin h hs hc ⟨jN, c3⟩ hi2, bq]
  have ek : kR F P t0 C Q R L I c l = pfI F P t0 C Q R I (2 + c) j := by unfold kR; rw [hj]
  rcases pfI_rg (j := j) hs hi2 with z | ⟨k, z1, z2, z3, z4⟩
  · -- an inner name
    rw [z] at ek
    have em : mR F P s0 t0 C O Q R L I c l out (s 106) = s 106 := by unfold mR; rw [if_neg (fun y => y.2.1 ek)]
    rw [z, gr (by omega), if_pos rfl, em]
    unfold cck_checkInner
    rw [gd_pos (by omega), Int.toNat_natCast, e86, c_in h hc.1 (fun e he => (hT.1 e he).1.1) tl hI.1 ⟨jN, c3⟩, bq]
    rcases fnT_rg (F := F) (P := P) (t0 := t0) (T := T) (nm := nmT F P t0 j) with f | ⟨x, f1, f2, f3⟩
    · have ex : xR F P s0 t0 C O Q R L I c l T out w (s 106) = [16 * j + 4] := by unfold xR; rw [hj, if_pos c3, if_pos ek, if_pos f]
      obtain ⟨s1, a1, a2, a3⟩ := bl_add (f := 4) (t := j) hb (by omega) (by omega)
      rw [f, gr (by omega), if_pos rfl, show (4 : Int) = ((4 : Nat) : Int) from rfl, a1, bq, bq, ex]
      exact ⟨s1, rfl, a2, funext fun k => a3 106 k (by omega), fun z => absurd z (by simp), fun c' k z1 z2 z3 => a3 c' k z1⟩
    have ee : eR F P t0 L T l = T.getD x (0, 0, 0, 0) := by unfold eR; rw [hj, f1, Int.toNat_natCast]
    obtain ⟨i1, i2, i3⟩ := hI.2.1 x f2
    have tw := (hT.1 _ (gd_mem (d := ((0, 0, 0, 0) : tEn)) f2)).2.2
    have tk := hT.2.2.2 _ (gd_mem (d := ((0, 0, 0, 0) : tEn)) f2)
    obtain ⟨e, he⟩ : ∃ e, e = T.getD x (0, 0, 0, 0) := ⟨_, rfl⟩
    rw [← he] at ee i1 i2 i3 tw tk
    obtain ⟨sa, hsa⟩ : ∃ sa, sa = up s 98 l (e.2.2.2 : Int) := ⟨_, rfl⟩
    have fsa : ∀ c k, ¬ (c = 98 ∧ k = l) → sa c k = s c k := fun c k y => by rw [hsa, up_ne y]
    have ba : BLc Z sa := BLc_of hb (fsa 2 13 (by omega)) (fsa 2 14 (by omega))
    have ex : xR F P s0 t0 C O Q R L I c l T out w (s 106) = (if out = 1 ∧ e.2.1 ≠ l then [16 * j + 3] else []) ++ (if s0 9 (j + 1) = 91 then [16 * (j + 1) + 5] else if out = 0 ∧ e.2.2.1 ≠ -1 ∧ w ≠ -1 ∧ e.2.2.1 ≠ w then [16 * j + 5] else []) := by unfold xR; rw [hj, if_pos c3, if_pos ek, if_neg (by rw [f1]; omega), ee]
    have et : tgR F P s0 t0 C Q R L I c l T = (e.2.2.2 : Int) := by unfold tgR; rw [hj, if_pos c3, if_pos ek, ee]
    rw [f1, gr (by omega), if_neg (by omega), gd_pos (by omega), Int.toNat_natCast, i3, lt_eq, ← hsa, gr (by omega)]
    -- linked before?
    obtain ⟨s1, a1, a2, a3⟩ := bl_if2 (p := out = 1 ∧ e.2.1 ≠ l) (f := 3) (j := j) (G := fun z => cck_checkInner_70 (l : Int) out (j : Int) (x : Int) z) ba (by omega) (by omega)
    have s104 : sa 104 x = (e.2.1 : Int) := by rw [fsa 104 x (by omega)]; exact i1
    have A : (if out = 0 then cck_checkInner_70 (l : Int) out (j : Int) (x : Int) sa else gd (rg (sa 104 x)) (gd (rg (l : Int)) (if (sa 104 x) = (l : Int) then cck_checkInner_70 (l : Int) out (j : Int) (x : Int) sa else bd (tok_blame 3 (j : Int) sa) (fun _ s12 => cck_checkInner_70 (l : Int) out (j : Int) (x : Int) s12)))) = cck_checkInner_70 (l : Int) out (j : Int) (x : Int) s1 := by
      rw [← a1]
      by_cases o : out = 0
      · rw [if_pos o, if_neg (fun y => by omega)]
      · rw [if_neg o, s104, gr (by omega), gr (by omega)]
        by_cases y : e.2.1 = l
        · rw [if_pos (by omega), if_neg (fun q => q.2 y)]
        · rw [if_neg (by omega), if_pos ⟨by omega, y⟩]
          rfl
    rw [A, ex, et, ← List.append_assoc]
    have f1s : ∀ c k, ¬ (c = 2 ∧ (k = 13 ∨ k = 14)) → ¬ (c = 98 ∧ k = l) → s1 c k = s c k := fun c k y1 y2 => by rw [a3 c k y1, fsa c k y2]
    have hc1 : KC F P s0 t0 C O Q R L E s1 := KC_of hc (fun c k y => f1s c k (by omega) (by omega))
    have t98 : s1 98 l = (e.2.2.2 : Int) := by rw [a3 98 l (by omega), hsa, up_same]
    have kj1 := kRg h rok.1
    generalize hZ1 : Z ++ (if out = 1 ∧ e.2.1 ≠ l then [16 * j + 3] else []) = Z1 at *
    unfold cck_checkInner_70
    rw [show (j : Int) + 1 = ((j + 1 : Nat) : Int) by omega, cKo h hc1.1 rok.1, bq, gr (by omega)]
    by_cases q1 : s0 9 (j + 1) = 91
    · obtain ⟨s2, b1, b2, b3⟩ := bl_add (f := 5) (t := j + 1) a2 (by omega) (by omega)
      rw [if_pos q1, if_pos q1, show (5 : Int) = ((5 : Nat) : Int) from rfl, b1, bq, bq]
      exact ⟨s2, rfl, b2, funext fun k => by rw [b3 106 k (by omega), f1s 106 k (by omega) (by omega)], fun _ => by rw [b3 98 l (by omega)]; exact t98, fun c' k z1 z2 z3 => by rw [b3 c' k z1, f1s c' k z1 z2]⟩
    · rw [if_neg q1, if_neg q1, gr (by omega)]
      by_cases o : out = 0
      · obtain ⟨s2, b1, b2, b3⟩ := c_cmp (w' := e.2.2.1) (j := j) a2 (show l < 500 by omega) (show s1 97 l = w by rw [f1s 97 l (by omega) (by omega)]; exact h97) hw1 (by rw [f1s 86 l (by omega) (by omega)]; exact e86) (by omega) (by omega)
        have s102 : s1 102 x = e.2.2.1 := by rw [f1s 102 x (by omega) (by omega)]; exact i2
        rw [if_pos o, gd_pos (by omega), Int.toNat_natCast, s102, b1, bq, bq]
        refine ⟨s2, rfl, ?_, funext fun k => by rw [b3 106 k (by omega), f1s 106 k (by omega) (by omega)], fun _ => by rw [b3 98 l (by omega)]; exact t98, fun c' k z1 z2 z3 => by rw [b3 c' k z1, f1s c' k z1 z2]⟩
        by_cases y : e.2.2.1 ≠ -1 ∧ w ≠ -1 ∧ e.2.2.1 ≠ w
        · rw [if_pos y] at b2
          rw [if_pos ⟨o, y⟩]
          exact b2
        · rw [if_neg y] at b2
          rw [if_neg (fun q => y q.2)]
          exact b2
      · rw [if_neg o, if_neg (fun q => o q.1), List.append_nil, bq]
        exact ⟨s1, rfl, a2, funext fun k => f1s 106 k (by omega) (by omega), fun _ => t98, fun c' k z1 z2 z3 => f1s c' k z1 z2⟩
  -- a pin of the chip
  rw [z1] at ek
  have pm := paI_m hs hi2
  rw [z1, gr (by omega), if_neg (by omega), c_out hs hc hi2 (by omega), bq]
  have eo : oR F P t0 C O Q R L I c l = if k < ooI O (2 + c) then 0 else 1 := by
    unfold oR
    rw [ek]
    by_cases y : k < ooI O (2 + c)
    · rw [if_pos y, if_neg (by omega)]
    · rw [if_neg y, if_pos (by omega)]
  rw [← eo]
  have orr : oR F P t0 C O Q R L I c l = 0 ∨ oR F P t0 C O Q R L I c l = 1 := by rw [eo]; split <;> omega
  have kne : ¬ kR F P t0 C Q R L I c l = -1 := by rw [ek]; omega
  rw [gr (by omega), gr (by omega)]
  by_cases oe : oR F P t0 C O Q R L I c l = out
  case neg =>
    have ex : xR F P s0 t0 C O Q R L I c l T out w (s 106) = [16 * j + 4] := by unfold xR; rw [hj, if_pos c3, if_neg kne, if_neg oe]
    have em : mR F P s0 t0 C O Q R L I c l out (s 106) = s 106 := by unfold mR; rw [if_neg (fun y => oe (y.2.2.1.trans y.2.2.2.1.symm))]
    obtain ⟨s1, a1, a2, a3⟩ := bl_add (f := 4) (t := j) hb (by omega) (by omega)
    rw [if_neg oe, show (4 : Int) = ((4 : Nat) : Int) from rfl, a1, bq, ex, em]
    exact ⟨s1, rfl, a2, funext fun k => a3 106 k (by omega), fun z => absurd z (by simp), fun c' k z1 z2 z3 => a3 c' k z1⟩
  have pr := pwI_rg (s0 := s0) (Q := Q) (k := k)
  have w91 : s 91 k = pwI s0 Q k := hw.1 k (by omega)
  have o92 : s 92 k = (ofI s0 C Q R I (2 + c) k : Int) := hw.2 (2 + c) k hi2 z2 z3 (by omega)
  have ew : wR F P s0 t0 C Q R L I c l = rwB s0 j (pwI s0 Q k) := by unfold wR; rw [hj, ek, Int.toNat_natCast]
  obtain ⟨lr1, lr2, lr3⟩ := lo_rg h rok pr
  rw [← ew] at lr3
  obtain ⟨sa, hsa⟩ : ∃ sa, sa = up s 98 l ((ofI s0 C Q R I (2 + c) k : Int) + loB s0 j) := ⟨_, rfl⟩
  have fsa : ∀ c k, ¬ (c = 98 ∧ k = l) → sa c k = s c k := fun c k y => by rw [hsa, up_ne y]
  have hca : KC F P s0 t0 C O Q R L E sa := KC_of hc (fun c k y => fsa c k (by omega))
  have ba : BLc Z sa := BLc_of hb (fsa 2 13 (by omega)) (fsa 2 14 (by omega))
  have et : tgR F P s0 t0 C Q R L I c l T = (ofI s0 C Q R I (2 + c) k : Int) + loB s0 j := by unfold tgR; rw [hj, if_pos c3, if_neg kne, ek, Int.toNat_natCast]
  rw [if_pos oe]
  unfold cck_checkOwnPin
  rw [gd_pos (by omega), Int.toNat_natCast, e86, c_low h hc.1 rok, bq, gd_pos (by omega), Int.toNat_natCast, w91, c_high h hc.1 rok, bq, w91, c_rw h rok pr, bq, ← ew, o92, lt_eq, ← hsa, gr (by omega)]
  by_cases wm : wR F P s0 t0 C Q R L I c l = -1
  · have ex : xR F P s0 t0 C O Q R L I c l T out w (s 106) = [16 * (j + 1) + 5] := by unfold xR; rw [hj, if_pos c3, if_neg kne, if_pos oe, if_pos wm]
    have em : mR F P s0 t0 C O Q R L I c l out (s 106) = s 106 := by unfold mR; rw [if_neg (fun y => y.2.2.2.2 wm)]
    have j1 := rok.1
    obtain ⟨s1, a1, a2, a3⟩ := bl_add (f := 5) (t := j + 1) ba (by omega) (by omega)
    rw [if_pos wm, show (j : Int) + 1 = ((j + 1 : Nat) : Int) by omega, show (5 : Int) = ((5 : Nat) : Int) from rfl, a1, bq, bq, ex, em]
    exact ⟨s1, rfl, a2, funext fun k => by rw [a3 106 k (by omega), fsa 106 k (by omega)], fun z => absurd z (by simp), fun c' k z1 z2 z3 => by rw [a3 c' k z1, fsa c' k z2]⟩
  rw [if_neg wm, gd_pos (by omega), c_out hs hca hi2 (by omega), bq, ← eo, oe, gr (by omega)]
  unfold cck_checkOwnPin_129
  -- widths are compared at last
  have fin : ∀ (sx : iS) (X : List Nat), BLc (Z ++ X) sx → (∀ c' k, ¬ (c' = 2 ∧ (k = 13 ∨ k = 14)) → ¬ (c' = 98 ∧ k = l) → c' ≠ 106 → sx c' k = s c' k) → sx 98 l = (ofI s0 C Q R I (2 + c) k : Int) + loB s0 j → ∃ s', bd (bd (cck_compareWidths (l : Int) (wR F P s0 t0 C Q R L I c l) sx) (fun _ s1 => some (0, s1))) (fun _ s12 => some ((0 : Int), s12)) = some ((0 : Int), s') ∧ BLc (Z ++ (X ++ (if w ≠ -1 ∧ wR F P s0 t0 C Q R L I c l ≠ w then [16 * j + 5] else []))) s' ∧ s' 106 = sx 106 ∧ s' 98 l = (ofI s0 C Q R I (2 + c) k : Int) + loB s0 j ∧ (∀ c' k, ¬ (c' = 2 ∧ (k = 13 ∨ k = 14)) → ¬ (c' = 98 ∧ k = l) → c' ≠ 106 → s' c' k = s c' k) := fun sx X y1 y2 y3 => by
    obtain ⟨s2, b1, b2, b3⟩ := c_cmp (w' := wR F P s0 t0 C Q R L I c l) (j := j) y1 (show l < 500 by omega) (show sx 97 l = w by rw [y2 97 l (by omega) (by omega) (by omega)]; exact h97) hw1 (by rw [y2 86 l (by omega) (by omega) (by omega)]; exact e86) (by omega) (by omega)
    rw [b1, bq, bq]
    refine ⟨s2, rfl, ?_, funext fun k => b3 106 k (by omega), by rw [b3 98 l (by omega)]; exact y3, fun c' k q1 q2 q3 => by rw [b3 c' k q1, y2 c' k q1 q2 q3]⟩
    rw [← List.append_assoc]
    by_cases y : w ≠ -1 ∧ wR F P s0 t0 C Q R L I c l ≠ w
    · rw [if_pos ⟨wm, y⟩] at b2
      rw [if_pos y]
      exact b2
    · rw [if_neg (fun q => y q.2)] at b2
      rw [if_neg y]
      exact b2
  have sa98 : sa 98 l = (ofI s0 C Q R I (2 + c) k : Int) + loB s0 j := by rw [hsa, up_same]
  by_cases o : out = 0
  · have ex : xR F P s0 t0 C O Q R L I c l T out w (s 106) = [] ++ (if w ≠ -1 ∧ wR F P s0 t0 C Q R L I c l ≠ w then [16 * j + 5] else []) := by unfold xR; rw [hj, if_pos c3, if_neg kne, if_pos oe, if_neg wm, if_neg (fun y => by omega)]
    have em : mR F P s0 t0 C O Q R L I c l out (s 106) = s 106 := by unfold mR; rw [if_neg (fun y => by omega)]
    rw [if_pos o, ex, em, et]
    obtain ⟨s', a1, a2, a3, a4, a5⟩ := fin sa [] (by rw [List.append_nil]; exact ba) (fun c' k q1 q2 q3 => fsa c' k q2) sa98
    exact ⟨s', a1, a2, a3.trans (funext fun k => fsa 106 k (by omega)), fun _ => a4, a5⟩
  · have o1 : out = 1 := by omega
    have e76 : sa 76 (2 + c) = (paI C Q R I (2 + c) : Int) := by
      rw [(KC_c (I := I) hca bd'.1 (c := c) (by omega)).1, (paI_c (Q := Q) (R := R) (I := I) hcl).1]
      omega
    have ix : k - paI C Q R I (2 + c) < 12 := by omega
    unfold cck_rangeMask
    rw [if_neg o, bq, Int.toNat_natCast, e76, show (k : Int) - (paI C Q R I (2 + c) : Int) = ((k - paI C Q R I (2 + c) : Nat) : Int) by omega, c_lkd ix, bq]
    have e106 : sa 106 (k - paI C Q R I (2 + c)) = s 106 (k - paI C Q R I (2 + c)) := fsa 106 _ (by omega)
    obtain ⟨mv, hmv⟩ : ∃ mv, mv = mkB (loB s0 j) (wR F P s0 t0 C Q R L I c l) := ⟨_, rfl⟩
    have hmv' : i_shl ((i_shl 1 (wR F P s0 t0 C Q R L I c l)) - 1) (loB s0 j) = mv := by rw [hmv]; rfl
    rw [hmv', e106]
    have em : mR F P s0 t0 C O Q R L I c l out (s 106) = mU (s 106) (k - paI C Q R I (2 + c)) mv := by
      unfold mR
      rw [hj, if_pos ⟨c3, kne, by rw [oe]; exact o1, o1, wm⟩, ek, Int.toNat_natCast, hmv]
    have ex : xR F P s0 t0 C O Q R L I c l T out w (s 106) = (if i_and (s 106 (k - paI C Q R I (2 + c))) mv = 0 then [] else [16 * j + 3]) ++ (if w ≠ -1 ∧ wR F P s0 t0 C Q R L I c l ≠ w then [16 * j + 5] else []) := by
      unfold xR
      rw [hj, if_pos c3, if_neg kne, if_pos oe, if_neg wm, ek, Int.toNat_natCast, ← hmv]
      congr 1
      by_cases y : i_and (s 106 (k - paI C Q R I (2 + c))) mv = 0
      · rw [if_pos y, if_neg (fun q => q.2 y)]
      · rw [if_neg y, if_pos ⟨o1, y⟩]
    obtain ⟨sb, hsb⟩ : ∃ sb, sb = up sa 106 (k - paI C Q R I (2 + c)) (i_or (s 106 (k - paI C Q R I (2 + c))) mv) := ⟨_, rfl⟩
    have bb : BLc Z sb := BLc_of ba (by rw [hsb, up_ne (by omega)]) (by rw [hsb, up_ne (by omega)])
    have fsb : ∀ c' k, ¬ (c' = 98 ∧ k = l) → c' ≠ 106 → sb c' k = s c' k := fun c' k q1 q2 => by rw [hsb, up_ne (by omega), fsa c' k q1]
    have b106 : sb 106 = mU (s 106) (k - paI C Q R I (2 + c)) mv := funext fun x => by
      unfold mU
      by_cases y : x = k - paI C Q R I (2 + c)
      · rw [if_pos y, y, hsb, up_same]
      · rw [if_neg y, hsb, up_ne (by omega), fsa 106 x (by omega)]
    have b98 : sb 98 l = (ofI s0 C Q R I (2 + c) k : Int) + loB s0 j := by rw [hsb, up_ne (by omega)]; exact sa98
    rw [← hsb, ex, em, et]
    by_cases y : i_and (s 106 (k - paI C Q R I (2 + c))) mv = 0
    · rw [if_pos y, if_pos y, gr (by omega), if_pos rfl]
      obtain ⟨s', a1, a2, a3, a4, a5⟩ := fin sb [] (by rw [List.append_nil]; exact bb) (fun c' k q1 q2 q3 => fsb c' k q2 q3) b98
      exact ⟨s', a1, a2, a3.trans b106, fun _ => a4, a5⟩
    · obtain ⟨s1, d1, d2, d3⟩ := bl_add (f := 3) (t := j) bb (by omega) (by omega)
      rw [if_neg y, if_neg y, gr (by omega), if_neg (by omega), show (3 : Int) = ((3 : Nat) : Int) from rfl, d1, bq]
      obtain ⟨s', a1, a2, a3, a4, a5⟩ := fin s1 [16 * j + 3] d2 (fun c' k q1 q2 q3 => by rw [d3 c' k q1, fsb c' k q2 q3]) (by rw [d3 98 l (by omega)]; exact b98)
      exact ⟨s', a1, a2, a3.trans ((funext fun k => d3 106 k (by omega)).trans b106), fun _ => a4, a5⟩
end CIl
