/-! chips: links are checked by the class: left sides -/
section CIm
variable (F : Nat → Int) (P : Nat → Nat) (s0 t0 : iS) (N : Nat) (C : List chR) (O : List Nat) (Q : List (Nat × Int)) (R L : List (Nat × Nat)) (E I : List Nat)
/-- the left side's pin; OUT; its width -/
def kL (i l : Nat) : Int := pfI F P t0 C Q R I i (lL L l)
def oL (i l : Nat) : Int := if (ooI O i : Int) ≤ kL F P t0 C Q R L I i l then 1 else 0
def wLl (i l : Nat) : Int := rwB s0 (lL L l) (pwI s0 Q (kL F P t0 C Q R L I i l).toNat)
/-- notes of a link's left side, its pin being there -/
def xL (i l : Nat) (mi : Nat → Int) : List Nat := if wLl F P s0 t0 C Q R L I i l = -1 then [16 * (lL L l + 1) + 5] else if oL F P t0 C O Q R L I i l = 0 ∧ i_and (mi ((kL F P t0 C Q R L I i l).toNat - paI C Q R I i)) (mkB (loB s0 (lL L l)) (wLl F P s0 t0 C Q R L I i l)) ≠ 0 then [16 * lL L l + 3] else []
def mL (i l : Nat) (mi : Nat → Int) : Nat → Int := if oL F P t0 C O Q R L I i l = 0 ∧ kL F P t0 C Q R L I i l ≠ -1 ∧ wLl F P s0 t0 C Q R L I i l ≠ -1 then mU mi ((kL F P t0 C Q R L I i l).toNat - paI C Q R I i) (mkB (loB s0 (lL L l)) (wLl F P s0 t0 C Q R L I i l)) else mi
/-- all notes of a link -/
def xK (c i l : Nat) (T : List tEn) (mi mo : Nat → Int) : List Nat := if kL F P t0 C Q R L I i l = -1 then [16 * lL L l + 4] else xL F P s0 t0 C O Q R L I i l mi ++ xR F P s0 t0 C O Q R L I c l T (oL F P t0 C O Q R L I i l) (wLl F P s0 t0 C Q R L I i l) mo
def mK (c i l : Nat) (mo : Nat → Int) : Nat → Int := if kL F P t0 C Q R L I i l = -1 then mo else mR F P s0 t0 C O Q R L I c l (oL F P t0 C O Q R L I i l) mo
/-- what the class keeps of a link -/
def LKC (c i l : Nat) (T : List tEn) (s : iS) : Prop := s 95 l = kL F P t0 C Q R L I i l ∧ s 96 l = loB s0 (lL L l) ∧ s 97 l = wLl F P s0 t0 C Q R L I i l ∧ s 98 l = tgR F P s0 t0 C Q R L I c l T
end CIm
section CIn
variable {F : Nat → Int} {n N : Nat} {P : Nat → Nat} {s0 t0 s t s' t' : iS} {C : List chR} {O E I : List Nat} {Q : List (Nat × Int)} {R L : List (Nat × Nat)} {c b i j k q r l : Nat} {Z : List Nat} {T : List tEn} {out w : Int}
/-- the class: a link -/
theorem c_link (h : TKR 1 F n N P s0 t0) (hs : KHS F P s0 t0 N C O Q R L E I) (hc : KC F P s0 t0 C O Q R L E s) (hb : BLc Z s) (hw : KW s0 C Q R I Q.length s) (hcl : c < C.length) (hrr : (hAt C Q R I c).2.2.1 ≤ r ∧ r < (hAt C Q R I (c + 1)).2.2.1) (hl : (R.getD r (0, 0)).2 ≤ l ∧ l < E.getD r 0) (hi : i < 2 + C.length) (hT : TOK F P s0 t0 N C Q R L I c b T) (hI : IRc F P t0 c b T s) : ∃ s', cck_checkLeft ((2 + c : Nat) : Int) (i : Int) (l : Int) s = some (0, s') ∧ BLc (Z ++ xK F P s0 t0 C O Q R L I c i l T (s 105) (s 106)) s' ∧ s' 105 = mL F P s0 t0 C O Q R L I i l (s 105) ∧ s' 106 = mK F P s0 t0 C O Q R L I c i l (s 106) ∧ (xK F P s0 t0 C O Q R L I c i l T (s 105) (s 106) = [] → LKC F P s0 t0 C Q R L I c i l T s') ∧ (∀ c' k, ¬ (c' = 2 ∧ (k = 13 ∨ k = 14)) → ¬ (95 ≤ c' ∧ c' ≤ 98 ∧ k = l) → c' ≠ 105 → c' ≠ 106 → s' c' k = s c' k) := by
  have hN := N2001 h
  have bd' := KHS_bd hs
  obtain ⟨-, -, -, -, p, -, -, -⟩ := KHS_c hs hcl
  obtain ⟨-, -, le, g⟩ := p r hrr.1 hrr.2
  obtain ⟨⟨lo1, lo2, lo3, lo4, lo5⟩, -⟩ := g l hl.1 hl.2
  have lx : l < L.length := by omega
  have e85 : s 85 l = (lL L l : Int) := (hc.2.1.2.2.2.2.2 l lx).1
  have lLd : (L.getD l (0, 0)).1 = lL L l := rfl
  rw [lLd] at lo1 lo2 lo3
  unfold cck_checkLeft
  rw [gd_pos (by omega), Int.toNat_natCast, e85, c_pin h hs hc ⟨lo1, lo2⟩ hi, bq]
  rcases pfI_rg (j := lL L l) hs hi with z | ⟨k, z1, z2, z3, z4⟩
  · have ek : kL F P t0 C Q R L I i l = -1 := z
    have ex : xK F P s0 t0 C O Q R L I c i l T (s 105) (s 106) = [16 * lL L l + 4] := by unfold xK; rw [if_pos ek]
    have em : mK F P s0 t0 C O Q R L I c i l (s 106) = s 106 := by unfold mK; rw [if_pos ek]
    have em2 : mL F P s0 t0 C O Q R L I i l (s 105) = s 105 := by unfold mL; rw [if_neg (fun y => y.2.1 ek)]
    obtain ⟨s1, a1, a2, a3⟩ := bl_add (f := 4) (t := lL L l) hb (by omega) (by omega)
    rw [z, gr (by omega), if_pos rfl, show (4 : Int) = ((4 : Nat) : Int) from rfl, a1, bq, ex, em, em2]
    exact ⟨s1, rfl, a2, funext fun k => a3 105 k (by omega), funext fun k => a3 106 k (by omega), fun y => absurd y (by simp), fun c' k q1 q2 q3 q4 => a3 c' k q1⟩
  have ek : kL F P t0 C Q R L I i l = (k : Int) := z1
  have kne : ¬ kL F P t0 C Q R L I i l = -1 := by rw [ek]; omega
  have pm := paI_m hs hi
  have pr := pwI_rg (s0 := s0) (Q := Q) (k := k)
  have w91 : s 91 k = pwI s0 Q k := hw.1 k (by omega)
  have ew : wLl F P s0 t0 C Q R L I i l = rwB s0 (lL L l) (pwI s0 Q k) := by unfold wLl; rw [ek, Int.toNat_natCast]
  obtain ⟨lr1, lr2, lr3⟩ := lo_rg h lo3 pr
  rw [← ew] at lr3
  have eo : oL F P t0 C O Q R L I i l = if k < ooI O i then 0 else 1 := by
    unfold oL
    rw [ek]
    by_cases y : k < ooI O i
    · rw [if_pos y, if_neg (by omega)]
    · rw [if_neg y, if_pos (by omega)]
  have orr : oL F P t0 C O Q R L I i l = 0 ∨ oL F P t0 C O Q R L I i l = 1 := by rw [eo]; split <;> omega
  obtain ⟨sa, hsa⟩ : ∃ sa, sa = up (up (up s 95 l (k : Int)) 96 l (loB s0 (lL L l))) 97 l (wLl F P s0 t0 C Q R L I i l) := ⟨_, rfl⟩
  have fsa : ∀ c k, ¬ (95 ≤ c ∧ c ≤ 97 ∧ k = l) → sa c k = s c k := fun c k y => by rw [hsa, up_ne (by omega), up_ne (by omega), up_ne (by omega)]
  have hca : KC F P s0 t0 C O Q R L E sa := KC_of hc (fun c k y => fsa c k (by omega))
  have ba : BLc Z sa := BLc_of hb (fsa 2 13 (by omega)) (fsa 2 14 (by omega))
  have a95 : sa 95 l = (k : Int) ∧ sa 96 l = loB s0 (lL L l) ∧ sa 97 l = wLl F P s0 t0 C Q R L I i l := by
    rw [hsa]
    exact ⟨by rw [up_ne (by omega), up_ne (by omega), up_same], by rw [up_ne (by omega), up_same], up_same _ _ _ _⟩
  rw [z1, gr (by omega), if_neg (by omega), c_low h hc.1 lo3, bq, gd_pos (by omega), Int.toNat_natCast, w91, c_high h hc.1 lo3, bq, w91, c_rw h lo3 pr, bq, ← ew, c_out hs hc hi (by omega), bq, ← eo, lt_eq, lt_eq, lt_eq, ← hsa, gr (by omega)]
  have exK : xK F P s0 t0 C O Q R L I c i l T (s 105) (s 106) = xL F P s0 t0 C O Q R L I i l (s 105) ++ xR F P s0 t0 C O Q R L I c l T (oL F P t0 C O Q R L I i l) (wLl F P s0 t0 C Q R L I i l) (s 106) := by unfold xK; rw [if_neg kne]
  have emK : mK F P s0 t0 C O Q R L I c i l (s 106) = mR F P s0 t0 C O Q R L I c l (oL F P t0 C O Q R L I i l) (s 106) := by unfold mK; rw [if_neg kne]
  -- the right side
  have fin : ∀ (sx : iS) (X : List Nat), BLc (Z ++ X) sx → (∀ c' k, ¬ (c' = 2 ∧ (k = 13 ∨ k = 14)) → c' ≠ 105 → sx c' k = sa c' k) → sx 105 = mL F P s0 t0 C O Q R L I i l (s 105) → xL F P s0 t0 C O Q R L I i l (s 105) = X → ∃ s', cck_checkLeft_170 ((2 + c : Nat) : Int) (l : Int) (oL F P t0 C O Q R L I i l) sx = some (0, s') ∧ BLc (Z ++ xK F P s0 t0 C O Q R L I c i l T (s 105) (s 106)) s' ∧ s' 105 = mL F P s0 t0 C O Q R L I i l (s 105) ∧ s' 106 = mK F P s0 t0 C O Q R L I c i l (s 106) ∧ (xK F P s0 t0 C O Q R L I c i l T (s 105) (s 106) = [] → LKC F P s0 t0 C Q R L I c i l T s') ∧ (∀ c' k, ¬ (c' = 2 ∧ (k = 13 ∨ k = 14)) → ¬ (95 ≤ c' ∧ c' ≤ 98 ∧ k = l) → c' ≠ 105 → c' ≠ 106 → s' c' k = s c' k) := fun sx X y1 y2 y3 y4 => by
    have hcx : KC F P s0 t0 C O Q R L E sx := KC_of hca (fun c k y => y2 c k (by omega) (by omega))
    have e106 : sx 106 = s 106 := funext fun k => by rw [y2 106 k (by omega) (by omega), fsa 106 k (by omega)]
    obtain ⟨s', b1, b2, b3, b4, b5⟩ := c_right (out := oL F P t0 C O Q R L I i l) (w := wLl F P s0 t0 C Q R L I i l) (T := T) h hs hcx y1 (KW_of hw (fun c k y _ => by rw [y2 c k (by omega) (by omega), fsa c k (by omega)])) hcl hrr hl hT (IRc_of hI (fun c' k y => by rw [y2 c' k (by omega) (by omega), fsa c' k (by omega)])) orr (by rw [y2 97 l (by omega) (by omega)]; exact a95.2.2) (by omega)
    rw [e106] at b2 b3 b4
    refine ⟨s', ?_, ?_, ?_, by rw [emK]; exact b3, fun y => ?_, fun c' k q1 q2 q3 q4 => by rw [b5 c' k q1 (by omega) q4, y2 c' k q1 q3, fsa c' k (by omega)]⟩
    · unfold cck_checkLeft_170
      rw [b1, bq]
    · rw [exK, y4, ← List.append_assoc]
      exact b2
    · rw [← y3]
      exact funext fun k => b5 105 k (by omega) (by omega) (by omega)
    · rw [exK] at y
      have yr := (List.append_eq_nil_iff.mp y).2
      refine ⟨?_, ?_, ?_, b4 yr⟩
      · rw [b5 95 l (by omega) (by omega) (by omega), y2 95 l (by omega) (by omega), ek]
        exact a95.1
      · rw [b5 96 l (by omega) (by omega) (by omega), y2 96 l (by omega) (by omega)]
        exact a95.2.1
      · rw [b5 97 l (by omega) (by omega) (by omega), y2 97 l (by omega) (by omega)]
        exact a95.2.2
  by_cases wm : wLl F P s0 t0 C Q R L I i l = -1
  · have ex : xL F P s0 t0 C O Q R L I i l (s 105) = [16 * (lL L l + 1) + 5] := by unfold xL; rw [if_pos wm]
    have em : mL F P s0 t0 C O Q R L I i l (s 105) = s 105 := by unfold mL; rw [if_neg (fun y => y.2.2 wm)]
    have j1 := lo3.1
    obtain ⟨s1, a1, a2, a3⟩ := bl_add (f := 5) (t := lL L l + 1) ba (by omega) (by omega)
    rw [if_pos wm, show (lL L l : Int) + 1 = ((lL L l + 1 : Nat) : Int) by omega, show (5 : Int) = ((5 : Nat) : Int) from rfl, a1, bq]
    exact fin s1 _ a2 (fun c' k q1 q2 => a3 c' k q1) (by rw [em]; exact funext fun k => by rw [a3 105 k (by omega), fsa 105 k (by omega)]) ex
  rw [if_neg wm, gr (by omega)]
  by_cases o : oL F P t0 C O Q R L I i l = 0
  case neg =>
    have ex : xL F P s0 t0 C O Q R L I i l (s 105) = [] := by unfold xL; rw [if_neg wm, if_neg (fun y => o y.1)]
    have em : mL F P s0 t0 C O Q R L I i l (s 105) = s 105 := by unfold mL; rw [if_neg (fun y => o y.1)]
    rw [if_neg o]
    exact fin sa [] (by rw [List.append_nil]; exact ba) (fun _ _ _ _ => rfl) (by rw [em]; exact funext fun k => fsa 105 k (by omega)) ex
  have e76 : sa 76 i = (paI C Q R I i : Int) := by
    rw [fsa 76 i (by omega)]
    unfold paI
    by_cases x0 : i = 0
    · rw [if_pos x0, x0, hc.2.2.1.1]; rfl
    · rw [if_neg x0]
      by_cases x1 : i = 1
      · rw [if_pos x1, x1, hc.2.2.1.2.1]; rfl
      · rw [if_neg x1]
        have := (KC_c (I := I) hc bd'.1 (c := i - 2) (by omega)).1
        rw [show 2 + (i - 2) = i by omega] at this
        rw [this]
        omega
  have ix : k - paI C Q R I i < 12 := by omega
  unfold cck_rangeMask
  rw [if_pos o, gd_pos (by omega), bq, Int.toNat_natCast, e76, show (k : Int) - (paI C Q R I i : Int) = ((k - paI C Q R I i : Nat) : Int) by omega, c_lkd ix, bq]
  have e105 : sa 105 (k - paI C Q R I i) = s 105 (k - paI C Q R I i) := fsa 105 _ (by omega)
  obtain ⟨mv, hmv⟩ : ∃ mv, mv = mkB (loB s0 (lL L l)) (wLl F P s0 t0 C Q R L I i l) := ⟨_, rfl⟩
  have hmv' : i_shl ((i_shl 1 (wLl F P s0 t0 C Q R L I i l)) - 1) (loB s0 (lL L l)) = mv := by rw [hmv]; rfl
  rw [hmv', e105]
  have em : mL F P s0 t0 C O Q R L I i l (s 105) = mU (s 105) (k - paI C Q R I i) mv := by
    unfold mL
    rw [if_pos ⟨o, kne, wm⟩, ek, Int.toNat_natCast, hmv]
  obtain ⟨sb, hsb⟩ : ∃ sb, sb = up sa 105 (k - paI C Q R I i) (i_or (s 105 (k - paI C Q R I i)) mv) := ⟨_, rfl⟩
  have bb : BLc Z sb := BLc_of ba (by rw [hsb, up_ne (by omega)]) (by rw [hsb, up_ne (by omega)])
  have fsb : ∀ c' k, c' ≠ 105 → sb c' k = sa c' k := fun c' k q1 => by rw [hsb, up_ne (by omega)]
  have b105 : sb 105 = mU (s 105) (k - paI C Q R I i) mv := funext fun x => by
    unfold mU
    by_cases y : x = k - paI C Q R I i
    · rw [if_pos y, y, hsb, up_same]
    · rw [if_neg y, hsb, up_ne (by omega), fsa 105 x (by omega)]
  rw [← hsb]
  by_cases y : i_and (s 105 (k - paI C Q R I i)) mv = 0
  · have ex : xL F P s0 t0 C O Q R L I i l (s 105) = [] := by unfold xL; rw [if_neg wm, if_neg (fun q => q.2 (by rw [ek, Int.toNat_natCast, ← hmv]; exact y))]
    rw [if_pos y, gr (by omega), if_pos rfl]
    exact fin sb [] (by rw [List.append_nil]; exact bb) (fun c' k q1 q2 => fsb c' k q2) (by rw [em]; exact b105) ex
  · have ex : xL F P s0 t0 C O Q R L I i l (s 105) = [16 * lL L l + 3] := by unfold xL; rw [if_neg wm, if_pos ⟨o, by rw [ek, Int.toNat_natCast, ← hmv]; exact y⟩]
    obtain ⟨s1, d1, d2, d3⟩ := bl_add (f := 3) (t := lL L l) bb (by omega) (by omega)
    rw [if_neg y, gr (by omega), if_neg (by omega), show (3 : Int) = ((3 : Nat) : Int) from rfl, d1, bq]
    exact fin s1 _ d2 (fun c' k q1 q2 => by rw [d3 c' k q1, fsb c' k q2]) (by rw [em]; exact (funext fun k => d3 105 k (by omega)).trans b105) ex
end CIn
