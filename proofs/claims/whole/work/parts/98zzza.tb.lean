/-! the reference's checks: calls -/
section RK9
variable {F : Nat → Int} {n N : Nat} {P : Nat → Nat} {s0 t0 t t2 t' t'' : iS} {a b i j u q k c l : Nat} {K : List Nat} {U : List urec} {W : List wrec} {Y : List Nat} {ow y v f o m : Int} {L : List Nat}
def owR (F : Nat → Int) (P : Nat → Nat) (s0 t0 : iS) (K : List Nat) (U : List urec) (W : List wrec) (q : Nat) (f : Int) : Int := if f = -1 then 8 + (uAt U q).1 else if rvI F P t0 U W q f.toNat = -1 then fcK F P t0 K f.toNat else tyT F P s0 t0 K (wGt W (rvI F P t0 U W q f.toNat).toNat)
def obR (F : Nat → Int) (P : Nat → Nat) (t0 : iS) (U : List urec) (W : List wrec) (q : Nat) (f : Int) : Int := if f = -1 then 2 else if rvI F P t0 U W q f.toNat = -1 then 0 else 1
def isM (U : List urec) (ow sb : Int) : Int := if 8 ≤ ow then (if (uAt U sb.toNat).2.1 = 3 then 1 else 0) else sysME.getD sb.toNat 0
def mnR (W : List wrec) (ow sb : Int) : Int := if 8 ≤ ow then (nwP (sb.toNat : Int) W : Int) else sysMN.getD sb.toNat 0
def nt259 (U : List urec) (q : Nat) (o : Int) (l : Nat) : List Nat := if o = 2 ∧ (uAt U q).2.1 = 2 then [16 * l + 6] else []
def nt173 (F : Nat → Int) (P : Nat → Nat) (t0 : iS) (U : List urec) (W : List wrec) (q : Nat) (o ow : Int) (l : Nat) (m : Int) : List Nat := if sbR F P t0 U ow l = -1 then [16 * l + 4] else (if isM U ow (sbR F P t0 U ow l) = (if o ≤ 0 then 0 else 1) ∧ mnR W ow (sbR F P t0 U ow l) = m then [] else [16 * l + 5]) ++ nt259 U q o l
theorem cc259 (h : RG F n N P s0 t0 K U W Y t) (hb : RBc P N L t) (hc : c < 1000) (hq : q < U.length) (hl : l < N) (ho : t 152 c = o) (ho2 : 0 ≤ o ∧ o ≤ 2) : ∃ t', m_checkCall_259 (c : Int) (q : Int) (l : Int) t = some (0, t') ∧ RBc P N (L ++ nt259 U q o l) t' ∧ FN t t' := by
  obtain ⟨u1, u2, u3, u4, u5, u6, u7, u8, u9, u10, u11⟩ := RG_U h hq
  unfold m_checkCall_259 nt259 uAt
  rw [gd_pos (by omega), Int.toNat_natCast, Int.toNat_natCast, ho, gr (by omega)]
  by_cases c1 : o = 2
  · rw [if_pos c1, gd_pos (by omega), u2, gr (by omega)]
    by_cases c2 : (U.getD q (0, 0, 0, 0)).2.1 = 2
    · rw [if_pos c2, if_pos ⟨c1, c2⟩]
      obtain ⟨t', e1, e2, e3⟩ := note_ok (f := 6) h.1 hb (by omega) hl
      exact ⟨t', by rw [show m_note 6 (l : Int) t = _ from e1, bq], e2, e3⟩
    · rw [if_neg c2, if_neg (fun e => c2 e.2), List.append_nil]
      exact ⟨t, rfl, hb, FN_refl⟩
  · rw [if_neg c1, if_neg (fun e => c1 e.1), List.append_nil]
    exact ⟨t, rfl, hb, FN_refl⟩
theorem sysME_01 : (List.range 40).all (fun i => decide ((sysME.getD i 0 = 0 ∨ sysME.getD i 0 = 1) ∧ 0 ≤ sysMN.getD i 0 ∧ sysMN.getD i 0 ≤ 9)) = true := by decide
theorem sbR_rg (h : RG F n N P s0 t0 K U W Y t) (ho : 0 ≤ ow) : sbR F P t0 U ow l = -1 ∨ (0 ≤ sbR F P t0 U ow l ∧ (8 ≤ ow → sbR F P t0 U ow l < (U.length : Int)) ∧ (ow < 8 → sbR F P t0 U ow l < 40)) := by
  unfold sbR
  by_cases c : 8 ≤ ow
  · rw [if_pos c]
    have := fst1_rg (P := fun i => (uAt U i).1 = ow - 8 ∧ nmT F P t0 (uAt U i).2.2.1 = nmT F P t0 l) U.length 0
    omega
  · rw [if_neg c]
    have hq := of_decide_eq_true (List.all_eq_true.mp sysFI_FS ow.toNat (List.mem_range.mpr (by omega)))
    have := fst1_rg (P := fun i => sysSN.getD i [] = nmT F P t0 l) ((sysFS.getD (ow.toNat + 1) 0).toNat - (sysFS.getD ow.toNat 0).toNat) (sysFS.getD ow.toNat 0).toNat
    omega
/-- the calls' rows may change at one place -/
def FC (c : Nat) (t t' : iS) : Prop := ∀ x k, ¬ (x = 121 ∧ (k = 69 ∨ k = 70)) → ¬ (152 ≤ x ∧ x ≤ 155 ∧ k = c) → t' x k = t x k
theorem FC_FR (h : FC c t t') : FR t t' := fun x k a _ _ d => h x k (by omega) (by omega)
theorem FN_FC (h : FN t t') : FC c t t' := fun x k a _ => h x k a
theorem FC_trans (h : FC c t t') (h' : FC c t' t'') : FC c t t'' := fun x k a b => (h' x k a b).trans (h x k a b)
theorem FC_up {x : Nat} {z : Int} (hx : 152 ≤ x ∧ x ≤ 155) : FC c t (up t x c z) := fun x' k a b => up_ne (by omega)
theorem cc173 (h : RG F n N P s0 t0 K U W Y t) (hb : RBc P N L t) (hc : c < 1000) (hq : q < U.length) (hl : l < N ∧ s0 9 l = 3) (ho : t 152 c = o) (ho2 : 0 ≤ o ∧ o ≤ 2) (hw : 0 ≤ ow ∧ ow < 100) (hm : t 151 c = m) (hm2 : -1000 ≤ m ∧ m ≤ 2000) : ∃ t', m_checkCall_173 (c : Int) (q : Int) (l : Int) ow t = some (0, t') ∧ RBc P N (L ++ nt173 F P t0 U W q o ow l m) t' ∧ FC c t t' ∧ t' 152 c = o ∧ t' 153 c = t 153 c ∧ t' 154 c = ow ∧ t' 155 c = sbR F P t0 U ow l := by
  have hU := h.2.1.2.2.2.2.2.1
  have hW := h.2.2.2.1
  have r := sbR_rg (l := l) h hw.1
  unfold m_checkCall_173
  rw [sub_ok h hl hw, bq, gd_pos (by omega), Int.toNat_natCast, lt_eq, lt_eq, gr (by omega)]
  have f4 : FC c t (up (up t 154 c ow) 155 c (sbR F P t0 U ow l)) := FC_trans (FC_up (by omega)) (FC_up (by omega))
  have b4 : RBc P N L (up (up t 154 c ow) 155 c (sbR F P t0 U ow l)) := RBc_fr hb (fun k _ => by rw [up_ne (by omega), up_ne (by omega)])
  have e52 : up (up t 154 c ow) 155 c (sbR F P t0 U ow l) 152 c = t 152 c := by rw [up_ne (by omega), up_ne (by omega)]
  have e53 : up (up t 154 c ow) 155 c (sbR F P t0 U ow l) 153 c = t 153 c := by rw [up_ne (by omega), up_ne (by omega)]
  have e54 : up (up t 154 c ow) 155 c (sbR F P t0 U ow l) 154 c = ow := by rw [up_ne (by omega), up_same]
  have e55 : up (up t 154 c ow) 155 c (sbR F P t0 U ow l) 155 c = sbR F P t0 U ow l := up_same _ _ _ _
  generalize up (up t 154 c ow) 155 c (sbR F P t0 U ow l) = t4 at f4 b4 e52 e53 e54 e55 ⊢
  have g4 := RG_fr h (FC_FR f4)
  have done : ∀ t5, FN t4 t5 → FC c t t5 ∧ t5 152 c = o ∧ t5 153 c = t 153 c ∧ t5 154 c = ow ∧ t5 155 c = sbR F P t0 U ow l := fun t5 hf => ⟨FC_trans f4 (FN_FC hf), by rw [hf 152 c (by omega)]; exact e52.trans ho, by rw [hf 153 c (by omega)]; exact e53, by rw [hf 154 c (by omega)]; exact e54, by rw [hf 155 c (by omega)]; exact e55⟩
  unfold nt173
  by_cases c1 : sbR F P t0 U ow l = -1
  · rw [if_pos c1, if_pos c1]
    obtain ⟨t', e1, e2, e3⟩ := note_ok (f := 4) g4.1 b4 (by omega) hl.1
    exact ⟨t', by rw [show m_note 4 (l : Int) t4 = _ from e1, bq], e2, done t' e3⟩
  · rw [if_neg c1, if_neg c1, ← List.append_assoc]
    obtain ⟨sb, es⟩ : ∃ sb : Nat, sbR F P t0 U ow l = (sb : Int) := ⟨(sbR F P t0 U ow l).toNat, by omega⟩
    have eM : m_isMethod ow (sbR F P t0 U ow l) t4 = some (isM U ow (sbR F P t0 U ow l), t4) ∧ (isM U ow (sbR F P t0 U ow l) = 0 ∨ isM U ow (sbR F P t0 U ow l) = 1) := by
      unfold m_isMethod isM
      rw [es, gr (by omega)]
      by_cases c2 : 8 ≤ ow
      · have hs : sb < U.length := by omega
        obtain ⟨u1, u2, u3, u4, u5, u6, u7, u8, u9, u10, u11⟩ := RG_U g4 hs
        rw [if_pos c2, if_pos c2, gd_pos (by omega), Int.toNat_natCast, u2, gr (by omega)]
        unfold uAt
        by_cases c3 : (U.getD sb (0, 0, 0, 0)).2.1 = 3
        · rw [if_pos c3, if_pos c3]; exact ⟨rfl, Or.inr rfl⟩
        · rw [if_neg c3, if_neg c3]; exact ⟨rfl, Or.inl rfl⟩
      · have hs := of_decide_eq_true (List.all_eq_true.mp sysME_01 sb (List.mem_range.mpr (by omega)))
        rw [if_neg c2, if_neg c2, gd_pos (by omega), Int.toNat_natCast, (g4.1.2.2.2.2.2 sb (by omega)).2.1, gd_pos hs.1]
        exact ⟨rfl, hs.1⟩
    have eN : ∀ t5, FN t4 t5 → m_manyOf ow (sbR F P t0 U ow l) t5 = some (mnR W ow (sbR F P t0 U ow l), t5) ∧ 0 ≤ mnR W ow (sbR F P t0 U ow l) ∧ mnR W ow (sbR F P t0 U ow l) ≤ 2000 := fun t5 f5 => by
      have g5 := RG_fr g4 (FN_FR f5)
      unfold m_manyOf mnR
      rw [es, gr (by omega)]
      by_cases c2 : 8 ≤ ow
      · have hs : sb < U.length := by omega
        rw [if_pos c2, if_pos c2, gd_pos (by omega), Int.toNat_natCast, (g5.2.1.2.2.2.2.2.2.2.2.2.2.2.2 sb hs).1]
        have : nwP (sb : Int) W ≤ W.length := List.countP_le_length
        exact ⟨rfl, by omega, by omega⟩
      · have hs := of_decide_eq_true (List.all_eq_true.mp sysME_01 sb (List.mem_range.mpr (by omega)))
        rw [if_neg c2, if_neg c2, gd_pos (by omega), Int.toNat_natCast, (g5.1.2.2.2.2.2 sb (by omega)).2.2]
        exact ⟨rfl, by omega, by omega⟩
    rw [eM.1, bq, e52, ho, gr (by omega)]
    have ok253 : ∃ t', m_checkCall_253 (c : Int) (q : Int) (l : Int) t4 = some (0, t') ∧ RBc P N (L ++ [16 * l + 5] ++ nt259 U q o l) t' ∧ FN t4 t' := by
      obtain ⟨t5, e1, e2, e3⟩ := note_ok (f := 5) g4.1 b4 (by omega) hl.1
      obtain ⟨t6, d1, d2, d3⟩ := cc259 (c := c) (o := o) (RG_fr g4 (FN_FR e3)) e2 hc hq hl.1 (by rw [e3 152 c (by omega), e52, ho]) ho2
      refine ⟨t6, ?_, d2, FN_trans e3 d3⟩
      unfold m_checkCall_253
      rw [show m_note 5 (l : Int) t4 = _ from e1, bq, d1]
    have ok259 : ∃ t', m_checkCall_259 (c : Int) (q : Int) (l : Int) t4 = some (0, t') ∧ RBc P N (L ++ [] ++ nt259 U q o l) t' ∧ FN t4 t' := by
      rw [List.append_nil]
      exact cc259 g4 b4 hc hq hl.1 (e52.trans ho) ho2
    have ok233 : ∀ z : Int, (z = 0 ∨ z = 1) → ∃ t', m_checkCall_233 (c : Int) (q : Int) (l : Int) ow (sbR F P t0 U ow l) z (isM U ow (sbR F P t0 U ow l)) t4 = some (0, t') ∧ RBc P N (L ++ (if isM U ow (sbR F P t0 U ow l) = z ∧ mnR W ow (sbR F P t0 U ow l) = m then [] else [16 * l + 5]) ++ nt259 U q o l) t' ∧ FN t4 t' := fun z hz => by
      have i1 := eM.2
      obtain ⟨n1, n2, n3⟩ := eN t4 FN_refl
      unfold m_checkCall_233
      rw [gr (by omega), gr (by omega)]
      by_cases c2 : isM U ow (sbR F P t0 U ow l) = z
      · rw [if_pos c2, n1, bq, gd_pos (by omega), gr (by omega), Int.toNat_natCast, f4 151 c (by omega) (by omega), hm, gr (by omega)]
        by_cases c3 : mnR W ow (sbR F P t0 U ow l) = m
        · rw [if_pos c3, if_pos ⟨c2, c3⟩]; exact ok259
        · rw [if_neg c3, if_neg (fun e => c3 e.2)]; exact ok253
      · rw [if_neg c2, if_neg (fun e => c2 e.1)]; exact ok253
    by_cases c2 : o ≤ 0
    · rw [if_pos c2, if_pos c2]
      obtain ⟨t', e1, e2, e3⟩ := ok233 0 (Or.inl rfl)
      exact ⟨t', e1, e2, done t' e3⟩
    · rw [if_neg c2, if_neg c2]
      obtain ⟨t', e1, e2, e3⟩ := ok233 1 (Or.inr rfl)
      exact ⟨t', e1, e2, done t' e3⟩
end RK9
