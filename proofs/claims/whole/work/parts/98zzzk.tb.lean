/-! main: the class's and the reference's -/
section MNa
variable {F : Nat → Int} {n N : Nat} {P : Nat → Nat} {s0 t0 s t : iS} {j u k l : Nat} {K : List Nat} {U : List urec} {W : List wrec} {Y : List Nat} {pa : Nat → Int} {L : List Nat}
theorem nfd {c a b M : Nat} {tab : List (List Int)} {w : List Int} (ht : TB c a b tab s) (hg : ∀ w ∈ tab, gw w) (hM : M < 1000000) (hm : tab.length ≤ M) (hw : gw w) {f e : Nat} (hf : f < 1000000) (he : e < 1000000) : nam_find c a b M (wH w) (wL w) (f : Int) (e : Int) s = some (fst1 (fun i => tab.getD i [] = w) f (min e tab.length - f), s) := by
  have hl := wH_lr hw.2.2
  have gi : ∀ i, i < tab.length → gw (tab.getD i []) := fun i hi => hg _ (gd_mem hi)
  rw [find_ok (m := tab.length) hl.1 hl.2 hM ht.1 hm hf he (fun i hi => by
    obtain ⟨q1, q2⟩ := ht.2 i hi
    rw [q1, q2]
    exact wH_lr (gi i hi).2.2)]
  rw [fst1_cg (Q := fun i => s a i = wH w ∧ s b i = wL w) (Q' := fun i => tab.getD i [] = w) (min e tab.length - f) f (fun x h1 h2 => by
    obtain ⟨q1, q2⟩ := ht.2 x (by omega)
    rw [q1, q2, ← nm_list hw (gi x (by omega))]
    exact ⟨fun z => ⟨z.1.symm, z.2.symm⟩, fun z => ⟨z.1.symm, z.2.symm⟩⟩)]
def mC : List Int := [77, 97, 105, 110]
def mS : List Int := [109, 97, 105, 110]
theorem mC_gw : gw mC := by refine ⟨by decide, by decide, ?_⟩; decide
theorem mS_gw : gw mS := by refine ⟨by decide, by decide, ?_⟩; decide
/-- the cells that hold the names of main -/
def MNc (s : iS) : Prop := s 42 0 = wH mC ∧ s 43 0 = wL mC ∧ s 42 1 = wH mS ∧ s 43 1 = wL mS
def cMn (F : Nat → Int) (P : Nat → Nat) (t0 : iS) (K : List Nat) : Int := fst1 (fun i => (sysCN ++ K.map (nmT F P t0)).getD i [] = mC) 0 (8 + K.length)
def sMn (F : Nat → Int) (P : Nat → Nat) (t0 : iS) (K : List Nat) (U : List urec) : Int := if cMn F P t0 K = -1 then -1 else fst1 (fun i => (sysSN ++ U.map (fun u => nmT F P t0 u.2.2.1)).getD i [] = mS) (fsT K U (cMn F P t0 K).toNat).toNat ((fsT K U ((cMn F P t0 K).toNat + 1)).toNat - (fsT K U (cMn F P t0 K).toNat).toNat)
def okMn (F : Nat → Int) (P : Nat → Nat) (t0 : iS) (K : List Nat) (U : List urec) (pa : Nat → Int) : Prop := sMn F P t0 K U ≠ -1 ∧ roT U (sMn F P t0 K U).toNat = 258 ∧ pa (sMn F P t0 K U).toNat = 0
theorem cMn_rg : cMn F P t0 K = -1 ∨ 0 ≤ cMn F P t0 K ∧ cMn F P t0 K < 8 + (K.length : Int) := by
  have r := fst1_rg (P := fun i => (sysCN ++ K.map (nmT F P t0)).getD i [] = mC) (8 + K.length) 0
  change cMn F P t0 K = -1 ∨ _ ≤ cMn F P t0 K ∧ cMn F P t0 K < _ ∧ _ at r
  omega
theorem sMn_rg : sMn F P t0 K U = -1 ∨ 0 ≤ sMn F P t0 K U ∧ sMn F P t0 K U < 40 + (U.length : Int) := by
  unfold sMn
  split
  · exact Or.inl rfl
  · have r := fst1_rg (P := fun i => (sysSN ++ U.map (fun u => nmT F P t0 u.2.2.1)).getD i [] = mS) ((fsT K U ((cMn F P t0 K).toNat + 1)).toNat - (fsT K U (cMn F P t0 K).toNat).toNat) (fsT K U (cMn F P t0 K).toNat).toNat
    have b := fsT_rg (Kf := K) (Uf := U) ((cMn F P t0 K).toNat + 1)
    have b' := fsT_rg (Kf := K) (Uf := U) (cMn F P t0 K).toNat
    omega
/-- the class looks for main -/
theorem fm_cls (h : TKR 0 F n N P s0 t0) (hX : X2T F P s0 t0 N K U pa s) (hb : BLc L s) (h8 : s 2 8 = (N : Int)) (hm : MNc s) : ∃ s', trl_findMain s = some (0, s') ∧ ((okMn F P t0 K U pa ∧ s' = up s 14 10 (s 20 (sMn F P t0 K U).toNat)) ∨ (¬ okMn F P t0 K U pa ∧ BLc (L ++ [16 * (N - 1) + 7]) s' ∧ ∀ c k, ¬ (c = 2 ∧ (k = 13 ∨ k = 14)) → s' c k = s c k)) := by
  have hN := N1001 h
  have hN1 := h.2.1
  obtain ⟨x1, x2, x3, x4, x5, x6, x7, x8⟩ := hX
  have hX : X2T F P s0 t0 N K U pa s := ⟨x1, x2, x3, x4, x5, x6, x7, x8⟩
  have gK' := nmK_g h x5
  have gU' := nmU_g h (U := U) (fun u hu => ⟨(x6 u hu).1, (x6 u hu).2.1⟩)
  obtain ⟨m1, m2, m3, m4⟩ := hm
  have e24 : s 24 2 = ((8 + K.length : Nat) : Int) := by have := x1.1; rw [nmK_l] at this; exact this
  have f1 := nfd (c := 24) (a := 25) (b := 26) (M := 20) (f := 0) (e := 8 + K.length) x1 gK' (by omega) (by rw [nmK_l]; omega) mC_gw (by omega) (by omega)
  rw [nmK_l, show min (8 + K.length) (8 + K.length) - 0 = 8 + K.length by omega] at f1
  have bl : ∃ s', trl_findMain_128 s = some (0, s') ∧ BLc (L ++ [16 * (N - 1) + 7]) s' ∧ ∀ c k, ¬ (c = 2 ∧ (k = 13 ∨ k = 14)) → s' c k = s c k := by
    obtain ⟨s1, e1, e2, e3⟩ := bl_add (f := 7) (t := N - 1) hb (by omega) (by omega)
    refine ⟨s1, ?_, e2, e3⟩
    unfold trl_findMain_128
    rw [h8, show (N : Int) - 1 = ((N - 1 : Nat) : Int) by omega, show tok_blame 7 ((N - 1 : Nat) : Int) s = _ from e1, bq]
  have rc := cMn_rg (F := F) (P := P) (t0 := t0) (K := K)
  have rs := sMn_rg (F := F) (P := P) (t0 := t0) (K := K) (U := U)
  have fin : ∃ s', (gd (rg (sMn F P t0 K U)) (if sMn F P t0 K U = -1 then trl_findMain_128 s else bd (scp_roleOf (sMn F P t0 K U) s) (fun r5 s5 => gd (rg r5) (if r5 = 258 then bd (scp_parametersOf (sMn F P t0 K U) s5) (fun r8 s8 => gd (rg r8) (if r8 = 0 then bd (prg_chooseMain (sMn F P t0 K U) s8) (fun _ s11 => some (0, s11)) else trl_findMain_128 s8)) else trl_findMain_128 s5)))) = some (0, s') ∧ ((okMn F P t0 K U pa ∧ s' = up s 14 10 (s 20 (sMn F P t0 K U).toNat)) ∨ (¬ okMn F P t0 K U pa ∧ BLc (L ++ [16 * (N - 1) + 7]) s' ∧ ∀ c k, ¬ (c = 2 ∧ (k = 13 ∨ k = 14)) → s' c k = s c k)) := by
    obtain ⟨sb, b1, b2, b3⟩ := bl
    rw [gr (by omega)]
    by_cases c1 : sMn F P t0 K U = -1
    · rw [if_pos c1]
      exact ⟨sb, b1, Or.inr ⟨fun z => z.1 c1, b2, b3⟩⟩
    · obtain ⟨r1, r2⟩ := role_ok hX rs
      rw [if_neg c1] at r1 r2
      have ro := roT_rg (fun u hu => (x6 u hu).2.2.2.2) (show (sMn F P t0 K U).toNat < 40 + U.length by omega)
      have pr := (x4 (sMn F P t0 K U).toNat (by omega)).2.2
      rw [if_neg c1, r1, bq, gr (by omega)]
      by_cases c2 : roT U (sMn F P t0 K U).toNat = 258
      · rw [if_pos c2, r2, bq, gr (by omega)]
        by_cases c3 : pa (sMn F P t0 K U).toNat = 0
        · rw [if_pos c3]
          unfold prg_chooseMain
          rw [gr (by omega), if_neg (by omega), if_neg (by omega), gd_pos (by omega), lt_eq, bq]
          exact ⟨_, rfl, Or.inl ⟨⟨c1, c2, c3⟩, rfl⟩⟩
        · rw [if_neg c3]
          exact ⟨sb, b1, Or.inr ⟨fun z => c3 z.2.2, b2, b3⟩⟩
      · rw [if_neg c2]
        exact ⟨sb, b1, Or.inr ⟨fun z => c2 z.2.1, b2, b3⟩⟩
  unfold trl_findMain
  rw [m1, m2, e24, show nam_find 24 25 26 20 (wH mC) (wL mC) 0 ((8 + K.length : Nat) : Int) s = some (cMn F P t0 K, s) from f1, bq, gr (by omega)]
  by_cases c : cMn F P t0 K = -1
  · rw [if_pos c, c]
    unfold trl_findMain_55
    rw [firstSub_ok hX (by omega), bq, if_pos (by omega), m3, m4]
    have f2 := nfd (c := 27) (a := 28) (b := 29) (M := 100) (f := 0) (e := 0) x2 gU' (by omega) (by rw [nmU_l]; omega) mS_gw (by omega) (by omega)
    rw [show min 0 (sysSN ++ U.map (fun u => nmT F P t0 u.2.2.1)).length - 0 = 0 by omega] at f2
    have es : sMn F P t0 K U = -1 := by unfold sMn; rw [if_pos c]
    rw [show nam_find 27 28 29 100 (wH mS) (wL mS) 0 0 s = some (sMn F P t0 K U, s) from by rw [es]; exact f2, bq]
    exact fin
  · have b := fsT_rg (Kf := K) (Uf := U) ((cMn F P t0 K).toNat + 1)
    have b' := fsT_rg (Kf := K) (Uf := U) (cMn F P t0 K).toNat
    rw [if_neg c, firstSub_ok hX (by omega), bq, if_neg (by omega), show (cMn F P t0 K + 1).toNat = (cMn F P t0 K).toNat + 1 by omega]
    unfold trl_findMain_55
    rw [firstSub_ok hX (by omega), bq, if_neg (by omega), m3, m4]
    obtain ⟨f, hf⟩ : ∃ f : Nat, fsT K U (cMn F P t0 K).toNat = (f : Int) := ⟨(fsT K U (cMn F P t0 K).toNat).toNat, by omega⟩
    obtain ⟨e, he⟩ : ∃ e : Nat, fsT K U ((cMn F P t0 K).toNat + 1) = (e : Int) := ⟨(fsT K U ((cMn F P t0 K).toNat + 1)).toNat, by omega⟩
    have f2 := nfd (c := 27) (a := 28) (b := 29) (M := 100) (f := f) (e := e) x2 gU' (by omega) (by rw [nmU_l]; omega) mS_gw (by omega) (by omega)
    rw [nmU_l, show min e (40 + U.length) - f = e - f by omega] at f2
    have es : sMn F P t0 K U = fst1 (fun i => (sysSN ++ U.map (fun u => nmT F P t0 u.2.2.1)).getD i [] = mS) f (e - f) := by
      unfold sMn
      rw [if_neg c, hf, he, Int.toNat_natCast, Int.toNat_natCast]
    rw [hf, he, f2, ← es, bq]
    exact fin
theorem noMain : (List.range 8).all (fun i => decide (sysCN.getD i [] ≠ mC)) = true := by decide
/-- where no name is told twice, both find the same main -/
theorem mn_eq (h : RG F n N P s0 t0 K U W Y t) (hK : ∀ i, i < K.length → fcK F P t0 K (K.getD i 0) = 8 + (i : Int)) (hU : ∀ i, i < U.length → fsbT F P t0 K U (8 + (uAt U i).1) (uAt U i).2.2.1 = 40 + (i : Int)) (hp : ∀ u, u < 40 + U.length → pa u = paF W u) : (okMn F P t0 K U pa ∧ sMn F P t0 K U = 40 + mnI F P t0 K U W U.length ∧ 0 ≤ mnI F P t0 K U W U.length ∧ mnI F P t0 K U W U.length < (U.length : Int)) ∨ (¬ okMn F P t0 K U pa ∧ mnI F P t0 K U W U.length = -1) := by
  -- a class named so is the first of that name
  have ec : ∀ c, c < K.length → nmT F P t0 (K.getD c 0) = mC → cMn F P t0 K = 8 + (c : Int) := fun c hc e => by
    rw [← hK c hc]
    unfold cMn fcK
    rw [e]
  have es : ∀ x, x < U.length → nmT F P t0 (uAt U x).2.2.1 = mS → nmT F P t0 (K.getD (uAt U x).1.toNat 0) = mC → sMn F P t0 K U = 40 + (x : Int) := fun x hx e1 e2 => by
    have u := RG_U h hx
    have u7 : 0 ≤ (uAt U x).1 := u.2.2.2.2.2.2.1
    have u8 : (uAt U x).1 < (K.length : Int) := u.2.2.2.2.2.2.2.1
    have c := ec (uAt U x).1.toNat (by omega) e2
    rw [Int.toNat_of_nonneg u7] at c
    rw [← hU x hx]
    unfold sMn fsbT
    rw [c, if_neg (by omega), if_neg (by omega), e1]
  have r := fst1_rg (P := fun i => isMn F P t0 K U W i = true) U.length 0
  change mnI F P t0 K U W U.length = -1 ∨ _ ≤ mnI F P t0 K U W U.length ∧ mnI F P t0 K U W U.length < _ ∧ isMn F P t0 K U W (mnI F P t0 K U W U.length).toNat = true at r
  rcases r with r | ⟨r1, r2, r3⟩
  · refine Or.inr ⟨fun ⟨o1, o2, o3⟩ => ?_, r⟩
    have no := (fst1_no (Q := fun i => isMn F P t0 K U W i = true) U.length 0).mp r
    have cn : cMn F P t0 K ≠ -1 := fun z => o1 (by unfold sMn; rw [if_pos z])
    have rc := fst1_rg (P := fun i => (sysCN ++ K.map (nmT F P t0)).getD i [] = mC) (8 + K.length) 0
    change cMn F P t0 K = -1 ∨ _ ≤ cMn F P t0 K ∧ cMn F P t0 K < _ ∧ (sysCN ++ K.map (nmT F P t0)).getD (cMn F P t0 K).toNat [] = mC at rc
    rcases rc with z | ⟨c1, c2, c3⟩
    · exact cn z
    have c8 : 8 ≤ (cMn F P t0 K).toNat := by
      rcases Nat.lt_or_ge (cMn F P t0 K).toNat 8 with z | z
      · exfalso
        rw [gdL (show _ < sysCN.length from z)] at c3
        exact of_decide_eq_true (List.all_eq_true.mp noMain _ (List.mem_range.mpr z)) c3
      · exact z
    obtain ⟨c, ecc⟩ : ∃ c : Nat, (cMn F P t0 K).toNat = 8 + c := ⟨(cMn F P t0 K).toNat - 8, by omega⟩
    have hc : c < K.length := by omega
    rw [ecc, sc_u hc] at c3
    -- the sub
    have f1 := fsT_own h (c := c) (by omega)
    have f2 := fsT_own h (c := c + 1) (by omega)
    have p1 := cp_pre (d := ((0, 0, 0, 0) : urec)) (p := fun u => decide (u.1 < (c : Int))) U (fun i k q1 q2 q3 => decide_eq_true (by
      have := h.2.2.2.2.2.1 i k q1 q2
      have := of_decide_eq_true q3
      omega))
    have p2 := cp_pre (d := ((0, 0, 0, 0) : urec)) (p := fun u => decide (u.1 < ((c + 1 : Nat) : Int))) U (fun i k q1 q2 q3 => decide_eq_true (by
      have := h.2.2.2.2.2.1 i k q1 q2
      have := of_decide_eq_true q3
      omega))
    have m1 : U.countP (fun u => decide (u.1 < ((c + 1 : Nat) : Int))) ≤ U.length := List.countP_le_length
    have rs := fst1_rg (P := fun i => (sysSN ++ U.map (fun u => nmT F P t0 u.2.2.1)).getD i [] = mS) ((fsT K U ((cMn F P t0 K).toNat + 1)).toNat - (fsT K U (cMn F P t0 K).toNat).toNat) (fsT K U (cMn F P t0 K).toNat).toNat
    have e0 : sMn F P t0 K U = fst1 (fun i => (sysSN ++ U.map (fun u => nmT F P t0 u.2.2.1)).getD i [] = mS) (fsT K U (cMn F P t0 K).toNat).toNat ((fsT K U ((cMn F P t0 K).toNat + 1)).toNat - (fsT K U (cMn F P t0 K).toNat).toNat) := by
      unfold sMn
      rw [if_neg cn]
    rw [← e0, ecc, show 8 + c + 1 = 8 + (c + 1) by omega, f1, f2] at rs
    rcases rs with z | ⟨s1, s2, s3⟩
    · exact o1 z
    obtain ⟨x, ex⟩ : ∃ x : Nat, (sMn F P t0 K U).toNat = 40 + x := ⟨(sMn F P t0 K U).toNat - 40, by omega⟩
    have hx : x < U.length := by omega
    rw [ex, sn_u hx] at s3
    rw [ex] at o2 o3
    have r1 : ∀ x, x < U.length → ((uAt U x).1 < (c : Int) ↔ x < U.countP (fun u => decide (u.1 < (c : Int)))) := fun x hx => ⟨fun z => (p1 x hx).mp (decide_eq_true z), fun z => of_decide_eq_true ((p1 x hx).mpr z)⟩
    have r2 : ∀ x, x < U.length → ((uAt U x).1 < ((c + 1 : Nat) : Int) ↔ x < U.countP (fun u => decide (u.1 < ((c + 1 : Nat) : Int)))) := fun x hx => ⟨fun z => (p2 x hx).mp (decide_eq_true z), fun z => of_decide_eq_true ((p2 x hx).mpr z)⟩
    have b1 := r1 x hx
    have b2 := r2 x hx
    have a1 : ¬ ((uAt U x).1 < (c : Int)) := by omega
    have a2 : (uAt U x).1 < ((c + 1 : Nat) : Int) := by omega
    refine no x (by omega) (by omega) (decide_eq_true ⟨⟨?_, ?_⟩, s3, ?_⟩)
    · unfold roT at o2
      rw [if_neg (by omega), show 40 + x - 40 = x by omega] at o2
      show (uAt U x).2.1 = 2
      unfold uAt
      omega
    · rw [hp (40 + x) (by omega)] at o3
      unfold paF at o3
      rw [if_neg (by omega), show 40 + x - 40 = x by omega] at o3
      omega
    · rw [show (uAt U x).1.toNat = c by omega]
      exact c3
  · obtain ⟨x, ex⟩ : ∃ x : Nat, mnI F P t0 K U W U.length = (x : Int) := ⟨(mnI F P t0 K U W U.length).toNat, by omega⟩
    have hx : x < U.length := by omega
    rw [ex, Int.toNat_natCast] at r3
    obtain ⟨⟨q1, q2⟩, q3, q4⟩ := of_decide_eq_true r3
    have e := es x hx q3 q4
    refine Or.inl ⟨⟨by omega, ?_, ?_⟩, by rw [e, ex], by omega, by omega⟩
    · rw [e, show ((40 : Int) + (x : Int)).toNat = 40 + x by omega]
      unfold roT
      rw [if_neg (by omega), show 40 + x - 40 = x by omega]
      have : (U.getD x (0, 0, 0, 0)).2.1 = 2 := q1
      omega
    · rw [e, show ((40 : Int) + (x : Int)).toNat = 40 + x by omega, hp (40 + x) (by omega)]
      unfold paF
      rw [if_neg (by omega), show 40 + x - 40 = x by omega, q2]
      rfl
end MNa
