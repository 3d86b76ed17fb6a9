/-! the second reading of the text: a body; all that it asks -/
section T2d
variable {F : Nat → Int} {n N : Nat} {P : Nat → Nat} {s0 t0 s s1 s' : iS} {g j : Nat} {Kf K : List Nat} {Uf U : List urec} {Wf W : List wrec} {Y : List Nat} {A : List (List itm)} {pa pb : Nat → Int} {n0 n1 : List Nat} {cs : List crec} {pm v r y so : Int}
/-- a body begins, second reading -/
theorem t2_begin {nv nf kl ul : Nat} (hX : X2T F P s0 t0 N Kf Uf pa s) (he : EMc cs pm s) (h11 : s 23 11 = 7 + (kl : Int)) (h12 : s 23 12 = 39 + (ul : Int)) (hk : 1 ≤ kl ∧ kl ≤ 12) (hu : 1 ≤ ul ∧ ul ≤ 60) (hv : s 40 2 = (nv : Int)) (hf : s 40 4 = (nf : Int)) (hnf : nf < 1000) (hso : so = 1 ∨ so = 2 ∨ so = 3) : ∃ s1, trl_beginBody (256 + so) s = some (0, s1) ∧ EMc (emA (cs, -1) (hdrU Kf Uf so (7 + (kl : Int)) (39 + (ul : Int)) nv nf)).1 (emA (cs, -1) (hdrU Kf Uf so (7 + (kl : Int)) (39 + (ul : Int)) nv nf)).2 s1 ∧ s1 14 9 = ((min cs.length 3000 : Nat) : Int) ∧ s1 20 (39 + ul) = ((min cs.length 3000 : Nat) : Int) ∧ (∀ c k, ¬ (15 ≤ c ∧ c ≤ 19) → ¬ (c = 14 ∧ (k = 8 ∨ k = 9 ∨ k = 12)) → ¬ (c = 20 ∧ k = 39 + ul) → s1 c k = s c k) := by
  have e8 := he.2.1
  have B : prg_beginSub (39 + (ul : Int)) s = some (0, up (up (up s 14 9 (s 14 8)) 14 12 (-1)) 20 (39 + ul) (s 14 8)) := by
    unfold prg_beginSub
    rw [lt_eq, lt_eq, gr (by omega), if_neg (by omega), if_neg (by omega), gd_pos (by omega), lt_eq, show (39 + (ul : Int)).toNat = 39 + ul by omega, show up (up s 14 9 (s 14 8)) 14 12 (-1) 14 8 = s 14 8 by rw [up_ne (by omega), up_ne (by omega)]]
  have fa : ∀ c k, ¬ (c = 14 ∧ (k = 9 ∨ k = 12)) → ¬ (c = 20 ∧ k = 39 + ul) → up (up (up s 14 9 (s 14 8)) 14 12 (-1)) 20 (39 + ul) (s 14 8) c k = s c k := fun c k z1 z2 => by rw [up_ne (by omega), up_ne (by omega), up_ne (by omega)]
  have a9 : up (up (up s 14 9 (s 14 8)) 14 12 (-1)) 20 (39 + ul) (s 14 8) 14 9 = s 14 8 := by rw [up_ne (by omega), up_ne (by omega), up_same]
  have a20 : up (up (up s 14 9 (s 14 8)) 14 12 (-1)) 20 (39 + ul) (s 14 8) 20 (39 + ul) = s 14 8 := up_same _ _ _ _
  have Ea : EMc cs (-1) (up (up (up s 14 9 (s 14 8)) 14 12 (-1)) 20 (39 + ul) (s 14 8)) := EMc_of (em_mark (y := -1) (EMc_of (s' := up s 14 9 (s 14 8)) he (fun c k q => up_ne (by omega)))) (fun c k q => up_ne (by omega))
  generalize up (up (up s 14 9 (s 14 8)) 14 12 (-1)) 20 (39 + ul) (s 14 8) = sa at *
  have Xa : X2T F P s0 t0 N Kf Uf pa sa := X2T_of hX (fun c k q => fa c k (by omega) (by omega))
  have nb : -100000 ≤ nmbT Kf Uf (7 + (kl : Int)) (39 + (ul : Int)) ∧ nmbT Kf Uf (7 + (kl : Int)) (39 + (ul : Int)) ≤ 100000 := by
    have q := fsT_rg (Kf := Kf) (Uf := Uf) (7 + (kl : Int)).toNat
    have q8 := hX.2.2.2.2.2.2.2
    unfold nmbT
    split <;> omega
  have hN : scp_numberOf (7 + (kl : Int)) (39 + (ul : Int)) sa = some (nmbT Kf Uf (7 + (kl : Int)) (39 + (ul : Int)), sa) := by
    unfold scp_numberOf nmbT
    rw [firstSub_ok Xa (by omega), bq]
  obtain ⟨sb, b1, b2, b3⟩ := ema1 (a := (cs, -1)) (x := 14) (y := nmbT Kf Uf (7 + (kl : Int)) (39 + (ul : Int))) (z := (nv : Int)) (tg := 0) Ea (Or.inl rfl) ⟨by omega, nb, fun _ q => by omega⟩
  have fin : ∀ s1 xs, EMc (emA (emA (cs, -1) [(14, nmbT Kf Uf (7 + (kl : Int)) (39 + (ul : Int)), (nv : Int), 0)]) xs).1 (emA (emA (cs, -1) [(14, nmbT Kf Uf (7 + (kl : Int)) (39 + (ul : Int)), (nv : Int), 0)]) xs).2 s1 → hdrU Kf Uf so (7 + (kl : Int)) (39 + (ul : Int)) nv nf = (14, nmbT Kf Uf (7 + (kl : Int)) (39 + (ul : Int)), (nv : Int), 0) :: xs → (∀ c' k, ¬ (15 ≤ c' ∧ c' ≤ 19) → ¬ (c' = 14 ∧ (k = 8 ∨ k = 12)) → s1 c' k = sb c' k) → trl_beginBody (256 + so) s = some (0, s1) → ∃ s1, trl_beginBody (256 + so) s = some (0, s1) ∧ EMc (emA (cs, -1) (hdrU Kf Uf so (7 + (kl : Int)) (39 + (ul : Int)) nv nf)).1 (emA (cs, -1) (hdrU Kf Uf so (7 + (kl : Int)) (39 + (ul : Int)) nv nf)).2 s1 ∧ s1 14 9 = ((min cs.length 3000 : Nat) : Int) ∧ s1 20 (39 + ul) = ((min cs.length 3000 : Nat) : Int) ∧ (∀ c k, ¬ (15 ≤ c ∧ c ≤ 19) → ¬ (c = 14 ∧ (k = 8 ∨ k = 9 ∨ k = 12)) → ¬ (c = 20 ∧ k = 39 + ul) → s1 c k = s c k) := by
    intro s1 xs q1 q2 q3 q4
    refine ⟨s1, q4, by rw [q2]; exact q1, by rw [q3 14 9 (by omega) (by omega), b3 14 9 (by omega) (by omega), a9]; exact e8, by rw [q3 20 _ (by omega) (by omega), b3 20 _ (by omega) (by omega), a20]; exact e8, fun c k z1 z2 z3 => by rw [q3 c k z1 (by omega), b3 c k z1 (by omega), fa c k (by omega) z3]⟩
  have E : trl_beginBody (256 + so) s = (if 256 + so = 259 then bd (prg_add 0 1 0 sb) (fun _ s12 => bd (prg_add 1 6 0 s12) (fun _ s13 => some (0, s13))) else if 256 + so = 257 then bd (mth_max 1 (sb 40 4) sb) (fun r7 s7 => bd (prg_add 0 0 r7 s7) (fun _ s8 => bd (prg_add 15 102 1 s8) (fun _ s9 => bd (prg_aim 8 s9) (fun _ s10 => bd (prg_add 1 6 0 s10) (fun _ s11 => some (0, s11)))))) else some (0, sb)) := by
    unfold trl_beginBody
    rw [h12, B, bq, fa 23 11 (by omega) (by omega), fa 23 12 (by omega) (by omega), h11, h12, hN, bq, fa 40 2 (by omega) (by omega), hv, b1, bq, gr (by omega)]
  by_cases c3 : so = 3
  · obtain ⟨s1, d1, d2, d3⟩ := ema1 (x := 0) (y := 1) (z := 0) (tg := 0) b2 (Or.inl rfl) (by omega)
    obtain ⟨s2, f1, f2, f3⟩ := ema1 (x := 1) (y := 6) (z := 0) (tg := 0) d2 (Or.inl rfl) (by omega)
    refine fin s2 [(0, 1, 0, 0), (1, 6, 0, 0)] f2 (by unfold hdrU; rw [if_pos c3]) (fun c' k z1 z2 => by rw [f3 c' k z1 z2, d3 c' k z1 z2]) ?_
    rw [E, if_pos (by omega), d1, bq, f1, bq]
  · by_cases c1 : so = 1
    · have hb4 : sb 40 4 = (nf : Int) := by rw [b3 40 4 (by omega) (by omega), fa 40 4 (by omega) (by omega)]; exact hf
      obtain ⟨s1, d1, d2, d3⟩ := ema1 (x := 0) (y := 0) (z := if (1 : Int) < (nf : Int) then (nf : Int) else 1) (tg := 0) b2 (Or.inl rfl) (by omega)
      obtain ⟨s2, s3, f1, f2, f3, f4, f5⟩ := ema2 (x := 15) (y := 102) (z := 1) (w := 8) d2 (by omega) (by omega)
      obtain ⟨s4, g1, g2, g3⟩ := ema1 (x := 1) (y := 6) (z := 0) (tg := 0) f3 (Or.inl rfl) (by omega)
      refine fin s4 [(0, 0, if (1 : Int) < (nf : Int) then (nf : Int) else 1, 0), (15, 102, 1, 8), (1, 6, 0, 0)] g2 (by unfold hdrU; rw [if_neg c3, if_pos c1]) (fun c' k z1 z2 => by rw [g3 c' k z1 z2, f4 c' k z1 z2, d3 c' k z1 z2]) ?_
      rw [E, if_neg (by omega), if_pos (by omega), hb4, max_ok ⟨by omega, by omega⟩ ⟨by omega, by omega⟩, bq, d1, bq, f1, bq, f2, bq, g1, bq]
    · refine fin sb [] b2 (by unfold hdrU; rw [if_neg c3, if_neg c1]) (fun _ _ _ _ => rfl) ?_
      rw [E, if_neg (by omega), if_neg (by omega)]
theorem ntC_pa {ow obj : Int} {m : Nat} (h : ∀ u, u < 40 + Uf.length → pa u = pb u) (ho : -1 ≤ ow) : ntC F P t0 Kf Uf pa ow j obj m = ntC F P t0 Kf Uf pb ow j obj m := by
  unfold ntC
  by_cases c : fsbT F P t0 Kf Uf ow j = -1
  · rw [if_pos c, if_pos c]
  · have := fsbT_rg (F := F) (P := P) (t0 := t0) (Kf := Kf) (Uf := Uf) (ow := ow) (j := j)
    rw [if_neg c, if_neg c, h _ (by omega)]
theorem ntI_pa {wl : List wrec} {cv c : Nat} {r : itm} (h : ∀ u, u < 40 + Uf.length → pa u = pb u) : ntI F P s0 t0 Kf Uf pa wl cv c so r = ntI F P s0 t0 Kf Uf pb wl cv c so r := by
  have fk : -1 ≤ fcK F P t0 Kf r.2.1.toNat := by
    have a := fst1_rg (P := fun i => (sysCN ++ Kf.map (nmT F P t0)).getD i [] = nmT F P t0 r.2.1.toNat) (8 + Kf.length) 0
    unfold fcK
    omega
  have ft : -1 ≤ tyT F P s0 t0 Kf (wAt wl (fvW F P t0 wl cv r.2.1.toNat)) := by
    unfold tyT
    split
    · have a := fst1_rg (P := fun i => (sysCN ++ Kf.map (nmT F P t0)).getD i [] = nmT F P t0 (wAt wl (fvW F P t0 wl cv r.2.1.toNat)).2.2.2.1.toNat) (8 + Kf.length) 0
      unfold fcK
      omega
    · omega
  unfold ntI
  rw [ntC_pa (ow := 8 + (c : Int)) h (by omega), ntC_pa (ow := fcK F P t0 Kf r.2.1.toNat) h fk, ntC_pa (ow := tyT F P s0 t0 Kf (wAt wl (fvW F P t0 wl cv r.2.1.toNat))) h ft]
theorem emA_len (xs : List crc) : ∀ a : List crec × Int, (emA a xs).1.length = a.1.length + xs.length := by
  induction xs with
  | nil => intro a; rfl
  | cons x xs ih =>
    intro a
    show (emA (a.1 ++ [(x.1, x.2.1, x.2.2.1, x.2.2.2, a.2)], -1) xs).1.length = _
    rw [ih, List.length_append, List.length_singleton, List.length_cons]
    omega
theorem emF_len (em : itm → List crc) : ∀ (l : List itm) (a : List crec × Int), a.1.length ≤ (l.foldl (emS P em) a).1.length := by
  intro l
  induction l with
  | nil => intro a; exact Nat.le_refl _
  | cons x l ih =>
    intro a
    have : a.1.length ≤ (emS P em a x).1.length := by
      unfold emS
      split
      · exact Nat.le_refl _
      · rw [emA_len]; omega
    exact Nat.le_trans this (ih _)
theorem TXB_23 (h : TXB F P s0 t0 N 2 K U W s) : TXB F P s0 t0 N 3 K U W s := by
  obtain ⟨a1, a2, a3, a4, a5, a6, a7, a8, a9, a10⟩ := h
  exact ⟨a1, a2, a3, a4, a5, a6, a7, fun q => by omega, fun q => absurd rfl q, a10⟩
theorem t2_H (h : TKR 0 F n N P s0 t0) (hF : tkC F n s0) : RHT (T2 F P s0 t0 N Kf Uf Wf) (TV2 F P s0 t0 Kf) Z1 1 s0 N P := by
  have hN2 := N1001 h
  have UP : ∀ {g K U W Y A s c k x}, T2 F P s0 t0 N Kf Uf Wf g K U W Y A s → (c = 2 ∧ k = 12 ∨ c = 22 ∧ (k = 5 ∨ k = 6 ∨ k = 7)) → T2 F P s0 t0 N Kf Uf Wf g K U W Y A (up s c k x) := by
    intro g K U W Y A s c k x ⟨pa, n0, cs, pm, q1, q2⟩ hc
    exact ⟨pa, n0, cs, pm, S2_of q1 (fun c' k' q => up_ne (by omega)), fun q => M2_of (q2 q) (fun k' => up_ne (by omega))⟩
  refine ⟨?_, ?_, ?_, ?_, ?_, ?_, ?_, ?_, ?_, ?_, ?_⟩
  · exact fun g K U W Y A s x hs => ⟨UP hs (by omega), UP hs (by omega)⟩
  · intro g K U W Y A s ⟨pa, n0, cs, pm, q1, q2⟩
    exact ⟨q1.2.1, q1.1.1, fun q => absurd q (by decide), q1.1.2.1⟩
  · exact fun s hs => hs.1
  · exact fun s s' hs hz => Z1_ZK hs hz
  · intro g K U W Y A s j hs hsc hj hk hp
    obtain ⟨s1, e1, e2, e3⟩ := t2_type h hsc hj hk hp hs
    exact ⟨_, s1, e1, by unfold TV2; rw [Int.toNat_natCast, if_pos hk], e2, e3⟩
  · intro j hj
    unfold TV2
    rw [Int.toNat_natCast, if_neg (by omega)]
  · intro g K U W Y A s j v y r hs hsc hj hk hp htv hv
    have hb : TXB F P s0 t0 N g K U W s := by
      obtain ⟨pa, n0, cs, pm, q1, q2⟩ := hs
      exact q1.1
    have hK : K ≠ [] := hb.2.2.2.2.2.2.2.2.1 (by omega)
    refine ⟨?_, fun hn => t2_decl h hsc hj hk hp hs hv htv hn⟩
    unfold nwW
    rcases hv with ⟨q, c | c⟩ | ⟨q, c⟩ | ⟨q, c⟩
    · rw [if_neg (by omega), if_neg (by omega), if_pos c, c]; exact hb.2.2.2.2.2.1
    · rw [if_neg (by omega), if_neg (by omega), if_neg (by omega), c]; exact (hb.2.2.2.2.2.2.1 hK).1
    · rw [if_pos c, c]; exact (hb.2.2.2.2.2.2.2.1 (Or.inl q)).2.1
    · rw [if_neg (by omega), if_pos c, c]; exact (hb.2.2.2.2.2.2.2.1 (Or.inr q)).2.2
  · exact fun g K U W Y A s j hs hsc hj hk hp hg hK => ⟨fun q => absurd q (by decide), fun hK2 => t2_cls h hsc hj hk hp hs hg hK2⟩
  · exact fun g K U W Y A s j so y hs hsc hj hk hp hg hK hso hU => ⟨fun q => absurd q (by decide), fun hU2 => t2_sub h hsc hj hk hp hs hg hK hso hU2⟩
  · exact fun K U W Y A s hs hsc => t2_tell hsc hs
  · intro K U W Y A s so ⟨pa, n0, cs, pm, hS, hM⟩ hsc hlast
    have hS' := hS
    obtain ⟨h1, h2, h3, h4, h5, h6, h7, h9, h10⟩ := hS
    have hK : K ≠ [] := h1.2.2.2.2.2.2.2.2.1 (by omega)
    have hK1 : 0 < K.length := List.length_pos_iff.mpr hK
    have hb := h1
    obtain ⟨a1, a2, a3, a4, a5, a6, a7, a8, a9, a10⟩ := h1
    obtain ⟨u1, u2, u3⟩ := a8 (Or.inr rfl)
    have hU1 : 0 < U.length := List.length_pos_iff.mpr u1
    obtain ⟨_, o2, o3, o4, o5⟩ := h5 (by omega) hK
    have hso : so = soL U := by
      obtain ⟨x, y, e⟩ := hlast
      rw [List.getLast?_eq_getElem?] at e
      unfold soL
      rw [List.getD_eq_getElem?_getD, e]
      rfl
    have hsor : so = 1 ∨ so = 2 ∨ so = 3 := by rw [hso]; exact o3
    have hAU := h10 (Or.inr rfl)
    obtain ⟨s1, e1, e2, e3, e4, f1⟩ := t2_begin (s := up s 22 7 0) (nv := nwV ((U.length : Int) - 1) W) (nf := nwF ((K.length : Int) - 1) W) (kl := K.length) (ul := U.length) (so := so) (X2T_of h3 (fun c k q => up_ne (by omega))) (EMc_of h7 (fun c k q => up_ne (by omega))) (by rw [up_ne (by omega)]; exact a4) (by rw [up_ne (by omega)]; exact a5) (by omega) (by omega) (by rw [up_ne (by omega)]; exact u3) (by rw [up_ne (by omega)]; exact (a7 hK).1) (by have := a10.2.2.1 ((K.length : Int) - 1); omega) hsor
    have f2 : ∀ c k, ¬ (15 ≤ c ∧ c ≤ 19) → ¬ (c = 14 ∧ (k = 8 ∨ k = 9 ∨ k = 12)) → ¬ (c = 20 ∧ k = 39 + U.length) → ¬ (c = 22 ∧ k = 7) → s1 c k = s c k := fun c k z1 z2 z3 z4 => by rw [f1 c k z1 z2 z3, up_ne z4]
    have X1 : X2B F P s0 t0 N Kf Uf pa (wlG 2 K U W) (wlC K W).length (K.length - 1) so s1 := ⟨SBo_of a1 (fun c k q => f2 c k (by omega) (by omega) (by omega) (by omega)), by rw [f2 22 4 (by omega) (by omega) (by omega) (by omega)]; exact h2, by rw [f2 23 13 (by omega) (by omega) (by omega) (by omega), o2, hso], by rw [f2 23 11 (by omega) (by omega) (by omega) (by omega), a4]; omega, X2T_of h3 (fun c k q => f2 c k (by omega) (by omega) (by omega) (by omega)), by rw [hso]; exact X2V_of (h4 hK).1 (fun c k q => f2 c k (by omega) (by omega) (by omega) (by omega))⟩
    have mx1 : MX s0 s s1 := by
      obtain ⟨c1, c2, c3, c4, c5, c6, c7, c8, c9, c10⟩ := hsc
      exact ⟨⟨(funext fun k => f2 1 k (by omega) (by omega) (by omega) (by omega)).trans c1, (funext fun k => f2 9 k (by omega) (by omega) (by omega) (by omega)).trans c2, (funext fun k => f2 10 k (by omega) (by omega) (by omega) (by omega)).trans c3, (funext fun k => f2 11 k (by omega) (by omega) (by omega) (by omega)).trans c4, (funext fun k => f2 12 k (by omega) (by omega) (by omega) (by omega)).trans c5, (funext fun k => f2 13 k (by omega) (by omega) (by omega) (by omega)).trans c6, (f2 2 8 (by omega) (by omega) (by omega) (by omega)).trans c7, (f2 2 9 (by omega) (by omega) (by omega) (by omega)).trans c8, (funext fun k => f2 42 k (by omega) (by omega) (by omega) (by omega)).trans c9, (funext fun k => f2 43 k (by omega) (by omega) (by omega) (by omega)).trans c10⟩, f2 2 12 (by omega) (by omega) (by omega) (by omega), f2 22 5 (by omega) (by omega) (by omega) (by omega), f2 22 6 (by omega) (by omega) (by omega) (by omega)⟩
    have hK12 := a3.1
    refine ⟨fun l s => R2 F P s0 t0 N Kf Uf pa (wlG 2 K U W) (wlC K W).length (K.length - 1) so n0 (emA (cs, -1) (hdrU Kf Uf so (7 + (K.length : Int)) (39 + (U.length : Int)) (nwV ((U.length : Int) - 1) W) (nwF ((K.length : Int) - 1) W))) l s ∧ (∀ c k, c = 14 ∧ k = 9 ∨ c = 20 ∨ c = 21 ∨ 23 ≤ c ∧ c ≤ 40 → s c k = s1 c k), _, s1, RHE_and (r2_E h hF hsor (by omega)) (fun s s' q m c k z => by rw [MD_at m (by omega) (by omega)]; exact q c k z) (fun s x q => ⟨fun c k z => by rw [up_ne (by omega)]; exact q c k z, fun c k z => by rw [up_ne (by omega)]; exact q c k z, fun c k z => by rw [up_ne (by omega)]; exact q c k z, fun c k z => by rw [up_ne (by omega)]; exact q c k z⟩), RHS_and (r2_S h hsor) (fun s s' q m c k z => by rw [MD_at m (by omega) (by omega)]; exact q c k z) (fun s x q c k z => by rw [up_ne (by omega)]; exact q c k z), e1, ⟨⟨X1, ?_, e2⟩, fun _ _ _ => rfl⟩, mx1, by rw [f1 22 7 (by omega) (by omega) (by omega), up_same], Z1_ZK a2 (fun c k z1 z2 z3 => f2 c k (by omega) (by omega) (by omega) (by omega)), ?_⟩
    · rw [List.flatMap_nil, List.append_nil]
      exact BLc_of h6 (f2 2 13 (by omega) (by omega) (by omega) (by omega)) (f2 2 14 (by omega) (by omega) (by omega) (by omega))
    · intro l s2 j ⟨hr, hx⟩ hsc2
      obtain ⟨s3, b1, b2, b3⟩ := ema1 (x := 0) (y := 0) (z := 0) (tg := 0) hr.2.2 (Or.inl rfl) (by omega)
      have r3 : R2 F P s0 t0 N Kf Uf pa (wlG 2 K U W) (wlC K W).length (K.length - 1) so n0 (emA (cs, -1) (hdrU Kf Uf so (7 + (K.length : Int)) (39 + (U.length : Int)) (nwV ((U.length : Int) - 1) W) (nwF ((K.length : Int) - 1) W))) (l ++ [(0, 0, 0, j)]) s3 := R2_cm hr b3 rfl (by simp) b2
      obtain ⟨s4, d1, d2, d3⟩ := ema1 (x := 16) (y := 0) (z := 0) (tg := 0) r3.2.2 (Or.inl rfl) (by omega)
      have r4 : R2 F P s0 t0 N Kf Uf pa (wlG 2 K U W) (wlC K W).length (K.length - 1) so n0 (emA (cs, -1) (hdrU Kf Uf so (7 + (K.length : Int)) (39 + (U.length : Int)) (nwV ((U.length : Int) - 1) W) (nwF ((K.length : Int) - 1) W))) (l ++ [(0, 0, 0, j)] ++ [(18, 1, 0, j)]) s4 := R2_cm r3 d3 rfl (by simp) d2
      have el : l ++ [(0, 0, 0, j)] ++ [(18, 1, 0, j)] = l ++ [(0, 0, 0, j), (18, 1, 0, j)] := by rw [List.append_assoc]; rfl
      rw [el] at r4
      have f4 : ∀ c' k, ¬ (15 ≤ c' ∧ c' ≤ 19) → ¬ (c' = 14 ∧ (k = 8 ∨ k = 12)) → s4 c' k = s2 c' k := fun c' k z1 z2 => by rw [d3 c' k z1 z2, b3 c' k z1 z2]
      have hlen : cs.length ≤ ((l ++ [(0, 0, 0, j), (18, 1, 0, j)]).foldl (emS P (emI F P s0 t0 Kf Uf (wlG 2 K U W) (wlC K W).length (K.length - 1) so)) (emA (cs, -1) (hdrU Kf Uf so (7 + (K.length : Int)) (39 + (U.length : Int)) (nwV ((U.length : Int) - 1) W) (nwF ((K.length : Int) - 1) W)))).1.length := Nat.le_trans (by rw [emA_len]; exact Nat.le_add_right _ _) (emF_len _ _ _)
      obtain ⟨s5, g1, g2, g4⟩ := end2 (st := cs.length) r4.2.2 (by rw [f4 14 9 (by omega) (by omega), hx 14 9 (by omega)]; exact e3) hlen
      have k5 : ∀ c k, c = 20 ∨ 23 ≤ c ∧ c ≤ 40 → s5 c k = s1 c k := fun c k q => by rw [g4 c k (by omega) (by omega), f4 c k (by omega) (by omega), hx c k (by omega)]
      have k6 : ∀ c k, 23 ≤ c ∧ c ≤ 40 → s5 c k = s c k := fun c k q => by rw [k5 c k (by omega), f2 c k (by omega) (by omega) (by omega) (by omega)]
      have hA1 : A.length = U.length - 1 := by omega
      refine ⟨s3, s4, s5, b1, d1, g1, ⟨pa, _, _, _, ⟨TXB_23 (TXB_of hb (fun c k z1 z2 _ _ _ => k6 c k (by omega))), by rw [g4 22 4 (by omega) (by omega)]; exact r4.1.2.1, X2T_of h3 (fun c k q => k6 c k (by omega)), fun q => ⟨X2V_of (h4 q).1 (fun c k z => k6 c k (by omega)), by rw [k6 23 14 (by omega)]; exact (h4 q).2⟩, fun _ q2 => by rw [k6 23 13 (by omega)]; exact h5 (by omega) q2, BLc_of r4.2.1 (g4 2 13 (by omega) (by omega)) (g4 2 14 (by omega) (by omega)), g2, fun _ => by rw [List.length_append, List.length_singleton]; omega, fun q => by omega⟩, fun q => ?_⟩, ?_⟩
      · obtain ⟨m1, m2, m3, m4⟩ := hM (Pre_32 q)
        obtain ⟨p1, p2, p3, p4, p5, p6⟩ := Pre_3 q u1 o4 hK
        rw [← hA1] at p1 p2 p3 p4 p5 p6
        rw [← hso] at p4
        refine ⟨m1, fun k => ?_, ?_, fun u hu1 hu2 => ?_⟩
        · rw [List.mem_append, m2]
          unfold ntT
          rw [gA_app, List.mem_append, or_re, p1, p2, p3, p4, show ntI F P s0 t0 Kf Uf (paF Wf) (wlG 2 K U W) (wlC K W).length (K.length - 1) so = ntI F P s0 t0 Kf Uf pa (wlG 2 K U W) (wlC K W).length (K.length - 1) so from funext fun r => (ntI_pa m1).symm]
        · rw [List.length_append, List.length_singleton]
          show _ = cmU F P s0 t0 Kf Uf Wf A.length ((A ++ [l ++ [(0, 0, 0, j), (18, 1, 0, j)]]).getD A.length []) (cmN F P s0 t0 Kf Uf Wf (A ++ [l ++ [(0, 0, 0, j), (18, 1, 0, j)]]) A.length)
          rw [gd_end, cmN_app _ _ (Nat.le_refl _), ← m3]
          unfold cmU
          rw [p6, p5, p1, p2, p4, p3, show 8 + ((K.length - 1 : Nat) : Int) = 7 + (K.length : Int) by omega, show 40 + (A.length : Int) = 39 + (U.length : Int) by omega]
        · rw [List.length_append, List.length_singleton] at hu1
          rw [cmN_app _ _ (by omega)] at hu2 ⊢
          rw [k5 20 _ (by omega)]
          by_cases z : u = A.length
          · rw [z, ← m3] at hu2 ⊢
            rw [show 40 + A.length = 39 + U.length by omega, e4]
            omega
          · rw [f2 20 _ (by omega) (by omega) (by omega) (by omega)]
            exact m4 u (by omega) hu2
      · have fs : ∀ c k, ¬ (15 ≤ c ∧ c ≤ 19) → ¬ (c = 14 ∧ (k = 8 ∨ k = 12)) → c ≠ 21 → s5 c k = s2 c k := fun c k z1 z2 z3 => by rw [g4 c k z3 (by omega), f4 c k z1 z2]
        obtain ⟨c1, c2, c3, c4, c5, c6, c7, c8, c9, c10⟩ := hsc2
        exact ⟨⟨(funext fun k => fs 1 k (by omega) (by omega) (by omega)).trans c1, (funext fun k => fs 9 k (by omega) (by omega) (by omega)).trans c2, (funext fun k => fs 10 k (by omega) (by omega) (by omega)).trans c3, (funext fun k => fs 11 k (by omega) (by omega) (by omega)).trans c4, (funext fun k => fs 12 k (by omega) (by omega) (by omega)).trans c5, (funext fun k => fs 13 k (by omega) (by omega) (by omega)).trans c6, (fs 2 8 (by omega) (by omega) (by omega)).trans c7, (fs 2 9 (by omega) (by omega) (by omega)).trans c8, (funext fun k => fs 42 k (by omega) (by omega) (by omega)).trans c9, (funext fun k => fs 43 k (by omega) (by omega) (by omega)).trans c10⟩, fs 2 12 (by omega) (by omega) (by omega), fs 22 5 (by omega) (by omega) (by omega), fs 22 6 (by omega) (by omega) (by omega)⟩
end T2d
