/-! the second reading: what the reading of a body asks -/
section R2e
variable {F : Nat → Int} {n N : Nat} {P : Nat → Nat} {s0 t0 s s1 s' : iS} {j m : Nat} {Kf : List Nat} {Uf : List urec} {pa : Nat → Int} {wl : List wrec} {cv c : Nat} {so ow obj : Int} {L n0 : List Nat} {a a0 : List crec × Int} {l : List itm} {r : itm}
theorem R2_up {c' k : Nat} {x : Int} (h : R2 F P s0 t0 N Kf Uf pa wl cv c so n0 a0 l s) (hc : c' = 2 ∧ k = 12 ∨ c' = 22 ∧ (k = 5 ∨ k = 6 ∨ k = 7)) : R2 F P s0 t0 N Kf Uf pa wl cv c so n0 a0 l (up s c' k x) :=
  ⟨X2B_of h.1 (fun c k q => up_ne (by omega)), BLc_of h.2.1 (up_ne (by omega)) (up_ne (by omega)), EMc_of h.2.2 (fun c k q => up_ne (by omega))⟩
/-- an item without a note -/
theorem R2_cm (h : R2 F P s0 t0 N Kf Uf pa wl cv c so n0 a0 l s) (hm : ∀ c' k, ¬ (15 ≤ c' ∧ c' ≤ 19) → ¬ (c' = 14 ∧ (k = 8 ∨ k = 12)) → s1 c' k = s c' k) (hn : ntI F P s0 t0 Kf Uf pa wl cv c so r = []) (hr : ¬ (r.1 = 11 ∨ r.1 = 17)) (he : EMc (emA (l.foldl (emS P (emI F P s0 t0 Kf Uf wl cv c so)) a0) (emI F P s0 t0 Kf Uf wl cv c so r)).1 (emA (l.foldl (emS P (emI F P s0 t0 Kf Uf wl cv c so)) a0) (emI F P s0 t0 Kf Uf wl cv c so r)).2 s1) : R2 F P s0 t0 N Kf Uf pa wl cv c so n0 a0 (l ++ [r]) s1 := by
  refine R2_step h (MDe hm) ?_ ?_
  · rw [hn, List.append_nil]
    exact BLm h.2.1 hm
  · unfold emS at he ⊢
    rw [if_neg hr]
    exact he
/-- notes first, then commands -/
theorem R2_nc {s2 : iS} (h : R2 F P s0 t0 N Kf Uf pa wl cv c so n0 a0 l s) (hn : ∀ c' k, ¬ (c' = 2 ∧ (k = 13 ∨ k = 14)) → s1 c' k = s c' k) (hb : BLc (n0 ++ l.flatMap (ntI F P s0 t0 Kf Uf pa wl cv c so) ++ ntI F P s0 t0 Kf Uf pa wl cv c so r) s1) (hm : ∀ c' k, ¬ (15 ≤ c' ∧ c' ≤ 19) → ¬ (c' = 14 ∧ (k = 8 ∨ k = 12)) → s2 c' k = s1 c' k) (hr : ¬ (r.1 = 11 ∨ r.1 = 17)) (he : EMc (emA (l.foldl (emS P (emI F P s0 t0 Kf Uf wl cv c so)) a0) (emI F P s0 t0 Kf Uf wl cv c so r)).1 (emA (l.foldl (emS P (emI F P s0 t0 Kf Uf wl cv c so)) a0) (emI F P s0 t0 Kf Uf wl cv c so r)).2 s2) : R2 F P s0 t0 N Kf Uf pa wl cv c so n0 a0 (l ++ [r]) s2 := by
  refine R2_step h (MDt (MDn hn) (MDe hm)) (BLm hb hm) ?_
  unfold emS at he ⊢
  rw [if_neg hr]
  exact he
theorem r2_E (h : TKR 0 F n N P s0 t0) (hF : tkC F n s0) (hso : so = 1 ∨ so = 2 ∨ so = 3) (hc : c < 12) : RHE (R2 F P s0 t0 N Kf Uf pa wl cv c so n0 a0) 1 (fun j => fvW F P t0 wl cv j) s0 N := by
  have hN2 := N1001 h
  refine ⟨?_, ?_, ?_, ?_, ?_, ?_, ?_, ?_, ?_, ?_, ?_, ?_, ?_, ?_, ?_, ?_⟩
  · exact fun l s x hr => ⟨R2_up hr (by omega), R2_up hr (by omega), R2_up hr (by omega), R2_up hr (by omega)⟩
  · exact fun l s hr => ⟨hr.1.2.1, hr.1.1, fun q => absurd q (by simp)⟩
  · intro l s v j hr hv1 hv2
    obtain ⟨s1, b1, b2, b3⟩ := ema1 (x := 0) (y := 0) (z := v) (tg := 0) hr.2.2 (Or.inl rfl) (by omega)
    refine ⟨s1, b1, R2_cm hr b3 rfl (by simp) ?_, MDe b3⟩
    rw [show emI F P s0 t0 Kf Uf wl cv c so (0, v, 0, j) = [(0, 0, v, 0)] by unfold emI; rw [if_pos rfl, if_neg (show ¬ v = -1 by omega)]]
    exact b2
  · intro l s j hr
    obtain ⟨s1, b1, b2, b3⟩ := ema1 (x := 0) (y := 0) (z := 0) (tg := 0) hr.2.2 (Or.inl rfl) (by omega)
    obtain ⟨s2, d1, d2, d3⟩ := ema1 (x := 7) (y := 0) (z := 0) (tg := 0) b2 (Or.inl rfl) (by omega)
    have fr : ∀ c' k, ¬ (15 ≤ c' ∧ c' ≤ 19) → ¬ (c' = 14 ∧ (k = 8 ∨ k = 12)) → s2 c' k = s c' k := fun c' k z1 z2 => by rw [d3 c' k z1 z2, b3 c' k z1 z2]
    exact ⟨s1, s2, b1, d1, R2_cm hr fr rfl (by simp) d2, MDe fr⟩
  · intro l s j hr hs hj hk hp
    obtain ⟨v, v1, v2, v3, v4, v5, v6⟩ := tkS h hj hk
    obtain ⟨s1, b1, b2, b3⟩ := ema1 (x := 0) (y := 0) (z := s0 11 j) (tg := 0) hr.2.2 (Or.inl rfl) (by omega)
    obtain ⟨s2, s3, d1, d2, d3, d4, _⟩ := ema2 (x := 15) (y := 300) (z := 1) (w := 12) b2 (by omega) (by omega)
    have f3 : ∀ c' k, ¬ (15 ≤ c' ∧ c' ≤ 19) → ¬ (c' = 14 ∧ (k = 8 ∨ k = 12)) → s3 c' k = s c' k := fun c' k z1 z2 => by rw [d4 c' k z1 z2, b3 c' k z1 z2]
    obtain ⟨s4, e1, e2, e3⟩ := str2 h hF hj hk v2 v 1 s3 _ (by omega) (by omega) (MD_SC (MDe f3) hs) (by rw [f3 2 12 (by omega) (by omega)]; exact hp) d3
    have fr : ∀ c' k, ¬ (15 ≤ c' ∧ c' ≤ 19) → ¬ (c' = 14 ∧ (k = 8 ∨ k = 12)) → s4 c' k = s c' k := fun c' k z1 z2 => by rw [e3 c' k z1 z2, f3 c' k z1 z2]
    refine ⟨s1, s2, s3, s4, b1, d1, d2, e1, R2_cm hr fr rfl (by simp) ?_, MDe fr⟩
    rw [show emI F P s0 t0 Kf Uf wl cv c so (1, 0, 0, (j : Int)) = (0, 0, s0 11 j, 0) :: (15, 300, 1, 12) :: strC F (P j) 1 v by unfold emI; rw [if_neg (by simp), if_pos rfl]; show (0, 0, s0 11 (j : Int).toNat, 0) :: (15, 300, 1, 12) :: strC F (P (j : Int).toNat) 1 (s0 11 (j : Int).toNat).toNat = _; rw [Int.toNat_natCast, v2, Int.toNat_natCast]]
    exact e2
  · intro l s j hr hs hj
    obtain ⟨s1, b1, b2, b3⟩ := ask2 (j := j) hr.1 hso (by omega) hr.2.1
    obtain ⟨s2, d1, d2, d3⟩ := ema1 (x := 0) (y := 6) (z := 0) (tg := 0) (EMn hr.2.2 b3) (Or.inl rfl) (by omega)
    refine ⟨s1, s2, b1, d1, R2_nc hr b3 ?_ d3 (by simp) d2, MDt (MDn b3) (MDe d3)⟩
    rw [show ntI F P s0 t0 Kf Uf pa wl cv c so (3, 0, 0, (j : Int)) = (if so = 2 then [16 * j + 6] else []) by unfold ntI; rw [if_pos rfl]; show (if so = 2 then [16 * (j : Int).toNat + 6] else []) = _; rw [Int.toNat_natCast]]
    exact b2
  · intro l s j hr hs hj hk
    have rg := fvW_rg (j := j) hr.1
    exact ⟨fvT_ok h hs hj hk hr.1.2.2.2.2.2.1, rg.1, show fvW F P t0 wl cv j < 48 by omega⟩
  · intro l s j hr hs hj hk
    obtain ⟨s1, b1, b2, b3⟩ := chk2 (j := j) hr.1 hso (by omega) hr.2.1
    obtain ⟨s2, d1, d2, d3⟩ := adv2 (kd := 0) (j := j) (by omega) (X2B_of hr.1 (fun c k q => b3 c k (by omega))) (EMn hr.2.2 b3)
    refine ⟨s1, s2, b1, d1, R2_nc hr b3 ?_ d3 (by simp) ?_, MDt (MDn b3) (MDe d3)⟩
    · rw [show ntI F P s0 t0 Kf Uf pa wl cv c so (4, 0, 0, (j : Int)) = ntV F P t0 wl cv so j by unfold ntI; rw [if_neg (by simp), if_pos (Or.inl rfl)]; show ntV F P t0 wl cv so (j : Int).toNat = _; rw [Int.toNat_natCast]]
      exact b2
    · rw [show emI F P s0 t0 Kf Uf wl cv c so (4, 0, 0, (j : Int)) = emV F P t0 wl cv so 0 j by unfold emI; rw [if_neg (by simp), if_neg (by simp), if_neg (by simp), if_pos rfl]; show emV F P t0 wl cv so 0 (j : Int).toNat = _; rw [Int.toNat_natCast]]
      exact d2
  · intro l s j hr
    obtain ⟨s1, b1, b2, b3⟩ := ema1 (x := 2) (y := 0) (z := 0) (tg := 0) hr.2.2 (Or.inl rfl) (by omega)
    obtain ⟨s2, d1, d2, d3⟩ := ema1 (x := 1) (y := 6) (z := 1) (tg := 0) b2 (Or.inl rfl) (by omega)
    obtain ⟨s3, e1, e2, e3⟩ := ema1 (x := 0) (y := 5) (z := 0) (tg := 0) d2 (Or.inl rfl) (by omega)
    have fr : ∀ c' k, ¬ (15 ≤ c' ∧ c' ≤ 19) → ¬ (c' = 14 ∧ (k = 8 ∨ k = 12)) → s3 c' k = s c' k := fun c' k z1 z2 => by rw [e3 c' k z1 z2, d3 c' k z1 z2, b3 c' k z1 z2]
    exact ⟨s1, s2, s3, b1, d1, e1, R2_cm hr fr rfl (by simp) e2, MDe fr, MDe b3⟩
  · intro l s x j hr hx
    have rgx : rg x := by
      have := sO_rg hx
      unfold rg
      omega
    obtain ⟨s1, b1, b2, b3⟩ := op2 rgx hr.2.2
    exact ⟨s1, b1, R2_cm hr b3 rfl (by simp) b2, MDe b3⟩
  · intro l s j hr
    obtain ⟨s1, b1, b2, b3⟩ := ema1 (x := 4) (y := 0) (z := 0) (tg := 0) hr.2.2 (Or.inl rfl) (by omega)
    exact ⟨s1, b1, R2_cm hr b3 rfl (by simp) b2, MDe b3⟩
  · intro l s j hr
    obtain ⟨s1, b1, b2, b3⟩ := ema1 (x := 7) (y := 0) (z := 0) (tg := 0) hr.2.2 (Or.inl rfl) (by omega)
    exact ⟨s1, b1, R2_cm hr b3 rfl (by simp) b2, MDe b3⟩
  · intro l s j hr hs hj hk
    obtain ⟨s1, b1, b2, b3⟩ := ask2 (j := j) hr.1 hso (by omega) hr.2.1
    obtain ⟨s2, d1, d2, d3⟩ := ema1 (x := 0) (y := 6) (z := 0) (tg := 0) (EMn hr.2.2 b3) (Or.inl rfl) (by omega)
    refine ⟨s1, s2, b1, d1, R2_nc hr b3 ?_ d3 (by simp) d2, MDt (MDn b3) (MDe d3)⟩
    rw [show ntI F P s0 t0 Kf Uf pa wl cv c so (9, -1, (j : Int), 0) = (if so = 2 then [16 * j + 6] else []) by unfold ntI; rw [if_neg (by simp), if_neg (by simp), if_pos rfl, if_pos rfl]; show (if so = 2 then [16 * (j : Int).toNat + 6] else []) = _; rw [Int.toNat_natCast]]
    exact b2
  · intro l s j hr hs hj hk hk2
    have e1 : ¬ ((j : Int) = -1) := by omega
    have N9 : ntI F P s0 t0 Kf Uf pa wl cv c so (9, (j : Int), ((j + 2 : Nat) : Int), 0) = (if fvW F P t0 wl cv j = -1 then [] else ntV F P t0 wl cv so j) := by
      unfold ntI
      rw [if_neg (by simp), if_neg (by simp), if_pos rfl, if_neg e1]
      show (if fvW F P t0 wl cv (j : Int).toNat = -1 then [] else ntV F P t0 wl cv so (j : Int).toNat) = _
      rw [Int.toNat_natCast]
    have E9 : emI F P s0 t0 Kf Uf wl cv c so (9, (j : Int), ((j + 2 : Nat) : Int), 0) = emV F P t0 wl cv so 0 j := by
      unfold emI
      rw [if_neg (by simp), if_neg (by simp), if_neg (by simp), if_neg (by simp), if_neg (by simp), if_neg (by simp), if_neg (by simp), if_neg (by simp), if_pos rfl, if_neg e1]
      show emV F P t0 wl cv so 0 (j : Int).toNat = _
      rw [Int.toNat_natCast]
    refine ⟨fun cf => ?_, fun cf => ?_⟩
    · obtain ⟨s1, b1, b2, b3⟩ := chk2 (j := j) hr.1 hso (by omega) hr.2.1
      obtain ⟨s2, d1, d2, d3⟩ := adv2 (kd := 0) (j := j) (by omega) (X2B_of hr.1 (fun c k q => b3 c k (by omega))) (EMn hr.2.2 b3)
      refine ⟨s1, s2, b1, d1, R2_nc hr b3 ?_ d3 (by simp) (by rw [E9]; exact d2), MDt (MDn b3) (MDe d3)⟩
      rw [N9, if_neg cf]
      exact b2
    · refine R2_cm hr (fun _ _ _ _ => rfl) (by rw [N9, if_pos cf]) (by simp) ?_
      rw [E9]
      unfold emV
      rw [if_pos cf]
      exact hr.2.2
  · intro l s j m G hr hs hj hk hm
    have h4 := hr.1.2.2.2.1
    obtain ⟨s1, b1, b2, b3, b4⟩ := call_212 (G := G) (ow := 8 + (c : Int)) (obj := 1) (m := m) h hs hj hk hr.1.2.2.2.2.1 hr.2.1 hr.2.2 (by omega) (Or.inr rfl) hm
    refine ⟨s1, ?_, R2_step hr (MDc b4) ?_ ?_, MDc b4⟩
    · unfold trl_readCall_185
      rw [hr.1.2.1, gr (by omega), if_neg (by omega), h4, gr (by omega), if_neg (by omega), gr (by omega), if_pos rfl]
      exact b1
    · rw [show ntI F P s0 t0 Kf Uf pa wl cv c so (10, -1, (j : Int), (m : Int)) = ntC F P t0 Kf Uf pa (8 + (c : Int)) j 1 m by unfold ntI; rw [if_neg (by simp), if_neg (by simp), if_neg (by simp), if_pos rfl, if_pos rfl]; show ntC F P t0 Kf Uf pa (8 + (c : Int)) (j : Int).toNat 1 (m : Int).toNat = _; rw [Int.toNat_natCast, Int.toNat_natCast]]
      exact b2
    · unfold emS
      rw [if_neg (by show ¬ ((10 : Int) = 11 ∨ (10 : Int) = 17); decide), show emI F P s0 t0 Kf Uf wl cv c so (10, -1, (j : Int), (m : Int)) = [cmC F P t0 Kf Uf (8 + (c : Int)) j ((m : Int) + 1)] by unfold emI; rw [if_neg (by simp), if_neg (by simp), if_neg (by simp), if_neg (by simp), if_neg (by simp), if_neg (by simp), if_neg (by simp), if_neg (by simp), if_neg (by simp), if_pos rfl, if_pos rfl]; show [cmC F P t0 Kf Uf (8 + (c : Int)) (j : Int).toNat ((m : Int) + 1)] = _; rw [Int.toNat_natCast]]
      exact b3
  · intro l s j m G hr hs hj hk hk2 hm
    have rg := fvW_rg (j := j) hr.1
    have hl := hr.1.2.2.2.2.1.2.2.2.2.2.2.1
    have e1 : ¬ ((j : Int) = -1) := by omega
    have N10 : ntI F P s0 t0 Kf Uf pa wl cv c so (10, (j : Int), ((j + 2 : Nat) : Int), (m : Int)) = (if fvW F P t0 wl cv j = -1 then (if fcK F P t0 Kf j = -1 then [16 * j + 4] else ntC F P t0 Kf Uf pa (fcK F P t0 Kf j) (j + 2) 0 m) else ntC F P t0 Kf Uf pa (tyT F P s0 t0 Kf (wAt wl (fvW F P t0 wl cv j))) (j + 2) 1 m) := by
      unfold ntI
      rw [if_neg (by simp), if_neg (by simp), if_neg (by simp), if_pos rfl, if_neg e1]
      show (if fvW F P t0 wl cv (j : Int).toNat = -1 then (if fcK F P t0 Kf (j : Int).toNat = -1 then [16 * (j : Int).toNat + 4] else ntC F P t0 Kf Uf pa (fcK F P t0 Kf (j : Int).toNat) ((j + 2 : Nat) : Int).toNat 0 (m : Int).toNat) else ntC F P t0 Kf Uf pa (tyT F P s0 t0 Kf (wAt wl (fvW F P t0 wl cv (j : Int).toNat))) ((j + 2 : Nat) : Int).toNat 1 (m : Int).toNat) = _
      rw [Int.toNat_natCast, Int.toNat_natCast, Int.toNat_natCast]
    have E10 : emI F P s0 t0 Kf Uf wl cv c so (10, (j : Int), ((j + 2 : Nat) : Int), (m : Int)) = (if fvW F P t0 wl cv j = -1 then (if fcK F P t0 Kf j = -1 then [] else [cmC F P t0 Kf Uf (fcK F P t0 Kf j) (j + 2) ((m : Int) + 0)]) else [cmC F P t0 Kf Uf (tyT F P s0 t0 Kf (wAt wl (fvW F P t0 wl cv j))) (j + 2) ((m : Int) + 1)]) := by
      unfold emI
      rw [if_neg (by simp), if_neg (by simp), if_neg (by simp), if_neg (by simp), if_neg (by simp), if_neg (by simp), if_neg (by simp), if_neg (by simp), if_neg (by simp), if_pos rfl, if_neg e1]
      show (if fvW F P t0 wl cv (j : Int).toNat = -1 then (if fcK F P t0 Kf (j : Int).toNat = -1 then [] else [cmC F P t0 Kf Uf (fcK F P t0 Kf (j : Int).toNat) ((j + 2 : Nat) : Int).toNat ((m : Int) + 0)]) else [cmC F P t0 Kf Uf (tyT F P s0 t0 Kf (wAt wl (fvW F P t0 wl cv (j : Int).toNat))) ((j + 2 : Nat) : Int).toNat ((m : Int) + 1)]) = _
      rw [Int.toNat_natCast, Int.toNat_natCast]
    have nS : ¬ (((10 : Int), (j : Int), ((j + 2 : Nat) : Int), (m : Int)).1 = 11 ∨ ((10 : Int), (j : Int), ((j + 2 : Nat) : Int), (m : Int)).1 = 17) := by show ¬ ((10 : Int) = 11 ∨ (10 : Int) = 17); decide
    show ∃ s1, bd (trl_ownerOf (fvW F P t0 wl cv j) (j : Int) s) (fun r7 s7 => trl_readCall_185 G (j : Int) 1 (if fvW F P t0 wl cv j = -1 then 0 else 1) (m : Int) r7 s7) = some (0, s1) ∧ _
    have h2 := hr.1.2.1
    by_cases cf : fvW F P t0 wl cv j = -1
    · obtain ⟨k1, k2, k3⟩ := fcK_ok h hs (by omega) hk hr.1.2.2.2.2.1.1 hr.1.2.2.2.2.1.2.2.2.2.1 hl
      rw [if_pos cf] at N10 E10
      by_cases cc : fcK F P t0 Kf j = -1
      · obtain ⟨s1, b1, b2, b3⟩ := bl_add (f := 4) (t := j) hr.2.1 (by omega) (by omega)
        rw [show ((4 : Nat) : Int) = 4 from rfl] at b1
        rw [if_pos cc] at N10 E10
        refine ⟨s1, ?_, R2_step hr (MDn b3) (by rw [N10]; exact b2) ?_, MDn b3⟩
        · unfold trl_ownerOf
          rw [if_pos cf, gr (by omega), if_pos cf, k1, bq, h2, gr (by omega), if_neg (by omega), gr (by omega), if_pos cc, b1, bq, bq]
          unfold trl_readCall_185
          rw [b3 22 4 (by omega), h2, gr (by omega), if_neg (by omega), gr (by omega), if_pos rfl]
        · unfold emS
          rw [if_neg nS, E10]
          exact EMn hr.2.2 b3
      · obtain ⟨s1, b1, b2, b3, b4⟩ := call_212 (G := G) (ow := fcK F P t0 Kf j) (j := j + 2) (obj := 0) (m := m) h hs hj hk2 hr.1.2.2.2.2.1 hr.2.1 hr.2.2 (by omega) (Or.inl rfl) hm
        rw [if_neg cc] at N10 E10
        refine ⟨s1, ?_, R2_step hr (MDc b4) (by rw [N10]; exact b2) ?_, MDc b4⟩
        · unfold trl_ownerOf
          rw [if_pos cf, gr (by omega), if_pos cf, k1, bq, h2, gr (by omega), if_neg (by omega), gr (by omega), if_neg cc, bq]
          unfold trl_readCall_185
          rw [h2, gr (by omega), if_neg (by omega), gr (by omega), if_neg (by omega), gr (by omega), if_neg (by omega), show (j : Int) + 2 = ((j + 2 : Nat) : Int) by omega]
          exact b1
        · unfold emS
          rw [if_neg nS, E10]
          exact b3
    · obtain ⟨q1, q2, q3, q4, q5, q6⟩ := hr.1.2.2.2.2.2.2 (fvW F P t0 wl cv j).toNat (by omega)
      have ty : -1 ≤ tyT F P s0 t0 Kf (wAt wl (fvW F P t0 wl cv j)) ∧ tyT F P s0 t0 Kf (wAt wl (fvW F P t0 wl cv j)) < 8 + (Kf.length : Int) := by
        unfold tyT
        split
        · have a := fst1_rg (P := fun i => (sysCN ++ Kf.map (nmT F P t0)).getD i [] = nmT F P t0 (wAt wl (fvW F P t0 wl cv j)).2.2.2.1.toNat) (8 + Kf.length) 0
          unfold fcK
          omega
        · omega
      obtain ⟨s1, b1, b2, b3, b4⟩ := call_212 (G := G) (ow := tyT F P s0 t0 Kf (wAt wl (fvW F P t0 wl cv j))) (j := j + 2) (obj := 1) (m := m) h hs hj hk2 hr.1.2.2.2.2.1 hr.2.1 hr.2.2 (by omega) (Or.inr rfl) hm
      rw [if_neg cf] at N10 E10
      refine ⟨s1, ?_, R2_step hr (MDc b4) (by rw [N10]; exact b2) ?_, MDc b4⟩
      · unfold trl_ownerOf
        rw [if_neg cf, gr (by omega), if_neg cf, gd_pos (by omega), q1, bq]
        show trl_readCall_185 G (j : Int) 1 1 (m : Int) (tyT F P s0 t0 Kf (wAt wl (fvW F P t0 wl cv j))) s = _
        unfold trl_readCall_185
        rw [h2, gr (by omega), if_neg (by omega), gr (by omega), if_neg (by omega), gr (by omega), if_neg (by omega), show (j : Int) + 2 = ((j + 2 : Nat) : Int) by omega]
        exact b1
      · unfold emS
        rw [if_neg nS, E10]
        exact b3
end R2e
