/-! the second reading: what the reading of statements asks -/
section R2f
variable {F : Nat → Int} {n N : Nat} {P : Nat → Nat} {s0 t0 s s1 s' : iS} {j m : Nat} {Kf : List Nat} {Uf : List urec} {pa : Nat → Int} {wl : List wrec} {cv c : Nat} {so ow obj : Int} {L n0 : List Nat} {a a0 : List crec × Int} {l : List itm} {r : itm}
/-- a mark waits -/
theorem R2_mk {k : Int} (h : R2 F P s0 t0 N Kf Uf pa wl cv c so n0 a0 l s) (hk : k = 11 ∧ s0 9 j ≠ 271 ∨ k = 17) : R2 F P s0 t0 N Kf Uf pa wl cv c so n0 a0 (l ++ [(k, 0, 0, (j : Int))]) (up s 14 12 (P j : Int)) := by
  refine R2_step h (md_upF (by simp)) ?_ ?_
  · have e : ntI F P s0 t0 Kf Uf pa wl cv c so (k, 0, 0, (j : Int)) = [] := by
      unfold ntI
      rw [if_neg (show ¬ k = 3 by omega), if_neg (show ¬ (k = 4 ∨ k = 13) by omega), if_neg (show ¬ k = 9 by omega), if_neg (show ¬ k = 10 by omega), if_neg (show ¬ (k = 11 ∧ s0 9 (j : Int).toNat = 271) by rw [Int.toNat_natCast]; omega)]
    rw [e, List.append_nil]
    exact BLc_of h.2.1 (up_ne (by omega)) (up_ne (by omega))
  · unfold emS
    rw [if_pos (show k = 11 ∨ k = 17 by omega)]
    show EMc _ (P (j : Int).toNat : Int) _
    rw [Int.toNat_natCast]
    exact em_mark h.2.2
theorem r2_S (h : TKR 0 F n N P s0 t0) (hso : so = 1 ∨ so = 2 ∨ so = 3) : RHS (R2 F P s0 t0 N Kf Uf pa wl cv c so n0 a0) 1 (fun j => fvW F P t0 wl cv j) s0 N P := by
  have hN2 := N1001 h
  have M12 : ∀ {s : iS} {x : Int}, MD s (up s 14 12 x) := md_upF (by simp)
  refine ⟨?_, ?_, ?_, ?_, ?_, ?_, ?_, ?_, ?_, ?_, ?_, ?_, ?_⟩
  · exact fun q => absurd q (by simp)
  · exact fun l s j hr hj hk => ⟨_, mk_eq, R2_mk hr (Or.inl ⟨rfl, by omega⟩), M12⟩
  · intro l s j hr hs hj hk hk2
    have hr1 : R2 F P s0 t0 N Kf Uf pa wl cv c so n0 a0 l (up s 2 12 ((j + 1 : Nat) : Int)) := R2_up hr (by omega)
    have X1 : X2B F P s0 t0 N Kf Uf pa wl cv c so (up (up s 14 12 (P j : Int)) 2 12 ((j + 1 : Nat) : Int)) := X2B_of hr.1 (fun c k q => by rw [up_ne (by omega), up_ne (by omega)])
    have B1 : BLc (n0 ++ l.flatMap (ntI F P s0 t0 Kf Uf pa wl cv c so)) (up (up s 14 12 (P j : Int)) 2 12 ((j + 1 : Nat) : Int)) := BLc_of hr.2.1 (by rw [up_ne (by omega), up_ne (by omega)]) (by rw [up_ne (by omega), up_ne (by omega)])
    obtain ⟨s2, b1, b2, b3⟩ := chk2 (j := j + 1) X1 hso (by omega) B1
    have md : MD (up s 2 12 ((j + 1 : Nat) : Int)) s2 := MDt (MD_up2 M12) (MDn b3)
    refine ⟨_, s2, mk_eq, fvT_ok h (SC_up (SC_up hs (by omega)) (by omega)) hj hk2 X1.2.2.2.2.2.1, b1, R2_step hr1 md ?_ ?_, md⟩
    · rw [show ntI F P s0 t0 Kf Uf pa wl cv c so (11, 0, 0, (j : Int)) = ntV F P t0 wl cv so (j + 1) by unfold ntI; rw [if_neg (by simp), if_neg (by simp), if_neg (by simp), if_neg (by simp), if_pos ⟨rfl, by show s0 9 (j : Int).toNat = 271; rw [Int.toNat_natCast]; exact hk⟩]; show ntV F P t0 wl cv so ((j : Int).toNat + 1) = _; rw [Int.toNat_natCast]]
      exact b2
    · unfold emS
      rw [if_pos (Or.inl rfl)]
      show EMc _ (P (j : Int).toNat : Int) _
      rw [Int.toNat_natCast]
      exact EMn (EMc_of (em_mark (y := (P j : Int)) hr.2.2) (fun c k q => up_ne (by omega))) b3
  · intro l s j hr hs hin hj hk hk2
    obtain ⟨s2, d1, d2, d3⟩ := adv2 (kd := 0) (j := j + 1) (by omega) hr.1 hr.2.2
    refine ⟨s2, d1, R2_step hr (MDe d3) (BLm (BLc_dup hr.2.1 (fun k hk' => ?_)) d3) ?_, MDe d3⟩
    · rw [show ntI F P s0 t0 Kf Uf pa wl cv c so (4, 0, 0, ((j + 1 : Nat) : Int)) = ntV F P t0 wl cv so (j + 1) by unfold ntI; rw [if_neg (by simp), if_pos (Or.inl rfl)]; show ntV F P t0 wl cv so ((j + 1 : Nat) : Int).toNat = _; rw [Int.toNat_natCast]] at hk'
      refine List.mem_append_right _ (List.mem_flatMap.mpr ⟨_, hin, ?_⟩)
      rw [show ntI F P s0 t0 Kf Uf pa wl cv c so (11, 0, 0, (j : Int)) = ntV F P t0 wl cv so (j + 1) by unfold ntI; rw [if_neg (by simp), if_neg (by simp), if_neg (by simp), if_neg (by simp), if_pos ⟨rfl, by show s0 9 (j : Int).toNat = 271; rw [Int.toNat_natCast]; exact hk⟩]; show ntV F P t0 wl cv so ((j : Int).toNat + 1) = _; rw [Int.toNat_natCast]]
      exact hk'
    · unfold emS
      rw [if_neg (by show ¬ ((4 : Int) = 11 ∨ (4 : Int) = 17); decide), show emI F P s0 t0 Kf Uf wl cv c so (4, 0, 0, ((j + 1 : Nat) : Int)) = emV F P t0 wl cv so 0 (j + 1) by unfold emI; rw [if_neg (by simp), if_neg (by simp), if_neg (by simp), if_pos rfl]; show emV F P t0 wl cv so 0 ((j + 1 : Nat) : Int).toNat = _; rw [Int.toNat_natCast]]
      exact d2
  · intro l s j hr hs hin hj hk hk2
    obtain ⟨s2, d1, d2, d3⟩ := adv2 (kd := 1) (j := j + 1) (by omega) hr.1 hr.2.2
    refine ⟨s2, d1, R2_step hr (MDe d3) (BLm (BLc_dup hr.2.1 (fun k hk' => ?_)) d3) ?_, MDe d3⟩
    · rw [show ntI F P s0 t0 Kf Uf pa wl cv c so (13, 0, 0, ((j + 1 : Nat) : Int)) = ntV F P t0 wl cv so (j + 1) by unfold ntI; rw [if_neg (by simp), if_pos (Or.inr rfl)]; show ntV F P t0 wl cv so ((j + 1 : Nat) : Int).toNat = _; rw [Int.toNat_natCast]] at hk'
      refine List.mem_append_right _ (List.mem_flatMap.mpr ⟨_, hin, ?_⟩)
      rw [show ntI F P s0 t0 Kf Uf pa wl cv c so (11, 0, 0, (j : Int)) = ntV F P t0 wl cv so (j + 1) by unfold ntI; rw [if_neg (by simp), if_neg (by simp), if_neg (by simp), if_neg (by simp), if_pos ⟨rfl, by show s0 9 (j : Int).toNat = 271; rw [Int.toNat_natCast]; exact hk⟩]; show ntV F P t0 wl cv so ((j : Int).toNat + 1) = _; rw [Int.toNat_natCast]]
      exact hk'
    · unfold emS
      rw [if_neg (by show ¬ ((13 : Int) = 11 ∨ (13 : Int) = 17); decide), show emI F P s0 t0 Kf Uf wl cv c so (13, 0, 0, ((j + 1 : Nat) : Int)) = emV F P t0 wl cv so 1 (j + 1) by unfold emI; rw [if_neg (by simp), if_neg (by simp), if_neg (by simp), if_neg (by simp), if_neg (by simp), if_neg (by simp), if_neg (by simp), if_neg (by simp), if_neg (by simp), if_neg (by simp), if_pos rfl]; show emV F P t0 wl cv so 1 ((j + 1 : Nat) : Int).toNat = _; rw [Int.toNat_natCast]]
      exact d2
  · intro l s j hr
    obtain ⟨s1, b1, b2, b3⟩ := ema1 (x := 1) (y := 7) (z := 0) (tg := 0) hr.2.2 (Or.inl rfl) (by omega)
    obtain ⟨s2, d1, d2, d3⟩ := ema1 (x := 1) (y := 6) (z := 1) (tg := 0) b2 (Or.inl rfl) (by omega)
    obtain ⟨s3, e1, e2, e3⟩ := ema1 (x := 0) (y := 7) (z := 0) (tg := 0) d2 (Or.inl rfl) (by omega)
    obtain ⟨s4, g1, g2, g3⟩ := ema1 (x := 1) (y := 5) (z := 0) (tg := 0) e2 (Or.inl rfl) (by omega)
    have fr : ∀ c' k, ¬ (15 ≤ c' ∧ c' ≤ 19) → ¬ (c' = 14 ∧ (k = 8 ∨ k = 12)) → s4 c' k = s c' k := fun c' k z1 z2 => by rw [g3 c' k z1 z2, e3 c' k z1 z2, d3 c' k z1 z2, b3 c' k z1 z2]
    exact ⟨s1, s2, s3, s4, b1, d1, e1, g1, R2_cm hr fr rfl (by simp) g2, MDe fr⟩
  · intro l s j hr
    obtain ⟨s1, b1, b2, b3⟩ := ema1 (x := 1) (y := 7) (z := 0) (tg := 0) hr.2.2 (Or.inl rfl) (by omega)
    exact ⟨s1, b1, R2_cm hr b3 rfl (by simp) b2, MDe b3⟩
  · intro l s j hr
    obtain ⟨s1, b1, b2, b3⟩ := ema1 (x := 16) (y := 0) (z := 0) (tg := 0) hr.2.2 (Or.inl rfl) (by omega)
    exact ⟨s1, b1, R2_cm hr b3 rfl (by simp) b2, MDe b3⟩
  · intro l s j lab hr hl
    obtain ⟨s1, b1, b2, b3⟩ := ema1 (x := 0) (y := 0) (z := 0) (tg := 0) hr.2.2 (Or.inl rfl) (by omega)
    obtain ⟨s2, d1, d2, d3⟩ := ema1 (x := 8) (y := 0) (z := 0) (tg := 0) b2 (Or.inl rfl) (by omega)
    obtain ⟨s3, e1, e2, e3⟩ := ema1 (x := 13) (y := (lab : Int)) (z := 0) (tg := -9) d2 (Or.inr rfl) (by omega)
    have fr : ∀ c' k, ¬ (15 ≤ c' ∧ c' ≤ 19) → ¬ (c' = 14 ∧ (k = 8 ∨ k = 12)) → s3 c' k = s c' k := fun c' k z1 z2 => by rw [e3 c' k z1 z2, d3 c' k z1 z2, b3 c' k z1 z2]
    exact ⟨s1, s2, s3, b1, d1, e1, R2_cm hr fr rfl (by simp) e2, MDe fr⟩
  · intro l s x j lab hr hl
    obtain ⟨s1, b1, b2, b3⟩ := ema1 (x := 12) (y := (lab : Int)) (z := 0) (tg := -9) hr.2.2 (Or.inr rfl) (by omega)
    exact ⟨s1, b1, R2_cm hr b3 rfl (by simp) b2, MDe b3⟩
  · intro l s j lab hr hl
    obtain ⟨s1, b1, b2, b3⟩ := ema1 (x := 11) (y := (lab : Int)) (z := 0) (tg := 0) hr.2.2 (Or.inl rfl) (by omega)
    exact ⟨s1, b1, R2_cm hr b3 rfl (by simp) b2, MDe b3⟩
  · exact fun l s j hr hj => ⟨_, mk_eq, R2_mk hr (Or.inr rfl), M12⟩
  · exact fun l s j hr => R2_cm hr (fun _ _ _ _ => rfl) rfl (by simp) hr.2.2
end R2f
