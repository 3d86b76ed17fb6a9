/-! chips: the class checks a chip -/
section CJc
variable {F : Nat → Int} {n N : Nat} {P : Nat → Nat} {s0 t0 s t s' t' : iS} {C : List chR} {O E I : List Nat} {Q : List (Nat × Int)} {R L : List (Nat × Nat)} {c b i j k q r l : Nat} {Z : List Nat} {T : List tEn} {out w : Int}
theorem TOK_nil : TOK F P s0 t0 N C Q R L I c b [] := ⟨fun e he => (by cases he), List.nodup_nil, fun i hi => absurd hi (Nat.not_lt_zero i), fun e he => (by cases he)⟩
/-- the class: inner names of a chip -/
theorem c_gi (h : TKR 1 F n N P s0 t0) (hs : KHS F P s0 t0 N C O Q R L E I) (hcl : c < C.length) (hc : KC F P s0 t0 C O Q R L E s) (hw : KW s0 C Q R I Q.length s) (hb : b ≤ 1000) (h93 : s 93 (2 + c) = (b : Int)) (h99 : 0 ≤ s 99 2 ∧ s 99 2 ≤ 100) (h94 : ∀ r, (hAt C Q R I c).2.2.1 ≤ r → r < (hAt C Q R I (c + 1)).2.2.1 → s 94 r = cix F P t0 C (R.getD r (0, 0)).1) : ∃ s', cck_gatherInner ((2 + c : Nat) : Int) s = some (0, s') ∧ TOK F P s0 t0 N C Q R L I c b (gtR F P s0 t0 C O Q R L E I c b (hAt C Q R I c).2.2.1 [] ((hAt C Q R I (c + 1)).2.2.1 - (hAt C Q R I c).2.2.1)) ∧ IRc F P t0 c b (gtR F P s0 t0 C O Q R L E I c b (hAt C Q R I c).2.2.1 [] ((hAt C Q R I (c + 1)).2.2.1 - (hAt C Q R I c).2.2.1)) s' ∧ (∀ c' k, ¬ (99 ≤ c' ∧ c' ≤ 104) → ¬ (c' = 93 ∧ k = 2 + c) → s' c' k = s c' k) := by
  have bd' := KHS_bd hs
  have mm := (KHS_m hs 1 c (by omega)).2.1
  have kp := keep_ok (c := 99) (a := 100) (b := 101) (N := 100) (m := (s 99 2).toNat) (k := 0) (s := s) (by omega) (by omega) (by omega)
  have kp' : nam_keep 99 100 101 100 0 s = some (0, up s 99 2 0) := by
    have z : (((min (s 99 2).toNat 0 : Nat)) : Int) = 0 := by omega
    rw [z] at kp
    exact kp
  obtain ⟨sa, hsa⟩ : ∃ sa, sa = up s 99 2 0 := ⟨_, rfl⟩
  have fsa : ∀ c' k, ¬ (c' = 99 ∧ k = 2) → sa c' k = s c' k := fun c' k y => by rw [hsa, up_ne y]
  have hca : KC F P s0 t0 C O Q R L E sa := KC_of hc (fun c' k y => fsa c' k (by omega))
  have e78 := (KC_c (I := I) hca bd'.1 (c := c) (by omega)).2
  have hI : IRc F P t0 c b [] sa := ⟨⟨by rw [hsa, up_same]; rfl, fun i hi => absurd hi (Nat.not_lt_zero i)⟩, fun i hi => absurd hi (Nat.not_lt_zero i), by rw [fsa 93 _ (by omega)]; exact h93⟩
  obtain ⟨s', b1, b2, b3, b4⟩ := c_gatR (O := O) (b := b) (T0 := []) h hs hcl hb ((hAt C Q R I (c + 1)).2.2.1 - (hAt C Q R I c).2.2.1) (hAt C Q R I c).2.2.1 sa (by omega) (Nat.le_refl _) hca (KW_of hw (fun c' k y _ => fsa c' k (by omega))) (fun r r1 r2 => by rw [fsa 94 r (by omega)]; exact h94 r r1 r2) (by rw [Nat.sub_self]; exact TOK_nil) (by rw [Nat.sub_self]; exact hI)
  refine ⟨s', ?_, b2, b3, fun c' k z1 z2 => by rw [b4 c' k z1 z2, fsa c' k (by omega)]⟩
  unfold cck_gatherInner
  rw [kp', bq, ← hsa, gd_pos (by omega), Int.toNat_natCast, e78]
  exact b1
end CJc
