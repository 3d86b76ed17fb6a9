/-! chips: reading, from its beginning -/
section CHk
variable {F : Nat → Int} {n N : Nat} {P : Nat → Nat} {s0 t0 : iS}
theorem rw_ok {s : iS} : tok_rewind s = some (0, up (up (up s 2 12 0) 2 13 0) 2 14 (-1)) := by
  unfold tok_rewind
  rw [lt_eq, lt_eq, lt_eq]
theorem tb_cu2 {c a b' : Nat} {l : List (List Int)} {s : iS} (h2 : s c 2 = (l.length : Int)) (h : ∀ i, i < l.length → s a i = wH (l.getD i []) ∧ s b' i = wL (l.getD i [])) : TB c a b' l s := ⟨h2, h⟩
/-- both read a text of chips -/
theorem h_read (hH : TKH F n N P s0 t0) (hz : SZc s0) (hp : t0 121 10 = 0) : ∃ s' t', crd_read s0 = some (0, s') ∧ m_chipTexts t0 = some (0, t') ∧ ((∃ C O Q R L E I, RDE F P s0 t0 N C O Q R L E I s' t') ∨ ∃ f q, (0 < f ∧ f < 3) ∧ q < N ∧ DCh N s0 f q s' ∧ SZc s' ∧ DRh N P t0 f q t') := by
  have h := hH.1
  have N1 := h.2.1
  obtain ⟨z1, z2, z3, z4, z5, z6, z7, z8⟩ := hz
  obtain ⟨m1, hm1⟩ : ∃ m1 : Nat, s0 72 2 = (m1 : Int) := ⟨(s0 72 2).toNat, by omega⟩
  obtain ⟨m2, hm2⟩ : ∃ m2 : Nat, s0 79 2 = (m2 : Int) := ⟨(s0 79 2).toNat, by omega⟩
  have k1 := keep_ok (c := 72) (a := 73) (b := 74) (N := 18) (m := m1) (k := 2) (s := s0) hm1 (by omega) (by omega)
  have k1' : nam_keep 72 73 74 18 2 s0 = some (0, up s0 72 2 2) := by
    rw [show min m1 2 = 2 by omega] at k1
    exact k1
  have k2 := keep_ok (c := 79) (a := 80) (b := 81) (N := 197) (m := m2) (k := 5) (s := up s0 72 2 2) (by rw [up_ne (by omega)]; exact hm2) (by omega) (by omega)
  have k2' : nam_keep 79 80 81 197 5 (up s0 72 2 2) = some (0, up (up s0 72 2 2) 79 2 5) := by
    rw [show min m2 5 = 5 by omega] at k2
    exact k2
  obtain ⟨s1, h1⟩ : ∃ s1, s1 = up (up (up (up (up (up (up s0 72 2 2) 79 2 5) 71 13 0) 71 14 0) 2 12 0) 2 13 0) 2 14 (-1) := ⟨_, rfl⟩
  have fs : ∀ c k, ¬ (c = 72 ∧ k = 2) → ¬ (c = 79 ∧ k = 2) → ¬ (c = 71 ∧ (k = 13 ∨ k = 14)) → ¬ (c = 2 ∧ (k = 12 ∨ k = 13 ∨ k = 14)) → s1 c k = s0 c k := fun c k y1 y2 y3 y4 => by rw [h1, up_ne (by omega), up_ne (by omega), up_ne (by omega), up_ne (by omega), up_ne (by omega), up_ne (by omega), up_ne (by omega)]
  have ec : crd_read s0 = bd (crd_readChip s1) (fun _ s6 => crd_read_39 ((0 : Nat) : Int) s6) := by
    unfold crd_read
    rw [k1', bq, k2', bq, lt_eq, lt_eq, rw_ok, bq, ← h1]
    rfl
  obtain ⟨t1, g1⟩ : ∃ t1, t1 = up (up (up (up (up (up t0 121 11 0) 121 122 0) 121 125 0) 121 131 0) 121 134 0) 121 144 0 := ⟨_, rfl⟩
  have ft : ∀ c k, ¬ (c = 121 ∧ (k = 11 ∨ k = 122 ∨ k = 125 ∨ k = 131 ∨ k = 134 ∨ k = 144)) → t1 c k = t0 c k := fun c k y => by rw [g1, up_ne (by omega), up_ne (by omega), up_ne (by omega), up_ne (by omega), up_ne (by omega), up_ne (by omega)]
  have er : m_chipTexts t0 = m_chipTexts_32 1 t1 := by
    unfold m_chipTexts
    rw [lt_eq, lt_eq, lt_eq, lt_eq, lt_eq, lt_eq, ← g1]
  have r : ∀ c, c ≠ 2 → c ≠ 71 → c ≠ 72 → c ≠ 79 → s1 c = s0 c := fun c y1 y2 y3 y4 => funext fun k => fs c k (by omega) (by omega) (by omega) (by omega)
  have r' : ∀ c, c ≠ 121 → t1 c = t0 c := fun c y => funext fun k => ft c k (by omega)
  have lv : LVh N s0 t0 0 s1 t1 := ⟨⟨r 1 (by omega) (by omega) (by omega) (by omega), r 9 (by omega) (by omega) (by omega) (by omega), r 10 (by omega) (by omega) (by omega) (by omega), r 11 (by omega) (by omega) (by omega) (by omega), r 12 (by omega) (by omega) (by omega) (by omega), r 13 (by omega) (by omega) (by omega) (by omega), fs 2 8 (by omega) (by omega) (by omega) (by omega), fs 2 9 (by omega) (by omega) (by omega) (by omega), r 42 (by omega) (by omega) (by omega) (by omega), r 43 (by omega) (by omega) (by omega) (by omega)⟩, ⟨r' 123 (by omega), r' 124 (by omega), r' 125 (by omega), r' 126 (by omega), r' 127 (by omega), ft 121 3 (by omega)⟩, by rw [h1, up_ne (by omega), up_ne (by omega), up_same]; rfl, by rw [ft 121 10 (by omega), hp]; rfl, by omega, ⟨by rw [h1, up_ne (by omega), up_same], by rw [h1, up_same]⟩, by rw [g1, up_ne (by omega), up_ne (by omega), up_ne (by omega), up_ne (by omega), up_ne (by omega), up_same]⟩
  have c72 : s1 72 2 = 2 := by rw [h1, up_ne (by omega), up_ne (by omega), up_ne (by omega), up_ne (by omega), up_ne (by omega), up_ne (by omega), up_same]
  have c79 : s1 79 2 = 5 := by rw [h1, up_ne (by omega), up_ne (by omega), up_ne (by omega), up_ne (by omega), up_ne (by omega), up_same]
  have rl : RLu F P s0 t0 N [] [] [] [] [] [] [] 0 s1 t1 := by
    refine ⟨lv, ⟨⟨?_, fun i hi => by simp at hi⟩, ⟨?_, fun i hi => by simp at hi⟩, fun i hi => by simp at hi⟩, ⟨⟨?_, fun i hi => by simp at hi⟩, ⟨?_, fun i hi => by simp at hi⟩⟩, ⟨⟨?_, fun i hi => by simp at hi⟩, ⟨?_, fun i hi => by simp at hi⟩⟩, ⟨⟨?_, fun i hi => by simp at hi⟩, ⟨?_, fun i hi => by simp at hi⟩⟩, ⟨?_, ⟨?_, fun i hi => by simp at hi⟩⟩, ?_⟩
    · rw [List.map_nil, List.append_nil]
      refine tb_cu2 (by rw [c72]; rfl) (fun i hi => ?_)
      rw [r 73 (by omega) (by omega) (by omega) (by omega), r 74 (by omega) (by omega) (by omega) (by omega)]
      exact z6 i hi
    · rw [g1, up_ne (by omega), up_ne (by omega), up_ne (by omega), up_ne (by omega), up_same]; rfl
    · rw [List.map_nil, List.append_nil]
      refine tb_cu2 (by rw [c79]; rfl) (fun i hi => ?_)
      rw [r 80 (by omega) (by omega) (by omega) (by omega), r 81 (by omega) (by omega) (by omega) (by omega)]
      exact z7 i hi
    · rw [g1, up_ne (by omega), up_ne (by omega), up_ne (by omega), up_same]; rfl
    · rw [h1, up_ne (by omega), up_ne (by omega), up_ne (by omega), up_ne (by omega), up_same]; rfl
    · rw [g1, up_ne (by omega), up_ne (by omega), up_same]; rfl
    · rw [h1, up_ne (by omega), up_ne (by omega), up_ne (by omega), up_same]; rfl
    · rw [g1, up_ne (by omega), up_same]; rfl
    · rw [fs 87 2 (by omega) (by omega) (by omega) (by omega)]; exact z5
    · rw [g1, up_same]; rfl
    · exact STc_of z8 (fun c k z => fs c k (by omega) (by omega) (by omega) (by omega))
  rw [ec, er]
  exact h_chips hH N 0 [] [] [] [] [] [] [] [] s1 t1 0 (by omega) rl ⟨by simp, rfl, by simp, by simp, by simp, by simp, by simp⟩ (fun x hx => by simp at hx) (by simp) ⟨rfl, fun r hr => by simp at hr, fun _ => rfl, fun z => absurd rfl z⟩ (fun r hr => by simp at hr) (fun i hi => by simp at hi) (by omega) ⟨fun _ => ⟨rfl, rfl, rfl⟩, fun z => absurd rfl z⟩
end CHk
