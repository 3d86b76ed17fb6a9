/-! the class's end of a load -/
/-- the class's program behind a load; main is sub m -/
def CPG (F : Nat → Int) (P : Nat → Nat) (s0 t0 : iS) (K : List Nat) (U : List urec) (W : List wrec) (A : List (List itm)) (m : Int) (s : iS) : Prop :=
  s 14 8 = ((cmN F P s0 t0 K U W A A.length).length : Int) ∧ (cmN F P s0 t0 K U W A A.length).length ≤ 3000 ∧
  (∀ i, i < (cmN F P s0 t0 K U W A A.length).length → s 15 i = ((cmN F P s0 t0 K U W A A.length).getD i (0, 0, 0, 0, 0)).1 ∧ s 16 i = ((cmN F P s0 t0 K U W A A.length).getD i (0, 0, 0, 0, 0)).2.1 ∧ s 17 i = ((cmN F P s0 t0 K U W A A.length).getD i (0, 0, 0, 0, 0)).2.2.1 ∧ s 19 i = ((cmN F P s0 t0 K U W A A.length).getD i (0, 0, 0, 0, 0)).2.2.2.2 ∧
    cOK ((cmN F P s0 t0 K U W A A.length).getD i (0, 0, 0, 0, 0)) ∧
    (((cmN F P s0 t0 K U W A A.length).getD i (0, 0, 0, 0, 0)).2.2.2.1 ≠ -9 → ¬ (((cmN F P s0 t0 K U W A A.length).getD i (0, 0, 0, 0, 0)).1 = 15 ∧ 800 ≤ ((cmN F P s0 t0 K U W A A.length).getD i (0, 0, 0, 0, 0)).2.1) → s 18 i = ((cmN F P s0 t0 K U W A A.length).getD i (0, 0, 0, 0, 0)).2.2.2.1) ∧
    (((cmN F P s0 t0 K U W A A.length).getD i (0, 0, 0, 0, 0)).1 = 15 → 800 ≤ ((cmN F P s0 t0 K U W A A.length).getD i (0, 0, 0, 0, 0)).2.1 → ∀ u, u < A.length → ((cmN F P s0 t0 K U W A A.length).getD i (0, 0, 0, 0, 0)).2.2.2.1 = 40 + (u : Int) → s 18 i = ((cmN F P s0 t0 K U W A u).length : Int))) ∧
  s 14 10 = ((cmN F P s0 t0 K U W A m.toNat).length : Int)
theorem mn_a {a b k : Nat} (h : k = min a (min b 100000)) (ha : a = 100000) (hb : b < 100000) : k = b := by
  rw [h, ha, Nat.min_eq_left (Nat.le_of_lt hb), Nat.min_eq_right (Nat.le_of_lt hb)]
theorem mn_b {a b k : Nat} (h : k = min a (min b 100000)) (ha : a < 100000) (hb : a < b) : k = a := by
  rw [h]
  exact Nat.min_eq_left (Nat.le_min.mpr ⟨Nat.le_of_lt hb, Nat.le_of_lt ha⟩)
section LDc
variable {F : Nat → Int} {n N : Nat} {P : Nat → Nat} {s0 t0 s2 t2 : iS} {g : Nat} {K : List Nat} {U : List urec} {W : List wrec} {Y : List Nat} {A : List (List itm)} {I C p w : Nat}
theorem cl_end (h : TKR 0 F n N P s0 t0) (hm : MNc s0) (hr : RG F n N P s0 t0 K U W Y t2) (hA : AOK s0 K U W A t2 I C p w) (hAU : A.length = U.length) (hx : LXT s0 t0 N s2 t2 p 0 w I C) (hT : T2 F P s0 t0 N K U W g K U W Y A s2) (h0 : s0 9 p = 0) :
    ∃ s5, bd (trl_findMain (up s2 2 12 ((p + 1 : Nat) : Int))) (fun _ s4 => bd (prg_settleCalls s4) (fun _ s5 => some ((0 : Int), s5))) = some (0, s5) ∧ SC s0 s5 ∧ LSc s5 ∧
      ((kMn (rnT F P s0 t0 K U W t2 I C) < 100000 ∧ s5 2 13 = ((kMn (rnT F P s0 t0 K U W t2 I C) % 16 : Nat) : Int) ∧ s5 2 14 = ((kMn (rnT F P s0 t0 K U W t2 I C) / 16 : Nat) : Int) ∧ 0 < kMn (rnT F P s0 t0 K U W t2 I C) % 16 ∧ kMn (rnT F P s0 t0 K U W t2 I C) / 16 < N) ∨
       (kMn (rnT F P s0 t0 K U W t2 I C) = 100000 ∧ mnI F P t0 K U W U.length = -1 ∧ s5 2 13 = 7 ∧ s5 2 14 = ((N - 1 : Nat) : Int)) ∨
       (kMn (rnT F P s0 t0 K U W t2 I C) = 100000 ∧ (0 ≤ mnI F P t0 K U W U.length ∧ mnI F P t0 K U W U.length < (U.length : Int)) ∧ s5 2 13 = 0 ∧ s5 2 14 = -1 ∧ CPG F P s0 t0 K U W A (mnI F P t0 K U W U.length) s5)) := by
  have hN := N1001 h
  obtain ⟨pa, n0, cs, pm, ⟨b1, b2, b3, b4, b5, b6, b7, b8, b9⟩, hM⟩ := hT
  obtain ⟨m1, m2, m3, m4⟩ := hM ⟨⟨[], by simp⟩, ⟨[], by simp⟩, [], by simp, fun r hr => by simp at hr⟩
  obtain ⟨x1, x2, x3, x4, x5, x6, x7, x8, x9, x10, x11, x12, x13, x14, x15, x16⟩ := hx
  have hp := tk_end h x5 h0
  have km := nt_min hr hA hAU m2
  have hlen := cmN_len (F := F) (P := P) (t0 := t0) (Kf := K) (Uf := U) (Wf := W) hA
  have X3 : X2T F P s0 t0 N K U pa (up s2 2 12 ((p + 1 : Nat) : Int)) := X2T_of b3 (fun c k q => up_ne (by omega))
  have B3 : BLc n0 (up s2 2 12 ((p + 1 : Nat) : Int)) := BLc_of b6 (up_ne (by omega)) (up_ne (by omega))
  have h8 : up s2 2 12 ((p + 1 : Nat) : Int) 2 8 = (N : Int) := by rw [up_ne (by omega), x1.2.2.2.2.2.2.1]; exact h.2.2.2.1
  have M3 : MNc (up s2 2 12 ((p + 1 : Nat) : Int)) := by
    unfold MNc at hm ⊢
    rw [up_ne (by omega), up_ne (by omega), up_ne (by omega), up_ne (by omega), x1.2.2.2.2.2.2.2.2.1, x1.2.2.2.2.2.2.2.2.2]
    exact hm
  obtain ⟨s4, e4, hcase⟩ := fm_cls h X3 B3 h8 M3
  have f4 : ∀ c k, ¬ (c = 2 ∧ (k = 12 ∨ k = 13 ∨ k = 14)) → ¬ (c = 14 ∧ k = 10) → s4 c k = s2 c k := by
    rcases hcase with ⟨_, e⟩ | ⟨_, _, e⟩
    · intro c k q1 q2
      rw [e, up_ne (by omega), up_ne (by omega)]
    · intro c k q1 q2
      rw [e c k (by omega), up_ne (by omega)]
  have E4 : EMc cs pm s4 := EMc_of b7 (fun c k q => f4 c k (by omega) (by omega))
  obtain ⟨y1, y2, y3, y4, y5, y6⟩ := E4
  have L3 : cs.length ≤ 3000 := by rw [m3]; omega
  have mn : min cs.length 3000 = cs.length := by omega
  rw [mn] at y2 y3 y4
  obtain ⟨s5, e5, f5, g5⟩ := settle_ok y2 L3 (fun i hi => by
    have o := y5 _ (gd_mem (d := ((0, 0, 0, 0, 0) : crec)) hi)
    obtain ⟨c1, c2, c3⟩ := y3 i hi
    rw [c1, c2]
    exact ⟨by have := o.1; omega, by have := o.2.1; omega, fun q => by have := y4 i hi q; omega⟩)
  have f54 : ∀ c k, c ≠ 18 → ¬ (c = 2 ∧ (k = 12 ∨ k = 13 ∨ k = 14)) → ¬ (c = 14 ∧ k = 10) → s5 c k = s2 c k := fun c k q1 q2 q3 => by rw [f5 c k q1, f4 c k q2 q3]
  have r5 : ∀ c, c ≠ 18 → c ≠ 2 → c ≠ 14 → s5 c = s2 c := fun c q1 q2 q3 => funext fun k => f54 c k q1 (by omega) (by omega)
  refine ⟨s5, by rw [e4, bq, e5, bq], ?_, ?_, ?_⟩
  · unfold SC at x1 ⊢
    rw [r5 1 (by omega) (by omega) (by omega), r5 9 (by omega) (by omega) (by omega), r5 10 (by omega) (by omega) (by omega), r5 11 (by omega) (by omega) (by omega), r5 12 (by omega) (by omega) (by omega), r5 13 (by omega) (by omega) (by omega), f54 2 8 (by omega) (by omega) (by omega), f54 2 9 (by omega) (by omega) (by omega), r5 42 (by omega) (by omega) (by omega), r5 43 (by omega) (by omega) (by omega)]
    exact x1
  · obtain ⟨⟨o1, o2, o3, o4⟩, ⟨o5, o6⟩, _⟩ := b1
    have l1 : (sysCN ++ K.map (nmT F P t0)).length = 8 + K.length := by rw [List.length_append, List.length_map]; rfl
    have l2 : (sysSN ++ U.map (fun u => nmT F P t0 u.2.2.1)).length = 40 + U.length := by rw [List.length_append, List.length_map]; rfl
    have z1 := b3.1.1
    have z2 := b3.2.1.1
    rw [l1] at z1
    rw [l2] at z2
    unfold LSc
    rw [f54 24 2 (by omega) (by omega) (by omega), f54 27 2 (by omega) (by omega) (by omega), f54 33 2 (by omega) (by omega) (by omega), f54 23 15 (by omega) (by omega) (by omega), f54 40 4 (by omega) (by omega) (by omega)]
    exact ⟨SYZ_of o6 (fun c k q => f54 c k (by omega) (by omega) (by omega)), by omega, by omega, o1, o4, o5.2.2⟩
  -- the answer
  have kin := kMn_in (rnT F P s0 t0 K U W t2 I C)
  have klt : kMn (rnT F P s0 t0 K U W t2 I C) < 100000 → kMn (rnT F P s0 t0 K U W t2 I C) < 16 * p := fun q => by
    rcases kin with z | ⟨z, _⟩
    · omega
    · exact rnT_lt hr hA hAU hp h0 z
  rw [← km] at klt ⊢
  have hmn : kMn n0 = 100000 → (okMn F P t0 K U pa ∧ sMn F P t0 K U = 40 + mnI F P t0 K U W U.length ∧ 0 ≤ mnI F P t0 K U W U.length ∧ mnI F P t0 K U W U.length < (U.length : Int)) ∨ (¬ okMn F P t0 K U pa ∧ mnI F P t0 K U W U.length = -1) := fun q => by
    rw [km] at q
    exact mn_eq hr (fun i hi => nn_K hr q hi) (fun i hi => nn_U hr q hi) m1
  rcases hcase with ⟨ok, e⟩ | ⟨nok, B4, e⟩
  · have B5 : BLc n0 s5 := BLc_of B3 (by rw [f5 2 13 (by omega), e, up_ne (by omega)]) (by rw [f5 2 14 (by omega), e, up_ne (by omega)])
    rcases B5 with ⟨k1, k2, k3⟩ | ⟨k1, k2, k3, k4⟩
    · refine Or.inr (Or.inr ⟨k1, ?_⟩)
      rcases hmn k1 with ⟨_, q2, q3, q4⟩ | ⟨q1, _⟩
      case inr => exact absurd ok q1
      refine ⟨⟨q3, q4⟩, k2, k3, ?_⟩
      obtain ⟨z1, z2⟩ := y6 L3
      have mA : (mnI F P t0 K U W U.length).toNat < A.length := by omega
      unfold CPG
      rw [← m3]
      refine ⟨by rw [f5 14 8 (by omega)]; exact y2, L3, fun i hi => ?_, ?_⟩
      · obtain ⟨c1, c2, c3⟩ := y3 i hi
        obtain ⟨c4, c5⟩ := z2 i hi
        refine ⟨by rw [f5 15 i (by omega)]; exact c1, by rw [f5 16 i (by omega)]; exact c2, by rw [f5 17 i (by omega)]; exact c3, by rw [f5 19 i (by omega)]; exact c5, y5 _ (gd_mem (d := ((0, 0, 0, 0, 0) : crec)) hi), fun q1 q2 => ?_, fun q1 q2 u hu q3 => ?_⟩
        · rw [g5 i]
          unfold stl
          rw [if_neg (fun z => q2 (by rw [c1, c2] at z; exact z.2.1))]
          exact c4 q1
        · have t18 : s4 18 i = 40 + (u : Int) := by
            rw [← q3]
            exact c4 (by omega)
          have := m4 u hu (by have := hlen.2 u (by omega); omega)
          rw [g5 i]
          unfold stl
          rw [if_pos ⟨hi, ⟨c1.trans q1, by rw [c2]; exact q2⟩, by rw [t18]; have := hr.2.1.2.2.2.2.2.1; omega⟩, t18, show (40 + (u : Int)).toNat = 40 + u by omega, f4 20 _ (by omega) (by omega)]
          exact this
      · have em : (sMn F P t0 K U).toNat = 40 + (mnI F P t0 K U W U.length).toNat := by omega
        rw [f5 14 10 (by omega), e, up_same, em, up_ne (by omega)]
        exact m4 _ mA (by have := hlen.2 _ (Nat.le_of_lt mA); omega)
    · exact Or.inl ⟨k1, k2, k3, k4, by have := klt k1; omega⟩
  · have B5 : BLc (n0 ++ [16 * (N - 1) + 7]) s5 := BLc_of B4 (f5 2 13 (by omega)) (f5 2 14 (by omega))
    have ka := kMn_app n0 (16 * (N - 1) + 7)
    have kl := kMn_le n0
    by_cases c : kMn n0 = 100000
    · have kv : kMn (n0 ++ [16 * (N - 1) + 7]) = 16 * (N - 1) + 7 := mn_a ka c (by omega)
      refine Or.inr (Or.inl ⟨c, ?_⟩)
      rcases hmn c with ⟨q1, _⟩ | ⟨_, q2⟩
      · exact absurd q1 nok
      · rcases B5 with ⟨k1, _⟩ | ⟨k1, k2, k3, k4⟩
        · omega
        · rw [kv] at k2 k3
          refine ⟨q2, ?_, ?_⟩
          · rw [k2]; omega
          · rw [k3]; omega
    · have k0 : kMn n0 < 100000 := by omega
      have := klt k0
      have kv : kMn (n0 ++ [16 * (N - 1) + 7]) = kMn n0 := mn_b ka k0 (by omega)
      rcases B5 with ⟨k1, _⟩ | ⟨k1, k2, k3, k4⟩
      · omega
      · rw [kv] at k1 k2 k3 k4
        exact Or.inl ⟨k1, k2, k3, k4, by omega⟩
end LDc
