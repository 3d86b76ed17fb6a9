/-! both machines: from a sub's first item to the end -/
section ROp
variable {F : Nat → Int} {n N : Nat} {P : Nat → Nat} {s0 t0 : iS} {K : List Nat} {U : List urec} {W : List wrec} {Y : List Nat} {A : List (List itm)} {I C p w fu : Nat} {tr t1 t2 t3 s t : iS} {f : frm} {g : List frm}
/-- one step of both -/
theorem STEP (hP : PRG F n N P s0 t0 K U W Y A I C p w tr t1 t2 t3) (h : SIM F P s0 t0 K U W A t3 fu s t f g) : STP F P s0 t0 K U W A t3 fu s t (f :: g) := by
  obtain ⟨u, i, pv, vv, st, ob⟩ := f
  obtain ⟨r, hr⟩ : ∃ r, (A.getD u []).getD i (0, 0, 0, 0) = r := ⟨_, rfl⟩
  obtain ⟨it, -, -, ⟨hu, hi⟩, -, -, -⟩ := SIM_k hP h hr
  have k2 := (PRG_an hP hu).2.2.2.1 r (by rw [← hr]; exact gm hi)
  have rr := it.2.1
  clear it
  by_cases c0 : r.1 = 0
  · exact I_0 hP h hr c0
  by_cases c1 : r.1 = 1
  · exact I_1 hP h hr c1
  by_cases c3 : r.1 = 3
  · exact I_3 hP h hr c3
  by_cases c4 : r.1 = 4
  · exact I_4 hP h hr c4
  by_cases c5 : r.1 = 5
  · exact I_5 hP h hr c5
  by_cases c6 : r.1 = 6
  · by_cases d : r.2.1 = 42 ∨ r.2.1 = 47
    · exact I_6c hP h hr c6 d
    · exact I_6 hP h hr c6 (fun z => d (Or.inl z)) (fun z => d (Or.inr z))
  by_cases c7 : r.1 = 7 ∨ r.1 = 8
  · exact I_78 hP h hr c7
  by_cases c9 : r.1 = 9
  · exact I_9 hP h hr c9
  by_cases c10 : r.1 = 10
  · by_cases d : owR F P s0 t0 K U W u r.2.1 < 8
    · exact I_10s hP h hr c10 d
    · exact I_10t hP h hr c10 d
  by_cases c11 : r.1 = 11
  · exact I_11 hP h hr c11
  by_cases c12 : r.1 = 12
  · exact I_12 hP h hr c12
  by_cases c13 : r.1 = 13
  · exact I_13 hP h hr c13
  by_cases c14 : r.1 = 14
  · exact I_14 hP h hr c14
  by_cases c15 : r.1 = 15
  · exact I_15 hP h hr c15
  by_cases c16 : r.1 = 16
  · exact I_16 hP h hr c16
  by_cases c17 : r.1 = 17
  · exact I_17 hP h hr c17
  by_cases c18 : r.1 = 18
  · exact I_18 hP h hr c18
  by_cases c19 : r.1 = 19
  · exact I_19 hP h hr c19
  exact I_20 hP h hr (by omega)
/-- all steps -/
theorem RUNL (hP : PRG F n N P s0 t0 K U W Y A I C p w tr t1 t2 t3) : ∀ (M : Nat) (s t : iS) (f : frm) (g : List frm), SIM F P s0 t0 K U W A t3 fu s t f g → ((fu : Int) - t 121 96) * 6000 + (rmI A (f :: g) : Int) < (M : Int) → ∃ (m : Nat) (s' t' : iS), TN m s s' ∧ m_run_141 t = m_run_141 t' ∧ FIN fu s' t' ∧ (t 121 96 ≤ t' 121 96 ∧ t' 121 96 ≤ (fu : Int)) ∧ (m : Int) ≤ (rmC F P s0 t0 K U W A (f :: g) : Int) + 3000 * (t' 121 96 - t 121 96) + 3000
  | 0, s, t, f, g, h, hM => by
    have n5 : t 121 96 ≤ (fu : Int) := h.2.2.2.2.2.2.2.2.1.2.2.2.2.1
    omega
  | M + 1, s, t, f, g, h, hM => by
    obtain ⟨m, s1, t1, a1, a2, a3, a4⟩ := STEP hP h
    rcases a4 with ⟨f', g', b1, b2, b3⟩ | ⟨b1, -, b2⟩
    · obtain ⟨m', s', t', c1, c2, c3, c4, c5⟩ := RUNL hP M s1 t1 f' g' b1 (by omega)
      refine ⟨m + m', s', t', TN_add a1 c1, a2.trans c2, c3, ⟨by omega, by omega⟩, ?_⟩
      omega
    · exact ⟨m, s1, t1, a1, a2, b1, a3, b2⟩
end ROp
