/-! the reference's checks, whole -/
section RKc
variable {F : Nat → Int} {n N : Nat} {P : Nat → Nat} {s0 t0 t t' : iS} {j u k l : Nat} {K : List Nat} {U : List urec} {W : List wrec} {Y : List Nat} {A : List (List itm)} {I C p w : Nat}
theorem IOK_of (hA : AOK s0 K U W A t I C p w) (hAU : A.length = U.length) (hp : p ≤ N) : ∀ x, x < I → IOK s0 N U t x := by
  obtain ⟨pf, a1, a2, a3, a4, a5, a6⟩ := AOK_it hA
  intro x hx
  obtain ⟨u, i, b1, b2, b3⟩ := a3 x hx
  obtain ⟨c1, ⟨c2, _⟩, c3, c4⟩ := a4 u i b1 b2
  obtain ⟨t1, t2, t3, t4⟩ := (a2 u b1).1 _ (gd_mem (d := ((0, 0, 0, 0) : itm)) b2)
  generalize (A.getD u []).getD i (0, 0, 0, 0) = r at c3 c4 t1 t2 t3 t4
  rw [← b3] at c2 c3 c4
  have e : r.1 = 3 ∨ r.1 = 4 ∨ r.1 = 13 → ∃ j : Nat, t 147 x = (j : Int) ∧ j < N ∧ (r.1 ≠ 3 → s0 9 j = 3) := fun q => by
    obtain ⟨j, d1, d2, d3, d4⟩ := t2 q
    rcases c4 with ⟨z, _⟩ | ⟨_, _, _, _, z⟩
    · omega
    · exact ⟨j, z.trans d1, by omega, d4⟩
  refine ⟨by rw [c3]; exact t1, by rw [c2]; omega, fun q => ?_, fun q => ?_⟩
  · rw [c3] at q
    obtain ⟨j, d1, d2, _⟩ := e q
    rw [d1]; omega
  · rw [c3] at q
    obtain ⟨j, d1, d2, d3⟩ := e (by omega)
    rw [d1, Int.toNat_natCast]
    exact d3 (by omega)
theorem COK_of (hA : AOK s0 K U W A t I C p w) (hAU : A.length = U.length) (hp : p ≤ N) (hN : N ≤ 1001) : ∀ c, c < C → COK s0 N U t c := by
  obtain ⟨pf, a1, a2, a3, a4, a5, a6⟩ := AOK_it hA
  intro c hc
  obtain ⟨u, r, b1, b2, c10, q2, q3, q4, q5⟩ := a5 c hc
  obtain ⟨t1, t2, t3, t4⟩ := (a2 u b1).1 r b2
  obtain ⟨⟨l, l1, l2, l3, l4⟩, f0, _, m0⟩ := t3 (Or.inr c10)
  obtain ⟨mm, m1, m2⟩ := m0 c10
  unfold COK
  rw [q2, q3, q4, q5, l1, m1, Int.toNat_natCast]
  refine ⟨by omega, ?_, ⟨by omega, by omega, l4⟩, by omega⟩
  rcases f0 with z | ⟨j, d1, d2, d3, d4⟩
  · exact Or.inl z
  · refine Or.inr ?_
    rw [d1, Int.toNat_natCast]
    exact ⟨by omega, by omega, d4⟩
/-- what the reference's rows are behind the checks -/
def RZc (F : Nat → Int) (P : Nat → Nat) (s0 t0 : iS) (K : List Nat) (U : List urec) (W : List wrec) (I C : Nat) (t t' : iS) : Prop := (∀ c k, ¬ (c = 121 ∧ (k = 69 ∨ k = 70)) → c ≠ 169 → c ≠ 145 → ¬ (152 ≤ c ∧ c ≤ 155) → t' c k = t c k) ∧ (∀ i, i < U.length → t' 169 i = (i : Int) - (U.countP (fun u => decide (u.1 < (uAt U i).1)) : Int)) ∧ (∀ k, t' 145 k = if k < I then r145 F P t0 U W t k else t 145 k) ∧ ∀ c, c < C → CR F P s0 t0 K U W (t 156 c).toNat (t 149 c) (t 150 c).toNat c t'
theorem chk_all (h : RG F n N P s0 t0 K U W Y t) (hA : AOK s0 K U W A t I C p w) (hAU : A.length = U.length) (hp : p ≤ N) (hI : t 121 33 = (I : Int)) (hI2 : I ≤ 5000) (hC : t 121 39 = (C : Int)) (hC2 : C ≤ 1000) (h0 : t 121 69 = 0) : ∃ t', (∀ g : iS → Option (Int × iS), bd (m_checkNames t) (fun _ s12 => bd (m_checkItems s12) (fun _ s13 => (lp (L := Int × iS) (E := iS) (fun l => m_load_67b (l.1) (l.2)) (0, s13)).bind (fun e => g e))) = g t') ∧ RBc P N (rnT F P s0 t0 K U W t I C) t' ∧ RG F n N P s0 t0 K U W Y t' ∧ RZc F P s0 t0 K U W I C t t' := by
  have hN := N1001 h.1.1
  have io := IOK_of hA hAU hp
  have co := COK_of hA hAU hp hN
  obtain ⟨t1, a1, a2, a3, a4, a5⟩ := names_ok h h0
  have r1 : ∀ c k, c ≠ 121 → c ≠ 169 → t1 c k = t c k := fun c k q1 q2 => a3 c k (by omega) q2
  have e1 : ∀ x, gI F P t0 U W t1 x = gI F P t0 U W t x := fun x => by
    unfold gI
    rw [r1 144 x (by omega) (by omega), r1 147 x (by omega) (by omega), r1 148 x (by omega) (by omega)]
  obtain ⟨t2, b1, b2, b3, b4, b5⟩ := items_ok (I := I) a4 a2 (by rw [a3 121 33 (by omega) (by omega)]; exact hI) hI2 (fun x hx => by
    have := io x hx
    unfold IOK at this ⊢
    rw [r1 144 x (by omega) (by omega), r1 147 x (by omega) (by omega), r1 148 x (by omega) (by omega)]
    exact this)
  have r2 : ∀ c k, c ≠ 121 → c ≠ 169 → c ≠ 145 → t2 c k = t c k := fun c k q1 q2 q3 => (b3 c k (by omega) q3).trans (r1 c k q1 q2)
  have e2 : ∀ x, gC F P s0 t0 K U W t2 x = gC F P s0 t0 K U W t x := fun x => by
    unfold gC
    rw [r2 156 x (by omega) (by omega) (by omega), r2 149 x (by omega) (by omega) (by omega), r2 150 x (by omega) (by omega) (by omega), r2 151 x (by omega) (by omega) (by omega)]
  obtain ⟨t3, c1, c2, c3, c4, c5⟩ := calls_ok (C := C) b4 b2 (by rw [b3 121 39 (by omega) (by omega), a3 121 39 (by omega) (by omega)]; exact hC) hC2 (fun c hc => by
    have := co c hc
    unfold COK at this ⊢
    rw [r2 156 c (by omega) (by omega) (by omega), r2 149 c (by omega) (by omega) (by omega), r2 150 c (by omega) (by omega) (by omega), r2 151 c (by omega) (by omega) (by omega)]
    exact this)
  refine ⟨t3, fun g => ?_, ?_, c4, fun c k q1 q2 q3 q4 => ?_, fun i hi => ?_, fun k => ?_, fun c hc => ?_⟩
  · rw [a1, bq, b1, bq, c1]
    rfl
  · unfold rnT
    rw [fm_congr _ _ I (fun x _ => e1 x), fm_congr _ _ C (fun x _ => e2 x)] at c2
    exact c2
  · exact (c3 c k q1 q4).trans ((b3 c k q1 q3).trans (a3 c k q1 q2))
  · rw [c3 169 i (by omega) (by omega), b3 169 i (by omega) (by omega)]
    exact a5 i hi
  · rw [c3 145 k (by omega) (by omega), b5 k]
    by_cases c : k < I
    · rw [if_pos c, if_pos c]
      unfold r145
      rw [r1 144 k (by omega) (by omega), r1 147 k (by omega) (by omega), r1 148 k (by omega) (by omega), r1 145 k (by omega) (by omega)]
    · rw [if_neg c, if_neg c]
      exact r1 145 k (by omega) (by omega)
  · have := c5 c hc
    rw [r2 156 c (by omega) (by omega) (by omega), r2 149 c (by omega) (by omega) (by omega), r2 150 c (by omega) (by omega) (by omega)] at this
    exact this
end RKc
