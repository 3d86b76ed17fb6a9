/-! the items behind the checks and copies: all of them -/
section ITa
variable {F : Nat → Int} {n N : Nat} {P : Nat → Nat} {s0 t0 t t1 t2 t3 : iS} {u : Nat} {K : List Nat} {U : List urec} {W : List wrec} {Y : List Nat} {A : List (List itm)} {I C p w : Nat}
/-- the copies -/
def CPs (n I : Nat) (t t' : iS) : Prop := (∀ c k, c ≠ 171 → c ≠ 170 → c ≠ 146 → t' c k = t c k) ∧ (∀ k, t' 171 k = if k < n then t 123 k else t 171 k) ∧ (∀ k, t' 170 k = if k < I then t 125 (t 147 k).toNat else t 170 k) ∧ ∀ k, t' 146 k = if k < I ∧ t 144 k = 1 then t 126 (t 147 k).toNat - 2 else t 146 k
theorem itr_all (h : RG F n N P s0 t0 K U W Y t) (hA : AOK s0 K U W A t I C p w) (hAU : A.length = U.length) (hp : p ≤ N) (hC : C ≤ 1000)
    (hz : RZc F P s0 t0 K U W I C t t1) (hf : FL t1 t2) (hc : CPs n I t2 t3) (hn : kMn (rnT F P s0 t0 K U W t I C) = 100000) :
    ∀ u i, u < A.length → i < (A.getD u []).length → ITR F P s0 t0 K U W u ((A.getD u []).getD i (0, 0, 0, 0)) t3 (stA A u + i) := by
  have hN := N1001 h.1.1
  obtain ⟨pf, a1, a2, a3, a4, a5, a6⟩ := AOK_it hA
  obtain ⟨nn1, nn2⟩ := no_note hN (IOK_of hA hAU hp) (COK_of hA hAU hp hN) hn
  obtain ⟨z1, z2, z3, z4⟩ := hz
  obtain ⟨d1, d2, d3, d4⟩ := hc
  obtain ⟨y1, y2, y3, y4⟩ := h.1
  have e : ∀ c k, c ≠ 171 → c ≠ 170 → c ≠ 146 → c ≠ 145 → c ≠ 169 → ¬ (152 ≤ c ∧ c ≤ 155) → c ≠ 121 → t3 c k = t c k := fun c k q1 q2 q3 q4 q5 q6 q7 => by
    rw [d1 c k q1 q2 q3, hf c k (by omega), z1 c k (by omega) q5 q4 q6]
  have e2 : ∀ c k, c ≠ 145 → c ≠ 169 → ¬ (152 ≤ c ∧ c ≤ 155) → c ≠ 121 → t2 c k = t c k := fun c k q4 q5 q6 q7 => by
    rw [hf c k (by omega), z1 c k (by omega) q5 q4 q6]
  intro u i hu hi
  obtain ⟨b1, ⟨b2, b3⟩, b4, b5⟩ := a4 u i hu hi
  obtain ⟨r1, r2, r3, r4, r5, r6, r7⟩ := (a2 u hu).1 _ (gd_mem (d := ((0, 0, 0, 0) : itm)) hi)
  have ap := a1 u hu
  generalize (A.getD u []).getD i (0, 0, 0, 0) = r at b4 b5 r1 r2 r3 r4 r5 r6 r7 ⊢
  generalize stA A u + i = k at b1 b2 b3 b4 b5 ⊢
  have e145 : t3 145 k = if t 144 k = 4 ∨ t 144 k = 13 then rvI F P t0 U W (t 148 k).toNat (t 147 k).toNat else t 145 k := by
    rw [d1 145 k (by omega) (by omega) (by omega), hf 145 k (by omega), z3 k, if_pos b1]
    rfl
  have e146 : t3 146 k = if t 144 k = 1 then t 126 (t 147 k).toNat - 2 else t 146 k := by
    rw [d4 k, e2 144 k (by omega) (by omega) (by omega) (by omega), e2 147 k (by omega) (by omega) (by omega) (by omega), e2 126 _ (by omega) (by omega) (by omega) (by omega), e2 146 k (by omega) (by omega) (by omega) (by omega)]
    by_cases c : t 144 k = 1
    · rw [if_pos ⟨b1, c⟩, if_pos c]
    · rw [if_neg (fun q => c q.2), if_neg c]
  rw [b4] at e145 e146
  have u148 : (t 148 k).toNat = u := by rw [b2, Int.toNat_natCast]
  -- plain items
  have pl : ¬ (r.1 = 9 ∨ r.1 = 10) → (r.1 ≠ 15 → r.1 ≠ 16 → t 145 k = r.2.1) ∧ t 146 k = r.2.2.1 ∧ t 147 k = r.2.2.2 := fun q => by
    rcases b5 with ⟨q1, _⟩ | ⟨_, _, q3, q4, q5⟩
    · exact absurd q1 q
    · exact ⟨q3, q4, q5⟩
  refine ⟨by rw [e 144 k (by omega) (by omega) (by omega) (by omega) (by omega) (by omega) (by omega)]; exact b4, r1, fun q => ?_, fun q => ?_, fun q => ?_, fun q => ?_, fun q => ?_, fun q => ?_, fun q => ?_⟩
  · have p1 := pl (by omega)
    have := r5 q
    exact ⟨by rw [e145, if_neg (by omega)]; exact p1.1 (by omega) (by omega), this.1, by omega⟩
  · have p1 := pl (by omega)
    obtain ⟨j, j1, j2, j3, j4⟩ := r6 q
    obtain ⟨v, v1, v2, v3, v4, v5, v6⟩ := tkS y1 (show j < N by omega) j4
    have e147 : t 147 k = (j : Int) := p1.2.2.trans j1
    have n4 := y2.2.1
    refine ⟨v, P j, ?_, ?_, by rw [j1, Int.toNat_natCast], by rw [j1, Int.toNat_natCast]; exact v2, ⟨v3, by omega⟩, fun x hx => ?_⟩
    · rw [e146, if_pos q, e147, Int.toNat_natCast, y3.2.2.2.1, v4]
      omega
    · rw [d3 k, if_pos b1, e2 147 k (by omega) (by omega) (by omega) (by omega), e147, Int.toNat_natCast, e2 125 j (by omega) (by omega) (by omega) (by omega), y3.2.2.1]
      exact (tkP y1 (by omega)).2.1
    · rw [d2, if_pos (by omega), e2 123 _ (by omega) (by omega) (by omega) (by omega), y3.1]
      exact y2.2.2.1 _ (by omega)
  · have p1 := pl (by omega)
    obtain ⟨j, j1, j2, j3, j4⟩ := r2 (by omega)
    have nv := nn_var (nn1 k b1) (by rw [b4]; exact q)
    rw [u148, p1.2.2] at nv e145
    exact ⟨by rw [e145, if_pos q], nv, nn_agr h hn ap (by omega)⟩
  · have p1 := pl (by omega)
    have := sO_rg (r7 q)
    exact ⟨by rw [e145, if_neg (by omega)]; exact p1.1 (by omega) (by omega), by omega, by omega⟩
  · rcases b5 with ⟨_, c, c1, c2, c3, c4, c5, c6, c7⟩ | ⟨q1, q2, _⟩
    case inr => omega
    obtain ⟨⟨x, x1, x2, x3, x4⟩, -, -, -⟩ := r3 q
    have z := z4 c c2
    rw [c4, c5, c6, Int.toNat_natCast] at z
    refine ⟨c, by omega, by rw [e145, if_neg (by omega)]; exact c3, ?_, fun q10 => ?_, fun qf => nn_agr h hn ap (by omega), fun q10 => ?_⟩
    · have er : ∀ x, 152 ≤ x → x ≤ 155 → t3 x c = t1 x c := fun x z1 z2 => by rw [d1 x c (by omega) (by omega) (by omega), hf x c (by omega)]
      unfold CR at z ⊢
      rw [er 152 (by omega) (by omega), er 153 (by omega) (by omega), er 154 (by omega) (by omega), er 155 (by omega) (by omega)]
      exact z
    · rw [e 151 c (by omega) (by omega) (by omega) (by omega) (by omega) (by omega) (by omega)]
      exact c7 q10
    · have w1 := nn_call (nn2 c c2)
      rw [c4, c5, c6, Int.toNat_natCast] at w1
      exact w1
  · have p1 := pl (by omega)
    rw [e146, if_neg (by omega)]
    exact p1.2.1
  · have p1 := pl (by omega)
    rw [e145, if_neg (by omega)]
    exact p1.1 (by omega) (by omega)
theorem cmh_of (h : RG F n N P s0 t0 K U W Y t) (hA : AOK s0 K U W A t I C p w) (hAU : A.length = U.length) (hp : p ≤ N) (hC : C ≤ 1000) (hI : I ≤ 5000) (h33 : t 121 33 = (I : Int)) (hw : w ≤ 300)
    (hz : RZc F P s0 t0 K U W I C t t1) (hf : FL t1 t2) (hc : CPs n I t2 t3) (hn : kMn (rnT F P s0 t0 K U W t I C) = 100000) : CMh F P s0 t0 K U W A I t3 := by
  have hN := N1001 h.1.1
  have hl := cmN_len (F := F) (P := P) (t0 := t0) (Kf := K) (Uf := U) (Wf := W) hA
  refine ⟨hAU, hA.1, hI, ?_, fun u hu => ?_, itr_all h hA hAU hp hC hz hf hc hn, fun i hi => ?_, fun u hu => ?_⟩
  · rw [hc.1 121 33 (by omega) (by omega) (by omega), hf 121 33 (by omega), hz.1 121 33 (by omega) (by omega) (by omega) (by omega)]
    exact h33
  · rw [hc.1 136 u (by omega) (by omega) (by omega), hf 136 u (by omega), hz.1 136 u (by omega) (by omega) (by omega) (by omega)]
    obtain ⟨_, _, _, cs, pf, wf, _, _, _, _, _, h2⟩ := hA
    exact (h2 u hu).1
  · rw [hc.1 169 i (by omega) (by omega) (by omega), hf 169 i (by omega)]
    exact hz.2.1 i hi
  · have := hl.2 u hu
    omega
end ITa
