/-! the reference's end of a load -/
section LDd
variable {F : Nat → Int} {n N : Nat} {P : Nat → Nat} {s0 t0 s t t' : iS} {K : List Nat} {U : List urec} {W : List wrec} {Y : List Nat} {A : List (List itm)} {I C p o w : Nat}
theorem RG_row (h : RG F n N P s0 t0 K U W Y t) (hf : ∀ c k, (c ≠ 121 ∧ c < 144 ∧ c ≠ 136 ∨ 164 ≤ c ∧ c ≤ 168 ∨ c = 121 ∧ (k = 3 ∨ k = 14 ∨ k = 17 ∨ k = 25 ∨ k = 16 ∨ k = 60)) → t' c k = t c k) : RG F n N P s0 t0 K U W Y t' := by
  obtain ⟨⟨h1, h2, h3, h4⟩, hx, h6⟩ := h
  refine ⟨⟨h1, h2, ?_, RSY_row h4 (fun c q1 q2 => funext fun k => hf c k (by omega))⟩, RXT_of hx (fun c k q => hf c k (by omega)), h6⟩
  obtain ⟨a1, a2, a3, a4, a5, a6⟩ := h3
  exact ⟨(funext fun k => hf 123 k (by omega)).trans a1, (funext fun k => hf 124 k (by omega)).trans a2, (funext fun k => hf 125 k (by omega)).trans a3, (funext fun k => hf 126 k (by omega)).trans a4, (funext fun k => hf 127 k (by omega)).trans a5, (hf 121 3 (by omega)).trans a6⟩
theorem AOK_r (h : AOK s0 K U W A t I C p w) (hf : ∀ c k, c ≠ 121 → t' c k = t c k) : AOK s0 K U W A t' I C p w := by
  obtain ⟨h1, h2, h3, cs, pf, wf, c0, c1, c2, c3, c4, h5⟩ := h
  refine ⟨h1, h2, h3, cs, pf, wf, c0, c1, c2, c3, c4, fun i hi => ?_⟩
  obtain ⟨a1, a2, a3, a4, a5, l, j, pb, wb, pe, we, lb, b1, b2, b3, b4, b5, b6⟩ := h5 i hi
  exact ⟨by rw [hf 136 i (by omega)]; exact a1, a2, a3, a4, IMs_x a5 (fun c k q1 q2 _ _ => hf c k (by omega)) (fun c k q1 q2 _ _ => hf c k (by omega)), l, j, pb, wb, pe, we, lb, b1, b2, b3, b4, b5, GY_t b6 (fun k _ _ => hf 145 k (by omega))⟩
theorem LXT_469 (h : LXT s0 t0 N s t p o w I C) (hf : ∀ c k, ¬ (c = 121 ∧ (k = 4 ∨ k = 69)) → t' c k = t c k) : LXT s0 t0 N s t' p o w I C := by
  obtain ⟨x1, x2, x3, x4, x5, x6, x7, x8, x9, x10, x11, x12, x13, x14, x15, x16⟩ := h
  refine ⟨x1, ?_, x3, by rw [hf 121 10 (by omega)]; exact x4, x5, by rw [hf 121 11 (by omega)]; exact x6, x7, by rw [hf 121 48 (by omega)]; exact x8, x9, x10, by rw [hf 121 49 (by omega)]; exact x11, x12, by rw [hf 121 33 (by omega)]; exact x13, by rw [hf 121 39 (by omega)]; exact x14, x15, x16⟩
  obtain ⟨a1, a2, a3, a4, a5, a6⟩ := x2
  exact ⟨(funext fun k => hf 123 k (by omega)).trans a1, (funext fun k => hf 124 k (by omega)).trans a2, (funext fun k => hf 125 k (by omega)).trans a3, (funext fun k => hf 126 k (by omega)).trans a4, (funext fun k => hf 127 k (by omega)).trans a5, (hf 121 3 (by omega)).trans a6⟩
/-- cells that stand over the end of a load -/
def KPl (t t' : iS) : Prop := ∀ c k, (c = 122 ∨ c = 123 ∨ 164 ≤ c ∧ c ≤ 168 ∨ c = 121 ∧ (k = 1 ∨ k = 3)) → t' c k = t c k
theorem rf_end (hr : RG F n N P s0 t0 K U W Y t) (hA : AOK s0 K U W A t I C p w) (hAU : A.length = U.length) (hp : p + 1 = N) (hI : I ≤ 3 * p) (hC : C = 0 ∨ C + 5 ≤ p) (hw : w ≤ 300) (h33 : t 121 33 = (I : Int)) (h39 : t 121 39 = (C : Int)) (h69 : t 121 69 = 0) :
    (kMn (rnT F P s0 t0 K U W t I C) < 100000 ∧ ∃ t', bd (m_checkNames t) (fun _ s12 => bd (m_checkItems s12) (fun _ s13 => m_load_67 0 s13)) = some (((kMn (rnT F P s0 t0 K U W t I C) % 16 : Nat) : Int), t') ∧ t' 121 4 = (P (kMn (rnT F P s0 t0 K U W t I C) / 16) : Int) ∧ KPl t t' ∧ t' 121 71 = t 121 71) ∨
    (kMn (rnT F P s0 t0 K U W t I C) = 100000 ∧ mnI F P t0 K U W U.length = -1 ∧ ∃ t', bd (m_checkNames t) (fun _ s12 => bd (m_checkItems s12) (fun _ s13 => m_load_67 0 s13)) = some (7, t') ∧ t' 121 4 = (n : Int) ∧ KPl t t' ∧ t' 121 71 = t 121 71) ∨
    (kMn (rnT F P s0 t0 K U W t I C) = 100000 ∧ mnI F P t0 K U W U.length ≠ -1 ∧ ∃ t1 t2 t3 t4, bd (m_checkNames t) (fun _ s12 => bd (m_checkItems s12) (fun _ s13 => m_load_67 0 s13)) = some (0, t4) ∧ RZc F P s0 t0 K U W I C t t1 ∧ FL t1 t2 ∧ CPs n I t2 t3 ∧ FM t3 t4 ∧ RCm ((cmN F P s0 t0 K U W A A.length).map c4) t4 ∧ t4 121 4 = -1 ∧ t4 121 71 = 1 ∧ t4 121 72 = mnI F P t0 K U W U.length ∧ t4 121 74 = (P 0 : Int) ∧ KPl t t4) := by
  have hN := N1001 hr.1.1
  obtain ⟨t1, e1, e2, e3, e4⟩ := chk_all hr hA hAU (by omega) h33 (by omega) h39 (by omega) h69
  have eq : bd (m_checkNames t) (fun _ s12 => bd (m_checkItems s12) (fun _ s13 => m_load_67 0 s13)) = m_load_86 t1 := by
    unfold m_load_67
    exact e1 m_load_86
  rw [eq]
  have h3 : t 121 3 = (n : Int) := hr.1.2.2.1.2.2.2.2.2.trans hr.1.2.1.1
  have k1 : ∀ c k, (c = 122 ∨ c = 123 ∨ 164 ≤ c ∧ c ≤ 168 ∨ c = 121 ∧ (k = 1 ∨ k = 3)) → t1 c k = t c k := fun c k q => e4.1 c k (by omega) (by omega) (by omega) (by omega)
  rcases ld86 e3 e2 with ⟨q1, t', f1, f2, f3, f4⟩ | ⟨q1, q2, t', f1, f2, f3, f4⟩ | ⟨q1, q2, t2, f1, f2, f3, f4, f5, f6⟩
  · exact Or.inl ⟨q1, t', f1, f2, fun c k q => by rw [f3 c k (by omega), k1 c k q], by rw [f4, e4.1 121 71 (by omega) (by omega) (by omega) (by omega)]⟩
  · exact Or.inr (Or.inl ⟨q1, q2, t', f1, by rw [f2, k1 121 3 (by omega)]; exact h3, fun c k q => by rw [f3 c k (by omega), k1 c k q], by rw [f4, e4.1 121 71 (by omega) (by omega) (by omega) (by omega)]⟩)
  · refine Or.inr (Or.inr ⟨q1, q2, ?_⟩)
    obtain ⟨pf, a1, a2, a3, a4, a5, a6⟩ := AOK_it hA
    have it : ∀ k, k < I → (0 ≤ t 147 k ∧ t 147 k < 2002) ∧ 0 ≤ t 144 k ∧ t 144 k ≤ 20 := fun k hk => by
      obtain ⟨u, i, b1, b2, b3⟩ := a3 k hk
      obtain ⟨_, ⟨_, c2⟩, c3, _⟩ := a4 u i b1 b2
      obtain ⟨r1, _⟩ := (a2 u b1).1 _ (gd_mem (d := ((0, 0, 0, 0) : itm)) b2)
      rw [← b3] at c2 c3
      exact ⟨c2, by rw [c3]; exact r1⟩
    have e2c : ∀ c k, c ≠ 121 → c ≠ 145 → c ≠ 169 → ¬ (152 ≤ c ∧ c ≤ 155) → t2 c k = t c k := fun c k z1 z2 z3 z4 => by rw [f6 c k (by omega), e4.1 c k (by omega) z3 z2 z4]
    obtain ⟨t3, g1, g2⟩ := cps_ok (t := t2) (n := n) (I := I) (by rw [f6 121 3 (by omega), k1 121 3 (by omega)]; exact h3) hr.1.2.1.2.1 (by rw [f6 121 33 (by omega), e4.1 121 33 (by omega) (by omega) (by omega) (by omega)]; exact h33) (by omega) (fun k hk => by rw [e2c 147 k (by omega) (by omega) (by omega) (by omega)]; exact (it k hk).1) (fun k hk => by rw [e2c 144 k (by omega) (by omega) (by omega) (by omega)]; have := (it k hk).2; omega)
    have hm := cmh_of (t3 := t3) hr hA hAU (by omega) (by omega) (by omega) h33 hw e4 f6 g2 q1
    have rg3 : RG F n N P s0 t0 K U W Y t3 := RG_row e3 (fun c k q => by rw [g2.1 c k (by omega) (by omega) (by omega), f6 c k (by omega)])
    obtain ⟨t4, c1, c2, c3⟩ := cmd_ok rg3 hm
    have t4c : ∀ c k, c ≠ 146 → c ≠ 170 → c ≠ 171 → c ≠ 172 → c ≠ 173 → c ≠ 174 → ¬ (c = 121 ∧ k = 76) → t4 c k = t2 c k := fun c k z1 z2 z3 z4 z5 z6 z7 => by rw [c3 c k z4 z5 z6 z7, g2.1 c k z3 z2 z1]
    refine ⟨t1, t2, t3, t4, ?_, e4, f6, g2, c3, c2, ?_, ?_, ?_, ?_, fun c k q => ?_⟩
    · rw [f1, g1]
      unfold m_load_274
      rw [c1, bq]
    · rw [t4c 121 4 (by omega) (by omega) (by omega) (by omega) (by omega) (by omega) (by omega)]; exact f2
    · rw [t4c 121 71 (by omega) (by omega) (by omega) (by omega) (by omega) (by omega) (by omega)]; exact f3
    · rw [t4c 121 72 (by omega) (by omega) (by omega) (by omega) (by omega) (by omega) (by omega)]; exact f4
    · rw [t4c 121 74 (by omega) (by omega) (by omega) (by omega) (by omega) (by omega) (by omega), f5, e4.1 125 0 (by omega) (by omega) (by omega) (by omega), hr.1.2.2.1.2.2.1]
      exact (tkP hr.1.1 (by omega)).2.1
    · rw [t4c c k (by omega) (by omega) (by omega) (by omega) (by omega) (by omega) (by omega), f6 c k (by omega), k1 c k q]
end LDd
