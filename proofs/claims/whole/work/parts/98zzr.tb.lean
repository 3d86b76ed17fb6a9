/-! both readings of a text, whole -/
section RDb
variable {F : Nat → Int} {n N : Nat} {P : Nat → Nat} {s0 t0 s t : iS} {K K' : List Nat} {U U' : List urec} {W W' : List wrec}
theorem ext_gd {α : Type} {l l' : List α} (d : α) (h : l.length = l'.length) (he : ∀ i, i < l.length → l.getD i d = l'.getD i d) : l = l' := by
  refine List.ext_getElem h (fun i h1 h2 => ?_)
  have := he i h1
  rw [List.getD_eq_getElem?_getD, List.getD_eq_getElem?_getD, List.getElem?_eq_getElem h1, List.getElem?_eq_getElem h2] at this
  exact this
/-- the reference's rows say which text it was -/
theorem RXT_eq (h : RXT K U W t) (h' : RXT K' U' W' t) : K = K' ∧ U = U' ∧ W = W' := by
  obtain ⟨a1, a2, a3, a4, a5, a6, a7, a8, _⟩ := h
  obtain ⟨b1, b2, b3, b4, b5, b6, b7, b8, _⟩ := h'
  have k1 : K.length = K'.length := by omega
  have k2 : U.length = U'.length := by omega
  have k3 : W.length = W'.length := by omega
  refine ⟨ext_gd 0 k1 (fun i hi => ?_), ext_gd (0, 0, 0, 0) k2 (fun i hi => ?_), ext_gd (0, 0, 0, 0, 0, 0, 0) k3 (fun i hi => ?_)⟩
  · have := a2 i hi
    rw [b2 i (by omega)] at this
    omega
  · obtain ⟨c1, c2, c3, c4⟩ := a5 i hi
    obtain ⟨d1, d2, d3, d4⟩ := b5 i (by omega)
    rw [d1] at c1
    rw [d2] at c2
    rw [d3] at c3
    rw [d4] at c4
    exact Prod.ext c1.symm (Prod.ext c2.symm (Prod.ext (by omega) c4.symm))
  · obtain ⟨c1, c2, c3, c4, c5, c6, c7⟩ := a8 i hi
    obtain ⟨d1, d2, d3, d4, d5, d6, d7⟩ := b8 i (by omega)
    rw [d1] at c1
    rw [d2] at c2
    rw [d3] at c3
    rw [d4] at c4
    rw [d5] at c5
    rw [d6] at c6
    rw [d7] at c7
    exact Prod.ext c1.symm (Prod.ext c2.symm (Prod.ext c3.symm (Prod.ext c4.symm (Prod.ext (by omega) (Prod.ext c6.symm c7.symm)))))
/-- the reference begins -/
noncomputable def tx0 (t : iS) : iS := up (up (up (up (up (up (up (up (up t 121 11 0) 121 14 0) 121 16 0) 121 17 0) 121 25 0) 121 33 0) 121 39 0) 121 48 0) 121 49 0
theorem tx0_ne {c k : Nat} (h : ¬ (c = 121 ∧ (k = 11 ∨ k = 14 ∨ k = 16 ∨ k = 17 ∨ k = 25 ∨ k = 33 ∨ k = 39 ∨ k = 48 ∨ k = 49))) : tx0 t c k = t c k := by
  unfold tx0
  rw [up_ne (by omega), up_ne (by omega), up_ne (by omega), up_ne (by omega), up_ne (by omega), up_ne (by omega), up_ne (by omega), up_ne (by omega), up_ne (by omega)]
theorem tx0_at {k : Nat} (h : k = 11 ∨ k = 14 ∨ k = 16 ∨ k = 17 ∨ k = 25 ∨ k = 33 ∨ k = 39 ∨ k = 48 ∨ k = 49) : tx0 t 121 k = 0 := by
  unfold tx0
  rcases h with h | h | h | h | h | h | h | h | h <;> subst h
  · rw [up_ne (by omega), up_ne (by omega), up_ne (by omega), up_ne (by omega), up_ne (by omega), up_ne (by omega), up_ne (by omega), up_ne (by omega), up_same]
  · rw [up_ne (by omega), up_ne (by omega), up_ne (by omega), up_ne (by omega), up_ne (by omega), up_ne (by omega), up_ne (by omega), up_same]
  · rw [up_ne (by omega), up_ne (by omega), up_ne (by omega), up_ne (by omega), up_ne (by omega), up_ne (by omega), up_same]
  · rw [up_ne (by omega), up_ne (by omega), up_ne (by omega), up_ne (by omega), up_ne (by omega), up_same]
  · rw [up_ne (by omega), up_ne (by omega), up_ne (by omega), up_ne (by omega), up_same]
  · rw [up_ne (by omega), up_ne (by omega), up_ne (by omega), up_same]
  · rw [up_ne (by omega), up_ne (by omega), up_same]
  · rw [up_ne (by omega), up_same]
  · rw [up_same]
theorem mtx_eq : m_texts t = m_texts_45 (tx0 t) := by
  unfold m_texts tx0
  simp only [lt_eq]
theorem tx0_LXT (h : TKR 0 F n N P s0 t0) (h10 : t0 121 10 = 0) {s8 : iS} (hs : SC s0 s8) (h12 : s8 2 12 = 0) (h5 : s8 22 5 = 0) (h6 : s8 22 6 = 0) : LXT s0 t0 N s8 (tx0 t0) 0 0 0 0 0 := by
  refine ⟨hs, ?_, h12, by rw [tx0_ne (by omega), h10]; rfl, by have := h.2.1; omega, tx0_at (by omega), h5, tx0_at (by omega), by omega, h6, tx0_at (by omega), by omega, tx0_at (by omega), tx0_at (by omega), by omega, Or.inl rfl⟩
  unfold SR
  rw [show tx0 t0 123 = t0 123 from funext fun k => tx0_ne (by omega), show tx0 t0 124 = t0 124 from funext fun k => tx0_ne (by omega), show tx0 t0 125 = t0 125 from funext fun k => tx0_ne (by omega), show tx0 t0 126 = t0 126 from funext fun k => tx0_ne (by omega), show tx0 t0 127 = t0 127 from funext fun k => tx0_ne (by omega), tx0_ne (by omega)]
  exact ⟨rfl, rfl, rfl, rfl, rfl, rfl⟩
theorem tx0_RXT : RXT [] [] [] (tx0 t) := ⟨tx0_at (by omega), fun i hi => by simp at hi, Nat.zero_le _, tx0_at (by omega), fun i hi => by simp at hi, Nat.zero_le _, tx0_at (by omega), fun i hi => by simp at hi, fun r hr => by simp at hr, tx0_at (by omega), fun q => absurd rfl q, fun c hc => by simp at hc, fun u hu => by simp at hu⟩
theorem tx0_AOK : AOK s0 [] [] [] [] (tx0 t) 0 0 0 0 := ⟨rfl, fun r hr => by simp at hr, ⟨fun u hu => by simp at hu, fun i k hi hk => by simp at hk⟩, fun _ => 0, fun _ => 0, fun _ => 0, fun i hi => by simp at hi, rfl, rfl, Nat.le_refl _, Nat.le_refl _, fun i hi => by simp at hi⟩
theorem tx0_YOK : YOK s0 N [] [] [] [] := ⟨fun j hj => by simp at hj, fun j hj => by simp at hj, fun j hj => by simp at hj, fun j hj => by simp at hj⟩
/-- both readings -/
theorem rd_ok (h : TKR 0 F n N P s0 t0) (hF : tkC F n s0) (hl : LSc s0) (h10 : t0 121 10 = 0) :
    (∃ t2 f u s', m_texts t0 = some (0, t2) ∧ trl_readText 0 s0 = some (0, s') ∧ ft f u N ∧ RD t0 N P t2 f u 3412 ∧ CD s0 N s' f u ∧ Z2 s') ∨
    (∃ t2 s1 s2 p g K U W Y A w I C, m_texts t0 = some (0, t2) ∧ trl_readText 0 s0 = some (0, s1) ∧ s1 2 13 = 0 ∧ trl_readText 1 s1 = bd (trl_findMain (up s2 2 12 ((p + 1 : Nat) : Int))) (fun _ s4 => bd (prg_settleCalls s4) (fun _ s5 => some (0, s5))) ∧ s0 9 p = 0 ∧ (g = 0 ∨ g = 3) ∧ LXT s0 t0 N s2 t2 p 0 w I C ∧ T2 F P s0 t0 N K U W g K U W Y A s2 ∧ RXT K U W t2 ∧ W.length ≤ p ∧ YOK s0 N Y K U W ∧ AOK s0 K U W A t2 I C p w ∧ A.length = U.length) := by
  have hN2 := N1001 h
  obtain ⟨s8, e1, e2, e3, e4, e5, e6⟩ := rt0 h SC_refl hl
  rcases x_texts h (t1_H h hF) (Or.inl rfl) (N - 0) 3 [] [] [] [] [] s8 (tx0 t0) 0 0 0 0 0 (Nat.le_refl _) (Or.inr rfl) (tx0_LXT h h10 e3 e4 e5 e6) e2 tx0_RXT (Nat.le_refl _) (Nat.le_refl _) tx0_YOK tx0_AOK rfl with ⟨sa, t2, p2, g2, K, U, W, Y, A, w2, I2, C2, a1, a2, a3, a4, a5, a6, a7, a8, a9, a10, a11⟩ | ⟨t2, f, u, a1, a2, a3, a4⟩
  case inr =>
    obtain ⟨s', b1, b2, b3⟩ := a4 rfl
    exact Or.inl ⟨t2, f, u, s', by rw [mtx_eq]; exact a1, by rw [e1]; exact b1, a2, a3, b2, b3⟩
  refine Or.inr ?_
  obtain ⟨l1, l2, l3, l4, l5, l6, l7, l8, l9, l10⟩ := a5
  have r1 : trl_readText 0 s0 = some (0, up sa 2 12 ((p2 + 1 : Nat) : Int)) := by
    rw [e1, show trl_readText_48 0 0 s8 = _ from a1]
    unfold trl_readText_152
    rw [cEx h l1 l3 l5 (by omega) a3, bq, gr (by omega), if_pos rfl]
  have x1 : X1 F P s0 t0 N g2 K U W (up sa 2 12 ((p2 + 1 : Nat) : Int)) := X1_up a6.1 (by omega)
  obtain ⟨s9, d1, d2, d3, d4, d5, d6⟩ := rt1 h (SC_up l1 (by omega)) x1 a4 (by omega)
  rcases x_texts h (t2_H (Kf := K) (Uf := U) (Wf := W) h hF) (Or.inr rfl) (N - 0) 3 [] [] [] [] [] s9 (tx0 t0) 0 0 0 0 0 (Nat.le_refl _) (Or.inr rfl) (tx0_LXT h h10 d3 d4 d5 d6) d2 tx0_RXT (Nat.le_refl _) (Nat.le_refl _) tx0_YOK tx0_AOK rfl with ⟨sb, t3, p3, g3, K3, U3, W3, Y3, A3, w3, I3, C3, b1, b2, b3, b4, b5, b6, b7, b8, b9, b10, b11⟩ | ⟨t3, f, u, b1, b2, b3, b4⟩
  · have et : t3 = t2 := by
      rw [a2] at b2
      exact (congrArg Prod.snd (Option.some.inj b2)).symm
    rw [et] at b5 b7 b10
    obtain ⟨q1, q2, q3⟩ := RXT_eq b7 a7
    subst q1 q2 q3
    have b5' := b5
    obtain ⟨m1, m2, m3, m4, m5, m6, _⟩ := b5
    refine ⟨t2, _, sb, p3, g3, K3, U3, W3, Y3, A3, w3, I3, C3, by rw [mtx_eq]; exact a2, r1, by rw [up_ne (by omega)]; exact a6.2.2.2, ?_, b3, b4, b5', b6, a7, b8, b9, b10, b11⟩
    rw [d1, show trl_readText_48 1 0 s9 = _ from b1]
    unfold trl_readText_152
    rw [cEx h m1 m3 m5 (by omega) b3, bq, gr (by omega), if_neg (by omega)]
  · exfalso
    have et : t3 = t2 := by
      rw [a2] at b1
      exact (congrArg Prod.snd (Option.some.inj b1)).symm
    have z1 := b3.2.2.1
    rw [et, l6] at z1
    have z2 := b2.1
    omega
end RDb
