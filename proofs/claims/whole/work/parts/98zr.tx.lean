/-! a class: its name -/
/-- the reference puts a class down -/
noncomputable def ncl (t : iS) (k : Nat) : iS := up (up (up (up t 128 k (t 121 10)) 129 k 0) 121 14 ((k + 1 : Nat) : Int)) 121 60 0
section TXq
variable {F : Nat → Int} {n N : Nat} {P : Nat → Nat} {s0 t0 : iS} {T : TXP} {TV : Int → Int → Prop} {Z : iS → Prop} {b : Int} {g : Nat} {K : List Nat} {U : List urec} {W : List wrec} {Y : List Nat} {A : List (List itm)} {s t : iS} {p o w I C k : Nat}
theorem ncl_ne {c i : Nat} (h : ¬ (c = 121 ∧ (i = 14 ∨ i = 60))) (h2 : ¬ ((c = 128 ∨ c = 129) ∧ i = k)) : ncl t k c i = t c i := by
  unfold ncl
  rw [up_ne (by omega), up_ne (by omega), up_ne (by omega), up_ne (by omega)]
theorem ncl_at : ncl t k 128 k = t 121 10 ∧ ncl t k 129 k = 0 ∧ ncl t k 121 14 = ((k + 1 : Nat) : Int) ∧ ncl t k 121 60 = 0 := by
  unfold ncl
  refine ⟨?_, ?_, ?_, up_same _ _ _ _⟩
  · rw [up_ne (by omega), up_ne (by omega), up_ne (by omega), up_same]
  · rw [up_ne (by omega), up_ne (by omega), up_same]
  · rw [up_ne (by omega), up_same]
theorem RXT_cls (h : RXT K U W t) (hK : K.length < 12) (hp : t 121 10 = (p : Int)) : RXT (K ++ [p]) U W (ncl t K.length) := by
  obtain ⟨a1, a2, a3, a4, a5, a6, a7, a8, a9, a10, a11, a12, a13⟩ := h
  obtain ⟨n1, n2, n3, n4⟩ := nw_none a9
  obtain ⟨b1, b2, b3, b4⟩ := ncl_at (t := t) (k := K.length)
  have kl : (K ++ [p]).length = K.length + 1 := by rw [List.length_append]; rfl
  refine ⟨?_, fun i hi => ?_, ?_, ?_, fun i hi => ?_, a6, ?_, fun i hi => ?_, fun r hr => ?_, ?_, ?_, fun c hc => ?_, fun u hu => ?_⟩
  · rw [b3, kl]
  · rw [kl] at hi
    by_cases c : i < K.length
    · rw [gd_app c, ncl_ne (by omega) (by omega)]; exact a2 i c
    · have e : i = K.length := by omega
      rw [e, gd_end, b1]; exact hp
  · rw [kl]; omega
  · rw [ncl_ne (by omega) (by omega)]; exact a4
  · rw [ncl_ne (by omega) (by omega), ncl_ne (by omega) (by omega), ncl_ne (by omega) (by omega), ncl_ne (by omega) (by omega)]; exact a5 i hi
  · rw [ncl_ne (by omega) (by omega)]; exact a7
  · rw [ncl_ne (by omega) (by omega), ncl_ne (by omega) (by omega), ncl_ne (by omega) (by omega), ncl_ne (by omega) (by omega), ncl_ne (by omega) (by omega), ncl_ne (by omega) (by omega), ncl_ne (by omega) (by omega)]; exact a8 i hi
  · have := a9 r hr
    rw [kl]
    omega
  · rw [ncl_ne (by omega) (by omega)]; exact a10
  · rw [b4, kl, show ((K.length + 1 : Nat) : Int) - 1 = (K.length : Int) by omega, n3]; exact fun _ => rfl
  · rw [kl] at hc
    by_cases c1 : c < K.length
    · rw [ncl_ne (by omega) (by omega)]; exact a12 c c1
    · have e : c = K.length := by omega
      rw [e, b2, n4]; rfl
  · rw [ncl_ne (by omega) (by omega), ncl_ne (by omega) (by omega)]; exact a13 u hu
/-- the class at the name of a class -/
theorem c_cnam (h : TKR 0 F n N P s0 t0) (hT : RHT T TV Z b s0 N P) (hL : LXT s0 t0 N s t p o w I C) (hs : T g K U W Y A s) (hg : g = 0 ∨ g = 3) (hK : K.length ≤ 12) (hb01 : b = 0 ∨ b = 1) :
    (s0 9 p = 3 → K.length < 12 → ∃ s1, trl_readClassName s = some (0, up s1 2 12 ((p + 1 : Nat) : Int)) ∧ T 0 (K ++ [p]) U W Y A s1 ∧ MX s0 s s1) ∧
    (s0 9 p ≠ 3 → b = 0 → trl_readClassName s = some (0, stp s (if s0 9 p = 2 then 2 else 1) p N)) ∧
    (s0 9 p = 3 → K.length = 12 → b = 0 → trl_readClassName s = some (0, stp s 2 p N)) := by
  have hN2 := N1001 h
  obtain ⟨h1, h2, h3, h4, h5, h6, _⟩ := hL
  have kk := tkK h h5
  have z9 : -2147483648 ≤ s0 9 p ∧ s0 9 p ≤ 2147483647 := by
    rw [if_pos rfl] at kk
    omega
  obtain ⟨y1, y2, y3, y4⟩ := hT.2.1 _ _ _ _ _ _ s hs
  have b24 := y2.2.1
  refine ⟨fun c1 c2 => ?_, fun c1 hb => ?_, fun c1 c2 hb => ?_⟩
  · obtain ⟨e1, e2⟩ := hT.2.2.2.2.2.2.2.1 g K U W Y A s p hs h1 h5 c1 h3 hg hK
    obtain ⟨s1, e3, e4, e5⟩ := e2 c2
    refine ⟨s1, ?_, e4, e5⟩
    have hb : -2147483648 ≤ s 22 4 ∧ s 22 4 ≤ 2147483647 := by
      rw [y1]
      omega
    unfold trl_readClassName
    rw [cK h h1 h3 h5, bq, gr z9, if_pos c1, gr hb]
    by_cases k : s 22 4 = 0
    · rw [if_pos k, gr (by omega), if_pos (by rw [e1 (by rw [← y1]; exact k)]; omega), e3]
    · rw [if_neg k, e3]
  · unfold trl_readClassName
    rw [cK h h1 h3 h5, bq, gr z9, if_neg c1, cSt h h1 (y3 hb).1 h3 h5, bq]
  · obtain ⟨e1, e2⟩ := hT.2.2.2.2.2.2.2.1 g K U W Y A s p hs h1 h5 c1 h3 hg hK
    unfold trl_readClassName
    rw [cK h h1 h3 h5, bq, gr z9, if_pos c1, gr (by rw [y1, hb]; decide), if_pos (by rw [y1, hb]), gr (by omega), if_neg (by rw [e1 hb]; omega), cSt h h1 (y3 hb).1 h3 h5, bq, if_neg (by omega)]
/-- the reference at the word 'class' -/
theorem r_cls (h : TKR 0 F n N P s0 t0) (hL : LXT s0 t0 N s t p o w I C) :
    (s0 9 p = 0 → m_texts_45b t = some (.inr (.inr t))) ∧
    (s0 9 p = 256 → p + 1 < N ∧ m_texts_45b t = if s0 9 (p + 1) = 3 then m_texts_93 (up t 121 10 ((p + 1 : Nat) : Int)) else some (.inr (.inl (flt (up t 121 10 ((p + 1 : Nat) : Int)) (if s0 9 (p + 1) = 2 then 2 else 1) P (p + 1))))) ∧
    (s0 9 p ≠ 0 → s0 9 p ≠ 256 → m_texts_45b t = some (.inr (.inl (flt t (if s0 9 p = 2 then 2 else 1) P p)))) := by
  have hN2 := N1001 h
  have hL' := hL
  obtain ⟨h1, h2, h3, h4, h5, h6, h7, h8, h9, h10, h11, h12, h13, h14, h15, h16⟩ := hL
  have kk := tkK h h5
  have e124 : t 124 (t 121 10).toNat = t0 124 p := by rw [h4, Int.toNat_natCast, h2.2.1]
  have wd := rW h h2 h4 h5 (w := 0) (by omega)
  refine ⟨fun c => ?_, fun c => ⟨tkL h h5 (by omega), ?_⟩, fun c c' => ?_⟩
  · unfold m_texts_45b
    rw [gr (by omega), if_pos h6, gd_pos (by omega), gr (by omega), if_pos (by rw [if_pos rfl] at kk; omega)]
  · have hp1 : p + 1 < N := tkL h h5 (by omega)
    have L1 := LXT_go hL' hp1
    have nw : m_needWord 0 t = some (0, up t 121 10 ((p + 1 : Nat) : Int)) := by
      unfold m_needWord
      rw [wd, bq, if_pos (by omega), gr (by omega), if_neg (by omega), rGo h6 h4, bq]
    have kk1 := tkK h hp1
    have e124' : up t 121 10 ((p + 1 : Nat) : Int) 124 (up t 121 10 ((p + 1 : Nat) : Int) 121 10).toNat = t0 124 (p + 1) := by rw [up_same, Int.toNat_natCast, L1.2.1.2.1]
    unfold m_texts_45b
    rw [gr (by omega), if_pos h6, gd_pos (by omega), gr (by omega), if_neg (by omega), nw, bq, L1.2.2.2.2.2.1, gr (by omega), if_pos rfl, gd_pos (by rw [up_same]; omega), gr (by omega)]
    by_cases k : s0 9 (p + 1) = 3
    · rw [if_pos (by omega), if_pos k]
    · have hf : (if s0 9 (p + 1) = 2 then (2 : Int) else 1) = 1 ∨ (if s0 9 (p + 1) = 2 then (2 : Int) else 1) = 2 := by split <;> omega
      rw [if_neg (by omega), if_neg k, rSy h L1.2.1 L1.2.2.2.2.2.1 L1.2.2.2.1 hp1, bq]
      exact RZ_93 (M := 3400) (f := (if s0 9 (p + 1) = 2 then (2 : Int) else 1)) (u := p + 1) ⟨hf, hp1⟩ (flt_RD L1.2.1 L1.2.2.2.1 hp1 (by rw [up_ne (by omega)]; exact h13) (by omega) (by rw [up_ne (by omega)]; omega))
  · have hf : (if s0 9 p = 2 then (2 : Int) else 1) = 1 ∨ (if s0 9 p = 2 then (2 : Int) else 1) = 2 := by split <;> omega
    have nw : m_needWord 0 t = some (0, flt t (if s0 9 p = 2 then 2 else 1) P p) := by
      unfold m_needWord
      rw [wd, bq, if_neg (by omega), gr (by omega), if_pos rfl, rSy h h2 h6 h4 h5, bq]
    unfold m_texts_45b
    rw [gr (by omega), if_pos h6, gd_pos (by omega), gr (by omega), if_neg (by rw [if_pos rfl] at kk; omega), nw, bq, flt_11, gr (by omega), if_neg (by omega)]
    exact RZ_93 (M := 3400) (f := (if s0 9 p = 2 then (2 : Int) else 1)) (u := p) ⟨hf, h5⟩ (flt_RD h2 h4 h5 h13 (by omega) (by omega))
end TXq
