/-! a sub: its name -/
/-- the reference puts a sub down -/
noncomputable def nsb (t : iS) (u : Nat) (so y : Int) : iS := up (up (up (up (up (up (up (up (up t 130 u (t 121 14 - 1)) 131 u so) 132 u (t 121 10)) 133 u y) 134 u 0) 135 u 0) 136 u (t 121 33)) 121 17 ((u + 1 : Nat) : Int)) 121 50 0
section TXj
variable {F : Nat → Int} {n N : Nat} {P : Nat → Nat} {s0 t0 : iS} {T : TXP} {TV : Int → Int → Prop} {Z : iS → Prop} {b : Int} {g : Nat} {K : List Nat} {U : List urec} {W : List wrec} {Y : List Nat} {A : List (List itm)} {s t : iS} {p o w I C u : Nat} {so y : Int}
theorem nsb_ne {c k : Nat} (h : ¬ (c = 121 ∧ (k = 17 ∨ k = 50))) (h2 : ¬ (130 ≤ c ∧ c ≤ 136 ∧ k = u)) : nsb t u so y c k = t c k := by
  unfold nsb
  rw [up_ne (by omega), up_ne (by omega), up_ne (by omega), up_ne (by omega), up_ne (by omega), up_ne (by omega), up_ne (by omega), up_ne (by omega), up_ne (by omega)]
theorem nsb_at : nsb t u so y 130 u = t 121 14 - 1 ∧ nsb t u so y 131 u = so ∧ nsb t u so y 132 u = t 121 10 ∧ nsb t u so y 133 u = y ∧ nsb t u so y 134 u = 0 ∧ nsb t u so y 135 u = 0 ∧ nsb t u so y 136 u = t 121 33 ∧ nsb t u so y 121 17 = ((u + 1 : Nat) : Int) ∧ nsb t u so y 121 50 = 0 := by
  unfold nsb
  refine ⟨?_, ?_, ?_, ?_, ?_, ?_, ?_, ?_, up_same _ _ _ _⟩
  · rw [up_ne (by omega), up_ne (by omega), up_ne (by omega), up_ne (by omega), up_ne (by omega), up_ne (by omega), up_ne (by omega), up_ne (by omega), up_same]
  · rw [up_ne (by omega), up_ne (by omega), up_ne (by omega), up_ne (by omega), up_ne (by omega), up_ne (by omega), up_ne (by omega), up_same]
  · rw [up_ne (by omega), up_ne (by omega), up_ne (by omega), up_ne (by omega), up_ne (by omega), up_ne (by omega), up_same]
  · rw [up_ne (by omega), up_ne (by omega), up_ne (by omega), up_ne (by omega), up_ne (by omega), up_same]
  · rw [up_ne (by omega), up_ne (by omega), up_ne (by omega), up_ne (by omega), up_same]
  · rw [up_ne (by omega), up_ne (by omega), up_ne (by omega), up_same]
  · rw [up_ne (by omega), up_ne (by omega), up_same]
  · rw [up_ne (by omega), up_same]
theorem nw_none (h : ∀ r ∈ W, r.1 < (K.length : Int) ∧ r.2.1 < (U.length : Int)) : nwP (U.length : Int) W = 0 ∧ nwV (U.length : Int) W = 0 ∧ nwC (K.length : Int) W = 0 ∧ nwF (K.length : Int) W = 0 := by
  unfold nwP nwV nwC nwF
  refine ⟨?_, ?_, ?_, ?_⟩ <;> (rw [List.countP_eq_zero]; intro r hr; have := h r hr; simp only [Bool.and_eq_true, beq_iff_eq, not_and]; omega)
/-- the rows behind a new sub -/
theorem RXT_sub (h : RXT K U W t) (hU : U.length < 60) (hp : t 121 10 = (p : Int)) : RXT K (U ++ [((K.length : Int) - 1, so, p, y)]) W (nsb t U.length so y) := by
  obtain ⟨a1, a2, a3, a4, a5, a6, a7, a8, a9, a10, a11, a12, a13⟩ := h
  obtain ⟨n1, n2, n3, n4⟩ := nw_none a9
  obtain ⟨b1, b2, b3, b4, b5, b6, b7, b8, b9⟩ := nsb_at (t := t) (u := U.length) (so := so) (y := y)
  have ul : (U ++ [((K.length : Int) - 1, so, p, y)]).length = U.length + 1 := by rw [List.length_append]; rfl
  refine ⟨?_, fun i hi => ?_, a3, ?_, fun i hi => ?_, ?_, ?_, fun i hi => ?_, fun r hr => ?_, ?_, ?_, fun c hc => ?_, fun u hu => ?_⟩
  · rw [nsb_ne (by omega) (by omega)]; exact a1
  · rw [nsb_ne (by omega) (by omega)]; exact a2 i hi
  · rw [b8, ul]
  · rw [ul] at hi
    by_cases c : i < U.length
    · rw [gd_app c, nsb_ne (by omega) (by omega), nsb_ne (by omega) (by omega), nsb_ne (by omega) (by omega), nsb_ne (by omega) (by omega)]
      exact a5 i c
    · have e : i = U.length := by omega
      rw [e, gd_end, b1, b2, b3, b4, a1]
      exact ⟨rfl, rfl, hp, rfl⟩
  · rw [ul]; omega
  · rw [nsb_ne (by omega) (by omega)]; exact a7
  · rw [nsb_ne (by omega) (by omega), nsb_ne (by omega) (by omega), nsb_ne (by omega) (by omega), nsb_ne (by omega) (by omega), nsb_ne (by omega) (by omega), nsb_ne (by omega) (by omega), nsb_ne (by omega) (by omega)]
    exact a8 i hi
  · have := a9 r hr
    rw [ul]
    omega
  · rw [nsb_ne (by omega) (by omega)]; exact a10
  · intro q; rw [nsb_ne (by omega) (by omega)]; exact a11 q
  · rw [nsb_ne (by omega) (by omega)]; exact a12 c hc
  · rw [ul] at hu
    by_cases c : u < U.length
    · rw [nsb_ne (by omega) (by omega), nsb_ne (by omega) (by omega)]
      exact a13 u c
    · have e : u = U.length := by omega
      rw [e, b5, b6, n1, n2]
      exact ⟨rfl, rfl⟩
/-- the reference at the name of a sub -/
theorem r_snam (h : TKR 0 F n N P s0 t0) (hL : LXT s0 t0 N s t p o w I C) (hX : RXT K U W t) :
    (s0 9 p = 3 → U.length < 60 → p + 1 < N ∧ m_subr_41 so y t = bd (m_parameters (U.length : Int) (up (nsb t U.length so y) 121 10 ((p + 1 : Nat) : Int))) (fun _ s26 => bd (m_openSign 123 s26) (fun _ s27 => m_subr_205 s27))) ∧
    (s0 9 p ≠ 3 → m_subr_41 so y t = some (0, flt t (if s0 9 p = 2 then 2 else 1) P p)) ∧
    (s0 9 p = 3 → U.length = 60 → m_subr_41 so y t = some (0, flt t 2 P p)) := by
  have hN2 := N1001 h
  obtain ⟨h1, h2, h3, h4, h5, h6, _⟩ := hL
  obtain ⟨a1, a2, a3, a4, a5, a6, a7, a8, a9, a10, a11, a12, a13⟩ := hX
  have kk := tkK h h5
  have e124 : t 124 (t 121 10).toNat = t0 124 p := by rw [h4, Int.toNat_natCast, h2.2.1]
  have S : m_subr_41 so y t = if s0 9 p = 3 then bd (m_room (t 121 17) 60 (t 121 10) t) (fun _ s6 => gd (rg (s6 121 11)) (if (s6 121 11) ≤ 0 then gd (0 ≤ (s6 121 17) ∧ (s6 121 17) < 61) (lt' (up s6 130 (s6 121 17).toNat ((s6 121 14) - 1)) (fun s10 => gd (0 ≤ (s10 121 17) ∧ (s10 121 17) < 61) (lt' (up s10 131 (s10 121 17).toNat so) (fun s12 => gd (0 ≤ (s12 121 17) ∧ (s12 121 17) < 61) (lt' (up s12 132 (s12 121 17).toNat (s12 121 10)) (fun s14 => gd (0 ≤ (s14 121 17) ∧ (s14 121 17) < 61) (lt' (up s14 133 (s14 121 17).toNat y) (fun s16 => gd (0 ≤ (s16 121 17) ∧ (s16 121 17) < 61) (lt' (up s16 134 (s16 121 17).toNat 0) (fun s18 => gd (0 ≤ (s18 121 17) ∧ (s18 121 17) < 61) (lt' (up s18 135 (s18 121 17).toNat 0) (fun s20 => gd (0 ≤ (s20 121 17) ∧ (s20 121 17) < 61) (lt' (up s20 136 (s20 121 17).toNat (s20 121 33)) (fun s22 => lt' (up s22 121 17 ((s22 121 17) + 1)) (fun s23 => lt' (up s23 121 50 0) (fun s24 => bd (m_go s24) (fun _ s25 => bd (m_parameters ((s25 121 17) - 1) s25) (fun _ s26 => bd (m_openSign 123 s26) (fun _ s27 => m_subr_205 s27))))))))))))))))))) else some (0, s6))) else bd (m_syntax t) (fun _ s28 => some (0, s28)) := by
    unfold m_subr_41
    rw [gr (by omega), if_pos (by omega), gd_pos (by omega), gr (by omega)]
    by_cases k : s0 9 p = 3
    · rw [if_pos (by omega), if_pos k]
    · rw [if_neg (by omega), if_neg k]
  refine ⟨fun c1 c2 => ⟨tkL h h5 (by omega), ?_⟩, fun c1 => ?_, fun c1 c2 => ?_⟩
  · have room : m_room (t 121 17) 60 (t 121 10) t = some (0, t) := by
      unfold m_room
      rw [a4, gr (by omega), gr (by omega), if_pos (by omega)]
    have Q : ∀ x : iS, x 121 17 = (U.length : Int) → (0 ≤ x 121 17 ∧ x 121 17 < 61) ∧ (x 121 17).toNat = U.length := fun x hx => by rw [hx]; omega
    have n17 : ∀ {x : iS} {c k : Nat} {z : Int}, c ≠ 121 → x 121 17 = (U.length : Int) → up x c k z 121 17 = (U.length : Int) := fun hc hx => by rw [up_ne (by omega)]; exact hx
    rw [S, if_pos c1, room, bq, h6, gr (by omega), if_pos (by omega), gd_pos (Q _ a4).1, lt_eq, (Q _ a4).2]
    have h1 := n17 (c := 130) (k := U.length) (z := t 121 14 - 1) (by omega) a4
    rw [gd_pos (Q _ h1).1, lt_eq, (Q _ h1).2]
    have h2 := n17 (c := 131) (k := U.length) (z := so) (by omega) h1
    rw [gd_pos (Q _ h2).1, lt_eq, (Q _ h2).2, show up (up t 130 U.length (t 121 14 - 1)) 131 U.length so 121 10 = t 121 10 by rw [up_ne (by omega), up_ne (by omega)]]
    have h3 := n17 (c := 132) (k := U.length) (z := t 121 10) (by omega) h2
    rw [gd_pos (Q _ h3).1, lt_eq, (Q _ h3).2]
    have h4' := n17 (c := 133) (k := U.length) (z := y) (by omega) h3
    rw [gd_pos (Q _ h4').1, lt_eq, (Q _ h4').2]
    have h5' := n17 (c := 134) (k := U.length) (z := 0) (by omega) h4'
    rw [gd_pos (Q _ h5').1, lt_eq, (Q _ h5').2]
    have h6' := n17 (c := 135) (k := U.length) (z := 0) (by omega) h5'
    rw [gd_pos (Q _ h6').1, lt_eq, (Q _ h6').2, show up (up (up (up (up (up t 130 U.length (t 121 14 - 1)) 131 U.length so) 132 U.length (t 121 10)) 133 U.length y) 134 U.length 0) 135 U.length 0 121 33 = t 121 33 by rw [up_ne (by omega), up_ne (by omega), up_ne (by omega), up_ne (by omega), up_ne (by omega), up_ne (by omega)]]
    have h7' := n17 (c := 136) (k := U.length) (z := t 121 33) (by omega) h6'
    rw [lt_eq, lt_eq, h7']
    have e : up (up (up (up (up (up (up (up (up t 130 U.length (t 121 14 - 1)) 131 U.length so) 132 U.length (t 121 10)) 133 U.length y) 134 U.length 0) 135 U.length 0) 136 U.length (t 121 33)) 121 17 ((U.length : Int) + 1)) 121 50 0 = nsb t U.length so y := rfl
    rw [e, rGo (p := p) (by rw [nsb_ne (by omega) (by omega)]; exact h6) (by rw [nsb_ne (by omega) (by omega)]; exact h4), bq, show up (nsb t U.length so y) 121 10 ((p + 1 : Nat) : Int) 121 17 - 1 = (U.length : Int) by rw [up_ne (by omega), nsb_at.2.2.2.2.2.2.2.1]; omega]
  · rw [S, if_neg c1, rSy h h2 h6 h4 h5, bq]
  · have room : m_room (t 121 17) 60 (t 121 10) t = some (0, flt t 2 P p) := by
      unfold m_room
      rw [a4, gr (by omega), gr (by omega), if_neg (by omega), h4, rWr h2 h h6 h5, bq]
    rw [S, if_pos c1, room, bq, flt_11, gr (by omega), if_neg (by omega)]
/-- the class at the name of a sub -/
theorem c_snam (h : TKR 0 F n N P s0 t0) (hT : RHT T TV Z b s0 N P) (hL : LXT s0 t0 N s t p o w I C) (hs : T g K U W Y A s) (hg : g = 0 ∨ g = 3) (hK : K ≠ []) (hso : so = 1 ∨ so = 2 ∨ so = 3) (hU : U.length ≤ 60) (hb01 : b = 0 ∨ b = 1) :
    (s0 9 p = 3 → U.length < 60 → ∃ s1, trl_readSubName (256 + so) s = some (0, up s1 2 12 ((p + 1 : Nat) : Int)) ∧ T 1 K (U ++ [((K.length : Int) - 1, so, p, y)]) W Y A s1 ∧ MX s0 s s1) ∧
    (s0 9 p ≠ 3 → b = 0 → trl_readSubName (256 + so) s = some (0, stp s (if s0 9 p = 2 then 2 else 1) p N)) ∧
    (s0 9 p = 3 → U.length = 60 → b = 0 → trl_readSubName (256 + so) s = some (0, stp s 2 p N)) := by
  have hN2 := N1001 h
  obtain ⟨h1, h2, h3, h4, h5, h6, _⟩ := hL
  have kk := tkK h h5
  have z9 : -2147483648 ≤ s0 9 p ∧ s0 9 p ≤ 2147483647 := by
    rw [if_pos rfl] at kk
    omega
  obtain ⟨y1, y2, y3, y4⟩ := hT.2.1 _ _ _ _ _ _ s hs
  have b27 := y2.2.2.1
  refine ⟨fun c1 c2 => ?_, fun c1 hb => ?_, fun c1 c2 hb => ?_⟩
  · obtain ⟨e1, e2⟩ := hT.2.2.2.2.2.2.2.2.1 g K U W Y A s p so y hs h1 h5 c1 h3 hg hK hso hU
    obtain ⟨s1, e3, e4, e5⟩ := e2 c2
    refine ⟨s1, ?_, e4, e5⟩
    have hb : -2147483648 ≤ s 22 4 ∧ s 22 4 ≤ 2147483647 := by
      rw [y1]
      omega
    unfold trl_readSubName
    rw [cK h h1 h3 h5, bq, gr z9, if_pos c1, gr hb]
    by_cases k : s 22 4 = 0
    · rw [if_pos k, gr (by omega), if_pos (by rw [e1 (by rw [← y1]; exact k)]; omega), e3]
    · rw [if_neg k, e3]
  · unfold trl_readSubName
    rw [cK h h1 h3 h5, bq, gr z9, if_neg c1, cSt h h1 (y3 hb).1 h3 h5, bq]
  · obtain ⟨e1, e2⟩ := hT.2.2.2.2.2.2.2.2.1 g K U W Y A s p so y hs h1 h5 c1 h3 hg hK hso hU
    unfold trl_readSubName
    rw [cK h h1 h3 h5, bq, gr z9, if_pos c1, gr (by rw [y1, hb]; decide), if_pos (by rw [y1, hb]), gr (by omega), if_neg (by rw [e1 hb]; omega), cSt h h1 (y3 hb).1 h3 h5, bq, if_neg (by omega)]
end TXj
