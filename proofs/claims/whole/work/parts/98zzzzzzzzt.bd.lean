/-! chips -/
section CMl
variable {F : Nat → Int} {n N : Nat} {P : Nat → Nat} {s0 t0 s t s' t' : iS} {C : List chR} {O E I : List Nat} {Q : List (Nat × Int)} {R L : List (Nat × Nat)}
/-- the class's rows of the gates' pins -/
def GRo (s : iS) : Prop := (∀ k, k < 5 → s 91 k = 1) ∧ (s 92 0 = 0 ∧ s 92 1 = 1 ∧ s 92 2 = 2 ∧ s 92 3 = 0 ∧ s 92 4 = 1) ∧ s 93 0 = 3 ∧ s 93 1 = 2
def QHc (s : iS) : Prop := SZc s ∧ GRo s ∧ 0 ≤ s 99 2 ∧ s 99 2 ≤ 100
theorem of_g (hs : KHS F P s0 t0 N C O Q R L E I) : ofI s0 C Q R I 0 0 = 0 ∧ ofI s0 C Q R I 0 1 = 1 ∧ ofI s0 C Q R I 0 2 = 2 ∧ ofI s0 C Q R I 0 3 = 3 ∧ ofI s0 C Q R I 1 3 = 0 ∧ ofI s0 C Q R I 1 4 = 1 ∧ ofI s0 C Q R I 1 5 = 2 := by
  obtain ⟨g0, g1, g2⟩ := paI_g hs
  have a := fun k (hk : k ≤ 3) => (ofI_g (s0 := s0) (k := k) (i := 0) hs (by omega) (by omega) (show k ≤ paI C Q R I 1 by omega)).1
  have b := fun k (h1 : 3 ≤ k) (hk : k ≤ 5) => (ofI_g (s0 := s0) (k := k) (i := 1) hs (by omega) (by omega) (show k ≤ paI C Q R I 2 by omega)).1
  exact ⟨a 0 (by omega), a 1 (by omega), a 2 (by omega), a 3 (by omega), b 3 (by omega) (by omega), b 4 (by omega) (by omega), b 5 (by omega) (by omega)⟩
theorem pa_small (hs : KHS F P s0 t0 N C O Q R L E I) {i k : Nat} (hi : i < 2 + C.length) (h1 : paI C Q R I i ≤ k) (h2 : k < paI C Q R I (i + 1)) (h3 : k < 5) : i = 0 ∧ k < 3 ∨ i = 1 ∧ 3 ≤ k := by
  obtain ⟨g0, g1, g2⟩ := paI_g hs
  by_cases z : i < 2
  · have : i = 0 ∨ i = 1 := by omega
    rcases this with e | e <;> subst e
    · left; exact ⟨rfl, by have h2' : k < paI C Q R I 1 := h2; omega⟩
    · right; exact ⟨rfl, by omega⟩
  · obtain ⟨c, rfl⟩ : ∃ c, i = 2 + c := ⟨i - 2, by omega⟩
    have := (paI_c (Q := Q) (R := R) (I := I) (show c < C.length by omega)).1
    omega
theorem GRo_KW (h : GRo s) (hs : KHS F P s0 t0 N C O Q R L E I) : KW s0 C Q R I 0 s ∧ KO s0 C Q R I 0 s := by
  obtain ⟨h1, ⟨a0, a1, a2, a3, a4⟩, b0, b1⟩ := h
  obtain ⟨o0, o1, o2, o3, o4, o5, o6⟩ := of_g hs
  obtain ⟨g0, g1, g2⟩ := paI_g hs
  refine ⟨⟨fun k hk => ?_, fun i k hi k1 k2 k3 => ?_⟩, fun i hi => ?_⟩
  · rw [h1 k (by omega)]
    unfold pwI
    rw [if_pos (by omega)]
  · rcases pa_small hs hi k1 k2 (by omega) with ⟨e, z⟩ | ⟨e, z⟩ <;> subst e
    · have : k = 0 ∨ k = 1 ∨ k = 2 := by omega
      rcases this with e | e | e <;> subst e
      · rw [a0, o0]; rfl
      · rw [a1, o1]; rfl
      · rw [a2, o2]; rfl
    · have : k = 3 ∨ k = 4 := by omega
      rcases this with e | e <;> subst e
      · rw [a3, o4]; rfl
      · rw [a4, o5]; rfl
  · have : i = 0 ∨ i = 1 := by omega
    rcases this with e | e <;> subst e
    · show s 93 0 = (ofI s0 C Q R I 0 (paI C Q R I 1) : Int)
      rw [g1, o3, b0]; rfl
    · show s 93 1 = (ofI s0 C Q R I 1 (paI C Q R I 2) : Int)
      rw [g2, o6, b1]; rfl
theorem GRo_of (hs : KHS F P s0 t0 N C O Q R L E I) (hw : KW s0 C Q R I Q.length s) (hO : KO s0 C Q R I 0 s) : GRo s := by
  have bd' := KHS_bd hs
  obtain ⟨o0, o1, o2, o3, o4, o5, o6⟩ := of_g hs
  obtain ⟨g0, g1, g2⟩ := paI_g hs
  have w0 := fun k (hk : k < 3) => hw.2 0 k (by omega) (by omega) (show k < paI C Q R I 1 by omega) (by omega)
  have w1 := fun k (h3 : 3 ≤ k) (hk : k < 5) => hw.2 1 k (by omega) (by omega) (show k < paI C Q R I 2 by omega) (by omega)
  refine ⟨fun k hk => ?_, ⟨by rw [w0 0 (by omega), o0]; rfl, by rw [w0 1 (by omega), o1]; rfl, by rw [w0 2 (by omega), o2]; rfl, by rw [w1 3 (by omega) (by omega), o4]; rfl, by rw [w1 4 (by omega) (by omega), o5]; rfl⟩, ?_, ?_⟩
  · rw [hw.1 k (by omega)]
    unfold pwI
    rw [if_pos hk]
  · rw [hO 0 (by omega)]
    show (ofI s0 C Q R I 0 (paI C Q R I 1) : Int) = 3
    rw [g1, o3]; rfl
  · rw [hO 1 (by omega)]
    show (ofI s0 C Q R I 1 (paI C Q R I 2) : Int) = 2
    rw [g2, o6]; rfl
theorem GRo_st (h : GRo s) (e : ∀ c k, 91 ≤ c → c ≤ 93 → s' c k = s c k) : GRo s' := by
  unfold GRo at h ⊢
  have r : ∀ c, 91 ≤ c → c ≤ 93 → s' c = s c := fun c c1 c2 => funext fun k => e c k c1 c2
  rw [r 91 (by omega) (by omega), r 92 (by omega) (by omega), r 93 (by omega) (by omega)]
  exact h
theorem SZc_R (h : RDE F P s0 t0 N C O Q R L E I s t) : SZc s := by
  obtain ⟨-, ⟨⟨⟨c1, c2⟩, -⟩, -, -⟩, ⟨⟨⟨d1, d2⟩, -⟩, -⟩, ⟨⟨e1, -⟩, -⟩, ⟨⟨f1, -⟩, -⟩, -, st, ⟨b0, b1, b2, b3, b4, b5, b6, b7⟩, -, -, -, -, -, -, h87, -⟩ := h
  have l1 : (cgN ++ C.map (fun c => nmT F P t0 c.1)).length = 2 + C.length := by rw [List.length_append, List.length_map]; rfl
  have l2 : (cpN ++ Q.map (fun q => nmT F P t0 q.1)).length = 5 + Q.length := by rw [List.length_append, List.length_map]; rfl
  rw [l1] at c1 c2
  rw [l2] at d1 d2
  have z0 : ([] : List Nat).length = 0 := rfl
  refine ⟨by rw [c1]; omega, by rw [d1]; omega, by rw [e1]; omega, by rw [f1]; omega, h87, fun i hi => ?_, fun i hi => ?_, st⟩
  · have := c2 i (by omega)
    rw [gdL (show i < cgN.length from hi)] at this
    exact this
  · have := d2 i (by omega)
    rw [gdL (show i < cpN.length from hi)] at this
    exact this
theorem KHS_R (h : RDE F P s0 t0 N C O Q R L E I s t) : KHS F P s0 t0 N C O Q R L E I ∧ KC F P s0 t0 C O Q R L E s ∧ KR s0 t0 C Q R L I t := by
  obtain ⟨⟨a1, a2, a3, a4, a5⟩, ⟨c1, c2, c3⟩, ⟨d1, d2⟩, ⟨e1, e2⟩, ⟨f1, f2⟩, g1, st, b, ch, ec, pe, pz, ⟨k1, k2, k3, k4⟩, -, -, z⟩ := h
  exact ⟨⟨b, ch, ec, z⟩, ⟨a1, ⟨c1, c3, d1, e1, f1⟩, st, pe, pz⟩, ⟨a2, ⟨c2, d2, e2, f2, g1⟩, k1, k2, k3, k4⟩⟩
theorem kMn_z {A : List Nat} (h : kMn A = 100000) (hA : ∀ k ∈ A, k < 100000) : A = [] := by
  cases A with
  | nil => rfl
  | cons a l =>
    have a1 := kMn_lem (a :: l) a List.mem_cons_self
    have a2 := hA a List.mem_cons_self
    omega
/-- a fault that both have told -/
theorem flt_ok {A B : List Nat} (h : TKR 1 F n N P s0 t0) (hs : SC s0 s) (hA : BLc A s) (hB : RBc P N B t) (he : kMn A = kMn B) (hf : kMn A < 100000) : ∃ (f : Int) (u : Nat), rg f ∧ u < N ∧ x_chips_59 s = some (f, up s 0 2 (P u : Int)) ∧ m_chips_93 t = some (f, up t 121 4 (P u : Int)) ∧ s 2 13 ≠ 0 ∧ t 121 69 ≠ 0 ∧ rg (s 2 13) ∧ rg (t 121 69) := by
  rcases hA with ⟨z, -⟩ | ⟨a1, a2, a3, a4⟩
  · omega
  rcases hB with ⟨z, -⟩ | ⟨b1, b2, b3, b4, b5⟩
  · omega
  rw [← he] at b2 b3 b5
  have m16 : kMn A % 16 < 16 := Nat.mod_lt _ (by omega)
  refine ⟨((kMn A % 16 : Nat) : Int), kMn A / 16, ⟨by omega, by omega⟩, b5, ?_, ?_, by omega, by omega, by rw [a2]; exact ⟨by omega, by omega⟩, by rw [b2]; exact ⟨by omega, by omega⟩⟩
  · unfold x_chips_59
    rw [a2, gr (by omega), if_neg (by omega)]
    exact x97_f h hs a2 a3 b5
  · unfold m_chips_93
    rw [b2, gr (by omega), if_neg (by omega)]
    unfold m_chips_185
    have z : up t 121 4 (t 121 70) 121 69 = ((kMn A % 16 : Nat) : Int) := by rw [up_ne (by omega)]; exact b2
    rw [lt_eq, z, gr (by omega), if_neg (by omega), b3]
/-- rings, the board -/
theorem chk_end (h : TKH F n N P s0 t0) (hs : KHS F P s0 t0 N C O Q R L E I) (hc : KC F P s0 t0 C O Q R L E s) (hw : KW s0 C Q R I Q.length s) (hO : KO s0 C Q R I 0 s) (hk : CKD F P s0 t0 C O Q R L E I C.length s t) (hL : LKA F P s0 t0 C O Q R L E I C.length s) (hr : KR s0 t0 C Q R L I t) (hA : BLc [] s) (hB : RBc P N [] t) (hb : s 108 18 = 0 ∧ t 121 152 = 0 ∧ 0 ≤ t 121 174 ∧ t 121 174 < 16) (hR : QHr t) (hE : s0 9 (N - 1) = 0) : ∃ r s' t', bd (cck_check_110 s) (fun _ s11 => x_chips_59 s11) = some (r, s') ∧ m_chips_82 t = some (r, t') ∧ rg r ∧ (s' 0 2 = t' 121 4 ∧ rg (s' 0 2)) ∧ QBd 0 s' t' ∧ QHr t' ∧ (∀ c k, 1 ≤ c → c ≤ 106 → c ≠ 2 → s' c k = s c k) ∧ (∀ c k, c < 195 → c ≠ 121 → t' c k = t c k) ∧ t' 121 1 = t 121 1 ∧ s' 0 1 = s 0 1 := by
  have bd' := KHS_bd hs
  have hN := N2001 h.1
  have n4 := h.2.2.1
  obtain ⟨q0, hq0⟩ : ∃ q0, q0 = plT F P s0 t0 C O Q R E I s (fun _ _ => 0) := ⟨_, rfl⟩
  have w0 : WF0 q0 := W0_f hs (fun x hx r r1 r2 => (hL x hx r r1 r2).1) hq0
  have q10 : q0 10 0 = C.length := by rw [hq0]; rfl
  have plc := PLC_f h hs hc hw hO hk hL hq0
  have plr := PLR_f hs hk hL hr hq0
  have e72 : s 72 2 = ((2 + q0 10 0 : Nat) : Int) := by rw [q10, hc.2.1.1.1.1]; show ((tabC F P t0 C).length : Int) = _; rw [tabC_len]
  have e122 : t 121 122 = (q0 10 0 : Int) := by rw [q10]; exact hr.2.1.1.1
  have st := hc.2.2.1
  have tkb : ∀ c, c < C.length → (C.getD c (0, 0, 0, 0)).1 < N := fun c hc' => by
    have := (KHS_c hs hc').1.1
    rw [hAt_lt hc'] at this
    exact this
  obtain ⟨s2, a1, a2, a3⟩ := c_rings (p := q0) (s := s) (tk := fun c => (C.getD c (0, 0, 0, 0)).1) w0 e72 plc.1 ⟨st.2.2.2.2.1, st.2.2.2.2.2, by rw [hq0]; show (hAt C Q R I 0).2.2.1 = 0; rw [KHS_0 hs]⟩ (fun c r hc' h1 h2 => (plc.2.2 c r hc' h1 h2).1) (fun c hc' => by rw [q10] at hc'; exact ⟨(hc.2.1.1.2 c hc').1, by have := tkb c hc'; omega⟩) hA
  obtain ⟨t2, b1, b2, b3⟩ := r_rings (p := q0) (t := t) (tk := fun c => (C.getD c (0, 0, 0, 0)).1) (P := P) (N := N) w0 e122 plr.1 (fun c r hc' h1 h2 => (plr.2 c r hc' h1 h2).1) (fun c hc' => by rw [q10] at hc'; exact ⟨(hr.2.1.1.2 c hc').1, tkb c hc'⟩) hB (fun u Y j hu hY hj => note_c (f := 6) h.1 n4 (by
    obtain ⟨y1, y2, y3, y4, y5, y6⟩ := hr.1
    exact ⟨by rw [← y1]; exact funext fun k => hu 123 k (by omega) (by omega), by rw [← y2]; exact funext fun k => hu 124 k (by omega) (by omega), by rw [← y3]; exact funext fun k => hu 125 k (by omega) (by omega), by rw [← y4]; exact funext fun k => hu 126 k (by omega) (by omega), by rw [← y5]; exact funext fun k => hu 127 k (by omega) (by omega), by rw [← y6]; exact hu 121 3 (by omega) (by omega)⟩) hY (by omega) hj)
  rw [List.nil_append, q10] at a2 b2
  obtain ⟨Z, hZ⟩ : ∃ Z, Z = ngS (wSt (wPt q0) C.length) (fun c => (C.getD c (0, 0, 0, 0)).1) C.length := ⟨_, rfl⟩
  rw [← hZ] at a2 b2
  have s13 : s 2 13 = 0 := by
    rcases hA with ⟨-, z, -⟩ | ⟨z, -⟩
    · exact z
    · exact absurd z (by decide)
  have t69 : t 121 69 = 0 := by
    rcases hB with ⟨-, z⟩ | ⟨z, -⟩
    · exact z
    · exact absurd z (by decide)
  have e110 : bd (cck_check_110 s) (fun _ s11 => x_chips_59 s11) = x_chips_59 s2 := by
    unfold cck_check_110
    rw [s13, gr (by omega), if_pos rfl, a1, bq, bq]
  have e82 : m_chips_82 t = m_chips_93 t2 := by
    unfold m_chips_82
    rw [t69, gr (by omega), if_pos rfl, b1, bq]
  have kc2 : KC F P s0 t0 C O Q R L E s2 := KC_of hc (fun c k z => a3 c k (by omega) (by omega))
  have kr2 : KR s0 t0 C Q R L I t2 := KR_of hr (fun c k z => b3 c k (by omega) (by omega))
  have zlt : ∀ m, m ≤ C.length → ∀ k ∈ ngS (wSt (wPt q0) C.length) (fun c => (C.getD c (0, 0, 0, 0)).1) m, k < 100000 := by
    intro m
    induction m with
    | zero => intro _ k hk'; cases hk'
    | succ m ih =>
      intro hm k hk'
      have e : ngS (wSt (wPt q0) C.length) (fun c => (C.getD c (0, 0, 0, 0)).1) (m + 1) = ngS (wSt (wPt q0) C.length) (fun c => (C.getD c (0, 0, 0, 0)).1) m ++ (if wSt (wPt q0) C.length m m = true then [16 * (C.getD m (0, 0, 0, 0)).1 + 6] else []) := rfl
      rw [e] at hk'
      rcases List.mem_append.mp hk' with q | q
      · exact ih (by omega) k q
      · have := tkb m (by omega)
        exact sg_lt q (by omega)
  have frS : ∀ c k, 1 ≤ c → c ≤ 106 → c ≠ 2 → s2 c k = s c k := fun c k c1 c2 c3 => a3 c k (by omega) (by omega)
  have frT : ∀ c k, c < 195 → c ≠ 121 → t2 c k = t c k := fun c k c1 c2 => b3 c k (by omega) (by omega)
  rw [e110, e82]
  by_cases zz : kMn Z = 100000
  · have Z0 := kMn_z zz (by rw [hZ]; exact zlt C.length (Nat.le_refl _))
    have nz : ∀ m, ngS (wSt (wPt q0) C.length) (fun c => (C.getD c (0, 0, 0, 0)).1) m = [] → ∀ c, c < m → wSt (wPt q0) C.length c c = false := by
      intro m
      induction m with
      | zero => intro _ c hc'; exact absurd hc' (Nat.not_lt_zero c)
      | succ m ih =>
        intro e c hc'
        have es : ngS (wSt (wPt q0) C.length) (fun c => (C.getD c (0, 0, 0, 0)).1) (m + 1) = ngS (wSt (wPt q0) C.length) (fun c => (C.getD c (0, 0, 0, 0)).1) m ++ (if wSt (wPt q0) C.length m m = true then [16 * (C.getD m (0, 0, 0, 0)).1 + 6] else []) := rfl
        rw [es, List.append_eq_nil_iff] at e
        by_cases y : c = m
        · rw [y]
          cases w : wSt (wPt q0) C.length m m with
          | false => rfl
          | true =>
            have := e.2
            rw [w, if_pos rfl] at this
            cases this
        · exact ih e.1 c (by omega)
    rw [Z0] at a2 b2
    have s2v : s2 2 13 = 0 ∧ s2 2 14 = -1 := by
      rcases a2 with ⟨-, z⟩ | ⟨z, -⟩
      · exact z
      · exact absurd z (by decide)
    have t2v : t2 121 69 = 0 := by
      rcases b2 with ⟨-, z⟩ | ⟨z, -⟩
      · exact z
      · exact absurd z (by decide)
    obtain ⟨r, s', t', f1, f2, f3, f4, f5, f6, f7, f8, f9, f10⟩ := fin_ok h hs kc2 (KW_of hw (fun c k z _ => a3 c k (by omega) (by omega))) (fun i hi => by rw [a3 93 i (by omega) (by omega)]; exact hO i hi) (fun x hx => by
      obtain ⟨y1, y2, y3⟩ := hk x hx
      exact ⟨fun r r1 r2 => by rw [a3 94 r (by omega) (by omega), b3 216 r (by omega) (by omega)]; exact y1 r r1 r2, by rw [a3 93 _ (by omega) (by omega)]; exact y2, fun k k1 k2 => by rw [b3 214 k (by omega) (by omega)]; exact y3 k k1 k2⟩) (fun x hx r r1 r2 => by
      obtain ⟨y1, y2⟩ := hL x hx r r1 r2
      exact ⟨y1, fun l l1 l2 => ⟨LKC_of (y2 l l1 l2).1 (fun c' q => a3 c' l (by omega) (by omega)), (y2 l l1 l2).2⟩⟩) kr2 (fun c hc' => by
      have e : wPt (plT F P s0 t0 C O Q R E I s2 (fun _ _ => 0)) = wPt q0 := by rw [hq0]; rfl
      rw [e]
      exact nz C.length (by rw [← hZ]; exact Z0) c hc') s2v t2v ⟨by rw [a3 108 18 (by omega) (by omega)]; exact hb.1, by rw [b3 121 152 (by omega) (by omega)]; exact hb.2.1⟩ (fun c hc' => by rw [b3 220 c (by omega) (by omega), b3 221 c (by omega) (by omega)]; exact hR c hc') hE
    refine ⟨r, s', t', f1, f2, f3, f4, f5, f6, fun c k c1 c2 c3 => by rw [f7 c k c1 (by omega) c3]; exact frS c k c1 c2 c3, fun c k c1 c2 => by rw [f8 c k c1 c2]; exact frT c k c1 c2, by rw [f9]; exact b3 121 1 (by omega) (by omega), by rw [f10]; exact a3 0 1 (by omega) (by omega)⟩
  · have lt : kMn Z < 100000 := by have := kMn_le Z; omega
    obtain ⟨f, u, g1, g2, g3, g4, -⟩ := flt_ok h.1 kc2.1 a2 b2 rfl lt
    have pu := (tkP h.1 g2).2.2
    refine ⟨f, _, _, g3, g4, g1, ⟨by rw [up_same, up_same], by rw [up_same]; exact ⟨by omega, by omega⟩⟩, Or.inl ⟨by rw [up_ne (by omega), a3 108 18 (by omega) (by omega)]; exact hb.1, by rw [up_ne (by omega), b3 121 152 (by omega) (by omega)]; exact hb.2.1, by rw [up_ne (by omega), b3 121 174 (by omega) (by omega)]; exact hb.2.2.1, by rw [up_ne (by omega), b3 121 174 (by omega) (by omega)]; exact hb.2.2.2⟩, fun c hc' => ?_, fun c k c1 c2 c3 => by rw [up_ne (by omega)]; exact frS c k c1 c2 c3, fun c k c1 c2 => by rw [up_ne (by omega)]; exact frT c k c1 c2, by rw [up_ne (by omega)]; exact b3 121 1 (by omega) (by omega), by rw [up_ne (by omega)]; exact a3 0 1 (by omega) (by omega)⟩
    rw [up_ne (by omega), up_ne (by omega), b3 220 c (by omega) (by omega), b3 221 c (by omega) (by omega)]
    exact hR c hc'
end CMl
