/-! chips: the board is built by both -/
section CMk
variable {F : Nat → Int} {n N : Nat} {P : Nat → Nat} {s0 t0 s t s' t' : iS} {C : List chR} {O E I : List Nat} {Q : List (Nat × Int)} {R L : List (Nat × Nat)} {c b i j k r l m : Nat} {f : Nat → Nat → Nat} {p : Nat → Nat → Nat}
theorem sW_sh {f : Nat → Nat} {a : Nat} : ∀ m, sW (fun k => f (a + k)) 0 m = sW f a m
  | 0 => rfl
  | m + 1 => by
    rw [sW_s, sW_s, sW_sh m, Nat.zero_add]
def QHr (t : iS) : Prop := ∀ c, c < 16 → (0 ≤ t 220 c ∧ t 220 c ≤ 1000000) ∧ 0 ≤ t 221 c ∧ t 221 c ≤ 1000000
theorem CKD_t (h : CKD F P s0 t0 C O Q R L E I C.length s t) (ht : ∀ c k, c = 214 ∨ c = 216 → t' c k = t c k) : CKD F P s0 t0 C O Q R L E I C.length s t' := fun x hx => by
  obtain ⟨a1, a2, a3⟩ := h x hx
  exact ⟨fun r r1 r2 => by rw [ht 216 r (by omega)]; exact a1 r r1 r2, a2, fun k k1 k2 => by rw [ht 214 k (by omega)]; exact a3 k k1 k2⟩
/-- the board stands if its rows stand -/
theorem QBd_cg {T : Nat} (h : QBd T s t) (hs : ∀ c k, c = 72 ∨ c = 76 ∨ c = 77 ∨ c = 91 ∨ (108 ≤ c ∧ c ≤ 117) → s' c k = s c k) (ht : ∀ c k, (c = 121 ∧ (k = 122 ∨ 152 ≤ k)) ∨ c = 196 ∨ c = 197 ∨ c = 199 ∨ (222 ≤ c ∧ c ≤ 230) → t' c k = t c k) : QBd T s' t' := by
  have rs : ∀ c, c = 72 ∨ c = 76 ∨ c = 77 ∨ c = 91 ∨ (108 ≤ c ∧ c ≤ 117) → s' c = s c := fun c hc => funext fun k => hs c k hc
  have rt : ∀ c, c = 196 ∨ c = 197 ∨ c = 199 ∨ (222 ≤ c ∧ c ≤ 230) → t' c = t c := fun c hc => funext fun k => ht c k (by omega)
  rcases h with ⟨a1, a2, a3, a4⟩ | ⟨n, m, nin, nout, g, d, ob, wd, lc, pf, pf', O, O', hB⟩
  · exact Or.inl ⟨by rw [hs 108 18 (by omega)]; exact a1, by rw [ht 121 152 (by omega)]; exact a2, by rw [ht 121 174 (by omega)]; exact a3, by rw [ht 121 174 (by omega)]; exact a4⟩
  · obtain ⟨h1, h2, h3, h4, h5, h6, h7⟩ := hB
    refine Or.inr ⟨n, m, nin, nout, g, d, ob, wd, lc, pf, pf', O, O', BSt_of h1 ⟨hs 108 14 (by omega), rs 113 (by omega), rs 114 (by omega)⟩ ⟨ht 121 161 (by omega), ht 121 158 (by omega), fun c c1 c2 => rt c (by omega)⟩, PNs_of h2 ⟨hs 72 2 (by omega), rs 76 (by omega), rs 77 (by omega), rs 91 (by omega)⟩ ⟨ht 121 122 (by omega), ht 121 174 (by omega), rt 196 (by omega), rt 197 (by omega), rt 199 (by omega)⟩, ORd_of h3 ⟨hs 108 16 (by omega), rs 113 (by omega), rs 114 (by omega), rs 116 (by omega), rs 117 (by omega)⟩ ⟨ht 121 166 (by omega), fun c c1 c2 => rt c (by omega)⟩, ?_, ?_, ⟨by rw [hs 108 18 (by omega)]; exact h6.1, by rw [ht 121 152 (by omega)]; exact h6.2⟩, by rw [hs 108 17 (by omega), ht 121 173 (by omega)]; exact h7⟩
    · unfold VAL at h4 ⊢
      rw [rs 112 (by omega), rt 223 (by omega), rt 230 (by omega)]
      exact h4
    · intro k i k1 i1
      obtain ⟨m', b, a1, a2⟩ := h5 k i k1 i1
      refine ⟨m', b, TRr_of (rt 222 (by omega)) (rt 223 (by omega)) _ _ a1, ?_⟩
      rw [hs 115 _ (by omega)]
      unfold SGr at a2 ⊢
      rw [rt 223 (by omega)]
      exact a2
/-- a fault behind the reading -/
theorem x97_f {u : Nat} {f : Int} (h : TKR 1 F n N P s0 t0) (hs : SC s0 s) (h13 : s 2 13 = f) (h14 : s 2 14 = (u : Int)) (hu : u < N) : x_chips_97 s = some (f, up s 0 2 (P u : Int)) := by
  unfold x_chips_97
  rw [h14, cPo h hs hu, bq, lt_eq, up_ne (show ¬ (2 = 0 ∧ 13 = 2) by omega), h13]
theorem x97_0 (h13 : s 2 13 = 0) (h14 : s 2 14 = -1) : x_chips_97 s = some (0, up s 0 2 (-1)) := by
  unfold x_chips_97 tok_placeOf
  rw [h14, gr (by omega), if_pos (by omega), bq, lt_eq, up_ne (show ¬ (2 = 0 ∧ 13 = 2) by omega), h13]
theorem m171_f : m_chips_171 t = some (6, up (up (up t 121 69 6) 121 70 (t 121 3)) 121 4 (t 121 3)) := by
  unfold m_chips_171
  rw [lt_eq, lt_eq]
  unfold m_chips_185
  have z1 : up t 121 69 6 121 3 = t 121 3 := up_ne (by omega)
  rw [lt_eq, z1]
  have z2 : up (up t 121 69 6) 121 70 (t 121 3) 121 70 = t 121 3 := up_same ..
  rw [z2]
  have z3 : up (up (up t 121 69 6) 121 70 (t 121 3)) 121 4 (t 121 3) 121 69 = 6 := by rw [up_ne (by omega), up_ne (by omega), up_same]
  rw [z3, gr (by omega), if_neg (by omega)]
theorem fin_ok (h : TKH F n N P s0 t0) (hs : KHS F P s0 t0 N C O Q R L E I) (hc : KC F P s0 t0 C O Q R L E s) (hw : KW s0 C Q R I Q.length s) (hO : KO s0 C Q R I 0 s) (hk : CKD F P s0 t0 C O Q R L E I C.length s t) (hL : LKA F P s0 t0 C O Q R L E I C.length s) (hr : KR s0 t0 C Q R L I t) (hn : ∀ c, c < C.length → wSt (wPt (plT F P s0 t0 C O Q R E I s (fun _ _ => 0))) C.length c c = false) (hS : s 2 13 = 0 ∧ s 2 14 = -1) (h69 : t 121 69 = 0) (hB : s 108 18 = 0 ∧ t 121 152 = 0) (hR : QHr t) (hE : s0 9 (N - 1) = 0) : ∃ r s' t', x_chips_59 s = some (r, s') ∧ m_chips_93 t = some (r, t') ∧ rg r ∧ (s' 0 2 = t' 121 4 ∧ rg (s' 0 2)) ∧ QBd 0 s' t' ∧ QHr t' ∧ (∀ c k, 1 ≤ c → c ≤ 107 → c ≠ 2 → s' c k = s c k) ∧ (∀ c k, c < 195 → c ≠ 121 → t' c k = t c k) ∧ t' 121 1 = t 121 1 ∧ s' 0 1 = s 0 1 := by
  have bd' := KHS_bd hs
  have hN := N2001 h.1
  have hN1 := h.1.2.1
  have n4000 := h.2.2.1
  obtain ⟨q0, hq0⟩ : ∃ q0, q0 = plT F P s0 t0 C O Q R E I s (fun _ _ => 0) := ⟨_, rfl⟩
  obtain ⟨p, hp⟩ : ∃ p, p = plT F P s0 t0 C O Q R E I s (plR q0) := ⟨_, rfl⟩
  rw [← hq0] at hn
  have w0 : WF0 q0 := W0_f hs (fun x hx r r1 r2 => (hL x hx r r1 r2).1) hq0
  have q10 : q0 10 0 = C.length := by rw [hq0]; rfl
  have p10 : p 10 0 = C.length := by rw [hp]; rfl
  obtain ⟨pg1, pg2, pg3⟩ := pl_f h hs hO hk hq0
  obtain ⟨-, pf, -⟩ := pl_f h hs hO hk hp
  obtain ⟨WF, rkn, rk0, rk1⟩ := WFp_mk (p := q0) (q := p) w0 (fun c hc => by rw [q10] at hc ⊢; exact hn c hc) (fun k k1 k2 k3 => by
    rw [hp, hq0]
    funext x
    unfold plT
    split <;> first | rfl | omega) (by rw [hp]; rfl) (by rw [hp]; rfl) (by rw [hp]; rfl) pg1 (fun i hi => by rw [q10] at hi; have := pg3 i hi; omega) (fun c r hc' h1 h2 => by
    rw [q10] at hc'
    have e0 : ∀ c, q0 0 c = (hAt C Q R I c).2.2.1 := fun c => by rw [hq0]; rfl
    have e2 : q0 2 r = (R.getD r (0, 0)).2 := by rw [hq0]; rfl
    have e3 : q0 3 r = E.getD r 0 := by rw [hq0]; rfl
    rw [e0] at h1 h2
    rw [e2, e3]
    have rq := (KHS_q hs (c := c + 1) (by omega)).2.1
    have le := LK_e hs (r := r) (by omega)
    refine ⟨le.1, by omega, fun l l1 l2 => (lk_v h hs hc hw hO hk hL hc' ⟨h1, h2⟩ ⟨l1, l2⟩ hq0).1⟩)
  have hph := PH_f h hs hc hw hO hk hL hp
  have plc := PLC_f h hs hc hw hO hk hL hp
  have e72 : s 72 2 = ((2 + p 10 0 : Nat) : Int) := by rw [p10, hc.2.1.1.1.1]; show ((tabC F P t0 C).length : Int) = _; rw [tabC_len]
  have e122 : t 121 122 = (C.length : Int) := hr.2.1.1.1
  obtain ⟨c0, hc0⟩ : ∃ c0, c0 + 1 = C.length := ⟨C.length - 1, by omega⟩
  have cl : c0 < C.length := by omega
  have p4b : ∀ i, i < 2 + p 10 0 → p 4 i ≤ 100000 := fun i hi => by
    have e4 : p 4 i = q0 4 i := by rw [hp, hq0]; rfl
    rw [p10] at hi
    rw [e4]
    have := pg3 i hi
    omega
  -- counts
  have st := hc.2.2.1
  obtain ⟨s1, a1, a2, a3⟩ := c_count WF plc e72 ⟨st.2.2.2.2.1, st.2.2.2.2.2, by rw [hp]; show (hAt C Q R I 0).2.2.1 = 0; rw [KHS_0 hs]⟩ ⟨rk0, rk1⟩ p4b
  obtain ⟨t3, ht3⟩ : ∃ t3, t3 = up t 121 174 (t 121 122 - 1) := ⟨_, rfl⟩
  have n3 : ∀ c' x, ¬ (c' = 121 ∧ x = 174) → t3 c' x = t c' x := fun c' x z => by rw [ht3, up_ne z]
  have kr3 : KR s0 t0 C Q R L I t3 := KR_of hr (fun c' x z => n3 c' x (by omega))
  have hk3 : CKD F P s0 t0 C O Q R L E I C.length s t3 := CKD_t hk (fun c' x z => n3 c' x (by omega))
  obtain ⟨t4, b1, b2, b3, b4⟩ := r_count WF (PLR_f hs hk3 hL kr3 hp) (HB_f h hs hO hk3 kr3 hp) (by rw [n3 121 122 (by omega), p10]; exact e122) ⟨rk0, rk1⟩ (fun c hc => by rw [p10]; rw [p10, ← q10] at hc; rw [← q10]; exact rkn c hc) p4b (fun c hc => by rw [n3 220 c (by omega), n3 221 c (by omega)]; exact hR c hc)
  have n4 : ∀ c' x, c' ≠ 220 → c' ≠ 221 → ¬ (c' = 121 ∧ x = 174) → t4 c' x = t c' x := fun c' x z1 z2 z3 => by rw [b4 c' x (by omega)]; exact n3 c' x z3
  have kr4 : KR s0 t0 C Q R L I t4 := KR_of hr (fun c' x z => n4 c' x (by omega) (by omega) (by omega))
  have hk4 : CKD F P s0 t0 C O Q R L E I C.length s t4 := CKD_t hk (fun c' x z => n4 c' x (by omega) (by omega) (by omega))
  have t174 : t4 121 174 = (c0 : Int) := by rw [b4 121 174 (by omega), ht3, up_same, e122]; omega
  obtain ⟨g1, g2⟩ := a2 (2 + c0) (by rw [p10]; omega)
  obtain ⟨g3, g4⟩ := b2 c0 (by rw [p10]; exact cl)
  have lst : brd_lastChip s1 = some (((2 + c0 : Nat) : Int), s1) := by
    unfold brd_lastChip
    rw [a3 72 2 (by omega) (by omega), e72, p10, show ((2 + C.length : Nat) : Int) - 1 = ((2 + c0 : Nat) : Int) by omega]
  have cmg := l_cm (x := t4 220 c0) (y := 1500) (by have := b3 c0 (by omega); omega) (by omega)
  have cmb := l_cm (x := t4 221 c0) (y := 40000) (by have := b3 c0 (by omega); omega) (by omega)
  have m93 : m_chips_93 t = (if 0 < (l_cmp (t4 220 c0) 1500) then m_chips_150 t4 else gd (rg (l_cmp (t4 221 c0) 40000)) (if 0 < (l_cmp (t4 221 c0) 40000) then m_chips_150 t4 else m_chips_151 1 t4)) := by
    unfold m_chips_93
    rw [h69, gr (by omega), if_pos rfl, lt_eq, ← ht3, b1, bq, t174, gd_pos (by omega), Int.toNat_natCast, gr (by omega)]
  -- the end of the text
  obtain ⟨P1, P2, P3⟩ := tkP h.1 (show N - 1 < N by omega)
  have size : t 121 3 = (P (N - 1) : Int) := by
    rw [hr.1.2.2.2.2.2, h.2.1]
    rcases h.1.2.2.2.2.2.2.2.2 with z | z | z
    · rw [z.2.2]
    · omega
    · omega
  have e28 : s 2 8 = (N : Int) := by rw [hc.1.2.2.2.2.2.2.1]; exact h.1.2.2.2.1
  have bfr : ∀ (s2 : iS) (r : Int), brd_build s = some (r, s2) → ∀ c k, c ≤ 107 → s2 c k = s c k := fun s2 r hb1 c k hc' => by
    have md1 := fbrd_build _ _ hb1
    have e : s2 c = s c := md_row md1 (c := c) (fun q => by
      have : ∀ x ∈ L_brd_build, 108 < x := by decide
      have := this c q
      omega) (fun q => by
      obtain ⟨z, hz, e⟩ := List.mem_map.mp q
      have : ∀ x ∈ G_brd_build, x.1 = 108 := by decide
      have := this z hz
      omega)
    rw [e]
  -- a fault of the board
  have fault : ∀ s2 t2 : iS, brd_build s = some (0, s2) → m_chips_93 t = some (6, t2) → s2 108 18 = 0 → t2 121 152 = 0 ∧ t2 121 174 = (c0 : Int) → t2 121 4 = t 121 3 → QHr t2 → (∀ c k, c < 195 → c ≠ 121 → t2 c k = t c k) → t2 121 1 = t 121 1 → ∃ r s' t', x_chips_59 s = some (r, s') ∧ m_chips_93 t = some (r, t') ∧ rg r ∧ (s' 0 2 = t' 121 4 ∧ rg (s' 0 2)) ∧ QBd 0 s' t' ∧ QHr t' ∧ (∀ c k, 1 ≤ c → c ≤ 107 → c ≠ 2 → s' c k = s c k) ∧ (∀ c k, c < 195 → c ≠ 121 → t' c k = t c k) ∧ t' 121 1 = t 121 1 ∧ s' 0 1 = s 0 1 := by
    intro s2 t2 hb1 hm1 h18 h152 h4 hq hz1 hz2
    have md1 := fbrd_build _ _ hb1
    obtain ⟨k1, k2⟩ := chk_ok (D := [1, 9, 10, 11, 12, 13, 42, 43]) (E := [(2, 8), (2, 9), (2, 13), (2, 14)]) rfl md1
    have f13 : s2 2 13 = 0 := (k2 (2, 13) (by decide)).trans hS.1
    have f8 : s2 2 8 = (N : Int) := (k2 (2, 8) (by decide)).trans e28
    have sc2 : SC s0 s2 := by
      obtain ⟨z1, z2, z3, z4, z5, z6, z7, z8, z9, z10⟩ := hc.1
      exact ⟨(k1 1 (by decide)).trans z1, (k1 9 (by decide)).trans z2, (k1 10 (by decide)).trans z3, (k1 11 (by decide)).trans z4, (k1 12 (by decide)).trans z5, (k1 13 (by decide)).trans z6, (k2 (2, 8) (by decide)).trans z7, (k2 (2, 9) (by decide)).trans z8, (k1 42 (by decide)).trans z9, (k1 43 (by decide)).trans z10⟩
    have sc3 : SC s0 (up (up s2 2 13 6) 2 14 ((N - 1 : Nat) : Int)) := SC_up (SC_up sc2 (by omega)) (by omega)
    have x9 := x97_f (u := N - 1) (f := 6) h.1 sc3 (by rw [up_ne (by omega), up_same]) (up_same ..) (by omega)
    refine ⟨6, up (up (up s2 2 13 6) 2 14 ((N - 1 : Nat) : Int)) 0 2 (P (N - 1) : Int), t2, ?_, hm1, by decide, ⟨by rw [up_same, h4, size], by rw [up_same]; exact ⟨by omega, by omega⟩⟩, Or.inl ⟨by rw [up_ne (by omega), up_ne (by omega), up_ne (by omega)]; exact h18, h152.1, by omega, by omega⟩, hq, fun c k c1 c2 c3 => by rw [up_ne (by omega), up_ne (by omega), up_ne (by omega)]; exact bfr s2 _ hb1 c k (by omega), hz1, hz2, by rw [up_ne (by omega), up_ne (by omega), up_ne (by omega)]; exact bfr s2 _ hb1 0 1 (by omega)⟩
    unfold x_chips_59
    rw [hS.1, gr (by omega), if_pos rfl, hb1, bq, gr (by omega), if_pos rfl, f8, show (N : Int) - 1 = ((N - 1 : Nat) : Int) by omega]
    unfold tok_blame tok_blame_31
    rw [f13, gr (by omega), if_pos rfl, lt_eq, lt_eq, bq]
    exact x9
  have cap1 : ∀ x, capN x ≤ 1500 ↔ x ≤ 1500 := fun x => by unfold capN; omega
  have cap2 : ∀ x, capN x ≤ 40000 ↔ x ≤ 40000 := fun x => by unfold capN; omega
  have i1 := cap1 (p 12 (2 + c0))
  have i2 := cap2 (p 4 (2 + c0) + p 11 (2 + c0))
  have cb1 : capN (p 12 (2 + c0)) ≤ 1000000 := by unfold capN; omega
  have cb2 : capN (p 4 (2 + c0) + p 11 (2 + c0)) ≤ 1000000 := by unfold capN; omega
  have bld : brd_build s = (if 1500 < (s1 109 (2 + c0)) then some (0, s1) else gd (rg (s1 110 (2 + c0))) (if (s1 110 (2 + c0)) ≤ 40000 then bd (brd_wire ((2 + c0 : Nat) : Int) s1) (fun _ s8 => btl s8) else some (0, s1))) := by
    unfold brd_build btl
    rw [a1, bq, lst, bq, gd_pos (by omega), Int.toNat_natCast, gr (by omega)]
  have big : m_chips_93 t = m_chips_171 t4 → brd_build s = some (0, s1) → ∃ r s' t', x_chips_59 s = some (r, s') ∧ m_chips_93 t = some (r, t') ∧ rg r ∧ (s' 0 2 = t' 121 4 ∧ rg (s' 0 2)) ∧ QBd 0 s' t' ∧ QHr t' ∧ (∀ c k, 1 ≤ c → c ≤ 107 → c ≠ 2 → s' c k = s c k) ∧ (∀ c k, c < 195 → c ≠ 121 → t' c k = t c k) ∧ t' 121 1 = t 121 1 ∧ s' 0 1 = s 0 1 := by
    intro hm hb
    rw [m171_f] at hm
    refine fault s1 _ hb hm (by rw [a3 108 18 (by omega) (by omega)]; exact hB.1) ⟨by rw [up_ne (by omega), up_ne (by omega), up_ne (by omega), n4 121 152 (by omega) (by omega) (by omega)]; exact hB.2, by rw [up_ne (by omega), up_ne (by omega), up_ne (by omega)]; exact t174⟩ (by rw [up_same]; exact n4 121 3 (by omega) (by omega) (by omega)) (fun c hc => ?_) (fun c k c1 c2 => by rw [up_ne (by omega), up_ne (by omega), up_ne (by omega)]; exact n4 c k (by omega) (by omega) (by omega)) (by rw [up_ne (by omega), up_ne (by omega), up_ne (by omega)]; exact n4 121 1 (by omega) (by omega) (by omega))
    rw [up_ne (by omega), up_ne (by omega), up_ne (by omega), up_ne (by omega), up_ne (by omega), up_ne (by omega)]
    exact b3 c hc
  have m150 : m_chips_150 t4 = m_chips_171 t4 := by
    unfold m_chips_150 m_chips_151 m_chips_160
    rw [gr (by omega), if_pos rfl, gr (by omega), if_pos rfl]
  by_cases y1 : p 12 (2 + c0) ≤ 1500
  case neg =>
    refine big (by rw [m93, if_pos (by omega), m150]) (by rw [bld, if_pos (by omega)])
  by_cases y2 : p 4 (2 + c0) + p 11 (2 + c0) ≤ 40000
  case neg =>
    refine big (by rw [m93, if_neg (by omega), gr (by omega), if_pos (by omega), m150]) (by rw [bld, if_neg (by omega), gr (by omega), if_neg (by omega)])
  -- it fits
  obtain ⟨p1c, p2c⟩ := paI_c (Q := Q) (R := R) (I := I) cl
  have pm := paI_m hs (show 2 + c0 < 2 + C.length by omega)
  obtain ⟨pf0, hpf⟩ : ∃ pf0, pf0 = paI C Q R I (2 + c0) := ⟨_, rfl⟩
  obtain ⟨nin, hnin⟩ : ∃ nin, nin = ooI O (2 + c0) - paI C Q R I (2 + c0) := ⟨_, rfl⟩
  obtain ⟨nout, hnout⟩ : ∃ nout, nout = paI C Q R I (2 + c0 + 1) - ooI O (2 + c0) := ⟨_, rfl⟩
  obtain ⟨wd, hwd⟩ : ∃ wd : Nat → Nat, wd = fun k => pwN s0 Q (pf0 + k) := ⟨_, rfl⟩
  have swd : ∀ m, sW wd 0 m = sW (pwN s0 Q) pf0 m := fun m => by rw [hwd]; exact sW_sh m
  have wdk : ∀ k, wd k = pwN s0 Q (pf0 + k) := fun k => by rw [hwd]
  have r76 := (KC_c (I := I) hc (by omega) (show c0 ≤ C.length by omega)).1
  have r76' := (KC_c (I := I) hc (by omega) (show c0 + 1 ≤ C.length by omega)).1
  have r77 := e77 hs hc (show 2 + c0 < 2 + C.length by omega)
  have q1 : s1 76 (2 + c0) = (pf0 : Int) := by rw [a3 76 _ (by omega) (by omega), r76]; omega
  have q2 : s1 77 (2 + c0) = (pf0 : Int) + nin := by rw [a3 77 _ (by omega) (by omega), r77]; omega
  have q3 : s1 76 (2 + c0 + 1) = (pf0 : Int) + nin + nout := by rw [a3 76 _ (by omega) (by omega), show 2 + c0 + 1 = 2 + (c0 + 1) by omega, r76']; omega
  have q4 : ∀ k, k < nin + nout → s1 91 (pf0 + k) = (wd k : Int) := fun k hk' => by
    rw [a3 91 _ (by omega) (by omega), hw.1 _ (by omega), wdk]
    exact pwN_f.2.2
  have q5 : ∀ k, k < nin + nout → s1 92 (pf0 + k) = ((sW wd 0 k : Nat) : Int) := fun k hk' => by
    rw [a3 92 _ (by omega) (by omega), hw.2 (2 + c0) (pf0 + k) (by omega) (by omega) (by omega) (by omega), swd]
    unfold ofI
    rw [← hpf, show pf0 + k - pf0 = k by omega]
  have q6 : ∀ k, k < nin + nout → 1 ≤ wd k ∧ wd k ≤ 16 := fun k _ => by rw [wdk]; exact ⟨pwN_f.1, pwN_f.2.1⟩
  obtain ⟨s8, t8, n8, m8, g8, d8, ob8, w1, w2, w3, w4, w5, w6, w7⟩ := wire_ok (p := p) (ph := phT F P s0 t0 C O Q R L E I) (s := s1) (t := t4) (c := c0) (pf := pf0) (nin := nin) (nout := nout) (wd := wd) WF hph (PLC_of plc (fun c' x z => a3 c' x (by omega) (by omega))) (HC_f h hs hc hw hO hk4 hL kr4 hp) (HO_f h hs hO hk4 kr4 hp) (PLR_f hs hk4 hL kr4 hp) (by rw [p10]; exact hc0) q1 q2 q3 q4 q5 q6 (by omega) (by
    have : p 5 (2 + c0) = ofI s0 C Q R I (2 + c0) (ooI O (2 + c0)) := by rw [hp]; rfl
    rw [this, swd]
    unfold ofI
    rw [← hpf, hnin, ← hpf]) (by
    rw [(pf c0 cl).2, swd]
    unfold bCh ofI
    rw [← hpf, show nin + nout = paI C Q R I (2 + c0 + 1) - pf0 by omega]) y2 y1 t174
  have f8 : ∀ c' x, c' ≠ 109 → c' ≠ 110 → c' ≠ 111 → c' ≠ 113 → c' ≠ 114 → c' ≠ 115 → ¬ (c' = 108 ∧ (x = 14 ∨ x = 15)) → s8 c' x = s c' x := fun c' x z1 z2 z3 z4 z5 z6 z7 => by rw [w6 c' x z3 z4 z5 z6 z7]; exact a3 c' x z1 z2
  have h8 : ∀ c' x, c' < 220 → ¬ (c' = 121 ∧ (x = 158 ∨ x = 161 ∨ x = 170 ∨ x = 174)) → t8 c' x = t c' x := fun c' x z1 z2 => by rw [w7 c' x (by omega) (by omega)]; exact n4 c' x (by omega) (by omega) (by omega)
  have t8_174 : t8 121 174 = (c0 : Int) := by rw [w7 121 174 (by omega) (by omega)]; exact t174
  obtain ⟨r196, -, -⟩ := KR_c hr (c := c0) (by omega)
  obtain ⟨r196', -, -⟩ := KR_c hr (c := c0 + 1) (by omega)
  obtain ⟨-, ⟨y3, y4, y5, y6⟩, y7, -⟩ := KHS_c hs cl
  have oo : ooI O (2 + c0) = 5 + O.getD c0 0 := by unfold ooI; rw [if_neg (by omega), if_neg (by omega), show 2 + c0 - 2 = c0 by omega]
  have pns : PNs nin nout wd c0 pf0 (hAt C Q R I c0).2.1 s8 t8 := by
    refine ⟨⟨by rw [f8 72 2 (by omega) (by omega) (by omega) (by omega) (by omega) (by omega) (by omega), e72, p10]; omega, by rw [h8 121 122 (by omega) (by omega), e122]; omega, t8_174, by omega⟩, ⟨by rw [show c0 + 2 = 2 + c0 by omega, f8 76 _ (by omega) (by omega) (by omega) (by omega) (by omega) (by omega) (by omega), r76]; omega, by rw [show c0 + 2 = 2 + c0 by omega, f8 77 _ (by omega) (by omega) (by omega) (by omega) (by omega) (by omega) (by omega), r77]; omega, by rw [show c0 + 3 = 2 + (c0 + 1) by omega, f8 76 _ (by omega) (by omega) (by omega) (by omega) (by omega) (by omega) (by omega), r76']; omega⟩, ⟨by rw [h8 196 _ (by omega) (by omega), r196], by rw [h8 196 _ (by omega) (by omega), r196']; omega⟩, by omega, fun k hk' => ⟨q6 k hk', ?_, ?_, ?_⟩⟩
    · rw [f8 91 _ (by omega) (by omega) (by omega) (by omega) (by omega) (by omega) (by omega), ← a3 91 _ (by omega) (by omega)]
      exact q4 k hk'
    · have pr := (hr.2.1.2.1.2 ((hAt C Q R I c0).2.1 + k) (by omega)).2.2.1
      have pr2 := wdP_rg (s0 := s0) (j := (Q.getD ((hAt C Q R I c0).2.1 + k) (0, 0)).1)
      rw [h8 199 _ (by omega) (by omega), pr, wdk]
      unfold pwN pwI
      rw [if_neg (by omega), show pf0 + k - 5 = (hAt C Q R I c0).2.1 + k by omega]
      omega
    · have pr := (hr.2.1.2.1.2 ((hAt C Q R I c0).2.1 + k) (by omega)).2.1
      rw [h8 197 _ (by omega) (by omega), pr, (y7 _ (by omega) (by omega)).2]
      by_cases z : (hAt C Q R I c0).2.1 + k < O.getD c0 0
      · rw [if_pos z, if_pos (by omega)]
      · rw [if_neg z, if_neg (by omega)]
  obtain ⟨r9, s9, t9, v1, v2, v3, v4⟩ := build_tail w3 w5 pns w4 (by rw [h8 121 69 (by omega) (by omega)]; exact h69)
  have bb : brd_build s = some (r9, s9) := by rw [bld, if_neg (by omega), gr (by omega), if_pos (by omega), w1, bq]; exact v1
  have mm : m_chips_93 t = m_chips_160 1 t8 := by
    rw [m93, if_neg (by omega), gr (by omega), if_neg (by omega)]
    unfold m_chips_151
    rw [gr (by omega), if_neg (by omega), w2, bq]
  have qh : QHr t9 := fun c hc => by
    rw [v3 220 c (by omega) (by omega), v3 221 c (by omega) (by omega), w7 220 c (by omega) (by omega), w7 221 c (by omega) (by omega)]
    exact b3 c hc
  have z9 : ∀ c k, c < 195 → c ≠ 121 → t9 c k = t c k := fun c k c1 c2 => by rw [v3 c k (by omega) c2]; exact h8 c k (by omega) (by omega)
  have z91 : t9 121 1 = t 121 1 := by rw [v4]; exact h8 121 1 (by omega) (by omega)
  rcases v2 with ⟨x1, x2, x3, x4⟩ | ⟨x1, x2, x3, x4, x5, x6⟩
  · have md1 := fbrd_build _ _ bb
    obtain ⟨k1, k2⟩ := chk_ok (D := []) (E := [(2, 13), (2, 14)]) rfl md1
    have z13 : s9 2 13 = 0 := (k2 (2, 13) (by decide)).trans hS.1
    have z14 : s9 2 14 = -1 := (k2 (2, 14) (by decide)).trans hS.2
    refine ⟨0, up s9 0 2 (-1), t9, ?_, by rw [mm, x2], by decide, ⟨by rw [up_same, x3], by rw [up_same]; decide⟩, QBd_cg x4 (fun c k z => by rw [up_ne (by omega)]) (fun _ _ _ => rfl), qh, fun c k c1 c2 c3 => by rw [up_ne (by omega)]; exact bfr s9 _ bb c k (by omega), z9, z91, by rw [up_ne (by omega)]; exact bfr s9 _ bb 0 1 (by omega)⟩
    unfold x_chips_59
    rw [hS.1, gr (by omega), if_pos rfl, bb, bq, x1, gr (by omega), if_neg (by omega)]
    exact x97_0 z13 z14
  · rw [x1] at bb
    exact fault s9 t9 bb (by rw [mm, x2]) x4 ⟨by rw [x5, h8 121 152 (by omega) (by omega)]; exact hB.2, by rw [x6]; exact t8_174⟩ (by rw [x3, h8 121 3 (by omega) (by omega)]) qh z9 z91
end CMk
