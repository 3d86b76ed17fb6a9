/-! chips: pins -/
section CHd
variable {F : Nat → Int} {n N : Nat} {P : Nat → Nat} {s0 t0 s t s' t' : iS} {p fp j : Nat} {C : List chR} {O I J : List Nat} {Q : List (Nat × Int)} {R L : List (Nat × Nat)} {o : Int} {c0 : chR}
theorem kd1 (h : TKR 1 F n N P s0 t0) (hp : p < N) : (t0 124 p = 1 ↔ s0 9 p = 3) ∧ (0 ≤ t0 124 p ∧ t0 124 p ≤ 7) ∧ (t0 124 p = 0 ↔ s0 9 p = 0) := by
  have k := tkK h hp
  rw [if_neg (by decide), if_neg (by decide)] at k
  refine ⟨⟨fun z => ?_, fun z => ?_⟩, ?_, fun z => ?_, fun z => ?_⟩ <;> omega
/-- the chip at hand is the last one -/
theorem c_last {A : List chR} {x : chR} : (A ++ [x]).getD A.length (0, 0, 0, 0) = x := by
  rw [gdR (Nat.le_refl _), Nat.sub_self]
  rfl
theorem h_pin (h : TKR 1 F n N P s0 t0) (ho : o = 0 ∨ o = 1) (hl : RLv F P s0 t0 N (C ++ [c0]) O Q R L I J p s t) (hb : bdL (C ++ [c0]) Q R L J) (hf : c0.2.1 ≤ Q.length ∧ Q.length ≤ c0.2.1 + 12) (hk : s0 9 p = 3) (hr : Q.length < c0.2.1 + 12) (h192 : Q.length < 192) : ∃ s1 t1, crd_readPin ((C.length + 2 : Nat) : Int) s = some (0, s1) ∧ ((m_pinList_2b o 1 t = m_pinList_192 o t1 ∧ t1 121 125 = (Q.length : Int) ∧ ∃ p1, p < p1 ∧ pOK s0 N p ∧ RLv F P s0 t0 N (C ++ [c0]) O (Q ++ [(p, o)]) R L I J p1 s1 (up t1 121 125 ((Q.length + 1 : Nat) : Int))) ∨ (m_pinList_2b o 1 t = some (.inr (.inr (.inr (.inl t1)))) ∧ RDd P s0 t0 N s1 t1)) := by
  have hN := N2001 h
  obtain ⟨a1, a2, a3, a4, a5, a6, a7⟩ := hl.1
  obtain ⟨zc, zr⟩ := RLv_sz hl hb
  obtain ⟨-, ⟨pc1, pc2⟩, ⟨pp1, pp2⟩, -⟩ := id hl
  obtain ⟨pc2, po⟩ := pc2
  obtain ⟨q1, q2⟩ := pp1
  obtain ⟨q3, q4⟩ := pp2
  have hp1 := nlast h a5 (by omega)
  have ll : (C ++ [c0]).length = C.length + 1 := by rw [List.length_append]; rfl
  have C16 : C.length + 1 ≤ 16 := by have := hb.1; omega
  have e76 : s 76 (C.length + 2) = 5 + (c0.2.1 : Int) := by
    have := (pc1.2 C.length (by omega)).2.1
    rw [c_last, Nat.add_comm 2] at this
    exact this
  have e196 : t 196 C.length = (c0.2.1 : Int) := by
    have := (pc2.2 C.length (by omega)).2.1
    rw [c_last] at this
    exact this
  have e122 : t 121 122 = (C.length : Int) + 1 := by rw [pc2.1, ll]; omega
  have lt5 : (cpN ++ Q.map (fun q => nmT F P t0 q.1)).length = 5 + Q.length := by
    rw [List.length_append, List.length_map]
    rfl
  have e79 : s 79 2 = 5 + (Q.length : Int) := by rw [q1.1, lt5]; omega
  -- the class adds the name
  obtain ⟨sa, hsa⟩ : ∃ sa, sa = up s 82 (5 + Q.length) (p : Int) := ⟨_, rfl⟩
  have fsa : ∀ c k, ¬ (c = 82 ∧ k = 5 + Q.length) → sa c k = s c k := fun c k z => by rw [hsa, up_ne z]
  have lva : LVh N s0 t0 p sa t := LVh_of hl.1 (fun c k z => fsa c k (by omega)) (fun _ _ _ => rfl)
  have tba : TB 79 80 81 (cpN ++ Q.map (fun q => nmT F P t0 q.1)) sa := TB_of q1 (funext fun k => fsa 79 k (by omega)) (funext fun k => fsa 80 k (by omega)) (funext fun k => fsa 81 k (by omega))
  obtain ⟨ad1, ad2⟩ := cAdc (c := 79) (a := 80) (b' := 81) (M := 197) h lva.1 a5 hk tba (by omega) (by rw [lt5]; omega) ⟨by omega, by omega, by omega⟩
  rw [lt5] at ad1 ad2
  obtain ⟨sb, hsb⟩ : ∃ sb, sb = nmad sa 79 80 81 (5 + Q.length) (nmT F P t0 p) := ⟨_, rfl⟩
  rw [← hsb] at ad1 ad2
  have fsb : ∀ c k, ¬ (c = 82 ∧ k = 5 + Q.length) → c ≠ 79 → c ≠ 80 → c ≠ 81 → sb c k = s c k := fun c k z1 z2 z3 z4 => by rw [hsb, nmad_ne (by omega) (by omega) (by omega), fsa c k z1]
  have b82 : sb 82 (5 + Q.length) = (p : Int) := by rw [hsb, nmad_ne (by omega) (by omega) (by omega), hsa, up_same]
  -- the reference's rows
  obtain ⟨ta, hta⟩ : ∃ ta, ta = up (up (up (up t 198 Q.length (p : Int)) 197 Q.length o) 200 Q.length (-1)) 199 Q.length 1 := ⟨_, rfl⟩
  have fta : ∀ c k, ¬ (197 ≤ c ∧ c ≤ 200 ∧ k = Q.length) → ta c k = t c k := fun c k z => by rw [hta, up_ne (by omega), up_ne (by omega), up_ne (by omega), up_ne (by omega)]
  have lvb : LVh N s0 t0 p sb ta := LVh_of hl.1 (fun c k z => fsb c k (by omega) (by omega) (by omega) (by omega)) (fun c k z => fta c k (by omega))
  have lvc := LVh_nx lvb hp1
  have hcl : crd_readPin ((C.length + 2 : Nat) : Int) s = (if s0 9 (p + 1) = 91 then bd (tok_expect 4 (up (up sb 2 12 ((p + 1 : Nat) : Int)) 2 12 ((p + 2 : Nat) : Int))) (fun _ s17 => bd (tok_expect 93 s17) (fun _ s18 => some (0, s18))) else some (0, up sb 2 12 ((p + 1 : Nat) : Int))) := by
    unfold crd_readPin
    rw [cK h a1 a3 a5, bq, gr (by omega), if_pos hk, gd_pos (by omega), Int.toNat_natCast, e76, e79, gr (by omega), if_neg (by omega), gr (by omega), if_pos (by omega), gd_pos (by omega), show (5 + (Q.length : Int)).toNat = 5 + Q.length by omega, lt_eq, a3, ← hsa, fsa 2 12 (by omega), a3, ad1, bq, lt_eq, show sb 2 12 = (p : Int) from lvb.2.2.1, show (p : Int) + 1 = ((p + 1 : Nat) : Int) by omega, cK h lvc.1 lvc.2.2.1 hp1, bq, gr (by have := kRg h hp1; omega)]
    by_cases c : s0 9 (p + 1) = 91
    · rw [if_pos c, if_pos c, lt_eq, up_same, show ((p + 1 : Nat) : Int) + 1 = ((p + 2 : Nat) : Int) by omega]
    · rw [if_neg c, if_neg c]
  have hrf : m_pinList_2b o 1 t = (if s0 9 (p + 1) = 91 then bd (m_needNumber (up (up ta 121 10 ((p + 1 : Nat) : Int)) 121 10 ((p + 2 : Nat) : Int))) (fun r26 s26 => lt' (up s26 200 Q.length r26) (fun s28 => bd (m_needSign 93 s28) (fun _ s29 => gd (rg (s29 121 11)) (if (s29 121 11) ≤ 0 then gd (0 ≤ (s29 121 125) ∧ (s29 121 125) < 200) (gd (0 ≤ (s29 200 (s29 121 125).toNat) ∧ (s29 200 (s29 121 125).toNat) < 2002) (gd (rg (s29 127 (s29 200 (s29 121 125).toNat).toNat)) (if (s29 127 (s29 200 (s29 121 125).toNat).toNat) < 1 then m_pinList_186 o (s29 121 125) s29 else if (s29 127 (s29 200 (s29 121 125).toNat).toNat) ≤ 16 then m_pinList_191 o (s29 127 (s29 200 (s29 121 125).toNat).toNat) (s29 121 125) s29 else m_pinList_186 o (s29 121 125) s29))) else some (.inr (.inr (.inr (.inl s29)))))))) else m_pinList_192 o (up ta 121 10 ((p + 1 : Nat) : Int))) := by
    have x0 : t 121 125 = (Q.length : Int) := q3
    have x1 : ∀ k v, up t 198 k v 121 125 = (Q.length : Int) := fun k v => by rw [up_ne (by omega)]; exact x0
    have x2 : ∀ k v k' v', up (up t 198 k v) 197 k' v' 121 125 = (Q.length : Int) := fun k v k' v' => by rw [up_ne (by omega)]; exact x1 k v
    have x3 : ∀ k v k' v' k2 v2, up (up (up t 198 k v) 197 k' v') 200 k2 v2 121 125 = (Q.length : Int) := fun k v k' v' k2 v2 => by rw [up_ne (by omega)]; exact x2 k v k' v'
    unfold m_pinList_2b
    rw [gr (by omega), if_neg (by omega), a7, gr (by omega), if_pos rfl, a4, gd_pos (by omega), Int.toNat_natCast, a2.2.1, gr (by have := (kd1 h a5).2.1; omega), if_pos ((kd1 h a5).1.mpr hk), e122, gd_pos (by omega), show ((C.length : Int) + 1 - 1).toNat = C.length by omega, e196, x0]
    unfold m_room
    rw [gr (by omega), gr (by omega), if_pos (by omega), bq, a7, gr (by omega), if_pos (by omega), x0, gd_pos (by omega), a4, Int.toNat_natCast, lt_eq, x1, gd_pos (by omega), gd_pos ho, Int.toNat_natCast, lt_eq, x2, gd_pos (by omega), Int.toNat_natCast, lt_eq, x3, gd_pos (by omega), Int.toNat_natCast, lt_eq, ← hta, rGo lvb.2.2.2.2.2.2 lvb.2.2.2.1, bq, rS h lvc.2.1 lvc.2.2.2.1 hp1 (by omega), bq]
    by_cases c : s0 9 (p + 1) = 91
    · rw [if_pos c, if_pos c, gr (by omega), if_neg (by omega), rGo lvc.2.2.2.2.2.2 lvc.2.2.2.1, bq]
      have x4 : up (up ta 121 10 ((p + 1 : Nat) : Int)) 121 10 ((p + 1 + 1 : Nat) : Int) 121 125 = (Q.length : Int) := by rw [up_ne (by omega), up_ne (by omega), fta 121 125 (by omega)]; exact x0
      rw [x4]
      have gg : 0 ≤ (Q.length : Int) ∧ (Q.length : Int) < 200 := by omega
      simp only [gd_pos gg, Int.toNat_natCast]
    · rw [if_neg c, if_neg c, gr (by omega), if_pos rfl]
  -- the lists behind the pin
  have ext : ∀ (p1 : Nat) (s1 t1 : iS), LVh N s0 t0 p1 s1 t1 → (∀ c k, 71 ≤ c ∧ c ≤ 89 → s1 c k = sb c k) → (∀ c k, c = 121 ∧ (k = 122 ∨ k = 131 ∨ k = 134 ∨ k = 144) ∨ 195 ≤ c ∧ c ≤ 213 ∧ ¬ ((c = 199 ∨ c = 200) ∧ k = Q.length) → t1 c k = ta c k) → t1 121 125 = ((Q.length + 1 : Nat) : Int) → t1 199 Q.length = wdP s0 p → t1 200 Q.length = nbP s0 p → RLv F P s0 t0 N (C ++ [c0]) O (Q ++ [(p, o)]) R L I J p1 s1 t1 := fun p1 s1 t1 y1 y2 y3 y4 y5 y6 => by
    obtain ⟨-, ⟨h2, h3, h4⟩, ⟨h5, h6⟩, ⟨h7, h8⟩, ⟨h9, h10⟩, ⟨h11, h12⟩, h13⟩ := id hl
    have f1 : ∀ c k, 71 ≤ c ∧ c ≤ 89 → ¬ (79 ≤ c ∧ c ≤ 82) → s1 c k = s c k := fun c k z1 z2 => by rw [y2 c k z1, fsb c k (by omega) (by omega) (by omega) (by omega)]
    have f2 : ∀ c k, c = 121 ∧ (k = 122 ∨ k = 131 ∨ k = 134 ∨ k = 144) ∨ 195 ≤ c ∧ c ≤ 213 ∧ ¬ (197 ≤ c ∧ c ≤ 200 ∧ k = Q.length) → t1 c k = t c k := fun c k z => by rw [y3 c k (by omega), fta c k (by omega)]
    refine ⟨y1, ⟨PcC_of h2 (fun c k z => f1 c k (by omega) (by omega)), PrC_of h3 (fun c k z => f2 c k (by omega)), PcO_of h4 (fun k z => f1 77 k (by omega) (by omega))⟩, ⟨⟨?_, fun i hi => ?_⟩, ⟨by rw [y4, List.length_append]; rfl, fun i hi => ?_⟩⟩, ⟨PcR_of h7 (fun c k z => f1 c k (by omega) (by omega)), PrR_of h8 (fun c k z => f2 c k (by omega))⟩, ⟨PcL_of h9 (fun c k z => f1 c k (by omega) (by omega)), PrL_of h10 (fun c k z => f2 c k (by omega))⟩, ⟨PcI_of h11 (fun c k z => f1 c k (by omega) (by omega)), PrI_of h12 (fun c k z => f2 c k (by omega))⟩, STc_of h13 (fun c k z => f1 c k (by omega) (by omega))⟩
    · rw [List.map_append, ← List.append_assoc]
      exact TB_of ad2 (funext fun k => y2 79 k (by omega)) (funext fun k => y2 80 k (by omega)) (funext fun k => y2 81 k (by omega))
    · rw [List.length_append, List.length_singleton] at hi
      rw [y2 82 _ (by omega)]
      by_cases c : i < Q.length
      · rw [fsb 82 _ (by omega) (by omega) (by omega) (by omega), gdL c]
        exact h5.2 i c
      · have : i = Q.length := by omega
        subst this
        rw [b82, gd_end]
    · rw [List.length_append, List.length_singleton] at hi
      by_cases c : i < Q.length
      · rw [f2 198 i (by omega), f2 197 i (by omega), f2 199 i (by omega), f2 200 i (by omega), gdL c]
        exact h6.2 i c
      · have : i = Q.length := by omega
        subst this
        rw [gd_end, y5, y6, y3 198 _ (by omega), y3 197 _ (by omega), hta]
        refine ⟨?_, ?_, rfl, rfl⟩
        · rw [up_ne (by omega), up_ne (by omega), up_ne (by omega), up_same]
        · rw [up_ne (by omega), up_ne (by omega), up_same]
  by_cases c : s0 9 (p + 1) = 91
  case neg =>
    rw [if_neg c] at hcl hrf
    refine ⟨_, _, hcl, Or.inl ⟨hrf, by rw [up_ne (by omega), fta 121 125 (by omega)]; exact q3, p + 1, by omega, ⟨hp1, hk, fun z => absurd z c⟩, ext _ _ _ (LVh_of lvc (fun _ _ _ => rfl) (fun c k z => up_ne (by omega))) (fun c k z => up_ne (by omega)) (fun c k z => by rw [up_ne (by omega), up_ne (by omega)]) (up_same _ _ _ _) ?_ ?_⟩⟩
    · rw [up_ne (by omega), up_ne (by omega), hta, up_same]
      unfold wdP wdT
      rw [if_neg c]
      rfl
    · rw [up_ne (by omega), up_ne (by omega), hta, up_ne (by omega), up_same]
      unfold nbP
      rw [if_neg c]
  rw [if_pos c] at hcl hrf
  have hp2 := nlast h hp1 (by omega)
  have lvd := LVh_nx lvc hp2
  have szd : SZc (up (up sb 2 12 ((p + 1 : Nat) : Int)) 2 12 ((p + 2 : Nat) : Int)) ∧ SZr (up (up ta 121 10 ((p + 1 : Nat) : Int)) 121 10 ((p + 2 : Nat) : Int)) := by
    constructor
    · obtain ⟨z1, z2, z3, z4, z5, z6, z7, z8⟩ := zc
      have e : ∀ c k, c ≠ 2 → c ≠ 79 → c ≠ 80 → c ≠ 81 → c ≠ 82 → up (up sb 2 12 ((p + 1 : Nat) : Int)) 2 12 ((p + 2 : Nat) : Int) c k = s c k := fun c k y1 y2 y3 y4 y5 => by rw [up_ne (by omega), up_ne (by omega), fsb c k (by omega) y2 y3 y4]
      refine ⟨by rw [e 72 2 (by omega) (by omega) (by omega) (by omega) (by omega)]; exact z1, ?_, by rw [e 71 13 (by omega) (by omega) (by omega) (by omega) (by omega)]; exact z3, by rw [e 71 14 (by omega) (by omega) (by omega) (by omega) (by omega)]; exact z4, by rw [e 87 2 (by omega) (by omega) (by omega) (by omega) (by omega)]; exact z5, fun i hi => by rw [e 73 i (by omega) (by omega) (by omega) (by omega) (by omega), e 74 i (by omega) (by omega) (by omega) (by omega) (by omega)]; exact z6 i hi, fun i hi => ?_, STc_of z8 (fun c k z => e c k (by omega) (by omega) (by omega) (by omega) (by omega))⟩
      · rw [up_ne (by omega), up_ne (by omega), ad2.1, List.length_append, lt5, List.length_singleton]
        omega
      · rw [up_ne (by omega), up_ne (by omega), up_ne (by omega), up_ne (by omega)]
        rw [List.append_assoc] at ad2
        exact tbpre ad2 i hi
    · exact SZr_of zr (fun k z => by rw [up_ne (by omega), up_ne (by omega), fta 121 k (by omega)])
  obtain ⟨sd, hsd⟩ : ∃ sd, sd = up (up sb 2 12 ((p + 1 : Nat) : Int)) 2 12 ((p + 2 : Nat) : Int) := ⟨_, rfl⟩
  obtain ⟨td, htd⟩ : ∃ td, td = up (up ta 121 10 ((p + 1 : Nat) : Int)) 121 10 ((p + 2 : Nat) : Int) := ⟨_, rfl⟩
  have fsd : ∀ c k, c ≠ 2 → sd c k = sb c k := fun c k z => by rw [hsd, up_ne (by omega), up_ne (by omega)]
  have ftd : ∀ c k, ¬ (c = 121 ∧ k = 10) → td c k = ta c k := fun c k z => by rw [htd, up_ne (by omega), up_ne (by omega)]
  have lvd : LVh N s0 t0 (p + 2) sd td := by rw [hsd, htd]; exact lvd
  rw [← hsd, ← htd] at szd
  rw [← hsd] at hcl
  rw [← htd] at hrf
  have dR : ∀ (f : Int) (r : Int) (u : Nat), u < N → 0 < f ∧ f < 3 → LVh N s0 t0 u sd td → rDd N P t0 f u (up (flt td f P u) 200 Q.length r) := fun f r u hu hf hlv => by
    obtain ⟨y1, y2, y3, y4⟩ := DRh_fl (f := f) (q := u) (P := P) hlv.2.1 hlv.2.2.2.1 hu
    refine ⟨⟨?_, by rw [up_ne (by omega)]; exact y2, by rw [up_ne (by omega)]; exact y3, ?_⟩, ?_, hf⟩
    · obtain ⟨b1, b2, b3, b4, b5, b6⟩ := y1
      have r' : ∀ c, c ≠ 200 → up (flt td f P u) 200 Q.length r c = flt td f P u c := fun c z => funext fun k => up_ne (by omega)
      exact ⟨by rw [r' 123 (by omega)]; exact b1, by rw [r' 124 (by omega)]; exact b2, by rw [r' 125 (by omega)]; exact b3, by rw [r' 126 (by omega)]; exact b4, by rw [r' 127 (by omega)]; exact b5, by rw [up_ne (by omega)]; exact b6⟩
    · obtain ⟨w, w1, w2⟩ := y4
      exact ⟨w, w1, by rw [up_ne (by omega)]; exact w2⟩
    · exact SZr_of (SZr_fl (f := f) (q := u) (P := P) szd.2) (fun k z => up_ne (by omega))
  rcases bNm h lvd with ⟨n1, n2, n3, n4⟩ | ⟨f, n1, n2, n3⟩
  case inr =>
    have dc : cDd N s0 f (p + 2) (stp sd f (p + 2) N) := ⟨DCh_st lvd.1, SZc_st szd.1, n1⟩
    have dr := dR f (((p + 2 : Nat) : Int) - 1) (p + 2) lvd.2.2.2.2.1 n1 lvd
    refine ⟨stp sd f (p + 2) N, up (flt td f P (p + 2)) 200 Q.length (((p + 2 : Nat) : Int) - 1), by rw [hcl, n2, bq, dEx h dc (by omega), bq], Or.inr ⟨?_, f, p + 2, n1, lvd.2.2.2.2.1, dc.1, dc.2.1, dr.1, dr.2.1⟩⟩
    have d2 := dr.1.2.1
    rw [hrf, n3, bq, lt_eq, eSg h dr (by omega), bq, d2, gr (by omega), if_neg (by omega)]
  -- the number is there
  obtain ⟨te, hte⟩ : ∃ te, te = up (up td 121 10 ((p + 2 + 1 : Nat) : Int)) 200 Q.length ((p + 2 : Nat) : Int) := ⟨_, rfl⟩
  have fte : ∀ c k, ¬ (c = 121 ∧ k = 10) → ¬ (c = 200 ∧ k = Q.length) → te c k = ta c k := fun c k z1 z2 => by rw [hte, up_ne z2, up_ne (by omega), ftd c k z1]
  have lve : LVh N s0 t0 (p + 2 + 1) (up sd 2 12 ((p + 2 + 1 : Nat) : Int)) te := LVh_of n4 (fun _ _ _ => rfl) (fun c k z => by rw [hte, up_ne (by omega)])
  have sze : SZc (up sd 2 12 ((p + 2 + 1 : Nat) : Int)) ∧ SZr te := by
    exact ⟨SZc_of szd.1 (fun c k z => up_ne (by omega)), SZr_of zr (fun k z => by rw [fte 121 k (by omega) (by omega), fta 121 k (by omega)])⟩
  rw [n2, bq] at hcl
  rw [n3, bq, lt_eq, ← hte] at hrf
  rcases bSg h lve (c := 93) (by omega) with ⟨m1, m2, m3, m4⟩ | ⟨f, m1, m2, m3, -⟩
  case inr =>
    have rd := RDd_st (f := f) (P := P) lve sze m1
    refine ⟨_, flt te f P (p + 2 + 1), by rw [hcl, m2, bq], Or.inr ⟨?_, rd⟩⟩
    have d2 : flt te f P (p + 2 + 1) 121 11 = f := by unfold flt; rw [up_ne (by omega), up_same]
    rw [hrf, m3, bq, d2, gr (by omega), if_neg (by omega)]
  obtain ⟨v1, v2, v3⟩ := tkV h lvd.2.2.2.2.1 n1
  obtain ⟨tf, htf⟩ : ∃ tf, tf = up te 121 10 ((p + 2 + 1 + 1 : Nat) : Int) := ⟨_, rfl⟩
  have ftf : ∀ c k, ¬ (c = 121 ∧ k = 10) → ¬ (c = 200 ∧ k = Q.length) → tf c k = ta c k := fun c k z1 z2 => by rw [htf, up_ne z1, fte c k z1 z2]
  have f200 : tf 200 Q.length = ((p + 2 : Nat) : Int) := by rw [htf, up_ne (by omega), hte, up_same]
  have f125 : tf 121 125 = (Q.length : Int) := by rw [ftf 121 125 (by omega) (by omega), fta 121 125 (by omega)]; exact q3
  have lvf : LVh N s0 t0 (p + 2 + 1 + 1) (up (up sd 2 12 ((p + 2 + 1 : Nat) : Int)) 2 12 ((p + 2 + 1 + 1 : Nat) : Int)) tf := by rw [htf]; exact m4
  have f127 : tf 127 (p + 2) = s0 11 (p + 2) := by rw [lvf.2.1.2.2.2.2.1]; exact v1
  rw [m2, bq] at hcl
  rw [m3, bq, ← htf, lvf.2.2.2.2.2.2, gr (by omega), if_pos (by omega), f125, gd_pos (by omega), Int.toNat_natCast, f200, gd_pos (by omega), Int.toNat_natCast, f127, gr (by omega)] at hrf
  have fin : ∀ x : Int, x = wdP s0 p → m_pinList_191 o x (Q.length : Int) tf = m_pinList_192 o (up tf 199 Q.length x) ∧ up tf 199 Q.length x 121 125 = (Q.length : Int) ∧ ∃ p1, p < p1 ∧ pOK s0 N p ∧ RLv F P s0 t0 N (C ++ [c0]) O (Q ++ [(p, o)]) R L I J p1 (up (up sd 2 12 ((p + 2 + 1 : Nat) : Int)) 2 12 ((p + 2 + 1 + 1 : Nat) : Int)) (up (up tf 199 Q.length x) 121 125 ((Q.length + 1 : Nat) : Int)) := fun x hx => by
    refine ⟨?_, by rw [up_ne (by omega)]; exact f125, p + 2 + 1 + 1, by omega, ⟨hp1, hk, fun _ => ⟨lve.2.2.2.2.1, n1⟩⟩, ext _ _ _ (LVh_of lvf (fun _ _ _ => rfl) (fun c k z => by rw [up_ne (by omega), up_ne (by omega)])) (fun c k z => by rw [up_ne (by omega), up_ne (by omega), fsd c k (by omega)]) (fun c k z => by rw [up_ne (by omega), up_ne (by omega), ftf c k (by omega) (by omega)]) (up_same _ _ _ _) (by rw [up_ne (by omega), up_same]; exact hx) ?_⟩
    · unfold m_pinList_191
      rw [gd_pos (by omega), Int.toNat_natCast, lt_eq]
    · rw [up_ne (by omega), up_ne (by omega), f200]
      unfold nbP
      rw [if_pos c]
  have wd : wdT s0 p = s0 11 (p + 2) := by unfold wdT; rw [if_pos c]
  by_cases w1 : s0 11 (p + 2) < 1
  · rw [if_pos w1] at hrf
    obtain ⟨y1, y2, y3⟩ := fin 1 (by unfold wdP; rw [wd, if_pos w1])
    exact ⟨_, _, hcl, Or.inl ⟨by rw [hrf]; exact y1, y2, y3⟩⟩
  · rw [if_neg w1] at hrf
    by_cases w2 : s0 11 (p + 2) ≤ 16
    · rw [if_pos w2] at hrf
      obtain ⟨y1, y2, y3⟩ := fin (s0 11 (p + 2)) (by unfold wdP; rw [wd, if_neg w1, if_pos w2])
      exact ⟨_, _, hcl, Or.inl ⟨by rw [hrf]; exact y1, y2, y3⟩⟩
    · rw [if_neg w2] at hrf
      obtain ⟨y1, y2, y3⟩ := fin 1 (by unfold wdP; rw [wd, if_neg w1, if_neg w2])
      exact ⟨_, _, hcl, Or.inl ⟨by rw [hrf]; exact y1, y2, y3⟩⟩
/-- a list of pins -/
theorem h_pins (h : TKR 1 F n N P s0 t0) (ho : o = 0 ∨ o = 1) : ∀ (k p : Nat) (Q : List (Nat × Int)) (s t : iS) (j : Nat), N - p ≤ k → RLv F P s0 t0 N (C ++ [c0]) O Q R L I J p s t → bdL (C ++ [c0]) Q R L J → c0.2.1 ≤ Q.length ∧ Q.length ≤ c0.2.1 + 12 → c0.2.1 + 12 ≤ 192 → 2 * j ≤ p → ∃ s' t', bd (crd_readPin ((C.length + 2 : Nat) : Int) s) (fun _ s1 => crd_readPins_7 ((C.length + 2 : Nat) : Int) (j : Int) s1) = some (0, s') ∧ m_pinList_2 o 1 t = some (0, t') ∧ ((∃ qs p', RLv F P s0 t0 N (C ++ [c0]) O (Q ++ qs) R L I J p' s' t' ∧ p < p' ∧ Q.length + qs.length ≤ c0.2.1 + 12 ∧ 1 ≤ qs.length ∧ ∀ x ∈ qs, pOK s0 N x.1 ∧ x.2 = o) ∨ RDd P s0 t0 N s' t')
  | 0, p, Q, s, t, j, hk, hl, hb, hf, h192, hj => by
    have := hl.1.2.2.2.2.1
    omega
  | k + 1, p, Q, s, t, j, hk, hl, hb, hf, h192, hj => by
    have hN := N2001 h
    obtain ⟨a1, a2, a3, a4, a5, a6, a7⟩ := hl.1
    have sz := RLv_sz hl hb
    have kk := kRg h a5
    have ll : (C ++ [c0]).length = C.length + 1 := by rw [List.length_append]; rfl
    have C16 : C.length + 1 ≤ 16 := by have := hb.1; omega
    obtain ⟨-, ⟨pc1, pc2, po⟩, ⟨⟨q1, q2⟩, q3, q4⟩, -⟩ := id hl
    have e76 : s 76 (C.length + 2) = 5 + (c0.2.1 : Int) := by
      have := (pc1.2 C.length (by omega)).2.1
      rw [c_last, Nat.add_comm 2] at this
      exact this
    have e196 : t 196 C.length = (c0.2.1 : Int) := by
      have := (pc2.2 C.length (by omega)).2.1
      rw [c_last] at this
      exact this
    have e122 : t 121 122 = (C.length : Int) + 1 := by rw [pc2.1, ll]; omega
    have e79 : s 79 2 = 5 + (Q.length : Int) := by
      rw [q1.1, List.length_append, List.length_map]
      show ((5 + Q.length : Nat) : Int) = _
      omega
    have dead : ∀ (f : Int), (0 < f ∧ f < 3) → crd_readPins_7 ((C.length + 2 : Nat) : Int) (j : Int) (stp s f p N) = some (0, stp s f p N) := fun f hf' => dPins7 h ⟨DCh_st a1, SZc_st sz.1, hf'⟩ (by omega)
    by_cases c : s0 9 p = 3
    case neg =>
      refine ⟨stp s (if s0 9 p = 2 then 2 else 1) p N, flt t (if s0 9 p = 2 then 2 else 1) P p, ?_, ?_, Or.inr (RDd_st hl.1 sz (by split <;> omega))⟩
      · unfold crd_readPin
        rw [cK h a1 a3 a5, bq, gr (by omega), if_neg c, cSt h a1 a6.1 a3 a5, bq, bq]
        exact dead _ (by split <;> omega)
      · unfold m_pinList_2
        rw [lp_end (f := fun l : Int × iS => m_pinList_2b o (l.1) (l.2)) (e := .inl t) (by
          show m_pinList_2b o 1 t = _
          unfold m_pinList_2b
          rw [gr (by omega), if_neg (by omega), a7, gr (by omega), if_pos rfl, a4, gd_pos (by omega), Int.toNat_natCast, a2.2.1, gr (by have := (kd1 h a5).2.1; omega), if_neg (fun z => c ((kd1 h a5).1.mp z))])]
        show m_pinList_26 t = _
        unfold m_pinList_26
        rw [rSy h a2 a7 a4 a5, bq]
    by_cases r : Q.length < c0.2.1 + 12
    case neg =>
      refine ⟨stp s 2 p N, flt t 2 P p, ?_, ?_, Or.inr (RDd_st hl.1 sz (by omega))⟩
      · unfold crd_readPin crd_readPin_54
        rw [cK h a1 a3 a5, bq, gr (by omega), if_pos c, gd_pos (by omega), Int.toNat_natCast, e76, e79, gr (by omega), if_pos (by omega), cSt h a1 a6.1 a3 a5, if_neg (by omega), bq, bq]
        exact dead _ (by omega)
      · have f11 : flt t 2 P p 121 11 = 2 := by unfold flt; rw [up_ne (by omega), up_same]
        unfold m_pinList_2
        rw [lp_end (f := fun l : Int × iS => m_pinList_2b o (l.1) (l.2)) (e := .inr (.inl (flt t 2 P p))) (by
          show m_pinList_2b o 1 t = _
          unfold m_pinList_2b m_room
          rw [gr (by omega), if_neg (by omega), a7, gr (by omega), if_pos rfl, a4, gd_pos (by omega), Int.toNat_natCast, a2.2.1, gr (by have := (kd1 h a5).2.1; omega), if_pos ((kd1 h a5).1.mpr c), e122, gd_pos (by omega), show ((C.length : Int) + 1 - 1).toNat = C.length by omega, e196, q3, gr (by omega), gr (by omega), if_neg (by omega), rWr a2 h a7 a5, bq, bq, f11, gr (by omega), if_neg (by omega)])]
        rfl
    obtain ⟨s1, t1, g1, g2⟩ := h_pin h ho hl hb hf c r (by omega)
    rcases g2 with ⟨g2, g3, p1, g4, g5, g6⟩ | ⟨g2, g3⟩
    case inr =>
      obtain ⟨f, u, y1, y2, y3, y4, y5, y6⟩ := g3
      refine ⟨s1, t1, ?_, ?_, Or.inr ⟨f, u, y1, y2, y3, y4, y5, y6⟩⟩
      · rw [g1, bq]
        exact dPins7 h ⟨y3, y4, y1⟩ (by omega)
      · unfold m_pinList_2
        rw [lp_end (f := fun l : Int × iS => m_pinList_2b o (l.1) (l.2)) (e := .inr (.inr (.inl t1))) (by
          show m_pinList_2b o 1 t = _
          exact g2)]
        rfl
    obtain ⟨b1, b2, b3, b4, b5, b6, b7⟩ := g6.1
    have lq : (Q ++ [(p, o)]).length = Q.length + 1 := by rw [List.length_append]; rfl
    have hb' : bdL (C ++ [c0]) (Q ++ [(p, o)]) R L J := ⟨hb.1, by rw [lq]; omega, hb.2.2.1, hb.2.2.2.1, hb.2.2.2.2⟩
    have sz1 := RLv_sz g6 hb'
    have kp1 := kRg h b5
    obtain ⟨t2, ht2⟩ : ∃ t2, t2 = up t1 121 125 ((Q.length + 1 : Nat) : Int) := ⟨_, rfl⟩
    rw [← ht2] at g6 b2 b4 b7 sz1
    have e192 : m_pinList_2b o 1 t = if s0 9 p1 = 44 then some (.inl (1, up t2 121 10 ((p1 + 1 : Nat) : Int))) else some (.inl (0, t2)) := by
      rw [g2]
      unfold m_pinList_192
      rw [lt_eq, g3, show (Q.length : Int) + 1 = ((Q.length + 1 : Nat) : Int) by omega, ← ht2, rS h b2 b4 b5 (by omega), bq]
      by_cases z : s0 9 p1 = 44
      · rw [if_pos z, if_pos z, gr (by omega), if_neg (by omega), rGo b7 b4, bq]
      · rw [if_neg z, if_neg z, gr (by omega), if_pos rfl]
    by_cases z : s0 9 p1 = 44
    · -- one more
      rw [if_pos z] at e192
      have hp2 := nlast h b5 (by omega)
      obtain ⟨s', t', i1, i2, i3⟩ := h_pins h ho k (p1 + 1) (Q ++ [(p, o)]) (up s1 2 12 ((p1 + 1 : Nat) : Int)) (up t2 121 10 ((p1 + 1 : Nat) : Int)) (j + 1) (by omega) (RLv_nx g6 hp2) hb' (by rw [lq]; omega) h192 (by omega)
      refine ⟨s', t', ?_, ?_, ?_⟩
      · obtain ⟨r1, z1, w1, w2⟩ := bd_inv i1
        rw [g1, bq]
        unfold crd_readPins_7
        rw [lp_next (f := fun l : Int × iS => crd_readPins_7b ((C.length + 2 : Nat) : Int) (l.1) (l.2)) (l' := (((j + 1 : Nat) : Int), z1)) (by
          show crd_readPins_7b ((C.length + 2 : Nat) : Int) (j : Int) s1 = _
          unfold crd_readPins_7b
          rw [gr (by omega), if_neg (by omega), cK h b1 b3 b5, bq, gr (by omega), if_pos z, lt_eq, b3, show (p1 : Int) + 1 = ((p1 + 1 : Nat) : Int) by omega, w1, bq, show (j : Int) + 1 = ((j + 1 : Nat) : Int) by omega])]
        exact w2
      · unfold m_pinList_2
        rw [lp_next (f := fun l : Int × iS => m_pinList_2b o (l.1) (l.2)) (l' := ((1 : Int), up t2 121 10 ((p1 + 1 : Nat) : Int))) (by
          show m_pinList_2b o 1 t = _
          exact e192)]
        exact i2
      · rcases i3 with ⟨qs, p', y1, y2, y3, y4, y5⟩ | y
        · refine Or.inl ⟨(p, o) :: qs, p', ?_, by omega, ?_, by simp, fun x hx => ?_⟩
          · rw [List.append_assoc] at y1
            exact y1
          · rw [lq] at y3
            rw [List.length_cons]
            omega
          · rcases List.mem_cons.mp hx with w | w
            · rw [w]; exact ⟨g5, rfl⟩
            · exact y5 x w
        · exact Or.inr y
    · -- the end of the list
      rw [if_neg z] at e192
      have ec : crd_readPins_7 ((C.length + 2 : Nat) : Int) (j : Int) s1 = bd (tok_expect 59 s1) (fun _ s1 => some (0, s1)) := by
        unfold crd_readPins_7
        rw [lp_end (f := fun l : Int × iS => crd_readPins_7b ((C.length + 2 : Nat) : Int) (l.1) (l.2)) (e := s1) (by
          show crd_readPins_7b ((C.length + 2 : Nat) : Int) (j : Int) s1 = _
          unfold crd_readPins_7b
          rw [gr (by omega), if_neg (by omega), cK h b1 b3 b5, bq, gr (by omega), if_neg z])]
        rfl
      have er : m_pinList_2 o 1 t = bd (m_needSign 59 t2) (fun _ s1 => some (0, s1)) := by
        unfold m_pinList_2
        rw [lp_next (f := fun l : Int × iS => m_pinList_2b o (l.1) (l.2)) (l' := ((0 : Int), t2)) (by
          show m_pinList_2b o 1 t = _
          exact e192), lp_end (f := fun l : Int × iS => m_pinList_2b o (l.1) (l.2)) (e := .inr (.inr (.inr t2))) (by
          show m_pinList_2b o 0 t2 = _
          unfold m_pinList_2b
          rw [gr (by omega), if_pos rfl])]
        rfl
      rw [g1, bq, ec, er]
      rcases bSg h g6.1 (c := 59) (by omega) with ⟨m1, m2, m3, m4⟩ | ⟨f, m1, m2, m3, -⟩
      · rw [m2, bq, m3, bq]
        refine ⟨_, _, rfl, rfl, Or.inl ⟨[(p, o)], p1 + 1, RLv_nx g6 m4.2.2.2.2.1, by omega, by rw [List.length_singleton]; omega, by simp, fun x hx => ?_⟩⟩
        rw [List.mem_singleton.mp hx]
        exact ⟨g5, rfl⟩
      · rw [m2, bq, m3, bq]
        exact ⟨_, _, rfl, rfl, Or.inr (RDd_st g6.1 sz1 m1)⟩
end CHd
