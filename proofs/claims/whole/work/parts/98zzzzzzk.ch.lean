/-! chips: a chip, the whole text -/
section CHi
variable {F : Nat → Int} {n N : Nat} {P : Nat → Nat} {s0 t0 s t s' t' : iS} {p q j : Nat} {C : List chR} {O I J E : List Nat} {Q : List (Nat × Int)} {R L : List (Nat × Nat)} {c0 : chR} {f : Int}
theorem e50 (hd : rDd N P t0 f q t) : m_chip_50 t = some (0, t) := by
  have d6 := hd.2.2
  have d2 := hd.1.2.1
  unfold m_chip_50
  rw [gr (by omega), if_neg (by omega)]
theorem e29 (hd : rDd N P t0 f q t) : m_chip_29 t = some (0, t) := by
  have d6 := hd.2.2
  have d2 := hd.1.2.1
  unfold m_chip_29
  rw [gr (by omega), if_neg (by omega), e50 hd]
theorem dBegin (h : TKR 1 F n N P s0 t0) (hd : cDd N s0 f q s) : crd_beginChip s = some (0, s) := by
  unfold crd_beginChip
  rw [dK h hd, bq, gr (by omega), if_neg (by omega), dSt h hd, bq]
theorem dChip (h : TKR 1 F n N P s0 t0) (hd : cDd N s0 f q s) : bd (crd_beginChip s) (fun _ s2 => gd (rg (s2 2 13)) (if (s2 2 13) = 0 then bd (tok_expect 123 s2) (fun _ s5 => bd (tok_expect 301 s5) (fun _ s6 => bd (crd_readPins ((s2 72 2) - 1) s6) (fun _ s7 => kC4 ((s2 72 2) - 1) s7))) else some (0, s2))) = some (0, s) := by
  have d6 := hd.2.2
  have d2 := hd.1.2.2.1
  rw [dBegin h hd, bq, gr (by omega), if_neg (by omega)]
/-- both readers ahead of a chip: no word on the class's inner names -/
def RLu (F : Nat → Int) (P : Nat → Nat) (s0 t0 : iS) (N : Nat) (C : List chR) (O : List Nat) (Q : List (Nat × Int)) (R L : List (Nat × Nat)) (I J : List Nat) (p : Nat) (s t : iS) : Prop := LVh N s0 t0 p s t ∧ (PcC F P t0 C s ∧ PrC C t ∧ PcO O s) ∧ (PcP F P t0 Q s ∧ PrP s0 Q t) ∧ (PcR R s ∧ PrR R t) ∧ (PcL L s ∧ PrL s0 L t) ∧ ((0 ≤ s 87 2 ∧ s 87 2 ≤ 100) ∧ PrI (I ++ J) t) ∧ STc s
theorem RLv_u (h : RLv F P s0 t0 N C O Q R L I J p s t) (hj : J.length ≤ 100) : RLu F P s0 t0 N C O Q R L I J p s t := by
  obtain ⟨h1, h2, h3, h4, h5, ⟨h6, h7⟩, h8⟩ := h
  have := h6.1
  rw [List.length_map] at this
  exact ⟨h1, h2, h3, h4, h5, ⟨by omega, h7⟩, h8⟩
theorem RLu_nx (h : RLu F P s0 t0 N C O Q R L I J p s t) (hN : p + 1 < N) : RLu F P s0 t0 N C O Q R L I J (p + 1) (up s 2 12 ((p + 1 : Nat) : Int)) (up t 121 10 ((p + 1 : Nat) : Int)) := by
  obtain ⟨h1, ⟨h2, h3, h4⟩, ⟨h5, h6⟩, ⟨h7, h8⟩, ⟨h9, h10⟩, ⟨h11, h12⟩, h13⟩ := h
  exact ⟨LVh_nx h1 hN, ⟨PcC_of h2 (fun c k z => up_ne (by omega)), PrC_of h3 (fun c k z => up_ne (by omega)), PcO_of h4 (fun k z => up_ne (by omega))⟩, ⟨PcP_of h5 (fun c k z => up_ne (by omega)), PrP_of h6 (fun c k z => up_ne (by omega))⟩, ⟨PcR_of h7 (fun c k z => up_ne (by omega)), PrR_of h8 (fun c k z => up_ne (by omega))⟩, ⟨PcL_of h9 (fun c k z => up_ne (by omega)), PrL_of h10 (fun c k z => up_ne (by omega))⟩, ⟨by rw [up_ne (by omega)]; exact h11, PrI_of h12 (fun c k z => up_ne (by omega))⟩, STc_of h13 (fun c k z => up_ne (by omega))⟩
theorem RLu_sz (h : RLu F P s0 t0 N C O Q R L I J p s t) (hb : bdL C Q R L J) : SZc s ∧ SZr t := by
  obtain ⟨-, ⟨h2, h3, h4⟩, ⟨h5, h6⟩, ⟨h7, h8⟩, ⟨h9, h10⟩, ⟨h11, h12⟩, h13⟩ := h
  obtain ⟨b1, b2, b3, b4, b5⟩ := hb
  have e1 := h2.1.1
  have e2 := h5.1.1
  have e3 := h7.1
  have e4 := h9.1
  have e6 := h3.1
  have e7 := h8.1
  have e8 := h10.1
  rw [List.length_append, List.length_map] at e1 e2
  have c1 : cgN.length = 2 := rfl
  have c2 : cpN.length = 5 := rfl
  exact ⟨⟨by omega, by omega, by omega, by omega, h11, tbpre h2.1, tbpre h5.1, h13⟩, by omega, by omega, by omega⟩
/-- how much there is of all -/
def BDa (C : List chR) (O : List Nat) (Q : List (Nat × Int)) (R L : List (Nat × Nat)) (I J : List Nat) : Prop := C.length ≤ 16 ∧ O.length = C.length ∧ Q.length ≤ 12 * C.length ∧ R.length ≤ 24 * C.length ∧ L.length ≤ 500 ∧ J.length ≤ 100 ∧ I.length + J.length ≤ L.length
theorem BDa_b (h : BDa C O Q R L I J) : bdL C Q R L J := by
  obtain ⟨h1, h2, h3, h4, h5, h6, h7⟩ := h
  exact ⟨h1, by omega, by omega, h5, h6⟩
/-- a chip -/
theorem h_chip (hH : TKH F n N P s0 t0) (hl : RLu F P s0 t0 N C O Q R L I J p s t) (hb : BDa C O Q R L I J) (hQ : ∀ x ∈ Q, x.1 < N ∧ s0 9 x.1 = 3) (h4 : 4 * L.length ≤ p) (hE : ECH R E L) (pE : PcE E s) : ∃ s' t', crd_readChip s = some (0, s') ∧ m_chip t = some (0, t') ∧ ((∃ c0 o qs rs ls es js p', c0 = (p + 1, Q.length, R.length, (I ++ J).length) ∧ RLv F P s0 t0 N (C ++ [c0]) (O ++ [o]) (Q ++ qs) (R ++ rs) (L ++ ls) (I ++ J) js p' s' t' ∧ p + 1 < p' ∧ 4 * (L ++ ls).length ≤ p' ∧ BDa (C ++ [c0]) (O ++ [o]) (Q ++ qs) (R ++ rs) (L ++ ls) (I ++ J) js ∧ (∀ x ∈ Q ++ qs, x.1 < N ∧ s0 9 x.1 = 3) ∧ ECH (R ++ rs) (E ++ es) (L ++ ls) ∧ PcE (E ++ es) s' ∧ s' 76 (C.length + 3) = 5 + ((Q ++ qs).length : Int) ∧ s' 78 (C.length + 3) = ((R ++ rs).length : Int) ∧ CHI F P s0 t0 N (Q ++ qs) (R ++ rs) (L ++ ls) (E ++ es) ((I ++ J) ++ js) c0 o (0, (Q ++ qs).length, (R ++ rs).length, ((I ++ J) ++ js).length)) ∨ RDd P s0 t0 N s' t') := by
  have h := hH.1
  have hN := N2001 h
  have bl := BDa_b hb
  obtain ⟨C16, B1, B2, B3, B4, B5, B6⟩ := hb
  have sz := RLu_sz hl bl
  rw [readChip_k]
  unfold m_chip
  rw [show (300 : Int) = 0 + 300 from rfl]
  rcases bWd h hl.1 (w := 0) (by omega) with ⟨m1, m2, m3, m4⟩ | ⟨f, m1, m2, m3⟩
  case inr =>
    have dc : cDd N s0 f p (stp s f p N) := ⟨DCh_st hl.1.1, SZc_st sz.1, m1⟩
    have dr : rDd N P t0 f p (flt t f P p) := ⟨DRh_fl hl.1.2.1 hl.1.2.2.2.1 hl.1.2.2.2.2.1, SZr_fl sz.2, m1⟩
    have d2 := dr.1.2.1
    rw [m2, bq, dChip h dc, m3, bq, d2, gr (by omega), if_neg (by omega), e29 dr]
    exact ⟨_, _, rfl, rfl, Or.inr ⟨f, p, m1, hl.1.2.2.2.2.1, dc.1, dc.2.1, dr.1, dr.2.1⟩⟩
  rw [m2, bq, m3, bq]
  have rla := RLu_nx hl m4.2.2.2.2.1
  obtain ⟨sa, hsa⟩ : ∃ sa, sa = up s 2 12 ((p + 1 : Nat) : Int) := ⟨_, rfl⟩
  obtain ⟨ta, hta⟩ : ∃ ta, ta = up t 121 10 ((p + 1 : Nat) : Int) := ⟨_, rfl⟩
  rw [← hsa, ← hta] at rla ⊢
  have fsa : ∀ c k, c ≠ 2 → sa c k = s c k := fun c k z => by rw [hsa, up_ne (by omega)]
  obtain ⟨a1, a2, a3, a4, a5, a6, a7⟩ := rla.1
  have kp := kRg h a5
  have kd := kd1 h a5
  have sza := RLu_sz rla bl
  rw [a7, gr (by omega), if_pos rfl, a4, gd_pos (by omega), Int.toNat_natCast, a2.2.1, gr (by omega)]
  have dead : ∀ f : Int, 0 < f ∧ f < 3 → crd_beginChip sa = some (0, stp sa f (p + 1) N) → ∃ s', bd (crd_beginChip sa) (fun _ s2 => gd (rg (s2 2 13)) (if (s2 2 13) = 0 then bd (tok_expect 123 s2) (fun _ s5 => bd (tok_expect 301 s5) (fun _ s6 => bd (crd_readPins ((s2 72 2) - 1) s6) (fun _ s7 => kC4 ((s2 72 2) - 1) s7))) else some (0, s2))) = some (0, s') ∧ cDd N s0 f (p + 1) s' := fun f hf e => by
    have d3 : stp sa f (p + 1) N 2 13 = f := by unfold stp; rw [up_ne (by omega), up_ne (by omega), up_same]
    refine ⟨_, ?_, ⟨DCh_st (q := p + 1) a1, SZc_st sza.1, hf⟩⟩
    rw [e, bq, d3, gr (by omega), if_neg (by omega)]
  by_cases c3 : s0 9 (p + 1) = 3
  case neg =>
    have hf : 0 < (if s0 9 (p + 1) = 2 then (2 : Int) else 1) ∧ (if s0 9 (p + 1) = 2 then (2 : Int) else 1) < 3 := by split <;> omega
    obtain ⟨s', x1, x2⟩ := dead (if s0 9 (p + 1) = 2 then 2 else 1) hf (by
      unfold crd_beginChip
      rw [cK h a1 a3 a5, bq, gr (by omega), if_neg c3, cSt h a1 a6.1 a3 a5, bq])
    have dr : rDd N P t0 (if s0 9 (p + 1) = 2 then 2 else 1) (p + 1) (flt ta (if s0 9 (p + 1) = 2 then 2 else 1) P (p + 1)) := ⟨DRh_fl a2 a4 a5, SZr_fl sza.2, hf⟩
    rw [x1, if_neg (fun z => c3 (kd.1.mp z)), rSy h a2 a7 a4 a5, bq, e29 dr]
    exact ⟨_, _, rfl, rfl, Or.inr ⟨_, p + 1, hf, a5, x2.1, x2.2.1, dr.1, dr.2.1⟩⟩
  rw [if_pos (kd.1.mpr c3)]
  obtain ⟨-, ⟨pc1, pc2, po⟩, ⟨pp1, pp2⟩, ⟨pr1, pr2⟩, ⟨pl1, pl2⟩, ⟨pi1, pi2⟩, pst⟩ := id rla
  have lt2 : (cgN ++ C.map (fun c => nmT F P t0 c.1)).length = 2 + C.length := by
    rw [List.length_append, List.length_map]
    rfl
  have e72 : sa 72 2 = 2 + (C.length : Int) := by rw [pc1.1.1, lt2]; omega
  have e122 : ta 121 122 = (C.length : Int) := pc2.1
  unfold m_chip_29
  rw [a7, gr (by omega), if_pos rfl, e122, a4]
  unfold m_room
  by_cases full : C.length < 16
  case neg =>
    obtain ⟨s', x1, x2⟩ := dead 2 (by omega) (by
      unfold crd_beginChip
      rw [cK h a1 a3 a5, bq, gr (by omega), if_pos c3, e72, gr (by omega), if_neg (by omega), cSt h a1 a6.1 a3 a5, if_neg (by omega), bq])
    have dr : rDd N P t0 2 (p + 1) (flt ta 2 P (p + 1)) := ⟨DRh_fl a2 a4 a5, SZr_fl sza.2, by omega, by omega⟩
    rw [x1, gr (by omega), gr (by omega), if_neg (by omega), rWr a2 h a7 a5, bq, bq, e50 dr]
    exact ⟨_, _, rfl, rfl, Or.inr ⟨2, p + 1, by omega, a5, x2.1, x2.2.1, dr.1, dr.2.1⟩⟩
  rw [gr (by omega), gr (by omega), if_pos (by omega), bq]
  have hp2 := nlast h a5 (by omega)
  -- both begin the chip
  have lt5 : (cpN ++ Q.map (fun q => nmT F P t0 q.1)).length = 5 + Q.length := by
    rw [List.length_append, List.length_map]
    rfl
  have e79 : sa 79 2 = 5 + (Q.length : Int) := by rw [pp1.1.1, lt5]; omega
  obtain ⟨sb, hsb⟩ : ∃ sb, sb = up (up (up sa 75 (2 + C.length) ((p + 1 : Nat) : Int)) 76 (2 + C.length) (5 + (Q.length : Int))) 78 (2 + C.length) (R.length : Int) := ⟨_, rfl⟩
  have fsb : ∀ c k, ¬ ((c = 75 ∨ c = 76 ∨ c = 78) ∧ k = 2 + C.length) → sb c k = sa c k := fun c k z => by rw [hsb, up_ne (by omega), up_ne (by omega), up_ne (by omega)]
  have lvb : LVh N s0 t0 (p + 1) sb ta := LVh_of rla.1 (fun c k z => fsb c k (by omega)) (fun _ _ _ => rfl)
  obtain ⟨ad1, ad2⟩ := cAdc (c := 72) (a := 73) (b' := 74) (M := 18) h lvb.1 a5 c3 (TB_of pc1.1 (funext fun k => fsb 72 k (by omega)) (funext fun k => fsb 73 k (by omega)) (funext fun k => fsb 74 k (by omega))) (by omega) (by rw [lt2]; omega) ⟨by omega, by omega, by omega⟩
  rw [lt2] at ad1 ad2
  obtain ⟨sc, hsc⟩ : ∃ sc, sc = nmad sb 72 73 74 (2 + C.length) (nmT F P t0 (p + 1)) := ⟨_, rfl⟩
  rw [← hsc] at ad1 ad2
  have fsc : ∀ c k, c ≠ 72 → c ≠ 73 → c ≠ 74 → sc c k = sb c k := fun c k z1 z2 z3 => by rw [hsc, nmad_ne (by omega) (by omega) (by omega)]
  obtain ⟨jm, hjm⟩ : ∃ jm : Nat, sa 87 2 = (jm : Int) := ⟨(sa 87 2).toNat, by omega⟩
  have e87 : sc 87 2 = (jm : Int) := by rw [fsc 87 2 (by omega) (by omega) (by omega), fsb 87 2 (by omega)]; exact hjm
  obtain ⟨sd, hsd⟩ : ∃ sd, sd = up (up sc 87 2 0) 2 12 ((p + 1 + 1 : Nat) : Int) := ⟨_, rfl⟩
  have fsd : ∀ c k, ¬ (c = 87 ∧ k = 2) → ¬ (c = 2 ∧ k = 12) → sd c k = sc c k := fun c k z1 z2 => by rw [hsd, up_ne z2, up_ne z1]
  have fsda : ∀ c k, ¬ ((c = 75 ∨ c = 76 ∨ c = 78) ∧ k = 2 + C.length) → c ≠ 72 → c ≠ 73 → c ≠ 74 → ¬ (c = 87 ∧ k = 2) → ¬ (c = 2 ∧ k = 12) → sd c k = sa c k := fun c k z1 z2 z3 z4 z5 z6 => by rw [fsd c k z5 z6, fsc c k z2 z3 z4, fsb c k z1]
  have eb : crd_beginChip sa = some (0, sd) := by
    have x1 : ∀ k v, up sa 75 k v 72 2 = 2 + (C.length : Int) := fun k v => by rw [up_ne (by omega)]; exact e72
    have x2 : ∀ k v k' v', up (up sa 75 k v) 76 k' v' 72 2 = 2 + (C.length : Int) := fun k v k' v' => by rw [up_ne (by omega)]; exact x1 k v
    have kp := keep_ok (c := 87) (a := 88) (b := 89) (N := 100) (m := jm) (k := 0) (s := sc) e87 (by omega) (by omega)
    have kp' : nam_keep 87 88 89 100 0 sc = some (0, up sc 87 2 0) := by
      rw [Nat.min_zero] at kp
      exact kp
    unfold crd_beginChip
    rw [cK h a1 a3 a5, bq, gr (by omega), if_pos c3, e72, gr (by omega), if_pos (by omega), gd_pos (by omega), show (2 + (C.length : Int)).toNat = 2 + C.length by omega, a3, lt_eq, x1, gd_pos (by omega), show (2 + (C.length : Int)).toNat = 2 + C.length by omega, up_ne (show ¬ (79 = 75 ∧ _) by omega), e79, lt_eq, x2, gd_pos (by omega), show (2 + (C.length : Int)).toNat = 2 + C.length by omega, up_ne (show ¬ (71 = 76 ∧ _) by omega), up_ne (show ¬ (71 = 75 ∧ _) by omega), pr1.1, lt_eq, ← hsb, lvb.2.2.1, ad1, bq, kp', bq, lt_eq, up_ne (show ¬ (2 = 87 ∧ _) by omega), fsc 2 12 (by omega) (by omega) (by omega), lvb.2.2.1, show ((p + 1 : Nat) : Int) + 1 = ((p + 1 + 1 : Nat) : Int) by omega, ← hsd]
  obtain ⟨tb, htb⟩ : ∃ tb, tb = up (up (up (up (up ta 195 C.length ((p + 1 : Nat) : Int)) 196 C.length (Q.length : Int)) 201 C.length (R.length : Int)) 212 C.length ((I ++ J).length : Int)) 121 122 ((C.length + 1 : Nat) : Int) := ⟨_, rfl⟩
  have ftb : ∀ c k, ¬ ((c = 195 ∨ c = 196 ∨ c = 201 ∨ c = 212) ∧ k = C.length) → ¬ (c = 121 ∧ k = 122) → tb c k = ta c k := fun c k z1 z2 => by rw [htb, up_ne z2, up_ne (by omega), up_ne (by omega), up_ne (by omega), up_ne (by omega)]
  have lvb' : LVh N s0 t0 (p + 1) sa tb := LVh_of rla.1 (fun _ _ _ => rfl) (fun c k z => ftb c k (by omega) (by omega))
  obtain ⟨td, htd⟩ : ∃ td, td = up tb 121 10 ((p + 1 + 1 : Nat) : Int) := ⟨_, rfl⟩
  have ftd : ∀ c k, ¬ ((c = 195 ∨ c = 196 ∨ c = 201 ∨ c = 212) ∧ k = C.length) → ¬ (c = 121 ∧ (k = 122 ∨ k = 10)) → td c k = ta c k := fun c k z1 z2 => by rw [htd, up_ne (by omega), ftb c k z1 (by omega)]
  have er : m_chip_50 ta = bd (m_needSign 123 td) (fun _ s13 => bd (m_needWord 1 s13) (fun _ s14 => gd (rg (s14 121 11)) (if (s14 121 11) = 0 then bd (m_pinList 0 s14) (fun _ s17 => m_chip_147 s17) else m_chip_147 s14))) := by
    have i144 : ta 121 144 = ((I ++ J).length : Int) := pi2.1
    unfold m_chip_50
    rw [a7, gr (by omega), if_pos (by omega), e122, gd_pos (by omega), Int.toNat_natCast, a4, lt_eq, up_ne (show ¬ (121 = 195 ∧ _) by omega), e122, gd_pos (by omega), Int.toNat_natCast, up_ne (show ¬ (121 = 195 ∧ _) by omega), pp2.1, lt_eq, up_ne (show ¬ (121 = 196 ∧ _) by omega), up_ne (show ¬ (121 = 195 ∧ _) by omega), e122, gd_pos (by omega), Int.toNat_natCast, up_ne (show ¬ (121 = 196 ∧ _) by omega), up_ne (show ¬ (121 = 195 ∧ _) by omega), pr2.1, lt_eq, up_ne (show ¬ (121 = 201 ∧ _) by omega), up_ne (show ¬ (121 = 196 ∧ _) by omega), up_ne (show ¬ (121 = 195 ∧ _) by omega), e122, gd_pos (by omega), Int.toNat_natCast, up_ne (show ¬ (121 = 201 ∧ _) by omega), up_ne (show ¬ (121 = 196 ∧ _) by omega), up_ne (show ¬ (121 = 195 ∧ _) by omega), i144, lt_eq, lt_eq, up_ne (show ¬ (121 = 212 ∧ _) by omega), up_ne (show ¬ (121 = 201 ∧ _) by omega), up_ne (show ¬ (121 = 196 ∧ _) by omega), up_ne (show ¬ (121 = 195 ∧ _) by omega), e122, show (C.length : Int) + 1 = ((C.length + 1 : Nat) : Int) by omega, ← htb, rGo lvb'.2.2.2.2.2.2 lvb'.2.2.2.1, bq, ← htd]
  obtain ⟨c0, hc0⟩ : ∃ c0 : chR, c0 = (p + 1, Q.length, R.length, (I ++ J).length) := ⟨_, rfl⟩
  have lC : (C ++ [c0]).length = C.length + 1 := by rw [List.length_append]; rfl
  have lvd : LVh N s0 t0 (p + 1 + 1) sd td := LVh_of (LVh_nx lvb' hp2) (fun c k z => by
    by_cases c2 : c = 2 ∧ k = 12
    · rw [c2.1, c2.2, hsd, up_same, up_same]
    · rw [fsda c k (by omega) (by omega) (by omega) (by omega) (by omega) c2, up_ne c2]) (fun c k z => by rw [htd])
  have rld : RLv F P s0 t0 N (C ++ [c0]) O Q R L (I ++ J) [] (p + 1 + 1) sd td := by
    refine ⟨lvd, ⟨⟨?_, fun i hi => ?_⟩, ⟨?_, fun i hi => ?_⟩, PcO_of po (fun k z => fsda 77 k (by omega) (by omega) (by omega) (by omega) (by omega) (by omega))⟩, ⟨PcP_of pp1 (fun c k z => fsda c k (by omega) (by omega) (by omega) (by omega) (by omega) (by omega)), PrP_of pp2 (fun c k z => ftd c k (by omega) (by omega))⟩, ⟨PcR_of pr1 (fun c k z => fsda c k (by omega) (by omega) (by omega) (by omega) (by omega) (by omega)), PrR_of pr2 (fun c k z => ftd c k (by omega) (by omega))⟩, ⟨PcL_of pl1 (fun c k z => fsda c k (by omega) (by omega) (by omega) (by omega) (by omega) (by omega)), PrL_of pl2 (fun c k z => ftd c k (by omega) (by omega))⟩, ⟨?_, ?_⟩, STc_of pst (fun c k z => fsda c k (by omega) (by omega) (by omega) (by omega) (by omega) (by omega))⟩
    · rw [List.map_append, ← List.append_assoc]
      have := TB_of (s' := sd) ad2 (funext fun k => fsd 72 k (by omega) (by omega)) (funext fun k => fsd 73 k (by omega) (by omega)) (funext fun k => fsd 74 k (by omega) (by omega))
      rw [hc0]
      exact this
    · rw [lC] at hi
      by_cases c : i < C.length
      · rw [fsda 75 _ (by omega) (by omega) (by omega) (by omega) (by omega) (by omega), fsda 76 _ (by omega) (by omega) (by omega) (by omega) (by omega) (by omega), fsda 78 _ (by omega) (by omega) (by omega) (by omega) (by omega) (by omega), gdL c]
        exact pc1.2 i c
      · have : i = C.length := by omega
        subst this
        rw [gd_end, fsd 75 _ (by omega) (by omega), fsd 76 _ (by omega) (by omega), fsd 78 _ (by omega) (by omega), fsc 75 _ (by omega) (by omega) (by omega), fsc 76 _ (by omega) (by omega) (by omega), fsc 78 _ (by omega) (by omega) (by omega), hsb, hc0]
        exact ⟨by rw [up_ne (by omega), up_ne (by omega), up_same], by rw [up_ne (by omega), up_same], by rw [up_same]⟩
    · rw [htd, up_ne (by omega), htb, up_same, lC]
    · rw [lC] at hi
      by_cases c : i < C.length
      · rw [ftd 195 i (by omega) (by omega), ftd 196 i (by omega) (by omega), ftd 201 i (by omega) (by omega), ftd 212 i (by omega) (by omega), gdL c]
        exact pc2.2 i c
      · have : i = C.length := by omega
        subst this
        rw [gd_end, htd, up_ne (by omega), up_ne (by omega), up_ne (by omega), up_ne (by omega), htb, hc0]
        refine ⟨?_, ?_, ?_, ?_⟩
        · rw [up_ne (by omega), up_ne (by omega), up_ne (by omega), up_ne (by omega), up_same]
        · rw [up_ne (by omega), up_ne (by omega), up_ne (by omega), up_same]
        · rw [up_ne (by omega), up_ne (by omega), up_same]
        · rw [up_ne (by omega), up_same]
    · exact TB_nil (by rw [hsd, up_ne (by omega), up_same])
    · rw [List.append_nil]
      exact PrI_of pi2 (fun c k z => ftd c k (by omega) (by omega))
  have bld : bdL (C ++ [c0]) Q R L [] := ⟨by rw [lC]; omega, by omega, by omega, B4, by simp⟩
  have szd := RLv_sz rld bld
  have v1 : sd 72 2 - 1 = ((C.length + 2 : Nat) : Int) := by
    rw [rld.2.1.1.1.1, List.length_append, List.length_map, lC]
    show ((2 + (C.length + 1) : Nat) : Int) - 1 = _
    omega
  have hv : 2 ≤ C.length + 2 ∧ C.length + 2 < 18 := ⟨by omega, by omega⟩
  rw [eb, bq, lvd.2.2.2.2.2.1.1, gr (by omega), if_pos rfl, v1, er]
  -- {
  rcases bSg h rld.1 (c := 123) (by omega) with ⟨b1, b2, b3, b4⟩ | ⟨f, b1, b2, b3, -⟩
  case inr =>
    have dc : cDd N s0 f (p + 1 + 1) (stp sd f (p + 1 + 1) N) := ⟨DCh_st lvd.1, SZc_st szd.1, b1⟩
    have dr : rDd N P t0 f (p + 1 + 1) (flt td f P (p + 1 + 1)) := ⟨DRh_fl lvd.2.1 lvd.2.2.2.1 lvd.2.2.2.2.1, SZr_fl szd.2, b1⟩
    have d2 := dr.1.2.1
    obtain ⟨s', x1, x2⟩ := dC4 h dc hv
    rw [b2, bq, dEx h dc (by omega), bq, dPins h dc, bq, x1, b3, bq, eWd h dr (by omega), bq, d2, gr (by omega), if_neg (by omega), e147 h dr]
    exact ⟨_, _, rfl, rfl, Or.inr ⟨f, p + 1 + 1, b1, lvd.2.2.2.2.1, x2.1, x2.2.1, dr.1, dr.2.1⟩⟩
  have rle := RLv_nx rld b4.2.2.2.2.1
  rw [b2, bq, b3, bq]
  obtain ⟨se, hse⟩ : ∃ se, se = up sd 2 12 ((p + 1 + 1 + 1 : Nat) : Int) := ⟨_, rfl⟩
  obtain ⟨te, hte⟩ : ∃ te, te = up td 121 10 ((p + 1 + 1 + 1 : Nat) : Int) := ⟨_, rfl⟩
  rw [← hse, ← hte] at rle ⊢
  have sze := RLv_sz rle bld
  -- IN
  rw [show (301 : Int) = 1 + 300 from rfl]
  rcases bWd h rle.1 (w := 1) (by omega) with ⟨d1, d2, d3, d4⟩ | ⟨f, d1, d2, d3⟩
  case inr =>
    have dc : cDd N s0 f (p + 1 + 1 + 1) (stp se f (p + 1 + 1 + 1) N) := ⟨DCh_st rle.1.1, SZc_st sze.1, d1⟩
    have dr : rDd N P t0 f (p + 1 + 1 + 1) (flt te f P (p + 1 + 1 + 1)) := ⟨DRh_fl rle.1.2.1 rle.1.2.2.2.1 rle.1.2.2.2.2.1, SZr_fl sze.2, d1⟩
    have d2' := dr.1.2.1
    obtain ⟨s', x1, x2⟩ := dC4 h dc hv
    rw [d2, bq, dPins h dc, bq, x1, d3, bq, d2', gr (by omega), if_neg (by omega), e147 h dr]
    exact ⟨_, _, rfl, rfl, Or.inr ⟨f, p + 1 + 1 + 1, d1, rle.1.2.2.2.2.1, x2.1, x2.2.1, dr.1, dr.2.1⟩⟩
  have rlf := RLv_nx rle d4.2.2.2.2.1
  rw [d2, bq, d3, bq]
  obtain ⟨sf, hsf⟩ : ∃ sf, sf = up se 2 12 ((p + 1 + 1 + 1 + 1 : Nat) : Int) := ⟨_, rfl⟩
  obtain ⟨tf, htf⟩ : ∃ tf, tf = up te 121 10 ((p + 1 + 1 + 1 + 1 : Nat) : Int) := ⟨_, rfl⟩
  rw [← hsf, ← htf] at rlf ⊢
  rw [rlf.1.2.2.2.2.2.2, gr (by omega), if_pos rfl]
  have c21 : c0.2.1 = Q.length ∧ c0.2.2.1 = R.length ∧ c0.2.2.2 = (I ++ J).length := by rw [hc0]; exact ⟨rfl, rfl, rfl⟩
  obtain ⟨sg, tg, g1, g2, g3⟩ := h_pins (o := 0) (C := C) (O := O) (R := R) (L := L) (I := I ++ J) (J := []) (c0 := c0) h (Or.inl rfl) N (p + 1 + 1 + 1 + 1) Q sf tf 0 (by omega) rlf bld (by omega) (by omega) (by omega)
  have e7 : crd_readPins ((C.length + 2 : Nat) : Int) sf = some (0, sg) := g1
  have e8 : m_pinList 0 tf = some (0, tg) := g2
  rw [e7, bq, e8, bq]
  rcases g3 with ⟨qs, pg, y1, y2, y3, y4, y5⟩ | ⟨f, u, y1, y2, y3, y4, y5, y6⟩
  case inr =>
    obtain ⟨s', x1, x2⟩ := dC4 h ⟨y3, y4, y1⟩ hv
    rw [x1, e147 h ⟨y5, y6, y1⟩]
    exact ⟨_, _, rfl, rfl, Or.inr ⟨f, u, y1, y2, x2.1, x2.2.1, y5, y6⟩⟩
  have f84 : ∀ c k, c = 84 ∨ c = 78 → sg c k = sf c k := fun c k z => (show md L_crd_readPins G_crd_readPins sf sg from fcrd_readPins _ _ _ e7) c k (by simp [L_crd_readPins]; omega) (by simp [G_crd_readPins]; omega)
  have lQ : (Q ++ qs).length = Q.length + qs.length := List.length_append
  have blg : bdL (C ++ [c0]) (Q ++ qs) R L [] := ⟨by rw [lC]; omega, by omega, by omega, B4, by simp⟩
  -- where the OUT pins begin
  obtain ⟨sh, hsh⟩ : ∃ sh, sh = up sg 77 (C.length + 2) (5 + ((Q ++ qs).length : Int)) := ⟨_, rfl⟩
  have fsh : ∀ c k, ¬ (c = 77 ∧ k = C.length + 2) → sh c k = sg c k := fun c k z => by rw [hsh, up_ne z]
  have rlh : RLv F P s0 t0 N (C ++ [c0]) (O ++ [(Q ++ qs).length]) (Q ++ qs) R L (I ++ J) [] pg sh tg := by
    obtain ⟨-, ⟨h2, h3, h4'⟩, ⟨h5, h6⟩, ⟨h7, h8⟩, ⟨h9, h10⟩, ⟨h11, h12⟩, h13⟩ := id y1
    refine ⟨LVh_of y1.1 (fun c k z => fsh c k (by omega)) (fun _ _ _ => rfl), ⟨PcC_of h2 (fun c k z => fsh c k (by omega)), h3, fun i hi => ?_⟩, ⟨PcP_of h5 (fun c k z => fsh c k (by omega)), h6⟩, ⟨PcR_of h7 (fun c k z => fsh c k (by omega)), h8⟩, ⟨PcL_of h9 (fun c k z => fsh c k (by omega)), h10⟩, ⟨PcI_of h11 (fun c k z => fsh c k (by omega)), h12⟩, STc_of h13 (fun c k z => fsh c k (by omega))⟩
    rw [List.length_append, List.length_singleton] at hi
    by_cases c : i < O.length
    · rw [fsh 77 _ (by omega), gdL c]
      exact h4' i c
    · have : i = O.length := by omega
      subst this
      rw [gd_end, B1, Nat.add_comm 2, hsh, up_same]
  have szh := RLv_sz rlh blg
  have ek4 : kC4 ((C.length + 2 : Nat) : Int) sg = kC5 ((C.length + 2 : Nat) : Int) sh := by
    have e79' : sg 79 2 = 5 + ((Q ++ qs).length : Int) := by
      rw [y1.2.2.1.1.1.1, List.length_append, List.length_map]
      show ((5 + (Q ++ qs).length : Nat) : Int) = _
      omega
    unfold kC4
    rw [gd_pos (by omega), Int.toNat_natCast, e79', lt_eq, ← hsh]
  rw [ek4]
  unfold kC5 m_chip_147
  -- OUT
  rw [show (302 : Int) = 2 + 300 from rfl]
  rcases bWd h rlh.1 (w := 2) (by omega) with ⟨i1, i2, i3, i4⟩ | ⟨f, i1, i2, i3⟩
  case inr =>
    have dc : cDd N s0 f pg (stp sh f pg N) := ⟨DCh_st rlh.1.1, SZc_st szh.1, i1⟩
    have dr : rDd N P t0 f pg (flt tg f P pg) := ⟨DRh_fl rlh.1.2.1 rlh.1.2.2.2.1 rlh.1.2.2.2.2.1, SZr_fl szh.2, i1⟩
    have d2' := dr.1.2.1
    obtain ⟨s', x1, x2⟩ := dC7 h dc hv
    rw [i2, bq, dPins h dc, bq, x1, i3, bq, d2', gr (by omega), if_neg (by omega), e164 h dr]
    exact ⟨_, _, rfl, rfl, Or.inr ⟨f, pg, i1, rlh.1.2.2.2.2.1, x2.1, x2.2.1, dr.1, dr.2.1⟩⟩
  have rli := RLv_nx rlh i4.2.2.2.2.1
  rw [i2, bq, i3, bq]
  obtain ⟨si, hsi⟩ : ∃ si, si = up sh 2 12 ((pg + 1 : Nat) : Int) := ⟨_, rfl⟩
  obtain ⟨ti, hti⟩ : ∃ ti, ti = up tg 121 10 ((pg + 1 : Nat) : Int) := ⟨_, rfl⟩
  rw [← hsi, ← hti] at rli ⊢
  rw [rli.1.2.2.2.2.2.2, gr (by omega), if_pos rfl]
  obtain ⟨sj, tj, j1, j2, j3⟩ := h_pins (o := 1) (C := C) (O := O ++ [(Q ++ qs).length]) (R := R) (L := L) (I := I ++ J) (J := []) (c0 := c0) h (Or.inr rfl) N (pg + 1) (Q ++ qs) si ti 0 (by omega) rli blg (by omega) (by omega) (by omega)
  have e9 : crd_readPins ((C.length + 2 : Nat) : Int) si = some (0, sj) := j1
  have e10 : m_pinList 1 ti = some (0, tj) := j2
  rw [e9, bq, e10, bq]
  rcases j3 with ⟨qs2, pj, z1, z2, z3, z4, z5⟩ | ⟨f, u, z1, z2, z3, z4, z5, z6⟩
  case inr =>
    obtain ⟨s', x1, x2⟩ := dC7 h ⟨z3, z4, z1⟩ hv
    rw [x1, e164 h ⟨z5, z6, z1⟩]
    exact ⟨_, _, rfl, rfl, Or.inr ⟨f, u, z1, z2, x2.1, x2.2.1, z5, z6⟩⟩
  have f84j : ∀ c k, c = 84 ∨ c = 78 → sj c k = si c k := fun c k z => (show md L_crd_readPins G_crd_readPins si sj from fcrd_readPins _ _ _ e9) c k (by simp [L_crd_readPins]; omega) (by simp [G_crd_readPins]; omega)
  have lQ2 : ((Q ++ qs) ++ qs2).length = Q.length + qs.length + qs2.length := by rw [List.length_append, lQ]
  have blj : bdL (C ++ [c0]) ((Q ++ qs) ++ qs2) R L [] := ⟨by rw [lC]; omega, by omega, by omega, B4, by simp⟩
  -- where the next chip's pins begin
  obtain ⟨sk, hsk⟩ : ∃ sk, sk = up sj 76 (C.length + 3) (5 + (((Q ++ qs) ++ qs2).length : Int)) := ⟨_, rfl⟩
  have fsk : ∀ c k, ¬ (c = 76 ∧ k = C.length + 3) → sk c k = sj c k := fun c k z => by rw [hsk, up_ne z]
  have rlk : RLv F P s0 t0 N (C ++ [c0]) (O ++ [(Q ++ qs).length]) ((Q ++ qs) ++ qs2) R L (I ++ J) [] pj sk tj := by
    obtain ⟨-, ⟨h2, h3, h4'⟩, ⟨h5, h6⟩, ⟨h7, h8⟩, ⟨h9, h10⟩, ⟨h11, h12⟩, h13⟩ := id z1
    exact ⟨LVh_of z1.1 (fun c k z => fsk c k (by omega)) (fun _ _ _ => rfl), ⟨PcC_of h2 (fun c k z => fsk c k (by omega)), h3, PcO_of h4' (fun k z => fsk 77 k (by omega))⟩, ⟨PcP_of h5 (fun c k z => fsk c k (by omega)), h6⟩, ⟨PcR_of h7 (fun c k z => fsk c k (by omega)), h8⟩, ⟨PcL_of h9 (fun c k z => fsk c k (by omega)), h10⟩, ⟨PcI_of h11 (fun c k z => fsk c k (by omega)), h12⟩, STc_of h13 (fun c k z => fsk c k (by omega))⟩
  have ek7 : kC7 ((C.length + 2 : Nat) : Int) sj = kC8 ((C.length + 2 : Nat) : Int) sk := by
    have e79' : sj 79 2 = 5 + (((Q ++ qs) ++ qs2).length : Int) := by
      rw [z1.2.2.1.1.1.1, List.length_append, List.length_map]
      show ((5 + ((Q ++ qs) ++ qs2).length : Nat) : Int) = _
      omega
    unfold kC7
    rw [gd_pos (by omega), show (((C.length + 2 : Nat) : Int) + 1).toNat = C.length + 3 by omega, e79', lt_eq, ← hsk]
  rw [ek7]
  have szk := RLv_sz rlk blj
  unfold kC8 m_chip_164
  -- PARTS :
  rw [show (303 : Int) = 3 + 300 from rfl]
  rcases bWd h rlk.1 (w := 3) (by omega) with ⟨k1, k2, k3, k4⟩ | ⟨f, k1, k2, k3⟩
  case inr =>
    have dc : cDd N s0 f pj (stp sk f pj N) := ⟨DCh_st rlk.1.1, SZc_st szk.1, k1⟩
    have dr : rDd N P t0 f pj (flt tj f P pj) := ⟨DRh_fl rlk.1.2.1 rlk.1.2.2.2.1 rlk.1.2.2.2.2.1, SZr_fl szk.2, k1⟩
    obtain ⟨s', x1, x2⟩ := dC123 (v := C.length + 2) (y := 0) h dc (by omega) hv
    rw [k2, bq, dEx h dc (by omega), bq, x1, k3, bq, eSg h dr (by omega), bq, e175 h dr]
    exact ⟨_, _, rfl, rfl, Or.inr ⟨f, pj, k1, rlk.1.2.2.2.2.1, x2.1, x2.2.1, dr.1, dr.2.1⟩⟩
  have rll := RLv_nx rlk k4.2.2.2.2.1
  have szl := RLv_sz rll blj
  rw [k2, bq, k3, bq]
  obtain ⟨sl, hsl⟩ : ∃ sl, sl = up sk 2 12 ((pj + 1 : Nat) : Int) := ⟨_, rfl⟩
  obtain ⟨tl, htl⟩ : ∃ tl, tl = up tj 121 10 ((pj + 1 : Nat) : Int) := ⟨_, rfl⟩
  rw [← hsl, ← htl] at rll szl ⊢
  rcases bSg h rll.1 (c := 58) (by omega) with ⟨l1, l2, l3, l4⟩ | ⟨f, l1, l2, l3, -⟩
  case inr =>
    have dc : cDd N s0 f (pj + 1) (stp sl f (pj + 1) N) := ⟨DCh_st rll.1.1, SZc_st szl.1, l1⟩
    have dr : rDd N P t0 f (pj + 1) (flt tl f P (pj + 1)) := ⟨DRh_fl rll.1.2.1 rll.1.2.2.2.1 rll.1.2.2.2.2.1, SZr_fl szl.2, l1⟩
    obtain ⟨s', x1, x2⟩ := dC123 (v := C.length + 2) (y := 0) h dc (by omega) hv
    rw [l2, bq, x1, l3, bq, e175 h dr]
    exact ⟨_, _, rfl, rfl, Or.inr ⟨f, pj + 1, l1, rll.1.2.2.2.2.1, x2.1, x2.2.1, dr.1, dr.2.1⟩⟩
  have rlm := RLv_nx rll l4.2.2.2.2.1
  rw [l2, bq, l3, bq]
  obtain ⟨sm', hsm⟩ : ∃ sm', sm' = up sl 2 12 ((pj + 1 + 1 : Nat) : Int) := ⟨_, rfl⟩
  obtain ⟨tm, htm⟩ : ∃ tm, tm = up tl 121 10 ((pj + 1 + 1 : Nat) : Int) := ⟨_, rfl⟩
  rw [← hsm, ← htm] at rlm ⊢
  have hQ2 : ∀ x ∈ (Q ++ qs) ++ qs2, x.1 < N ∧ s0 9 x.1 = 3 := fun x hx => by
    rcases List.mem_append.mp hx with w | w
    · rcases List.mem_append.mp w with w' | w'
      · exact hQ x w'
      · have := (y5 x w').1
        exact ⟨by have := this.1; omega, this.2.1⟩
    · have := (z5 x w).1
      exact ⟨by have := this.1; omega, this.2.1⟩
  have f84m : ∀ k, sm' 84 k = s 84 k := fun k => by
    rw [hsm, up_ne (by omega), hsl, up_ne (by omega), fsk 84 k (by omega), f84j 84 k (by omega), hsi, up_ne (by omega), fsh 84 k (by omega), f84 84 k (by omega), hsf, up_ne (by omega), hse, up_ne (by omega), fsda 84 k (by omega) (by omega) (by omega) (by omega) (by omega) (by omega), fsa 84 k (by omega)]
  have JOn : JOK F P s0 t0 N c0.2.1 ((Q ++ qs) ++ qs2) [] := ⟨fun x hx => by simp at hx, fun i k _ hk => by simp at hk⟩
  obtain ⟨s', t', n1, n2, n3⟩ := h_parts (C := C) (O := O ++ [(Q ++ qs).length]) (c0 := c0) hH ⟨by omega, c21.2.2⟩ hQ2 (by omega) N (pj + 1 + 1) R L [] E sm' tm 0 (by omega) rlm blj (by omega) (by rw [List.length_append]; simp; omega) JOn (by omega) hE (fun r hr => by rw [f84m]; exact pE r hr) (by omega)
  refine ⟨s', t', n1, n2, ?_⟩
  rcases n3 with ⟨rs, ls, js, es, p', w1, w2, w3, w4, w5, w6, w7, w8, w9, w10, w11, w76, w12⟩ | w
  case inr => exact Or.inr w
  rw [List.nil_append] at w1 w5 w7 w8 w12
  have eQ : (Q ++ qs) ++ qs2 = Q ++ (qs ++ qs2) := List.append_assoc _ _ _
  have f76 : s' 76 (C.length + 3) = sm' 76 (C.length + 3) := w76 _
  have lR : (R ++ rs).length = R.length + rs.length := List.length_append
  have lI : ((I ++ J) ++ js).length = (I ++ J).length + js.length := List.length_append
  have lIJ : (I ++ J).length = I.length + J.length := List.length_append
  refine Or.inl ⟨c0, (Q ++ qs).length, qs ++ qs2, rs, ls, es, js, p', hc0, ?_⟩
  rw [← eQ]
  refine ⟨w1, by omega, w4, ⟨by rw [lC]; omega, by rw [List.length_append, lC, B1]; rfl, by rw [lC]; omega, by rw [lC]; omega, w6, w5, w7⟩, hQ2, w9, w10, ?_, w11, ?_⟩
  · rw [f76, hsm, up_ne (by omega), hsl, up_ne (by omega), hsk, up_same]
  have g0 : ∀ k, k < Q.length + qs.length → Q.length ≤ k → ((Q ++ qs) ++ qs2).getD k (0, 0) ∈ qs := fun k k1 k2 => by
    rw [gdL (by omega), gdR k2]
    exact gd_mem (by omega)
  have g1' : ∀ k, k < ((Q ++ qs) ++ qs2).length → Q.length + qs.length ≤ k → ((Q ++ qs) ++ qs2).getD k (0, 0) ∈ qs2 := fun k k1 k2 => by
    rw [gdR (by omega)]
    exact gd_mem (by omega)
  refine ⟨by rw [hc0]; exact ⟨a5, c3⟩, ⟨by omega, ?_, Nat.le_refl _, ?_⟩, fun k k1 k2 => ?_, ⟨by show c0.2.2.1 ≤ (R ++ rs).length; omega, Nat.le_refl _, by show (R ++ rs).length ≤ _; omega⟩, fun r r1 r2 => ?_, ⟨by rw [c21.2.2]; show _ ≤ ((I ++ J) ++ js).length; omega, Nat.le_refl _, by rw [c21.2.2]; show ((I ++ J) ++ js).length ≤ _; omega⟩, fun x x1 x2 => ?_, fun x y x1 x2 x3 => ?_⟩
  · show (Q ++ qs).length < ((Q ++ qs) ++ qs2).length
    omega
  · show ((Q ++ qs) ++ qs2).length ≤ c0.2.1 + 12
    omega
  · have k2' : k < ((Q ++ qs) ++ qs2).length := k2
    by_cases c : k < (Q ++ qs).length
    · have m := y5 _ (g0 k (by omega) (by omega))
      rw [if_pos c]
      exact m
    · have m := z5 _ (g1' k k2' (by omega))
      rw [if_neg c]
      exact m
  · have r2' : r < (R ++ rs).length := r2
    obtain ⟨u1, u2, u3, u4⟩ := w12 r (by omega) r2'
    refine ⟨u1, u2, u3, fun l l1 l2 => ?_⟩
    obtain ⟨u5, u6⟩ := u4 l l1 l2
    refine ⟨u5, fun z => ?_⟩
    rcases u6 z with u | ⟨x, u7, u8, u9⟩
    · exact Or.inl u
    · refine Or.inr ⟨(I ++ J).length + x, by rw [c21.2.2]; omega, ?_, ?_⟩
      · show (I ++ J).length + x < ((I ++ J) ++ js).length
        omega
      · rw [gdR (by omega), Nat.add_sub_cancel_left]
        exact u9
  · have x2' : x < ((I ++ J) ++ js).length := x2
    rw [c21.2.2] at x1
    rw [gdR x1]
    obtain ⟨u1, u2⟩ := w8.1 _ (gd_mem (l := js) (d := 0) (i := x - (I ++ J).length) (by omega))
    exact ⟨u1, fun k k1 k2 => u2 k k1 k2⟩
  · have x3' : y < ((I ++ J) ++ js).length := x3
    rw [c21.2.2] at x1
    rw [gdR x1, gdR (by omega)]
    exact w8.2 _ _ (by omega) (by omega)
end CHi
