/-! chips: the whole text is read -/
section CHj
variable {F : Nat → Int} {n N : Nat} {P : Nat → Nat} {s0 t0 s t s' t' : iS} {p q j : Nat} {C : List chR} {O I J E : List Nat} {Q : List (Nat × Int)} {R L : List (Nat × Nat)} {f : Int}
/-- all chips read so far -/
def CHS (F : Nat → Int) (P : Nat → Nat) (s0 t0 : iS) (N : Nat) (C : List chR) (O : List Nat) (Q : List (Nat × Int)) (R L : List (Nat × Nat)) (E I : List Nat) : Prop := ∀ i, i < C.length → CHI F P s0 t0 N Q R L E I (C.getD i (0, 0, 0, 0)) (O.getD i 0) ((C ++ [(0, Q.length, R.length, I.length)]).getD (i + 1) (0, 0, 0, 0))
/-- the ends of the last chip's pins and parts in the class -/
def PcZ (C : List chR) (Q : List (Nat × Int)) (R : List (Nat × Nat)) (s : iS) : Prop := C.length ≠ 0 → s 76 (2 + C.length) = 5 + (Q.length : Int) ∧ s 78 (2 + C.length) = (R.length : Int)
/-- a text of chips, read by both -/
def RDE (F : Nat → Int) (P : Nat → Nat) (s0 t0 : iS) (N : Nat) (C : List chR) (O : List Nat) (Q : List (Nat × Int)) (R L : List (Nat × Nat)) (E I : List Nat) (s t : iS) : Prop := (SC s0 s ∧ SR t0 t ∧ s 2 13 = 0 ∧ t 121 11 = 0 ∧ s 2 14 = -1) ∧ (PcC F P t0 C s ∧ PrC C t ∧ PcO O s) ∧ (PcP F P t0 Q s ∧ PrP s0 Q t) ∧ (PcR R s ∧ PrR R t) ∧ (PcL L s ∧ PrL s0 L t) ∧ PrI I t ∧ STc s ∧ (1 ≤ C.length ∧ BDa C O Q R L I []) ∧ CHS F P s0 t0 N C O Q R L E I ∧ ECH R E L ∧ PcE E s ∧ PcZ C Q R s ∧ (t 196 C.length = (Q.length : Int) ∧ t 201 C.length = (R.length : Int) ∧ t 212 C.length = (I.length : Int) ∧ t 203 R.length = (L.length : Int)) ∧ s0 9 (N - 1) = 0 ∧ (0 ≤ s 87 2 ∧ s 87 2 ≤ 100) ∧ (C.getD 0 (0, 0, 0, 0)).2 = (0, 0, 0)
/-- one chip more -/
theorem CHS_snoc {o : Nat} {qs : List (Nat × Int)} {rs ls : List (Nat × Nat)} {es js : List Nat} {tok : Nat} (h : CHS F P s0 t0 N C O Q R L E I) (hO : O.length = C.length) (hE : E.length = R.length) (hn : CHI F P s0 t0 N (Q ++ qs) (R ++ rs) (L ++ ls) (E ++ es) (I ++ js) (tok, Q.length, R.length, I.length) o (0, (Q ++ qs).length, (R ++ rs).length, (I ++ js).length)) : CHS F P s0 t0 N (C ++ [(tok, Q.length, R.length, I.length)]) (O ++ [o]) (Q ++ qs) (R ++ rs) (L ++ ls) (E ++ es) (I ++ js) := fun i hi => by
  rw [List.length_append, List.length_singleton] at hi
  by_cases c : i < C.length
  · have := CHI_app (qs := qs) (rs := rs) (ls := ls) (es := es) (is := js) (h i c) hE
    rw [gdL c, gdL (by omega), List.append_assoc]
    by_cases d : i + 1 < C.length
    · rw [gdL d] at this ⊢
      exact this
    · have e : i + 1 = C.length := by omega
      rw [e, gdR (Nat.le_refl _), Nat.sub_self] at this ⊢
      exact this
  · have e : i = C.length := by omega
    subst e
    rw [gd_end, ← hO, gd_end, hO, show C.length + 1 = (C ++ [(tok, Q.length, R.length, I.length)]).length by rw [List.length_append]; rfl, gd_end]
    exact hn
/-- the chips of a text -/
theorem h_chips (hH : TKH F n N P s0 t0) : ∀ (k p : Nat) (C : List chR) (O : List Nat) (Q : List (Nat × Int)) (R L : List (Nat × Nat)) (E I J : List Nat) (s t : iS) (j : Nat), N - p ≤ k → RLu F P s0 t0 N C O Q R L I J p s t → BDa C O Q R L I J → (∀ x ∈ Q, x.1 < N ∧ s0 9 x.1 = 3) → 4 * L.length ≤ p → ECH R E L → PcE E s → CHS F P s0 t0 N C O Q R L E (I ++ J) → 2 * j ≤ p → (C.length = 0 → Q.length = 0 ∧ R.length = 0 ∧ (I ++ J).length = 0) ∧ (C.length ≠ 0 → (C.getD 0 (0, 0, 0, 0)).2 = (0, 0, 0)) → ∃ s' t', bd (crd_readChip s) (fun _ s6 => crd_read_39 (j : Int) s6) = some (0, s') ∧ m_chipTexts_32 1 t = some (0, t') ∧ ((∃ C O Q R L E I, RDE F P s0 t0 N C O Q R L E I s' t') ∨ ∃ f q, (0 < f ∧ f < 3) ∧ q < N ∧ DCh N s0 f q s' ∧ SZc s' ∧ DRh N P t0 f q t')
  | 0, p, C, O, Q, R, L, E, I, J, s, t, j, hk, hl, hb, hQ, h4, hE, pE, hS, hj, hZ => by
    have := hl.1.2.2.2.2.1
    omega
  | k + 1, p, C, O, Q, R, L, E, I, J, s, t, j, hk, hl, hb, hQ, h4, hE, pE, hS, hj, hZ => by
    have h := hH.1
    have hN := N2001 h
    have pN := hl.1.2.2.2.2.1
    obtain ⟨s1, t1, g1, g2, g3⟩ := h_chip hH hl hb hQ h4 hE pE
    have dead : ∀ (f : Int) (q : Nat) (tx : iS), rDd N P t0 f q tx → q < N → ∃ t', m_chipTexts_68 tx = some (0, t') ∧ DRh N P t0 f q t' := fun f q tx hd hq => by
      obtain ⟨z1, z2, z3⟩ := hd.2.1
      have d := rDd_of (t' := up (up (up (up tx 196 (tx 121 122).toNat (tx 121 125)) 201 (tx 121 122).toNat (tx 121 131)) 212 (tx 121 122).toNat (tx 121 144)) 203 (tx 121 131).toNat (tx 121 134)) hd (fun c k z => by rw [up_ne (by omega), up_ne (by omega), up_ne (by omega), up_ne (by omega)]) (SZr_of hd.2.1 (fun k z => by rw [up_ne (by omega), up_ne (by omega), up_ne (by omega), up_ne (by omega)]))
      refine ⟨_, ?_, d.1⟩
      unfold m_chipTexts_68
      rw [gd_pos (by omega), lt_eq, up_ne (show ¬ (121 = 196 ∧ _) by omega), gd_pos (by omega), up_ne (show ¬ (121 = 196 ∧ _) by omega), lt_eq, up_ne (show ¬ (121 = 201 ∧ _) by omega), up_ne (show ¬ (121 = 196 ∧ _) by omega), gd_pos (by omega), up_ne (show ¬ (121 = 201 ∧ _) by omega), up_ne (show ¬ (121 = 196 ∧ _) by omega), lt_eq, up_ne (show ¬ (121 = 212 ∧ _) by omega), up_ne (show ¬ (121 = 201 ∧ _) by omega), up_ne (show ¬ (121 = 196 ∧ _) by omega), gd_pos (by omega), up_ne (show ¬ (121 = 212 ∧ _) by omega), up_ne (show ¬ (121 = 201 ∧ _) by omega), up_ne (show ¬ (121 = 196 ∧ _) by omega), lt_eq]
    have e32 : ∀ (y : Int) (f : Int) (q : Nat) (tx : iS), (y = 0 ∨ y = 1) → rDd N P t0 f q tx → m_chipTexts_32 y tx = m_chipTexts_68 tx := fun y f q tx hy hd => by
      have d6 := hd.2.2
      have d2 := hd.1.2.1
      unfold m_chipTexts_32
      rw [lp_end (f := fun l : Int × iS => m_chipTexts_32b (l.1) (l.2)) (e := tx) (by
        show m_chipTexts_32b y tx = _
        unfold m_chipTexts_32b
        rw [gr (by omega)]
        by_cases c : y = 0
        · rw [if_pos c]
        · rw [if_neg c, gr (by omega), if_neg (by omega)])]
      rfl
    have eb : ∀ px : Nat, px < N → t1 121 10 = (px : Int) → SR t0 t1 → m_chipTexts_32 1 t = m_chipTexts_32 (if s0 9 px = 0 then 0 else 1) t1 := fun px hp1 hp2 hr => by
      have kd := kd1 h hp1
      have eb' : m_chipTexts_32b 1 t = some (.inl (if s0 9 px = 0 then 0 else 1, t1)) := by
        unfold m_chipTexts_32b
        rw [gr (by omega), if_neg (by omega), hl.1.2.2.2.2.2.2, gr (by omega), if_pos rfl, g2, bq, hp2, gd_pos (by omega), Int.toNat_natCast, hr.2.1, gr (by omega)]
        by_cases c : s0 9 px = 0
        · rw [if_pos c, if_pos (kd.2.2.mpr c)]
        · rw [if_neg c, if_neg (fun z => c (kd.2.2.mp z))]
      unfold m_chipTexts_32
      rw [lp_next (f := fun l : Int × iS => m_chipTexts_32b (l.1) (l.2)) (l' := ((if s0 9 px = 0 then 0 else 1 : Int), t1)) (by
        show m_chipTexts_32b 1 t = _
        exact eb')]
    rw [g1, bq]
    rcases g3 with ⟨c0, o, qs, rs, ls, es, js, p1, y0, y1, y2, y3, y4, y5, y6, y7, y8, y9, y10⟩ | ⟨f, u, y1, y2, y3, y4, y5, y6⟩
    case inr =>
      have dr : rDd N P t0 f u t1 := ⟨y5, y6, y1⟩
      obtain ⟨x1, x2, x3, px, x4, x5⟩ := id y5
      obtain ⟨t', w1, w2⟩ := dead f u t1 dr y2
      rw [dR39 h ⟨y3, y4, y1⟩ (by omega), eb px x4 x5 x1, e32 _ f u t1 (by split <;> omega) dr, w1]
      exact ⟨_, _, rfl, rfl, Or.inr ⟨f, u, y1, y2, y3, y4, w2⟩⟩
    obtain ⟨a1, a2, a3, a4, a5, a6, a7⟩ := y1.1
    have kp := kRg h a5
    rw [eb p1 a5 a4 a2]
    have hS1 : CHS F P s0 t0 N (C ++ [c0]) (O ++ [o]) (Q ++ qs) (R ++ rs) (L ++ ls) (E ++ es) ((I ++ J) ++ js) := by
      rw [y0] at y10 ⊢
      exact CHS_snoc hS hb.2.1 hE.1 y10
    have hZ1 : ((C ++ [c0]).getD 0 (0, 0, 0, 0)).2 = (0, 0, 0) := by
      by_cases z : C.length = 0
      · obtain ⟨e1, e2, e3⟩ := hZ.1 z
        have eC : C = [] := List.length_eq_zero_iff.mp z
        rw [eC, y0, e1, e2, e3]
        rfl
      · rw [gdL (by omega)]
        exact hZ.2 z
    have lC1 : (C ++ [c0]).length ≠ 0 := by rw [List.length_append]; simp
    by_cases c : s0 9 p1 = 300
    · -- one chip more
      obtain ⟨s', t', i1, i2, i3⟩ := h_chips hH k p1 (C ++ [c0]) (O ++ [o]) (Q ++ qs) (R ++ rs) (L ++ ls) (E ++ es) (I ++ J) js s1 t1 (j + 1) (by omega) (RLv_u y1 y4.2.2.2.2.2.1) y4 y5 y3 y6 y7 hS1 (by omega) ⟨fun z => absurd z lC1, fun _ => hZ1⟩
      obtain ⟨r2, z1, w1, w2⟩ := bd_inv i1
      refine ⟨s', t', ?_, ?_, i3⟩
      · unfold crd_read_39
        rw [lp_next (f := fun l : Int × iS => crd_read_39b (l.1) (l.2)) (l' := (((j + 1 : Nat) : Int), z1)) (by
          show crd_read_39b (j : Int) s1 = _
          unfold crd_read_39b
          rw [gr (by omega), if_neg (by omega), cK h a1 a3 a5, bq, gr (by omega), if_pos c, w1, bq, show (j : Int) + 1 = ((j + 1 : Nat) : Int) by omega])]
        exact w2
      · rw [if_neg (by omega)]
        exact i2
    have ec : crd_read_39 (j : Int) s1 = bd (tok_expect 0 s1) (fun _ s1 => some (0, s1)) := by
      unfold crd_read_39
      rw [lp_end (f := fun l : Int × iS => crd_read_39b (l.1) (l.2)) (e := s1) (by
        show crd_read_39b (j : Int) s1 = _
        unfold crd_read_39b
        rw [gr (by omega), if_neg (by omega), cK h a1 a3 a5, bq, gr (by omega), if_neg c])]
      rfl
    rw [ec]
    have blb := BDa_b y4
    have sz := RLv_sz y1 blb
    by_cases c0' : s0 9 p1 = 0
    · -- the end
      have e0 : m_chipTexts_32 0 t1 = m_chipTexts_68 t1 := by
        unfold m_chipTexts_32
        rw [lp_end (f := fun l : Int × iS => m_chipTexts_32b (l.1) (l.2)) (e := t1) (by
          show m_chipTexts_32b 0 t1 = _
          unfold m_chipTexts_32b
          rw [gr (by omega), if_pos rfl])]
        rfl
      obtain ⟨q1, ⟨q2, q3, q4⟩, ⟨q5, q6⟩, ⟨q7, q8⟩, ⟨q9, q10⟩, ⟨q11, q12⟩, q13⟩ := id y1
      have lC : (C ++ [c0]).length = C.length + 1 := by rw [List.length_append]; rfl
      obtain ⟨b1, b2, b3, b4, b5, b6, b7⟩ := id y4
      rw [if_pos c0', e0, cEx h a1 a3 a5 (by omega) c0', bq]
      obtain ⟨tx, htx⟩ : ∃ tx, tx = up (up (up (up t1 196 (C ++ [c0]).length ((Q ++ qs).length : Int)) 201 (C ++ [c0]).length ((R ++ rs).length : Int)) 212 (C ++ [c0]).length (((I ++ J) ++ js).length : Int)) 203 (R ++ rs).length ((L ++ ls).length : Int) := ⟨_, rfl⟩
      have ftx : ∀ c k, ¬ ((c = 196 ∨ c = 201 ∨ c = 212) ∧ k = (C ++ [c0]).length) → ¬ (c = 203 ∧ k = (R ++ rs).length) → tx c k = t1 c k := fun c k z1 z2 => by rw [htx, up_ne z2, up_ne (by omega), up_ne (by omega), up_ne (by omega)]
      have e68 : m_chipTexts_68 t1 = some (0, tx) := by
        unfold m_chipTexts_68
        rw [q3.1, gd_pos (by omega), Int.toNat_natCast, q6.1, lt_eq, up_ne (show ¬ (121 = 196 ∧ _) by omega), q3.1, gd_pos (by omega), Int.toNat_natCast, up_ne (show ¬ (121 = 196 ∧ _) by omega), q8.1, lt_eq, up_ne (show ¬ (121 = 201 ∧ _) by omega), up_ne (show ¬ (121 = 196 ∧ _) by omega), q3.1, gd_pos (by omega), Int.toNat_natCast, up_ne (show ¬ (121 = 201 ∧ _) by omega), up_ne (show ¬ (121 = 196 ∧ _) by omega), q12.1, lt_eq, up_ne (show ¬ (121 = 212 ∧ _) by omega), up_ne (show ¬ (121 = 201 ∧ _) by omega), up_ne (show ¬ (121 = 196 ∧ _) by omega), q8.1, gd_pos (by omega), Int.toNat_natCast, up_ne (show ¬ (121 = 212 ∧ _) by omega), up_ne (show ¬ (121 = 201 ∧ _) by omega), up_ne (show ¬ (121 = 196 ∧ _) by omega), q10.1, lt_eq, ← htx]
      rw [e68]
      have fsx : ∀ c k, c ≠ 2 → up s1 2 12 ((p1 + 1 : Nat) : Int) c k = s1 c k := fun c k z => up_ne (by omega)
      have pl : p1 = N - 1 := by
        by_cases z : p1 + 1 < N
        · exfalso
          obtain ⟨-, -, -, g⟩ := h.1.1 p1 (by omega)
          rcases g with ⟨x1, x2, _⟩ | ⟨x1, x2, _⟩ | ⟨x1, x2, _⟩ | ⟨x1, x2, x3, x4⟩ | ⟨x1, x2, x3, x4⟩
          · omega
          · omega
          · omega
          · omega
          · split at x2 <;> omega
        · omega
      refine ⟨_, _, rfl, rfl, Or.inl ⟨C ++ [c0], O ++ [o], Q ++ qs, R ++ rs, L ++ ls, E ++ es, (I ++ J) ++ js, ⟨?_, ?_, by rw [up_ne (by omega)]; exact a6.1, by rw [ftx 121 11 (by omega) (by omega)]; exact a7, by rw [up_ne (by omega)]; exact a6.2⟩, ⟨PcC_of q2 (fun c k z => fsx c k (by omega)), PrC_of q3 (fun c k z => ftx c k (by omega) (by omega)), PcO_of q4 (fun k z => fsx 77 k (by omega))⟩, ⟨PcP_of q5 (fun c k z => fsx c k (by omega)), PrP_of q6 (fun c k z => ftx c k (by omega) (by omega))⟩, ⟨PcR_of q7 (fun c k z => fsx c k (by omega)), PrR_of q8 (fun c k z => ftx c k (by omega) (by omega))⟩, ⟨PcL_of q9 (fun c k z => fsx c k (by omega)), PrL_of q10 (fun c k z => ftx c k (by omega) (by omega))⟩, PrI_of q12 (fun c k z => ftx c k (by omega) (by omega)), STc_of q13 (fun c k z => fsx c k (by omega)), ⟨by rw [lC]; omega, b1, b2, b3, b4, b5, by simp, by rw [List.length_append (as := I ++ J)]; show (I ++ J).length + js.length + 0 ≤ _; omega⟩, hS1, y6, fun r hr => by rw [fsx 84 _ (by omega)]; exact y7 r hr, fun _ => ?_, ⟨?_, ?_, ?_, ?_⟩, by rw [← pl]; exact c0', by rw [fsx 87 2 (by omega), q11.1, List.length_map]; omega, hZ1⟩⟩
      · obtain ⟨x1, x2, x3, x4, x5, x6, x7, x8, x9, x10⟩ := a1
        have r : ∀ c, c ≠ 2 → up s1 2 12 ((p1 + 1 : Nat) : Int) c = s1 c := fun c z => funext fun k => up_ne (by omega)
        exact ⟨by rw [r 1 (by omega)]; exact x1, by rw [r 9 (by omega)]; exact x2, by rw [r 10 (by omega)]; exact x3, by rw [r 11 (by omega)]; exact x4, by rw [r 12 (by omega)]; exact x5, by rw [r 13 (by omega)]; exact x6, by rw [up_ne (by omega)]; exact x7, by rw [up_ne (by omega)]; exact x8, by rw [r 42 (by omega)]; exact x9, by rw [r 43 (by omega)]; exact x10⟩
      · obtain ⟨x1, x2, x3, x4, x5, x6⟩ := a2
        have r' : ∀ c, c < 196 → tx c = t1 c := fun c z => funext fun k => ftx c k (by omega) (by omega)
        exact ⟨by rw [r' 123 (by omega)]; exact x1, by rw [r' 124 (by omega)]; exact x2, by rw [r' 125 (by omega)]; exact x3, by rw [r' 126 (by omega)]; exact x4, by rw [r' 127 (by omega)]; exact x5, by rw [r' 121 (by omega)]; exact x6⟩
      · rw [fsx 76 _ (by omega), fsx 78 _ (by omega), lC, show 2 + (C.length + 1) = C.length + 3 by omega]
        exact ⟨y8, y9⟩
      · rw [htx, up_ne (by omega), up_ne (by omega), up_ne (by omega), up_same]
      · rw [htx, up_ne (by omega), up_ne (by omega), up_same]
      · rw [htx, up_ne (by omega), up_same]
      · rw [htx, up_same]
    · -- what is no chip
      rw [if_neg c0', cEx0 h a1 a6.1 a3 a5 (by omega) c0', bq]
      have hf : 0 < (if s0 9 p1 = 2 then (2 : Int) else 1) ∧ (if s0 9 p1 = 2 then (2 : Int) else 1) < 3 := by split <;> omega
      have dr : rDd N P t0 (if s0 9 p1 = 2 then 2 else 1) p1 (flt t1 (if s0 9 p1 = 2 then 2 else 1) P p1) := ⟨DRh_fl a2 a4 a5, SZr_fl sz.2, hf⟩
      have d2 := dr.1.2.1
      have em : m_chip t1 = some (0, flt t1 (if s0 9 p1 = 2 then 2 else 1) P p1) := by
        unfold m_chip m_needWord
        rw [rWc h a2 a4 a5 (by omega), bq, if_neg (by omega), gr (by omega), if_pos rfl, rSy h a2 a7 a4 a5, bq, bq, d2, gr (by split <;> omega), if_neg (by split <;> omega), e29 dr]
      have x5 : flt t1 (if s0 9 p1 = 2 then 2 else 1) P p1 121 10 = (p1 : Int) := by unfold flt; rw [up_ne (by omega), up_ne (by omega)]; exact a4
      obtain ⟨t', w1, w2⟩ := dead _ p1 _ dr a5
      have kd := kd1 h a5
      have e33 : m_chipTexts_32 1 t1 = m_chipTexts_32 1 (flt t1 (if s0 9 p1 = 2 then 2 else 1) P p1) := by
        have eb' : m_chipTexts_32b 1 t1 = some (.inl (1, flt t1 (if s0 9 p1 = 2 then 2 else 1) P p1)) := by
          unfold m_chipTexts_32b
          rw [gr (by omega), if_neg (by omega), a7, gr (by omega), if_pos rfl, em, bq, x5, gd_pos (by omega), Int.toNat_natCast, dr.1.1.2.1, gr (by omega), if_neg (fun z => c0' (kd.2.2.mp z))]
        unfold m_chipTexts_32
        rw [lp_next (f := fun l : Int × iS => m_chipTexts_32b (l.1) (l.2)) (l' := ((1 : Int), flt t1 (if s0 9 p1 = 2 then 2 else 1) P p1)) (by
          show m_chipTexts_32b 1 t1 = _
          exact eb')]
      rw [e33, e32 1 _ p1 _ (Or.inr rfl) dr, w1]
      exact ⟨_, _, rfl, rfl, Or.inr ⟨_, p1, hf, a5, DCh_st a1, SZc_st sz.1, w2⟩⟩
end CHj
