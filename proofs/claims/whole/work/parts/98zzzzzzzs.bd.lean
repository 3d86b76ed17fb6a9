/-! chips: drive -/
section CKn
variable {n m nin nout : Nat} {g d ob wd : Nat → Nat} {lc pf pf' : Nat} {O O' : List Nat} {s t s' t' : iS} {T T' : Nat}
theorem PNs_of (h : PNs nin nout wd lc pf pf' s t) (hs : s' 72 2 = s 72 2 ∧ s' 76 = s 76 ∧ s' 77 = s 77 ∧ s' 91 = s 91) (ht : t' 121 122 = t 121 122 ∧ t' 121 174 = t 121 174 ∧ t' 196 = t 196 ∧ t' 197 = t 197 ∧ t' 199 = t 199) : PNs nin nout wd lc pf pf' s' t' := by
  unfold PNs at h ⊢
  rw [hs.1, hs.2.1, hs.2.2.1, hs.2.2.2, ht.1, ht.2.1, ht.2.2.1, ht.2.2.2.1, ht.2.2.2.2]
  exact h
theorem ORd_of (h : ORd n O O' s t) (hs : s' 108 16 = s 108 16 ∧ s' 113 = s 113 ∧ s' 114 = s 114 ∧ s' 116 = s 116 ∧ s' 117 = s 117) (ht : t' 121 166 = t 121 166 ∧ ∀ c, 223 ≤ c → c ≤ 229 → t' c = t c) : ORd n O O' s' t' := by
  unfold ORd cgv rgv at h ⊢
  rw [hs.1, hs.2.1, hs.2.2.1, hs.2.2.2.1, hs.2.2.2.2, ht.1, ht.2 223 (by omega) (by omega), ht.2 224 (by omega) (by omega), ht.2 226 (by omega) (by omega), ht.2 227 (by omega) (by omega), ht.2 228 (by omega) (by omega), ht.2 229 (by omega) (by omega)]
  exact h
/-- values have changed, the board stands -/
theorem BRg_of (h : BRg n m nin nout g d ob wd lc pf pf' O O' T s t) (hs : ∀ c k, c ≠ 112 → c ≠ 118 → ¬ (c = 108 ∧ k = 17) → s' c k = s c k) (ht : ∀ c k, c ≠ 230 → c ≠ 233 → ¬ (c = 121 ∧ k = 173) → t' c k = t c k) (hv : VAL n m nin ob wd (fun _ => True) s' t') (hT : s' 108 17 = t' 121 173 ∧ 0 ≤ s' 108 17 ∧ s' 108 17 ≤ (T' : Int)) : BRg n m nin nout g d ob wd lc pf pf' O O' T' s' t' := by
  obtain ⟨h1, h2, h3, h4, h5, h6, h7⟩ := h
  have rs : ∀ c, c ≠ 112 → c ≠ 118 → c ≠ 108 → s' c = s c := fun c c1 c2 c3 => funext fun k => hs c k c1 c2 (by omega)
  have rt : ∀ c, c ≠ 230 → c ≠ 233 → c ≠ 121 → t' c = t c := fun c c1 c2 c3 => funext fun k => ht c k c1 c2 (by omega)
  refine ⟨BSt_of h1 ⟨hs 108 14 (by omega) (by omega) (by omega), rs 113 (by omega) (by omega) (by omega), rs 114 (by omega) (by omega) (by omega)⟩ ⟨ht 121 161 (by omega) (by omega) (by omega), ht 121 158 (by omega) (by omega) (by omega), fun c c1 c2 => rt c (by omega) (by omega) (by omega)⟩, PNs_of h2 ⟨hs 72 2 (by omega) (by omega) (by omega), rs 76 (by omega) (by omega) (by omega), rs 77 (by omega) (by omega) (by omega), rs 91 (by omega) (by omega) (by omega)⟩ ⟨ht 121 122 (by omega) (by omega) (by omega), ht 121 174 (by omega) (by omega) (by omega), rt 196 (by omega) (by omega) (by omega), rt 197 (by omega) (by omega) (by omega), rt 199 (by omega) (by omega) (by omega)⟩, ORd_of h3 ⟨hs 108 16 (by omega) (by omega) (by omega), rs 113 (by omega) (by omega) (by omega), rs 114 (by omega) (by omega) (by omega), rs 116 (by omega) (by omega) (by omega), rs 117 (by omega) (by omega) (by omega)⟩ ⟨ht 121 166 (by omega) (by omega) (by omega), fun c c1 c2 => rt c (by omega) (by omega) (by omega)⟩, hv, ?_, ⟨by rw [hs 108 18 (by omega) (by omega) (by omega)]; exact h6.1, by rw [ht 121 152 (by omega) (by omega) (by omega)]; exact h6.2⟩, hT⟩
  intro k i k1 i1
  obtain ⟨m', b, a1, a2⟩ := h5 k i k1 i1
  refine ⟨m', b, TRr_of (rt 222 (by omega) (by omega) (by omega)) (rt 223 (by omega) (by omega) (by omega)) _ _ a1, ?_⟩
  rw [hs 115 _ (by omega) (by omega) (by omega)]
  unfold SGr at a2 ⊢
  rw [rt 223 (by omega) (by omega) (by omega)]
  exact a2
theorem VAL_w {P P' : Nat → Prop} (h : VAL n m nin ob wd P s t) (hP : ∀ x, P' x → P x) : VAL n m nin ob wd P' s t := ⟨h.1, h.2.1, h.2.2.1, fun x x1 x2 => h.2.2.2.1 x x1 (hP x x2), h.2.2.2.2⟩
theorem BRg_pins (h : PNs nin nout wd lc pf pf' s t) : brd_inPins s = some ((nin : Int), s) ∧ brd_outPins s = some ((nout : Int), s) ∧ brd_lastChip s = some (((lc + 2 : Nat) : Int), s) := by
  obtain ⟨⟨p1, p2, p3, p4⟩, ⟨q1, q2, q3⟩, -, -, -⟩ := h
  have l : brd_lastChip s = some (((lc + 2 : Nat) : Int), s) := by
    unfold brd_lastChip
    rw [p1, show (lc : Int) + 3 - 1 = ((lc + 2 : Nat) : Int) by omega]
  refine ⟨?_, ?_, l⟩
  · unfold brd_inPins
    rw [l, bq, gd_pos (by omega), l, bq, gd_pos (by omega), Int.toNat_natCast, q1, q2, show (pf : Int) + nin - pf = nin by omega]
  · unfold brd_outPins
    rw [l, bq, gd_pos (by omega), l, bq, gd_pos (by omega), show (((lc + 2 : Nat) : Int) + 1).toNat = lc + 3 by omega, Int.toNat_natCast, q3, q2, show (pf : Int) + nin + nout - (pf + nin) = nout by omega]
theorem settle_br (h : BRg n m nin nout g d ob wd lc pf pf' O O' T s t) {s1 t1 : iS} (hs : ∀ c k, c ≠ 112 → c ≠ 118 → ¬ (c = 108 ∧ k = 17) → s1 c k = s c k) (ht : ∀ c k, c ≠ 230 → c ≠ 233 → ¬ (c = 121 ∧ k = 173) → t1 c k = t c k) (hv : VAL n m nin ob wd (fun x => s 114 x = -1) s1 t1) (hT : s1 108 17 = t1 121 173 ∧ 0 ≤ s1 108 17 ∧ s1 108 17 ≤ (T' : Int)) : ∃ s' t', brd_settle s1 = some (0, s') ∧ m_settle t1 = some (0, t') ∧ BRg n m nin nout g d ob wd lc pf pf' O O' T' s' t' := by
  have h0 := h
  obtain ⟨h1, h2, h3, h4, h5, h6, h7⟩ := h
  have rs : ∀ c, c ≠ 112 → c ≠ 118 → c ≠ 108 → s1 c = s c := fun c c1 c2 c3 => funext fun k => hs c k c1 c2 (by omega)
  have rt : ∀ c, c ≠ 230 → c ≠ 233 → c ≠ 121 → t1 c = t c := fun c c1 c2 c3 => funext fun k => ht c k c1 c2 (by omega)
  have b1 : BSt n m nin g d ob wd s1 t1 := BSt_of h1 ⟨hs 108 14 (by omega) (by omega) (by omega), rs 113 (by omega) (by omega) (by omega), rs 114 (by omega) (by omega) (by omega)⟩ ⟨ht 121 161 (by omega) (by omega) (by omega), ht 121 158 (by omega) (by omega) (by omega), fun c c1 c2 => rt c (by omega) (by omega) (by omega)⟩
  have o1 : ORd n O O' s1 t1 := ORd_of h3 ⟨hs 108 16 (by omega) (by omega) (by omega), rs 113 (by omega) (by omega) (by omega), rs 114 (by omega) (by omega) (by omega), rs 116 (by omega) (by omega) (by omega), rs 117 (by omega) (by omega) (by omega)⟩ ⟨ht 121 166 (by omega) (by omega) (by omega), fun c c1 c2 => rt c (by omega) (by omega) (by omega)⟩
  obtain ⟨⟨c1, c2⟩, ⟨c3, c4⟩, c5, c6, c7, c8, -, -⟩ := o1
  obtain ⟨s', t', p1, p2, p3, p4, p5⟩ := stl_ok b1 c1 c2 c3 c4 c5 c6 c7 c8 (by rw [rs 114 (by omega) (by omega) (by omega)]; exact hv)
  refine ⟨s', t', p1, p2, BRg_of h0 (fun c k q1 q2 q3 => by rw [p4 c k q1]; exact hs c k q1 q2 q3) (fun c k q1 q2 q3 => by rw [p5 c k q1]; exact ht c k q1 q2 q3) p3 ?_⟩
  rw [p4 108 17 (by omega), p5 121 173 (by omega)]
  exact hT
theorem bit01 {v i : Int} : i_and (i_shr v i) 1 = 0 ∨ i_and (i_shr v i) 1 = 1 := by
  have := i_and_le (m := 1) (i_shr v i) (by omega)
  omega
theorem drive_ok (h : QBd T s t) {k v : Int} (hk : rg k) : ∃ r s' t', x_drive k v s = some (r, s') ∧ m_drive k v t = some (r, t') ∧ rg r ∧ QBd T s' t' := by
  have hk' := hk.2
  have hk1 := hk.1
  rcases h with ⟨a1, a2, a3, a4⟩ | ⟨n, m, nin, nout, g, d, ob, wd, lc, pf, pf', O, O', hB⟩
  · refine ⟨0, s, t, ?_, ?_, ⟨by omega, by omega⟩, Or.inl ⟨a1, a2, a3, a4⟩⟩
    · unfold x_drive brd_driveInput
      rw [a1, gr (by omega), if_pos rfl, bq, gd_pos (Or.inl rfl)]
    · unfold m_drive m_boardPin
      rw [gd_pos (by omega)]
      unfold m_boardPin_13
      rw [lp_end (f := fun l : Int × Int × iS => m_boardPin_13b k 0 (l.1) (l.2.1) (l.2.2)) (e := .inr t) (by
        show m_boardPin_13b k 0 k (t 196 (t 121 174).toNat) t = _
        unfold m_boardPin_13b
        rw [a2, gr (by omega), if_pos rfl]), bn]
      show bd (some (-1, t)) _ = _
      rw [bq, gr (by omega), if_pos rfl]
  · have hB0 := hB
    obtain ⟨b1, b2, b3, b4, b5, ⟨b6, b6'⟩, b7⟩ := hB
    obtain ⟨i1, i2, i3⟩ := BRg_pins b2
    have rb := r_bp b2 b6' hk (o := 0) (Or.inl rfl)
    rw [if_pos (show (0 : Int) = 0 from rfl), if_pos (show (0 : Int) = 0 from rfl)] at rb
    have b20 := b2
    obtain ⟨⟨p1, p2, p3, p4⟩, ⟨q1, q2, q3⟩, ⟨r1, r2⟩, ⟨u1, u2, u3, u4, u5⟩, w⟩ := b2
    by_cases c1 : k < 0
    · rw [if_neg (fun q => by omega)] at rb
      refine ⟨0, s, t, ?_, ?_, ⟨by omega, by omega⟩, Or.inr ⟨n, m, nin, nout, g, d, ob, wd, lc, pf, pf', O, O', hB0⟩⟩
      · unfold x_drive brd_driveInput
        rw [b6, gr (by omega), if_neg (by omega), gr (by omega), if_pos c1, bq, gd_pos (Or.inl rfl)]
      · unfold m_drive
        rw [rb, bq, gr (by omega), if_pos rfl]
    · by_cases c2 : k < (nin : Int)
      · rw [if_pos ⟨by omega, c2⟩] at rb
        obtain ⟨x, hx⟩ : ∃ x : Nat, k = (x : Int) := ⟨k.toNat, by omega⟩
        subst hx
        obtain ⟨⟨w1, w2⟩, w3, w4, -⟩ := w x (by omega)
        -- the class sets the bits
        have L := lpG (f := fun l : Int × iS => brd_driveInput_47b (x : Int) v (wd x : Int) (l.1) (l.2)) (M := wd x) (I := fun i l => l.1 = (i : Int) ∧ (∀ j, j < i → l.2 112 (2 + 16 * x + j) = i_and (i_shr v (j : Int)) 1) ∧ ∀ c y, ¬ (c = 112 ∧ 2 + 16 * x ≤ y ∧ y < 2 + 16 * x + wd x) → l.2 c y = s c y) (J := fun e => (∀ j, j < wd x → e 112 (2 + 16 * x + j) = i_and (i_shr v (j : Int)) 1) ∧ ∀ c y, ¬ (c = 112 ∧ 2 + 16 * x ≤ y ∧ y < 2 + 16 * x + wd x) → e c y = s c y) (by
          rintro i ⟨v4, u⟩ hi ⟨e, e1, e2⟩
          have e' : v4 = (i : Int) := e
          subst e'
          have e1' : ∀ j, j < i → u 112 (2 + 16 * x + j) = i_and (i_shr v (j : Int)) 1 := e1
          have e2' : ∀ c y, ¬ (c = 112 ∧ 2 + 16 * x ≤ y ∧ y < 2 + 16 * x + wd x) → u c y = s c y := e2
          refine ⟨((i : Int) + 1, up u 112 (2 + 16 * x + i) (i_and (i_shr v (i : Int)) 1)), ?_, by show (i : Int) + 1 = ((i + 1 : Nat) : Int); omega, ?_, ?_⟩
          · show brd_driveInput_47b (x : Int) v (wd x : Int) (i : Int) u = _
            unfold brd_driveInput_47b brd_slotOf
            rw [gr (by omega), gr (by omega), if_neg (by omega), bq, gd_pos (by omega), lt_eq, show (2 + (16 * (x : Int) + (i : Int))).toNat = 2 + 16 * x + i by omega]
          · intro j hj
            show up u 112 (2 + 16 * x + i) _ 112 (2 + 16 * x + j) = _
            by_cases q : j = i
            · rw [q, up_same]
            · rw [up_ne (by omega)]
              exact e1' j (by omega)
          · intro c y q
            show up u 112 (2 + 16 * x + i) _ c y = _
            rw [up_ne (by omega)]
            exact e2' c y q) (by
          rintro ⟨v4, u⟩ ⟨e, e1, e2⟩
          have e' : v4 = (wd x : Int) := e
          subst e'
          refine ⟨u, ?_, e1, e2⟩
          show brd_driveInput_47b (x : Int) v (wd x : Int) (wd x : Int) u = _
          unfold brd_driveInput_47b
          rw [gr (by omega), gr (by omega), if_pos (by omega)]) (wd x) 0 ((0 : Int), s) (by omega) ⟨rfl, fun j hj => absurd hj (Nat.not_lt_zero j), fun _ _ _ => rfl⟩
        obtain ⟨s1, l1, l2, l3⟩ := L
        -- the reference too
        have sl := sW_lt (f := wd) (a := 0) (i := wd x - 1) (k := x) (N := nin) (by omega) (by rw [Nat.zero_add]; omega)
        have lm := b1.2.2.1.2.2.1
        have lm2 := b1.2.1.2
        have R := lpG (f := fun l : Int × iS => m_drive_17b v ((pf' + x : Nat) : Int) (l.1) (l.2)) (M := wd x) (I := fun i l => l.1 = (i : Int) ∧ (∀ j, j < i → l.2 230 (sW wd 0 x + j) = i_and (i_shr v (j : Int)) 1) ∧ ∀ c y, ¬ (c = 230 ∧ sW wd 0 x ≤ y ∧ y < sW wd 0 x + wd x) → l.2 c y = t c y) (J := fun e => (∀ j, j < wd x → e 230 (sW wd 0 x + j) = i_and (i_shr v (j : Int)) 1) ∧ ∀ c y, ¬ (c = 230 ∧ sW wd 0 x ≤ y ∧ y < sW wd 0 x + wd x) → e c y = t c y) (by
          rintro i ⟨v4, u⟩ hi ⟨e, e1, e2⟩
          have e' : v4 = (i : Int) := e
          subst e'
          have e1' : ∀ j, j < i → u 230 (sW wd 0 x + j) = i_and (i_shr v (j : Int)) 1 := e1
          have e2' : ∀ c y, ¬ (c = 230 ∧ sW wd 0 x ≤ y ∧ y < sW wd 0 x + wd x) → u c y = t c y := e2
          have pu : PNs nin nout wd lc pf pf' s u := PNs_of b20 ⟨rfl, rfl, rfl, rfl⟩ ⟨e2' 121 122 (by omega), e2' 121 174 (by omega), funext fun y => e2' 196 y (by omega), funext fun y => e2' 197 y (by omega), funext fun y => e2' 199 y (by omega)⟩
          refine ⟨((i : Int) + 1, up u 230 (sW wd 0 x + i) (i_and (i_shr v (i : Int)) 1)), ?_, by show (i : Int) + 1 = ((i + 1 : Nat) : Int); omega, ?_, ?_⟩
          · show m_drive_17b v ((pf' + x : Nat) : Int) (i : Int) u = _
            unfold m_drive_17b
            rw [gd_pos (by omega), gr (by omega), Int.toNat_natCast, e2' 199 (pf' + x) (by omega), w4, gr (by omega), if_neg (by omega), e2' 121 174 (by omega), p3, r_pp pu (by omega), bq, gd_pos (by omega), lt_eq, show (((sW wd 0 x : Nat) : Int) + (i : Int)).toNat = sW wd 0 x + i by omega]
          · intro j hj
            show up u 230 (sW wd 0 x + i) _ 230 (sW wd 0 x + j) = _
            by_cases q : j = i
            · rw [q, up_same]
            · rw [up_ne (by omega)]
              exact e1' j (by omega)
          · intro c y q
            show up u 230 (sW wd 0 x + i) _ c y = _
            rw [up_ne (by omega)]
            exact e2' c y q) (by
          rintro ⟨v4, u⟩ ⟨e, e1, e2⟩
          have e' : v4 = (wd x : Int) := e
          subst e'
          have e2' : ∀ c y, ¬ (c = 230 ∧ sW wd 0 x ≤ y ∧ y < sW wd 0 x + wd x) → u c y = t c y := e2
          refine ⟨u, ?_, e1, e2⟩
          show m_drive_17b v ((pf' + x : Nat) : Int) (wd x : Int) u = _
          unfold m_drive_17b
          rw [gd_pos (by omega), gr (by omega), Int.toNat_natCast, e2' 199 (pf' + x) (by omega), w4, gr (by omega), if_pos (by omega)]) (wd x) 0 ((0 : Int), t) (by omega) ⟨rfl, fun j hj => absurd hj (Nat.not_lt_zero j), fun _ _ _ => rfl⟩
        obtain ⟨t1, m1, m2, m3⟩ := R
        have hv : VAL n m nin ob wd (fun x => s 114 x = -1) s1 t1 := by
          obtain ⟨⟨v1, v2⟩, v3, v4, v5, v6⟩ := b4
          refine ⟨⟨by rw [l3 112 0 (by omega)]; exact v1, by rw [l3 112 1 (by omega)]; exact v2⟩, ?_, ?_, ?_, ?_⟩
          · intro y i y1 i1
            have wy := (w y (by omega)).1
            by_cases q : y = x
            · rw [q] at i1 ⊢
              rw [l2 i i1, m2 i i1]
            · rw [l3 112 _ (by omega), m3 230 _ ?_]
              · exact v3 y i y1 i1
              · intro z
                rcases Nat.lt_or_gt_of_ne q with z2 | z2
                · have := sW_lt (f := wd) (a := 0) (i := i) (k := y) (N := x) z2 (by rw [Nat.zero_add]; exact i1)
                  omega
                · have := sW_lt (f := wd) (a := 0) (i := wd x - 1) (k := x) (N := y) z2 (by rw [Nat.zero_add]; omega)
                  omega
          · intro y y1 y2 y3
            rw [m3 223 y (by omega)] at y3
            rw [m3 230 y (by omega)]
            exact v4 y y1 y2 y3
          · intro y y1 _
            have o3 := (b1.2.2.2.2 y y1).2.1.2.2
            have o4 : ¬ ob y < sW wd 0 nin := fun z => by
              have := b1.2.2.1.2.2.2 (ob y) z
              omega
            rw [l3 112 _ (by omega), m3 230 _ (by omega)]
            exact v5 y y1 trivial
          · intro y hy
            by_cases z : 2 + 16 * x ≤ y ∧ y < 2 + 16 * x + wd x
            · have := l2 (y - (2 + 16 * x)) (by omega)
              rw [show 2 + 16 * x + (y - (2 + 16 * x)) = y by omega] at this
              rw [this]
              exact bit01
            · rw [l3 112 y (by omega)]
              exact v6 y hy
        obtain ⟨s', t', f1, f2, f3⟩ := settle_br (T' := T) hB0 (s1 := s1) (t1 := t1) (fun c y c1 _ _ => l3 c y (by omega)) (fun c y c1 _ _ => m3 c y (by omega)) hv (by rw [l3 108 17 (by omega), m3 121 173 (by omega)]; exact b7)
        refine ⟨1, s', t', ?_, ?_, ⟨by omega, by omega⟩, Or.inr ⟨n, m, nin, nout, g, d, ob, wd, lc, pf, pf', O, O', f3⟩⟩
        · unfold x_drive brd_driveInput
          rw [b6, gr (by omega), if_neg (by omega), gr (by omega), if_neg c1, i1, bq, gr (by omega), if_pos c2, i3, bq, gd_pos (by omega), Int.toNat_natCast, q1, gd_pos (by omega), show ((pf : Int) + (x : Int)).toNat = pf + x by omega, w3]
          unfold brd_driveInput_47
          rw [show lp (L := Int × iS) (E := iS) (fun l => brd_driveInput_47b (x : Int) v (wd x : Int) (l.1) (l.2)) (0, s) = some s1 from l1, bn]
          unfold brd_driveInput_78
          rw [f1, bq, bq, gd_pos (Or.inr rfl)]
        · unfold m_drive
          rw [rb, bq, show (pf' : Int) + 0 + (x : Int) = ((pf' + x : Nat) : Int) by omega, gr (by omega), if_neg (by omega)]
          unfold m_drive_17
          rw [show lp (L := Int × iS) (E := iS) (fun l => m_drive_17b v ((pf' + x : Nat) : Int) (l.1) (l.2)) (0, t) = some t1 from m1, bn]
          unfold m_drive_57
          rw [f2, bq]
      · rw [if_neg (fun q => c2 q.2)] at rb
        refine ⟨0, s, t, ?_, ?_, ⟨by omega, by omega⟩, Or.inr ⟨n, m, nin, nout, g, d, ob, wd, lc, pf, pf', O, O', hB0⟩⟩
        · unfold x_drive brd_driveInput
          rw [b6, gr (by omega), if_neg (by omega), gr (by omega), if_neg c1, i1, bq, gr (by omega), if_neg c2, bq, gd_pos (Or.inl rfl)]
        · unfold m_drive
          rw [rb, bq, gr (by omega), if_pos rfl]
end CKn
