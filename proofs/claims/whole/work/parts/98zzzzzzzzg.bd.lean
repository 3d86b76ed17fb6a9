/-! chips: both boards are wired alike -/
section CLf
variable {p ph : Nat → Nat → Nat} {s t s' t' t0 : iS} {nin nout : Nat} {wd : Nat → Nat} {c pf : Nat}
theorem r_trs {n : Nat} (hn : n ≤ 1500) (h161 : t 121 161 = (n : Int)) (hg : ∀ y, y < n → (t 224 y = 0 ∨ t 224 y = 1) ∧ (∃ b m, TRr t b m (t 225 y)) ∧ (t 224 y = 0 → ∃ b m, TRr t b m (t 225 y + 1))) : ∃ t', m_build_152 t = some (0, t') ∧ (∀ y, y < n → (∀ b m, TRr t b m (t 225 y) → t' 228 y = b) ∧ (t 224 y = 0 → ∀ b m, TRr t b m (t 225 y + 1) → t' 229 y = b) ∧ (t 224 y ≠ 0 → t' 229 y = -1)) ∧ ∀ c' x, c' ≠ 228 → c' ≠ 229 → t' c' x = t c' x := by
  have uni : ∀ b b' m m' x, TRr t b m x → TRr t b' m' x → b = b' := fun b b' m m' x h1 h2 => by
    have a := r_src m x h1
    have e := r_src m' x h2
    rw [a] at e
    exact sm_fst e
  have L := lpG (f := fun l : Int × iS => m_build_154b (l.1) (l.2)) (M := n) (I := fun x l => l.1 = (x : Int) ∧ (∀ y, y < x → (∀ b m, TRr t b m (t 225 y) → l.2 228 y = b) ∧ (t 224 y = 0 → ∀ b m, TRr t b m (t 225 y + 1) → l.2 229 y = b) ∧ (t 224 y ≠ 0 → l.2 229 y = -1)) ∧ ∀ c' y, c' ≠ 228 → c' ≠ 229 → l.2 c' y = t c' y) (J := fun e => (∀ y, y < n → (∀ b m, TRr t b m (t 225 y) → e 228 y = b) ∧ (t 224 y = 0 → ∀ b m, TRr t b m (t 225 y + 1) → e 229 y = b) ∧ (t 224 y ≠ 0 → e 229 y = -1)) ∧ ∀ c' y, c' ≠ 228 → c' ≠ 229 → e c' y = t c' y) (by
    rintro x ⟨v, u⟩ hx ⟨e, e1, e3⟩
    have e' : v = (x : Int) := e
    subst e'
    have e1' : ∀ y, y < x → (∀ b m, TRr t b m (t 225 y) → u 228 y = b) ∧ (t 224 y = 0 → ∀ b m, TRr t b m (t 225 y + 1) → u 229 y = b) ∧ (t 224 y ≠ 0 → u 229 y = -1) := e1
    have e3' : ∀ c' y, c' ≠ 228 → c' ≠ 229 → u c' y = t c' y := e3
    obtain ⟨g1, ⟨b1, m1, g2⟩, g3⟩ := hg x hx
    have sr' : ∀ (r : iS) b m y, (∀ c' y, c' ≠ 228 → c' ≠ 229 → r c' y = t c' y) → TRr t b m y → m_source y r = some (b, r) := fun r b m y hr h => r_src m y (TRr_of (funext fun k => hr 222 k (by omega) (by omega)) (funext fun k => hr 223 k (by omega) (by omega)) m y h)
    have u2 : ∀ c' y, c' ≠ 228 → c' ≠ 229 → up u 228 x b1 c' y = t c' y := fun c' y c1 c2 => by rw [up_ne (by omega)]; exact e3' c' y c1 c2
    have fin : ∀ w : Int, m_build_208 (x : Int) w (x : Int) (up u 228 x b1) = some (.inl ((x : Int) + 1, up (up u 228 x b1) 229 x w)) := fun w => by
      unfold m_build_208
      rw [gd_pos (by omega), Int.toNat_natCast, lt_eq]
    have st : ∃ w, m_build_154b (x : Int) u = some (.inl ((x : Int) + 1, up (up u 228 x b1) 229 x w)) ∧ (t 224 x = 0 → ∀ b m, TRr t b m (t 225 x + 1) → w = b) ∧ (t 224 x ≠ 0 → w = -1) := by
      have st0 : m_build_154b (x : Int) u = if t 224 x = 0 then bd (m_source (t 225 x + 1) (up u 228 x b1)) (fun r9 s9 => m_build_208 (x : Int) r9 (x : Int) s9) else m_build_208 (x : Int) (-1) (x : Int) (up u 228 x b1) := by
        unfold m_build_154b
        rw [gr (by omega), e3' 121 161 (by omega) (by omega), h161, gr (by omega), if_neg (by omega), gd_pos (by omega), Int.toNat_natCast, e3' 225 x (by omega) (by omega), sr' u b1 m1 _ e3' g2, bq, lt_eq, u2 224 x (by omega) (by omega), gr (by omega), u2 225 x (by omega) (by omega)]
      rw [st0]
      by_cases q : t 224 x = 0
      · obtain ⟨b2, m2, g4⟩ := g3 q
        refine ⟨b2, by rw [if_pos q, sr' _ b2 m2 _ u2 g4, bq, fin], fun _ b m hb => uni _ _ _ _ _ g4 hb, fun q2 => absurd q q2⟩
      · exact ⟨-1, by rw [if_neg q, fin], fun q2 => absurd q2 q, fun _ => rfl⟩
    obtain ⟨w, w1, w2, w3⟩ := st
    refine ⟨_, w1, by show (x : Int) + 1 = ((x + 1 : Nat) : Int); omega, ?_, ?_⟩
    · intro y hy
      show (∀ b m, TRr t b m (t 225 y) → up (up u 228 x b1) 229 x w 228 y = b) ∧ (t 224 y = 0 → ∀ b m, TRr t b m (t 225 y + 1) → up (up u 228 x b1) 229 x w 229 y = b) ∧ (t 224 y ≠ 0 → up (up u 228 x b1) 229 x w 229 y = -1)
      by_cases q : y = x
      · rw [q, up_ne (by omega), up_same, up_same]
        exact ⟨fun b m hb => uni _ _ _ _ _ g2 hb, w2, w3⟩
      · rw [up_ne (by omega), up_ne (by omega), up_ne (by omega), up_ne (by omega)]
        exact e1' y (by omega)
    · intro c' y c1 c2
      show up (up u 228 x b1) 229 x w c' y = _
      rw [up_ne (by omega), up_ne (by omega)]
      exact e3' c' y c1 c2) (by
    rintro ⟨v, u⟩ ⟨e, e1, e3⟩
    have e' : v = (n : Int) := e
    subst e'
    have e3' : ∀ c' y, c' ≠ 228 → c' ≠ 229 → u c' y = t c' y := e3
    refine ⟨u, ?_, e1, e3⟩
    show m_build_154b (n : Int) u = _
    unfold m_build_154b
    rw [gr (by omega), e3' 121 161 (by omega) (by omega), h161, gr (by omega), if_pos (by omega)]) n 0 ((0 : Int), t) (by omega) ⟨rfl, fun y hy => absurd hy (Nat.not_lt_zero y), fun _ _ _ _ => rfl⟩
  obtain ⟨t', l1, l2, l3⟩ := L
  refine ⟨t', ?_, l2, l3⟩
  unfold m_build_152 m_build_154
  rw [show lp (L := Int × iS) (E := iS) (fun l => m_build_154b (l.1) (l.2)) (0, t) = some t' from l1, bn]
theorem wire_ok (h : WFp p) (hph : PHw p ph) (hP : PLC p s) (hC : HCn p ph t) (hO : HOw p t) (hR : PLR p t) (hc : c + 1 = p 10 0) (h76 : s 76 (2 + c) = (pf : Int)) (h77 : s 77 (2 + c) = (pf : Int) + nin) (h76' : s 76 (2 + c + 1) = (pf : Int) + nin + nout) (h91 : ∀ k, k < nin + nout → s 91 (pf + k) = (wd k : Int)) (h92 : ∀ k, k < nin + nout → s 92 (pf + k) = ((sW wd 0 k : Nat) : Int)) (hw : ∀ k, k < nin + nout → 1 ≤ wd k ∧ wd k ≤ 16) (hn : nin + nout ≤ 12 ∧ pf + nin + nout ≤ 197) (h5 : p 5 (2 + c) = sW wd 0 nin) (h14 : p 14 (2 + c) = sW wd 0 (nin + nout)) (hb : p 4 (2 + c) + p 11 (2 + c) ≤ 40000) (hg : p 12 (2 + c) ≤ 1500) (h174 : t 121 174 = (c : Int)) : ∃ s' t' n m g d ob, brd_wire ((2 + c : Nat) : Int) s = some (0, s') ∧ m_build t = some (0, t') ∧ BSt n m nin g d ob wd s' t' ∧ OUs n m nin nout ob wd s' t' ∧ (∀ y, y < n → t' 224 y ≠ 0 → t' 229 y = -1) ∧ (∀ c' x, c' ≠ 111 → c' ≠ 113 → c' ≠ 114 → c' ≠ 115 → ¬ (c' = 108 ∧ (x = 14 ∨ x = 15)) → s' c' x = s c' x) ∧ ∀ c' x, c' < 222 → ¬ (c' = 121 ∧ (x = 158 ∨ x = 161 ∨ x = 170)) → t' c' x = t c' x := by
  have c0 : c < p 10 0 := by omega
  have c16 := h.1.2
  have wc := h.2.1 c c0
  have fi := h.2.2.2.2 (2 + c) (by omega)
  have e93 : s 93 (2 + c) = (p 4 (2 + c) : Int) := hP.2.1 _ (by omega)
  -- the class
  obtain ⟨s4, hs4⟩ : ∃ s4, s4 = up (up (sr s 111 (fun i => if i < 40000 then -1 else s 111 i)) 108 14 0) 108 15 (p 4 (2 + c) : Int) := ⟨_, rfl⟩
  have n4 : ∀ c' x, c' ≠ 111 → ¬ (c' = 108 ∧ (x = 14 ∨ x = 15)) → s4 c' x = s c' x := fun c' x c1 c2 => by rw [hs4, up_ne (by omega), up_ne (by omega), sr_ne c1]
  have f4 : ∀ x, x < 40000 → s4 111 x = -1 := fun x hx => by rw [hs4, up_ne (by omega), up_ne (by omega), sr_at, if_pos hx]
  obtain ⟨s5, a1, a2, a3, a4⟩ := c_pins1 (s := s4) (c := c) (pf := pf) (nin := nin) (wd := wd) (by rw [n4 76 _ (by omega) (by omega)]; exact h76) (fun k hk => by rw [n4 91 _ (by omega) (by omega)]; exact h91 k (by omega)) (fun k hk => by rw [n4 92 _ (by omega) (by omega)]; exact h92 k (by omega)) (fun k hk => hw k (by omega)) (by omega) (by omega) (K := fun u => brd_wire_114 ((2 + c : Nat) : Int) ((pf : Int) + nin) u) (fun _ => rfl)
  have n5 : ∀ c' x, c' ≠ 111 → ¬ (c' = 108 ∧ (x = 14 ∨ x = 15)) → s5 c' x = s c' x := fun c' x c1 c2 => by rw [a2 c' x c1]; exact n4 c' x c1 c2
  have P5 : PLC p s5 := PLC_of hP (fun c' x q => n5 c' x (by omega) (by omega))
  obtain ⟨s6, b1, b2, b3, b4, b5, b6, b7⟩ := c_put h 20 c c0 (by omega) 0 0 (p 4 (2 + c)) 0 s5 (by omega) P5 (by rw [a2 108 15 (by omega), hs4, up_same]) (by rw [a2 108 14 (by omega), hs4, up_ne (by omega), up_same]; rfl) (by omega) (by omega) (by omega) (fun j j1 j2 => by rw [a4 _ (by omega)]; exact f4 _ (by omega)) (fun x x1 x2 => by rw [a4 _ (by omega)]; exact f4 _ x2)
  have n6 : ∀ c' x, c' ≠ 111 → c' ≠ 113 → c' ≠ 114 → ¬ (c' = 108 ∧ (x = 14 ∨ x = 15)) → s6 c' x = s c' x := fun c' x c1 c2 c3 c4 => by rw [b5 c' x c1 c2 c3 c4]; exact n5 c' x c1 c4
  -- the reference
  obtain ⟨t3, ht3⟩ : ∃ t3, t3 = up (up (up t 121 158 0) 121 161 0) 121 170 0 := ⟨_, rfl⟩
  have m3 : ∀ c' x, ¬ (c' = 121 ∧ (x = 158 ∨ x = 161 ∨ x = 170)) → t3 c' x = t c' x := fun c' x c1 => by rw [ht3, up_ne (by omega), up_ne (by omega), up_ne (by omega)]
  have S3 : STr t t3 := fun c' x c1 c2 => m3 c' x (by omega)
  obtain ⟨t4, d1, d2, d3, ⟨d4, d5⟩, d6, d7, d8, d9⟩ := r_comp (p := p) (t := t3) (c := c) (u := 0) (w := 0) (by omega) (hO t3 S3 c c0) (by rw [ht3, up_ne (by omega), up_ne (by omega), up_same]; rfl) (by rw [ht3, up_same]; rfl) (by omega) (by omega)
  have S4 : STr t t4 := STr_of S3 (fun c' x c1 c2 => d9 c' x (by omega) (by omega) (by omega))
  obtain ⟨t5, g1, g2, g3, g4, g5, g6, g7, g8, g9, g10, g11⟩ := r_put h hph hC hO hR 20 c c0 (by omega) 0 (0 + p 4 (2 + c)) 0 0 t4 S4 d2 (by rw [d9 121 161 (by omega) (by omega) (by omega), ht3, up_ne (by omega), up_same]; rfl) d3 d4 d5 (by omega) (by omega) (by omega) (by omega) (fun j j1 j2 => (d6 _ (by omega) (by omega)).1) (fun j j1 => (d6 _ (by omega) (by omega)).2)
  rw [Nat.zero_add] at g6 g3 g4 g7 g8 g9
  rw [Nat.zero_add] at b3 b7
  obtain ⟨n, hnn⟩ : ∃ n, n = p 12 (2 + c) := ⟨_, rfl⟩
  obtain ⟨m, hmm⟩ : ∃ m, m = p 4 (2 + c) + p 11 (2 + c) := ⟨_, rfl⟩
  have gx : ∀ x y, GMr p 20 c 0 0 x y → x < n ∧ y < n := fun x y hq => by
    have := GM_rg h 20 c 0 0 x y c0 hq
    omega
  -- the IN pins
  have inp : ∀ j, j < p 5 (2 + c) → TRz p (GMr p 20 c 0 0) m nin wd s6 t5 1 (0 + j) (0 + j) := by
    intro j hj
    rw [h5] at hj
    obtain ⟨k, k1, k2, k3⟩ := find_k (F := fun k => sW wd 0 k) nin (Nat.zero_le j) hj
    have k2' : sW wd 0 k ≤ j := k2
    have k3' : j < sW wd 0 (k + 1) := k3
    rw [sW_s, Nat.zero_add] at k3'
    have ww := hw k (by omega)
    have v1 := a3 k (j - sW wd 0 k) k1 (by omega)
    rw [show sW wd 0 k + (j - sW wd 0 k) = j by omega] at v1
    rw [Nat.zero_add]
    have v2 : s6 111 j = s5 111 j := b6 j (by omega) (by omega)
    have v3 : t5 222 j = -1 := by rw [g7 j (by omega) (by omega)]; exact (d6 j (by omega) (by omega)).1
    have v4 : t5 223 j = 0 := by rw [g8 j (by omega)]; exact (d6 j (by omega) (by omega)).2
    refine ⟨1, 0, ((2 + 16 * k + (j - sW wd 0 k) : Nat) : Int), (j : Int), by omega, ⟨by omega, ?_⟩, ⟨rfl, by omega, Or.inr (Or.inr ?_)⟩, Or.inr (Or.inr (Or.inl ⟨k, j - sW wd 0 k, k1, by omega, rfl, by omega⟩))⟩
    · rw [Int.toNat_natCast, v2, v1]
      exact ⟨rfl, by omega, by omega⟩
    · rw [Int.toNat_natCast]
      exact ⟨v4, v3⟩
  have UP := t_up (p := p) (ph := ph) (G := GMr p 20 c 0 0) (m := m) (nin := nin) (wd := wd) (s := s6) (t := t5) (K := 100) h hph (by omega) 20 c 0 (p 4 (2 + c)) 0 0 (p 4 (2 + c)) 0 1 c0 (by omega) b4 g6 (by omega) (by omega) (by omega) (by omega) (by omega) (fun x y q => q) (by omega) (by omega) inp
  have DN := t_down (p := p) (ph := ph) (G := GMr p 20 c 0 0) (m := m) (nin := nin) (wd := wd) (s := s6) (t := t5) h hph 20 c 0 (p 4 (2 + c)) 0 0 (p 4 (2 + c)) 0 c0 (by omega) b4 g6 (by omega) (by omega) (by omega) (by omega) (by omega) (fun x y q => q)
  -- which gate is which
  have eX : ∀ x, x < n → ∃ y, GMr p 20 c 0 0 x y := fun x hx => GM_x h 20 c 0 0 x c0 (by omega) (by omega) (by omega)
  have eY : ∀ y, y < n → ∃ x, GMr p 20 c 0 0 x y := fun y hy => GM_y h 20 c 0 0 y c0 (by omega) (by omega) (by omega)
  obtain ⟨g, hgG⟩ : ∃ g : Nat → Nat, ∀ x, x < n → GMr p 20 c 0 0 x (g x) := ⟨fun x => @dite _ (x < n) (Classical.propDecidable _) (fun q => (eX x q).choose) (fun _ => 0), fun x hx => by
    show GMr p 20 c 0 0 x (@dite _ (x < n) (Classical.propDecidable _) (fun q => (eX x q).choose) (fun _ => 0))
    rw [dif_pos hx]
    exact (eX x hx).choose_spec⟩
  obtain ⟨d, hdG⟩ : ∃ d : Nat → Nat, ∀ y, y < n → GMr p 20 c 0 0 (d y) y := ⟨fun y => @dite _ (y < n) (Classical.propDecidable _) (fun q => (eY y q).choose) (fun _ => 0), fun y hy => by
    show GMr p 20 c 0 0 (@dite _ (y < n) (Classical.propDecidable _) (fun q => (eY y q).choose) (fun _ => 0)) y
    rw [dif_pos hy]
    exact (eY y hy).choose_spec⟩
  have gd1 : ∀ x, x < n → g x < n ∧ d (g x) = x ∧ d x < n ∧ g (d x) = x := fun x hx => by
    have a := hgG x hx
    have b := gx _ _ a
    have e := hdG x hx
    have f := gx _ _ e
    exact ⟨b.2, GM_2 h 20 c 0 0 _ _ _ c0 (hdG (g x) b.2) a, f.1, GM_1 h 20 c 0 0 _ _ _ c0 (hgG (d x) f.1) e⟩
  -- gates of the class
  have gc : ∀ x, x < n → ∃ i q q', i < 2 ∧ GTc i q x s6 ∧ GTr p i q' (g x) t5 ∧ q' + p 5 i < m ∧ ∀ j, j < p 5 i → TRz p (GMr p 20 c 0 0) m nin wd s6 t5 100 (q + j) (q' + j) := fun x hx => UP x (g x) (hgG x hx)
  obtain ⟨s7, k1, k2, k3⟩ := c_trs (s := s6) (n := n) (v1 := ((2 + c : Nat) : Int)) (v2 := (pf : Int) + nin) (by omega) (by rw [b3, hnn]) (fun x hx => by
    obtain ⟨i, q, q', i2, ⟨r1, r2, r3⟩, r4, r5, r6⟩ := gc x hx
    obtain ⟨z1, z2, z3⟩ := WFg h i2
    obtain ⟨m1, m2, z, b, y1, y2, y3, y4⟩ := r6 0 (by rcases z3 with ⟨-, -, v⟩ | ⟨-, -, v⟩ <;> omega)
    refine ⟨⟨z, m1, by omega, by rw [r1]; exact y2⟩, ?_⟩
    rw [r2]
    by_cases q0 : i = 0
    · rw [if_pos q0]
      obtain ⟨m1, m2, z, b, y1, y2, y3, y4⟩ := r6 1 (by rcases z3 with ⟨v0, -, v⟩ | ⟨v0, -, v⟩ <;> omega)
      have y2' : TRc s6 z m1 ((q : Int) + 1) := y2
      refine Or.inr ⟨by omega, ?_, z, m1, by omega, y2'⟩
      cases m1 with
      | zero =>
        obtain ⟨v1, v2, v3⟩ := y2'
        omega
      | succ m1 => exact y2'.1.2
    · rw [if_neg q0]
      exact Or.inl rfl)
  have n7 : ∀ c' x, c' ≠ 111 → c' ≠ 113 → c' ≠ 114 → ¬ (c' = 108 ∧ (x = 14 ∨ x = 15)) → s7 c' x = s c' x := fun c' x c1 c2 c3 c4 => by rw [k3 c' x c2 c3]; exact n6 c' x c1 c2 c3 c4
  have r111 : s7 111 = s6 111 := funext fun x => k3 111 x (by omega) (by omega)
  have outT : ∀ k i, k < nout → i < wd (nin + k) → TRz p (GMr p 20 c 0 0) m nin wd s6 t5 21 (sW wd 0 (nin + k) + i) (sW wd 0 (nin + k) + i) := by
    intro k i hk hi
    have lo : sW wd 0 nin ≤ sW wd 0 (nin + k) := by
      have := sW_mono (f := wd) (a := 0) k nin
      exact this
    have hi' := sW_lt (f := wd) (a := 0) (show nin + k < nin + nout by omega) (by rw [Nat.zero_add]; exact hi)
    have := DN (sW wd 0 (nin + k) + i) (by omega) (by omega)
    rw [Nat.zero_add, Nat.zero_add, (hph c c0).2.2.1 _ (by omega)] at this
    exact this
  obtain ⟨s8, o1, o2, o3⟩ := c_outs (s := s7) (c := c) (pf := pf) (nin := nin) (nout := nout) (wd := wd) (by rw [n7 76 _ (by omega) (by omega) (by omega) (by omega)]; exact h76') (fun k hk => by rw [n7 91 _ (by omega) (by omega) (by omega) (by omega)]; exact h91 k hk) (fun k hk => by rw [n7 92 _ (by omega) (by omega) (by omega) (by omega)]; exact h92 k hk) hw hn (by omega) (fun k i hk hi => by
    obtain ⟨m1, m2, z, b, y1, y2, y3, y4⟩ := outT k i hk hi
    exact ⟨z, m1, by omega, TRc_of r111 _ _ y2⟩)
  -- the reference's inputs
  have gr' : ∀ y, y < n → ∃ i q q', i < 2 ∧ GTc i q (d y) s6 ∧ GTr p i q' y t5 ∧ q' + p 5 i < m ∧ ∀ j, j < p 5 i → TRz p (GMr p 20 c 0 0) m nin wd s6 t5 100 (q + j) (q' + j) := fun y hy => UP (d y) y (hdG y hy)
  obtain ⟨t6, l1, l2, l3⟩ := r_trs (t := t5) (n := n) (by omega) (by rw [g4, hnn]) (fun y hy => by
    obtain ⟨i, q, q', i2, -, ⟨r1, r2, r3, r4⟩, r5, r6⟩ := gr' y hy
    obtain ⟨z1, z2, z3⟩ := WFg h i2
    obtain ⟨m1, m2, z, b, y1, y2, y3, y4⟩ := r6 0 (by rcases z3 with ⟨-, -, v⟩ | ⟨-, -, v⟩ <;> omega)
    rw [r1, r2]
    refine ⟨by split <;> simp, ⟨b, m2, y3⟩, fun e => ?_⟩
    have i0 : i = 0 := by
      by_cases q1 : i = 1
      · rw [if_pos q1] at e; omega
      · omega
    obtain ⟨m1, m2, z, b, y1, y2, y3, y4⟩ := r6 1 (by rcases z3 with ⟨v0, -, v⟩ | ⟨v0, -, v⟩ <;> omega)
    exact ⟨b, m2, y3⟩)
  -- what corresponds
  obtain ⟨ob, hob⟩ : ∃ ob : Nat → Nat, ob = fun x => (t5 225 (g x)).toNat + (if t5 224 (g x) = 0 then 2 else 1) := ⟨_, rfl⟩
  have obx : ∀ x i q', x < n → i < 2 → GTr p i q' (g x) t5 → ob x = q' + p 5 i ∧ t5 223 (ob x) = (g x : Int) + 1 := by
    intro x i q' hx hi hq
    obtain ⟨r1, r2, r3, r4⟩ := hq
    obtain ⟨z1, z2, z3⟩ := WFg h hi
    have : ob x = q' + p 5 i := by
      rw [hob]
      show (t5 225 (g x)).toNat + (if t5 224 (g x) = 0 then 2 else 1) = _
      rw [r2, r1, Int.toNat_natCast]
      rcases z3 with ⟨v1, v2, v3⟩ | ⟨v1, v2, v3⟩
      · rw [v3, v1, if_neg (show ¬ 0 = 1 by omega), if_pos rfl]
      · rw [v3, v1, if_pos rfl, if_neg (show ¬ (1 : Int) = 0 by omega)]
    exact ⟨this, by rw [this]; exact r4⟩
  have t223 : t6 223 = t5 223 := funext fun x => l3 223 x (by omega) (by omega)
  have t222 : t6 222 = t5 222 := funext fun x => l3 222 x (by omega) (by omega)
  have conv : ∀ z b, SGm p (GMr p 20 c 0 0) m nin wd t5 z b → SGr n m nin ob wd t6 z b := by
    intro z b hq
    unfold SGr
    rw [t223]
    rcases hq with q | q | q | ⟨x, y, q1, q2, i, q', q3, q4, q5⟩
    · exact Or.inl q
    · exact Or.inr (Or.inl q)
    · exact Or.inr (Or.inr (Or.inl q))
    · have xn := (gx x y q1).1
      have ey := GM_1 h 20 c 0 0 _ _ _ c0 q1 (hgG x xn)
      rw [ey] at q4
      exact Or.inr (Or.inr (Or.inr ⟨x, xn, q2, by rw [(obx x i q' xn q3 q4).1]; exact q5⟩))
  refine ⟨s8, t6, n, m, g, d, ob, ?_, ?_, ⟨⟨?_, ?_, by omega⟩, ⟨?_, by omega⟩, ⟨by omega, fun k hk => hw k (by omega), by omega, fun x hx => ?_⟩, gd1, fun x hx => ?_⟩, ?_, ?_, ?_, ?_⟩
  · unfold brd_wire
    rw [fill_ok (by omega), bq, lt_eq, gd_pos (by omega), Int.toNat_natCast, show up (sr s 111 (fun i => if i < 40000 then -1 else s 111 i)) 108 14 0 93 (2 + c) = (p 4 (2 + c) : Int) by rw [up_ne (by omega), sr_ne (by omega)]; exact e93, lt_eq, ← hs4, gd_pos (by omega), n4 77 _ (by omega) (by omega), h77, n4 76 _ (by omega) (by omega), h76, a1]
    show brd_wire_114 ((2 + c : Nat) : Int) ((pf : Int) + nin) s5 = _
    unfold brd_wire_114
    have b1' : brdP 20 0 ((2 + c : Nat) : Int) 0 0 s5 = some (0, s6) := b1
    rw [b1', bq, k1, o1]
  · unfold m_build
    rw [lt_eq, lt_eq, lt_eq, ← ht3, show t3 121 174 = (c : Int) by rw [m3 121 174 (by omega)]; exact h174, show (2 : Int) + (c : Int) = ((2 + c : Nat) : Int) by omega, d1, bq]
    unfold m_build_26
    rw [g1, lp_end (f := fun l : iS => m_build_26b l) (e := t5) (by
      show m_build_26b t5 = _
      unfold m_build_26b
      rw [g5, gr (by omega), if_pos (by omega)]), bn]
    exact l1
  · rw [o2 108 14 (by omega), k3 108 14 (by omega) (by omega), b3, hnn]
  · rw [l3 121 161 (by omega) (by omega), g4, hnn]
  · rw [l3 121 158 (by omega) (by omega), g3, hmm]
  · rw [t223, g8 x (by omega)]
    exact (d6 x (by omega) (by omega)).2
  · obtain ⟨i, q, q', i2, r1, r2, r3, r4⟩ := gc x hx
    obtain ⟨o5, o6⟩ := obx x i q' hx i2 r2
    obtain ⟨z1, z2, z3⟩ := WFg h i2
    obtain ⟨u1, u2, u3⟩ := r1
    obtain ⟨v1, v2, v3, v4⟩ := r2
    obtain ⟨gn, -⟩ := gd1 x hx
    obtain ⟨x1, x2, x3⟩ := k2 x hx
    obtain ⟨y1, y2, y3⟩ := l2 (g x) gn
    have q113 : s8 113 x = s7 113 x := o2 113 x (by omega)
    have q114 : s8 114 x = s7 114 x := o2 114 x (by omega)
    have q224 : t6 224 (g x) = t5 224 (g x) := l3 224 _ (by omega) (by omega)
    have q225 : t6 225 (g x) = t5 225 (g x) := l3 225 _ (by omega) (by omega)
    rw [q224, q225, v1, v2, q113, q114, t223]
    refine ⟨?_, ⟨by omega, by omega, o6⟩, ?_⟩
    · rcases z3 with ⟨w1, w2, w3⟩ | ⟨w1, w2, w3⟩
      · left
        rw [if_neg (by omega)]
        refine ⟨rfl, by omega, ?_⟩
        obtain ⟨m1, m2, z, b, f1, f2, f3, f4⟩ := r4 1 (by omega)
        rw [if_pos w1] at u2
        have e1 : s7 114 x = z := x3 (by omega) z m1 (by omega) (by rw [u2]; exact f2)
        have e2 : t6 229 (g x) = b := y2 (by rw [v1, if_neg (by omega)]) b m2 (by rw [v2]; exact f3)
        rw [e1, e2]
        exact conv z b f4
      · right
        rw [if_pos w1]
        refine ⟨rfl, by omega, ?_⟩
        rw [if_neg (by omega)] at u2
        exact x2 u2
    · obtain ⟨m1, m2, z, b, f1, f2, f3, f4⟩ := r4 0 (by rcases z3 with ⟨-, -, v⟩ | ⟨-, -, v⟩ <;> omega)
      have e1 : s7 113 x = z := x1 z m1 (by omega) (by rw [u1]; exact f2)
      have e2 : t6 228 (g x) = b := y1 b m2 (by rw [v2]; exact f3)
      rw [e1, e2]
      exact conv z b f4
  · intro k i hk hi
    obtain ⟨m1, m2, z, b, f1, f2, f3, f4⟩ := outT k i hk hi
    refine ⟨m2, b, TRr_of t222 t223 _ _ f3, ?_⟩
    rw [o3 k i hk hi z m1 (by omega) (TRc_of r111 _ _ f2)]
    exact conv z b f4
  · intro y hy e
    rw [l3 224 y (by omega) (by omega)] at e
    exact (l2 y hy).2.2 e
  · intro c' x c1 c2 c3 c4 c5
    rw [o2 c' x c4]
    exact n7 c' x c1 c2 c3 c5
  · intro c' x c1 c2
    rw [l3 c' x (by omega) (by omega), g11 c' x (by omega) (by omega) c2, d9 c' x (by omega) (by omega) (by omega), m3 c' x c2]
end CLf
