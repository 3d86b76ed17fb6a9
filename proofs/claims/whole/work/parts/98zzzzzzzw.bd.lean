/-! chips: gates are put in order by both, values are settled -/
section CKr
variable {n m nin nout : Nat} {g d ob wd : Nat → Nat} {lc pf pf' : Nat} {O O' : List Nat} {s t s' t' : iS} {T T' : Nat}
theorem SG_223 (hb : BSt n m nin g d ob wd s t) {z b : Int} (h : SGr n m nin ob wd t z b) : 0 ≤ b → t 223 b.toNat = 0 ∨ 1 ≤ t 223 b.toNat ∧ t 223 b.toNat ≤ (n : Int) := by
  intro hb0
  obtain ⟨⟨-, -, b1⟩, ⟨-, b2⟩, ⟨b3, b4, b5, b6⟩, bg, b7⟩ := hb
  rcases h with ⟨h1, h2 | ⟨x, h2, h3, h4, h5⟩⟩ | ⟨h1, h2⟩ | ⟨k, i, k1, i1, h1, h2⟩ | ⟨x, x1, h1, h2⟩
  · omega
  · left; rw [h2, Int.toNat_natCast]; exact h5
  · omega
  · left
    rw [h2, Int.toNat_natCast]
    exact b6 _ (sW_lt (f := wd) (a := 0) k1 (by rw [Nat.zero_add]; exact i1))
  · right
    rw [h2, Int.toNat_natCast, (b7 x x1).2.1.2.2]
    have := (bg x x1).1
    omega
theorem sort_ok (hb : BSt n m nin g d ob wd s t) (h229 : ∀ y, y < n → t 224 y ≠ 0 → t 229 y = -1) : ∃ s' t' O O' r, brd_sortNands s = some (r, s') ∧ m_order t = some (r, t') ∧ (r = 0 ∨ r = 1) ∧ (r = 1 → ORd n O O' s' t') ∧ (s' 108 16 = (O.length : Int) ∧ O.length ≤ n ∧ (∀ i, i < O.length → s' 116 i = ((O.getD i 0 : Nat) : Int)) ∧ ∀ x ∈ O, x < n ∧ s 114 x ≠ -1) ∧ (∀ c k, ¬ (c = 108 ∧ k = 16) → ¬ (116 ≤ c ∧ c ≤ 120) → s' c k = s c k) ∧ ∀ c k, ¬ (c = 121 ∧ k = 166) → c ≠ 226 → c ≠ 227 → t' c k = t c k := by
  have hb0 := hb
  obtain ⟨⟨c1, c2, c3⟩, ⟨c4, c5⟩, ⟨c6, c7, c8, c9⟩, cg, cx⟩ := hb
  have hA : ∀ x, x < n → (-1 ≤ s 113 x ∧ s 113 x < 1694) ∧ -1 ≤ s 114 x ∧ s 114 x < 1694 := fun x hx => by
    obtain ⟨q, -, o4⟩ := cx x hx
    have r := (SG_rg hb0 o4).1
    refine ⟨by omega, ?_⟩
    rcases q with ⟨q1, q2, q3⟩ | ⟨q1, q2, q3⟩
    · have := (SG_rg hb0 q3).1
      omega
    · omega
  have hG : RGd n t := by
    refine ⟨c2, c3, fun y hy => ?_, fun y hy z hz => ?_⟩
    · obtain ⟨-, -, g3, g4⟩ := cg y hy
      have q := (cx (d y) g3).1
      rw [g4] at q
      rcases q with ⟨q1, -, -⟩ | ⟨q1, -, -⟩
      · exact Or.inl q1
      · exact Or.inr q1
    · obtain ⟨-, -, g3, g4⟩ := cg y hy
      obtain ⟨q, -, o4⟩ := cx (d y) g3
      rw [g4] at q o4
      rcases hz with e | e
      · rw [e]
        exact ⟨(SG_rg hb0 o4).2, SG_223 hb0 o4⟩
      · rw [e]
        rcases q with ⟨q1, q2, q3⟩ | ⟨q1, q2, q3⟩
        · exact ⟨(SG_rg hb0 q3).2, SG_223 hb0 q3⟩
        · rw [h229 y hy (by omega)]
          exact ⟨by omega, fun z => by omega⟩
  obtain ⟨s', O, r, p1, p2, p3, p4, p5, p6, p7, p8⟩ := c_sort c1 c3 hA
  obtain ⟨t', O', r', q1, q2, q3, q4, q5, q6, q7, q8⟩ := r_order hG
  have nand : ∀ x, x < n → s 114 x ≠ -1 → t 224 (g x) = 0 := fun x hx e => by
    rcases (cx x hx).1 with ⟨w1, w2, w3⟩ | ⟨w1, w2, w3⟩
    · exact w1
    · exact absurd w3 e
  have nand' : ∀ x, x < n → t 224 (g x) = 0 → s 114 x ≠ -1 := fun x hx e q => by
    rcases (cx x hx).1 with ⟨w1, w2, w3⟩ | ⟨w1, w2, w3⟩
    · have := (SG_rg hb0 w3).1
      omega
    · omega
  have SE := SRT_eq (g := g) (d := d) p6 q6 cg (fun x hx => ⟨nand x hx, nand' x hx⟩) (fun x hx e => by
    refine ⟨SG_gv hb0 (cx x hx).2.2, ?_⟩
    rcases (cx x hx).1 with ⟨w1, w2, w3⟩ | ⟨w1, w2, w3⟩
    · exact SG_gv hb0 w3
    · exact absurd w3 e) (fun x y hx e q => by
    rcases q with q | q
    · exact (cgv_lt q).1
    · exact (cgv_lt q).1)
  obtain ⟨pm, -⟩ := SE
  have al : (∀ x, x < n → s 114 x ≠ -1 → x ∈ O) ↔ ∀ x, x < n → t 224 x = 0 → x ∈ O' := by
    constructor
    · intro h y hy e
      obtain ⟨-, -, g3, g4⟩ := cg y hy
      have := h (d y) g3 (nand' _ g3 (by rw [g4]; exact e))
      rw [← g4, ← pm.mem_iff]
      exact List.mem_map.mpr ⟨_, this, rfl⟩
    · intro h x hx e
      have := h (g x) (cg x hx).1 (nand x hx e)
      rw [← pm.mem_iff] at this
      obtain ⟨y, y1, y2⟩ := List.mem_map.mp this
      have yn : y < n := (p6.2.1 y y1).1
      have e1 := (cg y yn).2.1
      rw [y2, (cg x hx).2.1] at e1
      rw [e1]
      exact y1
  have er : r' = r := by
    rcases p2 with e | e <;> rcases q2 with e' | e'
    · rw [e, e']
    · have := p3.mpr (al.mpr (q3.mp e'))
      omega
    · have := q3.mpr (al.mp (p3.mp e))
      omega
    · rw [e, e']
  have r113 : s' 113 = s 113 := funext fun k => p8 113 k (by omega) (by omega)
  have r114 : s' 114 = s 114 := funext fun k => p8 114 k (by omega) (by omega)
  have rt : ∀ c, 223 ≤ c → c ≤ 229 → c ≠ 226 → c ≠ 227 → t' c = t c := fun c d1 d2 d3 d4 => funext fun k => q8 c k (by omega) d3 d4
  refine ⟨s', t', O, O', r, p1, by rw [← er]; exact q1, p2, fun hr => ⟨⟨p4, p5⟩, ⟨q4, q5⟩, ?_, ?_, ?_, ?_, p7, q7⟩, ⟨p4, ?_, p5, p6.2.1⟩, p8, q8⟩
  · unfold cgv
    rw [r113, r114]
    exact p6
  · unfold rgv
    rw [rt 223 (by omega) (by omega) (by omega) (by omega), rt 224 (by omega) (by omega) (by omega) (by omega), rt 228 (by omega) (by omega) (by omega) (by omega), rt 229 (by omega) (by omega) (by omega) (by omega)]
    exact q6
  · rw [r114]
    exact p3.mp hr
  · rw [rt 224 (by omega) (by omega) (by omega) (by omega)]
    exact q3.mp (by omega)
  · have := nodup_len O (List.range n) p6.1 (fun x hx => List.mem_range.mpr (p6.2.1 x hx).1)
    rw [List.length_range] at this
    exact this
/-- the end of build -/
noncomputable def btl (s : iS) : Option (Int × iS) := bd (brd_sortNands s) (fun r9 s9 => gd (r9 = 0 ∨ r9 = 1) (lt' (up s9 108 18 r9) (fun s11 => bd (arr_fill 112 1694 0 s11) (fun _ s12 => lt' (up s12 112 1 1) (fun s13 => lt' (up s13 108 17 0) (fun s14 => bd (brd_settle s14) (fun _ s15 => gd ((s15 108 18) = 0 ∨ (s15 108 18) = 1) (some ((s15 108 18), s15)))))))))
theorem build_tail (hb : BSt n m nin g d ob wd s t) (h229 : ∀ y, y < n → t 224 y ≠ 0 → t 229 y = -1) (hp : PNs nin nout wd lc pf pf' s t) (ho : OUs n m nin nout ob wd s t) (h69 : t 121 69 = 0) : ∃ r s' t', btl s = some (r, s') ∧ (r = 1 ∧ m_chips_160 1 t = some (0, t') ∧ t' 121 4 = -1 ∧ QBd 0 s' t' ∨ r = 0 ∧ m_chips_160 1 t = some (6, t') ∧ t' 121 4 = t 121 3 ∧ s' 108 18 = 0 ∧ t' 121 152 = t 121 152 ∧ t' 121 174 = t 121 174) ∧ (∀ c k, c < 222 → c ≠ 121 → t' c k = t c k) ∧ t' 121 1 = t 121 1 := by
  obtain ⟨s1, t1, O, O', r, p1, p2, p3, p4, ⟨p5, p6, p7, p8⟩, p9, p10⟩ := sort_ok hb h229
  have hb0 := hb
  obtain ⟨⟨c1, c2, c3⟩, ⟨c4, c5⟩, ⟨c6, c7, c8, c9⟩, cg, cx⟩ := hb
  obtain ⟨s5, hs5⟩ : ∃ s5, s5 = up (up (sr (up s1 108 18 r) 112 (fun i => if i < 1694 then 0 else up s1 108 18 r 112 i)) 112 1 1) 108 17 0 := ⟨_, rfl⟩
  have n5 : ∀ c k, c ≠ 112 → ¬ (c = 108 ∧ (k = 17 ∨ k = 18)) → s5 c k = s1 c k := fun c k k1 k2 => by rw [hs5, up_ne (by omega), up_ne (by omega), sr_ne k1, up_ne (by omega)]
  have v5 : ∀ k, k < 1694 → s5 112 k = if k = 1 then 1 else 0 := fun k hk => by
    rw [hs5, up_ne (by omega)]
    by_cases e : k = 1
    · rw [e, up_same, if_pos rfl]
    · rw [up_ne (by omega), sr_at, if_pos hk, if_neg e]
  have b5 : s5 108 18 = r := by rw [hs5, up_ne (by omega), up_ne (by omega), sr_ne (by omega), up_same]
  have w5 : s5 108 17 = 0 := by rw [hs5, up_same]
  have e113 : s5 113 = s 113 := funext fun k => by rw [n5 113 k (by omega) (by omega)]; exact p9 113 k (by omega) (by omega)
  have e114 : s5 114 = s 114 := funext fun k => by rw [n5 114 k (by omega) (by omega)]; exact p9 114 k (by omega) (by omega)
  have head : btl s = bd (brd_settle s5) (fun _ s15 => gd ((s15 108 18) = 0 ∨ (s15 108 18) = 1) (some ((s15 108 18), s15))) := by
    unfold btl
    rw [p1, bq, gd_pos p3, lt_eq, fill_ok (by omega), bq, lt_eq, lt_eq, ← hs5]
  rcases p3 with e | e
  · -- a ring of Nands
    obtain ⟨s', a1, a2, a3, a4⟩ := c_settle (s := s5) (O := O) (by rw [n5 108 16 (by omega) (by omega)]; exact p5) (by omega) (fun i hi => by rw [n5 116 i (by omega) (by omega)]; exact p7 i hi) (fun x hx => by
      obtain ⟨x1, x2⟩ := p8 x hx
      rw [e113, e114]
      obtain ⟨q, -, o4⟩ := cx x x1
      refine ⟨by omega, (SG_rg hb0 o4).1, ?_⟩
      rcases q with ⟨q1, q2, q3⟩ | ⟨q1, q2, q3⟩
      · exact (SG_rg hb0 q3).1
      · exact absurd q3 x2) (fun k hk => by
      rw [v5 k hk]
      by_cases q : k = 1
      · rw [if_pos q]; exact Or.inr rfl
      · rw [if_neg q]; exact Or.inl rfl)
    have f1 : s' 108 18 = 0 := by rw [a4 108 18 (by omega), b5, e]
    refine ⟨0, s', up (up (up t1 121 69 6) 121 70 (t 121 3)) 121 4 (t 121 3), ?_, Or.inr ⟨rfl, ?_, ?_, f1, ?_, ?_⟩, fun c k c1 c2 => by rw [up_ne (by omega), up_ne (by omega), up_ne (by omega)]; exact p10 c k (by omega) (by omega) (by omega), by rw [up_ne (by omega), up_ne (by omega), up_ne (by omega)]; exact p10 121 1 (by omega) (by omega) (by omega)⟩
    · rw [head, a1, bq, f1, gd_pos (Or.inl rfl)]
    · unfold m_chips_160
      rw [gr (by omega), if_neg (by omega), p2, bq, e, gr (by omega), if_pos rfl]
      unfold m_chips_171
      rw [lt_eq, lt_eq]
      unfold m_chips_185
      rw [lt_eq]
      have z1 : up t1 121 69 6 121 3 = t 121 3 := by rw [up_ne (by omega)]; exact p10 121 3 (by omega) (by omega) (by omega)
      rw [z1]
      have z2 : up (up t1 121 69 6) 121 70 (t 121 3) 121 70 = t 121 3 := up_same ..
      rw [z2]
      have z3 : up (up (up t1 121 69 6) 121 70 (t 121 3)) 121 4 (t 121 3) 121 69 = 6 := by rw [up_ne (by omega), up_ne (by omega), up_same]
      rw [z3, gr (by omega), if_neg (by omega)]
    · exact up_same ..
    · rw [up_ne (by omega), up_ne (by omega), up_ne (by omega)]
      exact p10 121 152 (by omega) (by omega) (by omega)
    · rw [up_ne (by omega), up_ne (by omega), up_ne (by omega)]
      exact p10 121 174 (by omega) (by omega) (by omega)
  · have hO := p4 e
    obtain ⟨t5, ht5⟩ : ∃ t5, t5 = up (up (up (up t1 121 4 (t1 121 70)) 121 4 (-1)) 121 152 1) 121 173 0 := ⟨_, rfl⟩
    have m5 : ∀ c k, ¬ (c = 121 ∧ (k = 4 ∨ k = 152 ∨ k = 173)) → t5 c k = t1 c k := fun c k k1 => by rw [ht5, up_ne (by omega), up_ne (by omega), up_ne (by omega), up_ne (by omega)]
    have t158 : t1 121 158 = (m : Int) := by rw [p10 121 158 (by omega) (by omega) (by omega)]; exact c4
    have L := lpG (f := fun l : Int × iS => m_chips_222b (l.1) (l.2)) (M := m) (I := fun k l => l.1 = (k : Int) ∧ (∀ x, x < k → l.2 230 x = 0) ∧ ∀ c x, c ≠ 230 → l.2 c x = t5 c x) (J := fun e => (∀ x, x < m → e 230 x = 0) ∧ ∀ c x, c ≠ 230 → e c x = t5 c x) (by
      rintro k ⟨v, u⟩ hk ⟨e, e1, e2⟩
      have e' : v = (k : Int) := e
      subst e'
      have e1' : ∀ x, x < k → u 230 x = 0 := e1
      have e2' : ∀ c x, c ≠ 230 → u c x = t5 c x := e2
      refine ⟨((k : Int) + 1, up u 230 k 0), ?_, by show (k : Int) + 1 = ((k + 1 : Nat) : Int); omega, ?_, ?_⟩
      · show m_chips_222b (k : Int) u = _
        unfold m_chips_222b
        rw [gr (by omega), e2' 121 158 (by omega), m5 121 158 (by omega), t158, gr (by omega), if_neg (by omega), gd_pos (by omega), Int.toNat_natCast, lt_eq]
      · intro x hx
        show up u 230 k 0 230 x = 0
        by_cases q : x = k
        · rw [q, up_same]
        · rw [up_ne (by omega)]; exact e1' x (by omega)
      · intro c x hc
        show up u 230 k 0 c x = _
        rw [up_ne (by omega)]; exact e2' c x hc) (by
      rintro ⟨v, u⟩ ⟨e, e1, e2⟩
      have e' : v = (m : Int) := e
      subst e'
      have e2' : ∀ c x, c ≠ 230 → u c x = t5 c x := e2
      refine ⟨u, ?_, e1, e2⟩
      show m_chips_222b (m : Int) u = _
      unfold m_chips_222b
      rw [gr (by omega), e2' 121 158 (by omega), m5 121 158 (by omega), t158, gr (by omega), if_pos (by omega)]) m 0 ((0 : Int), t5) (by omega) ⟨rfl, fun x hx => absurd hx (Nat.not_lt_zero x), fun _ _ _ => rfl⟩
    obtain ⟨t6, l1, l2, l3⟩ := L
    have q6 : ∀ c k, ¬ (c = 121 ∧ (k = 4 ∨ k = 152 ∨ k = 173 ∨ k = 166)) → c ≠ 230 → c ≠ 226 → c ≠ 227 → t6 c k = t c k := fun c k k1 k2 k3 k4 => by rw [l3 c k k2, m5 c k (by omega)]; exact p10 c k (by omega) k3 k4
    have rt : ∀ c, 223 ≤ c → c ≤ 229 → c ≠ 226 → c ≠ 227 → t6 c = t c := fun c d1 d2 d3 d4 => funext fun k => q6 c k (by omega) (by omega) d3 d4
    have rt1 : ∀ c, 223 ≤ c → c ≤ 229 → t6 c = t1 c := fun c d1 d2 => funext fun k => by rw [l3 c k (by omega), m5 c k (by omega)]
    have B6 : BSt n m nin g d ob wd s5 t6 := by
      have hb1 := hb0
      unfold BSt SGr at hb1 ⊢
      rw [e113, e114, n5 108 14 (by omega) (by omega), p9 108 14 (by omega) (by omega), q6 121 161 (by omega) (by omega) (by omega) (by omega), q6 121 158 (by omega) (by omega) (by omega) (by omega), rt 223 (by omega) (by omega) (by omega) (by omega), rt 224 (by omega) (by omega) (by omega) (by omega), rt 225 (by omega) (by omega) (by omega) (by omega), rt 228 (by omega) (by omega) (by omega) (by omega), rt 229 (by omega) (by omega) (by omega) (by omega)]
      exact hb1
    have O6 : ORd n O O' s5 t6 := ORd_of hO ⟨n5 108 16 (by omega) (by omega), by rw [e113]; exact (funext fun k => p9 113 k (by omega) (by omega)).symm, by rw [e114]; exact (funext fun k => p9 114 k (by omega) (by omega)).symm, funext fun k => n5 116 k (by omega) (by omega), funext fun k => n5 117 k (by omega) (by omega)⟩ ⟨by rw [l3 121 166 (by omega), m5 121 166 (by omega)], rt1⟩
    have V6 : VAL n m nin ob wd (fun x => s5 114 x = -1) s5 t6 := by
      refine ⟨⟨by rw [v5 0 (by omega)]; rfl, by rw [v5 1 (by omega)]; rfl⟩, ?_, ?_, ?_, ?_⟩
      · intro k i k1 i1
        have wk := c7 k k1
        have l := sW_lt (f := wd) (a := 0) k1 (by rw [Nat.zero_add]; exact i1)
        rw [v5 _ (by omega), if_neg (by omega), l2 _ (by omega)]
      · intro x x1 x2 _
        exact l2 x x2
      · intro x hx _
        rw [v5 _ (by omega), if_neg (by omega), l2 _ (cx x hx).2.1.1]
      · intro k hk
        rw [v5 k hk]
        by_cases q : k = 1
        · rw [if_pos q]; exact Or.inr rfl
        · rw [if_neg q]; exact Or.inl rfl
    obtain ⟨⟨d1, d2⟩, ⟨d3, d4⟩, d5, d6, d7, d8, -, -⟩ := id O6
    obtain ⟨s', t', f1, f2, f3, f4, f5⟩ := stl_ok B6 d1 d2 d3 d4 d5 d6 d7 d8 V6
    have fs : s' 108 18 = 1 := by rw [f4 108 18 (by omega), b5, e]
    refine ⟨1, s', t', ?_, Or.inl ⟨rfl, ?_, ?_, Or.inr ⟨n, m, nin, nout, g, d, ob, wd, lc, pf, pf', O, O', ?_, ?_, ?_, f3, ?_, ⟨fs, ?_⟩, ?_, ?_, ?_⟩⟩, fun c k c1 c2 => by rw [f5 c k (by omega)]; exact q6 c k (by omega) (by omega) (by omega) (by omega), by rw [f5 121 1 (by omega)]; exact q6 121 1 (by omega) (by omega) (by omega) (by omega)⟩
    · rw [head, f1, bq, fs, gd_pos (Or.inr rfl)]
    · unfold m_chips_160
      rw [gr (by omega), if_neg (by omega), p2, bq, e, gr (by omega), if_neg (by omega)]
      unfold m_chips_185
      rw [lt_eq]
      have z1 : up t1 121 4 (t1 121 70) 121 69 = 0 := by rw [up_ne (by omega), p10 121 69 (by omega) (by omega) (by omega)]; exact h69
      rw [z1, gr (by omega), if_pos (by omega), lt_eq, lt_eq, lt_eq, ← ht5]
      unfold m_chips_222
      rw [show lp (L := Int × iS) (E := iS) (fun l => m_chips_222b (l.1) (l.2)) (0, t5) = some t6 from l1, bn]
      unfold m_chips_243
      rw [f2, bq]
    · rw [f5 121 4 (by omega), l3 121 4 (by omega), ht5, up_ne (by omega), up_ne (by omega), up_same]
    · exact BSt_of B6 ⟨f4 108 14 (by omega), funext fun k => f4 113 k (by omega), funext fun k => f4 114 k (by omega)⟩ ⟨f5 121 161 (by omega), f5 121 158 (by omega), fun c _ _ => funext fun k => f5 c k (by omega)⟩
    · have gs : ∀ c k, c ≠ 112 → c ≠ 108 → ¬ (116 ≤ c ∧ c ≤ 120) → s' c k = s c k := fun c k k1 k2 k3 => by rw [f4 c k k1, n5 c k k1 (by omega)]; exact p9 c k (by omega) k3
      have gt : ∀ c k, ¬ (c = 121 ∧ (k = 4 ∨ k = 152 ∨ k = 173 ∨ k = 166)) → c ≠ 230 → c ≠ 226 → c ≠ 227 → t' c k = t c k := fun c k k1 k2 k3 k4 => by rw [f5 c k k2]; exact q6 c k k1 k2 k3 k4
      exact PNs_of hp ⟨gs 72 2 (by omega) (by omega) (by omega), funext fun k => gs 76 k (by omega) (by omega) (by omega), funext fun k => gs 77 k (by omega) (by omega) (by omega), funext fun k => gs 91 k (by omega) (by omega) (by omega)⟩ ⟨gt 121 122 (by omega) (by omega) (by omega) (by omega), gt 121 174 (by omega) (by omega) (by omega) (by omega), funext fun k => gt 196 k (by omega) (by omega) (by omega) (by omega), funext fun k => gt 197 k (by omega) (by omega) (by omega) (by omega), funext fun k => gt 199 k (by omega) (by omega) (by omega) (by omega)⟩
    · exact ORd_of O6 ⟨f4 108 16 (by omega), funext fun k => f4 113 k (by omega), funext fun k => f4 114 k (by omega), funext fun k => f4 116 k (by omega), funext fun k => f4 117 k (by omega)⟩ ⟨f5 121 166 (by omega), fun c _ _ => funext fun k => f5 c k (by omega)⟩
    · intro k i k1 i1
      obtain ⟨m', b, a1, a2⟩ := ho k i k1 i1
      have t222 : t' 222 = t 222 := funext fun k => by rw [f5 222 k (by omega)]; exact q6 222 k (by omega) (by omega) (by omega) (by omega)
      have t223 : t' 223 = t 223 := funext fun k => by rw [f5 223 k (by omega)]; exact q6 223 k (by omega) (by omega) (by omega) (by omega)
      refine ⟨m', b, TRr_of t222 t223 _ _ a1, ?_⟩
      rw [f4 115 _ (by omega), n5 115 _ (by omega) (by omega), p9 115 _ (by omega) (by omega)]
      unfold SGr at a2 ⊢
      rw [t223]
      exact a2
    · rw [f5 121 152 (by omega), l3 121 152 (by omega), ht5, up_ne (by omega), up_same]
    · rw [f4 108 17 (by omega), w5, f5 121 173 (by omega), l3 121 173 (by omega), ht5, up_same]
    · rw [f4 108 17 (by omega), w5]; omega
    · rw [f4 108 17 (by omega), w5]; omega
end CKr
