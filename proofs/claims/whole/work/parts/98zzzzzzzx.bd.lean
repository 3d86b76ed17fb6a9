/-! chips: the plan of the chips, in short: numbers p; what the class wires -/
section CKs
variable (p : Nat → Nat → Nat) (ph : Nat → Nat → Nat)
/-- the parts of chip c -/
def npC (c : Nat) : Nat := p 0 (c + 1) - p 0 c
/-- p 0 first parts, 1 chips of parts, 2 and 3 links of parts, 4 own bits, 5 IN bits, 6 widths, 7 left places, 8 OUT, 9 targets + 2, 10 number of chips, 11 bits below, 12 gates, 13 ranks, 14 bits of pins -/
def LKw (c r l : Nat) : Prop := p 6 l ≤ 16 ∧ (p 8 l = 0 ∧ p 7 l + p 6 l ≤ p 5 (p 1 r) ∧ (p 9 l < 2 ∨ p 9 l - 2 + p 6 l ≤ p 4 (2 + c)) ∨ p 8 l = 1 ∧ p 5 (p 1 r) ≤ p 7 l ∧ p 7 l + p 6 l ≤ p 14 (p 1 r) ∧ 2 ≤ p 9 l ∧ p 5 (2 + c) ≤ p 9 l - 2 ∧ p 9 l - 2 + p 6 l ≤ p 4 (2 + c))
def WFp : Prop := (1 ≤ p 10 0 ∧ p 10 0 ≤ 16) ∧ (∀ c, c < p 10 0 → p 0 c ≤ p 0 (c + 1) ∧ p 0 (c + 1) ≤ 384 ∧ 1 ≤ p 13 (2 + c) ∧ p 13 (2 + c) ≤ 16 ∧ p 11 (2 + c) = sW (fun r => p 4 (p 1 r) + p 11 (p 1 r)) (p 0 c) (npC p c) ∧ p 12 (2 + c) = sW (fun r => p 12 (p 1 r)) (p 0 c) (npC p c)) ∧ (∀ c r, c < p 10 0 → p 0 c ≤ r → r < p 0 (c + 1) → p 1 r < 2 + p 10 0 ∧ p 13 (p 1 r) < p 13 (2 + c) ∧ p 2 r ≤ p 3 r ∧ p 3 r ≤ 500 ∧ ∀ l, p 2 r ≤ l → l < p 3 r → LKw p c r l) ∧ (p 4 0 = 3 ∧ p 5 0 = 2 ∧ p 4 1 = 2 ∧ p 5 1 = 1 ∧ p 11 0 = 0 ∧ p 11 1 = 0 ∧ p 12 0 = 1 ∧ p 12 1 = 1) ∧ ∀ i, i < 2 + p 10 0 → p 5 i < p 14 i ∧ p 14 i ≤ p 4 i ∧ 2 ≤ p 4 i
/-- what gives an IN bit of part r: -1 nothing, -2 true, else a place of the chip -/
def IWf (r : Nat) : Nat → Nat → Int
  | 0, _ => -1
  | m + 1, j => if p 8 (p 2 r + m) = 0 ∧ p 7 (p 2 r + m) ≤ j ∧ j < p 7 (p 2 r + m) + p 6 (p 2 r + m) then (if p 9 (p 2 r + m) < 2 then (p 9 (p 2 r + m) : Int) - 2 else ((p 9 (p 2 r + m) - 2 + (j - p 7 (p 2 r + m)) : Nat) : Int)) else IWf r m j
/-- what gives another bit of the chip: a place of a part -/
def OWl (k r : Nat) (o : Nat → Option (Nat × Nat)) : Nat → Nat → Option (Nat × Nat)
  | 0, j => o j
  | m + 1, j => if p 8 (p 2 r + m) = 1 ∧ p 9 (p 2 r + m) - 2 ≤ j ∧ j < p 9 (p 2 r + m) - 2 + p 6 (p 2 r + m) then some (k, p 7 (p 2 r + m) + (j - (p 9 (p 2 r + m) - 2))) else OWl k r o m j
def OWp (c : Nat) : Nat → Nat → Option (Nat × Nat)
  | 0, _ => none
  | k + 1, j => OWl p k (p 0 c + k) (OWp c k) (p 3 (p 0 c + k) - p 2 (p 0 c + k)) j
def IWa (r : Nat) : Nat → Int := IWf p r (p 3 r - p 2 r)
/-- the class's places -/
def cbk (c u k : Nat) : Nat := u + sW (fun r => p 4 (p 1 r) + p 11 (p 1 r)) (p 0 c) k
def cgk (c g k : Nat) : Nat := g + sW (fun r => p 12 (p 1 r)) (p 0 c) k
def cIW (b : Nat) (v : Int) : Int := if v < 0 then v else (b : Int) + v
def cOW (c u : Nat) : Option (Nat × Nat) → Int
  | none => -1
  | some (k, i) => ((cbk p c u k + i : Nat) : Int)
/-- the class's rows -/
def LKs (r l : Nat) (s : iS) : Prop := (0 ≤ s 95 l ∧ s 95 l < 197) ∧ s 92 (s 95 l).toNat + s 96 l = (p 7 l : Int) ∧ s 97 l = (p 6 l : Int) ∧ s 98 l = (p 9 l : Int) - 2 ∧ (0 ≤ s 77 (p 1 r) ∧ s 77 (p 1 r) < 1000) ∧ p 8 l = if s 95 l < s 77 (p 1 r) then 0 else 1
def PLC (s : iS) : Prop := (∀ c, c ≤ p 10 0 → s 78 (2 + c) = (p 0 c : Int)) ∧ (∀ i, i < 2 + p 10 0 → s 93 i = (p 4 i : Int)) ∧ ∀ c r, c < p 10 0 → p 0 c ≤ r → r < p 0 (c + 1) → s 94 r = (p 1 r : Int) ∧ s 84 r = (p 2 r : Int) ∧ s 84 (r + 1) = (p 3 r : Int) ∧ ∀ l, p 2 r ≤ l → l < p 3 r → LKs p r l s
/-- a gate in the class -/
def GTc (i q g : Nat) (s : iS) : Prop := s 113 g = (q : Int) ∧ s 114 g = (if i = 0 then (q : Int) + 1 else -1) ∧ s 111 (if i = 0 then q + 2 else q + 1) = -1 - (194 + (g : Int))
/-- what the class has wired below chip c -/
def WCt : Nat → Nat → Nat → Nat → Nat → iS → Prop
  | 0, _, _, _, _, _ => False
  | f + 1, c, b, u, g, s => (∀ j, p 5 (2 + c) ≤ j → j < p 4 (2 + c) → s 111 (b + j) = cOW p c u (OWp p c (npC p c) j)) ∧ ∀ k, k < npC p c → (∀ j, j < p 5 (p 1 (p 0 c + k)) → s 111 (cbk p c u k + j) = cIW b (IWa p (p 0 c + k) j)) ∧ (p 1 (p 0 c + k) < 2 → GTc (p 1 (p 0 c + k)) (cbk p c u k) (cgk p c g k) s) ∧ (2 ≤ p 1 (p 0 c + k) → WCt f (p 1 (p 0 c + k) - 2) (cbk p c u k) (cbk p c u k + p 4 (p 1 (p 0 c + k))) (cgk p c g k) s)
end CKs
section CKt
variable {p : Nat → Nat → Nat} {s s' : iS}
theorem cbk_s {c u k : Nat} : cbk p c u (k + 1) = cbk p c u k + (p 4 (p 1 (p 0 c + k)) + p 11 (p 1 (p 0 c + k))) := by
  unfold cbk
  rw [sW_s]
  omega
theorem cgk_s {c g k : Nat} : cgk p c g (k + 1) = cgk p c g k + p 12 (p 1 (p 0 c + k)) := by
  unfold cgk
  rw [sW_s]
  omega
theorem cbk_m {c u k k' : Nat} (h : k ≤ k') : cbk p c u k ≤ cbk p c u k' := by
  unfold cbk
  have := sW_mono (f := fun r => p 4 (p 1 r) + p 11 (p 1 r)) (a := p 0 c) (k' - k) k
  rw [show k + (k' - k) = k' by omega] at this
  omega
theorem cgk_m {c g k k' : Nat} (h : k ≤ k') : cgk p c g k ≤ cgk p c g k' := by
  unfold cgk
  have := sW_mono (f := fun r => p 12 (p 1 r)) (a := p 0 c) (k' - k) k
  rw [show k + (k' - k) = k' by omega] at this
  omega
theorem cbk_e (h : WFp p) {c u : Nat} (hc : c < p 10 0) : cbk p c u (npC p c) = u + p 11 (2 + c) := by
  unfold cbk
  rw [(h.2.1 c hc).2.2.2.2.1]
theorem cgk_e (h : WFp p) {c g : Nat} (hc : c < p 10 0) : cgk p c g (npC p c) = g + p 12 (2 + c) := by
  unfold cgk
  rw [(h.2.1 c hc).2.2.2.2.2]
/-- part k of chip c -/
theorem WF_r (h : WFp p) {c k : Nat} (hc : c < p 10 0) (hk : k < npC p c) : p 0 c + k < p 0 (c + 1) ∧ p 1 (p 0 c + k) < 2 + p 10 0 ∧ p 13 (p 1 (p 0 c + k)) < p 13 (2 + c) ∧ p 2 (p 0 c + k) ≤ p 3 (p 0 c + k) ∧ p 3 (p 0 c + k) ≤ 500 ∧ ∀ l, p 2 (p 0 c + k) ≤ l → l < p 3 (p 0 c + k) → LKw p c (p 0 c + k) l := by
  unfold npC at hk
  exact ⟨by omega, h.2.2.1 c (p 0 c + k) hc (by omega) (by omega)⟩
theorem cbk_in (h : WFp p) {c u k : Nat} (hc : c < p 10 0) (hk : k < npC p c) : cbk p c u k + p 4 (p 1 (p 0 c + k)) + p 11 (p 1 (p 0 c + k)) ≤ u + p 11 (2 + c) ∧ u ≤ cbk p c u k := by
  have := cbk_m (p := p) (c := c) (u := u) (show k + 1 ≤ npC p c by omega)
  rw [cbk_e h hc, cbk_s] at this
  have := cbk_m (p := p) (c := c) (u := u) (Nat.zero_le k)
  have e0 : cbk p c u 0 = u := rfl
  omega
theorem cgk_in (h : WFp p) {c g k : Nat} (hc : c < p 10 0) (hk : k < npC p c) : cgk p c g k + p 12 (p 1 (p 0 c + k)) ≤ g + p 12 (2 + c) ∧ g ≤ cgk p c g k := by
  have := cgk_m (p := p) (c := c) (g := g) (show k + 1 ≤ npC p c by omega)
  rw [cgk_e h hc, cgk_s] at this
  have := cgk_m (p := p) (c := c) (g := g) (Nat.zero_le k)
  have e0 : cgk p c g 0 = g := rfl
  omega
theorem WCt_of (h : WFp p) : ∀ (f c b u g : Nat), c < p 10 0 → WCt p f c b u g s → (∀ x, (b + p 5 (2 + c) ≤ x ∧ x < b + p 4 (2 + c)) ∨ (u ≤ x ∧ x < u + p 11 (2 + c)) → s' 111 x = s 111 x) → (∀ x, g ≤ x → x < g + p 12 (2 + c) → s' 113 x = s 113 x ∧ s' 114 x = s 114 x) → WCt p f c b u g s'
  | 0, _, _, _, _, _, hw, _, _ => hw
  | f + 1, c, b, u, g, hc, hw, h1, h2 => by
    obtain ⟨a1, a2⟩ := hw
    refine ⟨fun j j1 j2 => by rw [h1 _ (Or.inl ⟨by omega, by omega⟩)]; exact a1 j j1 j2, fun k hk => ?_⟩
    obtain ⟨b1, b2, b3⟩ := a2 k hk
    obtain ⟨w1, w2, w3, w4, w5, w6⟩ := WF_r h hc hk
    have ci := cbk_in h (u := u) hc hk
    have gi := cgk_in h (g := g) hc hk
    have fi := h.2.2.2.2 _ w2
    refine ⟨fun j hj => by rw [h1 _ (Or.inr ⟨by omega, by omega⟩)]; exact b1 j hj, fun q => ?_, fun q => ?_⟩
    · obtain ⟨d1, d2, d3⟩ := b2 q
      have pg : p 12 (p 1 (p 0 c + k)) = 1 := by
        have : p 1 (p 0 c + k) = 0 ∨ p 1 (p 0 c + k) = 1 := by omega
        rcases this with e | e <;> rw [e]
        · exact h.2.2.2.1.2.2.2.2.2.2.1
        · exact h.2.2.2.1.2.2.2.2.2.2.2
      have po : 3 ≤ p 4 (p 1 (p 0 c + k)) ∨ p 1 (p 0 c + k) ≠ 0 := by
        by_cases e : p 1 (p 0 c + k) = 0
        · left; rw [e, h.2.2.2.1.1]; omega
        · exact Or.inr e
      have hg := h2 (cgk p c g k) (by omega) (by omega)
      refine ⟨by rw [hg.1]; exact d1, by rw [hg.2]; exact d2, ?_⟩
      rw [h1 _ (Or.inr ?_)]
      · exact d3
      · by_cases e : p 1 (p 0 c + k) = 0
        · rw [if_pos e]; omega
        · rw [if_neg e]; omega
    · have e2 : 2 + (p 1 (p 0 c + k) - 2) = p 1 (p 0 c + k) := by omega
      refine WCt_of h f (p 1 (p 0 c + k) - 2) _ _ _ (by omega) (b3 q) (fun x hx => h1 x (Or.inr ?_)) (fun x x1 x2 => h2 x (by omega) ?_)
      · rw [e2] at hx
        omega
      · rw [e2] at x2
        omega
/-- the class: a link -/
theorem c_jl (h : WFp p) {c k l b q : Nat} (hc : c < p 10 0) (hk : k < npC p c) (hl : p 2 (p 0 c + k) ≤ l ∧ l < p 3 (p 0 c + k)) (hs : LKs p (p 0 c + k) l s) (hb : b + p 4 (2 + c) ≤ 40000) (hq : q + p 4 (p 1 (p 0 c + k)) ≤ 40000) {v2 : Int} (hv : v2 = (p 8 l : Int)) : ∃ s', brd_joinLink (l : Int) v2 (b : Int) (q : Int) s = some (0, s') ∧ (∀ c' x, c' ≠ 111 → s' c' x = s c' x) ∧ (p 8 l = 0 → ∀ x, s' 111 x = if q + p 7 l ≤ x ∧ x < q + p 7 l + p 6 l then (if p 9 l < 2 then (p 9 l : Int) - 2 else ((b + (p 9 l - 2) + (x - (q + p 7 l)) : Nat) : Int)) else s 111 x) ∧ (p 8 l = 1 → ∀ x, s' 111 x = if b + (p 9 l - 2) ≤ x ∧ x < b + (p 9 l - 2) + p 6 l then ((q + p 7 l + (x - (b + (p 9 l - 2))) : Nat) : Int) else s 111 x) := by
  obtain ⟨w1, w2, w3, w4, w5, w6⟩ := WF_r h hc hk
  obtain ⟨k1, k2⟩ := w6 l hl.1 hl.2
  have fi := h.2.2.2.2 _ w2
  obtain ⟨s1, s2, s3, s4, s5, s6⟩ := hs
  have r8 : p 8 l = 0 ∨ p 8 l = 1 := by rw [s6]; split <;> simp
  obtain ⟨D, hD⟩ : ∃ D : Nat, D = if p 8 l = 0 then q + p 7 l else b + (p 9 l - 2) := ⟨_, rfl⟩
  obtain ⟨V, hV⟩ : ∃ V : Nat → Int, V = fun j => if p 8 l = 0 then (if p 9 l < 2 then (p 9 l : Int) - 2 else ((b + (p 9 l - 2) + j : Nat) : Int)) else ((q + p 7 l + j : Nat) : Int) := ⟨_, rfl⟩
  have dB : D + p 6 l ≤ 40000 := by
    rw [hD]
    rcases k2 with ⟨e, e1, e2⟩ | ⟨e, e1, e2, e3, e4, e5⟩
    · rw [if_pos e]; omega
    · rw [if_neg (by omega)]; omega
  have L := lpG (f := fun x : Int × iS => brd_joinLink_46b (l : Int) v2 (b : Int) ((q : Int) + p 7 l) ((p 9 l : Int) - 2) (x.1) (x.2)) (M := p 6 l) (I := fun i x => x.1 = (i : Int) ∧ (∀ c' y, c' ≠ 111 → x.2 c' y = s c' y) ∧ ∀ y, x.2 111 y = if D ≤ y ∧ y < D + i then V (y - D) else s 111 y) (J := fun e => (∀ c' y, c' ≠ 111 → e c' y = s c' y) ∧ ∀ y, e 111 y = if D ≤ y ∧ y < D + p 6 l then V (y - D) else s 111 y) (by
    rintro i ⟨v, u⟩ hi ⟨e, e1, e2⟩
    have e' : v = (i : Int) := e
    subst e'
    have e1' : ∀ c' y, c' ≠ 111 → u c' y = s c' y := e1
    have e2' : ∀ y, u 111 y = if D ≤ y ∧ y < D + i then V (y - D) else s 111 y := e2
    have jn : ∀ w : Int, brd_join ((D + i : Nat) : Int) w u = some (0, up u 111 (D + i) w) := fun w => by
      unfold brd_join
      rw [gr (by omega), if_neg (by omega), if_neg (by omega), gd_pos (by omega), Int.toNat_natCast, lt_eq]
    refine ⟨((i : Int) + 1, up u 111 (D + i) (V i)), ?_, by show (i : Int) + 1 = ((i + 1 : Nat) : Int); omega, ?_, ?_⟩
    · show brd_joinLink_46b (l : Int) v2 (b : Int) ((q : Int) + p 7 l) ((p 9 l : Int) - 2) (i : Int) u = _
      unfold brd_joinLink_46b
      rw [gd_pos (by omega), gr (by omega), Int.toNat_natCast, e1' 97 l (by omega), s3, gr (by omega), if_neg (by omega)]
      have r9 : p 9 l < 100000 := by
        rcases k2 with ⟨e, e1, e2⟩ | ⟨e, e1, e2, e3, e4, e5⟩ <;> omega
      rw [gr (by omega)]
      rcases k2 with ⟨e, e3, e4⟩ | ⟨e, e3, e4, e5, e6, e7⟩
      · have hD' : D = q + p 7 l := by rw [hD, if_pos e]
        have dd : (q : Int) + p 7 l + (i : Int) = ((D + i : Nat) : Int) := by omega
        by_cases c1 : p 9 l = 1
        · rw [if_pos (by omega)]
          unfold brd_joinLink_73
          rw [gr (by omega), if_neg (by omega)]
          unfold brd_joinLink_91 brd_give
          have : V i = -1 - 0 := by rw [hV]; show (if p 8 l = 0 then _ else _) = _; rw [if_pos e, if_pos (by omega), c1]; rfl
          rw [dd, jn, bq, bq, this]
        · rw [if_neg (by omega)]
          by_cases c2 : p 9 l = 0
          · rw [if_pos (by omega)]
            unfold brd_joinLink_73
            rw [gr (by omega), if_pos (by omega)]
            unfold brd_joinLink_91 brd_give
            have : V i = -1 - 1 := by rw [hV]; show (if p 8 l = 0 then _ else _) = _; rw [if_pos e, if_pos (by omega), c2]; rfl
            rw [dd, jn, bq, bq, this]
          · rw [if_neg (by omega), hv, e, gr (by omega), if_pos (by omega)]
            have : V i = (b : Int) + ((p 9 l : Int) - 2) + (i : Int) := by rw [hV]; show (if p 8 l = 0 then _ else _) = _; rw [if_pos e, if_neg (by omega)]; omega
            rw [dd, jn, bq, this]
      · have hD' : D = b + (p 9 l - 2) := by rw [hD, if_neg (by omega)]
        have dd : (b : Int) + ((p 9 l : Int) - 2) + (i : Int) = ((D + i : Nat) : Int) := by omega
        have : V i = (q : Int) + p 7 l + (i : Int) := by rw [hV]; show (if p 8 l = 0 then _ else _) = _; rw [if_neg (by omega)]; omega
        rw [if_neg (by omega), if_neg (by omega), hv, e, gr (by omega), if_neg (by omega), dd, jn, bq, this]
    · intro c' y hc'
      show up u 111 (D + i) _ c' y = _
      rw [up_ne (by omega)]
      exact e1' c' y hc'
    · intro y
      show up u 111 (D + i) _ 111 y = _
      by_cases q1 : y = D + i
      · rw [q1, up_same, if_pos ⟨by omega, by omega⟩, show D + i - D = i by omega]
      · rw [up_ne (by omega), e2' y]
        by_cases q2 : D ≤ y ∧ y < D + i
        · rw [if_pos q2, if_pos ⟨q2.1, by omega⟩]
        · rw [if_neg q2, if_neg (by omega)]) (by
    rintro ⟨v, u⟩ ⟨e, e1, e2⟩
    have e' : v = (p 6 l : Int) := e
    subst e'
    have e1' : ∀ c' y, c' ≠ 111 → u c' y = s c' y := e1
    refine ⟨u, ?_, e1, e2⟩
    show brd_joinLink_46b (l : Int) v2 (b : Int) ((q : Int) + p 7 l) ((p 9 l : Int) - 2) (p 6 l : Int) u = _
    unfold brd_joinLink_46b
    rw [gd_pos (by omega), gr (by omega), Int.toNat_natCast, e1' 97 l (by omega), s3, gr (by omega), if_pos (by omega)]) (p 6 l) 0 ((0 : Int), s) (by omega) ⟨rfl, fun _ _ _ => rfl, fun y => by rw [if_neg (by omega)]⟩
  obtain ⟨s', l1, l2, l3⟩ := L
  refine ⟨s', ?_, l2, fun e x => ?_, fun e x => ?_⟩
  · unfold brd_joinLink
    rw [gd_pos (by omega), Int.toNat_natCast, gd_pos s1, Int.add_assoc, s2, s4]
    unfold brd_joinLink_46
    rw [show lp (L := Int × iS) (E := iS) (fun x => brd_joinLink_46b (l : Int) v2 (b : Int) ((q : Int) + p 7 l) ((p 9 l : Int) - 2) (x.1) (x.2)) (0, s) = some s' from l1, bn]
  · have hD' : D = q + p 7 l := by rw [hD, if_pos e]
    rw [l3 x, hD', hV]
    by_cases q1 : q + p 7 l ≤ x ∧ x < q + p 7 l + p 6 l
    · rw [if_pos q1, if_pos q1]
      show (if p 8 l = 0 then _ else _) = _
      rw [if_pos e]
    · rw [if_neg q1, if_neg q1]
  · have hD' : D = b + (p 9 l - 2) := by rw [hD, if_neg (by omega)]
    rw [l3 x, hD', hV]
    by_cases q1 : b + (p 9 l - 2) ≤ x ∧ x < b + (p 9 l - 2) + p 6 l
    · rw [if_pos q1, if_pos q1]
      show (if p 8 l = 0 then _ else _) = _
      rw [if_neg (by omega)]
    · rw [if_neg q1, if_neg q1]
end CKt
