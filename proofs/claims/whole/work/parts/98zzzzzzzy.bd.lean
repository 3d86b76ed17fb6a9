/-! chips: the class wires the parts -/
section CKu
variable {p : Nat → Nat → Nat} {s s' : iS} {F : Nat → Int → Int → Int → iS → Option (Int × iS)}
theorem LKs_of {r l : Nat} (h : LKs p r l s) (hs : ∀ c k, c = 77 ∨ c = 92 ∨ (95 ≤ c ∧ c ≤ 98) → s' c k = s c k) : LKs p r l s' := by
  unfold LKs at h ⊢
  have e : ∀ c, c = 77 ∨ c = 92 ∨ (95 ≤ c ∧ c ≤ 98) → s' c = s c := fun c hc => funext fun k => hs c k hc
  rw [e 77 (by omega), e 92 (by omega), e 95 (by omega), e 96 (by omega), e 97 (by omega), e 98 (by omega)]
  exact h
theorem PLC_of (h : PLC p s) (hs : ∀ c k, c = 77 ∨ c = 78 ∨ c = 84 ∨ (92 ≤ c ∧ c ≤ 98) → s' c k = s c k) : PLC p s' := by
  obtain ⟨h1, h2, h3⟩ := h
  refine ⟨fun c hc => by rw [hs 78 _ (by omega)]; exact h1 c hc, fun i hi => by rw [hs 93 _ (by omega)]; exact h2 i hi, fun c r hc r1 r2 => ?_⟩
  obtain ⟨a1, a2, a3, a4⟩ := h3 c r hc r1 r2
  exact ⟨by rw [hs 94 _ (by omega)]; exact a1, by rw [hs 84 _ (by omega)]; exact a2, by rw [hs 84 _ (by omega)]; exact a3, fun l l1 l2 => LKs_of (a4 l l1 l2) (fun c k q => hs c k (by omega))⟩
/-- all links of part k -/
theorem c_jls (h : WFp p) {c k b u : Nat} (hc : c < p 10 0) (hk : k < npC p c) (hP : PLC p s) {o : Nat → Option (Nat × Nat)} (ho : ∀ j, p 5 (2 + c) ≤ j → j < p 4 (2 + c) → s 111 (b + j) = cOW p c u (o j)) (hb : b + p 4 (2 + c) ≤ u) (hq : cbk p c u k + p 4 (p 1 (p 0 c + k)) ≤ 40000) (hf : ∀ j, j < p 5 (p 1 (p 0 c + k)) → s 111 (cbk p c u k + j) = -1) {v1 v3 : Int} : ∃ s', lp (L := Int × iS) (E := iS) (fun l => brd_putParts_83b F v1 (b : Int) v3 ((p 0 c + k : Nat) : Int) ((p 1 (p 0 c + k) : Nat) : Int) ((cbk p c u k : Nat) : Int) (l.1) (l.2)) (((p 2 (p 0 c + k) : Nat) : Int), s) = some s' ∧ (∀ c' x, c' ≠ 111 → s' c' x = s c' x) ∧ (∀ j, p 5 (2 + c) ≤ j → j < p 4 (2 + c) → s' 111 (b + j) = cOW p c u (OWl p k (p 0 c + k) o (p 3 (p 0 c + k) - p 2 (p 0 c + k)) j)) ∧ (∀ j, j < p 5 (p 1 (p 0 c + k)) → s' 111 (cbk p c u k + j) = cIW b (IWa p (p 0 c + k) j)) ∧ ∀ x, ¬ (b + p 5 (2 + c) ≤ x ∧ x < b + p 4 (2 + c)) → ¬ (cbk p c u k ≤ x ∧ x < cbk p c u k + p 5 (p 1 (p 0 c + k))) → s' 111 x = s 111 x := by
  obtain ⟨w1, w2, w3, w4, w5, w6⟩ := WF_r h hc hk
  have ci := (cbk_m (p := p) (c := c) (u := u) (Nat.zero_le k))
  have e0 : cbk p c u 0 = u := rfl
  have fi := h.2.2.2.2 _ w2
  obtain ⟨r, hr⟩ : ∃ r, r = p 0 c + k := ⟨_, rfl⟩
  obtain ⟨q, hqq⟩ : ∃ q, q = cbk p c u k := ⟨_, rfl⟩
  have b8 := (h.2.1 c hc).2.1
  obtain ⟨m1, m2, m3, m4⟩ := hP.2.2 c (p 0 c + k) hc (by omega) w1
  rw [← hr] at w1 w2 w3 w4 w5 w6 fi hq hf m1 m2 m3 m4 ⊢
  rw [← hqq] at hq hf ci ⊢
  have L := lpG (f := fun l : Int × iS => brd_putParts_83b F v1 (b : Int) v3 ((r : Nat) : Int) ((p 1 r : Nat) : Int) ((q : Nat) : Int) (l.1) (l.2)) (M := p 3 r - p 2 r) (I := fun m l => l.1 = ((p 2 r + m : Nat) : Int) ∧ (∀ c' x, c' ≠ 111 → l.2 c' x = s c' x) ∧ (∀ j, p 5 (2 + c) ≤ j → j < p 4 (2 + c) → l.2 111 (b + j) = cOW p c u (OWl p k r o m j)) ∧ (∀ j, j < p 5 (p 1 r) → l.2 111 (q + j) = cIW b (IWf p r m j)) ∧ ∀ x, ¬ (b + p 5 (2 + c) ≤ x ∧ x < b + p 4 (2 + c)) → ¬ (q ≤ x ∧ x < q + p 5 (p 1 r)) → l.2 111 x = s 111 x) (J := fun e => (∀ c' x, c' ≠ 111 → e c' x = s c' x) ∧ (∀ j, p 5 (2 + c) ≤ j → j < p 4 (2 + c) → e 111 (b + j) = cOW p c u (OWl p k r o (p 3 r - p 2 r) j)) ∧ (∀ j, j < p 5 (p 1 r) → e 111 (q + j) = cIW b (IWf p r (p 3 r - p 2 r) j)) ∧ ∀ x, ¬ (b + p 5 (2 + c) ≤ x ∧ x < b + p 4 (2 + c)) → ¬ (q ≤ x ∧ x < q + p 5 (p 1 r)) → e 111 x = s 111 x) (by
    rintro m ⟨v, t⟩ hm ⟨e, e1, e2, e3, e4⟩
    have e' : v = ((p 2 r + m : Nat) : Int) := e
    subst e'
    have e1' : ∀ c' x, c' ≠ 111 → t c' x = s c' x := e1
    have e2' : ∀ j, p 5 (2 + c) ≤ j → j < p 4 (2 + c) → t 111 (b + j) = cOW p c u (OWl p k r o m j) := e2
    have e3' : ∀ j, j < p 5 (p 1 r) → t 111 (q + j) = cIW b (IWf p r m j) := e3
    have e4' : ∀ x, ¬ (b + p 5 (2 + c) ≤ x ∧ x < b + p 4 (2 + c)) → ¬ (q ≤ x ∧ x < q + p 5 (p 1 r)) → t 111 x = s 111 x := e4
    obtain ⟨l, hl⟩ : ∃ l, l = p 2 r + m := ⟨_, rfl⟩
    have ls : LKs p r l t := LKs_of (m4 l (by omega) (by omega)) (fun c' x q => e1' c' x (by omega))
    obtain ⟨lw, lk⟩ := w6 l (by omega) (by omega)
    obtain ⟨k1, k2, k3, k4, k5, k6⟩ := id ls
    obtain ⟨t', a1, a2, a3, a4⟩ := c_jl (b := b) (q := q) (v2 := if t 95 l < t 77 (p 1 r) then 0 else 1) h hc hk (l := l) (by rw [← hr]; omega) (by rw [← hr]; exact ls) (by omega) (by rw [← hr]; exact hq) (by rw [k6]; split <;> rfl)
    have io : cck_isOut ((p 1 r : Nat) : Int) (t 95 l) t = some (if t 95 l < t 77 (p 1 r) then 0 else 1, t) := by
      unfold cck_isOut
      rw [gd_pos (by have := h.1; omega), gr (by omega), Int.toNat_natCast, gr (by omega)]
      split <;> rfl
    have oS : ∀ j, OWl p k r o (m + 1) j = if p 8 l = 1 ∧ p 9 l - 2 ≤ j ∧ j < p 9 l - 2 + p 6 l then some (k, p 7 l + (j - (p 9 l - 2))) else OWl p k r o m j := fun j => by rw [hl]; rfl
    have iS' : ∀ j, IWf p r (m + 1) j = if p 8 l = 0 ∧ p 7 l ≤ j ∧ j < p 7 l + p 6 l then (if p 9 l < 2 then (p 9 l : Int) - 2 else ((p 9 l - 2 + (j - p 7 l) : Nat) : Int)) else IWf p r m j := fun j => by rw [hl]; rfl
    refine ⟨((l : Int) + 1, t'), ?_, by show (l : Int) + 1 = ((p 2 r + (m + 1) : Nat) : Int); omega, ?_, ?_, ?_, ?_⟩
    · show brd_putParts_83b F v1 (b : Int) v3 ((r : Nat) : Int) ((p 1 r : Nat) : Int) ((q : Nat) : Int) ((p 2 r + m : Nat) : Int) t = _
      rw [← hl]
      unfold brd_putParts_83b
      rw [gd_pos (by omega), gr (by omega), show ((r : Int) + 1).toNat = r + 1 by omega, e1' 84 _ (by omega), m3, gr (by omega), if_neg (by omega), gd_pos (by omega), Int.toNat_natCast, io, bq, a1, bq]
    · intro c' x hc'
      show t' c' x = _
      rw [a2 c' x hc']
      exact e1' c' x hc'
    · intro j j1 j2
      show t' 111 (b + j) = _
      rw [oS j]
      rcases lk with ⟨z, z1, z2⟩ | ⟨z, z1, z2, z3, z4, z5⟩
      · rw [a3 z (b + j), if_neg (by omega), if_neg (by omega)]
        exact e2' j j1 j2
      · rw [a4 z (b + j)]
        by_cases y : p 9 l - 2 ≤ j ∧ j < p 9 l - 2 + p 6 l
        · rw [if_pos ⟨by omega, by omega⟩, if_pos ⟨z, y⟩]
          show _ = ((cbk p c u k + (p 7 l + (j - (p 9 l - 2))) : Nat) : Int)
          rw [← hqq]
          omega
        · rw [if_neg (by omega), if_neg (by omega)]
          exact e2' j j1 j2
    · intro j j1
      show t' 111 (q + j) = _
      rw [iS' j]
      rcases lk with ⟨z, z1, z2⟩ | ⟨z, z1, z2, z3, z4, z5⟩
      · rw [a3 z (q + j)]
        by_cases y : p 7 l ≤ j ∧ j < p 7 l + p 6 l
        · rw [if_pos (show q + p 7 l ≤ q + j ∧ q + j < q + p 7 l + p 6 l by omega), if_pos (show p 8 l = 0 ∧ p 7 l ≤ j ∧ j < p 7 l + p 6 l from ⟨z, y⟩)]
          unfold cIW
          by_cases y2 : p 9 l < 2
          · rw [if_pos y2, if_pos y2, if_pos (by omega)]
          · rw [if_neg y2, if_neg y2, if_neg (by omega)]
            omega
        · rw [if_neg (by omega), if_neg (by omega)]
          exact e3' j j1
      · rw [a4 z (q + j), if_neg (by omega), if_neg (by omega)]
        exact e3' j j1
    · intro x x1 x2
      show t' 111 x = _
      rcases lk with ⟨z, z1, z2⟩ | ⟨z, z1, z2, z3, z4, z5⟩
      · rw [a3 z x, if_neg (by omega)]
        exact e4' x x1 x2
      · rw [a4 z x, if_neg (by omega)]
        exact e4' x x1 x2) (by
    rintro ⟨v, t⟩ ⟨e, e1, e2, e3, e4⟩
    have e' : v = ((p 2 r + (p 3 r - p 2 r) : Nat) : Int) := e
    subst e'
    have e1' : ∀ c' x, c' ≠ 111 → t c' x = s c' x := e1
    refine ⟨t, ?_, e1, e2, e3, e4⟩
    show brd_putParts_83b F v1 (b : Int) v3 ((r : Nat) : Int) ((p 1 r : Nat) : Int) ((q : Nat) : Int) ((p 2 r + (p 3 r - p 2 r) : Nat) : Int) t = _
    unfold brd_putParts_83b
    rw [gd_pos (by omega), gr (by omega), show ((r : Int) + 1).toNat = r + 1 by omega, e1' 84 _ (by omega), m3, gr (by omega), if_pos (by omega)]) (p 3 r - p 2 r) 0 (((p 2 r : Nat) : Int), s) (by omega) ⟨rfl, fun _ _ _ => rfl, ho, fun j hj => by rw [show (((p 2 r : Nat) : Int), s).2 111 (q + j) = s 111 (q + j) from rfl, hf j hj]; rfl, fun _ _ _ => rfl⟩
  exact L
/-- the class puts a gate -/
theorem c_gate {i q g : Nat} (hi : i < 2) (hg : s 108 14 = (g : Int)) (hgl : g < 1500) (hq : q + 2 < 40000 ∨ i = 1 ∧ q + 1 < 40000) : ∃ s', brd_addGate (i : Int) (q : Int) s = some (0, s') ∧ GTc i q g s' ∧ s' 108 14 = ((g + 1 : Nat) : Int) ∧ (∀ c k, c ≠ 111 → c ≠ 113 → c ≠ 114 → ¬ (c = 108 ∧ k = 14) → s' c k = s c k) ∧ (∀ x, x ≠ (if i = 0 then q + 2 else q + 1) → s' 111 x = s 111 x) ∧ ∀ x, x ≠ g → s' 113 x = s 113 x ∧ s' 114 x = s 114 x := by
  obtain ⟨D, hD⟩ : ∃ D : Nat, D = if i = 0 then q + 2 else q + 1 := ⟨_, rfl⟩
  obtain ⟨w, hw⟩ : ∃ w : Int, w = if i = 0 then (q : Int) + 1 else -1 := ⟨_, rfl⟩
  have dl : D < 40000 := by rw [hD]; split <;> omega
  obtain ⟨s', hs'⟩ : ∃ s', s' = up (up (up (up s 113 g (q : Int)) 114 g w) 111 D (-1 - (194 + (g : Int)))) 108 14 ((g : Int) + 1) := ⟨_, rfl⟩
  have f54 : brd_addGate_54 (D : Int) (up (up s 113 g (q : Int)) 114 g w) = some (0, s') := by
    unfold brd_addGate_54 brd_give brd_join
    have z : up (up s 113 g (q : Int)) 114 g w 108 14 = (g : Int) := by rw [up_ne (by omega), up_ne (by omega)]; exact hg
    rw [z, gr (by omega), if_neg (by omega), if_neg (by omega), gd_pos (by omega), Int.toNat_natCast, lt_eq, bq, bq, lt_eq]
    have z2 : up (up (up s 113 g (q : Int)) 114 g w) 111 D (-1 - (194 + (g : Int))) 108 14 = (g : Int) := by rw [up_ne (by omega)]; exact z
    rw [z2, ← hs']
  have f39 : brd_addGate_39 (i : Int) (q : Int) w (g : Int) (up s 113 g (q : Int)) = some (0, s') := by
    unfold brd_addGate_39
    rw [gd_pos (by omega), Int.toNat_natCast, lt_eq, gr (by omega)]
    by_cases c : i = 0
    · rw [if_pos (by omega), ← f54, hD, if_pos c]
      rfl
    · rw [if_neg (by omega), ← f54, hD, if_neg c]
      rfl
  refine ⟨s', ?_, ⟨?_, ?_, ?_⟩, ?_, ?_, ?_, ?_⟩
  · unfold brd_addGate
    rw [hg, gr (by omega), if_neg (by omega), gd_pos (by omega), Int.toNat_natCast, lt_eq, gr (by omega)]
    have z : up s 113 g (q : Int) 108 14 = (g : Int) := by rw [up_ne (by omega)]; exact hg
    rw [z]
    by_cases c : i = 0
    · rw [if_pos (by omega), ← f39, hw, if_pos c]
    · rw [if_neg (by omega), ← f39, hw, if_neg c]
  · rw [hs', up_ne (by omega), up_ne (by omega), up_ne (by omega), up_same]
  · rw [hs', up_ne (by omega), up_ne (by omega), up_same, hw]
  · rw [← hD, hs', up_ne (by omega), up_same]
  · rw [hs', up_same]; rfl
  · intro c k c1 c2 c3 c4
    rw [hs', up_ne (by omega), up_ne (by omega), up_ne (by omega), up_ne (by omega)]
  · intro x hx
    rw [← hD] at hx
    rw [hs', up_ne (by omega), up_ne (by omega), up_ne (by omega), up_ne (by omega)]
  · intro x hx
    exact ⟨by rw [hs', up_ne (by omega), up_ne (by omega), up_ne (by omega), up_ne (by omega)], by rw [hs', up_ne (by omega), up_ne (by omega), up_ne (by omega), up_ne (by omega)]⟩
end CKu
