/-! signs: symbols and numbers, class and reference -/
section SY
variable {v : Int} {s t : iS} {n i j a : Nat}
theorem p83_1 {v2 v3 : Int} : pro_isSymbol_83 v2 v3 1 s = some (.inl (v3 + 1, s)) := by
  unfold pro_isSymbol_83
  rw [gr (by omega), if_neg (by omega)]
theorem pis29 (hb : BY (s 1)) (hn : a + n ≤ 4000) : pro_isSymbol_29 ((a + n : Nat) : Int) (a : Int) s = some (if scn (fun j => ¬ sy (s 1 j)) a n < a + n then 0 else 1, s) := by
  unfold pro_isSymbol_29
  rw [lp_scn (P := fun j => ¬ sy (s 1 j)) (fun j : Nat => ((j : Int), s)) (fun j : Nat => Sum.inl s) (Sum.inr s) (a + n) (fun j hj => by
    have a := hb j
    simp only [pro_isSymbol_29b, Int.toNat_natCast, pro_isSymbol_78]
    rw [gr (by omega), gr (by omega), if_neg (by omega), gd_pos (by omega), gr (by omega)]
    by_cases c1 : s 1 j = 95
    · rw [if_pos c1, p83_1, if_neg (fun q => q (Or.inr (Or.inr (Or.inl c1))))]
      rfl
    · rw [if_neg c1]
      by_cases c2 : s 1 j = 46
      · rw [if_pos c2, p83_1, if_neg (fun q => q (Or.inr (Or.inr (Or.inr (Or.inl c2)))))]
        rfl
      · rw [if_neg c2]
        by_cases c3 : s 1 j = 36
        · rw [if_pos c3, p83_1, if_neg (fun q => q (Or.inr (Or.inr (Or.inr (Or.inr (Or.inl c3))))))]
          rfl
        · rw [if_neg c3]
          by_cases c4 : s 1 j = 58
          · rw [if_pos c4, p83_1, if_neg (fun q => q (Or.inr (Or.inr (Or.inr (Or.inr (Or.inr c4))))))]
            rfl
          · rw [if_neg c4]
            unfold pro_isSymbol_83
            simp only [Int.toNat_natCast]
            rw [gr (by omega), if_pos (by trivial), gd_pos (by omega)]
            by_cases c5 : ly (s 1 j)
            · rw [xly c5, bq, gr (by omega), if_neg (by omega), if_neg (fun q => q (Or.inl c5))]
              rfl
            · rw [xln ⟨by omega, by omega⟩ c5, bq, gr (by omega), if_pos rfl]
              by_cases c6 : dg (s 1 j)
              · rw [xdy c6, bq, gr (by omega), if_neg (by omega), if_neg (fun q => q (Or.inr (Or.inl c6)))]
                rfl
              · rw [xdn ⟨by omega, by omega⟩ c6, bq, gr (by omega), if_pos rfl, if_pos (fun q => by
                  rcases q with q | q | q | q | q | q
                  · exact c5 q
                  · exact c6 q
                  · exact c1 q
                  · exact c2 q
                  · exact c3 q
                  · exact c4 q)]) (by
    simp only [pro_isSymbol_29b]
    rw [gr (by omega), gr (by omega), if_pos (by omega)]) n a rfl, bn]
  by_cases c1 : scn (fun j => ¬ sy (s 1 j)) a n < a + n
  · rw [if_pos c1, if_pos c1]
    rfl
  · rw [if_neg c1, if_neg c1]
    rfl
theorem pis_y (hb : BY (s 1)) (hn : a + n ≤ 4000) (h : isY (s 1) a n) : pro_isSymbol (a : Int) ((a + n : Nat) : Int) s = some (1, s) := by
  obtain ⟨h1, h2, h3, h4⟩ := h
  have b := hb a
  unfold pro_isSymbol
  simp only [Int.toNat_natCast]
  rw [gr (by omega), gr (by omega), if_neg (by omega), gr (by omega), if_neg (by omega), gd_pos (by omega), xdn ⟨by omega, by omega⟩ h3, bq, gr (by omega), if_pos rfl, pis29 hb hn, if_neg (fun q => by
    have c := scn_is (P := fun j => ¬ sy (s 1 j)) n a q
    have d := scn_le (P := fun j => ¬ sy (s 1 j)) n a
    have e := h4 (scn (fun j => ¬ sy (s 1 j)) a n - a) (by omega)
    rw [show a + (scn (fun j => ¬ sy (s 1 j)) a n - a) = scn (fun j => ¬ sy (s 1 j)) a n by omega] at e
    exact c e)]
theorem pis_n (hb : BY (s 1)) (hn : a + n ≤ 4000) (h : ¬ isY (s 1) a n) : pro_isSymbol (a : Int) ((a + n : Nat) : Int) s = some (0, s) := by
  have b := hb a
  unfold pro_isSymbol
  simp only [Int.toNat_natCast]
  rw [gr (by omega), gr (by omega)]
  by_cases h1 : 1 ≤ n
  case neg => rw [if_pos (by omega)]
  rw [if_neg (by omega), gr (by omega)]
  by_cases h2 : n ≤ 16
  case neg => rw [if_pos (by omega)]
  rw [if_neg (by omega), gd_pos (by omega)]
  by_cases h3 : dg (s 1 a)
  · rw [xdy h3, bq, gr (by omega), if_neg (by omega)]
  · rw [xdn ⟨by omega, by omega⟩ h3, bq, gr (by omega), if_pos rfl, pis29 hb hn]
    by_cases c : scn (fun j => ¬ sy (s 1 j)) a n < a + n
    · rw [if_pos c]
    · have d := scn_le (P := fun j => ¬ sy (s 1 j)) n a
      exact absurd ⟨h1, h2, h3, fun k hk => Classical.not_not.mp (scn_not (P := fun j => ¬ sy (s 1 j)) n a (a + k) (by omega) (by omega))⟩ h
/-- numbers -/
def nv (f : Nat → Int) (st : Nat) : Nat → Int
  | 0 => 0
  | k + 1 => 10 * nv f st k + f (st + k) - 48
def isN (f : Nat → Int) (st n : Nat) : Prop := 1 ≤ n ∧ n ≤ 5 ∧ ∀ k, k < n → dg (f (st + k))
theorem nv_rg {f : Nat → Int} {st k : Nat} (hk : k ≤ 5) (h : ∀ j, j < k → dg (f (st + j))) : 0 ≤ nv f st k ∧ nv f st k < 100000 := by
  have : k = 0 ∨ k = 1 ∨ k = 2 ∨ k = 3 ∨ k = 4 ∨ k = 5 := by omega
  rcases this with rfl | rfl | rfl | rfl | rfl | rfl
  · simp only [nv]; omega
  · have := h 0 (by omega); simp only [nv]; omega
  · have := h 0 (by omega); have := h 1 (by omega); simp only [nv]; omega
  · have := h 0 (by omega); have := h 1 (by omega); have := h 2 (by omega); simp only [nv]; omega
  · have := h 0 (by omega); have := h 1 (by omega); have := h 2 (by omega); have := h 3 (by omega); simp only [nv]; omega
  · have := h 0 (by omega); have := h 1 (by omega); have := h 2 (by omega); have := h 3 (by omega); have := h 4 (by omega); simp only [nv]; omega
theorem nv_eq {f g : Nat → Int} {st : Nat} : ∀ k, (∀ j, j < k → f (st + j) = g (st + j)) → nv f st k = nv g st k
  | 0, h => rfl
  | k + 1, h => by
    simp only [nv]
    rw [nv_eq k (fun j hj => h j (by omega)), h k (by omega)]
theorem isN_eq {f g : Nat → Int} {st n : Nat} (h : ∀ k, k < n → f (st + k) = g (st + k)) : isN f st n → isN g st n := by
  rintro ⟨a, b, d⟩
  exact ⟨a, b, fun k hk => by rw [← h k hk]; exact d k hk⟩
theorem pnu19 (hb : BY (s 1)) (hn : a + n ≤ 4000) : lp (L := Int × Int × iS) (E := (iS) ⊕ (Int × iS)) (fun l => pro_numberIn_19b ((a + n : Nat) : Int) (l.1) (l.2.1) (l.2.2)) (0, (a : Int), s) = some (if scn (fun k => ¬ dg (s 1 (a + k))) 0 n < n then Sum.inl s else Sum.inr (nv (s 1) a n, s)) := by
  have e := lp_scn (P := fun k => ¬ dg (s 1 (a + k))) (f := fun l : Int × Int × iS => pro_numberIn_19b ((a + n : Nat) : Int) (l.1) (l.2.1) (l.2.2)) (fun k : Nat => (nv (s 1) a k, ((a + k : Nat) : Int), s)) (fun k : Nat => Sum.inl s) (Sum.inr (nv (s 1) a n, s)) n (fun k hk => by
    have b := hb (a + k)
    simp only [pro_numberIn_19b, Int.toNat_natCast]
    rw [gr (by omega), gr (by omega), if_neg (by omega), gd_pos (by omega)]
    by_cases c : dg (s 1 (a + k))
    · rw [xdy c, bq, gr (by omega), if_neg (by omega), if_neg (fun q => q c)]
      rfl
    · rw [xdn ⟨by omega, by omega⟩ c, bq, gr (by omega), if_pos rfl, if_pos c]) (by
    simp only [pro_numberIn_19b]
    rw [gr (by omega), gr (by omega), if_pos (by omega)]) n 0 (by omega)
  exact e
theorem pnu_y (hb : BY (s 1)) (hn : a + n ≤ 4000) (h : isN (s 1) a n) : pro_numberIn (a : Int) ((a + n : Nat) : Int) s = some (if nv (s 1) a n ≤ 32767 then nv (s 1) a n else -1, s) := by
  obtain ⟨h1, h2, h3⟩ := h
  have r := nv_rg h2 h3
  unfold pro_numberIn pro_numberIn_19
  rw [gr (by omega), gr (by omega), if_neg (by omega), gr (by omega), if_pos (by omega), pnu19 hb hn, if_neg (fun q => by
    have c := scn_is (P := fun k => ¬ dg (s 1 (a + k))) n 0 (by omega)
    exact c (h3 _ q)), bn]
  show pro_numberIn_62 (nv (s 1) a n) s = _
  unfold pro_numberIn_62
  rw [gr (by omega)]
  by_cases c : nv (s 1) a n ≤ 32767
  · rw [if_pos c, if_pos c]
  · rw [if_neg c, if_neg c]
theorem pnu_n (hb : BY (s 1)) (hn : a + n ≤ 4000) (h : ¬ isN (s 1) a n) : pro_numberIn (a : Int) ((a + n : Nat) : Int) s = some (-1, s) := by
  unfold pro_numberIn pro_numberIn_19
  rw [gr (by omega), gr (by omega)]
  by_cases h1 : 1 ≤ n
  case neg => rw [if_pos (by omega)]
  rw [if_neg (by omega), gr (by omega)]
  by_cases h2 : n ≤ 5
  case neg => rw [if_neg (by omega)]
  rw [if_pos (by omega), pnu19 hb hn]
  by_cases c : scn (fun k => ¬ dg (s 1 (a + k))) 0 n < n
  · rw [if_pos c, bn]
    rfl
  · have d := scn_le (P := fun k => ¬ dg (s 1 (a + k))) n 0
    exact absurd ⟨h1, h2, fun k hk => Classical.not_not.mp (scn_not (P := fun k => ¬ dg (s 1 (a + k))) n 0 k (by omega) (by omega))⟩ h
/-- the reference's bytes of symbols -/
theorem msy (h : sy v) : m_isSymbolByte v s = some (1, s) := by
  unfold m_isSymbolByte m_isWordByte
  by_cases c1 : ly v
  · rw [mly c1, bq, gr (by omega), if_neg (by omega), bq, gr (by omega), if_neg (by omega)]
  · have hv : rg v := by rcases h with h | h | h | h | h | h <;> exact ⟨by omega, by omega⟩
    rw [mln hv c1, bq, gr (by omega), if_pos rfl]
    by_cases c2 : dg v
    · rw [mdy c2, bq, gr (by omega), if_neg (by omega), bq, gr (by omega), if_neg (by omega)]
    · rw [mdn hv c2, bq, gr (by omega), if_pos rfl, gd_pos hv]
      rcases h with h | h | h | h | h | h
      · exact absurd h c1
      · exact absurd h c2
      · rw [if_pos h, bq, gr (by omega), if_neg (by omega)]
      · rw [if_neg (by omega), bq, gr (by omega), if_pos rfl, gd_pos hv, if_pos h]
      · rw [if_neg (by omega), bq, gr (by omega), if_pos rfl, gd_pos hv, if_neg (by omega), if_pos h]
      · rw [if_neg (by omega), bq, gr (by omega), if_pos rfl, gd_pos hv, if_neg (by omega), if_neg (by omega), if_pos h]
theorem msn (hv : rg v) (h : ¬ sy v) : m_isSymbolByte v s = some (0, s) := by
  unfold m_isSymbolByte m_isWordByte
  rw [mln hv (fun q => h (Or.inl q)), bq, gr (by omega), if_pos rfl, mdn hv (fun q => h (Or.inr (Or.inl q))), bq, gr (by omega), if_pos rfl, gd_pos hv, if_neg (fun q => h (Or.inr (Or.inr (Or.inl q)))), bq, gr (by omega), if_pos rfl, gd_pos hv, if_neg (fun q => h (Or.inr (Or.inr (Or.inr (Or.inl q))))), if_neg (fun q => h (Or.inr (Or.inr (Or.inr (Or.inr (Or.inl q)))))), if_neg (fun q => h (Or.inr (Or.inr (Or.inr (Or.inr (Or.inr q))))))]
theorem mis30 (hb : BY (t 123)) (hn : a + n ≤ 4000) : Wp (lp (L := Int × Int × iS) (E := Int × iS) (fun l => m_isSymbol_30b (a : Int) (n : Int) (l.1) (l.2.1) (l.2.2)) (1, 0, t)) (fun e => e.2 = t ∧ (e.1 = 1 ∧ (∀ k, k < n → sy (t 123 (a + k))) ∨ e.1 = 0 ∧ ∃ k, k < n ∧ ¬ sy (t 123 (a + k)))) := by
  refine wp_lp (fun l : Int × Int × iS => ∃ k : Nat, k ≤ n ∧ l.2.1 = (k : Int) ∧ l.2.2 = t ∧ (l.1 = 1 ∧ (∀ j, j < k → sy (t 123 (a + j))) ∨ l.1 = 0 ∧ ∃ j, j < n ∧ ¬ sy (t 123 (a + j)))) (fun l => ((n : Int) - l.2.1).toNat) ?_ ⟨0, by omega, rfl, rfl, Or.inl ⟨rfl, fun j hj => by omega⟩⟩
  rintro ⟨v, p, u⟩ ⟨k, i1, i2, i3, i4⟩
  simp only at i2 i3 i4
  subst i2 i3
  have b := hb (a + k)
  have ea : ((a : Int) + (k : Int)).toNat = a + k := by omega
  simp only [m_isSymbol_30b, ea]
  rw [gr (by omega), gr (by omega)]
  by_cases c : n ≤ k
  · rw [if_pos (by omega)]
    refine wp_some.mpr ⟨rfl, ?_⟩
    have : k = n := by omega
    subst this
    exact i4
  · rw [if_neg (by omega)]
    rcases i4 with ⟨i4, i5⟩ | ⟨i4, i5⟩
    · rw [i4, gr (by omega), if_neg (by omega), gd_pos (by omega)]
      by_cases c2 : sy (u 123 (a + k))
      · rw [msy c2, bq, gr (by omega), if_neg (by omega)]
        refine wp_some.mpr ⟨⟨k + 1, by omega, rfl, rfl, Or.inl ⟨rfl, fun j hj => ?_⟩⟩, by simp only; omega⟩
        by_cases e : j = k
        · rw [e]; exact c2
        · exact i5 j (by omega)
      · rw [msn ⟨by omega, by omega⟩ c2, bq, gr (by omega), if_pos rfl]
        exact wp_some.mpr ⟨⟨k + 1, by omega, rfl, rfl, Or.inr ⟨rfl, k, by omega, c2⟩⟩, by simp only; omega⟩
    · rw [i4, gr (by omega), if_pos rfl]
      exact wp_some.mpr ⟨⟨k + 1, by omega, rfl, rfl, Or.inr ⟨rfl, i5⟩⟩, by simp only; omega⟩
theorem mis_y (hb : BY (t 123)) (hn : a + n ≤ 4000) (h : isY (t 123) a n) : m_isSymbol (a : Int) (n : Int) t = some (1, t) := by
  obtain ⟨h1, h2, h3, h4⟩ := h
  have b := hb a
  obtain ⟨e, e1, e2, e3⟩ := mis30 (t := t) hb hn
  unfold m_isSymbol m_isSymbol_30
  simp only [Int.toNat_natCast]
  rw [gr (by omega), if_neg (by omega), if_neg (by omega), gd_pos (by omega), mdn ⟨by omega, by omega⟩ h3, bq, gr (by omega), if_pos rfl, e1, bn]
  rcases e3 with ⟨e3, _⟩ | ⟨e3, k, k1, k2⟩
  · rw [gd_pos (Or.inr e3), e3, e2]
  · exact absurd (h4 k k1) k2
theorem mis_n (hb : BY (t 123)) (hn : a + n ≤ 4000) (h : ¬ isY (t 123) a n) : m_isSymbol (a : Int) (n : Int) t = some (0, t) := by
  have b := hb a
  obtain ⟨e, e1, e2, e3⟩ := mis30 (t := t) hb hn
  unfold m_isSymbol m_isSymbol_30
  simp only [Int.toNat_natCast]
  rw [gr (by omega)]
  by_cases h1 : 1 ≤ n
  case neg => rw [if_pos (by omega)]
  rw [if_neg (by omega)]
  by_cases h2 : n ≤ 16
  case neg => rw [if_pos (by omega)]
  rw [if_neg (by omega), gd_pos (by omega)]
  by_cases h3 : dg (t 123 a)
  · rw [mdy h3, bq, gr (by omega), if_neg (by omega)]
  · rw [mdn ⟨by omega, by omega⟩ h3, bq, gr (by omega), if_pos rfl, e1, bn]
    rcases e3 with ⟨e3, e4⟩ | ⟨e3, k, k1, k2⟩
    · exact absurd ⟨h1, h2, h3, e4⟩ h
    · rw [gd_pos (Or.inl e3), e3, e2]
/-- the reference's digits -/
theorem mad21 (hb : BY (t 123)) (hn : a + n ≤ 4000) (d0 : Int) (hd : d0 = 1 ∧ 1 ≤ n ∧ n ≤ 5 ∨ d0 = 0 ∧ ¬ (1 ≤ n ∧ n ≤ 5)) : Wp (lp (L := Int × Int × Int × iS) (E := Int × Int × iS) (fun l => m_address_21b (a : Int) (n : Int) (l.1) (l.2.1) (l.2.2.1) (l.2.2.2)) (d0, 0, 0, t)) (fun e => e.2.2 = t ∧ (e.1 = 1 ∧ isN (t 123) a n ∧ e.2.1 = nv (t 123) a n ∨ e.1 = 0 ∧ ¬ isN (t 123) a n)) := by
  refine wp_lp (fun l : Int × Int × Int × iS => ∃ k : Nat, k ≤ n ∧ l.2.2.1 = (k : Int) ∧ l.2.2.2 = t ∧ (l.1 = 1 ∧ 1 ≤ n ∧ n ≤ 5 ∧ (∀ j, j < k → dg (t 123 (a + j))) ∧ l.2.1 = nv (t 123) a k ∨ l.1 = 0 ∧ ¬ isN (t 123) a n)) (fun l => ((n : Int) - l.2.2.1).toNat) ?_ ⟨0, by omega, rfl, rfl, ?_⟩
  · rintro ⟨v, w, p, u⟩ ⟨k, i1, i2, i3, i4⟩
    simp only at i2 i3 i4
    subst i2 i3
    have b := hb (a + k)
    have ea : ((a : Int) + (k : Int)).toNat = a + k := by omega
    simp only [m_address_21b, ea]
    rw [gr (by omega), gr (by omega)]
    by_cases c : n ≤ k
    · rw [if_pos (by omega)]
      have : k = n := by omega
      subst this
      refine wp_some.mpr ⟨rfl, ?_⟩
      rcases i4 with ⟨i4, i5, i6, i7, i8⟩ | i4
      · exact Or.inl ⟨i4, ⟨i5, i6, i7⟩, i8⟩
      · exact Or.inr i4
    · rw [if_neg (by omega)]
      rcases i4 with ⟨i4, i5, i6, i7, i8⟩ | ⟨i4, i5⟩
      · rw [i4, gr (by omega), if_neg (by omega), gd_pos (by omega)]
        by_cases c2 : dg (u 123 (a + k))
        · rw [mdy c2, bq]
          refine wp_some.mpr ⟨⟨k + 1, by omega, rfl, rfl, Or.inl ⟨rfl, i5, i6, fun j hj => ?_, ?_⟩⟩, by simp only; omega⟩
          · by_cases e : j = k
            · rw [e]; exact c2
            · exact i7 j (by omega)
          · simp only [nv]
            rw [i8]
        · rw [mdn ⟨by omega, by omega⟩ c2, bq]
          exact wp_some.mpr ⟨⟨k + 1, by omega, rfl, rfl, Or.inr ⟨rfl, fun q => c2 (q.2.2 k (by omega))⟩⟩, by simp only; omega⟩
      · rw [i4, gr (by omega), if_pos rfl]
        exact wp_some.mpr ⟨rfl, Or.inr ⟨rfl, i5⟩⟩
  · rcases hd with ⟨h1, h2, h3⟩ | ⟨h1, h2⟩
    · exact Or.inl ⟨h1, h2, h3, fun j hj => by omega, rfl⟩
    · exact Or.inr ⟨h1, fun q => h2 ⟨q.1, q.2.1⟩⟩
end SY
