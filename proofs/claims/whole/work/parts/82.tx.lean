/-! the reference's look-up in a table of words -/
theorem bs_split {f : Nat → Int} {st a b : Nat} : bs f st (a + b) = bs f st a ++ bs f (st + a) b := by
  refine List.ext_getElem? fun k => ?_
  by_cases h1 : k < a
  · rw [bs_at (by omega), List.getElem?_append_left (by rw [bs_len]; exact h1), bs_at h1]
  · rw [List.getElem?_append_right (by rw [bs_len]; omega), bs_len]
    by_cases h2 : k < a + b
    · rw [bs_at h2, bs_at (by omega), show st + a + (k - a) = st + k by omega]
    · rw [List.getElem?_eq_none (by rw [bs_len]; omega), List.getElem?_eq_none (by rw [bs_len]; omega)]
theorem bs_one {f : Nat → Int} {st : Nat} : bs f st 1 = [f st] := rfl
theorem bs_nil {f : Nat → Int} {st : Nat} : bs f st 0 = [] := rfl
def fl : List (List Int) → List Int
  | [] => []
  | w :: r => w ++ 32 :: fl r
theorem c_toInt (x : Int32) : -2147483648 ≤ x.toInt ∧ x.toInt ≤ 2147483647 := ⟨Int32.le_toInt _, by have := Int32.toInt_lt x; omega⟩
theorem wordOf_lp {N : Nat} {g : Nat → Int32} {f n : Nat} {s : iS} (hN : N < 1000000) (hfn : f + n ≤ 4000) (hT : ∀ k, k < n → s 123 (f + k) ≠ 32) (hb : ∀ k, 0 ≤ s 123 k ∧ s 123 k < 256) : ∀ (tab : List (List Int)) (o i : Nat), o ≤ N → bs (fun k => (g k).toInt) o (N - o) = fl tab → (∀ w ∈ tab, ∀ x ∈ w, x ≠ 32) → lp (L := Int × Int × iS) (E := (Int × iS) ⊕ (iS)) (fun l => m_wordOf_6b N g (f : Int) (n : Int) (l.1) (l.2.1) (l.2.2)) ((i : Int), (o : Int), s) = some (if fw tab (bs (s 123) f n) i = -1 then Sum.inr s else Sum.inl (fw tab (bs (s 123) f n) i, s))
  | [], o, i, ho, hl, hw => by
    have : o = N := by
      have := congrArg List.length hl
      rw [bs_len] at this
      simp only [fl, List.length_nil] at this
      omega
    rw [lp_end (e := Sum.inr s)]
    · rw [fw_0, if_pos rfl]
    · simp only [m_wordOf_6b]
      rw [gr (by omega), gr (by omega), if_pos (by omega)]
  | w :: r, o, i, ho, hl, hw => by
    have hlen : N - o = w.length + (1 + (fl r).length) := by
      have := congrArg List.length hl
      rw [bs_len] at this
      simp only [fl, List.length_append, List.length_cons] at this
      omega
    rw [hlen, bs_split] at hl
    obtain ⟨g1, g2⟩ := List.append_inj hl bs_len
    rw [bs_split, bs_one] at g2
    obtain ⟨g2, g3⟩ := List.cons.inj g2
    have gk : ∀ k, k < w.length → (g (o + k)).toInt = w.getD k 0 := fun k hk => (bs_eq.mp g1).2 k hk
    have hw0 : ∀ k, k < w.length → (g (o + k)).toInt ≠ 32 := by
      intro k hk
      rw [gk k hk, List.getD_eq_getElem?_getD, List.getElem?_eq_getElem hk]
      exact hw w (List.mem_cons_self ..) _ (List.getElem_mem hk)
    have eo : ∀ k : Nat, ((o : Int) + (k : Int)).toNat = o + k := fun k => by omega
    have ef : ∀ k : Nat, ((f : Int) + (k : Int)).toNat = f + k := fun k => by omega
    -- the comparison
    have h1 : lp (L := Int × iS) (E := Int × iS) (fun l => m_wordOf_16b N g (f : Int) (n : Int) (i : Int) (o : Int) (l.1) (l.2)) ((0 : Nat), s) = some (((scn (fun k => ¬ (g (o + k)).toInt = s 123 (f + k)) 0 (min n w.length) : Nat) : Int), s) := by
      rw [lp_sc1 (P := fun k => ¬ (g (o + k)).toInt = s 123 (f + k)) (fun k : Nat => ((k : Int), s)) (fun k : Nat => ((k : Int), s)) (min n w.length) (fun k hk => by
        have a1 := hb (f + k)
        have a2 := c_toInt (g (o + k))
        simp only [m_wordOf_16b, eo, ef]
        rw [gr (by omega), gr (by omega), if_neg (by omega), gd_pos (by omega), gd_pos (by omega), gr a2, gr (by omega)]
        by_cases c : (g (o + k)).toInt = s 123 (f + k)
        · rw [if_pos c, if_neg (fun q => q c)]
          rfl
        · rw [if_neg c, if_pos c]) (by
        simp only [m_wordOf_16b, eo, ef]
        rw [gr (by omega), gr (by omega)]
        by_cases c : n ≤ w.length
        · rw [if_pos (by omega)]
        · have e : min n w.length = w.length := by omega
          have a1 := hb (f + w.length)
          have a3 := hT w.length (by omega)
          rw [e, if_neg (by omega), gd_pos (by omega), gd_pos (by omega), g2, gr (by omega), gr (by omega), if_neg (fun q => a3 q.symm)]) 0 (by omega)]
      rfl
    -- the way to the next word
    have h2 : m_wordOf_71 N g (f : Int) (n : Int) (i : Int) (o : Int) s = some (.inl (((i + 1 : Nat) : Int), ((o + w.length + 1 : Nat) : Int), s)) := by
      unfold m_wordOf_71
      rw [lp_sc1 (P := fun k => (g k).toInt = 32) (fun k : Nat => ((k : Int), s)) (fun k : Nat => ((k : Int), s)) (o + w.length) (fun k hk => by
        have a2 := c_toInt (g k)
        simp only [m_wordOf_71b, Int.toNat_natCast]
        rw [gd_pos (by omega), gr a2]
        rfl) (by
        simp only [m_wordOf_71b, Int.toNat_natCast]
        rw [gd_pos (by omega), g2, gr (by omega), if_pos rfl]) o (by omega)]
      rw [scn_at (m := o + w.length) (by omega) (by omega) (fun j j1 j2 => by
        have := hw0 (j - o) (by omega)
        rwa [show o + (j - o) = j by omega] at this) (fun _ => g2)]
      rfl
    have go : m_wordOf_6b N g (f : Int) (n : Int) (i : Int) (o : Int) s = m_wordOf_50 N g (f : Int) (n : Int) (i : Int) (o : Int) ((scn (fun k => ¬ (g (o + k)).toInt = s 123 (f + k)) 0 (min n w.length) : Nat) : Int) s := by
      unfold m_wordOf_6b m_wordOf_16
      rw [gr (by omega), gr (by omega), if_neg (by omega)]
      have := h1
      rw [show ((0 : Nat) : Int) = 0 from rfl] at this
      rw [this, bn]
    have sc := scn_le (P := fun k => ¬ (g (o + k)).toInt = s 123 (f + k)) (min n w.length) 0
    by_cases c : w = bs (s 123) f n
    · obtain ⟨c1, c2⟩ := bs_eq.mp c.symm
      have e : scn (fun k => ¬ (g (o + k)).toInt = s 123 (f + k)) 0 (min n w.length) = n := scn_at (by omega) (by omega) (fun j _ j2 => by
        rw [gk j (by omega), c2 j j2]
        exact fun q => q rfl) (fun q => by omega)
      rw [lp_end (e := Sum.inl ((i : Int), s))]
      · rw [fw_s, if_pos c, if_neg (by omega)]
      · show m_wordOf_6b N g (f : Int) (n : Int) (i : Int) (o : Int) s = _
        rw [go, e]
        unfold m_wordOf_50
        simp only [eo]
        rw [gr (by omega), gr (by omega), if_pos (by trivial), gd_pos (by omega), c1, g2, gr (by omega), if_pos rfl]
    · have key : m_wordOf_50 N g (f : Int) (n : Int) (i : Int) (o : Int) ((scn (fun k => ¬ (g (o + k)).toInt = s 123 (f + k)) 0 (min n w.length) : Nat) : Int) s = m_wordOf_71 N g (f : Int) (n : Int) (i : Int) (o : Int) s := by
        unfold m_wordOf_50
        simp only [eo]
        rw [gr (by omega), gr (by omega)]
        by_cases c1 : scn (fun k => ¬ (g (o + k)).toInt = s 123 (f + k)) 0 (min n w.length) = n
        · have c2 : ∀ k, k < n → (g (o + k)).toInt = s 123 (f + k) := fun k hk => Classical.not_not.mp (scn_not (P := fun k => ¬ (g (o + k)).toInt = s 123 (f + k)) (min n w.length) 0 k (by omega) (by omega))
          have c3 : n < w.length := by
            rcases Nat.lt_or_ge n w.length with q | q
            · exact q
            · exact absurd (bs_eq.mpr ⟨by omega, fun k hk => by rw [← c2 k hk, gk k (by omega)]⟩).symm c
          rw [c1, if_pos rfl, gd_pos (by omega), gr (c_toInt _), if_neg (hw0 n c3)]
        · rw [if_neg (by omega)]
      have e1 : m_wordOf_6b N g (f : Int) (n : Int) (i : Int) (o : Int) s = some (.inl (((i + 1 : Nat) : Int), ((o + w.length + 1 : Nat) : Int), s)) := by rw [go, key, h2]
      rw [lp_next (f := fun l : Int × Int × iS => m_wordOf_6b N g (f : Int) (n : Int) (l.1) (l.2.1) (l.2.2)) (l := ((i : Int), (o : Int), s)) e1, wordOf_lp hN hfn hT hb r (o + w.length + 1) (i + 1) (by omega) (by rw [show N - (o + w.length + 1) = (fl r).length by omega]; exact g3) (fun w' h' => hw w' (List.mem_cons_of_mem _ h'))]
      rw [fw_s, if_neg c]
theorem wordOf_ok {N : Nat} {g : Nat → Int32} {f n : Nat} {s : iS} (tab : List (List Int)) (hN : N < 1000000) (hl : bs (fun k => (g k).toInt) 0 N = fl tab) (hw : ∀ w ∈ tab, ∀ x ∈ w, x ≠ 32) (hfn : f + n ≤ 4000) (hT : ∀ k, k < n → s 123 (f + k) ≠ 32) (hb : ∀ k, 0 ≤ s 123 k ∧ s 123 k < 256) : m_wordOf N g (f : Int) (n : Int) s = some (fw tab (bs (s 123) f n) 0, s) := by
  unfold m_wordOf m_wordOf_6
  have := wordOf_lp hN hfn hT hb tab 0 0 (by omega) hl hw
  rw [show ((0 : Nat) : Int) = 0 from rfl] at this
  rw [this, bn]
  by_cases c : fw tab (bs (s 123) f n) 0 = -1
  · rw [if_pos c, c]
    rfl
  · rw [if_neg c]
    rfl
