/-! signs: line by line -/
def LX (s t : iS) : Prop := s 0 1 = 0 ∧ t 121 1 = 0 ∧ t 121 4 = -1 ∧ QR 0 (mx s t)
def LI (n : Nat) (s t : iS) : Prop := s 55 13 = (n : Int) ∧ t 121 3 = (n : Int) ∧ BY (s 1) ∧ BY (t 123) ∧ (∀ j, j < n → s 1 j = t 123 j) ∧ FT s ∧ LX s t
noncomputable def CF (l : Int × Int × iS) : Option ((Int × Int × iS) ⊕ (iS)) := pro_assemble_21b (l.1) (l.2.1) (l.2.2)
noncomputable def RF (l : Int × Int × iS) : Option ((Int × Int × iS) ⊕ ((Int × Int × iS) ⊕ (iS))) := m_signs_23b (l.1) (l.2.1) (l.2.2)
section LN
variable {n m a k p : Nat} {own : List (List Int)} {s t s' t' : iS} {v2 : Int}
theorem TB_of {c a b : Nat} {tab : List (List Int)} (h : TB c a b tab s) (h1 : s' c = s c) (h2 : s' a = s a) (h3 : s' b = s b) : TB c a b tab s' := by
  unfold TB
  rw [h1, h2, h3]
  exact h
theorem LI_step {v1 v2 v3 v4 : Int} {r r' : Int} (h : LI n s t) (hx : pro_readInstruction v1 v2 s = some (r, s')) (hm : m_instruction v3 v4 0 t = some (r', t')) : LI n s' t' := by
  have a := fpro_readInstruction v1 v2 s _ hx
  have b := fm_instruction v3 v4 0 t _ hm
  simp only at a b
  obtain ⟨h1, h2, h3, h4, h5, ⟨h6, h7, h8⟩, h9, h10, h11, h12⟩ := h
  have a1 : s' 1 = s 1 := md_row a (by decide) (by decide)
  have b1 : t' 123 = t 123 := md_row b (by decide) (by decide)
  refine ⟨by rw [a 55 13 (by decide) (by decide)]; exact h1, by rw [b 121 3 (by decide) (by decide)]; exact h2, by rw [a1]; exact h3, by rw [b1]; exact h4, by rw [a1, b1]; exact h5, ⟨?_, ?_, ?_⟩, by rw [a 0 1 (by decide) (by decide)]; exact h9, by rw [b 121 1 (by decide) (by decide)]; exact h10, by rw [b 121 4 (by decide) (by decide)]; exact h11, pres (QR_on 0) rfl rfl a b h12⟩
  · exact TB_of h6 (md_row a (by decide) (by decide)) (md_row a (by decide) (by decide)) (md_row a (by decide) (by decide))
  · exact TB_of h7 (md_row a (by decide) (by decide)) (md_row a (by decide) (by decide)) (md_row a (by decide) (by decide))
  · exact TB_of h8 (md_row a (by decide) (by decide)) (md_row a (by decide) (by decide)) (md_row a (by decide) (by decide))
theorem LI_st {x p : Int} (h : LI n s t) : LI n (up (up s 55 14 x) 55 15 p) t := by
  obtain ⟨h1, h2, h3, h4, h5, ⟨h6, h7, h8⟩, h9, h10, h11, h12⟩ := h
  have r : ∀ c, c ≠ 55 → up (up s 55 14 x) 55 15 p c = s c := fun c hc => by rw [up_cell hc, up_cell hc]
  refine ⟨by rw [up_ne (by omega), up_ne (by omega)]; exact h1, h2, by rw [r 1 (by decide)]; exact h3, h4, by rw [r 1 (by decide)]; exact h5, ⟨TB_of h6 (r _ (by decide)) (r _ (by decide)) (r _ (by decide)), TB_of h7 (r _ (by decide)) (r _ (by decide)) (r _ (by decide)), TB_of h8 (r _ (by decide)) (r _ (by decide)) (r _ (by decide))⟩, by rw [r 0 (by decide)]; exact h9, h10, h11, ?_⟩
  have e : ∀ c k, c ≠ 55 ∨ k < 14 → mx (up (up s 55 14 x) 55 15 p) t c k = mx s t c k := by
    intro c k h
    unfold mx
    split
    · rw [up_ne (by omega), up_ne (by omega)]
    · rfl
  unfold QR
  rw [e 55 9 (by omega), e 55 10 (by omega), e 55 11 (by omega), e 55 12 (by omega), e 121 118 (by omega), e 121 119 (by omega), e 121 120 (by omega), e 121 121 (by omega), show mx (up (up s 55 14 x) 55 15 p) t 70 = mx s t 70 from funext (fun k => e 70 k (by omega)), show mx (up (up s 55 14 x) 55 15 p) t 194 = mx s t 194 from funext (fun k => e 194 k (by omega))]
  exact h12
theorem rb1 (h2 : t 121 3 = (n : Int)) (hn : n ≤ 4000) (hT : BY (t 123)) (hk : k < n) (c : bl (t 123 k)) : RF (v2, (k : Int), t) = some (.inl (v2, ((k + 1 : Nat) : Int), t)) := by
  have b := hT k
  unfold RF m_signs_23b m_signs_48
  simp only [Int.toNat_natCast]
  rw [gr (by omega), gr (by omega), if_neg (by omega), gd_pos (by omega), gr (by omega), if_neg (by omega), gr (by omega), if_neg (by omega), mby c, bq, gr (by omega), if_neg (by omega)]
  rfl
theorem rb2 (h2 : t 121 3 = (n : Int)) (hn : n ≤ 4000) (hk : k < n) (c : t 123 k = 10) : RF (v2, (k : Int), t) = some (.inl (0, ((k + 1 : Nat) : Int), t)) := by
  unfold RF m_signs_23b m_signs_48
  simp only [Int.toNat_natCast, c]
  rw [gr (by omega), gr (by omega), if_neg (by omega), gd_pos (by omega), gr (by omega), if_pos (by trivial), gr (by omega), if_pos (by trivial)]
  rfl
theorem rbs (h2 : t 121 3 = (n : Int)) (hn : n ≤ 4000) (hT : BY (t 123)) : ∀ d k, k + d ≤ n → (∀ j, k ≤ j → j < k + d → bl (t 123 j)) → lp RF (v2, (k : Int), t) = lp RF (v2, ((k + d : Nat) : Int), t)
  | 0, k, _, _ => rfl
  | d + 1, k, h, hb => by
    rw [lp_next (rb1 h2 hn hT (by omega) (hb k (by omega) (by omega))), rbs h2 hn hT d (k + 1) (by omega) (fun j j1 j2 => hb j (by omega) (by omega)), show k + 1 + d = k + (d + 1) by omega]
theorem mat_ok (h2 : t 121 3 = (n : Int)) (hn : n ≤ 4000) (hk : k < n) : m_at ((k : Int) + 1) t = some (if k + 1 < n then t 123 (k + 1) else -1, t) := by
  unfold m_at
  simp only [e1n]
  rw [gr (by omega), gr (by omega)]
  by_cases c : k + 1 < n
  · rw [if_neg (by omega), gd_pos (by omega), if_pos c]
  · rw [if_pos (by omega), if_neg c]
theorem r73 (h2 : t 121 3 = (n : Int)) (hn : n ≤ 4000) (hT : BY (t 123)) (hk : k ≤ n) (v3 : Int) : lp (L := Int × iS) (E := Int × iS) (fun l => m_signs_73b v2 v3 (l.1) (l.2)) ((k : Int), t) = some (((scn (fun j => spt (t 123) n j) k (n - k) : Nat) : Int), t) := by
  refine lp_sc1 (P := fun j => spt (t 123) n j) (fun j : Nat => ((j : Int), t)) (fun j : Nat => ((j : Int), t)) n (fun j hj => ?_) ?_ k hk
  · have a := hT j
    have a' := hT (j + 1)
    simp only [m_signs_73b, Int.toNat_natCast]
    rw [gr (by omega), gr (by omega), if_neg (by omega), gd_pos (by omega), gr (by omega)]
    by_cases c2 : t 123 j = 10
    · rw [if_pos c2, if_pos (Or.inr (Or.inl c2))]
    · rw [if_neg c2]
      by_cases c : bl (t 123 j)
      · rw [mby c, bq, gr (by omega), if_neg (by omega), if_pos (Or.inl c)]
      · rw [mbn ⟨by omega, by omega⟩ c, bq, gr (by omega), if_pos rfl, gr (by omega)]
        by_cases c3 : t 123 j = 47
        · rw [if_pos c3, mat_ok h2 hn hj, bq]
          by_cases c4 : j + 1 < n
          · rw [if_pos c4, gr (by omega)]
            by_cases c5 : t 123 (j + 1) = 47
            · rw [if_pos c5, if_pos (Or.inr (Or.inr ⟨c4, c3, c5⟩))]
            · rw [if_neg c5, if_neg (fun q => q.elim c (fun q => q.elim c2 (fun q => c5 q.2.2)))]
              rfl
          · rw [if_neg c4, gr (by omega), if_neg (by omega), if_neg (fun q => q.elim c (fun q => q.elim c2 (fun q => c4 q.1)))]
            rfl
        · rw [if_neg c3, if_neg (fun q => q.elim c (fun q => q.elim c2 (fun q => c3 q.2.1)))]
          rfl
  · simp only [m_signs_73b]
    rw [gr (by omega), gr (by omega), if_pos (by omega)]
theorem rtk (h2 : t 121 3 = (n : Int)) (hn : n ≤ 4000) (hT : BY (t 123)) (hk : k < n) (c1 : ¬ bl (t 123 k)) (c2 : t 123 k ≠ 10) : RF (v2, (k : Int), t) = m_signs_141 v2 (k : Int) ((scn (fun j => spt (t 123) n j) k (n - k) : Nat) : Int) t := by
  have b := hT k
  unfold RF m_signs_23b m_signs_48 m_signs_73
  simp only [Int.toNat_natCast]
  rw [gr (by omega), gr (by omega), if_neg (by omega), gd_pos (by omega), gr (by omega), if_neg c2, gr (by omega), if_neg c2, mbn ⟨by omega, by omega⟩ c1, bq, gr (by omega), if_pos rfl, r73 h2 hn hT (by omega), bn]
theorem rend (h2 : t 121 3 = (n : Int)) (hn : n ≤ 4000) : RF (v2, (n : Int), t) = some (.inr (.inr t)) := by
  unfold RF m_signs_23b
  simp only
  rw [gr (by omega), gr (by omega), if_pos (by omega)]
/-- to the line's end -/
theorem rle (h2 : t 121 3 = (n : Int)) (hn : n ≤ 4000) (hT : BY (t 123)) (hk : k ≤ n) (c : k < n → t 123 k = 10 ∨ cmt (t 123) n k) : lp RF (v2, (k : Int), t) = if scn (fun j => t 123 j = 10) k (n - k) < n then lp RF (0, ((scn (fun j => t 123 j = 10) k (n - k) + 1 : Nat) : Int), t) else some (.inr t) := by
  have sc := scn_le (P := fun j => t 123 j = 10) (n - k) k
  by_cases c0 : k = n
  · subst c0
    rw [if_neg (by omega), lp_end (rend h2 hn)]
  rcases c (by omega) with c1 | c1
  · have : scn (fun j => t 123 j = 10) k (n - k) = k := scn_at (by omega) (by omega) (fun j j1 j2 => by omega) (fun _ => c1)
    rw [this, if_pos (by omega), lp_next (rb2 h2 hn (by omega) c1)]
  · have e1 : scn (fun j => spt (t 123) n j) k (n - k) = k := scn_at (by omega) (by omega) (fun j j1 j2 => by omega) (fun _ => Or.inr (Or.inr c1))
    have st : RF (v2, (k : Int), t) = some (.inl (v2, ((scn (fun j => t 123 j = 10) k (n - k) : Nat) : Int), t)) := by
      have := c1.2.1
      rw [rtk h2 hn hT (by omega) (by omega) (by omega), e1]
      unfold m_signs_141 m_signs_147
      rw [gr (by omega), gr (by omega), if_pos rfl, lp_sc1 (P := fun j => t 123 j = 10) (fun j : Nat => ((j : Int), t)) (fun j : Nat => ((j : Int), t)) n (fun j hj => by
        have a := hT j
        simp only [m_signs_147b, Int.toNat_natCast]
        rw [gr (by omega), gr (by omega), if_neg (by omega), gd_pos (by omega), gr (by omega)]
        rfl) (by
        simp only [m_signs_147b]
        rw [gr (by omega), gr (by omega), if_pos (by omega)]) k hk, bn]
    rw [lp_next st]
    by_cases c2 : scn (fun j => t 123 j = 10) k (n - k) < n
    · rw [if_pos c2, lp_next (rb2 h2 hn c2 (scn_is (P := fun j => t 123 j = 10) (n - k) k (by omega)))]
    · rw [if_neg c2, show scn (fun j => t 123 j = 10) k (n - k) = n by omega, lp_end (rend h2 hn)]
/-- the class's loop at its ends -/
theorem cend {line : Int} {q : Nat} (h1 : s 55 13 = (n : Int)) (hn : n ≤ 4000) (hq : n ≤ q ∧ q ≤ 10000) (hl : 0 ≤ line ∧ line ≤ 10000) : lp CF ((q : Int), line, s) = some s := by
  refine lp_end ?_
  unfold CF pro_assemble_21b
  simp only
  rw [gr (by omega), gr (by omega)]
  by_cases c : (n : Int) ≤ line
  · rw [if_pos (by omega)]
  · rw [if_neg (by omega), gr (by omega), if_pos (by omega)]
theorem cflt {line q : Int} (h1 : s 55 13 = (n : Int)) (hn : n ≤ 4000) (hq : 0 ≤ q ∧ q ≤ 10000) (hl : 0 ≤ line ∧ line ≤ 10000) (h14 : s 55 14 = 1 ∨ s 55 14 = 2 ∨ s 55 14 = 3) : lp CF (q, line, s) = some s := by
  refine lp_end ?_
  unfold CF pro_assemble_21b
  simp only
  rw [gr (by omega), gr (by omega)]
  by_cases c : (n : Int) ≤ line
  · rw [if_pos (by omega)]
  · rw [if_neg (by omega), gr (by omega)]
    by_cases c2 : (n : Int) ≤ q
    · rw [if_pos (by omega)]
    · rw [if_neg (by omega), gr (by omega), if_neg (by omega)]
theorem cstp {line : Int} {q : Nat} {r : Int} (h1 : s 55 13 = (n : Int)) (hn : n ≤ 4000) (hq : q < n) (hl : 0 ≤ line ∧ line ≤ q) (h14 : s 55 14 = 0) (hr : pro_readLine (q : Int) s = some (r, s')) : lp CF ((q : Int), line, s) = lp CF (r, line + 1, s') := by
  refine lp_next ?_
  unfold CF pro_assemble_21b
  simp only
  rw [gr (by omega), gr (by omega), if_neg (by omega), gr (by omega), if_neg (by omega), gr (by omega), if_pos h14, hr, bq]
end LN
