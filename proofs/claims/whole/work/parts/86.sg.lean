/-! signs: the relation while the text is read; symbols -/
def WR (y : Nat) (x c q : Int) : Prop := (q = -1 ∧ (x = c ∧ (0 ≤ c ∧ c < 32768 ∨ 57344 ≤ c ∧ c < 65536) ∨ ∃ k : Nat, k < 23 ∧ x = -1 - (k : Int) ∧ c = kv k)) ∨ (∃ j : Nat, j < y ∧ x = -1 - (23 + (j : Int)) ∧ q = (j : Int))
def RA1 (m : Nat) (sz tz : Int) : Prop := sz = (m : Int) ∧ tz = (m : Int) ∧ m ≤ 1500
def RA2 (own : List (List Int)) (y' : Int) : Prop := own.length ≤ 100 ∧ y' = (own.length : Int) ∧ ∀ w ∈ own, gw w
def RA4 (n : Nat) (own : List (List Int)) (T vs at' si' va' : Nat → Int) : Prop := ∀ j, j < own.length → (0 ≤ at' j ∧ 0 ≤ si' j ∧ at' j + si' j ≤ (n : Int)) ∧ own.getD j [] = bs T (at' j).toNat (si' j).toNat ∧ vs (23 + j) = va' j ∧ -1 ≤ va' j ∧ va' j ≤ 1500
def RA5 (y m : Nat) (ws cs qs : Nat → Int) : Prop := ∀ i, i < m → WR y (ws i) (cs i) (qs i)
def RA6 (m : Nat) (qs va' : Nat → Int) : Prop := ∀ i, i < m → ∀ j : Nat, (j : Int) < qs i → va' j ≠ -1 ∨ ∃ i', i' < i ∧ qs i' = (j : Int)
def RA7 (y m : Nat) (e : Int) (qs va' : Nat → Int) : Prop := ∀ j : Nat, j < y → (j : Int) ≠ e → va' j ≠ -1 ∨ ∃ i, i < m ∧ qs i = (j : Int)
def RA (n : Nat) (own : List (List Int)) (m : Nat) (e : Int) (s t : iS) : Prop := RA1 m (s 55 8) (t 121 110) ∧ RA2 own (t 121 112) ∧ TB 65 66 67 (tK ++ own) s ∧ (∀ k, k < 23 → s 68 k = kv k) ∧ RA4 n own (t 123) (s 68) (t 190) (t 191) (t 192) ∧ RA5 own.length m (s 69) (t 189) (t 193) ∧ RA6 m (t 193) (t 192) ∧ RA7 own.length m e (t 193) (t 192)
/-- what stays of the symbols when a text is refused -/
def RK (s : iS) : Prop := ∃ y : Nat, s 65 2 = 23 + (y : Int) ∧ y ≤ 100 ∧ ∀ i, i < 23 → s 66 i = wH (tK.getD i []) ∧ s 67 i = wL (tK.getD i []) ∧ s 68 i = kv i
section RAS
variable {n m a k : Nat} {own : List (List Int)} {e : Int} {s t : iS}
theorem RA_RK (h : RA n own m e s t) : RK s := by
  obtain ⟨h1, h2, h3, h4, _⟩ := h
  refine ⟨own.length, ?_, h2.1, fun i hi => ?_⟩
  · rw [h3.1, List.length_append, tK_len]
    omega
  · have := h3.2 i (by rw [List.length_append, tK_len]; omega)
    rw [List.getD_eq_getElem?_getD, List.getElem?_append_left (by rw [tK_len]; exact hi), ← List.getD_eq_getElem?_getD] at this
    exact ⟨this.1, this.2, h4 i hi⟩
theorem RA_weak (h : RA n own m (-1) s t) (e : Int) : RA n own m e s t := by
  obtain ⟨h1, h2, h3, h4, h5, h6, h7, h8⟩ := h
  exact ⟨h1, h2, h3, h4, h5, h6, h7, fun j hj _ => h8 j hj (by omega)⟩
theorem all_gw (h : RA2 own e) : ∀ w ∈ tK ++ own, gw w := by
  intro w hw
  rcases List.mem_append.mp hw with q | q
  · exact tK_gw w q
  · exact h.2.2 w q
theorem fwKO {b : List Int} (h : fw tK b 0 = -1) : fw (tK ++ own) b 0 = if fw own b 0 = -1 then -1 else 23 + fw own b 0 := by
  rw [fw_ap, if_pos h, tK_len]
  exact fw_sh own 23 0
theorem fwKK {b : List Int} (h : fw tK b 0 ≠ -1) : fw (tK ++ own) b 0 = fw tK b 0 := by rw [fw_ap, if_neg h]
/-- the reference's symbol: one comparison -/
theorem mso13 (hb : BY (t 123)) (hn : n ≤ 4000) (h : RA4 n own (t 123) (s 68) (t 190) (t 191) (t 192)) (ho : own.length ≤ 100) {j : Nat} (hj : j < own.length) (hk : a + k ≤ n) (h1 : 1 ≤ k) : m_symbolOf_13 (a : Int) (k : Int) (j : Int) 0 t = if own.getD j [] = bs (t 123) a k then some (.inr (.inl ((j : Int), t))) else some (.inl (((j + 1 : Nat) : Int), t)) := by
  obtain ⟨⟨g1, g2, g3⟩, g4, _⟩ := h j hj
  obtain ⟨p, hp⟩ : ∃ p : Nat, t 190 j = (p : Int) := ⟨(t 190 j).toNat, by omega⟩
  obtain ⟨q, hq⟩ : ∃ q : Nat, t 191 j = (q : Int) := ⟨(t 191 j).toNat, by omega⟩
  rw [hp, hq] at g3 g4
  simp only [Int.toNat_natCast] at g4
  unfold m_symbolOf_13
  have E : lp (L := Int × iS) (E := Int × iS) (fun l => m_symbolOf_13b (a : Int) (k : Int) (j : Int) (l.1) (l.2)) (((0 : Nat) : Int), t) = some (((scn (fun i => ¬ (q = k ∧ t 123 (p + i) = t 123 (a + i))) 0 (k - 0) : Nat) : Int), t) := by
    refine lp_sc1 (P := fun i => ¬ (q = k ∧ t 123 (p + i) = t 123 (a + i))) (fun i : Nat => ((i : Int), t)) (fun i : Nat => ((i : Int), t)) k (fun i hi => ?_) ?_ 0 (by omega)
    · have e1 : ((p : Int) + (i : Int)).toNat = p + i := by omega
      have e2 : ((a : Int) + (i : Int)).toNat = a + i := by omega
      have b1 := hb (p + i)
      have b2 := hb (a + i)
      simp only [m_symbolOf_13b, Int.toNat_natCast, hp, hq, e1, e2]
      rw [gr (by omega), gr (by omega), if_neg (by omega), gd_pos (by omega), gr (by omega)]
      by_cases c1 : q = k
      · rw [if_pos (by omega), gd_pos (by omega), gd_pos (by omega), gr (by omega), gr (by omega)]
        by_cases c2 : t 123 (p + i) = t 123 (a + i)
        · rw [if_pos c2, if_neg (fun z => z ⟨c1, c2⟩)]
          rfl
        · rw [if_neg c2, if_pos (fun z => c2 z.2)]
      · rw [if_neg (by omega), if_pos (fun z => c1 z.1)]
    · simp only [m_symbolOf_13b]
      rw [gr (by omega), gr (by omega), if_pos (by omega)]
  have E' : lp (L := Int × iS) (E := Int × iS) (fun l => m_symbolOf_13b (a : Int) (k : Int) (j : Int) (l.1) (l.2)) (0, t) = _ := E
  rw [E', bn]
  unfold m_symbolOf_64
  simp only
  have sc := scn_le (P := fun i => ¬ (q = k ∧ t 123 (p + i) = t 123 (a + i))) (k - 0) 0
  rw [gr (by omega), gr (by omega)]
  by_cases c : own.getD j [] = bs (t 123) a k
  · rw [if_pos c]
    rw [g4] at c
    obtain ⟨c1, c2⟩ := bs_eq.mp c
    rw [bs_len] at c1
    have : scn (fun i => ¬ (q = k ∧ t 123 (p + i) = t 123 (a + i))) 0 (k - 0) = k := scn_at (by omega) (by omega) (fun i _ hi z => z ⟨c1, by rw [c2 i (by omega), bs_get hi]⟩) (fun z => by omega)
    rw [this, if_pos rfl]
  · rw [if_neg c, if_neg]
    · rfl
    · intro z
      refine c ?_
      rw [g4]
      have hh : ∀ i, i < k → (q = k ∧ t 123 (p + i) = t 123 (a + i)) := fun i hi => Classical.not_not.mp (scn_not (P := fun i => ¬ (q = k ∧ t 123 (p + i) = t 123 (a + i))) (k - 0) 0 i (by omega) (by omega))
      have hq0 := (hh 0 (by omega)).1
      rw [hq0]
      exact bs_ext (fun i hi => (hh i hi).2)
/-- the reference's symbol -/
def nsy (t : iS) (y a k : Nat) : iS := up (up (up (up t 190 y (a : Int)) 191 y (k : Int)) 192 y (-1)) 121 112 ((y : Int) + 1)
theorem mso_ok (hb : BY (t 123)) (hn : n ≤ 4000) (h : RA n own m e s t) (hk : a + k ≤ n) (h1 : 1 ≤ k) : m_symbolOf (a : Int) (k : Int) t = if fw own (bs (t 123) a k) 0 = -1 then (if own.length = 100 then some (-1, t) else some ((own.length : Int), nsy t own.length a k)) else some (fw own (bs (t 123) a k) 0, t) := by
  obtain ⟨_, h2, _, _, h5, _⟩ := h
  have hy := h2.2.1
  have hl := h2.1
  unfold m_symbolOf m_symbolOf_2
  have E : lp (L := Int × iS) (E := (Int × iS) ⊕ (iS)) (fun l => m_symbolOf_2b (a : Int) (k : Int) (l.1) (l.2)) (((0 : Nat) : Int), t) = some (if scn (fun j => own.getD j [] = bs (t 123) a k) 0 own.length < own.length then Sum.inl (((scn (fun j => own.getD j [] = bs (t 123) a k) 0 own.length : Nat) : Int), t) else Sum.inr t) := by
    refine lp_scn (P := fun j => own.getD j [] = bs (t 123) a k) (fun i : Nat => ((i : Int), t)) (fun i : Nat => Sum.inl ((i : Int), t)) (Sum.inr t) own.length (fun i hi => ?_) ?_ own.length 0 (by omega)
    · simp only [m_symbolOf_2b]
      rw [gr (by omega), gr (by omega), if_neg (by omega), mso13 hb hn h5 hl hi hk h1]
    · simp only [m_symbolOf_2b]
      rw [gr (by omega), gr (by omega), if_pos (by omega)]
  have E' : lp (L := Int × iS) (E := (Int × iS) ⊕ (iS)) (fun l => m_symbolOf_2b (a : Int) (k : Int) (l.1) (l.2)) (0, t) = _ := E
  have F := scn_fw (P := fun j => own.getD j [] = bs (t 123) a k) (b := bs (t 123) a k) own 0 (fun j hj => by rw [Nat.zero_add])
  rw [Nat.zero_add] at F
  rw [E', bn, F]
  by_cases c : scn (fun j => own.getD j [] = bs (t 123) a k) 0 own.length < own.length
  · rw [if_pos c, if_pos c, if_neg (by omega)]
    rfl
  · rw [if_neg c, if_neg c, if_pos rfl]
    show m_symbolOf_78 (a : Int) (k : Int) t = _
    unfold m_symbolOf_78
    rw [gr (by omega)]
    by_cases c2 : own.length = 100
    · rw [if_pos (by omega), if_pos c2]
    · have e0 : (t 121 112).toNat = own.length := by omega
      rw [if_neg (by omega), if_neg c2, gd_pos (by omega)]
      simp only [lt_eq, e0]
      have u1 : up t 190 own.length (a : Int) 121 112 = t 121 112 := up_ne (by omega)
      have u2 : up (up t 190 own.length (a : Int)) 191 own.length (k : Int) 121 112 = t 121 112 := by rw [up_ne (by omega), u1]
      have u3 : up (up (up t 190 own.length (a : Int)) 191 own.length (k : Int)) 192 own.length (-1) 121 112 = t 121 112 := by rw [up_ne (by omega), u2]
      simp only [u1, u2, u3, e0]
      rw [gd_pos (by omega), gd_pos (by omega), up_same, hy]
      unfold nsy
      congr 2
      omega
/-- the class's symbol -/
def nsx (s : iS) (y : Nat) (b : List Int) : iS := up (up (up (up s 66 (23 + y) (wH b)) 67 (23 + y) (wL b)) 65 2 ((23 + y + 1 : Nat) : Int)) 68 (23 + y) (-1)
theorem pts_ok (hb : BY (s 1)) (hn : n ≤ 4000) (h : RA n own m e s t) (hk : a + k ≤ n) (hY : isY (s 1) a k) (p : Int) : pro_takeSymbol p (a : Int) ((a + k : Nat) : Int) s = if fw (tK ++ own) (bs (s 1) a k) 0 = -1 then (if own.length = 100 then bd (pro_stopAt p 2 s) (fun _ s11 => some (0, s11)) else some (23 + (own.length : Int), nsx s own.length (bs (s 1) a k))) else some (fw (tK ++ own) (bs (s 1) a k) 0, s) := by
  obtain ⟨_, h2, h3, _⟩ := h
  have hl := h2.1
  have htl : (tK ++ own).length = 23 + own.length := by rw [List.length_append, tK_len]
  have hz : s 65 2 = ((23 + own.length : Nat) : Int) := by rw [h3.1, htl]
  unfold pro_takeSymbol
  rw [findBytes_ok h3 (all_gw h2) (by omega) (by omega) hb (by omega) (by omega), show a + k - a = k by omega, bq]
  have fr := fw_rg (b := bs (s 1) a k) (tK ++ own) 0
  rw [gr (by omega)]
  by_cases c : fw (tK ++ own) (bs (s 1) a k) 0 = -1
  · rw [if_pos c, if_pos c, gr (by omega)]
    by_cases c2 : own.length = 100
    · rw [if_neg (by omega), if_pos c2]
    · rw [if_pos (by omega), if_neg c2, half43_ok (by omega) (by omega) hb, bq, show (a : Int) + 8 = ((a + 8 : Nat) : Int) by omega, half43_ok (by omega) (by omega) hb, bq, nh_wH, nh_wL, add_ok hz (by omega) (by omega) (by decide) (by decide), bq, gd_pos (by omega), lt_eq]
      have e0 : (s 65 2).toNat = 23 + own.length := by omega
      rw [e0, hz]
      unfold nsx
      congr 2
  · rw [if_neg c, if_neg c]
end RAS
