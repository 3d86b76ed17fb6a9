/-! signs: the symbols get their values -/
def cn (va : Nat → Int) : Nat → Nat
  | 0 => 0
  | j + 1 => cn va j + (if va j = -1 then 1 else 0)
def fv (va : Nat → Int) (j : Nat) : Int := if va j = -1 then 16 + (cn va j : Int) else va j
def FW (va cs qs : Nat → Int) (i : Nat) : Int := if qs i = -1 then cs i else fv va (qs i).toNat
section SE
variable {n m y : Nat} {own : List (List Int)} {s t : iS} {va : Nat → Int}
theorem cn_j : ∀ j, cn va j ≤ j
  | 0 => Nat.le_refl _
  | j + 1 => by
    have := cn_j j
    simp only [cn]
    split <;> omega
theorem cn_mono {i : Nat} : ∀ j, i ≤ j → cn va i ≤ cn va j
  | 0, h => by
    have : i = 0 := by omega
    rw [this]
    exact Nat.le_refl _
  | j + 1, h => by
    by_cases c : i = j + 1
    · rw [c]; exact Nat.le_refl _
    · have := cn_mono j (by omega : i ≤ j)
      simp only [cn]
      omega
theorem cn_lt {i j : Nat} (h : i < j) (hi : va i = -1) : cn va i < cn va j := by
  have := cn_mono (va := va) j (show i + 1 ≤ j from h)
  simp only [cn] at this
  rw [if_pos hi] at this
  omega
theorem cn_le {c : Nat} : ∀ j, (∀ i, i < j → va i = -1 → cn va i < c) → cn va j ≤ c
  | 0, _ => Nat.zero_le _
  | j + 1, h => by
    have := cn_le j (fun i hi => h i (by omega))
    simp only [cn]
    by_cases g : va j = -1
    · rw [if_pos g]
      have := h j (by omega) g
      omega
    · rw [if_neg g]; exact this
theorem fv_rg {j : Nat} (hj : j < 100) (h : -1 ≤ va j ∧ va j ≤ 1500) : 0 ≤ fv va j ∧ fv va j ≤ 1500 := by
  have := cn_j (va := va) j
  unfold fv
  by_cases c : va j = -1
  · rw [if_pos c]; omega
  · rw [if_neg c]; omega
/-- the class's loop: what it holds before word i -/
def SI (m y : Nat) (va cs qs ws : Nat → Int) (s0 : iS) (i c : Nat) (s : iS) : Prop := s 55 8 = (m : Int) ∧ (∀ k, k < 23 → s 68 k = kv k) ∧ (∀ i', i' < i → s 69 i' = FW va cs qs i') ∧ (∀ i', i ≤ i' → s 69 i' = ws i') ∧ (∀ j, j < y → (va j ≠ -1 → s 68 (23 + j) = va j) ∧ (va j = -1 → cn va j < c → s 68 (23 + j) = fv va j) ∧ (va j = -1 → ¬ cn va j < c → s 68 (23 + j) = -1) ∧ (va j = -1 → (cn va j < c ↔ ∃ i', i' < i ∧ qs i' = (j : Int)))) ∧ c ≤ 100 ∧ ∀ c' k', c' ≠ 68 → c' ≠ 69 → s c' k' = s0 c' k'
theorem set_st {cs qs ws : Nat → Int} {s0 : iS} {i c : Nat} (hm : m ≤ 1500) (hy : y ≤ 100) (hva : ∀ j, j < y → -1 ≤ va j ∧ va j ≤ 1500) (h5 : RA5 y m ws cs qs) (h6 : RA6 m qs va) (hi : i < m) (h : SI m y va cs qs ws s0 i c s) : ∃ (c' : Nat) (s' : iS), pro_settleSymbols_5b (16 + (c : Int)) (i : Int) s = some (.inl (16 + (c' : Int), ((i + 1 : Nat) : Int), s')) ∧ SI m y va cs qs ws s0 (i + 1) c' s' := by
  obtain ⟨s1, s2, s3, s4, s5, s6, s7⟩ := h
  have wi := s4 i (Nat.le_refl _)
  unfold pro_settleSymbols_5b
  simp only [Int.toNat_natCast]
  have WRi := h5 i hi
  -- a word that is put down
  have fin : ∀ (c' : Nat) (u : iS) (k : Nat) (x : Int), k < 123 → u 55 8 = (m : Int) → (∀ k, k < 23 → u 68 k = kv k) → (∀ i', u 69 i' = s 69 i') → u 68 k = x → x = FW va cs qs i → (∀ j, j < y → (va j ≠ -1 → u 68 (23 + j) = va j) ∧ (va j = -1 → cn va j < c' → u 68 (23 + j) = fv va j) ∧ (va j = -1 → ¬ cn va j < c' → u 68 (23 + j) = -1) ∧ (va j = -1 → (cn va j < c' ↔ ∃ i', i' < i + 1 ∧ qs i' = (j : Int)))) → c' ≤ 100 → (∀ c' k', c' ≠ 68 → c' ≠ 69 → u c' k' = s0 c' k') → ∃ s', pro_settleSymbols_55 (16 + (c' : Int)) (i : Int) (k : Int) u = some (.inl (16 + (c' : Int), ((i + 1 : Nat) : Int), s')) ∧ SI m y va cs qs ws s0 (i + 1) c' s' := by
    intro c' u k x hk u1 u2 u3 u4 u5 u6 u7 u8
    unfold pro_settleSymbols_55
    simp only [Int.toNat_natCast]
    rw [gd_pos (by omega), gd_pos (by omega), lt_eq]
    refine ⟨_, rfl, ?_, fun k hk => ?_, fun i' hi' => ?_, fun i' hi' => ?_, fun j hj => ?_, u7, fun c1 k1 g1 g2 => ?_⟩
    · rw [up_cell (by decide)]; exact u1
    · rw [up_cell (by decide)]; exact u2 k hk
    · rw [up_at]
      by_cases g : i' = i
      · rw [if_pos ⟨rfl, g⟩, g, u4, u5]
      · rw [if_neg (fun z => g z.2), u3]
        exact s3 i' (by omega)
    · rw [up_ne (by omega), u3]
      exact s4 i' (by omega)
    · rw [up_cell (by decide)]; exact u6 j hj
    · rw [up_cell (show c1 ≠ 69 from g2)]; exact u8 c1 k1 g1 g2
  rw [gr (by omega), gr (by omega), if_neg (by omega), gd_pos (by omega)]
  rcases WRi with ⟨q1, ⟨x1, x2⟩ | ⟨k, k1, x1, x2⟩⟩ | ⟨j, j1, x1, q1⟩
  · -- a number
    rw [wi, gr (by omega), if_pos (by omega)]
    refine ⟨c, s, rfl, s1, s2, fun i' hi' => ?_, fun i' hi' => s4 i' (by omega), fun j hj => ?_, s6, s7⟩
    · by_cases g : i' = i
      · rw [g, wi, x1]
        unfold FW
        rw [if_pos q1]
      · exact s3 i' (by omega)
    · obtain ⟨a1, a2, a3, a4⟩ := s5 j hj
      refine ⟨a1, a2, a3, fun g => (a4 g).trans ⟨fun ⟨i', z1, z2⟩ => ⟨i', by omega, z2⟩, fun ⟨i', z1, z2⟩ => ⟨i', ?_, z2⟩⟩⟩
      by_cases g : i' = i
      · rw [g, q1] at z2; omega
      · omega
  · -- a known symbol
    have kr := kv_rg k k1
    have ek : (-1 - ws i) = (k : Int) := by omega
    rw [wi, ek, gr (by omega), if_neg (by omega), if_neg (by omega), gd_pos (by omega), Int.toNat_natCast, s2 k k1, gr (by omega), if_neg (by omega)]
    obtain ⟨s', e1, e2⟩ := fin c s k (kv k) (by omega) s1 s2 (fun _ => rfl) (s2 k k1) (by unfold FW; rw [if_pos q1, x2]) (fun j hj => by
      obtain ⟨a1, a2, a3, a4⟩ := s5 j hj
      refine ⟨a1, a2, a3, fun g => (a4 g).trans ⟨fun ⟨i', z1, z2⟩ => ⟨i', by omega, z2⟩, fun ⟨i', z1, z2⟩ => ⟨i', ?_, z2⟩⟩⟩
      by_cases g : i' = i
      · rw [g, q1] at z2; omega
      · omega) s6 s7
    exact ⟨c, s', e1, e2⟩
  · -- an own symbol
    have ek : (-1 - ws i) = ((23 + j : Nat) : Int) := by omega
    obtain ⟨a1, a2, a3, a4⟩ := s5 j j1
    have vr := hva j j1
    have fr := fv_rg (va := va) (j := j) (by omega) vr
    have eF : FW va cs qs i = fv va j := by unfold FW; rw [if_neg (by omega), q1, Int.toNat_natCast]
    rw [wi, ek, gr (by omega), if_neg (by omega), if_neg (by omega), gd_pos (by omega), Int.toNat_natCast]
    by_cases b1 : va j = -1
    case neg =>
      rw [a1 b1, gr (by omega), if_neg (by omega)]
      obtain ⟨s', e1, e2⟩ := fin c s (23 + j) (va j) (by omega) s1 s2 (fun _ => rfl) (a1 b1) (by rw [eF]; unfold fv; rw [if_neg b1]) (fun j' hj' => by
        obtain ⟨a1, a2, a3, a4⟩ := s5 j' hj'
        refine ⟨a1, a2, a3, fun g => (a4 g).trans ⟨fun ⟨i', z1, z2⟩ => ⟨i', by omega, z2⟩, fun ⟨i', z1, z2⟩ => ⟨i', ?_, z2⟩⟩⟩
        by_cases g' : i' = i
        · rw [g', q1] at z2
          have : j = j' := by omega
          rw [this] at b1
          exact absurd g b1
        · omega) s6 s7
      exact ⟨c, s', e1, e2⟩
    by_cases b2 : cn va j < c
    · rw [a2 b1 b2, gr (by omega), if_neg (by omega)]
      obtain ⟨s', e1, e2⟩ := fin c s (23 + j) (fv va j) (by omega) s1 s2 (fun _ => rfl) (a2 b1 b2) eF.symm (fun j' hj' => by
        obtain ⟨a1', a2', a3', a4'⟩ := s5 j' hj'
        refine ⟨a1', a2', a3', fun g => ⟨fun z => ?_, fun ⟨i', z1, z2⟩ => ?_⟩⟩
        · obtain ⟨i', z1, z2⟩ := (a4' g).mp z
          exact ⟨i', by omega, z2⟩
        · by_cases g' : i' = i
          · rw [g', q1] at z2
            have : j = j' := by omega
            rw [← this]; exact b2
          · exact (a4' g).mpr ⟨i', by omega, z2⟩) s6 s7
      exact ⟨c, s', e1, e2⟩
    · have hc : cn va j = c := by
        have : cn va j ≤ c := cn_le j (fun i0 hi0 hv => by
          rcases h6 i hi i0 (by omega) with z | ⟨i', z1, z2⟩
          · exact absurd hv z
          · exact ((s5 i0 (by omega)).2.2.2 hv).mpr ⟨i', z1, z2⟩)
        omega
      have hcj := cn_j (va := va) j
      rw [a3 b1 b2, gr (by omega), if_pos rfl, lt_eq]
      obtain ⟨s', e1, e2⟩ := fin (c + 1) (up s 68 (23 + j) (16 + (c : Int))) (23 + j) (16 + (c : Int)) (by omega) (by rw [up_cell (by decide)]; exact s1) (fun k hk => by rw [up_ne (by omega)]; exact s2 k hk) (fun i' => by rw [up_cell (by decide)]) (up_same _ _ _ _) (by rw [eF]; unfold fv; rw [if_pos b1, hc]) (fun j' hj' => by
        obtain ⟨a1', a2', a3', a4'⟩ := s5 j' hj'
        by_cases g0 : j' = j
        · subst g0
          rw [up_same]
          refine ⟨fun z => absurd b1 z, fun _ _ => by unfold fv; rw [if_pos b1, hc], fun _ z => absurd (by omega) z, fun _ => ⟨fun _ => ⟨i, by omega, q1⟩, fun _ => by omega⟩⟩
        · rw [up_ne (by omega)]
          have hne : va j' = -1 → (cn va j' < c + 1 ↔ cn va j' < c) := by
            intro hv
            constructor
            · intro z
              rcases Nat.lt_or_gt_of_ne g0 with q | q
              · have := cn_lt (va := va) q hv
                omega
              · have := cn_lt (va := va) q b1
                omega
            · intro z; omega
          refine ⟨a1', fun z1 z2 => a2' z1 ((hne z1).mp z2), fun z1 z2 => a3' z1 (fun z => z2 ((hne z1).mpr z)), fun z => (hne z).trans ⟨fun w => ?_, fun ⟨i', z1, z2⟩ => ?_⟩⟩
          · obtain ⟨i', z1, z2⟩ := (a4' z).mp w
            exact ⟨i', by omega, z2⟩
          · by_cases g' : i' = i
            · rw [g', q1] at z2
              exact absurd (by omega) g0
            · exact (a4' z).mpr ⟨i', by omega, z2⟩) (by omega) (fun c1 k1 g1 g2 => by rw [up_cell (show c1 ≠ 68 from g1)]; exact s7 c1 k1 g1 g2)
      refine ⟨c + 1, s', ?_, e2⟩
      rw [show (16 : Int) + (c : Int) + 1 = 16 + ((c + 1 : Nat) : Int) by omega]
      exact e1
theorem pse_ok {n : Nat} (h : RA n own m (-1) s t) : ∃ s', pro_settleSymbols s = some (0, s') ∧ (∀ i, i < m → s' 69 i = FW (t 192) (t 189) (t 193) i) ∧ (∀ k, k < 23 → s' 68 k = kv k) ∧ ∀ c k, c ≠ 68 → c ≠ 69 → s' c k = s c k := by
  obtain ⟨h1, h2, h3, h4, h5, h6, h7, h8⟩ := h
  have hm := h1.2.2
  have hy := h2.1
  have hva : ∀ j, j < own.length → -1 ≤ t 192 j ∧ t 192 j ≤ 1500 := fun j hj => (h5 j hj).2.2.2
  unfold pro_settleSymbols pro_settleSymbols_5
  obtain ⟨e, e1, e2⟩ : Wp (lp (L := Int × Int × iS) (E := iS) (fun l => pro_settleSymbols_5b (l.1) (l.2.1) (l.2.2)) (16, 0, s)) (fun e => ∃ c, SI m own.length (t 192) (t 189) (t 193) (s 69) s m c e) := by
    refine wp_lp (fun l : Int × Int × iS => ∃ i c : Nat, i ≤ m ∧ l.1 = 16 + (c : Int) ∧ l.2.1 = (i : Int) ∧ SI m own.length (t 192) (t 189) (t 193) (s 69) s i c l.2.2) (fun l => ((m : Int) - l.2.1).toNat) ?_ ⟨0, 0, by omega, rfl, rfl, h1.1, h4, fun i' hi' => by omega, fun _ _ => rfl, fun j hj => ⟨fun _ => (h5 j hj).2.2.1, fun _ z => by omega, fun z _ => ?_, fun _ => ⟨fun z => by omega, fun ⟨i', z, _⟩ => by omega⟩⟩, by omega, fun _ _ _ _ => rfl⟩
    · rintro ⟨v, q, u⟩ ⟨i, c, i1, i2, i3, i4⟩
      simp only at i2 i3 i4
      subst i2 i3
      simp only
      by_cases g : i < m
      · obtain ⟨c', s', g1, g2⟩ := set_st hm hy hva h6 h7 g i4
        exact ⟨_, g1, ⟨i + 1, c', by omega, rfl, rfl, g2⟩, by simp only; omega⟩
      · have : i = m := by omega
        subst this
        have s1 := i4.1
        unfold pro_settleSymbols_5b
        rw [gr (by omega), gr (by omega), if_pos (by omega)]
        exact wp_some.mpr ⟨c, i4⟩
    · show s 68 (23 + j) = -1
      rw [(h5 j hj).2.2.1]
      exact z
  obtain ⟨c, z1, z2, z3, z4, z5, z6, z7⟩ := e2
  rw [e1, bn]
  exact ⟨e, rfl, z3, z2, z7⟩
end SE
