/-! signs: known symbols, own symbols -/
def tR : List (List Int) := [[82, 48], [82, 49], [82, 50], [82, 51], [82, 52], [82, 53], [82, 54], [82, 55], [82, 56], [82, 57], [82, 49, 48], [82, 49, 49], [82, 49, 50], [82, 49, 51], [82, 49, 52], [82, 49, 53]]
def tK7 : List (List Int) := [[83, 80], [76, 67, 76], [65, 82, 71], [84, 72, 73, 83], [84, 72, 65, 84], [83, 67, 82, 69, 69, 78], [75, 66, 68]]
def tK : List (List Int) := tR ++ tK7
def kv (k : Nat) : Int := [0, 1, 2, 3, 4, 5, 6, 7, 8, 9, 10, 11, 12, 13, 14, 15, 0, 1, 2, 3, 4, 16384, 24576].getD k 0
theorem tK_len : tK.length = 23 := rfl
theorem tK_gw : ∀ w ∈ tK, gw w := by
  have : ∀ w ∈ tK, w.length ≤ 16 ∧ 0 < w.length ∧ ∀ x ∈ w, (0 : Int) < x ∧ x < 256 := by decide
  exact this
theorem kv_rg : ∀ k, k < 23 → 0 ≤ kv k ∧ kv k < 32768 := by decide
theorem l_8 : bs (fun k => (ka_8 k).toInt) 0 32 = fl tK7 := by decide
theorem fw_get {b : List Int} : ∀ (r : List (List Int)) (i j : Nat), fw r b i = ((i + j : Nat) : Int) → r.getD j [] = b
  | [], i, j, h => by simp only [fw] at h; omega
  | w :: r, i, j, h => by
    simp only [fw] at h
    by_cases c : w = b
    · rw [if_pos c] at h
      have : j = 0 := by omega
      subst this
      exact c
    · rw [if_neg c] at h
      have q := fw_rg (b := b) r (i + 1)
      obtain ⟨j, rfl⟩ : ∃ j', j = j' + 1 := ⟨j - 1, by omega⟩
      rw [List.getD_cons_succ]
      exact fw_get r (i + 1) j (by rw [h]; omega)
theorem fwR_no {b : List Int} (h : b.getD 0 0 ≠ 82 ∨ b.length < 2 ∨ 3 < b.length) : fw tR b 0 = -1 := by
  refine fw_no tR 0 (fun w hw q => ?_)
  have : ∀ w ∈ tR, w.getD 0 0 = 82 ∧ 2 ≤ w.length ∧ w.length ≤ 3 := by decide
  have := this w hw
  rw [q] at this
  omega
theorem fwR2 (x : Int) : fw tR [82, x] 0 = if 48 ≤ x ∧ x ≤ 57 then x - 48 else -1 := by
  by_cases h : 48 ≤ x ∧ x ≤ 57
  · rw [if_pos h]
    have : x = 48 ∨ x = 49 ∨ x = 50 ∨ x = 51 ∨ x = 52 ∨ x = 53 ∨ x = 54 ∨ x = 55 ∨ x = 56 ∨ x = 57 := by omega
    rcases this with rfl | rfl | rfl | rfl | rfl | rfl | rfl | rfl | rfl | rfl <;> rfl
  · rw [if_neg h]
    refine fw_no tR 0 (fun w hw q => ?_)
    have : ∀ w ∈ tR, 48 ≤ w.getD 1 0 ∧ w.getD 1 0 ≤ 57 := by decide
    have := this w hw
    rw [q] at this
    exact h this
theorem fwR3 (x y : Int) : fw tR [82, x, y] 0 = if x = 49 ∧ 48 ≤ y ∧ y ≤ 53 then 10 + (y - 48) else -1 := by
  by_cases h : x = 49 ∧ 48 ≤ y ∧ y ≤ 53
  · rw [if_pos h]
    obtain ⟨rfl, h⟩ := h
    have : y = 48 ∨ y = 49 ∨ y = 50 ∨ y = 51 ∨ y = 52 ∨ y = 53 := by omega
    rcases this with rfl | rfl | rfl | rfl | rfl | rfl <;> rfl
  · rw [if_neg h]
    refine fw_no tR 0 (fun w hw q => ?_)
    have : ∀ w ∈ tR, w.length = 3 → w.getD 1 0 = 49 ∧ 48 ≤ w.getD 2 0 ∧ w.getD 2 0 ≤ 53 := by decide
    have := this w hw
    rw [q] at this
    exact h (this rfl)
theorem kvR : ∀ k, k < 16 → kv k = (k : Int) := by decide
section KN
variable {s t : iS} {n a k m : Nat}
theorem bs2 {f : Nat → Int} {st : Nat} : bs f st 2 = [f st, f (st + 1)] := rfl
theorem bs3 {f : Nat → Int} {st : Nat} : bs f st 3 = [f st, f (st + 1), f (st + 2)] := rfl
/-- the known symbol's value or -1 -/
def kw (b : List Int) : Int := if fw tK b 0 = -1 then -1 else kv (fw tK b 0).toNat
theorem kw_rg (b : List Int) : -1 ≤ kw b ∧ kw b < 32768 ∧ (kw b = -1 ↔ fw tK b 0 = -1) := by
  unfold kw
  by_cases c : fw tK b 0 = -1
  · rw [if_pos c]; exact ⟨by omega, by omega, fun _ => c, fun _ => rfl⟩
  · rw [if_neg c]
    have h := fw_rg (b := b) tK 0
    rw [tK_len] at h
    have := kv_rg (fw tK b 0).toNat (by omega)
    exact ⟨by omega, by omega, fun q => by omega, fun q => absurd q c⟩
theorem kw_R {b : List Int} (h : fw tK7 b 0 = -1) : kw b = fw tR b 0 := by
  have e : fw tK b 0 = fw tR b 0 := by
    unfold tK
    rw [fw_ap]
    by_cases c : fw tR b 0 = -1
    · rw [if_pos c, c]
      have := fw_sh (b := b) tK7 16 0
      rw [if_pos h] at this
      exact this
    · rw [if_neg c]
  unfold kw
  rw [e]
  have r := fw_rg (b := b) tR 0
  by_cases c : fw tR b 0 = -1
  · rw [if_pos c, c]
  · rw [if_neg c]
    have l : tR.length = 16 := rfl
    rw [kvR _ (by omega)]
    omega
theorem kno_ok (hb : BY (t 123)) (hn : a + k ≤ 4000) (hY : isY (t 123) a k) : m_knownOf (a : Int) (k : Int) t = some (kw (bs (t 123) a k), t) := by
  have hT : ∀ j, j < k → t 123 (a + j) ≠ 32 := fun j hj => by have := hY.2.2.2 j hj; unfold sy ly dg at this; omega
  have h1 := hY.1
  unfold m_knownOf
  rw [wordOf_ok tK7 (by omega) l_8 (by decide) hn hT hb, bq]
  have l7 : tK7.length = 7 := rfl
  rcases fw_rg (b := bs (t 123) a k) tK7 0 with h | h
  case inr =>
    have hj : ∃ j : Nat, j < 7 ∧ fw tK7 (bs (t 123) a k) 0 = (j : Int) := ⟨(fw tK7 (bs (t 123) a k) 0).toNat, by omega, by omega⟩
    obtain ⟨j, j1, j2⟩ := hj
    have eb := fw_get tK7 0 j (by rw [j2]; omega)
    rw [j2, ← eb]
    have : j = 0 ∨ j = 1 ∨ j = 2 ∨ j = 3 ∨ j = 4 ∨ j = 5 ∨ j = 6 := by omega
    rcases this with rfl | rfl | rfl | rfl | rfl | rfl | rfl <;> rfl
  rw [h, kw_R h, gr (by omega), if_pos (by omega), gd_pos (by omega)]
  simp only [Int.toNat_natCast]
  have b0 := hb a
  rw [gr (by omega)]
  have g0 : (bs (t 123) a k).getD 0 0 = t 123 a := by rw [bs_get (by omega)]; rfl
  by_cases c0 : t 123 a = 82
  case neg => rw [if_neg c0, fwR_no (Or.inl (by rw [g0]; exact c0))]
  rw [if_pos c0, gr (by omega)]
  by_cases c1 : k < 2
  · rw [if_pos (by omega), fwR_no (Or.inr (Or.inl (by rw [bs_len]; exact c1)))]
  rw [if_neg (by omega)]
  by_cases c2 : 3 < k
  · rw [if_pos (by omega), fwR_no (Or.inr (Or.inr (by rw [bs_len]; exact c2)))]
  rw [if_neg (by omega), gd_pos (by omega)]
  have e1 : ((a : Int) + 1).toNat = a + 1 := by omega
  have e2 : ((a : Int) + 2).toNat = a + 2 := by omega
  have b1 := hb (a + 1)
  have b2 := hb (a + 2)
  rw [e1]
  have hk : k = 2 ∨ k = 3 := by omega
  rcases hk with rfl | rfl
  · rw [bs2, c0, fwR2]
    by_cases d1 : dg (t 123 (a + 1))
    · rw [mdy d1, bq, gr (by omega), if_neg (by omega), if_neg (by decide), if_pos d1]
      unfold m_knownOf_94 m_knownOf_139 m_knownOf_159
      simp only [e1]
      rw [gr (by decide), if_pos (by omega), gd_pos (by omega), gr (by decide), if_neg (by decide), gr (by omega), if_pos (by omega)]
    · rw [mdn ⟨by omega, by omega⟩ d1, bq, gr (by omega), if_pos rfl, if_neg d1]
  · rw [bs3, c0, fwR3]
    by_cases d1 : dg (t 123 (a + 1))
    · rw [mdy d1, bq, gr (by omega), if_neg (by omega), if_pos (by omega), gd_pos (by omega), e2]
      by_cases d2 : dg (t 123 (a + 2))
      · rw [mdy d2, bq, gr (by omega), if_neg (by omega)]
        unfold m_knownOf_94 m_knownOf_139 m_knownOf_159
        simp only [e1, e2]
        rw [gr (by decide), if_neg (by decide), gd_pos (by omega), gd_pos (by omega), gr (by decide), if_pos (by omega), gd_pos (by omega), gr (by omega)]
        by_cases d3 : t 123 (a + 1) = 49
        · rw [if_pos d3, gr (by omega)]
          by_cases d4 : t 123 (a + 2) ≤ 53
          · rw [if_pos (by omega), if_pos (by omega)]
            congr 2
            omega
          · rw [if_neg (by omega), if_neg (by omega)]
        · rw [if_neg d3, if_neg (fun q => d3 q.1)]
      · rw [mdn ⟨by omega, by omega⟩ d2, bq, gr (by omega), if_pos rfl, if_neg (by omega)]
    · rw [mdn ⟨by omega, by omega⟩ d1, bq, gr (by omega), if_pos rfl, if_neg (by omega)]
theorem scn_fw {P : Nat → Prop} [DecidablePred P] {b : List Int} : ∀ (r : List (List Int)) (i : Nat), (∀ j, j < r.length → (P (i + j) ↔ r.getD j [] = b)) → fw r b i = if scn P i r.length < i + r.length then ((scn P i r.length : Nat) : Int) else -1
  | [], i, h => by rw [fw_0, List.length_nil, scn_0, if_neg (by omega)]
  | w :: r, i, h => by
    rw [List.length_cons, scn_s, fw_s]
    have h0 := h 0 (by simp)
    simp only [Nat.add_zero, List.getD_cons_zero] at h0
    by_cases c : P i
    · rw [if_pos c, if_pos (h0.mp c), if_pos (by omega)]
    · rw [if_neg c, if_neg (fun q => c (h0.mpr q)), scn_fw (P := P) r (i + 1) (fun j hj => by
        have := h (j + 1) (by simp only [List.length_cons]; omega)
        rw [List.getD_cons_succ] at this
        rw [show i + 1 + j = i + (j + 1) by omega]
        exact this), show i + 1 + r.length = i + (r.length + 1) by omega]
end KN
