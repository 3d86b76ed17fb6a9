/-! names as two longs: eight bytes to a long -/
/-- a number below 2^64 as a long tells it -/
def sg (n : Int) : Int := if n < 9223372036854775808 then n else n - 18446744073709551616
def p8s (a b : Int) : Int := a * 256 + b
/-- byte i of the name f of n bytes, 0 behind it -/
def pd (f : Nat → Int) (n i : Nat) : Int := if i < n then f i else 0
def p8 (g : Nat → Int) : Int := p8s (p8s (p8s (p8s (p8s (p8s (p8s (g 0) (g 1)) (g 2)) (g 3)) (g 4)) (g 5)) (g 6)) (g 7)
theorem p8s_inj {a b a' b' : Int} (h : p8s a b = p8s a' b') (h1 : 0 ≤ b ∧ b < 256) (h2 : 0 ≤ b' ∧ b' < 256) : a = a' ∧ b = b' := by
  unfold p8s at h
  omega
theorem p8_inj {g g' : Nat → Int} (hg : ∀ i, 0 ≤ g i ∧ g i < 256) (hg' : ∀ i, 0 ≤ g' i ∧ g' i < 256) (h : p8 g = p8 g') : ∀ i, i < 8 → g i = g' i := by
  unfold p8 at h
  obtain ⟨h, e7⟩ := p8s_inj h (hg 7) (hg' 7)
  obtain ⟨h, e6⟩ := p8s_inj h (hg 6) (hg' 6)
  obtain ⟨h, e5⟩ := p8s_inj h (hg 5) (hg' 5)
  obtain ⟨h, e4⟩ := p8s_inj h (hg 4) (hg' 4)
  obtain ⟨h, e3⟩ := p8s_inj h (hg 3) (hg' 3)
  obtain ⟨h, e2⟩ := p8s_inj h (hg 2) (hg' 2)
  obtain ⟨e0, e1⟩ := p8s_inj h (hg 1) (hg' 1)
  intro i hi
  rcases i with _ | _ | _ | _ | _ | _ | _ | _ | i
  · exact e0
  · exact e1
  · exact e2
  · exact e3
  · exact e4
  · exact e5
  · exact e6
  · exact e7
  · omega
theorem p8_rg {g : Nat → Int} (hg : ∀ i, 0 ≤ g i ∧ g i < 256) : 0 ≤ p8 g ∧ p8 g < 18446744073709551616 := by
  have h0 := hg 0
  have h1 := hg 1
  have h2 := hg 2
  have h3 := hg 3
  have h4 := hg 4
  have h5 := hg 5
  have h6 := hg 6
  have h7 := hg 7
  unfold p8 p8s
  omega
theorem sg_inj {a b : Int} (ha : 0 ≤ a ∧ a < 18446744073709551616) (hb : 0 ≤ b ∧ b < 18446744073709551616) (h : sg a = sg b) : a = b := by
  unfold sg at h
  split at h <;> split at h <;> omega
/-- the two halves of a name -/
def nmH (f : Nat → Int) (n : Nat) : Int := sg (p8 (fun i => pd f n i))
def nmL (f : Nat → Int) (n : Nat) : Int := sg (p8 (fun i => pd f n (8 + i)))
theorem pd_rg {f : Nat → Int} {n : Nat} (h : ∀ i, i < n → 0 ≤ f i ∧ f i < 256) (i : Nat) : 0 ≤ pd f n i ∧ pd f n i < 256 := by
  unfold pd
  split
  · exact h i ‹_›
  · omega
theorem nm_inj {f g : Nat → Int} {n m : Nat} (hn : n ≤ 16) (hm : m ≤ 16) (hf : ∀ i, i < n → 0 < f i ∧ f i < 256) (hg : ∀ i, i < m → 0 < g i ∧ g i < 256) : (nmH f n = nmH g m ∧ nmL f n = nmL g m) ↔ (n = m ∧ ∀ i, i < n → f i = g i) := by
  have rf : ∀ i, i < n → 0 ≤ f i ∧ f i < 256 := fun i hi => ⟨by have := hf i hi; omega, (hf i hi).2⟩
  have rg' : ∀ i, i < m → 0 ≤ g i ∧ g i < 256 := fun i hi => ⟨by have := hg i hi; omega, (hg i hi).2⟩
  constructor
  · rintro ⟨h1, h2⟩
    have a1 := p8_inj (fun i => pd_rg rf i) (fun i => pd_rg rg' i) (sg_inj (p8_rg (fun i => pd_rg rf i)) (p8_rg (fun i => pd_rg rg' i)) h1)
    have a2 := p8_inj (fun i => pd_rg rf (8 + i)) (fun i => pd_rg rg' (8 + i)) (sg_inj (p8_rg (fun i => pd_rg rf (8 + i))) (p8_rg (fun i => pd_rg rg' (8 + i))) h2)
    have key : ∀ i, i < 16 → pd f n i = pd g m i := by
      intro i hi
      by_cases h8 : i < 8
      · exact a1 i h8
      · have := a2 (i - 8) (by omega)
        rwa [show 8 + (i - 8) = i by omega] at this
    have hnm : n = m := by
      rcases Nat.lt_trichotomy n m with h | h | h
      · have := key n (by omega)
        unfold pd at this
        rw [if_neg (by omega), if_pos h] at this
        have := hg n h
        omega
      · exact h
      · have := key m (by omega)
        unfold pd at this
        rw [if_pos h, if_neg (by omega)] at this
        have := hf m h
        omega
    refine ⟨hnm, fun i hi => ?_⟩
    have := key i (by omega)
    unfold pd at this
    rwa [if_pos hi, if_pos (by omega)] at this
  · rintro ⟨rfl, h⟩
    have : ∀ i, pd f n i = pd g n i := by
      intro i
      unfold pd
      split
      · exact h i ‹_›
      · rfl
    simp only [nmH, nmL, this, and_self]
/-! the machine's shifts -/
theorem l_shl8 {n : Int} (h : 0 ≤ n ∧ n < 72057594037927936) : (Int64.ofInt n <<< (8 : Int64)).toBitVec.toNat = (n * 256).toNat := by
  have e : (Int64.ofInt n).toBitVec.toNat = n.toNat := by
    rw [Int64.toBitVec_ofInt, BitVec.toNat_ofInt]
    omega
  rw [Int64.toBitVec_shiftLeft]
  show ((Int64.ofInt n).toBitVec <<< (BitVec.smod 8#64 64)).toNat = _
  rw [show (BitVec.smod 8#64 64) = 8#64 by decide, BitVec.shiftLeft_eq', BitVec.toNat_shiftLeft, e, Nat.shiftLeft_eq]
  show n.toNat * 256 % 18446744073709551616 = _
  omega
theorem l_pack {n b : Int} (hn : 0 ≤ n ∧ n < 72057594037927936) (hb : 0 ≤ b ∧ b < 256) : l_or (l_shl n 8) b = sg (p8s n b) := by
  unfold l_or l_shl
  rw [show ((Int32.ofInt 8).toInt64 &&& 63 : Int64) = 8 by decide, Int64.ofInt_toInt]
  have e2 : (Int64.ofInt b).toBitVec.toNat = b.toNat := by
    rw [Int64.toBitVec_ofInt, BitVec.toNat_ofInt]
    omega
  have e3 : (Int64.ofInt n <<< (8 : Int64) ||| Int64.ofInt b).toBitVec.toNat = (n * 256 + b).toNat := by
    rw [Int64.toBitVec_or, BitVec.toNat_or, l_shl8 hn, e2]
    have h1 : (n * 256).toNat = n.toNat <<< 8 := by rw [Nat.shiftLeft_eq]; omega
    rw [h1, ← Nat.shiftLeft_add_eq_or_of_lt (by omega : b.toNat < 2 ^ 8), Nat.shiftLeft_eq]
    omega
  show (Int64.ofInt n <<< (8 : Int64) ||| Int64.ofInt b).toBitVec.toInt = _
  rw [BitVec.toInt_eq_toNat_cond, e3]
  unfold sg p8s
  split <;> split <;> omega
theorem l_sg (n : Int) : Int64.ofInt (sg n) = Int64.ofInt n := by
  unfold sg
  split
  · rfl
  · rw [Int64.ofInt_sub]
    have : Int64.ofInt 18446744073709551616 = 0 := by decide
    rw [this, Int64.sub_zero]
theorem l_shl_sg (n y : Int) : l_shl (sg n) y = l_shl n y := by unfold l_shl; rw [l_sg]
abbrev lr (x : Int) : Prop := -9223372036854775808 ≤ x ∧ x < 9223372036854775808
theorem sg_lr {n : Int} (h : 0 ≤ n ∧ n < 18446744073709551616) : lr (sg n) := by
  unfold sg
  constructor <;> split <;> omega
theorem l_cmp0 {x y : Int} (hx : lr x) (hy : lr y) : l_cmp x y = 0 ↔ x = y := by
  have e : Int64.ofInt x = Int64.ofInt y ↔ x = y := by
    constructor
    · intro h
      have := congrArg Int64.toInt h
      rwa [Int64.toInt_ofInt_of_le hx.1 hx.2, Int64.toInt_ofInt_of_le hy.1 hy.2] at this
    · intro h; rw [h]
  rw [← e]
  unfold l_cmp lg_cmp
  split
  · rename_i h
    constructor
    · intro q; exact absurd q (by decide)
    · intro q; rw [q] at h; exact absurd h (Int64.lt_irrefl)
  · split
    · rename_i h1 h2
      exact ⟨fun _ => h2, fun _ => by decide⟩
    · rename_i h1 h2
      constructor
      · intro q; exact absurd q (by decide)
      · intro q; exact absurd q h2
