/-! chips: rings: bits, the relation of chips -/
theorem i_shr_nat {m k : Nat} (hm : m < 2147483648) (hk : k < 31) : i_shr (m : Int) (k : Int) = ((m >>> k : Nat) : Int) := by
  unfold i_shr
  have key : ∀ k : Fin 31, ((Int32.ofInt (k.val : Int) &&& 31).toBitVec.smod 32) = BitVec.ofNat 32 k.val := by decide
  have key' := key ⟨k, hk⟩
  show (Int32.ofInt (m : Int) >>> (Int32.ofInt (k : Int) &&& 31)).toBitVec.toInt = _
  have e : (Int32.ofInt (m : Int)).toBitVec.toInt = (m : Int) := Int32.toInt_ofInt_of_le (by omega) (by omega)
  rw [Int32.toBitVec_shiftRight, key', BitVec.sshiftRight_eq', BitVec.toInt_sshiftRight, e, BitVec.toNat_ofNat, Nat.mod_eq_of_lt (by omega)]
  rfl
theorem bit_at {m k : Nat} (hm : m < 2147483648) (hk : k < 31) : i_and (i_shr (m : Int) (k : Int)) 1 = if m.testBit k = true then 1 else 0 := by
  have l : m >>> k ≤ m := by rw [Nat.shiftRight_eq_div_pow]; exact Nat.div_le_self _ _
  have e : m.testBit k = ((m >>> k) &&& 1 != 0) := by
    unfold Nat.testBit
    rw [Nat.and_comm]
  rw [i_shr_nat hm hk, e]
  generalize m >>> k = x at l
  rw [i_and_nat (by omega) (by omega), Int.toNat_natCast]
  have b : x &&& 1 = x % 2 := Nat.and_one_is_mod _
  show ((x &&& 1 : Nat) : Int) = _
  rw [b]
  by_cases q : x % 2 = 0
  · rw [q, if_neg (by decide)]
    rfl
  · have : x % 2 = 1 := by omega
    rw [this, if_pos (by decide)]
    rfl
/-- which chips are within which, over the first k chips -/
def wSt (w0 : Nat → Nat → Bool) : Nat → Nat → Nat → Bool
  | 0, a, b => w0 a b
  | k + 1, a, b => wSt w0 k a b || (wSt w0 k a k && wSt w0 k k b)
section CLi
variable {w0 : Nat → Nat → Bool}
theorem wSt_s {k a b : Nat} : wSt w0 (k + 1) a b = (wSt w0 k a b || (wSt w0 k a k && wSt w0 k k b)) := rfl
theorem wSt_row {k b : Nat} : wSt w0 (k + 1) k b = wSt w0 k k b := by
  rw [wSt_s]
  cases wSt w0 k k b <;> cases wSt w0 k k k <;> rfl
theorem wSt_col {k a : Nat} : wSt w0 (k + 1) a k = wSt w0 k a k := by
  rw [wSt_s]
  cases wSt w0 k a k <;> cases wSt w0 k k k <;> rfl
theorem wSt_le {a b : Nat} : ∀ k, w0 a b = true → wSt w0 k a b = true
  | 0, h => h
  | k + 1, h => by rw [wSt_s, wSt_le k h]; rfl
theorem wSt_tr : ∀ (k m a b : Nat), m < k → wSt w0 k a m = true → wSt w0 k m b = true → wSt w0 k a b = true
  | 0, m, _, _, h, _, _ => absurd h (Nat.not_lt_zero m)
  | k + 1, m, a, b, h, h1, h2 => by
    by_cases e : m = k
    · rw [e] at h1 h2
      rw [wSt_col] at h1
      rw [wSt_row] at h2
      rw [wSt_s, h1, h2]
      simp
    · have ih := fun a b => wSt_tr k m a b (by omega)
      rw [wSt_s] at h1 h2 ⊢
      rw [Bool.or_eq_true, Bool.and_eq_true] at h1 h2 ⊢
      rcases h1 with h1 | ⟨h1, h1'⟩ <;> rcases h2 with h2 | ⟨h2, h2'⟩
      · exact Or.inl (ih a b h1 h2)
      · exact Or.inr ⟨ih a k h1 h2, h2'⟩
      · exact Or.inr ⟨h1, ih k b h1' h2⟩
      · exact Or.inr ⟨h1, h2'⟩
end CLi
/-- how many chips are within a -/
def rkW (w : Nat → Nat → Bool) (n a : Nat) : Nat := ((List.range n).filter (fun b => w a b)).length
theorem rkW_lt {w : Nat → Nat → Bool} {n a b : Nat} (ht : ∀ m a b, m < n → w a m = true → w m b = true → w a b = true) (hi : ∀ m, m < n → w m m = false) (hb : b < n) (h : w a b = true) : rkW w n b < rkW w n a := by
  unfold rkW
  have nd : ∀ x, ((List.range n).filter (fun b => w x b)).Nodup := fun x => List.Sublist.nodup List.filter_sublist List.nodup_range
  have := nodup_len (b :: (List.range n).filter (fun y => w b y)) ((List.range n).filter (fun y => w a y)) (List.nodup_cons.mpr ⟨fun q => (by
    have := (List.mem_filter.mp q).2
    rw [hi b hb] at this
    cases this), nd b⟩) (fun y hy => by
    rcases List.mem_cons.mp hy with q | q
    · rw [q]
      exact List.mem_filter.mpr ⟨List.mem_range.mpr hb, h⟩
    · obtain ⟨q1, q2⟩ := List.mem_filter.mp q
      exact List.mem_filter.mpr ⟨q1, ht b a y hb h q2⟩)
  rw [List.length_cons] at this
  omega
theorem rkW_n {w : Nat → Nat → Bool} {n a : Nat} (ha : a < n) (hi : w a a = false) : rkW w n a < n := by
  unfold rkW
  have := nodup_len (a :: (List.range n).filter (fun y => w a y)) (List.range n) (List.nodup_cons.mpr ⟨fun q => (by
    have := (List.mem_filter.mp q).2
    rw [hi] at this
    cases this), List.Sublist.nodup List.filter_sublist List.nodup_range⟩) (fun y hy => by
    rcases List.mem_cons.mp hy with q | q
    · rw [q]; exact List.mem_range.mpr ha
    · exact (List.mem_filter.mp q).1)
  rw [List.length_cons, List.length_range] at this
  omega
