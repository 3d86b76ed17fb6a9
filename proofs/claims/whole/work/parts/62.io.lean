/-! the machine's operations on ints: bounds and laws -/
theorem bv_ti {x : Int32} {n : Nat} (h : x.toBitVec.toNat = n) (hn : n < 2147483648) : x.toInt = (n : Int) := by
  show x.toBitVec.toInt = _
  rw [BitVec.toInt_eq_toNat_cond, h, if_pos (by omega)]
theorem bv_of {x : Int} (h : 0 ≤ x ∧ x < 2147483648) : (Int32.ofInt x).toBitVec.toNat = x.toNat := by
  rw [Int32.toBitVec_ofInt, BitVec.toNat_ofInt]
  omega
theorem i_and_le {m : Int} (x : Int) (hm : 0 ≤ m ∧ m < 2147483648) : 0 ≤ i_and x m ∧ i_and x m ≤ m := by
  unfold i_and
  have h1 : ((Int32.ofInt x) &&& (Int32.ofInt m)).toBitVec.toNat ≤ m.toNat := by
    rw [Int32.toBitVec_and, BitVec.toNat_and, bv_of hm]
    exact Nat.and_le_right
  rw [bv_ti rfl (by omega)]
  omega
theorem i_and_nat {x y : Int} (hx : 0 ≤ x ∧ x < 2147483648) (hy : 0 ≤ y ∧ y < 2147483648) : i_and x y = ((x.toNat &&& y.toNat : Nat) : Int) := by
  unfold i_and
  refine bv_ti ?_ ?_
  · rw [Int32.toBitVec_and, BitVec.toNat_and, bv_of hx, bv_of hy]
  · have : x.toNat &&& y.toNat ≤ y.toNat := Nat.and_le_right
    omega
theorem i_and_assoc (x y z : Int) : i_and (i_and x y) z = i_and x (i_and y z) := by
  unfold i_and
  rw [Int32.ofInt_toInt, Int32.ofInt_toInt, Int32.and_assoc]
theorem i_s_rg (x : Int) : -32768 ≤ i_s x ∧ i_s x < 32768 := by
  have h1 := Int.bmod_lt (x := x) (m := 65536) (by decide)
  have h2 := Int.le_bmod (x := x) (m := 65536) (by decide)
  unfold i_s
  omega
theorem i_s_id {x : Int} (h : -32768 ≤ x ∧ x < 32768) : i_s x = x := by
  unfold i_s
  rw [Int.bmod_def]
  split <;> omega
theorem i_and_rg (x y : Int) : rg (i_and x y) := ⟨Int32.le_toInt _, Int32.toInt_lt _⟩
theorem i_or_rg (x y : Int) : rg (i_or x y) := ⟨Int32.le_toInt _, Int32.toInt_lt _⟩
theorem i_xor_rg (x y : Int) : rg (i_xor x y) := ⟨Int32.le_toInt _, Int32.toInt_lt _⟩
theorem i_shl_rg (x y : Int) : rg (i_shl x y) := ⟨Int32.le_toInt _, Int32.toInt_lt _⟩
theorem i_shr_rg (x y : Int) : rg (i_shr x y) := ⟨Int32.le_toInt _, Int32.toInt_lt _⟩
theorem i_shl1 {k : Int} (h : 0 ≤ k ∧ k < 31) : i_shl 1 k = ((2 ^ k.toNat : Nat) : Int) := by
  obtain ⟨n, rfl⟩ : ∃ n : Nat, k = (n : Int) := ⟨k.toNat, by omega⟩
  have hn : n < 31 := by omega
  have key : ∀ m : Fin 31, i_shl 1 ((m.val : Nat) : Int) = ((2 ^ m.val : Nat) : Int) := by decide
  exact key ⟨n, hn⟩
theorem l_or_lr (x y : Int) : lr (l_or x y) := ⟨Int64.le_toInt _, Int64.toInt_lt _⟩
theorem l_shl_lr (x y : Int) : lr (l_shl x y) := ⟨Int64.le_toInt _, Int64.toInt_lt _⟩
