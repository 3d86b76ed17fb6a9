/-! chips: pin -/
section CKo
variable {n m nin nout : Nat} {g d ob wd : Nat → Nat} {lc pf pf' : Nat} {O O' : List Nat} {s t s' t' : iS} {T T' : Nat}
theorem i_or_nat {x y : Int} (hx : 0 ≤ x ∧ x < 2147483648) (hy : 0 ≤ y ∧ y < 2147483648) : i_or x y = ((x.toNat ||| y.toNat : Nat) : Int) := by
  unfold i_or
  refine bv_ti ?_ ?_
  · rw [Int32.toBitVec_or, BitVec.toNat_or, bv_of hx, bv_of hy]
  · exact Nat.or_lt_two_pow (n := 31) (by omega) (by omega)
theorem or_bit {v i : Nat} {b : Int} (hi : i < 16) (hv : v < 2 ^ i) (hb : b = 0 ∨ b = 1) : i_or (v : Int) (i_shl b (i : Int)) = ((v + 2 ^ i * b.toNat : Nat) : Int) := by
  have p : 2 ^ i ≤ 2 ^ 15 := Nat.pow_le_pow_right (by omega) (by omega)
  have p' : (2 : Nat) ^ 15 = 32768 := by decide
  rcases hb with e | e
  · subst e
    have z : i_shl 0 (i : Int) = 0 := by
      have key : ∀ m : Fin 16, i_shl 0 ((m.val : Nat) : Int) = 0 := by decide
      exact key ⟨i, hi⟩
    rw [z, i_or_nat (by omega) (by omega), Int.toNat_natCast]
    show ((v ||| 0 : Nat) : Int) = ((v + 2 ^ i * 0 : Nat) : Int)
    rw [Nat.or_zero, Nat.mul_zero, Nat.add_zero]
  · subst e
    rw [i_shl1 (by omega), Int.toNat_natCast, i_or_nat (by omega) (by omega), Int.toNat_natCast, Int.toNat_natCast]
    have := Nat.two_pow_add_eq_or_of_lt hv 1
    rw [Nat.mul_one, Nat.or_comm] at this
    rw [← this]
    show ((2 ^ i + v : Nat) : Int) = ((v + 2 ^ i * 1 : Nat) : Int)
    rw [Nat.mul_one, Nat.add_comm]
/-- bits, from the lowest -/
def bsum (b : Nat → Int) : Nat → Nat
  | 0 => 0
  | i + 1 => bsum b i + 2 ^ i * (b i).toNat
/-- bits i .. w, from the highest -/
def bhi (b : Nat → Int) (w : Nat) : Nat → Nat
  | 0 => 0
  | r + 1 => 2 * bhi b w r + (b (w - (r + 1))).toNat
theorem bsum_lt {b : Nat → Int} (hb : ∀ i, b i = 0 ∨ b i = 1) : ∀ i, bsum b i < 2 ^ i
  | 0 => by show 0 < 2 ^ 0; decide
  | i + 1 => by
    have ih := bsum_lt hb i
    have e : bsum b (i + 1) = bsum b i + 2 ^ i * (b i).toNat := rfl
    rw [e, Nat.pow_succ]
    rcases hb i with q | q <;> rw [q]
    · show _ + 2 ^ i * 0 < _
      omega
    · show _ + 2 ^ i * 1 < _
      omega
theorem bhi_eq {b : Nat → Int} {w : Nat} : ∀ r, r ≤ w → bsum b (w - r) + 2 ^ (w - r) * bhi b w r = bsum b w
  | 0, _ => rfl
  | r + 1, h => by
    have ih := bhi_eq (b := b) (w := w) r (by omega)
    rw [← ih]
    have e1 : w - r = (w - (r + 1)) + 1 := by omega
    have e2 : bsum b (w - r) = bsum b (w - (r + 1)) + 2 ^ (w - (r + 1)) * (b (w - (r + 1))).toNat := by rw [e1]; rfl
    have e3 : bhi b w (r + 1) = 2 * bhi b w r + (b (w - (r + 1))).toNat := rfl
    rw [e2, e3, Nat.mul_add, show 2 ^ (w - r) = 2 ^ (w - (r + 1)) * 2 by rw [e1, Nat.pow_succ], Nat.mul_assoc]
    omega
theorem pin_ok (h : QBd T s t) {k : Int} (hk : rg k) : ∃ r s' t', x_pin k s = some (r, s') ∧ m_pin k t = some (r, t') ∧ rg r ∧ QBd T s' t' := by
  have hk' := hk.2
  have hk1 := hk.1
  rcases h with ⟨a1, a2, a3, a4⟩ | ⟨n, m, nin, nout, g, d, ob, wd, lc, pf, pf', O, O', hB⟩
  · refine ⟨-1, s, t, ?_, ?_, ⟨by omega, by omega⟩, Or.inl ⟨a1, a2, a3, a4⟩⟩
    · unfold x_pin brd_readOutput
      rw [a1, gr (by omega), if_pos rfl, bq]
    · unfold m_pin m_boardPin
      rw [gd_pos (by omega)]
      unfold m_boardPin_13
      rw [lp_end (f := fun l : Int × Int × iS => m_boardPin_13b k 1 (l.1) (l.2.1) (l.2.2)) (e := .inr t) (by
        show m_boardPin_13b k 1 k (t 196 (t 121 174).toNat) t = _
        unfold m_boardPin_13b
        rw [a2, gr (by omega), if_pos rfl]), bn]
      show bd (some (-1, t)) _ = _
      rw [bq, gr (by omega), if_pos rfl]
  · have hB0 := hB
    obtain ⟨b1, b2, b3, b4, b5, ⟨b6, b6'⟩, b7⟩ := hB
    obtain ⟨i1, i2, i3⟩ := BRg_pins b2
    have rb := r_bp b2 b6' hk (o := 1) (Or.inr rfl)
    rw [if_neg (show ¬ (1 : Int) = 0 by omega), if_neg (show ¬ (1 : Int) = 0 by omega)] at rb
    have b20 := b2
    obtain ⟨⟨p1, p2, p3, p4⟩, ⟨q1, q2, q3⟩, ⟨r1, r2⟩, ⟨u1, u2, u3, u4, u5⟩, w⟩ := b2
    by_cases c1 : k < 0
    · rw [if_neg (fun q => by omega)] at rb
      refine ⟨-1, s, t, ?_, ?_, ⟨by omega, by omega⟩, Or.inr ⟨n, m, nin, nout, g, d, ob, wd, lc, pf, pf', O, O', hB0⟩⟩
      · unfold x_pin brd_readOutput
        rw [b6, gr (by omega), if_neg (by omega), gr (by omega), if_pos c1, bq]
      · unfold m_pin
        rw [rb, bq, gr (by omega), if_pos rfl]
    · by_cases c2 : k < (nout : Int)
      · rw [if_pos ⟨by omega, c2⟩] at rb
        obtain ⟨x, hx⟩ : ∃ x : Nat, k = (x : Int) := ⟨k.toNat, by omega⟩
        subst hx
        obtain ⟨⟨w1, w2⟩, w3, w4, -⟩ := w (nin + x) (by omega)
        obtain ⟨b, hb⟩ : ∃ b : Nat → Int, b = fun i => if i < wd (nin + x) then s 112 (s 115 (16 * x + i)).toNat else 0 := ⟨_, rfl⟩
        have src : ∀ i, i < wd (nin + x) → (0 ≤ s 115 (16 * x + i) ∧ s 115 (16 * x + i) < 1694) ∧ ∃ z, m_source ((sW wd 0 (nin + x) + i : Nat) : Int) t = some (z, t) ∧ (-2 ≤ z ∧ z < 40000) ∧ rvl t z = b i := by
          intro i hi
          obtain ⟨m', z, z1, z2⟩ := b5 x i (by omega) hi
          have rr := SG_rg b1 z2
          refine ⟨rr.1, z, r_src m' _ z1, rr.2, ?_⟩
          rw [hb, ← SG_val b1 b4 (fun _ _ _ => trivial) z2]
          show _ = if i < wd (nin + x) then _ else _
          rw [if_pos hi]
        have b01 : ∀ i, b i = 0 ∨ b i = 1 := by
          intro i
          rw [hb]
          show (if i < wd (nin + x) then _ else _) = 0 ∨ (if i < wd (nin + x) then _ else _) = 1
          by_cases hi : i < wd (nin + x)
          · rw [if_pos hi]
            have := (src i hi).1
            exact b4.2.2.2.2 _ (by omega)
          · rw [if_neg hi]
            exact Or.inl rfl
        have L := lpG (f := fun l : Int × Int × iS => brd_readOutput_49b (x : Int) (l.1) ((wd (nin + x) : Nat) : Int) (l.2.1) (l.2.2)) (M := wd (nin + x)) (I := fun i l => l = (((bsum b i : Nat) : Int), (i : Int), s)) (J := fun e => e = (((bsum b (wd (nin + x)) : Nat) : Int), s)) (by
          rintro i l hi rfl
          refine ⟨_, ?_, rfl⟩
          show brd_readOutput_49b (x : Int) ((bsum b i : Nat) : Int) ((wd (nin + x) : Nat) : Int) (i : Int) s = _
          have rr := (src i hi).1
          have eb : s 112 (s 115 (16 * x + i)).toNat = b i := by
            rw [hb]
            show _ = if i < wd (nin + x) then _ else _
            rw [if_pos hi]
          unfold brd_readOutput_49b brd_slotOf
          rw [gr (by omega), gr (by omega), if_neg (by omega), bq, gd_pos (by omega), show (16 * (x : Int) + (i : Int)).toNat = 16 * x + i by omega, gd_pos (by omega), eb, or_bit (by omega) (bsum_lt b01 i) (b01 i)]
          rfl) (by
          rintro l rfl
          refine ⟨_, ?_, rfl⟩
          show brd_readOutput_49b (x : Int) ((bsum b (wd (nin + x)) : Nat) : Int) ((wd (nin + x) : Nat) : Int) ((wd (nin + x) : Nat) : Int) s = _
          unfold brd_readOutput_49b
          rw [gr (by omega), gr (by omega), if_pos (by omega)]) (wd (nin + x)) 0 ((0 : Int), (0 : Int), s) (by omega) rfl
        obtain ⟨e, l1, l2⟩ := L
        have R := lpG (f := fun l : Int × Int × iS => m_pin_26b ((pf' + (nin + x) : Nat) : Int) (l.1) (l.2.1) (l.2.2)) (M := wd (nin + x)) (I := fun r l => l = (((bhi b (wd (nin + x)) r : Nat) : Int), ((wd (nin + x) : Nat) : Int) - 1 - (r : Int), t)) (J := fun e => e = (((bhi b (wd (nin + x)) (wd (nin + x)) : Nat) : Int), t)) (by
          rintro r l hr rfl
          obtain ⟨-, z, z1, z2, z3⟩ := src (wd (nin + x) - (r + 1)) (by omega)
          refine ⟨_, ?_, rfl⟩
          show m_pin_26b ((pf' + (nin + x) : Nat) : Int) ((bhi b (wd (nin + x)) r : Nat) : Int) (((wd (nin + x) : Nat) : Int) - 1 - (r : Int)) t = _
          unfold m_pin_26b
          rw [gr (by omega), if_neg (by omega), p3, r_pp b20 (by omega), bq, show ((sW wd 0 (nin + x) : Nat) : Int) + (((wd (nin + x) : Nat) : Int) - 1 - (r : Int)) = ((sW wd 0 (nin + x) + (wd (nin + x) - (r + 1)) : Nat) : Int) by omega, z1, bq, r_val z2, bq, z3]
          have q := b01 (wd (nin + x) - (r + 1))
          have e3 : bhi b (wd (nin + x)) (r + 1) = 2 * bhi b (wd (nin + x)) r + (b (wd (nin + x) - (r + 1))).toNat := rfl
          rw [e3, show ((2 * bhi b (wd (nin + x)) r + (b (wd (nin + x) - (r + 1))).toNat : Nat) : Int) = 2 * ((bhi b (wd (nin + x)) r : Nat) : Int) + b (wd (nin + x) - (r + 1)) by omega, show ((wd (nin + x) : Nat) : Int) - 1 - ((r + 1 : Nat) : Int) = ((wd (nin + x) : Nat) : Int) - 1 - (r : Int) + -1 by omega]) (by
          rintro l rfl
          refine ⟨_, ?_, rfl⟩
          show m_pin_26b ((pf' + (nin + x) : Nat) : Int) ((bhi b (wd (nin + x)) (wd (nin + x)) : Nat) : Int) (((wd (nin + x) : Nat) : Int) - 1 - ((wd (nin + x) : Nat) : Int)) t = _
          unfold m_pin_26b
          rw [gr (by omega), if_pos (by omega)]) (wd (nin + x)) 0 ((0 : Int), ((wd (nin + x) : Nat) : Int) - 1, t) (by omega) (by
          show _ = ((0 : Int), ((wd (nin + x) : Nat) : Int) - 1 - ((0 : Nat) : Int), t)
          rw [show ((wd (nin + x) : Nat) : Int) - 1 - ((0 : Nat) : Int) = ((wd (nin + x) : Nat) : Int) - 1 by omega])
        obtain ⟨e', m1, m2⟩ := R
        have fin := bhi_eq (b := b) (w := wd (nin + x)) (wd (nin + x)) (Nat.le_refl _)
        rw [Nat.sub_self] at fin
        have fin' : bhi b (wd (nin + x)) (wd (nin + x)) = bsum b (wd (nin + x)) := by
          rw [← fin]
          show _ = 0 + 2 ^ 0 * _
          omega
        have lt := bsum_lt b01 (wd (nin + x))
        have pw : 2 ^ wd (nin + x) ≤ 2 ^ 16 := Nat.pow_le_pow_right (by omega) w2
        have pw' : (2 : Nat) ^ 16 = 65536 := by decide
        refine ⟨((bsum b (wd (nin + x)) : Nat) : Int), s, t, ?_, ?_, ⟨by omega, by omega⟩, Or.inr ⟨n, m, nin, nout, g, d, ob, wd, lc, pf, pf', O, O', hB0⟩⟩
        · unfold x_pin brd_readOutput
          rw [b6, gr (by omega), if_neg (by omega), gr (by omega), if_neg c1, i2, bq, gr (by omega), if_pos c2, i3, bq, gd_pos (by omega), Int.toNat_natCast, q2, gd_pos (by omega), show ((pf : Int) + (nin : Int) + (x : Int)).toNat = pf + (nin + x) by omega, w3]
          unfold brd_readOutput_49
          rw [l1, l2]
          rfl
        · unfold m_pin
          rw [rb, bq, show (pf' : Int) + (nin : Int) + (x : Int) = ((pf' + (nin + x) : Nat) : Int) by omega, gr (by omega), if_neg (by omega), gd_pos (by omega), Int.toNat_natCast, w4]
          unfold m_pin_26
          rw [m1, m2, fin']
          rfl
      · rw [if_neg (fun q => c2 q.2)] at rb
        refine ⟨-1, s, t, ?_, ?_, ⟨by omega, by omega⟩, Or.inr ⟨n, m, nin, nout, g, d, ob, wd, lc, pf, pf', O, O', hB0⟩⟩
        · unfold x_pin brd_readOutput
          rw [b6, gr (by omega), if_neg (by omega), gr (by omega), if_neg c1, i2, bq, gr (by omega), if_neg c2, bq]
        · unfold m_pin
          rw [rb, bq, gr (by omega), if_pos rfl]
end CKo
