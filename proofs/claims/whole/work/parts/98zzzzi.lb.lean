/-! the system's subs: points, lines -/
section LBi
variable {s s' t t' u : iS} {a b v x y : Int}
/-- a word with a bit more or less -/
def pw (cl : Int) (w m : Int) : Int := i_s (if cl = 0 then i_or w m else i_and w (i_xor m (-1)))
theorem pw_rg {cl w m : Int} : w16 (pw cl w m) := i_s_rg _
theorem o16 (x y : Int) : BitVec.ofInt 16 (i_or x y) = BitVec.ofInt 16 x ||| BitVec.ofInt 16 y := by
  have e : ∀ z : Int, BitVec.ofInt 16 z = (BitVec.ofInt 32 z).setWidth 16 := fun z => by
    apply BitVec.eq_of_toNat_eq
    simp [BitVec.toNat_setWidth, BitVec.toNat_ofInt]
    omega
  unfold i_or
  rw [e, e, e, ← BitVec.setWidth_or]
  congr 1
  have : (Int32.ofInt x ||| Int32.ofInt y).toInt = ((BitVec.ofInt 32 x ||| BitVec.ofInt 32 y)).toInt := rfl
  rw [this, BitVec.ofInt_toInt]
theorem a16 (x y : Int) : BitVec.ofInt 16 (i_and x y) = BitVec.ofInt 16 x &&& BitVec.ofInt 16 y := by
  have e : ∀ z : Int, BitVec.ofInt 16 z = (BitVec.ofInt 32 z).setWidth 16 := fun z => by
    apply BitVec.eq_of_toNat_eq
    simp [BitVec.toNat_setWidth, BitVec.toNat_ofInt]
    omega
  unfold i_and
  rw [e, e, e, ← BitVec.setWidth_and]
  congr 1
  have : (Int32.ofInt x &&& Int32.ofInt y).toInt = ((BitVec.ofInt 32 x &&& BitVec.ofInt 32 y)).toInt := rfl
  rw [this, BitVec.ofInt_toInt]
theorem x16 (x : Int) : BitVec.ofInt 16 (i_xor x (-1)) = ~~~ (BitVec.ofInt 16 x) := by
  have e : ∀ z : Int, BitVec.ofInt 16 z = (BitVec.ofInt 32 z).setWidth 16 := fun z => by
    apply BitVec.eq_of_toNat_eq
    simp [BitVec.toNat_setWidth, BitVec.toNat_ofInt]
    omega
  unfold i_xor
  have : (Int32.ofInt x ^^^ Int32.ofInt (-1)).toInt = ((BitVec.ofInt 32 x ^^^ BitVec.ofInt 32 (-1))).toInt := rfl
  rw [this, e, BitVec.ofInt_toInt, e x]
  have n1 : BitVec.ofInt 32 (-1) = BitVec.allOnes 32 := by decide
  rw [n1, BitVec.xor_allOnes]
  exact BitVec.setWidth_not (by decide)
theorem s16 (x : Int) : i_s x = (BitVec.ofInt 16 x).toInt := by
  unfold i_s
  rw [BitVec.toInt_ofInt]
theorem pw_bv {cl w m : Int} : pw cl w m = (if cl = 0 then BitVec.ofInt 16 w ||| BitVec.ofInt 16 m else BitVec.ofInt 16 w &&& ~~~ (BitVec.ofInt 16 m)).toInt := by
  unfold pw
  rw [s16]
  by_cases c : cl = 0
  · rw [if_pos c, if_pos c, o16]
  · rw [if_neg c, if_neg c, a16, x16]
/-- a word painted twice -/
theorem pw_pw {cl w m n o : Int} (h : BitVec.ofInt 16 o = BitVec.ofInt 16 m ||| BitVec.ofInt 16 n) : pw cl (pw cl w m) n = pw cl w o := by
  rw [pw_bv, pw_bv (w := w) (m := m), BitVec.ofInt_toInt, pw_bv, h]
  by_cases c : cl = 0
  · rw [if_pos c, if_pos c, if_pos c, BitVec.or_assoc]
  · rw [if_neg c, if_neg c, if_neg c, BitVec.not_or, BitVec.and_assoc]
/-- the bits from l on, n of them -/
def mk (l n : Nat) : Int := ((2 ^ (l + n) : Nat) : Int) - ((2 ^ l : Nat) : Int)
theorem mk_c : (List.range 16).all (fun l => (List.range 16).all (fun n => decide (l + n < 16 → BitVec.ofInt 16 (mk l (n + 1)) = BitVec.ofInt 16 (mk l n) ||| BitVec.ofInt 16 ((2 ^ (l + n) : Nat) : Int)))) = true := by decide +kernel
theorem mk_s {l n : Nat} (h : l + n < 16) : BitVec.ofInt 16 (mk l (n + 1)) = BitVec.ofInt 16 (mk l n) ||| BitVec.ofInt 16 ((2 ^ (l + n) : Nat) : Int) := by
  have q := List.all_eq_true.mp (List.all_eq_true.mp mk_c l (List.mem_range.mpr (by omega))) n (List.mem_range.mpr (by omega))
  exact (of_decide_eq_true q) h
theorem mk_1 {l : Nat} : mk l 1 = ((2 ^ l : Nat) : Int) := by
  unfold mk
  rw [Nat.pow_succ]
  omega
/-- a point of the class, of the reference -/
def pI (x y : Nat) : Nat := 12288 + 4 * y + x / 16
def pJ (x y : Nat) : Nat := 16384 + 4 * y + x / 16
noncomputable def dP (s : iS) (x y : Nat) : iS := up s 45 (pI x y) (pw (s 48 8) (s 45 (pI x y)) ((2 ^ (x % 16) : Nat) : Int))
noncomputable def rP (t : iS) (x y : Nat) : iS := up t 175 (pJ x y) (pw (1 - t 121 108) (t 175 (pJ x y)) ((2 ^ (x % 16) : Nat) : Int))
theorem tdm (x : Nat) : ((x : Int)).tdiv 16 = ((x / 16 : Nat) : Int) ∧ ((x : Int)).tmod 16 = ((x % 16 : Nat) : Int) := by
  constructor
  · rw [Int.tdiv_eq_ediv_of_nonneg (by omega)]; omega
  · rw [Int.tmod_eq_emod_of_nonneg (by omega)]; omega
theorem dp_ok {x y : Nat} (hx : x < 64) (hy : y < 32) (h8 : s 48 8 = 0 ∨ s 48 8 = 1) : lib_drawPoint (x : Int) (y : Int) s = some (0, dP s x y) := by
  obtain ⟨e1, e2⟩ := tdm x
  have hb : x % 16 < 16 := Nat.mod_lt _ (by decide)
  unfold lib_drawPoint mem_paint mem_paint_63 dP pw pI
  rw [gr (by omega), e1, e2, i_shl1 (by omega), Int.toNat_natCast, gr (by omega), if_neg (by omega), if_neg (by omega), gr (by omega), show (12288 + 4 * (y : Int) + ((x / 16 : Nat) : Int)).toNat = 12288 + 4 * y + x / 16 by omega]
  rcases h8 with q | q <;> rw [q]
  · rw [if_pos rfl, if_pos rfl, gd_pos (by omega), gd_pos (by omega), lt_eq, bq]
  · rw [if_neg (by decide), if_neg (by decide), gd_pos (by omega), gd_pos (by omega), lt_eq, bq]
theorem rp_ok {x y : Nat} (hx : x < 64) (hy : y < 32) (h8 : t 121 108 = 0 ∨ t 121 108 = 1) : m_point (x : Int) (y : Int) t = some (0, rP t x y) := by
  obtain ⟨e1, e2⟩ := tdm x
  have hb : x % 16 < 16 := Nat.mod_lt _ (by decide)
  unfold m_point m_point_56 m_word16 rP pw pJ
  rw [gr (by omega), gr (by omega), e1, e2, i_shl1 (by omega), Int.toNat_natCast, show (16384 + 4 * (y : Int) + ((x / 16 : Nat) : Int)).toNat = 16384 + 4 * y + x / 16 by omega]
  rcases h8 with q | q <;> rw [q]
  · rw [if_pos rfl, if_neg (by decide), gd_pos (by omega), bq, gd_pos (by omega), lt_eq]
  · rw [if_neg (by decide), if_pos (by decide), gd_pos (by omega), bq, gd_pos (by omega), lt_eq]
theorem LB_8 (h : LB s t) : (s 48 8 = 0 ∨ s 48 8 = 1) ∧ (t 121 108 = 0 ∨ t 121 108 = 1) ∧ s 48 8 = 1 - t 121 108 := by
  have := h.2.2.2.2
  unfold CO at this
  omega
theorem LB_pt {x y : Nat} (h : LB s t) (hx : x < 64) (hy : y < 32) : LB (dP s x y) (rP t x y) := by
  have e8 := (LB_8 h).2.2
  have hp : isP ((pJ x y : Nat) : Int) := by unfold isP pJ; omega
  have e1 : ixA ((pJ x y : Nat) : Int) = ((pI x y : Nat) : Int) := by unfold ixA pJ pI; rw [if_neg (by omega)]; omega
  have e2 := MW_at h.1 hp
  rw [e1, Int.toNat_natCast, Int.toNat_natCast] at e2
  have q := LB_put (x := pw (s 48 8) (s 45 (pI x y)) ((2 ^ (x % 16) : Nat) : Int)) h hp pw_rg
  rw [e1, Int.toNat_natCast, Int.toNat_natCast] at q
  unfold dP rP
  rw [← e8, ← e2]
  exact q
theorem gO_pt {x y : Nat} (hg : gO s t) : gO (dP s x y) (rP t x y) := ⟨by unfold dP; rw [up_ne (by omega)]; exact hg.1, by unfold rP; rw [up_ne (by omega)]; exact hg.2⟩
/-- is it a point -/
theorem ip_ok {x y : Int} (hx : -100000 ≤ x ∧ x ≤ 100000) (hy : -100000 ≤ y ∧ y ≤ 100000) : lib_isPoint x y s = some (if 0 ≤ x ∧ x < 64 ∧ 0 ≤ y ∧ y < 32 then 1 else 0, s) ∧ m_isPoint x y t = some (if 0 ≤ x ∧ x < 64 ∧ 0 ≤ y ∧ y < 32 then 1 else 0, t) := by
  constructor
  · unfold lib_isPoint
    rw [gr (by omega)]
    by_cases c1 : x < 0
    · rw [if_pos c1, if_neg (by omega)]
    rw [if_neg c1]
    by_cases c2 : 64 ≤ x
    · rw [if_pos c2, if_neg (by omega)]
    rw [if_neg c2, gr (by omega)]
    by_cases c3 : y < 0
    · rw [if_pos c3, if_neg (by omega)]
    rw [if_neg c3]
    by_cases c4 : 32 ≤ y
    · rw [if_pos c4, if_neg (by omega)]
    rw [if_neg c4, if_pos (by omega)]
  · unfold m_isPoint
    rw [gr (by omega)]
    by_cases c1 : x < 0
    · rw [if_pos c1, if_neg (by omega)]
    rw [if_neg c1]
    by_cases c2 : 64 ≤ x
    · rw [if_pos c2, if_neg (by omega)]
    rw [if_neg c2, gr (by omega)]
    by_cases c3 : y < 0
    · rw [if_pos c3, if_neg (by omega)]
    rw [if_neg c3]
    by_cases c4 : 32 ≤ y
    · rw [if_pos c4, if_neg (by omega)]
    rw [if_neg c4, if_pos (by omega)]
/-- a line, point by point -/
theorem ln_lp {x y u v dx dy : Nat} (hx : x < 64 ∧ u < 64) (hy : y < 32 ∧ v < 32) (hdx : dx = if x ≤ u then u - x else x - u) (hdy : dy = if y ≤ v then v - y else y - v) : ∀ (k a b : Nat) (d : Int) (s t : iS), LB s t → gO s t → a + b + k = dx + dy + 1 → (a ≤ dx + 1 ∧ b ≤ dy + 1) → (-10000 - 100 * (a : Int) - 100 * (b : Int) ≤ d ∧ d ≤ 10000 + 100 * (a : Int) + 100 * (b : Int)) → ∃ s' t', lib_drawLine_65 (x : Int) (y : Int) (u : Int) (v : Int) (dx : Int) (dy : Int) (a : Int) (b : Int) d ((a + b : Nat) : Int) s = some (0, s') ∧ m_line_77 (x : Int) (y : Int) (u : Int) (v : Int) (dx : Int) (dy : Int) (a : Int) (b : Int) d t = some (0, t') ∧ LB s' t' ∧ gO s' t' := by
  have bx : dx < 64 := by rw [hdx]; split <;> omega
  have by' : dy < 32 := by rw [hdy]; split <;> omega
  have done : ∀ (a b : Nat) (d : Int) (s t : iS), LB s t → gO s t → (a ≤ dx + 1 ∧ b ≤ dy + 1) → (dx < a ∨ dy < b) → ∃ s' t', lib_drawLine_65 (x : Int) (y : Int) (u : Int) (v : Int) (dx : Int) (dy : Int) (a : Int) (b : Int) d ((a + b : Nat) : Int) s = some (0, s') ∧ m_line_77 (x : Int) (y : Int) (u : Int) (v : Int) (dx : Int) (dy : Int) (a : Int) (b : Int) d t = some (0, t') ∧ LB s' t' ∧ gO s' t' := fun a b d s t h hg hab hd => by
    refine ⟨s, t, ?_, ?_, h, hg⟩
    · unfold lib_drawLine_65
      rw [lp_end (f := fun l : Int × Int × Int × Int × iS => lib_drawLine_65b (x : Int) (y : Int) (u : Int) (v : Int) (dx : Int) (dy : Int) (l.1) (l.2.1) (l.2.2.1) (l.2.2.2.1) (l.2.2.2.2)) (l := ((a : Int), (b : Int), d, ((a + b : Nat) : Int), s)) (e := s) (by
        show lib_drawLine_65b (x : Int) (y : Int) (u : Int) (v : Int) (dx : Int) (dy : Int) (a : Int) (b : Int) d ((a + b : Nat) : Int) s = _
        unfold lib_drawLine_65b
        rw [gr (by omega), gr (by omega)]
        by_cases c0 : (dx : Int) + (dy : Int) < ((a + b : Nat) : Int)
        · rw [if_pos c0]
        rw [if_neg c0, gr (by omega), gr (by omega)]
        by_cases c1 : (dx : Int) < (a : Int)
        · rw [if_pos c1]
        rw [if_neg c1, gr (by omega), gr (by omega), if_pos (by omega)]), bn]
    · unfold m_line_77
      rw [lp_end (f := fun l : Int × Int × Int × iS => m_line_77b (x : Int) (y : Int) (u : Int) (v : Int) (dx : Int) (dy : Int) (l.1) (l.2.1) (l.2.2.1) (l.2.2.2)) (l := ((a : Int), (b : Int), d, t)) (e := t) (by
        show m_line_77b (x : Int) (y : Int) (u : Int) (v : Int) (dx : Int) (dy : Int) (a : Int) (b : Int) d t = _
        unfold m_line_77b
        rw [gr (by omega), gr (by omega)]
        by_cases c1 : (dx : Int) < (a : Int)
        · rw [if_pos c1]
        rw [if_neg c1, gr (by omega), gr (by omega), if_pos (by omega)]), bn]
  intro k
  induction k with
  | zero =>
    intro a b d s t h hg hk hab hd
    exact done a b d s t h hg hab (by omega)
  | succ k ih =>
    intro a b d s t h hg hk hab hd
    by_cases c : dx < a ∨ dy < b
    · exact done a b d s t h hg hab c
    -- the point
    obtain ⟨px, hpx, epx, fpx⟩ : ∃ px : Nat, px < 64 ∧ ((x : Int) ≤ (u : Int) → (px : Int) = (x : Int) + (a : Int)) ∧ (¬ (x : Int) ≤ (u : Int) → (px : Int) = (x : Int) - (a : Int)) := by
      by_cases q : x ≤ u
      · rw [if_pos q] at hdx
        exact ⟨x + a, by omega, fun _ => by omega, fun z => by omega⟩
      · rw [if_neg q] at hdx
        exact ⟨x - a, by omega, fun z => by omega, fun _ => by omega⟩
    obtain ⟨py, hpy, epy, fpy⟩ : ∃ py : Nat, py < 32 ∧ ((y : Int) ≤ (v : Int) → (py : Int) = (y : Int) + (b : Int)) ∧ (¬ (y : Int) ≤ (v : Int) → (py : Int) = (y : Int) - (b : Int)) := by
      by_cases q : y ≤ v
      · rw [if_pos q] at hdy
        exact ⟨y + b, by omega, fun _ => by omega, fun z => by omega⟩
      · rw [if_neg q] at hdy
        exact ⟨y - b, by omega, fun z => by omega, fun _ => by omega⟩
    have h8 := LB_8 h
    have d1 := dp_ok (s := s) hpx hpy h8.1
    have d2 := rp_ok (t := t) hpx hpy h8.2.1
    have hL := LB_pt h hpx hpy
    have hG := gO_pt (x := px) (y := py) hg
    have cC : lib_drawLine_65b (x : Int) (y : Int) (u : Int) (v : Int) (dx : Int) (dy : Int) (a : Int) (b : Int) d ((a + b : Nat) : Int) s = if 0 ≤ d then some (.inl ((a : Int), (b : Int) + 1, d - (dx : Int), ((a + b : Nat) : Int) + 1, dP s px py)) else some (.inl ((a : Int) + 1, (b : Int), d + (dy : Int), ((a + b : Nat) : Int) + 1, dP s px py)) := by
      unfold lib_drawLine_65b lib_drawLine_106 lib_drawLine_123
      rw [gr (by omega), gr (by omega), if_neg (by omega), gr (by omega), gr (by omega), if_neg (by omega), gr (by omega), gr (by omega), if_neg (by omega), gr (by omega), gr (by omega)]
      by_cases q1 : (x : Int) ≤ (u : Int)
      · rw [if_pos q1, gr (by omega), gr (by omega), ← epx q1]
        by_cases q2 : (y : Int) ≤ (v : Int)
        · rw [if_pos q2, ← epy q2, d1, bq, gr (by omega)]
        · rw [if_neg q2, ← fpy q2, d1, bq, gr (by omega)]
      · rw [if_neg q1, gr (by omega), gr (by omega), ← fpx q1]
        by_cases q2 : (y : Int) ≤ (v : Int)
        · rw [if_pos q2, ← epy q2, d1, bq, gr (by omega)]
        · rw [if_neg q2, ← fpy q2, d1, bq, gr (by omega)]
    have cR : m_line_77b (x : Int) (y : Int) (u : Int) (v : Int) (dx : Int) (dy : Int) (a : Int) (b : Int) d t = if 0 ≤ d then some (.inl ((a : Int), (b : Int) + 1, d - (dx : Int), rP t px py)) else some (.inl ((a : Int) + 1, (b : Int), d + (dy : Int), rP t px py)) := by
      unfold m_line_77b m_line_108 m_line_125
      rw [gr (by omega), gr (by omega), if_neg (by omega), gr (by omega), gr (by omega), if_neg (by omega), gr (by omega), gr (by omega)]
      by_cases q1 : (x : Int) ≤ (u : Int)
      · rw [if_pos q1, gr (by omega), gr (by omega), ← epx q1]
        by_cases q2 : (y : Int) ≤ (v : Int)
        · rw [if_pos q2, ← epy q2, d2, bq, gr (by omega)]
        · rw [if_neg q2, ← fpy q2, d2, bq, gr (by omega)]
      · rw [if_neg q1, gr (by omega), gr (by omega), ← fpx q1]
        by_cases q2 : (y : Int) ≤ (v : Int)
        · rw [if_pos q2, ← epy q2, d2, bq, gr (by omega)]
        · rw [if_neg q2, ← fpy q2, d2, bq, gr (by omega)]
    by_cases q : 0 ≤ d
    · rw [if_pos q] at cC cR
      obtain ⟨s', t', f1, f2, f3⟩ := ih a (b + 1) (d - (dx : Int)) _ _ hL hG (by omega) (by omega) (by omega)
      refine ⟨s', t', ?_, ?_, f3⟩
      · rw [← f1]
        unfold lib_drawLine_65
        rw [lp_next (f := fun l : Int × Int × Int × Int × iS => lib_drawLine_65b (x : Int) (y : Int) (u : Int) (v : Int) (dx : Int) (dy : Int) (l.1) (l.2.1) (l.2.2.1) (l.2.2.2.1) (l.2.2.2.2)) (l := ((a : Int), (b : Int), d, ((a + b : Nat) : Int), s)) cC]
        rfl
      · rw [← f2]
        unfold m_line_77
        rw [lp_next (f := fun l : Int × Int × Int × iS => m_line_77b (x : Int) (y : Int) (u : Int) (v : Int) (dx : Int) (dy : Int) (l.1) (l.2.1) (l.2.2.1) (l.2.2.2)) (l := ((a : Int), (b : Int), d, t)) cR]
        rfl
    · rw [if_neg q] at cC cR
      obtain ⟨s', t', f1, f2, f3⟩ := ih (a + 1) b (d + (dy : Int)) _ _ hL hG (by omega) (by omega) (by omega)
      refine ⟨s', t', ?_, ?_, f3⟩
      · rw [← f1, show ((a + 1 + b : Nat) : Int) = ((a + b : Nat) : Int) + 1 by omega]
        unfold lib_drawLine_65
        rw [lp_next (f := fun l : Int × Int × Int × Int × iS => lib_drawLine_65b (x : Int) (y : Int) (u : Int) (v : Int) (dx : Int) (dy : Int) (l.1) (l.2.1) (l.2.2.1) (l.2.2.2.1) (l.2.2.2.2)) (l := ((a : Int), (b : Int), d, ((a + b : Nat) : Int), s)) cC]
        rfl
      · rw [← f2]
        unfold m_line_77
        rw [lp_next (f := fun l : Int × Int × Int × iS => m_line_77b (x : Int) (y : Int) (u : Int) (v : Int) (dx : Int) (dy : Int) (l.1) (l.2.1) (l.2.2.1) (l.2.2.2)) (l := ((a : Int), (b : Int), d, t)) cR]
        rfl
end LBi
