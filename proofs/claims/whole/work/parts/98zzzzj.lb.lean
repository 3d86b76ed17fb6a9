/-! the system's subs: spans, rectangles, circles -/
section LBj
variable {s s' t t' : iS} {a b v x y : Int}
theorem up_up2 {c k : Nat} {x y : Int} : up (up s c k x) c k y = up s c k y := up_up
/-- points of a row, from x on, n of them -/
noncomputable def dPs (s : iS) (y x : Nat) : Nat → iS
  | 0 => s
  | n + 1 => dP (dPs s y x n) (x + n) y
noncomputable def rPs (t : iS) (y x : Nat) : Nat → iS
  | 0 => t
  | n + 1 => rP (rPs t y x n) (x + n) y
theorem LB_pts {y x : Nat} (h : LB s t) (hg : gO s t) (hy : y < 32) : ∀ n, x + n ≤ 64 → LB (dPs s y x n) (rPs t y x n) ∧ gO (dPs s y x n) (rPs t y x n)
  | 0, _ => ⟨h, hg⟩
  | n + 1, hn => by
    obtain ⟨h1, h2⟩ := LB_pts (x := x) h hg hy n (by omega)
    exact ⟨LB_pt h1 (by omega) hy, gO_pt h2⟩
theorem dPs_48 {y x : Nat} : ∀ n k, dPs s y x n 48 k = s 48 k
  | 0, k => rfl
  | n + 1, k => by
    show dP (dPs s y x n) (x + n) y 48 k = _
    unfold dP
    rw [up_ne (by omega), dPs_48 n k]
theorem dPs_add {y x m : Nat} : ∀ n, dPs s y x (m + n) = dPs (dPs s y x m) y (x + m) n
  | 0 => rfl
  | n + 1 => by
    show dP (dPs s y x (m + n)) (x + (m + n)) y = dP (dPs (dPs s y x m) y (x + m) n) (x + m + n) y
    rw [dPs_add n, Nat.add_assoc]
/-- the points of one word -/
theorem dPs_w {y i l : Nat} : ∀ n, l + n ≤ 16 → 1 ≤ n → dPs s y (16 * i + l) n = up s 45 (12288 + 4 * y + i) (pw (s 48 8) (s 45 (12288 + 4 * y + i)) (mk l n))
  | 0, _, h => by omega
  | 1, h, _ => by
    show dP s (16 * i + l + 0) y = _
    unfold dP pI
    rw [mk_1, show (16 * i + l + 0) / 16 = i by omega, show (16 * i + l + 0) % 16 = l by omega]
  | n + 2, h, _ => by
    have ih := dPs_w (y := y) (i := i) (l := l) (n + 1) (by omega) (by omega)
    show dP (dPs s y (16 * i + l) (n + 1)) (16 * i + l + (n + 1)) y = _
    rw [ih]
    unfold dP pI
    rw [show (16 * i + l + (n + 1)) / 16 = i by omega, show (16 * i + l + (n + 1)) % 16 = l + (n + 1) by omega, up_same, up_ne (by omega), up_up2, pw_pw (mk_s (by omega))]
theorem pnt_ok {y i l n : Nat} (hy : y < 32) (hi : i < 4) (hl : l + n ≤ 16) (hn : 1 ≤ n) (h8 : s 48 8 = 0 ∨ s 48 8 = 1) : mem_paint (y : Int) (i : Int) (mk l n) (s 48 8) s = some (0, dPs s y (16 * i + l) n) := by
  rw [dPs_w n hl hn]
  unfold mem_paint mem_paint_63 pw
  rw [gr (by omega), if_neg (by omega), if_neg (by omega), gr (by omega), show (12288 + 4 * (y : Int) + (i : Int)).toNat = 12288 + 4 * y + i by omega]
  rcases h8 with q | q <;> rw [q]
  · rw [if_pos rfl, if_pos rfl, gd_pos (by omega), gd_pos (by omega), lt_eq]
  · rw [if_neg (by decide), if_neg (by decide), gd_pos (by omega), gd_pos (by omega), lt_eq]
/-- how many points from x on, m of them, stand before word i -/
def cntP (x m i : Nat) : Nat := min (16 * i - x) m
theorem span_lp {y x m : Nat} (hy : y < 32) (hm : 1 ≤ m) (hx : x + m ≤ 64) (h8 : s 48 8 = 0 ∨ s 48 8 = 1) : ∀ (k i : Nat), i + k = 4 → lib_drawSpan_3 (x : Int) ((x + m - 1 : Nat) : Int) (y : Int) (i : Int) (dPs s y x (cntP x m i)) = some (0, dPs s y x m)
  | 0, i, hi => by
    have e : i = 4 := by omega
    subst e
    have c : cntP x m 4 = m := by unfold cntP; omega
    unfold lib_drawSpan_3
    rw [c, lp_end (f := fun l : Int × iS => lib_drawSpan_3b (x : Int) ((x + m - 1 : Nat) : Int) (y : Int) (l.1) (l.2)) (l := (((4 : Nat) : Int), dPs s y x m)) (e := dPs s y x m) (by
      show lib_drawSpan_3b (x : Int) ((x + m - 1 : Nat) : Int) (y : Int) ((4 : Nat) : Int) _ = _
      unfold lib_drawSpan_3b
      rw [gr (by omega), if_pos (by omega)]), bn]
  | k + 1, i, hi => by
    have ih := span_lp hy hm hx h8 k (i + 1) (by omega)
    rw [← ih]
    unfold lib_drawSpan_3
    rw [lp_next (f := fun l : Int × iS => lib_drawSpan_3b (x : Int) ((x + m - 1 : Nat) : Int) (y : Int) (l.1) (l.2)) (l := ((i : Int), dPs s y x (cntP x m i))) (l' := (((i + 1 : Nat) : Int), dPs s y x (cntP x m (i + 1)))) (by
      show lib_drawSpan_3b (x : Int) ((x + m - 1 : Nat) : Int) (y : Int) (i : Int) (dPs s y x (cntP x m i)) = _
      unfold lib_drawSpan_3b
      rw [gr (by omega), if_neg (by omega), max_ok ⟨by omega, by omega⟩ (by decide), bq, min_ok ⟨by omega, by omega⟩ (by decide), bq]
      obtain ⟨lo, hlo⟩ : ∃ lo : Nat, lo = x - 16 * i := ⟨_, rfl⟩
      have e1 : (if (x : Int) - 16 * (i : Int) < 0 then (0 : Int) else (x : Int) - 16 * (i : Int)) = (lo : Int) := by split <;> omega
      rw [e1]
      by_cases c : x + m ≤ 16 * i ∨ 16 * (i + 1) ≤ x
      · have e2 : cntP x m (i + 1) = cntP x m i := by unfold cntP; omega
        rw [e2, gr (by omega), gr (by split <;> omega), if_pos (by split <;> omega)]
        rfl
      · obtain ⟨hi', hhi⟩ : ∃ h : Nat, h = min (x + m - 1 - 16 * i) 15 := ⟨_, rfl⟩
        have e2 : (if (15 : Int) < ((x + m - 1 : Nat) : Int) - 16 * (i : Int) then (15 : Int) else ((x + m - 1 : Nat) : Int) - 16 * (i : Int)) = (hi' : Int) := by split <;> omega
        have e3 : cntP x m (i + 1) = cntP x m i + (hi' - lo + 1) := by unfold cntP; omega
        have e4 : x + cntP x m i = 16 * i + lo := by unfold cntP; omega
        have e5 : (i_shl 1 ((hi' : Int) + 1)) - (i_shl 1 (lo : Int)) = mk lo (hi' - lo + 1) := by
          rw [i_shl1 (by omega), i_shl1 (by omega), Int.toNat_natCast, show ((hi' : Int) + 1).toNat = hi' + 1 by omega]
          unfold mk
          rw [show lo + (hi' - lo + 1) = hi' + 1 by omega]
        have e6 : dPs s y x (cntP x m (i + 1)) = dPs (dPs s y x (cntP x m i)) y (16 * i + lo) (hi' - lo + 1) := by
          rw [e3]
          exact (dPs_add (s := s) (y := y) (x := x) (m := cntP x m i) (hi' - lo + 1)).trans (by rw [e4])
        rw [e2, gr (by omega), gr (by omega), if_neg (by omega), e5, pnt_ok hy (by omega) (by omega) (by omega) (by rw [dPs_48]; exact h8), bq, e6]
        rfl)]
theorem span_ok {y x m : Nat} (hy : y < 32) (hm : 1 ≤ m) (hx : x + m ≤ 64) (h8 : s 48 8 = 0 ∨ s 48 8 = 1) : lib_drawSpan (x : Int) ((x + m - 1 : Nat) : Int) (y : Int) s = some (0, dPs s y x m) := by
  have q := span_lp hy hm hx h8 4 0 (by omega)
  have c : cntP x m 0 = 0 := by unfold cntP; omega
  rw [c] at q
  exact q
/-- a rectangle, row by row -/
theorem rr48 {x u y : Nat} {v1 v4 : Int} (hu : x ≤ u ∧ u < 64) (hy : y < 32) (h8 : t 121 108 = 0 ∨ t 121 108 = 1) : ∀ (k n : Nat), n + k = u + 1 - x → m_rectangle_48 v1 (u : Int) v4 (y : Int) ((x + n : Nat) : Int) (rPs t y x n) = some (.inl ((y : Int) + 1, rPs t y x (u + 1 - x)))
  | 0, n, hn => by
    have e : n = u + 1 - x := by omega
    subst e
    unfold m_rectangle_48
    rw [lp_end (f := fun l : Int × iS => m_rectangle_48b v1 (u : Int) v4 (y : Int) (l.1) (l.2)) (l := (((x + (u + 1 - x) : Nat) : Int), rPs t y x (u + 1 - x))) (e := rPs t y x (u + 1 - x)) (by
      show m_rectangle_48b v1 (u : Int) v4 (y : Int) ((x + (u + 1 - x) : Nat) : Int) _ = _
      unfold m_rectangle_48b
      rw [gr (by omega), gr (by omega), if_pos (by omega)]), bn]
  | k + 1, n, hn => by
    have f8 : ∀ m, rPs t y x m 121 108 = t 121 108 := fun m => by
      induction m with
      | zero => rfl
      | succ m ih =>
        show rP (rPs t y x m) (x + m) y 121 108 = _
        unfold rP
        rw [up_ne (by omega), ih]
    rw [← rr48 (v1 := v1) (v4 := v4) hu hy h8 k (n + 1) (by omega)]
    unfold m_rectangle_48
    rw [lp_next (f := fun l : Int × iS => m_rectangle_48b v1 (u : Int) v4 (y : Int) (l.1) (l.2)) (l := (((x + n : Nat) : Int), rPs t y x n)) (l' := (((x + (n + 1) : Nat) : Int), rPs t y x (n + 1))) (by
      show m_rectangle_48b v1 (u : Int) v4 (y : Int) ((x + n : Nat) : Int) (rPs t y x n) = _
      unfold m_rectangle_48b
      rw [gr (by omega), gr (by omega), if_neg (by omega), rp_ok (by omega) hy (by rw [f8]; exact h8), bq]
      rfl)]
theorem rect_lp {x u v : Nat} (hu : x ≤ u ∧ u < 64) (hv : v < 32) : ∀ (k y : Nat) (s t : iS), LB s t → gO s t → y + k = v + 1 → ∃ s' t', lib_drawRectangle_41 (x : Int) (u : Int) (v : Int) (y : Int) s = some (0, s') ∧ m_rectangle_38 (x : Int) (u : Int) (v : Int) (y : Int) t = some (0, t') ∧ LB s' t' ∧ gO s' t' := by
  intro k
  induction k with
  | zero =>
    intro y s t h hg hk
    refine ⟨s, t, ?_, ?_, h, hg⟩
    · unfold lib_drawRectangle_41
      rw [lp_end (f := fun l : Int × iS => lib_drawRectangle_41b (x : Int) (u : Int) (v : Int) (l.1) (l.2)) (l := ((y : Int), s)) (e := s) (by
        show lib_drawRectangle_41b (x : Int) (u : Int) (v : Int) (y : Int) s = _
        unfold lib_drawRectangle_41b
        rw [gr (by omega), gr (by omega), if_pos (by omega)]), bn]
    · unfold m_rectangle_38
      rw [lp_end (f := fun l : Int × iS => m_rectangle_38b (x : Int) (u : Int) (v : Int) (l.1) (l.2)) (l := ((y : Int), t)) (e := t) (by
        show m_rectangle_38b (x : Int) (u : Int) (v : Int) (y : Int) t = _
        unfold m_rectangle_38b
        rw [gr (by omega), gr (by omega), if_pos (by omega)]), bn]
  | succ k ih =>
    intro y s t h hg hk
    have h8 := LB_8 h
    obtain ⟨hL, hG⟩ := LB_pts (y := y) (x := x) h hg (by omega) (u + 1 - x) (by omega)
    obtain ⟨s', t', e1, e2, e3⟩ := ih (y + 1) _ _ hL hG (by omega)
    have sp := span_ok (s := s) (y := y) (x := x) (m := u + 1 - x) (by omega) (by omega) (by omega) h8.1
    rw [show x + (u + 1 - x) - 1 = u by omega] at sp
    refine ⟨s', t', ?_, ?_, e3⟩
    · rw [← e1]
      unfold lib_drawRectangle_41
      rw [lp_next (f := fun l : Int × iS => lib_drawRectangle_41b (x : Int) (u : Int) (v : Int) (l.1) (l.2)) (l := ((y : Int), s)) (l' := (((y + 1 : Nat) : Int), dPs s y x (u + 1 - x))) (by
        show lib_drawRectangle_41b (x : Int) (u : Int) (v : Int) (y : Int) s = _
        unfold lib_drawRectangle_41b
        rw [gr (by omega), gr (by omega), if_neg (by omega), sp, bq]
        rfl)]
    · rw [← e2]
      have r := rr48 (t := t) (y := y) (v1 := (x : Int)) (v4 := (v : Int)) hu (by omega) h8.2.1 (u + 1 - x) 0 (by omega)
      unfold m_rectangle_38
      rw [lp_next (f := fun l : Int × iS => m_rectangle_38b (x : Int) (u : Int) (v : Int) (l.1) (l.2)) (l := ((y : Int), t)) (l' := (((y + 1 : Nat) : Int), rPs t y x (u + 1 - x))) (by
        show m_rectangle_38b (x : Int) (u : Int) (v : Int) (y : Int) t = _
        unfold m_rectangle_38b
        rw [gr (by omega), gr (by omega), if_neg (by omega)]
        exact r)]
/-- roots -/
def rtN (v : Nat) : Nat → Nat → Nat
  | 0, r => r
  | k + 1, r => if (r + 1) * (r + 1) ≤ v then rtN v k (r + 1) else r
def rtF (v : Nat) : Nat := rtN v 182 0
theorem rt_c {v : Nat} (hv : v ≤ 32767) : ∀ (k r : Nat), r + k = 182 → r ≤ 181 → lib_root_2 (v : Int) (r : Int) s = some ((rtN v k r : Int), s) := by
  intro k
  induction k with
  | zero => intro r h1 h2; omega
  | succ k ih =>
    intro r h1 h2
    have sq : (r + 1) * (r + 1) ≤ 182 * 182 := Nat.mul_le_mul (by omega) (by omega)
    have sc : ((r : Int) + 1) * ((r : Int) + 1) = (((r + 1) * (r + 1) : Nat) : Int) := by push_cast; rfl
    have sq2 : r = 181 → 182 * 182 ≤ (r + 1) * (r + 1) := fun q => by rw [q]; exact Nat.le_refl _
    unfold rtN
    by_cases c : (r + 1) * (r + 1) ≤ v
    · have : r ≠ 181 := fun q => by have := sq2 q; omega
      rw [if_pos c, ← ih (r + 1) (by omega) (by omega)]
      unfold lib_root_2
      rw [lp_next (f := fun l : Int × iS => lib_root_2b (v : Int) (l.1) (l.2)) (l := ((r : Int), s)) (l' := (((r + 1 : Nat) : Int), s)) (by
        show lib_root_2b (v : Int) (r : Int) s = _
        unfold lib_root_2b
        rw [sc, gr (by omega), if_neg (by omega), gr (by omega), gr (by omega), if_neg (by omega)]
        rfl)]
    · rw [if_neg c]
      unfold lib_root_2
      rw [lp_end (f := fun l : Int × iS => lib_root_2b (v : Int) (l.1) (l.2)) (l := ((r : Int), s)) (e := ((r : Int), s)) (by
        show lib_root_2b (v : Int) (r : Int) s = _
        unfold lib_root_2b
        rw [sc, gr (by omega)]
        by_cases c2 : (181 : Int) ≤ (r : Int)
        · rw [if_pos c2]
        · rw [if_neg c2, gr (by omega), gr (by omega), if_pos (by omega)]), bn]
theorem rt_r {v : Nat} (hv : v ≤ 32767) : ∀ (k r : Nat), r + k = 182 → r ≤ 181 → m_root_2 (v : Int) (r : Int) t = some ((rtN v k r : Int), t) := by
  intro k
  induction k with
  | zero => intro r h1 h2; omega
  | succ k ih =>
    intro r h1 h2
    have sq : (r + 1) * (r + 1) ≤ 182 * 182 := Nat.mul_le_mul (by omega) (by omega)
    have sc : ((r : Int) + 1) * ((r : Int) + 1) = (((r + 1) * (r + 1) : Nat) : Int) := by push_cast; rfl
    have sq2 : r = 181 → 182 * 182 ≤ (r + 1) * (r + 1) := fun q => by rw [q]; exact Nat.le_refl _
    unfold rtN
    by_cases c : (r + 1) * (r + 1) ≤ v
    · have : r ≠ 181 := fun q => by have := sq2 q; omega
      rw [if_pos c, ← ih (r + 1) (by omega) (by omega)]
      unfold m_root_2
      rw [lp_next (f := fun l : Int × iS => m_root_2b (v : Int) (l.1) (l.2)) (l := ((r : Int), t)) (l' := (((r + 1 : Nat) : Int), t)) (by
        show m_root_2b (v : Int) (r : Int) t = _
        unfold m_root_2b
        rw [sc, gr (by omega), gr (by omega), if_neg (by omega)]
        rfl)]
    · rw [if_neg c]
      unfold m_root_2
      rw [lp_end (f := fun l : Int × iS => m_root_2b (v : Int) (l.1) (l.2)) (l := ((r : Int), t)) (e := ((r : Int), t)) (by
        show m_root_2b (v : Int) (r : Int) t = _
        unfold m_root_2b
        rw [sc, gr (by omega), gr (by omega), if_pos (by omega)]), bn]
theorem root_ok {v : Nat} (hv : v ≤ 32767) : lib_root (v : Int) s = some ((rtF v : Int), s) ∧ m_root (v : Int) t = some ((rtF v : Int), t) := ⟨rt_c hv 182 0 rfl (by omega), rt_r hv 182 0 rfl (by omega)⟩
theorem rtN_sq {v : Nat} : ∀ (k r : Nat), r * r ≤ v → rtN v k r * rtN v k r ≤ v
  | 0, r, h => h
  | k + 1, r, h => by
    unfold rtN
    split
    · rename_i q
      exact rtN_sq k (r + 1) q
    · exact h
theorem rtN_181 {v : Nat} (hv : v ≤ 32767) : ∀ (k r : Nat), r ≤ 181 → rtN v k r ≤ 181
  | 0, r, h => h
  | k + 1, r, h => by
    unfold rtN
    split
    · rename_i q
      refine rtN_181 hv k (r + 1) ?_
      by_cases c : r = 181
      · rw [c] at q; omega
      · omega
    · exact h
end LBj
