/-! the system's subs: lines, rectangles, circles, the screen -/
section LBk
variable {s s' t t' : iS} {a b c d v : Int} {V : Int → Int → Prop}
theorem fl_ov {n : Int} (h : LB s t) (hg : gO s t) (hn : w16 n) : Ov (fun r r' => r = 0 ∧ r' = 0) (bd (mem_fail n s) (fun r1 s1 => some (r1, s1))) (bd (m_err n t) (fun _ s1 => some (0, s1))) :=
  Ov_bd (V := fun _ _ => False) (fail_go h hg hn) (fun _ _ _ _ q _ _ => q.elim) (fun r hr => DCl_some hr) (fun _ _ => DRf_some (by decide))
theorem ln_ok1 (h : LB s t) (hg : gO s t) (ha : w16 a) (hb : w16 b) (hc : w16 c) (hd : w16 d) : Ov (fun r r' => r = 0 ∧ r' = 0) (lib_drawLine a b c d s) (m_line a b c d t) := by
  have I1 := ip_ok (s := s) (t := t) (x := a) (y := b) (by omega) (by omega)
  have I2 := ip_ok (s := s) (t := t) (x := c) (y := d) (by omega) (by omega)
  unfold lib_drawLine m_line lib_drawLine_17 m_line_17
  rw [I1.1, I1.2, bq, bq]
  by_cases q1 : 0 ≤ a ∧ a < 64 ∧ 0 ≤ b ∧ b < 32
  case neg =>
    rw [if_neg q1, gr (by omega), gr (by omega), if_pos rfl, if_pos rfl]
    exact fl_ov h hg (by decide)
  rw [if_pos q1, gr (by omega), gr (by omega), if_neg (by omega), if_neg (by omega), I2.1, I2.2, bq, bq]
  by_cases q2 : 0 ≤ c ∧ c < 64 ∧ 0 ≤ d ∧ d < 32
  case neg =>
    rw [if_neg q2, gr (by omega), gr (by omega), if_pos rfl, if_pos rfl]
    exact fl_ov h hg (by decide)
  obtain ⟨x, rfl⟩ : ∃ x : Nat, a = (x : Int) := ⟨a.toNat, by omega⟩
  obtain ⟨y, rfl⟩ : ∃ x : Nat, b = (x : Int) := ⟨b.toNat, by omega⟩
  obtain ⟨u, rfl⟩ : ∃ x : Nat, c = (x : Int) := ⟨c.toNat, by omega⟩
  obtain ⟨v, rfl⟩ : ∃ x : Nat, d = (x : Int) := ⟨d.toNat, by omega⟩
  obtain ⟨dx, hdx⟩ : ∃ dx : Nat, dx = if x ≤ u then u - x else x - u := ⟨_, rfl⟩
  obtain ⟨dy, hdy⟩ : ∃ dy : Nat, dy = if y ≤ v then v - y else y - v := ⟨_, rfl⟩
  have A1 : mth_abs ((u : Int) - (x : Int)) s = some ((dx : Int), s) := by
    unfold mth_abs
    rw [gr (by omega)]
    by_cases q : x ≤ u
    · rw [if_pos q] at hdx
      rw [if_pos (by omega), show (u : Int) - (x : Int) = (dx : Int) by omega]
    · rw [if_neg q] at hdx
      rw [if_neg (by omega), show -((u : Int) - (x : Int)) = (dx : Int) by omega]
  have A2 : mth_abs ((v : Int) - (y : Int)) s = some ((dy : Int), s) := by
    unfold mth_abs
    rw [gr (by omega)]
    by_cases q : y ≤ v
    · rw [if_pos q] at hdy
      rw [if_pos (by omega), show (v : Int) - (y : Int) = (dy : Int) by omega]
    · rw [if_neg q] at hdy
      rw [if_neg (by omega), show -((v : Int) - (y : Int)) = (dy : Int) by omega]
  have bx : dx < 64 := by rw [hdx]; split <;> omega
  have by' : dy < 32 := by rw [hdy]; split <;> omega
  obtain ⟨s', t', e1, e2, e3, e4⟩ := ln_lp (x := x) (y := y) (u := u) (v := v) (by omega) (by omega) hdx hdy (dx + dy + 1) 0 0 (if (dy : Int) = 0 then -1 else 0) s t h hg (by omega) (by omega) (by split <;> omega)
  refine Or.inl ⟨0, 0, s', t', ?_, ?_, ⟨rfl, rfl⟩, e3, e4⟩
  · rw [if_pos q2, gr (by omega), if_neg (by omega), A1, bq, A2, bq, gr (by omega), ← e1]
    unfold lib_drawLine_60
    by_cases q : (dy : Int) = 0
    · rw [if_pos q, if_pos q]
      rfl
    · rw [if_neg q, if_neg q]
      rfl
  · have m57 : ∀ z, m_line_57 (x : Int) (y : Int) (u : Int) (v : Int) (dx : Int) (dy : Int) z = m_line_77 (x : Int) (y : Int) (u : Int) (v : Int) (dx : Int) (dy : Int) 0 0 (if (dy : Int) = 0 then -1 else 0) z := fun z => by
      unfold m_line_57 m_line_75
      rw [gr (by omega)]
      by_cases q : (dy : Int) = 0
      · rw [if_pos q, if_pos q]
      · rw [if_neg q, if_neg q]
    have m38 : ∀ z, m_line_38 (x : Int) (y : Int) (u : Int) (v : Int) (dx : Int) z = m_line_57 (x : Int) (y : Int) (u : Int) (v : Int) (dx : Int) (dy : Int) z := fun z => by
      unfold m_line_38
      rw [gr (by omega), gr (by omega)]
      by_cases q : y ≤ v
      · rw [if_pos q] at hdy
        rw [if_pos (by omega), show (v : Int) - (y : Int) = (dy : Int) by omega]
      · rw [if_neg q] at hdy
        rw [if_neg (by omega), show (y : Int) - (v : Int) = (dy : Int) by omega]
    rw [if_pos q2, gr (by omega), if_neg (by omega), gr (by omega), gr (by omega)]
    by_cases q : x ≤ u
    · rw [if_pos q] at hdx
      rw [if_pos (by omega), show (u : Int) - (x : Int) = (dx : Int) by omega, m38, m57]
      exact e2
    · rw [if_neg q] at hdx
      rw [if_neg (by omega), show (x : Int) - (u : Int) = (dx : Int) by omega, m38, m57]
      exact e2
theorem rc_ok1 (h : LB s t) (hg : gO s t) (ha : w16 a) (hb : w16 b) (hc : w16 c) (hd : w16 d) : Ov (fun r r' => r = 0 ∧ r' = 0) (lib_drawRectangle a b c d s) (m_rectangle a b c d t) := by
  have I1 := ip_ok (s := s) (t := t) (x := a) (y := b) (by omega) (by omega)
  have I2 := ip_ok (s := s) (t := t) (x := c) (y := d) (by omega) (by omega)
  have eC : lib_drawRectangle a b c d s = if c < a ∨ d < b ∨ ¬ (0 ≤ a ∧ a < 64 ∧ 0 ≤ b ∧ b < 32) ∨ ¬ (0 ≤ c ∧ c < 64 ∧ 0 ≤ d ∧ d < 32) then lib_drawRectangle_28 s else lib_drawRectangle_41 a c d b s := by
    unfold lib_drawRectangle
    rw [gr (by omega), gr (by omega)]
    by_cases q1 : c < a
    · rw [if_pos q1, if_pos (Or.inl q1)]
    rw [if_neg q1, gr (by omega), gr (by omega)]
    by_cases q2 : d < b
    · rw [if_pos q2, if_pos (Or.inr (Or.inl q2))]
    rw [if_neg q2, I1.1, bq]
    by_cases q3 : 0 ≤ a ∧ a < 64 ∧ 0 ≤ b ∧ b < 32
    case neg => rw [if_neg q3, gr (by omega), if_pos rfl, if_pos (Or.inr (Or.inr (Or.inl q3)))]
    rw [if_pos q3, gr (by omega), if_neg (by omega), I2.1, bq]
    by_cases q4 : 0 ≤ c ∧ c < 64 ∧ 0 ≤ d ∧ d < 32
    case neg => rw [if_neg q4, gr (by omega), if_pos rfl, if_pos (Or.inr (Or.inr (Or.inr q4)))]
    rw [if_pos q4, gr (by omega), if_neg (by omega), if_neg (by omega)]
  have eR : m_rectangle a b c d t = if c < a ∨ d < b ∨ ¬ (0 ≤ a ∧ a < 64 ∧ 0 ≤ b ∧ b < 32) ∨ ¬ (0 ≤ c ∧ c < 64 ∧ 0 ≤ d ∧ d < 32) then m_rectangle_28 t else m_rectangle_38 a c d b t := by
    unfold m_rectangle
    rw [gr (by omega), gr (by omega)]
    by_cases q1 : c < a
    · rw [if_pos q1, if_pos (Or.inl q1)]
    rw [if_neg q1, gr (by omega), gr (by omega)]
    by_cases q2 : d < b
    · rw [if_pos q2, if_pos (Or.inr (Or.inl q2))]
    rw [if_neg q2, I1.2, bq]
    by_cases q3 : 0 ≤ a ∧ a < 64 ∧ 0 ≤ b ∧ b < 32
    case neg => rw [if_neg q3, gr (by omega), if_pos rfl, if_pos (Or.inr (Or.inr (Or.inl q3)))]
    rw [if_pos q3, gr (by omega), if_neg (by omega), I2.2, bq]
    by_cases q4 : 0 ≤ c ∧ c < 64 ∧ 0 ≤ d ∧ d < 32
    case neg => rw [if_neg q4, gr (by omega), if_pos rfl, if_pos (Or.inr (Or.inr (Or.inr q4)))]
    rw [if_pos q4, gr (by omega), if_neg (by omega), if_neg (by omega)]
  rw [eC, eR]
  by_cases q : c < a ∨ d < b ∨ ¬ (0 ≤ a ∧ a < 64 ∧ 0 ≤ b ∧ b < 32) ∨ ¬ (0 ≤ c ∧ c < 64 ∧ 0 ≤ d ∧ d < 32)
  · rw [if_pos q, if_pos q]
    exact fl_ov h hg (by decide)
  · rw [if_neg q, if_neg q]
    obtain ⟨x, rfl⟩ : ∃ x : Nat, a = (x : Int) := ⟨a.toNat, by omega⟩
    obtain ⟨y, rfl⟩ : ∃ x : Nat, b = (x : Int) := ⟨b.toNat, by omega⟩
    obtain ⟨u, rfl⟩ : ∃ x : Nat, c = (x : Int) := ⟨c.toNat, by omega⟩
    obtain ⟨v, rfl⟩ : ∃ x : Nat, d = (x : Int) := ⟨d.toNat, by omega⟩
    obtain ⟨s', t', e1, e2, e3, e4⟩ := rect_lp (x := x) (u := u) (v := v) (by omega) (by omega) (v + 1 - y) y s t h hg (by omega)
    exact Or.inl ⟨0, 0, s', t', e1, e2, ⟨rfl, rfl⟩, e3, e4⟩
/-- a row of a circle -/
theorem cr71 {X w y : Nat} {v1 v2 v3 e : Int} (h1 : v1 = (X : Int) + (w : Int)) (hX : X + 2 * w < 64) (hy : y < 32) (hye : v2 + e = (y : Int)) (h8 : t 121 108 = 0 ∨ t 121 108 = 1) : ∀ (k n : Nat), n + k = 2 * w + 1 → m_circle_71 v1 v2 v3 e (w : Int) ((X + n : Nat) : Int) (rPs t y X n) = some (.inl (e + 1, rPs t y X (2 * w + 1)))
  | 0, n, hn => by
    have q : n = 2 * w + 1 := by omega
    subst q
    unfold m_circle_71
    rw [lp_end (f := fun l : Int × iS => m_circle_71b v1 v2 v3 e (w : Int) (l.1) (l.2)) (l := (((X + (2 * w + 1) : Nat) : Int), rPs t y X (2 * w + 1))) (e := rPs t y X (2 * w + 1)) (by
      show m_circle_71b v1 v2 v3 e (w : Int) ((X + (2 * w + 1) : Nat) : Int) (rPs t y X (2 * w + 1)) = _
      unfold m_circle_71b
      rw [gr (by omega), gr (by omega), if_pos (by omega)]), bn]
  | k + 1, n, hn => by
    have f8 : ∀ m, rPs t y X m 121 108 = t 121 108 := fun m => by
      induction m with
      | zero => rfl
      | succ m ih =>
        show rP (rPs t y X m) (X + m) y 121 108 = _
        unfold rP
        rw [up_ne (by omega), ih]
    rw [← cr71 (v3 := v3) h1 hX hy hye h8 k (n + 1) (by omega)]
    unfold m_circle_71
    rw [lp_next (f := fun l : Int × iS => m_circle_71b v1 v2 v3 e (w : Int) (l.1) (l.2)) (l := (((X + n : Nat) : Int), rPs t y X n)) (l' := (((X + (n + 1) : Nat) : Int), rPs t y X (n + 1))) (by
      show m_circle_71b v1 v2 v3 e (w : Int) ((X + n : Nat) : Int) (rPs t y X n) = _
      unfold m_circle_71b
      rw [gr (by omega), gr (by omega), if_neg (by omega), hye, rp_ok (by omega) hy (by rw [f8]; exact h8), bq]
      rfl)]
theorem circ_lp {x y r : Nat} (hx : r ≤ x ∧ x + r < 64) (hy : r ≤ y ∧ y + r < 32) : ∀ (k : Nat) (e : Int) (s t : iS), LB s t → gO s t → e + (k : Int) = (r : Int) + 1 → -(r : Int) ≤ e → ∃ s' t', lib_drawCircle_48 (x : Int) (y : Int) (r : Int) e s = some (0, s') ∧ m_circle_45 (x : Int) (y : Int) (r : Int) e t = some (0, t') ∧ LB s' t' ∧ gO s' t' := by
  intro k
  induction k with
  | zero =>
    intro e s t h hg hk he
    refine ⟨s, t, ?_, ?_, h, hg⟩
    · unfold lib_drawCircle_48
      rw [lp_end (f := fun l : Int × iS => lib_drawCircle_48b (x : Int) (y : Int) (r : Int) (l.1) (l.2)) (l := (e, s)) (e := s) (by
        show lib_drawCircle_48b (x : Int) (y : Int) (r : Int) e s = _
        unfold lib_drawCircle_48b
        rw [gr (by omega), gr (by omega), if_pos (by omega)]), bn]
    · unfold m_circle_45
      rw [lp_end (f := fun l : Int × iS => m_circle_45b (x : Int) (y : Int) (r : Int) (l.1) (l.2)) (l := (e, t)) (e := t) (by
        show m_circle_45b (x : Int) (y : Int) (r : Int) e t = _
        unfold m_circle_45b
        rw [gr (by omega), gr (by omega), if_pos (by omega)]), bn]
  | succ k ih =>
    intro e s t h hg hk he
    have h8 := LB_8 h
    have na : e.natAbs ≤ r := by omega
    have sq : e.natAbs * e.natAbs ≤ r * r := Nat.mul_le_mul na na
    have rr : r * r ≤ 31 * 31 := Nat.mul_le_mul (by omega) (by omega)
    have ev : (r : Int) * (r : Int) - e * e = ((r * r - e.natAbs * e.natAbs : Nat) : Int) := by
      rw [← Int.natAbs_mul_self (a := e)]
      have : ((r * r : Nat) : Int) = (r : Int) * (r : Int) := by push_cast; rfl
      omega
    obtain ⟨R1, R2⟩ := root_ok (s := s) (t := t) (v := r * r - e.natAbs * e.natAbs) (by omega)
    have wle : rtF (r * r - e.natAbs * e.natAbs) ≤ r := by
      have q : rtF (r * r - e.natAbs * e.natAbs) * rtF (r * r - e.natAbs * e.natAbs) ≤ r * r - e.natAbs * e.natAbs := rtN_sq 182 0 (Nat.zero_le _)
      by_cases z : rtF (r * r - e.natAbs * e.natAbs) ≤ r
      · exact z
      · have : (r + 1) * (r + 1) ≤ rtF (r * r - e.natAbs * e.natAbs) * rtF (r * r - e.natAbs * e.natAbs) := Nat.mul_le_mul (by omega) (by omega)
        have z2 : (r + 1) * (r + 1) = r * r + r + r + 1 := by rw [Nat.add_mul, Nat.mul_add]; omega
        omega
    generalize rtF (r * r - e.natAbs * e.natAbs) = w at R1 R2 wle
    obtain ⟨Y, hY⟩ : ∃ Y : Nat, (y : Int) + e = (Y : Int) := ⟨((y : Int) + e).toNat, by omega⟩
    obtain ⟨hL, hG⟩ := LB_pts (y := Y) (x := x - w) h hg (by omega) (2 * w + 1) (by omega)
    obtain ⟨s', t', e1, e2, e3⟩ := ih (e + 1) _ _ hL hG (by omega) (by omega)
    have sp := span_ok (s := s) (y := Y) (x := x - w) (m := 2 * w + 1) (by omega) (by omega) (by omega) h8.1
    have c71 := cr71 (t := t) (X := x - w) (w := w) (y := Y) (v1 := (x : Int)) (v2 := (y : Int)) (v3 := (r : Int)) (e := e) (by omega) (by omega) (by omega) hY h8.2.1 (2 * w + 1) 0 (by omega)
    refine ⟨s', t', ?_, ?_, e3⟩
    · rw [← e1]
      unfold lib_drawCircle_48
      rw [lp_next (f := fun l : Int × iS => lib_drawCircle_48b (x : Int) (y : Int) (r : Int) (l.1) (l.2)) (l := (e, s)) (l' := (e + 1, dPs s Y (x - w) (2 * w + 1))) (by
        show lib_drawCircle_48b (x : Int) (y : Int) (r : Int) e s = _
        unfold lib_drawCircle_48b
        rw [gr (by omega), gr (by omega), if_neg (by omega), ev, R1, bq, hY, show (x : Int) - (w : Int) = ((x - w : Nat) : Int) by omega, show (x : Int) + (w : Int) = ((x - w + (2 * w + 1) - 1 : Nat) : Int) by omega, sp, bq])]
    · rw [← e2]
      unfold m_circle_45
      rw [lp_next (f := fun l : Int × iS => m_circle_45b (x : Int) (y : Int) (r : Int) (l.1) (l.2)) (l := (e, t)) (l' := (e + 1, rPs t Y (x - w) (2 * w + 1))) (by
        show m_circle_45b (x : Int) (y : Int) (r : Int) e t = _
        unfold m_circle_45b
        rw [gr (by omega), gr (by omega), if_neg (by omega), ev, R2, bq, show (x : Int) - (w : Int) = ((x - w + 0 : Nat) : Int) by omega]
        exact c71)]
theorem ci_ok1 (h : LB s t) (hg : gO s t) (ha : w16 a) (hb : w16 b) (hc : w16 c) : Ov (fun r r' => r = 0 ∧ r' = 0) (lib_drawCircle a b c s) (m_circle a b c t) := by
  unfold lib_drawCircle m_circle
  rw [gr (by omega), gr (by omega)]
  by_cases q1 : c < 0
  · rw [if_pos q1, if_pos q1]
    exact fl_ov h hg (by decide)
  rw [if_neg q1, if_neg q1]
  by_cases q2 : 31 < c
  · rw [if_pos q2, if_pos q2]
    exact fl_ov h hg (by decide)
  rw [if_neg q2, if_neg q2]
  have I1 := ip_ok (s := s) (t := t) (x := a - c) (y := b - c) (by omega) (by omega)
  have I2 := ip_ok (s := s) (t := t) (x := a + c) (y := b + c) (by omega) (by omega)
  rw [I1.1, I1.2, bq, bq]
  by_cases q3 : 0 ≤ a - c ∧ a - c < 64 ∧ 0 ≤ b - c ∧ b - c < 32
  case neg =>
    rw [if_neg q3, gr (by omega), gr (by omega), if_pos rfl, if_pos rfl]
    exact fl_ov h hg (by decide)
  rw [if_pos q3, gr (by omega), gr (by omega), if_neg (by omega), if_neg (by omega), I2.1, I2.2, bq, bq]
  by_cases q4 : 0 ≤ a + c ∧ a + c < 64 ∧ 0 ≤ b + c ∧ b + c < 32
  case neg =>
    rw [if_neg q4, gr (by omega), gr (by omega), if_pos rfl, if_pos rfl]
    exact fl_ov h hg (by decide)
  rw [if_pos q4, gr (by omega), gr (by omega), if_neg (by omega), if_neg (by omega)]
  obtain ⟨x, rfl⟩ : ∃ x : Nat, a = (x : Int) := ⟨a.toNat, by omega⟩
  obtain ⟨y, rfl⟩ : ∃ x : Nat, b = (x : Int) := ⟨b.toNat, by omega⟩
  obtain ⟨r, rfl⟩ : ∃ x : Nat, c = (x : Int) := ⟨c.toNat, by omega⟩
  obtain ⟨s', t', e1, e2, e3, e4⟩ := circ_lp (x := x) (y := y) (r := r) (by omega) (by omega) (2 * r + 1) (-(r : Int)) s t h hg (by omega) (by omega)
  exact Or.inl ⟨0, 0, s', t', e1, e2, ⟨rfl, rfl⟩, e3, e4⟩
/-- the screen is cleared -/
theorem cls_lp : ∀ (k i : Nat) (s t : iS), LB s t → gO s t → i + k = 128 → ∃ s' t', mem_clearScreen_4 ((12288 + i : Nat) : Int) s = some (0, s') ∧ m_screen_40 ((16384 + i : Nat) : Int) t = some (0, t') ∧ LB s' t' ∧ gO s' t' := by
  intro k
  induction k with
  | zero =>
    intro i s t h hg hk
    refine ⟨s, t, ?_, ?_, h, hg⟩
    · unfold mem_clearScreen_4
      rw [lp_end (f := fun l : Int × iS => mem_clearScreen_4b (l.1) (l.2)) (l := (((12288 + i : Nat) : Int), s)) (e := s) (by
        show mem_clearScreen_4b ((12288 + i : Nat) : Int) s = _
        unfold mem_clearScreen_4b
        rw [gr (by omega), if_pos (by omega)]), bn]
    · unfold m_screen_40
      rw [lp_end (f := fun l : Int × iS => m_screen_40b (l.1) (l.2)) (l := (((16384 + i : Nat) : Int), t)) (e := t) (by
        show m_screen_40b ((16384 + i : Nat) : Int) t = _
        unfold m_screen_40b
        rw [gr (by omega), if_pos (by omega)]), bn]
  | succ k ih =>
    intro i s t h hg hk
    have hp : isP ((16384 + i : Nat) : Int) := by unfold isP; omega
    have q := LB_put (x := 0) h hp (by decide)
    have ei : (ixA ((16384 + i : Nat) : Int)).toNat = 12288 + i := by unfold ixA; rw [if_neg (by omega)]; omega
    rw [ei, Int.toNat_natCast] at q
    obtain ⟨s', t', e1, e2, e3⟩ := ih (i + 1) _ _ q ⟨by rw [up_ne (by omega)]; exact hg.1, by rw [up_ne (by omega)]; exact hg.2⟩ (by omega)
    refine ⟨s', t', ?_, ?_, e3⟩
    · rw [← e1]
      unfold mem_clearScreen_4
      rw [lp_next (f := fun l : Int × iS => mem_clearScreen_4b (l.1) (l.2)) (l := (((12288 + i : Nat) : Int), s)) (l' := (((12288 + (i + 1) : Nat) : Int), up s 45 (12288 + i) 0)) (by
        show mem_clearScreen_4b ((12288 + i : Nat) : Int) s = _
        unfold mem_clearScreen_4b
        rw [gr (by omega), if_neg (by omega), gd_pos (by omega), Int.toNat_natCast, lt_eq]
        rfl)]
    · rw [← e2]
      unfold m_screen_40
      rw [lp_next (f := fun l : Int × iS => m_screen_40b (l.1) (l.2)) (l := (((16384 + i : Nat) : Int), t)) (l' := (((16384 + (i + 1) : Nat) : Int), up t 175 (16384 + i) 0)) (by
        show m_screen_40b ((16384 + i : Nat) : Int) t = _
        unfold m_screen_40b
        rw [gr (by omega), if_neg (by omega), gd_pos (by omega), Int.toNat_natCast, lt_eq]
        rfl)]
theorem LB_col {x : Int} (h : LB s t) (hx : x = 0 ∨ x = 1) : LB (up s 48 8 x) (up t 121 108 (1 - x)) := by
  obtain ⟨h1, h2, h3, h4, h5⟩ := h
  refine ⟨MW_of h1 (up_cell (by decide)) (up_cell (by decide)) (up_ne (by omega)) (up_ne (by omega)), BK_of h2 (up_ne (by omega)) (up_ne (by omega)) (up_cell (by decide)) (up_cell (by decide)) (up_cell (by decide)) (up_cell (by decide)) (up_ne (by omega)), OU_of h3 (up_ne (by omega)) (up_ne (by omega)) (up_ne (by omega)) (up_ne (by omega)) (up_cell (by decide)) (up_cell (by decide)), KY_of h4 (up_ne (by omega)) (up_ne (by omega)) (up_ne (by omega)) (up_ne (by omega)) (up_cell (by decide)) (up_cell (by decide)), ?_⟩
  unfold CO
  rw [up_same, up_same]
  omega
end LBk
