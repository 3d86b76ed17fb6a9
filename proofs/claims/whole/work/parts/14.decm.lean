/-! method links, decided, some at a time -/
def tb_sl {α : Type} (l : List α) (n c : Nat) : List α := (l.drop (n * c)).take n
theorem tb_cut {α : Type} {f : α → Bool} {n : Nat} : ∀ (c : Nat) (l : List α), (∀ i, i < c → (tb_sl l n i).all f = true) → l.length ≤ n * c → l.all f = true
  | 0, l, _, hl => by
    have : l = [] := List.length_eq_zero_iff.mp (by omega)
    rw [this]; rfl
  | c + 1, l, h, hl => by
    have h0 := h 0 (by omega)
    have e0 : tb_sl l n 0 = l.take n := by simp [tb_sl]
    rw [e0] at h0
    have h1 : (l.drop n).all f = true := tb_cut c (l.drop n) (fun i hi => by
      have := h (i + 1) (by omega)
      unfold tb_sl at this ⊢
      rw [List.drop_drop]
      rw [show n + n * i = n * (i + 1) by rw [Nat.mul_succ]; omega]
      exact this) (by rw [List.length_drop]; rw [Nat.mul_succ] at hl; omega)
    rw [← List.take_append_drop n l, List.all_append, h0, h1]
    rfl
theorem kx_M0_0 : (tb_sl (tb_LM.getD 0 []) 15 0).all (ck_M 0) = true := by decide +kernel
theorem kx_M0_1 : (tb_sl (tb_LM.getD 0 []) 15 1).all (ck_M 0) = true := by decide +kernel
theorem kx_M0_2 : (tb_sl (tb_LM.getD 0 []) 15 2).all (ck_M 0) = true := by decide +kernel
theorem kx_M1_0 : (tb_sl (tb_LM.getD 1 []) 15 0).all (ck_M 1) = true := by decide +kernel
theorem kx_M1_1 : (tb_sl (tb_LM.getD 1 []) 15 1).all (ck_M 1) = true := by decide +kernel
theorem kx_M2_0 : (tb_sl (tb_LM.getD 2 []) 15 0).all (ck_M 2) = true := by decide +kernel
theorem kx_M3_0 : (tb_sl (tb_LM.getD 3 []) 15 0).all (ck_M 3) = true := by decide +kernel
theorem kx_M4_0 : (tb_sl (tb_LM.getD 4 []) 15 0).all (ck_M 4) = true := by decide +kernel
theorem kx_M6_0 : (tb_sl (tb_LM.getD 6 []) 15 0).all (ck_M 6) = true := by decide +kernel
theorem kx_M8_0 : (tb_sl (tb_LM.getD 8 []) 15 0).all (ck_M 8) = true := by decide +kernel
theorem kx_M8_1 : (tb_sl (tb_LM.getD 8 []) 15 1).all (ck_M 8) = true := by decide +kernel
theorem kx_M8_2 : (tb_sl (tb_LM.getD 8 []) 15 2).all (ck_M 8) = true := by decide +kernel
theorem kx_M8_3 : (tb_sl (tb_LM.getD 8 []) 15 3).all (ck_M 8) = true := by decide +kernel
theorem kx_M8_4 : (tb_sl (tb_LM.getD 8 []) 15 4).all (ck_M 8) = true := by decide +kernel
theorem kx_M8_5 : (tb_sl (tb_LM.getD 8 []) 15 5).all (ck_M 8) = true := by decide +kernel
theorem kx_M9_0 : (tb_sl (tb_LM.getD 9 []) 15 0).all (ck_M 9) = true := by decide +kernel
theorem kx_M10_0 : (tb_sl (tb_LM.getD 10 []) 15 0).all (ck_M 10) = true := by decide +kernel
theorem kx_M12_0 : (tb_sl (tb_LM.getD 12 []) 15 0).all (ck_M 12) = true := by decide +kernel
theorem kx_M13_0 : (tb_sl (tb_LM.getD 13 []) 15 0).all (ck_M 13) = true := by decide +kernel
theorem kx_M13_1 : (tb_sl (tb_LM.getD 13 []) 15 1).all (ck_M 13) = true := by decide +kernel
theorem kx_M13_2 : (tb_sl (tb_LM.getD 13 []) 15 2).all (ck_M 13) = true := by decide +kernel
theorem kx_M14_0 : (tb_sl (tb_LM.getD 14 []) 15 0).all (ck_M 14) = true := by decide +kernel
theorem kx_M14_1 : (tb_sl (tb_LM.getD 14 []) 15 1).all (ck_M 14) = true := by decide +kernel
theorem kx_M15_0 : (tb_sl (tb_LM.getD 15 []) 15 0).all (ck_M 15) = true := by decide +kernel
theorem kx_M15_1 : (tb_sl (tb_LM.getD 15 []) 15 1).all (ck_M 15) = true := by decide +kernel
theorem kx_M16_0 : (tb_sl (tb_LM.getD 16 []) 15 0).all (ck_M 16) = true := by decide +kernel
theorem kx_M16_1 : (tb_sl (tb_LM.getD 16 []) 15 1).all (ck_M 16) = true := by decide +kernel
theorem kx_M17_0 : (tb_sl (tb_LM.getD 17 []) 15 0).all (ck_M 17) = true := by decide +kernel
theorem kx_M17_1 : (tb_sl (tb_LM.getD 17 []) 15 1).all (ck_M 17) = true := by decide +kernel
theorem kx_M18_0 : (tb_sl (tb_LM.getD 18 []) 15 0).all (ck_M 18) = true := by decide +kernel
theorem kx_M18_1 : (tb_sl (tb_LM.getD 18 []) 15 1).all (ck_M 18) = true := by decide +kernel
theorem kx_M20_0 : (tb_sl (tb_LM.getD 20 []) 15 0).all (ck_M 20) = true := by decide +kernel
theorem kx_M20_1 : (tb_sl (tb_LM.getD 20 []) 15 1).all (ck_M 20) = true := by decide +kernel
theorem kx_M20_2 : (tb_sl (tb_LM.getD 20 []) 15 2).all (ck_M 20) = true := by decide +kernel
theorem kx_M20_3 : (tb_sl (tb_LM.getD 20 []) 15 3).all (ck_M 20) = true := by decide +kernel
theorem kx_M20_4 : (tb_sl (tb_LM.getD 20 []) 15 4).all (ck_M 20) = true := by decide +kernel
theorem kx_M20_5 : (tb_sl (tb_LM.getD 20 []) 15 5).all (ck_M 20) = true := by decide +kernel
theorem kx_M20_6 : (tb_sl (tb_LM.getD 20 []) 15 6).all (ck_M 20) = true := by decide +kernel
theorem kx_M20_7 : (tb_sl (tb_LM.getD 20 []) 15 7).all (ck_M 20) = true := by decide +kernel
theorem kx_M20_8 : (tb_sl (tb_LM.getD 20 []) 15 8).all (ck_M 20) = true := by decide +kernel
theorem kx_M20_9 : (tb_sl (tb_LM.getD 20 []) 15 9).all (ck_M 20) = true := by decide +kernel
theorem kx_M20_10 : (tb_sl (tb_LM.getD 20 []) 15 10).all (ck_M 20) = true := by decide +kernel
theorem kx_M20_11 : (tb_sl (tb_LM.getD 20 []) 15 11).all (ck_M 20) = true := by decide +kernel
theorem kx_M21_0 : (tb_sl (tb_LM.getD 21 []) 15 0).all (ck_M 21) = true := by decide +kernel
theorem kx_M21_1 : (tb_sl (tb_LM.getD 21 []) 15 1).all (ck_M 21) = true := by decide +kernel
theorem kx_M21_2 : (tb_sl (tb_LM.getD 21 []) 15 2).all (ck_M 21) = true := by decide +kernel
theorem kx_M21_3 : (tb_sl (tb_LM.getD 21 []) 15 3).all (ck_M 21) = true := by decide +kernel
theorem kx_M (o : Nat) : (tb_LM.getD o []).all (ck_M o) = true := by
  match o with
  | 0 =>
    refine tb_cut (n := 15) 3 _ (fun i hi => ?_) (by decide +kernel)
    match i, hi with
    | 0, _ => exact kx_M0_0
    | 1, _ => exact kx_M0_1
    | 2, _ => exact kx_M0_2
  | 1 =>
    refine tb_cut (n := 15) 2 _ (fun i hi => ?_) (by decide +kernel)
    match i, hi with
    | 0, _ => exact kx_M1_0
    | 1, _ => exact kx_M1_1
  | 2 =>
    refine tb_cut (n := 15) 1 _ (fun i hi => ?_) (by decide +kernel)
    match i, hi with
    | 0, _ => exact kx_M2_0
  | 3 =>
    refine tb_cut (n := 15) 1 _ (fun i hi => ?_) (by decide +kernel)
    match i, hi with
    | 0, _ => exact kx_M3_0
  | 4 =>
    refine tb_cut (n := 15) 1 _ (fun i hi => ?_) (by decide +kernel)
    match i, hi with
    | 0, _ => exact kx_M4_0
  | 5 => rfl
  | 6 =>
    refine tb_cut (n := 15) 1 _ (fun i hi => ?_) (by decide +kernel)
    match i, hi with
    | 0, _ => exact kx_M6_0
  | 7 => rfl
  | 8 =>
    refine tb_cut (n := 15) 6 _ (fun i hi => ?_) (by decide +kernel)
    match i, hi with
    | 0, _ => exact kx_M8_0
    | 1, _ => exact kx_M8_1
    | 2, _ => exact kx_M8_2
    | 3, _ => exact kx_M8_3
    | 4, _ => exact kx_M8_4
    | 5, _ => exact kx_M8_5
  | 9 =>
    refine tb_cut (n := 15) 1 _ (fun i hi => ?_) (by decide +kernel)
    match i, hi with
    | 0, _ => exact kx_M9_0
  | 10 =>
    refine tb_cut (n := 15) 1 _ (fun i hi => ?_) (by decide +kernel)
    match i, hi with
    | 0, _ => exact kx_M10_0
  | 11 => rfl
  | 12 =>
    refine tb_cut (n := 15) 1 _ (fun i hi => ?_) (by decide +kernel)
    match i, hi with
    | 0, _ => exact kx_M12_0
  | 13 =>
    refine tb_cut (n := 15) 3 _ (fun i hi => ?_) (by decide +kernel)
    match i, hi with
    | 0, _ => exact kx_M13_0
    | 1, _ => exact kx_M13_1
    | 2, _ => exact kx_M13_2
  | 14 =>
    refine tb_cut (n := 15) 2 _ (fun i hi => ?_) (by decide +kernel)
    match i, hi with
    | 0, _ => exact kx_M14_0
    | 1, _ => exact kx_M14_1
  | 15 =>
    refine tb_cut (n := 15) 2 _ (fun i hi => ?_) (by decide +kernel)
    match i, hi with
    | 0, _ => exact kx_M15_0
    | 1, _ => exact kx_M15_1
  | 16 =>
    refine tb_cut (n := 15) 2 _ (fun i hi => ?_) (by decide +kernel)
    match i, hi with
    | 0, _ => exact kx_M16_0
    | 1, _ => exact kx_M16_1
  | 17 =>
    refine tb_cut (n := 15) 2 _ (fun i hi => ?_) (by decide +kernel)
    match i, hi with
    | 0, _ => exact kx_M17_0
    | 1, _ => exact kx_M17_1
  | 18 =>
    refine tb_cut (n := 15) 2 _ (fun i hi => ?_) (by decide +kernel)
    match i, hi with
    | 0, _ => exact kx_M18_0
    | 1, _ => exact kx_M18_1
  | 19 => rfl
  | 20 =>
    refine tb_cut (n := 15) 12 _ (fun i hi => ?_) (by decide +kernel)
    match i, hi with
    | 0, _ => exact kx_M20_0
    | 1, _ => exact kx_M20_1
    | 2, _ => exact kx_M20_2
    | 3, _ => exact kx_M20_3
    | 4, _ => exact kx_M20_4
    | 5, _ => exact kx_M20_5
    | 6, _ => exact kx_M20_6
    | 7, _ => exact kx_M20_7
    | 8, _ => exact kx_M20_8
    | 9, _ => exact kx_M20_9
    | 10, _ => exact kx_M20_10
    | 11, _ => exact kx_M20_11
  | 21 =>
    refine tb_cut (n := 15) 4 _ (fun i hi => ?_) (by decide +kernel)
    match i, hi with
    | 0, _ => exact kx_M21_0
    | 1, _ => exact kx_M21_1
    | 2, _ => exact kx_M21_2
    | 3, _ => exact kx_M21_3
  | o + 22 => rfl
