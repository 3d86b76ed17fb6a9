/-! methods, decided, some at a time -/
theorem kx_J_0 : (tb_sl (List.range 485) 20 0).all ck_J = true := by decide +kernel
theorem kx_J_1 : (tb_sl (List.range 485) 20 1).all ck_J = true := by decide +kernel
theorem kx_J_2 : (tb_sl (List.range 485) 20 2).all ck_J = true := by decide +kernel
theorem kx_J_3 : (tb_sl (List.range 485) 20 3).all ck_J = true := by decide +kernel
theorem kx_J_4 : (tb_sl (List.range 485) 20 4).all ck_J = true := by decide +kernel
theorem kx_J_5 : (tb_sl (List.range 485) 20 5).all ck_J = true := by decide +kernel
theorem kx_J_6 : (tb_sl (List.range 485) 20 6).all ck_J = true := by decide +kernel
theorem kx_J_7 : (tb_sl (List.range 485) 20 7).all ck_J = true := by decide +kernel
theorem kx_J_8 : (tb_sl (List.range 485) 20 8).all ck_J = true := by decide +kernel
theorem kx_J_9 : (tb_sl (List.range 485) 20 9).all ck_J = true := by decide +kernel
theorem kx_J_10 : (tb_sl (List.range 485) 20 10).all ck_J = true := by decide +kernel
theorem kx_J_11 : (tb_sl (List.range 485) 20 11).all ck_J = true := by decide +kernel
theorem kx_J_12 : (tb_sl (List.range 485) 20 12).all ck_J = true := by decide +kernel
theorem kx_J_13 : (tb_sl (List.range 485) 20 13).all ck_J = true := by decide +kernel
theorem kx_J_14 : (tb_sl (List.range 485) 20 14).all ck_J = true := by decide +kernel
theorem kx_J_15 : (tb_sl (List.range 485) 20 15).all ck_J = true := by decide +kernel
theorem kx_J_16 : (tb_sl (List.range 485) 20 16).all ck_J = true := by decide +kernel
theorem kx_J_17 : (tb_sl (List.range 485) 20 17).all ck_J = true := by decide +kernel
theorem kx_J_18 : (tb_sl (List.range 485) 20 18).all ck_J = true := by decide +kernel
theorem kx_J_19 : (tb_sl (List.range 485) 20 19).all ck_J = true := by decide +kernel
theorem kx_J_20 : (tb_sl (List.range 485) 20 20).all ck_J = true := by decide +kernel
theorem kx_J_21 : (tb_sl (List.range 485) 20 21).all ck_J = true := by decide +kernel
theorem kx_J_22 : (tb_sl (List.range 485) 20 22).all ck_J = true := by decide +kernel
theorem kx_J_23 : (tb_sl (List.range 485) 20 23).all ck_J = true := by decide +kernel
theorem kx_J_24 : (tb_sl (List.range 485) 20 24).all ck_J = true := by decide +kernel
theorem kx_J : (List.range 485).all ck_J = true := by
  refine tb_cut (n := 20) 25 _ (fun i hi => ?_) (by decide +kernel)
  match i, hi with
  | 0, _ => exact kx_J_0
  | 1, _ => exact kx_J_1
  | 2, _ => exact kx_J_2
  | 3, _ => exact kx_J_3
  | 4, _ => exact kx_J_4
  | 5, _ => exact kx_J_5
  | 6, _ => exact kx_J_6
  | 7, _ => exact kx_J_7
  | 8, _ => exact kx_J_8
  | 9, _ => exact kx_J_9
  | 10, _ => exact kx_J_10
  | 11, _ => exact kx_J_11
  | 12, _ => exact kx_J_12
  | 13, _ => exact kx_J_13
  | 14, _ => exact kx_J_14
  | 15, _ => exact kx_J_15
  | 16, _ => exact kx_J_16
  | 17, _ => exact kx_J_17
  | 18, _ => exact kx_J_18
  | 19, _ => exact kx_J_19
  | 20, _ => exact kx_J_20
  | 21, _ => exact kx_J_21
  | 22, _ => exact kx_J_22
  | 23, _ => exact kx_J_23
  | 24, _ => exact kx_J_24
theorem kx_len : tb_m.length = 485 := by decide +kernel
