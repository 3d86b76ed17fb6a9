/-! methods, decided, some at a time -/
theorem kx_J_0 : (tb_sl (List.range 485) 60 0).all ck_J = true := by decide +kernel
theorem kx_J_1 : (tb_sl (List.range 485) 60 1).all ck_J = true := by decide +kernel
theorem kx_J_2 : (tb_sl (List.range 485) 60 2).all ck_J = true := by decide +kernel
theorem kx_J_3 : (tb_sl (List.range 485) 60 3).all ck_J = true := by decide +kernel
theorem kx_J_4 : (tb_sl (List.range 485) 60 4).all ck_J = true := by decide +kernel
theorem kx_J_5 : (tb_sl (List.range 485) 60 5).all ck_J = true := by decide +kernel
theorem kx_J_6 : (tb_sl (List.range 485) 60 6).all ck_J = true := by decide +kernel
theorem kx_J_7 : (tb_sl (List.range 485) 60 7).all ck_J = true := by decide +kernel
theorem kx_J_8 : (tb_sl (List.range 485) 60 8).all ck_J = true := by decide +kernel
theorem kx_J : (List.range 485).all ck_J = true := by
  refine tb_cut (n := 60) 9 _ (fun i hi => ?_) (by decide +kernel)
  match i, hi with
  | 0, _ => exact kx_J_0
  | 1, _ => exact kx_J_1
  | 2, _ => exact kx_J_2
  | 3, _ => exact kx_J_3
  | 4, _ => exact kx_J_4
  | 5, _ => exact kx_J_5
  | 6, _ => exact kx_J_6
  | 7, _ => exact kx_J_7
  | 8, _ => exact kx_J_8
theorem kx_len : tb_p.length = 485 := by decide +kernel
theorem kx_P0 : ck_P 0 = true := by decide +kernel
