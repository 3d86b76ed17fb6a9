/-! the tables are as they must be: decided -/
theorem kx_K : tb_all tb_LK ck_K = true := by decide +kernel
theorem kx_Z : tb_all tb_LZ ck_Z = true := by decide +kernel
theorem kx_N : tb_all tb_LN ck_N = true := by decide +kernel
theorem kx_C : tb_all tb_LC ck_C = true := by decide +kernel
theorem kx_L : tb_all tb_LL ck_L = true := by decide +kernel
theorem kx_R : tb_all tb_LR ck_R = true := by decide +kernel
theorem kx_X : tb_all tb_LX ck_X = true := by decide +kernel
theorem kx_x : ck_x = true := by decide +kernel
theorem kx_cl0 : (List.range 13).all ck_cl = true := by decide +kernel
theorem kx_F : tb_all tb_LF ck_F = true := by decide +kernel
theorem kx_cl1 : ck_cl 13 = true := by decide +kernel
