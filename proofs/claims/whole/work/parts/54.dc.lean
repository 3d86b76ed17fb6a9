/-! what the methods do, as functions, and that the machine does it; printed by wip/whole/dc.py -/
/-! law -/
def L_law : List Nat := [1, 9, 10, 11, 12, 13, 15, 16, 17, 18, 19, 20, 21, 25, 26, 28, 29, 30, 31, 32, 34, 35, 36, 37, 38, 39, 40, 45, 46, 47, 49, 50, 52, 53, 54, 66, 67, 68, 69, 70, 73, 74, 75, 76, 77, 78, 80, 81, 82, 83, 84, 85, 86, 88, 89, 91, 92, 93, 94, 95, 96, 97, 98, 100, 101, 102, 103, 104, 105, 106, 107, 109, 110, 111, 112, 113, 114, 115, 116, 117, 118, 119, 120, 122, 123, 124, 125, 126, 127, 128, 129, 130, 131, 132, 133, 134, 135, 136, 137, 138, 139, 140, 141, 142, 143, 144, 145, 146, 147, 148, 149, 150, 151, 152, 153, 154, 155, 156, 157, 158, 159, 160, 161, 162, 163, 169, 170, 171, 172, 173, 174, 175, 176, 177, 178, 179, 180, 181, 182, 183, 184, 185, 186, 187, 188, 189, 190, 191, 192, 193, 194, 195, 196, 197, 198, 199, 200, 201, 202, 203, 204, 205, 206, 207, 208, 209, 210, 211, 212, 213, 214, 215, 216, 217, 218, 219, 220, 221, 222, 223, 224, 225, 226, 227, 228, 229, 230, 231, 232, 233]
def G_law : List (Nat × Nat) := [(0, 1), (0, 2), (0, 3), (2, 8), (2, 9), (2, 10), (2, 11), (2, 12), (2, 13), (2, 14), (14, 7), (14, 8), (14, 9), (14, 10), (14, 11), (14, 12), (22, 4), (22, 5), (22, 6), (22, 7), (23, 11), (23, 12), (23, 13), (23, 14), (23, 15), (24, 2), (27, 2), (33, 2), (44, 3), (44, 4), (44, 5), (44, 6), (48, 3), (48, 4), (48, 5), (48, 6), (48, 7), (48, 8), (48, 9), (51, 6), (51, 7), (51, 8), (51, 9), (51, 10), (51, 11), (51, 12), (51, 13), (51, 14), (51, 15), (51, 16), (51, 17), (51, 18), (55, 8), (55, 9), (55, 10), (55, 11), (55, 12), (55, 13), (55, 14), (55, 15), (65, 2), (71, 13), (71, 14), (72, 2), (79, 2), (87, 2), (99, 2), (108, 14), (108, 15), (108, 16), (108, 17), (108, 18), (121, 1), (121, 3), (121, 4), (121, 9), (121, 10), (121, 11), (121, 12), (121, 14), (121, 16), (121, 17), (121, 25), (121, 33), (121, 39), (121, 48), (121, 49), (121, 50), (121, 51), (121, 55), (121, 60), (121, 61), (121, 62), (121, 69), (121, 70), (121, 71), (121, 72), (121, 74), (121, 76), (121, 81), (121, 87), (121, 88), (121, 89), (121, 95), (121, 96), (121, 97), (121, 98), (121, 99), (121, 100), (121, 102), (121, 103), (121, 104), (121, 106), (121, 107), (121, 108), (121, 110), (121, 112), (121, 118), (121, 119), (121, 120), (121, 121), (121, 122), (121, 125), (121, 131), (121, 134), (121, 144), (121, 148), (121, 149), (121, 150), (121, 152), (121, 158), (121, 161), (121, 166), (121, 170), (121, 173), (121, 174)]
def law_18C (w : ev_W) (d : Nat) (r0 : Nat) (n0 : Nat) (g0 : Nat → Int32) : (Int × iS) ⊕ ((iS) ⊕ ((iS) ⊕ ((iS) ⊕ ((iS) ⊕ ((iS) ⊕ ((iS) ⊕ ((iS) ⊕ ((iS) ⊕ ((iS) ⊕ ((iS) ⊕ ((iS) ⊕ ((iS) ⊕ ((iS) ⊕ ((iS) ⊕ ((iS) ⊕ ((iS) ⊕ ((iS) ⊕ ((iS) ⊕ ((iS) ⊕ ((iS) ⊕ ((iS) ⊕ ((iS) ⊕ (iS))))))))))))))))))))))) → am_E → Prop := fun q r => q.elim (fun l => ev w d 484 18 ((fun l => [(0, .ref r0), (1, .ref (tb_nK + 0)), (2, .ref (tb_nK + 121)), (3, iv (l.1))]) l) [] (hT ((fun l => l.2) l)) r) (fun e => (fun e r => e.elim (fun e => ev w d 484 197 [] [] (hT (e)) r) (fun e => e.elim (fun e => ev w d 484 220 [] [] (hT (e)) r) (fun e => e.elim (fun e => ev w d 484 243 [] [] (hT (e)) r) (fun e => e.elim (fun e => ev w d 484 266 [] [] (hT (e)) r) (fun e => e.elim (fun e => ev w d 484 279 [] [] (hT (e)) r) (fun e => e.elim (fun e => ev w d 484 292 [] [] (hT (e)) r) (fun e => e.elim (fun e => ev w d 484 306 [] [] (hT (e)) r) (fun e => e.elim (fun e => ev w d 484 330 [] [] (hT (e)) r) (fun e => e.elim (fun e => ev w d 484 353 [] [] (hT (e)) r) (fun e => e.elim (fun e => ev w d 484 376 [] [] (hT (e)) r) (fun e => e.elim (fun e => ev w d 484 409 [] [] (hT (e)) r) (fun e => e.elim (fun e => ev w d 484 432 [] [] (hT (e)) r) (fun e => e.elim (fun e => ev w d 484 455 [] [] (hT (e)) r) (fun e => e.elim (fun e => ev w d 484 478 [] [] (hT (e)) r) (fun e => e.elim (fun e => ev w d 484 511 [] [] (hT (e)) r) (fun e => e.elim (fun e => ev w d 484 534 [] [] (hT (e)) r) (fun e => e.elim (fun e => ev w d 484 557 [] [] (hT (e)) r) (fun e => e.elim (fun e => ev w d 484 580 [] [] (hT (e)) r) (fun e => e.elim (fun e => ev w d 484 613 [] [] (hT (e)) r) (fun e => e.elim (fun e => ev w d 484 636 [] [] (hT (e)) r) (fun e => e.elim (fun e => ev w d 484 649 [] [] (hT (e)) r) (fun e => e.elim (fun e => ev w d 484 672 [] [] (hT (e)) r) (fun e => ev w d 484 680 [] [] (hT (e)) r))))))))))))))))))))))) e r)
noncomputable def law_18b (n0 : Nat) (g0 : Nat → Int32) (v3 : Int) (s : iS) : Option ((Int × iS) ⊕ ((iS) ⊕ ((iS) ⊕ ((iS) ⊕ ((iS) ⊕ ((iS) ⊕ ((iS) ⊕ ((iS) ⊕ ((iS) ⊕ ((iS) ⊕ ((iS) ⊕ ((iS) ⊕ ((iS) ⊕ ((iS) ⊕ ((iS) ⊕ ((iS) ⊕ ((iS) ⊕ ((iS) ⊕ ((iS) ⊕ ((iS) ⊕ ((iS) ⊕ ((iS) ⊕ ((iS) ⊕ (iS)))))))))))))))))))))))) := gd (rg v3) (gd (rg ((n0 : Int) - 6)) (if ((n0 : Int) - 6) < v3 then some (.inr (.inr (.inr (.inr (.inr (.inr (.inr (.inr (.inr (.inr (.inr (.inr (.inr (.inr (.inr (.inr (.inr (.inr (.inr (.inr (.inr (.inr (.inr s))))))))))))))))))))))) else gd (0 ≤ v3 ∧ v3 < (n0 : Int)) (gd (rg (i_and ((g0 v3.toNat).toInt) 31)) (if (i_and ((g0 v3.toNat).toInt) 31) = 0 then gd (0 ≤ (v3 + 1) ∧ (v3 + 1) < (n0 : Int)) (gd (0 ≤ (v3 + 2) ∧ (v3 + 2) < (n0 : Int)) (gd (0 ≤ (v3 + 3) ∧ (v3 + 3) < (n0 : Int)) (gd (0 ≤ (v3 + 4) ∧ (v3 + 4) < (n0 : Int)) (gd (0 ≤ (v3 + 5) ∧ (v3 + 5) < (n0 : Int)) (bd (x_feed ((g0 (v3 + 1).toNat).toInt) ((g0 (v3 + 2).toNat).toInt) ((g0 (v3 + 3).toNat).toInt) ((g0 (v3 + 4).toNat).toInt) ((g0 (v3 + 5).toNat).toInt) s) (fun r12 s12 => bd (m_feed ((g0 (v3 + 1).toNat).toInt) ((g0 (v3 + 2).toNat).toInt) ((g0 (v3 + 3).toNat).toInt) ((g0 (v3 + 4).toNat).toInt) ((g0 (v3 + 5).toNat).toInt) s12) (fun r13 s13 => gd (rg r12) (gd (rg r13) (if r12 = r13 then some (.inl ((v3 + 6), s13)) else some (.inr (.inl s13))))))))))) else if (i_and ((g0 v3.toNat).toInt) 31) = 1 then gd (0 ≤ (v3 + 1) ∧ (v3 + 1) < (n0 : Int)) (bd (x_load ((g0 (v3 + 1).toNat).toInt) s) (fun r19 s19 => bd (m_load ((g0 (v3 + 1).toNat).toInt) s19) (fun r20 s20 => gd (rg r19) (gd (rg r20) (if r19 = r20 then some (.inl ((v3 + 6), s20)) else some (.inr (.inr (.inl s20)))))))) else if (i_and ((g0 v3.toNat).toInt) 31) = 2 then gd (0 ≤ (v3 + 1) ∧ (v3 + 1) < (n0 : Int)) (bd (x_keys ((g0 (v3 + 1).toNat).toInt) s) (fun r26 s26 => bd (m_keys ((g0 (v3 + 1).toNat).toInt) s26) (fun r27 s27 => gd (rg r26) (gd (rg r27) (if r26 = r27 then some (.inl ((v3 + 6), s27)) else some (.inr (.inr (.inr (.inl s27))))))))) else if (i_and ((g0 v3.toNat).toInt) 31) = 3 then gd (0 ≤ (v3 + 1) ∧ (v3 + 1) < (n0 : Int)) (bd (x_run ((g0 (v3 + 1).toNat).toInt) s) (fun r33 s33 => bd (m_run ((g0 (v3 + 1).toNat).toInt) s33) (fun r34 s34 => gd (rg r33) (gd (rg r34) (if r33 = r34 then some (.inl ((v3 + 6), s34)) else some (.inr (.inr (.inr (.inr (.inl s34)))))))))) else if (i_and ((g0 v3.toNat).toInt) 31) = 4 then bd (x_place s) (fun r39 s39 => bd (m_place s39) (fun r40 s40 => gd (rg r39) (gd (rg r40) (if r39 = r40 then some (.inl ((v3 + 6), s40)) else some (.inr (.inr (.inr (.inr (.inr (.inl s40)))))))))) else if (i_and ((g0 v3.toNat).toInt) 31) = 5 then bd (x_error s) (fun r45 s45 => bd (m_error s45) (fun r46 s46 => gd (rg r45) (gd (rg r46) (if r45 = r46 then some (.inl ((v3 + 6), s46)) else some (.inr (.inr (.inr (.inr (.inr (.inr (.inl s46))))))))))) else if (i_and ((g0 v3.toNat).toInt) 31) = 6 then bd (x_fetch s) (fun r51 s51 => bd (m_fetch s51) (fun r52 s52 => gd (rg (l_cmp r51 r52)) (if (l_cmp r51 r52) = 0 then some (.inl ((v3 + 6), s52)) else some (.inr (.inr (.inr (.inr (.inr (.inr (.inr (.inl s52))))))))))) else if (i_and ((g0 v3.toNat).toInt) 31) = 7 then gd (0 ≤ (v3 + 1) ∧ (v3 + 1) < (n0 : Int)) (bd (x_row ((g0 (v3 + 1).toNat).toInt) s) (fun r57 s57 => bd (m_row ((g0 (v3 + 1).toNat).toInt) s57) (fun r58 s58 => gd (rg (l_cmp r57 r58)) (if (l_cmp r57 r58) = 0 then some (.inl ((v3 + 6), s58)) else some (.inr (.inr (.inr (.inr (.inr (.inr (.inr (.inr (.inl s58))))))))))))) else if (i_and ((g0 v3.toNat).toInt) 31) = 8 then gd (0 ≤ (v3 + 1) ∧ (v3 + 1) < (n0 : Int)) (bd (x_word ((g0 (v3 + 1).toNat).toInt) s) (fun r63 s63 => bd (m_word ((g0 (v3 + 1).toNat).toInt) s63) (fun r64 s64 => gd (rg r63) (gd (rg r64) (if r63 = r64 then some (.inl ((v3 + 6), s64)) else some (.inr (.inr (.inr (.inr (.inr (.inr (.inr (.inr (.inr (.inl s64))))))))))))))) else if (i_and ((g0 v3.toNat).toInt) 31) = 9 then gd (0 ≤ (v3 + 1) ∧ (v3 + 1) < (n0 : Int)) (bd (x_count ((g0 (v3 + 1).toNat).toInt) s) (fun r70 s70 => bd (m_count ((g0 (v3 + 1).toNat).toInt) s70) (fun r71 s71 => gd (rg r70) (gd (rg r71) (if r70 = r71 then some (.inl ((v3 + 6), s71)) else some (.inr (.inr (.inr (.inr (.inr (.inr (.inr (.inr (.inr (.inr (.inl s71)))))))))))))))) else if (i_and ((g0 v3.toNat).toInt) 31) = 10 then gd (0 ≤ (v3 + 1) ∧ (v3 + 1) < (n0 : Int)) (gd (0 ≤ (v3 + 2) ∧ (v3 + 2) < (n0 : Int)) (bd (x_command ((g0 (v3 + 1).toNat).toInt) ((g0 (v3 + 2).toNat).toInt) s) (fun r78 s78 => bd (m_command_369 ((g0 (v3 + 1).toNat).toInt) ((g0 (v3 + 2).toNat).toInt) s78) (fun r79 s79 => gd (rg r78) (gd (rg r79) (if r78 = r79 then some (.inl ((v3 + 6), s79)) else some (.inr (.inr (.inr (.inr (.inr (.inr (.inr (.inr (.inr (.inr (.inr (.inl s79)))))))))))))))))) else if (i_and ((g0 v3.toNat).toInt) 31) = 11 then gd (0 ≤ (v3 + 1) ∧ (v3 + 1) < (n0 : Int)) (bd (x_signs ((g0 (v3 + 1).toNat).toInt) s) (fun r85 s85 => bd (m_signs ((g0 (v3 + 1).toNat).toInt) s85) (fun r86 s86 => gd (rg r85) (gd (rg r86) (if r85 = r86 then some (.inl ((v3 + 6), s86)) else some (.inr (.inr (.inr (.inr (.inr (.inr (.inr (.inr (.inr (.inr (.inr (.inr (.inl s86)))))))))))))))))) else if (i_and ((g0 v3.toNat).toInt) 31) = 12 then gd (0 ≤ (v3 + 1) ∧ (v3 + 1) < (n0 : Int)) (bd (x_code ((g0 (v3 + 1).toNat).toInt) s) (fun r92 s92 => bd (m_code ((g0 (v3 + 1).toNat).toInt) s92) (fun r93 s93 => gd (rg r92) (gd (rg r93) (if r92 = r93 then some (.inl ((v3 + 6), s93)) else some (.inr (.inr (.inr (.inr (.inr (.inr (.inr (.inr (.inr (.inr (.inr (.inr (.inr (.inl s93))))))))))))))))))) else if (i_and ((g0 v3.toNat).toInt) 31) = 13 then gd (0 ≤ (v3 + 1) ∧ (v3 + 1) < (n0 : Int)) (bd (x_go ((g0 (v3 + 1).toNat).toInt) s) (fun r99 s99 => bd (m_go_436 ((g0 (v3 + 1).toNat).toInt) s99) (fun r100 s100 => gd (rg r99) (gd (rg r100) (if r99 = r100 then some (.inl ((v3 + 6), s100)) else some (.inr (.inr (.inr (.inr (.inr (.inr (.inr (.inr (.inr (.inr (.inr (.inr (.inr (.inr (.inl s100)))))))))))))))))))) else if (i_and ((g0 v3.toNat).toInt) 31) = 14 then gd (0 ≤ (v3 + 1) ∧ (v3 + 1) < (n0 : Int)) (gd (0 ≤ (v3 + 2) ∧ (v3 + 2) < (n0 : Int)) (bd (x_set ((g0 (v3 + 1).toNat).toInt) ((g0 (v3 + 2).toNat).toInt) s) (fun r107 s107 => bd (m_set ((g0 (v3 + 1).toNat).toInt) ((g0 (v3 + 2).toNat).toInt) s107) (fun r108 s108 => gd (rg r107) (gd (rg r108) (if r107 = r108 then some (.inl ((v3 + 6), s108)) else some (.inr (.inr (.inr (.inr (.inr (.inr (.inr (.inr (.inr (.inr (.inr (.inr (.inr (.inr (.inr (.inl s108)))))))))))))))))))))) else if (i_and ((g0 v3.toNat).toInt) 31) = 15 then gd (0 ≤ (v3 + 1) ∧ (v3 + 1) < (n0 : Int)) (bd (x_store ((g0 (v3 + 1).toNat).toInt) s) (fun r114 s114 => bd (m_store ((g0 (v3 + 1).toNat).toInt) s114) (fun r115 s115 => gd (rg r114) (gd (rg r115) (if r114 = r115 then some (.inl ((v3 + 6), s115)) else some (.inr (.inr (.inr (.inr (.inr (.inr (.inr (.inr (.inr (.inr (.inr (.inr (.inr (.inr (.inr (.inr (.inl s115)))))))))))))))))))))) else if (i_and ((g0 v3.toNat).toInt) 31) = 16 then gd (0 ≤ (v3 + 1) ∧ (v3 + 1) < (n0 : Int)) (bd (x_register ((g0 (v3 + 1).toNat).toInt) s) (fun r121 s121 => bd (m_register ((g0 (v3 + 1).toNat).toInt) s121) (fun r122 s122 => gd (rg r121) (gd (rg r122) (if r121 = r122 then some (.inl ((v3 + 6), s122)) else some (.inr (.inr (.inr (.inr (.inr (.inr (.inr (.inr (.inr (.inr (.inr (.inr (.inr (.inr (.inr (.inr (.inr (.inl s122))))))))))))))))))))))) else if (i_and ((g0 v3.toNat).toInt) 31) = 17 then gd (0 ≤ (v3 + 1) ∧ (v3 + 1) < (n0 : Int)) (bd (x_chips ((g0 (v3 + 1).toNat).toInt) s) (fun r128 s128 => bd (m_chips ((g0 (v3 + 1).toNat).toInt) s128) (fun r129 s129 => gd (rg r128) (gd (rg r129) (if r128 = r129 then some (.inl ((v3 + 6), s129)) else some (.inr (.inr (.inr (.inr (.inr (.inr (.inr (.inr (.inr (.inr (.inr (.inr (.inr (.inr (.inr (.inr (.inr (.inr (.inl s129)))))))))))))))))))))))) else if (i_and ((g0 v3.toNat).toInt) 31) = 18 then gd (0 ≤ (v3 + 1) ∧ (v3 + 1) < (n0 : Int)) (gd (0 ≤ (v3 + 2) ∧ (v3 + 2) < (n0 : Int)) (bd (x_drive ((g0 (v3 + 1).toNat).toInt) ((g0 (v3 + 2).toNat).toInt) s) (fun r136 s136 => bd (m_drive ((g0 (v3 + 1).toNat).toInt) ((g0 (v3 + 2).toNat).toInt) s136) (fun r137 s137 => gd (rg r136) (gd (rg r137) (if r136 = r137 then some (.inl ((v3 + 6), s137)) else some (.inr (.inr (.inr (.inr (.inr (.inr (.inr (.inr (.inr (.inr (.inr (.inr (.inr (.inr (.inr (.inr (.inr (.inr (.inr (.inl s137)))))))))))))))))))))))))) else if (i_and ((g0 v3.toNat).toInt) 31) = 19 then gd (0 ≤ (v3 + 1) ∧ (v3 + 1) < (n0 : Int)) (bd (x_pin ((g0 (v3 + 1).toNat).toInt) s) (fun r143 s143 => bd (m_pin ((g0 (v3 + 1).toNat).toInt) s143) (fun r144 s144 => gd (rg r143) (gd (rg r144) (if r143 = r144 then some (.inl ((v3 + 6), s144)) else some (.inr (.inr (.inr (.inr (.inr (.inr (.inr (.inr (.inr (.inr (.inr (.inr (.inr (.inr (.inr (.inr (.inr (.inr (.inr (.inr (.inl s144)))))))))))))))))))))))))) else if (i_and ((g0 v3.toNat).toInt) 31) = 20 then bd (x_tick s) (fun r149 s149 => bd (m_tick s149) (fun r150 s150 => gd (rg r149) (gd (rg r150) (if r149 = r150 then some (.inl ((v3 + 6), s150)) else some (.inr (.inr (.inr (.inr (.inr (.inr (.inr (.inr (.inr (.inr (.inr (.inr (.inr (.inr (.inr (.inr (.inr (.inr (.inr (.inr (.inr (.inl s150)))))))))))))))))))))))))) else if (i_and ((g0 v3.toNat).toInt) 31) = 21 then gd (0 ≤ (v3 + 1) ∧ (v3 + 1) < (n0 : Int)) (bd (x_gates ((g0 (v3 + 1).toNat).toInt) s) (fun r156 s156 => bd (m_gates ((g0 (v3 + 1).toNat).toInt) s156) (fun r157 s157 => gd (rg r156) (gd (rg r157) (if r156 = r157 then some (.inl ((v3 + 6), s157)) else some (.inr (.inr (.inr (.inr (.inr (.inr (.inr (.inr (.inr (.inr (.inr (.inr (.inr (.inr (.inr (.inr (.inr (.inr (.inr (.inr (.inr (.inr (.inl s157)))))))))))))))))))))))))))) else some (.inl ((v3 + 6), s))))))
theorem tlaw_18b (w : ev_W) (d : Nat) (hd : 251 ≤ d) (n0 : Nat) (g0 : Nat → Int32) (r0 : Nat) (h_r0 : r0 < tb_nK) (hk_r0 : (tb_KT w.2.1 w.2.2)[r0]? = some (.int, n0, g0)) (hl_n0 : n0 < 2147483648) (v3 : Int) (s : iS) : Ew hT w d 484 18 [(0, .ref r0), (1, .ref (tb_nK + 0)), (2, .ref (tb_nK + 121)), (3, iv v3)] [] s (law_18C w d r0 n0 g0) (law_18b n0 g0 v3 s) := by
  unfold law_18b
  refine e_mv 19 em_484 (ce_at ce_484 10 rfl) rfl rfl ?_
  refine e_mv 20 em_484 (ce_at ce_484 11 rfl) rfl rfl ?_
  refine e_alenk 21 em_484 (ce_at ce_484 12 rfl) h_r0 hk_r0 (by decide) rfl rfl ?_
  refine e_bip 23 em_484 (ce_at ce_484 13 rfl) (by decide) rfl ?_
  refine e_isub 24 em_484 rfl (ce_at ce_484 14 rfl) ?_
  refine e_gd fun g1 => ?_
  refine e_gd fun g2 => ?_
  refine e_cmgt 680 27 em_484 rfl rfl (ce_at ce_484 15 rfl) g1 g2 (fun h3 => ?_) (fun h3 => ?_)
  · refine e_pk [] rfl rfl ?_
    exact e_out (fun r h => h)
  · refine e_mv 28 em_484 (ce_at ce_484 16 rfl) rfl rfl ?_
    refine e_mv 29 em_484 (ce_at ce_484 17 rfl) rfl rfl ?_
    refine e_gd fun g4 => ?_
    refine e_ildk 30 em_484 (ce_at ce_484 18 rfl) h_r0 hk_r0 hl_n0 g4 rfl ?_
    refine e_bip 32 em_484 (ce_at ce_484 19 rfl) (by decide) rfl ?_
    refine e_iand 33 em_484 rfl (ce_at ce_484 20 rfl) ?_
    refine e_gd fun g5 => ?_
    refine e_case 0 (fun h6 => ?_) (fun h6 => ?_)
    · refine e_sw em_484 136 (ce_at ce_484 21 rfl) (sw_in g5 (by omega) (by subst h6; rfl)) rfl ?_
      refine e_mv 137 em_484 (ce_at ce_484 22 rfl) rfl rfl ?_
      refine e_mv 138 em_484 (ce_at ce_484 23 rfl) rfl rfl ?_
      refine e_mv 139 em_484 (ce_at ce_484 24 rfl) rfl rfl ?_
      refine e_op 140 em_484 (ce_at ce_484 25 rfl) rfl rfl ?_
      refine e_iadd 141 em_484 rfl (ce_at ce_484 26 rfl) ?_
      refine e_gd fun g7 => ?_
      refine e_ildk 142 em_484 (ce_at ce_484 27 rfl) h_r0 hk_r0 hl_n0 g7 rfl ?_
      refine e_mv 143 em_484 (ce_at ce_484 28 rfl) rfl rfl ?_
      refine e_mv 144 em_484 (ce_at ce_484 29 rfl) rfl rfl ?_
      refine e_op 145 em_484 (ce_at ce_484 30 rfl) rfl rfl ?_
      refine e_iadd 146 em_484 rfl (ce_at ce_484 31 rfl) ?_
      refine e_gd fun g8 => ?_
      refine e_ildk 147 em_484 (ce_at ce_484 32 rfl) h_r0 hk_r0 hl_n0 g8 rfl ?_
      refine e_mv 148 em_484 (ce_at ce_484 33 rfl) rfl rfl ?_
      refine e_mv 149 em_484 (ce_at ce_484 34 rfl) rfl rfl ?_
      refine e_op 150 em_484 (ce_at ce_484 35 rfl) rfl rfl ?_
      refine e_iadd 151 em_484 rfl (ce_at ce_484 36 rfl) ?_
      refine e_gd fun g9 => ?_
      refine e_ildk 152 em_484 (ce_at ce_484 37 rfl) h_r0 hk_r0 hl_n0 g9 rfl ?_
      refine e_mv 153 em_484 (ce_at ce_484 38 rfl) rfl rfl ?_
      refine e_mv 154 em_484 (ce_at ce_484 39 rfl) rfl rfl ?_
      refine e_op 155 em_484 (ce_at ce_484 40 rfl) rfl rfl ?_
      refine e_iadd 156 em_484 rfl (ce_at ce_484 41 rfl) ?_
      refine e_gd fun g10 => ?_
      refine e_ildk 157 em_484 (ce_at ce_484 42 rfl) h_r0 hk_r0 hl_n0 g10 rfl ?_
      refine e_mv 158 em_484 (ce_at ce_484 43 rfl) rfl rfl ?_
      refine e_mv 159 em_484 (ce_at ce_484 44 rfl) rfl rfl ?_
      refine e_op 160 em_484 (ce_at ce_484 45 rfl) rfl rfl ?_
      refine e_iadd 161 em_484 rfl (ce_at ce_484 46 rfl) ?_
      refine e_gd fun g11 => ?_
      refine e_ildk 162 em_484 (ce_at ce_484 47 rfl) h_r0 hk_r0 hl_n0 g11 rfl ?_
      refine e_ivi 165 em_484 (ce_at ce_484 48 rfl) (by omega) (iv_v5 (by decide) tq_0 rfl) em_29 (Nat.le_of_ble_eq_true rfl) rfl (tx_feed w (d - 1) (by omega) _ _ _ _ _ _) (fun r12 s12 => ?_)
      refine e_mv 166 em_484 (ce_at ce_484 49 rfl) rfl rfl ?_
      refine e_mv 167 em_484 (ce_at ce_484 50 rfl) rfl rfl ?_
      refine e_mv 168 em_484 (ce_at ce_484 51 rfl) rfl rfl ?_
      refine e_op 169 em_484 (ce_at ce_484 52 rfl) rfl rfl ?_
      refine e_iadd 170 em_484 rfl (ce_at ce_484 53 rfl) ?_
      refine e_ildk 171 em_484 (ce_at ce_484 54 rfl) h_r0 hk_r0 hl_n0 g7 rfl ?_
      refine e_mv 172 em_484 (ce_at ce_484 55 rfl) rfl rfl ?_
      refine e_mv 173 em_484 (ce_at ce_484 56 rfl) rfl rfl ?_
      refine e_op 174 em_484 (ce_at ce_484 57 rfl) rfl rfl ?_
      refine e_iadd 175 em_484 rfl (ce_at ce_484 58 rfl) ?_
      refine e_ildk 176 em_484 (ce_at ce_484 59 rfl) h_r0 hk_r0 hl_n0 g8 rfl ?_
      refine e_mv 177 em_484 (ce_at ce_484 60 rfl) rfl rfl ?_
      refine e_mv 178 em_484 (ce_at ce_484 61 rfl) rfl rfl ?_
      refine e_op 179 em_484 (ce_at ce_484 62 rfl) rfl rfl ?_
      refine e_iadd 180 em_484 rfl (ce_at ce_484 63 rfl) ?_
      refine e_ildk 181 em_484 (ce_at ce_484 64 rfl) h_r0 hk_r0 hl_n0 g9 rfl ?_
      refine e_mv 182 em_484 (ce_at ce_484 65 rfl) rfl rfl ?_
      refine e_mv 183 em_484 (ce_at ce_484 66 rfl) rfl rfl ?_
      refine e_op 184 em_484 (ce_at ce_484 67 rfl) rfl rfl ?_
      refine e_iadd 185 em_484 rfl (ce_at ce_484 68 rfl) ?_
      refine e_ildk 186 em_484 (ce_at ce_484 69 rfl) h_r0 hk_r0 hl_n0 g10 rfl ?_
      refine e_mv 187 em_484 (ce_at ce_484 70 rfl) rfl rfl ?_
      refine e_mv 188 em_484 (ce_at ce_484 71 rfl) rfl rfl ?_
      refine e_op 189 em_484 (ce_at ce_484 72 rfl) rfl rfl ?_
      refine e_iadd 190 em_484 rfl (ce_at ce_484 73 rfl) ?_
      refine e_ildk 191 em_484 (ce_at ce_484 74 rfl) h_r0 hk_r0 hl_n0 g11 rfl ?_
      refine e_ivi 194 em_484 (ce_at ce_484 75 rfl) (by omega) (iv_v5 (by decide) tq_121 rfl) em_296 (Nat.le_of_ble_eq_true rfl) rfl (tm_feed w (d - 1) (by omega) _ _ _ _ _ _) (fun r13 s13 => ?_)
      refine e_gd fun g14 => ?_
      refine e_gd fun g15 => ?_
      refine e_cmeq 674 197 em_484 rfl rfl (ce_at ce_484 76 rfl) g14 g15 (fun h16 => ?_) (fun h16 => ?_)
      · refine e_iinc 677 em_484 (ce_at ce_484 428 rfl) rfl (by decide) rfl ?_
        refine e_goto em_484 18 (ce_at ce_484 429 rfl) rfl ?_
        refine e_pk [0, 1, 2, 3] rfl rfl ?_
        exact e_out (fun r h => h)
      · refine e_pk [] rfl rfl ?_
        exact e_out (fun r h => h)
    refine e_case 1 (fun h17 => ?_) (fun h17 => ?_)
    · refine e_sw em_484 199 (ce_at ce_484 21 rfl) (sw_in g5 (by omega) (by subst h17; rfl)) rfl ?_
      refine e_mv 200 em_484 (ce_at ce_484 79 rfl) rfl rfl ?_
      refine e_mv 201 em_484 (ce_at ce_484 80 rfl) rfl rfl ?_
      refine e_mv 202 em_484 (ce_at ce_484 81 rfl) rfl rfl ?_
      refine e_op 203 em_484 (ce_at ce_484 82 rfl) rfl rfl ?_
      refine e_iadd 204 em_484 rfl (ce_at ce_484 83 rfl) ?_
      refine e_gd fun g18 => ?_
      refine e_ildk 205 em_484 (ce_at ce_484 84 rfl) h_r0 hk_r0 hl_n0 g18 rfl ?_
      refine e_ivi 208 em_484 (ce_at ce_484 85 rfl) (by omega) (iv_v1 (by decide) tq_0 rfl) em_31 (Nat.le_of_ble_eq_true rfl) rfl (tx_load w (d - 1) (by omega) _ _) (fun r19 s19 => ?_)
      refine e_mv 209 em_484 (ce_at ce_484 86 rfl) rfl rfl ?_
      refine e_mv 210 em_484 (ce_at ce_484 87 rfl) rfl rfl ?_
      refine e_mv 211 em_484 (ce_at ce_484 88 rfl) rfl rfl ?_
      refine e_op 212 em_484 (ce_at ce_484 89 rfl) rfl rfl ?_
      refine e_iadd 213 em_484 rfl (ce_at ce_484 90 rfl) ?_
      refine e_ildk 214 em_484 (ce_at ce_484 91 rfl) h_r0 hk_r0 hl_n0 g18 rfl ?_
      refine e_ivi 217 em_484 (ce_at ce_484 92 rfl) (by omega) (iv_v1 (by decide) tq_121 rfl) em_298 (Nat.le_of_ble_eq_true rfl) rfl (tm_load w (d - 1) (by omega) _ _) (fun r20 s20 => ?_)
      refine e_gd fun g21 => ?_
      refine e_gd fun g22 => ?_
      refine e_cmeq 674 220 em_484 rfl rfl (ce_at ce_484 93 rfl) g21 g22 (fun h23 => ?_) (fun h23 => ?_)
      · refine e_iinc 677 em_484 (ce_at ce_484 428 rfl) rfl (by decide) rfl ?_
        refine e_goto em_484 18 (ce_at ce_484 429 rfl) rfl ?_
        refine e_pk [0, 1, 2, 3] rfl rfl ?_
        exact e_out (fun r h => h)
      · refine e_pk [] rfl rfl ?_
        exact e_out (fun r h => h)
    refine e_case 2 (fun h24 => ?_) (fun h24 => ?_)
    · refine e_sw em_484 222 (ce_at ce_484 21 rfl) (sw_in g5 (by omega) (by subst h24; rfl)) rfl ?_
      refine e_mv 223 em_484 (ce_at ce_484 96 rfl) rfl rfl ?_
      refine e_mv 224 em_484 (ce_at ce_484 97 rfl) rfl rfl ?_
      refine e_mv 225 em_484 (ce_at ce_484 98 rfl) rfl rfl ?_
      refine e_op 226 em_484 (ce_at ce_484 99 rfl) rfl rfl ?_
      refine e_iadd 227 em_484 rfl (ce_at ce_484 100 rfl) ?_
      refine e_gd fun g25 => ?_
      refine e_ildk 228 em_484 (ce_at ce_484 101 rfl) h_r0 hk_r0 hl_n0 g25 rfl ?_
      refine e_ivi 231 em_484 (ce_at ce_484 102 rfl) (by omega) (iv_v1 (by decide) tq_0 rfl) em_137 (Nat.le_of_ble_eq_true rfl) rfl (tx_keys w (d - 1) (by omega) _ _) (fun r26 s26 => ?_)
      refine e_mv 232 em_484 (ce_at ce_484 103 rfl) rfl rfl ?_
      refine e_mv 233 em_484 (ce_at ce_484 104 rfl) rfl rfl ?_
      refine e_mv 234 em_484 (ce_at ce_484 105 rfl) rfl rfl ?_
      refine e_op 235 em_484 (ce_at ce_484 106 rfl) rfl rfl ?_
      refine e_iadd 236 em_484 rfl (ce_at ce_484 107 rfl) ?_
      refine e_ildk 237 em_484 (ce_at ce_484 108 rfl) h_r0 hk_r0 hl_n0 g25 rfl ?_
      refine e_ivi 240 em_484 (ce_at ce_484 109 rfl) (by omega) (iv_v1 (by decide) tq_121 rfl) em_370 (Nat.le_of_ble_eq_true rfl) rfl (tm_keys w (d - 1) (by omega) _ _) (fun r27 s27 => ?_)
      refine e_gd fun g28 => ?_
      refine e_gd fun g29 => ?_
      refine e_cmeq 674 243 em_484 rfl rfl (ce_at ce_484 110 rfl) g28 g29 (fun h30 => ?_) (fun h30 => ?_)
      · refine e_iinc 677 em_484 (ce_at ce_484 428 rfl) rfl (by decide) rfl ?_
        refine e_goto em_484 18 (ce_at ce_484 429 rfl) rfl ?_
        refine e_pk [0, 1, 2, 3] rfl rfl ?_
        exact e_out (fun r h => h)
      · refine e_pk [] rfl rfl ?_
        exact e_out (fun r h => h)
    refine e_case 3 (fun h31 => ?_) (fun h31 => ?_)
    · refine e_sw em_484 245 (ce_at ce_484 21 rfl) (sw_in g5 (by omega) (by subst h31; rfl)) rfl ?_
      refine e_mv 246 em_484 (ce_at ce_484 113 rfl) rfl rfl ?_
      refine e_mv 247 em_484 (ce_at ce_484 114 rfl) rfl rfl ?_
      refine e_mv 248 em_484 (ce_at ce_484 115 rfl) rfl rfl ?_
      refine e_op 249 em_484 (ce_at ce_484 116 rfl) rfl rfl ?_
      refine e_iadd 250 em_484 rfl (ce_at ce_484 117 rfl) ?_
      refine e_gd fun g32 => ?_
      refine e_ildk 251 em_484 (ce_at ce_484 118 rfl) h_r0 hk_r0 hl_n0 g32 rfl ?_
      refine e_ivi 254 em_484 (ce_at ce_484 119 rfl) (by omega) (iv_v1 (by decide) tq_0 rfl) em_139 (Nat.le_of_ble_eq_true rfl) rfl (tx_run w (d - 1) (by omega) _ _) (fun r33 s33 => ?_)
      refine e_mv 255 em_484 (ce_at ce_484 120 rfl) rfl rfl ?_
      refine e_mv 256 em_484 (ce_at ce_484 121 rfl) rfl rfl ?_
      refine e_mv 257 em_484 (ce_at ce_484 122 rfl) rfl rfl ?_
      refine e_op 258 em_484 (ce_at ce_484 123 rfl) rfl rfl ?_
      refine e_iadd 259 em_484 rfl (ce_at ce_484 124 rfl) ?_
      refine e_ildk 260 em_484 (ce_at ce_484 125 rfl) h_r0 hk_r0 hl_n0 g32 rfl ?_
      refine e_ivi 263 em_484 (ce_at ce_484 126 rfl) (by omega) (iv_v1 (by decide) tq_121 rfl) em_371 (Nat.le_of_ble_eq_true rfl) rfl (tm_run w (d - 1) (by omega) _ _) (fun r34 s34 => ?_)
      refine e_gd fun g35 => ?_
      refine e_gd fun g36 => ?_
      refine e_cmeq 674 266 em_484 rfl rfl (ce_at ce_484 127 rfl) g35 g36 (fun h37 => ?_) (fun h37 => ?_)
      · refine e_iinc 677 em_484 (ce_at ce_484 428 rfl) rfl (by decide) rfl ?_
        refine e_goto em_484 18 (ce_at ce_484 429 rfl) rfl ?_
        refine e_pk [0, 1, 2, 3] rfl rfl ?_
        exact e_out (fun r h => h)
      · refine e_pk [] rfl rfl ?_
        exact e_out (fun r h => h)
    refine e_case 4 (fun h38 => ?_) (fun h38 => ?_)
    · refine e_sw em_484 268 (ce_at ce_484 21 rfl) (sw_in g5 (by omega) (by subst h38; rfl)) rfl ?_
      refine e_mv 269 em_484 (ce_at ce_484 130 rfl) rfl rfl ?_
      refine e_ivi 272 em_484 (ce_at ce_484 131 rfl) (by omega) (iv_v0 (by decide) tq_0 rfl) em_192 (Nat.le_of_ble_eq_true rfl) rfl (tx_place w (d - 1) (by omega) _) (fun r39 s39 => ?_)
      refine e_mv 273 em_484 (ce_at ce_484 132 rfl) rfl rfl ?_
      refine e_ivi 276 em_484 (ce_at ce_484 133 rfl) (by omega) (iv_v0 (by decide) tq_121 rfl) em_416 (Nat.le_of_ble_eq_true rfl) rfl (tm_place w (d - 1) (by omega) _) (fun r40 s40 => ?_)
      refine e_gd fun g41 => ?_
      refine e_gd fun g42 => ?_
      refine e_cmeq 674 279 em_484 rfl rfl (ce_at ce_484 134 rfl) g41 g42 (fun h43 => ?_) (fun h43 => ?_)
      · refine e_iinc 677 em_484 (ce_at ce_484 428 rfl) rfl (by decide) rfl ?_
        refine e_goto em_484 18 (ce_at ce_484 429 rfl) rfl ?_
        refine e_pk [0, 1, 2, 3] rfl rfl ?_
        exact e_out (fun r h => h)
      · refine e_pk [] rfl rfl ?_
        exact e_out (fun r h => h)
    refine e_case 5 (fun h44 => ?_) (fun h44 => ?_)
    · refine e_sw em_484 281 (ce_at ce_484 21 rfl) (sw_in g5 (by omega) (by subst h44; rfl)) rfl ?_
      refine e_mv 282 em_484 (ce_at ce_484 137 rfl) rfl rfl ?_
      refine e_ivi 285 em_484 (ce_at ce_484 138 rfl) (by omega) (iv_v0 (by decide) tq_0 rfl) em_193 (Nat.le_of_ble_eq_true rfl) rfl (tx_error w (d - 1) (by omega) _) (fun r45 s45 => ?_)
      refine e_mv 286 em_484 (ce_at ce_484 139 rfl) rfl rfl ?_
      refine e_ivi 289 em_484 (ce_at ce_484 140 rfl) (by omega) (iv_v0 (by decide) tq_121 rfl) em_417 (Nat.le_of_ble_eq_true rfl) rfl (tm_error w (d - 1) (by omega) _) (fun r46 s46 => ?_)
      refine e_gd fun g47 => ?_
      refine e_gd fun g48 => ?_
      refine e_cmeq 674 292 em_484 rfl rfl (ce_at ce_484 141 rfl) g47 g48 (fun h49 => ?_) (fun h49 => ?_)
      · refine e_iinc 677 em_484 (ce_at ce_484 428 rfl) rfl (by decide) rfl ?_
        refine e_goto em_484 18 (ce_at ce_484 429 rfl) rfl ?_
        refine e_pk [0, 1, 2, 3] rfl rfl ?_
        exact e_out (fun r h => h)
      · refine e_pk [] rfl rfl ?_
        exact e_out (fun r h => h)
    refine e_case 6 (fun h50 => ?_) (fun h50 => ?_)
    · refine e_sw em_484 294 (ce_at ce_484 21 rfl) (sw_in g5 (by omega) (by subst h50; rfl)) rfl ?_
      refine e_mv 295 em_484 (ce_at ce_484 144 rfl) rfl rfl ?_
      refine e_ivl 298 em_484 (ce_at ce_484 145 rfl) (by omega) (iv_v0 (by decide) tq_0 rfl) em_194 (Nat.le_of_ble_eq_true rfl) rfl (tx_fetch w (d - 1) (by omega) _) (fun r51 s51 => ?_)
      refine e_mv 299 em_484 (ce_at ce_484 146 rfl) rfl rfl ?_
      refine e_ivl 302 em_484 (ce_at ce_484 147 rfl) (by omega) (iv_v0 (by decide) tq_121 rfl) em_418 (Nat.le_of_ble_eq_true rfl) rfl (tm_fetch w (d - 1) (by omega) _) (fun r52 s52 => ?_)
      refine e_lcmp 303 em_484 rfl (ce_at ce_484 148 rfl) ?_
      refine e_gd fun g53 => ?_
      refine e_ifeq 674 306 em_484 rfl rfl (ce_at ce_484 149 rfl) g53 (fun h54 => ?_) (fun h54 => ?_)
      · refine e_iinc 677 em_484 (ce_at ce_484 428 rfl) rfl (by decide) rfl ?_
        refine e_goto em_484 18 (ce_at ce_484 429 rfl) rfl ?_
        refine e_pk [0, 1, 2, 3] rfl rfl ?_
        exact e_out (fun r h => h)
      · refine e_pk [] rfl rfl ?_
        exact e_out (fun r h => h)
    refine e_case 7 (fun h55 => ?_) (fun h55 => ?_)
    · refine e_sw em_484 308 (ce_at ce_484 21 rfl) (sw_in g5 (by omega) (by subst h55; rfl)) rfl ?_
      refine e_mv 309 em_484 (ce_at ce_484 152 rfl) rfl rfl ?_
      refine e_mv 310 em_484 (ce_at ce_484 153 rfl) rfl rfl ?_
      refine e_mv 311 em_484 (ce_at ce_484 154 rfl) rfl rfl ?_
      refine e_op 312 em_484 (ce_at ce_484 155 rfl) rfl rfl ?_
      refine e_iadd 313 em_484 rfl (ce_at ce_484 156 rfl) ?_
      refine e_gd fun g56 => ?_
      refine e_ildk 314 em_484 (ce_at ce_484 157 rfl) h_r0 hk_r0 hl_n0 g56 rfl ?_
      refine e_ivl 317 em_484 (ce_at ce_484 158 rfl) (by omega) (iv_v1 (by decide) tq_0 rfl) em_197 (Nat.le_of_ble_eq_true rfl) rfl (tx_row w (d - 1) (by omega) _ _) (fun r57 s57 => ?_)
      refine e_mv 318 em_484 (ce_at ce_484 159 rfl) rfl rfl ?_
      refine e_mv 319 em_484 (ce_at ce_484 160 rfl) rfl rfl ?_
      refine e_mv 320 em_484 (ce_at ce_484 161 rfl) rfl rfl ?_
      refine e_op 321 em_484 (ce_at ce_484 162 rfl) rfl rfl ?_
      refine e_iadd 322 em_484 rfl (ce_at ce_484 163 rfl) ?_
      refine e_ildk 323 em_484 (ce_at ce_484 164 rfl) h_r0 hk_r0 hl_n0 g56 rfl ?_
      refine e_ivl 326 em_484 (ce_at ce_484 165 rfl) (by omega) (iv_v1 (by decide) tq_121 rfl) em_419 (Nat.le_of_ble_eq_true rfl) rfl (tm_row w (d - 1) (by omega) _ _) (fun r58 s58 => ?_)
      refine e_lcmp 327 em_484 rfl (ce_at ce_484 166 rfl) ?_
      refine e_gd fun g59 => ?_
      refine e_ifeq 674 330 em_484 rfl rfl (ce_at ce_484 167 rfl) g59 (fun h60 => ?_) (fun h60 => ?_)
      · refine e_iinc 677 em_484 (ce_at ce_484 428 rfl) rfl (by decide) rfl ?_
        refine e_goto em_484 18 (ce_at ce_484 429 rfl) rfl ?_
        refine e_pk [0, 1, 2, 3] rfl rfl ?_
        exact e_out (fun r h => h)
      · refine e_pk [] rfl rfl ?_
        exact e_out (fun r h => h)
    refine e_case 8 (fun h61 => ?_) (fun h61 => ?_)
    · refine e_sw em_484 332 (ce_at ce_484 21 rfl) (sw_in g5 (by omega) (by subst h61; rfl)) rfl ?_
      refine e_mv 333 em_484 (ce_at ce_484 170 rfl) rfl rfl ?_
      refine e_mv 334 em_484 (ce_at ce_484 171 rfl) rfl rfl ?_
      refine e_mv 335 em_484 (ce_at ce_484 172 rfl) rfl rfl ?_
      refine e_op 336 em_484 (ce_at ce_484 173 rfl) rfl rfl ?_
      refine e_iadd 337 em_484 rfl (ce_at ce_484 174 rfl) ?_
      refine e_gd fun g62 => ?_
      refine e_ildk 338 em_484 (ce_at ce_484 175 rfl) h_r0 hk_r0 hl_n0 g62 rfl ?_
      refine e_ivi 341 em_484 (ce_at ce_484 176 rfl) (by omega) (iv_v1 (by decide) tq_0 rfl) em_199 (Nat.le_of_ble_eq_true rfl) rfl (tx_word w (d - 1) (by omega) _ _) (fun r63 s63 => ?_)
      refine e_mv 342 em_484 (ce_at ce_484 177 rfl) rfl rfl ?_
      refine e_mv 343 em_484 (ce_at ce_484 178 rfl) rfl rfl ?_
      refine e_mv 344 em_484 (ce_at ce_484 179 rfl) rfl rfl ?_
      refine e_op 345 em_484 (ce_at ce_484 180 rfl) rfl rfl ?_
      refine e_iadd 346 em_484 rfl (ce_at ce_484 181 rfl) ?_
      refine e_ildk 347 em_484 (ce_at ce_484 182 rfl) h_r0 hk_r0 hl_n0 g62 rfl ?_
      refine e_ivi 350 em_484 (ce_at ce_484 183 rfl) (by omega) (iv_v1 (by decide) tq_121 rfl) em_420 (Nat.le_of_ble_eq_true rfl) rfl (tm_word w (d - 1) (by omega) _ _) (fun r64 s64 => ?_)
      refine e_gd fun g65 => ?_
      refine e_gd fun g66 => ?_
      refine e_cmeq 674 353 em_484 rfl rfl (ce_at ce_484 184 rfl) g65 g66 (fun h67 => ?_) (fun h67 => ?_)
      · refine e_iinc 677 em_484 (ce_at ce_484 428 rfl) rfl (by decide) rfl ?_
        refine e_goto em_484 18 (ce_at ce_484 429 rfl) rfl ?_
        refine e_pk [0, 1, 2, 3] rfl rfl ?_
        exact e_out (fun r h => h)
      · refine e_pk [] rfl rfl ?_
        exact e_out (fun r h => h)
    refine e_case 9 (fun h68 => ?_) (fun h68 => ?_)
    · refine e_sw em_484 355 (ce_at ce_484 21 rfl) (sw_in g5 (by omega) (by subst h68; rfl)) rfl ?_
      refine e_mv 356 em_484 (ce_at ce_484 187 rfl) rfl rfl ?_
      refine e_mv 357 em_484 (ce_at ce_484 188 rfl) rfl rfl ?_
      refine e_mv 358 em_484 (ce_at ce_484 189 rfl) rfl rfl ?_
      refine e_op 359 em_484 (ce_at ce_484 190 rfl) rfl rfl ?_
      refine e_iadd 360 em_484 rfl (ce_at ce_484 191 rfl) ?_
      refine e_gd fun g69 => ?_
      refine e_ildk 361 em_484 (ce_at ce_484 192 rfl) h_r0 hk_r0 hl_n0 g69 rfl ?_
      refine e_ivi 364 em_484 (ce_at ce_484 193 rfl) (by omega) (iv_v1 (by decide) tq_0 rfl) em_201 (Nat.le_of_ble_eq_true rfl) rfl (tx_count w (d - 1) (by omega) _ _) (fun r70 s70 => ?_)
      refine e_mv 365 em_484 (ce_at ce_484 194 rfl) rfl rfl ?_
      refine e_mv 366 em_484 (ce_at ce_484 195 rfl) rfl rfl ?_
      refine e_mv 367 em_484 (ce_at ce_484 196 rfl) rfl rfl ?_
      refine e_op 368 em_484 (ce_at ce_484 197 rfl) rfl rfl ?_
      refine e_iadd 369 em_484 rfl (ce_at ce_484 198 rfl) ?_
      refine e_ildk 370 em_484 (ce_at ce_484 199 rfl) h_r0 hk_r0 hl_n0 g69 rfl ?_
      refine e_ivi 373 em_484 (ce_at ce_484 200 rfl) (by omega) (iv_v1 (by decide) tq_121 rfl) em_421 (Nat.le_of_ble_eq_true rfl) rfl (tm_count w (d - 1) (by omega) _ _) (fun r71 s71 => ?_)
      refine e_gd fun g72 => ?_
      refine e_gd fun g73 => ?_
      refine e_cmeq 674 376 em_484 rfl rfl (ce_at ce_484 201 rfl) g72 g73 (fun h74 => ?_) (fun h74 => ?_)
      · refine e_iinc 677 em_484 (ce_at ce_484 428 rfl) rfl (by decide) rfl ?_
        refine e_goto em_484 18 (ce_at ce_484 429 rfl) rfl ?_
        refine e_pk [0, 1, 2, 3] rfl rfl ?_
        exact e_out (fun r h => h)
      · refine e_pk [] rfl rfl ?_
        exact e_out (fun r h => h)
    refine e_case 10 (fun h75 => ?_) (fun h75 => ?_)
    · refine e_sw em_484 378 (ce_at ce_484 21 rfl) (sw_in g5 (by omega) (by subst h75; rfl)) rfl ?_
      refine e_mv 379 em_484 (ce_at ce_484 204 rfl) rfl rfl ?_
      refine e_mv 380 em_484 (ce_at ce_484 205 rfl) rfl rfl ?_
      refine e_mv 381 em_484 (ce_at ce_484 206 rfl) rfl rfl ?_
      refine e_op 382 em_484 (ce_at ce_484 207 rfl) rfl rfl ?_
      refine e_iadd 383 em_484 rfl (ce_at ce_484 208 rfl) ?_
      refine e_gd fun g76 => ?_
      refine e_ildk 384 em_484 (ce_at ce_484 209 rfl) h_r0 hk_r0 hl_n0 g76 rfl ?_
      refine e_mv 385 em_484 (ce_at ce_484 210 rfl) rfl rfl ?_
      refine e_mv 386 em_484 (ce_at ce_484 211 rfl) rfl rfl ?_
      refine e_op 387 em_484 (ce_at ce_484 212 rfl) rfl rfl ?_
      refine e_iadd 388 em_484 rfl (ce_at ce_484 213 rfl) ?_
      refine e_gd fun g77 => ?_
      refine e_ildk 389 em_484 (ce_at ce_484 214 rfl) h_r0 hk_r0 hl_n0 g77 rfl ?_
      refine e_ivi 392 em_484 (ce_at ce_484 215 rfl) (by omega) (iv_v2 (by decide) tq_0 rfl) em_202 (Nat.le_of_ble_eq_true rfl) rfl (tx_command w (d - 1) (by omega) _ _ _) (fun r78 s78 => ?_)
      refine e_mv 393 em_484 (ce_at ce_484 216 rfl) rfl rfl ?_
      refine e_mv 394 em_484 (ce_at ce_484 217 rfl) rfl rfl ?_
      refine e_mv 395 em_484 (ce_at ce_484 218 rfl) rfl rfl ?_
      refine e_op 396 em_484 (ce_at ce_484 219 rfl) rfl rfl ?_
      refine e_iadd 397 em_484 rfl (ce_at ce_484 220 rfl) ?_
      refine e_ildk 398 em_484 (ce_at ce_484 221 rfl) h_r0 hk_r0 hl_n0 g76 rfl ?_
      refine e_mv 399 em_484 (ce_at ce_484 222 rfl) rfl rfl ?_
      refine e_mv 400 em_484 (ce_at ce_484 223 rfl) rfl rfl ?_
      refine e_op 401 em_484 (ce_at ce_484 224 rfl) rfl rfl ?_
      refine e_iadd 402 em_484 rfl (ce_at ce_484 225 rfl) ?_
      refine e_ildk 403 em_484 (ce_at ce_484 226 rfl) h_r0 hk_r0 hl_n0 g77 rfl ?_
      refine e_ivi 406 em_484 (ce_at ce_484 227 rfl) (by omega) (iv_v2 (by decide) tq_121 rfl) em_369 (Nat.le_of_ble_eq_true rfl) rfl (tm_command_369 w (d - 1) (by omega) _ _ _) (fun r79 s79 => ?_)
      refine e_gd fun g80 => ?_
      refine e_gd fun g81 => ?_
      refine e_cmeq 674 409 em_484 rfl rfl (ce_at ce_484 228 rfl) g80 g81 (fun h82 => ?_) (fun h82 => ?_)
      · refine e_iinc 677 em_484 (ce_at ce_484 428 rfl) rfl (by decide) rfl ?_
        refine e_goto em_484 18 (ce_at ce_484 429 rfl) rfl ?_
        refine e_pk [0, 1, 2, 3] rfl rfl ?_
        exact e_out (fun r h => h)
      · refine e_pk [] rfl rfl ?_
        exact e_out (fun r h => h)
    refine e_case 11 (fun h83 => ?_) (fun h83 => ?_)
    · refine e_sw em_484 411 (ce_at ce_484 21 rfl) (sw_in g5 (by omega) (by subst h83; rfl)) rfl ?_
      refine e_mv 412 em_484 (ce_at ce_484 231 rfl) rfl rfl ?_
      refine e_mv 413 em_484 (ce_at ce_484 232 rfl) rfl rfl ?_
      refine e_mv 414 em_484 (ce_at ce_484 233 rfl) rfl rfl ?_
      refine e_op 415 em_484 (ce_at ce_484 234 rfl) rfl rfl ?_
      refine e_iadd 416 em_484 rfl (ce_at ce_484 235 rfl) ?_
      refine e_gd fun g84 => ?_
      refine e_ildk 417 em_484 (ce_at ce_484 236 rfl) h_r0 hk_r0 hl_n0 g84 rfl ?_
      refine e_ivi 420 em_484 (ce_at ce_484 237 rfl) (by omega) (iv_v1 (by decide) tq_0 rfl) em_204 (Nat.le_of_ble_eq_true rfl) rfl (tx_signs w (d - 1) (by omega) _ _) (fun r85 s85 => ?_)
      refine e_mv 421 em_484 (ce_at ce_484 238 rfl) rfl rfl ?_
      refine e_mv 422 em_484 (ce_at ce_484 239 rfl) rfl rfl ?_
      refine e_mv 423 em_484 (ce_at ce_484 240 rfl) rfl rfl ?_
      refine e_op 424 em_484 (ce_at ce_484 241 rfl) rfl rfl ?_
      refine e_iadd 425 em_484 rfl (ce_at ce_484 242 rfl) ?_
      refine e_ildk 426 em_484 (ce_at ce_484 243 rfl) h_r0 hk_r0 hl_n0 g84 rfl ?_
      refine e_ivi 429 em_484 (ce_at ce_484 244 rfl) (by omega) (iv_v1 (by decide) tq_121 rfl) em_422 (Nat.le_of_ble_eq_true rfl) rfl (tm_signs w (d - 1) (by omega) _ _) (fun r86 s86 => ?_)
      refine e_gd fun g87 => ?_
      refine e_gd fun g88 => ?_
      refine e_cmeq 674 432 em_484 rfl rfl (ce_at ce_484 245 rfl) g87 g88 (fun h89 => ?_) (fun h89 => ?_)
      · refine e_iinc 677 em_484 (ce_at ce_484 428 rfl) rfl (by decide) rfl ?_
        refine e_goto em_484 18 (ce_at ce_484 429 rfl) rfl ?_
        refine e_pk [0, 1, 2, 3] rfl rfl ?_
        exact e_out (fun r h => h)
      · refine e_pk [] rfl rfl ?_
        exact e_out (fun r h => h)
    refine e_case 12 (fun h90 => ?_) (fun h90 => ?_)
    · refine e_sw em_484 434 (ce_at ce_484 21 rfl) (sw_in g5 (by omega) (by subst h90; rfl)) rfl ?_
      refine e_mv 435 em_484 (ce_at ce_484 248 rfl) rfl rfl ?_
      refine e_mv 436 em_484 (ce_at ce_484 249 rfl) rfl rfl ?_
      refine e_mv 437 em_484 (ce_at ce_484 250 rfl) rfl rfl ?_
      refine e_op 438 em_484 (ce_at ce_484 251 rfl) rfl rfl ?_
      refine e_iadd 439 em_484 rfl (ce_at ce_484 252 rfl) ?_
      refine e_gd fun g91 => ?_
      refine e_ildk 440 em_484 (ce_at ce_484 253 rfl) h_r0 hk_r0 hl_n0 g91 rfl ?_
      refine e_ivi 443 em_484 (ce_at ce_484 254 rfl) (by omega) (iv_v1 (by decide) tq_0 rfl) em_224 (Nat.le_of_ble_eq_true rfl) rfl (tx_code w (d - 1) (by omega) _ _) (fun r92 s92 => ?_)
      refine e_mv 444 em_484 (ce_at ce_484 255 rfl) rfl rfl ?_
      refine e_mv 445 em_484 (ce_at ce_484 256 rfl) rfl rfl ?_
      refine e_mv 446 em_484 (ce_at ce_484 257 rfl) rfl rfl ?_
      refine e_op 447 em_484 (ce_at ce_484 258 rfl) rfl rfl ?_
      refine e_iadd 448 em_484 rfl (ce_at ce_484 259 rfl) ?_
      refine e_ildk 449 em_484 (ce_at ce_484 260 rfl) h_r0 hk_r0 hl_n0 g91 rfl ?_
      refine e_ivi 452 em_484 (ce_at ce_484 261 rfl) (by omega) (iv_v1 (by decide) tq_121 rfl) em_435 (Nat.le_of_ble_eq_true rfl) rfl (tm_code w (d - 1) (by omega) _ _) (fun r93 s93 => ?_)
      refine e_gd fun g94 => ?_
      refine e_gd fun g95 => ?_
      refine e_cmeq 674 455 em_484 rfl rfl (ce_at ce_484 262 rfl) g94 g95 (fun h96 => ?_) (fun h96 => ?_)
      · refine e_iinc 677 em_484 (ce_at ce_484 428 rfl) rfl (by decide) rfl ?_
        refine e_goto em_484 18 (ce_at ce_484 429 rfl) rfl ?_
        refine e_pk [0, 1, 2, 3] rfl rfl ?_
        exact e_out (fun r h => h)
      · refine e_pk [] rfl rfl ?_
        exact e_out (fun r h => h)
    refine e_case 13 (fun h97 => ?_) (fun h97 => ?_)
    · refine e_sw em_484 457 (ce_at ce_484 21 rfl) (sw_in g5 (by omega) (by subst h97; rfl)) rfl ?_
      refine e_mv 458 em_484 (ce_at ce_484 265 rfl) rfl rfl ?_
      refine e_mv 459 em_484 (ce_at ce_484 266 rfl) rfl rfl ?_
      refine e_mv 460 em_484 (ce_at ce_484 267 rfl) rfl rfl ?_
      refine e_op 461 em_484 (ce_at ce_484 268 rfl) rfl rfl ?_
      refine e_iadd 462 em_484 rfl (ce_at ce_484 269 rfl) ?_
      refine e_gd fun g98 => ?_
      refine e_ildk 463 em_484 (ce_at ce_484 270 rfl) h_r0 hk_r0 hl_n0 g98 rfl ?_
      refine e_ivi 466 em_484 (ce_at ce_484 271 rfl) (by omega) (iv_v1 (by decide) tq_0 rfl) em_225 (Nat.le_of_ble_eq_true rfl) rfl (tx_go w (d - 1) (by omega) _ _) (fun r99 s99 => ?_)
      refine e_mv 467 em_484 (ce_at ce_484 272 rfl) rfl rfl ?_
      refine e_mv 468 em_484 (ce_at ce_484 273 rfl) rfl rfl ?_
      refine e_mv 469 em_484 (ce_at ce_484 274 rfl) rfl rfl ?_
      refine e_op 470 em_484 (ce_at ce_484 275 rfl) rfl rfl ?_
      refine e_iadd 471 em_484 rfl (ce_at ce_484 276 rfl) ?_
      refine e_ildk 472 em_484 (ce_at ce_484 277 rfl) h_r0 hk_r0 hl_n0 g98 rfl ?_
      refine e_ivi 475 em_484 (ce_at ce_484 278 rfl) (by omega) (iv_v1 (by decide) tq_121 rfl) em_436 (Nat.le_of_ble_eq_true rfl) rfl (tm_go_436 w (d - 1) (by omega) _ _) (fun r100 s100 => ?_)
      refine e_gd fun g101 => ?_
      refine e_gd fun g102 => ?_
      refine e_cmeq 674 478 em_484 rfl rfl (ce_at ce_484 279 rfl) g101 g102 (fun h103 => ?_) (fun h103 => ?_)
      · refine e_iinc 677 em_484 (ce_at ce_484 428 rfl) rfl (by decide) rfl ?_
        refine e_goto em_484 18 (ce_at ce_484 429 rfl) rfl ?_
        refine e_pk [0, 1, 2, 3] rfl rfl ?_
        exact e_out (fun r h => h)
      · refine e_pk [] rfl rfl ?_
        exact e_out (fun r h => h)
    refine e_case 14 (fun h104 => ?_) (fun h104 => ?_)
    · refine e_sw em_484 480 (ce_at ce_484 21 rfl) (sw_in g5 (by omega) (by subst h104; rfl)) rfl ?_
      refine e_mv 481 em_484 (ce_at ce_484 282 rfl) rfl rfl ?_
      refine e_mv 482 em_484 (ce_at ce_484 283 rfl) rfl rfl ?_
      refine e_mv 483 em_484 (ce_at ce_484 284 rfl) rfl rfl ?_
      refine e_op 484 em_484 (ce_at ce_484 285 rfl) rfl rfl ?_
      refine e_iadd 485 em_484 rfl (ce_at ce_484 286 rfl) ?_
      refine e_gd fun g105 => ?_
      refine e_ildk 486 em_484 (ce_at ce_484 287 rfl) h_r0 hk_r0 hl_n0 g105 rfl ?_
      refine e_mv 487 em_484 (ce_at ce_484 288 rfl) rfl rfl ?_
      refine e_mv 488 em_484 (ce_at ce_484 289 rfl) rfl rfl ?_
      refine e_op 489 em_484 (ce_at ce_484 290 rfl) rfl rfl ?_
      refine e_iadd 490 em_484 rfl (ce_at ce_484 291 rfl) ?_
      refine e_gd fun g106 => ?_
      refine e_ildk 491 em_484 (ce_at ce_484 292 rfl) h_r0 hk_r0 hl_n0 g106 rfl ?_
      refine e_ivi 494 em_484 (ce_at ce_484 293 rfl) (by omega) (iv_v2 (by decide) tq_0 rfl) em_229 (Nat.le_of_ble_eq_true rfl) rfl (tx_set w (d - 1) (by omega) _ _ _) (fun r107 s107 => ?_)
      refine e_mv 495 em_484 (ce_at ce_484 294 rfl) rfl rfl ?_
      refine e_mv 496 em_484 (ce_at ce_484 295 rfl) rfl rfl ?_
      refine e_mv 497 em_484 (ce_at ce_484 296 rfl) rfl rfl ?_
      refine e_op 498 em_484 (ce_at ce_484 297 rfl) rfl rfl ?_
      refine e_iadd 499 em_484 rfl (ce_at ce_484 298 rfl) ?_
      refine e_ildk 500 em_484 (ce_at ce_484 299 rfl) h_r0 hk_r0 hl_n0 g105 rfl ?_
      refine e_mv 501 em_484 (ce_at ce_484 300 rfl) rfl rfl ?_
      refine e_mv 502 em_484 (ce_at ce_484 301 rfl) rfl rfl ?_
      refine e_op 503 em_484 (ce_at ce_484 302 rfl) rfl rfl ?_
      refine e_iadd 504 em_484 rfl (ce_at ce_484 303 rfl) ?_
      refine e_ildk 505 em_484 (ce_at ce_484 304 rfl) h_r0 hk_r0 hl_n0 g106 rfl ?_
      refine e_ivi 508 em_484 (ce_at ce_484 305 rfl) (by omega) (iv_v2 (by decide) tq_121 rfl) em_439 (Nat.le_of_ble_eq_true rfl) rfl (tm_set w (d - 1) (by omega) _ _ _) (fun r108 s108 => ?_)
      refine e_gd fun g109 => ?_
      refine e_gd fun g110 => ?_
      refine e_cmeq 674 511 em_484 rfl rfl (ce_at ce_484 306 rfl) g109 g110 (fun h111 => ?_) (fun h111 => ?_)
      · refine e_iinc 677 em_484 (ce_at ce_484 428 rfl) rfl (by decide) rfl ?_
        refine e_goto em_484 18 (ce_at ce_484 429 rfl) rfl ?_
        refine e_pk [0, 1, 2, 3] rfl rfl ?_
        exact e_out (fun r h => h)
      · refine e_pk [] rfl rfl ?_
        exact e_out (fun r h => h)
    refine e_case 15 (fun h112 => ?_) (fun h112 => ?_)
    · refine e_sw em_484 513 (ce_at ce_484 21 rfl) (sw_in g5 (by omega) (by subst h112; rfl)) rfl ?_
      refine e_mv 514 em_484 (ce_at ce_484 309 rfl) rfl rfl ?_
      refine e_mv 515 em_484 (ce_at ce_484 310 rfl) rfl rfl ?_
      refine e_mv 516 em_484 (ce_at ce_484 311 rfl) rfl rfl ?_
      refine e_op 517 em_484 (ce_at ce_484 312 rfl) rfl rfl ?_
      refine e_iadd 518 em_484 rfl (ce_at ce_484 313 rfl) ?_
      refine e_gd fun g113 => ?_
      refine e_ildk 519 em_484 (ce_at ce_484 314 rfl) h_r0 hk_r0 hl_n0 g113 rfl ?_
      refine e_ivi 522 em_484 (ce_at ce_484 315 rfl) (by omega) (iv_v1 (by decide) tq_0 rfl) em_231 (Nat.le_of_ble_eq_true rfl) rfl (tx_store w (d - 1) (by omega) _ _) (fun r114 s114 => ?_)
      refine e_mv 523 em_484 (ce_at ce_484 316 rfl) rfl rfl ?_
      refine e_mv 524 em_484 (ce_at ce_484 317 rfl) rfl rfl ?_
      refine e_mv 525 em_484 (ce_at ce_484 318 rfl) rfl rfl ?_
      refine e_op 526 em_484 (ce_at ce_484 319 rfl) rfl rfl ?_
      refine e_iadd 527 em_484 rfl (ce_at ce_484 320 rfl) ?_
      refine e_ildk 528 em_484 (ce_at ce_484 321 rfl) h_r0 hk_r0 hl_n0 g113 rfl ?_
      refine e_ivi 531 em_484 (ce_at ce_484 322 rfl) (by omega) (iv_v1 (by decide) tq_121 rfl) em_440 (Nat.le_of_ble_eq_true rfl) rfl (tm_store w (d - 1) (by omega) _ _) (fun r115 s115 => ?_)
      refine e_gd fun g116 => ?_
      refine e_gd fun g117 => ?_
      refine e_cmeq 674 534 em_484 rfl rfl (ce_at ce_484 323 rfl) g116 g117 (fun h118 => ?_) (fun h118 => ?_)
      · refine e_iinc 677 em_484 (ce_at ce_484 428 rfl) rfl (by decide) rfl ?_
        refine e_goto em_484 18 (ce_at ce_484 429 rfl) rfl ?_
        refine e_pk [0, 1, 2, 3] rfl rfl ?_
        exact e_out (fun r h => h)
      · refine e_pk [] rfl rfl ?_
        exact e_out (fun r h => h)
    refine e_case 16 (fun h119 => ?_) (fun h119 => ?_)
    · refine e_sw em_484 536 (ce_at ce_484 21 rfl) (sw_in g5 (by omega) (by subst h119; rfl)) rfl ?_
      refine e_mv 537 em_484 (ce_at ce_484 326 rfl) rfl rfl ?_
      refine e_mv 538 em_484 (ce_at ce_484 327 rfl) rfl rfl ?_
      refine e_mv 539 em_484 (ce_at ce_484 328 rfl) rfl rfl ?_
      refine e_op 540 em_484 (ce_at ce_484 329 rfl) rfl rfl ?_
      refine e_iadd 541 em_484 rfl (ce_at ce_484 330 rfl) ?_
      refine e_gd fun g120 => ?_
      refine e_ildk 542 em_484 (ce_at ce_484 331 rfl) h_r0 hk_r0 hl_n0 g120 rfl ?_
      refine e_ivi 545 em_484 (ce_at ce_484 332 rfl) (by omega) (iv_v1 (by decide) tq_0 rfl) em_232 (Nat.le_of_ble_eq_true rfl) rfl (tx_register w (d - 1) (by omega) _ _) (fun r121 s121 => ?_)
      refine e_mv 546 em_484 (ce_at ce_484 333 rfl) rfl rfl ?_
      refine e_mv 547 em_484 (ce_at ce_484 334 rfl) rfl rfl ?_
      refine e_mv 548 em_484 (ce_at ce_484 335 rfl) rfl rfl ?_
      refine e_op 549 em_484 (ce_at ce_484 336 rfl) rfl rfl ?_
      refine e_iadd 550 em_484 rfl (ce_at ce_484 337 rfl) ?_
      refine e_ildk 551 em_484 (ce_at ce_484 338 rfl) h_r0 hk_r0 hl_n0 g120 rfl ?_
      refine e_ivi 554 em_484 (ce_at ce_484 339 rfl) (by omega) (iv_v1 (by decide) tq_121 rfl) em_441 (Nat.le_of_ble_eq_true rfl) rfl (tm_register w (d - 1) (by omega) _ _) (fun r122 s122 => ?_)
      refine e_gd fun g123 => ?_
      refine e_gd fun g124 => ?_
      refine e_cmeq 674 557 em_484 rfl rfl (ce_at ce_484 340 rfl) g123 g124 (fun h125 => ?_) (fun h125 => ?_)
      · refine e_iinc 677 em_484 (ce_at ce_484 428 rfl) rfl (by decide) rfl ?_
        refine e_goto em_484 18 (ce_at ce_484 429 rfl) rfl ?_
        refine e_pk [0, 1, 2, 3] rfl rfl ?_
        exact e_out (fun r h => h)
      · refine e_pk [] rfl rfl ?_
        exact e_out (fun r h => h)
    refine e_case 17 (fun h126 => ?_) (fun h126 => ?_)
    · refine e_sw em_484 559 (ce_at ce_484 21 rfl) (sw_in g5 (by omega) (by subst h126; rfl)) rfl ?_
      refine e_mv 560 em_484 (ce_at ce_484 343 rfl) rfl rfl ?_
      refine e_mv 561 em_484 (ce_at ce_484 344 rfl) rfl rfl ?_
      refine e_mv 562 em_484 (ce_at ce_484 345 rfl) rfl rfl ?_
      refine e_op 563 em_484 (ce_at ce_484 346 rfl) rfl rfl ?_
      refine e_iadd 564 em_484 rfl (ce_at ce_484 347 rfl) ?_
      refine e_gd fun g127 => ?_
      refine e_ildk 565 em_484 (ce_at ce_484 348 rfl) h_r0 hk_r0 hl_n0 g127 rfl ?_
      refine e_ivi 568 em_484 (ce_at ce_484 349 rfl) (by omega) (iv_v1 (by decide) tq_0 rfl) em_234 (Nat.le_of_ble_eq_true rfl) rfl (tx_chips w (d - 1) (by omega) _ _) (fun r128 s128 => ?_)
      refine e_mv 569 em_484 (ce_at ce_484 350 rfl) rfl rfl ?_
      refine e_mv 570 em_484 (ce_at ce_484 351 rfl) rfl rfl ?_
      refine e_mv 571 em_484 (ce_at ce_484 352 rfl) rfl rfl ?_
      refine e_op 572 em_484 (ce_at ce_484 353 rfl) rfl rfl ?_
      refine e_iadd 573 em_484 rfl (ce_at ce_484 354 rfl) ?_
      refine e_ildk 574 em_484 (ce_at ce_484 355 rfl) h_r0 hk_r0 hl_n0 g127 rfl ?_
      refine e_ivi 577 em_484 (ce_at ce_484 356 rfl) (by omega) (iv_v1 (by decide) tq_121 rfl) em_442 (Nat.le_of_ble_eq_true rfl) rfl (tm_chips w (d - 1) (by omega) _ _) (fun r129 s129 => ?_)
      refine e_gd fun g130 => ?_
      refine e_gd fun g131 => ?_
      refine e_cmeq 674 580 em_484 rfl rfl (ce_at ce_484 357 rfl) g130 g131 (fun h132 => ?_) (fun h132 => ?_)
      · refine e_iinc 677 em_484 (ce_at ce_484 428 rfl) rfl (by decide) rfl ?_
        refine e_goto em_484 18 (ce_at ce_484 429 rfl) rfl ?_
        refine e_pk [0, 1, 2, 3] rfl rfl ?_
        exact e_out (fun r h => h)
      · refine e_pk [] rfl rfl ?_
        exact e_out (fun r h => h)
    refine e_case 18 (fun h133 => ?_) (fun h133 => ?_)
    · refine e_sw em_484 582 (ce_at ce_484 21 rfl) (sw_in g5 (by omega) (by subst h133; rfl)) rfl ?_
      refine e_mv 583 em_484 (ce_at ce_484 360 rfl) rfl rfl ?_
      refine e_mv 584 em_484 (ce_at ce_484 361 rfl) rfl rfl ?_
      refine e_mv 585 em_484 (ce_at ce_484 362 rfl) rfl rfl ?_
      refine e_op 586 em_484 (ce_at ce_484 363 rfl) rfl rfl ?_
      refine e_iadd 587 em_484 rfl (ce_at ce_484 364 rfl) ?_
      refine e_gd fun g134 => ?_
      refine e_ildk 588 em_484 (ce_at ce_484 365 rfl) h_r0 hk_r0 hl_n0 g134 rfl ?_
      refine e_mv 589 em_484 (ce_at ce_484 366 rfl) rfl rfl ?_
      refine e_mv 590 em_484 (ce_at ce_484 367 rfl) rfl rfl ?_
      refine e_op 591 em_484 (ce_at ce_484 368 rfl) rfl rfl ?_
      refine e_iadd 592 em_484 rfl (ce_at ce_484 369 rfl) ?_
      refine e_gd fun g135 => ?_
      refine e_ildk 593 em_484 (ce_at ce_484 370 rfl) h_r0 hk_r0 hl_n0 g135 rfl ?_
      refine e_ivi 596 em_484 (ce_at ce_484 371 rfl) (by omega) (iv_v2 (by decide) tq_0 rfl) em_282 (Nat.le_of_ble_eq_true rfl) rfl (tx_drive w (d - 1) (by omega) _ _ _) (fun r136 s136 => ?_)
      refine e_mv 597 em_484 (ce_at ce_484 372 rfl) rfl rfl ?_
      refine e_mv 598 em_484 (ce_at ce_484 373 rfl) rfl rfl ?_
      refine e_mv 599 em_484 (ce_at ce_484 374 rfl) rfl rfl ?_
      refine e_op 600 em_484 (ce_at ce_484 375 rfl) rfl rfl ?_
      refine e_iadd 601 em_484 rfl (ce_at ce_484 376 rfl) ?_
      refine e_ildk 602 em_484 (ce_at ce_484 377 rfl) h_r0 hk_r0 hl_n0 g134 rfl ?_
      refine e_mv 603 em_484 (ce_at ce_484 378 rfl) rfl rfl ?_
      refine e_mv 604 em_484 (ce_at ce_484 379 rfl) rfl rfl ?_
      refine e_op 605 em_484 (ce_at ce_484 380 rfl) rfl rfl ?_
      refine e_iadd 606 em_484 rfl (ce_at ce_484 381 rfl) ?_
      refine e_ildk 607 em_484 (ce_at ce_484 382 rfl) h_r0 hk_r0 hl_n0 g135 rfl ?_
      refine e_ivi 610 em_484 (ce_at ce_484 383 rfl) (by omega) (iv_v2 (by decide) tq_121 rfl) em_478 (Nat.le_of_ble_eq_true rfl) rfl (tm_drive w (d - 1) (by omega) _ _ _) (fun r137 s137 => ?_)
      refine e_gd fun g138 => ?_
      refine e_gd fun g139 => ?_
      refine e_cmeq 674 613 em_484 rfl rfl (ce_at ce_484 384 rfl) g138 g139 (fun h140 => ?_) (fun h140 => ?_)
      · refine e_iinc 677 em_484 (ce_at ce_484 428 rfl) rfl (by decide) rfl ?_
        refine e_goto em_484 18 (ce_at ce_484 429 rfl) rfl ?_
        refine e_pk [0, 1, 2, 3] rfl rfl ?_
        exact e_out (fun r h => h)
      · refine e_pk [] rfl rfl ?_
        exact e_out (fun r h => h)
    refine e_case 19 (fun h141 => ?_) (fun h141 => ?_)
    · refine e_sw em_484 615 (ce_at ce_484 21 rfl) (sw_in g5 (by omega) (by subst h141; rfl)) rfl ?_
      refine e_mv 616 em_484 (ce_at ce_484 387 rfl) rfl rfl ?_
      refine e_mv 617 em_484 (ce_at ce_484 388 rfl) rfl rfl ?_
      refine e_mv 618 em_484 (ce_at ce_484 389 rfl) rfl rfl ?_
      refine e_op 619 em_484 (ce_at ce_484 390 rfl) rfl rfl ?_
      refine e_iadd 620 em_484 rfl (ce_at ce_484 391 rfl) ?_
      refine e_gd fun g142 => ?_
      refine e_ildk 621 em_484 (ce_at ce_484 392 rfl) h_r0 hk_r0 hl_n0 g142 rfl ?_
      refine e_ivi 624 em_484 (ce_at ce_484 393 rfl) (by omega) (iv_v1 (by decide) tq_0 rfl) em_285 (Nat.le_of_ble_eq_true rfl) rfl (tx_pin w (d - 1) (by omega) _ _) (fun r143 s143 => ?_)
      refine e_mv 625 em_484 (ce_at ce_484 394 rfl) rfl rfl ?_
      refine e_mv 626 em_484 (ce_at ce_484 395 rfl) rfl rfl ?_
      refine e_mv 627 em_484 (ce_at ce_484 396 rfl) rfl rfl ?_
      refine e_op 628 em_484 (ce_at ce_484 397 rfl) rfl rfl ?_
      refine e_iadd 629 em_484 rfl (ce_at ce_484 398 rfl) ?_
      refine e_ildk 630 em_484 (ce_at ce_484 399 rfl) h_r0 hk_r0 hl_n0 g142 rfl ?_
      refine e_ivi 633 em_484 (ce_at ce_484 400 rfl) (by omega) (iv_v1 (by decide) tq_121 rfl) em_480 (Nat.le_of_ble_eq_true rfl) rfl (tm_pin w (d - 1) (by omega) _ _) (fun r144 s144 => ?_)
      refine e_gd fun g145 => ?_
      refine e_gd fun g146 => ?_
      refine e_cmeq 674 636 em_484 rfl rfl (ce_at ce_484 401 rfl) g145 g146 (fun h147 => ?_) (fun h147 => ?_)
      · refine e_iinc 677 em_484 (ce_at ce_484 428 rfl) rfl (by decide) rfl ?_
        refine e_goto em_484 18 (ce_at ce_484 429 rfl) rfl ?_
        refine e_pk [0, 1, 2, 3] rfl rfl ?_
        exact e_out (fun r h => h)
      · refine e_pk [] rfl rfl ?_
        exact e_out (fun r h => h)
    refine e_case 20 (fun h148 => ?_) (fun h148 => ?_)
    · refine e_sw em_484 638 (ce_at ce_484 21 rfl) (sw_in g5 (by omega) (by subst h148; rfl)) rfl ?_
      refine e_mv 639 em_484 (ce_at ce_484 404 rfl) rfl rfl ?_
      refine e_ivi 642 em_484 (ce_at ce_484 405 rfl) (by omega) (iv_v0 (by decide) tq_0 rfl) em_288 (Nat.le_of_ble_eq_true rfl) rfl (tx_tick w (d - 1) (by omega) _) (fun r149 s149 => ?_)
      refine e_mv 643 em_484 (ce_at ce_484 406 rfl) rfl rfl ?_
      refine e_ivi 646 em_484 (ce_at ce_484 407 rfl) (by omega) (iv_v0 (by decide) tq_121 rfl) em_481 (Nat.le_of_ble_eq_true rfl) rfl (tm_tick w (d - 1) (by omega) _) (fun r150 s150 => ?_)
      refine e_gd fun g151 => ?_
      refine e_gd fun g152 => ?_
      refine e_cmeq 674 649 em_484 rfl rfl (ce_at ce_484 408 rfl) g151 g152 (fun h153 => ?_) (fun h153 => ?_)
      · refine e_iinc 677 em_484 (ce_at ce_484 428 rfl) rfl (by decide) rfl ?_
        refine e_goto em_484 18 (ce_at ce_484 429 rfl) rfl ?_
        refine e_pk [0, 1, 2, 3] rfl rfl ?_
        exact e_out (fun r h => h)
      · refine e_pk [] rfl rfl ?_
        exact e_out (fun r h => h)
    refine e_case 21 (fun h154 => ?_) (fun h154 => ?_)
    · refine e_sw em_484 651 (ce_at ce_484 21 rfl) (sw_in g5 (by omega) (by subst h154; rfl)) rfl ?_
      refine e_mv 652 em_484 (ce_at ce_484 411 rfl) rfl rfl ?_
      refine e_mv 653 em_484 (ce_at ce_484 412 rfl) rfl rfl ?_
      refine e_mv 654 em_484 (ce_at ce_484 413 rfl) rfl rfl ?_
      refine e_op 655 em_484 (ce_at ce_484 414 rfl) rfl rfl ?_
      refine e_iadd 656 em_484 rfl (ce_at ce_484 415 rfl) ?_
      refine e_gd fun g155 => ?_
      refine e_ildk 657 em_484 (ce_at ce_484 416 rfl) h_r0 hk_r0 hl_n0 g155 rfl ?_
      refine e_ivi 660 em_484 (ce_at ce_484 417 rfl) (by omega) (iv_v1 (by decide) tq_0 rfl) em_290 (Nat.le_of_ble_eq_true rfl) rfl (tx_gates w (d - 1) (by omega) _ _) (fun r156 s156 => ?_)
      refine e_mv 661 em_484 (ce_at ce_484 418 rfl) rfl rfl ?_
      refine e_mv 662 em_484 (ce_at ce_484 419 rfl) rfl rfl ?_
      refine e_mv 663 em_484 (ce_at ce_484 420 rfl) rfl rfl ?_
      refine e_op 664 em_484 (ce_at ce_484 421 rfl) rfl rfl ?_
      refine e_iadd 665 em_484 rfl (ce_at ce_484 422 rfl) ?_
      refine e_ildk 666 em_484 (ce_at ce_484 423 rfl) h_r0 hk_r0 hl_n0 g155 rfl ?_
      refine e_ivi 669 em_484 (ce_at ce_484 424 rfl) (by omega) (iv_v1 (by decide) tq_121 rfl) em_482 (Nat.le_of_ble_eq_true rfl) rfl (tm_gates w (d - 1) (by omega) _ _) (fun r157 s157 => ?_)
      refine e_gd fun g158 => ?_
      refine e_gd fun g159 => ?_
      refine e_cmeq 674 672 em_484 rfl rfl (ce_at ce_484 425 rfl) g158 g159 (fun h160 => ?_) (fun h160 => ?_)
      · refine e_iinc 677 em_484 (ce_at ce_484 428 rfl) rfl (by decide) rfl ?_
        refine e_goto em_484 18 (ce_at ce_484 429 rfl) rfl ?_
        refine e_pk [0, 1, 2, 3] rfl rfl ?_
        exact e_out (fun r h => h)
      · refine e_pk [] rfl rfl ?_
        exact e_out (fun r h => h)
    refine e_sw em_484 674 (ce_at ce_484 21 rfl) (sw_out g5 (by omega)) rfl ?_
    refine e_iinc 677 em_484 (ce_at ce_484 428 rfl) rfl (by decide) rfl ?_
    refine e_goto em_484 18 (ce_at ce_484 429 rfl) rfl ?_
    refine e_pk [0, 1, 2, 3] rfl rfl ?_
    exact e_out (fun r h => h)
theorem flaw_18b (n0 : Nat) (g0 : Nat → Int32) (v3 : Int) (s : iS) : Fm (fun r : (Int × iS) ⊕ ((iS) ⊕ ((iS) ⊕ ((iS) ⊕ ((iS) ⊕ ((iS) ⊕ ((iS) ⊕ ((iS) ⊕ ((iS) ⊕ ((iS) ⊕ ((iS) ⊕ ((iS) ⊕ ((iS) ⊕ ((iS) ⊕ ((iS) ⊕ ((iS) ⊕ ((iS) ⊕ ((iS) ⊕ ((iS) ⊕ ((iS) ⊕ ((iS) ⊕ ((iS) ⊕ ((iS) ⊕ (iS))))))))))))))))))))))) => r.elim (fun l => l.2) (fun e => e.elim (fun e => e) (fun e => e.elim (fun e => e) (fun e => e.elim (fun e => e) (fun e => e.elim (fun e => e) (fun e => e.elim (fun e => e) (fun e => e.elim (fun e => e) (fun e => e.elim (fun e => e) (fun e => e.elim (fun e => e) (fun e => e.elim (fun e => e) (fun e => e.elim (fun e => e) (fun e => e.elim (fun e => e) (fun e => e.elim (fun e => e) (fun e => e.elim (fun e => e) (fun e => e.elim (fun e => e) (fun e => e.elim (fun e => e) (fun e => e.elim (fun e => e) (fun e => e.elim (fun e => e) (fun e => e.elim (fun e => e) (fun e => e.elim (fun e => e) (fun e => e.elim (fun e => e) (fun e => e.elim (fun e => e) (fun e => e.elim (fun e => e) (fun e => e)))))))))))))))))))))))) L_law G_law s (law_18b n0 g0 v3 s) := fm_gd (fm_gd (fm_if (fm_some md_refl) (fm_gd (fm_gd (fm_if (fm_gd (fm_gd (fm_gd (fm_gd (fm_gd (fm_bd (fm_sub (fx_feed _ _ _ _ _ _) (mem_sub_L rfl) (mem_sub_F rfl)) (fun r12 s12 => fm_bd (fm_sub (fm_feed _ _ _ _ _ _) (mem_sub_L rfl) (mem_sub_F rfl)) (fun r13 s13 => fm_gd (fm_gd (fm_if (fm_some md_refl) (fm_some md_refl))))))))))) (fm_if (fm_gd (fm_bd (fm_sub (fx_load _ _) (mem_sub_L rfl) (mem_sub_F rfl)) (fun r19 s19 => fm_bd (fm_sub (fm_load _ _) (mem_sub_L rfl) (mem_sub_F rfl)) (fun r20 s20 => fm_gd (fm_gd (fm_if (fm_some md_refl) (fm_some md_refl))))))) (fm_if (fm_gd (fm_bd (fm_sub (fx_keys _ _) (mem_sub_L rfl) (mem_sub_F rfl)) (fun r26 s26 => fm_bd (fm_sub (fm_keys _ _) (mem_sub_L rfl) (mem_sub_F rfl)) (fun r27 s27 => fm_gd (fm_gd (fm_if (fm_some md_refl) (fm_some md_refl))))))) (fm_if (fm_gd (fm_bd (fm_sub (fx_run _ _) (mem_sub_L rfl) (mem_sub_F rfl)) (fun r33 s33 => fm_bd (fm_sub (fm_run _ _) (mem_sub_L rfl) (mem_sub_F rfl)) (fun r34 s34 => fm_gd (fm_gd (fm_if (fm_some md_refl) (fm_some md_refl))))))) (fm_if (fm_bd (fm_sub (fx_place _) (mem_sub_L rfl) (mem_sub_F rfl)) (fun r39 s39 => fm_bd (fm_sub (fm_place _) (mem_sub_L rfl) (mem_sub_F rfl)) (fun r40 s40 => fm_gd (fm_gd (fm_if (fm_some md_refl) (fm_some md_refl)))))) (fm_if (fm_bd (fm_sub (fx_error _) (mem_sub_L rfl) (mem_sub_F rfl)) (fun r45 s45 => fm_bd (fm_sub (fm_error _) (mem_sub_L rfl) (mem_sub_F rfl)) (fun r46 s46 => fm_gd (fm_gd (fm_if (fm_some md_refl) (fm_some md_refl)))))) (fm_if (fm_bd (fm_sub (fx_fetch _) (mem_sub_L rfl) (mem_sub_F rfl)) (fun r51 s51 => fm_bd (fm_sub (fm_fetch _) (mem_sub_L rfl) (mem_sub_F rfl)) (fun r52 s52 => fm_gd (fm_if (fm_some md_refl) (fm_some md_refl))))) (fm_if (fm_gd (fm_bd (fm_sub (fx_row _ _) (mem_sub_L rfl) (mem_sub_F rfl)) (fun r57 s57 => fm_bd (fm_sub (fm_row _ _) (mem_sub_L rfl) (mem_sub_F rfl)) (fun r58 s58 => fm_gd (fm_if (fm_some md_refl) (fm_some md_refl)))))) (fm_if (fm_gd (fm_bd (fm_sub (fx_word _ _) (mem_sub_L rfl) (mem_sub_F rfl)) (fun r63 s63 => fm_bd (fm_sub (fm_word _ _) (mem_sub_L rfl) (mem_sub_F rfl)) (fun r64 s64 => fm_gd (fm_gd (fm_if (fm_some md_refl) (fm_some md_refl))))))) (fm_if (fm_gd (fm_bd (fm_sub (fx_count _ _) (mem_sub_L rfl) (mem_sub_F rfl)) (fun r70 s70 => fm_bd (fm_sub (fm_count _ _) (mem_sub_L rfl) (mem_sub_F rfl)) (fun r71 s71 => fm_gd (fm_gd (fm_if (fm_some md_refl) (fm_some md_refl))))))) (fm_if (fm_gd (fm_gd (fm_bd (fm_sub (fx_command _ _ _) (mem_sub_L rfl) (mem_sub_F rfl)) (fun r78 s78 => fm_bd (fm_sub (fm_command_369 _ _ _) (mem_sub_L rfl) (mem_sub_F rfl)) (fun r79 s79 => fm_gd (fm_gd (fm_if (fm_some md_refl) (fm_some md_refl)))))))) (fm_if (fm_gd (fm_bd (fm_sub (fx_signs _ _) (mem_sub_L rfl) (mem_sub_F rfl)) (fun r85 s85 => fm_bd (fm_sub (fm_signs _ _) (mem_sub_L rfl) (mem_sub_F rfl)) (fun r86 s86 => fm_gd (fm_gd (fm_if (fm_some md_refl) (fm_some md_refl))))))) (fm_if (fm_gd (fm_bd (fm_sub (fx_code _ _) (mem_sub_L rfl) (mem_sub_F rfl)) (fun r92 s92 => fm_bd (fm_sub (fm_code _ _) (mem_sub_L rfl) (mem_sub_F rfl)) (fun r93 s93 => fm_gd (fm_gd (fm_if (fm_some md_refl) (fm_some md_refl))))))) (fm_if (fm_gd (fm_bd (fm_sub (fx_go _ _) (mem_sub_L rfl) (mem_sub_F rfl)) (fun r99 s99 => fm_bd (fm_sub (fm_go_436 _ _) (mem_sub_L rfl) (mem_sub_F rfl)) (fun r100 s100 => fm_gd (fm_gd (fm_if (fm_some md_refl) (fm_some md_refl))))))) (fm_if (fm_gd (fm_gd (fm_bd (fm_sub (fx_set _ _ _) (mem_sub_L rfl) (mem_sub_F rfl)) (fun r107 s107 => fm_bd (fm_sub (fm_set _ _ _) (mem_sub_L rfl) (mem_sub_F rfl)) (fun r108 s108 => fm_gd (fm_gd (fm_if (fm_some md_refl) (fm_some md_refl)))))))) (fm_if (fm_gd (fm_bd (fm_sub (fx_store _ _) (mem_sub_L rfl) (mem_sub_F rfl)) (fun r114 s114 => fm_bd (fm_sub (fm_store _ _) (mem_sub_L rfl) (mem_sub_F rfl)) (fun r115 s115 => fm_gd (fm_gd (fm_if (fm_some md_refl) (fm_some md_refl))))))) (fm_if (fm_gd (fm_bd (fm_sub (fx_register _ _) (mem_sub_L rfl) (mem_sub_F rfl)) (fun r121 s121 => fm_bd (fm_sub (fm_register _ _) (mem_sub_L rfl) (mem_sub_F rfl)) (fun r122 s122 => fm_gd (fm_gd (fm_if (fm_some md_refl) (fm_some md_refl))))))) (fm_if (fm_gd (fm_bd (fm_sub (fx_chips _ _) (mem_sub_L rfl) (mem_sub_F rfl)) (fun r128 s128 => fm_bd (fm_sub (fm_chips _ _) (mem_sub_L rfl) (mem_sub_F rfl)) (fun r129 s129 => fm_gd (fm_gd (fm_if (fm_some md_refl) (fm_some md_refl))))))) (fm_if (fm_gd (fm_gd (fm_bd (fm_sub (fx_drive _ _ _) (mem_sub_L rfl) (mem_sub_F rfl)) (fun r136 s136 => fm_bd (fm_sub (fm_drive _ _ _) (mem_sub_L rfl) (mem_sub_F rfl)) (fun r137 s137 => fm_gd (fm_gd (fm_if (fm_some md_refl) (fm_some md_refl)))))))) (fm_if (fm_gd (fm_bd (fm_sub (fx_pin _ _) (mem_sub_L rfl) (mem_sub_F rfl)) (fun r143 s143 => fm_bd (fm_sub (fm_pin _ _) (mem_sub_L rfl) (mem_sub_F rfl)) (fun r144 s144 => fm_gd (fm_gd (fm_if (fm_some md_refl) (fm_some md_refl))))))) (fm_if (fm_bd (fm_sub (fx_tick _) (mem_sub_L rfl) (mem_sub_F rfl)) (fun r149 s149 => fm_bd (fm_sub (fm_tick _) (mem_sub_L rfl) (mem_sub_F rfl)) (fun r150 s150 => fm_gd (fm_gd (fm_if (fm_some md_refl) (fm_some md_refl)))))) (fm_if (fm_gd (fm_bd (fm_sub (fx_gates _ _) (mem_sub_L rfl) (mem_sub_F rfl)) (fun r156 s156 => fm_bd (fm_sub (fm_gates _ _) (mem_sub_L rfl) (mem_sub_F rfl)) (fun r157 s157 => fm_gd (fm_gd (fm_if (fm_some md_refl) (fm_some md_refl))))))) (fm_some md_refl)))))))))))))))))))))))))))
noncomputable def law_18 (n0 : Nat) (g0 : Nat → Int32) (v3 : Int) (s : iS) : Option (Int × iS) := (lp (L := Int × iS) (E := (iS) ⊕ ((iS) ⊕ ((iS) ⊕ ((iS) ⊕ ((iS) ⊕ ((iS) ⊕ ((iS) ⊕ ((iS) ⊕ ((iS) ⊕ ((iS) ⊕ ((iS) ⊕ ((iS) ⊕ ((iS) ⊕ ((iS) ⊕ ((iS) ⊕ ((iS) ⊕ ((iS) ⊕ ((iS) ⊕ ((iS) ⊕ ((iS) ⊕ ((iS) ⊕ ((iS) ⊕ (iS))))))))))))))))))))))) (fun l => law_18b n0 g0 (l.1) (l.2)) (v3, s)).bind (fun e => e.elim (fun e => some (0, e)) (fun e => e.elim (fun e => some (0, e)) (fun e => e.elim (fun e => some (0, e)) (fun e => e.elim (fun e => some (0, e)) (fun e => e.elim (fun e => some (0, e)) (fun e => e.elim (fun e => some (0, e)) (fun e => e.elim (fun e => some (0, e)) (fun e => e.elim (fun e => some (0, e)) (fun e => e.elim (fun e => some (0, e)) (fun e => e.elim (fun e => some (0, e)) (fun e => e.elim (fun e => some (0, e)) (fun e => e.elim (fun e => some (0, e)) (fun e => e.elim (fun e => some (0, e)) (fun e => e.elim (fun e => some (0, e)) (fun e => e.elim (fun e => some (0, e)) (fun e => e.elim (fun e => some (0, e)) (fun e => e.elim (fun e => some (0, e)) (fun e => e.elim (fun e => some (0, e)) (fun e => e.elim (fun e => some (0, e)) (fun e => e.elim (fun e => some (0, e)) (fun e => e.elim (fun e => some (0, e)) (fun e => e.elim (fun e => some (0, e)) (fun e => some (1, e))))))))))))))))))))))))
theorem tlaw_18 (w : ev_W) (d : Nat) (hd : 251 ≤ d) (n0 : Nat) (g0 : Nat → Int32) (r0 : Nat) (h_r0 : r0 < tb_nK) (hk_r0 : (tb_KT w.2.1 w.2.2)[r0]? = some (.int, n0, g0)) (hl_n0 : n0 < 2147483648) (v3 : Int) (s : iS) : Ew hT w d 484 18 [(0, .ref r0), (1, .ref (tb_nK + 0)), (2, .ref (tb_nK + 121)), (3, iv v3)] [] s (Ci hT) (law_18 n0 g0 v3 s) := by
  unfold law_18
  refine e_lp (LO := fun l => [(0, .ref r0), (1, .ref (tb_nK + 0)), (2, .ref (tb_nK + 121)), (3, iv (l.1))]) (LS := fun l => l.2) (CE := fun e r => e.elim (fun e => ev w d 484 197 [] [] (hT (e)) r) (fun e => e.elim (fun e => ev w d 484 220 [] [] (hT (e)) r) (fun e => e.elim (fun e => ev w d 484 243 [] [] (hT (e)) r) (fun e => e.elim (fun e => ev w d 484 266 [] [] (hT (e)) r) (fun e => e.elim (fun e => ev w d 484 279 [] [] (hT (e)) r) (fun e => e.elim (fun e => ev w d 484 292 [] [] (hT (e)) r) (fun e => e.elim (fun e => ev w d 484 306 [] [] (hT (e)) r) (fun e => e.elim (fun e => ev w d 484 330 [] [] (hT (e)) r) (fun e => e.elim (fun e => ev w d 484 353 [] [] (hT (e)) r) (fun e => e.elim (fun e => ev w d 484 376 [] [] (hT (e)) r) (fun e => e.elim (fun e => ev w d 484 409 [] [] (hT (e)) r) (fun e => e.elim (fun e => ev w d 484 432 [] [] (hT (e)) r) (fun e => e.elim (fun e => ev w d 484 455 [] [] (hT (e)) r) (fun e => e.elim (fun e => ev w d 484 478 [] [] (hT (e)) r) (fun e => e.elim (fun e => ev w d 484 511 [] [] (hT (e)) r) (fun e => e.elim (fun e => ev w d 484 534 [] [] (hT (e)) r) (fun e => e.elim (fun e => ev w d 484 557 [] [] (hT (e)) r) (fun e => e.elim (fun e => ev w d 484 580 [] [] (hT (e)) r) (fun e => e.elim (fun e => ev w d 484 613 [] [] (hT (e)) r) (fun e => e.elim (fun e => ev w d 484 636 [] [] (hT (e)) r) (fun e => e.elim (fun e => ev w d 484 649 [] [] (hT (e)) r) (fun e => e.elim (fun e => ev w d 484 672 [] [] (hT (e)) r) (fun e => ev w d 484 680 [] [] (hT (e)) r))))))))))))))))))))))) (fun l => tlaw_18b w d hd n0 g0 r0 h_r0 hk_r0 hl_n0 _ _) ?_ (v3, s)
  rintro (e | e | e | e | e | e | e | e | e | e | e | e | e | e | e | e | e | e | e | e | e | e | e)
  · show Ew hT w d 484 197 [] [] e (Ci hT) _
    refine e_op 198 em_484 (ce_at ce_484 77 rfl) rfl rfl ?_
    exact e_retz em_484 (ce_at ce_484 78 rfl) (by decide)
  · show Ew hT w d 484 220 [] [] e (Ci hT) _
    refine e_op 221 em_484 (ce_at ce_484 94 rfl) rfl rfl ?_
    exact e_retz em_484 (ce_at ce_484 95 rfl) (by decide)
  · show Ew hT w d 484 243 [] [] e (Ci hT) _
    refine e_op 244 em_484 (ce_at ce_484 111 rfl) rfl rfl ?_
    exact e_retz em_484 (ce_at ce_484 112 rfl) (by decide)
  · show Ew hT w d 484 266 [] [] e (Ci hT) _
    refine e_op 267 em_484 (ce_at ce_484 128 rfl) rfl rfl ?_
    exact e_retz em_484 (ce_at ce_484 129 rfl) (by decide)
  · show Ew hT w d 484 279 [] [] e (Ci hT) _
    refine e_op 280 em_484 (ce_at ce_484 135 rfl) rfl rfl ?_
    exact e_retz em_484 (ce_at ce_484 136 rfl) (by decide)
  · show Ew hT w d 484 292 [] [] e (Ci hT) _
    refine e_op 293 em_484 (ce_at ce_484 142 rfl) rfl rfl ?_
    exact e_retz em_484 (ce_at ce_484 143 rfl) (by decide)
  · show Ew hT w d 484 306 [] [] e (Ci hT) _
    refine e_op 307 em_484 (ce_at ce_484 150 rfl) rfl rfl ?_
    exact e_retz em_484 (ce_at ce_484 151 rfl) (by decide)
  · show Ew hT w d 484 330 [] [] e (Ci hT) _
    refine e_op 331 em_484 (ce_at ce_484 168 rfl) rfl rfl ?_
    exact e_retz em_484 (ce_at ce_484 169 rfl) (by decide)
  · show Ew hT w d 484 353 [] [] e (Ci hT) _
    refine e_op 354 em_484 (ce_at ce_484 185 rfl) rfl rfl ?_
    exact e_retz em_484 (ce_at ce_484 186 rfl) (by decide)
  · show Ew hT w d 484 376 [] [] e (Ci hT) _
    refine e_op 377 em_484 (ce_at ce_484 202 rfl) rfl rfl ?_
    exact e_retz em_484 (ce_at ce_484 203 rfl) (by decide)
  · show Ew hT w d 484 409 [] [] e (Ci hT) _
    refine e_op 410 em_484 (ce_at ce_484 229 rfl) rfl rfl ?_
    exact e_retz em_484 (ce_at ce_484 230 rfl) (by decide)
  · show Ew hT w d 484 432 [] [] e (Ci hT) _
    refine e_op 433 em_484 (ce_at ce_484 246 rfl) rfl rfl ?_
    exact e_retz em_484 (ce_at ce_484 247 rfl) (by decide)
  · show Ew hT w d 484 455 [] [] e (Ci hT) _
    refine e_op 456 em_484 (ce_at ce_484 263 rfl) rfl rfl ?_
    exact e_retz em_484 (ce_at ce_484 264 rfl) (by decide)
  · show Ew hT w d 484 478 [] [] e (Ci hT) _
    refine e_op 479 em_484 (ce_at ce_484 280 rfl) rfl rfl ?_
    exact e_retz em_484 (ce_at ce_484 281 rfl) (by decide)
  · show Ew hT w d 484 511 [] [] e (Ci hT) _
    refine e_op 512 em_484 (ce_at ce_484 307 rfl) rfl rfl ?_
    exact e_retz em_484 (ce_at ce_484 308 rfl) (by decide)
  · show Ew hT w d 484 534 [] [] e (Ci hT) _
    refine e_op 535 em_484 (ce_at ce_484 324 rfl) rfl rfl ?_
    exact e_retz em_484 (ce_at ce_484 325 rfl) (by decide)
  · show Ew hT w d 484 557 [] [] e (Ci hT) _
    refine e_op 558 em_484 (ce_at ce_484 341 rfl) rfl rfl ?_
    exact e_retz em_484 (ce_at ce_484 342 rfl) (by decide)
  · show Ew hT w d 484 580 [] [] e (Ci hT) _
    refine e_op 581 em_484 (ce_at ce_484 358 rfl) rfl rfl ?_
    exact e_retz em_484 (ce_at ce_484 359 rfl) (by decide)
  · show Ew hT w d 484 613 [] [] e (Ci hT) _
    refine e_op 614 em_484 (ce_at ce_484 385 rfl) rfl rfl ?_
    exact e_retz em_484 (ce_at ce_484 386 rfl) (by decide)
  · show Ew hT w d 484 636 [] [] e (Ci hT) _
    refine e_op 637 em_484 (ce_at ce_484 402 rfl) rfl rfl ?_
    exact e_retz em_484 (ce_at ce_484 403 rfl) (by decide)
  · show Ew hT w d 484 649 [] [] e (Ci hT) _
    refine e_op 650 em_484 (ce_at ce_484 409 rfl) rfl rfl ?_
    exact e_retz em_484 (ce_at ce_484 410 rfl) (by decide)
  · show Ew hT w d 484 672 [] [] e (Ci hT) _
    refine e_op 673 em_484 (ce_at ce_484 426 rfl) rfl rfl ?_
    exact e_retz em_484 (ce_at ce_484 427 rfl) (by decide)
  · show Ew hT w d 484 680 [] [] e (Ci hT) _
    refine e_op 681 em_484 (ce_at ce_484 430 rfl) rfl rfl ?_
    exact e_retz em_484 (ce_at ce_484 431 rfl) (by decide)
theorem flaw_18 (n0 : Nat) (g0 : Nat → Int32) (v3 : Int) (s : iS) : Fm Prod.snd L_law G_law s (law_18 n0 g0 v3 s) := fm_lp (LS := fun l => l.2) (LE := fun e => e.elim (fun e => e) (fun e => e.elim (fun e => e) (fun e => e.elim (fun e => e) (fun e => e.elim (fun e => e) (fun e => e.elim (fun e => e) (fun e => e.elim (fun e => e) (fun e => e.elim (fun e => e) (fun e => e.elim (fun e => e) (fun e => e.elim (fun e => e) (fun e => e.elim (fun e => e) (fun e => e.elim (fun e => e) (fun e => e.elim (fun e => e) (fun e => e.elim (fun e => e) (fun e => e.elim (fun e => e) (fun e => e.elim (fun e => e) (fun e => e.elim (fun e => e) (fun e => e.elim (fun e => e) (fun e => e.elim (fun e => e) (fun e => e.elim (fun e => e) (fun e => e.elim (fun e => e) (fun e => e.elim (fun e => e) (fun e => e.elim (fun e => e) (fun e => e))))))))))))))))))))))) (fun l => flaw_18b n0 g0 _ _) (fm_elim (fun e => fm_some md_refl) (fm_elim (fun e => fm_some md_refl) (fm_elim (fun e => fm_some md_refl) (fm_elim (fun e => fm_some md_refl) (fm_elim (fun e => fm_some md_refl) (fm_elim (fun e => fm_some md_refl) (fm_elim (fun e => fm_some md_refl) (fm_elim (fun e => fm_some md_refl) (fm_elim (fun e => fm_some md_refl) (fm_elim (fun e => fm_some md_refl) (fm_elim (fun e => fm_some md_refl) (fm_elim (fun e => fm_some md_refl) (fm_elim (fun e => fm_some md_refl) (fm_elim (fun e => fm_some md_refl) (fm_elim (fun e => fm_some md_refl) (fm_elim (fun e => fm_some md_refl) (fm_elim (fun e => fm_some md_refl) (fm_elim (fun e => fm_some md_refl) (fm_elim (fun e => fm_some md_refl) (fm_elim (fun e => fm_some md_refl) (fm_elim (fun e => fm_some md_refl) (fm_elim (fun e => fm_some md_refl) (fun e => fm_some md_refl))))))))))))))))))))))) (v3, s)
noncomputable def law_16 (n0 : Nat) (g0 : Nat → Int32) (s : iS) : Option (Int × iS) := law_18 n0 g0 0 s
theorem tlaw_16 (w : ev_W) (d : Nat) (hd : 251 ≤ d) (n0 : Nat) (g0 : Nat → Int32) (r0 : Nat) (h_r0 : r0 < tb_nK) (hk_r0 : (tb_KT w.2.1 w.2.2)[r0]? = some (.int, n0, g0)) (hl_n0 : n0 < 2147483648) (s : iS) : Ew hT w d 484 16 [(0, .ref r0), (1, .ref (tb_nK + 0)), (2, .ref (tb_nK + 121))] [] s (Ci hT) (law_16 n0 g0 s) := by
  unfold law_16
  refine e_op 17 em_484 (ce_at ce_484 8 rfl) rfl rfl ?_
  refine e_mv 18 em_484 (ce_at ce_484 9 rfl) rfl rfl ?_
  refine e_pk [0, 1, 2, 3] rfl rfl ?_
  exact tlaw_18 w d hd n0 g0 r0 h_r0 hk_r0 hl_n0 _ _
theorem flaw_16 (n0 : Nat) (g0 : Nat → Int32) (s : iS) : Fm Prod.snd L_law G_law s (law_16 n0 g0 s) := flaw_18 n0 g0 _ _
