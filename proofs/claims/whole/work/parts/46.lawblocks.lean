/-! the law's blocks (printed) -/
set_option maxRecDepth 20000 in
set_option maxHeartbeats 4000000 in
theorem bk_L_law_18 {N d : Nat} {Q : am_Q} {M : am_M} {v3 : Int} (h : am_r ((N : Int) - 6) ∧ (((N : Int) - 6 < v3 → Q (some (0, 1), sh_T, M)) ∧ (v3 ≤ (N : Int) - 6 → (0 ≤ v3 ∧ v3 < (N : Int)) ∧ ((am_band (M 2000003 v3) 63 < 0 ∨ 33 < am_band (M 2000003 v3) 63 → am_h N 13 5 co_L_law d Q 1233 [(2, 2000003), (2, 0), (2, 152), (0, v3)] [] sh_T M) ∧ (am_band (M 2000003 v3) 63 = 0 → am_r (v3 + 1) ∧ (0 ≤ v3 + 1 ∧ v3 + 1 < (N : Int)) ∧ am_r (v3 + 2) ∧ (0 ≤ v3 + 2 ∧ v3 + 2 < (N : Int)) ∧ am_r (v3 + 3) ∧ (0 ≤ v3 + 3 ∧ v3 + 3 < (N : Int)) ∧ am_r (v3 + 4) ∧ (0 ≤ v3 + 4 ∧ v3 + 4 < (N : Int)) ∧ am_r (v3 + 5) ∧ (0 ≤ v3 + 5 ∧ v3 + 5 < (N : Int)) ∧ am_cal pg d 126 [(2, 0), (0, M 2000003 (v3 + 1)), (0, M 2000003 (v3 + 2)), (0, M 2000003 (v3 + 3)), (0, M 2000003 (v3 + 4)), (0, M 2000003 (v3 + 5))] sh_T M (am_c0 sh_T fun x14 M14 => am_r (v3 + 1) ∧ am_r (v3 + 2) ∧ am_r (v3 + 3) ∧ am_r (v3 + 4) ∧ am_r (v3 + 5) ∧ am_cal pg d 170 [(2, 152), (0, M14 2000003 (v3 + 1)), (0, M14 2000003 (v3 + 2)), (0, M14 2000003 (v3 + 3)), (0, M14 2000003 (v3 + 4)), (0, M14 2000003 (v3 + 5))] sh_T M14 (am_c0 sh_T fun x20 M20 => ((x14 = x20 → am_h N 13 5 co_L_law d Q 1233 [(2, 2000003), (2, 0), (2, 152), (0, v3)] [] sh_T M20) ∧ (¬ x14 = x20 → Q (some (0, 0), sh_T, M20)))))) ∧ (am_band (M 2000003 v3) 63 = 1 → am_r (v3 + 1) ∧ (0 ≤ v3 + 1 ∧ v3 + 1 < (N : Int)) ∧ am_cal pg d 127 [(2, 0), (0, M 2000003 (v3 + 1))] sh_T M (am_c0 sh_T fun x24 M24 => am_r (v3 + 1) ∧ am_cal pg d 171 [(2, 152), (0, M24 2000003 (v3 + 1))] sh_T M24 (am_c0 sh_T fun x26 M26 => ((x24 = x26 → am_h N 13 5 co_L_law d Q 1233 [(2, 2000003), (2, 0), (2, 152), (0, v3)] [] sh_T M26) ∧ (¬ x24 = x26 → Q (some (0, 0), sh_T, M26)))))) ∧ (am_band (M 2000003 v3) 63 = 2 → am_cal pg d 128 [(2, 0)] sh_T M (am_c0 sh_T fun x28 M28 => am_cal pg d 194 [(2, 152)] sh_T M28 (am_c0 sh_T fun x29 M29 => ((x28 = x29 → am_h N 13 5 co_L_law d Q 1233 [(2, 2000003), (2, 0), (2, 152), (0, v3)] [] sh_T M29) ∧ (¬ x28 = x29 → Q (some (0, 0), sh_T, M29)))))) ∧ (am_band (M 2000003 v3) 63 = 3 → am_r (v3 + 1) ∧ (0 ≤ v3 + 1 ∧ v3 + 1 < (N : Int)) ∧ am_cal pg d 129 [(2, 0), (0, M 2000003 (v3 + 1))] sh_T M (am_c0 sh_T fun x33 M33 => am_r (v3 + 1) ∧ am_cal pg d 206 [(2, 152), (0, M33 2000003 (v3 + 1))] sh_T M33 (am_c0 sh_T fun x35 M35 => ((x33 = x35 → am_h N 13 5 co_L_law d Q 1233 [(2, 2000003), (2, 0), (2, 152), (0, v3)] [] sh_T M35) ∧ (¬ x33 = x35 → Q (some (0, 0), sh_T, M35)))))) ∧ (am_band (M 2000003 v3) 63 = 4 → am_r (v3 + 1) ∧ (0 ≤ v3 + 1 ∧ v3 + 1 < (N : Int)) ∧ am_cal pg d 130 [(2, 0), (0, M 2000003 (v3 + 1))] sh_T M (am_c0 sh_T fun x39 M39 => am_r (v3 + 1) ∧ am_cal pg d 232 [(2, 152), (0, M39 2000003 (v3 + 1))] sh_T M39 (am_c0 sh_T fun x41 M41 => ((x39 = x41 → am_h N 13 5 co_L_law d Q 1233 [(2, 2000003), (2, 0), (2, 152), (0, v3)] [] sh_T M41) ∧ (¬ x39 = x41 → Q (some (0, 0), sh_T, M41)))))) ∧ (am_band (M 2000003 v3) 63 = 5 → am_r (v3 + 1) ∧ (0 ≤ v3 + 1 ∧ v3 + 1 < (N : Int)) ∧ am_r (v3 + 2) ∧ (0 ≤ v3 + 2 ∧ v3 + 2 < (N : Int)) ∧ am_r (v3 + 3) ∧ (0 ≤ v3 + 3 ∧ v3 + 3 < (N : Int)) ∧ am_cal pg d 131 [(2, 0), (0, M 2000003 (v3 + 1)), (0, M 2000003 (v3 + 2)), (0, M 2000003 (v3 + 3))] sh_T M (am_c0 sh_T fun x49 M49 => am_r (v3 + 1) ∧ am_r (v3 + 2) ∧ am_r (v3 + 3) ∧ am_cal pg d 233 [(2, 152), (0, M49 2000003 (v3 + 1)), (0, M49 2000003 (v3 + 2)), (0, M49 2000003 (v3 + 3))] sh_T M49 (am_c0 sh_T fun x53 M53 => ((x49 = x53 → am_h N 13 5 co_L_law d Q 1233 [(2, 2000003), (2, 0), (2, 152), (0, v3)] [] sh_T M53) ∧ (¬ x49 = x53 → Q (some (0, 0), sh_T, M53)))))) ∧ (am_band (M 2000003 v3) 63 = 6 → am_r (v3 + 1) ∧ (0 ≤ v3 + 1 ∧ v3 + 1 < (N : Int)) ∧ am_r (v3 + 2) ∧ (0 ≤ v3 + 2 ∧ v3 + 2 < (N : Int)) ∧ am_cal pg d 132 [(2, 0), (0, M 2000003 (v3 + 1)), (0, M 2000003 (v3 + 2))] sh_T M (am_c0 sh_T fun x59 M59 => am_r (v3 + 1) ∧ am_r (v3 + 2) ∧ am_cal pg d 234 [(2, 152), (0, M59 2000003 (v3 + 1)), (0, M59 2000003 (v3 + 2))] sh_T M59 (am_c0 sh_T fun x62 M62 => ((x59 = x62 → am_h N 13 5 co_L_law d Q 1233 [(2, 2000003), (2, 0), (2, 152), (0, v3)] [] sh_T M62) ∧ (¬ x59 = x62 → Q (some (0, 0), sh_T, M62)))))) ∧ (am_band (M 2000003 v3) 63 = 7 → am_r (v3 + 1) ∧ (0 ≤ v3 + 1 ∧ v3 + 1 < (N : Int)) ∧ am_r (v3 + 2) ∧ (0 ≤ v3 + 2 ∧ v3 + 2 < (N : Int)) ∧ am_r (v3 + 3) ∧ (0 ≤ v3 + 3 ∧ v3 + 3 < (N : Int)) ∧ am_cal pg d 133 [(2, 0), (0, M 2000003 (v3 + 1)), (0, M 2000003 (v3 + 2)), (0, M 2000003 (v3 + 3))] sh_T M (am_c0 sh_T fun x70 M70 => am_r (v3 + 1) ∧ am_r (v3 + 2) ∧ am_r (v3 + 3) ∧ am_cal pg d 235 [(2, 152), (0, M70 2000003 (v3 + 1)), (0, M70 2000003 (v3 + 2)), (0, M70 2000003 (v3 + 3))] sh_T M70 (am_c0 sh_T fun x74 M74 => ((x70 = x74 → am_h N 13 5 co_L_law d Q 1233 [(2, 2000003), (2, 0), (2, 152), (0, v3)] [] sh_T M74) ∧ (¬ x70 = x74 → Q (some (0, 0), sh_T, M74)))))) ∧ (am_band (M 2000003 v3) 63 = 8 → am_r (v3 + 1) ∧ (0 ≤ v3 + 1 ∧ v3 + 1 < (N : Int)) ∧ am_cal pg d 134 [(2, 0), (0, M 2000003 (v3 + 1))] sh_T M (am_c0 sh_T fun x78 M78 => am_r (v3 + 1) ∧ am_cal pg d 236 [(2, 152), (0, M78 2000003 (v3 + 1))] sh_T M78 (am_c0 sh_T fun x80 M80 => ((x78 = x80 → am_h N 13 5 co_L_law d Q 1233 [(2, 2000003), (2, 0), (2, 152), (0, v3)] [] sh_T M80) ∧ (¬ x78 = x80 → Q (some (0, 0), sh_T, M80)))))) ∧ (am_band (M 2000003 v3) 63 = 9 → am_r (v3 + 1) ∧ (0 ≤ v3 + 1 ∧ v3 + 1 < (N : Int)) ∧ am_r (v3 + 2) ∧ (0 ≤ v3 + 2 ∧ v3 + 2 < (N : Int)) ∧ am_cal pg d 135 [(2, 0), (0, M 2000003 (v3 + 1)), (0, M 2000003 (v3 + 2))] sh_T M (am_c0 sh_T fun x86 M86 => am_r (v3 + 1) ∧ am_r (v3 + 2) ∧ am_cal pg d 238 [(2, 152), (0, M86 2000003 (v3 + 1)), (0, M86 2000003 (v3 + 2))] sh_T M86 (am_c0 sh_T fun x89 M89 => ((x86 = x89 → am_h N 13 5 co_L_law d Q 1233 [(2, 2000003), (2, 0), (2, 152), (0, v3)] [] sh_T M89) ∧ (¬ x86 = x89 → Q (some (0, 0), sh_T, M89)))))) ∧ (am_band (M 2000003 v3) 63 = 10 → am_r (v3 + 1) ∧ (0 ≤ v3 + 1 ∧ v3 + 1 < (N : Int)) ∧ am_r (v3 + 2) ∧ (0 ≤ v3 + 2 ∧ v3 + 2 < (N : Int)) ∧ am_r (v3 + 3) ∧ (0 ≤ v3 + 3 ∧ v3 + 3 < (N : Int)) ∧ am_cal pg d 136 [(2, 0), (0, M 2000003 (v3 + 1)), (0, M 2000003 (v3 + 2)), (0, M 2000003 (v3 + 3))] sh_T M (am_c0 sh_T fun x97 M97 => am_r (v3 + 1) ∧ am_r (v3 + 2) ∧ am_r (v3 + 3) ∧ am_cal pg d 239 [(2, 152), (0, M97 2000003 (v3 + 1)), (0, M97 2000003 (v3 + 2)), (0, M97 2000003 (v3 + 3))] sh_T M97 (am_c0 sh_T fun x101 M101 => ((x97 = x101 → am_h N 13 5 co_L_law d Q 1233 [(2, 2000003), (2, 0), (2, 152), (0, v3)] [] sh_T M101) ∧ (¬ x97 = x101 → Q (some (0, 0), sh_T, M101)))))) ∧ (am_band (M 2000003 v3) 63 = 11 → am_r (v3 + 1) ∧ (0 ≤ v3 + 1 ∧ v3 + 1 < (N : Int)) ∧ am_cal pg d 137 [(2, 0), (0, M 2000003 (v3 + 1))] sh_T M (am_c0 sh_T fun x105 M105 => am_r (v3 + 1) ∧ am_cal pg d 240 [(2, 152), (0, M105 2000003 (v3 + 1))] sh_T M105 (am_c0 sh_T fun x107 M107 => ((x105 = x107 → am_h N 13 5 co_L_law d Q 1233 [(2, 2000003), (2, 0), (2, 152), (0, v3)] [] sh_T M107) ∧ (¬ x105 = x107 → Q (some (0, 0), sh_T, M107)))))) ∧ (am_band (M 2000003 v3) 63 = 12 → am_r (v3 + 1) ∧ (0 ≤ v3 + 1 ∧ v3 + 1 < (N : Int)) ∧ am_r (v3 + 2) ∧ (0 ≤ v3 + 2 ∧ v3 + 2 < (N : Int)) ∧ am_cal pg d 138 [(2, 0), (0, M 2000003 (v3 + 1)), (0, M 2000003 (v3 + 2))] sh_T M (am_c0 sh_T fun x113 M113 => am_r (v3 + 1) ∧ am_r (v3 + 2) ∧ am_cal pg d 243 [(2, 152), (0, M113 2000003 (v3 + 1)), (0, M113 2000003 (v3 + 2))] sh_T M113 (am_c0 sh_T fun x116 M116 => ((x113 = x116 → am_h N 13 5 co_L_law d Q 1233 [(2, 2000003), (2, 0), (2, 152), (0, v3)] [] sh_T M116) ∧ (¬ x113 = x116 → Q (some (0, 0), sh_T, M116)))))) ∧ (am_band (M 2000003 v3) 63 = 13 → am_r (v3 + 1) ∧ (0 ≤ v3 + 1 ∧ v3 + 1 < (N : Int)) ∧ am_r (v3 + 2) ∧ (0 ≤ v3 + 2 ∧ v3 + 2 < (N : Int)) ∧ am_cal pg d 139 [(2, 0), (0, M 2000003 (v3 + 1)), (0, M 2000003 (v3 + 2))] sh_T M (am_c0 sh_T fun x122 M122 => am_r (v3 + 1) ∧ am_r (v3 + 2) ∧ am_cal pg d 247 [(2, 152), (0, M122 2000003 (v3 + 1)), (0, M122 2000003 (v3 + 2))] sh_T M122 (am_c0 sh_T fun x125 M125 => ((x122 = x125 → am_h N 13 5 co_L_law d Q 1233 [(2, 2000003), (2, 0), (2, 152), (0, v3)] [] sh_T M125) ∧ (¬ x122 = x125 → Q (some (0, 0), sh_T, M125)))))) ∧ (am_band (M 2000003 v3) 63 = 14 → am_r (v3 + 1) ∧ (0 ≤ v3 + 1 ∧ v3 + 1 < (N : Int)) ∧ am_r (v3 + 2) ∧ (0 ≤ v3 + 2 ∧ v3 + 2 < (N : Int)) ∧ am_cal pg d 140 [(2, 0), (0, M 2000003 (v3 + 1)), (0, M 2000003 (v3 + 2))] sh_T M (am_c0 sh_T fun x131 M131 => am_r (v3 + 1) ∧ am_r (v3 + 2) ∧ am_cal pg d 248 [(2, 152), (0, M131 2000003 (v3 + 1)), (0, M131 2000003 (v3 + 2))] sh_T M131 (am_c0 sh_T fun x134 M134 => ((x131 = x134 → am_h N 13 5 co_L_law d Q 1233 [(2, 2000003), (2, 0), (2, 152), (0, v3)] [] sh_T M134) ∧ (¬ x131 = x134 → Q (some (0, 0), sh_T, M134)))))) ∧ (am_band (M 2000003 v3) 63 = 15 → am_r (v3 + 1) ∧ (0 ≤ v3 + 1 ∧ v3 + 1 < (N : Int)) ∧ am_r (v3 + 2) ∧ (0 ≤ v3 + 2 ∧ v3 + 2 < (N : Int)) ∧ am_cal pg d 141 [(2, 0), (0, M 2000003 (v3 + 1)), (0, M 2000003 (v3 + 2))] sh_T M (am_c0 sh_T fun x140 M140 => am_r (v3 + 1) ∧ am_r (v3 + 2) ∧ am_cal pg d 249 [(2, 152), (0, M140 2000003 (v3 + 1)), (0, M140 2000003 (v3 + 2))] sh_T M140 (am_c0 sh_T fun x143 M143 => ((x140 = x143 → am_h N 13 5 co_L_law d Q 1233 [(2, 2000003), (2, 0), (2, 152), (0, v3)] [] sh_T M143) ∧ (¬ x140 = x143 → Q (some (0, 0), sh_T, M143)))))) ∧ (am_band (M 2000003 v3) 63 = 16 → am_r (v3 + 1) ∧ (0 ≤ v3 + 1 ∧ v3 + 1 < (N : Int)) ∧ am_r (v3 + 2) ∧ (0 ≤ v3 + 2 ∧ v3 + 2 < (N : Int)) ∧ am_r (v3 + 3) ∧ (0 ≤ v3 + 3 ∧ v3 + 3 < (N : Int)) ∧ am_cal pg d 142 [(2, 0), (0, M 2000003 (v3 + 1)), (0, M 2000003 (v3 + 2)), (0, M 2000003 (v3 + 3))] sh_T M (am_c0 sh_T fun x151 M151 => am_r (v3 + 1) ∧ am_r (v3 + 2) ∧ am_r (v3 + 3) ∧ am_cal pg d 252 [(2, 152), (0, M151 2000003 (v3 + 1)), (0, M151 2000003 (v3 + 2)), (0, M151 2000003 (v3 + 3))] sh_T M151 (am_c0 sh_T fun x155 M155 => ((x151 = x155 → am_h N 13 5 co_L_law d Q 1233 [(2, 2000003), (2, 0), (2, 152), (0, v3)] [] sh_T M155) ∧ (¬ x151 = x155 → Q (some (0, 0), sh_T, M155)))))) ∧ (am_band (M 2000003 v3) 63 = 17 → am_r (v3 + 1) ∧ (0 ≤ v3 + 1 ∧ v3 + 1 < (N : Int)) ∧ am_r (v3 + 2) ∧ (0 ≤ v3 + 2 ∧ v3 + 2 < (N : Int)) ∧ am_r (v3 + 3) ∧ (0 ≤ v3 + 3 ∧ v3 + 3 < (N : Int)) ∧ am_cal pg d 143 [(2, 0), (0, M 2000003 (v3 + 1)), (0, M 2000003 (v3 + 2)), (0, M 2000003 (v3 + 3))] sh_T M (am_c0 sh_T fun x163 M163 => am_r (v3 + 1) ∧ am_r (v3 + 2) ∧ am_r (v3 + 3) ∧ am_cal pg d 254 [(2, 152), (0, M163 2000003 (v3 + 1)), (0, M163 2000003 (v3 + 2)), (0, M163 2000003 (v3 + 3))] sh_T M163 (am_c0 sh_T fun x167 M167 => ((x163 = x167 → am_h N 13 5 co_L_law d Q 1233 [(2, 2000003), (2, 0), (2, 152), (0, v3)] [] sh_T M167) ∧ (¬ x163 = x167 → Q (some (0, 0), sh_T, M167)))))) ∧ (am_band (M 2000003 v3) 63 = 18 → am_r (v3 + 1) ∧ (0 ≤ v3 + 1 ∧ v3 + 1 < (N : Int)) ∧ am_r (v3 + 2) ∧ (0 ≤ v3 + 2 ∧ v3 + 2 < (N : Int)) ∧ am_cal pg d 144 [(2, 0), (0, M 2000003 (v3 + 1)), (0, M 2000003 (v3 + 2))] sh_T M (am_c0 sh_T fun x173 M173 => am_r (v3 + 1) ∧ am_r (v3 + 2) ∧ am_cal pg d 261 [(2, 152), (0, M173 2000003 (v3 + 1)), (0, M173 2000003 (v3 + 2))] sh_T M173 (am_c0 sh_T fun x176 M176 => ((x173 = x176 → am_h N 13 5 co_L_law d Q 1233 [(2, 2000003), (2, 0), (2, 152), (0, v3)] [] sh_T M176) ∧ (¬ x173 = x176 → Q (some (0, 0), sh_T, M176)))))) ∧ (am_band (M 2000003 v3) 63 = 19 → am_r (v3 + 1) ∧ (0 ≤ v3 + 1 ∧ v3 + 1 < (N : Int)) ∧ am_r (v3 + 2) ∧ (0 ≤ v3 + 2 ∧ v3 + 2 < (N : Int)) ∧ am_cal pg d 145 [(2, 0), (0, M 2000003 (v3 + 1)), (0, M 2000003 (v3 + 2))] sh_T M (am_c0 sh_T fun x182 M182 => am_r (v3 + 1) ∧ am_r (v3 + 2) ∧ am_cal pg d 263 [(2, 152), (0, M182 2000003 (v3 + 1)), (0, M182 2000003 (v3 + 2))] sh_T M182 (am_c0 sh_T fun x185 M185 => ((x182 = x185 → am_h N 13 5 co_L_law d Q 1233 [(2, 2000003), (2, 0), (2, 152), (0, v3)] [] sh_T M185) ∧ (¬ x182 = x185 → Q (some (0, 0), sh_T, M185)))))) ∧ (am_band (M 2000003 v3) 63 = 20 → am_r (v3 + 1) ∧ (0 ≤ v3 + 1 ∧ v3 + 1 < (N : Int)) ∧ am_r (v3 + 2) ∧ (0 ≤ v3 + 2 ∧ v3 + 2 < (N : Int)) ∧ ((M 2000003 (v3 + 2) = 0 → am_cal pg d 146 [(2, 0), (0, M 2000003 (v3 + 1)), (0, 0)] sh_T M (am_c0 sh_T fun x192 M192 => am_r (v3 + 1) ∧ am_r (v3 + 2) ∧ ((M192 2000003 (v3 + 2) = 0 → am_cal pg d 267 [(2, 152), (0, M192 2000003 (v3 + 1)), (0, 0)] sh_T M192 (am_c0 sh_T fun x196 M196 => ((x192 = x196 → am_h N 13 5 co_L_law d Q 1233 [(2, 2000003), (2, 0), (2, 152), (0, v3)] [] sh_T M196) ∧ (¬ x192 = x196 → Q (some (0, 0), sh_T, M196))))) ∧ (¬ M192 2000003 (v3 + 2) = 0 → am_cal pg d 267 [(2, 152), (0, M192 2000003 (v3 + 1)), (0, 1)] sh_T M192 (am_c0 sh_T fun x198 M198 => ((x192 = x198 → am_h N 13 5 co_L_law d Q 1233 [(2, 2000003), (2, 0), (2, 152), (0, v3)] [] sh_T M198) ∧ (¬ x192 = x198 → Q (some (0, 0), sh_T, M198)))))))) ∧ (¬ M 2000003 (v3 + 2) = 0 → am_cal pg d 146 [(2, 0), (0, M 2000003 (v3 + 1)), (0, 1)] sh_T M (am_c0 sh_T fun x200 M200 => am_r (v3 + 1) ∧ am_r (v3 + 2) ∧ ((M200 2000003 (v3 + 2) = 0 → am_cal pg d 267 [(2, 152), (0, M200 2000003 (v3 + 1)), (0, 0)] sh_T M200 (am_c0 sh_T fun x204 M204 => ((x200 = x204 → am_h N 13 5 co_L_law d Q 1233 [(2, 2000003), (2, 0), (2, 152), (0, v3)] [] sh_T M204) ∧ (¬ x200 = x204 → Q (some (0, 0), sh_T, M204))))) ∧ (¬ M200 2000003 (v3 + 2) = 0 → am_cal pg d 267 [(2, 152), (0, M200 2000003 (v3 + 1)), (0, 1)] sh_T M200 (am_c0 sh_T fun x206 M206 => ((x200 = x206 → am_h N 13 5 co_L_law d Q 1233 [(2, 2000003), (2, 0), (2, 152), (0, v3)] [] sh_T M206) ∧ (¬ x200 = x206 → Q (some (0, 0), sh_T, M206)))))))))) ∧ (am_band (M 2000003 v3) 63 = 21 → am_r (v3 + 1) ∧ (0 ≤ v3 + 1 ∧ v3 + 1 < (N : Int)) ∧ am_r (v3 + 2) ∧ (0 ≤ v3 + 2 ∧ v3 + 2 < (N : Int)) ∧ am_cal pg d 147 [(2, 0), (0, M 2000003 (v3 + 1)), (0, M 2000003 (v3 + 2))] sh_T M (am_c0 sh_T fun x212 M212 => am_r (v3 + 1) ∧ am_r (v3 + 2) ∧ am_cal pg d 268 [(2, 152), (0, M212 2000003 (v3 + 1)), (0, M212 2000003 (v3 + 2))] sh_T M212 (am_c0 sh_T fun x215 M215 => ((x212 = x215 → am_h N 13 5 co_L_law d Q 1233 [(2, 2000003), (2, 0), (2, 152), (0, v3)] [] sh_T M215) ∧ (¬ x212 = x215 → Q (some (0, 0), sh_T, M215)))))) ∧ (am_band (M 2000003 v3) 63 = 22 → am_r (v3 + 1) ∧ (0 ≤ v3 + 1 ∧ v3 + 1 < (N : Int)) ∧ am_r (v3 + 2) ∧ (0 ≤ v3 + 2 ∧ v3 + 2 < (N : Int)) ∧ am_cal pg d 148 [(2, 0), (0, M 2000003 (v3 + 1)), (0, M 2000003 (v3 + 2))] sh_T M (am_c0 sh_T fun x221 M221 => am_r (v3 + 1) ∧ am_r (v3 + 2) ∧ am_cal pg d 269 [(2, 152), (0, M221 2000003 (v3 + 1)), (0, M221 2000003 (v3 + 2))] sh_T M221 (am_c0 sh_T fun x224 M224 => ((x221 = x224 → am_h N 13 5 co_L_law d Q 1233 [(2, 2000003), (2, 0), (2, 152), (0, v3)] [] sh_T M224) ∧ (¬ x221 = x224 → Q (some (0, 0), sh_T, M224)))))) ∧ (am_band (M 2000003 v3) 63 = 23 → am_r (v3 + 1) ∧ (0 ≤ v3 + 1 ∧ v3 + 1 < (N : Int)) ∧ am_r (v3 + 2) ∧ (0 ≤ v3 + 2 ∧ v3 + 2 < (N : Int)) ∧ am_r (v3 + 3) ∧ (0 ≤ v3 + 3 ∧ v3 + 3 < (N : Int)) ∧ am_cal pg d 149 [(2, 0), (0, M 2000003 (v3 + 1)), (0, M 2000003 (v3 + 2)), (0, M 2000003 (v3 + 3))] sh_T M (am_c0 sh_T fun x232 M232 => am_r (v3 + 1) ∧ am_r (v3 + 2) ∧ am_r (v3 + 3) ∧ am_cal pg d 270 [(2, 152), (0, M232 2000003 (v3 + 1)), (0, M232 2000003 (v3 + 2)), (0, M232 2000003 (v3 + 3))] sh_T M232 (am_c0 sh_T fun x236 M236 => ((x232 = x236 → am_h N 13 5 co_L_law d Q 1233 [(2, 2000003), (2, 0), (2, 152), (0, v3)] [] sh_T M236) ∧ (¬ x232 = x236 → Q (some (0, 0), sh_T, M236)))))) ∧ (am_band (M 2000003 v3) 63 = 24 → am_r (v3 + 1) ∧ (0 ≤ v3 + 1 ∧ v3 + 1 < (N : Int)) ∧ am_r (v3 + 2) ∧ (0 ≤ v3 + 2 ∧ v3 + 2 < (N : Int)) ∧ am_cal pg d 150 [(2, 0), (0, M 2000003 (v3 + 1)), (0, M 2000003 (v3 + 2))] sh_T M (am_c0 sh_T fun x242 M242 => am_r (v3 + 1) ∧ am_r (v3 + 2) ∧ am_cal pg d 273 [(2, 152), (0, M242 2000003 (v3 + 1)), (0, M242 2000003 (v3 + 2))] sh_T M242 (am_c0 sh_T fun x245 M245 => ((x242 = x245 → am_h N 13 5 co_L_law d Q 1233 [(2, 2000003), (2, 0), (2, 152), (0, v3)] [] sh_T M245) ∧ (¬ x242 = x245 → Q (some (0, 0), sh_T, M245)))))) ∧ (am_band (M 2000003 v3) 63 = 25 → am_cal pg d 151 [(2, 0)] sh_T M (am_c0 sh_T fun x247 M247 => am_cal pg d 265 [(2, 152)] sh_T M247 (am_c0 sh_T fun x248 M248 => ((x247 = x248 → am_h N 13 5 co_L_law d Q 1233 [(2, 2000003), (2, 0), (2, 152), (0, v3)] [] sh_T M248) ∧ (¬ x247 = x248 → Q (some (0, 0), sh_T, M248)))))) ∧ (am_band (M 2000003 v3) 63 = 26 → am_r (v3 + 1) ∧ (0 ≤ v3 + 1 ∧ v3 + 1 < (N : Int)) ∧ am_cal pg d 152 [(2, 0), (0, M 2000003 (v3 + 1))] sh_T M (am_c0 sh_T fun x252 M252 => am_r (v3 + 1) ∧ am_cal pg d 271 [(2, 152), (0, M252 2000003 (v3 + 1))] sh_T M252 (am_c0 sh_T fun x254 M254 => ((x252 = x254 → am_h N 13 5 co_L_law d Q 1233 [(2, 2000003), (2, 0), (2, 152), (0, v3)] [] sh_T M254) ∧ (¬ x252 = x254 → Q (some (0, 0), sh_T, M254)))))) ∧ (am_band (M 2000003 v3) 63 = 27 → am_r (v3 + 1) ∧ (0 ≤ v3 + 1 ∧ v3 + 1 < (N : Int)) ∧ am_cal pg d 153 [(2, 0), (0, M 2000003 (v3 + 1))] sh_T M (am_c0 sh_T fun x258 M258 => am_r (v3 + 1) ∧ am_cal pg d 274 [(2, 152), (0, M258 2000003 (v3 + 1))] sh_T M258 (am_c0 sh_T fun x260 M260 => ((x258 = x260 → am_h N 13 5 co_L_law d Q 1233 [(2, 2000003), (2, 0), (2, 152), (0, v3)] [] sh_T M260) ∧ (¬ x258 = x260 → Q (some (0, 0), sh_T, M260)))))) ∧ (am_band (M 2000003 v3) 63 = 28 → am_r (v3 + 1) ∧ (0 ≤ v3 + 1 ∧ v3 + 1 < (N : Int)) ∧ am_r (v3 + 2) ∧ (0 ≤ v3 + 2 ∧ v3 + 2 < (N : Int)) ∧ am_cal pg d 154 [(2, 0), (0, M 2000003 (v3 + 1)), (0, M 2000003 (v3 + 2))] sh_T M (am_c0 sh_T fun x266 M266 => am_r (v3 + 1) ∧ am_r (v3 + 2) ∧ am_cal pg d 276 [(2, 152), (0, M266 2000003 (v3 + 1)), (0, M266 2000003 (v3 + 2))] sh_T M266 (am_c0 sh_T fun x269 M269 => ((x266 = x269 → am_h N 13 5 co_L_law d Q 1233 [(2, 2000003), (2, 0), (2, 152), (0, v3)] [] sh_T M269) ∧ (¬ x266 = x269 → Q (some (0, 0), sh_T, M269)))))) ∧ (am_band (M 2000003 v3) 63 = 29 → am_r (v3 + 1) ∧ (0 ≤ v3 + 1 ∧ v3 + 1 < (N : Int)) ∧ am_cal pg d 155 [(2, 0), (0, M 2000003 (v3 + 1))] sh_T M (am_c1 sh_T fun x273 M273 => am_r (v3 + 1) ∧ am_cal pg d 305 [(2, 152), (0, M273 2000003 (v3 + 1))] sh_T M273 (am_c1 sh_T fun x275 M275 => ((x273 = x275 → am_h N 13 5 co_L_law d Q 1233 [(2, 2000003), (2, 0), (2, 152), (0, v3)] [] sh_T M275) ∧ (¬ x273 = x275 → Q (some (0, 0), sh_T, M275)))))) ∧ (am_band (M 2000003 v3) 63 = 30 → am_cal pg d 156 [(2, 0)] sh_T M (am_c0 sh_T fun x277 M277 => am_cal pg d 309 [(2, 152)] sh_T M277 (am_c0 sh_T fun x278 M278 => ((x277 = x278 → am_h N 13 5 co_L_law d Q 1233 [(2, 2000003), (2, 0), (2, 152), (0, v3)] [] sh_T M278) ∧ (¬ x277 = x278 → Q (some (0, 0), sh_T, M278)))))) ∧ (am_band (M 2000003 v3) 63 = 31 → am_r (v3 + 1) ∧ (0 ≤ v3 + 1 ∧ v3 + 1 < (N : Int)) ∧ am_cal pg d 157 [(2, 0), (0, M 2000003 (v3 + 1))] sh_T M (am_c0 sh_T fun x282 M282 => am_r (v3 + 1) ∧ am_cal pg d 310 [(2, 152), (0, M282 2000003 (v3 + 1))] sh_T M282 (am_c0 sh_T fun x284 M284 => ((x282 = x284 → am_h N 13 5 co_L_law d Q 1233 [(2, 2000003), (2, 0), (2, 152), (0, v3)] [] sh_T M284) ∧ (¬ x282 = x284 → Q (some (0, 0), sh_T, M284)))))) ∧ (am_band (M 2000003 v3) 63 = 32 → am_cal pg d 158 [(2, 0)] sh_T M (am_c0 sh_T fun x286 M286 => am_cal pg d 312 [(2, 152)] sh_T M286 (am_c0 sh_T fun x287 M287 => ((x286 = x287 → am_h N 13 5 co_L_law d Q 1233 [(2, 2000003), (2, 0), (2, 152), (0, v3)] [] sh_T M287) ∧ (¬ x286 = x287 → Q (some (0, 0), sh_T, M287)))))) ∧ (am_band (M 2000003 v3) 63 = 33 → am_r (v3 + 1) ∧ (0 ≤ v3 + 1 ∧ v3 + 1 < (N : Int)) ∧ am_cal pg d 159 [(2, 0), (0, M 2000003 (v3 + 1))] sh_T M (am_c0 sh_T fun x291 M291 => am_r (v3 + 1) ∧ am_cal pg d 313 [(2, 152), (0, M291 2000003 (v3 + 1))] sh_T M291 (am_c0 sh_T fun x293 M293 => ((x291 = x293 → am_h N 13 5 co_L_law d Q 1233 [(2, 2000003), (2, 0), (2, 152), (0, v3)] [] sh_T M293) ∧ (¬ x291 = x293 → Q (some (0, 0), sh_T, M293)))))))))) : am_h N 13 5 co_L_law d Q 18 [(2, 2000003), (2, 0), (2, 152), (0, v3)] [] sh_T M := by
  refine w_iload_n (by decide +kernel : am_at co_L_law 18 = some (1, .iload_n 3)) rfl ?_
  refine w_aload_n (by decide +kernel : am_at co_L_law 19 = some (1, .aload_n 0)) rfl ?_
  refine w_alen (by decide +kernel : am_at co_L_law 20 = some (1, .arraylength)) (n := N) rfl ?_
  refine w_bipush (by decide +kernel : am_at co_L_law 21 = some (2, .bipush 6)) ?_
  obtain ⟨o0, h⟩ := h
  refine w_isub (by decide +kernel : am_at co_L_law 23 = some (1, .isub)) o0 ?_
  refine w_icmp (tgt := 1239) (by decide +kernel : am_at co_L_law 24 = some (3, .if_icmp .gt 1215)) rfl Iff.rfl (fun c1 => ?_) (fun c1 => ?_)
  · have h := h.1 c1
    refine w_iconst (by decide +kernel : am_at co_L_law 1239 = some (1, .iconst 1)) ?_
    exact w_zret (by decide +kernel : am_at co_L_law 1240 = some (1, .ireturn)) (by decide) h
  · have c1 := (Int.not_lt.mp c1)
    have h := h.2 c1
    refine w_aload_n (by decide +kernel : am_at co_L_law 27 = some (1, .aload_n 0)) rfl ?_
    refine w_iload_n (by decide +kernel : am_at co_L_law 28 = some (1, .iload_n 3)) rfl ?_
    obtain ⟨o2, h⟩ := h
    refine w_iald (by decide +kernel : am_at co_L_law 29 = some (1, .iaload)) (lw_in o2.1 o2.2) ?_
    refine w_bipush (by decide +kernel : am_at co_L_law 30 = some (2, .bipush 63)) ?_
    refine w_iand (by decide +kernel : am_at co_L_law 32 = some (1, .iand)) ?_
    refine w_tsw (by decide +kernel : am_at co_L_law 33 = some (151, .tableswitch 1200 0 33 #[151, 214, 237, 250, 273, 296, 339, 372, 415, 438, 471, 514, 537, 570, 603, 636, 669, 712, 755, 788, 821, 870, 903, 936, 979, 1012, 1025, 1048, 1071, 1104, 1128, 1141, 1164, 1177])) (fun q => ?_) (fun q1 q2 => ?_)
    · have h := h.1 q
      exact w_weak (lk (lk (lk (lk ln)))) h
    · rcases (show am_band (M 2000003 v3) 63 = 0 ∨ am_band (M 2000003 v3) 63 = 1 ∨ am_band (M 2000003 v3) 63 = 2 ∨ am_band (M 2000003 v3) 63 = 3 ∨ am_band (M 2000003 v3) 63 = 4 ∨ am_band (M 2000003 v3) 63 = 5 ∨ am_band (M 2000003 v3) 63 = 6 ∨ am_band (M 2000003 v3) 63 = 7 ∨ am_band (M 2000003 v3) 63 = 8 ∨ am_band (M 2000003 v3) 63 = 9 ∨ am_band (M 2000003 v3) 63 = 10 ∨ am_band (M 2000003 v3) 63 = 11 ∨ am_band (M 2000003 v3) 63 = 12 ∨ am_band (M 2000003 v3) 63 = 13 ∨ am_band (M 2000003 v3) 63 = 14 ∨ am_band (M 2000003 v3) 63 = 15 ∨ am_band (M 2000003 v3) 63 = 16 ∨ am_band (M 2000003 v3) 63 = 17 ∨ am_band (M 2000003 v3) 63 = 18 ∨ am_band (M 2000003 v3) 63 = 19 ∨ am_band (M 2000003 v3) 63 = 20 ∨ am_band (M 2000003 v3) 63 = 21 ∨ am_band (M 2000003 v3) 63 = 22 ∨ am_band (M 2000003 v3) 63 = 23 ∨ am_band (M 2000003 v3) 63 = 24 ∨ am_band (M 2000003 v3) 63 = 25 ∨ am_band (M 2000003 v3) 63 = 26 ∨ am_band (M 2000003 v3) 63 = 27 ∨ am_band (M 2000003 v3) 63 = 28 ∨ am_band (M 2000003 v3) 63 = 29 ∨ am_band (M 2000003 v3) 63 = 30 ∨ am_band (M 2000003 v3) 63 = 31 ∨ am_band (M 2000003 v3) 63 = 32 ∨ am_band (M 2000003 v3) 63 = 33 by omega) with q | q | q | q | q | q | q | q | q | q | q | q | q | q | q | q | q | q | q | q | q | q | q | q | q | q | q | q | q | q | q | q | q | q
      · refine ⟨151, by rw [q]; rfl, ?_⟩
        have h := h.2.1 q
        refine w_aload_n (by decide +kernel : am_at co_L_law 184 = some (1, .aload_n 1)) rfl ?_
        refine w_aload_n (by decide +kernel : am_at co_L_law 185 = some (1, .aload_n 0)) rfl ?_
        refine w_iload_n (by decide +kernel : am_at co_L_law 186 = some (1, .iload_n 3)) rfl ?_
        refine w_iconst (by decide +kernel : am_at co_L_law 187 = some (1, .iconst 1)) ?_
        obtain ⟨o3, h⟩ := h
        refine w_iadd (by decide +kernel : am_at co_L_law 188 = some (1, .iadd)) o3 ?_
        obtain ⟨o4, h⟩ := h
        refine w_iald (by decide +kernel : am_at co_L_law 189 = some (1, .iaload)) (lw_in o4.1 o4.2) ?_
        refine w_aload_n (by decide +kernel : am_at co_L_law 190 = some (1, .aload_n 0)) rfl ?_
        refine w_iload_n (by decide +kernel : am_at co_L_law 191 = some (1, .iload_n 3)) rfl ?_
        refine w_iconst (by decide +kernel : am_at co_L_law 192 = some (1, .iconst 2)) ?_
        obtain ⟨o5, h⟩ := h
        refine w_iadd (by decide +kernel : am_at co_L_law 193 = some (1, .iadd)) o5 ?_
        obtain ⟨o6, h⟩ := h
        refine w_iald (by decide +kernel : am_at co_L_law 194 = some (1, .iaload)) (lw_in o6.1 o6.2) ?_
        refine w_aload_n (by decide +kernel : am_at co_L_law 195 = some (1, .aload_n 0)) rfl ?_
        refine w_iload_n (by decide +kernel : am_at co_L_law 196 = some (1, .iload_n 3)) rfl ?_
        refine w_iconst (by decide +kernel : am_at co_L_law 197 = some (1, .iconst 3)) ?_
        obtain ⟨o7, h⟩ := h
        refine w_iadd (by decide +kernel : am_at co_L_law 198 = some (1, .iadd)) o7 ?_
        obtain ⟨o8, h⟩ := h
        refine w_iald (by decide +kernel : am_at co_L_law 199 = some (1, .iaload)) (lw_in o8.1 o8.2) ?_
        refine w_aload_n (by decide +kernel : am_at co_L_law 200 = some (1, .aload_n 0)) rfl ?_
        refine w_iload_n (by decide +kernel : am_at co_L_law 201 = some (1, .iload_n 3)) rfl ?_
        refine w_iconst (by decide +kernel : am_at co_L_law 202 = some (1, .iconst 4)) ?_
        obtain ⟨o9, h⟩ := h
        refine w_iadd (by decide +kernel : am_at co_L_law 203 = some (1, .iadd)) o9 ?_
        obtain ⟨o10, h⟩ := h
        refine w_iald (by decide +kernel : am_at co_L_law 204 = some (1, .iaload)) (lw_in o10.1 o10.2) ?_
        refine w_aload_n (by decide +kernel : am_at co_L_law 205 = some (1, .aload_n 0)) rfl ?_
        refine w_iload_n (by decide +kernel : am_at co_L_law 206 = some (1, .iload_n 3)) rfl ?_
        refine w_iconst (by decide +kernel : am_at co_L_law 207 = some (1, .iconst 5)) ?_
        obtain ⟨o11, h⟩ := h
        refine w_iadd (by decide +kernel : am_at co_L_law 208 = some (1, .iadd)) o11 ?_
        obtain ⟨o12, h⟩ := h
        refine w_iald (by decide +kernel : am_at co_L_law 209 = some (1, .iaload)) (lw_in o12.1 o12.2) ?_
        refine w_callV (n := 6) (by decide +kernel : am_at co_L_law 210 = some (3, .invokevirtual 13)) pq_13_13 pm_X11_feed rfl rfl rfl ob_0 h (w_k0 fun x14 M14 h => ?_)
        refine w_aload_n (by decide +kernel : am_at co_L_law 213 = some (1, .aload_n 2)) rfl ?_
        refine w_aload_n (by decide +kernel : am_at co_L_law 214 = some (1, .aload_n 0)) rfl ?_
        refine w_iload_n (by decide +kernel : am_at co_L_law 215 = some (1, .iload_n 3)) rfl ?_
        refine w_iconst (by decide +kernel : am_at co_L_law 216 = some (1, .iconst 1)) ?_
        obtain ⟨o14, h⟩ := h
        refine w_iadd (by decide +kernel : am_at co_L_law 217 = some (1, .iadd)) o14 ?_
        refine w_iald (by decide +kernel : am_at co_L_law 218 = some (1, .iaload)) (lw_in o4.1 o4.2) ?_
        refine w_aload_n (by decide +kernel : am_at co_L_law 219 = some (1, .aload_n 0)) rfl ?_
        refine w_iload_n (by decide +kernel : am_at co_L_law 220 = some (1, .iload_n 3)) rfl ?_
        refine w_iconst (by decide +kernel : am_at co_L_law 221 = some (1, .iconst 2)) ?_
        obtain ⟨o15, h⟩ := h
        refine w_iadd (by decide +kernel : am_at co_L_law 222 = some (1, .iadd)) o15 ?_
        refine w_iald (by decide +kernel : am_at co_L_law 223 = some (1, .iaload)) (lw_in o6.1 o6.2) ?_
        refine w_aload_n (by decide +kernel : am_at co_L_law 224 = some (1, .aload_n 0)) rfl ?_
        refine w_iload_n (by decide +kernel : am_at co_L_law 225 = some (1, .iload_n 3)) rfl ?_
        refine w_iconst (by decide +kernel : am_at co_L_law 226 = some (1, .iconst 3)) ?_
        obtain ⟨o16, h⟩ := h
        refine w_iadd (by decide +kernel : am_at co_L_law 227 = some (1, .iadd)) o16 ?_
        refine w_iald (by decide +kernel : am_at co_L_law 228 = some (1, .iaload)) (lw_in o8.1 o8.2) ?_
        refine w_aload_n (by decide +kernel : am_at co_L_law 229 = some (1, .aload_n 0)) rfl ?_
        refine w_iload_n (by decide +kernel : am_at co_L_law 230 = some (1, .iload_n 3)) rfl ?_
        refine w_iconst (by decide +kernel : am_at co_L_law 231 = some (1, .iconst 4)) ?_
        obtain ⟨o17, h⟩ := h
        refine w_iadd (by decide +kernel : am_at co_L_law 232 = some (1, .iadd)) o17 ?_
        refine w_iald (by decide +kernel : am_at co_L_law 233 = some (1, .iaload)) (lw_in o10.1 o10.2) ?_
        refine w_aload_n (by decide +kernel : am_at co_L_law 234 = some (1, .aload_n 0)) rfl ?_
        refine w_iload_n (by decide +kernel : am_at co_L_law 235 = some (1, .iload_n 3)) rfl ?_
        refine w_iconst (by decide +kernel : am_at co_L_law 236 = some (1, .iconst 5)) ?_
        obtain ⟨o18, h⟩ := h
        refine w_iadd (by decide +kernel : am_at co_L_law 237 = some (1, .iadd)) o18 ?_
        refine w_iald (by decide +kernel : am_at co_L_law 238 = some (1, .iaload)) (lw_in o12.1 o12.2) ?_
        refine w_callV (n := 6) (by decide +kernel : am_at co_L_law 239 = some (3, .invokevirtual 17)) pq_13_17 pm_X12_feed rfl rfl rfl ob_152 h (w_k0 fun x20 M20 h => ?_)
        refine w_icmp (tgt := 1233) (by decide +kernel : am_at co_L_law 242 = some (3, .if_icmp .eq 991)) rfl Iff.rfl (fun c20 => ?_) (fun c20 => ?_)
        · have h := h.1 c20
          exact w_weak (lk (lk (lk (lk ln)))) h
        · have c20 := c20
          have h := h.2 c20
          refine w_iconst (by decide +kernel : am_at co_L_law 245 = some (1, .iconst 0)) ?_
          exact w_zret (by decide +kernel : am_at co_L_law 246 = some (1, .ireturn)) (by decide) h
      · refine ⟨214, by rw [q]; rfl, ?_⟩
        have h := h.2.2.1 q
        refine w_aload_n (by decide +kernel : am_at co_L_law 247 = some (1, .aload_n 1)) rfl ?_
        refine w_aload_n (by decide +kernel : am_at co_L_law 248 = some (1, .aload_n 0)) rfl ?_
        refine w_iload_n (by decide +kernel : am_at co_L_law 249 = some (1, .iload_n 3)) rfl ?_
        refine w_iconst (by decide +kernel : am_at co_L_law 250 = some (1, .iconst 1)) ?_
        obtain ⟨o21, h⟩ := h
        refine w_iadd (by decide +kernel : am_at co_L_law 251 = some (1, .iadd)) o21 ?_
        obtain ⟨o22, h⟩ := h
        refine w_iald (by decide +kernel : am_at co_L_law 252 = some (1, .iaload)) (lw_in o22.1 o22.2) ?_
        refine w_callV (n := 2) (by decide +kernel : am_at co_L_law 253 = some (3, .invokevirtual 18)) pq_13_18 pm_X11_end rfl rfl rfl ob_0 h (w_k0 fun x24 M24 h => ?_)
        refine w_aload_n (by decide +kernel : am_at co_L_law 256 = some (1, .aload_n 2)) rfl ?_
        refine w_aload_n (by decide +kernel : am_at co_L_law 257 = some (1, .aload_n 0)) rfl ?_
        refine w_iload_n (by decide +kernel : am_at co_L_law 258 = some (1, .iload_n 3)) rfl ?_
        refine w_iconst (by decide +kernel : am_at co_L_law 259 = some (1, .iconst 1)) ?_
        obtain ⟨o24, h⟩ := h
        refine w_iadd (by decide +kernel : am_at co_L_law 260 = some (1, .iadd)) o24 ?_
        refine w_iald (by decide +kernel : am_at co_L_law 261 = some (1, .iaload)) (lw_in o22.1 o22.2) ?_
        refine w_callV (n := 2) (by decide +kernel : am_at co_L_law 262 = some (3, .invokevirtual 22)) pq_13_22 pm_X12_end rfl rfl rfl ob_152 h (w_k0 fun x26 M26 h => ?_)
        refine w_icmp (tgt := 1233) (by decide +kernel : am_at co_L_law 265 = some (3, .if_icmp .eq 968)) rfl Iff.rfl (fun c26 => ?_) (fun c26 => ?_)
        · have h := h.1 c26
          exact w_weak (lk (lk (lk (lk ln)))) h
        · have c26 := c26
          have h := h.2 c26
          refine w_iconst (by decide +kernel : am_at co_L_law 268 = some (1, .iconst 0)) ?_
          exact w_zret (by decide +kernel : am_at co_L_law 269 = some (1, .ireturn)) (by decide) h
      · refine ⟨237, by rw [q]; rfl, ?_⟩
        have h := h.2.2.2.1 q
        refine w_aload_n (by decide +kernel : am_at co_L_law 270 = some (1, .aload_n 1)) rfl ?_
        refine w_callV (n := 1) (by decide +kernel : am_at co_L_law 271 = some (3, .invokevirtual 23)) pq_13_23 pm_X11_dream rfl rfl rfl ob_0 h (w_k0 fun x28 M28 h => ?_)
        refine w_aload_n (by decide +kernel : am_at co_L_law 274 = some (1, .aload_n 2)) rfl ?_
        refine w_callV (n := 1) (by decide +kernel : am_at co_L_law 275 = some (3, .invokevirtual 27)) pq_13_27 pm_X12_dream rfl rfl rfl ob_152 h (w_k0 fun x29 M29 h => ?_)
        refine w_icmp (tgt := 1233) (by decide +kernel : am_at co_L_law 278 = some (3, .if_icmp .eq 955)) rfl Iff.rfl (fun c29 => ?_) (fun c29 => ?_)
        · have h := h.1 c29
          exact w_weak (lk (lk (lk (lk ln)))) h
        · have c29 := c29
          have h := h.2 c29
          refine w_iconst (by decide +kernel : am_at co_L_law 281 = some (1, .iconst 0)) ?_
          exact w_zret (by decide +kernel : am_at co_L_law 282 = some (1, .ireturn)) (by decide) h
      · refine ⟨250, by rw [q]; rfl, ?_⟩
        have h := h.2.2.2.2.1 q
        refine w_aload_n (by decide +kernel : am_at co_L_law 283 = some (1, .aload_n 1)) rfl ?_
        refine w_aload_n (by decide +kernel : am_at co_L_law 284 = some (1, .aload_n 0)) rfl ?_
        refine w_iload_n (by decide +kernel : am_at co_L_law 285 = some (1, .iload_n 3)) rfl ?_
        refine w_iconst (by decide +kernel : am_at co_L_law 286 = some (1, .iconst 1)) ?_
        obtain ⟨o30, h⟩ := h
        refine w_iadd (by decide +kernel : am_at co_L_law 287 = some (1, .iadd)) o30 ?_
        obtain ⟨o31, h⟩ := h
        refine w_iald (by decide +kernel : am_at co_L_law 288 = some (1, .iaload)) (lw_in o31.1 o31.2) ?_
        refine w_callV (n := 2) (by decide +kernel : am_at co_L_law 289 = some (3, .invokevirtual 28)) pq_13_28 pm_X11_fault rfl rfl rfl ob_0 h (w_k0 fun x33 M33 h => ?_)
        refine w_aload_n (by decide +kernel : am_at co_L_law 292 = some (1, .aload_n 2)) rfl ?_
        refine w_aload_n (by decide +kernel : am_at co_L_law 293 = some (1, .aload_n 0)) rfl ?_
        refine w_iload_n (by decide +kernel : am_at co_L_law 294 = some (1, .iload_n 3)) rfl ?_
        refine w_iconst (by decide +kernel : am_at co_L_law 295 = some (1, .iconst 1)) ?_
        obtain ⟨o33, h⟩ := h
        refine w_iadd (by decide +kernel : am_at co_L_law 296 = some (1, .iadd)) o33 ?_
        refine w_iald (by decide +kernel : am_at co_L_law 297 = some (1, .iaload)) (lw_in o31.1 o31.2) ?_
        refine w_callV (n := 2) (by decide +kernel : am_at co_L_law 298 = some (3, .invokevirtual 32)) pq_13_32 pm_X12_fault rfl rfl rfl ob_152 h (w_k0 fun x35 M35 h => ?_)
        refine w_icmp (tgt := 1233) (by decide +kernel : am_at co_L_law 301 = some (3, .if_icmp .eq 932)) rfl Iff.rfl (fun c35 => ?_) (fun c35 => ?_)
        · have h := h.1 c35
          exact w_weak (lk (lk (lk (lk ln)))) h
        · have c35 := c35
          have h := h.2 c35
          refine w_iconst (by decide +kernel : am_at co_L_law 304 = some (1, .iconst 0)) ?_
          exact w_zret (by decide +kernel : am_at co_L_law 305 = some (1, .ireturn)) (by decide) h
      · refine ⟨273, by rw [q]; rfl, ?_⟩
        have h := h.2.2.2.2.2.1 q
        refine w_aload_n (by decide +kernel : am_at co_L_law 306 = some (1, .aload_n 1)) rfl ?_
        refine w_aload_n (by decide +kernel : am_at co_L_law 307 = some (1, .aload_n 0)) rfl ?_
        refine w_iload_n (by decide +kernel : am_at co_L_law 308 = some (1, .iload_n 3)) rfl ?_
        refine w_iconst (by decide +kernel : am_at co_L_law 309 = some (1, .iconst 1)) ?_
        obtain ⟨o36, h⟩ := h
        refine w_iadd (by decide +kernel : am_at co_L_law 310 = some (1, .iadd)) o36 ?_
        obtain ⟨o37, h⟩ := h
        refine w_iald (by decide +kernel : am_at co_L_law 311 = some (1, .iaload)) (lw_in o37.1 o37.2) ?_
        refine w_callV (n := 2) (by decide +kernel : am_at co_L_law 312 = some (3, .invokevirtual 33)) pq_13_33 pm_X11_has rfl rfl rfl ob_0 h (w_k0 fun x39 M39 h => ?_)
        refine w_aload_n (by decide +kernel : am_at co_L_law 315 = some (1, .aload_n 2)) rfl ?_
        refine w_aload_n (by decide +kernel : am_at co_L_law 316 = some (1, .aload_n 0)) rfl ?_
        refine w_iload_n (by decide +kernel : am_at co_L_law 317 = some (1, .iload_n 3)) rfl ?_
        refine w_iconst (by decide +kernel : am_at co_L_law 318 = some (1, .iconst 1)) ?_
        obtain ⟨o39, h⟩ := h
        refine w_iadd (by decide +kernel : am_at co_L_law 319 = some (1, .iadd)) o39 ?_
        refine w_iald (by decide +kernel : am_at co_L_law 320 = some (1, .iaload)) (lw_in o37.1 o37.2) ?_
        refine w_callV (n := 2) (by decide +kernel : am_at co_L_law 321 = some (3, .invokevirtual 36)) pq_13_36 pm_X12_has rfl rfl rfl ob_152 h (w_k0 fun x41 M41 h => ?_)
        refine w_icmp (tgt := 1233) (by decide +kernel : am_at co_L_law 324 = some (3, .if_icmp .eq 909)) rfl Iff.rfl (fun c41 => ?_) (fun c41 => ?_)
        · have h := h.1 c41
          exact w_weak (lk (lk (lk (lk ln)))) h
        · have c41 := c41
          have h := h.2 c41
          refine w_iconst (by decide +kernel : am_at co_L_law 327 = some (1, .iconst 0)) ?_
          exact w_zret (by decide +kernel : am_at co_L_law 328 = some (1, .ireturn)) (by decide) h
      · refine ⟨296, by rw [q]; rfl, ?_⟩
        have h := h.2.2.2.2.2.2.1 q
        refine w_aload_n (by decide +kernel : am_at co_L_law 329 = some (1, .aload_n 1)) rfl ?_
        refine w_aload_n (by decide +kernel : am_at co_L_law 330 = some (1, .aload_n 0)) rfl ?_
        refine w_iload_n (by decide +kernel : am_at co_L_law 331 = some (1, .iload_n 3)) rfl ?_
        refine w_iconst (by decide +kernel : am_at co_L_law 332 = some (1, .iconst 1)) ?_
        obtain ⟨o42, h⟩ := h
        refine w_iadd (by decide +kernel : am_at co_L_law 333 = some (1, .iadd)) o42 ?_
        obtain ⟨o43, h⟩ := h
        refine w_iald (by decide +kernel : am_at co_L_law 334 = some (1, .iaload)) (lw_in o43.1 o43.2) ?_
        refine w_aload_n (by decide +kernel : am_at co_L_law 335 = some (1, .aload_n 0)) rfl ?_
        refine w_iload_n (by decide +kernel : am_at co_L_law 336 = some (1, .iload_n 3)) rfl ?_
        refine w_iconst (by decide +kernel : am_at co_L_law 337 = some (1, .iconst 2)) ?_
        obtain ⟨o44, h⟩ := h
        refine w_iadd (by decide +kernel : am_at co_L_law 338 = some (1, .iadd)) o44 ?_
        obtain ⟨o45, h⟩ := h
        refine w_iald (by decide +kernel : am_at co_L_law 339 = some (1, .iaload)) (lw_in o45.1 o45.2) ?_
        refine w_aload_n (by decide +kernel : am_at co_L_law 340 = some (1, .aload_n 0)) rfl ?_
        refine w_iload_n (by decide +kernel : am_at co_L_law 341 = some (1, .iload_n 3)) rfl ?_
        refine w_iconst (by decide +kernel : am_at co_L_law 342 = some (1, .iconst 3)) ?_
        obtain ⟨o46, h⟩ := h
        refine w_iadd (by decide +kernel : am_at co_L_law 343 = some (1, .iadd)) o46 ?_
        obtain ⟨o47, h⟩ := h
        refine w_iald (by decide +kernel : am_at co_L_law 344 = some (1, .iaload)) (lw_in o47.1 o47.2) ?_
        refine w_callV (n := 4) (by decide +kernel : am_at co_L_law 345 = some (3, .invokevirtual 37)) pq_13_37 pm_X11_letter rfl rfl rfl ob_0 h (w_k0 fun x49 M49 h => ?_)
        refine w_aload_n (by decide +kernel : am_at co_L_law 348 = some (1, .aload_n 2)) rfl ?_
        refine w_aload_n (by decide +kernel : am_at co_L_law 349 = some (1, .aload_n 0)) rfl ?_
        refine w_iload_n (by decide +kernel : am_at co_L_law 350 = some (1, .iload_n 3)) rfl ?_
        refine w_iconst (by decide +kernel : am_at co_L_law 351 = some (1, .iconst 1)) ?_
        obtain ⟨o49, h⟩ := h
        refine w_iadd (by decide +kernel : am_at co_L_law 352 = some (1, .iadd)) o49 ?_
        refine w_iald (by decide +kernel : am_at co_L_law 353 = some (1, .iaload)) (lw_in o43.1 o43.2) ?_
        refine w_aload_n (by decide +kernel : am_at co_L_law 354 = some (1, .aload_n 0)) rfl ?_
        refine w_iload_n (by decide +kernel : am_at co_L_law 355 = some (1, .iload_n 3)) rfl ?_
        refine w_iconst (by decide +kernel : am_at co_L_law 356 = some (1, .iconst 2)) ?_
        obtain ⟨o50, h⟩ := h
        refine w_iadd (by decide +kernel : am_at co_L_law 357 = some (1, .iadd)) o50 ?_
        refine w_iald (by decide +kernel : am_at co_L_law 358 = some (1, .iaload)) (lw_in o45.1 o45.2) ?_
        refine w_aload_n (by decide +kernel : am_at co_L_law 359 = some (1, .aload_n 0)) rfl ?_
        refine w_iload_n (by decide +kernel : am_at co_L_law 360 = some (1, .iload_n 3)) rfl ?_
        refine w_iconst (by decide +kernel : am_at co_L_law 361 = some (1, .iconst 3)) ?_
        obtain ⟨o51, h⟩ := h
        refine w_iadd (by decide +kernel : am_at co_L_law 362 = some (1, .iadd)) o51 ?_
        refine w_iald (by decide +kernel : am_at co_L_law 363 = some (1, .iaload)) (lw_in o47.1 o47.2) ?_
        refine w_callV (n := 4) (by decide +kernel : am_at co_L_law 364 = some (3, .invokevirtual 41)) pq_13_41 pm_X12_letter rfl rfl rfl ob_152 h (w_k0 fun x53 M53 h => ?_)
        refine w_icmp (tgt := 1233) (by decide +kernel : am_at co_L_law 367 = some (3, .if_icmp .eq 866)) rfl Iff.rfl (fun c53 => ?_) (fun c53 => ?_)
        · have h := h.1 c53
          exact w_weak (lk (lk (lk (lk ln)))) h
        · have c53 := c53
          have h := h.2 c53
          refine w_iconst (by decide +kernel : am_at co_L_law 370 = some (1, .iconst 0)) ?_
          exact w_zret (by decide +kernel : am_at co_L_law 371 = some (1, .ireturn)) (by decide) h
      · refine ⟨339, by rw [q]; rfl, ?_⟩
        have h := h.2.2.2.2.2.2.2.1 q
        refine w_aload_n (by decide +kernel : am_at co_L_law 372 = some (1, .aload_n 1)) rfl ?_
        refine w_aload_n (by decide +kernel : am_at co_L_law 373 = some (1, .aload_n 0)) rfl ?_
        refine w_iload_n (by decide +kernel : am_at co_L_law 374 = some (1, .iload_n 3)) rfl ?_
        refine w_iconst (by decide +kernel : am_at co_L_law 375 = some (1, .iconst 1)) ?_
        obtain ⟨o54, h⟩ := h
        refine w_iadd (by decide +kernel : am_at co_L_law 376 = some (1, .iadd)) o54 ?_
        obtain ⟨o55, h⟩ := h
        refine w_iald (by decide +kernel : am_at co_L_law 377 = some (1, .iaload)) (lw_in o55.1 o55.2) ?_
        refine w_aload_n (by decide +kernel : am_at co_L_law 378 = some (1, .aload_n 0)) rfl ?_
        refine w_iload_n (by decide +kernel : am_at co_L_law 379 = some (1, .iload_n 3)) rfl ?_
        refine w_iconst (by decide +kernel : am_at co_L_law 380 = some (1, .iconst 2)) ?_
        obtain ⟨o56, h⟩ := h
        refine w_iadd (by decide +kernel : am_at co_L_law 381 = some (1, .iadd)) o56 ?_
        obtain ⟨o57, h⟩ := h
        refine w_iald (by decide +kernel : am_at co_L_law 382 = some (1, .iaload)) (lw_in o57.1 o57.2) ?_
        refine w_callV (n := 3) (by decide +kernel : am_at co_L_law 383 = some (3, .invokevirtual 42)) pq_13_42 pm_X11_dreamer rfl rfl rfl ob_0 h (w_k0 fun x59 M59 h => ?_)
        refine w_aload_n (by decide +kernel : am_at co_L_law 386 = some (1, .aload_n 2)) rfl ?_
        refine w_aload_n (by decide +kernel : am_at co_L_law 387 = some (1, .aload_n 0)) rfl ?_
        refine w_iload_n (by decide +kernel : am_at co_L_law 388 = some (1, .iload_n 3)) rfl ?_
        refine w_iconst (by decide +kernel : am_at co_L_law 389 = some (1, .iconst 1)) ?_
        obtain ⟨o59, h⟩ := h
        refine w_iadd (by decide +kernel : am_at co_L_law 390 = some (1, .iadd)) o59 ?_
        refine w_iald (by decide +kernel : am_at co_L_law 391 = some (1, .iaload)) (lw_in o55.1 o55.2) ?_
        refine w_aload_n (by decide +kernel : am_at co_L_law 392 = some (1, .aload_n 0)) rfl ?_
        refine w_iload_n (by decide +kernel : am_at co_L_law 393 = some (1, .iload_n 3)) rfl ?_
        refine w_iconst (by decide +kernel : am_at co_L_law 394 = some (1, .iconst 2)) ?_
        obtain ⟨o60, h⟩ := h
        refine w_iadd (by decide +kernel : am_at co_L_law 395 = some (1, .iadd)) o60 ?_
        refine w_iald (by decide +kernel : am_at co_L_law 396 = some (1, .iaload)) (lw_in o57.1 o57.2) ?_
        refine w_callV (n := 3) (by decide +kernel : am_at co_L_law 397 = some (3, .invokevirtual 46)) pq_13_46 pm_X12_dreamer rfl rfl rfl ob_152 h (w_k0 fun x62 M62 h => ?_)
        refine w_icmp (tgt := 1233) (by decide +kernel : am_at co_L_law 400 = some (3, .if_icmp .eq 833)) rfl Iff.rfl (fun c62 => ?_) (fun c62 => ?_)
        · have h := h.1 c62
          exact w_weak (lk (lk (lk (lk ln)))) h
        · have c62 := c62
          have h := h.2 c62
          refine w_iconst (by decide +kernel : am_at co_L_law 403 = some (1, .iconst 0)) ?_
          exact w_zret (by decide +kernel : am_at co_L_law 404 = some (1, .ireturn)) (by decide) h
      · refine ⟨372, by rw [q]; rfl, ?_⟩
        have h := h.2.2.2.2.2.2.2.2.1 q
        refine w_aload_n (by decide +kernel : am_at co_L_law 405 = some (1, .aload_n 1)) rfl ?_
        refine w_aload_n (by decide +kernel : am_at co_L_law 406 = some (1, .aload_n 0)) rfl ?_
        refine w_iload_n (by decide +kernel : am_at co_L_law 407 = some (1, .iload_n 3)) rfl ?_
        refine w_iconst (by decide +kernel : am_at co_L_law 408 = some (1, .iconst 1)) ?_
        obtain ⟨o63, h⟩ := h
        refine w_iadd (by decide +kernel : am_at co_L_law 409 = some (1, .iadd)) o63 ?_
        obtain ⟨o64, h⟩ := h
        refine w_iald (by decide +kernel : am_at co_L_law 410 = some (1, .iaload)) (lw_in o64.1 o64.2) ?_
        refine w_aload_n (by decide +kernel : am_at co_L_law 411 = some (1, .aload_n 0)) rfl ?_
        refine w_iload_n (by decide +kernel : am_at co_L_law 412 = some (1, .iload_n 3)) rfl ?_
        refine w_iconst (by decide +kernel : am_at co_L_law 413 = some (1, .iconst 2)) ?_
        obtain ⟨o65, h⟩ := h
        refine w_iadd (by decide +kernel : am_at co_L_law 414 = some (1, .iadd)) o65 ?_
        obtain ⟨o66, h⟩ := h
        refine w_iald (by decide +kernel : am_at co_L_law 415 = some (1, .iaload)) (lw_in o66.1 o66.2) ?_
        refine w_aload_n (by decide +kernel : am_at co_L_law 416 = some (1, .aload_n 0)) rfl ?_
        refine w_iload_n (by decide +kernel : am_at co_L_law 417 = some (1, .iload_n 3)) rfl ?_
        refine w_iconst (by decide +kernel : am_at co_L_law 418 = some (1, .iconst 3)) ?_
        obtain ⟨o67, h⟩ := h
        refine w_iadd (by decide +kernel : am_at co_L_law 419 = some (1, .iadd)) o67 ?_
        obtain ⟨o68, h⟩ := h
        refine w_iald (by decide +kernel : am_at co_L_law 420 = some (1, .iaload)) (lw_in o68.1 o68.2) ?_
        refine w_callV (n := 4) (by decide +kernel : am_at co_L_law 421 = some (3, .invokevirtual 47)) pq_13_47 pm_X11_weigh rfl rfl rfl ob_0 h (w_k0 fun x70 M70 h => ?_)
        refine w_aload_n (by decide +kernel : am_at co_L_law 424 = some (1, .aload_n 2)) rfl ?_
        refine w_aload_n (by decide +kernel : am_at co_L_law 425 = some (1, .aload_n 0)) rfl ?_
        refine w_iload_n (by decide +kernel : am_at co_L_law 426 = some (1, .iload_n 3)) rfl ?_
        refine w_iconst (by decide +kernel : am_at co_L_law 427 = some (1, .iconst 1)) ?_
        obtain ⟨o70, h⟩ := h
        refine w_iadd (by decide +kernel : am_at co_L_law 428 = some (1, .iadd)) o70 ?_
        refine w_iald (by decide +kernel : am_at co_L_law 429 = some (1, .iaload)) (lw_in o64.1 o64.2) ?_
        refine w_aload_n (by decide +kernel : am_at co_L_law 430 = some (1, .aload_n 0)) rfl ?_
        refine w_iload_n (by decide +kernel : am_at co_L_law 431 = some (1, .iload_n 3)) rfl ?_
        refine w_iconst (by decide +kernel : am_at co_L_law 432 = some (1, .iconst 2)) ?_
        obtain ⟨o71, h⟩ := h
        refine w_iadd (by decide +kernel : am_at co_L_law 433 = some (1, .iadd)) o71 ?_
        refine w_iald (by decide +kernel : am_at co_L_law 434 = some (1, .iaload)) (lw_in o66.1 o66.2) ?_
        refine w_aload_n (by decide +kernel : am_at co_L_law 435 = some (1, .aload_n 0)) rfl ?_
        refine w_iload_n (by decide +kernel : am_at co_L_law 436 = some (1, .iload_n 3)) rfl ?_
        refine w_iconst (by decide +kernel : am_at co_L_law 437 = some (1, .iconst 3)) ?_
        obtain ⟨o72, h⟩ := h
        refine w_iadd (by decide +kernel : am_at co_L_law 438 = some (1, .iadd)) o72 ?_
        refine w_iald (by decide +kernel : am_at co_L_law 439 = some (1, .iaload)) (lw_in o68.1 o68.2) ?_
        refine w_callV (n := 4) (by decide +kernel : am_at co_L_law 440 = some (3, .invokevirtual 50)) pq_13_50 pm_X12_weigh rfl rfl rfl ob_152 h (w_k0 fun x74 M74 h => ?_)
        refine w_icmp (tgt := 1233) (by decide +kernel : am_at co_L_law 443 = some (3, .if_icmp .eq 790)) rfl Iff.rfl (fun c74 => ?_) (fun c74 => ?_)
        · have h := h.1 c74
          exact w_weak (lk (lk (lk (lk ln)))) h
        · have c74 := c74
          have h := h.2 c74
          refine w_iconst (by decide +kernel : am_at co_L_law 446 = some (1, .iconst 0)) ?_
          exact w_zret (by decide +kernel : am_at co_L_law 447 = some (1, .ireturn)) (by decide) h
      · refine ⟨415, by rw [q]; rfl, ?_⟩
        have h := h.2.2.2.2.2.2.2.2.2.1 q
        refine w_aload_n (by decide +kernel : am_at co_L_law 448 = some (1, .aload_n 1)) rfl ?_
        refine w_aload_n (by decide +kernel : am_at co_L_law 449 = some (1, .aload_n 0)) rfl ?_
        refine w_iload_n (by decide +kernel : am_at co_L_law 450 = some (1, .iload_n 3)) rfl ?_
        refine w_iconst (by decide +kernel : am_at co_L_law 451 = some (1, .iconst 1)) ?_
        obtain ⟨o75, h⟩ := h
        refine w_iadd (by decide +kernel : am_at co_L_law 452 = some (1, .iadd)) o75 ?_
        obtain ⟨o76, h⟩ := h
        refine w_iald (by decide +kernel : am_at co_L_law 453 = some (1, .iaload)) (lw_in o76.1 o76.2) ?_
        refine w_callV (n := 2) (by decide +kernel : am_at co_L_law 454 = some (3, .invokevirtual 51)) pq_13_51 pm_X11_guide rfl rfl rfl ob_0 h (w_k0 fun x78 M78 h => ?_)
        refine w_aload_n (by decide +kernel : am_at co_L_law 457 = some (1, .aload_n 2)) rfl ?_
        refine w_aload_n (by decide +kernel : am_at co_L_law 458 = some (1, .aload_n 0)) rfl ?_
        refine w_iload_n (by decide +kernel : am_at co_L_law 459 = some (1, .iload_n 3)) rfl ?_
        refine w_iconst (by decide +kernel : am_at co_L_law 460 = some (1, .iconst 1)) ?_
        obtain ⟨o78, h⟩ := h
        refine w_iadd (by decide +kernel : am_at co_L_law 461 = some (1, .iadd)) o78 ?_
        refine w_iald (by decide +kernel : am_at co_L_law 462 = some (1, .iaload)) (lw_in o76.1 o76.2) ?_
        refine w_callV (n := 2) (by decide +kernel : am_at co_L_law 463 = some (3, .invokevirtual 54)) pq_13_54 pm_X12_guide rfl rfl rfl ob_152 h (w_k0 fun x80 M80 h => ?_)
        refine w_icmp (tgt := 1233) (by decide +kernel : am_at co_L_law 466 = some (3, .if_icmp .eq 767)) rfl Iff.rfl (fun c80 => ?_) (fun c80 => ?_)
        · have h := h.1 c80
          exact w_weak (lk (lk (lk (lk ln)))) h
        · have c80 := c80
          have h := h.2 c80
          refine w_iconst (by decide +kernel : am_at co_L_law 469 = some (1, .iconst 0)) ?_
          exact w_zret (by decide +kernel : am_at co_L_law 470 = some (1, .ireturn)) (by decide) h
      · refine ⟨438, by rw [q]; rfl, ?_⟩
        have h := h.2.2.2.2.2.2.2.2.2.2.1 q
        refine w_aload_n (by decide +kernel : am_at co_L_law 471 = some (1, .aload_n 1)) rfl ?_
        refine w_aload_n (by decide +kernel : am_at co_L_law 472 = some (1, .aload_n 0)) rfl ?_
        refine w_iload_n (by decide +kernel : am_at co_L_law 473 = some (1, .iload_n 3)) rfl ?_
        refine w_iconst (by decide +kernel : am_at co_L_law 474 = some (1, .iconst 1)) ?_
        obtain ⟨o81, h⟩ := h
        refine w_iadd (by decide +kernel : am_at co_L_law 475 = some (1, .iadd)) o81 ?_
        obtain ⟨o82, h⟩ := h
        refine w_iald (by decide +kernel : am_at co_L_law 476 = some (1, .iaload)) (lw_in o82.1 o82.2) ?_
        refine w_aload_n (by decide +kernel : am_at co_L_law 477 = some (1, .aload_n 0)) rfl ?_
        refine w_iload_n (by decide +kernel : am_at co_L_law 478 = some (1, .iload_n 3)) rfl ?_
        refine w_iconst (by decide +kernel : am_at co_L_law 479 = some (1, .iconst 2)) ?_
        obtain ⟨o83, h⟩ := h
        refine w_iadd (by decide +kernel : am_at co_L_law 480 = some (1, .iadd)) o83 ?_
        obtain ⟨o84, h⟩ := h
        refine w_iald (by decide +kernel : am_at co_L_law 481 = some (1, .iaload)) (lw_in o84.1 o84.2) ?_
        refine w_callV (n := 3) (by decide +kernel : am_at co_L_law 482 = some (3, .invokevirtual 55)) pq_13_55 pm_X11_room rfl rfl rfl ob_0 h (w_k0 fun x86 M86 h => ?_)
        refine w_aload_n (by decide +kernel : am_at co_L_law 485 = some (1, .aload_n 2)) rfl ?_
        refine w_aload_n (by decide +kernel : am_at co_L_law 486 = some (1, .aload_n 0)) rfl ?_
        refine w_iload_n (by decide +kernel : am_at co_L_law 487 = some (1, .iload_n 3)) rfl ?_
        refine w_iconst (by decide +kernel : am_at co_L_law 488 = some (1, .iconst 1)) ?_
        obtain ⟨o86, h⟩ := h
        refine w_iadd (by decide +kernel : am_at co_L_law 489 = some (1, .iadd)) o86 ?_
        refine w_iald (by decide +kernel : am_at co_L_law 490 = some (1, .iaload)) (lw_in o82.1 o82.2) ?_
        refine w_aload_n (by decide +kernel : am_at co_L_law 491 = some (1, .aload_n 0)) rfl ?_
        refine w_iload_n (by decide +kernel : am_at co_L_law 492 = some (1, .iload_n 3)) rfl ?_
        refine w_iconst (by decide +kernel : am_at co_L_law 493 = some (1, .iconst 2)) ?_
        obtain ⟨o87, h⟩ := h
        refine w_iadd (by decide +kernel : am_at co_L_law 494 = some (1, .iadd)) o87 ?_
        refine w_iald (by decide +kernel : am_at co_L_law 495 = some (1, .iaload)) (lw_in o84.1 o84.2) ?_
        refine w_callV (n := 3) (by decide +kernel : am_at co_L_law 496 = some (3, .invokevirtual 58)) pq_13_58 pm_X12_room rfl rfl rfl ob_152 h (w_k0 fun x89 M89 h => ?_)
        refine w_icmp (tgt := 1233) (by decide +kernel : am_at co_L_law 499 = some (3, .if_icmp .eq 734)) rfl Iff.rfl (fun c89 => ?_) (fun c89 => ?_)
        · have h := h.1 c89
          exact w_weak (lk (lk (lk (lk ln)))) h
        · have c89 := c89
          have h := h.2 c89
          refine w_iconst (by decide +kernel : am_at co_L_law 502 = some (1, .iconst 0)) ?_
          exact w_zret (by decide +kernel : am_at co_L_law 503 = some (1, .ireturn)) (by decide) h
      · refine ⟨471, by rw [q]; rfl, ?_⟩
        have h := h.2.2.2.2.2.2.2.2.2.2.2.1 q
        refine w_aload_n (by decide +kernel : am_at co_L_law 504 = some (1, .aload_n 1)) rfl ?_
        refine w_aload_n (by decide +kernel : am_at co_L_law 505 = some (1, .aload_n 0)) rfl ?_
        refine w_iload_n (by decide +kernel : am_at co_L_law 506 = some (1, .iload_n 3)) rfl ?_
        refine w_iconst (by decide +kernel : am_at co_L_law 507 = some (1, .iconst 1)) ?_
        obtain ⟨o90, h⟩ := h
        refine w_iadd (by decide +kernel : am_at co_L_law 508 = some (1, .iadd)) o90 ?_
        obtain ⟨o91, h⟩ := h
        refine w_iald (by decide +kernel : am_at co_L_law 509 = some (1, .iaload)) (lw_in o91.1 o91.2) ?_
        refine w_aload_n (by decide +kernel : am_at co_L_law 510 = some (1, .aload_n 0)) rfl ?_
        refine w_iload_n (by decide +kernel : am_at co_L_law 511 = some (1, .iload_n 3)) rfl ?_
        refine w_iconst (by decide +kernel : am_at co_L_law 512 = some (1, .iconst 2)) ?_
        obtain ⟨o92, h⟩ := h
        refine w_iadd (by decide +kernel : am_at co_L_law 513 = some (1, .iadd)) o92 ?_
        obtain ⟨o93, h⟩ := h
        refine w_iald (by decide +kernel : am_at co_L_law 514 = some (1, .iaload)) (lw_in o93.1 o93.2) ?_
        refine w_aload_n (by decide +kernel : am_at co_L_law 515 = some (1, .aload_n 0)) rfl ?_
        refine w_iload_n (by decide +kernel : am_at co_L_law 516 = some (1, .iload_n 3)) rfl ?_
        refine w_iconst (by decide +kernel : am_at co_L_law 517 = some (1, .iconst 3)) ?_
        obtain ⟨o94, h⟩ := h
        refine w_iadd (by decide +kernel : am_at co_L_law 518 = some (1, .iadd)) o94 ?_
        obtain ⟨o95, h⟩ := h
        refine w_iald (by decide +kernel : am_at co_L_law 519 = some (1, .iaload)) (lw_in o95.1 o95.2) ?_
        refine w_callV (n := 4) (by decide +kernel : am_at co_L_law 520 = some (3, .invokevirtual 59)) pq_13_59 pm_X11_later rfl rfl rfl ob_0 h (w_k0 fun x97 M97 h => ?_)
        refine w_aload_n (by decide +kernel : am_at co_L_law 523 = some (1, .aload_n 2)) rfl ?_
        refine w_aload_n (by decide +kernel : am_at co_L_law 524 = some (1, .aload_n 0)) rfl ?_
        refine w_iload_n (by decide +kernel : am_at co_L_law 525 = some (1, .iload_n 3)) rfl ?_
        refine w_iconst (by decide +kernel : am_at co_L_law 526 = some (1, .iconst 1)) ?_
        obtain ⟨o97, h⟩ := h
        refine w_iadd (by decide +kernel : am_at co_L_law 527 = some (1, .iadd)) o97 ?_
        refine w_iald (by decide +kernel : am_at co_L_law 528 = some (1, .iaload)) (lw_in o91.1 o91.2) ?_
        refine w_aload_n (by decide +kernel : am_at co_L_law 529 = some (1, .aload_n 0)) rfl ?_
        refine w_iload_n (by decide +kernel : am_at co_L_law 530 = some (1, .iload_n 3)) rfl ?_
        refine w_iconst (by decide +kernel : am_at co_L_law 531 = some (1, .iconst 2)) ?_
        obtain ⟨o98, h⟩ := h
        refine w_iadd (by decide +kernel : am_at co_L_law 532 = some (1, .iadd)) o98 ?_
        refine w_iald (by decide +kernel : am_at co_L_law 533 = some (1, .iaload)) (lw_in o93.1 o93.2) ?_
        refine w_aload_n (by decide +kernel : am_at co_L_law 534 = some (1, .aload_n 0)) rfl ?_
        refine w_iload_n (by decide +kernel : am_at co_L_law 535 = some (1, .iload_n 3)) rfl ?_
        refine w_iconst (by decide +kernel : am_at co_L_law 536 = some (1, .iconst 3)) ?_
        obtain ⟨o99, h⟩ := h
        refine w_iadd (by decide +kernel : am_at co_L_law 537 = some (1, .iadd)) o99 ?_
        refine w_iald (by decide +kernel : am_at co_L_law 538 = some (1, .iaload)) (lw_in o95.1 o95.2) ?_
        refine w_callV (n := 4) (by decide +kernel : am_at co_L_law 539 = some (3, .invokevirtual 62)) pq_13_62 pm_X12_later rfl rfl rfl ob_152 h (w_k0 fun x101 M101 h => ?_)
        refine w_icmp (tgt := 1233) (by decide +kernel : am_at co_L_law 542 = some (3, .if_icmp .eq 691)) rfl Iff.rfl (fun c101 => ?_) (fun c101 => ?_)
        · have h := h.1 c101
          exact w_weak (lk (lk (lk (lk ln)))) h
        · have c101 := c101
          have h := h.2 c101
          refine w_iconst (by decide +kernel : am_at co_L_law 545 = some (1, .iconst 0)) ?_
          exact w_zret (by decide +kernel : am_at co_L_law 546 = some (1, .ireturn)) (by decide) h
      · refine ⟨514, by rw [q]; rfl, ?_⟩
        have h := h.2.2.2.2.2.2.2.2.2.2.2.2.1 q
        refine w_aload_n (by decide +kernel : am_at co_L_law 547 = some (1, .aload_n 1)) rfl ?_
        refine w_aload_n (by decide +kernel : am_at co_L_law 548 = some (1, .aload_n 0)) rfl ?_
        refine w_iload_n (by decide +kernel : am_at co_L_law 549 = some (1, .iload_n 3)) rfl ?_
        refine w_iconst (by decide +kernel : am_at co_L_law 550 = some (1, .iconst 1)) ?_
        obtain ⟨o102, h⟩ := h
        refine w_iadd (by decide +kernel : am_at co_L_law 551 = some (1, .iadd)) o102 ?_
        obtain ⟨o103, h⟩ := h
        refine w_iald (by decide +kernel : am_at co_L_law 552 = some (1, .iaload)) (lw_in o103.1 o103.2) ?_
        refine w_callV (n := 2) (by decide +kernel : am_at co_L_law 553 = some (3, .invokevirtual 63)) pq_13_63 pm_X11_till rfl rfl rfl ob_0 h (w_k0 fun x105 M105 h => ?_)
        refine w_aload_n (by decide +kernel : am_at co_L_law 556 = some (1, .aload_n 2)) rfl ?_
        refine w_aload_n (by decide +kernel : am_at co_L_law 557 = some (1, .aload_n 0)) rfl ?_
        refine w_iload_n (by decide +kernel : am_at co_L_law 558 = some (1, .iload_n 3)) rfl ?_
        refine w_iconst (by decide +kernel : am_at co_L_law 559 = some (1, .iconst 1)) ?_
        obtain ⟨o105, h⟩ := h
        refine w_iadd (by decide +kernel : am_at co_L_law 560 = some (1, .iadd)) o105 ?_
        refine w_iald (by decide +kernel : am_at co_L_law 561 = some (1, .iaload)) (lw_in o103.1 o103.2) ?_
        refine w_callV (n := 2) (by decide +kernel : am_at co_L_law 562 = some (3, .invokevirtual 66)) pq_13_66 pm_X12_till rfl rfl rfl ob_152 h (w_k0 fun x107 M107 h => ?_)
        refine w_icmp (tgt := 1233) (by decide +kernel : am_at co_L_law 565 = some (3, .if_icmp .eq 668)) rfl Iff.rfl (fun c107 => ?_) (fun c107 => ?_)
        · have h := h.1 c107
          exact w_weak (lk (lk (lk (lk ln)))) h
        · have c107 := c107
          have h := h.2 c107
          refine w_iconst (by decide +kernel : am_at co_L_law 568 = some (1, .iconst 0)) ?_
          exact w_zret (by decide +kernel : am_at co_L_law 569 = some (1, .ireturn)) (by decide) h
      · refine ⟨537, by rw [q]; rfl, ?_⟩
        have h := h.2.2.2.2.2.2.2.2.2.2.2.2.2.1 q
        refine w_aload_n (by decide +kernel : am_at co_L_law 570 = some (1, .aload_n 1)) rfl ?_
        refine w_aload_n (by decide +kernel : am_at co_L_law 571 = some (1, .aload_n 0)) rfl ?_
        refine w_iload_n (by decide +kernel : am_at co_L_law 572 = some (1, .iload_n 3)) rfl ?_
        refine w_iconst (by decide +kernel : am_at co_L_law 573 = some (1, .iconst 1)) ?_
        obtain ⟨o108, h⟩ := h
        refine w_iadd (by decide +kernel : am_at co_L_law 574 = some (1, .iadd)) o108 ?_
        obtain ⟨o109, h⟩ := h
        refine w_iald (by decide +kernel : am_at co_L_law 575 = some (1, .iaload)) (lw_in o109.1 o109.2) ?_
        refine w_aload_n (by decide +kernel : am_at co_L_law 576 = some (1, .aload_n 0)) rfl ?_
        refine w_iload_n (by decide +kernel : am_at co_L_law 577 = some (1, .iload_n 3)) rfl ?_
        refine w_iconst (by decide +kernel : am_at co_L_law 578 = some (1, .iconst 2)) ?_
        obtain ⟨o110, h⟩ := h
        refine w_iadd (by decide +kernel : am_at co_L_law 579 = some (1, .iadd)) o110 ?_
        obtain ⟨o111, h⟩ := h
        refine w_iald (by decide +kernel : am_at co_L_law 580 = some (1, .iaload)) (lw_in o111.1 o111.2) ?_
        refine w_callV (n := 3) (by decide +kernel : am_at co_L_law 581 = some (3, .invokevirtual 67)) pq_13_67 pm_X11_again rfl rfl rfl ob_0 h (w_k0 fun x113 M113 h => ?_)
        refine w_aload_n (by decide +kernel : am_at co_L_law 584 = some (1, .aload_n 2)) rfl ?_
        refine w_aload_n (by decide +kernel : am_at co_L_law 585 = some (1, .aload_n 0)) rfl ?_
        refine w_iload_n (by decide +kernel : am_at co_L_law 586 = some (1, .iload_n 3)) rfl ?_
        refine w_iconst (by decide +kernel : am_at co_L_law 587 = some (1, .iconst 1)) ?_
        obtain ⟨o113, h⟩ := h
        refine w_iadd (by decide +kernel : am_at co_L_law 588 = some (1, .iadd)) o113 ?_
        refine w_iald (by decide +kernel : am_at co_L_law 589 = some (1, .iaload)) (lw_in o109.1 o109.2) ?_
        refine w_aload_n (by decide +kernel : am_at co_L_law 590 = some (1, .aload_n 0)) rfl ?_
        refine w_iload_n (by decide +kernel : am_at co_L_law 591 = some (1, .iload_n 3)) rfl ?_
        refine w_iconst (by decide +kernel : am_at co_L_law 592 = some (1, .iconst 2)) ?_
        obtain ⟨o114, h⟩ := h
        refine w_iadd (by decide +kernel : am_at co_L_law 593 = some (1, .iadd)) o114 ?_
        refine w_iald (by decide +kernel : am_at co_L_law 594 = some (1, .iaload)) (lw_in o111.1 o111.2) ?_
        refine w_callV (n := 3) (by decide +kernel : am_at co_L_law 595 = some (3, .invokevirtual 70)) pq_13_70 pm_X12_again rfl rfl rfl ob_152 h (w_k0 fun x116 M116 h => ?_)
        refine w_icmp (tgt := 1233) (by decide +kernel : am_at co_L_law 598 = some (3, .if_icmp .eq 635)) rfl Iff.rfl (fun c116 => ?_) (fun c116 => ?_)
        · have h := h.1 c116
          exact w_weak (lk (lk (lk (lk ln)))) h
        · have c116 := c116
          have h := h.2 c116
          refine w_iconst (by decide +kernel : am_at co_L_law 601 = some (1, .iconst 0)) ?_
          exact w_zret (by decide +kernel : am_at co_L_law 602 = some (1, .ireturn)) (by decide) h
      · refine ⟨570, by rw [q]; rfl, ?_⟩
        have h := h.2.2.2.2.2.2.2.2.2.2.2.2.2.2.1 q
        refine w_aload_n (by decide +kernel : am_at co_L_law 603 = some (1, .aload_n 1)) rfl ?_
        refine w_aload_n (by decide +kernel : am_at co_L_law 604 = some (1, .aload_n 0)) rfl ?_
        refine w_iload_n (by decide +kernel : am_at co_L_law 605 = some (1, .iload_n 3)) rfl ?_
        refine w_iconst (by decide +kernel : am_at co_L_law 606 = some (1, .iconst 1)) ?_
        obtain ⟨o117, h⟩ := h
        refine w_iadd (by decide +kernel : am_at co_L_law 607 = some (1, .iadd)) o117 ?_
        obtain ⟨o118, h⟩ := h
        refine w_iald (by decide +kernel : am_at co_L_law 608 = some (1, .iaload)) (lw_in o118.1 o118.2) ?_
        refine w_aload_n (by decide +kernel : am_at co_L_law 609 = some (1, .aload_n 0)) rfl ?_
        refine w_iload_n (by decide +kernel : am_at co_L_law 610 = some (1, .iload_n 3)) rfl ?_
        refine w_iconst (by decide +kernel : am_at co_L_law 611 = some (1, .iconst 2)) ?_
        obtain ⟨o119, h⟩ := h
        refine w_iadd (by decide +kernel : am_at co_L_law 612 = some (1, .iadd)) o119 ?_
        obtain ⟨o120, h⟩ := h
        refine w_iald (by decide +kernel : am_at co_L_law 613 = some (1, .iaload)) (lw_in o120.1 o120.2) ?_
        refine w_callV (n := 3) (by decide +kernel : am_at co_L_law 614 = some (3, .invokevirtual 71)) pq_13_71 pm_X11_soonest rfl rfl rfl ob_0 h (w_k0 fun x122 M122 h => ?_)
        refine w_aload_n (by decide +kernel : am_at co_L_law 617 = some (1, .aload_n 2)) rfl ?_
        refine w_aload_n (by decide +kernel : am_at co_L_law 618 = some (1, .aload_n 0)) rfl ?_
        refine w_iload_n (by decide +kernel : am_at co_L_law 619 = some (1, .iload_n 3)) rfl ?_
        refine w_iconst (by decide +kernel : am_at co_L_law 620 = some (1, .iconst 1)) ?_
        obtain ⟨o122, h⟩ := h
        refine w_iadd (by decide +kernel : am_at co_L_law 621 = some (1, .iadd)) o122 ?_
        refine w_iald (by decide +kernel : am_at co_L_law 622 = some (1, .iaload)) (lw_in o118.1 o118.2) ?_
        refine w_aload_n (by decide +kernel : am_at co_L_law 623 = some (1, .aload_n 0)) rfl ?_
        refine w_iload_n (by decide +kernel : am_at co_L_law 624 = some (1, .iload_n 3)) rfl ?_
        refine w_iconst (by decide +kernel : am_at co_L_law 625 = some (1, .iconst 2)) ?_
        obtain ⟨o123, h⟩ := h
        refine w_iadd (by decide +kernel : am_at co_L_law 626 = some (1, .iadd)) o123 ?_
        refine w_iald (by decide +kernel : am_at co_L_law 627 = some (1, .iaload)) (lw_in o120.1 o120.2) ?_
        refine w_callV (n := 3) (by decide +kernel : am_at co_L_law 628 = some (3, .invokevirtual 74)) pq_13_74 pm_X12_soonest rfl rfl rfl ob_152 h (w_k0 fun x125 M125 h => ?_)
        refine w_icmp (tgt := 1233) (by decide +kernel : am_at co_L_law 631 = some (3, .if_icmp .eq 602)) rfl Iff.rfl (fun c125 => ?_) (fun c125 => ?_)
        · have h := h.1 c125
          exact w_weak (lk (lk (lk (lk ln)))) h
        · have c125 := c125
          have h := h.2 c125
          refine w_iconst (by decide +kernel : am_at co_L_law 634 = some (1, .iconst 0)) ?_
          exact w_zret (by decide +kernel : am_at co_L_law 635 = some (1, .ireturn)) (by decide) h
      · refine ⟨603, by rw [q]; rfl, ?_⟩
        have h := h.2.2.2.2.2.2.2.2.2.2.2.2.2.2.2.1 q
        refine w_aload_n (by decide +kernel : am_at co_L_law 636 = some (1, .aload_n 1)) rfl ?_
        refine w_aload_n (by decide +kernel : am_at co_L_law 637 = some (1, .aload_n 0)) rfl ?_
        refine w_iload_n (by decide +kernel : am_at co_L_law 638 = some (1, .iload_n 3)) rfl ?_
        refine w_iconst (by decide +kernel : am_at co_L_law 639 = some (1, .iconst 1)) ?_
        obtain ⟨o126, h⟩ := h
        refine w_iadd (by decide +kernel : am_at co_L_law 640 = some (1, .iadd)) o126 ?_
        obtain ⟨o127, h⟩ := h
        refine w_iald (by decide +kernel : am_at co_L_law 641 = some (1, .iaload)) (lw_in o127.1 o127.2) ?_
        refine w_aload_n (by decide +kernel : am_at co_L_law 642 = some (1, .aload_n 0)) rfl ?_
        refine w_iload_n (by decide +kernel : am_at co_L_law 643 = some (1, .iload_n 3)) rfl ?_
        refine w_iconst (by decide +kernel : am_at co_L_law 644 = some (1, .iconst 2)) ?_
        obtain ⟨o128, h⟩ := h
        refine w_iadd (by decide +kernel : am_at co_L_law 645 = some (1, .iadd)) o128 ?_
        obtain ⟨o129, h⟩ := h
        refine w_iald (by decide +kernel : am_at co_L_law 646 = some (1, .iaload)) (lw_in o129.1 o129.2) ?_
        refine w_callV (n := 3) (by decide +kernel : am_at co_L_law 647 = some (3, .invokevirtual 75)) pq_13_75 pm_X11_least rfl rfl rfl ob_0 h (w_k0 fun x131 M131 h => ?_)
        refine w_aload_n (by decide +kernel : am_at co_L_law 650 = some (1, .aload_n 2)) rfl ?_
        refine w_aload_n (by decide +kernel : am_at co_L_law 651 = some (1, .aload_n 0)) rfl ?_
        refine w_iload_n (by decide +kernel : am_at co_L_law 652 = some (1, .iload_n 3)) rfl ?_
        refine w_iconst (by decide +kernel : am_at co_L_law 653 = some (1, .iconst 1)) ?_
        obtain ⟨o131, h⟩ := h
        refine w_iadd (by decide +kernel : am_at co_L_law 654 = some (1, .iadd)) o131 ?_
        refine w_iald (by decide +kernel : am_at co_L_law 655 = some (1, .iaload)) (lw_in o127.1 o127.2) ?_
        refine w_aload_n (by decide +kernel : am_at co_L_law 656 = some (1, .aload_n 0)) rfl ?_
        refine w_iload_n (by decide +kernel : am_at co_L_law 657 = some (1, .iload_n 3)) rfl ?_
        refine w_iconst (by decide +kernel : am_at co_L_law 658 = some (1, .iconst 2)) ?_
        obtain ⟨o132, h⟩ := h
        refine w_iadd (by decide +kernel : am_at co_L_law 659 = some (1, .iadd)) o132 ?_
        refine w_iald (by decide +kernel : am_at co_L_law 660 = some (1, .iaload)) (lw_in o129.1 o129.2) ?_
        refine w_callV (n := 3) (by decide +kernel : am_at co_L_law 661 = some (3, .invokevirtual 78)) pq_13_78 pm_X12_least rfl rfl rfl ob_152 h (w_k0 fun x134 M134 h => ?_)
        refine w_icmp (tgt := 1233) (by decide +kernel : am_at co_L_law 664 = some (3, .if_icmp .eq 569)) rfl Iff.rfl (fun c134 => ?_) (fun c134 => ?_)
        · have h := h.1 c134
          exact w_weak (lk (lk (lk (lk ln)))) h
        · have c134 := c134
          have h := h.2 c134
          refine w_iconst (by decide +kernel : am_at co_L_law 667 = some (1, .iconst 0)) ?_
          exact w_zret (by decide +kernel : am_at co_L_law 668 = some (1, .ireturn)) (by decide) h
      · refine ⟨636, by rw [q]; rfl, ?_⟩
        have h := h.2.2.2.2.2.2.2.2.2.2.2.2.2.2.2.2.1 q
        refine w_aload_n (by decide +kernel : am_at co_L_law 669 = some (1, .aload_n 1)) rfl ?_
        refine w_aload_n (by decide +kernel : am_at co_L_law 670 = some (1, .aload_n 0)) rfl ?_
        refine w_iload_n (by decide +kernel : am_at co_L_law 671 = some (1, .iload_n 3)) rfl ?_
        refine w_iconst (by decide +kernel : am_at co_L_law 672 = some (1, .iconst 1)) ?_
        obtain ⟨o135, h⟩ := h
        refine w_iadd (by decide +kernel : am_at co_L_law 673 = some (1, .iadd)) o135 ?_
        obtain ⟨o136, h⟩ := h
        refine w_iald (by decide +kernel : am_at co_L_law 674 = some (1, .iaload)) (lw_in o136.1 o136.2) ?_
        refine w_aload_n (by decide +kernel : am_at co_L_law 675 = some (1, .aload_n 0)) rfl ?_
        refine w_iload_n (by decide +kernel : am_at co_L_law 676 = some (1, .iload_n 3)) rfl ?_
        refine w_iconst (by decide +kernel : am_at co_L_law 677 = some (1, .iconst 2)) ?_
        obtain ⟨o137, h⟩ := h
        refine w_iadd (by decide +kernel : am_at co_L_law 678 = some (1, .iadd)) o137 ?_
        obtain ⟨o138, h⟩ := h
        refine w_iald (by decide +kernel : am_at co_L_law 679 = some (1, .iaload)) (lw_in o138.1 o138.2) ?_
        refine w_callV (n := 3) (by decide +kernel : am_at co_L_law 680 = some (3, .invokevirtual 79)) pq_13_79 pm_X11_along rfl rfl rfl ob_0 h (w_k0 fun x140 M140 h => ?_)
        refine w_aload_n (by decide +kernel : am_at co_L_law 683 = some (1, .aload_n 2)) rfl ?_
        refine w_aload_n (by decide +kernel : am_at co_L_law 684 = some (1, .aload_n 0)) rfl ?_
        refine w_iload_n (by decide +kernel : am_at co_L_law 685 = some (1, .iload_n 3)) rfl ?_
        refine w_iconst (by decide +kernel : am_at co_L_law 686 = some (1, .iconst 1)) ?_
        obtain ⟨o140, h⟩ := h
        refine w_iadd (by decide +kernel : am_at co_L_law 687 = some (1, .iadd)) o140 ?_
        refine w_iald (by decide +kernel : am_at co_L_law 688 = some (1, .iaload)) (lw_in o136.1 o136.2) ?_
        refine w_aload_n (by decide +kernel : am_at co_L_law 689 = some (1, .aload_n 0)) rfl ?_
        refine w_iload_n (by decide +kernel : am_at co_L_law 690 = some (1, .iload_n 3)) rfl ?_
        refine w_iconst (by decide +kernel : am_at co_L_law 691 = some (1, .iconst 2)) ?_
        obtain ⟨o141, h⟩ := h
        refine w_iadd (by decide +kernel : am_at co_L_law 692 = some (1, .iadd)) o141 ?_
        refine w_iald (by decide +kernel : am_at co_L_law 693 = some (1, .iaload)) (lw_in o138.1 o138.2) ?_
        refine w_callV (n := 3) (by decide +kernel : am_at co_L_law 694 = some (3, .invokevirtual 82)) pq_13_82 pm_X12_along rfl rfl rfl ob_152 h (w_k0 fun x143 M143 h => ?_)
        refine w_icmp (tgt := 1233) (by decide +kernel : am_at co_L_law 697 = some (3, .if_icmp .eq 536)) rfl Iff.rfl (fun c143 => ?_) (fun c143 => ?_)
        · have h := h.1 c143
          exact w_weak (lk (lk (lk (lk ln)))) h
        · have c143 := c143
          have h := h.2 c143
          refine w_iconst (by decide +kernel : am_at co_L_law 700 = some (1, .iconst 0)) ?_
          exact w_zret (by decide +kernel : am_at co_L_law 701 = some (1, .ireturn)) (by decide) h
      · refine ⟨669, by rw [q]; rfl, ?_⟩
        have h := h.2.2.2.2.2.2.2.2.2.2.2.2.2.2.2.2.2.1 q
        refine w_aload_n (by decide +kernel : am_at co_L_law 702 = some (1, .aload_n 1)) rfl ?_
        refine w_aload_n (by decide +kernel : am_at co_L_law 703 = some (1, .aload_n 0)) rfl ?_
        refine w_iload_n (by decide +kernel : am_at co_L_law 704 = some (1, .iload_n 3)) rfl ?_
        refine w_iconst (by decide +kernel : am_at co_L_law 705 = some (1, .iconst 1)) ?_
        obtain ⟨o144, h⟩ := h
        refine w_iadd (by decide +kernel : am_at co_L_law 706 = some (1, .iadd)) o144 ?_
        obtain ⟨o145, h⟩ := h
        refine w_iald (by decide +kernel : am_at co_L_law 707 = some (1, .iaload)) (lw_in o145.1 o145.2) ?_
        refine w_aload_n (by decide +kernel : am_at co_L_law 708 = some (1, .aload_n 0)) rfl ?_
        refine w_iload_n (by decide +kernel : am_at co_L_law 709 = some (1, .iload_n 3)) rfl ?_
        refine w_iconst (by decide +kernel : am_at co_L_law 710 = some (1, .iconst 2)) ?_
        obtain ⟨o146, h⟩ := h
        refine w_iadd (by decide +kernel : am_at co_L_law 711 = some (1, .iadd)) o146 ?_
        obtain ⟨o147, h⟩ := h
        refine w_iald (by decide +kernel : am_at co_L_law 712 = some (1, .iaload)) (lw_in o147.1 o147.2) ?_
        refine w_aload_n (by decide +kernel : am_at co_L_law 713 = some (1, .aload_n 0)) rfl ?_
        refine w_iload_n (by decide +kernel : am_at co_L_law 714 = some (1, .iload_n 3)) rfl ?_
        refine w_iconst (by decide +kernel : am_at co_L_law 715 = some (1, .iconst 3)) ?_
        obtain ⟨o148, h⟩ := h
        refine w_iadd (by decide +kernel : am_at co_L_law 716 = some (1, .iadd)) o148 ?_
        obtain ⟨o149, h⟩ := h
        refine w_iald (by decide +kernel : am_at co_L_law 717 = some (1, .iaload)) (lw_in o149.1 o149.2) ?_
        refine w_callV (n := 4) (by decide +kernel : am_at co_L_law 718 = some (3, .invokevirtual 83)) pq_13_83 pm_X11_days rfl rfl rfl ob_0 h (w_k0 fun x151 M151 h => ?_)
        refine w_aload_n (by decide +kernel : am_at co_L_law 721 = some (1, .aload_n 2)) rfl ?_
        refine w_aload_n (by decide +kernel : am_at co_L_law 722 = some (1, .aload_n 0)) rfl ?_
        refine w_iload_n (by decide +kernel : am_at co_L_law 723 = some (1, .iload_n 3)) rfl ?_
        refine w_iconst (by decide +kernel : am_at co_L_law 724 = some (1, .iconst 1)) ?_
        obtain ⟨o151, h⟩ := h
        refine w_iadd (by decide +kernel : am_at co_L_law 725 = some (1, .iadd)) o151 ?_
        refine w_iald (by decide +kernel : am_at co_L_law 726 = some (1, .iaload)) (lw_in o145.1 o145.2) ?_
        refine w_aload_n (by decide +kernel : am_at co_L_law 727 = some (1, .aload_n 0)) rfl ?_
        refine w_iload_n (by decide +kernel : am_at co_L_law 728 = some (1, .iload_n 3)) rfl ?_
        refine w_iconst (by decide +kernel : am_at co_L_law 729 = some (1, .iconst 2)) ?_
        obtain ⟨o152, h⟩ := h
        refine w_iadd (by decide +kernel : am_at co_L_law 730 = some (1, .iadd)) o152 ?_
        refine w_iald (by decide +kernel : am_at co_L_law 731 = some (1, .iaload)) (lw_in o147.1 o147.2) ?_
        refine w_aload_n (by decide +kernel : am_at co_L_law 732 = some (1, .aload_n 0)) rfl ?_
        refine w_iload_n (by decide +kernel : am_at co_L_law 733 = some (1, .iload_n 3)) rfl ?_
        refine w_iconst (by decide +kernel : am_at co_L_law 734 = some (1, .iconst 3)) ?_
        obtain ⟨o153, h⟩ := h
        refine w_iadd (by decide +kernel : am_at co_L_law 735 = some (1, .iadd)) o153 ?_
        refine w_iald (by decide +kernel : am_at co_L_law 736 = some (1, .iaload)) (lw_in o149.1 o149.2) ?_
        refine w_callV (n := 4) (by decide +kernel : am_at co_L_law 737 = some (3, .invokevirtual 86)) pq_13_86 pm_X12_days rfl rfl rfl ob_152 h (w_k0 fun x155 M155 h => ?_)
        refine w_icmp (tgt := 1233) (by decide +kernel : am_at co_L_law 740 = some (3, .if_icmp .eq 493)) rfl Iff.rfl (fun c155 => ?_) (fun c155 => ?_)
        · have h := h.1 c155
          exact w_weak (lk (lk (lk (lk ln)))) h
        · have c155 := c155
          have h := h.2 c155
          refine w_iconst (by decide +kernel : am_at co_L_law 743 = some (1, .iconst 0)) ?_
          exact w_zret (by decide +kernel : am_at co_L_law 744 = some (1, .ireturn)) (by decide) h
      · refine ⟨712, by rw [q]; rfl, ?_⟩
        have h := h.2.2.2.2.2.2.2.2.2.2.2.2.2.2.2.2.2.2.1 q
        refine w_aload_n (by decide +kernel : am_at co_L_law 745 = some (1, .aload_n 1)) rfl ?_
        refine w_aload_n (by decide +kernel : am_at co_L_law 746 = some (1, .aload_n 0)) rfl ?_
        refine w_iload_n (by decide +kernel : am_at co_L_law 747 = some (1, .iload_n 3)) rfl ?_
        refine w_iconst (by decide +kernel : am_at co_L_law 748 = some (1, .iconst 1)) ?_
        obtain ⟨o156, h⟩ := h
        refine w_iadd (by decide +kernel : am_at co_L_law 749 = some (1, .iadd)) o156 ?_
        obtain ⟨o157, h⟩ := h
        refine w_iald (by decide +kernel : am_at co_L_law 750 = some (1, .iaload)) (lw_in o157.1 o157.2) ?_
        refine w_aload_n (by decide +kernel : am_at co_L_law 751 = some (1, .aload_n 0)) rfl ?_
        refine w_iload_n (by decide +kernel : am_at co_L_law 752 = some (1, .iload_n 3)) rfl ?_
        refine w_iconst (by decide +kernel : am_at co_L_law 753 = some (1, .iconst 2)) ?_
        obtain ⟨o158, h⟩ := h
        refine w_iadd (by decide +kernel : am_at co_L_law 754 = some (1, .iadd)) o158 ?_
        obtain ⟨o159, h⟩ := h
        refine w_iald (by decide +kernel : am_at co_L_law 755 = some (1, .iaload)) (lw_in o159.1 o159.2) ?_
        refine w_aload_n (by decide +kernel : am_at co_L_law 756 = some (1, .aload_n 0)) rfl ?_
        refine w_iload_n (by decide +kernel : am_at co_L_law 757 = some (1, .iload_n 3)) rfl ?_
        refine w_iconst (by decide +kernel : am_at co_L_law 758 = some (1, .iconst 3)) ?_
        obtain ⟨o160, h⟩ := h
        refine w_iadd (by decide +kernel : am_at co_L_law 759 = some (1, .iadd)) o160 ?_
        obtain ⟨o161, h⟩ := h
        refine w_iald (by decide +kernel : am_at co_L_law 760 = some (1, .iaload)) (lw_in o161.1 o161.2) ?_
        refine w_callV (n := 4) (by decide +kernel : am_at co_L_law 761 = some (3, .invokevirtual 87)) pq_13_87 pm_X11_hand rfl rfl rfl ob_0 h (w_k0 fun x163 M163 h => ?_)
        refine w_aload_n (by decide +kernel : am_at co_L_law 764 = some (1, .aload_n 2)) rfl ?_
        refine w_aload_n (by decide +kernel : am_at co_L_law 765 = some (1, .aload_n 0)) rfl ?_
        refine w_iload_n (by decide +kernel : am_at co_L_law 766 = some (1, .iload_n 3)) rfl ?_
        refine w_iconst (by decide +kernel : am_at co_L_law 767 = some (1, .iconst 1)) ?_
        obtain ⟨o163, h⟩ := h
        refine w_iadd (by decide +kernel : am_at co_L_law 768 = some (1, .iadd)) o163 ?_
        refine w_iald (by decide +kernel : am_at co_L_law 769 = some (1, .iaload)) (lw_in o157.1 o157.2) ?_
        refine w_aload_n (by decide +kernel : am_at co_L_law 770 = some (1, .aload_n 0)) rfl ?_
        refine w_iload_n (by decide +kernel : am_at co_L_law 771 = some (1, .iload_n 3)) rfl ?_
        refine w_iconst (by decide +kernel : am_at co_L_law 772 = some (1, .iconst 2)) ?_
        obtain ⟨o164, h⟩ := h
        refine w_iadd (by decide +kernel : am_at co_L_law 773 = some (1, .iadd)) o164 ?_
        refine w_iald (by decide +kernel : am_at co_L_law 774 = some (1, .iaload)) (lw_in o159.1 o159.2) ?_
        refine w_aload_n (by decide +kernel : am_at co_L_law 775 = some (1, .aload_n 0)) rfl ?_
        refine w_iload_n (by decide +kernel : am_at co_L_law 776 = some (1, .iload_n 3)) rfl ?_
        refine w_iconst (by decide +kernel : am_at co_L_law 777 = some (1, .iconst 3)) ?_
        obtain ⟨o165, h⟩ := h
        refine w_iadd (by decide +kernel : am_at co_L_law 778 = some (1, .iadd)) o165 ?_
        refine w_iald (by decide +kernel : am_at co_L_law 779 = some (1, .iaload)) (lw_in o161.1 o161.2) ?_
        refine w_callV (n := 4) (by decide +kernel : am_at co_L_law 780 = some (3, .invokevirtual 90)) pq_13_90 pm_X12_hand rfl rfl rfl ob_152 h (w_k0 fun x167 M167 h => ?_)
        refine w_icmp (tgt := 1233) (by decide +kernel : am_at co_L_law 783 = some (3, .if_icmp .eq 450)) rfl Iff.rfl (fun c167 => ?_) (fun c167 => ?_)
        · have h := h.1 c167
          exact w_weak (lk (lk (lk (lk ln)))) h
        · have c167 := c167
          have h := h.2 c167
          refine w_iconst (by decide +kernel : am_at co_L_law 786 = some (1, .iconst 0)) ?_
          exact w_zret (by decide +kernel : am_at co_L_law 787 = some (1, .ireturn)) (by decide) h
      · refine ⟨755, by rw [q]; rfl, ?_⟩
        have h := h.2.2.2.2.2.2.2.2.2.2.2.2.2.2.2.2.2.2.2.1 q
        refine w_aload_n (by decide +kernel : am_at co_L_law 788 = some (1, .aload_n 1)) rfl ?_
        refine w_aload_n (by decide +kernel : am_at co_L_law 789 = some (1, .aload_n 0)) rfl ?_
        refine w_iload_n (by decide +kernel : am_at co_L_law 790 = some (1, .iload_n 3)) rfl ?_
        refine w_iconst (by decide +kernel : am_at co_L_law 791 = some (1, .iconst 1)) ?_
        obtain ⟨o168, h⟩ := h
        refine w_iadd (by decide +kernel : am_at co_L_law 792 = some (1, .iadd)) o168 ?_
        obtain ⟨o169, h⟩ := h
        refine w_iald (by decide +kernel : am_at co_L_law 793 = some (1, .iaload)) (lw_in o169.1 o169.2) ?_
        refine w_aload_n (by decide +kernel : am_at co_L_law 794 = some (1, .aload_n 0)) rfl ?_
        refine w_iload_n (by decide +kernel : am_at co_L_law 795 = some (1, .iload_n 3)) rfl ?_
        refine w_iconst (by decide +kernel : am_at co_L_law 796 = some (1, .iconst 2)) ?_
        obtain ⟨o170, h⟩ := h
        refine w_iadd (by decide +kernel : am_at co_L_law 797 = some (1, .iadd)) o170 ?_
        obtain ⟨o171, h⟩ := h
        refine w_iald (by decide +kernel : am_at co_L_law 798 = some (1, .iaload)) (lw_in o171.1 o171.2) ?_
        refine w_callV (n := 3) (by decide +kernel : am_at co_L_law 799 = some (3, .invokevirtual 91)) pq_13_91 pm_X11_against rfl rfl rfl ob_0 h (w_k0 fun x173 M173 h => ?_)
        refine w_aload_n (by decide +kernel : am_at co_L_law 802 = some (1, .aload_n 2)) rfl ?_
        refine w_aload_n (by decide +kernel : am_at co_L_law 803 = some (1, .aload_n 0)) rfl ?_
        refine w_iload_n (by decide +kernel : am_at co_L_law 804 = some (1, .iload_n 3)) rfl ?_
        refine w_iconst (by decide +kernel : am_at co_L_law 805 = some (1, .iconst 1)) ?_
        obtain ⟨o173, h⟩ := h
        refine w_iadd (by decide +kernel : am_at co_L_law 806 = some (1, .iadd)) o173 ?_
        refine w_iald (by decide +kernel : am_at co_L_law 807 = some (1, .iaload)) (lw_in o169.1 o169.2) ?_
        refine w_aload_n (by decide +kernel : am_at co_L_law 808 = some (1, .aload_n 0)) rfl ?_
        refine w_iload_n (by decide +kernel : am_at co_L_law 809 = some (1, .iload_n 3)) rfl ?_
        refine w_iconst (by decide +kernel : am_at co_L_law 810 = some (1, .iconst 2)) ?_
        obtain ⟨o174, h⟩ := h
        refine w_iadd (by decide +kernel : am_at co_L_law 811 = some (1, .iadd)) o174 ?_
        refine w_iald (by decide +kernel : am_at co_L_law 812 = some (1, .iaload)) (lw_in o171.1 o171.2) ?_
        refine w_callV (n := 3) (by decide +kernel : am_at co_L_law 813 = some (3, .invokevirtual 94)) pq_13_94 pm_X12_against rfl rfl rfl ob_152 h (w_k0 fun x176 M176 h => ?_)
        refine w_icmp (tgt := 1233) (by decide +kernel : am_at co_L_law 816 = some (3, .if_icmp .eq 417)) rfl Iff.rfl (fun c176 => ?_) (fun c176 => ?_)
        · have h := h.1 c176
          exact w_weak (lk (lk (lk (lk ln)))) h
        · have c176 := c176
          have h := h.2 c176
          refine w_iconst (by decide +kernel : am_at co_L_law 819 = some (1, .iconst 0)) ?_
          exact w_zret (by decide +kernel : am_at co_L_law 820 = some (1, .ireturn)) (by decide) h
      · refine ⟨788, by rw [q]; rfl, ?_⟩
        have h := h.2.2.2.2.2.2.2.2.2.2.2.2.2.2.2.2.2.2.2.2.1 q
        refine w_aload_n (by decide +kernel : am_at co_L_law 821 = some (1, .aload_n 1)) rfl ?_
        refine w_aload_n (by decide +kernel : am_at co_L_law 822 = some (1, .aload_n 0)) rfl ?_
        refine w_iload_n (by decide +kernel : am_at co_L_law 823 = some (1, .iload_n 3)) rfl ?_
        refine w_iconst (by decide +kernel : am_at co_L_law 824 = some (1, .iconst 1)) ?_
        obtain ⟨o177, h⟩ := h
        refine w_iadd (by decide +kernel : am_at co_L_law 825 = some (1, .iadd)) o177 ?_
        obtain ⟨o178, h⟩ := h
        refine w_iald (by decide +kernel : am_at co_L_law 826 = some (1, .iaload)) (lw_in o178.1 o178.2) ?_
        refine w_aload_n (by decide +kernel : am_at co_L_law 827 = some (1, .aload_n 0)) rfl ?_
        refine w_iload_n (by decide +kernel : am_at co_L_law 828 = some (1, .iload_n 3)) rfl ?_
        refine w_iconst (by decide +kernel : am_at co_L_law 829 = some (1, .iconst 2)) ?_
        obtain ⟨o179, h⟩ := h
        refine w_iadd (by decide +kernel : am_at co_L_law 830 = some (1, .iadd)) o179 ?_
        obtain ⟨o180, h⟩ := h
        refine w_iald (by decide +kernel : am_at co_L_law 831 = some (1, .iaload)) (lw_in o180.1 o180.2) ?_
        refine w_callV (n := 3) (by decide +kernel : am_at co_L_law 832 = some (3, .invokevirtual 95)) pq_13_95 pm_X11_chance rfl rfl rfl ob_0 h (w_k0 fun x182 M182 h => ?_)
        refine w_aload_n (by decide +kernel : am_at co_L_law 835 = some (1, .aload_n 2)) rfl ?_
        refine w_aload_n (by decide +kernel : am_at co_L_law 836 = some (1, .aload_n 0)) rfl ?_
        refine w_iload_n (by decide +kernel : am_at co_L_law 837 = some (1, .iload_n 3)) rfl ?_
        refine w_iconst (by decide +kernel : am_at co_L_law 838 = some (1, .iconst 1)) ?_
        obtain ⟨o182, h⟩ := h
        refine w_iadd (by decide +kernel : am_at co_L_law 839 = some (1, .iadd)) o182 ?_
        refine w_iald (by decide +kernel : am_at co_L_law 840 = some (1, .iaload)) (lw_in o178.1 o178.2) ?_
        refine w_aload_n (by decide +kernel : am_at co_L_law 841 = some (1, .aload_n 0)) rfl ?_
        refine w_iload_n (by decide +kernel : am_at co_L_law 842 = some (1, .iload_n 3)) rfl ?_
        refine w_iconst (by decide +kernel : am_at co_L_law 843 = some (1, .iconst 2)) ?_
        obtain ⟨o183, h⟩ := h
        refine w_iadd (by decide +kernel : am_at co_L_law 844 = some (1, .iadd)) o183 ?_
        refine w_iald (by decide +kernel : am_at co_L_law 845 = some (1, .iaload)) (lw_in o180.1 o180.2) ?_
        refine w_callV (n := 3) (by decide +kernel : am_at co_L_law 846 = some (3, .invokevirtual 98)) pq_13_98 pm_X12_chance rfl rfl rfl ob_152 h (w_k0 fun x185 M185 h => ?_)
        refine w_icmp (tgt := 1233) (by decide +kernel : am_at co_L_law 849 = some (3, .if_icmp .eq 384)) rfl Iff.rfl (fun c185 => ?_) (fun c185 => ?_)
        · have h := h.1 c185
          exact w_weak (lk (lk (lk (lk ln)))) h
        · have c185 := c185
          have h := h.2 c185
          refine w_iconst (by decide +kernel : am_at co_L_law 852 = some (1, .iconst 0)) ?_
          exact w_zret (by decide +kernel : am_at co_L_law 853 = some (1, .ireturn)) (by decide) h
      · refine ⟨821, by rw [q]; rfl, ?_⟩
        have h := h.2.2.2.2.2.2.2.2.2.2.2.2.2.2.2.2.2.2.2.2.2.1 q
        refine w_aload_n (by decide +kernel : am_at co_L_law 854 = some (1, .aload_n 1)) rfl ?_
        refine w_aload_n (by decide +kernel : am_at co_L_law 855 = some (1, .aload_n 0)) rfl ?_
        refine w_iload_n (by decide +kernel : am_at co_L_law 856 = some (1, .iload_n 3)) rfl ?_
        refine w_iconst (by decide +kernel : am_at co_L_law 857 = some (1, .iconst 1)) ?_
        obtain ⟨o186, h⟩ := h
        refine w_iadd (by decide +kernel : am_at co_L_law 858 = some (1, .iadd)) o186 ?_
        obtain ⟨o187, h⟩ := h
        refine w_iald (by decide +kernel : am_at co_L_law 859 = some (1, .iaload)) (lw_in o187.1 o187.2) ?_
        refine w_aload_n (by decide +kernel : am_at co_L_law 860 = some (1, .aload_n 0)) rfl ?_
        refine w_iload_n (by decide +kernel : am_at co_L_law 861 = some (1, .iload_n 3)) rfl ?_
        refine w_iconst (by decide +kernel : am_at co_L_law 862 = some (1, .iconst 2)) ?_
        obtain ⟨o188, h⟩ := h
        refine w_iadd (by decide +kernel : am_at co_L_law 863 = some (1, .iadd)) o188 ?_
        obtain ⟨o189, h⟩ := h
        refine w_iald (by decide +kernel : am_at co_L_law 864 = some (1, .iaload)) (lw_in o189.1 o189.2) ?_
        refine w_if (tgt := 872) (by decide +kernel : am_at co_L_law 865 = some (3, .ifCond .eq 7)) rfl Iff.rfl (fun c190 => ?_) (fun c190 => ?_)
        · have h := h.1 c190
          refine w_iconst (by decide +kernel : am_at co_L_law 872 = some (1, .iconst 0)) ?_
          refine w_callV (n := 3) (by decide +kernel : am_at co_L_law 873 = some (3, .invokevirtual 99)) pq_13_99 pm_X11_meet rfl rfl rfl ob_0 h (w_k0 fun x192 M192 h => ?_)
          refine w_aload_n (by decide +kernel : am_at co_L_law 876 = some (1, .aload_n 2)) rfl ?_
          refine w_aload_n (by decide +kernel : am_at co_L_law 877 = some (1, .aload_n 0)) rfl ?_
          refine w_iload_n (by decide +kernel : am_at co_L_law 878 = some (1, .iload_n 3)) rfl ?_
          refine w_iconst (by decide +kernel : am_at co_L_law 879 = some (1, .iconst 1)) ?_
          obtain ⟨o192, h⟩ := h
          refine w_iadd (by decide +kernel : am_at co_L_law 880 = some (1, .iadd)) o192 ?_
          refine w_iald (by decide +kernel : am_at co_L_law 881 = some (1, .iaload)) (lw_in o187.1 o187.2) ?_
          refine w_aload_n (by decide +kernel : am_at co_L_law 882 = some (1, .aload_n 0)) rfl ?_
          refine w_iload_n (by decide +kernel : am_at co_L_law 883 = some (1, .iload_n 3)) rfl ?_
          refine w_iconst (by decide +kernel : am_at co_L_law 884 = some (1, .iconst 2)) ?_
          obtain ⟨o193, h⟩ := h
          refine w_iadd (by decide +kernel : am_at co_L_law 885 = some (1, .iadd)) o193 ?_
          refine w_iald (by decide +kernel : am_at co_L_law 886 = some (1, .iaload)) (lw_in o189.1 o189.2) ?_
          refine w_if (tgt := 894) (by decide +kernel : am_at co_L_law 887 = some (3, .ifCond .eq 7)) rfl Iff.rfl (fun c194 => ?_) (fun c194 => ?_)
          · have h := h.1 c194
            refine w_iconst (by decide +kernel : am_at co_L_law 894 = some (1, .iconst 0)) ?_
            refine w_callV (n := 3) (by decide +kernel : am_at co_L_law 895 = some (3, .invokevirtual 103)) pq_13_103 pm_X12_meet rfl rfl rfl ob_152 h (w_k0 fun x196 M196 h => ?_)
            refine w_icmp (tgt := 1233) (by decide +kernel : am_at co_L_law 898 = some (3, .if_icmp .eq 335)) rfl Iff.rfl (fun c196 => ?_) (fun c196 => ?_)
            · have h := h.1 c196
              exact w_weak (lk (lk (lk (lk ln)))) h
            · have c196 := c196
              have h := h.2 c196
              refine w_iconst (by decide +kernel : am_at co_L_law 901 = some (1, .iconst 0)) ?_
              exact w_zret (by decide +kernel : am_at co_L_law 902 = some (1, .ireturn)) (by decide) h
          · have c194 := c194
            have h := h.2 c194
            refine w_iconst (by decide +kernel : am_at co_L_law 890 = some (1, .iconst 1)) ?_
            refine w_goto (tgt := 895) (by decide +kernel : am_at co_L_law 891 = some (3, .goto 4)) rfl ?_
            refine w_callV (n := 3) (by decide +kernel : am_at co_L_law 895 = some (3, .invokevirtual 103)) pq_13_103 pm_X12_meet rfl rfl rfl ob_152 h (w_k0 fun x198 M198 h => ?_)
            refine w_icmp (tgt := 1233) (by decide +kernel : am_at co_L_law 898 = some (3, .if_icmp .eq 335)) rfl Iff.rfl (fun c198 => ?_) (fun c198 => ?_)
            · have h := h.1 c198
              exact w_weak (lk (lk (lk (lk ln)))) h
            · have c198 := c198
              have h := h.2 c198
              refine w_iconst (by decide +kernel : am_at co_L_law 901 = some (1, .iconst 0)) ?_
              exact w_zret (by decide +kernel : am_at co_L_law 902 = some (1, .ireturn)) (by decide) h
        · have c190 := c190
          have h := h.2 c190
          refine w_iconst (by decide +kernel : am_at co_L_law 868 = some (1, .iconst 1)) ?_
          refine w_goto (tgt := 873) (by decide +kernel : am_at co_L_law 869 = some (3, .goto 4)) rfl ?_
          refine w_callV (n := 3) (by decide +kernel : am_at co_L_law 873 = some (3, .invokevirtual 99)) pq_13_99 pm_X11_meet rfl rfl rfl ob_0 h (w_k0 fun x200 M200 h => ?_)
          refine w_aload_n (by decide +kernel : am_at co_L_law 876 = some (1, .aload_n 2)) rfl ?_
          refine w_aload_n (by decide +kernel : am_at co_L_law 877 = some (1, .aload_n 0)) rfl ?_
          refine w_iload_n (by decide +kernel : am_at co_L_law 878 = some (1, .iload_n 3)) rfl ?_
          refine w_iconst (by decide +kernel : am_at co_L_law 879 = some (1, .iconst 1)) ?_
          obtain ⟨o200, h⟩ := h
          refine w_iadd (by decide +kernel : am_at co_L_law 880 = some (1, .iadd)) o200 ?_
          refine w_iald (by decide +kernel : am_at co_L_law 881 = some (1, .iaload)) (lw_in o187.1 o187.2) ?_
          refine w_aload_n (by decide +kernel : am_at co_L_law 882 = some (1, .aload_n 0)) rfl ?_
          refine w_iload_n (by decide +kernel : am_at co_L_law 883 = some (1, .iload_n 3)) rfl ?_
          refine w_iconst (by decide +kernel : am_at co_L_law 884 = some (1, .iconst 2)) ?_
          obtain ⟨o201, h⟩ := h
          refine w_iadd (by decide +kernel : am_at co_L_law 885 = some (1, .iadd)) o201 ?_
          refine w_iald (by decide +kernel : am_at co_L_law 886 = some (1, .iaload)) (lw_in o189.1 o189.2) ?_
          refine w_if (tgt := 894) (by decide +kernel : am_at co_L_law 887 = some (3, .ifCond .eq 7)) rfl Iff.rfl (fun c202 => ?_) (fun c202 => ?_)
          · have h := h.1 c202
            refine w_iconst (by decide +kernel : am_at co_L_law 894 = some (1, .iconst 0)) ?_
            refine w_callV (n := 3) (by decide +kernel : am_at co_L_law 895 = some (3, .invokevirtual 103)) pq_13_103 pm_X12_meet rfl rfl rfl ob_152 h (w_k0 fun x204 M204 h => ?_)
            refine w_icmp (tgt := 1233) (by decide +kernel : am_at co_L_law 898 = some (3, .if_icmp .eq 335)) rfl Iff.rfl (fun c204 => ?_) (fun c204 => ?_)
            · have h := h.1 c204
              exact w_weak (lk (lk (lk (lk ln)))) h
            · have c204 := c204
              have h := h.2 c204
              refine w_iconst (by decide +kernel : am_at co_L_law 901 = some (1, .iconst 0)) ?_
              exact w_zret (by decide +kernel : am_at co_L_law 902 = some (1, .ireturn)) (by decide) h
          · have c202 := c202
            have h := h.2 c202
            refine w_iconst (by decide +kernel : am_at co_L_law 890 = some (1, .iconst 1)) ?_
            refine w_goto (tgt := 895) (by decide +kernel : am_at co_L_law 891 = some (3, .goto 4)) rfl ?_
            refine w_callV (n := 3) (by decide +kernel : am_at co_L_law 895 = some (3, .invokevirtual 103)) pq_13_103 pm_X12_meet rfl rfl rfl ob_152 h (w_k0 fun x206 M206 h => ?_)
            refine w_icmp (tgt := 1233) (by decide +kernel : am_at co_L_law 898 = some (3, .if_icmp .eq 335)) rfl Iff.rfl (fun c206 => ?_) (fun c206 => ?_)
            · have h := h.1 c206
              exact w_weak (lk (lk (lk (lk ln)))) h
            · have c206 := c206
              have h := h.2 c206
              refine w_iconst (by decide +kernel : am_at co_L_law 901 = some (1, .iconst 0)) ?_
              exact w_zret (by decide +kernel : am_at co_L_law 902 = some (1, .ireturn)) (by decide) h
      · refine ⟨870, by rw [q]; rfl, ?_⟩
        have h := h.2.2.2.2.2.2.2.2.2.2.2.2.2.2.2.2.2.2.2.2.2.2.1 q
        refine w_aload_n (by decide +kernel : am_at co_L_law 903 = some (1, .aload_n 1)) rfl ?_
        refine w_aload_n (by decide +kernel : am_at co_L_law 904 = some (1, .aload_n 0)) rfl ?_
        refine w_iload_n (by decide +kernel : am_at co_L_law 905 = some (1, .iload_n 3)) rfl ?_
        refine w_iconst (by decide +kernel : am_at co_L_law 906 = some (1, .iconst 1)) ?_
        obtain ⟨o207, h⟩ := h
        refine w_iadd (by decide +kernel : am_at co_L_law 907 = some (1, .iadd)) o207 ?_
        obtain ⟨o208, h⟩ := h
        refine w_iald (by decide +kernel : am_at co_L_law 908 = some (1, .iaload)) (lw_in o208.1 o208.2) ?_
        refine w_aload_n (by decide +kernel : am_at co_L_law 909 = some (1, .aload_n 0)) rfl ?_
        refine w_iload_n (by decide +kernel : am_at co_L_law 910 = some (1, .iload_n 3)) rfl ?_
        refine w_iconst (by decide +kernel : am_at co_L_law 911 = some (1, .iconst 2)) ?_
        obtain ⟨o209, h⟩ := h
        refine w_iadd (by decide +kernel : am_at co_L_law 912 = some (1, .iadd)) o209 ?_
        obtain ⟨o210, h⟩ := h
        refine w_iald (by decide +kernel : am_at co_L_law 913 = some (1, .iaload)) (lw_in o210.1 o210.2) ?_
        refine w_callV (n := 3) (by decide +kernel : am_at co_L_law 914 = some (3, .invokevirtual 104)) pq_13_104 pm_X11_day rfl rfl rfl ob_0 h (w_k0 fun x212 M212 h => ?_)
        refine w_aload_n (by decide +kernel : am_at co_L_law 917 = some (1, .aload_n 2)) rfl ?_
        refine w_aload_n (by decide +kernel : am_at co_L_law 918 = some (1, .aload_n 0)) rfl ?_
        refine w_iload_n (by decide +kernel : am_at co_L_law 919 = some (1, .iload_n 3)) rfl ?_
        refine w_iconst (by decide +kernel : am_at co_L_law 920 = some (1, .iconst 1)) ?_
        obtain ⟨o212, h⟩ := h
        refine w_iadd (by decide +kernel : am_at co_L_law 921 = some (1, .iadd)) o212 ?_
        refine w_iald (by decide +kernel : am_at co_L_law 922 = some (1, .iaload)) (lw_in o208.1 o208.2) ?_
        refine w_aload_n (by decide +kernel : am_at co_L_law 923 = some (1, .aload_n 0)) rfl ?_
        refine w_iload_n (by decide +kernel : am_at co_L_law 924 = some (1, .iload_n 3)) rfl ?_
        refine w_iconst (by decide +kernel : am_at co_L_law 925 = some (1, .iconst 2)) ?_
        obtain ⟨o213, h⟩ := h
        refine w_iadd (by decide +kernel : am_at co_L_law 926 = some (1, .iadd)) o213 ?_
        refine w_iald (by decide +kernel : am_at co_L_law 927 = some (1, .iaload)) (lw_in o210.1 o210.2) ?_
        refine w_callV (n := 3) (by decide +kernel : am_at co_L_law 928 = some (3, .invokevirtual 107)) pq_13_107 pm_X12_day rfl rfl rfl ob_152 h (w_k0 fun x215 M215 h => ?_)
        refine w_icmp (tgt := 1233) (by decide +kernel : am_at co_L_law 931 = some (3, .if_icmp .eq 302)) rfl Iff.rfl (fun c215 => ?_) (fun c215 => ?_)
        · have h := h.1 c215
          exact w_weak (lk (lk (lk (lk ln)))) h
        · have c215 := c215
          have h := h.2 c215
          refine w_iconst (by decide +kernel : am_at co_L_law 934 = some (1, .iconst 0)) ?_
          exact w_zret (by decide +kernel : am_at co_L_law 935 = some (1, .ireturn)) (by decide) h
      · refine ⟨903, by rw [q]; rfl, ?_⟩
        have h := h.2.2.2.2.2.2.2.2.2.2.2.2.2.2.2.2.2.2.2.2.2.2.2.1 q
        refine w_aload_n (by decide +kernel : am_at co_L_law 936 = some (1, .aload_n 1)) rfl ?_
        refine w_aload_n (by decide +kernel : am_at co_L_law 937 = some (1, .aload_n 0)) rfl ?_
        refine w_iload_n (by decide +kernel : am_at co_L_law 938 = some (1, .iload_n 3)) rfl ?_
        refine w_iconst (by decide +kernel : am_at co_L_law 939 = some (1, .iconst 1)) ?_
        obtain ⟨o216, h⟩ := h
        refine w_iadd (by decide +kernel : am_at co_L_law 940 = some (1, .iadd)) o216 ?_
        obtain ⟨o217, h⟩ := h
        refine w_iald (by decide +kernel : am_at co_L_law 941 = some (1, .iaload)) (lw_in o217.1 o217.2) ?_
        refine w_aload_n (by decide +kernel : am_at co_L_law 942 = some (1, .aload_n 0)) rfl ?_
        refine w_iload_n (by decide +kernel : am_at co_L_law 943 = some (1, .iload_n 3)) rfl ?_
        refine w_iconst (by decide +kernel : am_at co_L_law 944 = some (1, .iconst 2)) ?_
        obtain ⟨o218, h⟩ := h
        refine w_iadd (by decide +kernel : am_at co_L_law 945 = some (1, .iadd)) o218 ?_
        obtain ⟨o219, h⟩ := h
        refine w_iald (by decide +kernel : am_at co_L_law 946 = some (1, .iaload)) (lw_in o219.1 o219.2) ?_
        refine w_callV (n := 3) (by decide +kernel : am_at co_L_law 947 = some (3, .invokevirtual 108)) pq_13_108 pm_X11_take rfl rfl rfl ob_0 h (w_k0 fun x221 M221 h => ?_)
        refine w_aload_n (by decide +kernel : am_at co_L_law 950 = some (1, .aload_n 2)) rfl ?_
        refine w_aload_n (by decide +kernel : am_at co_L_law 951 = some (1, .aload_n 0)) rfl ?_
        refine w_iload_n (by decide +kernel : am_at co_L_law 952 = some (1, .iload_n 3)) rfl ?_
        refine w_iconst (by decide +kernel : am_at co_L_law 953 = some (1, .iconst 1)) ?_
        obtain ⟨o221, h⟩ := h
        refine w_iadd (by decide +kernel : am_at co_L_law 954 = some (1, .iadd)) o221 ?_
        refine w_iald (by decide +kernel : am_at co_L_law 955 = some (1, .iaload)) (lw_in o217.1 o217.2) ?_
        refine w_aload_n (by decide +kernel : am_at co_L_law 956 = some (1, .aload_n 0)) rfl ?_
        refine w_iload_n (by decide +kernel : am_at co_L_law 957 = some (1, .iload_n 3)) rfl ?_
        refine w_iconst (by decide +kernel : am_at co_L_law 958 = some (1, .iconst 2)) ?_
        obtain ⟨o222, h⟩ := h
        refine w_iadd (by decide +kernel : am_at co_L_law 959 = some (1, .iadd)) o222 ?_
        refine w_iald (by decide +kernel : am_at co_L_law 960 = some (1, .iaload)) (lw_in o219.1 o219.2) ?_
        refine w_callV (n := 3) (by decide +kernel : am_at co_L_law 961 = some (3, .invokevirtual 112)) pq_13_112 pm_X12_take rfl rfl rfl ob_152 h (w_k0 fun x224 M224 h => ?_)
        refine w_icmp (tgt := 1233) (by decide +kernel : am_at co_L_law 964 = some (3, .if_icmp .eq 269)) rfl Iff.rfl (fun c224 => ?_) (fun c224 => ?_)
        · have h := h.1 c224
          exact w_weak (lk (lk (lk (lk ln)))) h
        · have c224 := c224
          have h := h.2 c224
          refine w_iconst (by decide +kernel : am_at co_L_law 967 = some (1, .iconst 0)) ?_
          exact w_zret (by decide +kernel : am_at co_L_law 968 = some (1, .ireturn)) (by decide) h
      · refine ⟨936, by rw [q]; rfl, ?_⟩
        have h := h.2.2.2.2.2.2.2.2.2.2.2.2.2.2.2.2.2.2.2.2.2.2.2.2.1 q
        refine w_aload_n (by decide +kernel : am_at co_L_law 969 = some (1, .aload_n 1)) rfl ?_
        refine w_aload_n (by decide +kernel : am_at co_L_law 970 = some (1, .aload_n 0)) rfl ?_
        refine w_iload_n (by decide +kernel : am_at co_L_law 971 = some (1, .iload_n 3)) rfl ?_
        refine w_iconst (by decide +kernel : am_at co_L_law 972 = some (1, .iconst 1)) ?_
        obtain ⟨o225, h⟩ := h
        refine w_iadd (by decide +kernel : am_at co_L_law 973 = some (1, .iadd)) o225 ?_
        obtain ⟨o226, h⟩ := h
        refine w_iald (by decide +kernel : am_at co_L_law 974 = some (1, .iaload)) (lw_in o226.1 o226.2) ?_
        refine w_aload_n (by decide +kernel : am_at co_L_law 975 = some (1, .aload_n 0)) rfl ?_
        refine w_iload_n (by decide +kernel : am_at co_L_law 976 = some (1, .iload_n 3)) rfl ?_
        refine w_iconst (by decide +kernel : am_at co_L_law 977 = some (1, .iconst 2)) ?_
        obtain ⟨o227, h⟩ := h
        refine w_iadd (by decide +kernel : am_at co_L_law 978 = some (1, .iadd)) o227 ?_
        obtain ⟨o228, h⟩ := h
        refine w_iald (by decide +kernel : am_at co_L_law 979 = some (1, .iaload)) (lw_in o228.1 o228.2) ?_
        refine w_aload_n (by decide +kernel : am_at co_L_law 980 = some (1, .aload_n 0)) rfl ?_
        refine w_iload_n (by decide +kernel : am_at co_L_law 981 = some (1, .iload_n 3)) rfl ?_
        refine w_iconst (by decide +kernel : am_at co_L_law 982 = some (1, .iconst 3)) ?_
        obtain ⟨o229, h⟩ := h
        refine w_iadd (by decide +kernel : am_at co_L_law 983 = some (1, .iadd)) o229 ?_
        obtain ⟨o230, h⟩ := h
        refine w_iald (by decide +kernel : am_at co_L_law 984 = some (1, .iaload)) (lw_in o230.1 o230.2) ?_
        refine w_callV (n := 4) (by decide +kernel : am_at co_L_law 985 = some (3, .invokevirtual 113)) pq_13_113 pm_X11_set rfl rfl rfl ob_0 h (w_k0 fun x232 M232 h => ?_)
        refine w_aload_n (by decide +kernel : am_at co_L_law 988 = some (1, .aload_n 2)) rfl ?_
        refine w_aload_n (by decide +kernel : am_at co_L_law 989 = some (1, .aload_n 0)) rfl ?_
        refine w_iload_n (by decide +kernel : am_at co_L_law 990 = some (1, .iload_n 3)) rfl ?_
        refine w_iconst (by decide +kernel : am_at co_L_law 991 = some (1, .iconst 1)) ?_
        obtain ⟨o232, h⟩ := h
        refine w_iadd (by decide +kernel : am_at co_L_law 992 = some (1, .iadd)) o232 ?_
        refine w_iald (by decide +kernel : am_at co_L_law 993 = some (1, .iaload)) (lw_in o226.1 o226.2) ?_
        refine w_aload_n (by decide +kernel : am_at co_L_law 994 = some (1, .aload_n 0)) rfl ?_
        refine w_iload_n (by decide +kernel : am_at co_L_law 995 = some (1, .iload_n 3)) rfl ?_
        refine w_iconst (by decide +kernel : am_at co_L_law 996 = some (1, .iconst 2)) ?_
        obtain ⟨o233, h⟩ := h
        refine w_iadd (by decide +kernel : am_at co_L_law 997 = some (1, .iadd)) o233 ?_
        refine w_iald (by decide +kernel : am_at co_L_law 998 = some (1, .iaload)) (lw_in o228.1 o228.2) ?_
        refine w_aload_n (by decide +kernel : am_at co_L_law 999 = some (1, .aload_n 0)) rfl ?_
        refine w_iload_n (by decide +kernel : am_at co_L_law 1000 = some (1, .iload_n 3)) rfl ?_
        refine w_iconst (by decide +kernel : am_at co_L_law 1001 = some (1, .iconst 3)) ?_
        obtain ⟨o234, h⟩ := h
        refine w_iadd (by decide +kernel : am_at co_L_law 1002 = some (1, .iadd)) o234 ?_
        refine w_iald (by decide +kernel : am_at co_L_law 1003 = some (1, .iaload)) (lw_in o230.1 o230.2) ?_
        refine w_callV (n := 4) (by decide +kernel : am_at co_L_law 1004 = some (3, .invokevirtual 116)) pq_13_116 pm_X12_set rfl rfl rfl ob_152 h (w_k0 fun x236 M236 h => ?_)
        refine w_icmp (tgt := 1233) (by decide +kernel : am_at co_L_law 1007 = some (3, .if_icmp .eq 226)) rfl Iff.rfl (fun c236 => ?_) (fun c236 => ?_)
        · have h := h.1 c236
          exact w_weak (lk (lk (lk (lk ln)))) h
        · have c236 := c236
          have h := h.2 c236
          refine w_iconst (by decide +kernel : am_at co_L_law 1010 = some (1, .iconst 0)) ?_
          exact w_zret (by decide +kernel : am_at co_L_law 1011 = some (1, .ireturn)) (by decide) h
      · refine ⟨979, by rw [q]; rfl, ?_⟩
        have h := h.2.2.2.2.2.2.2.2.2.2.2.2.2.2.2.2.2.2.2.2.2.2.2.2.2.1 q
        refine w_aload_n (by decide +kernel : am_at co_L_law 1012 = some (1, .aload_n 1)) rfl ?_
        refine w_aload_n (by decide +kernel : am_at co_L_law 1013 = some (1, .aload_n 0)) rfl ?_
        refine w_iload_n (by decide +kernel : am_at co_L_law 1014 = some (1, .iload_n 3)) rfl ?_
        refine w_iconst (by decide +kernel : am_at co_L_law 1015 = some (1, .iconst 1)) ?_
        obtain ⟨o237, h⟩ := h
        refine w_iadd (by decide +kernel : am_at co_L_law 1016 = some (1, .iadd)) o237 ?_
        obtain ⟨o238, h⟩ := h
        refine w_iald (by decide +kernel : am_at co_L_law 1017 = some (1, .iaload)) (lw_in o238.1 o238.2) ?_
        refine w_aload_n (by decide +kernel : am_at co_L_law 1018 = some (1, .aload_n 0)) rfl ?_
        refine w_iload_n (by decide +kernel : am_at co_L_law 1019 = some (1, .iload_n 3)) rfl ?_
        refine w_iconst (by decide +kernel : am_at co_L_law 1020 = some (1, .iconst 2)) ?_
        obtain ⟨o239, h⟩ := h
        refine w_iadd (by decide +kernel : am_at co_L_law 1021 = some (1, .iadd)) o239 ?_
        obtain ⟨o240, h⟩ := h
        refine w_iald (by decide +kernel : am_at co_L_law 1022 = some (1, .iaload)) (lw_in o240.1 o240.2) ?_
        refine w_callV (n := 3) (by decide +kernel : am_at co_L_law 1023 = some (3, .invokevirtual 117)) pq_13_117 pm_X11_night rfl rfl rfl ob_0 h (w_k0 fun x242 M242 h => ?_)
        refine w_aload_n (by decide +kernel : am_at co_L_law 1026 = some (1, .aload_n 2)) rfl ?_
        refine w_aload_n (by decide +kernel : am_at co_L_law 1027 = some (1, .aload_n 0)) rfl ?_
        refine w_iload_n (by decide +kernel : am_at co_L_law 1028 = some (1, .iload_n 3)) rfl ?_
        refine w_iconst (by decide +kernel : am_at co_L_law 1029 = some (1, .iconst 1)) ?_
        obtain ⟨o242, h⟩ := h
        refine w_iadd (by decide +kernel : am_at co_L_law 1030 = some (1, .iadd)) o242 ?_
        refine w_iald (by decide +kernel : am_at co_L_law 1031 = some (1, .iaload)) (lw_in o238.1 o238.2) ?_
        refine w_aload_n (by decide +kernel : am_at co_L_law 1032 = some (1, .aload_n 0)) rfl ?_
        refine w_iload_n (by decide +kernel : am_at co_L_law 1033 = some (1, .iload_n 3)) rfl ?_
        refine w_iconst (by decide +kernel : am_at co_L_law 1034 = some (1, .iconst 2)) ?_
        obtain ⟨o243, h⟩ := h
        refine w_iadd (by decide +kernel : am_at co_L_law 1035 = some (1, .iadd)) o243 ?_
        refine w_iald (by decide +kernel : am_at co_L_law 1036 = some (1, .iaload)) (lw_in o240.1 o240.2) ?_
        refine w_callV (n := 3) (by decide +kernel : am_at co_L_law 1037 = some (3, .invokevirtual 120)) pq_13_120 pm_X12_night rfl rfl rfl ob_152 h (w_k0 fun x245 M245 h => ?_)
        refine w_icmp (tgt := 1233) (by decide +kernel : am_at co_L_law 1040 = some (3, .if_icmp .eq 193)) rfl Iff.rfl (fun c245 => ?_) (fun c245 => ?_)
        · have h := h.1 c245
          exact w_weak (lk (lk (lk (lk ln)))) h
        · have c245 := c245
          have h := h.2 c245
          refine w_iconst (by decide +kernel : am_at co_L_law 1043 = some (1, .iconst 0)) ?_
          exact w_zret (by decide +kernel : am_at co_L_law 1044 = some (1, .ireturn)) (by decide) h
      · refine ⟨1012, by rw [q]; rfl, ?_⟩
        have h := h.2.2.2.2.2.2.2.2.2.2.2.2.2.2.2.2.2.2.2.2.2.2.2.2.2.2.1 q
        refine w_aload_n (by decide +kernel : am_at co_L_law 1045 = some (1, .aload_n 1)) rfl ?_
        refine w_callV (n := 1) (by decide +kernel : am_at co_L_law 1046 = some (3, .invokevirtual 121)) pq_13_121 pm_X11_undo rfl rfl rfl ob_0 h (w_k0 fun x247 M247 h => ?_)
        refine w_aload_n (by decide +kernel : am_at co_L_law 1049 = some (1, .aload_n 2)) rfl ?_
        refine w_callV (n := 1) (by decide +kernel : am_at co_L_law 1050 = some (3, .invokevirtual 125)) pq_13_125 pm_X12_undo rfl rfl rfl ob_152 h (w_k0 fun x248 M248 h => ?_)
        refine w_icmp (tgt := 1233) (by decide +kernel : am_at co_L_law 1053 = some (3, .if_icmp .eq 180)) rfl Iff.rfl (fun c248 => ?_) (fun c248 => ?_)
        · have h := h.1 c248
          exact w_weak (lk (lk (lk (lk ln)))) h
        · have c248 := c248
          have h := h.2 c248
          refine w_iconst (by decide +kernel : am_at co_L_law 1056 = some (1, .iconst 0)) ?_
          exact w_zret (by decide +kernel : am_at co_L_law 1057 = some (1, .ireturn)) (by decide) h
      · refine ⟨1025, by rw [q]; rfl, ?_⟩
        have h := h.2.2.2.2.2.2.2.2.2.2.2.2.2.2.2.2.2.2.2.2.2.2.2.2.2.2.2.1 q
        refine w_aload_n (by decide +kernel : am_at co_L_law 1058 = some (1, .aload_n 1)) rfl ?_
        refine w_aload_n (by decide +kernel : am_at co_L_law 1059 = some (1, .aload_n 0)) rfl ?_
        refine w_iload_n (by decide +kernel : am_at co_L_law 1060 = some (1, .iload_n 3)) rfl ?_
        refine w_iconst (by decide +kernel : am_at co_L_law 1061 = some (1, .iconst 1)) ?_
        obtain ⟨o249, h⟩ := h
        refine w_iadd (by decide +kernel : am_at co_L_law 1062 = some (1, .iadd)) o249 ?_
        obtain ⟨o250, h⟩ := h
        refine w_iald (by decide +kernel : am_at co_L_law 1063 = some (1, .iaload)) (lw_in o250.1 o250.2) ?_
        refine w_callV (n := 2) (by decide +kernel : am_at co_L_law 1064 = some (3, .invokevirtual 126)) pq_13_126 pm_X11_seed rfl rfl rfl ob_0 h (w_k0 fun x252 M252 h => ?_)
        refine w_aload_n (by decide +kernel : am_at co_L_law 1067 = some (1, .aload_n 2)) rfl ?_
        refine w_aload_n (by decide +kernel : am_at co_L_law 1068 = some (1, .aload_n 0)) rfl ?_
        refine w_iload_n (by decide +kernel : am_at co_L_law 1069 = some (1, .iload_n 3)) rfl ?_
        refine w_iconst (by decide +kernel : am_at co_L_law 1070 = some (1, .iconst 1)) ?_
        obtain ⟨o252, h⟩ := h
        refine w_iadd (by decide +kernel : am_at co_L_law 1071 = some (1, .iadd)) o252 ?_
        refine w_iald (by decide +kernel : am_at co_L_law 1072 = some (1, .iaload)) (lw_in o250.1 o250.2) ?_
        refine w_callV (n := 2) (by decide +kernel : am_at co_L_law 1073 = some (3, .invokevirtual 129)) pq_13_129 pm_X12_seed rfl rfl rfl ob_152 h (w_k0 fun x254 M254 h => ?_)
        refine w_icmp (tgt := 1233) (by decide +kernel : am_at co_L_law 1076 = some (3, .if_icmp .eq 157)) rfl Iff.rfl (fun c254 => ?_) (fun c254 => ?_)
        · have h := h.1 c254
          exact w_weak (lk (lk (lk (lk ln)))) h
        · have c254 := c254
          have h := h.2 c254
          refine w_iconst (by decide +kernel : am_at co_L_law 1079 = some (1, .iconst 0)) ?_
          exact w_zret (by decide +kernel : am_at co_L_law 1080 = some (1, .ireturn)) (by decide) h
      · refine ⟨1048, by rw [q]; rfl, ?_⟩
        have h := h.2.2.2.2.2.2.2.2.2.2.2.2.2.2.2.2.2.2.2.2.2.2.2.2.2.2.2.2.1 q
        refine w_aload_n (by decide +kernel : am_at co_L_law 1081 = some (1, .aload_n 1)) rfl ?_
        refine w_aload_n (by decide +kernel : am_at co_L_law 1082 = some (1, .aload_n 0)) rfl ?_
        refine w_iload_n (by decide +kernel : am_at co_L_law 1083 = some (1, .iload_n 3)) rfl ?_
        refine w_iconst (by decide +kernel : am_at co_L_law 1084 = some (1, .iconst 1)) ?_
        obtain ⟨o255, h⟩ := h
        refine w_iadd (by decide +kernel : am_at co_L_law 1085 = some (1, .iadd)) o255 ?_
        obtain ⟨o256, h⟩ := h
        refine w_iald (by decide +kernel : am_at co_L_law 1086 = some (1, .iaload)) (lw_in o256.1 o256.2) ?_
        refine w_callV (n := 2) (by decide +kernel : am_at co_L_law 1087 = some (3, .invokevirtual 130)) pq_13_130 pm_X11_told rfl rfl rfl ob_0 h (w_k0 fun x258 M258 h => ?_)
        refine w_aload_n (by decide +kernel : am_at co_L_law 1090 = some (1, .aload_n 2)) rfl ?_
        refine w_aload_n (by decide +kernel : am_at co_L_law 1091 = some (1, .aload_n 0)) rfl ?_
        refine w_iload_n (by decide +kernel : am_at co_L_law 1092 = some (1, .iload_n 3)) rfl ?_
        refine w_iconst (by decide +kernel : am_at co_L_law 1093 = some (1, .iconst 1)) ?_
        obtain ⟨o258, h⟩ := h
        refine w_iadd (by decide +kernel : am_at co_L_law 1094 = some (1, .iadd)) o258 ?_
        refine w_iald (by decide +kernel : am_at co_L_law 1095 = some (1, .iaload)) (lw_in o256.1 o256.2) ?_
        refine w_callV (n := 2) (by decide +kernel : am_at co_L_law 1096 = some (3, .invokevirtual 133)) pq_13_133 pm_X12_told rfl rfl rfl ob_152 h (w_k0 fun x260 M260 h => ?_)
        refine w_icmp (tgt := 1233) (by decide +kernel : am_at co_L_law 1099 = some (3, .if_icmp .eq 134)) rfl Iff.rfl (fun c260 => ?_) (fun c260 => ?_)
        · have h := h.1 c260
          exact w_weak (lk (lk (lk (lk ln)))) h
        · have c260 := c260
          have h := h.2 c260
          refine w_iconst (by decide +kernel : am_at co_L_law 1102 = some (1, .iconst 0)) ?_
          exact w_zret (by decide +kernel : am_at co_L_law 1103 = some (1, .ireturn)) (by decide) h
      · refine ⟨1071, by rw [q]; rfl, ?_⟩
        have h := h.2.2.2.2.2.2.2.2.2.2.2.2.2.2.2.2.2.2.2.2.2.2.2.2.2.2.2.2.2.1 q
        refine w_aload_n (by decide +kernel : am_at co_L_law 1104 = some (1, .aload_n 1)) rfl ?_
        refine w_aload_n (by decide +kernel : am_at co_L_law 1105 = some (1, .aload_n 0)) rfl ?_
        refine w_iload_n (by decide +kernel : am_at co_L_law 1106 = some (1, .iload_n 3)) rfl ?_
        refine w_iconst (by decide +kernel : am_at co_L_law 1107 = some (1, .iconst 1)) ?_
        obtain ⟨o261, h⟩ := h
        refine w_iadd (by decide +kernel : am_at co_L_law 1108 = some (1, .iadd)) o261 ?_
        obtain ⟨o262, h⟩ := h
        refine w_iald (by decide +kernel : am_at co_L_law 1109 = some (1, .iaload)) (lw_in o262.1 o262.2) ?_
        refine w_aload_n (by decide +kernel : am_at co_L_law 1110 = some (1, .aload_n 0)) rfl ?_
        refine w_iload_n (by decide +kernel : am_at co_L_law 1111 = some (1, .iload_n 3)) rfl ?_
        refine w_iconst (by decide +kernel : am_at co_L_law 1112 = some (1, .iconst 2)) ?_
        obtain ⟨o263, h⟩ := h
        refine w_iadd (by decide +kernel : am_at co_L_law 1113 = some (1, .iadd)) o263 ?_
        obtain ⟨o264, h⟩ := h
        refine w_iald (by decide +kernel : am_at co_L_law 1114 = some (1, .iaload)) (lw_in o264.1 o264.2) ?_
        refine w_callV (n := 3) (by decide +kernel : am_at co_L_law 1115 = some (3, .invokevirtual 134)) pq_13_134 pm_X11_fits rfl rfl rfl ob_0 h (w_k0 fun x266 M266 h => ?_)
        refine w_aload_n (by decide +kernel : am_at co_L_law 1118 = some (1, .aload_n 2)) rfl ?_
        refine w_aload_n (by decide +kernel : am_at co_L_law 1119 = some (1, .aload_n 0)) rfl ?_
        refine w_iload_n (by decide +kernel : am_at co_L_law 1120 = some (1, .iload_n 3)) rfl ?_
        refine w_iconst (by decide +kernel : am_at co_L_law 1121 = some (1, .iconst 1)) ?_
        obtain ⟨o266, h⟩ := h
        refine w_iadd (by decide +kernel : am_at co_L_law 1122 = some (1, .iadd)) o266 ?_
        refine w_iald (by decide +kernel : am_at co_L_law 1123 = some (1, .iaload)) (lw_in o262.1 o262.2) ?_
        refine w_aload_n (by decide +kernel : am_at co_L_law 1124 = some (1, .aload_n 0)) rfl ?_
        refine w_iload_n (by decide +kernel : am_at co_L_law 1125 = some (1, .iload_n 3)) rfl ?_
        refine w_iconst (by decide +kernel : am_at co_L_law 1126 = some (1, .iconst 2)) ?_
        obtain ⟨o267, h⟩ := h
        refine w_iadd (by decide +kernel : am_at co_L_law 1127 = some (1, .iadd)) o267 ?_
        refine w_iald (by decide +kernel : am_at co_L_law 1128 = some (1, .iaload)) (lw_in o264.1 o264.2) ?_
        refine w_callV (n := 3) (by decide +kernel : am_at co_L_law 1129 = some (3, .invokevirtual 137)) pq_13_137 pm_X12_fits rfl rfl rfl ob_152 h (w_k0 fun x269 M269 h => ?_)
        refine w_icmp (tgt := 1233) (by decide +kernel : am_at co_L_law 1132 = some (3, .if_icmp .eq 101)) rfl Iff.rfl (fun c269 => ?_) (fun c269 => ?_)
        · have h := h.1 c269
          exact w_weak (lk (lk (lk (lk ln)))) h
        · have c269 := c269
          have h := h.2 c269
          refine w_iconst (by decide +kernel : am_at co_L_law 1135 = some (1, .iconst 0)) ?_
          exact w_zret (by decide +kernel : am_at co_L_law 1136 = some (1, .ireturn)) (by decide) h
      · refine ⟨1104, by rw [q]; rfl, ?_⟩
        have h := h.2.2.2.2.2.2.2.2.2.2.2.2.2.2.2.2.2.2.2.2.2.2.2.2.2.2.2.2.2.2.1 q
        refine w_aload_n (by decide +kernel : am_at co_L_law 1137 = some (1, .aload_n 1)) rfl ?_
        refine w_aload_n (by decide +kernel : am_at co_L_law 1138 = some (1, .aload_n 0)) rfl ?_
        refine w_iload_n (by decide +kernel : am_at co_L_law 1139 = some (1, .iload_n 3)) rfl ?_
        refine w_iconst (by decide +kernel : am_at co_L_law 1140 = some (1, .iconst 1)) ?_
        obtain ⟨o270, h⟩ := h
        refine w_iadd (by decide +kernel : am_at co_L_law 1141 = some (1, .iadd)) o270 ?_
        obtain ⟨o271, h⟩ := h
        refine w_iald (by decide +kernel : am_at co_L_law 1142 = some (1, .iaload)) (lw_in o271.1 o271.2) ?_
        refine w_callV (n := 2) (by decide +kernel : am_at co_L_law 1143 = some (3, .invokevirtual 138)) pq_13_138 pm_X11_ask rfl rfl rfl ob_0 h (w_k1 fun x273 M273 h => ?_)
        refine w_aload_n (by decide +kernel : am_at co_L_law 1146 = some (1, .aload_n 2)) rfl ?_
        refine w_aload_n (by decide +kernel : am_at co_L_law 1147 = some (1, .aload_n 0)) rfl ?_
        refine w_iload_n (by decide +kernel : am_at co_L_law 1148 = some (1, .iload_n 3)) rfl ?_
        refine w_iconst (by decide +kernel : am_at co_L_law 1149 = some (1, .iconst 1)) ?_
        obtain ⟨o273, h⟩ := h
        refine w_iadd (by decide +kernel : am_at co_L_law 1150 = some (1, .iadd)) o273 ?_
        refine w_iald (by decide +kernel : am_at co_L_law 1151 = some (1, .iaload)) (lw_in o271.1 o271.2) ?_
        refine w_callV (n := 2) (by decide +kernel : am_at co_L_law 1152 = some (3, .invokevirtual 142)) pq_13_142 pm_X12_ask rfl rfl rfl ob_152 h (w_k1 fun x275 M275 h => ?_)
        refine w_lif (tgt := 1233) (by decide +kernel : am_at co_L_law 1155 = some (1, .lcmp)) (by decide +kernel : am_at co_L_law 1156 = some (3, .ifCond .eq 77)) rfl Iff.rfl (fun c275 => ?_) (fun c275 => ?_)
        · have h := h.1 c275
          exact w_weak (lk (lk (lk (lk ln)))) h
        · have c275 := c275
          have h := h.2 c275
          refine w_iconst (by decide +kernel : am_at co_L_law 1159 = some (1, .iconst 0)) ?_
          exact w_zret (by decide +kernel : am_at co_L_law 1160 = some (1, .ireturn)) (by decide) h
      · refine ⟨1128, by rw [q]; rfl, ?_⟩
        have h := h.2.2.2.2.2.2.2.2.2.2.2.2.2.2.2.2.2.2.2.2.2.2.2.2.2.2.2.2.2.2.2.1 q
        refine w_aload_n (by decide +kernel : am_at co_L_law 1161 = some (1, .aload_n 1)) rfl ?_
        refine w_callV (n := 1) (by decide +kernel : am_at co_L_law 1162 = some (3, .invokevirtual 143)) pq_13_143 pm_X11_image rfl rfl rfl ob_0 h (w_k0 fun x277 M277 h => ?_)
        refine w_aload_n (by decide +kernel : am_at co_L_law 1165 = some (1, .aload_n 2)) rfl ?_
        refine w_callV (n := 1) (by decide +kernel : am_at co_L_law 1166 = some (3, .invokevirtual 146)) pq_13_146 pm_X12_image rfl rfl rfl ob_152 h (w_k0 fun x278 M278 h => ?_)
        refine w_icmp (tgt := 1233) (by decide +kernel : am_at co_L_law 1169 = some (3, .if_icmp .eq 64)) rfl Iff.rfl (fun c278 => ?_) (fun c278 => ?_)
        · have h := h.1 c278
          exact w_weak (lk (lk (lk (lk ln)))) h
        · have c278 := c278
          have h := h.2 c278
          refine w_iconst (by decide +kernel : am_at co_L_law 1172 = some (1, .iconst 0)) ?_
          exact w_zret (by decide +kernel : am_at co_L_law 1173 = some (1, .ireturn)) (by decide) h
      · refine ⟨1141, by rw [q]; rfl, ?_⟩
        have h := h.2.2.2.2.2.2.2.2.2.2.2.2.2.2.2.2.2.2.2.2.2.2.2.2.2.2.2.2.2.2.2.2.1 q
        refine w_aload_n (by decide +kernel : am_at co_L_law 1174 = some (1, .aload_n 1)) rfl ?_
        refine w_aload_n (by decide +kernel : am_at co_L_law 1175 = some (1, .aload_n 0)) rfl ?_
        refine w_iload_n (by decide +kernel : am_at co_L_law 1176 = some (1, .iload_n 3)) rfl ?_
        refine w_iconst (by decide +kernel : am_at co_L_law 1177 = some (1, .iconst 1)) ?_
        obtain ⟨o279, h⟩ := h
        refine w_iadd (by decide +kernel : am_at co_L_law 1178 = some (1, .iadd)) o279 ?_
        obtain ⟨o280, h⟩ := h
        refine w_iald (by decide +kernel : am_at co_L_law 1179 = some (1, .iaload)) (lw_in o280.1 o280.2) ?_
        refine w_callV (n := 2) (by decide +kernel : am_at co_L_law 1180 = some (3, .invokevirtual 147)) pq_13_147 pm_X11_octet rfl rfl rfl ob_0 h (w_k0 fun x282 M282 h => ?_)
        refine w_aload_n (by decide +kernel : am_at co_L_law 1183 = some (1, .aload_n 2)) rfl ?_
        refine w_aload_n (by decide +kernel : am_at co_L_law 1184 = some (1, .aload_n 0)) rfl ?_
        refine w_iload_n (by decide +kernel : am_at co_L_law 1185 = some (1, .iload_n 3)) rfl ?_
        refine w_iconst (by decide +kernel : am_at co_L_law 1186 = some (1, .iconst 1)) ?_
        obtain ⟨o282, h⟩ := h
        refine w_iadd (by decide +kernel : am_at co_L_law 1187 = some (1, .iadd)) o282 ?_
        refine w_iald (by decide +kernel : am_at co_L_law 1188 = some (1, .iaload)) (lw_in o280.1 o280.2) ?_
        refine w_callV (n := 2) (by decide +kernel : am_at co_L_law 1189 = some (3, .invokevirtual 150)) pq_13_150 pm_X12_octet rfl rfl rfl ob_152 h (w_k0 fun x284 M284 h => ?_)
        refine w_icmp (tgt := 1233) (by decide +kernel : am_at co_L_law 1192 = some (3, .if_icmp .eq 41)) rfl Iff.rfl (fun c284 => ?_) (fun c284 => ?_)
        · have h := h.1 c284
          exact w_weak (lk (lk (lk (lk ln)))) h
        · have c284 := c284
          have h := h.2 c284
          refine w_iconst (by decide +kernel : am_at co_L_law 1195 = some (1, .iconst 0)) ?_
          exact w_zret (by decide +kernel : am_at co_L_law 1196 = some (1, .ireturn)) (by decide) h
      · refine ⟨1164, by rw [q]; rfl, ?_⟩
        have h := h.2.2.2.2.2.2.2.2.2.2.2.2.2.2.2.2.2.2.2.2.2.2.2.2.2.2.2.2.2.2.2.2.2.1 q
        refine w_aload_n (by decide +kernel : am_at co_L_law 1197 = some (1, .aload_n 1)) rfl ?_
        refine w_callV (n := 1) (by decide +kernel : am_at co_L_law 1198 = some (3, .invokevirtual 151)) pq_13_151 pm_X11_on rfl rfl rfl ob_0 h (w_k0 fun x286 M286 h => ?_)
        refine w_aload_n (by decide +kernel : am_at co_L_law 1201 = some (1, .aload_n 2)) rfl ?_
        refine w_callV (n := 1) (by decide +kernel : am_at co_L_law 1202 = some (3, .invokevirtual 154)) pq_13_154 pm_X12_on rfl rfl rfl ob_152 h (w_k0 fun x287 M287 h => ?_)
        refine w_icmp (tgt := 1233) (by decide +kernel : am_at co_L_law 1205 = some (3, .if_icmp .eq 28)) rfl Iff.rfl (fun c287 => ?_) (fun c287 => ?_)
        · have h := h.1 c287
          exact w_weak (lk (lk (lk (lk ln)))) h
        · have c287 := c287
          have h := h.2 c287
          refine w_iconst (by decide +kernel : am_at co_L_law 1208 = some (1, .iconst 0)) ?_
          exact w_zret (by decide +kernel : am_at co_L_law 1209 = some (1, .ireturn)) (by decide) h
      · refine ⟨1177, by rw [q]; rfl, ?_⟩
        have h := h.2.2.2.2.2.2.2.2.2.2.2.2.2.2.2.2.2.2.2.2.2.2.2.2.2.2.2.2.2.2.2.2.2.2 q
        refine w_aload_n (by decide +kernel : am_at co_L_law 1210 = some (1, .aload_n 1)) rfl ?_
        refine w_aload_n (by decide +kernel : am_at co_L_law 1211 = some (1, .aload_n 0)) rfl ?_
        refine w_iload_n (by decide +kernel : am_at co_L_law 1212 = some (1, .iload_n 3)) rfl ?_
        refine w_iconst (by decide +kernel : am_at co_L_law 1213 = some (1, .iconst 1)) ?_
        obtain ⟨o288, h⟩ := h
        refine w_iadd (by decide +kernel : am_at co_L_law 1214 = some (1, .iadd)) o288 ?_
        obtain ⟨o289, h⟩ := h
        refine w_iald (by decide +kernel : am_at co_L_law 1215 = some (1, .iaload)) (lw_in o289.1 o289.2) ?_
        refine w_callV (n := 2) (by decide +kernel : am_at co_L_law 1216 = some (3, .invokevirtual 155)) pq_13_155 pm_X11_status rfl rfl rfl ob_0 h (w_k0 fun x291 M291 h => ?_)
        refine w_aload_n (by decide +kernel : am_at co_L_law 1219 = some (1, .aload_n 2)) rfl ?_
        refine w_aload_n (by decide +kernel : am_at co_L_law 1220 = some (1, .aload_n 0)) rfl ?_
        refine w_iload_n (by decide +kernel : am_at co_L_law 1221 = some (1, .iload_n 3)) rfl ?_
        refine w_iconst (by decide +kernel : am_at co_L_law 1222 = some (1, .iconst 1)) ?_
        obtain ⟨o291, h⟩ := h
        refine w_iadd (by decide +kernel : am_at co_L_law 1223 = some (1, .iadd)) o291 ?_
        refine w_iald (by decide +kernel : am_at co_L_law 1224 = some (1, .iaload)) (lw_in o289.1 o289.2) ?_
        refine w_callV (n := 2) (by decide +kernel : am_at co_L_law 1225 = some (3, .invokevirtual 158)) pq_13_158 pm_X12_status rfl rfl rfl ob_152 h (w_k0 fun x293 M293 h => ?_)
        refine w_icmp (tgt := 1233) (by decide +kernel : am_at co_L_law 1228 = some (3, .if_icmp .eq 5)) rfl Iff.rfl (fun c293 => ?_) (fun c293 => ?_)
        · have h := h.1 c293
          exact w_weak (lk (lk (lk (lk ln)))) h
        · have c293 := c293
          have h := h.2 c293
          refine w_iconst (by decide +kernel : am_at co_L_law 1231 = some (1, .iconst 0)) ?_
          exact w_zret (by decide +kernel : am_at co_L_law 1232 = some (1, .ireturn)) (by decide) h
set_option maxRecDepth 20000 in
set_option maxHeartbeats 4000000 in
theorem bk_L_law_1233 {N d : Nat} {Q : am_Q} {M : am_M} {v3 : Int} (h : am_r (v3 + 6) ∧ am_h N 13 5 co_L_law d Q 18 [(2, 2000003), (2, 0), (2, 152), (0, v3 + 6)] [] sh_T M) : am_h N 13 5 co_L_law d Q 1233 [(2, 2000003), (2, 0), (2, 152), (0, v3)] [] sh_T M := by
  obtain ⟨o0, h⟩ := h
  refine w_iinc (L' := [(2, 2000003), (2, 0), (2, 152), (0, v3 + 6)]) (by decide +kernel : am_at co_L_law 1233 = some (3, .iinc 3 6)) rfl o0 rfl ?_
  refine w_goto (tgt := 18) (by decide +kernel : am_at co_L_law 1236 = some (3, .goto (-1218))) rfl ?_
  exact w_weak (lk (lk (lk (lk ln)))) h
