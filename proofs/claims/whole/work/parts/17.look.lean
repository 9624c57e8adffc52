theorem xf_0_9 : xFld 0 9 = some (0, 0, 0) := by decide +kernel
theorem xf_0_15 : xFld 0 15 = some (0, 1, 0) := by decide +kernel
theorem xf_0_18 : xFld 0 18 = some (0, 2, 0) := by decide +kernel
theorem xf_0_21 : xFld 0 21 = some (0, 3, 0) := by decide +kernel
theorem xf_0_24 : xFld 0 24 = some (0, 4, 0) := by decide +kernel
theorem xf_0_28 : xFld 0 28 = some (0, 6, 0) := by decide +kernel
theorem xf_0_37 : xFld 0 37 = some (0, 5, 0) := by decide +kernel
theorem xf_0_40 : xFld 0 40 = some (0, 7, 0) := by decide +kernel
theorem xf_0_43 : xFld 0 43 = some (10, 4, 1) := by decide +kernel
theorem xf_0_48 : xFld 0 48 = some (10, 3, 1) := by decide +kernel
theorem xf_0_59 : xFld 0 59 = some (10, 1, 1) := by decide +kernel
theorem xf_0_62 : xFld 0 62 = some (10, 2, 1) := by decide +kernel
theorem xf_1_9 : xFld 1 9 = some (1, 2, 0) := by decide +kernel
theorem xf_1_15 : xFld 1 15 = some (1, 0, 0) := by decide +kernel
theorem xf_1_19 : xFld 1 19 = some (1, 1, 0) := by decide +kernel
theorem xf_1_53 : xFld 1 53 = some (1, 3, 0) := by decide +kernel
theorem xf_1_57 : xFld 1 57 = some (1, 4, 0) := by decide +kernel
theorem xf_1_60 : xFld 1 60 = some (1, 5, 0) := by decide +kernel
theorem xf_1_63 : xFld 1 63 = some (1, 6, 0) := by decide +kernel
theorem xf_1_76 : xFld 1 76 = some (10, 0, 1) := by decide +kernel
theorem xf_1_79 : xFld 1 79 = some (10, 4, 1) := by decide +kernel
theorem xf_1_85 : xFld 1 85 = some (0, 3, 1) := by decide +kernel
theorem xf_1_103 : xFld 1 103 = some (1, 7, 0) := by decide +kernel
theorem xf_1_116 : xFld 1 116 = some (1, 8, 0) := by decide +kernel
theorem xf_1_119 : xFld 1 119 = some (1, 9, 0) := by decide +kernel
theorem xf_1_129 : xFld 1 129 = some (1, 10, 0) := by decide +kernel
theorem xf_1_132 : xFld 1 132 = some (0, 7, 1) := by decide +kernel
theorem xf_2_12 : xFld 2 12 = some (2, 1, 0) := by decide +kernel
theorem xf_2_18 : xFld 2 18 = some (2, 2, 0) := by decide +kernel
theorem xf_2_22 : xFld 2 22 = some (2, 3, 0) := by decide +kernel
theorem xf_2_25 : xFld 2 25 = some (2, 4, 0) := by decide +kernel
theorem xf_2_29 : xFld 2 29 = some (2, 5, 0) := by decide +kernel
theorem xf_2_32 : xFld 2 32 = some (2, 6, 0) := by decide +kernel
theorem xf_2_35 : xFld 2 35 = some (2, 7, 0) := by decide +kernel
theorem xf_2_38 : xFld 2 38 = some (2, 8, 0) := by decide +kernel
theorem xf_2_41 : xFld 2 41 = some (2, 9, 0) := by decide +kernel
theorem xf_2_44 : xFld 2 44 = some (2, 10, 0) := by decide +kernel
theorem xf_2_48 : xFld 2 48 = some (2, 11, 0) := by decide +kernel
theorem xf_2_51 : xFld 2 51 = some (2, 12, 0) := by decide +kernel
theorem xf_2_54 : xFld 2 54 = some (2, 0, 0) := by decide +kernel
theorem xf_2_64 : xFld 2 64 = some (2, 13, 0) := by decide +kernel
theorem xf_2_68 : xFld 2 68 = some (2, 14, 0) := by decide +kernel
theorem xf_2_71 : xFld 2 71 = some (2, 15, 0) := by decide +kernel
theorem xf_2_83 : xFld 2 83 = some (10, 4, 1) := by decide +kernel
theorem xf_2_123 : xFld 2 123 = some (10, 0, 1) := by decide +kernel
theorem xf_3_11 : xFld 3 11 = some (3, 0, 0) := by decide +kernel
theorem xf_3_16 : xFld 3 16 = some (3, 2, 0) := by decide +kernel
theorem xf_3_20 : xFld 3 20 = some (3, 1, 0) := by decide +kernel
theorem xf_4_11 : xFld 4 11 = some (4, 0, 0) := by decide +kernel
theorem xf_4_15 : xFld 4 15 = some (8, 1, 1) := by decide +kernel
theorem xf_4_27 : xFld 4 27 = some (4, 1, 0) := by decide +kernel
theorem xf_4_51 : xFld 4 51 = some (8, 0, 1) := by decide +kernel
theorem xf_4_60 : xFld 4 60 = some (4, 2, 0) := by decide +kernel
theorem xf_5_9 : xFld 5 9 = some (5, 0, 0) := by decide +kernel
theorem xf_5_15 : xFld 5 15 = some (5, 1, 0) := by decide +kernel
theorem xf_6_11 : xFld 6 11 = some (6, 0, 0) := by decide +kernel
theorem xf_6_15 : xFld 6 15 = some (6, 1, 0) := by decide +kernel
theorem xf_6_18 : xFld 6 18 = some (6, 2, 0) := by decide +kernel
theorem xf_6_21 : xFld 6 21 = some (6, 3, 0) := by decide +kernel
theorem xf_6_24 : xFld 6 24 = some (6, 4, 0) := by decide +kernel
theorem xf_6_34 : xFld 6 34 = some (8, 1, 1) := by decide +kernel
theorem xf_6_49 : xFld 6 49 = some (6, 10, 0) := by decide +kernel
theorem xf_6_60 : xFld 6 60 = some (6, 8, 0) := by decide +kernel
theorem xf_6_73 : xFld 6 73 = some (6, 6, 0) := by decide +kernel
theorem xf_6_76 : xFld 6 76 = some (6, 5, 0) := by decide +kernel
theorem xf_6_79 : xFld 6 79 = some (6, 7, 0) := by decide +kernel
theorem xf_6_82 : xFld 6 82 = some (6, 9, 0) := by decide +kernel
theorem xf_6_111 : xFld 6 111 = some (8, 0, 1) := by decide +kernel
theorem xf_7_12 : xFld 7 12 = some (7, 0, 0) := by decide +kernel
theorem xf_7_18 : xFld 7 18 = some (7, 2, 0) := by decide +kernel
theorem xf_7_22 : xFld 7 22 = some (7, 3, 0) := by decide +kernel
theorem xf_7_25 : xFld 7 25 = some (7, 1, 0) := by decide +kernel
theorem xf_7_28 : xFld 7 28 = some (7, 4, 0) := by decide +kernel
theorem xf_7_31 : xFld 7 31 = some (7, 5, 0) := by decide +kernel
theorem xf_8_9 : xFld 8 9 = some (8, 0, 0) := by decide +kernel
theorem xf_8_13 : xFld 8 13 = some (8, 1, 0) := by decide +kernel
theorem xf_9_11 : xFld 9 11 = some (9, 0, 0) := by decide +kernel
theorem xf_9_15 : xFld 9 15 = some (9, 1, 0) := by decide +kernel
theorem xf_9_19 : xFld 9 19 = some (9, 2, 0) := by decide +kernel
theorem xf_9_22 : xFld 9 22 = some (9, 3, 0) := by decide +kernel
theorem xf_9_25 : xFld 9 25 = some (9, 4, 0) := by decide +kernel
theorem xf_9_28 : xFld 9 28 = some (9, 5, 0) := by decide +kernel
theorem xf_9_31 : xFld 9 31 = some (9, 6, 0) := by decide +kernel
theorem xf_9_34 : xFld 9 34 = some (9, 7, 0) := by decide +kernel
theorem xf_9_37 : xFld 9 37 = some (9, 8, 0) := by decide +kernel
theorem xf_9_40 : xFld 9 40 = some (9, 9, 0) := by decide +kernel
theorem xf_9_46 : xFld 9 46 = some (9, 10, 0) := by decide +kernel
theorem xf_9_66 : xFld 9 66 = some (9, 11, 0) := by decide +kernel
theorem xf_10_9 : xFld 10 9 = some (10, 0, 0) := by decide +kernel
theorem xf_10_15 : xFld 10 15 = some (10, 1, 0) := by decide +kernel
theorem xf_10_18 : xFld 10 18 = some (10, 2, 0) := by decide +kernel
theorem xf_10_21 : xFld 10 21 = some (10, 3, 0) := by decide +kernel
theorem xf_10_39 : xFld 10 39 = some (8, 1, 1) := by decide +kernel
theorem xf_10_62 : xFld 10 62 = some (8, 0, 1) := by decide +kernel
theorem xf_10_69 : xFld 10 69 = some (10, 4, 0) := by decide +kernel
theorem xf_11_12 : xFld 11 12 = some (11, 0, 0) := by decide +kernel
theorem xf_11_19 : xFld 11 19 = some (11, 1, 0) := by decide +kernel
theorem xf_11_26 : xFld 11 26 = some (11, 2, 0) := by decide +kernel
theorem xf_11_33 : xFld 11 33 = some (11, 3, 0) := by decide +kernel
theorem xf_11_37 : xFld 11 37 = some (11, 4, 0) := by decide +kernel
theorem xf_11_41 : xFld 11 41 = some (11, 5, 0) := by decide +kernel
theorem xf_11_48 : xFld 11 48 = some (11, 6, 0) := by decide +kernel
theorem xf_11_55 : xFld 11 55 = some (11, 7, 0) := by decide +kernel
theorem xf_11_64 : xFld 11 64 = some (11, 8, 0) := by decide +kernel
theorem xf_11_73 : xFld 11 73 = some (11, 9, 0) := by decide +kernel
theorem xf_11_80 : xFld 11 80 = some (11, 10, 0) := by decide +kernel
theorem xf_11_87 : xFld 11 87 = some (11, 11, 0) := by decide +kernel
theorem xf_11_94 : xFld 11 94 = some (11, 12, 0) := by decide +kernel
theorem xf_11_98 : xFld 11 98 = some (11, 13, 0) := by decide +kernel
theorem xf_11_101 : xFld 11 101 = some (11, 14, 0) := by decide +kernel
theorem xf_11_105 : xFld 11 105 = some (11, 15, 0) := by decide +kernel
theorem xf_11_108 : xFld 11 108 = some (11, 16, 0) := by decide +kernel
theorem xf_11_122 : xFld 11 122 = some (8, 1, 1) := by decide +kernel
theorem xf_11_132 : xFld 11 132 = some (7, 0, 1) := by decide +kernel
theorem xf_11_147 : xFld 11 147 = some (10, 4, 1) := by decide +kernel
theorem xf_11_156 : xFld 11 156 = some (8, 0, 1) := by decide +kernel
theorem xf_11_159 : xFld 11 159 = some (7, 1, 1) := by decide +kernel
theorem xf_11_175 : xFld 11 175 = some (10, 0, 1) := by decide +kernel
theorem xf_11_209 : xFld 11 209 = some (0, 1, 1) := by decide +kernel
theorem xf_11_212 : xFld 11 212 = some (0, 2, 1) := by decide +kernel
theorem xf_11_215 : xFld 11 215 = some (0, 3, 1) := by decide +kernel
theorem xf_11_218 : xFld 11 218 = some (10, 3, 1) := by decide +kernel
theorem xf_11_240 : xFld 11 240 = some (0, 0, 1) := by decide +kernel
theorem xf_11_245 : xFld 11 245 = some (0, 4, 1) := by decide +kernel
theorem xf_11_252 : xFld 11 252 = some (0, 7, 1) := by decide +kernel
theorem xf_11_263 : xFld 11 263 = some (0, 6, 1) := by decide +kernel
theorem xf_11_267 : xFld 11 267 = some (10, 2, 1) := by decide +kernel
theorem xf_11_270 : xFld 11 270 = some (10, 1, 1) := by decide +kernel
theorem xf_11_288 : xFld 11 288 = some (1, 5, 1) := by decide +kernel
theorem xf_11_291 : xFld 11 291 = some (1, 6, 1) := by decide +kernel
theorem xf_11_294 : xFld 11 294 = some (1, 4, 1) := by decide +kernel
theorem xf_11_297 : xFld 11 297 = some (1, 3, 1) := by decide +kernel
theorem xf_11_321 : xFld 11 321 = some (1, 7, 1) := by decide +kernel
theorem xf_11_324 : xFld 11 324 = some (1, 8, 1) := by decide +kernel
theorem xf_11_327 : xFld 11 327 = some (1, 9, 1) := by decide +kernel
theorem xf_11_333 : xFld 11 333 = some (1, 10, 1) := by decide +kernel
theorem xf_11_354 : xFld 11 354 = some (0, 5, 1) := by decide +kernel
theorem xf_11_358 : xFld 11 358 = some (4, 1, 1) := by decide +kernel
theorem xf_11_361 : xFld 11 361 = some (4, 0, 1) := by decide +kernel
theorem xf_11_364 : xFld 11 364 = some (3, 2, 1) := by decide +kernel
theorem xf_11_368 : xFld 11 368 = some (7, 4, 1) := by decide +kernel
theorem xf_11_371 : xFld 11 371 = some (7, 5, 1) := by decide +kernel
theorem xf_11_372 : xFld 11 372 = some (7, 3, 1) := by decide +kernel
theorem xf_11_379 : xFld 11 379 = some (2, 15, 1) := by decide +kernel
theorem xf_11_392 : xFld 11 392 = some (2, 9, 1) := by decide +kernel
theorem xf_11_406 : xFld 11 406 = some (2, 7, 1) := by decide +kernel
theorem xf_11_412 : xFld 11 412 = some (2, 8, 1) := by decide +kernel
theorem xf_11_418 : xFld 11 418 = some (2, 14, 1) := by decide +kernel
theorem xf_11_453 : xFld 11 453 = some (9, 10, 1) := by decide +kernel
theorem xf_11_454 : xFld 11 454 = some (9, 2, 1) := by decide +kernel
theorem xf_11_457 : xFld 11 457 = some (9, 3, 1) := by decide +kernel
theorem xf_11_463 : xFld 11 463 = some (9, 11, 1) := by decide +kernel
theorem xf_11_466 : xFld 11 466 = some (9, 8, 1) := by decide +kernel
theorem xf_11_473 : xFld 11 473 = some (9, 9, 1) := by decide +kernel
theorem xf_11_476 : xFld 11 476 = some (9, 7, 1) := by decide +kernel
theorem xf_11_479 : xFld 11 479 = some (9, 6, 1) := by decide +kernel
theorem xf_11_484 : xFld 11 484 = some (7, 2, 1) := by decide +kernel
theorem xf_11_487 : xFld 11 487 = some (5, 1, 1) := by decide +kernel
theorem xf_11_490 : xFld 11 490 = some (5, 0, 1) := by decide +kernel
theorem xf_12_3 : xFld 12 3 = some (12, 0, 0) := by decide +kernel
theorem xf_12_11 : xFld 12 11 = some (12, 2, 0) := by decide +kernel
theorem xf_12_15 : xFld 12 15 = some (12, 1, 0) := by decide +kernel
theorem xf_12_24 : xFld 12 24 = some (12, 3, 0) := by decide +kernel
theorem xf_12_28 : xFld 12 28 = some (12, 4, 0) := by decide +kernel
theorem xf_12_31 : xFld 12 31 = some (12, 5, 0) := by decide +kernel
theorem xf_12_34 : xFld 12 34 = some (12, 6, 0) := by decide +kernel
theorem xf_12_37 : xFld 12 37 = some (12, 9, 0) := by decide +kernel
theorem xf_12_40 : xFld 12 40 = some (12, 14, 0) := by decide +kernel
theorem xf_12_43 : xFld 12 43 = some (12, 15, 0) := by decide +kernel
theorem xf_12_46 : xFld 12 46 = some (12, 16, 0) := by decide +kernel
theorem xf_12_49 : xFld 12 49 = some (12, 19, 0) := by decide +kernel
theorem xf_12_52 : xFld 12 52 = some (12, 20, 0) := by decide +kernel
theorem xf_12_55 : xFld 12 55 = some (12, 21, 0) := by decide +kernel
theorem xf_12_58 : xFld 12 58 = some (12, 22, 0) := by decide +kernel
theorem xf_12_61 : xFld 12 61 = some (12, 24, 0) := by decide +kernel
theorem xf_12_64 : xFld 12 64 = some (12, 27, 0) := by decide +kernel
theorem xf_12_67 : xFld 12 67 = some (12, 29, 0) := by decide +kernel
theorem xf_12_70 : xFld 12 70 = some (12, 30, 0) := by decide +kernel
theorem xf_12_73 : xFld 12 73 = some (12, 32, 0) := by decide +kernel
theorem xf_12_76 : xFld 12 76 = some (12, 33, 0) := by decide +kernel
theorem xf_12_79 : xFld 12 79 = some (12, 34, 0) := by decide +kernel
theorem xf_12_82 : xFld 12 82 = some (12, 35, 0) := by decide +kernel
theorem xf_12_85 : xFld 12 85 = some (12, 36, 0) := by decide +kernel
theorem xf_12_88 : xFld 12 88 = some (12, 39, 0) := by decide +kernel
theorem xf_12_91 : xFld 12 91 = some (12, 40, 0) := by decide +kernel
theorem xf_12_94 : xFld 12 94 = some (12, 41, 0) := by decide +kernel
theorem xf_12_97 : xFld 12 97 = some (12, 42, 0) := by decide +kernel
theorem xf_12_100 : xFld 12 100 = some (12, 43, 0) := by decide +kernel
theorem xf_12_103 : xFld 12 103 = some (12, 45, 0) := by decide +kernel
theorem xf_12_106 : xFld 12 106 = some (12, 46, 0) := by decide +kernel
theorem xf_12_109 : xFld 12 109 = some (12, 47, 0) := by decide +kernel
theorem xf_12_112 : xFld 12 112 = some (12, 48, 0) := by decide +kernel
theorem xf_12_115 : xFld 12 115 = some (12, 49, 0) := by decide +kernel
theorem xf_12_118 : xFld 12 118 = some (12, 51, 0) := by decide +kernel
theorem xf_12_122 : xFld 12 122 = some (12, 52, 0) := by decide +kernel
theorem xf_12_143 : xFld 12 143 = some (12, 10, 0) := by decide +kernel
theorem xf_12_146 : xFld 12 146 = some (12, 11, 0) := by decide +kernel
theorem xf_12_149 : xFld 12 149 = some (12, 13, 0) := by decide +kernel
theorem xf_12_158 : xFld 12 158 = some (12, 12, 0) := by decide +kernel
theorem xf_12_189 : xFld 12 189 = some (12, 28, 0) := by decide +kernel
theorem xf_12_196 : xFld 12 196 = some (12, 18, 0) := by decide +kernel
theorem xf_12_221 : xFld 12 221 = some (12, 17, 0) := by decide +kernel
theorem xf_12_231 : xFld 12 231 = some (12, 23, 0) := by decide +kernel
theorem xf_12_234 : xFld 12 234 = some (12, 7, 0) := by decide +kernel
theorem xf_12_237 : xFld 12 237 = some (12, 8, 0) := by decide +kernel
theorem xf_12_316 : xFld 12 316 = some (12, 25, 0) := by decide +kernel
theorem xf_12_319 : xFld 12 319 = some (12, 26, 0) := by decide +kernel
theorem xf_12_339 : xFld 12 339 = some (12, 31, 0) := by decide +kernel
theorem xf_12_357 : xFld 12 357 = some (12, 37, 0) := by decide +kernel
theorem xf_12_360 : xFld 12 360 = some (12, 38, 0) := by decide +kernel
theorem xf_12_403 : xFld 12 403 = some (12, 44, 0) := by decide +kernel
theorem xf_12_406 : xFld 12 406 = some (12, 50, 0) := by decide +kernel
theorem xm_0_3 : xMet 0 3 = some (10, 0, 0) := by decide +kernel
theorem xm_0_51 : xMet 0 51 = some (1, 4, 3) := by decide +kernel
theorem xm_0_55 : xMet 0 55 = some (0, 5, 2) := by decide +kernel
theorem xm_0_65 : xMet 0 65 = some (12, 0, 2) := by decide +kernel
theorem xm_1_3 : xMet 1 3 = some (10, 0, 0) := by decide +kernel
theorem xm_1_23 : xMet 1 23 = some (0, 102, 1) := by decide +kernel
theorem xm_1_29 : xMet 1 29 = some (0, 97, 1) := by decide +kernel
theorem xm_1_33 : xMet 1 33 = some (0, 103, 1) := by decide +kernel
theorem xm_1_36 : xMet 1 36 = some (0, 93, 1) := by decide +kernel
theorem xm_1_39 : xMet 1 39 = some (0, 3, 1) := by decide +kernel
theorem xm_1_45 : xMet 1 45 = some (0, 92, 2) := by decide +kernel
theorem xm_1_49 : xMet 1 49 = some (0, 101, 0) := by decide +kernel
theorem xm_1_66 : xMet 1 66 = some (0, 7, 2) := by decide +kernel
theorem xm_1_70 : xMet 1 70 = some (0, 99, 1) := by decide +kernel
theorem xm_1_73 : xMet 1 73 = some (0, 90, 1) := by decide +kernel
theorem xm_1_82 : xMet 1 82 = some (0, 91, 1) := by decide +kernel
theorem xm_1_88 : xMet 1 88 = some (0, 64, 1) := by decide +kernel
theorem xm_1_94 : xMet 1 94 = some (12, 0, 2) := by decide +kernel
theorem xm_1_100 : xMet 1 100 = some (11, 0, 2) := by decide +kernel
theorem xm_1_106 : xMet 1 106 = some (0, 9, 3) := by decide +kernel
theorem xm_1_110 : xMet 1 110 = some (0, 12, 2) := by decide +kernel
theorem xm_1_113 : xMet 1 113 = some (0, 10, 1) := by decide +kernel
theorem xm_1_122 : xMet 1 122 = some (0, 94, 2) := by decide +kernel
theorem xm_1_125 : xMet 1 125 = some (0, 8, 1) := by decide +kernel
theorem xm_1_135 : xMet 1 135 = some (0, 16, 3) := by decide +kernel
theorem xm_1_139 : xMet 1 139 = some (0, 11, 2) := by decide +kernel
theorem xm_2_3 : xMet 2 3 = some (10, 0, 0) := by decide +kernel
theorem xm_2_11 : xMet 2 11 = some (2, 84, 0) := by decide +kernel
theorem xm_2_58 : xMet 2 58 = some (1, 266, 2) := by decide +kernel
theorem xm_2_75 : xMet 2 75 = some (0, 22, 1) := by decide +kernel
theorem xm_2_79 : xMet 2 79 = some (0, 26, 0) := by decide +kernel
theorem xm_2_86 : xMet 2 86 = some (0, 21, 4) := by decide +kernel
theorem xm_2_90 : xMet 2 90 = some (0, 19, 1) := by decide +kernel
theorem xm_2_94 : xMet 2 94 = some (0, 25, 1) := by decide +kernel
theorem xm_2_97 : xMet 2 97 = some (0, 101, 0) := by decide +kernel
theorem xm_2_100 : xMet 2 100 = some (0, 7, 2) := by decide +kernel
theorem xm_2_106 : xMet 2 106 = some (0, 20, 2) := by decide +kernel
theorem xm_2_110 : xMet 2 110 = some (0, 103, 1) := by decide +kernel
theorem xm_2_114 : xMet 2 114 = some (13, 0, 5) := by decide +kernel
theorem xm_2_120 : xMet 2 120 = some (0, 23, 2) := by decide +kernel
theorem xm_2_126 : xMet 2 126 = some (1, 265, 2) := by decide +kernel
theorem xm_2_133 : xMet 2 133 = some (0, 88, 0) := by decide +kernel
theorem xm_2_136 : xMet 2 136 = some (0, 24, 2) := by decide +kernel
theorem xm_2_140 : xMet 2 140 = some (0, 92, 2) := by decide +kernel
theorem xm_2_143 : xMet 2 143 = some (0, 27, 0) := by decide +kernel
theorem xm_2_146 : xMet 2 146 = some (0, 28, 1) := by decide +kernel
theorem xm_2_152 : xMet 2 152 = some (1, 29, 1) := by decide +kernel
theorem xm_2_155 : xMet 2 155 = some (0, 32, 2) := by decide +kernel
theorem xm_2_158 : xMet 2 158 = some (0, 50, 0) := by decide +kernel
theorem xm_2_161 : xMet 2 161 = some (0, 51, 1) := by decide +kernel
theorem xm_2_165 : xMet 2 165 = some (0, 37, 1) := by decide +kernel
theorem xm_3_1 : xMet 3 1 = some (10, 0, 0) := by decide +kernel
theorem xm_3_15 : xMet 3 15 = some (3, 67, 0) := by decide +kernel
theorem xm_3_23 : xMet 3 23 = some (0, 71, 1) := by decide +kernel
theorem xm_3_27 : xMet 3 27 = some (12, 0, 2) := by decide +kernel
theorem xm_4_3 : xMet 4 3 = some (10, 0, 0) := by decide +kernel
theorem xm_4_21 : xMet 4 21 = some (12, 0, 2) := by decide +kernel
theorem xm_4_30 : xMet 4 30 = some (0, 47, 3) := by decide +kernel
theorem xm_4_36 : xMet 4 36 = some (0, 77, 2) := by decide +kernel
theorem xm_4_42 : xMet 4 42 = some (0, 76, 1) := by decide +kernel
theorem xm_4_46 : xMet 4 46 = some (0, 48, 3) := by decide +kernel
theorem xm_4_54 : xMet 4 54 = some (14, 0, 1) := by decide +kernel
theorem xm_4_63 : xMet 4 63 = some (0, 268, 1) := by decide +kernel
theorem xm_5_3 : xMet 5 3 = some (10, 0, 0) := by decide +kernel
theorem xm_6_3 : xMet 6 3 = some (10, 0, 0) := by decide +kernel
theorem xm_6_28 : xMet 6 28 = some (0, 56, 0) := by decide +kernel
theorem xm_6_31 : xMet 6 31 = some (0, 54, 0) := by decide +kernel
theorem xm_6_40 : xMet 6 40 = some (12, 0, 2) := by decide +kernel
theorem xm_6_46 : xMet 6 46 = some (0, 55, 0) := by decide +kernel
theorem xm_6_53 : xMet 6 53 = some (0, 59, 2) := by decide +kernel
theorem xm_6_57 : xMet 6 57 = some (0, 60, 2) := by decide +kernel
theorem xm_6_63 : xMet 6 63 = some (0, 63, 1) := by decide +kernel
theorem xm_6_67 : xMet 6 67 = some (13, 0, 5) := by decide +kernel
theorem xm_6_87 : xMet 6 87 = some (14, 0, 1) := by decide +kernel
theorem xm_6_93 : xMet 6 93 = some (0, 57, 1) := by decide +kernel
theorem xm_6_98 : xMet 6 98 = some (0, 77, 2) := by decide +kernel
theorem xm_6_102 : xMet 6 102 = some (0, 58, 1) := by decide +kernel
theorem xm_6_107 : xMet 6 107 = some (0, 76, 1) := by decide +kernel
theorem xm_6_118 : xMet 6 118 = some (0, 61, 1) := by decide +kernel
theorem xm_6_121 : xMet 6 121 = some (1, 62, 1) := by decide +kernel
theorem xm_6_124 : xMet 6 124 = some (1, 66, 3) := by decide +kernel
theorem xm_6_128 : xMet 6 128 = some (1, 65, 2) := by decide +kernel
theorem xm_7_3 : xMet 7 3 = some (10, 0, 0) := by decide +kernel
theorem xm_7_11 : xMet 7 11 = some (2, 84, 0) := by decide +kernel
theorem xm_7_34 : xMet 7 34 = some (0, 89, 1) := by decide +kernel
theorem xm_8_1 : xMet 8 1 = some (10, 0, 0) := by decide +kernel
theorem xm_8_17 : xMet 8 17 = some (14, 0, 1) := by decide +kernel
theorem xm_9_3 : xMet 9 3 = some (10, 0, 0) := by decide +kernel
theorem xm_9_43 : xMet 9 43 = some (0, 79, 0) := by decide +kernel
theorem xm_9_50 : xMet 9 50 = some (1, 266, 2) := by decide +kernel
theorem xm_9_56 : xMet 9 56 = some (0, 90, 1) := by decide +kernel
theorem xm_9_62 : xMet 9 62 = some (0, 81, 3) := by decide +kernel
theorem xm_9_69 : xMet 9 69 = some (1, 96, 3) := by decide +kernel
theorem xm_9_73 : xMet 9 73 = some (0, 83, 4) := by decide +kernel
theorem xm_9_77 : xMet 9 77 = some (13, 0, 5) := by decide +kernel
theorem xm_10_3 : xMet 10 3 = some (10, 0, 0) := by decide +kernel
theorem xm_10_24 : xMet 10 24 = some (1, 266, 2) := by decide +kernel
theorem xm_10_30 : xMet 10 30 = some (12, 0, 2) := by decide +kernel
theorem xm_10_36 : xMet 10 36 = some (11, 0, 2) := by decide +kernel
theorem xm_10_47 : xMet 10 47 = some (0, 77, 2) := by decide +kernel
theorem xm_10_55 : xMet 10 55 = some (0, 88, 0) := by decide +kernel
theorem xm_10_58 : xMet 10 58 = some (0, 76, 1) := by decide +kernel
theorem xm_10_65 : xMet 10 65 = some (0, 92, 2) := by decide +kernel
theorem xm_10_72 : xMet 10 72 = some (13, 0, 5) := by decide +kernel
theorem xm_10_78 : xMet 10 78 = some (0, 95, 1) := by decide +kernel
theorem xm_10_82 : xMet 10 82 = some (0, 90, 1) := by decide +kernel
theorem xm_10_85 : xMet 10 85 = some (0, 93, 1) := by decide +kernel
theorem xm_10_89 : xMet 10 89 = some (1, 96, 3) := by decide +kernel
theorem xm_10_93 : xMet 10 93 = some (0, 97, 1) := by decide +kernel
theorem xm_10_96 : xMet 10 96 = some (0, 91, 1) := by decide +kernel
theorem xm_11_3 : xMet 11 3 = some (10, 0, 0) := by decide +kernel
theorem xm_11_11 : xMet 11 11 = some (3, 72, 0) := by decide +kernel
theorem xm_11_18 : xMet 11 18 = some (3, 49, 0) := by decide +kernel
theorem xm_11_25 : xMet 11 25 = some (3, 67, 0) := by decide +kernel
theorem xm_11_32 : xMet 11 32 = some (2, 41, 0) := by decide +kernel
theorem xm_11_47 : xMet 11 47 = some (3, 0, 0) := by decide +kernel
theorem xm_11_54 : xMet 11 54 = some (2, 52, 0) := by decide +kernel
theorem xm_11_61 : xMet 11 61 = some (2, 6, 2) := by decide +kernel
theorem xm_11_70 : xMet 11 70 = some (2, 17, 1) := by decide +kernel
theorem xm_11_79 : xMet 11 79 = some (2, 78, 0) := by decide +kernel
theorem xm_11_86 : xMet 11 86 = some (3, 45, 0) := by decide +kernel
theorem xm_11_93 : xMet 11 93 = some (2, 84, 0) := by decide +kernel
theorem xm_11_112 : xMet 11 112 = some (1, 266, 2) := by decide +kernel
theorem xm_11_118 : xMet 11 118 = some (0, 73, 1) := by decide +kernel
theorem xm_11_125 : xMet 11 125 = some (0, 74, 1) := by decide +kernel
theorem xm_11_128 : xMet 11 128 = some (1, 86, 1) := by decide +kernel
theorem xm_11_135 : xMet 11 135 = some (0, 87, 1) := by decide +kernel
theorem xm_11_139 : xMet 11 139 = some (0, 69, 0) := by decide +kernel
theorem xm_11_142 : xMet 11 142 = some (0, 79, 0) := by decide +kernel
theorem xm_11_145 : xMet 11 145 = some (0, 42, 0) := by decide +kernel
theorem xm_11_146 : xMet 11 146 = some (0, 75, 0) := by decide +kernel
theorem xm_11_150 : xMet 11 150 = some (0, 53, 1) := by decide +kernel
theorem xm_11_152 : xMet 11 152 = some (0, 110, 0) := by decide +kernel
theorem xm_11_162 : xMet 11 162 = some (0, 76, 1) := by decide +kernel
theorem xm_11_165 : xMet 11 165 = some (0, 90, 1) := by decide +kernel
theorem xm_11_178 : xMet 11 178 = some (0, 99, 1) := by decide +kernel
theorem xm_11_181 : xMet 11 181 = some (0, 98, 1) := by decide +kernel
theorem xm_11_185 : xMet 11 185 = some (0, 112, 1) := by decide +kernel
theorem xm_11_190 : xMet 11 190 = some (0, 97, 1) := by decide +kernel
theorem xm_11_193 : xMet 11 193 = some (0, 93, 1) := by decide +kernel
theorem xm_11_196 : xMet 11 196 = some (0, 3, 1) := by decide +kernel
theorem xm_11_200 : xMet 11 200 = some (0, 92, 2) := by decide +kernel
theorem xm_11_204 : xMet 11 204 = some (0, 91, 1) := by decide +kernel
theorem xm_11_221 : xMet 11 221 = some (1, 1, 1) := by decide +kernel
theorem xm_11_224 : xMet 11 224 = some (1, 2, 1) := by decide +kernel
theorem xm_11_229 : xMet 11 229 = some (0, 116, 4) := by decide +kernel
theorem xm_11_233 : xMet 11 233 = some (1, 117, 2) := by decide +kernel
theorem xm_11_237 : xMet 11 237 = some (1, 85, 1) := by decide +kernel
theorem xm_11_244 : xMet 11 244 = some (0, 50, 0) := by decide +kernel
theorem xm_11_248 : xMet 11 248 = some (0, 51, 1) := by decide +kernel
theorem xm_11_255 : xMet 11 255 = some (0, 100, 1) := by decide +kernel
theorem xm_11_258 : xMet 11 258 = some (1, 267, 1) := by decide +kernel
theorem xm_11_273 : xMet 11 273 = some (0, 68, 0) := by decide +kernel
theorem xm_11_277 : xMet 11 277 = some (0, 269, 1) := by decide +kernel
theorem xm_11_280 : xMet 11 280 = some (0, 125, 0) := by decide +kernel
theorem xm_11_284 : xMet 11 284 = some (0, 8, 1) := by decide +kernel
theorem xm_11_300 : xMet 11 300 = some (0, 102, 1) := by decide +kernel
theorem xm_11_303 : xMet 11 303 = some (0, 7, 2) := by decide +kernel
theorem xm_11_307 : xMet 11 307 = some (0, 126, 1) := by decide +kernel
theorem xm_11_310 : xMet 11 310 = some (0, 9, 3) := by decide +kernel
theorem xm_11_314 : xMet 11 314 = some (0, 10, 1) := by decide +kernel
theorem xm_11_317 : xMet 11 317 = some (0, 11, 2) := by decide +kernel
theorem xm_11_330 : xMet 11 330 = some (0, 13, 2) := by decide +kernel
theorem xm_11_336 : xMet 11 336 = some (0, 14, 2) := by decide +kernel
theorem xm_11_339 : xMet 11 339 = some (0, 43, 1) := by decide +kernel
theorem xm_11_343 : xMet 11 343 = some (0, 133, 1) := by decide +kernel
theorem xm_11_347 : xMet 11 347 = some (0, 70, 3) := by decide +kernel
theorem xm_11_351 : xMet 11 351 = some (0, 103, 1) := by decide +kernel
theorem xm_11_357 : xMet 11 357 = some (0, 46, 1) := by decide +kernel
theorem xm_11_365 : xMet 11 365 = some (0, 44, 1) := by decide +kernel
theorem xm_11_375 : xMet 11 375 = some (0, 18, 2) := by decide +kernel
theorem xm_11_383 : xMet 11 383 = some (0, 137, 0) := by decide +kernel
theorem xm_11_386 : xMet 11 386 = some (0, 30, 0) := by decide +kernel
theorem xm_11_389 : xMet 11 389 = some (0, 33, 2) := by decide +kernel
theorem xm_11_395 : xMet 11 395 = some (0, 31, 1) := by decide +kernel
theorem xm_11_399 : xMet 11 399 = some (0, 34, 1) := by decide +kernel
theorem xm_11_403 : xMet 11 403 = some (0, 35, 0) := by decide +kernel
theorem xm_11_409 : xMet 11 409 = some (0, 38, 1) := by decide +kernel
theorem xm_11_415 : xMet 11 415 = some (0, 40, 0) := by decide +kernel
theorem xm_11_421 : xMet 11 421 = some (0, 36, 1) := by decide +kernel
theorem xm_11_424 : xMet 11 424 = some (0, 39, 2) := by decide +kernel
theorem xm_11_428 : xMet 11 428 = some (0, 15, 4) := by decide +kernel
theorem xm_11_432 : xMet 11 432 = some (1, 145, 2) := by decide +kernel
theorem xm_11_435 : xMet 11 435 = some (11, 0, 2) := by decide +kernel
theorem xm_11_440 : xMet 11 440 = some (0, 89, 1) := by decide +kernel
theorem xm_11_443 : xMet 11 443 = some (0, 94, 2) := by decide +kernel
theorem xm_11_446 : xMet 11 446 = some (0, 147, 1) := by decide +kernel
theorem xm_11_449 : xMet 11 449 = some (0, 80, 2) := by decide +kernel
theorem xm_11_460 : xMet 11 460 = some (0, 82, 2) := by decide +kernel
theorem xm_11_469 : xMet 11 469 = some (0, 152, 1) := by decide +kernel
theorem xm_11_482 : xMet 11 482 = some (0, 71, 1) := by decide +kernel
theorem xm_12_7 : xMet 12 7 = some (1, 164, 2) := by decide +kernel
theorem xm_12_18 : xMet 12 18 = some (10, 0, 0) := by decide +kernel
theorem xm_12_125 : xMet 12 125 = some (1, 167, 1) := by decide +kernel
theorem xm_12_129 : xMet 12 129 = some (0, 245, 0) := by decide +kernel
theorem xm_12_135 : xMet 12 135 = some (1, 162, 3) := by decide +kernel
theorem xm_12_139 : xMet 12 139 = some (1, 163, 1) := by decide +kernel
theorem xm_12_152 : xMet 12 152 = some (12, 0, 2) := by decide +kernel
theorem xm_12_165 : xMet 12 165 = some (15, 0, 0) := by decide +kernel
theorem xm_12_170 : xMet 12 170 = some (16, 0, 1) := by decide +kernel
theorem xm_12_174 : xMet 12 174 = some (0, 175, 0) := by decide +kernel
theorem xm_12_178 : xMet 12 178 = some (0, 173, 1) := by decide +kernel
theorem xm_12_182 : xMet 12 182 = some (0, 178, 1) := by decide +kernel
theorem xm_12_186 : xMet 12 186 = some (0, 174, 1) := by decide +kernel
theorem xm_12_192 : xMet 12 192 = some (0, 177, 3) := by decide +kernel
theorem xm_12_199 : xMet 12 199 = some (0, 182, 0) := by decide +kernel
theorem xm_12_202 : xMet 12 202 = some (0, 181, 1) := by decide +kernel
theorem xm_12_208 : xMet 12 208 = some (0, 176, 1) := by decide +kernel
theorem xm_12_212 : xMet 12 212 = some (0, 183, 1) := by decide +kernel
theorem xm_12_224 : xMet 12 224 = some (11, 0, 2) := by decide +kernel
theorem xm_12_227 : xMet 12 227 = some (1, 185, 2) := by decide +kernel
theorem xm_12_240 : xMet 12 240 = some (0, 187, 1) := by decide +kernel
theorem xm_12_244 : xMet 12 244 = some (1, 169, 2) := by decide +kernel
theorem xm_12_250 : xMet 12 250 = some (0, 161, 0) := by decide +kernel
theorem xm_12_253 : xMet 12 253 = some (1, 186, 2) := by decide +kernel
theorem xm_12_256 : xMet 12 256 = some (1, 170, 2) := by decide +kernel
theorem xm_12_259 : xMet 12 259 = some (1, 168, 2) := by decide +kernel
theorem xm_12_263 : xMet 12 263 = some (0, 188, 1) := by decide +kernel
theorem xm_12_267 : xMet 12 267 = some (0, 190, 1) := by decide +kernel
theorem xm_12_279 : xMet 12 279 = some (0, 165, 1) := by decide +kernel
theorem xm_12_283 : xMet 12 283 = some (1, 267, 1) := by decide +kernel
theorem xm_12_289 : xMet 12 289 = some (1, 201, 1) := by decide +kernel
theorem xm_12_292 : xMet 12 292 = some (1, 202, 2) := by decide +kernel
theorem xm_12_295 : xMet 12 295 = some (0, 203, 2) := by decide +kernel
theorem xm_12_298 : xMet 12 298 = some (0, 205, 2) := by decide +kernel
theorem xm_12_301 : xMet 12 301 = some (1, 207, 3) := by decide +kernel
theorem xm_12_305 : xMet 12 305 = some (0, 206, 5) := by decide +kernel
theorem xm_12_309 : xMet 12 309 = some (0, 204, 2) := by decide +kernel
theorem xm_12_312 : xMet 12 312 = some (0, 208, 3) := by decide +kernel
theorem xm_12_322 : xMet 12 322 = some (0, 211, 1) := by decide +kernel
theorem xm_12_325 : xMet 12 325 = some (0, 213, 1) := by decide +kernel
theorem xm_12_328 : xMet 12 328 = some (0, 216, 0) := by decide +kernel
theorem xm_12_331 : xMet 12 331 = some (0, 219, 1) := by decide +kernel
theorem xm_12_334 : xMet 12 334 = some (0, 217, 0) := by decide +kernel
theorem xm_12_342 : xMet 12 342 = some (0, 221, 0) := by decide +kernel
theorem xm_12_351 : xMet 12 351 = some (0, 226, 2) := by decide +kernel
theorem xm_12_354 : xMet 12 354 = some (0, 225, 1) := by decide +kernel
theorem xm_12_364 : xMet 12 364 = some (0, 227, 3) := by decide +kernel
theorem xm_12_368 : xMet 12 368 = some (0, 224, 2) := by decide +kernel
theorem xm_12_372 : xMet 12 372 = some (0, 228, 0) := by decide +kernel
theorem xm_12_375 : xMet 12 375 = some (0, 229, 1) := by decide +kernel
theorem xm_12_378 : xMet 12 378 = some (0, 232, 2) := by decide +kernel
theorem xm_12_381 : xMet 12 381 = some (0, 230, 0) := by decide +kernel
theorem xm_12_384 : xMet 12 384 = some (0, 231, 1) := by decide +kernel
theorem xm_12_387 : xMet 12 387 = some (0, 234, 1) := by decide +kernel
theorem xm_12_390 : xMet 12 390 = some (0, 237, 1) := by decide +kernel
theorem xm_12_393 : xMet 12 393 = some (0, 241, 1) := by decide +kernel
theorem xm_12_398 : xMet 12 398 = some (0, 242, 2) := by decide +kernel
theorem xm_12_409 : xMet 12 409 = some (0, 251, 1) := by decide +kernel
theorem xm_12_412 : xMet 12 412 = some (0, 252, 1) := by decide +kernel
theorem xm_12_415 : xMet 12 415 = some (0, 249, 2) := by decide +kernel
theorem xm_12_418 : xMet 12 418 = some (1, 253, 2) := by decide +kernel
theorem xm_12_421 : xMet 12 421 = some (0, 250, 1) := by decide +kernel
theorem xm_12_424 : xMet 12 424 = some (0, 254, 2) := by decide +kernel
theorem xm_12_428 : xMet 12 428 = some (0, 257, 1) := by decide +kernel
theorem xm_12_431 : xMet 12 431 = some (0, 262, 0) := by decide +kernel
theorem xm_13_7 : xMet 13 7 = some (0, 111, 2) := by decide +kernel
theorem xm_13_15 : xMet 13 15 = some (0, 113, 2) := by decide +kernel
theorem xm_13_18 : xMet 13 18 = some (0, 159, 1) := by decide +kernel
theorem xm_13_22 : xMet 13 22 = some (2, 104, 0) := by decide +kernel
theorem xm_13_25 : xMet 13 25 = some (2, 166, 0) := by decide +kernel
theorem xm_13_26 : xMet 13 26 = some (0, 105, 1) := by decide +kernel
theorem xm_13_30 : xMet 13 30 = some (0, 171, 1) := by decide +kernel
theorem xm_13_31 : xMet 13 31 = some (0, 106, 1) := by decide +kernel
theorem xm_13_35 : xMet 13 35 = some (0, 172, 1) := by decide +kernel
theorem xm_13_36 : xMet 13 36 = some (0, 107, 0) := by decide +kernel
theorem xm_13_40 : xMet 13 40 = some (0, 179, 0) := by decide +kernel
theorem xm_13_41 : xMet 13 41 = some (0, 108, 0) := by decide +kernel
theorem xm_13_44 : xMet 13 44 = some (0, 184, 0) := by decide +kernel
theorem xm_13_45 : xMet 13 45 = some (0, 109, 0) := by decide +kernel
theorem xm_13_48 : xMet 13 48 = some (0, 180, 0) := by decide +kernel
theorem xm_13_49 : xMet 13 49 = some (17, 0, 4) := by decide +kernel
theorem xm_13_54 : xMet 13 54 = some (0, 189, 2) := by decide +kernel
theorem xm_13_55 : xMet 13 55 = some (0, 160, 0) := by decide +kernel
theorem xm_13_58 : xMet 13 58 = some (18, 0, 4) := by decide +kernel
theorem xm_13_60 : xMet 13 60 = some (0, 191, 2) := by decide +kernel
theorem xm_13_61 : xMet 13 61 = some (0, 114, 2) := by decide +kernel
theorem xm_13_64 : xMet 13 64 = some (0, 192, 2) := by decide +kernel
theorem xm_13_65 : xMet 13 65 = some (0, 115, 4) := by decide +kernel
theorem xm_13_69 : xMet 13 69 = some (0, 193, 4) := by decide +kernel
theorem xm_13_70 : xMet 13 70 = some (0, 118, 2) := by decide +kernel
theorem xm_13_74 : xMet 13 74 = some (0, 194, 2) := by decide +kernel
theorem xm_13_75 : xMet 13 75 = some (0, 119, 2) := by decide +kernel
theorem xm_13_78 : xMet 13 78 = some (0, 195, 2) := by decide +kernel
theorem xm_13_79 : xMet 13 79 = some (0, 120, 1) := by decide +kernel
theorem xm_13_82 : xMet 13 82 = some (0, 196, 1) := by decide +kernel
theorem xm_13_83 : xMet 13 83 = some (0, 121, 0) := by decide +kernel
theorem xm_13_86 : xMet 13 86 = some (0, 197, 0) := by decide +kernel
theorem xm_13_87 : xMet 13 87 = some (0, 122, 0) := by decide +kernel
theorem xm_13_90 : xMet 13 90 = some (0, 198, 0) := by decide +kernel
theorem xm_13_91 : xMet 13 91 = some (0, 123, 0) := by decide +kernel
theorem xm_13_94 : xMet 13 94 = some (0, 199, 0) := by decide +kernel
theorem xm_13_95 : xMet 13 95 = some (0, 124, 1) := by decide +kernel
theorem xm_13_98 : xMet 13 98 = some (0, 200, 1) := by decide +kernel
theorem xm_13_99 : xMet 13 99 = some (0, 127, 0) := by decide +kernel
theorem xm_13_102 : xMet 13 102 = some (0, 209, 0) := by decide +kernel
theorem xm_13_103 : xMet 13 103 = some (0, 128, 2) := by decide +kernel
theorem xm_13_106 : xMet 13 106 = some (0, 210, 2) := by decide +kernel
theorem xm_13_107 : xMet 13 107 = some (0, 129, 0) := by decide +kernel
theorem xm_13_110 : xMet 13 110 = some (0, 212, 0) := by decide +kernel
theorem xm_13_111 : xMet 13 111 = some (0, 130, 0) := by decide +kernel
theorem xm_13_114 : xMet 13 114 = some (0, 214, 0) := by decide +kernel
theorem xm_13_115 : xMet 13 115 = some (0, 131, 1) := by decide +kernel
theorem xm_13_118 : xMet 13 118 = some (0, 215, 1) := by decide +kernel
theorem xm_13_119 : xMet 13 119 = some (0, 132, 1) := by decide +kernel
theorem xm_13_122 : xMet 13 122 = some (0, 220, 1) := by decide +kernel
theorem xm_13_123 : xMet 13 123 = some (0, 134, 0) := by decide +kernel
theorem xm_13_126 : xMet 13 126 = some (0, 222, 0) := by decide +kernel
theorem xm_13_127 : xMet 13 127 = some (0, 135, 0) := by decide +kernel
theorem xm_13_130 : xMet 13 130 = some (0, 218, 0) := by decide +kernel
theorem xm_13_131 : xMet 13 131 = some (0, 136, 0) := by decide +kernel
theorem xm_13_134 : xMet 13 134 = some (0, 223, 0) := by decide +kernel
theorem xm_13_135 : xMet 13 135 = some (0, 138, 0) := by decide +kernel
theorem xm_13_138 : xMet 13 138 = some (0, 233, 0) := by decide +kernel
theorem xm_13_139 : xMet 13 139 = some (0, 139, 0) := by decide +kernel
theorem xm_13_142 : xMet 13 142 = some (0, 235, 0) := by decide +kernel
theorem xm_13_143 : xMet 13 143 = some (0, 140, 0) := by decide +kernel
theorem xm_13_146 : xMet 13 146 = some (0, 236, 0) := by decide +kernel
theorem xm_13_147 : xMet 13 147 = some (0, 141, 0) := by decide +kernel
theorem xm_13_150 : xMet 13 150 = some (0, 238, 0) := by decide +kernel
theorem xm_13_151 : xMet 13 151 = some (0, 142, 0) := by decide +kernel
theorem xm_13_154 : xMet 13 154 = some (0, 239, 0) := by decide +kernel
theorem xm_13_155 : xMet 13 155 = some (0, 143, 1) := by decide +kernel
theorem xm_13_158 : xMet 13 158 = some (0, 240, 1) := by decide +kernel
theorem xm_13_159 : xMet 13 159 = some (0, 144, 1) := by decide +kernel
theorem xm_13_162 : xMet 13 162 = some (0, 243, 1) := by decide +kernel
theorem xm_13_163 : xMet 13 163 = some (0, 146, 1) := by decide +kernel
theorem xm_13_166 : xMet 13 166 = some (0, 244, 1) := by decide +kernel
theorem xm_13_167 : xMet 13 167 = some (0, 148, 2) := by decide +kernel
theorem xm_13_170 : xMet 13 170 = some (0, 246, 2) := by decide +kernel
theorem xm_13_171 : xMet 13 171 = some (0, 149, 3) := by decide +kernel
theorem xm_13_175 : xMet 13 175 = some (0, 247, 3) := by decide +kernel
theorem xm_13_176 : xMet 13 176 = some (0, 150, 0) := by decide +kernel
theorem xm_13_179 : xMet 13 179 = some (0, 248, 0) := by decide +kernel
theorem xm_13_180 : xMet 13 180 = some (0, 151, 1) := by decide +kernel
theorem xm_13_183 : xMet 13 183 = some (0, 255, 1) := by decide +kernel
theorem xm_13_184 : xMet 13 184 = some (0, 153, 1) := by decide +kernel
theorem xm_13_187 : xMet 13 187 = some (0, 256, 1) := by decide +kernel
theorem xm_13_188 : xMet 13 188 = some (0, 154, 1) := by decide +kernel
theorem xm_13_191 : xMet 13 191 = some (0, 258, 1) := by decide +kernel
theorem xm_13_192 : xMet 13 192 = some (0, 155, 1) := by decide +kernel
theorem xm_13_195 : xMet 13 195 = some (0, 259, 1) := by decide +kernel
theorem xm_13_196 : xMet 13 196 = some (0, 156, 1) := by decide +kernel
theorem xm_13_199 : xMet 13 199 = some (0, 260, 1) := by decide +kernel
theorem xm_13_200 : xMet 13 200 = some (0, 157, 1) := by decide +kernel
theorem xm_13_203 : xMet 13 203 = some (0, 261, 1) := by decide +kernel
theorem xm_13_204 : xMet 13 204 = some (0, 158, 1) := by decide +kernel
theorem xm_13_207 : xMet 13 207 = some (0, 263, 1) := by decide +kernel
theorem xm_13_208 : xMet 13 208 = some (19, 0, 3) := by decide +kernel
theorem xm_13_211 : xMet 13 211 = some (0, 264, 1) := by decide +kernel
theorem xc_2_47 : xLdc 2 47 = some (50400) := by decide +kernel
theorem xc_11_243 : xLdc 11 243 = some (1103515245) := by decide +kernel
theorem xc_11_266 : xLdc 11 266 = some (-100000) := by decide +kernel
theorem xc_12_278 : xLdc 12 278 = some (1103515245) := by decide +kernel
theorem xc_12_288 : xLdc 12 288 = some (-100000) := by decide +kernel
theorem xc_15_265 : xLdc 15 265 = some (1431655765) := by decide +kernel
theorem xc_15_266 : xLdc 15 266 = some (858993459) := by decide +kernel
theorem xc_15_267 : xLdc 15 267 = some (252645135) := by decide +kernel
theorem xl_2_129 : xLd2 2 129 = some (15) := by decide +kernel
theorem xl_2_131 : xLd2 2 131 = some (-1) := by decide +kernel
theorem xl_2_150 : xLd2 2 150 = some (-7046029254386353131) := by decide +kernel
theorem xl_12_133 : xLd2 12 133 = some (47) := by decide +kernel
theorem xl_12_161 : xLd2 12 161 = some (48) := by decide +kernel
theorem xl_12_163 : xLd2 12 163 = some (57) := by decide +kernel
theorem xl_12_248 : xLd2 12 248 = some (4) := by decide +kernel
theorem xl_12_270 : xLd2 12 270 = some (6) := by decide +kernel
theorem xl_12_272 : xLd2 12 272 = some (9) := by decide +kernel
theorem xl_12_274 : xLd2 12 274 = some (3) := by decide +kernel
theorem xl_12_276 : xLd2 12 276 = some (-9) := by decide +kernel
theorem xl_12_345 : xLd2 12 345 = some (7) := by decide +kernel
theorem xl_12_347 : xLd2 12 347 = some (31) := by decide +kernel
theorem xl_12_349 : xLd2 12 349 = some (2047) := by decide +kernel
theorem xl_12_396 : xLd2 12 396 = some (2) := by decide +kernel
theorem xl_12_401 : xLd2 12 401 = some (20) := by decide +kernel
theorem xn_2_9 : xNew 2 9 = some (10) := by decide +kernel
theorem xn_3_9 : xNew 3 9 = some (7) := by decide +kernel
theorem xn_7_9 : xNew 7 9 = some (10) := by decide +kernel
theorem xn_11_9 : xNew 11 9 = some (8) := by decide +kernel
theorem xn_11_16 : xNew 11 16 = some (5) := by decide +kernel
theorem xn_11_23 : xNew 11 23 = some (7) := by decide +kernel
theorem xn_11_30 : xNew 11 30 = some (3) := by decide +kernel
theorem xn_11_45 : xNew 11 45 = some (0) := by decide +kernel
theorem xn_11_52 : xNew 11 52 = some (6) := by decide +kernel
theorem xn_11_59 : xNew 11 59 = some (1) := by decide +kernel
theorem xn_11_68 : xNew 11 68 = some (2) := by decide +kernel
theorem xn_11_77 : xNew 11 77 = some (9) := by decide +kernel
theorem xn_11_84 : xNew 11 84 = some (4) := by decide +kernel
theorem xn_11_91 : xNew 11 91 = some (10) := by decide +kernel
theorem xn_11_168 : xNew 11 168 = some (99) := by decide +kernel
theorem xn_13_8 : xNew 13 8 = some (11) := by decide +kernel
theorem xn_13_13 : xNew 13 13 = some (99) := by decide +kernel
theorem xn_13_23 : xNew 13 23 = some (12) := by decide +kernel
theorem xg_0_31 : xGst 0 31 = some (0) := by decide +kernel
theorem xg_0_34 : xGst 0 34 = some (1) := by decide +kernel
theorem xs_4_34 : xLds 4 34 = some (8) := by decide +kernel
theorem xs0_4_34 : xLdc 4 34 = none := by decide +kernel
theorem xs_4_40 : xLds 4 40 = some (9) := by decide +kernel
theorem xs0_4_40 : xLdc 4 40 = none := by decide +kernel
theorem xs_4_49 : xLds 4 49 = some (10) := by decide +kernel
theorem xs0_4_49 : xLdc 4 49 = none := by decide +kernel
theorem xs_6_85 : xLds 6 85 = some (0) := by decide +kernel
theorem xs0_6_85 : xLdc 6 85 = none := by decide +kernel
theorem xs_6_96 : xLds 6 96 = some (4) := by decide +kernel
theorem xs0_6_96 : xLdc 6 96 = none := by decide +kernel
theorem xs_6_105 : xLds 6 105 = some (5) := by decide +kernel
theorem xs0_6_105 : xLdc 6 105 = none := by decide +kernel
theorem xs_6_114 : xLds 6 114 = some (6) := by decide +kernel
theorem xs0_6_114 : xLdc 6 114 = none := by decide +kernel
theorem xs_6_116 : xLds 6 116 = some (7) := by decide +kernel
theorem xs0_6_116 : xLdc 6 116 = none := by decide +kernel
theorem xs_10_45 : xLds 10 45 = some (1) := by decide +kernel
theorem xs0_10_45 : xLdc 10 45 = none := by decide +kernel
theorem xs_10_51 : xLds 10 51 = some (2) := by decide +kernel
theorem xs0_10_51 : xLdc 10 51 = none := by decide +kernel
theorem xs_10_53 : xLds 10 53 = some (3) := by decide +kernel
theorem xs0_10_53 : xLdc 10 53 = none := by decide +kernel
theorem xs_11_170 : xLds 11 170 = some (11) := by decide +kernel
theorem xs0_11_170 : xLdc 11 170 = none := by decide +kernel
theorem xs_11_188 : xLds 11 188 = some (12) := by decide +kernel
theorem xs0_11_188 : xLdc 11 188 = none := by decide +kernel
theorem xs_11_207 : xLds 11 207 = some (13) := by decide +kernel
theorem xs0_11_207 : xLdc 11 207 = none := by decide +kernel
theorem xs_11_227 : xLds 11 227 = some (14) := by decide +kernel
theorem xs0_11_227 : xLdc 11 227 = none := by decide +kernel
theorem xs_11_488 : xLds 11 488 = some (15) := by decide +kernel
theorem xs0_11_488 : xLdc 11 488 = none := by decide +kernel
theorem xs_12_206 : xLds 12 206 = some (0) := by decide +kernel
theorem xs0_12_206 : xLdc 12 206 = none := by decide +kernel
theorem xs_12_215 : xLds 12 215 = some (16) := by decide +kernel
theorem xs0_12_215 : xLdc 12 215 = none := by decide +kernel
theorem xs_12_217 : xLds 12 217 = some (17) := by decide +kernel
theorem xs0_12_217 : xLdc 12 217 = none := by decide +kernel
theorem xs_12_219 : xLds 12 219 = some (18) := by decide +kernel
theorem xs0_12_219 : xLdc 12 219 = none := by decide +kernel
theorem xs_12_337 : xLds 12 337 = some (10) := by decide +kernel
theorem xs0_12_337 : xLdc 12 337 = none := by decide +kernel
theorem xi_0 : xMeth 0 = (0, yX0_init, cX0_init, 1, none) := rfl
theorem xi_1 : xMeth 1 = (0, yX0_leastPlace, cX0_leastPlace, 1, some .int) := rfl
theorem xi_2 : xMeth 2 = (0, yX0_greatestPlace, cX0_greatestPlace, 1, some .int) := rfl
theorem xi_3 : xMeth 3 = (0, yX0_weigh, cX0_weigh, 8, some .boolean) := rfl
theorem xi_4 : xMeth 4 = (0, yX0_marginOf, cX0_marginOf, 5, some .int) := rfl
theorem xi_5 : xMeth 5 = (0, yX0_note, cX0_note, 3, none) := rfl
theorem xi_6 : xMeth 6 = (1, yX1_init, cX1_init, 3, none) := rfl
theorem xi_7 : xMeth 7 = (1, yX1_isSafe, cX1_isSafe, 7, some .boolean) := rfl
theorem xi_8 : xMeth 8 = (1, yX1_survey, cX1_survey, 4, none) := rfl
theorem xi_9 : xMeth 9 = (1, yX1_noteFacts, cX1_noteFacts, 6, none) := rfl
theorem xi_10 : xMeth 10 = (1, yX1_oddsNow, cX1_oddsNow, 2, some .int) := rfl
theorem xi_11 : xMeth 11 = (1, yX1_findBest, cX1_findBest, 5, none) := rfl
theorem xi_12 : xMeth 12 = (1, yX1_preferLower, cX1_preferLower, 4, none) := rfl
theorem xi_13 : xMeth 13 = (1, yX1_findMeanest, cX1_findMeanest, 7, none) := rfl
theorem xi_14 : xMeth 14 = (1, yX1_findSteadiest, cX1_findSteadiest, 4, none) := rfl
theorem xi_15 : xMeth 15 = (1, yX1_findLikeliest, cX1_findLikeliest, 10, none) := rfl
theorem xi_16 : xMeth 16 = (1, yX1_chancesBehind, cX1_chancesBehind, 5, some .int) := rfl
theorem xi_17 : xMeth 17 = (2, yX2_init, cX2_init, 2, none) := rfl
theorem xi_18 : xMeth 18 = (2, yX2_search, cX2_search, 4, none) := rfl
theorem xi_19 : xMeth 19 = (2, yX2_expand, cX2_expand, 4, none) := rfl
theorem xi_20 : xMeth 20 = (2, yX2_follow, cX2_follow, 6, none) := rfl
theorem xi_21 : xMeth 21 = (2, yX2_noteOrigin, cX2_noteOrigin, 5, none) := rfl
theorem xi_22 : xMeth 22 = (2, yX2_packKey, cX2_packKey, 3, none) := rfl
theorem xi_23 : xMeth 23 = (2, yX2_setInKey, cX2_setInKey, 5, none) := rfl
theorem xi_24 : xMeth 24 = (2, yX2_thicknessIn, cX2_thicknessIn, 3, some .int) := rfl
theorem xi_25 : xMeth 25 = (2, yX2_unpack, cX2_unpack, 4, none) := rfl
theorem xi_26 : xMeth 26 = (2, yX2_nodeOfKey, cX2_nodeOfKey, 3, some .int) := rfl
theorem xi_27 : xMeth 27 = (2, yX2_slotOfKey, cX2_slotOfKey, 4, some .int) := rfl
theorem xi_28 : xMeth 28 = (2, yX2_hasKey, cX2_hasKey, 3, some .boolean) := rfl
theorem xi_29 : xMeth 29 = (2, yX2_targetOf, cX2_targetOf, 1, some .int) := rfl
theorem xi_30 : xMeth 30 = (2, yX2_valueWins, cX2_valueWins, 3, none) := rfl
theorem xi_31 : xMeth 31 = (2, yX2_valueLengths, cX2_valueLengths, 5, none) := rfl
theorem xi_32 : xMeth 32 = (2, yX2_leastEdgeTo, cX2_leastEdgeTo, 4, some .int) := rfl
theorem xi_33 : xMeth 33 = (2, yX2_leastMoveTo, cX2_leastMoveTo, 4, some .int) := rfl
theorem xi_34 : xMeth 34 = (2, yX2_tellBestPath, cX2_tellBestPath, 5, none) := rfl
theorem xi_35 : xMeth 35 = (2, yX2_firstHighest, cX2_firstHighest, 3, some .int) := rfl
theorem xi_36 : xMeth 36 = (2, yX2_firstWithGap, cX2_firstWithGap, 3, some .int) := rfl
theorem xi_37 : xMeth 37 = (2, yX2_tracePath, cX2_tracePath, 4, none) := rfl
theorem xi_38 : xMeth 38 = (2, yX2_firstMoveTo, cX2_firstMoveTo, 2, some .int) := rfl
theorem xi_39 : xMeth 39 = (2, yX2_tellPathTo, cX2_tellPathTo, 4, none) := rfl
theorem xi_40 : xMeth 40 = (2, yX2_ends, cX2_ends, 3, some .int) := rfl
theorem xi_41 : xMeth 41 = (3, yX3_init, cX3_init, 2, none) := rfl
theorem xi_42 : xMeth 42 = (3, yX3_clear, cX3_clear, 1, none) := rfl
theorem xi_43 : xMeth 43 = (3, yX3_push, cX3_push, 2, none) := rfl
theorem xi_44 : xMeth 44 = (3, yX3_popInto, cX3_popInto, 2, none) := rfl
theorem xi_45 : xMeth 45 = (4, yX4_init, cX4_init, 1, none) := rfl
theorem xi_46 : xMeth 46 = (4, yX4_readFrom, cX4_readFrom, 5, some .int) := rfl
theorem xi_47 : xMeth 47 = (4, yX4_step, cX4_step, 5, some .int) := rfl
theorem xi_48 : xMeth 48 = (4, yX4_readDigit, cX4_readDigit, 5, some .int) := rfl
theorem xi_49 : xMeth 49 = (5, yX5_init, cX5_init, 1, none) := rfl
theorem xi_50 : xMeth 50 = (5, yX5_clear, cX5_clear, 1, none) := rfl
theorem xi_51 : xMeth 51 = (5, yX5_add, cX5_add, 3, none) := rfl
theorem xi_52 : xMeth 52 = (6, yX6_init, cX6_init, 1, none) := rfl
theorem xi_53 : xMeth 53 = (6, yX6_readFrom, cX6_readFrom, 4, some .int) := rfl
theorem xi_54 : xMeth 54 = (6, yX6_adoptDraft, cX6_adoptDraft, 1, none) := rfl
theorem xi_55 : xMeth 55 = (6, yX6_startReading, cX6_startReading, 1, none) := rfl
theorem xi_56 : xMeth 56 = (6, yX6_draftNone, cX6_draftNone, 1, none) := rfl
theorem xi_57 : xMeth 57 = (6, yX6_emit, cX6_emit, 2, none) := rfl
theorem xi_58 : xMeth 58 = (6, yX6_postpone, cX6_postpone, 2, none) := rfl
theorem xi_59 : xMeth 59 = (6, yX6_readThing, cX6_readThing, 3, some .boolean) := rfl
theorem xi_60 : xMeth 60 = (6, yX6_readBehindThing, cX6_readBehindThing, 3, some .boolean) := rfl
theorem xi_61 : xMeth 61 = (6, yX6_readOperator, cX6_readOperator, 3, some .boolean) := rfl
theorem xi_62 : xMeth 62 = (6, yX6_bindingOf, cX6_bindingOf, 1, some .int) := rfl
theorem xi_63 : xMeth 63 = (6, yX6_releaseDownTo, cX6_releaseDownTo, 3, none) := rfl
theorem xi_64 : xMeth 64 = (6, yX6_valueOf, cX6_valueOf, 5, some .int) := rfl
theorem xi_65 : xMeth 65 = (6, yX6_factOf, cX6_factOf, 2, some .int) := rfl
theorem xi_66 : xMeth 66 = (6, yX6_apply, cX6_apply, 3, some .int) := rfl
theorem xi_67 : xMeth 67 = (7, yX7_init, cX7_init, 1, none) := rfl
theorem xi_68 : xMeth 68 = (7, yX7_isFelled, cX7_isFelled, 1, some .boolean) := rfl
theorem xi_69 : xMeth 69 = (7, yX7_begin, cX7_begin, 1, none) := rfl
theorem xi_70 : xMeth 70 = (7, yX7_fell, cX7_fell, 4, none) := rfl
theorem xi_71 : xMeth 71 = (7, yX7_copyFrom, cX7_copyFrom, 2, none) := rfl
theorem xi_72 : xMeth 72 = (8, yX8_init, cX8_init, 1, none) := rfl
theorem xi_73 : xMeth 73 = (8, yX8_addFour, cX8_addFour, 3, some .boolean) := rfl
theorem xi_74 : xMeth 74 = (8, yX8_cut, cX8_cut, 2, some .boolean) := rfl
theorem xi_75 : xMeth 75 = (8, yX8_clear, cX8_clear, 1, none) := rfl
theorem xi_76 : xMeth 76 = (8, yX8_isDigit, cX8_isDigit, 2, some .boolean) := rfl
theorem xi_77 : xMeth 77 = (8, yX8_isOneOf, cX8_isOneOf, 3, some .boolean) := rfl
theorem xi_78 : xMeth 78 = (9, yX9_init, cX9_init, 1, none) := rfl
theorem xi_79 : xMeth 79 = (9, yX9_clear, cX9_clear, 1, none) := rfl
theorem xi_80 : xMeth 80 = (9, yX9_tell, cX9_tell, 3, some .boolean) := rfl
theorem xi_81 : xMeth 81 = (9, yX9_touched, cX9_touched, 6, some .int) := rfl
theorem xi_82 : xMeth 82 = (9, yX9_sift, cX9_sift, 9, none) := rfl
theorem xi_83 : xMeth 83 = (9, yX9_noteRow, cX9_noteRow, 6, none) := rfl
theorem xi_84 : xMeth 84 = (10, yX10_init, cX10_init, 1, none) := rfl
theorem xi_85 : xMeth 85 = (10, yX10_fitThickness, cX10_fitThickness, 1, some .int) := rfl
theorem xi_86 : xMeth 86 = (10, yX10_wrongSign, cX10_wrongSign, 4, some .int) := rfl
theorem xi_87 : xMeth 87 = (10, yX10_readFrom, cX10_readFrom, 3, none) := rfl
theorem xi_88 : xMeth 88 = (10, yX10_clear, cX10_clear, 1, none) := rfl
theorem xi_89 : xMeth 89 = (10, yX10_copyFrom, cX10_copyFrom, 2, none) := rfl
theorem xi_90 : xMeth 90 = (10, yX10_has, cX10_has, 2, some .boolean) := rfl
theorem xi_91 : xMeth 91 = (10, yX10_hasLayer, cX10_hasLayer, 2, some .boolean) := rfl
theorem xi_92 : xMeth 92 = (10, yX10_put, cX10_put, 3, none) := rfl
theorem xi_93 : xMeth 93 = (10, yX10_take, cX10_take, 4, some .int) := rfl
theorem xi_94 : xMeth 94 = (10, yX10_carry, cX10_carry, 3, none) := rfl
theorem xi_95 : xMeth 95 = (10, yX10_refresh, cX10_refresh, 8, none) := rfl
theorem xi_96 : xMeth 96 = (10, yX10_bearers, cX10_bearers, 8, some .int) := rfl
theorem xi_97 : xMeth 97 = (10, yX10_blocksIn, cX10_blocksIn, 4, some .int) := rfl
theorem xi_98 : xMeth 98 = (10, yX10_blocksAbove, cX10_blocksAbove, 4, some .int) := rfl
theorem xi_99 : xMeth 99 = (10, yX10_isTight, cX10_isTight, 2, some .boolean) := rfl
theorem xi_100 : xMeth 100 = (10, yX10_looseIn, cX10_looseIn, 4, some .int) := rfl
theorem xi_101 : xMeth 101 = (10, yX10_movesEnd, cX10_movesEnd, 1, some .int) := rfl
theorem xi_102 : xMeth 102 = (10, yX10_canGo, cX10_canGo, 4, some .boolean) := rfl
theorem xi_103 : xMeth 103 = (10, yX10_landing, cX10_landing, 3, some .int) := rfl
theorem xi_104 : xMeth 104 = (11, yX11_init, cX11_init, 2, none) := rfl
theorem xi_105 : xMeth 105 = (11, yX11_sign, cX11_sign, 2, some .int) := rfl
theorem xi_106 : xMeth 106 = (11, yX11_end, cX11_end, 2, some .boolean) := rfl
theorem xi_107 : xMeth 107 = (11, yX11_tower, cX11_tower, 2, some .int) := rfl
theorem xi_108 : xMeth 108 = (11, yX11_rule, cX11_rule, 2, some .int) := rfl
theorem xi_109 : xMeth 109 = (11, yX11_players, cX11_players, 3, some .int) := rfl
theorem xi_110 : xMeth 110 = (11, yX11_wrongHand, cX11_wrongHand, 2, some .int) := rfl
theorem xi_111 : xMeth 111 = (11, yX11_block, cX11_block, 4, some .int) := rfl
theorem xi_112 : xMeth 112 = (11, yX11_canBeDrawn, cX11_canBeDrawn, 5, some .boolean) := rfl
theorem xi_113 : xMeth 113 = (11, yX11_layer, cX11_layer, 4, some .int) := rfl
theorem xi_114 : xMeth 114 = (11, yX11_plane, cX11_plane, 4, some .int) := rfl
theorem xi_115 : xMeth 115 = (11, yX11_sheet, cX11_sheet, 5, some .int) := rfl
theorem xi_116 : xMeth 116 = (11, yX11_copySheet, cX11_copySheet, 10, some .int) := rfl
theorem xi_117 : xMeth 117 = (11, yX11_entry, cX11_entry, 2, some .int) := rfl
theorem xi_118 : xMeth 118 = (11, yX11_table, cX11_table, 3, some .boolean) := rfl
theorem xi_119 : xMeth 119 = (11, yX11_swell, cX11_swell, 7, some .int) := rfl
theorem xi_120 : xMeth 120 = (11, yX11_bump, cX11_bump, 4, some .int) := rfl
theorem xi_121 : xMeth 121 = (11, yX11_stands, cX11_stands, 1, some .int) := rfl
theorem xi_122 : xMeth 122 = (11, yX11_loose, cX11_loose, 5, some .int) := rfl
theorem xi_123 : xMeth 123 = (11, yX11_weakest, cX11_weakest, 1, some .int) := rfl
theorem xi_124 : xMeth 124 = (11, yX11_lean, cX11_lean, 6, some .int) := rfl
theorem xi_125 : xMeth 125 = (11, yX11_movable, cX11_movable, 1, some (.object "FelledHasLost$Tower")) := rfl
theorem xi_126 : xMeth 126 = (11, yX11_handOf, cX11_handOf, 3, some .int) := rfl
theorem xi_127 : xMeth 127 = (11, yX11_moves, cX11_moves, 1, some .int) := rfl
theorem xi_128 : xMeth 128 = (11, yX11_odds, cX11_odds, 5, some .int) := rfl
theorem xi_129 : xMeth 129 = (11, yX11_best, cX11_best, 1, some .int) := rfl
theorem xi_130 : xMeth 130 = (11, yX11_leave, cX11_leave, 1, some .int) := rfl
theorem xi_131 : xMeth 131 = (11, yX11_where, cX11_where, 2, some .int) := rfl
theorem xi_132 : xMeth 132 = (11, yX11_move, cX11_move, 2, some .int) := rfl
theorem xi_133 : xMeth 133 = (11, yX11_carryOut, cX11_carryOut, 6, none) := rfl
theorem xi_134 : xMeth 134 = (11, yX11_play, cX11_play, 6, some .int) := rfl
theorem xi_135 : xMeth 135 = (11, yX11_undo, cX11_undo, 1, some .int) := rfl
theorem xi_136 : xMeth 136 = (11, yX11_why, cX11_why, 1, some .int) := rfl
theorem xi_137 : xMeth 137 = (11, yX11_findAllTowers, cX11_findAllTowers, 1, some .boolean) := rfl
theorem xi_138 : xMeth 138 = (11, yX11_wins, cX11_wins, 1, some .int) := rfl
theorem xi_139 : xMeth 139 = (11, yX11_longest, cX11_longest, 1, some .int) := rfl
theorem xi_140 : xMeth 140 = (11, yX11_shortest, cX11_shortest, 1, some .int) := rfl
theorem xi_141 : xMeth 141 = (11, yX11_high, cX11_high, 2, some .int) := rfl
theorem xi_142 : xMeth 142 = (11, yX11_towers, cX11_towers, 1, some .int) := rfl
theorem xi_143 : xMeth 143 = (11, yX11_free, cX11_free, 3, some .int) := rfl
theorem xi_144 : xMeth 144 = (11, yX11_chance, cX11_chance, 6, some .int) := rfl
theorem xi_145 : xMeth 145 = (11, yX11_commonDivisor, cX11_commonDivisor, 6, some .int) := rfl
theorem xi_146 : xMeth 146 = (11, yX11_loser, cX11_loser, 6, some .int) := rfl
theorem xi_147 : xMeth 147 = (11, yX11_tellShares, cX11_tellShares, 4, some .int) := rfl
theorem xi_148 : xMeth 148 = (11, yX11_felt, cX11_felt, 3, some .int) := rfl
theorem xi_149 : xMeth 149 = (11, yX11_known, cX11_known, 4, some .boolean) := rfl
theorem xi_150 : xMeth 150 = (11, yX11_forget, cX11_forget, 2, some .int) := rfl
theorem xi_151 : xMeth 151 = (11, yX11_fits, cX11_fits, 2, some .int) := rfl
theorem xi_152 : xMeth 152 = (11, yX11_tellThicknesses, cX11_tellThicknesses, 3, none) := rfl
theorem xi_153 : xMeth 153 = (11, yX11_span, cX11_span, 2, some .int) := rfl
theorem xi_154 : xMeth 154 = (11, yX11_sure, cX11_sure, 3, some .int) := rfl
theorem xi_155 : xMeth 155 = (11, yX11_touch, cX11_touch, 6, some .int) := rfl
theorem xi_156 : xMeth 156 = (11, yX11_keep, cX11_keep, 2, some .boolean) := rfl
theorem xi_157 : xMeth 157 = (11, yX11_again, cX11_again, 2, some .boolean) := rfl
theorem xi_158 : xMeth 158 = (11, yX11_count, cX11_count, 3, some .int) := rfl
theorem xi_159 : xMeth 159 = (11, yX11_row, cX11_row, 2, some .long) := rfl
theorem xi_160 : xMeth 160 = (12, yX12_thrown, cX12_thrown, 1, some .int) := rfl
theorem xi_161 : xMeth 161 = (12, yX12_refuse, cX12_refuse, 1, some .int) := rfl
theorem xi_162 : xMeth 162 = (12, yX12_in, cX12_in, 6, some .boolean) := rfl
theorem xi_163 : xMeth 163 = (12, yX12_flag, cX12_flag, 1, some .int) := rfl
theorem xi_164 : xMeth 164 = (12, yX12_common, cX12_common, 4, some .long) := rfl
theorem xi_165 : xMeth 165 = (12, yX12_enters, cX12_enters, 3, none) := rfl
theorem xi_166 : xMeth 166 = (12, yX12_init, cX12_init, 1, none) := rfl
theorem xi_167 : xMeth 167 = (12, yX12_empties, cX12_empties, 2, none) := rfl
theorem xi_168 : xMeth 168 = (12, yX12_puts, cX12_puts, 3, none) := rfl
theorem xi_169 : xMeth 169 = (12, yX12_isThere, cX12_isThere, 2, some .boolean) := rfl
theorem xi_170 : xMeth 170 = (12, yX12_blocksOf, cX12_blocksOf, 2, some .int) := rfl
theorem xi_171 : xMeth 171 = (12, yX12_sign, cX12_sign, 3, some .int) := rfl
theorem xi_172 : xMeth 172 = (12, yX12_end, cX12_end, 2, some .boolean) := rfl
theorem xi_173 : xMeth 173 = (12, yX12_begins, cX12_begins, 3, some .int) := rfl
theorem xi_174 : xMeth 174 = (12, yX12_takes, cX12_takes, 3, some .boolean) := rfl
theorem xi_175 : xMeth 175 = (12, yX12_isDigit, cX12_isDigit, 1, some .boolean) := rfl
theorem xi_176 : xMeth 176 = (12, yX12_among, cX12_among, 3, some .int) := rfl
theorem xi_177 : xMeth 177 = (12, yX12_faultOf, cX12_faultOf, 5, some .int) := rfl
theorem xi_178 : xMeth 178 = (12, yX12_readsLayer, cX12_readsLayer, 5, some .boolean) := rfl
theorem xi_179 : xMeth 179 = (12, yX12_tower, cX12_tower, 5, some .int) := rfl
theorem xi_180 : xMeth 180 = (12, yX12_players, cX12_players, 5, some .int) := rfl
theorem xi_181 : xMeth 181 = (12, yX12_codes, cX12_codes, 2, none) := rfl
theorem xi_182 : xMeth 182 = (12, yX12_readsThing, cX12_readsThing, 3, some .boolean) := rfl
theorem xi_183 : xMeth 183 = (12, yX12_readsRank, cX12_readsRank, 4, some .boolean) := rfl
theorem xi_184 : xMeth 184 = (12, yX12_rule, cX12_rule, 5, some .int) := rfl
theorem xi_185 : xMeth 185 = (12, yX12_bearing, cX12_bearing, 7, some .int) := rfl
theorem xi_186 : xMeth 186 = (12, yX12_isTight, cX12_isTight, 2, some .boolean) := rfl
theorem xi_187 : xMeth 187 = (12, yX12_measures, cX12_measures, 17, some .int) := rfl
theorem xi_188 : xMeth 188 = (12, yX12_isStanding, cX12_isStanding, 2, some .boolean) := rfl
theorem xi_189 : xMeth 189 = (12, yX12_block, cX12_block, 5, some .int) := rfl
theorem xi_190 : xMeth 190 = (12, yX12_isLayer, cX12_isLayer, 2, some .boolean) := rfl
theorem xi_191 : xMeth 191 = (12, yX12_layer, cX12_layer, 4, some .int) := rfl
theorem xi_192 : xMeth 192 = (12, yX12_plane, cX12_plane, 4, some .int) := rfl
theorem xi_193 : xMeth 193 = (12, yX12_sheet, cX12_sheet, 10, some .int) := rfl
theorem xi_194 : xMeth 194 = (12, yX12_table, cX12_table, 3, some .boolean) := rfl
theorem xi_195 : xMeth 195 = (12, yX12_swell, cX12_swell, 6, some .int) := rfl
theorem xi_196 : xMeth 196 = (12, yX12_bump, cX12_bump, 3, some .int) := rfl
theorem xi_197 : xMeth 197 = (12, yX12_stands, cX12_stands, 2, some .int) := rfl
theorem xi_198 : xMeth 198 = (12, yX12_loose, cX12_loose, 5, some .int) := rfl
theorem xi_199 : xMeth 199 = (12, yX12_weakest, cX12_weakest, 1, some .int) := rfl
theorem xi_200 : xMeth 200 = (12, yX12_lean, cX12_lean, 6, some .int) := rfl
theorem xi_201 : xMeth 201 = (12, yX12_hasGap, cX12_hasGap, 1, some .boolean) := rfl
theorem xi_202 : xMeth 202 = (12, yX12_canMove, cX12_canMove, 6, some .boolean) := rfl
theorem xi_203 : xMeth 203 = (12, yX12_draws, cX12_draws, 6, some .int) := rfl
theorem xi_204 : xMeth 204 = (12, yX12_isSafe, cX12_isSafe, 3, some .boolean) := rfl
theorem xi_205 : xMeth 205 = (12, yX12_marginOf, cX12_marginOf, 3, some .int) := rfl
theorem xi_206 : xMeth 206 = (12, yX12_thingOf, cX12_thingOf, 7, some .int) := rfl
theorem xi_207 : xMeth 207 = (12, yX12_worked, cX12_worked, 3, some .int) := rfl
theorem xi_208 : xMeth 208 = (12, yX12_oddsOf, cX12_oddsOf, 8, some .int) := rfl
theorem xi_209 : xMeth 209 = (12, yX12_moves, cX12_moves, 6, some .int) := rfl
theorem xi_210 : xMeth 210 = (12, yX12_odds, cX12_odds, 4, some .int) := rfl
theorem xi_211 : xMeth 211 = (12, yX12_bestMove, cX12_bestMove, 6, some .int) := rfl
theorem xi_212 : xMeth 212 = (12, yX12_best, cX12_best, 2, some .int) := rfl
theorem xi_213 : xMeth 213 = (12, yX12_safeMoves, cX12_safeMoves, 4, some .int) := rfl
theorem xi_214 : xMeth 214 = (12, yX12_leave, cX12_leave, 7, some .int) := rfl
theorem xi_215 : xMeth 215 = (12, yX12_where, cX12_where, 7, some .int) := rfl
theorem xi_216 : xMeth 216 = (12, yX12_putsBy, cX12_putsBy, 2, none) := rfl
theorem xi_217 : xMeth 217 = (12, yX12_adds, cX12_adds, 2, none) := rfl
theorem xi_218 : xMeth 218 = (12, yX12_undo, cX12_undo, 2, some .int) := rfl
theorem xi_219 : xMeth 219 = (12, yX12_makes, cX12_makes, 5, some .boolean) := rfl
theorem xi_220 : xMeth 220 = (12, yX12_move, cX12_move, 3, some .int) := rfl
theorem xi_221 : xMeth 221 = (12, yX12_readsMove, cX12_readsMove, 4, some .boolean) := rfl
theorem xi_222 : xMeth 222 = (12, yX12_play, cX12_play, 8, some .int) := rfl
theorem xi_223 : xMeth 223 = (12, yX12_why, cX12_why, 1, some .int) := rfl
theorem xi_224 : xMeth 224 = (12, yX12_unpacks, cX12_unpacks, 4, none) := rfl
theorem xi_225 : xMeth 225 = (12, yX12_slotOf, cX12_slotOf, 5, some .int) := rfl
theorem xi_226 : xMeth 226 = (12, yX12_isSame, cX12_isSame, 5, some .boolean) := rfl
theorem xi_227 : xMeth 227 = (12, yX12_finds, cX12_finds, 6, none) := rfl
theorem xi_228 : xMeth 228 = (12, yX12_findsFirst, cX12_findsFirst, 2, none) := rfl
theorem xi_229 : xMeth 229 = (12, yX12_findsFrom, cX12_findsFrom, 3, none) := rfl
theorem xi_230 : xMeth 230 = (12, yX12_findsAll, cX12_findsAll, 2, some .boolean) := rfl
theorem xi_231 : xMeth 231 = (12, yX12_values, cX12_values, 3, none) := rfl
theorem xi_232 : xMeth 232 = (12, yX12_asks, cX12_asks, 9, some .int) := rfl
theorem xi_233 : xMeth 233 = (12, yX12_wins, cX12_wins, 1, some .int) := rfl
theorem xi_234 : xMeth 234 = (12, yX12_tellsLine, cX12_tellsLine, 4, some .int) := rfl
theorem xi_235 : xMeth 235 = (12, yX12_longest, cX12_longest, 1, some .int) := rfl
theorem xi_236 : xMeth 236 = (12, yX12_shortest, cX12_shortest, 1, some .int) := rfl
theorem xi_237 : xMeth 237 = (12, yX12_firstMove, cX12_firstMove, 3, some .int) := rfl
theorem xi_238 : xMeth 238 = (12, yX12_high, cX12_high, 3, some .int) := rfl
theorem xi_239 : xMeth 239 = (12, yX12_towers, cX12_towers, 3, some .int) := rfl
theorem xi_240 : xMeth 240 = (12, yX12_free, cX12_free, 4, some .int) := rfl
theorem xi_241 : xMeth 241 = (12, yX12_tellsWay, cX12_tellsWay, 5, some .int) := rfl
theorem xi_242 : xMeth 242 = (12, yX12_better, cX12_better, 3, some .int) := rfl
theorem xi_243 : xMeth 243 = (12, yX12_chance, cX12_chance, 8, some .int) := rfl
theorem xi_244 : xMeth 244 = (12, yX12_loser, cX12_loser, 6, some .int) := rfl
theorem xi_245 : xMeth 245 = (12, yX12_forgets, cX12_forgets, 3, some .int) := rfl
theorem xi_246 : xMeth 246 = (12, yX12_felt, cX12_felt, 3, some .int) := rfl
theorem xi_247 : xMeth 247 = (12, yX12_known, cX12_known, 4, some .boolean) := rfl
theorem xi_248 : xMeth 248 = (12, yX12_forget, cX12_forget, 1, some .int) := rfl
theorem xi_249 : xMeth 249 = (12, yX12_canBe, cX12_canBe, 7, some .boolean) := rfl
theorem xi_250 : xMeth 250 = (12, yX12_laysRows, cX12_laysRows, 6, none) := rfl
theorem xi_251 : xMeth 251 = (12, yX12_low, cX12_low, 2, some .int) := rfl
theorem xi_252 : xMeth 252 = (12, yX12_high_, cX12_high_, 2, some .int) := rfl
theorem xi_253 : xMeth 253 = (12, yX12_digitOf, cX12_digitOf, 2, some .int) := rfl
theorem xi_254 : xMeth 254 = (12, yX12_entersRow, cX12_entersRow, 4, none) := rfl
theorem xi_255 : xMeth 255 = (12, yX12_fits, cX12_fits, 2, some .int) := rfl
theorem xi_256 : xMeth 256 = (12, yX12_span, cX12_span, 4, some .int) := rfl
theorem xi_257 : xMeth 257 = (12, yX12_tightIn, cX12_tightIn, 6, some .int) := rfl
theorem xi_258 : xMeth 258 = (12, yX12_sure, cX12_sure, 3, some .int) := rfl
theorem xi_259 : xMeth 259 = (12, yX12_touch, cX12_touch, 7, some .int) := rfl
theorem xi_260 : xMeth 260 = (12, yX12_keep, cX12_keep, 3, some .boolean) := rfl
theorem xi_261 : xMeth 261 = (12, yX12_again, cX12_again, 3, some .boolean) := rfl
theorem xi_262 : xMeth 262 = (12, yX12_blocks, cX12_blocks, 3, some .int) := rfl
theorem xi_263 : xMeth 263 = (12, yX12_count, cX12_count, 2, some .int) := rfl
theorem xi_264 : xMeth 264 = (12, yX12_row, cX12_row, 2, some .long) := rfl
theorem xi_265 : xMeth 265 = (14, yJ7_fill_d0a16, cJ7_fill_d0a16, 5, none) := rfl
theorem xi_266 : xMeth 266 = (14, yJ7_fill_53178, cJ7_fill_53178, 4, none) := rfl
theorem xi_267 : xMeth 267 = (15, yJ6_bitCount_0f7a4, cJ6_bitCount_0f7a4, 1, some .int) := rfl
theorem xi_268 : xMeth 268 = (4, yX4_note, cX4_note, 2, none) := rfl
theorem xi_269 : xMeth 269 = (11, yX11_inTurn, cX11_inTurn, 2, some .int) := rfl
theorem xi_270 : xMeth 270 = (13, x, code, 8, ret) := rfl
