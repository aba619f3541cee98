theorem gF_0_12 : zF 0 12 = some (0, 2) := by decide +kernel
theorem gF_0_18 : zF 0 18 = some (0, 3) := by decide +kernel
theorem gF_0_21 : zF 0 21 = some (0, 4) := by decide +kernel
theorem gF_0_25 : zF 0 25 = some (0, 5) := by decide +kernel
theorem gF_0_29 : zF 0 29 = some (0, 6) := by decide +kernel
theorem gF_0_32 : zF 0 32 = some (0, 7) := by decide +kernel
theorem gF_0_36 : zF 0 36 = some (0, 8) := by decide +kernel
theorem gF_0_39 : zF 0 39 = some (0, 9) := by decide +kernel
theorem gF_0_43 : zF 0 43 = some (0, 0) := by decide +kernel
theorem gF_0_47 : zF 0 47 = some (0, 1) := by decide +kernel
theorem gF_0_57 : zF 0 57 = some (6, 4) := by decide +kernel
theorem gF_0_80 : zF 0 80 = some (6, 3) := by decide +kernel
theorem gF_0_89 : zF 0 89 = some (7, 5) := by decide +kernel
theorem gF_0_103 : zF 0 103 = some (4, 0) := by decide +kernel
theorem gF_0_117 : zF 0 117 = some (7, 4) := by decide +kernel
theorem gF_0_124 : zF 0 124 = some (7, 6) := by decide +kernel
theorem gF_0_127 : zF 0 127 = some (7, 3) := by decide +kernel
theorem gF_1_9 : zF 1 9 = some (1, 0) := by decide +kernel
theorem gF_1_13 : zF 1 13 = some (1, 1) := by decide +kernel
theorem gF_1_16 : zF 1 16 = some (1, 2) := by decide +kernel
theorem gF_1_19 : zF 1 19 = some (1, 3) := by decide +kernel
theorem gF_1_22 : zF 1 22 = some (1, 4) := by decide +kernel
theorem gF_1_25 : zF 1 25 = some (1, 5) := by decide +kernel
theorem gF_1_28 : zF 1 28 = some (1, 6) := by decide +kernel
theorem gF_1_31 : zF 1 31 = some (1, 7) := by decide +kernel
theorem gF_1_35 : zF 1 35 = some (1, 8) := by decide +kernel
theorem gF_1_38 : zF 1 38 = some (1, 9) := by decide +kernel
theorem gF_2_10 : zF 2 10 = some (2, 1) := by decide +kernel
theorem gF_2_16 : zF 2 16 = some (2, 2) := by decide +kernel
theorem gF_2_20 : zF 2 20 = some (2, 3) := by decide +kernel
theorem gF_2_23 : zF 2 23 = some (2, 4) := by decide +kernel
theorem gF_2_26 : zF 2 26 = some (2, 0) := by decide +kernel
theorem gF_2_47 : zF 2 47 = some (1, 7) := by decide +kernel
theorem gF_2_57 : zF 2 57 = some (1, 8) := by decide +kernel
theorem gF_3_9 : zF 3 9 = some (3, 2) := by decide +kernel
theorem gF_3_15 : zF 3 15 = some (3, 3) := by decide +kernel
theorem gF_3_19 : zF 3 19 = some (3, 0) := by decide +kernel
theorem gF_3_23 : zF 3 23 = some (3, 1) := by decide +kernel
theorem gF_3_31 : zF 3 31 = some (4, 0) := by decide +kernel
theorem gF_3_36 : zF 3 36 = some (5, 2) := by decide +kernel
theorem gF_3_45 : zF 3 45 = some (5, 0) := by decide +kernel
theorem gF_4_9 : zF 4 9 = some (4, 0) := by decide +kernel
theorem gF_4_15 : zF 4 15 = some (4, 1) := by decide +kernel
theorem gF_4_18 : zF 4 18 = some (4, 2) := by decide +kernel
theorem gF_4_22 : zF 4 22 = some (4, 3) := by decide +kernel
theorem gF_4_31 : zF 4 31 = some (7, 6) := by decide +kernel
theorem gF_4_40 : zF 4 40 = some (7, 4) := by decide +kernel
theorem gF_5_9 : zF 5 9 = some (5, 0) := by decide +kernel
theorem gF_5_15 : zF 5 15 = some (5, 1) := by decide +kernel
theorem gF_5_18 : zF 5 18 = some (5, 2) := by decide +kernel
theorem gF_5_22 : zF 5 22 = some (5, 3) := by decide +kernel
theorem gF_5_25 : zF 5 25 = some (5, 4) := by decide +kernel
theorem gF_5_28 : zF 5 28 = some (5, 5) := by decide +kernel
theorem gF_6_19 : zF 6 19 = some (6, 2) := by decide +kernel
theorem gF_6_25 : zF 6 25 = some (6, 3) := by decide +kernel
theorem gF_6_29 : zF 6 29 = some (6, 4) := by decide +kernel
theorem gF_6_33 : zF 6 33 = some (6, 5) := by decide +kernel
theorem gF_6_37 : zF 6 37 = some (6, 6) := by decide +kernel
theorem gF_6_40 : zF 6 40 = some (6, 7) := by decide +kernel
theorem gF_6_43 : zF 6 43 = some (6, 0) := by decide +kernel
theorem gF_6_46 : zF 6 46 = some (6, 1) := by decide +kernel
theorem gF_6_58 : zF 6 58 = some (4, 0) := by decide +kernel
theorem gF_6_67 : zF 6 67 = some (7, 4) := by decide +kernel
theorem gF_6_72 : zF 6 72 = some (7, 0) := by decide +kernel
theorem gF_6_75 : zF 6 75 = some (7, 1) := by decide +kernel
theorem gF_6_78 : zF 6 78 = some (7, 7) := by decide +kernel
theorem gF_6_81 : zF 6 81 = some (7, 3) := by decide +kernel
theorem gF_6_101 : zF 6 101 = some (7, 6) := by decide +kernel
theorem gF_7_9 : zF 7 9 = some (7, 0) := by decide +kernel
theorem gF_7_15 : zF 7 15 = some (7, 1) := by decide +kernel
theorem gF_7_18 : zF 7 18 = some (7, 2) := by decide +kernel
theorem gF_7_21 : zF 7 21 = some (7, 3) := by decide +kernel
theorem gF_7_24 : zF 7 24 = some (7, 4) := by decide +kernel
theorem gF_7_27 : zF 7 27 = some (7, 5) := by decide +kernel
theorem gF_7_31 : zF 7 31 = some (7, 6) := by decide +kernel
theorem gF_7_34 : zF 7 34 = some (7, 7) := by decide +kernel
theorem gF_7_37 : zF 7 37 = some (7, 8) := by decide +kernel
theorem gF_8_9 : zF 8 9 = some (8, 1) := by decide +kernel
theorem gF_8_15 : zF 8 15 = some (8, 2) := by decide +kernel
theorem gF_8_20 : zF 8 20 = some (8, 3) := by decide +kernel
theorem gF_8_23 : zF 8 23 = some (8, 4) := by decide +kernel
theorem gF_8_26 : zF 8 26 = some (8, 5) := by decide +kernel
theorem gF_8_29 : zF 8 29 = some (8, 0) := by decide +kernel
theorem gF_8_59 : zF 8 59 = some (7, 6) := by decide +kernel
theorem gF_8_74 : zF 8 74 = some (4, 0) := by decide +kernel
theorem gF_9_9 : zF 9 9 = some (9, 0) := by decide +kernel
theorem gF_9_13 : zF 9 13 = some (9, 1) := by decide +kernel
theorem gF_9_21 : zF 9 21 = some (7, 6) := by decide +kernel
theorem gF_9_24 : zF 9 24 = some (7, 4) := by decide +kernel
theorem gF_10_9 : zF 10 9 = some (10, 1) := by decide +kernel
theorem gF_10_15 : zF 10 15 = some (10, 2) := by decide +kernel
theorem gF_10_18 : zF 10 18 = some (10, 3) := by decide +kernel
theorem gF_10_21 : zF 10 21 = some (10, 0) := by decide +kernel
theorem gF_10_31 : zF 10 31 = some (4, 0) := by decide +kernel
theorem gF_11_10 : zF 11 10 = some (11, 0) := by decide +kernel
theorem gF_11_18 : zF 11 18 = some (9, 0) := by decide +kernel
theorem gF_11_25 : zF 11 25 = some (11, 1) := by decide +kernel
theorem gF_11_29 : zF 11 29 = some (11, 2) := by decide +kernel
theorem gF_11_32 : zF 11 32 = some (11, 3) := by decide +kernel
theorem gF_11_38 : zF 11 38 = some (11, 4) := by decide +kernel
theorem gF_11_45 : zF 11 45 = some (11, 5) := by decide +kernel
theorem gF_11_49 : zF 11 49 = some (11, 6) := by decide +kernel
theorem gF_11_52 : zF 11 52 = some (11, 7) := by decide +kernel
theorem gF_11_55 : zF 11 55 = some (11, 8) := by decide +kernel
theorem gF_11_63 : zF 11 63 = some (11, 9) := by decide +kernel
theorem gF_11_70 : zF 11 70 = some (11, 10) := by decide +kernel
theorem gF_11_79 : zF 11 79 = some (11, 11) := by decide +kernel
theorem gF_11_88 : zF 11 88 = some (11, 12) := by decide +kernel
theorem gF_11_95 : zF 11 95 = some (11, 13) := by decide +kernel
theorem gF_11_104 : zF 11 104 = some (11, 14) := by decide +kernel
theorem gF_11_108 : zF 11 108 = some (11, 15) := by decide +kernel
theorem gF_11_116 : zF 11 116 = some (7, 7) := by decide +kernel
theorem gF_11_124 : zF 11 124 = some (4, 0) := by decide +kernel
theorem gF_11_127 : zF 11 127 = some (4, 1) := by decide +kernel
theorem gF_11_138 : zF 11 138 = some (9, 1) := by decide +kernel
theorem gF_11_147 : zF 11 147 = some (6, 4) := by decide +kernel
theorem gF_11_155 : zF 11 155 = some (7, 6) := by decide +kernel
theorem gF_11_160 : zF 11 160 = some (7, 4) := by decide +kernel
theorem gF_11_172 : zF 11 172 = some (7, 0) := by decide +kernel
theorem gF_11_175 : zF 11 175 = some (7, 1) := by decide +kernel
theorem gF_11_178 : zF 11 178 = some (7, 3) := by decide +kernel
theorem gF_11_192 : zF 11 192 = some (6, 5) := by decide +kernel
theorem gF_11_199 : zF 11 199 = some (6, 6) := by decide +kernel
theorem gF_11_202 : zF 11 202 = some (6, 7) := by decide +kernel
theorem gF_11_224 : zF 11 224 = some (6, 3) := by decide +kernel
theorem gF_11_256 : zF 11 256 = some (10, 3) := by decide +kernel
theorem gF_11_262 : zF 11 262 = some (5, 2) := by decide +kernel
theorem gF_11_268 : zF 11 268 = some (5, 0) := by decide +kernel
theorem gF_11_271 : zF 11 271 = some (5, 1) := by decide +kernel
theorem gF_11_288 : zF 11 288 = some (0, 9) := by decide +kernel
theorem gF_11_321 : zF 11 321 = some (7, 8) := by decide +kernel
theorem gF_11_328 : zF 11 328 = some (7, 5) := by decide +kernel
theorem gF_11_331 : zF 11 331 = some (1, 7) := by decide +kernel
theorem gF_12_7 : zF 12 7 = some (12, 6) := by decide +kernel
theorem gF_12_13 : zF 12 13 = some (12, 7) := by decide +kernel
theorem gF_12_16 : zF 12 16 = some (12, 8) := by decide +kernel
theorem gF_12_19 : zF 12 19 = some (12, 9) := by decide +kernel
theorem gF_12_22 : zF 12 22 = some (12, 10) := by decide +kernel
theorem gF_12_25 : zF 12 25 = some (12, 11) := by decide +kernel
theorem gF_12_28 : zF 12 28 = some (12, 12) := by decide +kernel
theorem gF_12_32 : zF 12 32 = some (12, 23) := by decide +kernel
theorem gF_12_35 : zF 12 35 = some (12, 24) := by decide +kernel
theorem gF_12_38 : zF 12 38 = some (12, 25) := by decide +kernel
theorem gF_12_41 : zF 12 41 = some (12, 26) := by decide +kernel
theorem gF_12_44 : zF 12 44 = some (12, 27) := by decide +kernel
theorem gF_12_47 : zF 12 47 = some (12, 28) := by decide +kernel
theorem gF_12_50 : zF 12 50 = some (12, 29) := by decide +kernel
theorem gF_12_53 : zF 12 53 = some (12, 30) := by decide +kernel
theorem gF_12_56 : zF 12 56 = some (12, 31) := by decide +kernel
theorem gF_12_59 : zF 12 59 = some (12, 32) := by decide +kernel
theorem gF_12_62 : zF 12 62 = some (12, 33) := by decide +kernel
theorem gF_12_65 : zF 12 65 = some (12, 34) := by decide +kernel
theorem gF_12_68 : zF 12 68 = some (12, 35) := by decide +kernel
theorem gF_12_71 : zF 12 71 = some (12, 39) := by decide +kernel
theorem gF_12_74 : zF 12 74 = some (12, 40) := by decide +kernel
theorem gF_12_77 : zF 12 77 = some (12, 43) := by decide +kernel
theorem gF_12_80 : zF 12 80 = some (12, 44) := by decide +kernel
theorem gF_12_83 : zF 12 83 = some (12, 46) := by decide +kernel
theorem gF_12_86 : zF 12 86 = some (12, 47) := by decide +kernel
theorem gF_12_89 : zF 12 89 = some (12, 48) := by decide +kernel
theorem gF_12_92 : zF 12 92 = some (12, 50) := by decide +kernel
theorem gF_12_95 : zF 12 95 = some (12, 51) := by decide +kernel
theorem gF_12_98 : zF 12 98 = some (12, 52) := by decide +kernel
theorem gF_12_101 : zF 12 101 = some (12, 53) := by decide +kernel
theorem gF_12_104 : zF 12 104 = some (12, 54) := by decide +kernel
theorem gF_12_107 : zF 12 107 = some (12, 55) := by decide +kernel
theorem gF_12_110 : zF 12 110 = some (12, 56) := by decide +kernel
theorem gF_12_113 : zF 12 113 = some (12, 57) := by decide +kernel
theorem gF_12_116 : zF 12 116 = some (12, 59) := by decide +kernel
theorem gF_12_119 : zF 12 119 = some (12, 60) := by decide +kernel
theorem gF_12_122 : zF 12 122 = some (12, 61) := by decide +kernel
theorem gF_12_125 : zF 12 125 = some (12, 62) := by decide +kernel
theorem gF_12_128 : zF 12 128 = some (12, 63) := by decide +kernel
theorem gF_12_131 : zF 12 131 = some (12, 65) := by decide +kernel
theorem gF_12_134 : zF 12 134 = some (12, 66) := by decide +kernel
theorem gF_12_137 : zF 12 137 = some (12, 72) := by decide +kernel
theorem gF_12_140 : zF 12 140 = some (12, 73) := by decide +kernel
theorem gF_12_143 : zF 12 143 = some (12, 74) := by decide +kernel
theorem gF_12_146 : zF 12 146 = some (12, 75) := by decide +kernel
theorem gF_12_149 : zF 12 149 = some (12, 76) := by decide +kernel
theorem gF_12_152 : zF 12 152 = some (12, 5) := by decide +kernel
theorem gF_12_156 : zF 12 156 = some (12, 3) := by decide +kernel
theorem gF_12_159 : zF 12 159 = some (12, 0) := by decide +kernel
theorem gF_12_162 : zF 12 162 = some (12, 1) := by decide +kernel
theorem gF_12_173 : zF 12 173 = some (12, 2) := by decide +kernel
theorem gF_12_180 : zF 12 180 = some (12, 4) := by decide +kernel
theorem gF_12_183 : zF 12 183 = some (12, 13) := by decide +kernel
theorem gF_12_189 : zF 12 189 = some (12, 14) := by decide +kernel
theorem gF_12_192 : zF 12 192 = some (12, 15) := by decide +kernel
theorem gF_12_199 : zF 12 199 = some (12, 16) := by decide +kernel
theorem gF_12_206 : zF 12 206 = some (12, 21) := by decide +kernel
theorem gF_12_213 : zF 12 213 = some (12, 18) := by decide +kernel
theorem gF_12_217 : zF 12 217 = some (12, 17) := by decide +kernel
theorem gF_12_220 : zF 12 220 = some (12, 19) := by decide +kernel
theorem gF_12_268 : zF 12 268 = some (12, 20) := by decide +kernel
theorem gF_12_280 : zF 12 280 = some (12, 22) := by decide +kernel
theorem gF_12_309 : zF 12 309 = some (12, 36) := by decide +kernel
theorem gF_12_315 : zF 12 315 = some (12, 37) := by decide +kernel
theorem gF_12_318 : zF 12 318 = some (12, 38) := by decide +kernel
theorem gF_12_336 : zF 12 336 = some (12, 41) := by decide +kernel
theorem gF_12_339 : zF 12 339 = some (12, 42) := by decide +kernel
theorem gF_12_367 : zF 12 367 = some (12, 45) := by decide +kernel
theorem gF_12_380 : zF 12 380 = some (12, 49) := by decide +kernel
theorem gF_12_436 : zF 12 436 = some (12, 58) := by decide +kernel
theorem gF_12_451 : zF 12 451 = some (12, 64) := by decide +kernel
theorem gF_12_474 : zF 12 474 = some (12, 67) := by decide +kernel
theorem gF_12_478 : zF 12 478 = some (12, 68) := by decide +kernel
theorem gF_12_481 : zF 12 481 = some (12, 69) := by decide +kernel
theorem gF_12_484 : zF 12 484 = some (12, 70) := by decide +kernel
theorem gF_12_487 : zF 12 487 = some (12, 71) := by decide +kernel
theorem gM_0_3 : zM 0 3 = some (16, 0) := by decide +kernel
theorem gM_0_11 : zM 0 11 = some (3, 60) := by decide +kernel
theorem gM_0_51 : zM 0 51 = some (17, 0) := by decide +kernel
theorem gM_0_63 : zM 0 63 = some (0, 11) := by decide +kernel
theorem gM_0_69 : zM 0 69 = some (0, 61) := by decide +kernel
theorem gM_0_73 : zM 0 73 = some (0, 65) := by decide +kernel
theorem gM_0_76 : zM 0 76 = some (0, 5) := by decide +kernel
theorem gM_0_83 : zM 0 83 = some (13, 0) := by decide +kernel
theorem gM_0_92 : zM 0 92 = some (0, 66) := by decide +kernel
theorem gM_0_96 : zM 0 96 = some (0, 3) := by decide +kernel
theorem gM_0_100 : zM 0 100 = some (0, 59) := by decide +kernel
theorem gM_0_108 : zM 0 108 = some (0, 62) := by decide +kernel
theorem gM_0_111 : zM 0 111 = some (0, 86) := by decide +kernel
theorem gM_0_120 : zM 0 120 = some (0, 4) := by decide +kernel
theorem gM_0_130 : zM 0 130 = some (0, 52) := by decide +kernel
theorem gM_1_1 : zM 1 1 = some (16, 0) := by decide +kernel
theorem gM_1_43 : zM 1 43 = some (14, 0) := by decide +kernel
theorem gM_1_49 : zM 1 49 = some (0, 14) := by decide +kernel
theorem gM_1_53 : zM 1 53 = some (11, 0) := by decide +kernel
theorem gM_1_59 : zM 1 59 = some (10, 0) := by decide +kernel
theorem gM_1_62 : zM 1 62 = some (4, 15) := by decide +kernel
theorem gM_1_66 : zM 1 66 = some (4, 16) := by decide +kernel
theorem gM_2_1 : zM 2 1 = some (16, 0) := by decide +kernel
theorem gM_2_9 : zM 2 9 = some (3, 6) := by decide +kernel
theorem gM_2_30 : zM 2 30 = some (11, 0) := by decide +kernel
theorem gM_2_36 : zM 2 36 = some (0, 7) := by decide +kernel
theorem gM_2_39 : zM 2 39 = some (0, 20) := by decide +kernel
theorem gM_2_43 : zM 2 43 = some (0, 31) := by decide +kernel
theorem gM_2_50 : zM 2 50 = some (0, 30) := by decide +kernel
theorem gM_2_54 : zM 2 54 = some (0, 32) := by decide +kernel
theorem gM_2_60 : zM 2 60 = some (0, 25) := by decide +kernel
theorem gM_2_63 : zM 2 63 = some (0, 21) := by decide +kernel
theorem gM_2_66 : zM 2 66 = some (0, 10) := by decide +kernel
theorem gM_2_70 : zM 2 70 = some (0, 22) := by decide +kernel
theorem gM_2_73 : zM 2 73 = some (0, 29) := by decide +kernel
theorem gM_2_77 : zM 2 77 = some (0, 9) := by decide +kernel
theorem gM_2_81 : zM 2 81 = some (0, 23) := by decide +kernel
theorem gM_2_84 : zM 2 84 = some (0, 24) := by decide +kernel
theorem gM_2_87 : zM 2 87 = some (0, 8) := by decide +kernel
theorem gM_2_90 : zM 2 90 = some (0, 26) := by decide +kernel
theorem gM_2_93 : zM 2 93 = some (0, 27) := by decide +kernel
theorem gM_2_96 : zM 2 96 = some (4, 33) := by decide +kernel
theorem gM_2_99 : zM 2 99 = some (0, 28) := by decide +kernel
theorem gM_2_104 : zM 2 104 = some (14, 0) := by decide +kernel
theorem gM_3_3 : zM 3 3 = some (16, 0) := by decide +kernel
theorem gM_3_27 : zM 3 27 = some (0, 36) := by decide +kernel
theorem gM_3_41 : zM 3 41 = some (0, 37) := by decide +kernel
theorem gM_3_48 : zM 3 48 = some (0, 45) := by decide +kernel
theorem gM_3_52 : zM 3 52 = some (0, 39) := by decide +kernel
theorem gM_3_56 : zM 3 56 = some (0, 41) := by decide +kernel
theorem gM_3_59 : zM 3 59 = some (10, 0) := by decide +kernel
theorem gM_4_3 : zM 4 3 = some (16, 0) := by decide +kernel
theorem gM_4_25 : zM 4 25 = some (4, 251) := by decide +kernel
theorem gM_4_36 : zM 4 36 = some (0, 41) := by decide +kernel
theorem gM_4_43 : zM 4 43 = some (13, 0) := by decide +kernel
theorem gM_5_3 : zM 5 3 = some (16, 0) := by decide +kernel
theorem gM_5_31 : zM 5 31 = some (4, 251) := by decide +kernel
theorem gM_5_37 : zM 5 37 = some (10, 0) := by decide +kernel
theorem gM_5_43 : zM 5 43 = some (0, 45) := by decide +kernel
theorem gM_5_47 : zM 5 47 = some (0, 49) := by decide +kernel
theorem gM_5_50 : zM 5 50 = some (0, 50) := by decide +kernel
theorem gM_5_53 : zM 5 53 = some (0, 48) := by decide +kernel
theorem gM_5_57 : zM 5 57 = some (11, 0) := by decide +kernel
theorem gM_6_3 : zM 6 3 = some (16, 0) := by decide +kernel
theorem gM_6_13 : zM 6 13 = some (15, 0) := by decide +kernel
theorem gM_6_28 : zM 6 28 = some (3, 6) := by decide +kernel
theorem gM_6_50 : zM 6 50 = some (0, 54) := by decide +kernel
theorem gM_6_54 : zM 6 54 = some (0, 12) := by decide +kernel
theorem gM_6_63 : zM 6 63 = some (0, 13) := by decide +kernel
theorem gM_6_84 : zM 6 84 = some (0, 65) := by decide +kernel
theorem gM_6_87 : zM 6 87 = some (0, 57) := by decide +kernel
theorem gM_6_91 : zM 6 91 = some (0, 58) := by decide +kernel
theorem gM_6_94 : zM 6 94 = some (0, 59) := by decide +kernel
theorem gM_6_97 : zM 6 97 = some (0, 66) := by decide +kernel
theorem gM_6_104 : zM 6 104 = some (0, 52) := by decide +kernel
theorem gM_6_108 : zM 6 108 = some (0, 53) := by decide +kernel
theorem gM_6_111 : zM 6 111 = some (0, 42) := by decide +kernel
theorem gM_7_3 : zM 7 3 = some (16, 0) := by decide +kernel
theorem gM_7_40 : zM 7 40 = some (13, 0) := by decide +kernel
theorem gM_7_46 : zM 7 46 = some (0, 62) := by decide +kernel
theorem gM_7_50 : zM 7 50 = some (0, 64) := by decide +kernel
theorem gM_7_54 : zM 7 54 = some (0, 67) := by decide +kernel
theorem gM_8_3 : zM 8 3 = some (16, 0) := by decide +kernel
theorem gM_8_33 : zM 8 33 = some (0, 73) := by decide +kernel
theorem gM_8_37 : zM 8 37 = some (0, 74) := by decide +kernel
theorem gM_8_42 : zM 8 42 = some (0, 76) := by decide +kernel
theorem gM_8_45 : zM 8 45 = some (0, 77) := by decide +kernel
theorem gM_8_49 : zM 8 49 = some (0, 79) := by decide +kernel
theorem gM_8_53 : zM 8 53 = some (4, 251) := by decide +kernel
theorem gM_8_65 : zM 8 65 = some (0, 67) := by decide +kernel
theorem gM_8_69 : zM 8 69 = some (11, 0) := by decide +kernel
theorem gM_8_79 : zM 8 79 = some (0, 75) := by decide +kernel
theorem gM_8_82 : zM 8 82 = some (0, 78) := by decide +kernel
theorem gM_9_1 : zM 9 1 = some (16, 0) := by decide +kernel
theorem gM_9_17 : zM 9 17 = some (0, 84) := by decide +kernel
theorem gM_9_27 : zM 9 27 = some (0, 66) := by decide +kernel
theorem gM_10_3 : zM 10 3 = some (16, 0) := by decide +kernel
theorem gM_10_25 : zM 10 25 = some (10, 0) := by decide +kernel
theorem gM_10_37 : zM 10 37 = some (0, 41) := by decide +kernel
theorem gM_10_41 : zM 10 41 = some (0, 92) := by decide +kernel
theorem gM_10_45 : zM 10 45 = some (0, 91) := by decide +kernel
theorem gM_10_49 : zM 10 49 = some (0, 93) := by decide +kernel
theorem gM_10_53 : zM 10 53 = some (0, 94) := by decide +kernel
theorem gM_10_57 : zM 10 57 = some (12, 0) := by decide +kernel
theorem gM_11_1 : zM 11 1 = some (16, 0) := by decide +kernel
theorem gM_11_9 : zM 11 9 = some (3, 81) := by decide +kernel
theorem gM_11_22 : zM 11 22 = some (2, 17) := by decide +kernel
theorem gM_11_37 : zM 11 37 = some (3, 40) := by decide +kernel
theorem gM_11_44 : zM 11 44 = some (3, 60) := by decide +kernel
theorem gM_11_60 : zM 11 60 = some (2, 51) := by decide +kernel
theorem gM_11_69 : zM 11 69 = some (3, 43) := by decide +kernel
theorem gM_11_76 : zM 11 76 = some (2, 34) := by decide +kernel
theorem gM_11_85 : zM 11 85 = some (2, 71) := by decide +kernel
theorem gM_11_94 : zM 11 94 = some (2, 88) := by decide +kernel
theorem gM_11_101 : zM 11 101 = some (2, 0) := by decide +kernel
theorem gM_11_112 : zM 11 112 = some (4, 128) := by decide +kernel
theorem gM_11_120 : zM 11 120 = some (0, 63) := by decide +kernel
theorem gM_11_130 : zM 11 130 = some (0, 82) := by decide +kernel
theorem gM_11_134 : zM 11 134 = some (0, 83) := by decide +kernel
theorem gM_11_143 : zM 11 143 = some (0, 19) := by decide +kernel
theorem gM_11_151 : zM 11 151 = some (0, 18) := by decide +kernel
theorem gM_11_156 : zM 11 156 = some (0, 87) := by decide +kernel
theorem gM_11_163 : zM 11 163 = some (0, 84) := by decide +kernel
theorem gM_11_166 : zM 11 166 = some (0, 130) := by decide +kernel
theorem gM_11_169 : zM 11 169 = some (0, 66) := by decide +kernel
theorem gM_11_181 : zM 11 181 = some (0, 132) := by decide +kernel
theorem gM_11_184 : zM 11 184 = some (0, 131) := by decide +kernel
theorem gM_11_188 : zM 11 188 = some (0, 55) := by decide +kernel
theorem gM_11_195 : zM 11 195 = some (0, 61) := by decide +kernel
theorem gM_11_205 : zM 11 205 = some (0, 133) := by decide +kernel
theorem gM_11_209 : zM 11 209 = some (0, 135) := by decide +kernel
theorem gM_11_212 : zM 11 212 = some (0, 46) := by decide +kernel
theorem gM_11_216 : zM 11 216 = some (0, 136) := by decide +kernel
theorem gM_11_220 : zM 11 220 = some (0, 38) := by decide +kernel
theorem gM_11_227 : zM 11 227 = some (0, 67) := by decide +kernel
theorem gM_11_230 : zM 11 230 = some (0, 42) := by decide +kernel
theorem gM_11_234 : zM 11 234 = some (4, 129) := by decide +kernel
theorem gM_11_238 : zM 11 238 = some (0, 72) := by decide +kernel
theorem gM_11_242 : zM 11 242 = some (0, 80) := by decide +kernel
theorem gM_11_245 : zM 11 245 = some (0, 134) := by decide +kernel
theorem gM_11_248 : zM 11 248 = some (0, 89) := by decide +kernel
theorem gM_11_252 : zM 11 252 = some (0, 90) := by decide +kernel
theorem gM_11_259 : zM 11 259 = some (0, 44) := by decide +kernel
theorem gM_11_265 : zM 11 265 = some (0, 47) := by decide +kernel
theorem gM_11_272 : zM 11 272 = some (0, 56) := by decide +kernel
theorem gM_11_276 : zM 11 276 = some (12, 0) := by decide +kernel
theorem gM_11_281 : zM 11 281 = some (0, 68) := by decide +kernel
theorem gM_11_285 : zM 11 285 = some (0, 86) := by decide +kernel
theorem gM_11_291 : zM 11 291 = some (0, 2) := by decide +kernel
theorem gM_11_295 : zM 11 295 = some (0, 1) := by decide +kernel
theorem gM_11_298 : zM 11 298 = some (0, 65) := by decide +kernel
theorem gM_11_301 : zM 11 301 = some (0, 57) := by decide +kernel
theorem gM_11_304 : zM 11 304 = some (0, 137) := by decide +kernel
theorem gM_11_307 : zM 11 307 = some (10, 0) := by decide +kernel
theorem gM_11_310 : zM 11 310 = some (0, 138) := by decide +kernel
theorem gM_11_314 : zM 11 314 = some (0, 53) := by decide +kernel
theorem gM_11_317 : zM 11 317 = some (11, 0) := by decide +kernel
theorem gM_11_325 : zM 11 325 = some (0, 85) := by decide +kernel
theorem gM_11_334 : zM 11 334 = some (0, 69) := by decide +kernel
theorem gM_11_337 : zM 11 337 = some (0, 70) := by decide +kernel
theorem gM_11_340 : zM 11 340 = some (0, 52) := by decide +kernel
theorem gM_11_342 : zM 11 342 = some (0, 35) := by decide +kernel
theorem gM_12_1 : zM 12 1 = some (16, 0) := by decide +kernel
theorem gM_12_165 : zM 12 165 = some (4, 145) := by decide +kernel
theorem gM_12_169 : zM 12 169 = some (4, 140) := by decide +kernel
theorem gM_12_176 : zM 12 176 = some (0, 147) := by decide +kernel
theorem gM_12_186 : zM 12 186 = some (0, 152) := by decide +kernel
theorem gM_12_195 : zM 12 195 = some (0, 154) := by decide +kernel
theorem gM_12_202 : zM 12 202 = some (0, 156) := by decide +kernel
theorem gM_12_209 : zM 12 209 = some (0, 155) := by decide +kernel
theorem gM_12_223 : zM 12 223 = some (0, 161) := by decide +kernel
theorem gM_12_226 : zM 12 226 = some (0, 159) := by decide +kernel
theorem gM_12_230 : zM 12 230 = some (0, 160) := by decide +kernel
theorem gM_12_233 : zM 12 233 = some (0, 158) := by decide +kernel
theorem gM_12_236 : zM 12 236 = some (4, 162) := by decide +kernel
theorem gM_12_240 : zM 12 240 = some (0, 165) := by decide +kernel
theorem gM_12_243 : zM 12 243 = some (4, 163) := by decide +kernel
theorem gM_12_246 : zM 12 246 = some (0, 164) := by decide +kernel
theorem gM_12_250 : zM 12 250 = some (0, 166) := by decide +kernel
theorem gM_12_253 : zM 12 253 = some (0, 167) := by decide +kernel
theorem gM_12_256 : zM 12 256 = some (0, 168) := by decide +kernel
theorem gM_12_259 : zM 12 259 = some (0, 171) := by decide +kernel
theorem gM_12_262 : zM 12 262 = some (0, 169) := by decide +kernel
theorem gM_12_265 : zM 12 265 = some (0, 170) := by decide +kernel
theorem gM_12_271 : zM 12 271 = some (0, 172) := by decide +kernel
theorem gM_12_274 : zM 12 274 = some (0, 173) := by decide +kernel
theorem gM_12_277 : zM 12 277 = some (0, 157) := by decide +kernel
theorem gM_12_283 : zM 12 283 = some (4, 175) := by decide +kernel
theorem gM_12_287 : zM 12 287 = some (0, 176) := by decide +kernel
theorem gM_12_291 : zM 12 291 = some (0, 146) := by decide +kernel
theorem gM_12_294 : zM 12 294 = some (0, 178) := by decide +kernel
theorem gM_12_297 : zM 12 297 = some (0, 177) := by decide +kernel
theorem gM_12_300 : zM 12 300 = some (4, 143) := by decide +kernel
theorem gM_12_303 : zM 12 303 = some (0, 179) := by decide +kernel
theorem gM_12_306 : zM 12 306 = some (0, 180) := by decide +kernel
theorem gM_12_312 : zM 12 312 = some (0, 181) := by decide +kernel
theorem gM_12_321 : zM 12 321 = some (0, 183) := by decide +kernel
theorem gM_12_324 : zM 12 324 = some (0, 182) := by decide +kernel
theorem gM_12_327 : zM 12 327 = some (0, 184) := by decide +kernel
theorem gM_12_330 : zM 12 330 = some (0, 185) := by decide +kernel
theorem gM_12_333 : zM 12 333 = some (0, 186) := by decide +kernel
theorem gM_12_342 : zM 12 342 = some (4, 189) := by decide +kernel
theorem gM_12_346 : zM 12 346 = some (0, 144) := by decide +kernel
theorem gM_12_349 : zM 12 349 = some (0, 151) := by decide +kernel
theorem gM_12_352 : zM 12 352 = some (0, 188) := by decide +kernel
theorem gM_12_355 : zM 12 355 = some (0, 187) := by decide +kernel
theorem gM_12_358 : zM 12 358 = some (0, 196) := by decide +kernel
theorem gM_12_361 : zM 12 361 = some (0, 190) := by decide +kernel
theorem gM_12_364 : zM 12 364 = some (0, 191) := by decide +kernel
theorem gM_12_370 : zM 12 370 = some (0, 200) := by decide +kernel
theorem gM_12_373 : zM 12 373 = some (0, 201) := by decide +kernel
theorem gM_12_377 : zM 12 377 = some (0, 203) := by decide +kernel
theorem gM_12_383 : zM 12 383 = some (0, 204) := by decide +kernel
theorem gM_12_386 : zM 12 386 = some (0, 205) := by decide +kernel
theorem gM_12_389 : zM 12 389 = some (0, 207) := by decide +kernel
theorem gM_12_393 : zM 12 393 = some (0, 210) := by decide +kernel
theorem gM_12_396 : zM 12 396 = some (4, 214) := by decide +kernel
theorem gM_12_399 : zM 12 399 = some (4, 141) := by decide +kernel
theorem gM_12_402 : zM 12 402 = some (0, 211) := by decide +kernel
theorem gM_12_405 : zM 12 405 = some (0, 215) := by decide +kernel
theorem gM_12_408 : zM 12 408 = some (0, 213) := by decide +kernel
theorem gM_12_411 : zM 12 411 = some (0, 212) := by decide +kernel
theorem gM_12_414 : zM 12 414 = some (0, 217) := by decide +kernel
theorem gM_12_417 : zM 12 417 = some (0, 216) := by decide +kernel
theorem gM_12_420 : zM 12 420 = some (4, 142) := by decide +kernel
theorem gM_12_423 : zM 12 423 = some (0, 220) := by decide +kernel
theorem gM_12_427 : zM 12 427 = some (0, 223) := by decide +kernel
theorem gM_12_430 : zM 12 430 = some (0, 224) := by decide +kernel
theorem gM_12_433 : zM 12 433 = some (0, 225) := by decide +kernel
theorem gM_12_439 : zM 12 439 = some (0, 228) := by decide +kernel
theorem gM_12_442 : zM 12 442 = some (0, 229) := by decide +kernel
theorem gM_12_445 : zM 12 445 = some (0, 227) := by decide +kernel
theorem gM_12_448 : zM 12 448 = some (0, 230) := by decide +kernel
theorem gM_12_454 : zM 12 454 = some (4, 234) := by decide +kernel
theorem gM_12_458 : zM 12 458 = some (0, 232) := by decide +kernel
theorem gM_12_461 : zM 12 461 = some (0, 233) := by decide +kernel
theorem gM_12_465 : zM 12 465 = some (0, 235) := by decide +kernel
theorem gM_12_468 : zM 12 468 = some (0, 237) := by decide +kernel
theorem gM_12_490 : zM 12 490 = some (0, 245) := by decide +kernel
theorem gM_12_493 : zM 12 493 = some (0, 247) := by decide +kernel
theorem gM_12_496 : zM 12 496 = some (0, 248) := by decide +kernel
theorem gM_13_9 : zM 13 9 = some (2, 95) := by decide +kernel
theorem gM_13_12 : zM 13 12 = some (2, 139) := by decide +kernel
theorem gM_13_13 : zM 13 13 = some (0, 96) := by decide +kernel
theorem gM_13_17 : zM 13 17 = some (0, 148) := by decide +kernel
theorem gM_13_18 : zM 13 18 = some (0, 97) := by decide +kernel
theorem gM_13_22 : zM 13 22 = some (0, 149) := by decide +kernel
theorem gM_13_23 : zM 13 23 = some (0, 98) := by decide +kernel
theorem gM_13_26 : zM 13 26 = some (0, 150) := by decide +kernel
theorem gM_13_27 : zM 13 27 = some (0, 99) := by decide +kernel
theorem gM_13_31 : zM 13 31 = some (0, 153) := by decide +kernel
theorem gM_13_32 : zM 13 32 = some (0, 100) := by decide +kernel
theorem gM_13_36 : zM 13 36 = some (0, 174) := by decide +kernel
theorem gM_13_37 : zM 13 37 = some (0, 101) := by decide +kernel
theorem gM_13_41 : zM 13 41 = some (0, 192) := by decide +kernel
theorem gM_13_42 : zM 13 42 = some (0, 102) := by decide +kernel
theorem gM_13_46 : zM 13 46 = some (0, 193) := by decide +kernel
theorem gM_13_47 : zM 13 47 = some (0, 103) := by decide +kernel
theorem gM_13_50 : zM 13 50 = some (0, 194) := by decide +kernel
theorem gM_13_51 : zM 13 51 = some (0, 104) := by decide +kernel
theorem gM_13_54 : zM 13 54 = some (0, 195) := by decide +kernel
theorem gM_13_55 : zM 13 55 = some (0, 105) := by decide +kernel
theorem gM_13_58 : zM 13 58 = some (0, 198) := by decide +kernel
theorem gM_13_59 : zM 13 59 = some (0, 106) := by decide +kernel
theorem gM_13_63 : zM 13 63 = some (0, 197) := by decide +kernel
theorem gM_13_64 : zM 13 64 = some (0, 107) := by decide +kernel
theorem gM_13_67 : zM 13 67 = some (0, 199) := by decide +kernel
theorem gM_13_68 : zM 13 68 = some (0, 108) := by decide +kernel
theorem gM_13_71 : zM 13 71 = some (0, 202) := by decide +kernel
theorem gM_13_72 : zM 13 72 = some (0, 109) := by decide +kernel
theorem gM_13_75 : zM 13 75 = some (0, 206) := by decide +kernel
theorem gM_13_76 : zM 13 76 = some (0, 110) := by decide +kernel
theorem gM_13_79 : zM 13 79 = some (0, 208) := by decide +kernel
theorem gM_13_80 : zM 13 80 = some (0, 111) := by decide +kernel
theorem gM_13_83 : zM 13 83 = some (0, 209) := by decide +kernel
theorem gM_13_84 : zM 13 84 = some (0, 112) := by decide +kernel
theorem gM_13_87 : zM 13 87 = some (0, 218) := by decide +kernel
theorem gM_13_88 : zM 13 88 = some (0, 113) := by decide +kernel
theorem gM_13_92 : zM 13 92 = some (0, 219) := by decide +kernel
theorem gM_13_93 : zM 13 93 = some (0, 114) := by decide +kernel
theorem gM_13_96 : zM 13 96 = some (0, 221) := by decide +kernel
theorem gM_13_97 : zM 13 97 = some (0, 115) := by decide +kernel
theorem gM_13_100 : zM 13 100 = some (0, 222) := by decide +kernel
theorem gM_13_101 : zM 13 101 = some (0, 116) := by decide +kernel
theorem gM_13_104 : zM 13 104 = some (0, 226) := by decide +kernel
theorem gM_13_105 : zM 13 105 = some (0, 117) := by decide +kernel
theorem gM_13_108 : zM 13 108 = some (0, 231) := by decide +kernel
theorem gM_13_109 : zM 13 109 = some (0, 118) := by decide +kernel
theorem gM_13_112 : zM 13 112 = some (0, 236) := by decide +kernel
theorem gM_13_113 : zM 13 113 = some (0, 119) := by decide +kernel
theorem gM_13_116 : zM 13 116 = some (0, 238) := by decide +kernel
theorem gM_13_117 : zM 13 117 = some (0, 120) := by decide +kernel
theorem gM_13_120 : zM 13 120 = some (0, 239) := by decide +kernel
theorem gM_13_121 : zM 13 121 = some (0, 121) := by decide +kernel
theorem gM_13_124 : zM 13 124 = some (0, 240) := by decide +kernel
theorem gM_13_125 : zM 13 125 = some (0, 122) := by decide +kernel
theorem gM_13_128 : zM 13 128 = some (0, 241) := by decide +kernel
theorem gM_13_129 : zM 13 129 = some (0, 123) := by decide +kernel
theorem gM_13_132 : zM 13 132 = some (0, 242) := by decide +kernel
theorem gM_13_133 : zM 13 133 = some (0, 124) := by decide +kernel
theorem gM_13_136 : zM 13 136 = some (0, 243) := by decide +kernel
theorem gM_13_137 : zM 13 137 = some (0, 125) := by decide +kernel
theorem gM_13_141 : zM 13 141 = some (0, 244) := by decide +kernel
theorem gM_13_142 : zM 13 142 = some (0, 126) := by decide +kernel
theorem gM_13_145 : zM 13 145 = some (0, 246) := by decide +kernel
theorem gM_13_146 : zM 13 146 = some (0, 127) := by decide +kernel
theorem gM_13_149 : zM 13 149 = some (0, 249) := by decide +kernel
theorem gK_8_41 : zK 8 41 = some 1000000 := by decide +kernel
theorem gK_11_241 : zK 11 241 = some 1000000 := by decide +kernel
theorem gK_11_313 : zK 11 313 = some 1048576 := by decide +kernel
theorem gK_11_320 : zK 11 320 = some 65535 := by decide +kernel
theorem gK_11_324 : zK 11 324 = some 65536 := by decide +kernel
theorem gK_12_216 : zK 12 216 = some 1048576 := by decide +kernel
theorem gK_12_392 : zK 12 392 = some 1000000000 := by decide +kernel
theorem gK_12_472 : zK 12 472 = some 65535 := by decide +kernel
theorem gK_12_473 : zK 12 473 = some 65536 := by decide +kernel
theorem gK_1_41 : zK 1 41 = none ∧ zSt 1 41 = true := by decide +kernel
theorem gK_2_102 : zK 2 102 = none ∧ zSt 2 102 = true := by decide +kernel
theorem gK_6_11 : zK 6 11 = none ∧ zSt 6 11 = true := by decide +kernel
theorem gN_0_9 : zN 0 9 = some 7 := by decide +kernel
theorem gN_2_7 : zN 2 7 = some 1 := by decide +kernel
theorem gN_6_9 : zN 6 9 = some 1 := by decide +kernel
theorem gN_11_7 : zN 11 7 = some 9 := by decide +kernel
theorem gN_11_16 : zN 11 16 = some 2 := by decide +kernel
theorem gN_11_35 : zN 11 35 = some 4 := by decide +kernel
theorem gN_11_42 : zN 11 42 = some 7 := by decide +kernel
theorem gN_11_58 : zN 11 58 = some 6 := by decide +kernel
theorem gN_11_67 : zN 11 67 = some 5 := by decide +kernel
theorem gN_11_74 : zN 11 74 = some 3 := by decide +kernel
theorem gN_11_83 : zN 11 83 = some 8 := by decide +kernel
theorem gN_11_92 : zN 11 92 = some 10 := by decide +kernel
theorem gN_11_99 : zN 11 99 = some 0 := by decide +kernel
theorem gN_13_7 : zN 13 7 = some 11 := by decide +kernel
theorem gN_13_10 : zN 13 10 = some 12 := by decide +kernel
theorem gY_0 : zA 0 = 2 ∧ zMc 0 = (15, 6517) ∧ zL 0 = 3 ∧ zO 0 = 0 := by decide +kernel
theorem gY_1 : zA 1 = 1 ∧ zMc 1 = (0, 0) ∧ zL 1 = 2 ∧ zO 1 = 0 := by decide +kernel
theorem gY_2 : zA 2 = 3 ∧ zMc 2 = (0, 0) ∧ zL 2 = 7 ∧ zO 2 = 0 := by decide +kernel
theorem gY_3 : zA 3 = 4 ∧ zMc 3 = (0, 0) ∧ zL 3 = 7 ∧ zO 3 = 0 := by decide +kernel
theorem gY_4 : zA 4 = 3 ∧ zMc 4 = (0, 0) ∧ zL 4 = 4 ∧ zO 4 = 0 := by decide +kernel
theorem gY_5 : zA 5 = 2 ∧ zMc 5 = (0, 0) ∧ zL 5 = 8 ∧ zO 5 = 0 := by decide +kernel
theorem gY_6 : zA 6 = 0 ∧ zMc 6 = (7, 656) ∧ zL 6 = 1 ∧ zO 6 = 1 := by decide +kernel
theorem gY_7 : zA 7 = 0 ∧ zMc 7 = (0, 0) ∧ zL 7 = 1 ∧ zO 7 = 1 := by decide +kernel
theorem gY_8 : zA 8 = 2 ∧ zMc 8 = (0, 0) ∧ zL 8 = 4 ∧ zO 8 = 1 := by decide +kernel
theorem gY_9 : zA 9 = 1 ∧ zMc 9 = (0, 0) ∧ zL 9 = 2 ∧ zO 9 = 1 := by decide +kernel
theorem gY_10 : zA 10 = 3 ∧ zMc 10 = (0, 0) ∧ zL 10 = 4 ∧ zO 10 = 1 := by decide +kernel
theorem gY_11 : zA 11 = 1 ∧ zMc 11 = (0, 0) ∧ zL 11 = 2 ∧ zO 11 = 1 := by decide +kernel
theorem gY_12 : zA 12 = 1 ∧ zMc 12 = (0, 0) ∧ zL 12 = 3 ∧ zO 12 = 1 := by decide +kernel
theorem gY_13 : zA 13 = 3 ∧ zMc 13 = (0, 0) ∧ zL 13 = 5 ∧ zO 13 = 1 := by decide +kernel
theorem gY_14 : zA 14 = 3 ∧ zMc 14 = (0, 0) ∧ zL 14 = 8 ∧ zO 14 = 1 := by decide +kernel
theorem gY_15 : zA 15 = 1 ∧ zMc 15 = (0, 0) ∧ zL 15 = 1 ∧ zO 15 = 1 := by decide +kernel
theorem gY_16 : zA 16 = 3 ∧ zMc 16 = (0, 0) ∧ zL 16 = 3 ∧ zO 16 = 1 := by decide +kernel
theorem gY_17 : zA 17 = 1 ∧ zMc 17 = (8, 666) ∧ zL 17 = 2 ∧ zO 17 = 2 := by decide +kernel
theorem gY_18 : zA 18 = 1 ∧ zMc 18 = (0, 0) ∧ zL 18 = 3 ∧ zO 18 = 2 := by decide +kernel
theorem gY_19 : zA 19 = 1 ∧ zMc 19 = (0, 0) ∧ zL 19 = 4 ∧ zO 19 = 2 := by decide +kernel
theorem gY_20 : zA 20 = 0 ∧ zMc 20 = (0, 0) ∧ zL 20 = 4 ∧ zO 20 = 2 := by decide +kernel
theorem gY_21 : zA 21 = 1 ∧ zMc 21 = (0, 0) ∧ zL 21 = 5 ∧ zO 21 = 2 := by decide +kernel
theorem gY_22 : zA 22 = 1 ∧ zMc 22 = (0, 0) ∧ zL 22 = 5 ∧ zO 22 = 2 := by decide +kernel
theorem gY_23 : zA 23 = 1 ∧ zMc 23 = (0, 0) ∧ zL 23 = 3 ∧ zO 23 = 2 := by decide +kernel
theorem gY_24 : zA 24 = 1 ∧ zMc 24 = (0, 0) ∧ zL 24 = 3 ∧ zO 24 = 2 := by decide +kernel
theorem gY_25 : zA 25 = 1 ∧ zMc 25 = (0, 0) ∧ zL 25 = 5 ∧ zO 25 = 2 := by decide +kernel
theorem gY_26 : zA 26 = 1 ∧ zMc 26 = (0, 0) ∧ zL 26 = 5 ∧ zO 26 = 2 := by decide +kernel
theorem gY_27 : zA 27 = 1 ∧ zMc 27 = (0, 0) ∧ zL 27 = 4 ∧ zO 27 = 2 := by decide +kernel
theorem gY_28 : zA 28 = 0 ∧ zMc 28 = (0, 0) ∧ zL 28 = 3 ∧ zO 28 = 2 := by decide +kernel
theorem gY_29 : zA 29 = 1 ∧ zMc 29 = (0, 0) ∧ zL 29 = 2 ∧ zO 29 = 2 := by decide +kernel
theorem gY_30 : zA 30 = 0 ∧ zMc 30 = (0, 0) ∧ zL 30 = 1 ∧ zO 30 = 2 := by decide +kernel
theorem gY_31 : zA 31 = 1 ∧ zMc 31 = (0, 0) ∧ zL 31 = 2 ∧ zO 31 = 2 := by decide +kernel
theorem gY_32 : zA 32 = 1 ∧ zMc 32 = (0, 0) ∧ zL 32 = 2 ∧ zO 32 = 2 := by decide +kernel
theorem gY_33 : zA 33 = 1 ∧ zMc 33 = (0, 0) ∧ zL 33 = 1 ∧ zO 33 = 2 := by decide +kernel
theorem gY_34 : zA 34 = 2 ∧ zMc 34 = (1, 20) ∧ zL 34 = 3 ∧ zO 34 = 3 := by decide +kernel
theorem gY_35 : zA 35 = 0 ∧ zMc 35 = (0, 0) ∧ zL 35 = 2 ∧ zO 35 = 3 := by decide +kernel
theorem gY_36 : zA 36 = 1 ∧ zMc 36 = (0, 0) ∧ zL 36 = 5 ∧ zO 36 = 3 := by decide +kernel
theorem gY_37 : zA 37 = 1 ∧ zMc 37 = (0, 0) ∧ zL 37 = 4 ∧ zO 37 = 3 := by decide +kernel
theorem gY_38 : zA 38 = 2 ∧ zMc 38 = (0, 0) ∧ zL 38 = 3 ∧ zO 38 = 3 := by decide +kernel
theorem gY_39 : zA 39 = 2 ∧ zMc 39 = (0, 0) ∧ zL 39 = 7 ∧ zO 39 = 3 := by decide +kernel
theorem gY_40 : zA 40 = 0 ∧ zMc 40 = (2, 42) ∧ zL 40 = 1 ∧ zO 40 = 4 := by decide +kernel
theorem gY_41 : zA 41 = 1 ∧ zMc 41 = (0, 0) ∧ zL 41 = 2 ∧ zO 41 = 4 := by decide +kernel
theorem gY_42 : zA 42 = 2 ∧ zMc 42 = (0, 0) ∧ zL 42 = 6 ∧ zO 42 = 4 := by decide +kernel
theorem gY_43 : zA 43 = 0 ∧ zMc 43 = (5, 2116) ∧ zL 43 = 1 ∧ zO 43 = 5 := by decide +kernel
theorem gY_44 : zA 44 = 2 ∧ zMc 44 = (0, 0) ∧ zL 44 = 5 ∧ zO 44 = 5 := by decide +kernel
theorem gY_45 : zA 45 = 3 ∧ zMc 45 = (0, 0) ∧ zL 45 = 4 ∧ zO 45 = 5 := by decide +kernel
theorem gY_46 : zA 46 = 1 ∧ zMc 46 = (0, 0) ∧ zL 46 = 4 ∧ zO 46 = 5 := by decide +kernel
theorem gY_47 : zA 47 = 0 ∧ zMc 47 = (0, 0) ∧ zL 47 = 5 ∧ zO 47 = 5 := by decide +kernel
theorem gY_48 : zA 48 = 3 ∧ zMc 48 = (0, 0) ∧ zL 48 = 4 ∧ zO 48 = 5 := by decide +kernel
theorem gY_49 : zA 49 = 2 ∧ zMc 49 = (0, 0) ∧ zL 49 = 5 ∧ zO 49 = 5 := by decide +kernel
theorem gY_50 : zA 50 = 0 ∧ zMc 50 = (0, 0) ∧ zL 50 = 5 ∧ zO 50 = 5 := by decide +kernel
theorem gY_51 : zA 51 = 2 ∧ zMc 51 = (10, 706) ∧ zL 51 = 3 ∧ zO 51 = 6 := by decide +kernel
theorem gY_52 : zA 52 = 2 ∧ zMc 52 = (0, 0) ∧ zL 52 = 3 ∧ zO 52 = 6 := by decide +kernel
theorem gY_53 : zA 53 = 2 ∧ zMc 53 = (0, 0) ∧ zL 53 = 3 ∧ zO 53 = 6 := by decide +kernel
theorem gY_54 : zA 54 = 2 ∧ zMc 54 = (0, 0) ∧ zL 54 = 4 ∧ zO 54 = 6 := by decide +kernel
theorem gY_55 : zA 55 = 2 ∧ zMc 55 = (0, 0) ∧ zL 55 = 4 ∧ zO 55 = 6 := by decide +kernel
theorem gY_56 : zA 56 = 3 ∧ zMc 56 = (0, 0) ∧ zL 56 = 5 ∧ zO 56 = 6 := by decide +kernel
theorem gY_57 : zA 57 = 1 ∧ zMc 57 = (0, 0) ∧ zL 57 = 3 ∧ zO 57 = 6 := by decide +kernel
theorem gY_58 : zA 58 = 1 ∧ zMc 58 = (0, 0) ∧ zL 58 = 3 ∧ zO 58 = 6 := by decide +kernel
theorem gY_59 : zA 59 = 1 ∧ zMc 59 = (0, 0) ∧ zL 59 = 3 ∧ zO 59 = 6 := by decide +kernel
theorem gY_60 : zA 60 = 0 ∧ zMc 60 = (5, 160) ∧ zL 60 = 1 ∧ zO 60 = 7 := by decide +kernel
theorem gY_61 : zA 61 = 1 ∧ zMc 61 = (0, 0) ∧ zL 61 = 2 ∧ zO 61 = 7 := by decide +kernel
theorem gY_62 : zA 62 = 1 ∧ zMc 62 = (0, 0) ∧ zL 62 = 2 ∧ zO 62 = 7 := by decide +kernel
theorem gY_63 : zA 63 = 3 ∧ zMc 63 = (0, 0) ∧ zL 63 = 5 ∧ zO 63 = 7 := by decide +kernel
theorem gY_64 : zA 64 = 1 ∧ zMc 64 = (0, 0) ∧ zL 64 = 2 ∧ zO 64 = 7 := by decide +kernel
theorem gY_65 : zA 65 = 0 ∧ zMc 65 = (0, 0) ∧ zL 65 = 2 ∧ zO 65 = 7 := by decide +kernel
theorem gY_66 : zA 66 = 1 ∧ zMc 66 = (0, 0) ∧ zL 66 = 3 ∧ zO 66 = 7 := by decide +kernel
theorem gY_67 : zA 67 = 1 ∧ zMc 67 = (0, 0) ∧ zL 67 = 2 ∧ zO 67 = 7 := by decide +kernel
theorem gY_68 : zA 68 = 2 ∧ zMc 68 = (0, 0) ∧ zL 68 = 5 ∧ zO 68 = 7 := by decide +kernel
theorem gY_69 : zA 69 = 0 ∧ zMc 69 = (0, 0) ∧ zL 69 = 3 ∧ zO 69 = 7 := by decide +kernel
theorem gY_70 : zA 70 = 0 ∧ zMc 70 = (0, 0) ∧ zL 70 = 3 ∧ zO 70 = 7 := by decide +kernel
theorem gY_71 : zA 71 = 1 ∧ zMc 71 = (55, 1102) ∧ zL 71 = 2 ∧ zO 71 = 8 := by decide +kernel
theorem gY_72 : zA 72 = 4 ∧ zMc 72 = (0, 0) ∧ zL 72 = 7 ∧ zO 72 = 8 := by decide +kernel
theorem gY_73 : zA 73 = 1 ∧ zMc 73 = (0, 0) ∧ zL 73 = 3 ∧ zO 73 = 8 := by decide +kernel
theorem gY_74 : zA 74 = 2 ∧ zMc 74 = (0, 0) ∧ zL 74 = 3 ∧ zO 74 = 8 := by decide +kernel
theorem gY_75 : zA 75 = 2 ∧ zMc 75 = (0, 0) ∧ zL 75 = 3 ∧ zO 75 = 8 := by decide +kernel
theorem gY_76 : zA 76 = 2 ∧ zMc 76 = (0, 0) ∧ zL 76 = 6 ∧ zO 76 = 8 := by decide +kernel
theorem gY_77 : zA 77 = 2 ∧ zMc 77 = (0, 0) ∧ zL 77 = 7 ∧ zO 77 = 8 := by decide +kernel
theorem gY_78 : zA 78 = 1 ∧ zMc 78 = (0, 0) ∧ zL 78 = 4 ∧ zO 78 = 8 := by decide +kernel
theorem gY_79 : zA 79 = 2 ∧ zMc 79 = (0, 0) ∧ zL 79 = 3 ∧ zO 79 = 8 := by decide +kernel
theorem gY_80 : zA 80 = 3 ∧ zMc 80 = (0, 0) ∧ zL 80 = 9 ∧ zO 80 = 8 := by decide +kernel
theorem gY_81 : zA 81 = 0 ∧ zMc 81 = (1, 220) ∧ zL 81 = 1 ∧ zO 81 = 9 := by decide +kernel
theorem gY_82 : zA 82 = 0 ∧ zMc 82 = (0, 0) ∧ zL 82 = 1 ∧ zO 82 = 9 := by decide +kernel
theorem gY_83 : zA 83 = 1 ∧ zMc 83 = (0, 0) ∧ zL 83 = 3 ∧ zO 83 = 9 := by decide +kernel
theorem gY_84 : zA 84 = 1 ∧ zMc 84 = (0, 0) ∧ zL 84 = 2 ∧ zO 84 = 9 := by decide +kernel
theorem gY_85 : zA 85 = 1 ∧ zMc 85 = (0, 0) ∧ zL 85 = 4 ∧ zO 85 = 9 := by decide +kernel
theorem gY_86 : zA 86 = 1 ∧ zMc 86 = (0, 0) ∧ zL 86 = 3 ∧ zO 86 = 9 := by decide +kernel
theorem gY_87 : zA 87 = 1 ∧ zMc 87 = (0, 0) ∧ zL 87 = 5 ∧ zO 87 = 9 := by decide +kernel
theorem gY_88 : zA 88 = 1 ∧ zMc 88 = (3, 51) ∧ zL 88 = 2 ∧ zO 88 = 10 := by decide +kernel
theorem gY_89 : zA 89 = 3 ∧ zMc 89 = (0, 0) ∧ zL 89 = 7 ∧ zO 89 = 10 := by decide +kernel
theorem gY_90 : zA 90 = 2 ∧ zMc 90 = (0, 0) ∧ zL 90 = 6 ∧ zO 90 = 10 := by decide +kernel
theorem gY_91 : zA 91 = 2 ∧ zMc 91 = (0, 0) ∧ zL 91 = 3 ∧ zO 91 = 10 := by decide +kernel
theorem gY_92 : zA 92 = 4 ∧ zMc 92 = (0, 0) ∧ zL 92 = 7 ∧ zO 92 = 10 := by decide +kernel
theorem gY_93 : zA 93 = 3 ∧ zMc 93 = (0, 0) ∧ zL 93 = 4 ∧ zO 93 = 10 := by decide +kernel
theorem gY_94 : zA 94 = 2 ∧ zMc 94 = (0, 0) ∧ zL 94 = 5 ∧ zO 94 = 10 := by decide +kernel
theorem gY_95 : zA 95 = 0 ∧ zMc 95 = (135, 12217) ∧ zL 95 = 2 ∧ zO 95 = 11 := by decide +kernel
theorem gY_96 : zA 96 = 3 ∧ zMc 96 = (0, 0) ∧ zL 96 = 6 ∧ zO 96 = 11 := by decide +kernel
theorem gY_97 : zA 97 = 2 ∧ zMc 97 = (0, 0) ∧ zL 97 = 3 ∧ zO 97 = 11 := by decide +kernel
theorem gY_98 : zA 98 = 2 ∧ zMc 98 = (0, 0) ∧ zL 98 = 3 ∧ zO 98 = 11 := by decide +kernel
theorem gY_99 : zA 99 = 5 ∧ zMc 99 = (0, 0) ∧ zL 99 = 6 ∧ zO 99 = 11 := by decide +kernel
theorem gY_100 : zA 100 = 1 ∧ zMc 100 = (0, 0) ∧ zL 100 = 3 ∧ zO 100 = 11 := by decide +kernel
theorem gY_101 : zA 101 = 1 ∧ zMc 101 = (0, 0) ∧ zL 101 = 4 ∧ zO 101 = 11 := by decide +kernel
theorem gY_102 : zA 102 = 2 ∧ zMc 102 = (0, 0) ∧ zL 102 = 4 ∧ zO 102 = 11 := by decide +kernel
theorem gY_103 : zA 103 = 1 ∧ zMc 103 = (0, 0) ∧ zL 103 = 2 ∧ zO 103 = 11 := by decide +kernel
theorem gY_104 : zA 104 = 1 ∧ zMc 104 = (0, 0) ∧ zL 104 = 2 ∧ zO 104 = 11 := by decide +kernel
theorem gY_105 : zA 105 = 2 ∧ zMc 105 = (0, 0) ∧ zL 105 = 5 ∧ zO 105 = 11 := by decide +kernel
theorem gY_106 : zA 106 = 0 ∧ zMc 106 = (0, 0) ∧ zL 106 = 1 ∧ zO 106 = 11 := by decide +kernel
theorem gY_107 : zA 107 = 2 ∧ zMc 107 = (0, 0) ∧ zL 107 = 5 ∧ zO 107 = 11 := by decide +kernel
theorem gY_108 : zA 108 = 1 ∧ zMc 108 = (0, 0) ∧ zL 108 = 2 ∧ zO 108 = 11 := by decide +kernel
theorem gY_109 : zA 109 = 0 ∧ zMc 109 = (0, 0) ∧ zL 109 = 1 ∧ zO 109 = 11 := by decide +kernel
theorem gY_110 : zA 110 = 2 ∧ zMc 110 = (0, 0) ∧ zL 110 = 4 ∧ zO 110 = 11 := by decide +kernel
theorem gY_111 : zA 111 = 0 ∧ zMc 111 = (0, 0) ∧ zL 111 = 4 ∧ zO 111 = 11 := by decide +kernel
theorem gY_112 : zA 112 = 3 ∧ zMc 112 = (0, 0) ∧ zL 112 = 5 ∧ zO 112 = 11 := by decide +kernel
theorem gY_113 : zA 113 = 4 ∧ zMc 113 = (0, 0) ∧ zL 113 = 6 ∧ zO 113 = 11 := by decide +kernel
theorem gY_114 : zA 114 = 0 ∧ zMc 114 = (0, 0) ∧ zL 114 = 1 ∧ zO 114 = 11 := by decide +kernel
theorem gY_115 : zA 115 = 0 ∧ zMc 115 = (0, 0) ∧ zL 115 = 1 ∧ zO 115 = 11 := by decide +kernel
theorem gY_116 : zA 116 = 2 ∧ zMc 116 = (0, 0) ∧ zL 116 = 4 ∧ zO 116 = 11 := by decide +kernel
theorem gY_117 : zA 117 = 1 ∧ zMc 117 = (0, 0) ∧ zL 117 = 3 ∧ zO 117 = 11 := by decide +kernel
theorem gY_118 : zA 118 = 5 ∧ zMc 118 = (0, 0) ∧ zL 118 = 8 ∧ zO 118 = 11 := by decide +kernel
theorem gY_119 : zA 119 = 2 ∧ zMc 119 = (0, 0) ∧ zL 119 = 5 ∧ zO 119 = 11 := by decide +kernel
theorem gY_120 : zA 120 = 1 ∧ zMc 120 = (0, 0) ∧ zL 120 = 4 ∧ zO 120 = 11 := by decide +kernel
theorem gY_121 : zA 121 = 1 ∧ zMc 121 = (0, 0) ∧ zL 121 = 8 ∧ zO 121 = 11 := by decide +kernel
theorem gY_122 : zA 122 = 1 ∧ zMc 122 = (0, 0) ∧ zL 122 = 2 ∧ zO 122 = 11 := by decide +kernel
theorem gY_123 : zA 123 = 0 ∧ zMc 123 = (0, 0) ∧ zL 123 = 4 ∧ zO 123 = 11 := by decide +kernel
theorem gY_124 : zA 124 = 0 ∧ zMc 124 = (0, 0) ∧ zL 124 = 1 ∧ zO 124 = 11 := by decide +kernel
theorem gY_125 : zA 125 = 0 ∧ zMc 125 = (0, 0) ∧ zL 125 = 1 ∧ zO 125 = 11 := by decide +kernel
theorem gY_126 : zA 126 = 1 ∧ zMc 126 = (0, 0) ∧ zL 126 = 4 ∧ zO 126 = 11 := by decide +kernel
theorem gY_127 : zA 127 = 1 ∧ zMc 127 = (0, 0) ∧ zL 127 = 2 ∧ zO 127 = 11 := by decide +kernel
theorem gY_128 : zA 128 = 1 ∧ zMc 128 = (0, 0) ∧ zL 128 = 1 ∧ zO 128 = 11 := by decide +kernel
theorem gY_129 : zA 129 = 3 ∧ zMc 129 = (0, 0) ∧ zL 129 = 3 ∧ zO 129 = 11 := by decide +kernel
theorem gY_130 : zA 130 = 1 ∧ zMc 130 = (0, 0) ∧ zL 130 = 2 ∧ zO 130 = 11 := by decide +kernel
theorem gY_131 : zA 131 = 2 ∧ zMc 131 = (0, 0) ∧ zL 131 = 3 ∧ zO 131 = 11 := by decide +kernel
theorem gY_132 : zA 132 = 1 ∧ zMc 132 = (0, 0) ∧ zL 132 = 3 ∧ zO 132 = 11 := by decide +kernel
theorem gY_133 : zA 133 = 1 ∧ zMc 133 = (0, 0) ∧ zL 133 = 3 ∧ zO 133 = 11 := by decide +kernel
theorem gY_134 : zA 134 = 0 ∧ zMc 134 = (0, 0) ∧ zL 134 = 2 ∧ zO 134 = 11 := by decide +kernel
theorem gY_135 : zA 135 = 0 ∧ zMc 135 = (0, 0) ∧ zL 135 = 1 ∧ zO 135 = 11 := by decide +kernel
theorem gY_136 : zA 136 = 0 ∧ zMc 136 = (0, 0) ∧ zL 136 = 1 ∧ zO 136 = 11 := by decide +kernel
theorem gY_137 : zA 137 = 1 ∧ zMc 137 = (0, 0) ∧ zL 137 = 4 ∧ zO 137 = 11 := by decide +kernel
theorem gY_138 : zA 138 = 1 ∧ zMc 138 = (0, 0) ∧ zL 138 = 7 ∧ zO 138 = 11 := by decide +kernel
theorem gY_139 : zA 139 = 0 ∧ zMc 139 = (47, 9859) ∧ zL 139 = 2 ∧ zO 139 = 12 := by decide +kernel
theorem gY_140 : zA 140 = 3 ∧ zMc 140 = (0, 0) ∧ zL 140 = 3 ∧ zO 140 = 12 := by decide +kernel
theorem gY_141 : zA 141 = 2 ∧ zMc 141 = (0, 0) ∧ zL 141 = 2 ∧ zO 141 = 12 := by decide +kernel
theorem gY_142 : zA 142 = 2 ∧ zMc 142 = (0, 0) ∧ zL 142 = 2 ∧ zO 142 = 12 := by decide +kernel
theorem gY_143 : zA 143 = 2 ∧ zMc 143 = (0, 0) ∧ zL 143 = 2 ∧ zO 143 = 12 := by decide +kernel
theorem gY_144 : zA 144 = 1 ∧ zMc 144 = (0, 0) ∧ zL 144 = 2 ∧ zO 144 = 12 := by decide +kernel
theorem gY_145 : zA 145 = 1 ∧ zMc 145 = (0, 0) ∧ zL 145 = 1 ∧ zO 145 = 12 := by decide +kernel
theorem gY_146 : zA 146 = 1 ∧ zMc 146 = (0, 0) ∧ zL 146 = 2 ∧ zO 146 = 12 := by decide +kernel
theorem gY_147 : zA 147 = 1 ∧ zMc 147 = (0, 0) ∧ zL 147 = 2 ∧ zO 147 = 12 := by decide +kernel
theorem gY_148 : zA 148 = 3 ∧ zMc 148 = (0, 0) ∧ zL 148 = 4 ∧ zO 148 = 12 := by decide +kernel
theorem gY_149 : zA 149 = 2 ∧ zMc 149 = (0, 0) ∧ zL 149 = 3 ∧ zO 149 = 12 := by decide +kernel
theorem gY_150 : zA 150 = 2 ∧ zMc 150 = (0, 0) ∧ zL 150 = 3 ∧ zO 150 = 12 := by decide +kernel
theorem gY_151 : zA 151 = 1 ∧ zMc 151 = (0, 0) ∧ zL 151 = 3 ∧ zO 151 = 12 := by decide +kernel
theorem gY_152 : zA 152 = 1 ∧ zMc 152 = (0, 0) ∧ zL 152 = 3 ∧ zO 152 = 12 := by decide +kernel
theorem gY_153 : zA 153 = 5 ∧ zMc 153 = (0, 0) ∧ zL 153 = 6 ∧ zO 153 = 12 := by decide +kernel
theorem gY_154 : zA 154 = 0 ∧ zMc 154 = (0, 0) ∧ zL 154 = 1 ∧ zO 154 = 12 := by decide +kernel
theorem gY_155 : zA 155 = 0 ∧ zMc 155 = (0, 0) ∧ zL 155 = 1 ∧ zO 155 = 12 := by decide +kernel
theorem gY_156 : zA 156 = 2 ∧ zMc 156 = (0, 0) ∧ zL 156 = 3 ∧ zO 156 = 12 := by decide +kernel
theorem gY_157 : zA 157 = 1 ∧ zMc 157 = (0, 0) ∧ zL 157 = 2 ∧ zO 157 = 12 := by decide +kernel
theorem gY_158 : zA 158 = 0 ∧ zMc 158 = (0, 0) ∧ zL 158 = 2 ∧ zO 158 = 12 := by decide +kernel
theorem gY_159 : zA 159 = 2 ∧ zMc 159 = (0, 0) ∧ zL 159 = 3 ∧ zO 159 = 12 := by decide +kernel
theorem gY_160 : zA 160 = 1 ∧ zMc 160 = (0, 0) ∧ zL 160 = 2 ∧ zO 160 = 12 := by decide +kernel
theorem gY_161 : zA 161 = 0 ∧ zMc 161 = (0, 0) ∧ zL 161 = 1 ∧ zO 161 = 12 := by decide +kernel
theorem gY_162 : zA 162 = 1 ∧ zMc 162 = (0, 0) ∧ zL 162 = 1 ∧ zO 162 = 12 := by decide +kernel
theorem gY_163 : zA 163 = 1 ∧ zMc 163 = (0, 0) ∧ zL 163 = 1 ∧ zO 163 = 12 := by decide +kernel
theorem gY_164 : zA 164 = 1 ∧ zMc 164 = (0, 0) ∧ zL 164 = 2 ∧ zO 164 = 12 := by decide +kernel
theorem gY_165 : zA 165 = 0 ∧ zMc 165 = (0, 0) ∧ zL 165 = 2 ∧ zO 165 = 12 := by decide +kernel
theorem gY_166 : zA 166 = 1 ∧ zMc 166 = (0, 0) ∧ zL 166 = 3 ∧ zO 166 = 12 := by decide +kernel
theorem gY_167 : zA 167 = 0 ∧ zMc 167 = (0, 0) ∧ zL 167 = 3 ∧ zO 167 = 12 := by decide +kernel
theorem gY_168 : zA 168 = 0 ∧ zMc 168 = (0, 0) ∧ zL 168 = 1 ∧ zO 168 = 12 := by decide +kernel
theorem gY_169 : zA 169 = 1 ∧ zMc 169 = (0, 0) ∧ zL 169 = 3 ∧ zO 169 = 12 := by decide +kernel
theorem gY_170 : zA 170 = 1 ∧ zMc 170 = (0, 0) ∧ zL 170 = 2 ∧ zO 170 = 12 := by decide +kernel
theorem gY_171 : zA 171 = 0 ∧ zMc 171 = (0, 0) ∧ zL 171 = 2 ∧ zO 171 = 12 := by decide +kernel
theorem gY_172 : zA 172 = 0 ∧ zMc 172 = (0, 0) ∧ zL 172 = 1 ∧ zO 172 = 12 := by decide +kernel
theorem gY_173 : zA 173 = 0 ∧ zMc 173 = (0, 0) ∧ zL 173 = 2 ∧ zO 173 = 12 := by decide +kernel
theorem gY_174 : zA 174 = 1 ∧ zMc 174 = (0, 0) ∧ zL 174 = 4 ∧ zO 174 = 12 := by decide +kernel
theorem gY_175 : zA 175 = 3 ∧ zMc 175 = (0, 0) ∧ zL 175 = 3 ∧ zO 175 = 12 := by decide +kernel
theorem gY_176 : zA 176 = 2 ∧ zMc 176 = (0, 0) ∧ zL 176 = 8 ∧ zO 176 = 12 := by decide +kernel
theorem gY_177 : zA 177 = 2 ∧ zMc 177 = (0, 0) ∧ zL 177 = 5 ∧ zO 177 = 12 := by decide +kernel
theorem gY_178 : zA 178 = 1 ∧ zMc 178 = (0, 0) ∧ zL 178 = 3 ∧ zO 178 = 12 := by decide +kernel
theorem gY_179 : zA 179 = 1 ∧ zMc 179 = (0, 0) ∧ zL 179 = 3 ∧ zO 179 = 12 := by decide +kernel
theorem gY_180 : zA 180 = 1 ∧ zMc 180 = (0, 0) ∧ zL 180 = 2 ∧ zO 180 = 12 := by decide +kernel
theorem gY_181 : zA 181 = 1 ∧ zMc 181 = (0, 0) ∧ zL 181 = 2 ∧ zO 181 = 12 := by decide +kernel
theorem gY_182 : zA 182 = 0 ∧ zMc 182 = (0, 0) ∧ zL 182 = 2 ∧ zO 182 = 12 := by decide +kernel
theorem gY_183 : zA 183 = 0 ∧ zMc 183 = (0, 0) ∧ zL 183 = 5 ∧ zO 183 = 12 := by decide +kernel
theorem gY_184 : zA 184 = 0 ∧ zMc 184 = (0, 0) ∧ zL 184 = 2 ∧ zO 184 = 12 := by decide +kernel
theorem gY_185 : zA 185 = 0 ∧ zMc 185 = (0, 0) ∧ zL 185 = 2 ∧ zO 185 = 12 := by decide +kernel
theorem gY_186 : zA 186 = 0 ∧ zMc 186 = (0, 0) ∧ zL 186 = 1 ∧ zO 186 = 12 := by decide +kernel
theorem gY_187 : zA 187 = 1 ∧ zMc 187 = (0, 0) ∧ zL 187 = 3 ∧ zO 187 = 12 := by decide +kernel
theorem gY_188 : zA 188 = 1 ∧ zMc 188 = (0, 0) ∧ zL 188 = 2 ∧ zO 188 = 12 := by decide +kernel
theorem gY_189 : zA 189 = 2 ∧ zMc 189 = (0, 0) ∧ zL 189 = 3 ∧ zO 189 = 12 := by decide +kernel
theorem gY_190 : zA 190 = 0 ∧ zMc 190 = (0, 0) ∧ zL 190 = 1 ∧ zO 190 = 12 := by decide +kernel
theorem gY_191 : zA 191 = 0 ∧ zMc 191 = (0, 0) ∧ zL 191 = 1 ∧ zO 191 = 12 := by decide +kernel
theorem gY_192 : zA 192 = 1 ∧ zMc 192 = (0, 0) ∧ zL 192 = 5 ∧ zO 192 = 12 := by decide +kernel
theorem gY_193 : zA 193 = 2 ∧ zMc 193 = (0, 0) ∧ zL 193 = 4 ∧ zO 193 = 12 := by decide +kernel
theorem gY_194 : zA 194 = 1 ∧ zMc 194 = (0, 0) ∧ zL 194 = 2 ∧ zO 194 = 12 := by decide +kernel
theorem gY_195 : zA 195 = 1 ∧ zMc 195 = (0, 0) ∧ zL 195 = 2 ∧ zO 195 = 12 := by decide +kernel
theorem gY_196 : zA 196 = 0 ∧ zMc 196 = (0, 0) ∧ zL 196 = 2 ∧ zO 196 = 12 := by decide +kernel
theorem gY_197 : zA 197 = 0 ∧ zMc 197 = (0, 0) ∧ zL 197 = 1 ∧ zO 197 = 12 := by decide +kernel
theorem gY_198 : zA 198 = 2 ∧ zMc 198 = (0, 0) ∧ zL 198 = 4 ∧ zO 198 = 12 := by decide +kernel
theorem gY_199 : zA 199 = 2 ∧ zMc 199 = (0, 0) ∧ zL 199 = 5 ∧ zO 199 = 12 := by decide +kernel
theorem gY_200 : zA 200 = 0 ∧ zMc 200 = (0, 0) ∧ zL 200 = 5 ∧ zO 200 = 12 := by decide +kernel
theorem gY_201 : zA 201 = 2 ∧ zMc 201 = (0, 0) ∧ zL 201 = 3 ∧ zO 201 = 12 := by decide +kernel
theorem gY_202 : zA 202 = 1 ∧ zMc 202 = (0, 0) ∧ zL 202 = 4 ∧ zO 202 = 12 := by decide +kernel
theorem gY_203 : zA 203 = 2 ∧ zMc 203 = (0, 0) ∧ zL 203 = 7 ∧ zO 203 = 12 := by decide +kernel
theorem gY_204 : zA 204 = 1 ∧ zMc 204 = (0, 0) ∧ zL 204 = 8 ∧ zO 204 = 12 := by decide +kernel
theorem gY_205 : zA 205 = 0 ∧ zMc 205 = (0, 0) ∧ zL 205 = 2 ∧ zO 205 = 12 := by decide +kernel
theorem gY_206 : zA 206 = 0 ∧ zMc 206 = (0, 0) ∧ zL 206 = 1 ∧ zO 206 = 12 := by decide +kernel
theorem gY_207 : zA 207 = 1 ∧ zMc 207 = (0, 0) ∧ zL 207 = 3 ∧ zO 207 = 12 := by decide +kernel
theorem gY_208 : zA 208 = 2 ∧ zMc 208 = (0, 0) ∧ zL 208 = 3 ∧ zO 208 = 12 := by decide +kernel
theorem gY_209 : zA 209 = 0 ∧ zMc 209 = (0, 0) ∧ zL 209 = 3 ∧ zO 209 = 12 := by decide +kernel
theorem gY_210 : zA 210 = 3 ∧ zMc 210 = (0, 0) ∧ zL 210 = 4 ∧ zO 210 = 12 := by decide +kernel
theorem gY_211 : zA 211 = 0 ∧ zMc 211 = (0, 0) ∧ zL 211 = 2 ∧ zO 211 = 12 := by decide +kernel
theorem gY_212 : zA 212 = 2 ∧ zMc 212 = (0, 0) ∧ zL 212 = 5 ∧ zO 212 = 12 := by decide +kernel
theorem gY_213 : zA 213 = 2 ∧ zMc 213 = (0, 0) ∧ zL 213 = 5 ∧ zO 213 = 12 := by decide +kernel
theorem gY_214 : zA 214 = 2 ∧ zMc 214 = (0, 0) ∧ zL 214 = 2 ∧ zO 214 = 12 := by decide +kernel
theorem gY_215 : zA 215 = 2 ∧ zMc 215 = (0, 0) ∧ zL 215 = 7 ∧ zO 215 = 12 := by decide +kernel
theorem gY_216 : zA 216 = 1 ∧ zMc 216 = (0, 0) ∧ zL 216 = 5 ∧ zO 216 = 12 := by decide +kernel
theorem gY_217 : zA 217 = 3 ∧ zMc 217 = (0, 0) ∧ zL 217 = 4 ∧ zO 217 = 12 := by decide +kernel
theorem gY_218 : zA 218 = 3 ∧ zMc 218 = (0, 0) ∧ zL 218 = 5 ∧ zO 218 = 12 := by decide +kernel
theorem gY_219 : zA 219 = 4 ∧ zMc 219 = (0, 0) ∧ zL 219 = 10 ∧ zO 219 = 12 := by decide +kernel
theorem gY_220 : zA 220 = 1 ∧ zMc 220 = (0, 0) ∧ zL 220 = 6 ∧ zO 220 = 12 := by decide +kernel
theorem gY_221 : zA 221 = 0 ∧ zMc 221 = (0, 0) ∧ zL 221 = 1 ∧ zO 221 = 12 := by decide +kernel
theorem gY_222 : zA 222 = 0 ∧ zMc 222 = (0, 0) ∧ zL 222 = 1 ∧ zO 222 = 12 := by decide +kernel
theorem gY_223 : zA 223 = 3 ∧ zMc 223 = (0, 0) ∧ zL 223 = 4 ∧ zO 223 = 12 := by decide +kernel
theorem gY_224 : zA 224 = 2 ∧ zMc 224 = (0, 0) ∧ zL 224 = 8 ∧ zO 224 = 12 := by decide +kernel
theorem gY_225 : zA 225 = 1 ∧ zMc 225 = (0, 0) ∧ zL 225 = 5 ∧ zO 225 = 12 := by decide +kernel
theorem gY_226 : zA 226 = 2 ∧ zMc 226 = (0, 0) ∧ zL 226 = 4 ∧ zO 226 = 12 := by decide +kernel
theorem gY_227 : zA 227 = 0 ∧ zMc 227 = (0, 0) ∧ zL 227 = 3 ∧ zO 227 = 12 := by decide +kernel
theorem gY_228 : zA 228 = 2 ∧ zMc 228 = (0, 0) ∧ zL 228 = 3 ∧ zO 228 = 12 := by decide +kernel
theorem gY_229 : zA 229 = 3 ∧ zMc 229 = (0, 0) ∧ zL 229 = 4 ∧ zO 229 = 12 := by decide +kernel
theorem gY_230 : zA 230 = 0 ∧ zMc 230 = (0, 0) ∧ zL 230 = 5 ∧ zO 230 = 12 := by decide +kernel
theorem gY_231 : zA 231 = 1 ∧ zMc 231 = (0, 0) ∧ zL 231 = 6 ∧ zO 231 = 12 := by decide +kernel
theorem gY_232 : zA 232 = 1 ∧ zMc 232 = (0, 0) ∧ zL 232 = 2 ∧ zO 232 = 12 := by decide +kernel
theorem gY_233 : zA 233 = 4 ∧ zMc 233 = (0, 0) ∧ zL 233 = 7 ∧ zO 233 = 12 := by decide +kernel
theorem gY_234 : zA 234 = 3 ∧ zMc 234 = (0, 0) ∧ zL 234 = 4 ∧ zO 234 = 12 := by decide +kernel
theorem gY_235 : zA 235 = 1 ∧ zMc 235 = (0, 0) ∧ zL 235 = 4 ∧ zO 235 = 12 := by decide +kernel
theorem gY_236 : zA 236 = 5 ∧ zMc 236 = (0, 0) ∧ zL 236 = 9 ∧ zO 236 = 12 := by decide +kernel
theorem gY_237 : zA 237 = 1 ∧ zMc 237 = (0, 0) ∧ zL 237 = 3 ∧ zO 237 = 12 := by decide +kernel
theorem gY_238 : zA 238 = 2 ∧ zMc 238 = (0, 0) ∧ zL 238 = 8 ∧ zO 238 = 12 := by decide +kernel
theorem gY_239 : zA 239 = 1 ∧ zMc 239 = (0, 0) ∧ zL 239 = 9 ∧ zO 239 = 12 := by decide +kernel
theorem gY_240 : zA 240 = 1 ∧ zMc 240 = (0, 0) ∧ zL 240 = 7 ∧ zO 240 = 12 := by decide +kernel
theorem gY_241 : zA 241 = 1 ∧ zMc 241 = (0, 0) ∧ zL 241 = 2 ∧ zO 241 = 12 := by decide +kernel
theorem gY_242 : zA 242 = 0 ∧ zMc 242 = (0, 0) ∧ zL 242 = 4 ∧ zO 242 = 12 := by decide +kernel
theorem gY_243 : zA 243 = 0 ∧ zMc 243 = (0, 0) ∧ zL 243 = 1 ∧ zO 243 = 12 := by decide +kernel
theorem gY_244 : zA 244 = 0 ∧ zMc 244 = (0, 0) ∧ zL 244 = 1 ∧ zO 244 = 12 := by decide +kernel
theorem gY_245 : zA 245 = 1 ∧ zMc 245 = (0, 0) ∧ zL 245 = 4 ∧ zO 245 = 12 := by decide +kernel
theorem gY_246 : zA 246 = 1 ∧ zMc 246 = (0, 0) ∧ zL 246 = 3 ∧ zO 246 = 12 := by decide +kernel
theorem gY_247 : zA 247 = 0 ∧ zMc 247 = (0, 0) ∧ zL 247 = 3 ∧ zO 247 = 12 := by decide +kernel
theorem gY_248 : zA 248 = 0 ∧ zMc 248 = (0, 0) ∧ zL 248 = 3 ∧ zO 248 = 12 := by decide +kernel
theorem gY_249 : zA 249 = 1 ∧ zMc 249 = (0, 0) ∧ zL 249 = 2 ∧ zO 249 = 12 := by decide +kernel
theorem gY_251 : zA 251 = 2 ∧ zMc 251 = (0, 0) ∧ zL 251 = 4 ∧ zO 251 = 14 := by decide +kernel
theorem gY_250 : zA 250 = 1 ∧ zMc 250 = (184, 22169) ∧ zL 250 = 4 ∧ zO 250 = 13 := by decide +kernel
theorem gR_0 : zRt 0 = none := rfl
theorem gR_1 : zRt 1 = some .int := rfl
theorem gR_2 : zRt 2 = none := rfl
theorem gR_3 : zRt 3 = none := rfl
theorem gR_4 : zRt 4 = none := rfl
theorem gR_5 : zRt 5 = none := rfl
theorem gR_6 : zRt 6 = none := rfl
theorem gR_7 : zRt 7 = none := rfl
theorem gR_8 : zRt 8 = some .int := rfl
theorem gR_9 : zRt 9 = none := rfl
theorem gR_10 : zRt 10 = none := rfl
theorem gR_11 : zRt 11 = some .boolean := rfl
theorem gR_12 : zRt 12 = some .boolean := rfl
theorem gR_13 : zRt 13 = some .int := rfl
theorem gR_14 : zRt 14 = some .int := rfl
theorem gR_15 : zRt 15 = some .boolean := rfl
theorem gR_16 : zRt 16 = some .int := rfl
theorem gR_17 : zRt 17 = none := rfl
theorem gR_18 : zRt 18 = some (.object "NineHoles$Law") := rfl
theorem gR_19 : zRt 19 = some .int := rfl
theorem gR_20 : zRt 20 = some .boolean := rfl
theorem gR_21 : zRt 21 = some .boolean := rfl
theorem gR_22 : zRt 22 = some .boolean := rfl
theorem gR_23 : zRt 23 = some .boolean := rfl
theorem gR_24 : zRt 24 = some .boolean := rfl
theorem gR_25 : zRt 25 = some .boolean := rfl
theorem gR_26 : zRt 26 = some .boolean := rfl
theorem gR_27 : zRt 27 = some .boolean := rfl
theorem gR_28 : zRt 28 = some .boolean := rfl
theorem gR_29 : zRt 29 = some .int := rfl
theorem gR_30 : zRt 30 = some .int := rfl
theorem gR_31 : zRt 31 = some .boolean := rfl
theorem gR_32 : zRt 32 = some .boolean := rfl
theorem gR_33 : zRt 33 = some .boolean := rfl
theorem gR_34 : zRt 34 = none := rfl
theorem gR_35 : zRt 35 = some .int := rfl
theorem gR_36 : zRt 36 = some .boolean := rfl
theorem gR_37 : zRt 37 = some .int := rfl
theorem gR_38 : zRt 38 = some .int := rfl
theorem gR_39 : zRt 39 = some .int := rfl
theorem gR_40 : zRt 40 = none := rfl
theorem gR_41 : zRt 41 = some .boolean := rfl
theorem gR_42 : zRt 42 = none := rfl
theorem gR_43 : zRt 43 = none := rfl
theorem gR_44 : zRt 44 = none := rfl
theorem gR_45 : zRt 45 = some .boolean := rfl
theorem gR_46 : zRt 46 = some .int := rfl
theorem gR_47 : zRt 47 = some .int := rfl
theorem gR_48 : zRt 48 = some .int := rfl
theorem gR_49 : zRt 49 = some .int := rfl
theorem gR_50 : zRt 50 = none := rfl
theorem gR_51 : zRt 51 = none := rfl
theorem gR_52 : zRt 52 = some .int := rfl
theorem gR_53 : zRt 53 = some .int := rfl
theorem gR_54 : zRt 54 = none := rfl
theorem gR_55 : zRt 55 = none := rfl
theorem gR_56 : zRt 56 = some .boolean := rfl
theorem gR_57 : zRt 57 = none := rfl
theorem gR_58 : zRt 58 = none := rfl
theorem gR_59 : zRt 59 = none := rfl
theorem gR_60 : zRt 60 = none := rfl
theorem gR_61 : zRt 61 = none := rfl
theorem gR_62 : zRt 62 = none := rfl
theorem gR_63 : zRt 63 = some .int := rfl
theorem gR_64 : zRt 64 = none := rfl
theorem gR_65 : zRt 65 = none := rfl
theorem gR_66 : zRt 66 = some .int := rfl
theorem gR_67 : zRt 67 = some .int := rfl
theorem gR_68 : zRt 68 = some .int := rfl
theorem gR_69 : zRt 69 = some .int := rfl
theorem gR_70 : zRt 70 = some .int := rfl
theorem gR_71 : zRt 71 = none := rfl
theorem gR_72 : zRt 72 = some .int := rfl
theorem gR_73 : zRt 73 = none := rfl
theorem gR_74 : zRt 74 = some .boolean := rfl
theorem gR_75 : zRt 75 = some .int := rfl
theorem gR_76 : zRt 76 = some .boolean := rfl
theorem gR_77 : zRt 77 = none := rfl
theorem gR_78 : zRt 78 = some .int := rfl
theorem gR_79 : zRt 79 = some .int := rfl
theorem gR_80 : zRt 80 = some .int := rfl
theorem gR_81 : zRt 81 = none := rfl
theorem gR_82 : zRt 82 = some .boolean := rfl
theorem gR_83 : zRt 83 = none := rfl
theorem gR_84 : zRt 84 = some .int := rfl
theorem gR_85 : zRt 85 = some .int := rfl
theorem gR_86 : zRt 86 = some .boolean := rfl
theorem gR_87 : zRt 87 = some .boolean := rfl
theorem gR_88 : zRt 88 = none := rfl
theorem gR_89 : zRt 89 = some .int := rfl
theorem gR_90 : zRt 90 = some .boolean := rfl
theorem gR_91 : zRt 91 = some .boolean := rfl
theorem gR_92 : zRt 92 = some .boolean := rfl
theorem gR_93 : zRt 93 = some .boolean := rfl
theorem gR_94 : zRt 94 = some .int := rfl
theorem gR_95 : zRt 95 = none := rfl
theorem gR_96 : zRt 96 = some .int := rfl
theorem gR_97 : zRt 97 = some .boolean := rfl
theorem gR_98 : zRt 98 = some .boolean := rfl
theorem gR_99 : zRt 99 = some .int := rfl
theorem gR_100 : zRt 100 = some .int := rfl
theorem gR_101 : zRt 101 = some .boolean := rfl
theorem gR_102 : zRt 102 = some .int := rfl
theorem gR_103 : zRt 103 = some .int := rfl
theorem gR_104 : zRt 104 = some .int := rfl
theorem gR_105 : zRt 105 = some .int := rfl
theorem gR_106 : zRt 106 = some .int := rfl
theorem gR_107 : zRt 107 = some .int := rfl
theorem gR_108 : zRt 108 = some .int := rfl
theorem gR_109 : zRt 109 = some .int := rfl
theorem gR_110 : zRt 110 = some .int := rfl
theorem gR_111 : zRt 111 = some .int := rfl
theorem gR_112 : zRt 112 = some .int := rfl
theorem gR_113 : zRt 113 = some .int := rfl
theorem gR_114 : zRt 114 = some .int := rfl
theorem gR_115 : zRt 115 = some .int := rfl
theorem gR_116 : zRt 116 = some .int := rfl
theorem gR_117 : zRt 117 = some .int := rfl
theorem gR_118 : zRt 118 = some .int := rfl
theorem gR_119 : zRt 119 = some .int := rfl
theorem gR_120 : zRt 120 = some .int := rfl
theorem gR_121 : zRt 121 = some .int := rfl
theorem gR_122 : zRt 122 = some .boolean := rfl
theorem gR_123 : zRt 123 = some .int := rfl
theorem gR_124 : zRt 124 = some .int := rfl
theorem gR_125 : zRt 125 = some .boolean := rfl
theorem gR_126 : zRt 126 = some .int := rfl
theorem gR_127 : zRt 127 = some .int := rfl
theorem gR_128 : zRt 128 = some .boolean := rfl
theorem gR_129 : zRt 129 = some .boolean := rfl
theorem gR_130 : zRt 130 = some .boolean := rfl
theorem gR_131 : zRt 131 = some .boolean := rfl
theorem gR_132 : zRt 132 = some .int := rfl
theorem gR_133 : zRt 133 = some .int := rfl
theorem gR_134 : zRt 134 = none := rfl
theorem gR_135 : zRt 135 = none := rfl
theorem gR_136 : zRt 136 = some .int := rfl
theorem gR_137 : zRt 137 = some .int := rfl
theorem gR_138 : zRt 138 = some .int := rfl
theorem gR_139 : zRt 139 = none := rfl
theorem gR_140 : zRt 140 = some .boolean := rfl
theorem gR_141 : zRt 141 = some .int := rfl
theorem gR_142 : zRt 142 = some .int := rfl
theorem gR_143 : zRt 143 = some .boolean := rfl
theorem gR_144 : zRt 144 = some .boolean := rfl
theorem gR_145 : zRt 145 = some .boolean := rfl
theorem gR_146 : zRt 146 = some .int := rfl
theorem gR_147 : zRt 147 = none := rfl
theorem gR_148 : zRt 148 = some .int := rfl
theorem gR_149 : zRt 149 = some .boolean := rfl
theorem gR_150 : zRt 150 = some .boolean := rfl
theorem gR_151 : zRt 151 = some .int := rfl
theorem gR_152 : zRt 152 = none := rfl
theorem gR_153 : zRt 153 = some .int := rfl
theorem gR_154 : zRt 154 = some .int := rfl
theorem gR_155 : zRt 155 = some .boolean := rfl
theorem gR_156 : zRt 156 = some .boolean := rfl
theorem gR_157 : zRt 157 = some .boolean := rfl
theorem gR_158 : zRt 158 = some .boolean := rfl
theorem gR_159 : zRt 159 = none := rfl
theorem gR_160 : zRt 160 = some .boolean := rfl
theorem gR_161 : zRt 161 = some .int := rfl
theorem gR_162 : zRt 162 = some .int := rfl
theorem gR_163 : zRt 163 = some .int := rfl
theorem gR_164 : zRt 164 = none := rfl
theorem gR_165 : zRt 165 = some .boolean := rfl
theorem gR_166 : zRt 166 = some .boolean := rfl
theorem gR_167 : zRt 167 = some .boolean := rfl
theorem gR_168 : zRt 168 = none := rfl
theorem gR_169 : zRt 169 = none := rfl
theorem gR_170 : zRt 170 = none := rfl
theorem gR_171 : zRt 171 = some .boolean := rfl
theorem gR_172 : zRt 172 = some .boolean := rfl
theorem gR_173 : zRt 173 = some .boolean := rfl
theorem gR_174 : zRt 174 = some .int := rfl
theorem gR_175 : zRt 175 = some .int := rfl
theorem gR_176 : zRt 176 = some .int := rfl
theorem gR_177 : zRt 177 = some .int := rfl
theorem gR_178 : zRt 178 = none := rfl
theorem gR_179 : zRt 179 = some .boolean := rfl
theorem gR_180 : zRt 180 = some .int := rfl
theorem gR_181 : zRt 181 = some .int := rfl
theorem gR_182 : zRt 182 = none := rfl
theorem gR_183 : zRt 183 = none := rfl
theorem gR_184 : zRt 184 = none := rfl
theorem gR_185 : zRt 185 = none := rfl
theorem gR_186 : zRt 186 = none := rfl
theorem gR_187 : zRt 187 = none := rfl
theorem gR_188 : zRt 188 = some .boolean := rfl
theorem gR_189 : zRt 189 = none := rfl
theorem gR_190 : zRt 190 = none := rfl
theorem gR_191 : zRt 191 = none := rfl
theorem gR_192 : zRt 192 = some .boolean := rfl
theorem gR_193 : zRt 193 = some .int := rfl
theorem gR_194 : zRt 194 = some .int := rfl
theorem gR_195 : zRt 195 = some .int := rfl
theorem gR_196 : zRt 196 = some .int := rfl
theorem gR_197 : zRt 197 = some .int := rfl
theorem gR_198 : zRt 198 = some .int := rfl
theorem gR_199 : zRt 199 = some .int := rfl
theorem gR_200 : zRt 200 = none := rfl
theorem gR_201 : zRt 201 = some .boolean := rfl
theorem gR_202 : zRt 202 = some .int := rfl
theorem gR_203 : zRt 203 = some .boolean := rfl
theorem gR_204 : zRt 204 = some .boolean := rfl
theorem gR_205 : zRt 205 = none := rfl
theorem gR_206 : zRt 206 = some .int := rfl
theorem gR_207 : zRt 207 = some .int := rfl
theorem gR_208 : zRt 208 = some .int := rfl
theorem gR_209 : zRt 209 = some .int := rfl
theorem gR_210 : zRt 210 = some .int := rfl
theorem gR_211 : zRt 211 = none := rfl
theorem gR_212 : zRt 212 = some .int := rfl
theorem gR_213 : zRt 213 = some .boolean := rfl
theorem gR_214 : zRt 214 = some .int := rfl
theorem gR_215 : zRt 215 = none := rfl
theorem gR_216 : zRt 216 = none := rfl
theorem gR_217 : zRt 217 = some .boolean := rfl
theorem gR_218 : zRt 218 = some .int := rfl
theorem gR_219 : zRt 219 = some .int := rfl
theorem gR_220 : zRt 220 = some .int := rfl
theorem gR_221 : zRt 221 = some .int := rfl
theorem gR_222 : zRt 222 = some .int := rfl
theorem gR_223 : zRt 223 = some .boolean := rfl
theorem gR_224 : zRt 224 = some .int := rfl
theorem gR_225 : zRt 225 = some .boolean := rfl
theorem gR_226 : zRt 226 = some .int := rfl
theorem gR_227 : zRt 227 = some .boolean := rfl
theorem gR_228 : zRt 228 = some .int := rfl
theorem gR_229 : zRt 229 = some .int := rfl
theorem gR_230 : zRt 230 = none := rfl
theorem gR_231 : zRt 231 = some .int := rfl
theorem gR_232 : zRt 232 = none := rfl
theorem gR_233 : zRt 233 = some .boolean := rfl
theorem gR_234 : zRt 234 = some .int := rfl
theorem gR_235 : zRt 235 = some .int := rfl
theorem gR_236 : zRt 236 = some .int := rfl
theorem gR_237 : zRt 237 = some .boolean := rfl
theorem gR_238 : zRt 238 = some .int := rfl
theorem gR_239 : zRt 239 = some .int := rfl
theorem gR_240 : zRt 240 = some .int := rfl
theorem gR_241 : zRt 241 = some .boolean := rfl
theorem gR_242 : zRt 242 = some .int := rfl
theorem gR_243 : zRt 243 = some .int := rfl
theorem gR_244 : zRt 244 = some .boolean := rfl
theorem gR_245 : zRt 245 = some .int := rfl
theorem gR_246 : zRt 246 = some .int := rfl
theorem gR_247 : zRt 247 = some .int := rfl
theorem gR_248 : zRt 248 = some .int := rfl
theorem gR_249 : zRt 249 = some .int := rfl
theorem gR_251 : zRt 251 = none := rfl
theorem gR_250 : zRt 250 = some .boolean := rfl
theorem gFi_2_4 : zfiN 2 4 = some 51 := by decide +kernel
theorem gLd_5_71 : zldN 5 71 = some 6 := by decide +kernel
theorem gLd_5_108 : zldN 5 108 = none := by decide +kernel
theorem gSt_5_108 : zstN 5 108 = some (7, 6) := by decide +kernel
abbrev zShT : List (Nat × Nat × Nat) := [(1, 21, 16), (2, 19, 2), (3, 0, 220), (4, 12, 5), (5, 11, 10), (6, 0, 14), (7, 0, 14), (8, 0, 14), (9, 0, 14), (10, 0, 200), (11, 0, 200), (12, 0, 200), (13, 0, 20), (14, 0, 32), (15, 14, 4), (16, 0, 10), (17, 0, 32), (18, 17, 9), (19, 0, 32), (20, 0, 32), (21, 0, 32), (22, 0, 32), (23, 0, 32), (24, 17, 9), (25, 0, 32), (26, 0, 32), (27, 0, 32), (28, 0, 32), (29, 0, 32), (30, 17, 9), (31, 0, 32), (32, 0, 32), (33, 0, 32), (34, 0, 32), (35, 0, 32), (36, 17, 9), (37, 0, 32), (38, 0, 32), (39, 0, 32), (40, 0, 32), (41, 0, 32), (42, 16, 8), (43, 0, 8), (44, 0, 32), (45, 11, 10), (46, 0, 14), (47, 0, 14), (48, 0, 14), (49, 0, 14), (50, 0, 200), (51, 0, 200), (52, 0, 200), (53, 15, 6), (54, 0, 20), (55, 0, 8), (56, 0, 20), (57, 0, 20), (58, 0, 2048), (59, 13, 4), (60, 0, 20), (61, 18, 6), (62, 0, 21), (63, 0, 21), (64, 2, 10), (65, 0, 21), (66, 0, 21), (67, 0, 21), (68, 0, 21), (69, 0, 21), (70, 0, 21), (71, 0, 21), (72, 0, 21), (73, 0, 21), (74, 0, 21), (75, 2, 20), (76, 0, 20), (77, 0, 20), (78, 0, 20), (79, 0, 20), (80, 0, 20), (81, 0, 20), (82, 0, 20), (83, 0, 20), (84, 0, 20), (85, 0, 20), (86, 0, 20), (87, 0, 20), (88, 0, 20), (89, 0, 20), (90, 0, 20), (91, 0, 20), (92, 0, 20), (93, 0, 20), (94, 0, 20), (95, 0, 20), (96, 2, 20), (97, 0, 20), (98, 0, 20), (99, 0, 20), (100, 0, 20), (101, 0, 20), (102, 0, 20), (103, 0, 20), (104, 0, 20), (105, 0, 20), (106, 0, 20), (107, 0, 20), (108, 0, 20), (109, 0, 20), (110, 0, 20), (111, 0, 20), (112, 0, 20), (113, 0, 20), (114, 0, 20), (115, 0, 20), (116, 0, 20), (117, 20, 4), (118, 0, 9), (119, 0, 32), (120, 0, 10), (121, 10, 10), (122, 17, 9), (123, 0, 32), (124, 0, 32), (125, 0, 32), (126, 0, 32), (127, 0, 32), (128, 17, 9), (129, 0, 32), (130, 0, 32), (131, 0, 32), (132, 0, 32), (133, 0, 32), (134, 0, 32), (135, 5, 6144), (136, 0, 3), (137, 22, 77), (138, 0, 32), (139, 0, 32), (140, 0, 32), (141, 0, 32), (142, 0, 32), (143, 0, 20), (144, 1, 220), (145, 0, 220), (146, 0, 220), (147, 0, 14), (148, 0, 14), (149, 0, 14), (150, 0, 14), (151, 0, 220), (152, 0, 14), (153, 0, 14), (154, 0, 14), (155, 0, 14), (156, 0, 220), (157, 0, 8), (158, 0, 32), (159, 0, 32), (160, 0, 32), (161, 0, 32), (162, 0, 20), (163, 0, 20), (164, 0, 20), (165, 0, 5), (166, 0, 100), (167, 0, 20), (168, 0, 5200), (169, 0, 210), (170, 0, 32), (171, 0, 10), (172, 0, 110), (173, 0, 8), (174, 0, 8), (175, 0, 8), (176, 0, 2304), (177, 0, 32), (178, 0, 32), (179, 0, 32), (180, 0, 32), (181, 0, 32), (182, 0, 32), (183, 0, 32), (184, 0, 32)]
abbrev zRfT : List (Nat × Nat × Nat) := [(1, 0, 2), (1, 1, 4), (1, 2, 13), (1, 3, 14), (1, 4, 15), (1, 5, 18), (1, 6, 24), (1, 7, 30), (1, 8, 36), (1, 9, 42), (1, 10, 53), (1, 11, 59), (1, 12, 61), (1, 13, 117), (1, 14, 121), (2, 0, 3), (4, 0, 3), (5, 0, 6), (5, 1, 7), (5, 2, 8), (5, 3, 9), (5, 4, 10), (5, 5, 11), (5, 6, 12), (15, 2, 16), (15, 3, 17), (18, 0, 19), (18, 1, 20), (18, 2, 21), (18, 3, 22), (18, 4, 23), (24, 0, 25), (24, 1, 26), (24, 2, 27), (24, 3, 28), (24, 4, 29), (30, 0, 31), (30, 1, 32), (30, 2, 33), (30, 3, 34), (30, 4, 35), (36, 0, 37), (36, 1, 38), (36, 2, 39), (36, 3, 40), (36, 4, 41), (42, 0, 13), (42, 1, 15), (42, 2, 43), (42, 3, 44), (45, 0, 46), (45, 1, 47), (45, 2, 48), (45, 3, 49), (45, 4, 50), (45, 5, 51), (45, 6, 52), (53, 0, 54), (53, 1, 55), (53, 3, 56), (53, 4, 57), (53, 5, 58), (59, 0, 15), (59, 1, 53), (59, 2, 60), (61, 0, 15), (61, 1, 62), (61, 2, 63), (61, 3, 64), (117, 0, 15), (117, 1, 118), (117, 2, 119), (117, 3, 120), (121, 0, 15), (121, 1, 42), (121, 2, 122), (121, 3, 128), (121, 4, 134), (121, 5, 135), (121, 6, 136), (122, 0, 123), (122, 1, 124), (122, 2, 125), (122, 3, 126), (122, 4, 127), (128, 0, 129), (128, 1, 130), (128, 2, 131), (128, 3, 132), (128, 4, 133), (137, 6, 138), (137, 7, 139), (137, 8, 140), (137, 9, 141), (137, 10, 142), (137, 11, 143), (137, 12, 144), (137, 23, 145), (137, 24, 146), (137, 25, 147), (137, 26, 148), (137, 27, 149), (137, 28, 150), (137, 29, 151), (137, 30, 152), (137, 31, 153), (137, 32, 154), (137, 33, 155), (137, 34, 156), (137, 35, 157), (137, 39, 158), (137, 40, 159), (137, 43, 160), (137, 44, 161), (137, 46, 162), (137, 47, 163), (137, 48, 164), (137, 50, 165), (137, 51, 166), (137, 52, 167), (137, 53, 168), (137, 54, 169), (137, 55, 170), (137, 56, 171), (137, 57, 172), (137, 59, 173), (137, 60, 174), (137, 61, 175), (137, 62, 176), (137, 63, 177), (137, 65, 178), (137, 66, 179), (137, 72, 180), (137, 73, 181), (137, 74, 182), (137, 75, 183), (137, 76, 184), (64, 0, 65), (64, 1, 66), (64, 2, 67), (64, 3, 68), (64, 4, 69), (64, 5, 70), (64, 6, 71), (64, 7, 72), (64, 8, 73), (64, 9, 74), (75, 0, 76), (75, 1, 77), (75, 2, 78), (75, 3, 79), (75, 4, 80), (75, 5, 81), (75, 6, 82), (75, 7, 83), (75, 8, 84), (75, 9, 85), (75, 10, 86), (75, 11, 87), (75, 12, 88), (75, 13, 89), (75, 14, 90), (75, 15, 91), (75, 16, 92), (75, 17, 93), (75, 18, 94), (75, 19, 95), (96, 0, 97), (96, 1, 98), (96, 2, 99), (96, 3, 100), (96, 4, 101), (96, 5, 102), (96, 6, 103), (96, 7, 104), (96, 8, 105), (96, 9, 106), (96, 10, 107), (96, 11, 108), (96, 12, 109), (96, 13, 110), (96, 14, 111), (96, 15, 112), (96, 16, 113), (96, 17, 114), (96, 18, 115), (96, 19, 116)]
/-- the world behind the constructors: its shape, and the fields that stay -/
def Wf (sh : ZS) (R : ZR) : Prop := (∀ q ∈ zShT, sh q.1 = (q.2.1, q.2.2)) ∧ (∀ q ∈ zRfT, R q.1 q.2.1 = q.2.2) ∧ (sh zSx).1 = 4
theorem sh_1 {sh : ZS} {R : ZR} (h : Wf sh R) : sh 1 = (21, 16) := h.1 (1, 21, 16) (List.mem_of_getElem? (i := 0) rfl)
theorem sh_2 {sh : ZS} {R : ZR} (h : Wf sh R) : sh 2 = (19, 2) := h.1 (2, 19, 2) (List.mem_of_getElem? (i := 1) rfl)
theorem sh_3 {sh : ZS} {R : ZR} (h : Wf sh R) : sh 3 = (0, 220) := h.1 (3, 0, 220) (List.mem_of_getElem? (i := 2) rfl)
theorem sh_4 {sh : ZS} {R : ZR} (h : Wf sh R) : sh 4 = (12, 5) := h.1 (4, 12, 5) (List.mem_of_getElem? (i := 3) rfl)
theorem sh_5 {sh : ZS} {R : ZR} (h : Wf sh R) : sh 5 = (11, 10) := h.1 (5, 11, 10) (List.mem_of_getElem? (i := 4) rfl)
theorem sh_6 {sh : ZS} {R : ZR} (h : Wf sh R) : sh 6 = (0, 14) := h.1 (6, 0, 14) (List.mem_of_getElem? (i := 5) rfl)
theorem sh_7 {sh : ZS} {R : ZR} (h : Wf sh R) : sh 7 = (0, 14) := h.1 (7, 0, 14) (List.mem_of_getElem? (i := 6) rfl)
theorem sh_8 {sh : ZS} {R : ZR} (h : Wf sh R) : sh 8 = (0, 14) := h.1 (8, 0, 14) (List.mem_of_getElem? (i := 7) rfl)
theorem sh_9 {sh : ZS} {R : ZR} (h : Wf sh R) : sh 9 = (0, 14) := h.1 (9, 0, 14) (List.mem_of_getElem? (i := 8) rfl)
theorem sh_10 {sh : ZS} {R : ZR} (h : Wf sh R) : sh 10 = (0, 200) := h.1 (10, 0, 200) (List.mem_of_getElem? (i := 9) rfl)
theorem sh_11 {sh : ZS} {R : ZR} (h : Wf sh R) : sh 11 = (0, 200) := h.1 (11, 0, 200) (List.mem_of_getElem? (i := 10) rfl)
theorem sh_12 {sh : ZS} {R : ZR} (h : Wf sh R) : sh 12 = (0, 200) := h.1 (12, 0, 200) (List.mem_of_getElem? (i := 11) rfl)
theorem sh_13 {sh : ZS} {R : ZR} (h : Wf sh R) : sh 13 = (0, 20) := h.1 (13, 0, 20) (List.mem_of_getElem? (i := 12) rfl)
theorem sh_14 {sh : ZS} {R : ZR} (h : Wf sh R) : sh 14 = (0, 32) := h.1 (14, 0, 32) (List.mem_of_getElem? (i := 13) rfl)
theorem sh_15 {sh : ZS} {R : ZR} (h : Wf sh R) : sh 15 = (14, 4) := h.1 (15, 14, 4) (List.mem_of_getElem? (i := 14) rfl)
theorem sh_16 {sh : ZS} {R : ZR} (h : Wf sh R) : sh 16 = (0, 10) := h.1 (16, 0, 10) (List.mem_of_getElem? (i := 15) rfl)
theorem sh_17 {sh : ZS} {R : ZR} (h : Wf sh R) : sh 17 = (0, 32) := h.1 (17, 0, 32) (List.mem_of_getElem? (i := 16) rfl)
theorem sh_18 {sh : ZS} {R : ZR} (h : Wf sh R) : sh 18 = (17, 9) := h.1 (18, 17, 9) (List.mem_of_getElem? (i := 17) rfl)
theorem sh_19 {sh : ZS} {R : ZR} (h : Wf sh R) : sh 19 = (0, 32) := h.1 (19, 0, 32) (List.mem_of_getElem? (i := 18) rfl)
theorem sh_20 {sh : ZS} {R : ZR} (h : Wf sh R) : sh 20 = (0, 32) := h.1 (20, 0, 32) (List.mem_of_getElem? (i := 19) rfl)
theorem sh_21 {sh : ZS} {R : ZR} (h : Wf sh R) : sh 21 = (0, 32) := h.1 (21, 0, 32) (List.mem_of_getElem? (i := 20) rfl)
theorem sh_22 {sh : ZS} {R : ZR} (h : Wf sh R) : sh 22 = (0, 32) := h.1 (22, 0, 32) (List.mem_of_getElem? (i := 21) rfl)
theorem sh_23 {sh : ZS} {R : ZR} (h : Wf sh R) : sh 23 = (0, 32) := h.1 (23, 0, 32) (List.mem_of_getElem? (i := 22) rfl)
theorem sh_24 {sh : ZS} {R : ZR} (h : Wf sh R) : sh 24 = (17, 9) := h.1 (24, 17, 9) (List.mem_of_getElem? (i := 23) rfl)
theorem sh_25 {sh : ZS} {R : ZR} (h : Wf sh R) : sh 25 = (0, 32) := h.1 (25, 0, 32) (List.mem_of_getElem? (i := 24) rfl)
theorem sh_26 {sh : ZS} {R : ZR} (h : Wf sh R) : sh 26 = (0, 32) := h.1 (26, 0, 32) (List.mem_of_getElem? (i := 25) rfl)
theorem sh_27 {sh : ZS} {R : ZR} (h : Wf sh R) : sh 27 = (0, 32) := h.1 (27, 0, 32) (List.mem_of_getElem? (i := 26) rfl)
theorem sh_28 {sh : ZS} {R : ZR} (h : Wf sh R) : sh 28 = (0, 32) := h.1 (28, 0, 32) (List.mem_of_getElem? (i := 27) rfl)
theorem sh_29 {sh : ZS} {R : ZR} (h : Wf sh R) : sh 29 = (0, 32) := h.1 (29, 0, 32) (List.mem_of_getElem? (i := 28) rfl)
theorem sh_30 {sh : ZS} {R : ZR} (h : Wf sh R) : sh 30 = (17, 9) := h.1 (30, 17, 9) (List.mem_of_getElem? (i := 29) rfl)
theorem sh_31 {sh : ZS} {R : ZR} (h : Wf sh R) : sh 31 = (0, 32) := h.1 (31, 0, 32) (List.mem_of_getElem? (i := 30) rfl)
theorem sh_32 {sh : ZS} {R : ZR} (h : Wf sh R) : sh 32 = (0, 32) := h.1 (32, 0, 32) (List.mem_of_getElem? (i := 31) rfl)
theorem sh_33 {sh : ZS} {R : ZR} (h : Wf sh R) : sh 33 = (0, 32) := h.1 (33, 0, 32) (List.mem_of_getElem? (i := 32) rfl)
theorem sh_34 {sh : ZS} {R : ZR} (h : Wf sh R) : sh 34 = (0, 32) := h.1 (34, 0, 32) (List.mem_of_getElem? (i := 33) rfl)
theorem sh_35 {sh : ZS} {R : ZR} (h : Wf sh R) : sh 35 = (0, 32) := h.1 (35, 0, 32) (List.mem_of_getElem? (i := 34) rfl)
theorem sh_36 {sh : ZS} {R : ZR} (h : Wf sh R) : sh 36 = (17, 9) := h.1 (36, 17, 9) (List.mem_of_getElem? (i := 35) rfl)
theorem sh_37 {sh : ZS} {R : ZR} (h : Wf sh R) : sh 37 = (0, 32) := h.1 (37, 0, 32) (List.mem_of_getElem? (i := 36) rfl)
theorem sh_38 {sh : ZS} {R : ZR} (h : Wf sh R) : sh 38 = (0, 32) := h.1 (38, 0, 32) (List.mem_of_getElem? (i := 37) rfl)
theorem sh_39 {sh : ZS} {R : ZR} (h : Wf sh R) : sh 39 = (0, 32) := h.1 (39, 0, 32) (List.mem_of_getElem? (i := 38) rfl)
theorem sh_40 {sh : ZS} {R : ZR} (h : Wf sh R) : sh 40 = (0, 32) := h.1 (40, 0, 32) (List.mem_of_getElem? (i := 39) rfl)
theorem sh_41 {sh : ZS} {R : ZR} (h : Wf sh R) : sh 41 = (0, 32) := h.1 (41, 0, 32) (List.mem_of_getElem? (i := 40) rfl)
theorem sh_42 {sh : ZS} {R : ZR} (h : Wf sh R) : sh 42 = (16, 8) := h.1 (42, 16, 8) (List.mem_of_getElem? (i := 41) rfl)
theorem sh_43 {sh : ZS} {R : ZR} (h : Wf sh R) : sh 43 = (0, 8) := h.1 (43, 0, 8) (List.mem_of_getElem? (i := 42) rfl)
theorem sh_44 {sh : ZS} {R : ZR} (h : Wf sh R) : sh 44 = (0, 32) := h.1 (44, 0, 32) (List.mem_of_getElem? (i := 43) rfl)
theorem sh_45 {sh : ZS} {R : ZR} (h : Wf sh R) : sh 45 = (11, 10) := h.1 (45, 11, 10) (List.mem_of_getElem? (i := 44) rfl)
theorem sh_46 {sh : ZS} {R : ZR} (h : Wf sh R) : sh 46 = (0, 14) := h.1 (46, 0, 14) (List.mem_of_getElem? (i := 45) rfl)
theorem sh_47 {sh : ZS} {R : ZR} (h : Wf sh R) : sh 47 = (0, 14) := h.1 (47, 0, 14) (List.mem_of_getElem? (i := 46) rfl)
theorem sh_48 {sh : ZS} {R : ZR} (h : Wf sh R) : sh 48 = (0, 14) := h.1 (48, 0, 14) (List.mem_of_getElem? (i := 47) rfl)
theorem sh_49 {sh : ZS} {R : ZR} (h : Wf sh R) : sh 49 = (0, 14) := h.1 (49, 0, 14) (List.mem_of_getElem? (i := 48) rfl)
theorem sh_50 {sh : ZS} {R : ZR} (h : Wf sh R) : sh 50 = (0, 200) := h.1 (50, 0, 200) (List.mem_of_getElem? (i := 49) rfl)
theorem sh_51 {sh : ZS} {R : ZR} (h : Wf sh R) : sh 51 = (0, 200) := h.1 (51, 0, 200) (List.mem_of_getElem? (i := 50) rfl)
theorem sh_52 {sh : ZS} {R : ZR} (h : Wf sh R) : sh 52 = (0, 200) := h.1 (52, 0, 200) (List.mem_of_getElem? (i := 51) rfl)
theorem sh_53 {sh : ZS} {R : ZR} (h : Wf sh R) : sh 53 = (15, 6) := h.1 (53, 15, 6) (List.mem_of_getElem? (i := 52) rfl)
theorem sh_54 {sh : ZS} {R : ZR} (h : Wf sh R) : sh 54 = (0, 20) := h.1 (54, 0, 20) (List.mem_of_getElem? (i := 53) rfl)
theorem sh_55 {sh : ZS} {R : ZR} (h : Wf sh R) : sh 55 = (0, 8) := h.1 (55, 0, 8) (List.mem_of_getElem? (i := 54) rfl)
theorem sh_56 {sh : ZS} {R : ZR} (h : Wf sh R) : sh 56 = (0, 20) := h.1 (56, 0, 20) (List.mem_of_getElem? (i := 55) rfl)
theorem sh_57 {sh : ZS} {R : ZR} (h : Wf sh R) : sh 57 = (0, 20) := h.1 (57, 0, 20) (List.mem_of_getElem? (i := 56) rfl)
theorem sh_58 {sh : ZS} {R : ZR} (h : Wf sh R) : sh 58 = (0, 2048) := h.1 (58, 0, 2048) (List.mem_of_getElem? (i := 57) rfl)
theorem sh_59 {sh : ZS} {R : ZR} (h : Wf sh R) : sh 59 = (13, 4) := h.1 (59, 13, 4) (List.mem_of_getElem? (i := 58) rfl)
theorem sh_60 {sh : ZS} {R : ZR} (h : Wf sh R) : sh 60 = (0, 20) := h.1 (60, 0, 20) (List.mem_of_getElem? (i := 59) rfl)
theorem sh_61 {sh : ZS} {R : ZR} (h : Wf sh R) : sh 61 = (18, 6) := h.1 (61, 18, 6) (List.mem_of_getElem? (i := 60) rfl)
theorem sh_62 {sh : ZS} {R : ZR} (h : Wf sh R) : sh 62 = (0, 21) := h.1 (62, 0, 21) (List.mem_of_getElem? (i := 61) rfl)
theorem sh_63 {sh : ZS} {R : ZR} (h : Wf sh R) : sh 63 = (0, 21) := h.1 (63, 0, 21) (List.mem_of_getElem? (i := 62) rfl)
theorem sh_64 {sh : ZS} {R : ZR} (h : Wf sh R) : sh 64 = (2, 10) := h.1 (64, 2, 10) (List.mem_of_getElem? (i := 63) rfl)
theorem sh_65 {sh : ZS} {R : ZR} (h : Wf sh R) : sh 65 = (0, 21) := h.1 (65, 0, 21) (List.mem_of_getElem? (i := 64) rfl)
theorem sh_66 {sh : ZS} {R : ZR} (h : Wf sh R) : sh 66 = (0, 21) := h.1 (66, 0, 21) (List.mem_of_getElem? (i := 65) rfl)
theorem sh_67 {sh : ZS} {R : ZR} (h : Wf sh R) : sh 67 = (0, 21) := h.1 (67, 0, 21) (List.mem_of_getElem? (i := 66) rfl)
theorem sh_68 {sh : ZS} {R : ZR} (h : Wf sh R) : sh 68 = (0, 21) := h.1 (68, 0, 21) (List.mem_of_getElem? (i := 67) rfl)
theorem sh_69 {sh : ZS} {R : ZR} (h : Wf sh R) : sh 69 = (0, 21) := h.1 (69, 0, 21) (List.mem_of_getElem? (i := 68) rfl)
theorem sh_70 {sh : ZS} {R : ZR} (h : Wf sh R) : sh 70 = (0, 21) := h.1 (70, 0, 21) (List.mem_of_getElem? (i := 69) rfl)
theorem sh_71 {sh : ZS} {R : ZR} (h : Wf sh R) : sh 71 = (0, 21) := h.1 (71, 0, 21) (List.mem_of_getElem? (i := 70) rfl)
theorem sh_72 {sh : ZS} {R : ZR} (h : Wf sh R) : sh 72 = (0, 21) := h.1 (72, 0, 21) (List.mem_of_getElem? (i := 71) rfl)
theorem sh_73 {sh : ZS} {R : ZR} (h : Wf sh R) : sh 73 = (0, 21) := h.1 (73, 0, 21) (List.mem_of_getElem? (i := 72) rfl)
theorem sh_74 {sh : ZS} {R : ZR} (h : Wf sh R) : sh 74 = (0, 21) := h.1 (74, 0, 21) (List.mem_of_getElem? (i := 73) rfl)
theorem sh_75 {sh : ZS} {R : ZR} (h : Wf sh R) : sh 75 = (2, 20) := h.1 (75, 2, 20) (List.mem_of_getElem? (i := 74) rfl)
theorem sh_76 {sh : ZS} {R : ZR} (h : Wf sh R) : sh 76 = (0, 20) := h.1 (76, 0, 20) (List.mem_of_getElem? (i := 75) rfl)
theorem sh_77 {sh : ZS} {R : ZR} (h : Wf sh R) : sh 77 = (0, 20) := h.1 (77, 0, 20) (List.mem_of_getElem? (i := 76) rfl)
theorem sh_78 {sh : ZS} {R : ZR} (h : Wf sh R) : sh 78 = (0, 20) := h.1 (78, 0, 20) (List.mem_of_getElem? (i := 77) rfl)
theorem sh_79 {sh : ZS} {R : ZR} (h : Wf sh R) : sh 79 = (0, 20) := h.1 (79, 0, 20) (List.mem_of_getElem? (i := 78) rfl)
theorem sh_80 {sh : ZS} {R : ZR} (h : Wf sh R) : sh 80 = (0, 20) := h.1 (80, 0, 20) (List.mem_of_getElem? (i := 79) rfl)
theorem sh_81 {sh : ZS} {R : ZR} (h : Wf sh R) : sh 81 = (0, 20) := h.1 (81, 0, 20) (List.mem_of_getElem? (i := 80) rfl)
theorem sh_82 {sh : ZS} {R : ZR} (h : Wf sh R) : sh 82 = (0, 20) := h.1 (82, 0, 20) (List.mem_of_getElem? (i := 81) rfl)
theorem sh_83 {sh : ZS} {R : ZR} (h : Wf sh R) : sh 83 = (0, 20) := h.1 (83, 0, 20) (List.mem_of_getElem? (i := 82) rfl)
theorem sh_84 {sh : ZS} {R : ZR} (h : Wf sh R) : sh 84 = (0, 20) := h.1 (84, 0, 20) (List.mem_of_getElem? (i := 83) rfl)
theorem sh_85 {sh : ZS} {R : ZR} (h : Wf sh R) : sh 85 = (0, 20) := h.1 (85, 0, 20) (List.mem_of_getElem? (i := 84) rfl)
theorem sh_86 {sh : ZS} {R : ZR} (h : Wf sh R) : sh 86 = (0, 20) := h.1 (86, 0, 20) (List.mem_of_getElem? (i := 85) rfl)
theorem sh_87 {sh : ZS} {R : ZR} (h : Wf sh R) : sh 87 = (0, 20) := h.1 (87, 0, 20) (List.mem_of_getElem? (i := 86) rfl)
theorem sh_88 {sh : ZS} {R : ZR} (h : Wf sh R) : sh 88 = (0, 20) := h.1 (88, 0, 20) (List.mem_of_getElem? (i := 87) rfl)
theorem sh_89 {sh : ZS} {R : ZR} (h : Wf sh R) : sh 89 = (0, 20) := h.1 (89, 0, 20) (List.mem_of_getElem? (i := 88) rfl)
theorem sh_90 {sh : ZS} {R : ZR} (h : Wf sh R) : sh 90 = (0, 20) := h.1 (90, 0, 20) (List.mem_of_getElem? (i := 89) rfl)
theorem sh_91 {sh : ZS} {R : ZR} (h : Wf sh R) : sh 91 = (0, 20) := h.1 (91, 0, 20) (List.mem_of_getElem? (i := 90) rfl)
theorem sh_92 {sh : ZS} {R : ZR} (h : Wf sh R) : sh 92 = (0, 20) := h.1 (92, 0, 20) (List.mem_of_getElem? (i := 91) rfl)
theorem sh_93 {sh : ZS} {R : ZR} (h : Wf sh R) : sh 93 = (0, 20) := h.1 (93, 0, 20) (List.mem_of_getElem? (i := 92) rfl)
theorem sh_94 {sh : ZS} {R : ZR} (h : Wf sh R) : sh 94 = (0, 20) := h.1 (94, 0, 20) (List.mem_of_getElem? (i := 93) rfl)
theorem sh_95 {sh : ZS} {R : ZR} (h : Wf sh R) : sh 95 = (0, 20) := h.1 (95, 0, 20) (List.mem_of_getElem? (i := 94) rfl)
theorem sh_96 {sh : ZS} {R : ZR} (h : Wf sh R) : sh 96 = (2, 20) := h.1 (96, 2, 20) (List.mem_of_getElem? (i := 95) rfl)
theorem sh_97 {sh : ZS} {R : ZR} (h : Wf sh R) : sh 97 = (0, 20) := h.1 (97, 0, 20) (List.mem_of_getElem? (i := 96) rfl)
theorem sh_98 {sh : ZS} {R : ZR} (h : Wf sh R) : sh 98 = (0, 20) := h.1 (98, 0, 20) (List.mem_of_getElem? (i := 97) rfl)
theorem sh_99 {sh : ZS} {R : ZR} (h : Wf sh R) : sh 99 = (0, 20) := h.1 (99, 0, 20) (List.mem_of_getElem? (i := 98) rfl)
theorem sh_100 {sh : ZS} {R : ZR} (h : Wf sh R) : sh 100 = (0, 20) := h.1 (100, 0, 20) (List.mem_of_getElem? (i := 99) rfl)
theorem sh_101 {sh : ZS} {R : ZR} (h : Wf sh R) : sh 101 = (0, 20) := h.1 (101, 0, 20) (List.mem_of_getElem? (i := 100) rfl)
theorem sh_102 {sh : ZS} {R : ZR} (h : Wf sh R) : sh 102 = (0, 20) := h.1 (102, 0, 20) (List.mem_of_getElem? (i := 101) rfl)
theorem sh_103 {sh : ZS} {R : ZR} (h : Wf sh R) : sh 103 = (0, 20) := h.1 (103, 0, 20) (List.mem_of_getElem? (i := 102) rfl)
theorem sh_104 {sh : ZS} {R : ZR} (h : Wf sh R) : sh 104 = (0, 20) := h.1 (104, 0, 20) (List.mem_of_getElem? (i := 103) rfl)
theorem sh_105 {sh : ZS} {R : ZR} (h : Wf sh R) : sh 105 = (0, 20) := h.1 (105, 0, 20) (List.mem_of_getElem? (i := 104) rfl)
theorem sh_106 {sh : ZS} {R : ZR} (h : Wf sh R) : sh 106 = (0, 20) := h.1 (106, 0, 20) (List.mem_of_getElem? (i := 105) rfl)
theorem sh_107 {sh : ZS} {R : ZR} (h : Wf sh R) : sh 107 = (0, 20) := h.1 (107, 0, 20) (List.mem_of_getElem? (i := 106) rfl)
theorem sh_108 {sh : ZS} {R : ZR} (h : Wf sh R) : sh 108 = (0, 20) := h.1 (108, 0, 20) (List.mem_of_getElem? (i := 107) rfl)
theorem sh_109 {sh : ZS} {R : ZR} (h : Wf sh R) : sh 109 = (0, 20) := h.1 (109, 0, 20) (List.mem_of_getElem? (i := 108) rfl)
theorem sh_110 {sh : ZS} {R : ZR} (h : Wf sh R) : sh 110 = (0, 20) := h.1 (110, 0, 20) (List.mem_of_getElem? (i := 109) rfl)
theorem sh_111 {sh : ZS} {R : ZR} (h : Wf sh R) : sh 111 = (0, 20) := h.1 (111, 0, 20) (List.mem_of_getElem? (i := 110) rfl)
theorem sh_112 {sh : ZS} {R : ZR} (h : Wf sh R) : sh 112 = (0, 20) := h.1 (112, 0, 20) (List.mem_of_getElem? (i := 111) rfl)
theorem sh_113 {sh : ZS} {R : ZR} (h : Wf sh R) : sh 113 = (0, 20) := h.1 (113, 0, 20) (List.mem_of_getElem? (i := 112) rfl)
theorem sh_114 {sh : ZS} {R : ZR} (h : Wf sh R) : sh 114 = (0, 20) := h.1 (114, 0, 20) (List.mem_of_getElem? (i := 113) rfl)
theorem sh_115 {sh : ZS} {R : ZR} (h : Wf sh R) : sh 115 = (0, 20) := h.1 (115, 0, 20) (List.mem_of_getElem? (i := 114) rfl)
theorem sh_116 {sh : ZS} {R : ZR} (h : Wf sh R) : sh 116 = (0, 20) := h.1 (116, 0, 20) (List.mem_of_getElem? (i := 115) rfl)
theorem sh_117 {sh : ZS} {R : ZR} (h : Wf sh R) : sh 117 = (20, 4) := h.1 (117, 20, 4) (List.mem_of_getElem? (i := 116) rfl)
theorem sh_118 {sh : ZS} {R : ZR} (h : Wf sh R) : sh 118 = (0, 9) := h.1 (118, 0, 9) (List.mem_of_getElem? (i := 117) rfl)
theorem sh_119 {sh : ZS} {R : ZR} (h : Wf sh R) : sh 119 = (0, 32) := h.1 (119, 0, 32) (List.mem_of_getElem? (i := 118) rfl)
theorem sh_120 {sh : ZS} {R : ZR} (h : Wf sh R) : sh 120 = (0, 10) := h.1 (120, 0, 10) (List.mem_of_getElem? (i := 119) rfl)
theorem sh_121 {sh : ZS} {R : ZR} (h : Wf sh R) : sh 121 = (10, 10) := h.1 (121, 10, 10) (List.mem_of_getElem? (i := 120) rfl)
theorem sh_122 {sh : ZS} {R : ZR} (h : Wf sh R) : sh 122 = (17, 9) := h.1 (122, 17, 9) (List.mem_of_getElem? (i := 121) rfl)
theorem sh_123 {sh : ZS} {R : ZR} (h : Wf sh R) : sh 123 = (0, 32) := h.1 (123, 0, 32) (List.mem_of_getElem? (i := 122) rfl)
theorem sh_124 {sh : ZS} {R : ZR} (h : Wf sh R) : sh 124 = (0, 32) := h.1 (124, 0, 32) (List.mem_of_getElem? (i := 123) rfl)
theorem sh_125 {sh : ZS} {R : ZR} (h : Wf sh R) : sh 125 = (0, 32) := h.1 (125, 0, 32) (List.mem_of_getElem? (i := 124) rfl)
theorem sh_126 {sh : ZS} {R : ZR} (h : Wf sh R) : sh 126 = (0, 32) := h.1 (126, 0, 32) (List.mem_of_getElem? (i := 125) rfl)
theorem sh_127 {sh : ZS} {R : ZR} (h : Wf sh R) : sh 127 = (0, 32) := h.1 (127, 0, 32) (List.mem_of_getElem? (i := 126) rfl)
theorem sh_128 {sh : ZS} {R : ZR} (h : Wf sh R) : sh 128 = (17, 9) := h.1 (128, 17, 9) (List.mem_of_getElem? (i := 127) rfl)
theorem sh_129 {sh : ZS} {R : ZR} (h : Wf sh R) : sh 129 = (0, 32) := h.1 (129, 0, 32) (List.mem_of_getElem? (i := 128) rfl)
theorem sh_130 {sh : ZS} {R : ZR} (h : Wf sh R) : sh 130 = (0, 32) := h.1 (130, 0, 32) (List.mem_of_getElem? (i := 129) rfl)
theorem sh_131 {sh : ZS} {R : ZR} (h : Wf sh R) : sh 131 = (0, 32) := h.1 (131, 0, 32) (List.mem_of_getElem? (i := 130) rfl)
theorem sh_132 {sh : ZS} {R : ZR} (h : Wf sh R) : sh 132 = (0, 32) := h.1 (132, 0, 32) (List.mem_of_getElem? (i := 131) rfl)
theorem sh_133 {sh : ZS} {R : ZR} (h : Wf sh R) : sh 133 = (0, 32) := h.1 (133, 0, 32) (List.mem_of_getElem? (i := 132) rfl)
theorem sh_134 {sh : ZS} {R : ZR} (h : Wf sh R) : sh 134 = (0, 32) := h.1 (134, 0, 32) (List.mem_of_getElem? (i := 133) rfl)
theorem sh_135 {sh : ZS} {R : ZR} (h : Wf sh R) : sh 135 = (5, 6144) := h.1 (135, 5, 6144) (List.mem_of_getElem? (i := 134) rfl)
theorem sh_136 {sh : ZS} {R : ZR} (h : Wf sh R) : sh 136 = (0, 3) := h.1 (136, 0, 3) (List.mem_of_getElem? (i := 135) rfl)
theorem sh_137 {sh : ZS} {R : ZR} (h : Wf sh R) : sh 137 = (22, 77) := h.1 (137, 22, 77) (List.mem_of_getElem? (i := 136) rfl)
theorem sh_138 {sh : ZS} {R : ZR} (h : Wf sh R) : sh 138 = (0, 32) := h.1 (138, 0, 32) (List.mem_of_getElem? (i := 137) rfl)
theorem sh_139 {sh : ZS} {R : ZR} (h : Wf sh R) : sh 139 = (0, 32) := h.1 (139, 0, 32) (List.mem_of_getElem? (i := 138) rfl)
theorem sh_140 {sh : ZS} {R : ZR} (h : Wf sh R) : sh 140 = (0, 32) := h.1 (140, 0, 32) (List.mem_of_getElem? (i := 139) rfl)
theorem sh_141 {sh : ZS} {R : ZR} (h : Wf sh R) : sh 141 = (0, 32) := h.1 (141, 0, 32) (List.mem_of_getElem? (i := 140) rfl)
theorem sh_142 {sh : ZS} {R : ZR} (h : Wf sh R) : sh 142 = (0, 32) := h.1 (142, 0, 32) (List.mem_of_getElem? (i := 141) rfl)
theorem sh_143 {sh : ZS} {R : ZR} (h : Wf sh R) : sh 143 = (0, 20) := h.1 (143, 0, 20) (List.mem_of_getElem? (i := 142) rfl)
theorem sh_144 {sh : ZS} {R : ZR} (h : Wf sh R) : sh 144 = (1, 220) := h.1 (144, 1, 220) (List.mem_of_getElem? (i := 143) rfl)
theorem sh_145 {sh : ZS} {R : ZR} (h : Wf sh R) : sh 145 = (0, 220) := h.1 (145, 0, 220) (List.mem_of_getElem? (i := 144) rfl)
theorem sh_146 {sh : ZS} {R : ZR} (h : Wf sh R) : sh 146 = (0, 220) := h.1 (146, 0, 220) (List.mem_of_getElem? (i := 145) rfl)
theorem sh_147 {sh : ZS} {R : ZR} (h : Wf sh R) : sh 147 = (0, 14) := h.1 (147, 0, 14) (List.mem_of_getElem? (i := 146) rfl)
theorem sh_148 {sh : ZS} {R : ZR} (h : Wf sh R) : sh 148 = (0, 14) := h.1 (148, 0, 14) (List.mem_of_getElem? (i := 147) rfl)
theorem sh_149 {sh : ZS} {R : ZR} (h : Wf sh R) : sh 149 = (0, 14) := h.1 (149, 0, 14) (List.mem_of_getElem? (i := 148) rfl)
theorem sh_150 {sh : ZS} {R : ZR} (h : Wf sh R) : sh 150 = (0, 14) := h.1 (150, 0, 14) (List.mem_of_getElem? (i := 149) rfl)
theorem sh_151 {sh : ZS} {R : ZR} (h : Wf sh R) : sh 151 = (0, 220) := h.1 (151, 0, 220) (List.mem_of_getElem? (i := 150) rfl)
theorem sh_152 {sh : ZS} {R : ZR} (h : Wf sh R) : sh 152 = (0, 14) := h.1 (152, 0, 14) (List.mem_of_getElem? (i := 151) rfl)
theorem sh_153 {sh : ZS} {R : ZR} (h : Wf sh R) : sh 153 = (0, 14) := h.1 (153, 0, 14) (List.mem_of_getElem? (i := 152) rfl)
theorem sh_154 {sh : ZS} {R : ZR} (h : Wf sh R) : sh 154 = (0, 14) := h.1 (154, 0, 14) (List.mem_of_getElem? (i := 153) rfl)
theorem sh_155 {sh : ZS} {R : ZR} (h : Wf sh R) : sh 155 = (0, 14) := h.1 (155, 0, 14) (List.mem_of_getElem? (i := 154) rfl)
theorem sh_156 {sh : ZS} {R : ZR} (h : Wf sh R) : sh 156 = (0, 220) := h.1 (156, 0, 220) (List.mem_of_getElem? (i := 155) rfl)
theorem sh_157 {sh : ZS} {R : ZR} (h : Wf sh R) : sh 157 = (0, 8) := h.1 (157, 0, 8) (List.mem_of_getElem? (i := 156) rfl)
theorem sh_158 {sh : ZS} {R : ZR} (h : Wf sh R) : sh 158 = (0, 32) := h.1 (158, 0, 32) (List.mem_of_getElem? (i := 157) rfl)
theorem sh_159 {sh : ZS} {R : ZR} (h : Wf sh R) : sh 159 = (0, 32) := h.1 (159, 0, 32) (List.mem_of_getElem? (i := 158) rfl)
theorem sh_160 {sh : ZS} {R : ZR} (h : Wf sh R) : sh 160 = (0, 32) := h.1 (160, 0, 32) (List.mem_of_getElem? (i := 159) rfl)
theorem sh_161 {sh : ZS} {R : ZR} (h : Wf sh R) : sh 161 = (0, 32) := h.1 (161, 0, 32) (List.mem_of_getElem? (i := 160) rfl)
theorem sh_162 {sh : ZS} {R : ZR} (h : Wf sh R) : sh 162 = (0, 20) := h.1 (162, 0, 20) (List.mem_of_getElem? (i := 161) rfl)
theorem sh_163 {sh : ZS} {R : ZR} (h : Wf sh R) : sh 163 = (0, 20) := h.1 (163, 0, 20) (List.mem_of_getElem? (i := 162) rfl)
theorem sh_164 {sh : ZS} {R : ZR} (h : Wf sh R) : sh 164 = (0, 20) := h.1 (164, 0, 20) (List.mem_of_getElem? (i := 163) rfl)
theorem sh_165 {sh : ZS} {R : ZR} (h : Wf sh R) : sh 165 = (0, 5) := h.1 (165, 0, 5) (List.mem_of_getElem? (i := 164) rfl)
theorem sh_166 {sh : ZS} {R : ZR} (h : Wf sh R) : sh 166 = (0, 100) := h.1 (166, 0, 100) (List.mem_of_getElem? (i := 165) rfl)
theorem sh_167 {sh : ZS} {R : ZR} (h : Wf sh R) : sh 167 = (0, 20) := h.1 (167, 0, 20) (List.mem_of_getElem? (i := 166) rfl)
theorem sh_168 {sh : ZS} {R : ZR} (h : Wf sh R) : sh 168 = (0, 5200) := h.1 (168, 0, 5200) (List.mem_of_getElem? (i := 167) rfl)
theorem sh_169 {sh : ZS} {R : ZR} (h : Wf sh R) : sh 169 = (0, 210) := h.1 (169, 0, 210) (List.mem_of_getElem? (i := 168) rfl)
theorem sh_170 {sh : ZS} {R : ZR} (h : Wf sh R) : sh 170 = (0, 32) := h.1 (170, 0, 32) (List.mem_of_getElem? (i := 169) rfl)
theorem sh_171 {sh : ZS} {R : ZR} (h : Wf sh R) : sh 171 = (0, 10) := h.1 (171, 0, 10) (List.mem_of_getElem? (i := 170) rfl)
theorem sh_172 {sh : ZS} {R : ZR} (h : Wf sh R) : sh 172 = (0, 110) := h.1 (172, 0, 110) (List.mem_of_getElem? (i := 171) rfl)
theorem sh_173 {sh : ZS} {R : ZR} (h : Wf sh R) : sh 173 = (0, 8) := h.1 (173, 0, 8) (List.mem_of_getElem? (i := 172) rfl)
theorem sh_174 {sh : ZS} {R : ZR} (h : Wf sh R) : sh 174 = (0, 8) := h.1 (174, 0, 8) (List.mem_of_getElem? (i := 173) rfl)
theorem sh_175 {sh : ZS} {R : ZR} (h : Wf sh R) : sh 175 = (0, 8) := h.1 (175, 0, 8) (List.mem_of_getElem? (i := 174) rfl)
theorem sh_176 {sh : ZS} {R : ZR} (h : Wf sh R) : sh 176 = (0, 2304) := h.1 (176, 0, 2304) (List.mem_of_getElem? (i := 175) rfl)
theorem sh_177 {sh : ZS} {R : ZR} (h : Wf sh R) : sh 177 = (0, 32) := h.1 (177, 0, 32) (List.mem_of_getElem? (i := 176) rfl)
theorem sh_178 {sh : ZS} {R : ZR} (h : Wf sh R) : sh 178 = (0, 32) := h.1 (178, 0, 32) (List.mem_of_getElem? (i := 177) rfl)
theorem sh_179 {sh : ZS} {R : ZR} (h : Wf sh R) : sh 179 = (0, 32) := h.1 (179, 0, 32) (List.mem_of_getElem? (i := 178) rfl)
theorem sh_180 {sh : ZS} {R : ZR} (h : Wf sh R) : sh 180 = (0, 32) := h.1 (180, 0, 32) (List.mem_of_getElem? (i := 179) rfl)
theorem sh_181 {sh : ZS} {R : ZR} (h : Wf sh R) : sh 181 = (0, 32) := h.1 (181, 0, 32) (List.mem_of_getElem? (i := 180) rfl)
theorem sh_182 {sh : ZS} {R : ZR} (h : Wf sh R) : sh 182 = (0, 32) := h.1 (182, 0, 32) (List.mem_of_getElem? (i := 181) rfl)
theorem sh_183 {sh : ZS} {R : ZR} (h : Wf sh R) : sh 183 = (0, 32) := h.1 (183, 0, 32) (List.mem_of_getElem? (i := 182) rfl)
theorem sh_184 {sh : ZS} {R : ZR} (h : Wf sh R) : sh 184 = (0, 32) := h.1 (184, 0, 32) (List.mem_of_getElem? (i := 183) rfl)
theorem rf_1_0 {sh : ZS} {R : ZR} (h : Wf sh R) : R 1 0 = 2 := h.2.1 (1, 0, 2) (List.mem_of_getElem? (i := 0) rfl)
theorem rf_1_1 {sh : ZS} {R : ZR} (h : Wf sh R) : R 1 1 = 4 := h.2.1 (1, 1, 4) (List.mem_of_getElem? (i := 1) rfl)
theorem rf_1_2 {sh : ZS} {R : ZR} (h : Wf sh R) : R 1 2 = 13 := h.2.1 (1, 2, 13) (List.mem_of_getElem? (i := 2) rfl)
theorem rf_1_3 {sh : ZS} {R : ZR} (h : Wf sh R) : R 1 3 = 14 := h.2.1 (1, 3, 14) (List.mem_of_getElem? (i := 3) rfl)
theorem rf_1_4 {sh : ZS} {R : ZR} (h : Wf sh R) : R 1 4 = 15 := h.2.1 (1, 4, 15) (List.mem_of_getElem? (i := 4) rfl)
theorem rf_1_5 {sh : ZS} {R : ZR} (h : Wf sh R) : R 1 5 = 18 := h.2.1 (1, 5, 18) (List.mem_of_getElem? (i := 5) rfl)
theorem rf_1_6 {sh : ZS} {R : ZR} (h : Wf sh R) : R 1 6 = 24 := h.2.1 (1, 6, 24) (List.mem_of_getElem? (i := 6) rfl)
theorem rf_1_7 {sh : ZS} {R : ZR} (h : Wf sh R) : R 1 7 = 30 := h.2.1 (1, 7, 30) (List.mem_of_getElem? (i := 7) rfl)
theorem rf_1_8 {sh : ZS} {R : ZR} (h : Wf sh R) : R 1 8 = 36 := h.2.1 (1, 8, 36) (List.mem_of_getElem? (i := 8) rfl)
theorem rf_1_9 {sh : ZS} {R : ZR} (h : Wf sh R) : R 1 9 = 42 := h.2.1 (1, 9, 42) (List.mem_of_getElem? (i := 9) rfl)
theorem rf_1_10 {sh : ZS} {R : ZR} (h : Wf sh R) : R 1 10 = 53 := h.2.1 (1, 10, 53) (List.mem_of_getElem? (i := 10) rfl)
theorem rf_1_11 {sh : ZS} {R : ZR} (h : Wf sh R) : R 1 11 = 59 := h.2.1 (1, 11, 59) (List.mem_of_getElem? (i := 11) rfl)
theorem rf_1_12 {sh : ZS} {R : ZR} (h : Wf sh R) : R 1 12 = 61 := h.2.1 (1, 12, 61) (List.mem_of_getElem? (i := 12) rfl)
theorem rf_1_13 {sh : ZS} {R : ZR} (h : Wf sh R) : R 1 13 = 117 := h.2.1 (1, 13, 117) (List.mem_of_getElem? (i := 13) rfl)
theorem rf_1_14 {sh : ZS} {R : ZR} (h : Wf sh R) : R 1 14 = 121 := h.2.1 (1, 14, 121) (List.mem_of_getElem? (i := 14) rfl)
theorem rf_2_0 {sh : ZS} {R : ZR} (h : Wf sh R) : R 2 0 = 3 := h.2.1 (2, 0, 3) (List.mem_of_getElem? (i := 15) rfl)
theorem rf_4_0 {sh : ZS} {R : ZR} (h : Wf sh R) : R 4 0 = 3 := h.2.1 (4, 0, 3) (List.mem_of_getElem? (i := 16) rfl)
theorem rf_5_0 {sh : ZS} {R : ZR} (h : Wf sh R) : R 5 0 = 6 := h.2.1 (5, 0, 6) (List.mem_of_getElem? (i := 17) rfl)
theorem rf_5_1 {sh : ZS} {R : ZR} (h : Wf sh R) : R 5 1 = 7 := h.2.1 (5, 1, 7) (List.mem_of_getElem? (i := 18) rfl)
theorem rf_5_2 {sh : ZS} {R : ZR} (h : Wf sh R) : R 5 2 = 8 := h.2.1 (5, 2, 8) (List.mem_of_getElem? (i := 19) rfl)
theorem rf_5_3 {sh : ZS} {R : ZR} (h : Wf sh R) : R 5 3 = 9 := h.2.1 (5, 3, 9) (List.mem_of_getElem? (i := 20) rfl)
theorem rf_5_4 {sh : ZS} {R : ZR} (h : Wf sh R) : R 5 4 = 10 := h.2.1 (5, 4, 10) (List.mem_of_getElem? (i := 21) rfl)
theorem rf_5_5 {sh : ZS} {R : ZR} (h : Wf sh R) : R 5 5 = 11 := h.2.1 (5, 5, 11) (List.mem_of_getElem? (i := 22) rfl)
theorem rf_5_6 {sh : ZS} {R : ZR} (h : Wf sh R) : R 5 6 = 12 := h.2.1 (5, 6, 12) (List.mem_of_getElem? (i := 23) rfl)
theorem rf_15_2 {sh : ZS} {R : ZR} (h : Wf sh R) : R 15 2 = 16 := h.2.1 (15, 2, 16) (List.mem_of_getElem? (i := 24) rfl)
theorem rf_15_3 {sh : ZS} {R : ZR} (h : Wf sh R) : R 15 3 = 17 := h.2.1 (15, 3, 17) (List.mem_of_getElem? (i := 25) rfl)
theorem rf_18_0 {sh : ZS} {R : ZR} (h : Wf sh R) : R 18 0 = 19 := h.2.1 (18, 0, 19) (List.mem_of_getElem? (i := 26) rfl)
theorem rf_18_1 {sh : ZS} {R : ZR} (h : Wf sh R) : R 18 1 = 20 := h.2.1 (18, 1, 20) (List.mem_of_getElem? (i := 27) rfl)
theorem rf_18_2 {sh : ZS} {R : ZR} (h : Wf sh R) : R 18 2 = 21 := h.2.1 (18, 2, 21) (List.mem_of_getElem? (i := 28) rfl)
theorem rf_18_3 {sh : ZS} {R : ZR} (h : Wf sh R) : R 18 3 = 22 := h.2.1 (18, 3, 22) (List.mem_of_getElem? (i := 29) rfl)
theorem rf_18_4 {sh : ZS} {R : ZR} (h : Wf sh R) : R 18 4 = 23 := h.2.1 (18, 4, 23) (List.mem_of_getElem? (i := 30) rfl)
theorem rf_24_0 {sh : ZS} {R : ZR} (h : Wf sh R) : R 24 0 = 25 := h.2.1 (24, 0, 25) (List.mem_of_getElem? (i := 31) rfl)
theorem rf_24_1 {sh : ZS} {R : ZR} (h : Wf sh R) : R 24 1 = 26 := h.2.1 (24, 1, 26) (List.mem_of_getElem? (i := 32) rfl)
theorem rf_24_2 {sh : ZS} {R : ZR} (h : Wf sh R) : R 24 2 = 27 := h.2.1 (24, 2, 27) (List.mem_of_getElem? (i := 33) rfl)
theorem rf_24_3 {sh : ZS} {R : ZR} (h : Wf sh R) : R 24 3 = 28 := h.2.1 (24, 3, 28) (List.mem_of_getElem? (i := 34) rfl)
theorem rf_24_4 {sh : ZS} {R : ZR} (h : Wf sh R) : R 24 4 = 29 := h.2.1 (24, 4, 29) (List.mem_of_getElem? (i := 35) rfl)
theorem rf_30_0 {sh : ZS} {R : ZR} (h : Wf sh R) : R 30 0 = 31 := h.2.1 (30, 0, 31) (List.mem_of_getElem? (i := 36) rfl)
theorem rf_30_1 {sh : ZS} {R : ZR} (h : Wf sh R) : R 30 1 = 32 := h.2.1 (30, 1, 32) (List.mem_of_getElem? (i := 37) rfl)
theorem rf_30_2 {sh : ZS} {R : ZR} (h : Wf sh R) : R 30 2 = 33 := h.2.1 (30, 2, 33) (List.mem_of_getElem? (i := 38) rfl)
theorem rf_30_3 {sh : ZS} {R : ZR} (h : Wf sh R) : R 30 3 = 34 := h.2.1 (30, 3, 34) (List.mem_of_getElem? (i := 39) rfl)
theorem rf_30_4 {sh : ZS} {R : ZR} (h : Wf sh R) : R 30 4 = 35 := h.2.1 (30, 4, 35) (List.mem_of_getElem? (i := 40) rfl)
theorem rf_36_0 {sh : ZS} {R : ZR} (h : Wf sh R) : R 36 0 = 37 := h.2.1 (36, 0, 37) (List.mem_of_getElem? (i := 41) rfl)
theorem rf_36_1 {sh : ZS} {R : ZR} (h : Wf sh R) : R 36 1 = 38 := h.2.1 (36, 1, 38) (List.mem_of_getElem? (i := 42) rfl)
theorem rf_36_2 {sh : ZS} {R : ZR} (h : Wf sh R) : R 36 2 = 39 := h.2.1 (36, 2, 39) (List.mem_of_getElem? (i := 43) rfl)
theorem rf_36_3 {sh : ZS} {R : ZR} (h : Wf sh R) : R 36 3 = 40 := h.2.1 (36, 3, 40) (List.mem_of_getElem? (i := 44) rfl)
theorem rf_36_4 {sh : ZS} {R : ZR} (h : Wf sh R) : R 36 4 = 41 := h.2.1 (36, 4, 41) (List.mem_of_getElem? (i := 45) rfl)
theorem rf_42_0 {sh : ZS} {R : ZR} (h : Wf sh R) : R 42 0 = 13 := h.2.1 (42, 0, 13) (List.mem_of_getElem? (i := 46) rfl)
theorem rf_42_1 {sh : ZS} {R : ZR} (h : Wf sh R) : R 42 1 = 15 := h.2.1 (42, 1, 15) (List.mem_of_getElem? (i := 47) rfl)
theorem rf_42_2 {sh : ZS} {R : ZR} (h : Wf sh R) : R 42 2 = 43 := h.2.1 (42, 2, 43) (List.mem_of_getElem? (i := 48) rfl)
theorem rf_42_3 {sh : ZS} {R : ZR} (h : Wf sh R) : R 42 3 = 44 := h.2.1 (42, 3, 44) (List.mem_of_getElem? (i := 49) rfl)
theorem rf_45_0 {sh : ZS} {R : ZR} (h : Wf sh R) : R 45 0 = 46 := h.2.1 (45, 0, 46) (List.mem_of_getElem? (i := 50) rfl)
theorem rf_45_1 {sh : ZS} {R : ZR} (h : Wf sh R) : R 45 1 = 47 := h.2.1 (45, 1, 47) (List.mem_of_getElem? (i := 51) rfl)
theorem rf_45_2 {sh : ZS} {R : ZR} (h : Wf sh R) : R 45 2 = 48 := h.2.1 (45, 2, 48) (List.mem_of_getElem? (i := 52) rfl)
theorem rf_45_3 {sh : ZS} {R : ZR} (h : Wf sh R) : R 45 3 = 49 := h.2.1 (45, 3, 49) (List.mem_of_getElem? (i := 53) rfl)
theorem rf_45_4 {sh : ZS} {R : ZR} (h : Wf sh R) : R 45 4 = 50 := h.2.1 (45, 4, 50) (List.mem_of_getElem? (i := 54) rfl)
theorem rf_45_5 {sh : ZS} {R : ZR} (h : Wf sh R) : R 45 5 = 51 := h.2.1 (45, 5, 51) (List.mem_of_getElem? (i := 55) rfl)
theorem rf_45_6 {sh : ZS} {R : ZR} (h : Wf sh R) : R 45 6 = 52 := h.2.1 (45, 6, 52) (List.mem_of_getElem? (i := 56) rfl)
theorem rf_53_0 {sh : ZS} {R : ZR} (h : Wf sh R) : R 53 0 = 54 := h.2.1 (53, 0, 54) (List.mem_of_getElem? (i := 57) rfl)
theorem rf_53_1 {sh : ZS} {R : ZR} (h : Wf sh R) : R 53 1 = 55 := h.2.1 (53, 1, 55) (List.mem_of_getElem? (i := 58) rfl)
theorem rf_53_3 {sh : ZS} {R : ZR} (h : Wf sh R) : R 53 3 = 56 := h.2.1 (53, 3, 56) (List.mem_of_getElem? (i := 59) rfl)
theorem rf_53_4 {sh : ZS} {R : ZR} (h : Wf sh R) : R 53 4 = 57 := h.2.1 (53, 4, 57) (List.mem_of_getElem? (i := 60) rfl)
theorem rf_53_5 {sh : ZS} {R : ZR} (h : Wf sh R) : R 53 5 = 58 := h.2.1 (53, 5, 58) (List.mem_of_getElem? (i := 61) rfl)
theorem rf_59_0 {sh : ZS} {R : ZR} (h : Wf sh R) : R 59 0 = 15 := h.2.1 (59, 0, 15) (List.mem_of_getElem? (i := 62) rfl)
theorem rf_59_1 {sh : ZS} {R : ZR} (h : Wf sh R) : R 59 1 = 53 := h.2.1 (59, 1, 53) (List.mem_of_getElem? (i := 63) rfl)
theorem rf_59_2 {sh : ZS} {R : ZR} (h : Wf sh R) : R 59 2 = 60 := h.2.1 (59, 2, 60) (List.mem_of_getElem? (i := 64) rfl)
theorem rf_61_0 {sh : ZS} {R : ZR} (h : Wf sh R) : R 61 0 = 15 := h.2.1 (61, 0, 15) (List.mem_of_getElem? (i := 65) rfl)
theorem rf_61_1 {sh : ZS} {R : ZR} (h : Wf sh R) : R 61 1 = 62 := h.2.1 (61, 1, 62) (List.mem_of_getElem? (i := 66) rfl)
theorem rf_61_2 {sh : ZS} {R : ZR} (h : Wf sh R) : R 61 2 = 63 := h.2.1 (61, 2, 63) (List.mem_of_getElem? (i := 67) rfl)
theorem rf_61_3 {sh : ZS} {R : ZR} (h : Wf sh R) : R 61 3 = 64 := h.2.1 (61, 3, 64) (List.mem_of_getElem? (i := 68) rfl)
theorem rf_117_0 {sh : ZS} {R : ZR} (h : Wf sh R) : R 117 0 = 15 := h.2.1 (117, 0, 15) (List.mem_of_getElem? (i := 69) rfl)
theorem rf_117_1 {sh : ZS} {R : ZR} (h : Wf sh R) : R 117 1 = 118 := h.2.1 (117, 1, 118) (List.mem_of_getElem? (i := 70) rfl)
theorem rf_117_2 {sh : ZS} {R : ZR} (h : Wf sh R) : R 117 2 = 119 := h.2.1 (117, 2, 119) (List.mem_of_getElem? (i := 71) rfl)
theorem rf_117_3 {sh : ZS} {R : ZR} (h : Wf sh R) : R 117 3 = 120 := h.2.1 (117, 3, 120) (List.mem_of_getElem? (i := 72) rfl)
theorem rf_121_0 {sh : ZS} {R : ZR} (h : Wf sh R) : R 121 0 = 15 := h.2.1 (121, 0, 15) (List.mem_of_getElem? (i := 73) rfl)
theorem rf_121_1 {sh : ZS} {R : ZR} (h : Wf sh R) : R 121 1 = 42 := h.2.1 (121, 1, 42) (List.mem_of_getElem? (i := 74) rfl)
theorem rf_121_2 {sh : ZS} {R : ZR} (h : Wf sh R) : R 121 2 = 122 := h.2.1 (121, 2, 122) (List.mem_of_getElem? (i := 75) rfl)
theorem rf_121_3 {sh : ZS} {R : ZR} (h : Wf sh R) : R 121 3 = 128 := h.2.1 (121, 3, 128) (List.mem_of_getElem? (i := 76) rfl)
theorem rf_121_4 {sh : ZS} {R : ZR} (h : Wf sh R) : R 121 4 = 134 := h.2.1 (121, 4, 134) (List.mem_of_getElem? (i := 77) rfl)
theorem rf_121_5 {sh : ZS} {R : ZR} (h : Wf sh R) : R 121 5 = 135 := h.2.1 (121, 5, 135) (List.mem_of_getElem? (i := 78) rfl)
theorem rf_121_6 {sh : ZS} {R : ZR} (h : Wf sh R) : R 121 6 = 136 := h.2.1 (121, 6, 136) (List.mem_of_getElem? (i := 79) rfl)
theorem rf_122_0 {sh : ZS} {R : ZR} (h : Wf sh R) : R 122 0 = 123 := h.2.1 (122, 0, 123) (List.mem_of_getElem? (i := 80) rfl)
theorem rf_122_1 {sh : ZS} {R : ZR} (h : Wf sh R) : R 122 1 = 124 := h.2.1 (122, 1, 124) (List.mem_of_getElem? (i := 81) rfl)
theorem rf_122_2 {sh : ZS} {R : ZR} (h : Wf sh R) : R 122 2 = 125 := h.2.1 (122, 2, 125) (List.mem_of_getElem? (i := 82) rfl)
theorem rf_122_3 {sh : ZS} {R : ZR} (h : Wf sh R) : R 122 3 = 126 := h.2.1 (122, 3, 126) (List.mem_of_getElem? (i := 83) rfl)
theorem rf_122_4 {sh : ZS} {R : ZR} (h : Wf sh R) : R 122 4 = 127 := h.2.1 (122, 4, 127) (List.mem_of_getElem? (i := 84) rfl)
theorem rf_128_0 {sh : ZS} {R : ZR} (h : Wf sh R) : R 128 0 = 129 := h.2.1 (128, 0, 129) (List.mem_of_getElem? (i := 85) rfl)
theorem rf_128_1 {sh : ZS} {R : ZR} (h : Wf sh R) : R 128 1 = 130 := h.2.1 (128, 1, 130) (List.mem_of_getElem? (i := 86) rfl)
theorem rf_128_2 {sh : ZS} {R : ZR} (h : Wf sh R) : R 128 2 = 131 := h.2.1 (128, 2, 131) (List.mem_of_getElem? (i := 87) rfl)
theorem rf_128_3 {sh : ZS} {R : ZR} (h : Wf sh R) : R 128 3 = 132 := h.2.1 (128, 3, 132) (List.mem_of_getElem? (i := 88) rfl)
theorem rf_128_4 {sh : ZS} {R : ZR} (h : Wf sh R) : R 128 4 = 133 := h.2.1 (128, 4, 133) (List.mem_of_getElem? (i := 89) rfl)
theorem rf_137_6 {sh : ZS} {R : ZR} (h : Wf sh R) : R 137 6 = 138 := h.2.1 (137, 6, 138) (List.mem_of_getElem? (i := 90) rfl)
theorem rf_137_7 {sh : ZS} {R : ZR} (h : Wf sh R) : R 137 7 = 139 := h.2.1 (137, 7, 139) (List.mem_of_getElem? (i := 91) rfl)
theorem rf_137_8 {sh : ZS} {R : ZR} (h : Wf sh R) : R 137 8 = 140 := h.2.1 (137, 8, 140) (List.mem_of_getElem? (i := 92) rfl)
theorem rf_137_9 {sh : ZS} {R : ZR} (h : Wf sh R) : R 137 9 = 141 := h.2.1 (137, 9, 141) (List.mem_of_getElem? (i := 93) rfl)
theorem rf_137_10 {sh : ZS} {R : ZR} (h : Wf sh R) : R 137 10 = 142 := h.2.1 (137, 10, 142) (List.mem_of_getElem? (i := 94) rfl)
theorem rf_137_11 {sh : ZS} {R : ZR} (h : Wf sh R) : R 137 11 = 143 := h.2.1 (137, 11, 143) (List.mem_of_getElem? (i := 95) rfl)
theorem rf_137_12 {sh : ZS} {R : ZR} (h : Wf sh R) : R 137 12 = 144 := h.2.1 (137, 12, 144) (List.mem_of_getElem? (i := 96) rfl)
theorem rf_137_23 {sh : ZS} {R : ZR} (h : Wf sh R) : R 137 23 = 145 := h.2.1 (137, 23, 145) (List.mem_of_getElem? (i := 97) rfl)
theorem rf_137_24 {sh : ZS} {R : ZR} (h : Wf sh R) : R 137 24 = 146 := h.2.1 (137, 24, 146) (List.mem_of_getElem? (i := 98) rfl)
theorem rf_137_25 {sh : ZS} {R : ZR} (h : Wf sh R) : R 137 25 = 147 := h.2.1 (137, 25, 147) (List.mem_of_getElem? (i := 99) rfl)
theorem rf_137_26 {sh : ZS} {R : ZR} (h : Wf sh R) : R 137 26 = 148 := h.2.1 (137, 26, 148) (List.mem_of_getElem? (i := 100) rfl)
theorem rf_137_27 {sh : ZS} {R : ZR} (h : Wf sh R) : R 137 27 = 149 := h.2.1 (137, 27, 149) (List.mem_of_getElem? (i := 101) rfl)
theorem rf_137_28 {sh : ZS} {R : ZR} (h : Wf sh R) : R 137 28 = 150 := h.2.1 (137, 28, 150) (List.mem_of_getElem? (i := 102) rfl)
theorem rf_137_29 {sh : ZS} {R : ZR} (h : Wf sh R) : R 137 29 = 151 := h.2.1 (137, 29, 151) (List.mem_of_getElem? (i := 103) rfl)
theorem rf_137_30 {sh : ZS} {R : ZR} (h : Wf sh R) : R 137 30 = 152 := h.2.1 (137, 30, 152) (List.mem_of_getElem? (i := 104) rfl)
theorem rf_137_31 {sh : ZS} {R : ZR} (h : Wf sh R) : R 137 31 = 153 := h.2.1 (137, 31, 153) (List.mem_of_getElem? (i := 105) rfl)
theorem rf_137_32 {sh : ZS} {R : ZR} (h : Wf sh R) : R 137 32 = 154 := h.2.1 (137, 32, 154) (List.mem_of_getElem? (i := 106) rfl)
theorem rf_137_33 {sh : ZS} {R : ZR} (h : Wf sh R) : R 137 33 = 155 := h.2.1 (137, 33, 155) (List.mem_of_getElem? (i := 107) rfl)
theorem rf_137_34 {sh : ZS} {R : ZR} (h : Wf sh R) : R 137 34 = 156 := h.2.1 (137, 34, 156) (List.mem_of_getElem? (i := 108) rfl)
theorem rf_137_35 {sh : ZS} {R : ZR} (h : Wf sh R) : R 137 35 = 157 := h.2.1 (137, 35, 157) (List.mem_of_getElem? (i := 109) rfl)
theorem rf_137_39 {sh : ZS} {R : ZR} (h : Wf sh R) : R 137 39 = 158 := h.2.1 (137, 39, 158) (List.mem_of_getElem? (i := 110) rfl)
theorem rf_137_40 {sh : ZS} {R : ZR} (h : Wf sh R) : R 137 40 = 159 := h.2.1 (137, 40, 159) (List.mem_of_getElem? (i := 111) rfl)
theorem rf_137_43 {sh : ZS} {R : ZR} (h : Wf sh R) : R 137 43 = 160 := h.2.1 (137, 43, 160) (List.mem_of_getElem? (i := 112) rfl)
theorem rf_137_44 {sh : ZS} {R : ZR} (h : Wf sh R) : R 137 44 = 161 := h.2.1 (137, 44, 161) (List.mem_of_getElem? (i := 113) rfl)
theorem rf_137_46 {sh : ZS} {R : ZR} (h : Wf sh R) : R 137 46 = 162 := h.2.1 (137, 46, 162) (List.mem_of_getElem? (i := 114) rfl)
theorem rf_137_47 {sh : ZS} {R : ZR} (h : Wf sh R) : R 137 47 = 163 := h.2.1 (137, 47, 163) (List.mem_of_getElem? (i := 115) rfl)
theorem rf_137_48 {sh : ZS} {R : ZR} (h : Wf sh R) : R 137 48 = 164 := h.2.1 (137, 48, 164) (List.mem_of_getElem? (i := 116) rfl)
theorem rf_137_50 {sh : ZS} {R : ZR} (h : Wf sh R) : R 137 50 = 165 := h.2.1 (137, 50, 165) (List.mem_of_getElem? (i := 117) rfl)
theorem rf_137_51 {sh : ZS} {R : ZR} (h : Wf sh R) : R 137 51 = 166 := h.2.1 (137, 51, 166) (List.mem_of_getElem? (i := 118) rfl)
theorem rf_137_52 {sh : ZS} {R : ZR} (h : Wf sh R) : R 137 52 = 167 := h.2.1 (137, 52, 167) (List.mem_of_getElem? (i := 119) rfl)
theorem rf_137_53 {sh : ZS} {R : ZR} (h : Wf sh R) : R 137 53 = 168 := h.2.1 (137, 53, 168) (List.mem_of_getElem? (i := 120) rfl)
theorem rf_137_54 {sh : ZS} {R : ZR} (h : Wf sh R) : R 137 54 = 169 := h.2.1 (137, 54, 169) (List.mem_of_getElem? (i := 121) rfl)
theorem rf_137_55 {sh : ZS} {R : ZR} (h : Wf sh R) : R 137 55 = 170 := h.2.1 (137, 55, 170) (List.mem_of_getElem? (i := 122) rfl)
theorem rf_137_56 {sh : ZS} {R : ZR} (h : Wf sh R) : R 137 56 = 171 := h.2.1 (137, 56, 171) (List.mem_of_getElem? (i := 123) rfl)
theorem rf_137_57 {sh : ZS} {R : ZR} (h : Wf sh R) : R 137 57 = 172 := h.2.1 (137, 57, 172) (List.mem_of_getElem? (i := 124) rfl)
theorem rf_137_59 {sh : ZS} {R : ZR} (h : Wf sh R) : R 137 59 = 173 := h.2.1 (137, 59, 173) (List.mem_of_getElem? (i := 125) rfl)
theorem rf_137_60 {sh : ZS} {R : ZR} (h : Wf sh R) : R 137 60 = 174 := h.2.1 (137, 60, 174) (List.mem_of_getElem? (i := 126) rfl)
theorem rf_137_61 {sh : ZS} {R : ZR} (h : Wf sh R) : R 137 61 = 175 := h.2.1 (137, 61, 175) (List.mem_of_getElem? (i := 127) rfl)
theorem rf_137_62 {sh : ZS} {R : ZR} (h : Wf sh R) : R 137 62 = 176 := h.2.1 (137, 62, 176) (List.mem_of_getElem? (i := 128) rfl)
theorem rf_137_63 {sh : ZS} {R : ZR} (h : Wf sh R) : R 137 63 = 177 := h.2.1 (137, 63, 177) (List.mem_of_getElem? (i := 129) rfl)
theorem rf_137_65 {sh : ZS} {R : ZR} (h : Wf sh R) : R 137 65 = 178 := h.2.1 (137, 65, 178) (List.mem_of_getElem? (i := 130) rfl)
theorem rf_137_66 {sh : ZS} {R : ZR} (h : Wf sh R) : R 137 66 = 179 := h.2.1 (137, 66, 179) (List.mem_of_getElem? (i := 131) rfl)
theorem rf_137_72 {sh : ZS} {R : ZR} (h : Wf sh R) : R 137 72 = 180 := h.2.1 (137, 72, 180) (List.mem_of_getElem? (i := 132) rfl)
theorem rf_137_73 {sh : ZS} {R : ZR} (h : Wf sh R) : R 137 73 = 181 := h.2.1 (137, 73, 181) (List.mem_of_getElem? (i := 133) rfl)
theorem rf_137_74 {sh : ZS} {R : ZR} (h : Wf sh R) : R 137 74 = 182 := h.2.1 (137, 74, 182) (List.mem_of_getElem? (i := 134) rfl)
theorem rf_137_75 {sh : ZS} {R : ZR} (h : Wf sh R) : R 137 75 = 183 := h.2.1 (137, 75, 183) (List.mem_of_getElem? (i := 135) rfl)
theorem rf_137_76 {sh : ZS} {R : ZR} (h : Wf sh R) : R 137 76 = 184 := h.2.1 (137, 76, 184) (List.mem_of_getElem? (i := 136) rfl)
theorem rf_64_0 {sh : ZS} {R : ZR} (h : Wf sh R) : R 64 0 = 65 := h.2.1 (64, 0, 65) (List.mem_of_getElem? (i := 137) rfl)
theorem rf_64_1 {sh : ZS} {R : ZR} (h : Wf sh R) : R 64 1 = 66 := h.2.1 (64, 1, 66) (List.mem_of_getElem? (i := 138) rfl)
theorem rf_64_2 {sh : ZS} {R : ZR} (h : Wf sh R) : R 64 2 = 67 := h.2.1 (64, 2, 67) (List.mem_of_getElem? (i := 139) rfl)
theorem rf_64_3 {sh : ZS} {R : ZR} (h : Wf sh R) : R 64 3 = 68 := h.2.1 (64, 3, 68) (List.mem_of_getElem? (i := 140) rfl)
theorem rf_64_4 {sh : ZS} {R : ZR} (h : Wf sh R) : R 64 4 = 69 := h.2.1 (64, 4, 69) (List.mem_of_getElem? (i := 141) rfl)
theorem rf_64_5 {sh : ZS} {R : ZR} (h : Wf sh R) : R 64 5 = 70 := h.2.1 (64, 5, 70) (List.mem_of_getElem? (i := 142) rfl)
theorem rf_64_6 {sh : ZS} {R : ZR} (h : Wf sh R) : R 64 6 = 71 := h.2.1 (64, 6, 71) (List.mem_of_getElem? (i := 143) rfl)
theorem rf_64_7 {sh : ZS} {R : ZR} (h : Wf sh R) : R 64 7 = 72 := h.2.1 (64, 7, 72) (List.mem_of_getElem? (i := 144) rfl)
theorem rf_64_8 {sh : ZS} {R : ZR} (h : Wf sh R) : R 64 8 = 73 := h.2.1 (64, 8, 73) (List.mem_of_getElem? (i := 145) rfl)
theorem rf_64_9 {sh : ZS} {R : ZR} (h : Wf sh R) : R 64 9 = 74 := h.2.1 (64, 9, 74) (List.mem_of_getElem? (i := 146) rfl)
theorem rf_75_0 {sh : ZS} {R : ZR} (h : Wf sh R) : R 75 0 = 76 := h.2.1 (75, 0, 76) (List.mem_of_getElem? (i := 147) rfl)
theorem rf_75_1 {sh : ZS} {R : ZR} (h : Wf sh R) : R 75 1 = 77 := h.2.1 (75, 1, 77) (List.mem_of_getElem? (i := 148) rfl)
theorem rf_75_2 {sh : ZS} {R : ZR} (h : Wf sh R) : R 75 2 = 78 := h.2.1 (75, 2, 78) (List.mem_of_getElem? (i := 149) rfl)
theorem rf_75_3 {sh : ZS} {R : ZR} (h : Wf sh R) : R 75 3 = 79 := h.2.1 (75, 3, 79) (List.mem_of_getElem? (i := 150) rfl)
theorem rf_75_4 {sh : ZS} {R : ZR} (h : Wf sh R) : R 75 4 = 80 := h.2.1 (75, 4, 80) (List.mem_of_getElem? (i := 151) rfl)
theorem rf_75_5 {sh : ZS} {R : ZR} (h : Wf sh R) : R 75 5 = 81 := h.2.1 (75, 5, 81) (List.mem_of_getElem? (i := 152) rfl)
theorem rf_75_6 {sh : ZS} {R : ZR} (h : Wf sh R) : R 75 6 = 82 := h.2.1 (75, 6, 82) (List.mem_of_getElem? (i := 153) rfl)
theorem rf_75_7 {sh : ZS} {R : ZR} (h : Wf sh R) : R 75 7 = 83 := h.2.1 (75, 7, 83) (List.mem_of_getElem? (i := 154) rfl)
theorem rf_75_8 {sh : ZS} {R : ZR} (h : Wf sh R) : R 75 8 = 84 := h.2.1 (75, 8, 84) (List.mem_of_getElem? (i := 155) rfl)
theorem rf_75_9 {sh : ZS} {R : ZR} (h : Wf sh R) : R 75 9 = 85 := h.2.1 (75, 9, 85) (List.mem_of_getElem? (i := 156) rfl)
theorem rf_75_10 {sh : ZS} {R : ZR} (h : Wf sh R) : R 75 10 = 86 := h.2.1 (75, 10, 86) (List.mem_of_getElem? (i := 157) rfl)
theorem rf_75_11 {sh : ZS} {R : ZR} (h : Wf sh R) : R 75 11 = 87 := h.2.1 (75, 11, 87) (List.mem_of_getElem? (i := 158) rfl)
theorem rf_75_12 {sh : ZS} {R : ZR} (h : Wf sh R) : R 75 12 = 88 := h.2.1 (75, 12, 88) (List.mem_of_getElem? (i := 159) rfl)
theorem rf_75_13 {sh : ZS} {R : ZR} (h : Wf sh R) : R 75 13 = 89 := h.2.1 (75, 13, 89) (List.mem_of_getElem? (i := 160) rfl)
theorem rf_75_14 {sh : ZS} {R : ZR} (h : Wf sh R) : R 75 14 = 90 := h.2.1 (75, 14, 90) (List.mem_of_getElem? (i := 161) rfl)
theorem rf_75_15 {sh : ZS} {R : ZR} (h : Wf sh R) : R 75 15 = 91 := h.2.1 (75, 15, 91) (List.mem_of_getElem? (i := 162) rfl)
theorem rf_75_16 {sh : ZS} {R : ZR} (h : Wf sh R) : R 75 16 = 92 := h.2.1 (75, 16, 92) (List.mem_of_getElem? (i := 163) rfl)
theorem rf_75_17 {sh : ZS} {R : ZR} (h : Wf sh R) : R 75 17 = 93 := h.2.1 (75, 17, 93) (List.mem_of_getElem? (i := 164) rfl)
theorem rf_75_18 {sh : ZS} {R : ZR} (h : Wf sh R) : R 75 18 = 94 := h.2.1 (75, 18, 94) (List.mem_of_getElem? (i := 165) rfl)
theorem rf_75_19 {sh : ZS} {R : ZR} (h : Wf sh R) : R 75 19 = 95 := h.2.1 (75, 19, 95) (List.mem_of_getElem? (i := 166) rfl)
theorem rf_96_0 {sh : ZS} {R : ZR} (h : Wf sh R) : R 96 0 = 97 := h.2.1 (96, 0, 97) (List.mem_of_getElem? (i := 167) rfl)
theorem rf_96_1 {sh : ZS} {R : ZR} (h : Wf sh R) : R 96 1 = 98 := h.2.1 (96, 1, 98) (List.mem_of_getElem? (i := 168) rfl)
theorem rf_96_2 {sh : ZS} {R : ZR} (h : Wf sh R) : R 96 2 = 99 := h.2.1 (96, 2, 99) (List.mem_of_getElem? (i := 169) rfl)
theorem rf_96_3 {sh : ZS} {R : ZR} (h : Wf sh R) : R 96 3 = 100 := h.2.1 (96, 3, 100) (List.mem_of_getElem? (i := 170) rfl)
theorem rf_96_4 {sh : ZS} {R : ZR} (h : Wf sh R) : R 96 4 = 101 := h.2.1 (96, 4, 101) (List.mem_of_getElem? (i := 171) rfl)
theorem rf_96_5 {sh : ZS} {R : ZR} (h : Wf sh R) : R 96 5 = 102 := h.2.1 (96, 5, 102) (List.mem_of_getElem? (i := 172) rfl)
theorem rf_96_6 {sh : ZS} {R : ZR} (h : Wf sh R) : R 96 6 = 103 := h.2.1 (96, 6, 103) (List.mem_of_getElem? (i := 173) rfl)
theorem rf_96_7 {sh : ZS} {R : ZR} (h : Wf sh R) : R 96 7 = 104 := h.2.1 (96, 7, 104) (List.mem_of_getElem? (i := 174) rfl)
theorem rf_96_8 {sh : ZS} {R : ZR} (h : Wf sh R) : R 96 8 = 105 := h.2.1 (96, 8, 105) (List.mem_of_getElem? (i := 175) rfl)
theorem rf_96_9 {sh : ZS} {R : ZR} (h : Wf sh R) : R 96 9 = 106 := h.2.1 (96, 9, 106) (List.mem_of_getElem? (i := 176) rfl)
theorem rf_96_10 {sh : ZS} {R : ZR} (h : Wf sh R) : R 96 10 = 107 := h.2.1 (96, 10, 107) (List.mem_of_getElem? (i := 177) rfl)
theorem rf_96_11 {sh : ZS} {R : ZR} (h : Wf sh R) : R 96 11 = 108 := h.2.1 (96, 11, 108) (List.mem_of_getElem? (i := 178) rfl)
theorem rf_96_12 {sh : ZS} {R : ZR} (h : Wf sh R) : R 96 12 = 109 := h.2.1 (96, 12, 109) (List.mem_of_getElem? (i := 179) rfl)
theorem rf_96_13 {sh : ZS} {R : ZR} (h : Wf sh R) : R 96 13 = 110 := h.2.1 (96, 13, 110) (List.mem_of_getElem? (i := 180) rfl)
theorem rf_96_14 {sh : ZS} {R : ZR} (h : Wf sh R) : R 96 14 = 111 := h.2.1 (96, 14, 111) (List.mem_of_getElem? (i := 181) rfl)
theorem rf_96_15 {sh : ZS} {R : ZR} (h : Wf sh R) : R 96 15 = 112 := h.2.1 (96, 15, 112) (List.mem_of_getElem? (i := 182) rfl)
theorem rf_96_16 {sh : ZS} {R : ZR} (h : Wf sh R) : R 96 16 = 113 := h.2.1 (96, 16, 113) (List.mem_of_getElem? (i := 183) rfl)
theorem rf_96_17 {sh : ZS} {R : ZR} (h : Wf sh R) : R 96 17 = 114 := h.2.1 (96, 17, 114) (List.mem_of_getElem? (i := 184) rfl)
theorem rf_96_18 {sh : ZS} {R : ZR} (h : Wf sh R) : R 96 18 = 115 := h.2.1 (96, 18, 115) (List.mem_of_getElem? (i := 185) rfl)
theorem rf_96_19 {sh : ZS} {R : ZR} (h : Wf sh R) : R 96 19 = 116 := h.2.1 (96, 19, 116) (List.mem_of_getElem? (i := 186) rfl)
def St (sh : ZS) (R : ZR) (o : Nat) : Prop := sh o = (17, 9) ∧ sh (o + 1) = (0, 32) ∧ sh (o + 2) = (0, 32) ∧ sh (o + 3) = (0, 32) ∧ sh (o + 4) = (0, 32) ∧ sh (o + 5) = (0, 32) ∧ R o 0 = o + 1 ∧ R o 1 = o + 2 ∧ R o 2 = o + 3 ∧ R o 3 = o + 4 ∧ R o 4 = o + 5
theorem St_18 {sh : ZS} {R : ZR} (h : Wf sh R) : St sh R 18 := ⟨sh_18 h, sh_19 h, sh_20 h, sh_21 h, sh_22 h, sh_23 h, rf_18_0 h, rf_18_1 h, rf_18_2 h, rf_18_3 h, rf_18_4 h⟩
theorem St_24 {sh : ZS} {R : ZR} (h : Wf sh R) : St sh R 24 := ⟨sh_24 h, sh_25 h, sh_26 h, sh_27 h, sh_28 h, sh_29 h, rf_24_0 h, rf_24_1 h, rf_24_2 h, rf_24_3 h, rf_24_4 h⟩
theorem St_30 {sh : ZS} {R : ZR} (h : Wf sh R) : St sh R 30 := ⟨sh_30 h, sh_31 h, sh_32 h, sh_33 h, sh_34 h, sh_35 h, rf_30_0 h, rf_30_1 h, rf_30_2 h, rf_30_3 h, rf_30_4 h⟩
theorem St_36 {sh : ZS} {R : ZR} (h : Wf sh R) : St sh R 36 := ⟨sh_36 h, sh_37 h, sh_38 h, sh_39 h, sh_40 h, sh_41 h, rf_36_0 h, rf_36_1 h, rf_36_2 h, rf_36_3 h, rf_36_4 h⟩
theorem St_122 {sh : ZS} {R : ZR} (h : Wf sh R) : St sh R 122 := ⟨sh_122 h, sh_123 h, sh_124 h, sh_125 h, sh_126 h, sh_127 h, rf_122_0 h, rf_122_1 h, rf_122_2 h, rf_122_3 h, rf_122_4 h⟩
theorem St_128 {sh : ZS} {R : ZR} (h : Wf sh R) : St sh R 128 := ⟨sh_128 h, sh_129 h, sh_130 h, sh_131 h, sh_132 h, sh_133 h, rf_128_0 h, rf_128_1 h, rf_128_2 h, rf_128_3 h, rf_128_4 h⟩
def Lw (sh : ZS) (R : ZR) (o : Nat) : Prop := ¬ o = 0 ∧ sh o = (11, 10) ∧ (sh (o + 1) = (0, 14) ∧ sh (o + 2) = (0, 14) ∧ sh (o + 3) = (0, 14) ∧ sh (o + 4) = (0, 14) ∧ sh (o + 5) = (0, 200) ∧ sh (o + 6) = (0, 200) ∧ sh (o + 7) = (0, 200)) ∧ R o 0 = o + 1 ∧ R o 1 = o + 2 ∧ R o 2 = o + 3 ∧ R o 3 = o + 4 ∧ R o 4 = o + 5 ∧ R o 5 = o + 6 ∧ R o 6 = o + 7
theorem Lw_5 {sh : ZS} {R : ZR} (h : Wf sh R) : Lw sh R 5 := ⟨by decide, sh_5 h, ⟨sh_6 h, sh_7 h, sh_8 h, sh_9 h, sh_10 h, sh_11 h, sh_12 h⟩, rf_5_0 h, rf_5_1 h, rf_5_2 h, rf_5_3 h, rf_5_4 h, rf_5_5 h, rf_5_6 h⟩
theorem Lw_45 {sh : ZS} {R : ZR} (h : Wf sh R) : Lw sh R 45 := ⟨by decide, sh_45 h, ⟨sh_46 h, sh_47 h, sh_48 h, sh_49 h, sh_50 h, sh_51 h, sh_52 h⟩, rf_45_0 h, rf_45_1 h, rf_45_2 h, rf_45_3 h, rf_45_4 h, rf_45_5 h, rf_45_6 h⟩
/-- rows of rows: the outer one, its rows behind it -/
def Kn (sh : ZS) (R : ZR) (q N K : Nat) : Prop := sh q = (2, N) ∧ (∀ i, i < N → R q i = q + 1 + i ∧ sh (q + 1 + i) = (0, K)) ∧ ¬ q = 0
theorem Kn_64 {sh : ZS} {R : ZR} (h : Wf sh R) : Kn sh R 64 10 21 := ⟨sh_64 h, fun i hi => by
  match i, hi with
  | 0, _ => exact ⟨rf_64_0 h, sh_65 h⟩
  | 1, _ => exact ⟨rf_64_1 h, sh_66 h⟩
  | 2, _ => exact ⟨rf_64_2 h, sh_67 h⟩
  | 3, _ => exact ⟨rf_64_3 h, sh_68 h⟩
  | 4, _ => exact ⟨rf_64_4 h, sh_69 h⟩
  | 5, _ => exact ⟨rf_64_5 h, sh_70 h⟩
  | 6, _ => exact ⟨rf_64_6 h, sh_71 h⟩
  | 7, _ => exact ⟨rf_64_7 h, sh_72 h⟩
  | 8, _ => exact ⟨rf_64_8 h, sh_73 h⟩
  | 9, _ => exact ⟨rf_64_9 h, sh_74 h⟩
  | i + 10, hi => exact absurd hi (by omega), by decide⟩
theorem Kn_75 {sh : ZS} {R : ZR} (h : Wf sh R) : Kn sh R 75 20 20 := ⟨sh_75 h, fun i hi => by
  match i, hi with
  | 0, _ => exact ⟨rf_75_0 h, sh_76 h⟩
  | 1, _ => exact ⟨rf_75_1 h, sh_77 h⟩
  | 2, _ => exact ⟨rf_75_2 h, sh_78 h⟩
  | 3, _ => exact ⟨rf_75_3 h, sh_79 h⟩
  | 4, _ => exact ⟨rf_75_4 h, sh_80 h⟩
  | 5, _ => exact ⟨rf_75_5 h, sh_81 h⟩
  | 6, _ => exact ⟨rf_75_6 h, sh_82 h⟩
  | 7, _ => exact ⟨rf_75_7 h, sh_83 h⟩
  | 8, _ => exact ⟨rf_75_8 h, sh_84 h⟩
  | 9, _ => exact ⟨rf_75_9 h, sh_85 h⟩
  | 10, _ => exact ⟨rf_75_10 h, sh_86 h⟩
  | 11, _ => exact ⟨rf_75_11 h, sh_87 h⟩
  | 12, _ => exact ⟨rf_75_12 h, sh_88 h⟩
  | 13, _ => exact ⟨rf_75_13 h, sh_89 h⟩
  | 14, _ => exact ⟨rf_75_14 h, sh_90 h⟩
  | 15, _ => exact ⟨rf_75_15 h, sh_91 h⟩
  | 16, _ => exact ⟨rf_75_16 h, sh_92 h⟩
  | 17, _ => exact ⟨rf_75_17 h, sh_93 h⟩
  | 18, _ => exact ⟨rf_75_18 h, sh_94 h⟩
  | 19, _ => exact ⟨rf_75_19 h, sh_95 h⟩
  | i + 20, hi => exact absurd hi (by omega), by decide⟩
theorem Kn_96 {sh : ZS} {R : ZR} (h : Wf sh R) : Kn sh R 96 20 20 := ⟨sh_96 h, fun i hi => by
  match i, hi with
  | 0, _ => exact ⟨rf_96_0 h, sh_97 h⟩
  | 1, _ => exact ⟨rf_96_1 h, sh_98 h⟩
  | 2, _ => exact ⟨rf_96_2 h, sh_99 h⟩
  | 3, _ => exact ⟨rf_96_3 h, sh_100 h⟩
  | 4, _ => exact ⟨rf_96_4 h, sh_101 h⟩
  | 5, _ => exact ⟨rf_96_5 h, sh_102 h⟩
  | 6, _ => exact ⟨rf_96_6 h, sh_103 h⟩
  | 7, _ => exact ⟨rf_96_7 h, sh_104 h⟩
  | 8, _ => exact ⟨rf_96_8 h, sh_105 h⟩
  | 9, _ => exact ⟨rf_96_9 h, sh_106 h⟩
  | 10, _ => exact ⟨rf_96_10 h, sh_107 h⟩
  | 11, _ => exact ⟨rf_96_11 h, sh_108 h⟩
  | 12, _ => exact ⟨rf_96_12 h, sh_109 h⟩
  | 13, _ => exact ⟨rf_96_13 h, sh_110 h⟩
  | 14, _ => exact ⟨rf_96_14 h, sh_111 h⟩
  | 15, _ => exact ⟨rf_96_15 h, sh_112 h⟩
  | 16, _ => exact ⟨rf_96_16 h, sh_113 h⟩
  | 17, _ => exact ⟨rf_96_17 h, sh_114 h⟩
  | 18, _ => exact ⟨rf_96_18 h, sh_115 h⟩
  | 19, _ => exact ⟨rf_96_19 h, sh_116 h⟩
  | i + 20, hi => exact absurd hi (by omega), by decide⟩
