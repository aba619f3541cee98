theorem d95_0 : decode (zB 95) 0 = .ok (.aload_n 0, 1) := by decide +kernel
theorem d95_1 : decode (zB 95) 1 = .ok (.invokespecial 1, 3) := by decide +kernel
theorem d95_4 : decode (zB 95) 4 = .ok (.aload_n 0, 1) := by decide +kernel
theorem d95_5 : decode (zB 95) 5 = .ok (.new 7, 3) := by decide +kernel
theorem d95_8 : decode (zB 95) 8 = .ok (.dup, 1) := by decide +kernel
theorem d95_9 : decode (zB 95) 9 = .ok (.invokespecial 9, 3) := by decide +kernel
theorem d95_12 : decode (zB 95) 12 = .ok (.putfield 10, 3) := by decide +kernel
theorem d95_15 : decode (zB 95) 15 = .ok (.aload_n 0, 1) := by decide +kernel
theorem d95_16 : decode (zB 95) 16 = .ok (.new 16, 3) := by decide +kernel
theorem d95_19 : decode (zB 95) 19 = .ok (.dup, 1) := by decide +kernel
theorem d95_20 : decode (zB 95) 20 = .ok (.aload_n 0, 1) := by decide +kernel
theorem d95_21 : decode (zB 95) 21 = .ok (.getfield 10, 3) := by decide +kernel
theorem d95_24 : decode (zB 95) 24 = .ok (.getfield 18, 3) := by decide +kernel
theorem d95_27 : decode (zB 95) 27 = .ok (.invokespecial 22, 3) := by decide +kernel
theorem d95_30 : decode (zB 95) 30 = .ok (.putfield 25, 3) := by decide +kernel
theorem d95_33 : decode (zB 95) 33 = .ok (.aload_n 0, 1) := by decide +kernel
theorem d95_34 : decode (zB 95) 34 = .ok (.bipush 20, 2) := by decide +kernel
theorem d95_36 : decode (zB 95) 36 = .ok (.newarray .int, 2) := by decide +kernel
theorem d95_38 : decode (zB 95) 38 = .ok (.putfield 29, 3) := by decide +kernel
theorem d95_41 : decode (zB 95) 41 = .ok (.aload_n 0, 1) := by decide +kernel
theorem d95_42 : decode (zB 95) 42 = .ok (.bipush 32, 2) := by decide +kernel
theorem d95_44 : decode (zB 95) 44 = .ok (.newarray .int, 2) := by decide +kernel
theorem d95_46 : decode (zB 95) 46 = .ok (.putfield 32, 3) := by decide +kernel
theorem d95_49 : decode (zB 95) 49 = .ok (.aload_n 0, 1) := by decide +kernel
theorem d95_50 : decode (zB 95) 50 = .ok (.new 35, 3) := by decide +kernel
theorem d95_53 : decode (zB 95) 53 = .ok (.dup, 1) := by decide +kernel
theorem d95_54 : decode (zB 95) 54 = .ok (.invokespecial 37, 3) := by decide +kernel
theorem d95_57 : decode (zB 95) 57 = .ok (.putfield 38, 3) := by decide +kernel
theorem d95_60 : decode (zB 95) 60 = .ok (.aload_n 0, 1) := by decide +kernel
theorem d95_61 : decode (zB 95) 61 = .ok (.new 42, 3) := by decide +kernel
theorem d95_64 : decode (zB 95) 64 = .ok (.dup, 1) := by decide +kernel
theorem d95_65 : decode (zB 95) 65 = .ok (.invokespecial 44, 3) := by decide +kernel
theorem d95_68 : decode (zB 95) 68 = .ok (.putfield 45, 3) := by decide +kernel
theorem d95_71 : decode (zB 95) 71 = .ok (.aload_n 0, 1) := by decide +kernel
theorem d95_72 : decode (zB 95) 72 = .ok (.new 42, 3) := by decide +kernel
theorem d95_75 : decode (zB 95) 75 = .ok (.dup, 1) := by decide +kernel
theorem d95_76 : decode (zB 95) 76 = .ok (.invokespecial 44, 3) := by decide +kernel
theorem d95_79 : decode (zB 95) 79 = .ok (.putfield 49, 3) := by decide +kernel
theorem d95_82 : decode (zB 95) 82 = .ok (.aload_n 0, 1) := by decide +kernel
theorem d95_83 : decode (zB 95) 83 = .ok (.new 42, 3) := by decide +kernel
theorem d95_86 : decode (zB 95) 86 = .ok (.dup, 1) := by decide +kernel
theorem d95_87 : decode (zB 95) 87 = .ok (.invokespecial 44, 3) := by decide +kernel
theorem d95_90 : decode (zB 95) 90 = .ok (.putfield 52, 3) := by decide +kernel
theorem d95_93 : decode (zB 95) 93 = .ok (.aload_n 0, 1) := by decide +kernel
theorem d95_94 : decode (zB 95) 94 = .ok (.new 42, 3) := by decide +kernel
theorem d95_97 : decode (zB 95) 97 = .ok (.dup, 1) := by decide +kernel
theorem d95_98 : decode (zB 95) 98 = .ok (.invokespecial 44, 3) := by decide +kernel
theorem d95_101 : decode (zB 95) 101 = .ok (.putfield 55, 3) := by decide +kernel
theorem d95_104 : decode (zB 95) 104 = .ok (.aload_n 0, 1) := by decide +kernel
theorem d95_105 : decode (zB 95) 105 = .ok (.new 58, 3) := by decide +kernel
theorem d95_108 : decode (zB 95) 108 = .ok (.dup, 1) := by decide +kernel
theorem d95_109 : decode (zB 95) 109 = .ok (.aload_n 0, 1) := by decide +kernel
theorem d95_110 : decode (zB 95) 110 = .ok (.getfield 29, 3) := by decide +kernel
theorem d95_113 : decode (zB 95) 113 = .ok (.aload_n 0, 1) := by decide +kernel
theorem d95_114 : decode (zB 95) 114 = .ok (.getfield 38, 3) := by decide +kernel
theorem d95_117 : decode (zB 95) 117 = .ok (.invokespecial 60, 3) := by decide +kernel
theorem d95_120 : decode (zB 95) 120 = .ok (.putfield 63, 3) := by decide +kernel
theorem d95_123 : decode (zB 95) 123 = .ok (.aload_n 0, 1) := by decide +kernel
theorem d95_124 : decode (zB 95) 124 = .ok (.new 67, 3) := by decide +kernel
theorem d95_127 : decode (zB 95) 127 = .ok (.dup, 1) := by decide +kernel
theorem d95_128 : decode (zB 95) 128 = .ok (.invokespecial 69, 3) := by decide +kernel
theorem d95_131 : decode (zB 95) 131 = .ok (.putfield 70, 3) := by decide +kernel
theorem d95_134 : decode (zB 95) 134 = .ok (.aload_n 0, 1) := by decide +kernel
theorem d95_135 : decode (zB 95) 135 = .ok (.new 74, 3) := by decide +kernel
theorem d95_138 : decode (zB 95) 138 = .ok (.dup, 1) := by decide +kernel
theorem d95_139 : decode (zB 95) 139 = .ok (.aload_n 0, 1) := by decide +kernel
theorem d95_140 : decode (zB 95) 140 = .ok (.getfield 38, 3) := by decide +kernel
theorem d95_143 : decode (zB 95) 143 = .ok (.aload_n 0, 1) := by decide +kernel
theorem d95_144 : decode (zB 95) 144 = .ok (.getfield 70, 3) := by decide +kernel
theorem d95_147 : decode (zB 95) 147 = .ok (.invokespecial 76, 3) := by decide +kernel
theorem d95_150 : decode (zB 95) 150 = .ok (.putfield 79, 3) := by decide +kernel
theorem d95_153 : decode (zB 95) 153 = .ok (.aload_n 0, 1) := by decide +kernel
theorem d95_154 : decode (zB 95) 154 = .ok (.new 83, 3) := by decide +kernel
theorem d95_157 : decode (zB 95) 157 = .ok (.dup, 1) := by decide +kernel
theorem d95_158 : decode (zB 95) 158 = .ok (.aload_n 0, 1) := by decide +kernel
theorem d95_159 : decode (zB 95) 159 = .ok (.getfield 38, 3) := by decide +kernel
theorem d95_162 : decode (zB 95) 162 = .ok (.invokespecial 85, 3) := by decide +kernel
theorem d95_165 : decode (zB 95) 165 = .ok (.putfield 88, 3) := by decide +kernel
theorem d95_168 : decode (zB 95) 168 = .ok (.aload_n 0, 1) := by decide +kernel
theorem d95_169 : decode (zB 95) 169 = .ok (.new 92, 3) := by decide +kernel
theorem d95_172 : decode (zB 95) 172 = .ok (.dup, 1) := by decide +kernel
theorem d95_173 : decode (zB 95) 173 = .ok (.aload_n 0, 1) := by decide +kernel
theorem d95_174 : decode (zB 95) 174 = .ok (.getfield 38, 3) := by decide +kernel
theorem d95_177 : decode (zB 95) 177 = .ok (.invokespecial 94, 3) := by decide +kernel
theorem d95_180 : decode (zB 95) 180 = .ok (.putfield 95, 3) := by decide +kernel
theorem d95_183 : decode (zB 95) 183 = .ok (.aload_n 0, 1) := by decide +kernel
theorem d95_184 : decode (zB 95) 184 = .ok (.new 99, 3) := by decide +kernel
theorem d95_187 : decode (zB 95) 187 = .ok (.dup, 1) := by decide +kernel
theorem d95_188 : decode (zB 95) 188 = .ok (.aload_n 0, 1) := by decide +kernel
theorem d95_189 : decode (zB 95) 189 = .ok (.getfield 38, 3) := by decide +kernel
theorem d95_192 : decode (zB 95) 192 = .ok (.aload_n 0, 1) := by decide +kernel
theorem d95_193 : decode (zB 95) 193 = .ok (.getfield 63, 3) := by decide +kernel
theorem d95_196 : decode (zB 95) 196 = .ok (.invokespecial 101, 3) := by decide +kernel
theorem d95_199 : decode (zB 95) 199 = .ok (.putfield 104, 3) := by decide +kernel
theorem d95_202 : decode (zB 95) 202 = .ok (.aload_n 0, 1) := by decide +kernel
theorem d95_203 : decode (zB 95) 203 = .ok (.iconst 0, 1) := by decide +kernel
theorem d95_204 : decode (zB 95) 204 = .ok (.putfield 108, 3) := by decide +kernel
theorem d95_207 : decode (zB 95) 207 = .ok (.iconst 0, 1) := by decide +kernel
theorem d95_208 : decode (zB 95) 208 = .ok (.istore_n 1, 1) := by decide +kernel
theorem d95_209 : decode (zB 95) 209 = .ok (.iload_n 1, 1) := by decide +kernel
theorem d95_210 : decode (zB 95) 210 = .ok (.bipush 20, 2) := by decide +kernel
theorem d95_212 : decode (zB 95) 212 = .ok (.if_icmp .ge 16, 3) := by decide +kernel
theorem d95_215 : decode (zB 95) 215 = .ok (.aload_n 0, 1) := by decide +kernel
theorem d95_216 : decode (zB 95) 216 = .ok (.getfield 29, 3) := by decide +kernel
theorem d95_219 : decode (zB 95) 219 = .ok (.iload_n 1, 1) := by decide +kernel
theorem d95_220 : decode (zB 95) 220 = .ok (.iload_n 1, 1) := by decide +kernel
theorem d95_221 : decode (zB 95) 221 = .ok (.iastore, 1) := by decide +kernel
theorem d95_222 : decode (zB 95) 222 = .ok (.iinc 1 1, 3) := by decide +kernel
theorem d95_225 : decode (zB 95) 225 = .ok (.goto (-16), 3) := by decide +kernel
theorem d95_228 : decode (zB 95) 228 = .ok (.return_, 1) := by decide +kernel
theorem d96_0 : decode (zB 96) 0 = .ok (.iload_n 1, 1) := by decide +kernel
theorem d96_1 : decode (zB 96) 1 = .ok (.invokestatic 112, 3) := by decide +kernel
theorem d96_4 : decode (zB 96) 4 = .ok (.ifCond .eq 27, 3) := by decide +kernel
theorem d96_7 : decode (zB 96) 7 = .ok (.iload_n 2, 1) := by decide +kernel
theorem d96_8 : decode (zB 96) 8 = .ok (.ifCond .lt 23, 3) := by decide +kernel
theorem d96_11 : decode (zB 96) 11 = .ok (.iload_n 2, 1) := by decide +kernel
theorem d96_12 : decode (zB 96) 12 = .ok (.bipush 99, 2) := by decide +kernel
theorem d96_14 : decode (zB 96) 14 = .ok (.if_icmp .gt 17, 3) := by decide +kernel
theorem d96_17 : decode (zB 96) 17 = .ok (.iload_n 3, 1) := by decide +kernel
theorem d96_18 : decode (zB 96) 18 = .ok (.ifCond .lt 13, 3) := by decide +kernel
theorem d96_21 : decode (zB 96) 21 = .ok (.iload_n 3, 1) := by decide +kernel
theorem d96_22 : decode (zB 96) 22 = .ok (.bipush 12, 2) := by decide +kernel
theorem d96_24 : decode (zB 96) 24 = .ok (.if_icmp .gt 7, 3) := by decide +kernel
theorem d96_27 : decode (zB 96) 27 = .ok (.iconst 1, 1) := by decide +kernel
theorem d96_28 : decode (zB 96) 28 = .ok (.goto 4, 3) := by decide +kernel
theorem d96_31 : decode (zB 96) 31 = .ok (.iconst 0, 1) := by decide +kernel
theorem d96_32 : decode (zB 96) 32 = .ok (.istore 4, 2) := by decide +kernel
theorem d96_34 : decode (zB 96) 34 = .ok (.iload_n 3, 1) := by decide +kernel
theorem d96_35 : decode (zB 96) 35 = .ok (.ifCond .le 18, 3) := by decide +kernel
theorem d96_38 : decode (zB 96) 38 = .ok (.iload_n 3, 1) := by decide +kernel
theorem d96_39 : decode (zB 96) 39 = .ok (.aload_n 0, 1) := by decide +kernel
theorem d96_40 : decode (zB 96) 40 = .ok (.getfield 45, 3) := by decide +kernel
theorem d96_43 : decode (zB 96) 43 = .ok (.getfield 116, 3) := by decide +kernel
theorem d96_46 : decode (zB 96) 46 = .ok (.if_icmp .gt 7, 3) := by decide +kernel
theorem d96_49 : decode (zB 96) 49 = .ok (.iconst 1, 1) := by decide +kernel
theorem d96_50 : decode (zB 96) 50 = .ok (.goto 4, 3) := by decide +kernel
theorem d96_53 : decode (zB 96) 53 = .ok (.iconst 0, 1) := by decide +kernel
theorem d96_54 : decode (zB 96) 54 = .ok (.istore 5, 2) := by decide +kernel
theorem d96_56 : decode (zB 96) 56 = .ok (.iload 4, 2) := by decide +kernel
theorem d96_58 : decode (zB 96) 58 = .ok (.ifCond .eq 21, 3) := by decide +kernel
theorem d96_61 : decode (zB 96) 61 = .ok (.iload 5, 2) := by decide +kernel
theorem d96_63 : decode (zB 96) 63 = .ok (.ifCond .ne 16, 3) := by decide +kernel
theorem d96_66 : decode (zB 96) 66 = .ok (.aload_n 0, 1) := by decide +kernel
theorem d96_67 : decode (zB 96) 67 = .ok (.getfield 45, 3) := by decide +kernel
theorem d96_70 : decode (zB 96) 70 = .ok (.iload_n 1, 1) := by decide +kernel
theorem d96_71 : decode (zB 96) 71 = .ok (.iload_n 2, 1) := by decide +kernel
theorem d96_72 : decode (zB 96) 72 = .ok (.iload_n 3, 1) := by decide +kernel
theorem d96_73 : decode (zB 96) 73 = .ok (.invokevirtual 120, 3) := by decide +kernel
theorem d96_76 : decode (zB 96) 76 = .ok (.goto 4, 3) := by decide +kernel
theorem d96_79 : decode (zB 96) 79 = .ok (.iconst (-1), 1) := by decide +kernel
theorem d96_80 : decode (zB 96) 80 = .ok (.ireturn, 1) := by decide +kernel
theorem d97_0 : decode (zB 97) 0 = .ok (.iload_n 1, 1) := by decide +kernel
theorem d97_1 : decode (zB 97) 1 = .ok (.invokestatic 112, 3) := by decide +kernel
theorem d97_4 : decode (zB 97) 4 = .ok (.ifCond .eq 10, 3) := by decide +kernel
theorem d97_7 : decode (zB 97) 7 = .ok (.iload_n 2, 1) := by decide +kernel
theorem d97_8 : decode (zB 97) 8 = .ok (.invokestatic 112, 3) := by decide +kernel
theorem d97_11 : decode (zB 97) 11 = .ok (.ifCond .ne 5, 3) := by decide +kernel
theorem d97_14 : decode (zB 97) 14 = .ok (.iconst 0, 1) := by decide +kernel
theorem d97_15 : decode (zB 97) 15 = .ok (.ireturn, 1) := by decide +kernel
theorem d97_16 : decode (zB 97) 16 = .ok (.aload_n 0, 1) := by decide +kernel
theorem d97_17 : decode (zB 97) 17 = .ok (.getfield 29, 3) := by decide +kernel
theorem d97_20 : decode (zB 97) 20 = .ok (.iload_n 1, 1) := by decide +kernel
theorem d97_21 : decode (zB 97) 21 = .ok (.iload_n 2, 1) := by decide +kernel
theorem d97_22 : decode (zB 97) 22 = .ok (.iastore, 1) := by decide +kernel
theorem d97_23 : decode (zB 97) 23 = .ok (.iconst 1, 1) := by decide +kernel
theorem d97_24 : decode (zB 97) 24 = .ok (.ireturn, 1) := by decide +kernel
theorem d98_0 : decode (zB 98) 0 = .ok (.iload_n 1, 1) := by decide +kernel
theorem d98_1 : decode (zB 98) 1 = .ok (.iconst 1, 1) := by decide +kernel
theorem d98_2 : decode (zB 98) 2 = .ok (.if_icmp .lt 20, 3) := by decide +kernel
theorem d98_5 : decode (zB 98) 5 = .ok (.iload_n 1, 1) := by decide +kernel
theorem d98_6 : decode (zB 98) 6 = .ok (.bipush 9, 2) := by decide +kernel
theorem d98_8 : decode (zB 98) 8 = .ok (.if_icmp .gt 14, 3) := by decide +kernel
theorem d98_11 : decode (zB 98) 11 = .ok (.iload_n 2, 1) := by decide +kernel
theorem d98_12 : decode (zB 98) 12 = .ok (.ifCond .lt 10, 3) := by decide +kernel
theorem d98_15 : decode (zB 98) 15 = .ok (.iload_n 2, 1) := by decide +kernel
theorem d98_16 : decode (zB 98) 16 = .ok (.iconst 1, 1) := by decide +kernel
theorem d98_17 : decode (zB 98) 17 = .ok (.iload_n 1, 1) := by decide +kernel
theorem d98_18 : decode (zB 98) 18 = .ok (.ishl, 1) := by decide +kernel
theorem d98_19 : decode (zB 98) 19 = .ok (.if_icmp .lt 5, 3) := by decide +kernel
theorem d98_22 : decode (zB 98) 22 = .ok (.iconst 0, 1) := by decide +kernel
theorem d98_23 : decode (zB 98) 23 = .ok (.ireturn, 1) := by decide +kernel
theorem d98_24 : decode (zB 98) 24 = .ok (.aload_n 0, 1) := by decide +kernel
theorem d98_25 : decode (zB 98) 25 = .ok (.getfield 38, 3) := by decide +kernel
theorem d98_28 : decode (zB 98) 28 = .ok (.iload_n 1, 1) := by decide +kernel
theorem d98_29 : decode (zB 98) 29 = .ok (.putfield 124, 3) := by decide +kernel
theorem d98_32 : decode (zB 98) 32 = .ok (.aload_n 0, 1) := by decide +kernel
theorem d98_33 : decode (zB 98) 33 = .ok (.getfield 38, 3) := by decide +kernel
theorem d98_36 : decode (zB 98) 36 = .ok (.iload_n 2, 1) := by decide +kernel
theorem d98_37 : decode (zB 98) 37 = .ok (.putfield 127, 3) := by decide +kernel
theorem d98_40 : decode (zB 98) 40 = .ok (.iconst 1, 1) := by decide +kernel
theorem d98_41 : decode (zB 98) 41 = .ok (.ireturn, 1) := by decide +kernel
theorem d99_0 : decode (zB 99) 0 = .ok (.aload_n 0, 1) := by decide +kernel
theorem d99_1 : decode (zB 99) 1 = .ok (.getfield 10, 3) := by decide +kernel
theorem d99_4 : decode (zB 99) 4 = .ok (.invokevirtual 130, 3) := by decide +kernel
theorem d99_7 : decode (zB 99) 7 = .ok (.ifCond .ne 5, 3) := by decide +kernel
theorem d99_10 : decode (zB 99) 10 = .ok (.iconst (-1), 1) := by decide +kernel
theorem d99_11 : decode (zB 99) 11 = .ok (.ireturn, 1) := by decide +kernel
theorem d99_12 : decode (zB 99) 12 = .ok (.aload_n 0, 1) := by decide +kernel
theorem d99_13 : decode (zB 99) 13 = .ok (.getfield 10, 3) := by decide +kernel
theorem d99_16 : decode (zB 99) 16 = .ok (.iload_n 1, 1) := by decide +kernel
theorem d99_17 : decode (zB 99) 17 = .ok (.invokevirtual 134, 3) := by decide +kernel
theorem d99_20 : decode (zB 99) 20 = .ok (.aload_n 0, 1) := by decide +kernel
theorem d99_21 : decode (zB 99) 21 = .ok (.getfield 10, 3) := by decide +kernel
theorem d99_24 : decode (zB 99) 24 = .ok (.iload_n 2, 1) := by decide +kernel
theorem d99_25 : decode (zB 99) 25 = .ok (.invokevirtual 134, 3) := by decide +kernel
theorem d99_28 : decode (zB 99) 28 = .ok (.aload_n 0, 1) := by decide +kernel
theorem d99_29 : decode (zB 99) 29 = .ok (.getfield 10, 3) := by decide +kernel
theorem d99_32 : decode (zB 99) 32 = .ok (.iload_n 3, 1) := by decide +kernel
theorem d99_33 : decode (zB 99) 33 = .ok (.invokevirtual 134, 3) := by decide +kernel
theorem d99_36 : decode (zB 99) 36 = .ok (.aload_n 0, 1) := by decide +kernel
theorem d99_37 : decode (zB 99) 37 = .ok (.getfield 10, 3) := by decide +kernel
theorem d99_40 : decode (zB 99) 40 = .ok (.iload 4, 2) := by decide +kernel
theorem d99_42 : decode (zB 99) 42 = .ok (.invokevirtual 134, 3) := by decide +kernel
theorem d99_45 : decode (zB 99) 45 = .ok (.aload_n 0, 1) := by decide +kernel
theorem d99_46 : decode (zB 99) 46 = .ok (.getfield 10, 3) := by decide +kernel
theorem d99_49 : decode (zB 99) 49 = .ok (.iload 5, 2) := by decide +kernel
theorem d99_51 : decode (zB 99) 51 = .ok (.invokevirtual 134, 3) := by decide +kernel
theorem d99_54 : decode (zB 99) 54 = .ok (.aload_n 0, 1) := by decide +kernel
theorem d99_55 : decode (zB 99) 55 = .ok (.getfield 10, 3) := by decide +kernel
theorem d99_58 : decode (zB 99) 58 = .ok (.getfield 138, 3) := by decide +kernel
theorem d99_61 : decode (zB 99) 61 = .ok (.ireturn, 1) := by decide +kernel
theorem d100_0 : decode (zB 100) 0 = .ok (.iload_n 1, 1) := by decide +kernel
theorem d100_1 : decode (zB 100) 1 = .ok (.iconst 1, 1) := by decide +kernel
theorem d100_2 : decode (zB 100) 2 = .ok (.if_icmp .lt 21, 3) := by decide +kernel
theorem d100_5 : decode (zB 100) 5 = .ok (.iload_n 1, 1) := by decide +kernel
theorem d100_6 : decode (zB 100) 6 = .ok (.sipush 200, 3) := by decide +kernel
theorem d100_9 : decode (zB 100) 9 = .ok (.if_icmp .gt 14, 3) := by decide +kernel
theorem d100_12 : decode (zB 100) 12 = .ok (.iload_n 1, 1) := by decide +kernel
theorem d100_13 : decode (zB 100) 13 = .ok (.aload_n 0, 1) := by decide +kernel
theorem d100_14 : decode (zB 100) 14 = .ok (.getfield 10, 3) := by decide +kernel
theorem d100_17 : decode (zB 100) 17 = .ok (.getfield 138, 3) := by decide +kernel
theorem d100_20 : decode (zB 100) 20 = .ok (.if_icmp .le 5, 3) := by decide +kernel
theorem d100_23 : decode (zB 100) 23 = .ok (.iconst (-1), 1) := by decide +kernel
theorem d100_24 : decode (zB 100) 24 = .ok (.ireturn, 1) := by decide +kernel
theorem d100_25 : decode (zB 100) 25 = .ok (.aload_n 0, 1) := by decide +kernel
theorem d100_26 : decode (zB 100) 26 = .ok (.getfield 25, 3) := by decide +kernel
theorem d100_29 : decode (zB 100) 29 = .ok (.iload_n 1, 1) := by decide +kernel
theorem d100_30 : decode (zB 100) 30 = .ok (.invokevirtual 143, 3) := by decide +kernel
theorem d100_33 : decode (zB 100) 33 = .ok (.istore_n 2, 1) := by decide +kernel
theorem d100_34 : decode (zB 100) 34 = .ok (.aload_n 0, 1) := by decide +kernel
theorem d100_35 : decode (zB 100) 35 = .ok (.getfield 10, 3) := by decide +kernel
theorem d100_38 : decode (zB 100) 38 = .ok (.iconst 0, 1) := by decide +kernel
theorem d100_39 : decode (zB 100) 39 = .ok (.putfield 138, 3) := by decide +kernel
theorem d100_42 : decode (zB 100) 42 = .ok (.iload_n 2, 1) := by decide +kernel
theorem d100_43 : decode (zB 100) 43 = .ok (.ifCond .le 24, 3) := by decide +kernel
theorem d100_46 : decode (zB 100) 46 = .ok (.aload_n 0, 1) := by decide +kernel
theorem d100_47 : decode (zB 100) 47 = .ok (.getfield 63, 3) := by decide +kernel
theorem d100_50 : decode (zB 100) 50 = .ok (.aload_n 0, 1) := by decide +kernel
theorem d100_51 : decode (zB 100) 51 = .ok (.getfield 25, 3) := by decide +kernel
theorem d100_54 : decode (zB 100) 54 = .ok (.aload_n 0, 1) := by decide +kernel
theorem d100_55 : decode (zB 100) 55 = .ok (.getfield 63, 3) := by decide +kernel
theorem d100_58 : decode (zB 100) 58 = .ok (.getfield 147, 3) := by decide +kernel
theorem d100_61 : decode (zB 100) 61 = .ok (.invokevirtual 151, 3) := by decide +kernel
theorem d100_64 : decode (zB 100) 64 = .ok (.putfield 147, 3) := by decide +kernel
theorem d100_67 : decode (zB 100) 67 = .ok (.iload_n 2, 1) := by decide +kernel
theorem d100_68 : decode (zB 100) 68 = .ok (.ireturn, 1) := by decide +kernel
theorem d101_0 : decode (zB 101) 0 = .ok (.iload_n 1, 1) := by decide +kernel
theorem d101_1 : decode (zB 101) 1 = .ok (.aload_n 0, 1) := by decide +kernel
theorem d101_2 : decode (zB 101) 2 = .ok (.getfield 45, 3) := by decide +kernel
theorem d101_5 : decode (zB 101) 5 = .ok (.getfield 155, 3) := by decide +kernel
theorem d101_8 : decode (zB 101) 8 = .ok (.if_icmp .ne 14, 3) := by decide +kernel
theorem d101_11 : decode (zB 101) 11 = .ok (.iload_n 1, 1) := by decide +kernel
theorem d101_12 : decode (zB 101) 12 = .ok (.aload_n 0, 1) := by decide +kernel
theorem d101_13 : decode (zB 101) 13 = .ok (.getfield 10, 3) := by decide +kernel
theorem d101_16 : decode (zB 101) 16 = .ok (.getfield 138, 3) := by decide +kernel
theorem d101_19 : decode (zB 101) 19 = .ok (.if_icmp .le 5, 3) := by decide +kernel
theorem d101_22 : decode (zB 101) 22 = .ok (.iconst 0, 1) := by decide +kernel
theorem d101_23 : decode (zB 101) 23 = .ok (.ireturn, 1) := by decide +kernel
theorem d101_24 : decode (zB 101) 24 = .ok (.aload_n 0, 1) := by decide +kernel
theorem d101_25 : decode (zB 101) 25 = .ok (.getfield 10, 3) := by decide +kernel
theorem d101_28 : decode (zB 101) 28 = .ok (.aload_n 0, 1) := by decide +kernel
theorem d101_29 : decode (zB 101) 29 = .ok (.getfield 45, 3) := by decide +kernel
theorem d101_32 : decode (zB 101) 32 = .ok (.invokevirtual 156, 3) := by decide +kernel
theorem d101_35 : decode (zB 101) 35 = .ok (.istore_n 2, 1) := by decide +kernel
theorem d101_36 : decode (zB 101) 36 = .ok (.iload_n 2, 1) := by decide +kernel
theorem d101_37 : decode (zB 101) 37 = .ok (.ifCond .eq 33, 3) := by decide +kernel
theorem d101_40 : decode (zB 101) 40 = .ok (.iconst 0, 1) := by decide +kernel
theorem d101_41 : decode (zB 101) 41 = .ok (.istore_n 3, 1) := by decide +kernel
theorem d101_42 : decode (zB 101) 42 = .ok (.iload_n 3, 1) := by decide +kernel
theorem d101_43 : decode (zB 101) 43 = .ok (.iload_n 1, 1) := by decide +kernel
theorem d101_44 : decode (zB 101) 44 = .ok (.if_icmp .ge 26, 3) := by decide +kernel
theorem d101_47 : decode (zB 101) 47 = .ok (.aload_n 0, 1) := by decide +kernel
theorem d101_48 : decode (zB 101) 48 = .ok (.getfield 45, 3) := by decide +kernel
theorem d101_51 : decode (zB 101) 51 = .ok (.getfield 160, 3) := by decide +kernel
theorem d101_54 : decode (zB 101) 54 = .ok (.iload_n 3, 1) := by decide +kernel
theorem d101_55 : decode (zB 101) 55 = .ok (.aload_n 0, 1) := by decide +kernel
theorem d101_56 : decode (zB 101) 56 = .ok (.getfield 10, 3) := by decide +kernel
theorem d101_59 : decode (zB 101) 59 = .ok (.iload_n 3, 1) := by decide +kernel
theorem d101_60 : decode (zB 101) 60 = .ok (.invokevirtual 163, 3) := by decide +kernel
theorem d101_63 : decode (zB 101) 63 = .ok (.iastore, 1) := by decide +kernel
theorem d101_64 : decode (zB 101) 64 = .ok (.iinc 3 1, 3) := by decide +kernel
theorem d101_67 : decode (zB 101) 67 = .ok (.goto (-25), 3) := by decide +kernel
theorem d101_70 : decode (zB 101) 70 = .ok (.aload_n 0, 1) := by decide +kernel
theorem d101_71 : decode (zB 101) 71 = .ok (.getfield 10, 3) := by decide +kernel
theorem d101_74 : decode (zB 101) 74 = .ok (.iconst 0, 1) := by decide +kernel
theorem d101_75 : decode (zB 101) 75 = .ok (.putfield 138, 3) := by decide +kernel
theorem d101_78 : decode (zB 101) 78 = .ok (.iload_n 2, 1) := by decide +kernel
theorem d101_79 : decode (zB 101) 79 = .ok (.ireturn, 1) := by decide +kernel
theorem d102_0 : decode (zB 102) 0 = .ok (.aload_n 0, 1) := by decide +kernel
theorem d102_1 : decode (zB 102) 1 = .ok (.iload_n 1, 1) := by decide +kernel
theorem d102_2 : decode (zB 102) 2 = .ok (.invokevirtual 166, 3) := by decide +kernel
theorem d102_5 : decode (zB 102) 5 = .ok (.ifCond .ne 5, 3) := by decide +kernel
theorem d102_8 : decode (zB 102) 8 = .ok (.iconst (-1), 1) := by decide +kernel
theorem d102_9 : decode (zB 102) 9 = .ok (.ireturn, 1) := by decide +kernel
theorem d102_10 : decode (zB 102) 10 = .ok (.aload_n 0, 1) := by decide +kernel
theorem d102_11 : decode (zB 102) 11 = .ok (.getfield 45, 3) := by decide +kernel
theorem d102_14 : decode (zB 102) 14 = .ok (.iload_n 1, 1) := by decide +kernel
theorem d102_15 : decode (zB 102) 15 = .ok (.invokevirtual 169, 3) := by decide +kernel
theorem d102_18 : decode (zB 102) 18 = .ok (.istore_n 3, 1) := by decide +kernel
theorem d102_19 : decode (zB 102) 19 = .ok (.iload_n 2, 1) := by decide +kernel
theorem d102_20 : decode (zB 102) 20 = .ok (.tableswitch 92 0 4 #[36, 46, 56, 67, 77], 36) := by decide +kernel
theorem d102_56 : decode (zB 102) 56 = .ok (.aload_n 0, 1) := by decide +kernel
theorem d102_57 : decode (zB 102) 57 = .ok (.getfield 45, 3) := by decide +kernel
theorem d102_60 : decode (zB 102) 60 = .ok (.getfield 172, 3) := by decide +kernel
theorem d102_63 : decode (zB 102) 63 = .ok (.iload_n 1, 1) := by decide +kernel
theorem d102_64 : decode (zB 102) 64 = .ok (.iaload, 1) := by decide +kernel
theorem d102_65 : decode (zB 102) 65 = .ok (.ireturn, 1) := by decide +kernel
theorem d102_66 : decode (zB 102) 66 = .ok (.aload_n 0, 1) := by decide +kernel
theorem d102_67 : decode (zB 102) 67 = .ok (.getfield 45, 3) := by decide +kernel
theorem d102_70 : decode (zB 102) 70 = .ok (.getfield 175, 3) := by decide +kernel
theorem d102_73 : decode (zB 102) 73 = .ok (.iload_n 1, 1) := by decide +kernel
theorem d102_74 : decode (zB 102) 74 = .ok (.iaload, 1) := by decide +kernel
theorem d102_75 : decode (zB 102) 75 = .ok (.ireturn, 1) := by decide +kernel
theorem d102_76 : decode (zB 102) 76 = .ok (.iload_n 3, 1) := by decide +kernel
theorem d102_77 : decode (zB 102) 77 = .ok (.ifCond .ge 8, 3) := by decide +kernel
theorem d102_80 : decode (zB 102) 80 = .ok (.bipush (-2), 2) := by decide +kernel
theorem d102_82 : decode (zB 102) 82 = .ok (.goto 4, 3) := by decide +kernel
theorem d102_85 : decode (zB 102) 85 = .ok (.iload_n 3, 1) := by decide +kernel
theorem d102_86 : decode (zB 102) 86 = .ok (.ireturn, 1) := by decide +kernel
theorem d102_87 : decode (zB 102) 87 = .ok (.aload_n 0, 1) := by decide +kernel
theorem d102_88 : decode (zB 102) 88 = .ok (.getfield 45, 3) := by decide +kernel
theorem d102_91 : decode (zB 102) 91 = .ok (.getfield 178, 3) := by decide +kernel
theorem d102_94 : decode (zB 102) 94 = .ok (.iload_n 1, 1) := by decide +kernel
theorem d102_95 : decode (zB 102) 95 = .ok (.iaload, 1) := by decide +kernel
theorem d102_96 : decode (zB 102) 96 = .ok (.ireturn, 1) := by decide +kernel
theorem d102_97 : decode (zB 102) 97 = .ok (.iload_n 3, 1) := by decide +kernel
theorem d102_98 : decode (zB 102) 98 = .ok (.ifCond .ge 8, 3) := by decide +kernel
theorem d102_101 : decode (zB 102) 101 = .ok (.bipush (-2), 2) := by decide +kernel
theorem d102_103 : decode (zB 102) 103 = .ok (.goto 8, 3) := by decide +kernel
theorem d102_106 : decode (zB 102) 106 = .ok (.aload_n 0, 1) := by decide +kernel
theorem d102_107 : decode (zB 102) 107 = .ok (.iload_n 3, 1) := by decide +kernel
theorem d102_108 : decode (zB 102) 108 = .ok (.invokevirtual 181, 3) := by decide +kernel
theorem d102_111 : decode (zB 102) 111 = .ok (.ireturn, 1) := by decide +kernel
theorem d102_112 : decode (zB 102) 112 = .ok (.iconst (-1), 1) := by decide +kernel
theorem d102_113 : decode (zB 102) 113 = .ok (.ireturn, 1) := by decide +kernel
theorem d103_0 : decode (zB 103) 0 = .ok (.iload_n 1, 1) := by decide +kernel
theorem d103_1 : decode (zB 103) 1 = .ok (.ifCond .lt 26, 3) := by decide +kernel
theorem d103_4 : decode (zB 103) 4 = .ok (.iload_n 1, 1) := by decide +kernel
theorem d103_5 : decode (zB 103) 5 = .ok (.aload_n 0, 1) := by decide +kernel
theorem d103_6 : decode (zB 103) 6 = .ok (.getfield 45, 3) := by decide +kernel
theorem d103_9 : decode (zB 103) 9 = .ok (.getfield 155, 3) := by decide +kernel
theorem d103_12 : decode (zB 103) 12 = .ok (.if_icmp .ge 15, 3) := by decide +kernel
theorem d103_15 : decode (zB 103) 15 = .ok (.aload_n 0, 1) := by decide +kernel
theorem d103_16 : decode (zB 103) 16 = .ok (.getfield 45, 3) := by decide +kernel
theorem d103_19 : decode (zB 103) 19 = .ok (.getfield 160, 3) := by decide +kernel
theorem d103_22 : decode (zB 103) 22 = .ok (.iload_n 1, 1) := by decide +kernel
theorem d103_23 : decode (zB 103) 23 = .ok (.iaload, 1) := by decide +kernel
theorem d103_24 : decode (zB 103) 24 = .ok (.goto 4, 3) := by decide +kernel
theorem d103_27 : decode (zB 103) 27 = .ok (.iconst (-1), 1) := by decide +kernel
theorem d103_28 : decode (zB 103) 28 = .ok (.ireturn, 1) := by decide +kernel
theorem d104_0 : decode (zB 104) 0 = .ok (.aload_n 0, 1) := by decide +kernel
theorem d104_1 : decode (zB 104) 1 = .ok (.iload_n 1, 1) := by decide +kernel
theorem d104_2 : decode (zB 104) 2 = .ok (.bipush 12, 2) := by decide +kernel
theorem d104_4 : decode (zB 104) 4 = .ok (.invokevirtual 184, 3) := by decide +kernel
theorem d104_7 : decode (zB 104) 7 = .ok (.ifCond .ne 5, 3) := by decide +kernel
theorem d104_10 : decode (zB 104) 10 = .ok (.iconst (-1), 1) := by decide +kernel
theorem d104_11 : decode (zB 104) 11 = .ok (.ireturn, 1) := by decide +kernel
theorem d104_12 : decode (zB 104) 12 = .ok (.aload_n 0, 1) := by decide +kernel
theorem d104_13 : decode (zB 104) 13 = .ok (.getfield 63, 3) := by decide +kernel
theorem d104_16 : decode (zB 104) 16 = .ok (.aload_n 0, 1) := by decide +kernel
theorem d104_17 : decode (zB 104) 17 = .ok (.getfield 45, 3) := by decide +kernel
theorem d104_20 : decode (zB 104) 20 = .ok (.iload_n 1, 1) := by decide +kernel
theorem d104_21 : decode (zB 104) 21 = .ok (.invokevirtual 188, 3) := by decide +kernel
theorem d104_24 : decode (zB 104) 24 = .ok (.aload_n 0, 1) := by decide +kernel
theorem d104_25 : decode (zB 104) 25 = .ok (.getfield 63, 3) := by decide +kernel
theorem d104_28 : decode (zB 104) 28 = .ok (.getfield 192, 3) := by decide +kernel
theorem d104_31 : decode (zB 104) 31 = .ok (.ireturn, 1) := by decide +kernel
theorem d105_0 : decode (zB 105) 0 = .ok (.iload_n 2, 1) := by decide +kernel
theorem d105_1 : decode (zB 105) 1 = .ok (.bipush 10, 2) := by decide +kernel
theorem d105_3 : decode (zB 105) 3 = .ok (.if_icmp .lt 13, 3) := by decide +kernel
theorem d105_6 : decode (zB 105) 6 = .ok (.iload_n 2, 1) := by decide +kernel
theorem d105_7 : decode (zB 105) 7 = .ok (.bipush 42, 2) := by decide +kernel
theorem d105_9 : decode (zB 105) 9 = .ok (.if_icmp .ge 7, 3) := by decide +kernel
theorem d105_12 : decode (zB 105) 12 = .ok (.iconst 1, 1) := by decide +kernel
theorem d105_13 : decode (zB 105) 13 = .ok (.goto 4, 3) := by decide +kernel
theorem d105_16 : decode (zB 105) 16 = .ok (.iconst 0, 1) := by decide +kernel
theorem d105_17 : decode (zB 105) 17 = .ok (.istore_n 3, 1) := by decide +kernel
theorem d105_18 : decode (zB 105) 18 = .ok (.iload_n 3, 1) := by decide +kernel
theorem d105_19 : decode (zB 105) 19 = .ok (.ifCond .ne 12, 3) := by decide +kernel
theorem d105_22 : decode (zB 105) 22 = .ok (.iload_n 2, 1) := by decide +kernel
theorem d105_23 : decode (zB 105) 23 = .ok (.ifCond .lt 12, 3) := by decide +kernel
theorem d105_26 : decode (zB 105) 26 = .ok (.iload_n 2, 1) := by decide +kernel
theorem d105_27 : decode (zB 105) 27 = .ok (.iconst 3, 1) := by decide +kernel
theorem d105_28 : decode (zB 105) 28 = .ok (.if_icmp .gt 7, 3) := by decide +kernel
theorem d105_31 : decode (zB 105) 31 = .ok (.iconst 1, 1) := by decide +kernel
theorem d105_32 : decode (zB 105) 32 = .ok (.goto 4, 3) := by decide +kernel
theorem d105_35 : decode (zB 105) 35 = .ok (.iconst 0, 1) := by decide +kernel
theorem d105_36 : decode (zB 105) 36 = .ok (.istore 4, 2) := by decide +kernel
theorem d105_38 : decode (zB 105) 38 = .ok (.iload 4, 2) := by decide +kernel
theorem d105_40 : decode (zB 105) 40 = .ok (.ifCond .eq 13, 3) := by decide +kernel
theorem d105_43 : decode (zB 105) 43 = .ok (.aload_n 0, 1) := by decide +kernel
theorem d105_44 : decode (zB 105) 44 = .ok (.iload_n 1, 1) := by decide +kernel
theorem d105_45 : decode (zB 105) 45 = .ok (.bipush 12, 2) := by decide +kernel
theorem d105_47 : decode (zB 105) 47 = .ok (.invokevirtual 184, 3) := by decide +kernel
theorem d105_50 : decode (zB 105) 50 = .ok (.ifCond .ne 5, 3) := by decide +kernel
theorem d105_53 : decode (zB 105) 53 = .ok (.iconst (-1), 1) := by decide +kernel
theorem d105_54 : decode (zB 105) 54 = .ok (.ireturn, 1) := by decide +kernel
theorem d105_55 : decode (zB 105) 55 = .ok (.aload_n 0, 1) := by decide +kernel
theorem d105_56 : decode (zB 105) 56 = .ok (.getfield 52, 3) := by decide +kernel
theorem d105_59 : decode (zB 105) 59 = .ok (.aload_n 0, 1) := by decide +kernel
theorem d105_60 : decode (zB 105) 60 = .ok (.getfield 45, 3) := by decide +kernel
theorem d105_63 : decode (zB 105) 63 = .ok (.invokevirtual 195, 3) := by decide +kernel
theorem d105_66 : decode (zB 105) 66 = .ok (.aload_n 0, 1) := by decide +kernel
theorem d105_67 : decode (zB 105) 67 = .ok (.getfield 63, 3) := by decide +kernel
theorem d105_70 : decode (zB 105) 70 = .ok (.aload_n 0, 1) := by decide +kernel
theorem d105_71 : decode (zB 105) 71 = .ok (.getfield 52, 3) := by decide +kernel
theorem d105_74 : decode (zB 105) 74 = .ok (.iload_n 1, 1) := by decide +kernel
theorem d105_75 : decode (zB 105) 75 = .ok (.invokevirtual 188, 3) := by decide +kernel
theorem d105_78 : decode (zB 105) 78 = .ok (.iload_n 2, 1) := by decide +kernel
theorem d105_79 : decode (zB 105) 79 = .ok (.tableswitch 62 0 3 #[29, 37, 45, 53], 29) := by decide +kernel
theorem d105_108 : decode (zB 105) 108 = .ok (.aload_n 0, 1) := by decide +kernel
theorem d105_109 : decode (zB 105) 109 = .ok (.getfield 63, 3) := by decide +kernel
theorem d105_112 : decode (zB 105) 112 = .ok (.getfield 192, 3) := by decide +kernel
theorem d105_115 : decode (zB 105) 115 = .ok (.ireturn, 1) := by decide +kernel
theorem d105_116 : decode (zB 105) 116 = .ok (.aload_n 0, 1) := by decide +kernel
theorem d105_117 : decode (zB 105) 117 = .ok (.getfield 63, 3) := by decide +kernel
theorem d105_120 : decode (zB 105) 120 = .ok (.getfield 199, 3) := by decide +kernel
theorem d105_123 : decode (zB 105) 123 = .ok (.ireturn, 1) := by decide +kernel
theorem d105_124 : decode (zB 105) 124 = .ok (.aload_n 0, 1) := by decide +kernel
theorem d105_125 : decode (zB 105) 125 = .ok (.getfield 63, 3) := by decide +kernel
theorem d105_128 : decode (zB 105) 128 = .ok (.getfield 202, 3) := by decide +kernel
theorem d105_131 : decode (zB 105) 131 = .ok (.ireturn, 1) := by decide +kernel
theorem d105_132 : decode (zB 105) 132 = .ok (.aload_n 0, 1) := by decide +kernel
theorem d105_133 : decode (zB 105) 133 = .ok (.aload_n 0, 1) := by decide +kernel
theorem d105_134 : decode (zB 105) 134 = .ok (.getfield 52, 3) := by decide +kernel
theorem d105_137 : decode (zB 105) 137 = .ok (.invokevirtual 205, 3) := by decide +kernel
theorem d105_140 : decode (zB 105) 140 = .ok (.ireturn, 1) := by decide +kernel
theorem d105_141 : decode (zB 105) 141 = .ok (.iload_n 2, 1) := by decide +kernel
theorem d105_142 : decode (zB 105) 142 = .ok (.bipush 10, 2) := by decide +kernel
theorem d105_144 : decode (zB 105) 144 = .ok (.isub, 1) := by decide +kernel
theorem d105_145 : decode (zB 105) 145 = .ok (.aload_n 0, 1) := by decide +kernel
theorem d105_146 : decode (zB 105) 146 = .ok (.getfield 52, 3) := by decide +kernel
theorem d105_149 : decode (zB 105) 149 = .ok (.getfield 155, 3) := by decide +kernel
theorem d105_152 : decode (zB 105) 152 = .ok (.if_icmp .ge 18, 3) := by decide +kernel
theorem d105_155 : decode (zB 105) 155 = .ok (.aload_n 0, 1) := by decide +kernel
theorem d105_156 : decode (zB 105) 156 = .ok (.getfield 52, 3) := by decide +kernel
theorem d105_159 : decode (zB 105) 159 = .ok (.getfield 160, 3) := by decide +kernel
theorem d105_162 : decode (zB 105) 162 = .ok (.iload_n 2, 1) := by decide +kernel
theorem d105_163 : decode (zB 105) 163 = .ok (.bipush 10, 2) := by decide +kernel
theorem d105_165 : decode (zB 105) 165 = .ok (.isub, 1) := by decide +kernel
theorem d105_166 : decode (zB 105) 166 = .ok (.iaload, 1) := by decide +kernel
theorem d105_167 : decode (zB 105) 167 = .ok (.goto 5, 3) := by decide +kernel
theorem d105_170 : decode (zB 105) 170 = .ok (.bipush (-2), 2) := by decide +kernel
theorem d105_172 : decode (zB 105) 172 = .ok (.ireturn, 1) := by decide +kernel
theorem d106_0 : decode (zB 106) 0 = .ok (.aload_n 0, 1) := by decide +kernel
theorem d106_1 : decode (zB 106) 1 = .ok (.aload_n 0, 1) := by decide +kernel
theorem d106_2 : decode (zB 106) 2 = .ok (.getfield 45, 3) := by decide +kernel
theorem d106_5 : decode (zB 106) 5 = .ok (.invokevirtual 205, 3) := by decide +kernel
theorem d106_8 : decode (zB 106) 8 = .ok (.ireturn, 1) := by decide +kernel
theorem d107_0 : decode (zB 107) 0 = .ok (.iload_n 1, 1) := by decide +kernel
theorem d107_1 : decode (zB 107) 1 = .ok (.iconst 1, 1) := by decide +kernel
theorem d107_2 : decode (zB 107) 2 = .ok (.if_icmp .lt 21, 3) := by decide +kernel
theorem d107_5 : decode (zB 107) 5 = .ok (.iload_n 1, 1) := by decide +kernel
theorem d107_6 : decode (zB 107) 6 = .ok (.sipush 10000, 3) := by decide +kernel
theorem d107_9 : decode (zB 107) 9 = .ok (.if_icmp .gt 14, 3) := by decide +kernel
theorem d107_12 : decode (zB 107) 12 = .ok (.iload_n 2, 1) := by decide +kernel
theorem d107_13 : decode (zB 107) 13 = .ok (.iconst 1, 1) := by decide +kernel
theorem d107_14 : decode (zB 107) 14 = .ok (.if_icmp .lt 9, 3) := by decide +kernel
theorem d107_17 : decode (zB 107) 17 = .ok (.iload_n 2, 1) := by decide +kernel
theorem d107_18 : decode (zB 107) 18 = .ok (.bipush 9, 2) := by decide +kernel
theorem d107_20 : decode (zB 107) 20 = .ok (.if_icmp .le 5, 3) := by decide +kernel
theorem d107_23 : decode (zB 107) 23 = .ok (.iconst (-1), 1) := by decide +kernel
theorem d107_24 : decode (zB 107) 24 = .ok (.ireturn, 1) := by decide +kernel
theorem d107_25 : decode (zB 107) 25 = .ok (.iload_n 2, 1) := by decide +kernel
theorem d107_26 : decode (zB 107) 26 = .ok (.iconst 1, 1) := by decide +kernel
theorem d107_27 : decode (zB 107) 27 = .ok (.if_icmp .ne 15, 3) := by decide +kernel
theorem d107_30 : decode (zB 107) 30 = .ok (.iload_n 1, 1) := by decide +kernel
theorem d107_31 : decode (zB 107) 31 = .ok (.iconst 1, 1) := by decide +kernel
theorem d107_32 : decode (zB 107) 32 = .ok (.if_icmp .ne 7, 3) := by decide +kernel
theorem d107_35 : decode (zB 107) 35 = .ok (.iconst 0, 1) := by decide +kernel
theorem d107_36 : decode (zB 107) 36 = .ok (.goto 5, 3) := by decide +kernel
theorem d107_39 : decode (zB 107) 39 = .ok (.bipush (-2), 2) := by decide +kernel
theorem d107_41 : decode (zB 107) 41 = .ok (.ireturn, 1) := by decide +kernel
theorem d107_42 : decode (zB 107) 42 = .ok (.iconst 0, 1) := by decide +kernel
theorem d107_43 : decode (zB 107) 43 = .ok (.istore_n 3, 1) := by decide +kernel
theorem d107_44 : decode (zB 107) 44 = .ok (.iconst 1, 1) := by decide +kernel
theorem d107_45 : decode (zB 107) 45 = .ok (.istore 4, 2) := by decide +kernel
theorem d107_47 : decode (zB 107) 47 = .ok (.iload 4, 2) := by decide +kernel
theorem d107_49 : decode (zB 107) 49 = .ok (.iload_n 1, 1) := by decide +kernel
theorem d107_50 : decode (zB 107) 50 = .ok (.if_icmp .ge 15, 3) := by decide +kernel
theorem d107_53 : decode (zB 107) 53 = .ok (.iinc 3 1, 3) := by decide +kernel
theorem d107_56 : decode (zB 107) 56 = .ok (.iload 4, 2) := by decide +kernel
theorem d107_58 : decode (zB 107) 58 = .ok (.iload_n 2, 1) := by decide +kernel
theorem d107_59 : decode (zB 107) 59 = .ok (.imul, 1) := by decide +kernel
theorem d107_60 : decode (zB 107) 60 = .ok (.istore 4, 2) := by decide +kernel
theorem d107_62 : decode (zB 107) 62 = .ok (.goto (-15), 3) := by decide +kernel
theorem d107_65 : decode (zB 107) 65 = .ok (.iload_n 3, 1) := by decide +kernel
theorem d107_66 : decode (zB 107) 66 = .ok (.ireturn, 1) := by decide +kernel
theorem d108_0 : decode (zB 108) 0 = .ok (.iload_n 1, 1) := by decide +kernel
theorem d108_1 : decode (zB 108) 1 = .ok (.ifCond .eq 10, 3) := by decide +kernel
theorem d108_4 : decode (zB 108) 4 = .ok (.iload_n 1, 1) := by decide +kernel
theorem d108_5 : decode (zB 108) 5 = .ok (.iconst 1, 1) := by decide +kernel
theorem d108_6 : decode (zB 108) 6 = .ok (.if_icmp .eq 5, 3) := by decide +kernel
theorem d108_9 : decode (zB 108) 9 = .ok (.iconst (-1), 1) := by decide +kernel
theorem d108_10 : decode (zB 108) 10 = .ok (.ireturn, 1) := by decide +kernel
theorem d108_11 : decode (zB 108) 11 = .ok (.aload_n 0, 1) := by decide +kernel
theorem d108_12 : decode (zB 108) 12 = .ok (.invokevirtual 209, 3) := by decide +kernel
theorem d108_15 : decode (zB 108) 15 = .ok (.aload_n 0, 1) := by decide +kernel
theorem d108_16 : decode (zB 108) 16 = .ok (.getfield 70, 3) := by decide +kernel
theorem d108_19 : decode (zB 108) 19 = .ok (.iload_n 1, 1) := by decide +kernel
theorem d108_20 : decode (zB 108) 20 = .ok (.ifCond .ne 7, 3) := by decide +kernel
theorem d108_23 : decode (zB 108) 23 = .ok (.iconst 1, 1) := by decide +kernel
theorem d108_24 : decode (zB 108) 24 = .ok (.goto 4, 3) := by decide +kernel
theorem d108_27 : decode (zB 108) 27 = .ok (.iconst 0, 1) := by decide +kernel
theorem d108_28 : decode (zB 108) 28 = .ok (.invokevirtual 212, 3) := by decide +kernel
theorem d108_31 : decode (zB 108) 31 = .ok (.ireturn, 1) := by decide +kernel
theorem d109_0 : decode (zB 109) 0 = .ok (.aload_n 0, 1) := by decide +kernel
theorem d109_1 : decode (zB 109) 1 = .ok (.invokevirtual 216, 3) := by decide +kernel
theorem d109_4 : decode (zB 109) 4 = .ok (.ireturn, 1) := by decide +kernel
theorem d110_0 : decode (zB 110) 0 = .ok (.aload_n 0, 1) := by decide +kernel
theorem d110_1 : decode (zB 110) 1 = .ok (.iload_n 1, 1) := by decide +kernel
theorem d110_2 : decode (zB 110) 2 = .ok (.invokevirtual 166, 3) := by decide +kernel
theorem d110_5 : decode (zB 110) 5 = .ok (.ifCond .ne 5, 3) := by decide +kernel
theorem d110_8 : decode (zB 110) 8 = .ok (.iconst (-1), 1) := by decide +kernel
theorem d110_9 : decode (zB 110) 9 = .ok (.ireturn, 1) := by decide +kernel
theorem d110_10 : decode (zB 110) 10 = .ok (.aload_n 0, 1) := by decide +kernel
theorem d110_11 : decode (zB 110) 11 = .ok (.invokevirtual 216, 3) := by decide +kernel
theorem d110_14 : decode (zB 110) 14 = .ok (.istore_n 3, 1) := by decide +kernel
theorem d110_15 : decode (zB 110) 15 = .ok (.aload_n 0, 1) := by decide +kernel
theorem d110_16 : decode (zB 110) 16 = .ok (.getfield 45, 3) := by decide +kernel
theorem d110_19 : decode (zB 110) 19 = .ok (.iload_n 1, 1) := by decide +kernel
theorem d110_20 : decode (zB 110) 20 = .ok (.invokevirtual 169, 3) := by decide +kernel
theorem d110_23 : decode (zB 110) 23 = .ok (.ifCond .lt 12, 3) := by decide +kernel
theorem d110_26 : decode (zB 110) 26 = .ok (.iload_n 2, 1) := by decide +kernel
theorem d110_27 : decode (zB 110) 27 = .ok (.ifCond .lt 8, 3) := by decide +kernel
theorem d110_30 : decode (zB 110) 30 = .ok (.iload_n 2, 1) := by decide +kernel
theorem d110_31 : decode (zB 110) 31 = .ok (.iload_n 3, 1) := by decide +kernel
theorem d110_32 : decode (zB 110) 32 = .ok (.if_icmp .lt 6, 3) := by decide +kernel
theorem d110_35 : decode (zB 110) 35 = .ok (.bipush (-2), 2) := by decide +kernel
theorem d110_37 : decode (zB 110) 37 = .ok (.ireturn, 1) := by decide +kernel
theorem d110_38 : decode (zB 110) 38 = .ok (.aload_n 0, 1) := by decide +kernel
theorem d110_39 : decode (zB 110) 39 = .ok (.getfield 79, 3) := by decide +kernel
theorem d110_42 : decode (zB 110) 42 = .ok (.aload_n 0, 1) := by decide +kernel
theorem d110_43 : decode (zB 110) 43 = .ok (.getfield 29, 3) := by decide +kernel
theorem d110_46 : decode (zB 110) 46 = .ok (.aload_n 0, 1) := by decide +kernel
theorem d110_47 : decode (zB 110) 47 = .ok (.getfield 45, 3) := by decide +kernel
theorem d110_50 : decode (zB 110) 50 = .ok (.getfield 172, 3) := by decide +kernel
theorem d110_53 : decode (zB 110) 53 = .ok (.iload_n 1, 1) := by decide +kernel
theorem d110_54 : decode (zB 110) 54 = .ok (.iaload, 1) := by decide +kernel
theorem d110_55 : decode (zB 110) 55 = .ok (.iaload, 1) := by decide +kernel
theorem d110_56 : decode (zB 110) 56 = .ok (.iload_n 2, 1) := by decide +kernel
theorem d110_57 : decode (zB 110) 57 = .ok (.invokevirtual 220, 3) := by decide +kernel
theorem d110_60 : decode (zB 110) 60 = .ok (.ireturn, 1) := by decide +kernel
theorem d111_0 : decode (zB 111) 0 = .ok (.aload_n 0, 1) := by decide +kernel
theorem d111_1 : decode (zB 111) 1 = .ok (.invokevirtual 216, 3) := by decide +kernel
theorem d111_4 : decode (zB 111) 4 = .ok (.istore_n 1, 1) := by decide +kernel
theorem d111_5 : decode (zB 111) 5 = .ok (.iconst 0, 1) := by decide +kernel
theorem d111_6 : decode (zB 111) 6 = .ok (.istore_n 2, 1) := by decide +kernel
theorem d111_7 : decode (zB 111) 7 = .ok (.iload_n 2, 1) := by decide +kernel
theorem d111_8 : decode (zB 111) 8 = .ok (.iload_n 1, 1) := by decide +kernel
theorem d111_9 : decode (zB 111) 9 = .ok (.if_icmp .ge 76, 3) := by decide +kernel
theorem d111_12 : decode (zB 111) 12 = .ok (.iconst 0, 1) := by decide +kernel
theorem d111_13 : decode (zB 111) 13 = .ok (.istore_n 3, 1) := by decide +kernel
theorem d111_14 : decode (zB 111) 14 = .ok (.iload_n 3, 1) := by decide +kernel
theorem d111_15 : decode (zB 111) 15 = .ok (.aload_n 0, 1) := by decide +kernel
theorem d111_16 : decode (zB 111) 16 = .ok (.getfield 45, 3) := by decide +kernel
theorem d111_19 : decode (zB 111) 19 = .ok (.getfield 155, 3) := by decide +kernel
theorem d111_22 : decode (zB 111) 22 = .ok (.if_icmp .ge 39, 3) := by decide +kernel
theorem d111_25 : decode (zB 111) 25 = .ok (.aload_n 0, 1) := by decide +kernel
theorem d111_26 : decode (zB 111) 26 = .ok (.getfield 63, 3) := by decide +kernel
theorem d111_29 : decode (zB 111) 29 = .ok (.getfield 224, 3) := by decide +kernel
theorem d111_32 : decode (zB 111) 32 = .ok (.iload_n 3, 1) := by decide +kernel
theorem d111_33 : decode (zB 111) 33 = .ok (.aload_n 0, 1) := by decide +kernel
theorem d111_34 : decode (zB 111) 34 = .ok (.getfield 79, 3) := by decide +kernel
theorem d111_37 : decode (zB 111) 37 = .ok (.aload_n 0, 1) := by decide +kernel
theorem d111_38 : decode (zB 111) 38 = .ok (.getfield 29, 3) := by decide +kernel
theorem d111_41 : decode (zB 111) 41 = .ok (.aload_n 0, 1) := by decide +kernel
theorem d111_42 : decode (zB 111) 42 = .ok (.getfield 45, 3) := by decide +kernel
theorem d111_45 : decode (zB 111) 45 = .ok (.iload_n 3, 1) := by decide +kernel
theorem d111_46 : decode (zB 111) 46 = .ok (.invokevirtual 227, 3) := by decide +kernel
theorem d111_49 : decode (zB 111) 49 = .ok (.iaload, 1) := by decide +kernel
theorem d111_50 : decode (zB 111) 50 = .ok (.iload_n 2, 1) := by decide +kernel
theorem d111_51 : decode (zB 111) 51 = .ok (.invokevirtual 220, 3) := by decide +kernel
theorem d111_54 : decode (zB 111) 54 = .ok (.iastore, 1) := by decide +kernel
theorem d111_55 : decode (zB 111) 55 = .ok (.iinc 3 1, 3) := by decide +kernel
theorem d111_58 : decode (zB 111) 58 = .ok (.goto (-44), 3) := by decide +kernel
theorem d111_61 : decode (zB 111) 61 = .ok (.aload_n 0, 1) := by decide +kernel
theorem d111_62 : decode (zB 111) 62 = .ok (.getfield 38, 3) := by decide +kernel
theorem d111_65 : decode (zB 111) 65 = .ok (.aload_n 0, 1) := by decide +kernel
theorem d111_66 : decode (zB 111) 66 = .ok (.getfield 45, 3) := by decide +kernel
theorem d111_69 : decode (zB 111) 69 = .ok (.aload_n 0, 1) := by decide +kernel
theorem d111_70 : decode (zB 111) 70 = .ok (.getfield 63, 3) := by decide +kernel
theorem d111_73 : decode (zB 111) 73 = .ok (.getfield 224, 3) := by decide +kernel
theorem d111_76 : decode (zB 111) 76 = .ok (.invokevirtual 230, 3) := by decide +kernel
theorem d111_79 : decode (zB 111) 79 = .ok (.iinc 2 1, 3) := by decide +kernel
theorem d111_82 : decode (zB 111) 82 = .ok (.goto (-75), 3) := by decide +kernel
theorem d111_85 : decode (zB 111) 85 = .ok (.iload_n 1, 1) := by decide +kernel
theorem d111_86 : decode (zB 111) 86 = .ok (.ireturn, 1) := by decide +kernel
theorem d112_0 : decode (zB 112) 0 = .ok (.iload_n 1, 1) := by decide +kernel
theorem d112_1 : decode (zB 112) 1 = .ok (.iload_n 2, 1) := by decide +kernel
theorem d112_2 : decode (zB 112) 2 = .ok (.iload_n 3, 1) := by decide +kernel
theorem d112_3 : decode (zB 112) 3 = .ok (.invokestatic 234, 3) := by decide +kernel
theorem d112_6 : decode (zB 112) 6 = .ok (.ifCond .ne 5, 3) := by decide +kernel
theorem d112_9 : decode (zB 112) 9 = .ok (.iconst (-1), 1) := by decide +kernel
theorem d112_10 : decode (zB 112) 10 = .ok (.ireturn, 1) := by decide +kernel
theorem d112_11 : decode (zB 112) 11 = .ok (.aload_n 0, 1) := by decide +kernel
theorem d112_12 : decode (zB 112) 12 = .ok (.getfield 88, 3) := by decide +kernel
theorem d112_15 : decode (zB 112) 15 = .ok (.aload_n 0, 1) := by decide +kernel
theorem d112_16 : decode (zB 112) 16 = .ok (.getfield 45, 3) := by decide +kernel
theorem d112_19 : decode (zB 112) 19 = .ok (.iload_n 1, 1) := by decide +kernel
theorem d112_20 : decode (zB 112) 20 = .ok (.iload_n 2, 1) := by decide +kernel
theorem d112_21 : decode (zB 112) 21 = .ok (.iload_n 3, 1) := by decide +kernel
theorem d112_22 : decode (zB 112) 22 = .ok (.invokevirtual 238, 3) := by decide +kernel
theorem d112_25 : decode (zB 112) 25 = .ok (.istore 4, 2) := by decide +kernel
theorem d112_27 : decode (zB 112) 27 = .ok (.iload 4, 2) := by decide +kernel
theorem d112_29 : decode (zB 112) 29 = .ok (.ldc 241, 2) := by decide +kernel
theorem d112_31 : decode (zB 112) 31 = .ok (.if_icmp .lt 8, 3) := by decide +kernel
theorem d112_34 : decode (zB 112) 34 = .ok (.bipush (-2), 2) := by decide +kernel
theorem d112_36 : decode (zB 112) 36 = .ok (.goto 5, 3) := by decide +kernel
theorem d112_39 : decode (zB 112) 39 = .ok (.iload 4, 2) := by decide +kernel
theorem d112_41 : decode (zB 112) 41 = .ok (.ireturn, 1) := by decide +kernel
theorem d113_0 : decode (zB 113) 0 = .ok (.iload_n 1, 1) := by decide +kernel
theorem d113_1 : decode (zB 113) 1 = .ok (.iload_n 2, 1) := by decide +kernel
theorem d113_2 : decode (zB 113) 2 = .ok (.iload_n 3, 1) := by decide +kernel
theorem d113_3 : decode (zB 113) 3 = .ok (.invokestatic 234, 3) := by decide +kernel
theorem d113_6 : decode (zB 113) 6 = .ok (.ifCond .eq 15, 3) := by decide +kernel
theorem d113_9 : decode (zB 113) 9 = .ok (.iload 4, 2) := by decide +kernel
theorem d113_11 : decode (zB 113) 11 = .ok (.ifCond .lt 10, 3) := by decide +kernel
theorem d113_14 : decode (zB 113) 14 = .ok (.iload 4, 2) := by decide +kernel
theorem d113_16 : decode (zB 113) 16 = .ok (.bipush 9, 2) := by decide +kernel
theorem d113_18 : decode (zB 113) 18 = .ok (.if_icmp .lt 5, 3) := by decide +kernel
theorem d113_21 : decode (zB 113) 21 = .ok (.iconst (-1), 1) := by decide +kernel
theorem d113_22 : decode (zB 113) 22 = .ok (.ireturn, 1) := by decide +kernel
theorem d113_23 : decode (zB 113) 23 = .ok (.aload_n 0, 1) := by decide +kernel
theorem d113_24 : decode (zB 113) 24 = .ok (.getfield 88, 3) := by decide +kernel
theorem d113_27 : decode (zB 113) 27 = .ok (.aload_n 0, 1) := by decide +kernel
theorem d113_28 : decode (zB 113) 28 = .ok (.getfield 45, 3) := by decide +kernel
theorem d113_31 : decode (zB 113) 31 = .ok (.iload_n 1, 1) := by decide +kernel
theorem d113_32 : decode (zB 113) 32 = .ok (.iload_n 2, 1) := by decide +kernel
theorem d113_33 : decode (zB 113) 33 = .ok (.iload_n 3, 1) := by decide +kernel
theorem d113_34 : decode (zB 113) 34 = .ok (.invokevirtual 238, 3) := by decide +kernel
theorem d113_37 : decode (zB 113) 37 = .ok (.istore 5, 2) := by decide +kernel
theorem d113_39 : decode (zB 113) 39 = .ok (.iload 5, 2) := by decide +kernel
theorem d113_41 : decode (zB 113) 41 = .ok (.ldc 241, 2) := by decide +kernel
theorem d113_43 : decode (zB 113) 43 = .ok (.if_icmp .lt 5, 3) := by decide +kernel
theorem d113_46 : decode (zB 113) 46 = .ok (.iconst (-1), 1) := by decide +kernel
theorem d113_47 : decode (zB 113) 47 = .ok (.ireturn, 1) := by decide +kernel
theorem d113_48 : decode (zB 113) 48 = .ok (.iload 5, 2) := by decide +kernel
theorem d113_50 : decode (zB 113) 50 = .ok (.ifCond .ne 8, 3) := by decide +kernel
theorem d113_53 : decode (zB 113) 53 = .ok (.bipush (-2), 2) := by decide +kernel
theorem d113_55 : decode (zB 113) 55 = .ok (.goto 14, 3) := by decide +kernel
theorem d113_58 : decode (zB 113) 58 = .ok (.aload_n 0, 1) := by decide +kernel
theorem d113_59 : decode (zB 113) 59 = .ok (.getfield 88, 3) := by decide +kernel
theorem d113_62 : decode (zB 113) 62 = .ok (.iload_n 1, 1) := by decide +kernel
theorem d113_63 : decode (zB 113) 63 = .ok (.iload_n 2, 1) := by decide +kernel
theorem d113_64 : decode (zB 113) 64 = .ok (.iload 4, 2) := by decide +kernel
theorem d113_66 : decode (zB 113) 66 = .ok (.invokevirtual 242, 3) := by decide +kernel
theorem d113_69 : decode (zB 113) 69 = .ok (.ireturn, 1) := by decide +kernel
theorem d114_0 : decode (zB 114) 0 = .ok (.aload_n 0, 1) := by decide +kernel
theorem d114_1 : decode (zB 114) 1 = .ok (.invokevirtual 245, 3) := by decide +kernel
theorem d114_4 : decode (zB 114) 4 = .ok (.aload_n 0, 1) := by decide +kernel
theorem d114_5 : decode (zB 114) 5 = .ok (.getfield 95, 3) := by decide +kernel
theorem d114_8 : decode (zB 114) 8 = .ok (.aload_n 0, 1) := by decide +kernel
theorem d114_9 : decode (zB 114) 9 = .ok (.getfield 32, 3) := by decide +kernel
theorem d114_12 : decode (zB 114) 12 = .ok (.aload_n 0, 1) := by decide +kernel
theorem d114_13 : decode (zB 114) 13 = .ok (.getfield 45, 3) := by decide +kernel
theorem d114_16 : decode (zB 114) 16 = .ok (.getfield 155, 3) := by decide +kernel
theorem d114_19 : decode (zB 114) 19 = .ok (.iconst (-1), 1) := by decide +kernel
theorem d114_20 : decode (zB 114) 20 = .ok (.invokevirtual 248, 3) := by decide +kernel
theorem d114_23 : decode (zB 114) 23 = .ok (.ireturn, 1) := by decide +kernel
theorem d115_0 : decode (zB 115) 0 = .ok (.aload_n 0, 1) := by decide +kernel
theorem d115_1 : decode (zB 115) 1 = .ok (.invokevirtual 245, 3) := by decide +kernel
theorem d115_4 : decode (zB 115) 4 = .ok (.aload_n 0, 1) := by decide +kernel
theorem d115_5 : decode (zB 115) 5 = .ok (.getfield 95, 3) := by decide +kernel
theorem d115_8 : decode (zB 115) 8 = .ok (.aload_n 0, 1) := by decide +kernel
theorem d115_9 : decode (zB 115) 9 = .ok (.getfield 32, 3) := by decide +kernel
theorem d115_12 : decode (zB 115) 12 = .ok (.aload_n 0, 1) := by decide +kernel
theorem d115_13 : decode (zB 115) 13 = .ok (.getfield 45, 3) := by decide +kernel
theorem d115_16 : decode (zB 115) 16 = .ok (.getfield 155, 3) := by decide +kernel
theorem d115_19 : decode (zB 115) 19 = .ok (.iconst 1, 1) := by decide +kernel
theorem d115_20 : decode (zB 115) 20 = .ok (.invokevirtual 248, 3) := by decide +kernel
theorem d115_23 : decode (zB 115) 23 = .ok (.ireturn, 1) := by decide +kernel
theorem d116_0 : decode (zB 116) 0 = .ok (.iload_n 1, 1) := by decide +kernel
theorem d116_1 : decode (zB 116) 1 = .ok (.iconst 1, 1) := by decide +kernel
theorem d116_2 : decode (zB 116) 2 = .ok (.if_icmp .lt 20, 3) := by decide +kernel
theorem d116_5 : decode (zB 116) 5 = .ok (.iload_n 1, 1) := by decide +kernel
theorem d116_6 : decode (zB 116) 6 = .ok (.bipush 10, 2) := by decide +kernel
theorem d116_8 : decode (zB 116) 8 = .ok (.if_icmp .gt 14, 3) := by decide +kernel
theorem d116_11 : decode (zB 116) 11 = .ok (.iload_n 1, 1) := by decide +kernel
theorem d116_12 : decode (zB 116) 12 = .ok (.aload_n 0, 1) := by decide +kernel
theorem d116_13 : decode (zB 116) 13 = .ok (.getfield 45, 3) := by decide +kernel
theorem d116_16 : decode (zB 116) 16 = .ok (.getfield 155, 3) := by decide +kernel
theorem d116_19 : decode (zB 116) 19 = .ok (.if_icmp .le 5, 3) := by decide +kernel
theorem d116_22 : decode (zB 116) 22 = .ok (.iconst (-1), 1) := by decide +kernel
theorem d116_23 : decode (zB 116) 23 = .ok (.ireturn, 1) := by decide +kernel
theorem d116_24 : decode (zB 116) 24 = .ok (.iload_n 2, 1) := by decide +kernel
theorem d116_25 : decode (zB 116) 25 = .ok (.iconst (-1), 1) := by decide +kernel
theorem d116_26 : decode (zB 116) 26 = .ok (.if_icmp .eq 15, 3) := by decide +kernel
theorem d116_29 : decode (zB 116) 29 = .ok (.iload_n 2, 1) := by decide +kernel
theorem d116_30 : decode (zB 116) 30 = .ok (.ifCond .lt 8, 3) := by decide +kernel
theorem d116_33 : decode (zB 116) 33 = .ok (.iload_n 2, 1) := by decide +kernel
theorem d116_34 : decode (zB 116) 34 = .ok (.iload_n 1, 1) := by decide +kernel
theorem d116_35 : decode (zB 116) 35 = .ok (.if_icmp .lt 6, 3) := by decide +kernel
theorem d116_38 : decode (zB 116) 38 = .ok (.bipush (-3), 2) := by decide +kernel
theorem d116_40 : decode (zB 116) 40 = .ok (.ireturn, 1) := by decide +kernel
theorem d116_41 : decode (zB 116) 41 = .ok (.aload_n 0, 1) := by decide +kernel
theorem d116_42 : decode (zB 116) 42 = .ok (.invokevirtual 245, 3) := by decide +kernel
theorem d116_45 : decode (zB 116) 45 = .ok (.aload_n 0, 1) := by decide +kernel
theorem d116_46 : decode (zB 116) 46 = .ok (.getfield 95, 3) := by decide +kernel
theorem d116_49 : decode (zB 116) 49 = .ok (.aload_n 0, 1) := by decide +kernel
theorem d116_50 : decode (zB 116) 50 = .ok (.getfield 32, 3) := by decide +kernel
theorem d116_53 : decode (zB 116) 53 = .ok (.iload_n 1, 1) := by decide +kernel
theorem d116_54 : decode (zB 116) 54 = .ok (.invokevirtual 252, 3) := by decide +kernel
theorem d116_57 : decode (zB 116) 57 = .ok (.istore_n 3, 1) := by decide +kernel
theorem d116_58 : decode (zB 116) 58 = .ok (.iload_n 2, 1) := by decide +kernel
theorem d116_59 : decode (zB 116) 59 = .ok (.iconst (-1), 1) := by decide +kernel
theorem d116_60 : decode (zB 116) 60 = .ok (.if_icmp .ne 13, 3) := by decide +kernel
theorem d116_63 : decode (zB 116) 63 = .ok (.iload_n 3, 1) := by decide +kernel
theorem d116_64 : decode (zB 116) 64 = .ok (.ifCond .eq 7, 3) := by decide +kernel
theorem d116_67 : decode (zB 116) 67 = .ok (.iconst 1, 1) := by decide +kernel
theorem d116_68 : decode (zB 116) 68 = .ok (.goto 4, 3) := by decide +kernel
theorem d116_71 : decode (zB 116) 71 = .ok (.iconst 0, 1) := by decide +kernel
theorem d116_72 : decode (zB 116) 72 = .ok (.ireturn, 1) := by decide +kernel
theorem d116_73 : decode (zB 116) 73 = .ok (.iload_n 3, 1) := by decide +kernel
theorem d116_74 : decode (zB 116) 74 = .ok (.ifCond .eq 15, 3) := by decide +kernel
theorem d116_77 : decode (zB 116) 77 = .ok (.aload_n 0, 1) := by decide +kernel
theorem d116_78 : decode (zB 116) 78 = .ok (.getfield 95, 3) := by decide +kernel
theorem d116_81 : decode (zB 116) 81 = .ok (.getfield 256, 3) := by decide +kernel
theorem d116_84 : decode (zB 116) 84 = .ok (.iload_n 2, 1) := by decide +kernel
theorem d116_85 : decode (zB 116) 85 = .ok (.iaload, 1) := by decide +kernel
theorem d116_86 : decode (zB 116) 86 = .ok (.goto 5, 3) := by decide +kernel
theorem d116_89 : decode (zB 116) 89 = .ok (.bipush (-2), 2) := by decide +kernel
theorem d116_91 : decode (zB 116) 91 = .ok (.ireturn, 1) := by decide +kernel
theorem d117_0 : decode (zB 117) 0 = .ok (.iconst 0, 1) := by decide +kernel
theorem d117_1 : decode (zB 117) 1 = .ok (.istore_n 2, 1) := by decide +kernel
theorem d117_2 : decode (zB 117) 2 = .ok (.iload_n 2, 1) := by decide +kernel
theorem d117_3 : decode (zB 117) 3 = .ok (.aload_n 0, 1) := by decide +kernel
theorem d117_4 : decode (zB 117) 4 = .ok (.getfield 45, 3) := by decide +kernel
theorem d117_7 : decode (zB 117) 7 = .ok (.getfield 155, 3) := by decide +kernel
theorem d117_10 : decode (zB 117) 10 = .ok (.if_icmp .ge 23, 3) := by decide +kernel
theorem d117_13 : decode (zB 117) 13 = .ok (.aload_n 0, 1) := by decide +kernel
theorem d117_14 : decode (zB 117) 14 = .ok (.getfield 32, 3) := by decide +kernel
theorem d117_17 : decode (zB 117) 17 = .ok (.iload_n 2, 1) := by decide +kernel
theorem d117_18 : decode (zB 117) 18 = .ok (.aload_n 0, 1) := by decide +kernel
theorem d117_19 : decode (zB 117) 19 = .ok (.getfield 45, 3) := by decide +kernel
theorem d117_22 : decode (zB 117) 22 = .ok (.iload_n 2, 1) := by decide +kernel
theorem d117_23 : decode (zB 117) 23 = .ok (.invokevirtual 227, 3) := by decide +kernel
theorem d117_26 : decode (zB 117) 26 = .ok (.iastore, 1) := by decide +kernel
theorem d117_27 : decode (zB 117) 27 = .ok (.iinc 2 1, 3) := by decide +kernel
theorem d117_30 : decode (zB 117) 30 = .ok (.goto (-28), 3) := by decide +kernel
theorem d117_33 : decode (zB 117) 33 = .ok (.aload_n 0, 1) := by decide +kernel
theorem d117_34 : decode (zB 117) 34 = .ok (.getfield 70, 3) := by decide +kernel
theorem d117_37 : decode (zB 117) 37 = .ok (.aload_n 0, 1) := by decide +kernel
theorem d117_38 : decode (zB 117) 38 = .ok (.getfield 32, 3) := by decide +kernel
theorem d117_41 : decode (zB 117) 41 = .ok (.aload_n 0, 1) := by decide +kernel
theorem d117_42 : decode (zB 117) 42 = .ok (.getfield 45, 3) := by decide +kernel
theorem d117_45 : decode (zB 117) 45 = .ok (.getfield 155, 3) := by decide +kernel
theorem d117_48 : decode (zB 117) 48 = .ok (.invokevirtual 259, 3) := by decide +kernel
theorem d117_51 : decode (zB 117) 51 = .ok (.aload_n 0, 1) := by decide +kernel
theorem d117_52 : decode (zB 117) 52 = .ok (.getfield 70, 3) := by decide +kernel
theorem d117_55 : decode (zB 117) 55 = .ok (.getfield 262, 3) := by decide +kernel
theorem d117_58 : decode (zB 117) 58 = .ok (.iconst 1, 1) := by decide +kernel
theorem d117_59 : decode (zB 117) 59 = .ok (.if_icmp .lt 15, 3) := by decide +kernel
theorem d117_62 : decode (zB 117) 62 = .ok (.aload_n 0, 1) := by decide +kernel
theorem d117_63 : decode (zB 117) 63 = .ok (.getfield 70, 3) := by decide +kernel
theorem d117_66 : decode (zB 117) 66 = .ok (.getfield 262, 3) := by decide +kernel
theorem d117_69 : decode (zB 117) 69 = .ok (.bipush 8, 2) := by decide +kernel
theorem d117_71 : decode (zB 117) 71 = .ok (.if_icmp .le 6, 3) := by decide +kernel
theorem d117_74 : decode (zB 117) 74 = .ok (.bipush (-2), 2) := by decide +kernel
theorem d117_76 : decode (zB 117) 76 = .ok (.ireturn, 1) := by decide +kernel
theorem d117_77 : decode (zB 117) 77 = .ok (.iload_n 1, 1) := by decide +kernel
theorem d117_78 : decode (zB 117) 78 = .ok (.iconst (-1), 1) := by decide +kernel
theorem d117_79 : decode (zB 117) 79 = .ok (.if_icmp .eq 21, 3) := by decide +kernel
theorem d117_82 : decode (zB 117) 82 = .ok (.iload_n 1, 1) := by decide +kernel
theorem d117_83 : decode (zB 117) 83 = .ok (.ifCond .lt 14, 3) := by decide +kernel
theorem d117_86 : decode (zB 117) 86 = .ok (.iload_n 1, 1) := by decide +kernel
theorem d117_87 : decode (zB 117) 87 = .ok (.aload_n 0, 1) := by decide +kernel
theorem d117_88 : decode (zB 117) 88 = .ok (.getfield 70, 3) := by decide +kernel
theorem d117_91 : decode (zB 117) 91 = .ok (.getfield 262, 3) := by decide +kernel
theorem d117_94 : decode (zB 117) 94 = .ok (.if_icmp .lt 6, 3) := by decide +kernel
theorem d117_97 : decode (zB 117) 97 = .ok (.bipush (-3), 2) := by decide +kernel
theorem d117_99 : decode (zB 117) 99 = .ok (.ireturn, 1) := by decide +kernel
theorem d117_100 : decode (zB 117) 100 = .ok (.aload_n 0, 1) := by decide +kernel
theorem d117_101 : decode (zB 117) 101 = .ok (.getfield 70, 3) := by decide +kernel
theorem d117_104 : decode (zB 117) 104 = .ok (.invokevirtual 265, 3) := by decide +kernel
theorem d117_107 : decode (zB 117) 107 = .ok (.istore_n 2, 1) := by decide +kernel
theorem d117_108 : decode (zB 117) 108 = .ok (.iload_n 1, 1) := by decide +kernel
theorem d117_109 : decode (zB 117) 109 = .ok (.iconst (-1), 1) := by decide +kernel
theorem d117_110 : decode (zB 117) 110 = .ok (.if_icmp .ne 7, 3) := by decide +kernel
theorem d117_113 : decode (zB 117) 113 = .ok (.iload_n 2, 1) := by decide +kernel
theorem d117_114 : decode (zB 117) 114 = .ok (.goto 20, 3) := by decide +kernel
theorem d117_117 : decode (zB 117) 117 = .ok (.aload_n 0, 1) := by decide +kernel
theorem d117_118 : decode (zB 117) 118 = .ok (.getfield 70, 3) := by decide +kernel
theorem d117_121 : decode (zB 117) 121 = .ok (.getfield 268, 3) := by decide +kernel
theorem d117_124 : decode (zB 117) 124 = .ok (.aload_n 0, 1) := by decide +kernel
theorem d117_125 : decode (zB 117) 125 = .ok (.getfield 70, 3) := by decide +kernel
theorem d117_128 : decode (zB 117) 128 = .ok (.getfield 271, 3) := by decide +kernel
theorem d117_131 : decode (zB 117) 131 = .ok (.iload_n 1, 1) := by decide +kernel
theorem d117_132 : decode (zB 117) 132 = .ok (.iaload, 1) := by decide +kernel
theorem d117_133 : decode (zB 117) 133 = .ok (.iaload, 1) := by decide +kernel
theorem d117_134 : decode (zB 117) 134 = .ok (.ireturn, 1) := by decide +kernel
theorem d118_0 : decode (zB 118) 0 = .ok (.aload_n 0, 1) := by decide +kernel
theorem d118_1 : decode (zB 118) 1 = .ok (.iload_n 3, 1) := by decide +kernel
theorem d118_2 : decode (zB 118) 2 = .ok (.invokevirtual 166, 3) := by decide +kernel
theorem d118_5 : decode (zB 118) 5 = .ok (.ifCond .eq 35, 3) := by decide +kernel
theorem d118_8 : decode (zB 118) 8 = .ok (.iload 4, 2) := by decide +kernel
theorem d118_10 : decode (zB 118) 10 = .ok (.ifCond .lt 30, 3) := by decide +kernel
theorem d118_13 : decode (zB 118) 13 = .ok (.iload 4, 2) := by decide +kernel
theorem d118_15 : decode (zB 118) 15 = .ok (.aload_n 0, 1) := by decide +kernel
theorem d118_16 : decode (zB 118) 16 = .ok (.getfield 38, 3) := by decide +kernel
theorem d118_19 : decode (zB 118) 19 = .ok (.getfield 124, 3) := by decide +kernel
theorem d118_22 : decode (zB 118) 22 = .ok (.if_icmp .ge 18, 3) := by decide +kernel
theorem d118_25 : decode (zB 118) 25 = .ok (.iload 5, 2) := by decide +kernel
theorem d118_27 : decode (zB 118) 27 = .ok (.ifCond .lt 13, 3) := by decide +kernel
theorem d118_30 : decode (zB 118) 30 = .ok (.iload 5, 2) := by decide +kernel
theorem d118_32 : decode (zB 118) 32 = .ok (.iconst 2, 1) := by decide +kernel
theorem d118_33 : decode (zB 118) 33 = .ok (.if_icmp .gt 7, 3) := by decide +kernel
theorem d118_36 : decode (zB 118) 36 = .ok (.iconst 1, 1) := by decide +kernel
theorem d118_37 : decode (zB 118) 37 = .ok (.goto 4, 3) := by decide +kernel
theorem d118_40 : decode (zB 118) 40 = .ok (.iconst 0, 1) := by decide +kernel
theorem d118_41 : decode (zB 118) 41 = .ok (.istore 6, 2) := by decide +kernel
theorem d118_43 : decode (zB 118) 43 = .ok (.iload 6, 2) := by decide +kernel
theorem d118_45 : decode (zB 118) 45 = .ok (.ifCond .eq 22, 3) := by decide +kernel
theorem d118_48 : decode (zB 118) 48 = .ok (.aload_n 0, 1) := by decide +kernel
theorem d118_49 : decode (zB 118) 49 = .ok (.iload_n 1, 1) := by decide +kernel
theorem d118_50 : decode (zB 118) 50 = .ok (.bipush 12, 2) := by decide +kernel
theorem d118_52 : decode (zB 118) 52 = .ok (.invokevirtual 184, 3) := by decide +kernel
theorem d118_55 : decode (zB 118) 55 = .ok (.ifCond .eq 12, 3) := by decide +kernel
theorem d118_58 : decode (zB 118) 58 = .ok (.iload_n 2, 1) := by decide +kernel
theorem d118_59 : decode (zB 118) 59 = .ok (.ifCond .lt 8, 3) := by decide +kernel
theorem d118_62 : decode (zB 118) 62 = .ok (.iload_n 2, 1) := by decide +kernel
theorem d118_63 : decode (zB 118) 63 = .ok (.iload_n 1, 1) := by decide +kernel
theorem d118_64 : decode (zB 118) 64 = .ok (.if_icmp .lt 5, 3) := by decide +kernel
theorem d118_67 : decode (zB 118) 67 = .ok (.iconst (-1), 1) := by decide +kernel
theorem d118_68 : decode (zB 118) 68 = .ok (.ireturn, 1) := by decide +kernel
theorem d118_69 : decode (zB 118) 69 = .ok (.aload_n 0, 1) := by decide +kernel
theorem d118_70 : decode (zB 118) 70 = .ok (.getfield 52, 3) := by decide +kernel
theorem d118_73 : decode (zB 118) 73 = .ok (.aload_n 0, 1) := by decide +kernel
theorem d118_74 : decode (zB 118) 74 = .ok (.getfield 45, 3) := by decide +kernel
theorem d118_77 : decode (zB 118) 77 = .ok (.invokevirtual 195, 3) := by decide +kernel
theorem d118_80 : decode (zB 118) 80 = .ok (.aload_n 0, 1) := by decide +kernel
theorem d118_81 : decode (zB 118) 81 = .ok (.getfield 63, 3) := by decide +kernel
theorem d118_84 : decode (zB 118) 84 = .ok (.aload_n 0, 1) := by decide +kernel
theorem d118_85 : decode (zB 118) 85 = .ok (.getfield 52, 3) := by decide +kernel
theorem d118_88 : decode (zB 118) 88 = .ok (.iload_n 2, 1) := by decide +kernel
theorem d118_89 : decode (zB 118) 89 = .ok (.invokevirtual 188, 3) := by decide +kernel
theorem d118_92 : decode (zB 118) 92 = .ok (.aload_n 0, 1) := by decide +kernel
theorem d118_93 : decode (zB 118) 93 = .ok (.getfield 63, 3) := by decide +kernel
theorem d118_96 : decode (zB 118) 96 = .ok (.aload_n 0, 1) := by decide +kernel
theorem d118_97 : decode (zB 118) 97 = .ok (.getfield 52, 3) := by decide +kernel
theorem d118_100 : decode (zB 118) 100 = .ok (.iload_n 3, 1) := by decide +kernel
theorem d118_101 : decode (zB 118) 101 = .ok (.iload 4, 2) := by decide +kernel
theorem d118_103 : decode (zB 118) 103 = .ok (.invokevirtual 272, 3) := by decide +kernel
theorem d118_106 : decode (zB 118) 106 = .ok (.ifCond .ne 6, 3) := by decide +kernel
theorem d118_109 : decode (zB 118) 109 = .ok (.bipush (-2), 2) := by decide +kernel
theorem d118_111 : decode (zB 118) 111 = .ok (.ireturn, 1) := by decide +kernel
theorem d118_112 : decode (zB 118) 112 = .ok (.aload_n 0, 1) := by decide +kernel
theorem d118_113 : decode (zB 118) 113 = .ok (.getfield 63, 3) := by decide +kernel
theorem d118_116 : decode (zB 118) 116 = .ok (.aload_n 0, 1) := by decide +kernel
theorem d118_117 : decode (zB 118) 117 = .ok (.getfield 52, 3) := by decide +kernel
theorem d118_120 : decode (zB 118) 120 = .ok (.iload_n 1, 1) := by decide +kernel
theorem d118_121 : decode (zB 118) 121 = .ok (.iload_n 2, 1) := by decide +kernel
theorem d118_122 : decode (zB 118) 122 = .ok (.isub, 1) := by decide +kernel
theorem d118_123 : decode (zB 118) 123 = .ok (.iconst 1, 1) := by decide +kernel
theorem d118_124 : decode (zB 118) 124 = .ok (.isub, 1) := by decide +kernel
theorem d118_125 : decode (zB 118) 125 = .ok (.invokevirtual 188, 3) := by decide +kernel
theorem d118_128 : decode (zB 118) 128 = .ok (.aload_n 0, 1) := by decide +kernel
theorem d118_129 : decode (zB 118) 129 = .ok (.getfield 55, 3) := by decide +kernel
theorem d118_132 : decode (zB 118) 132 = .ok (.aload_n 0, 1) := by decide +kernel
theorem d118_133 : decode (zB 118) 133 = .ok (.getfield 45, 3) := by decide +kernel
theorem d118_136 : decode (zB 118) 136 = .ok (.invokevirtual 195, 3) := by decide +kernel
theorem d118_139 : decode (zB 118) 139 = .ok (.aload_n 0, 1) := by decide +kernel
theorem d118_140 : decode (zB 118) 140 = .ok (.getfield 63, 3) := by decide +kernel
theorem d118_143 : decode (zB 118) 143 = .ok (.aload_n 0, 1) := by decide +kernel
theorem d118_144 : decode (zB 118) 144 = .ok (.getfield 55, 3) := by decide +kernel
theorem d118_147 : decode (zB 118) 147 = .ok (.iload_n 1, 1) := by decide +kernel
theorem d118_148 : decode (zB 118) 148 = .ok (.invokevirtual 188, 3) := by decide +kernel
theorem d118_151 : decode (zB 118) 151 = .ok (.aload_n 0, 1) := by decide +kernel
theorem d118_152 : decode (zB 118) 152 = .ok (.getfield 52, 3) := by decide +kernel
theorem d118_155 : decode (zB 118) 155 = .ok (.iload_n 3, 1) := by decide +kernel
theorem d118_156 : decode (zB 118) 156 = .ok (.invokevirtual 169, 3) := by decide +kernel
theorem d118_159 : decode (zB 118) 159 = .ok (.istore 7, 2) := by decide +kernel
theorem d118_161 : decode (zB 118) 161 = .ok (.iload 5, 2) := by decide +kernel
theorem d118_163 : decode (zB 118) 163 = .ok (.lookupswitch 43 #[(0, 25), (1, 28)], 25) := by decide +kernel
theorem d118_188 : decode (zB 118) 188 = .ok (.iload 7, 2) := by decide +kernel
theorem d118_190 : decode (zB 118) 190 = .ok (.ireturn, 1) := by decide +kernel
theorem d118_191 : decode (zB 118) 191 = .ok (.iload 7, 2) := by decide +kernel
theorem d118_193 : decode (zB 118) 193 = .ok (.aload_n 0, 1) := by decide +kernel
theorem d118_194 : decode (zB 118) 194 = .ok (.getfield 55, 3) := by decide +kernel
theorem d118_197 : decode (zB 118) 197 = .ok (.iload_n 3, 1) := by decide +kernel
theorem d118_198 : decode (zB 118) 198 = .ok (.invokevirtual 169, 3) := by decide +kernel
theorem d118_201 : decode (zB 118) 201 = .ok (.isub, 1) := by decide +kernel
theorem d118_202 : decode (zB 118) 202 = .ok (.invokestatic 276, 3) := by decide +kernel
theorem d118_205 : decode (zB 118) 205 = .ok (.ireturn, 1) := by decide +kernel
theorem d118_206 : decode (zB 118) 206 = .ok (.aload_n 0, 1) := by decide +kernel
theorem d118_207 : decode (zB 118) 207 = .ok (.getfield 52, 3) := by decide +kernel
theorem d118_210 : decode (zB 118) 210 = .ok (.aload_n 0, 1) := by decide +kernel
theorem d118_211 : decode (zB 118) 211 = .ok (.getfield 55, 3) := by decide +kernel
theorem d118_214 : decode (zB 118) 214 = .ok (.iload_n 3, 1) := by decide +kernel
theorem d118_215 : decode (zB 118) 215 = .ok (.invokevirtual 281, 3) := by decide +kernel
theorem d118_218 : decode (zB 118) 218 = .ok (.ireturn, 1) := by decide +kernel
theorem d119_0 : decode (zB 119) 0 = .ok (.aload_n 0, 1) := by decide +kernel
theorem d119_1 : decode (zB 119) 1 = .ok (.iload_n 1, 1) := by decide +kernel
theorem d119_2 : decode (zB 119) 2 = .ok (.bipush 6, 2) := by decide +kernel
theorem d119_4 : decode (zB 119) 4 = .ok (.invokevirtual 184, 3) := by decide +kernel
theorem d119_7 : decode (zB 119) 7 = .ok (.ifCond .eq 13, 3) := by decide +kernel
theorem d119_10 : decode (zB 119) 10 = .ok (.iload_n 2, 1) := by decide +kernel
theorem d119_11 : decode (zB 119) 11 = .ok (.iconst (-1), 1) := by decide +kernel
theorem d119_12 : decode (zB 119) 12 = .ok (.if_icmp .lt 8, 3) := by decide +kernel
theorem d119_15 : decode (zB 119) 15 = .ok (.iload_n 2, 1) := by decide +kernel
theorem d119_16 : decode (zB 119) 16 = .ok (.iconst 2, 1) := by decide +kernel
theorem d119_17 : decode (zB 119) 17 = .ok (.if_icmp .le 5, 3) := by decide +kernel
theorem d119_20 : decode (zB 119) 20 = .ok (.iconst (-1), 1) := by decide +kernel
theorem d119_21 : decode (zB 119) 21 = .ok (.ireturn, 1) := by decide +kernel
theorem d119_22 : decode (zB 119) 22 = .ok (.aload_n 0, 1) := by decide +kernel
theorem d119_23 : decode (zB 119) 23 = .ok (.getfield 52, 3) := by decide +kernel
theorem d119_26 : decode (zB 119) 26 = .ok (.aload_n 0, 1) := by decide +kernel
theorem d119_27 : decode (zB 119) 27 = .ok (.getfield 45, 3) := by decide +kernel
theorem d119_30 : decode (zB 119) 30 = .ok (.invokevirtual 195, 3) := by decide +kernel
theorem d119_33 : decode (zB 119) 33 = .ok (.aload_n 0, 1) := by decide +kernel
theorem d119_34 : decode (zB 119) 34 = .ok (.getfield 63, 3) := by decide +kernel
theorem d119_37 : decode (zB 119) 37 = .ok (.aload_n 0, 1) := by decide +kernel
theorem d119_38 : decode (zB 119) 38 = .ok (.getfield 52, 3) := by decide +kernel
theorem d119_41 : decode (zB 119) 41 = .ok (.iload_n 1, 1) := by decide +kernel
theorem d119_42 : decode (zB 119) 42 = .ok (.invokevirtual 188, 3) := by decide +kernel
theorem d119_45 : decode (zB 119) 45 = .ok (.aload_n 0, 1) := by decide +kernel
theorem d119_46 : decode (zB 119) 46 = .ok (.getfield 52, 3) := by decide +kernel
theorem d119_49 : decode (zB 119) 49 = .ok (.getfield 155, 3) := by decide +kernel
theorem d119_52 : decode (zB 119) 52 = .ok (.aload_n 0, 1) := by decide +kernel
theorem d119_53 : decode (zB 119) 53 = .ok (.getfield 10, 3) := by decide +kernel
theorem d119_56 : decode (zB 119) 56 = .ok (.getfield 138, 3) := by decide +kernel
theorem d119_59 : decode (zB 119) 59 = .ok (.if_icmp .le 5, 3) := by decide +kernel
theorem d119_62 : decode (zB 119) 62 = .ok (.iconst (-1), 1) := by decide +kernel
theorem d119_63 : decode (zB 119) 63 = .ok (.ireturn, 1) := by decide +kernel
theorem d119_64 : decode (zB 119) 64 = .ok (.aload_n 0, 1) := by decide +kernel
theorem d119_65 : decode (zB 119) 65 = .ok (.getfield 10, 3) := by decide +kernel
theorem d119_68 : decode (zB 119) 68 = .ok (.aload_n 0, 1) := by decide +kernel
theorem d119_69 : decode (zB 119) 69 = .ok (.getfield 52, 3) := by decide +kernel
theorem d119_72 : decode (zB 119) 72 = .ok (.invokevirtual 285, 3) := by decide +kernel
theorem d119_75 : decode (zB 119) 75 = .ok (.istore_n 3, 1) := by decide +kernel
theorem d119_76 : decode (zB 119) 76 = .ok (.aload_n 0, 1) := by decide +kernel
theorem d119_77 : decode (zB 119) 77 = .ok (.getfield 10, 3) := by decide +kernel
theorem d119_80 : decode (zB 119) 80 = .ok (.aload_n 0, 1) := by decide +kernel
theorem d119_81 : decode (zB 119) 81 = .ok (.getfield 52, 3) := by decide +kernel
theorem d119_84 : decode (zB 119) 84 = .ok (.invokevirtual 156, 3) := by decide +kernel
theorem d119_87 : decode (zB 119) 87 = .ok (.istore 4, 2) := by decide +kernel
theorem d119_89 : decode (zB 119) 89 = .ok (.aload_n 0, 1) := by decide +kernel
theorem d119_90 : decode (zB 119) 90 = .ok (.getfield 104, 3) := by decide +kernel
theorem d119_93 : decode (zB 119) 93 = .ok (.iconst 0, 1) := by decide +kernel
theorem d119_94 : decode (zB 119) 94 = .ok (.putfield 288, 3) := by decide +kernel
theorem d119_97 : decode (zB 119) 97 = .ok (.iload 4, 2) := by decide +kernel
theorem d119_99 : decode (zB 119) 99 = .ok (.ifCond .eq 23, 3) := by decide +kernel
theorem d119_102 : decode (zB 119) 102 = .ok (.iload_n 3, 1) := by decide +kernel
theorem d119_103 : decode (zB 119) 103 = .ok (.ifCond .ne 19, 3) := by decide +kernel
theorem d119_106 : decode (zB 119) 106 = .ok (.aload_n 0, 1) := by decide +kernel
theorem d119_107 : decode (zB 119) 107 = .ok (.getfield 104, 3) := by decide +kernel
theorem d119_110 : decode (zB 119) 110 = .ok (.aload_n 0, 1) := by decide +kernel
theorem d119_111 : decode (zB 119) 111 = .ok (.getfield 45, 3) := by decide +kernel
theorem d119_114 : decode (zB 119) 114 = .ok (.iload_n 1, 1) := by decide +kernel
theorem d119_115 : decode (zB 119) 115 = .ok (.aload_n 0, 1) := by decide +kernel
theorem d119_116 : decode (zB 119) 116 = .ok (.getfield 10, 3) := by decide +kernel
theorem d119_119 : decode (zB 119) 119 = .ok (.invokevirtual 291, 3) := by decide +kernel
theorem d119_122 : decode (zB 119) 122 = .ok (.aload_n 0, 1) := by decide +kernel
theorem d119_123 : decode (zB 119) 123 = .ok (.getfield 10, 3) := by decide +kernel
theorem d119_126 : decode (zB 119) 126 = .ok (.iconst 0, 1) := by decide +kernel
theorem d119_127 : decode (zB 119) 127 = .ok (.putfield 138, 3) := by decide +kernel
theorem d119_130 : decode (zB 119) 130 = .ok (.iload_n 3, 1) := by decide +kernel
theorem d119_131 : decode (zB 119) 131 = .ok (.ifCond .eq 8, 3) := by decide +kernel
theorem d119_134 : decode (zB 119) 134 = .ok (.bipush (-3), 2) := by decide +kernel
theorem d119_136 : decode (zB 119) 136 = .ok (.goto 11, 3) := by decide +kernel
theorem d119_139 : decode (zB 119) 139 = .ok (.aload_n 0, 1) := by decide +kernel
theorem d119_140 : decode (zB 119) 140 = .ok (.getfield 104, 3) := by decide +kernel
theorem d119_143 : decode (zB 119) 143 = .ok (.iload_n 2, 1) := by decide +kernel
theorem d119_144 : decode (zB 119) 144 = .ok (.invokevirtual 295, 3) := by decide +kernel
theorem d119_147 : decode (zB 119) 147 = .ok (.ireturn, 1) := by decide +kernel
theorem d120_0 : decode (zB 120) 0 = .ok (.aload_n 0, 1) := by decide +kernel
theorem d120_1 : decode (zB 120) 1 = .ok (.iconst 1, 1) := by decide +kernel
theorem d120_2 : decode (zB 120) 2 = .ok (.bipush 12, 2) := by decide +kernel
theorem d120_4 : decode (zB 120) 4 = .ok (.invokevirtual 184, 3) := by decide +kernel
theorem d120_7 : decode (zB 120) 7 = .ok (.ifCond .ne 5, 3) := by decide +kernel
theorem d120_10 : decode (zB 120) 10 = .ok (.iconst (-1), 1) := by decide +kernel
theorem d120_11 : decode (zB 120) 11 = .ok (.ireturn, 1) := by decide +kernel
theorem d120_12 : decode (zB 120) 12 = .ok (.aload_n 0, 1) := by decide +kernel
theorem d120_13 : decode (zB 120) 13 = .ok (.getfield 52, 3) := by decide +kernel
theorem d120_16 : decode (zB 120) 16 = .ok (.aload_n 0, 1) := by decide +kernel
theorem d120_17 : decode (zB 120) 17 = .ok (.getfield 45, 3) := by decide +kernel
theorem d120_20 : decode (zB 120) 20 = .ok (.invokevirtual 195, 3) := by decide +kernel
theorem d120_23 : decode (zB 120) 23 = .ok (.aload_n 0, 1) := by decide +kernel
theorem d120_24 : decode (zB 120) 24 = .ok (.getfield 52, 3) := by decide +kernel
theorem d120_27 : decode (zB 120) 27 = .ok (.invokevirtual 298, 3) := by decide +kernel
theorem d120_30 : decode (zB 120) 30 = .ok (.iload_n 1, 1) := by decide +kernel
theorem d120_31 : decode (zB 120) 31 = .ok (.iconst (-1), 1) := by decide +kernel
theorem d120_32 : decode (zB 120) 32 = .ok (.if_icmp .lt 14, 3) := by decide +kernel
theorem d120_35 : decode (zB 120) 35 = .ok (.iload_n 1, 1) := by decide +kernel
theorem d120_36 : decode (zB 120) 36 = .ok (.aload_n 0, 1) := by decide +kernel
theorem d120_37 : decode (zB 120) 37 = .ok (.getfield 52, 3) := by decide +kernel
theorem d120_40 : decode (zB 120) 40 = .ok (.getfield 155, 3) := by decide +kernel
theorem d120_43 : decode (zB 120) 43 = .ok (.if_icmp .le 6, 3) := by decide +kernel
theorem d120_46 : decode (zB 120) 46 = .ok (.bipush (-2), 2) := by decide +kernel
theorem d120_48 : decode (zB 120) 48 = .ok (.ireturn, 1) := by decide +kernel
theorem d120_49 : decode (zB 120) 49 = .ok (.aload_n 0, 1) := by decide +kernel
theorem d120_50 : decode (zB 120) 50 = .ok (.getfield 63, 3) := by decide +kernel
theorem d120_53 : decode (zB 120) 53 = .ok (.aload_n 0, 1) := by decide +kernel
theorem d120_54 : decode (zB 120) 54 = .ok (.getfield 52, 3) := by decide +kernel
theorem d120_57 : decode (zB 120) 57 = .ok (.invokevirtual 301, 3) := by decide +kernel
theorem d120_60 : decode (zB 120) 60 = .ok (.aload_n 0, 1) := by decide +kernel
theorem d120_61 : decode (zB 120) 61 = .ok (.aload_n 0, 1) := by decide +kernel
theorem d120_62 : decode (zB 120) 62 = .ok (.getfield 52, 3) := by decide +kernel
theorem d120_65 : decode (zB 120) 65 = .ok (.getfield 155, 3) := by decide +kernel
theorem d120_68 : decode (zB 120) 68 = .ok (.invokevirtual 304, 3) := by decide +kernel
theorem d120_71 : decode (zB 120) 71 = .ok (.istore_n 2, 1) := by decide +kernel
theorem d120_72 : decode (zB 120) 72 = .ok (.iload_n 1, 1) := by decide +kernel
theorem d120_73 : decode (zB 120) 73 = .ok (.iconst (-1), 1) := by decide +kernel
theorem d120_74 : decode (zB 120) 74 = .ok (.if_icmp .eq 17, 3) := by decide +kernel
theorem d120_77 : decode (zB 120) 77 = .ok (.aload_n 0, 1) := by decide +kernel
theorem d120_78 : decode (zB 120) 78 = .ok (.iload_n 1, 1) := by decide +kernel
theorem d120_79 : decode (zB 120) 79 = .ok (.invokevirtual 304, 3) := by decide +kernel
theorem d120_82 : decode (zB 120) 82 = .ok (.istore_n 3, 1) := by decide +kernel
theorem d120_83 : decode (zB 120) 83 = .ok (.iload_n 3, 1) := by decide +kernel
theorem d120_84 : decode (zB 120) 84 = .ok (.iload_n 2, 1) := by decide +kernel
theorem d120_85 : decode (zB 120) 85 = .ok (.iload_n 3, 1) := by decide +kernel
theorem d120_86 : decode (zB 120) 86 = .ok (.isub, 1) := by decide +kernel
theorem d120_87 : decode (zB 120) 87 = .ok (.invokestatic 307, 3) := by decide +kernel
theorem d120_90 : decode (zB 120) 90 = .ok (.ireturn, 1) := by decide +kernel
theorem d120_91 : decode (zB 120) 91 = .ok (.aload_n 0, 1) := by decide +kernel
theorem d120_92 : decode (zB 120) 92 = .ok (.iload_n 2, 1) := by decide +kernel
theorem d120_93 : decode (zB 120) 93 = .ok (.invokevirtual 310, 3) := by decide +kernel
theorem d120_96 : decode (zB 120) 96 = .ok (.ireturn, 1) := by decide +kernel
theorem d121_0 : decode (zB 121) 0 = .ok (.iload_n 1, 1) := by decide +kernel
theorem d121_1 : decode (zB 121) 1 = .ok (.iconst 1, 1) := by decide +kernel
theorem d121_2 : decode (zB 121) 2 = .ok (.if_icmp .lt 10, 3) := by decide +kernel
theorem d121_5 : decode (zB 121) 5 = .ok (.iload_n 1, 1) := by decide +kernel
theorem d121_6 : decode (zB 121) 6 = .ok (.ldc_w 313, 3) := by decide +kernel
theorem d121_9 : decode (zB 121) 9 = .ok (.if_icmp .lt 5, 3) := by decide +kernel
theorem d121_12 : decode (zB 121) 12 = .ok (.iconst (-1), 1) := by decide +kernel
theorem d121_13 : decode (zB 121) 13 = .ok (.ireturn, 1) := by decide +kernel
theorem d121_14 : decode (zB 121) 14 = .ok (.iconst 0, 1) := by decide +kernel
theorem d121_15 : decode (zB 121) 15 = .ok (.istore_n 2, 1) := by decide +kernel
theorem d121_16 : decode (zB 121) 16 = .ok (.iconst 0, 1) := by decide +kernel
theorem d121_17 : decode (zB 121) 17 = .ok (.istore_n 3, 1) := by decide +kernel
theorem d121_18 : decode (zB 121) 18 = .ok (.bipush (-2), 2) := by decide +kernel
theorem d121_20 : decode (zB 121) 20 = .ok (.istore 4, 2) := by decide +kernel
theorem d121_22 : decode (zB 121) 22 = .ok (.iconst 0, 1) := by decide +kernel
theorem d121_23 : decode (zB 121) 23 = .ok (.istore 5, 2) := by decide +kernel
theorem d121_25 : decode (zB 121) 25 = .ok (.iload 5, 2) := by decide +kernel
theorem d121_27 : decode (zB 121) 27 = .ok (.aload_n 0, 1) := by decide +kernel
theorem d121_28 : decode (zB 121) 28 = .ok (.getfield 45, 3) := by decide +kernel
theorem d121_31 : decode (zB 121) 31 = .ok (.getfield 155, 3) := by decide +kernel
theorem d121_34 : decode (zB 121) 34 = .ok (.if_icmp .ge 78, 3) := by decide +kernel
theorem d121_37 : decode (zB 121) 37 = .ok (.aload_n 0, 1) := by decide +kernel
theorem d121_38 : decode (zB 121) 38 = .ok (.getfield 63, 3) := by decide +kernel
theorem d121_41 : decode (zB 121) 41 = .ok (.aload_n 0, 1) := by decide +kernel
theorem d121_42 : decode (zB 121) 42 = .ok (.getfield 45, 3) := by decide +kernel
theorem d121_45 : decode (zB 121) 45 = .ok (.iload 5, 2) := by decide +kernel
theorem d121_47 : decode (zB 121) 47 = .ok (.invokevirtual 314, 3) := by decide +kernel
theorem d121_50 : decode (zB 121) 50 = .ok (.istore 6, 2) := by decide +kernel
theorem d121_52 : decode (zB 121) 52 = .ok (.iload_n 1, 1) := by decide +kernel
theorem d121_53 : decode (zB 121) 53 = .ok (.aload_n 0, 1) := by decide +kernel
theorem d121_54 : decode (zB 121) 54 = .ok (.getfield 45, 3) := by decide +kernel
theorem d121_57 : decode (zB 121) 57 = .ok (.iload 5, 2) := by decide +kernel
theorem d121_59 : decode (zB 121) 59 = .ok (.invokevirtual 227, 3) := by decide +kernel
theorem d121_62 : decode (zB 121) 62 = .ok (.ishr, 1) := by decide +kernel
theorem d121_63 : decode (zB 121) 63 = .ok (.iconst 1, 1) := by decide +kernel
theorem d121_64 : decode (zB 121) 64 = .ok (.iand, 1) := by decide +kernel
theorem d121_65 : decode (zB 121) 65 = .ok (.ifCond .eq 7, 3) := by decide +kernel
theorem d121_68 : decode (zB 121) 68 = .ok (.iconst 1, 1) := by decide +kernel
theorem d121_69 : decode (zB 121) 69 = .ok (.goto 4, 3) := by decide +kernel
theorem d121_72 : decode (zB 121) 72 = .ok (.iconst 0, 1) := by decide +kernel
theorem d121_73 : decode (zB 121) 73 = .ok (.istore 7, 2) := by decide +kernel
theorem d121_75 : decode (zB 121) 75 = .ok (.iload_n 2, 1) := by decide +kernel
theorem d121_76 : decode (zB 121) 76 = .ok (.iload 6, 2) := by decide +kernel
theorem d121_78 : decode (zB 121) 78 = .ok (.iadd, 1) := by decide +kernel
theorem d121_79 : decode (zB 121) 79 = .ok (.istore_n 2, 1) := by decide +kernel
theorem d121_80 : decode (zB 121) 80 = .ok (.iload_n 3, 1) := by decide +kernel
theorem d121_81 : decode (zB 121) 81 = .ok (.iload 7, 2) := by decide +kernel
theorem d121_83 : decode (zB 121) 83 = .ok (.ifCond .eq 8, 3) := by decide +kernel
theorem d121_86 : decode (zB 121) 86 = .ok (.iload 6, 2) := by decide +kernel
theorem d121_88 : decode (zB 121) 88 = .ok (.goto 4, 3) := by decide +kernel
theorem d121_91 : decode (zB 121) 91 = .ok (.iconst 1, 1) := by decide +kernel
theorem d121_92 : decode (zB 121) 92 = .ok (.iadd, 1) := by decide +kernel
theorem d121_93 : decode (zB 121) 93 = .ok (.istore_n 3, 1) := by decide +kernel
theorem d121_94 : decode (zB 121) 94 = .ok (.iload 7, 2) := by decide +kernel
theorem d121_96 : decode (zB 121) 96 = .ok (.ifCond .eq 10, 3) := by decide +kernel
theorem d121_99 : decode (zB 121) 99 = .ok (.iload_n 2, 1) := by decide +kernel
theorem d121_100 : decode (zB 121) 100 = .ok (.iload_n 3, 1) := by decide +kernel
theorem d121_101 : decode (zB 121) 101 = .ok (.invokestatic 317, 3) := by decide +kernel
theorem d121_104 : decode (zB 121) 104 = .ok (.istore 4, 2) := by decide +kernel
theorem d121_106 : decode (zB 121) 106 = .ok (.iinc 5 1, 3) := by decide +kernel
theorem d121_109 : decode (zB 121) 109 = .ok (.goto (-84), 3) := by decide +kernel
theorem d121_112 : decode (zB 121) 112 = .ok (.iload 4, 2) := by decide +kernel
theorem d121_114 : decode (zB 121) 114 = .ok (.ireturn, 1) := by decide +kernel
theorem d122_0 : decode (zB 122) 0 = .ok (.iload_n 1, 1) := by decide +kernel
theorem d122_1 : decode (zB 122) 1 = .ok (.ifCond .lt 10, 3) := by decide +kernel
theorem d122_4 : decode (zB 122) 4 = .ok (.iload_n 1, 1) := by decide +kernel
theorem d122_5 : decode (zB 122) 5 = .ok (.ldc_w 320, 3) := by decide +kernel
theorem d122_8 : decode (zB 122) 8 = .ok (.if_icmp .le 5, 3) := by decide +kernel
theorem d122_11 : decode (zB 122) 11 = .ok (.iconst 0, 1) := by decide +kernel
theorem d122_12 : decode (zB 122) 12 = .ok (.ireturn, 1) := by decide +kernel
theorem d122_13 : decode (zB 122) 13 = .ok (.aload_n 0, 1) := by decide +kernel
theorem d122_14 : decode (zB 122) 14 = .ok (.getfield 45, 3) := by decide +kernel
theorem d122_17 : decode (zB 122) 17 = .ok (.iload_n 1, 1) := by decide +kernel
theorem d122_18 : decode (zB 122) 18 = .ok (.putfield 321, 3) := by decide +kernel
theorem d122_21 : decode (zB 122) 21 = .ok (.iconst 1, 1) := by decide +kernel
theorem d122_22 : decode (zB 122) 22 = .ok (.ireturn, 1) := by decide +kernel
theorem d123_0 : decode (zB 123) 0 = .ok (.aload_n 0, 1) := by decide +kernel
theorem d123_1 : decode (zB 123) 1 = .ok (.getfield 45, 3) := by decide +kernel
theorem d123_4 : decode (zB 123) 4 = .ok (.getfield 155, 3) := by decide +kernel
theorem d123_7 : decode (zB 123) 7 = .ok (.iconst 1, 1) := by decide +kernel
theorem d123_8 : decode (zB 123) 8 = .ok (.isub, 1) := by decide +kernel
theorem d123_9 : decode (zB 123) 9 = .ok (.istore_n 1, 1) := by decide +kernel
theorem d123_10 : decode (zB 123) 10 = .ok (.iload_n 1, 1) := by decide +kernel
theorem d123_11 : decode (zB 123) 11 = .ok (.iconst 1, 1) := by decide +kernel
theorem d123_12 : decode (zB 123) 12 = .ok (.if_icmp .lt 85, 3) := by decide +kernel
theorem d123_15 : decode (zB 123) 15 = .ok (.aload_n 0, 1) := by decide +kernel
theorem d123_16 : decode (zB 123) 16 = .ok (.getfield 45, 3) := by decide +kernel
theorem d123_19 : decode (zB 123) 19 = .ok (.sipush 25173, 3) := by decide +kernel
theorem d123_22 : decode (zB 123) 22 = .ok (.aload_n 0, 1) := by decide +kernel
theorem d123_23 : decode (zB 123) 23 = .ok (.getfield 45, 3) := by decide +kernel
theorem d123_26 : decode (zB 123) 26 = .ok (.getfield 321, 3) := by decide +kernel
theorem d123_29 : decode (zB 123) 29 = .ok (.imul, 1) := by decide +kernel
theorem d123_30 : decode (zB 123) 30 = .ok (.sipush 13849, 3) := by decide +kernel
theorem d123_33 : decode (zB 123) 33 = .ok (.iadd, 1) := by decide +kernel
theorem d123_34 : decode (zB 123) 34 = .ok (.ldc_w 324, 3) := by decide +kernel
theorem d123_37 : decode (zB 123) 37 = .ok (.irem, 1) := by decide +kernel
theorem d123_38 : decode (zB 123) 38 = .ok (.putfield 321, 3) := by decide +kernel
theorem d123_41 : decode (zB 123) 41 = .ok (.aload_n 0, 1) := by decide +kernel
theorem d123_42 : decode (zB 123) 42 = .ok (.getfield 45, 3) := by decide +kernel
theorem d123_45 : decode (zB 123) 45 = .ok (.getfield 321, 3) := by decide +kernel
theorem d123_48 : decode (zB 123) 48 = .ok (.iload_n 1, 1) := by decide +kernel
theorem d123_49 : decode (zB 123) 49 = .ok (.iconst 1, 1) := by decide +kernel
theorem d123_50 : decode (zB 123) 50 = .ok (.iadd, 1) := by decide +kernel
theorem d123_51 : decode (zB 123) 51 = .ok (.irem, 1) := by decide +kernel
theorem d123_52 : decode (zB 123) 52 = .ok (.istore_n 2, 1) := by decide +kernel
theorem d123_53 : decode (zB 123) 53 = .ok (.aload_n 0, 1) := by decide +kernel
theorem d123_54 : decode (zB 123) 54 = .ok (.getfield 45, 3) := by decide +kernel
theorem d123_57 : decode (zB 123) 57 = .ok (.getfield 160, 3) := by decide +kernel
theorem d123_60 : decode (zB 123) 60 = .ok (.iload_n 1, 1) := by decide +kernel
theorem d123_61 : decode (zB 123) 61 = .ok (.iaload, 1) := by decide +kernel
theorem d123_62 : decode (zB 123) 62 = .ok (.istore_n 3, 1) := by decide +kernel
theorem d123_63 : decode (zB 123) 63 = .ok (.aload_n 0, 1) := by decide +kernel
theorem d123_64 : decode (zB 123) 64 = .ok (.getfield 45, 3) := by decide +kernel
theorem d123_67 : decode (zB 123) 67 = .ok (.getfield 160, 3) := by decide +kernel
theorem d123_70 : decode (zB 123) 70 = .ok (.iload_n 1, 1) := by decide +kernel
theorem d123_71 : decode (zB 123) 71 = .ok (.aload_n 0, 1) := by decide +kernel
theorem d123_72 : decode (zB 123) 72 = .ok (.getfield 45, 3) := by decide +kernel
theorem d123_75 : decode (zB 123) 75 = .ok (.getfield 160, 3) := by decide +kernel
theorem d123_78 : decode (zB 123) 78 = .ok (.iload_n 2, 1) := by decide +kernel
theorem d123_79 : decode (zB 123) 79 = .ok (.iaload, 1) := by decide +kernel
theorem d123_80 : decode (zB 123) 80 = .ok (.iastore, 1) := by decide +kernel
theorem d123_81 : decode (zB 123) 81 = .ok (.aload_n 0, 1) := by decide +kernel
theorem d123_82 : decode (zB 123) 82 = .ok (.getfield 45, 3) := by decide +kernel
theorem d123_85 : decode (zB 123) 85 = .ok (.getfield 160, 3) := by decide +kernel
theorem d123_88 : decode (zB 123) 88 = .ok (.iload_n 2, 1) := by decide +kernel
theorem d123_89 : decode (zB 123) 89 = .ok (.iload_n 3, 1) := by decide +kernel
theorem d123_90 : decode (zB 123) 90 = .ok (.iastore, 1) := by decide +kernel
theorem d123_91 : decode (zB 123) 91 = .ok (.iinc 1 (-1), 3) := by decide +kernel
theorem d123_94 : decode (zB 123) 94 = .ok (.goto (-84), 3) := by decide +kernel
theorem d123_97 : decode (zB 123) 97 = .ok (.aload_n 0, 1) := by decide +kernel
theorem d123_98 : decode (zB 123) 98 = .ok (.aload_n 0, 1) := by decide +kernel
theorem d123_99 : decode (zB 123) 99 = .ok (.getfield 45, 3) := by decide +kernel
theorem d123_102 : decode (zB 123) 102 = .ok (.invokevirtual 205, 3) := by decide +kernel
theorem d123_105 : decode (zB 123) 105 = .ok (.ireturn, 1) := by decide +kernel
theorem d124_0 : decode (zB 124) 0 = .ok (.aload_n 0, 1) := by decide +kernel
theorem d124_1 : decode (zB 124) 1 = .ok (.getfield 49, 3) := by decide +kernel
theorem d124_4 : decode (zB 124) 4 = .ok (.aload_n 0, 1) := by decide +kernel
theorem d124_5 : decode (zB 124) 5 = .ok (.getfield 45, 3) := by decide +kernel
theorem d124_8 : decode (zB 124) 8 = .ok (.invokevirtual 195, 3) := by decide +kernel
theorem d124_11 : decode (zB 124) 11 = .ok (.aload_n 0, 1) := by decide +kernel
theorem d124_12 : decode (zB 124) 12 = .ok (.iconst 1, 1) := by decide +kernel
theorem d124_13 : decode (zB 124) 13 = .ok (.putfield 108, 3) := by decide +kernel
theorem d124_16 : decode (zB 124) 16 = .ok (.aload_n 0, 1) := by decide +kernel
theorem d124_17 : decode (zB 124) 17 = .ok (.getfield 45, 3) := by decide +kernel
theorem d124_20 : decode (zB 124) 20 = .ok (.getfield 155, 3) := by decide +kernel
theorem d124_23 : decode (zB 124) 23 = .ok (.ireturn, 1) := by decide +kernel
theorem d125_0 : decode (zB 125) 0 = .ok (.aload_n 0, 1) := by decide +kernel
theorem d125_1 : decode (zB 125) 1 = .ok (.getfield 108, 3) := by decide +kernel
theorem d125_4 : decode (zB 125) 4 = .ok (.ifCond .eq 14, 3) := by decide +kernel
theorem d125_7 : decode (zB 125) 7 = .ok (.aload_n 0, 1) := by decide +kernel
theorem d125_8 : decode (zB 125) 8 = .ok (.getfield 45, 3) := by decide +kernel
theorem d125_11 : decode (zB 125) 11 = .ok (.aload_n 0, 1) := by decide +kernel
theorem d125_12 : decode (zB 125) 12 = .ok (.getfield 49, 3) := by decide +kernel
theorem d125_15 : decode (zB 125) 15 = .ok (.invokevirtual 195, 3) := by decide +kernel
theorem d125_18 : decode (zB 125) 18 = .ok (.aload_n 0, 1) := by decide +kernel
theorem d125_19 : decode (zB 125) 19 = .ok (.getfield 108, 3) := by decide +kernel
theorem d125_22 : decode (zB 125) 22 = .ok (.ireturn, 1) := by decide +kernel
theorem d126_0 : decode (zB 126) 0 = .ok (.iload_n 1, 1) := by decide +kernel
theorem d126_1 : decode (zB 126) 1 = .ok (.ifCond .lt 22, 3) := by decide +kernel
theorem d126_4 : decode (zB 126) 4 = .ok (.iload_n 1, 1) := by decide +kernel
theorem d126_5 : decode (zB 126) 5 = .ok (.bipush 32, 2) := by decide +kernel
theorem d126_7 : decode (zB 126) 7 = .ok (.if_icmp .gt 16, 3) := by decide +kernel
theorem d126_10 : decode (zB 126) 10 = .ok (.iconst 4, 1) := by decide +kernel
theorem d126_11 : decode (zB 126) 11 = .ok (.iload_n 1, 1) := by decide +kernel
theorem d126_12 : decode (zB 126) 12 = .ok (.imul, 1) := by decide +kernel
theorem d126_13 : decode (zB 126) 13 = .ok (.aload_n 0, 1) := by decide +kernel
theorem d126_14 : decode (zB 126) 14 = .ok (.getfield 10, 3) := by decide +kernel
theorem d126_17 : decode (zB 126) 17 = .ok (.getfield 138, 3) := by decide +kernel
theorem d126_20 : decode (zB 126) 20 = .ok (.if_icmp .le 6, 3) := by decide +kernel
theorem d126_23 : decode (zB 126) 23 = .ok (.bipush (-2), 2) := by decide +kernel
theorem d126_25 : decode (zB 126) 25 = .ok (.ireturn, 1) := by decide +kernel
theorem d126_26 : decode (zB 126) 26 = .ok (.iconst (-1), 1) := by decide +kernel
theorem d126_27 : decode (zB 126) 27 = .ok (.istore_n 2, 1) := by decide +kernel
theorem d126_28 : decode (zB 126) 28 = .ok (.iload_n 1, 1) := by decide +kernel
theorem d126_29 : decode (zB 126) 29 = .ok (.iconst 1, 1) := by decide +kernel
theorem d126_30 : decode (zB 126) 30 = .ok (.isub, 1) := by decide +kernel
theorem d126_31 : decode (zB 126) 31 = .ok (.istore_n 3, 1) := by decide +kernel
theorem d126_32 : decode (zB 126) 32 = .ok (.iload_n 3, 1) := by decide +kernel
theorem d126_33 : decode (zB 126) 33 = .ok (.ifCond .lt 42, 3) := by decide +kernel
theorem d126_36 : decode (zB 126) 36 = .ok (.iload_n 3, 1) := by decide +kernel
theorem d126_37 : decode (zB 126) 37 = .ok (.aload_n 0, 1) := by decide +kernel
theorem d126_38 : decode (zB 126) 38 = .ok (.getfield 45, 3) := by decide +kernel
theorem d126_41 : decode (zB 126) 41 = .ok (.getfield 155, 3) := by decide +kernel
theorem d126_44 : decode (zB 126) 44 = .ok (.if_icmp .ge 23, 3) := by decide +kernel
theorem d126_47 : decode (zB 126) 47 = .ok (.aload_n 0, 1) := by decide +kernel
theorem d126_48 : decode (zB 126) 48 = .ok (.getfield 10, 3) := by decide +kernel
theorem d126_51 : decode (zB 126) 51 = .ok (.iload_n 3, 1) := by decide +kernel
theorem d126_52 : decode (zB 126) 52 = .ok (.invokevirtual 325, 3) := by decide +kernel
theorem d126_55 : decode (zB 126) 55 = .ok (.aload_n 0, 1) := by decide +kernel
theorem d126_56 : decode (zB 126) 56 = .ok (.getfield 45, 3) := by decide +kernel
theorem d126_59 : decode (zB 126) 59 = .ok (.getfield 160, 3) := by decide +kernel
theorem d126_62 : decode (zB 126) 62 = .ok (.iload_n 3, 1) := by decide +kernel
theorem d126_63 : decode (zB 126) 63 = .ok (.iaload, 1) := by decide +kernel
theorem d126_64 : decode (zB 126) 64 = .ok (.if_icmp .eq 5, 3) := by decide +kernel
theorem d126_67 : decode (zB 126) 67 = .ok (.iload_n 3, 1) := by decide +kernel
theorem d126_68 : decode (zB 126) 68 = .ok (.istore_n 2, 1) := by decide +kernel
theorem d126_69 : decode (zB 126) 69 = .ok (.iinc 3 (-1), 3) := by decide +kernel
theorem d126_72 : decode (zB 126) 72 = .ok (.goto (-40), 3) := by decide +kernel
theorem d126_75 : decode (zB 126) 75 = .ok (.aload_n 0, 1) := by decide +kernel
theorem d126_76 : decode (zB 126) 76 = .ok (.getfield 10, 3) := by decide +kernel
theorem d126_79 : decode (zB 126) 79 = .ok (.iconst 0, 1) := by decide +kernel
theorem d126_80 : decode (zB 126) 80 = .ok (.putfield 138, 3) := by decide +kernel
theorem d126_83 : decode (zB 126) 83 = .ok (.iload_n 2, 1) := by decide +kernel
theorem d126_84 : decode (zB 126) 84 = .ok (.ireturn, 1) := by decide +kernel
theorem d127_0 : decode (zB 127) 0 = .ok (.iload_n 1, 1) := by decide +kernel
theorem d127_1 : decode (zB 127) 1 = .ok (.bipush 20, 2) := by decide +kernel
theorem d127_3 : decode (zB 127) 3 = .ok (.if_icmp .lt 19, 3) := by decide +kernel
theorem d127_6 : decode (zB 127) 6 = .ok (.iload_n 1, 1) := by decide +kernel
theorem d127_7 : decode (zB 127) 7 = .ok (.bipush 40, 2) := by decide +kernel
theorem d127_9 : decode (zB 127) 9 = .ok (.if_icmp .ge 13, 3) := by decide +kernel
theorem d127_12 : decode (zB 127) 12 = .ok (.aload_n 0, 1) := by decide +kernel
theorem d127_13 : decode (zB 127) 13 = .ok (.getfield 29, 3) := by decide +kernel
theorem d127_16 : decode (zB 127) 16 = .ok (.iload_n 1, 1) := by decide +kernel
theorem d127_17 : decode (zB 127) 17 = .ok (.bipush 20, 2) := by decide +kernel
theorem d127_19 : decode (zB 127) 19 = .ok (.isub, 1) := by decide +kernel
theorem d127_20 : decode (zB 127) 20 = .ok (.iaload, 1) := by decide +kernel
theorem d127_21 : decode (zB 127) 21 = .ok (.ireturn, 1) := by decide +kernel
theorem d127_22 : decode (zB 127) 22 = .ok (.iload_n 1, 1) := by decide +kernel
theorem d127_23 : decode (zB 127) 23 = .ok (.tableswitch 136 0 9 #[53, 61, 69, 77, 88, 96, 104, 112, 120, 128], 53) := by decide +kernel
theorem d127_76 : decode (zB 127) 76 = .ok (.aload_n 0, 1) := by decide +kernel
theorem d127_77 : decode (zB 127) 77 = .ok (.getfield 45, 3) := by decide +kernel
theorem d127_80 : decode (zB 127) 80 = .ok (.getfield 328, 3) := by decide +kernel
theorem d127_83 : decode (zB 127) 83 = .ok (.ireturn, 1) := by decide +kernel
theorem d127_84 : decode (zB 127) 84 = .ok (.aload_n 0, 1) := by decide +kernel
theorem d127_85 : decode (zB 127) 85 = .ok (.getfield 45, 3) := by decide +kernel
theorem d127_88 : decode (zB 127) 88 = .ok (.getfield 155, 3) := by decide +kernel
theorem d127_91 : decode (zB 127) 91 = .ok (.ireturn, 1) := by decide +kernel
theorem d127_92 : decode (zB 127) 92 = .ok (.aload_n 0, 1) := by decide +kernel
theorem d127_93 : decode (zB 127) 93 = .ok (.getfield 45, 3) := by decide +kernel
theorem d127_96 : decode (zB 127) 96 = .ok (.getfield 116, 3) := by decide +kernel
theorem d127_99 : decode (zB 127) 99 = .ok (.ireturn, 1) := by decide +kernel
theorem d127_100 : decode (zB 127) 100 = .ok (.aload_n 0, 1) := by decide +kernel
theorem d127_101 : decode (zB 127) 101 = .ok (.getfield 63, 3) := by decide +kernel
theorem d127_104 : decode (zB 127) 104 = .ok (.getfield 147, 3) := by decide +kernel
theorem d127_107 : decode (zB 127) 107 = .ok (.getfield 331, 3) := by decide +kernel
theorem d127_110 : decode (zB 127) 110 = .ok (.ireturn, 1) := by decide +kernel
theorem d127_111 : decode (zB 127) 111 = .ok (.aload_n 0, 1) := by decide +kernel
theorem d127_112 : decode (zB 127) 112 = .ok (.getfield 10, 3) := by decide +kernel
theorem d127_115 : decode (zB 127) 115 = .ok (.getfield 138, 3) := by decide +kernel
theorem d127_118 : decode (zB 127) 118 = .ok (.ireturn, 1) := by decide +kernel
theorem d127_119 : decode (zB 127) 119 = .ok (.aload_n 0, 1) := by decide +kernel
theorem d127_120 : decode (zB 127) 120 = .ok (.getfield 45, 3) := by decide +kernel
theorem d127_123 : decode (zB 127) 123 = .ok (.getfield 321, 3) := by decide +kernel
theorem d127_126 : decode (zB 127) 126 = .ok (.ireturn, 1) := by decide +kernel
theorem d127_127 : decode (zB 127) 127 = .ok (.aload_n 0, 1) := by decide +kernel
theorem d127_128 : decode (zB 127) 128 = .ok (.getfield 38, 3) := by decide +kernel
theorem d127_131 : decode (zB 127) 131 = .ok (.getfield 124, 3) := by decide +kernel
theorem d127_134 : decode (zB 127) 134 = .ok (.ireturn, 1) := by decide +kernel
theorem d127_135 : decode (zB 127) 135 = .ok (.aload_n 0, 1) := by decide +kernel
theorem d127_136 : decode (zB 127) 136 = .ok (.getfield 38, 3) := by decide +kernel
theorem d127_139 : decode (zB 127) 139 = .ok (.getfield 127, 3) := by decide +kernel
theorem d127_142 : decode (zB 127) 142 = .ok (.ireturn, 1) := by decide +kernel
theorem d127_143 : decode (zB 127) 143 = .ok (.aload_n 0, 1) := by decide +kernel
theorem d127_144 : decode (zB 127) 144 = .ok (.getfield 45, 3) := by decide +kernel
theorem d127_147 : decode (zB 127) 147 = .ok (.invokevirtual 334, 3) := by decide +kernel
theorem d127_150 : decode (zB 127) 150 = .ok (.ireturn, 1) := by decide +kernel
theorem d127_151 : decode (zB 127) 151 = .ok (.aload_n 0, 1) := by decide +kernel
theorem d127_152 : decode (zB 127) 152 = .ok (.getfield 45, 3) := by decide +kernel
theorem d127_155 : decode (zB 127) 155 = .ok (.invokevirtual 337, 3) := by decide +kernel
theorem d127_158 : decode (zB 127) 158 = .ok (.ireturn, 1) := by decide +kernel
theorem d127_159 : decode (zB 127) 159 = .ok (.iconst (-1), 1) := by decide +kernel
theorem d127_160 : decode (zB 127) 160 = .ok (.ireturn, 1) := by decide +kernel
theorem d128_0 : decode (zB 128) 0 = .ok (.iload_n 0, 1) := by decide +kernel
theorem d128_1 : decode (zB 128) 1 = .ok (.ifCond .lt 13, 3) := by decide +kernel
theorem d128_4 : decode (zB 128) 4 = .ok (.iload_n 0, 1) := by decide +kernel
theorem d128_5 : decode (zB 128) 5 = .ok (.bipush 20, 2) := by decide +kernel
theorem d128_7 : decode (zB 128) 7 = .ok (.if_icmp .ge 7, 3) := by decide +kernel
theorem d128_10 : decode (zB 128) 10 = .ok (.iconst 1, 1) := by decide +kernel
theorem d128_11 : decode (zB 128) 11 = .ok (.goto 4, 3) := by decide +kernel
theorem d128_14 : decode (zB 128) 14 = .ok (.iconst 0, 1) := by decide +kernel
theorem d128_15 : decode (zB 128) 15 = .ok (.ireturn, 1) := by decide +kernel
theorem d129_0 : decode (zB 129) 0 = .ok (.iload_n 0, 1) := by decide +kernel
theorem d129_1 : decode (zB 129) 1 = .ok (.invokestatic 112, 3) := by decide +kernel
theorem d129_4 : decode (zB 129) 4 = .ok (.ifCond .eq 30, 3) := by decide +kernel
theorem d129_7 : decode (zB 129) 7 = .ok (.iload_n 1, 1) := by decide +kernel
theorem d129_8 : decode (zB 129) 8 = .ok (.invokestatic 112, 3) := by decide +kernel
theorem d129_11 : decode (zB 129) 11 = .ok (.ifCond .eq 23, 3) := by decide +kernel
theorem d129_14 : decode (zB 129) 14 = .ok (.iload_n 0, 1) := by decide +kernel
theorem d129_15 : decode (zB 129) 15 = .ok (.iload_n 1, 1) := by decide +kernel
theorem d129_16 : decode (zB 129) 16 = .ok (.if_icmp .gt 18, 3) := by decide +kernel
theorem d129_19 : decode (zB 129) 19 = .ok (.iload_n 2, 1) := by decide +kernel
theorem d129_20 : decode (zB 129) 20 = .ok (.iconst 1, 1) := by decide +kernel
theorem d129_21 : decode (zB 129) 21 = .ok (.if_icmp .lt 13, 3) := by decide +kernel
theorem d129_24 : decode (zB 129) 24 = .ok (.iload_n 2, 1) := by decide +kernel
theorem d129_25 : decode (zB 129) 25 = .ok (.bipush 12, 2) := by decide +kernel
theorem d129_27 : decode (zB 129) 27 = .ok (.if_icmp .gt 7, 3) := by decide +kernel
theorem d129_30 : decode (zB 129) 30 = .ok (.iconst 1, 1) := by decide +kernel
theorem d129_31 : decode (zB 129) 31 = .ok (.goto 4, 3) := by decide +kernel
theorem d129_34 : decode (zB 129) 34 = .ok (.iconst 0, 1) := by decide +kernel
theorem d129_35 : decode (zB 129) 35 = .ok (.ireturn, 1) := by decide +kernel
theorem d130_0 : decode (zB 130) 0 = .ok (.iload_n 1, 1) := by decide +kernel
theorem d130_1 : decode (zB 130) 1 = .ok (.ifCond .lt 18, 3) := by decide +kernel
theorem d130_4 : decode (zB 130) 4 = .ok (.iload_n 1, 1) := by decide +kernel
theorem d130_5 : decode (zB 130) 5 = .ok (.aload_n 0, 1) := by decide +kernel
theorem d130_6 : decode (zB 130) 6 = .ok (.getfield 45, 3) := by decide +kernel
theorem d130_9 : decode (zB 130) 9 = .ok (.getfield 328, 3) := by decide +kernel
theorem d130_12 : decode (zB 130) 12 = .ok (.if_icmp .ge 7, 3) := by decide +kernel
theorem d130_15 : decode (zB 130) 15 = .ok (.iconst 1, 1) := by decide +kernel
theorem d130_16 : decode (zB 130) 16 = .ok (.goto 4, 3) := by decide +kernel
theorem d130_19 : decode (zB 130) 19 = .ok (.iconst 0, 1) := by decide +kernel
theorem d130_20 : decode (zB 130) 20 = .ok (.ireturn, 1) := by decide +kernel
theorem d131_0 : decode (zB 131) 0 = .ok (.iload_n 1, 1) := by decide +kernel
theorem d131_1 : decode (zB 131) 1 = .ok (.iconst 1, 1) := by decide +kernel
theorem d131_2 : decode (zB 131) 2 = .ok (.if_icmp .lt 26, 3) := by decide +kernel
theorem d131_5 : decode (zB 131) 5 = .ok (.iload_n 1, 1) := by decide +kernel
theorem d131_6 : decode (zB 131) 6 = .ok (.iload_n 2, 1) := by decide +kernel
theorem d131_7 : decode (zB 131) 7 = .ok (.if_icmp .gt 21, 3) := by decide +kernel
theorem d131_10 : decode (zB 131) 10 = .ok (.aload_n 0, 1) := by decide +kernel
theorem d131_11 : decode (zB 131) 11 = .ok (.getfield 45, 3) := by decide +kernel
theorem d131_14 : decode (zB 131) 14 = .ok (.getfield 116, 3) := by decide +kernel
theorem d131_17 : decode (zB 131) 17 = .ok (.iload_n 1, 1) := by decide +kernel
theorem d131_18 : decode (zB 131) 18 = .ok (.iadd, 1) := by decide +kernel
theorem d131_19 : decode (zB 131) 19 = .ok (.bipush 12, 2) := by decide +kernel
theorem d131_21 : decode (zB 131) 21 = .ok (.if_icmp .gt 7, 3) := by decide +kernel
theorem d131_24 : decode (zB 131) 24 = .ok (.iconst 1, 1) := by decide +kernel
theorem d131_25 : decode (zB 131) 25 = .ok (.goto 4, 3) := by decide +kernel
theorem d131_28 : decode (zB 131) 28 = .ok (.iconst 0, 1) := by decide +kernel
theorem d131_29 : decode (zB 131) 29 = .ok (.ireturn, 1) := by decide +kernel
theorem d132_0 : decode (zB 132) 0 = .ok (.aload_n 0, 1) := by decide +kernel
theorem d132_1 : decode (zB 132) 1 = .ok (.getfield 63, 3) := by decide +kernel
theorem d132_4 : decode (zB 132) 4 = .ok (.aload_n 0, 1) := by decide +kernel
theorem d132_5 : decode (zB 132) 5 = .ok (.getfield 45, 3) := by decide +kernel
theorem d132_8 : decode (zB 132) 8 = .ok (.iload_n 1, 1) := by decide +kernel
theorem d132_9 : decode (zB 132) 9 = .ok (.invokevirtual 340, 3) := by decide +kernel
theorem d132_12 : decode (zB 132) 12 = .ok (.istore_n 2, 1) := by decide +kernel
theorem d132_13 : decode (zB 132) 13 = .ok (.iload_n 2, 1) := by decide +kernel
theorem d132_14 : decode (zB 132) 14 = .ok (.iconst (-1), 1) := by decide +kernel
theorem d132_15 : decode (zB 132) 15 = .ok (.if_icmp .ne 8, 3) := by decide +kernel
theorem d132_18 : decode (zB 132) 18 = .ok (.bipush (-2), 2) := by decide +kernel
theorem d132_20 : decode (zB 132) 20 = .ok (.goto 4, 3) := by decide +kernel
theorem d132_23 : decode (zB 132) 23 = .ok (.iload_n 2, 1) := by decide +kernel
theorem d132_24 : decode (zB 132) 24 = .ok (.ireturn, 1) := by decide +kernel
theorem d133_0 : decode (zB 133) 0 = .ok (.iconst 1, 1) := by decide +kernel
theorem d133_1 : decode (zB 133) 1 = .ok (.istore_n 2, 1) := by decide +kernel
theorem d133_2 : decode (zB 133) 2 = .ok (.iload_n 2, 1) := by decide +kernel
theorem d133_3 : decode (zB 133) 3 = .ok (.aload_n 1, 1) := by decide +kernel
theorem d133_4 : decode (zB 133) 4 = .ok (.getfield 155, 3) := by decide +kernel
theorem d133_7 : decode (zB 133) 7 = .ok (.if_icmp .ge 36, 3) := by decide +kernel
theorem d133_10 : decode (zB 133) 10 = .ok (.aload_n 0, 1) := by decide +kernel
theorem d133_11 : decode (zB 133) 11 = .ok (.getfield 29, 3) := by decide +kernel
theorem d133_14 : decode (zB 133) 14 = .ok (.aload_n 1, 1) := by decide +kernel
theorem d133_15 : decode (zB 133) 15 = .ok (.iload_n 2, 1) := by decide +kernel
theorem d133_16 : decode (zB 133) 16 = .ok (.invokevirtual 227, 3) := by decide +kernel
theorem d133_19 : decode (zB 133) 19 = .ok (.iaload, 1) := by decide +kernel
theorem d133_20 : decode (zB 133) 20 = .ok (.aload_n 0, 1) := by decide +kernel
theorem d133_21 : decode (zB 133) 21 = .ok (.getfield 29, 3) := by decide +kernel
theorem d133_24 : decode (zB 133) 24 = .ok (.aload_n 1, 1) := by decide +kernel
theorem d133_25 : decode (zB 133) 25 = .ok (.iload_n 2, 1) := by decide +kernel
theorem d133_26 : decode (zB 133) 26 = .ok (.iconst 1, 1) := by decide +kernel
theorem d133_27 : decode (zB 133) 27 = .ok (.isub, 1) := by decide +kernel
theorem d133_28 : decode (zB 133) 28 = .ok (.invokevirtual 227, 3) := by decide +kernel
theorem d133_31 : decode (zB 133) 31 = .ok (.iaload, 1) := by decide +kernel
theorem d133_32 : decode (zB 133) 32 = .ok (.if_icmp .ge 5, 3) := by decide +kernel
theorem d133_35 : decode (zB 133) 35 = .ok (.iload_n 2, 1) := by decide +kernel
theorem d133_36 : decode (zB 133) 36 = .ok (.ireturn, 1) := by decide +kernel
theorem d133_37 : decode (zB 133) 37 = .ok (.iinc 2 1, 3) := by decide +kernel
theorem d133_40 : decode (zB 133) 40 = .ok (.goto (-38), 3) := by decide +kernel
theorem d133_43 : decode (zB 133) 43 = .ok (.iconst (-1), 1) := by decide +kernel
theorem d133_44 : decode (zB 133) 44 = .ok (.ireturn, 1) := by decide +kernel
theorem d134_0 : decode (zB 134) 0 = .ok (.iconst 0, 1) := by decide +kernel
theorem d134_1 : decode (zB 134) 1 = .ok (.istore_n 1, 1) := by decide +kernel
theorem d134_2 : decode (zB 134) 2 = .ok (.iload_n 1, 1) := by decide +kernel
theorem d134_3 : decode (zB 134) 3 = .ok (.aload_n 0, 1) := by decide +kernel
theorem d134_4 : decode (zB 134) 4 = .ok (.getfield 45, 3) := by decide +kernel
theorem d134_7 : decode (zB 134) 7 = .ok (.getfield 155, 3) := by decide +kernel
theorem d134_10 : decode (zB 134) 10 = .ok (.if_icmp .ge 28, 3) := by decide +kernel
theorem d134_13 : decode (zB 134) 13 = .ok (.aload_n 0, 1) := by decide +kernel
theorem d134_14 : decode (zB 134) 14 = .ok (.getfield 32, 3) := by decide +kernel
theorem d134_17 : decode (zB 134) 17 = .ok (.iload_n 1, 1) := by decide +kernel
theorem d134_18 : decode (zB 134) 18 = .ok (.aload_n 0, 1) := by decide +kernel
theorem d134_19 : decode (zB 134) 19 = .ok (.getfield 29, 3) := by decide +kernel
theorem d134_22 : decode (zB 134) 22 = .ok (.aload_n 0, 1) := by decide +kernel
theorem d134_23 : decode (zB 134) 23 = .ok (.getfield 45, 3) := by decide +kernel
theorem d134_26 : decode (zB 134) 26 = .ok (.iload_n 1, 1) := by decide +kernel
theorem d134_27 : decode (zB 134) 27 = .ok (.invokevirtual 227, 3) := by decide +kernel
theorem d134_30 : decode (zB 134) 30 = .ok (.iaload, 1) := by decide +kernel
theorem d134_31 : decode (zB 134) 31 = .ok (.iastore, 1) := by decide +kernel
theorem d134_32 : decode (zB 134) 32 = .ok (.iinc 1 1, 3) := by decide +kernel
theorem d134_35 : decode (zB 134) 35 = .ok (.goto (-33), 3) := by decide +kernel
theorem d134_38 : decode (zB 134) 38 = .ok (.return_, 1) := by decide +kernel
theorem d135_0 : decode (zB 135) 0 = .ok (.aload_n 0, 1) := by decide +kernel
theorem d135_1 : decode (zB 135) 1 = .ok (.invokevirtual 245, 3) := by decide +kernel
theorem d135_4 : decode (zB 135) 4 = .ok (.aload_n 0, 1) := by decide +kernel
theorem d135_5 : decode (zB 135) 5 = .ok (.getfield 70, 3) := by decide +kernel
theorem d135_8 : decode (zB 135) 8 = .ok (.aload_n 0, 1) := by decide +kernel
theorem d135_9 : decode (zB 135) 9 = .ok (.getfield 32, 3) := by decide +kernel
theorem d135_12 : decode (zB 135) 12 = .ok (.aload_n 0, 1) := by decide +kernel
theorem d135_13 : decode (zB 135) 13 = .ok (.getfield 45, 3) := by decide +kernel
theorem d135_16 : decode (zB 135) 16 = .ok (.getfield 155, 3) := by decide +kernel
theorem d135_19 : decode (zB 135) 19 = .ok (.invokevirtual 259, 3) := by decide +kernel
theorem d135_22 : decode (zB 135) 22 = .ok (.return_, 1) := by decide +kernel
theorem d136_0 : decode (zB 136) 0 = .ok (.aload_n 0, 1) := by decide +kernel
theorem d136_1 : decode (zB 136) 1 = .ok (.invokevirtual 209, 3) := by decide +kernel
theorem d136_4 : decode (zB 136) 4 = .ok (.aload_n 0, 1) := by decide +kernel
theorem d136_5 : decode (zB 136) 5 = .ok (.getfield 79, 3) := by decide +kernel
theorem d136_8 : decode (zB 136) 8 = .ok (.invokevirtual 342, 3) := by decide +kernel
theorem d136_11 : decode (zB 136) 11 = .ok (.ireturn, 1) := by decide +kernel
theorem d137_0 : decode (zB 137) 0 = .ok (.iconst 0, 1) := by decide +kernel
theorem d137_1 : decode (zB 137) 1 = .ok (.istore_n 2, 1) := by decide +kernel
theorem d137_2 : decode (zB 137) 2 = .ok (.iconst 0, 1) := by decide +kernel
theorem d137_3 : decode (zB 137) 3 = .ok (.istore_n 3, 1) := by decide +kernel
theorem d137_4 : decode (zB 137) 4 = .ok (.iload_n 3, 1) := by decide +kernel
theorem d137_5 : decode (zB 137) 5 = .ok (.iload_n 1, 1) := by decide +kernel
theorem d137_6 : decode (zB 137) 6 = .ok (.if_icmp .ge 37, 3) := by decide +kernel
theorem d137_9 : decode (zB 137) 9 = .ok (.aload_n 0, 1) := by decide +kernel
theorem d137_10 : decode (zB 137) 10 = .ok (.getfield 63, 3) := by decide +kernel
theorem d137_13 : decode (zB 137) 13 = .ok (.getfield 224, 3) := by decide +kernel
theorem d137_16 : decode (zB 137) 16 = .ok (.iload_n 3, 1) := by decide +kernel
theorem d137_17 : decode (zB 137) 17 = .ok (.iaload, 1) := by decide +kernel
theorem d137_18 : decode (zB 137) 18 = .ok (.iconst (-1), 1) := by decide +kernel
theorem d137_19 : decode (zB 137) 19 = .ok (.if_icmp .eq 18, 3) := by decide +kernel
theorem d137_22 : decode (zB 137) 22 = .ok (.iload_n 2, 1) := by decide +kernel
theorem d137_23 : decode (zB 137) 23 = .ok (.aload_n 0, 1) := by decide +kernel
theorem d137_24 : decode (zB 137) 24 = .ok (.getfield 63, 3) := by decide +kernel
theorem d137_27 : decode (zB 137) 27 = .ok (.aload_n 0, 1) := by decide +kernel
theorem d137_28 : decode (zB 137) 28 = .ok (.getfield 52, 3) := by decide +kernel
theorem d137_31 : decode (zB 137) 31 = .ok (.iload_n 3, 1) := by decide +kernel
theorem d137_32 : decode (zB 137) 32 = .ok (.invokevirtual 314, 3) := by decide +kernel
theorem d137_35 : decode (zB 137) 35 = .ok (.iadd, 1) := by decide +kernel
theorem d137_36 : decode (zB 137) 36 = .ok (.istore_n 2, 1) := by decide +kernel
theorem d137_37 : decode (zB 137) 37 = .ok (.iinc 3 1, 3) := by decide +kernel
theorem d137_40 : decode (zB 137) 40 = .ok (.goto (-36), 3) := by decide +kernel
theorem d137_43 : decode (zB 137) 43 = .ok (.iload_n 2, 1) := by decide +kernel
theorem d137_44 : decode (zB 137) 44 = .ok (.ireturn, 1) := by decide +kernel
theorem d138_0 : decode (zB 138) 0 = .ok (.iconst 0, 1) := by decide +kernel
theorem d138_1 : decode (zB 138) 1 = .ok (.istore_n 2, 1) := by decide +kernel
theorem d138_2 : decode (zB 138) 2 = .ok (.iload_n 1, 1) := by decide +kernel
theorem d138_3 : decode (zB 138) 3 = .ok (.istore_n 3, 1) := by decide +kernel
theorem d138_4 : decode (zB 138) 4 = .ok (.iconst 0, 1) := by decide +kernel
theorem d138_5 : decode (zB 138) 5 = .ok (.istore 4, 2) := by decide +kernel
theorem d138_7 : decode (zB 138) 7 = .ok (.iconst 0, 1) := by decide +kernel
theorem d138_8 : decode (zB 138) 8 = .ok (.istore 5, 2) := by decide +kernel
theorem d138_10 : decode (zB 138) 10 = .ok (.iload 5, 2) := by decide +kernel
theorem d138_12 : decode (zB 138) 12 = .ok (.aload_n 0, 1) := by decide +kernel
theorem d138_13 : decode (zB 138) 13 = .ok (.getfield 52, 3) := by decide +kernel
theorem d138_16 : decode (zB 138) 16 = .ok (.getfield 155, 3) := by decide +kernel
theorem d138_19 : decode (zB 138) 19 = .ok (.if_icmp .ge 66, 3) := by decide +kernel
theorem d138_22 : decode (zB 138) 22 = .ok (.aload_n 0, 1) := by decide +kernel
theorem d138_23 : decode (zB 138) 23 = .ok (.getfield 63, 3) := by decide +kernel
theorem d138_26 : decode (zB 138) 26 = .ok (.getfield 224, 3) := by decide +kernel
theorem d138_29 : decode (zB 138) 29 = .ok (.iload 5, 2) := by decide +kernel
theorem d138_31 : decode (zB 138) 31 = .ok (.iaload, 1) := by decide +kernel
theorem d138_32 : decode (zB 138) 32 = .ok (.iconst (-1), 1) := by decide +kernel
theorem d138_33 : decode (zB 138) 33 = .ok (.if_icmp .eq 21, 3) := by decide +kernel
theorem d138_36 : decode (zB 138) 36 = .ok (.iload 4, 2) := by decide +kernel
theorem d138_38 : decode (zB 138) 38 = .ok (.aload_n 0, 1) := by decide +kernel
theorem d138_39 : decode (zB 138) 39 = .ok (.getfield 63, 3) := by decide +kernel
theorem d138_42 : decode (zB 138) 42 = .ok (.aload_n 0, 1) := by decide +kernel
theorem d138_43 : decode (zB 138) 43 = .ok (.getfield 52, 3) := by decide +kernel
theorem d138_46 : decode (zB 138) 46 = .ok (.iload 5, 2) := by decide +kernel
theorem d138_48 : decode (zB 138) 48 = .ok (.invokevirtual 314, 3) := by decide +kernel
theorem d138_51 : decode (zB 138) 51 = .ok (.iadd, 1) := by decide +kernel
theorem d138_52 : decode (zB 138) 52 = .ok (.istore 4, 2) := by decide +kernel
theorem d138_54 : decode (zB 138) 54 = .ok (.iload 4, 2) := by decide +kernel
theorem d138_56 : decode (zB 138) 56 = .ok (.iload_n 1, 1) := by decide +kernel
theorem d138_57 : decode (zB 138) 57 = .ok (.iload 4, 2) := by decide +kernel
theorem d138_59 : decode (zB 138) 59 = .ok (.isub, 1) := by decide +kernel
theorem d138_60 : decode (zB 138) 60 = .ok (.invokestatic 307, 3) := by decide +kernel
theorem d138_63 : decode (zB 138) 63 = .ok (.istore 6, 2) := by decide +kernel
theorem d138_65 : decode (zB 138) 65 = .ok (.iload 6, 2) := by decide +kernel
theorem d138_67 : decode (zB 138) 67 = .ok (.iload_n 3, 1) := by decide +kernel
theorem d138_68 : decode (zB 138) 68 = .ok (.if_icmp .ge 11, 3) := by decide +kernel
theorem d138_71 : decode (zB 138) 71 = .ok (.iload 6, 2) := by decide +kernel
theorem d138_73 : decode (zB 138) 73 = .ok (.istore_n 3, 1) := by decide +kernel
theorem d138_74 : decode (zB 138) 74 = .ok (.iload 5, 2) := by decide +kernel
theorem d138_76 : decode (zB 138) 76 = .ok (.iconst 1, 1) := by decide +kernel
theorem d138_77 : decode (zB 138) 77 = .ok (.iadd, 1) := by decide +kernel
theorem d138_78 : decode (zB 138) 78 = .ok (.istore_n 2, 1) := by decide +kernel
theorem d138_79 : decode (zB 138) 79 = .ok (.iinc 5 1, 3) := by decide +kernel
theorem d138_82 : decode (zB 138) 82 = .ok (.goto (-72), 3) := by decide +kernel
theorem d138_85 : decode (zB 138) 85 = .ok (.iload_n 2, 1) := by decide +kernel
theorem d138_86 : decode (zB 138) 86 = .ok (.ireturn, 1) := by decide +kernel
