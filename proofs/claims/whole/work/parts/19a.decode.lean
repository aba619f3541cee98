theorem d0_0 : decode (zB 0) 0 = .ok (.aload_n 0, 1) := by decide +kernel
theorem d0_1 : decode (zB 0) 1 = .ok (.invokespecial 3, 3) := by decide +kernel
theorem d0_4 : decode (zB 0) 4 = .ok (.aload_n 0, 1) := by decide +kernel
theorem d0_5 : decode (zB 0) 5 = .ok (.new 9, 3) := by decide +kernel
theorem d0_8 : decode (zB 0) 8 = .ok (.dup, 1) := by decide +kernel
theorem d0_9 : decode (zB 0) 9 = .ok (.invokespecial 11, 3) := by decide +kernel
theorem d0_12 : decode (zB 0) 12 = .ok (.putfield 12, 3) := by decide +kernel
theorem d0_15 : decode (zB 0) 15 = .ok (.aload_n 0, 1) := by decide +kernel
theorem d0_16 : decode (zB 0) 16 = .ok (.new 9, 3) := by decide +kernel
theorem d0_19 : decode (zB 0) 19 = .ok (.dup, 1) := by decide +kernel
theorem d0_20 : decode (zB 0) 20 = .ok (.invokespecial 11, 3) := by decide +kernel
theorem d0_23 : decode (zB 0) 23 = .ok (.putfield 18, 3) := by decide +kernel
theorem d0_26 : decode (zB 0) 26 = .ok (.aload_n 0, 1) := by decide +kernel
theorem d0_27 : decode (zB 0) 27 = .ok (.bipush 32, 2) := by decide +kernel
theorem d0_29 : decode (zB 0) 29 = .ok (.newarray .int, 2) := by decide +kernel
theorem d0_31 : decode (zB 0) 31 = .ok (.putfield 21, 3) := by decide +kernel
theorem d0_34 : decode (zB 0) 34 = .ok (.aload_n 0, 1) := by decide +kernel
theorem d0_35 : decode (zB 0) 35 = .ok (.sipush 6144, 3) := by decide +kernel
theorem d0_38 : decode (zB 0) 38 = .ok (.newarray .long, 2) := by decide +kernel
theorem d0_40 : decode (zB 0) 40 = .ok (.putfield 25, 3) := by decide +kernel
theorem d0_43 : decode (zB 0) 43 = .ok (.aload_n 0, 1) := by decide +kernel
theorem d0_44 : decode (zB 0) 44 = .ok (.iconst 3, 1) := by decide +kernel
theorem d0_45 : decode (zB 0) 45 = .ok (.newarray .int, 2) := by decide +kernel
theorem d0_47 : decode (zB 0) 47 = .ok (.putfield 29, 3) := by decide +kernel
theorem d0_50 : decode (zB 0) 50 = .ok (.aload_n 0, 1) := by decide +kernel
theorem d0_51 : decode (zB 0) 51 = .ok (.iconst 0, 1) := by decide +kernel
theorem d0_52 : decode (zB 0) 52 = .ok (.putfield 32, 3) := by decide +kernel
theorem d0_55 : decode (zB 0) 55 = .ok (.aload_n 0, 1) := by decide +kernel
theorem d0_56 : decode (zB 0) 56 = .ok (.iconst 0, 1) := by decide +kernel
theorem d0_57 : decode (zB 0) 57 = .ok (.putfield 36, 3) := by decide +kernel
theorem d0_60 : decode (zB 0) 60 = .ok (.aload_n 0, 1) := by decide +kernel
theorem d0_61 : decode (zB 0) 61 = .ok (.iconst 0, 1) := by decide +kernel
theorem d0_62 : decode (zB 0) 62 = .ok (.putfield 39, 3) := by decide +kernel
theorem d0_65 : decode (zB 0) 65 = .ok (.aload_n 0, 1) := by decide +kernel
theorem d0_66 : decode (zB 0) 66 = .ok (.aload_n 1, 1) := by decide +kernel
theorem d0_67 : decode (zB 0) 67 = .ok (.putfield 43, 3) := by decide +kernel
theorem d0_70 : decode (zB 0) 70 = .ok (.aload_n 0, 1) := by decide +kernel
theorem d0_71 : decode (zB 0) 71 = .ok (.aload_n 2, 1) := by decide +kernel
theorem d0_72 : decode (zB 0) 72 = .ok (.putfield 47, 3) := by decide +kernel
theorem d0_75 : decode (zB 0) 75 = .ok (.return_, 1) := by decide +kernel
theorem d1_0 : decode (zB 1) 0 = .ok (.iload_n 1, 1) := by decide +kernel
theorem d1_1 : decode (zB 1) 1 = .ok (.iconst (-1), 1) := by decide +kernel
theorem d1_2 : decode (zB 1) 2 = .ok (.if_icmp .ne 8, 3) := by decide +kernel
theorem d1_5 : decode (zB 1) 5 = .ok (.aload_n 0, 1) := by decide +kernel
theorem d1_6 : decode (zB 1) 6 = .ok (.getfield 39, 3) := by decide +kernel
theorem d1_9 : decode (zB 1) 9 = .ok (.ireturn, 1) := by decide +kernel
theorem d1_10 : decode (zB 1) 10 = .ok (.aload_n 0, 1) := by decide +kernel
theorem d1_11 : decode (zB 1) 11 = .ok (.getfield 39, 3) := by decide +kernel
theorem d1_14 : decode (zB 1) 14 = .ok (.ifCond .le 25, 3) := by decide +kernel
theorem d1_17 : decode (zB 1) 17 = .ok (.iload_n 1, 1) := by decide +kernel
theorem d1_18 : decode (zB 1) 18 = .ok (.ifCond .lt 21, 3) := by decide +kernel
theorem d1_21 : decode (zB 1) 21 = .ok (.iload_n 1, 1) := by decide +kernel
theorem d1_22 : decode (zB 1) 22 = .ok (.aload_n 0, 1) := by decide +kernel
theorem d1_23 : decode (zB 1) 23 = .ok (.getfield 29, 3) := by decide +kernel
theorem d1_26 : decode (zB 1) 26 = .ok (.arraylength, 1) := by decide +kernel
theorem d1_27 : decode (zB 1) 27 = .ok (.if_icmp .ge 12, 3) := by decide +kernel
theorem d1_30 : decode (zB 1) 30 = .ok (.aload_n 0, 1) := by decide +kernel
theorem d1_31 : decode (zB 1) 31 = .ok (.getfield 29, 3) := by decide +kernel
theorem d1_34 : decode (zB 1) 34 = .ok (.iload_n 1, 1) := by decide +kernel
theorem d1_35 : decode (zB 1) 35 = .ok (.iaload, 1) := by decide +kernel
theorem d1_36 : decode (zB 1) 36 = .ok (.goto 5, 3) := by decide +kernel
theorem d1_39 : decode (zB 1) 39 = .ok (.bipush (-2), 2) := by decide +kernel
theorem d1_41 : decode (zB 1) 41 = .ok (.ireturn, 1) := by decide +kernel
theorem d2_0 : decode (zB 2) 0 = .ok (.aload_n 0, 1) := by decide +kernel
theorem d2_1 : decode (zB 2) 1 = .ok (.getfield 25, 3) := by decide +kernel
theorem d2_4 : decode (zB 2) 4 = .ok (.lconst 0, 1) := by decide +kernel
theorem d2_5 : decode (zB 2) 5 = .ok (.invokestatic 51, 3) := by decide +kernel
theorem d2_8 : decode (zB 2) 8 = .ok (.aload_n 0, 1) := by decide +kernel
theorem d2_9 : decode (zB 2) 9 = .ok (.iconst 0, 1) := by decide +kernel
theorem d2_10 : decode (zB 2) 10 = .ok (.putfield 39, 3) := by decide +kernel
theorem d2_13 : decode (zB 2) 13 = .ok (.aload_n 0, 1) := by decide +kernel
theorem d2_14 : decode (zB 2) 14 = .ok (.aload_n 0, 1) := by decide +kernel
theorem d2_15 : decode (zB 2) 15 = .ok (.getfield 47, 3) := by decide +kernel
theorem d2_18 : decode (zB 2) 18 = .ok (.getfield 57, 3) := by decide +kernel
theorem d2_21 : decode (zB 2) 21 = .ok (.bipush 112, 2) := by decide +kernel
theorem d2_23 : decode (zB 2) 23 = .ok (.invokevirtual 63, 3) := by decide +kernel
theorem d2_26 : decode (zB 2) 26 = .ok (.putfield 32, 3) := by decide +kernel
theorem d2_29 : decode (zB 2) 29 = .ok (.aload_n 0, 1) := by decide +kernel
theorem d2_30 : decode (zB 2) 30 = .ok (.aload_n 0, 1) := by decide +kernel
theorem d2_31 : decode (zB 2) 31 = .ok (.getfield 47, 3) := by decide +kernel
theorem d2_34 : decode (zB 2) 34 = .ok (.getfield 57, 3) := by decide +kernel
theorem d2_37 : decode (zB 2) 37 = .ok (.bipush 111, 2) := by decide +kernel
theorem d2_39 : decode (zB 2) 39 = .ok (.invokevirtual 63, 3) := by decide +kernel
theorem d2_42 : decode (zB 2) 42 = .ok (.putfield 36, 3) := by decide +kernel
theorem d2_45 : decode (zB 2) 45 = .ok (.aload_n 0, 1) := by decide +kernel
theorem d2_46 : decode (zB 2) 46 = .ok (.getfield 12, 3) := by decide +kernel
theorem d2_49 : decode (zB 2) 49 = .ok (.aload_n 1, 1) := by decide +kernel
theorem d2_50 : decode (zB 2) 50 = .ok (.invokevirtual 69, 3) := by decide +kernel
theorem d2_53 : decode (zB 2) 53 = .ok (.aload_n 0, 1) := by decide +kernel
theorem d2_54 : decode (zB 2) 54 = .ok (.getfield 18, 3) := by decide +kernel
theorem d2_57 : decode (zB 2) 57 = .ok (.aload_n 1, 1) := by decide +kernel
theorem d2_58 : decode (zB 2) 58 = .ok (.invokevirtual 69, 3) := by decide +kernel
theorem d2_61 : decode (zB 2) 61 = .ok (.iconst 0, 1) := by decide +kernel
theorem d2_62 : decode (zB 2) 62 = .ok (.istore 4, 2) := by decide +kernel
theorem d2_64 : decode (zB 2) 64 = .ok (.iload 4, 2) := by decide +kernel
theorem d2_66 : decode (zB 2) 66 = .ok (.iload_n 2, 1) := by decide +kernel
theorem d2_67 : decode (zB 2) 67 = .ok (.if_icmp .ge 131, 3) := by decide +kernel
theorem d2_70 : decode (zB 2) 70 = .ok (.aload_n 0, 1) := by decide +kernel
theorem d2_71 : decode (zB 2) 71 = .ok (.getfield 12, 3) := by decide +kernel
theorem d2_74 : decode (zB 2) 74 = .ok (.invokevirtual 73, 3) := by decide +kernel
theorem d2_77 : decode (zB 2) 77 = .ok (.aload_n 0, 1) := by decide +kernel
theorem d2_78 : decode (zB 2) 78 = .ok (.aload_n 0, 1) := by decide +kernel
theorem d2_79 : decode (zB 2) 79 = .ok (.getfield 12, 3) := by decide +kernel
theorem d2_82 : decode (zB 2) 82 = .ok (.iload 4, 2) := by decide +kernel
theorem d2_84 : decode (zB 2) 84 = .ok (.invokevirtual 76, 3) := by decide +kernel
theorem d2_87 : decode (zB 2) 87 = .ok (.aload_n 0, 1) := by decide +kernel
theorem d2_88 : decode (zB 2) 88 = .ok (.getfield 47, 3) := by decide +kernel
theorem d2_91 : decode (zB 2) 91 = .ok (.getfield 80, 3) := by decide +kernel
theorem d2_94 : decode (zB 2) 94 = .ok (.iconst 0, 1) := by decide +kernel
theorem d2_95 : decode (zB 2) 95 = .ok (.aload_n 0, 1) := by decide +kernel
theorem d2_96 : decode (zB 2) 96 = .ok (.getfield 21, 3) := by decide +kernel
theorem d2_99 : decode (zB 2) 99 = .ok (.iconst 0, 1) := by decide +kernel
theorem d2_100 : decode (zB 2) 100 = .ok (.bipush 32, 2) := by decide +kernel
theorem d2_102 : decode (zB 2) 102 = .ok (.invokestatic 83, 3) := by decide +kernel
theorem d2_105 : decode (zB 2) 105 = .ok (.iconst 0, 1) := by decide +kernel
theorem d2_106 : decode (zB 2) 106 = .ok (.istore 5, 2) := by decide +kernel
theorem d2_108 : decode (zB 2) 108 = .ok (.iload 5, 2) := by decide +kernel
theorem d2_110 : decode (zB 2) 110 = .ok (.aload_n 0, 1) := by decide +kernel
theorem d2_111 : decode (zB 2) 111 = .ok (.getfield 12, 3) := by decide +kernel
theorem d2_114 : decode (zB 2) 114 = .ok (.getfield 89, 3) := by decide +kernel
theorem d2_117 : decode (zB 2) 117 = .ok (.if_icmp .ge 46, 3) := by decide +kernel
theorem d2_120 : decode (zB 2) 120 = .ok (.aload_n 0, 1) := by decide +kernel
theorem d2_121 : decode (zB 2) 121 = .ok (.getfield 12, 3) := by decide +kernel
theorem d2_124 : decode (zB 2) 124 = .ok (.iload 5, 2) := by decide +kernel
theorem d2_126 : decode (zB 2) 126 = .ok (.invokevirtual 92, 3) := by decide +kernel
theorem d2_129 : decode (zB 2) 129 = .ok (.istore 6, 2) := by decide +kernel
theorem d2_131 : decode (zB 2) 131 = .ok (.iload 6, 2) := by decide +kernel
theorem d2_133 : decode (zB 2) 133 = .ok (.ifCond .lt 24, 3) := by decide +kernel
theorem d2_136 : decode (zB 2) 136 = .ok (.aload_n 0, 1) := by decide +kernel
theorem d2_137 : decode (zB 2) 137 = .ok (.getfield 21, 3) := by decide +kernel
theorem d2_140 : decode (zB 2) 140 = .ok (.iload 6, 2) := by decide +kernel
theorem d2_142 : decode (zB 2) 142 = .ok (.iaload, 1) := by decide +kernel
theorem d2_143 : decode (zB 2) 143 = .ok (.iconst (-1), 1) := by decide +kernel
theorem d2_144 : decode (zB 2) 144 = .ok (.if_icmp .eq 13, 3) := by decide +kernel
theorem d2_147 : decode (zB 2) 147 = .ok (.aload_n 0, 1) := by decide +kernel
theorem d2_148 : decode (zB 2) 148 = .ok (.iload 4, 2) := by decide +kernel
theorem d2_150 : decode (zB 2) 150 = .ok (.iload_n 2, 1) := by decide +kernel
theorem d2_151 : decode (zB 2) 151 = .ok (.iload 6, 2) := by decide +kernel
theorem d2_153 : decode (zB 2) 153 = .ok (.aload_n 3, 1) := by decide +kernel
theorem d2_154 : decode (zB 2) 154 = .ok (.invokevirtual 96, 3) := by decide +kernel
theorem d2_157 : decode (zB 2) 157 = .ok (.iinc 5 1, 3) := by decide +kernel
theorem d2_160 : decode (zB 2) 160 = .ok (.goto (-52), 3) := by decide +kernel
theorem d2_163 : decode (zB 2) 163 = .ok (.aload_n 0, 1) := by decide +kernel
theorem d2_164 : decode (zB 2) 164 = .ok (.getfield 21, 3) := by decide +kernel
theorem d2_167 : decode (zB 2) 167 = .ok (.iconst 0, 1) := by decide +kernel
theorem d2_168 : decode (zB 2) 168 = .ok (.aload_n 0, 1) := by decide +kernel
theorem d2_169 : decode (zB 2) 169 = .ok (.getfield 47, 3) := by decide +kernel
theorem d2_172 : decode (zB 2) 172 = .ok (.getfield 80, 3) := by decide +kernel
theorem d2_175 : decode (zB 2) 175 = .ok (.iconst 0, 1) := by decide +kernel
theorem d2_176 : decode (zB 2) 176 = .ok (.bipush 32, 2) := by decide +kernel
theorem d2_178 : decode (zB 2) 178 = .ok (.invokestatic 83, 3) := by decide +kernel
theorem d2_181 : decode (zB 2) 181 = .ok (.aload_n 0, 1) := by decide +kernel
theorem d2_182 : decode (zB 2) 182 = .ok (.getfield 47, 3) := by decide +kernel
theorem d2_185 : decode (zB 2) 185 = .ok (.aload_n 0, 1) := by decide +kernel
theorem d2_186 : decode (zB 2) 186 = .ok (.getfield 12, 3) := by decide +kernel
theorem d2_189 : decode (zB 2) 189 = .ok (.invokevirtual 100, 3) := by decide +kernel
theorem d2_192 : decode (zB 2) 192 = .ok (.iinc 4 1, 3) := by decide +kernel
theorem d2_195 : decode (zB 2) 195 = .ok (.goto (-131), 3) := by decide +kernel
theorem d2_198 : decode (zB 2) 198 = .ok (.return_, 1) := by decide +kernel
theorem d3_0 : decode (zB 3) 0 = .ok (.iconst 0, 1) := by decide +kernel
theorem d3_1 : decode (zB 3) 1 = .ok (.istore 5, 2) := by decide +kernel
theorem d3_3 : decode (zB 3) 3 = .ok (.iload 5, 2) := by decide +kernel
theorem d3_5 : decode (zB 3) 5 = .ok (.aload_n 0, 1) := by decide +kernel
theorem d3_6 : decode (zB 3) 6 = .ok (.getfield 43, 3) := by decide +kernel
theorem d3_9 : decode (zB 3) 9 = .ok (.getfield 103, 3) := by decide +kernel
theorem d3_12 : decode (zB 3) 12 = .ok (.if_icmp .ge 147, 3) := by decide +kernel
theorem d3_15 : decode (zB 3) 15 = .ok (.iload 5, 2) := by decide +kernel
theorem d3_17 : decode (zB 3) 17 = .ok (.aload_n 0, 1) := by decide +kernel
theorem d3_18 : decode (zB 3) 18 = .ok (.getfield 21, 3) := by decide +kernel
theorem d3_21 : decode (zB 3) 21 = .ok (.iload_n 3, 1) := by decide +kernel
theorem d3_22 : decode (zB 3) 22 = .ok (.iaload, 1) := by decide +kernel
theorem d3_23 : decode (zB 3) 23 = .ok (.if_icmp .ne 6, 3) := by decide +kernel
theorem d3_26 : decode (zB 3) 26 = .ok (.goto 127, 3) := by decide +kernel
theorem d3_29 : decode (zB 3) 29 = .ok (.aload_n 0, 1) := by decide +kernel
theorem d3_30 : decode (zB 3) 30 = .ok (.getfield 18, 3) := by decide +kernel
theorem d3_33 : decode (zB 3) 33 = .ok (.aload_n 0, 1) := by decide +kernel
theorem d3_34 : decode (zB 3) 34 = .ok (.getfield 12, 3) := by decide +kernel
theorem d3_37 : decode (zB 3) 37 = .ok (.invokevirtual 108, 3) := by decide +kernel
theorem d3_40 : decode (zB 3) 40 = .ok (.aload_n 0, 1) := by decide +kernel
theorem d3_41 : decode (zB 3) 41 = .ok (.getfield 21, 3) := by decide +kernel
theorem d3_44 : decode (zB 3) 44 = .ok (.iconst 0, 1) := by decide +kernel
theorem d3_45 : decode (zB 3) 45 = .ok (.aload_n 0, 1) := by decide +kernel
theorem d3_46 : decode (zB 3) 46 = .ok (.getfield 47, 3) := by decide +kernel
theorem d3_49 : decode (zB 3) 49 = .ok (.getfield 80, 3) := by decide +kernel
theorem d3_52 : decode (zB 3) 52 = .ok (.iconst 0, 1) := by decide +kernel
theorem d3_53 : decode (zB 3) 53 = .ok (.bipush 32, 2) := by decide +kernel
theorem d3_55 : decode (zB 3) 55 = .ok (.invokestatic 83, 3) := by decide +kernel
theorem d3_58 : decode (zB 3) 58 = .ok (.aload_n 0, 1) := by decide +kernel
theorem d3_59 : decode (zB 3) 59 = .ok (.getfield 47, 3) := by decide +kernel
theorem d3_62 : decode (zB 3) 62 = .ok (.getfield 80, 3) := by decide +kernel
theorem d3_65 : decode (zB 3) 65 = .ok (.iload_n 3, 1) := by decide +kernel
theorem d3_66 : decode (zB 3) 66 = .ok (.iload 5, 2) := by decide +kernel
theorem d3_68 : decode (zB 3) 68 = .ok (.iastore, 1) := by decide +kernel
theorem d3_69 : decode (zB 3) 69 = .ok (.aload_n 0, 1) := by decide +kernel
theorem d3_70 : decode (zB 3) 70 = .ok (.getfield 47, 3) := by decide +kernel
theorem d3_73 : decode (zB 3) 73 = .ok (.aload_n 0, 1) := by decide +kernel
theorem d3_74 : decode (zB 3) 74 = .ok (.getfield 18, 3) := by decide +kernel
theorem d3_77 : decode (zB 3) 77 = .ok (.invokevirtual 100, 3) := by decide +kernel
theorem d3_80 : decode (zB 3) 80 = .ok (.iload_n 1, 1) := by decide +kernel
theorem d3_81 : decode (zB 3) 81 = .ok (.iconst 1, 1) := by decide +kernel
theorem d3_82 : decode (zB 3) 82 = .ok (.iadd, 1) := by decide +kernel
theorem d3_83 : decode (zB 3) 83 = .ok (.istore 6, 2) := by decide +kernel
theorem d3_85 : decode (zB 3) 85 = .ok (.iload 6, 2) := by decide +kernel
theorem d3_87 : decode (zB 3) 87 = .ok (.iload_n 2, 1) := by decide +kernel
theorem d3_88 : decode (zB 3) 88 = .ok (.if_icmp .ge 37, 3) := by decide +kernel
theorem d3_91 : decode (zB 3) 91 = .ok (.aload_n 0, 1) := by decide +kernel
theorem d3_92 : decode (zB 3) 92 = .ok (.getfield 18, 3) := by decide +kernel
theorem d3_95 : decode (zB 3) 95 = .ok (.invokevirtual 73, 3) := by decide +kernel
theorem d3_98 : decode (zB 3) 98 = .ok (.aload_n 0, 1) := by decide +kernel
theorem d3_99 : decode (zB 3) 99 = .ok (.aload_n 0, 1) := by decide +kernel
theorem d3_100 : decode (zB 3) 100 = .ok (.getfield 18, 3) := by decide +kernel
theorem d3_103 : decode (zB 3) 103 = .ok (.iload 6, 2) := by decide +kernel
theorem d3_105 : decode (zB 3) 105 = .ok (.invokevirtual 76, 3) := by decide +kernel
theorem d3_108 : decode (zB 3) 108 = .ok (.aload_n 0, 1) := by decide +kernel
theorem d3_109 : decode (zB 3) 109 = .ok (.getfield 47, 3) := by decide +kernel
theorem d3_112 : decode (zB 3) 112 = .ok (.aload_n 0, 1) := by decide +kernel
theorem d3_113 : decode (zB 3) 113 = .ok (.getfield 18, 3) := by decide +kernel
theorem d3_116 : decode (zB 3) 116 = .ok (.invokevirtual 100, 3) := by decide +kernel
theorem d3_119 : decode (zB 3) 119 = .ok (.iinc 6 1, 3) := by decide +kernel
theorem d3_122 : decode (zB 3) 122 = .ok (.goto (-37), 3) := by decide +kernel
theorem d3_125 : decode (zB 3) 125 = .ok (.aload 4, 2) := by decide +kernel
theorem d3_127 : decode (zB 3) 127 = .ok (.aload_n 0, 1) := by decide +kernel
theorem d3_128 : decode (zB 3) 128 = .ok (.getfield 18, 3) := by decide +kernel
theorem d3_131 : decode (zB 3) 131 = .ok (.invokevirtual 111, 3) := by decide +kernel
theorem d3_134 : decode (zB 3) 134 = .ok (.ifCond .eq 19, 3) := by decide +kernel
theorem d3_137 : decode (zB 3) 137 = .ok (.aload_n 0, 1) := by decide +kernel
theorem d3_138 : decode (zB 3) 138 = .ok (.iload_n 1, 1) := by decide +kernel
theorem d3_139 : decode (zB 3) 139 = .ok (.aload_n 0, 1) := by decide +kernel
theorem d3_140 : decode (zB 3) 140 = .ok (.getfield 12, 3) := by decide +kernel
theorem d3_143 : decode (zB 3) 143 = .ok (.getfield 117, 3) := by decide +kernel
theorem d3_146 : decode (zB 3) 146 = .ok (.iload_n 3, 1) := by decide +kernel
theorem d3_147 : decode (zB 3) 147 = .ok (.iaload, 1) := by decide +kernel
theorem d3_148 : decode (zB 3) 148 = .ok (.iload 5, 2) := by decide +kernel
theorem d3_150 : decode (zB 3) 150 = .ok (.invokevirtual 120, 3) := by decide +kernel
theorem d3_153 : decode (zB 3) 153 = .ok (.iinc 5 1, 3) := by decide +kernel
theorem d3_156 : decode (zB 3) 156 = .ok (.goto (-153), 3) := by decide +kernel
theorem d3_159 : decode (zB 3) 159 = .ok (.return_, 1) := by decide +kernel
theorem d4_0 : decode (zB 4) 0 = .ok (.aload_n 0, 1) := by decide +kernel
theorem d4_1 : decode (zB 4) 1 = .ok (.getfield 39, 3) := by decide +kernel
theorem d4_4 : decode (zB 4) 4 = .ok (.ifCond .ne 24, 3) := by decide +kernel
theorem d4_7 : decode (zB 4) 7 = .ok (.aload_n 0, 1) := by decide +kernel
theorem d4_8 : decode (zB 4) 8 = .ok (.getfield 29, 3) := by decide +kernel
theorem d4_11 : decode (zB 4) 11 = .ok (.iconst 0, 1) := by decide +kernel
theorem d4_12 : decode (zB 4) 12 = .ok (.iload_n 1, 1) := by decide +kernel
theorem d4_13 : decode (zB 4) 13 = .ok (.iastore, 1) := by decide +kernel
theorem d4_14 : decode (zB 4) 14 = .ok (.aload_n 0, 1) := by decide +kernel
theorem d4_15 : decode (zB 4) 15 = .ok (.getfield 29, 3) := by decide +kernel
theorem d4_18 : decode (zB 4) 18 = .ok (.iconst 1, 1) := by decide +kernel
theorem d4_19 : decode (zB 4) 19 = .ok (.iload_n 2, 1) := by decide +kernel
theorem d4_20 : decode (zB 4) 20 = .ok (.iastore, 1) := by decide +kernel
theorem d4_21 : decode (zB 4) 21 = .ok (.aload_n 0, 1) := by decide +kernel
theorem d4_22 : decode (zB 4) 22 = .ok (.getfield 29, 3) := by decide +kernel
theorem d4_25 : decode (zB 4) 25 = .ok (.iconst 2, 1) := by decide +kernel
theorem d4_26 : decode (zB 4) 26 = .ok (.iload_n 3, 1) := by decide +kernel
theorem d4_27 : decode (zB 4) 27 = .ok (.iastore, 1) := by decide +kernel
theorem d4_28 : decode (zB 4) 28 = .ok (.aload_n 0, 1) := by decide +kernel
theorem d4_29 : decode (zB 4) 29 = .ok (.dup, 1) := by decide +kernel
theorem d4_30 : decode (zB 4) 30 = .ok (.getfield 39, 3) := by decide +kernel
theorem d4_33 : decode (zB 4) 33 = .ok (.iconst 1, 1) := by decide +kernel
theorem d4_34 : decode (zB 4) 34 = .ok (.iadd, 1) := by decide +kernel
theorem d4_35 : decode (zB 4) 35 = .ok (.putfield 39, 3) := by decide +kernel
theorem d4_38 : decode (zB 4) 38 = .ok (.return_, 1) := by decide +kernel
theorem d5_0 : decode (zB 5) 0 = .ok (.iconst 0, 1) := by decide +kernel
theorem d5_1 : decode (zB 5) 1 = .ok (.istore_n 3, 1) := by decide +kernel
theorem d5_2 : decode (zB 5) 2 = .ok (.iload_n 3, 1) := by decide +kernel
theorem d5_3 : decode (zB 5) 3 = .ok (.aload_n 1, 1) := by decide +kernel
theorem d5_4 : decode (zB 5) 4 = .ok (.getfield 124, 3) := by decide +kernel
theorem d5_7 : decode (zB 5) 7 = .ok (.if_icmp .ge 131, 3) := by decide +kernel
theorem d5_10 : decode (zB 5) 10 = .ok (.aload_n 1, 1) := by decide +kernel
theorem d5_11 : decode (zB 5) 11 = .ok (.getfield 117, 3) := by decide +kernel
theorem d5_14 : decode (zB 5) 14 = .ok (.iload_n 3, 1) := by decide +kernel
theorem d5_15 : decode (zB 5) 15 = .ok (.iaload, 1) := by decide +kernel
theorem d5_16 : decode (zB 5) 16 = .ok (.istore 4, 2) := by decide +kernel
theorem d5_18 : decode (zB 5) 18 = .ok (.iload_n 2, 1) := by decide +kernel
theorem d5_19 : decode (zB 5) 19 = .ok (.bipush 32, 2) := by decide +kernel
theorem d5_21 : decode (zB 5) 21 = .ok (.imul, 1) := by decide +kernel
theorem d5_22 : decode (zB 5) 22 = .ok (.iload 4, 2) := by decide +kernel
theorem d5_24 : decode (zB 5) 24 = .ok (.iadd, 1) := by decide +kernel
theorem d5_25 : decode (zB 5) 25 = .ok (.bipush 32, 2) := by decide +kernel
theorem d5_27 : decode (zB 5) 27 = .ok (.imul, 1) := by decide +kernel
theorem d5_28 : decode (zB 5) 28 = .ok (.aload_n 0, 1) := by decide +kernel
theorem d5_29 : decode (zB 5) 29 = .ok (.getfield 32, 3) := by decide +kernel
theorem d5_32 : decode (zB 5) 32 = .ok (.ifCond .eq 7, 3) := by decide +kernel
theorem d5_35 : decode (zB 5) 35 = .ok (.iload_n 3, 1) := by decide +kernel
theorem d5_36 : decode (zB 5) 36 = .ok (.goto 4, 3) := by decide +kernel
theorem d5_39 : decode (zB 5) 39 = .ok (.iconst 0, 1) := by decide +kernel
theorem d5_40 : decode (zB 5) 40 = .ok (.iadd, 1) := by decide +kernel
theorem d5_41 : decode (zB 5) 41 = .ok (.istore 5, 2) := by decide +kernel
theorem d5_43 : decode (zB 5) 43 = .ok (.aload_n 0, 1) := by decide +kernel
theorem d5_44 : decode (zB 5) 44 = .ok (.getfield 36, 3) := by decide +kernel
theorem d5_47 : decode (zB 5) 47 = .ok (.ifCond .eq 15, 3) := by decide +kernel
theorem d5_50 : decode (zB 5) 50 = .ok (.iconst 4, 1) := by decide +kernel
theorem d5_51 : decode (zB 5) 51 = .ok (.aload_n 1, 1) := by decide +kernel
theorem d5_52 : decode (zB 5) 52 = .ok (.getfield 127, 3) := by decide +kernel
theorem d5_55 : decode (zB 5) 55 = .ok (.iload 4, 2) := by decide +kernel
theorem d5_57 : decode (zB 5) 57 = .ok (.iaload, 1) := by decide +kernel
theorem d5_58 : decode (zB 5) 58 = .ok (.imul, 1) := by decide +kernel
theorem d5_59 : decode (zB 5) 59 = .ok (.goto 4, 3) := by decide +kernel
theorem d5_62 : decode (zB 5) 62 = .ok (.iconst 0, 1) := by decide +kernel
theorem d5_63 : decode (zB 5) 63 = .ok (.istore 6, 2) := by decide +kernel
theorem d5_65 : decode (zB 5) 65 = .ok (.aload_n 0, 1) := by decide +kernel
theorem d5_66 : decode (zB 5) 66 = .ok (.getfield 25, 3) := by decide +kernel
theorem d5_69 : decode (zB 5) 69 = .ok (.iload 5, 2) := by decide +kernel
theorem d5_71 : decode (zB 5) 71 = .ok (.laload, 1) := by decide +kernel
theorem d5_72 : decode (zB 5) 72 = .ok (.iload 6, 2) := by decide +kernel
theorem d5_74 : decode (zB 5) 74 = .ok (.lshr, 1) := by decide +kernel
theorem d5_75 : decode (zB 5) 75 = .ok (.l2i, 1) := by decide +kernel
theorem d5_76 : decode (zB 5) 76 = .ok (.bipush 15, 2) := by decide +kernel
theorem d5_78 : decode (zB 5) 78 = .ok (.iand, 1) := by decide +kernel
theorem d5_79 : decode (zB 5) 79 = .ok (.istore 7, 2) := by decide +kernel
theorem d5_81 : decode (zB 5) 81 = .ok (.iload 7, 2) := by decide +kernel
theorem d5_83 : decode (zB 5) 83 = .ok (.ifCond .ne 34, 3) := by decide +kernel
theorem d5_86 : decode (zB 5) 86 = .ok (.aload_n 0, 1) := by decide +kernel
theorem d5_87 : decode (zB 5) 87 = .ok (.getfield 47, 3) := by decide +kernel
theorem d5_90 : decode (zB 5) 90 = .ok (.aload_n 1, 1) := by decide +kernel
theorem d5_91 : decode (zB 5) 91 = .ok (.iload_n 3, 1) := by decide +kernel
theorem d5_92 : decode (zB 5) 92 = .ok (.invokevirtual 130, 3) := by decide +kernel
theorem d5_95 : decode (zB 5) 95 = .ok (.iconst (-1), 1) := by decide +kernel
theorem d5_96 : decode (zB 5) 96 = .ok (.isub, 1) := by decide +kernel
theorem d5_97 : decode (zB 5) 97 = .ok (.iconst 1, 1) := by decide +kernel
theorem d5_98 : decode (zB 5) 98 = .ok (.iadd, 1) := by decide +kernel
theorem d5_99 : decode (zB 5) 99 = .ok (.istore 7, 2) := by decide +kernel
theorem d5_101 : decode (zB 5) 101 = .ok (.aload_n 0, 1) := by decide +kernel
theorem d5_102 : decode (zB 5) 102 = .ok (.getfield 25, 3) := by decide +kernel
theorem d5_105 : decode (zB 5) 105 = .ok (.iload 5, 2) := by decide +kernel
theorem d5_107 : decode (zB 5) 107 = .ok (.dup2, 1) := by decide +kernel
theorem d5_108 : decode (zB 5) 108 = .ok (.laload, 1) := by decide +kernel
theorem d5_109 : decode (zB 5) 109 = .ok (.iload 7, 2) := by decide +kernel
theorem d5_111 : decode (zB 5) 111 = .ok (.i2l, 1) := by decide +kernel
theorem d5_112 : decode (zB 5) 112 = .ok (.iload 6, 2) := by decide +kernel
theorem d5_114 : decode (zB 5) 114 = .ok (.lshl, 1) := by decide +kernel
theorem d5_115 : decode (zB 5) 115 = .ok (.lor, 1) := by decide +kernel
theorem d5_116 : decode (zB 5) 116 = .ok (.lastore, 1) := by decide +kernel
theorem d5_117 : decode (zB 5) 117 = .ok (.aload_n 0, 1) := by decide +kernel
theorem d5_118 : decode (zB 5) 118 = .ok (.getfield 47, 3) := by decide +kernel
theorem d5_121 : decode (zB 5) 121 = .ok (.getfield 80, 3) := by decide +kernel
theorem d5_124 : decode (zB 5) 124 = .ok (.iload_n 3, 1) := by decide +kernel
theorem d5_125 : decode (zB 5) 125 = .ok (.iload 7, 2) := by decide +kernel
theorem d5_127 : decode (zB 5) 127 = .ok (.iconst 1, 1) := by decide +kernel
theorem d5_128 : decode (zB 5) 128 = .ok (.isub, 1) := by decide +kernel
theorem d5_129 : decode (zB 5) 129 = .ok (.iconst (-1), 1) := by decide +kernel
theorem d5_130 : decode (zB 5) 130 = .ok (.iadd, 1) := by decide +kernel
theorem d5_131 : decode (zB 5) 131 = .ok (.iastore, 1) := by decide +kernel
theorem d5_132 : decode (zB 5) 132 = .ok (.iinc 3 1, 3) := by decide +kernel
theorem d5_135 : decode (zB 5) 135 = .ok (.goto (-133), 3) := by decide +kernel
theorem d5_138 : decode (zB 5) 138 = .ok (.return_, 1) := by decide +kernel
theorem d6_0 : decode (zB 6) 0 = .ok (.aload_n 0, 1) := by decide +kernel
theorem d6_1 : decode (zB 6) 1 = .ok (.invokespecial 1, 3) := by decide +kernel
theorem d6_4 : decode (zB 6) 4 = .ok (.aload_n 0, 1) := by decide +kernel
theorem d6_5 : decode (zB 6) 5 = .ok (.bipush 14, 2) := by decide +kernel
theorem d6_7 : decode (zB 6) 7 = .ok (.newarray .int, 2) := by decide +kernel
theorem d6_9 : decode (zB 6) 9 = .ok (.putfield 9, 3) := by decide +kernel
theorem d6_12 : decode (zB 6) 12 = .ok (.aload_n 0, 1) := by decide +kernel
theorem d6_13 : decode (zB 6) 13 = .ok (.bipush 14, 2) := by decide +kernel
theorem d6_15 : decode (zB 6) 15 = .ok (.newarray .int, 2) := by decide +kernel
theorem d6_17 : decode (zB 6) 17 = .ok (.putfield 13, 3) := by decide +kernel
theorem d6_20 : decode (zB 6) 20 = .ok (.aload_n 0, 1) := by decide +kernel
theorem d6_21 : decode (zB 6) 21 = .ok (.bipush 14, 2) := by decide +kernel
theorem d6_23 : decode (zB 6) 23 = .ok (.newarray .int, 2) := by decide +kernel
theorem d6_25 : decode (zB 6) 25 = .ok (.putfield 16, 3) := by decide +kernel
theorem d6_28 : decode (zB 6) 28 = .ok (.aload_n 0, 1) := by decide +kernel
theorem d6_29 : decode (zB 6) 29 = .ok (.bipush 14, 2) := by decide +kernel
theorem d6_31 : decode (zB 6) 31 = .ok (.newarray .int, 2) := by decide +kernel
theorem d6_33 : decode (zB 6) 33 = .ok (.putfield 19, 3) := by decide +kernel
theorem d6_36 : decode (zB 6) 36 = .ok (.aload_n 0, 1) := by decide +kernel
theorem d6_37 : decode (zB 6) 37 = .ok (.sipush 200, 3) := by decide +kernel
theorem d6_40 : decode (zB 6) 40 = .ok (.newarray .int, 2) := by decide +kernel
theorem d6_42 : decode (zB 6) 42 = .ok (.putfield 22, 3) := by decide +kernel
theorem d6_45 : decode (zB 6) 45 = .ok (.aload_n 0, 1) := by decide +kernel
theorem d6_46 : decode (zB 6) 46 = .ok (.sipush 200, 3) := by decide +kernel
theorem d6_49 : decode (zB 6) 49 = .ok (.newarray .int, 2) := by decide +kernel
theorem d6_51 : decode (zB 6) 51 = .ok (.putfield 25, 3) := by decide +kernel
theorem d6_54 : decode (zB 6) 54 = .ok (.aload_n 0, 1) := by decide +kernel
theorem d6_55 : decode (zB 6) 55 = .ok (.sipush 200, 3) := by decide +kernel
theorem d6_58 : decode (zB 6) 58 = .ok (.newarray .int, 2) := by decide +kernel
theorem d6_60 : decode (zB 6) 60 = .ok (.putfield 28, 3) := by decide +kernel
theorem d6_63 : decode (zB 6) 63 = .ok (.aload_n 0, 1) := by decide +kernel
theorem d6_64 : decode (zB 6) 64 = .ok (.iconst 0, 1) := by decide +kernel
theorem d6_65 : decode (zB 6) 65 = .ok (.putfield 31, 3) := by decide +kernel
theorem d6_68 : decode (zB 6) 68 = .ok (.aload_n 0, 1) := by decide +kernel
theorem d6_69 : decode (zB 6) 69 = .ok (.iconst 0, 1) := by decide +kernel
theorem d6_70 : decode (zB 6) 70 = .ok (.putfield 35, 3) := by decide +kernel
theorem d6_73 : decode (zB 6) 73 = .ok (.aload_n 0, 1) := by decide +kernel
theorem d6_74 : decode (zB 6) 74 = .ok (.iconst 0, 1) := by decide +kernel
theorem d6_75 : decode (zB 6) 75 = .ok (.putfield 38, 3) := by decide +kernel
theorem d6_78 : decode (zB 6) 78 = .ok (.return_, 1) := by decide +kernel
theorem d7_0 : decode (zB 7) 0 = .ok (.aload_n 0, 1) := by decide +kernel
theorem d7_1 : decode (zB 7) 1 = .ok (.iconst 0, 1) := by decide +kernel
theorem d7_2 : decode (zB 7) 2 = .ok (.putfield 31, 3) := by decide +kernel
theorem d7_5 : decode (zB 7) 5 = .ok (.aload_n 0, 1) := by decide +kernel
theorem d7_6 : decode (zB 7) 6 = .ok (.iconst 0, 1) := by decide +kernel
theorem d7_7 : decode (zB 7) 7 = .ok (.putfield 35, 3) := by decide +kernel
theorem d7_10 : decode (zB 7) 10 = .ok (.aload_n 0, 1) := by decide +kernel
theorem d7_11 : decode (zB 7) 11 = .ok (.iconst 0, 1) := by decide +kernel
theorem d7_12 : decode (zB 7) 12 = .ok (.putfield 38, 3) := by decide +kernel
theorem d7_15 : decode (zB 7) 15 = .ok (.return_, 1) := by decide +kernel
theorem d8_0 : decode (zB 8) 0 = .ok (.aload_n 0, 1) := by decide +kernel
theorem d8_1 : decode (zB 8) 1 = .ok (.getfield 35, 3) := by decide +kernel
theorem d8_4 : decode (zB 8) 4 = .ok (.istore_n 3, 1) := by decide +kernel
theorem d8_5 : decode (zB 8) 5 = .ok (.iload_n 3, 1) := by decide +kernel
theorem d8_6 : decode (zB 8) 6 = .ok (.sipush 200, 3) := by decide +kernel
theorem d8_9 : decode (zB 8) 9 = .ok (.if_icmp .ge 27, 3) := by decide +kernel
theorem d8_12 : decode (zB 8) 12 = .ok (.aload_n 0, 1) := by decide +kernel
theorem d8_13 : decode (zB 8) 13 = .ok (.getfield 22, 3) := by decide +kernel
theorem d8_16 : decode (zB 8) 16 = .ok (.iload_n 3, 1) := by decide +kernel
theorem d8_17 : decode (zB 8) 17 = .ok (.iload_n 1, 1) := by decide +kernel
theorem d8_18 : decode (zB 8) 18 = .ok (.iastore, 1) := by decide +kernel
theorem d8_19 : decode (zB 8) 19 = .ok (.aload_n 0, 1) := by decide +kernel
theorem d8_20 : decode (zB 8) 20 = .ok (.getfield 25, 3) := by decide +kernel
theorem d8_23 : decode (zB 8) 23 = .ok (.iload_n 3, 1) := by decide +kernel
theorem d8_24 : decode (zB 8) 24 = .ok (.iload_n 2, 1) := by decide +kernel
theorem d8_25 : decode (zB 8) 25 = .ok (.iastore, 1) := by decide +kernel
theorem d8_26 : decode (zB 8) 26 = .ok (.aload_n 0, 1) := by decide +kernel
theorem d8_27 : decode (zB 8) 27 = .ok (.dup, 1) := by decide +kernel
theorem d8_28 : decode (zB 8) 28 = .ok (.getfield 35, 3) := by decide +kernel
theorem d8_31 : decode (zB 8) 31 = .ok (.iconst 1, 1) := by decide +kernel
theorem d8_32 : decode (zB 8) 32 = .ok (.iadd, 1) := by decide +kernel
theorem d8_33 : decode (zB 8) 33 = .ok (.putfield 35, 3) := by decide +kernel
theorem d8_36 : decode (zB 8) 36 = .ok (.iload_n 1, 1) := by decide +kernel
theorem d8_37 : decode (zB 8) 37 = .ok (.bipush 120, 2) := by decide +kernel
theorem d8_39 : decode (zB 8) 39 = .ok (.if_icmp .ne 15, 3) := by decide +kernel
theorem d8_42 : decode (zB 8) 42 = .ok (.aload_n 0, 1) := by decide +kernel
theorem d8_43 : decode (zB 8) 43 = .ok (.dup, 1) := by decide +kernel
theorem d8_44 : decode (zB 8) 44 = .ok (.getfield 38, 3) := by decide +kernel
theorem d8_47 : decode (zB 8) 47 = .ok (.iconst 1, 1) := by decide +kernel
theorem d8_48 : decode (zB 8) 48 = .ok (.iload_n 2, 1) := by decide +kernel
theorem d8_49 : decode (zB 8) 49 = .ok (.ishl, 1) := by decide +kernel
theorem d8_50 : decode (zB 8) 50 = .ok (.ior, 1) := by decide +kernel
theorem d8_51 : decode (zB 8) 51 = .ok (.putfield 38, 3) := by decide +kernel
theorem d8_54 : decode (zB 8) 54 = .ok (.iload_n 3, 1) := by decide +kernel
theorem d8_55 : decode (zB 8) 55 = .ok (.ireturn, 1) := by decide +kernel
theorem d9_0 : decode (zB 9) 0 = .ok (.iload_n 1, 1) := by decide +kernel
theorem d9_1 : decode (zB 9) 1 = .ok (.ifCond .lt 25, 3) := by decide +kernel
theorem d9_4 : decode (zB 9) 4 = .ok (.iload_n 1, 1) := by decide +kernel
theorem d9_5 : decode (zB 9) 5 = .ok (.aload_n 0, 1) := by decide +kernel
theorem d9_6 : decode (zB 9) 6 = .ok (.getfield 35, 3) := by decide +kernel
theorem d9_9 : decode (zB 9) 9 = .ok (.if_icmp .ge 17, 3) := by decide +kernel
theorem d9_12 : decode (zB 9) 12 = .ok (.aload_n 0, 1) := by decide +kernel
theorem d9_13 : decode (zB 9) 13 = .ok (.getfield 25, 3) := by decide +kernel
theorem d9_16 : decode (zB 9) 16 = .ok (.iload_n 1, 1) := by decide +kernel
theorem d9_17 : decode (zB 9) 17 = .ok (.aload_n 0, 1) := by decide +kernel
theorem d9_18 : decode (zB 9) 18 = .ok (.getfield 35, 3) := by decide +kernel
theorem d9_21 : decode (zB 9) 21 = .ok (.iload_n 1, 1) := by decide +kernel
theorem d9_22 : decode (zB 9) 22 = .ok (.isub, 1) := by decide +kernel
theorem d9_23 : decode (zB 9) 23 = .ok (.iconst 1, 1) := by decide +kernel
theorem d9_24 : decode (zB 9) 24 = .ok (.isub, 1) := by decide +kernel
theorem d9_25 : decode (zB 9) 25 = .ok (.iastore, 1) := by decide +kernel
theorem d9_26 : decode (zB 9) 26 = .ok (.return_, 1) := by decide +kernel
theorem d10_0 : decode (zB 10) 0 = .ok (.aload_n 0, 1) := by decide +kernel
theorem d10_1 : decode (zB 10) 1 = .ok (.getfield 31, 3) := by decide +kernel
theorem d10_4 : decode (zB 10) 4 = .ok (.bipush 14, 2) := by decide +kernel
theorem d10_6 : decode (zB 10) 6 = .ok (.if_icmp .ge 56, 3) := by decide +kernel
theorem d10_9 : decode (zB 10) 9 = .ok (.aload_n 0, 1) := by decide +kernel
theorem d10_10 : decode (zB 10) 10 = .ok (.getfield 9, 3) := by decide +kernel
theorem d10_13 : decode (zB 10) 13 = .ok (.aload_n 0, 1) := by decide +kernel
theorem d10_14 : decode (zB 10) 14 = .ok (.getfield 31, 3) := by decide +kernel
theorem d10_17 : decode (zB 10) 17 = .ok (.iload_n 1, 1) := by decide +kernel
theorem d10_18 : decode (zB 10) 18 = .ok (.iastore, 1) := by decide +kernel
theorem d10_19 : decode (zB 10) 19 = .ok (.aload_n 0, 1) := by decide +kernel
theorem d10_20 : decode (zB 10) 20 = .ok (.getfield 13, 3) := by decide +kernel
theorem d10_23 : decode (zB 10) 23 = .ok (.aload_n 0, 1) := by decide +kernel
theorem d10_24 : decode (zB 10) 24 = .ok (.getfield 31, 3) := by decide +kernel
theorem d10_27 : decode (zB 10) 27 = .ok (.iload_n 2, 1) := by decide +kernel
theorem d10_28 : decode (zB 10) 28 = .ok (.iastore, 1) := by decide +kernel
theorem d10_29 : decode (zB 10) 29 = .ok (.aload_n 0, 1) := by decide +kernel
theorem d10_30 : decode (zB 10) 30 = .ok (.getfield 16, 3) := by decide +kernel
theorem d10_33 : decode (zB 10) 33 = .ok (.aload_n 0, 1) := by decide +kernel
theorem d10_34 : decode (zB 10) 34 = .ok (.getfield 31, 3) := by decide +kernel
theorem d10_37 : decode (zB 10) 37 = .ok (.iload_n 3, 1) := by decide +kernel
theorem d10_38 : decode (zB 10) 38 = .ok (.iastore, 1) := by decide +kernel
theorem d10_39 : decode (zB 10) 39 = .ok (.aload_n 0, 1) := by decide +kernel
theorem d10_40 : decode (zB 10) 40 = .ok (.getfield 19, 3) := by decide +kernel
theorem d10_43 : decode (zB 10) 43 = .ok (.aload_n 0, 1) := by decide +kernel
theorem d10_44 : decode (zB 10) 44 = .ok (.getfield 31, 3) := by decide +kernel
theorem d10_47 : decode (zB 10) 47 = .ok (.aload_n 0, 1) := by decide +kernel
theorem d10_48 : decode (zB 10) 48 = .ok (.getfield 35, 3) := by decide +kernel
theorem d10_51 : decode (zB 10) 51 = .ok (.iastore, 1) := by decide +kernel
theorem d10_52 : decode (zB 10) 52 = .ok (.aload_n 0, 1) := by decide +kernel
theorem d10_53 : decode (zB 10) 53 = .ok (.dup, 1) := by decide +kernel
theorem d10_54 : decode (zB 10) 54 = .ok (.getfield 31, 3) := by decide +kernel
theorem d10_57 : decode (zB 10) 57 = .ok (.iconst 1, 1) := by decide +kernel
theorem d10_58 : decode (zB 10) 58 = .ok (.iadd, 1) := by decide +kernel
theorem d10_59 : decode (zB 10) 59 = .ok (.putfield 31, 3) := by decide +kernel
theorem d10_62 : decode (zB 10) 62 = .ok (.return_, 1) := by decide +kernel
theorem d11_0 : decode (zB 11) 0 = .ok (.aload_n 0, 1) := by decide +kernel
theorem d11_1 : decode (zB 11) 1 = .ok (.getfield 38, 3) := by decide +kernel
theorem d11_4 : decode (zB 11) 4 = .ok (.ldc 41, 2) := by decide +kernel
theorem d11_6 : decode (zB 11) 6 = .ok (.iload_n 1, 1) := by decide +kernel
theorem d11_7 : decode (zB 11) 7 = .ok (.invokevirtual 43, 3) := by decide +kernel
theorem d11_10 : decode (zB 11) 10 = .ok (.ishr, 1) := by decide +kernel
theorem d11_11 : decode (zB 11) 11 = .ok (.iconst 1, 1) := by decide +kernel
theorem d11_12 : decode (zB 11) 12 = .ok (.iand, 1) := by decide +kernel
theorem d11_13 : decode (zB 11) 13 = .ok (.ifCond .eq 7, 3) := by decide +kernel
theorem d11_16 : decode (zB 11) 16 = .ok (.iconst 1, 1) := by decide +kernel
theorem d11_17 : decode (zB 11) 17 = .ok (.goto 4, 3) := by decide +kernel
theorem d11_20 : decode (zB 11) 20 = .ok (.iconst 0, 1) := by decide +kernel
theorem d11_21 : decode (zB 11) 21 = .ok (.ireturn, 1) := by decide +kernel
theorem d12_0 : decode (zB 12) 0 = .ok (.iconst 0, 1) := by decide +kernel
theorem d12_1 : decode (zB 12) 1 = .ok (.istore_n 2, 1) := by decide +kernel
theorem d12_2 : decode (zB 12) 2 = .ok (.iload_n 2, 1) := by decide +kernel
theorem d12_3 : decode (zB 12) 3 = .ok (.aload_n 0, 1) := by decide +kernel
theorem d12_4 : decode (zB 12) 4 = .ok (.getfield 31, 3) := by decide +kernel
theorem d12_7 : decode (zB 12) 7 = .ok (.if_icmp .ge 42, 3) := by decide +kernel
theorem d12_10 : decode (zB 12) 10 = .ok (.aload_n 0, 1) := by decide +kernel
theorem d12_11 : decode (zB 12) 11 = .ok (.getfield 9, 3) := by decide +kernel
theorem d12_14 : decode (zB 12) 14 = .ok (.iload_n 2, 1) := by decide +kernel
theorem d12_15 : decode (zB 12) 15 = .ok (.iaload, 1) := by decide +kernel
theorem d12_16 : decode (zB 12) 16 = .ok (.bipush 122, 2) := by decide +kernel
theorem d12_18 : decode (zB 12) 18 = .ok (.if_icmp .ne 25, 3) := by decide +kernel
theorem d12_21 : decode (zB 12) 21 = .ok (.aload_n 0, 1) := by decide +kernel
theorem d12_22 : decode (zB 12) 22 = .ok (.aload_n 0, 1) := by decide +kernel
theorem d12_23 : decode (zB 12) 23 = .ok (.getfield 16, 3) := by decide +kernel
theorem d12_26 : decode (zB 12) 26 = .ok (.iload_n 2, 1) := by decide +kernel
theorem d12_27 : decode (zB 12) 27 = .ok (.iaload, 1) := by decide +kernel
theorem d12_28 : decode (zB 12) 28 = .ok (.aload_n 0, 1) := by decide +kernel
theorem d12_29 : decode (zB 12) 29 = .ok (.getfield 19, 3) := by decide +kernel
theorem d12_32 : decode (zB 12) 32 = .ok (.iload_n 2, 1) := by decide +kernel
theorem d12_33 : decode (zB 12) 33 = .ok (.iaload, 1) := by decide +kernel
theorem d12_34 : decode (zB 12) 34 = .ok (.aload_n 1, 1) := by decide +kernel
theorem d12_35 : decode (zB 12) 35 = .ok (.invokevirtual 49, 3) := by decide +kernel
theorem d12_38 : decode (zB 12) 38 = .ok (.ifCond .eq 5, 3) := by decide +kernel
theorem d12_41 : decode (zB 12) 41 = .ok (.iconst 1, 1) := by decide +kernel
theorem d12_42 : decode (zB 12) 42 = .ok (.ireturn, 1) := by decide +kernel
theorem d12_43 : decode (zB 12) 43 = .ok (.iinc 2 1, 3) := by decide +kernel
theorem d12_46 : decode (zB 12) 46 = .ok (.goto (-44), 3) := by decide +kernel
theorem d12_49 : decode (zB 12) 49 = .ok (.iconst 0, 1) := by decide +kernel
theorem d12_50 : decode (zB 12) 50 = .ok (.ireturn, 1) := by decide +kernel
theorem d13_0 : decode (zB 13) 0 = .ok (.iconst 0, 1) := by decide +kernel
theorem d13_1 : decode (zB 13) 1 = .ok (.istore 4, 2) := by decide +kernel
theorem d13_3 : decode (zB 13) 3 = .ok (.iload 4, 2) := by decide +kernel
theorem d13_5 : decode (zB 13) 5 = .ok (.aload_n 0, 1) := by decide +kernel
theorem d13_6 : decode (zB 13) 6 = .ok (.getfield 31, 3) := by decide +kernel
theorem d13_9 : decode (zB 13) 9 = .ok (.if_icmp .ge 70, 3) := by decide +kernel
theorem d13_12 : decode (zB 13) 12 = .ok (.aload_n 0, 1) := by decide +kernel
theorem d13_13 : decode (zB 13) 13 = .ok (.getfield 9, 3) := by decide +kernel
theorem d13_16 : decode (zB 13) 16 = .ok (.iload 4, 2) := by decide +kernel
theorem d13_18 : decode (zB 13) 18 = .ok (.iaload, 1) := by decide +kernel
theorem d13_19 : decode (zB 13) 19 = .ok (.iload_n 1, 1) := by decide +kernel
theorem d13_20 : decode (zB 13) 20 = .ok (.if_icmp .ne 53, 3) := by decide +kernel
theorem d13_23 : decode (zB 13) 23 = .ok (.aload_n 0, 1) := by decide +kernel
theorem d13_24 : decode (zB 13) 24 = .ok (.aload_n 0, 1) := by decide +kernel
theorem d13_25 : decode (zB 13) 25 = .ok (.getfield 16, 3) := by decide +kernel
theorem d13_28 : decode (zB 13) 28 = .ok (.iload 4, 2) := by decide +kernel
theorem d13_30 : decode (zB 13) 30 = .ok (.iaload, 1) := by decide +kernel
theorem d13_31 : decode (zB 13) 31 = .ok (.aload_n 0, 1) := by decide +kernel
theorem d13_32 : decode (zB 13) 32 = .ok (.getfield 19, 3) := by decide +kernel
theorem d13_35 : decode (zB 13) 35 = .ok (.iload 4, 2) := by decide +kernel
theorem d13_37 : decode (zB 13) 37 = .ok (.iaload, 1) := by decide +kernel
theorem d13_38 : decode (zB 13) 38 = .ok (.aload_n 2, 1) := by decide +kernel
theorem d13_39 : decode (zB 13) 39 = .ok (.invokevirtual 49, 3) := by decide +kernel
theorem d13_42 : decode (zB 13) 42 = .ok (.ifCond .eq 31, 3) := by decide +kernel
theorem d13_45 : decode (zB 13) 45 = .ok (.iconst 0, 1) := by decide +kernel
theorem d13_46 : decode (zB 13) 46 = .ok (.iload_n 3, 1) := by decide +kernel
theorem d13_47 : decode (zB 13) 47 = .ok (.aload_n 0, 1) := by decide +kernel
theorem d13_48 : decode (zB 13) 48 = .ok (.aload_n 0, 1) := by decide +kernel
theorem d13_49 : decode (zB 13) 49 = .ok (.getfield 13, 3) := by decide +kernel
theorem d13_52 : decode (zB 13) 52 = .ok (.iload 4, 2) := by decide +kernel
theorem d13_54 : decode (zB 13) 54 = .ok (.iaload, 1) := by decide +kernel
theorem d13_55 : decode (zB 13) 55 = .ok (.aload_n 0, 1) := by decide +kernel
theorem d13_56 : decode (zB 13) 56 = .ok (.getfield 16, 3) := by decide +kernel
theorem d13_59 : decode (zB 13) 59 = .ok (.iload 4, 2) := by decide +kernel
theorem d13_61 : decode (zB 13) 61 = .ok (.iaload, 1) := by decide +kernel
theorem d13_62 : decode (zB 13) 62 = .ok (.aload_n 2, 1) := by decide +kernel
theorem d13_63 : decode (zB 13) 63 = .ok (.invokevirtual 49, 3) := by decide +kernel
theorem d13_66 : decode (zB 13) 66 = .ok (.invokestatic 53, 3) := by decide +kernel
theorem d13_69 : decode (zB 13) 69 = .ok (.invokestatic 59, 3) := by decide +kernel
theorem d13_72 : decode (zB 13) 72 = .ok (.ireturn, 1) := by decide +kernel
theorem d13_73 : decode (zB 13) 73 = .ok (.iinc 4 1, 3) := by decide +kernel
theorem d13_76 : decode (zB 13) 76 = .ok (.goto (-73), 3) := by decide +kernel
theorem d13_79 : decode (zB 13) 79 = .ok (.iconst 0, 1) := by decide +kernel
theorem d13_80 : decode (zB 13) 80 = .ok (.ireturn, 1) := by decide +kernel
theorem d14_0 : decode (zB 14) 0 = .ok (.iconst 0, 1) := by decide +kernel
theorem d14_1 : decode (zB 14) 1 = .ok (.istore 4, 2) := by decide +kernel
theorem d14_3 : decode (zB 14) 3 = .ok (.iload_n 1, 1) := by decide +kernel
theorem d14_4 : decode (zB 14) 4 = .ok (.istore 5, 2) := by decide +kernel
theorem d14_6 : decode (zB 14) 6 = .ok (.iload 5, 2) := by decide +kernel
theorem d14_8 : decode (zB 14) 8 = .ok (.iload_n 2, 1) := by decide +kernel
theorem d14_9 : decode (zB 14) 9 = .ok (.if_icmp .ge 228, 3) := by decide +kernel
theorem d14_12 : decode (zB 14) 12 = .ok (.aload_n 0, 1) := by decide +kernel
theorem d14_13 : decode (zB 14) 13 = .ok (.getfield 22, 3) := by decide +kernel
theorem d14_16 : decode (zB 14) 16 = .ok (.iload 5, 2) := by decide +kernel
theorem d14_18 : decode (zB 14) 18 = .ok (.iaload, 1) := by decide +kernel
theorem d14_19 : decode (zB 14) 19 = .ok (.istore 6, 2) := by decide +kernel
theorem d14_21 : decode (zB 14) 21 = .ok (.iload 6, 2) := by decide +kernel
theorem d14_23 : decode (zB 14) 23 = .ok (.bipush 35, 2) := by decide +kernel
theorem d14_25 : decode (zB 14) 25 = .ok (.if_icmp .eq 10, 3) := by decide +kernel
theorem d14_28 : decode (zB 14) 28 = .ok (.iload 6, 2) := by decide +kernel
theorem d14_30 : decode (zB 14) 30 = .ok (.bipush 120, 2) := by decide +kernel
theorem d14_32 : decode (zB 14) 32 = .ok (.if_icmp .ne 42, 3) := by decide +kernel
theorem d14_35 : decode (zB 14) 35 = .ok (.aload_n 0, 1) := by decide +kernel
theorem d14_36 : decode (zB 14) 36 = .ok (.getfield 28, 3) := by decide +kernel
theorem d14_39 : decode (zB 14) 39 = .ok (.iload 4, 2) := by decide +kernel
theorem d14_41 : decode (zB 14) 41 = .ok (.iload 6, 2) := by decide +kernel
theorem d14_43 : decode (zB 14) 43 = .ok (.bipush 120, 2) := by decide +kernel
theorem d14_45 : decode (zB 14) 45 = .ok (.if_icmp .ne 15, 3) := by decide +kernel
theorem d14_48 : decode (zB 14) 48 = .ok (.aload_n 3, 1) := by decide +kernel
theorem d14_49 : decode (zB 14) 49 = .ok (.aload_n 0, 1) := by decide +kernel
theorem d14_50 : decode (zB 14) 50 = .ok (.getfield 25, 3) := by decide +kernel
theorem d14_53 : decode (zB 14) 53 = .ok (.iload 5, 2) := by decide +kernel
theorem d14_55 : decode (zB 14) 55 = .ok (.iaload, 1) := by decide +kernel
theorem d14_56 : decode (zB 14) 56 = .ok (.iaload, 1) := by decide +kernel
theorem d14_57 : decode (zB 14) 57 = .ok (.goto 10, 3) := by decide +kernel
theorem d14_60 : decode (zB 14) 60 = .ok (.aload_n 0, 1) := by decide +kernel
theorem d14_61 : decode (zB 14) 61 = .ok (.getfield 25, 3) := by decide +kernel
theorem d14_64 : decode (zB 14) 64 = .ok (.iload 5, 2) := by decide +kernel
theorem d14_66 : decode (zB 14) 66 = .ok (.iaload, 1) := by decide +kernel
theorem d14_67 : decode (zB 14) 67 = .ok (.iastore, 1) := by decide +kernel
theorem d14_68 : decode (zB 14) 68 = .ok (.iinc 4 1, 3) := by decide +kernel
theorem d14_71 : decode (zB 14) 71 = .ok (.goto 160, 3) := by decide +kernel
theorem d14_74 : decode (zB 14) 74 = .ok (.iload 6, 2) := by decide +kernel
theorem d14_76 : decode (zB 14) 76 = .ok (.bipush 33, 2) := by decide +kernel
theorem d14_78 : decode (zB 14) 78 = .ok (.if_icmp .ne 31, 3) := by decide +kernel
theorem d14_81 : decode (zB 14) 81 = .ok (.iload 4, 2) := by decide +kernel
theorem d14_83 : decode (zB 14) 83 = .ok (.ifCond .le 26, 3) := by decide +kernel
theorem d14_86 : decode (zB 14) 86 = .ok (.aload_n 0, 1) := by decide +kernel
theorem d14_87 : decode (zB 14) 87 = .ok (.getfield 28, 3) := by decide +kernel
theorem d14_90 : decode (zB 14) 90 = .ok (.iload 4, 2) := by decide +kernel
theorem d14_92 : decode (zB 14) 92 = .ok (.iconst 1, 1) := by decide +kernel
theorem d14_93 : decode (zB 14) 93 = .ok (.isub, 1) := by decide +kernel
theorem d14_94 : decode (zB 14) 94 = .ok (.iconst 1, 1) := by decide +kernel
theorem d14_95 : decode (zB 14) 95 = .ok (.aload_n 0, 1) := by decide +kernel
theorem d14_96 : decode (zB 14) 96 = .ok (.getfield 28, 3) := by decide +kernel
theorem d14_99 : decode (zB 14) 99 = .ok (.iload 4, 2) := by decide +kernel
theorem d14_101 : decode (zB 14) 101 = .ok (.iconst 1, 1) := by decide +kernel
theorem d14_102 : decode (zB 14) 102 = .ok (.isub, 1) := by decide +kernel
theorem d14_103 : decode (zB 14) 103 = .ok (.iaload, 1) := by decide +kernel
theorem d14_104 : decode (zB 14) 104 = .ok (.isub, 1) := by decide +kernel
theorem d14_105 : decode (zB 14) 105 = .ok (.iastore, 1) := by decide +kernel
theorem d14_106 : decode (zB 14) 106 = .ok (.goto 125, 3) := by decide +kernel
theorem d14_109 : decode (zB 14) 109 = .ok (.iload 6, 2) := by decide +kernel
theorem d14_111 : decode (zB 14) 111 = .ok (.invokestatic 62, 3) := by decide +kernel
theorem d14_114 : decode (zB 14) 114 = .ok (.ifCond .eq 53, 3) := by decide +kernel
theorem d14_117 : decode (zB 14) 117 = .ok (.iload 4, 2) := by decide +kernel
theorem d14_119 : decode (zB 14) 119 = .ok (.ifCond .le 48, 3) := by decide +kernel
theorem d14_122 : decode (zB 14) 122 = .ok (.aload_n 0, 1) := by decide +kernel
theorem d14_123 : decode (zB 14) 123 = .ok (.getfield 28, 3) := by decide +kernel
theorem d14_126 : decode (zB 14) 126 = .ok (.iload 4, 2) := by decide +kernel
theorem d14_128 : decode (zB 14) 128 = .ok (.iconst 1, 1) := by decide +kernel
theorem d14_129 : decode (zB 14) 129 = .ok (.isub, 1) := by decide +kernel
theorem d14_130 : decode (zB 14) 130 = .ok (.iaload, 1) := by decide +kernel
theorem d14_131 : decode (zB 14) 131 = .ok (.iload 6, 2) := by decide +kernel
theorem d14_133 : decode (zB 14) 133 = .ok (.bipush 124, 2) := by decide +kernel
theorem d14_135 : decode (zB 14) 135 = .ok (.if_icmp .ne 7, 3) := by decide +kernel
theorem d14_138 : decode (zB 14) 138 = .ok (.iconst 1, 1) := by decide +kernel
theorem d14_139 : decode (zB 14) 139 = .ok (.goto 4, 3) := by decide +kernel
theorem d14_142 : decode (zB 14) 142 = .ok (.iconst 0, 1) := by decide +kernel
theorem d14_143 : decode (zB 14) 143 = .ok (.if_icmp .ne 18, 3) := by decide +kernel
theorem d14_146 : decode (zB 14) 146 = .ok (.iload 5, 2) := by decide +kernel
theorem d14_148 : decode (zB 14) 148 = .ok (.aload_n 0, 1) := by decide +kernel
theorem d14_149 : decode (zB 14) 149 = .ok (.getfield 25, 3) := by decide +kernel
theorem d14_152 : decode (zB 14) 152 = .ok (.iload 5, 2) := by decide +kernel
theorem d14_154 : decode (zB 14) 154 = .ok (.iaload, 1) := by decide +kernel
theorem d14_155 : decode (zB 14) 155 = .ok (.iadd, 1) := by decide +kernel
theorem d14_156 : decode (zB 14) 156 = .ok (.istore 5, 2) := by decide +kernel
theorem d14_158 : decode (zB 14) 158 = .ok (.goto 73, 3) := by decide +kernel
theorem d14_161 : decode (zB 14) 161 = .ok (.iinc 4 (-1), 3) := by decide +kernel
theorem d14_164 : decode (zB 14) 164 = .ok (.goto 67, 3) := by decide +kernel
theorem d14_167 : decode (zB 14) 167 = .ok (.iload 4, 2) := by decide +kernel
theorem d14_169 : decode (zB 14) 169 = .ok (.iconst 1, 1) := by decide +kernel
theorem d14_170 : decode (zB 14) 170 = .ok (.if_icmp .le 61, 3) := by decide +kernel
theorem d14_173 : decode (zB 14) 173 = .ok (.iinc 4 (-1), 3) := by decide +kernel
theorem d14_176 : decode (zB 14) 176 = .ok (.aload_n 0, 1) := by decide +kernel
theorem d14_177 : decode (zB 14) 177 = .ok (.getfield 28, 3) := by decide +kernel
theorem d14_180 : decode (zB 14) 180 = .ok (.iload 4, 2) := by decide +kernel
theorem d14_182 : decode (zB 14) 182 = .ok (.iaload, 1) := by decide +kernel
theorem d14_183 : decode (zB 14) 183 = .ok (.istore 7, 2) := by decide +kernel
theorem d14_185 : decode (zB 14) 185 = .ok (.iload 7, 2) := by decide +kernel
theorem d14_187 : decode (zB 14) 187 = .ok (.ifCond .ne 19, 3) := by decide +kernel
theorem d14_190 : decode (zB 14) 190 = .ok (.iload 6, 2) := by decide +kernel
theorem d14_192 : decode (zB 14) 192 = .ok (.bipush 47, 2) := by decide +kernel
theorem d14_194 : decode (zB 14) 194 = .ok (.if_icmp .eq 10, 3) := by decide +kernel
theorem d14_197 : decode (zB 14) 197 = .ok (.iload 6, 2) := by decide +kernel
theorem d14_199 : decode (zB 14) 199 = .ok (.bipush 37, 2) := by decide +kernel
theorem d14_201 : decode (zB 14) 201 = .ok (.if_icmp .ne 5, 3) := by decide +kernel
theorem d14_204 : decode (zB 14) 204 = .ok (.iconst 0, 1) := by decide +kernel
theorem d14_205 : decode (zB 14) 205 = .ok (.ireturn, 1) := by decide +kernel
theorem d14_206 : decode (zB 14) 206 = .ok (.aload_n 0, 1) := by decide +kernel
theorem d14_207 : decode (zB 14) 207 = .ok (.getfield 28, 3) := by decide +kernel
theorem d14_210 : decode (zB 14) 210 = .ok (.iload 4, 2) := by decide +kernel
theorem d14_212 : decode (zB 14) 212 = .ok (.iconst 1, 1) := by decide +kernel
theorem d14_213 : decode (zB 14) 213 = .ok (.isub, 1) := by decide +kernel
theorem d14_214 : decode (zB 14) 214 = .ok (.iload 6, 2) := by decide +kernel
theorem d14_216 : decode (zB 14) 216 = .ok (.aload_n 0, 1) := by decide +kernel
theorem d14_217 : decode (zB 14) 217 = .ok (.getfield 28, 3) := by decide +kernel
theorem d14_220 : decode (zB 14) 220 = .ok (.iload 4, 2) := by decide +kernel
theorem d14_222 : decode (zB 14) 222 = .ok (.iconst 1, 1) := by decide +kernel
theorem d14_223 : decode (zB 14) 223 = .ok (.isub, 1) := by decide +kernel
theorem d14_224 : decode (zB 14) 224 = .ok (.iaload, 1) := by decide +kernel
theorem d14_225 : decode (zB 14) 225 = .ok (.iload 7, 2) := by decide +kernel
theorem d14_227 : decode (zB 14) 227 = .ok (.invokestatic 66, 3) := by decide +kernel
theorem d14_230 : decode (zB 14) 230 = .ok (.iastore, 1) := by decide +kernel
theorem d14_231 : decode (zB 14) 231 = .ok (.iinc 5 1, 3) := by decide +kernel
theorem d14_234 : decode (zB 14) 234 = .ok (.goto (-228), 3) := by decide +kernel
theorem d14_237 : decode (zB 14) 237 = .ok (.iload 4, 2) := by decide +kernel
theorem d14_239 : decode (zB 14) 239 = .ok (.ifCond .le 12, 3) := by decide +kernel
theorem d14_242 : decode (zB 14) 242 = .ok (.aload_n 0, 1) := by decide +kernel
theorem d14_243 : decode (zB 14) 243 = .ok (.getfield 28, 3) := by decide +kernel
theorem d14_246 : decode (zB 14) 246 = .ok (.iconst 0, 1) := by decide +kernel
theorem d14_247 : decode (zB 14) 247 = .ok (.iaload, 1) := by decide +kernel
theorem d14_248 : decode (zB 14) 248 = .ok (.goto 4, 3) := by decide +kernel
theorem d14_251 : decode (zB 14) 251 = .ok (.iconst 0, 1) := by decide +kernel
theorem d14_252 : decode (zB 14) 252 = .ok (.ireturn, 1) := by decide +kernel
theorem d15_0 : decode (zB 15) 0 = .ok (.iload_n 0, 1) := by decide +kernel
theorem d15_1 : decode (zB 15) 1 = .ok (.bipush 38, 2) := by decide +kernel
theorem d15_3 : decode (zB 15) 3 = .ok (.if_icmp .eq 9, 3) := by decide +kernel
theorem d15_6 : decode (zB 15) 6 = .ok (.iload_n 0, 1) := by decide +kernel
theorem d15_7 : decode (zB 15) 7 = .ok (.bipush 124, 2) := by decide +kernel
theorem d15_9 : decode (zB 15) 9 = .ok (.if_icmp .ne 7, 3) := by decide +kernel
theorem d15_12 : decode (zB 15) 12 = .ok (.iconst 1, 1) := by decide +kernel
theorem d15_13 : decode (zB 15) 13 = .ok (.goto 4, 3) := by decide +kernel
theorem d15_16 : decode (zB 15) 16 = .ok (.iconst 0, 1) := by decide +kernel
theorem d15_17 : decode (zB 15) 17 = .ok (.ireturn, 1) := by decide +kernel
theorem d16_0 : decode (zB 16) 0 = .ok (.iload_n 0, 1) := by decide +kernel
theorem d16_1 : decode (zB 16) 1 = .ok (.lookupswitch 125 #[(37, 91), (42, 75), (43, 67), (45, 71), (47, 79), (60, 103), (62, 114)], 67) := by decide +kernel
theorem d16_68 : decode (zB 16) 68 = .ok (.iload_n 1, 1) := by decide +kernel
theorem d16_69 : decode (zB 16) 69 = .ok (.iload_n 2, 1) := by decide +kernel
theorem d16_70 : decode (zB 16) 70 = .ok (.iadd, 1) := by decide +kernel
theorem d16_71 : decode (zB 16) 71 = .ok (.ireturn, 1) := by decide +kernel
theorem d16_72 : decode (zB 16) 72 = .ok (.iload_n 1, 1) := by decide +kernel
theorem d16_73 : decode (zB 16) 73 = .ok (.iload_n 2, 1) := by decide +kernel
theorem d16_74 : decode (zB 16) 74 = .ok (.isub, 1) := by decide +kernel
theorem d16_75 : decode (zB 16) 75 = .ok (.ireturn, 1) := by decide +kernel
theorem d16_76 : decode (zB 16) 76 = .ok (.iload_n 1, 1) := by decide +kernel
theorem d16_77 : decode (zB 16) 77 = .ok (.iload_n 2, 1) := by decide +kernel
theorem d16_78 : decode (zB 16) 78 = .ok (.imul, 1) := by decide +kernel
theorem d16_79 : decode (zB 16) 79 = .ok (.ireturn, 1) := by decide +kernel
theorem d16_80 : decode (zB 16) 80 = .ok (.iload_n 2, 1) := by decide +kernel
theorem d16_81 : decode (zB 16) 81 = .ok (.ifCond .ne 7, 3) := by decide +kernel
theorem d16_84 : decode (zB 16) 84 = .ok (.iconst 0, 1) := by decide +kernel
theorem d16_85 : decode (zB 16) 85 = .ok (.goto 6, 3) := by decide +kernel
theorem d16_88 : decode (zB 16) 88 = .ok (.iload_n 1, 1) := by decide +kernel
theorem d16_89 : decode (zB 16) 89 = .ok (.iload_n 2, 1) := by decide +kernel
theorem d16_90 : decode (zB 16) 90 = .ok (.idiv, 1) := by decide +kernel
theorem d16_91 : decode (zB 16) 91 = .ok (.ireturn, 1) := by decide +kernel
theorem d16_92 : decode (zB 16) 92 = .ok (.iload_n 2, 1) := by decide +kernel
theorem d16_93 : decode (zB 16) 93 = .ok (.ifCond .ne 7, 3) := by decide +kernel
theorem d16_96 : decode (zB 16) 96 = .ok (.iconst 0, 1) := by decide +kernel
theorem d16_97 : decode (zB 16) 97 = .ok (.goto 6, 3) := by decide +kernel
theorem d16_100 : decode (zB 16) 100 = .ok (.iload_n 1, 1) := by decide +kernel
theorem d16_101 : decode (zB 16) 101 = .ok (.iload_n 2, 1) := by decide +kernel
theorem d16_102 : decode (zB 16) 102 = .ok (.irem, 1) := by decide +kernel
theorem d16_103 : decode (zB 16) 103 = .ok (.ireturn, 1) := by decide +kernel
theorem d16_104 : decode (zB 16) 104 = .ok (.iload_n 1, 1) := by decide +kernel
theorem d16_105 : decode (zB 16) 105 = .ok (.iload_n 2, 1) := by decide +kernel
theorem d16_106 : decode (zB 16) 106 = .ok (.if_icmp .ge 7, 3) := by decide +kernel
theorem d16_109 : decode (zB 16) 109 = .ok (.iconst 1, 1) := by decide +kernel
theorem d16_110 : decode (zB 16) 110 = .ok (.goto 4, 3) := by decide +kernel
theorem d16_113 : decode (zB 16) 113 = .ok (.iconst 0, 1) := by decide +kernel
theorem d16_114 : decode (zB 16) 114 = .ok (.ireturn, 1) := by decide +kernel
theorem d16_115 : decode (zB 16) 115 = .ok (.iload_n 1, 1) := by decide +kernel
theorem d16_116 : decode (zB 16) 116 = .ok (.iload_n 2, 1) := by decide +kernel
theorem d16_117 : decode (zB 16) 117 = .ok (.if_icmp .le 7, 3) := by decide +kernel
theorem d16_120 : decode (zB 16) 120 = .ok (.iconst 1, 1) := by decide +kernel
theorem d16_121 : decode (zB 16) 121 = .ok (.goto 4, 3) := by decide +kernel
theorem d16_124 : decode (zB 16) 124 = .ok (.iconst 0, 1) := by decide +kernel
theorem d16_125 : decode (zB 16) 125 = .ok (.ireturn, 1) := by decide +kernel
theorem d16_126 : decode (zB 16) 126 = .ok (.iload_n 1, 1) := by decide +kernel
theorem d16_127 : decode (zB 16) 127 = .ok (.iload_n 2, 1) := by decide +kernel
theorem d16_128 : decode (zB 16) 128 = .ok (.if_icmp .ne 7, 3) := by decide +kernel
theorem d16_131 : decode (zB 16) 131 = .ok (.iconst 1, 1) := by decide +kernel
theorem d16_132 : decode (zB 16) 132 = .ok (.goto 4, 3) := by decide +kernel
theorem d16_135 : decode (zB 16) 135 = .ok (.iconst 0, 1) := by decide +kernel
theorem d16_136 : decode (zB 16) 136 = .ok (.ireturn, 1) := by decide +kernel
theorem d17_0 : decode (zB 17) 0 = .ok (.aload_n 0, 1) := by decide +kernel
theorem d17_1 : decode (zB 17) 1 = .ok (.invokespecial 1, 3) := by decide +kernel
theorem d17_4 : decode (zB 17) 4 = .ok (.aload_n 0, 1) := by decide +kernel
theorem d17_5 : decode (zB 17) 5 = .ok (.new 7, 3) := by decide +kernel
theorem d17_8 : decode (zB 17) 8 = .ok (.dup, 1) := by decide +kernel
theorem d17_9 : decode (zB 17) 9 = .ok (.invokespecial 9, 3) := by decide +kernel
theorem d17_12 : decode (zB 17) 12 = .ok (.putfield 10, 3) := by decide +kernel
theorem d17_15 : decode (zB 17) 15 = .ok (.aload_n 0, 1) := by decide +kernel
theorem d17_16 : decode (zB 17) 16 = .ok (.iconst 0, 1) := by decide +kernel
theorem d17_17 : decode (zB 17) 17 = .ok (.putfield 16, 3) := by decide +kernel
theorem d17_20 : decode (zB 17) 20 = .ok (.aload_n 0, 1) := by decide +kernel
theorem d17_21 : decode (zB 17) 21 = .ok (.iconst 0, 1) := by decide +kernel
theorem d17_22 : decode (zB 17) 22 = .ok (.putfield 20, 3) := by decide +kernel
theorem d17_25 : decode (zB 17) 25 = .ok (.aload_n 0, 1) := by decide +kernel
theorem d17_26 : decode (zB 17) 26 = .ok (.iconst 0, 1) := by decide +kernel
theorem d17_27 : decode (zB 17) 27 = .ok (.putfield 23, 3) := by decide +kernel
theorem d17_30 : decode (zB 17) 30 = .ok (.aload_n 0, 1) := by decide +kernel
theorem d17_31 : decode (zB 17) 31 = .ok (.aload_n 1, 1) := by decide +kernel
theorem d17_32 : decode (zB 17) 32 = .ok (.putfield 26, 3) := by decide +kernel
theorem d17_35 : decode (zB 17) 35 = .ok (.return_, 1) := by decide +kernel
theorem d18_0 : decode (zB 18) 0 = .ok (.aload_n 0, 1) := by decide +kernel
theorem d18_1 : decode (zB 18) 1 = .ok (.getfield 10, 3) := by decide +kernel
theorem d18_4 : decode (zB 18) 4 = .ok (.astore_n 2, 1) := by decide +kernel
theorem d18_5 : decode (zB 18) 5 = .ok (.aload_n 0, 1) := by decide +kernel
theorem d18_6 : decode (zB 18) 6 = .ok (.aload_n 1, 1) := by decide +kernel
theorem d18_7 : decode (zB 18) 7 = .ok (.putfield 10, 3) := by decide +kernel
theorem d18_10 : decode (zB 18) 10 = .ok (.aload_n 2, 1) := by decide +kernel
theorem d18_11 : decode (zB 18) 11 = .ok (.areturn, 1) := by decide +kernel
theorem d19_0 : decode (zB 19) 0 = .ok (.aload_n 0, 1) := by decide +kernel
theorem d19_1 : decode (zB 19) 1 = .ok (.iload_n 1, 1) := by decide +kernel
theorem d19_2 : decode (zB 19) 2 = .ok (.aload_n 0, 1) := by decide +kernel
theorem d19_3 : decode (zB 19) 3 = .ok (.getfield 26, 3) := by decide +kernel
theorem d19_6 : decode (zB 19) 6 = .ok (.arraylength, 1) := by decide +kernel
theorem d19_7 : decode (zB 19) 7 = .ok (.invokestatic 30, 3) := by decide +kernel
theorem d19_10 : decode (zB 19) 10 = .ok (.putfield 16, 3) := by decide +kernel
theorem d19_13 : decode (zB 19) 13 = .ok (.aload_n 0, 1) := by decide +kernel
theorem d19_14 : decode (zB 19) 14 = .ok (.iconst 0, 1) := by decide +kernel
theorem d19_15 : decode (zB 19) 15 = .ok (.putfield 20, 3) := by decide +kernel
theorem d19_18 : decode (zB 19) 18 = .ok (.aload_n 0, 1) := by decide +kernel
theorem d19_19 : decode (zB 19) 19 = .ok (.iconst 0, 1) := by decide +kernel
theorem d19_20 : decode (zB 19) 20 = .ok (.putfield 23, 3) := by decide +kernel
theorem d19_23 : decode (zB 19) 23 = .ok (.aload_n 0, 1) := by decide +kernel
theorem d19_24 : decode (zB 19) 24 = .ok (.getfield 10, 3) := by decide +kernel
theorem d19_27 : decode (zB 19) 27 = .ok (.invokevirtual 36, 3) := by decide +kernel
theorem d19_30 : decode (zB 19) 30 = .ok (.aload_n 0, 1) := by decide +kernel
theorem d19_31 : decode (zB 19) 31 = .ok (.invokevirtual 39, 3) := by decide +kernel
theorem d19_34 : decode (zB 19) 34 = .ok (.istore_n 2, 1) := by decide +kernel
theorem d19_35 : decode (zB 19) 35 = .ok (.iconst 1, 1) := by decide +kernel
theorem d19_36 : decode (zB 19) 36 = .ok (.istore_n 3, 1) := by decide +kernel
theorem d19_37 : decode (zB 19) 37 = .ok (.iload_n 3, 1) := by decide +kernel
theorem d19_38 : decode (zB 19) 38 = .ok (.bipush 14, 2) := by decide +kernel
theorem d19_40 : decode (zB 19) 40 = .ok (.if_icmp .gt 46, 3) := by decide +kernel
theorem d19_43 : decode (zB 19) 43 = .ok (.iload_n 2, 1) := by decide +kernel
theorem d19_44 : decode (zB 19) 44 = .ok (.ifCond .eq 42, 3) := by decide +kernel
theorem d19_47 : decode (zB 19) 47 = .ok (.aload_n 0, 1) := by decide +kernel
theorem d19_48 : decode (zB 19) 48 = .ok (.getfield 20, 3) := by decide +kernel
theorem d19_51 : decode (zB 19) 51 = .ok (.aload_n 0, 1) := by decide +kernel
theorem d19_52 : decode (zB 19) 52 = .ok (.getfield 16, 3) := by decide +kernel
theorem d19_55 : decode (zB 19) 55 = .ok (.if_icmp .ge 31, 3) := by decide +kernel
theorem d19_58 : decode (zB 19) 58 = .ok (.aload_n 0, 1) := by decide +kernel
theorem d19_59 : decode (zB 19) 59 = .ok (.bipush 59, 2) := by decide +kernel
theorem d19_61 : decode (zB 19) 61 = .ok (.invokevirtual 43, 3) := by decide +kernel
theorem d19_64 : decode (zB 19) 64 = .ok (.ifCond .eq 14, 3) := by decide +kernel
theorem d19_67 : decode (zB 19) 67 = .ok (.aload_n 0, 1) := by decide +kernel
theorem d19_68 : decode (zB 19) 68 = .ok (.invokevirtual 39, 3) := by decide +kernel
theorem d19_71 : decode (zB 19) 71 = .ok (.ifCond .eq 7, 3) := by decide +kernel
theorem d19_74 : decode (zB 19) 74 = .ok (.iconst 1, 1) := by decide +kernel
theorem d19_75 : decode (zB 19) 75 = .ok (.goto 4, 3) := by decide +kernel
theorem d19_78 : decode (zB 19) 78 = .ok (.iconst 0, 1) := by decide +kernel
theorem d19_79 : decode (zB 19) 79 = .ok (.istore_n 2, 1) := by decide +kernel
theorem d19_80 : decode (zB 19) 80 = .ok (.iinc 3 1, 3) := by decide +kernel
theorem d19_83 : decode (zB 19) 83 = .ok (.goto (-46), 3) := by decide +kernel
theorem d19_86 : decode (zB 19) 86 = .ok (.iload_n 2, 1) := by decide +kernel
theorem d19_87 : decode (zB 19) 87 = .ok (.ifCond .eq 13, 3) := by decide +kernel
theorem d19_90 : decode (zB 19) 90 = .ok (.aload_n 0, 1) := by decide +kernel
theorem d19_91 : decode (zB 19) 91 = .ok (.getfield 10, 3) := by decide +kernel
theorem d19_94 : decode (zB 19) 94 = .ok (.getfield 47, 3) := by decide +kernel
theorem d19_97 : decode (zB 19) 97 = .ok (.goto 7, 3) := by decide +kernel
theorem d19_100 : decode (zB 19) 100 = .ok (.aload_n 0, 1) := by decide +kernel
theorem d19_101 : decode (zB 19) 101 = .ok (.getfield 23, 3) := by decide +kernel
theorem d19_104 : decode (zB 19) 104 = .ok (.ireturn, 1) := by decide +kernel
theorem d20_0 : decode (zB 20) 0 = .ok (.aload_n 0, 1) := by decide +kernel
theorem d20_1 : decode (zB 20) 1 = .ok (.invokevirtual 50, 3) := by decide +kernel
theorem d20_4 : decode (zB 20) 4 = .ok (.istore_n 1, 1) := by decide +kernel
theorem d20_5 : decode (zB 20) 5 = .ok (.iload_n 1, 1) := by decide +kernel
theorem d20_6 : decode (zB 20) 6 = .ok (.bipush 104, 2) := by decide +kernel
theorem d20_8 : decode (zB 20) 8 = .ok (.if_icmp .eq 21, 3) := by decide +kernel
theorem d20_11 : decode (zB 20) 11 = .ok (.iload_n 1, 1) := by decide +kernel
theorem d20_12 : decode (zB 20) 12 = .ok (.bipush 116, 2) := by decide +kernel
theorem d20_14 : decode (zB 20) 14 = .ok (.if_icmp .eq 15, 3) := by decide +kernel
theorem d20_17 : decode (zB 20) 17 = .ok (.iload_n 1, 1) := by decide +kernel
theorem d20_18 : decode (zB 20) 18 = .ok (.bipush 122, 2) := by decide +kernel
theorem d20_20 : decode (zB 20) 20 = .ok (.if_icmp .eq 9, 3) := by decide +kernel
theorem d20_23 : decode (zB 20) 23 = .ok (.aload_n 0, 1) := by decide +kernel
theorem d20_24 : decode (zB 20) 24 = .ok (.iconst 1, 1) := by decide +kernel
theorem d20_25 : decode (zB 20) 25 = .ok (.invokevirtual 54, 3) := by decide +kernel
theorem d20_28 : decode (zB 20) 28 = .ok (.ireturn, 1) := by decide +kernel
theorem d20_29 : decode (zB 20) 29 = .ok (.aload_n 0, 1) := by decide +kernel
theorem d20_30 : decode (zB 20) 30 = .ok (.getfield 10, 3) := by decide +kernel
theorem d20_33 : decode (zB 20) 33 = .ok (.getfield 47, 3) := by decide +kernel
theorem d20_36 : decode (zB 20) 36 = .ok (.bipush 14, 2) := by decide +kernel
theorem d20_38 : decode (zB 20) 38 = .ok (.if_icmp .lt 9, 3) := by decide +kernel
theorem d20_41 : decode (zB 20) 41 = .ok (.aload_n 0, 1) := by decide +kernel
theorem d20_42 : decode (zB 20) 42 = .ok (.iconst 4, 1) := by decide +kernel
theorem d20_43 : decode (zB 20) 43 = .ok (.invokevirtual 54, 3) := by decide +kernel
theorem d20_46 : decode (zB 20) 46 = .ok (.ireturn, 1) := by decide +kernel
theorem d20_47 : decode (zB 20) 47 = .ok (.aload_n 0, 1) := by decide +kernel
theorem d20_48 : decode (zB 20) 48 = .ok (.dup, 1) := by decide +kernel
theorem d20_49 : decode (zB 20) 49 = .ok (.getfield 20, 3) := by decide +kernel
theorem d20_52 : decode (zB 20) 52 = .ok (.iconst 1, 1) := by decide +kernel
theorem d20_53 : decode (zB 20) 53 = .ok (.iadd, 1) := by decide +kernel
theorem d20_54 : decode (zB 20) 54 = .ok (.putfield 20, 3) := by decide +kernel
theorem d20_57 : decode (zB 20) 57 = .ok (.aload_n 0, 1) := by decide +kernel
theorem d20_58 : decode (zB 20) 58 = .ok (.getfield 10, 3) := by decide +kernel
theorem d20_61 : decode (zB 20) 61 = .ok (.getfield 57, 3) := by decide +kernel
theorem d20_64 : decode (zB 20) 64 = .ok (.istore_n 2, 1) := by decide +kernel
theorem d20_65 : decode (zB 20) 65 = .ok (.iload_n 1, 1) := by decide +kernel
theorem d20_66 : decode (zB 20) 66 = .ok (.bipush 122, 2) := by decide +kernel
theorem d20_68 : decode (zB 20) 68 = .ok (.if_icmp .eq 13, 3) := by decide +kernel
theorem d20_71 : decode (zB 20) 71 = .ok (.aload_n 0, 1) := by decide +kernel
theorem d20_72 : decode (zB 20) 72 = .ok (.iconst 0, 1) := by decide +kernel
theorem d20_73 : decode (zB 20) 73 = .ok (.invokevirtual 60, 3) := by decide +kernel
theorem d20_76 : decode (zB 20) 76 = .ok (.ifCond .ne 5, 3) := by decide +kernel
theorem d20_79 : decode (zB 20) 79 = .ok (.iconst 0, 1) := by decide +kernel
theorem d20_80 : decode (zB 20) 80 = .ok (.ireturn, 1) := by decide +kernel
theorem d20_81 : decode (zB 20) 81 = .ok (.aload_n 0, 1) := by decide +kernel
theorem d20_82 : decode (zB 20) 82 = .ok (.getfield 10, 3) := by decide +kernel
theorem d20_85 : decode (zB 20) 85 = .ok (.getfield 57, 3) := by decide +kernel
theorem d20_88 : decode (zB 20) 88 = .ok (.istore_n 3, 1) := by decide +kernel
theorem d20_89 : decode (zB 20) 89 = .ok (.aload_n 0, 1) := by decide +kernel
theorem d20_90 : decode (zB 20) 90 = .ok (.bipush 40, 2) := by decide +kernel
theorem d20_92 : decode (zB 20) 92 = .ok (.invokevirtual 43, 3) := by decide +kernel
theorem d20_95 : decode (zB 20) 95 = .ok (.ifCond .eq 20, 3) := by decide +kernel
theorem d20_98 : decode (zB 20) 98 = .ok (.aload_n 0, 1) := by decide +kernel
theorem d20_99 : decode (zB 20) 99 = .ok (.iconst 1, 1) := by decide +kernel
theorem d20_100 : decode (zB 20) 100 = .ok (.invokevirtual 63, 3) := by decide +kernel
theorem d20_103 : decode (zB 20) 103 = .ok (.ifCond .eq 12, 3) := by decide +kernel
theorem d20_106 : decode (zB 20) 106 = .ok (.aload_n 0, 1) := by decide +kernel
theorem d20_107 : decode (zB 20) 107 = .ok (.bipush 41, 2) := by decide +kernel
theorem d20_109 : decode (zB 20) 109 = .ok (.invokevirtual 43, 3) := by decide +kernel
theorem d20_112 : decode (zB 20) 112 = .ok (.ifCond .ne 5, 3) := by decide +kernel
theorem d20_115 : decode (zB 20) 115 = .ok (.iconst 0, 1) := by decide +kernel
theorem d20_116 : decode (zB 20) 116 = .ok (.ireturn, 1) := by decide +kernel
theorem d20_117 : decode (zB 20) 117 = .ok (.aload_n 0, 1) := by decide +kernel
theorem d20_118 : decode (zB 20) 118 = .ok (.getfield 10, 3) := by decide +kernel
theorem d20_121 : decode (zB 20) 121 = .ok (.iload_n 1, 1) := by decide +kernel
theorem d20_122 : decode (zB 20) 122 = .ok (.iload_n 2, 1) := by decide +kernel
theorem d20_123 : decode (zB 20) 123 = .ok (.iload_n 3, 1) := by decide +kernel
theorem d20_124 : decode (zB 20) 124 = .ok (.invokevirtual 66, 3) := by decide +kernel
theorem d20_127 : decode (zB 20) 127 = .ok (.iconst 1, 1) := by decide +kernel
theorem d20_128 : decode (zB 20) 128 = .ok (.ireturn, 1) := by decide +kernel
theorem d21_0 : decode (zB 21) 0 = .ok (.aload_n 0, 1) := by decide +kernel
theorem d21_1 : decode (zB 21) 1 = .ok (.iload_n 1, 1) := by decide +kernel
theorem d21_2 : decode (zB 21) 2 = .ok (.invokevirtual 70, 3) := by decide +kernel
theorem d21_5 : decode (zB 21) 5 = .ok (.istore_n 2, 1) := by decide +kernel
theorem d21_6 : decode (zB 21) 6 = .ok (.aload_n 0, 1) := by decide +kernel
theorem d21_7 : decode (zB 21) 7 = .ok (.getfield 20, 3) := by decide +kernel
theorem d21_10 : decode (zB 21) 10 = .ok (.istore_n 3, 1) := by decide +kernel
theorem d21_11 : decode (zB 21) 11 = .ok (.iload_n 3, 1) := by decide +kernel
theorem d21_12 : decode (zB 21) 12 = .ok (.aload_n 0, 1) := by decide +kernel
theorem d21_13 : decode (zB 21) 13 = .ok (.getfield 16, 3) := by decide +kernel
theorem d21_16 : decode (zB 21) 16 = .ok (.if_icmp .ge 45, 3) := by decide +kernel
theorem d21_19 : decode (zB 21) 19 = .ok (.iload_n 2, 1) := by decide +kernel
theorem d21_20 : decode (zB 21) 20 = .ok (.ifCond .eq 41, 3) := by decide +kernel
theorem d21_23 : decode (zB 21) 23 = .ok (.aload_n 0, 1) := by decide +kernel
theorem d21_24 : decode (zB 21) 24 = .ok (.invokevirtual 50, 3) := by decide +kernel
theorem d21_27 : decode (zB 21) 27 = .ok (.bipush 124, 2) := by decide +kernel
theorem d21_29 : decode (zB 21) 29 = .ok (.if_icmp .ne 32, 3) := by decide +kernel
theorem d21_32 : decode (zB 21) 32 = .ok (.aload_n 0, 1) := by decide +kernel
theorem d21_33 : decode (zB 21) 33 = .ok (.bipush 124, 2) := by decide +kernel
theorem d21_35 : decode (zB 21) 35 = .ok (.invokevirtual 73, 3) := by decide +kernel
theorem d21_38 : decode (zB 21) 38 = .ok (.istore 4, 2) := by decide +kernel
theorem d21_40 : decode (zB 21) 40 = .ok (.aload_n 0, 1) := by decide +kernel
theorem d21_41 : decode (zB 21) 41 = .ok (.iload_n 1, 1) := by decide +kernel
theorem d21_42 : decode (zB 21) 42 = .ok (.invokevirtual 70, 3) := by decide +kernel
theorem d21_45 : decode (zB 21) 45 = .ok (.istore_n 2, 1) := by decide +kernel
theorem d21_46 : decode (zB 21) 46 = .ok (.aload_n 0, 1) := by decide +kernel
theorem d21_47 : decode (zB 21) 47 = .ok (.getfield 10, 3) := by decide +kernel
theorem d21_50 : decode (zB 21) 50 = .ok (.iload 4, 2) := by decide +kernel
theorem d21_52 : decode (zB 21) 52 = .ok (.invokevirtual 77, 3) := by decide +kernel
theorem d21_55 : decode (zB 21) 55 = .ok (.iinc 3 1, 3) := by decide +kernel
theorem d21_58 : decode (zB 21) 58 = .ok (.goto (-47), 3) := by decide +kernel
theorem d21_61 : decode (zB 21) 61 = .ok (.iload_n 2, 1) := by decide +kernel
theorem d21_62 : decode (zB 21) 62 = .ok (.ireturn, 1) := by decide +kernel
theorem d22_0 : decode (zB 22) 0 = .ok (.aload_n 0, 1) := by decide +kernel
theorem d22_1 : decode (zB 22) 1 = .ok (.iload_n 1, 1) := by decide +kernel
theorem d22_2 : decode (zB 22) 2 = .ok (.invokevirtual 81, 3) := by decide +kernel
theorem d22_5 : decode (zB 22) 5 = .ok (.istore_n 2, 1) := by decide +kernel
theorem d22_6 : decode (zB 22) 6 = .ok (.aload_n 0, 1) := by decide +kernel
theorem d22_7 : decode (zB 22) 7 = .ok (.getfield 20, 3) := by decide +kernel
theorem d22_10 : decode (zB 22) 10 = .ok (.istore_n 3, 1) := by decide +kernel
theorem d22_11 : decode (zB 22) 11 = .ok (.iload_n 3, 1) := by decide +kernel
theorem d22_12 : decode (zB 22) 12 = .ok (.aload_n 0, 1) := by decide +kernel
theorem d22_13 : decode (zB 22) 13 = .ok (.getfield 16, 3) := by decide +kernel
theorem d22_16 : decode (zB 22) 16 = .ok (.if_icmp .ge 45, 3) := by decide +kernel
theorem d22_19 : decode (zB 22) 19 = .ok (.iload_n 2, 1) := by decide +kernel
theorem d22_20 : decode (zB 22) 20 = .ok (.ifCond .eq 41, 3) := by decide +kernel
theorem d22_23 : decode (zB 22) 23 = .ok (.aload_n 0, 1) := by decide +kernel
theorem d22_24 : decode (zB 22) 24 = .ok (.invokevirtual 50, 3) := by decide +kernel
theorem d22_27 : decode (zB 22) 27 = .ok (.bipush 38, 2) := by decide +kernel
theorem d22_29 : decode (zB 22) 29 = .ok (.if_icmp .ne 32, 3) := by decide +kernel
theorem d22_32 : decode (zB 22) 32 = .ok (.aload_n 0, 1) := by decide +kernel
theorem d22_33 : decode (zB 22) 33 = .ok (.bipush 38, 2) := by decide +kernel
theorem d22_35 : decode (zB 22) 35 = .ok (.invokevirtual 73, 3) := by decide +kernel
theorem d22_38 : decode (zB 22) 38 = .ok (.istore 4, 2) := by decide +kernel
theorem d22_40 : decode (zB 22) 40 = .ok (.aload_n 0, 1) := by decide +kernel
theorem d22_41 : decode (zB 22) 41 = .ok (.iload_n 1, 1) := by decide +kernel
theorem d22_42 : decode (zB 22) 42 = .ok (.invokevirtual 81, 3) := by decide +kernel
theorem d22_45 : decode (zB 22) 45 = .ok (.istore_n 2, 1) := by decide +kernel
theorem d22_46 : decode (zB 22) 46 = .ok (.aload_n 0, 1) := by decide +kernel
theorem d22_47 : decode (zB 22) 47 = .ok (.getfield 10, 3) := by decide +kernel
theorem d22_50 : decode (zB 22) 50 = .ok (.iload 4, 2) := by decide +kernel
theorem d22_52 : decode (zB 22) 52 = .ok (.invokevirtual 77, 3) := by decide +kernel
theorem d22_55 : decode (zB 22) 55 = .ok (.iinc 3 1, 3) := by decide +kernel
theorem d22_58 : decode (zB 22) 58 = .ok (.goto (-47), 3) := by decide +kernel
theorem d22_61 : decode (zB 22) 61 = .ok (.iload_n 2, 1) := by decide +kernel
theorem d22_62 : decode (zB 22) 62 = .ok (.ireturn, 1) := by decide +kernel
theorem d23_0 : decode (zB 23) 0 = .ok (.aload_n 0, 1) := by decide +kernel
theorem d23_1 : decode (zB 23) 1 = .ok (.invokevirtual 50, 3) := by decide +kernel
theorem d23_4 : decode (zB 23) 4 = .ok (.istore_n 2, 1) := by decide +kernel
theorem d23_5 : decode (zB 23) 5 = .ok (.iload_n 2, 1) := by decide +kernel
theorem d23_6 : decode (zB 23) 6 = .ok (.bipush 33, 2) := by decide +kernel
theorem d23_8 : decode (zB 23) 8 = .ok (.if_icmp .eq 15, 3) := by decide +kernel
theorem d23_11 : decode (zB 23) 11 = .ok (.iload_n 2, 1) := by decide +kernel
theorem d23_12 : decode (zB 23) 12 = .ok (.bipush 40, 2) := by decide +kernel
theorem d23_14 : decode (zB 23) 14 = .ok (.if_icmp .eq 9, 3) := by decide +kernel
theorem d23_17 : decode (zB 23) 17 = .ok (.aload_n 0, 1) := by decide +kernel
theorem d23_18 : decode (zB 23) 18 = .ok (.iload_n 1, 1) := by decide +kernel
theorem d23_19 : decode (zB 23) 19 = .ok (.invokevirtual 84, 3) := by decide +kernel
theorem d23_22 : decode (zB 23) 22 = .ok (.ireturn, 1) := by decide +kernel
theorem d23_23 : decode (zB 23) 23 = .ok (.iload_n 1, 1) := by decide +kernel
theorem d23_24 : decode (zB 23) 24 = .ok (.bipush 6, 2) := by decide +kernel
theorem d23_26 : decode (zB 23) 26 = .ok (.if_icmp .lt 9, 3) := by decide +kernel
theorem d23_29 : decode (zB 23) 29 = .ok (.aload_n 0, 1) := by decide +kernel
theorem d23_30 : decode (zB 23) 30 = .ok (.iconst 5, 1) := by decide +kernel
theorem d23_31 : decode (zB 23) 31 = .ok (.invokevirtual 54, 3) := by decide +kernel
theorem d23_34 : decode (zB 23) 34 = .ok (.ireturn, 1) := by decide +kernel
theorem d23_35 : decode (zB 23) 35 = .ok (.aload_n 0, 1) := by decide +kernel
theorem d23_36 : decode (zB 23) 36 = .ok (.dup, 1) := by decide +kernel
theorem d23_37 : decode (zB 23) 37 = .ok (.getfield 20, 3) := by decide +kernel
theorem d23_40 : decode (zB 23) 40 = .ok (.iconst 1, 1) := by decide +kernel
theorem d23_41 : decode (zB 23) 41 = .ok (.iadd, 1) := by decide +kernel
theorem d23_42 : decode (zB 23) 42 = .ok (.putfield 20, 3) := by decide +kernel
theorem d23_45 : decode (zB 23) 45 = .ok (.iload_n 2, 1) := by decide +kernel
theorem d23_46 : decode (zB 23) 46 = .ok (.bipush 40, 2) := by decide +kernel
theorem d23_48 : decode (zB 23) 48 = .ok (.if_icmp .ne 28, 3) := by decide +kernel
theorem d23_51 : decode (zB 23) 51 = .ok (.aload_n 0, 1) := by decide +kernel
theorem d23_52 : decode (zB 23) 52 = .ok (.iload_n 1, 1) := by decide +kernel
theorem d23_53 : decode (zB 23) 53 = .ok (.iconst 1, 1) := by decide +kernel
theorem d23_54 : decode (zB 23) 54 = .ok (.iadd, 1) := by decide +kernel
theorem d23_55 : decode (zB 23) 55 = .ok (.invokevirtual 63, 3) := by decide +kernel
theorem d23_58 : decode (zB 23) 58 = .ok (.ifCond .eq 16, 3) := by decide +kernel
theorem d23_61 : decode (zB 23) 61 = .ok (.aload_n 0, 1) := by decide +kernel
theorem d23_62 : decode (zB 23) 62 = .ok (.bipush 41, 2) := by decide +kernel
theorem d23_64 : decode (zB 23) 64 = .ok (.invokevirtual 43, 3) := by decide +kernel
theorem d23_67 : decode (zB 23) 67 = .ok (.ifCond .eq 7, 3) := by decide +kernel
theorem d23_70 : decode (zB 23) 70 = .ok (.iconst 1, 1) := by decide +kernel
theorem d23_71 : decode (zB 23) 71 = .ok (.goto 4, 3) := by decide +kernel
theorem d23_74 : decode (zB 23) 74 = .ok (.iconst 0, 1) := by decide +kernel
theorem d23_75 : decode (zB 23) 75 = .ok (.ireturn, 1) := by decide +kernel
theorem d23_76 : decode (zB 23) 76 = .ok (.aload_n 0, 1) := by decide +kernel
theorem d23_77 : decode (zB 23) 77 = .ok (.iload_n 1, 1) := by decide +kernel
theorem d23_78 : decode (zB 23) 78 = .ok (.iconst 1, 1) := by decide +kernel
theorem d23_79 : decode (zB 23) 79 = .ok (.iadd, 1) := by decide +kernel
theorem d23_80 : decode (zB 23) 80 = .ok (.invokevirtual 81, 3) := by decide +kernel
theorem d23_83 : decode (zB 23) 83 = .ok (.ifCond .ne 5, 3) := by decide +kernel
theorem d23_86 : decode (zB 23) 86 = .ok (.iconst 0, 1) := by decide +kernel
theorem d23_87 : decode (zB 23) 87 = .ok (.ireturn, 1) := by decide +kernel
theorem d23_88 : decode (zB 23) 88 = .ok (.aload_n 0, 1) := by decide +kernel
theorem d23_89 : decode (zB 23) 89 = .ok (.getfield 10, 3) := by decide +kernel
theorem d23_92 : decode (zB 23) 92 = .ok (.bipush 33, 2) := by decide +kernel
theorem d23_94 : decode (zB 23) 94 = .ok (.iconst 0, 1) := by decide +kernel
theorem d23_95 : decode (zB 23) 95 = .ok (.invokevirtual 87, 3) := by decide +kernel
theorem d23_98 : decode (zB 23) 98 = .ok (.pop, 1) := by decide +kernel
theorem d23_99 : decode (zB 23) 99 = .ok (.iconst 1, 1) := by decide +kernel
theorem d23_100 : decode (zB 23) 100 = .ok (.ireturn, 1) := by decide +kernel
theorem d24_0 : decode (zB 24) 0 = .ok (.aload_n 0, 1) := by decide +kernel
theorem d24_1 : decode (zB 24) 1 = .ok (.iload_n 1, 1) := by decide +kernel
theorem d24_2 : decode (zB 24) 2 = .ok (.invokevirtual 60, 3) := by decide +kernel
theorem d24_5 : decode (zB 24) 5 = .ok (.ifCond .ne 5, 3) := by decide +kernel
theorem d24_8 : decode (zB 24) 8 = .ok (.iconst 0, 1) := by decide +kernel
theorem d24_9 : decode (zB 24) 9 = .ok (.ireturn, 1) := by decide +kernel
theorem d24_10 : decode (zB 24) 10 = .ok (.aload_n 0, 1) := by decide +kernel
theorem d24_11 : decode (zB 24) 11 = .ok (.invokevirtual 50, 3) := by decide +kernel
theorem d24_14 : decode (zB 24) 14 = .ok (.istore_n 2, 1) := by decide +kernel
theorem d24_15 : decode (zB 24) 15 = .ok (.iload_n 2, 1) := by decide +kernel
theorem d24_16 : decode (zB 24) 16 = .ok (.bipush 60, 2) := by decide +kernel
theorem d24_18 : decode (zB 24) 18 = .ok (.if_icmp .eq 21, 3) := by decide +kernel
theorem d24_21 : decode (zB 24) 21 = .ok (.iload_n 2, 1) := by decide +kernel
theorem d24_22 : decode (zB 24) 22 = .ok (.bipush 62, 2) := by decide +kernel
theorem d24_24 : decode (zB 24) 24 = .ok (.if_icmp .eq 15, 3) := by decide +kernel
theorem d24_27 : decode (zB 24) 27 = .ok (.iload_n 2, 1) := by decide +kernel
theorem d24_28 : decode (zB 24) 28 = .ok (.bipush 61, 2) := by decide +kernel
theorem d24_30 : decode (zB 24) 30 = .ok (.if_icmp .eq 9, 3) := by decide +kernel
theorem d24_33 : decode (zB 24) 33 = .ok (.aload_n 0, 1) := by decide +kernel
theorem d24_34 : decode (zB 24) 34 = .ok (.iconst 1, 1) := by decide +kernel
theorem d24_35 : decode (zB 24) 35 = .ok (.invokevirtual 54, 3) := by decide +kernel
theorem d24_38 : decode (zB 24) 38 = .ok (.ireturn, 1) := by decide +kernel
theorem d24_39 : decode (zB 24) 39 = .ok (.aload_n 0, 1) := by decide +kernel
theorem d24_40 : decode (zB 24) 40 = .ok (.dup, 1) := by decide +kernel
theorem d24_41 : decode (zB 24) 41 = .ok (.getfield 20, 3) := by decide +kernel
theorem d24_44 : decode (zB 24) 44 = .ok (.iconst 1, 1) := by decide +kernel
theorem d24_45 : decode (zB 24) 45 = .ok (.iadd, 1) := by decide +kernel
theorem d24_46 : decode (zB 24) 46 = .ok (.putfield 20, 3) := by decide +kernel
theorem d24_49 : decode (zB 24) 49 = .ok (.aload_n 0, 1) := by decide +kernel
theorem d24_50 : decode (zB 24) 50 = .ok (.iload_n 1, 1) := by decide +kernel
theorem d24_51 : decode (zB 24) 51 = .ok (.invokevirtual 60, 3) := by decide +kernel
theorem d24_54 : decode (zB 24) 54 = .ok (.ifCond .ne 5, 3) := by decide +kernel
theorem d24_57 : decode (zB 24) 57 = .ok (.iconst 0, 1) := by decide +kernel
theorem d24_58 : decode (zB 24) 58 = .ok (.ireturn, 1) := by decide +kernel
theorem d24_59 : decode (zB 24) 59 = .ok (.aload_n 0, 1) := by decide +kernel
theorem d24_60 : decode (zB 24) 60 = .ok (.getfield 10, 3) := by decide +kernel
theorem d24_63 : decode (zB 24) 63 = .ok (.iload_n 2, 1) := by decide +kernel
theorem d24_64 : decode (zB 24) 64 = .ok (.iconst 0, 1) := by decide +kernel
theorem d24_65 : decode (zB 24) 65 = .ok (.invokevirtual 87, 3) := by decide +kernel
theorem d24_68 : decode (zB 24) 68 = .ok (.pop, 1) := by decide +kernel
theorem d24_69 : decode (zB 24) 69 = .ok (.iconst 1, 1) := by decide +kernel
theorem d24_70 : decode (zB 24) 70 = .ok (.ireturn, 1) := by decide +kernel
theorem d25_0 : decode (zB 25) 0 = .ok (.aload_n 0, 1) := by decide +kernel
theorem d25_1 : decode (zB 25) 1 = .ok (.iload_n 1, 1) := by decide +kernel
theorem d25_2 : decode (zB 25) 2 = .ok (.invokevirtual 90, 3) := by decide +kernel
theorem d25_5 : decode (zB 25) 5 = .ok (.istore_n 2, 1) := by decide +kernel
theorem d25_6 : decode (zB 25) 6 = .ok (.aload_n 0, 1) := by decide +kernel
theorem d25_7 : decode (zB 25) 7 = .ok (.getfield 20, 3) := by decide +kernel
theorem d25_10 : decode (zB 25) 10 = .ok (.istore_n 3, 1) := by decide +kernel
theorem d25_11 : decode (zB 25) 11 = .ok (.iload_n 3, 1) := by decide +kernel
theorem d25_12 : decode (zB 25) 12 = .ok (.aload_n 0, 1) := by decide +kernel
theorem d25_13 : decode (zB 25) 13 = .ok (.getfield 16, 3) := by decide +kernel
theorem d25_16 : decode (zB 25) 16 = .ok (.if_icmp .ge 64, 3) := by decide +kernel
theorem d25_19 : decode (zB 25) 19 = .ok (.iload_n 2, 1) := by decide +kernel
theorem d25_20 : decode (zB 25) 20 = .ok (.ifCond .eq 60, 3) := by decide +kernel
theorem d25_23 : decode (zB 25) 23 = .ok (.aload_n 0, 1) := by decide +kernel
theorem d25_24 : decode (zB 25) 24 = .ok (.invokevirtual 50, 3) := by decide +kernel
theorem d25_27 : decode (zB 25) 27 = .ok (.bipush 43, 2) := by decide +kernel
theorem d25_29 : decode (zB 25) 29 = .ok (.if_icmp .eq 12, 3) := by decide +kernel
theorem d25_32 : decode (zB 25) 32 = .ok (.aload_n 0, 1) := by decide +kernel
theorem d25_33 : decode (zB 25) 33 = .ok (.invokevirtual 50, 3) := by decide +kernel
theorem d25_36 : decode (zB 25) 36 = .ok (.bipush 45, 2) := by decide +kernel
theorem d25_38 : decode (zB 25) 38 = .ok (.if_icmp .ne 42, 3) := by decide +kernel
theorem d25_41 : decode (zB 25) 41 = .ok (.aload_n 0, 1) := by decide +kernel
theorem d25_42 : decode (zB 25) 42 = .ok (.invokevirtual 50, 3) := by decide +kernel
theorem d25_45 : decode (zB 25) 45 = .ok (.istore 4, 2) := by decide +kernel
theorem d25_47 : decode (zB 25) 47 = .ok (.aload_n 0, 1) := by decide +kernel
theorem d25_48 : decode (zB 25) 48 = .ok (.dup, 1) := by decide +kernel
theorem d25_49 : decode (zB 25) 49 = .ok (.getfield 20, 3) := by decide +kernel
theorem d25_52 : decode (zB 25) 52 = .ok (.iconst 1, 1) := by decide +kernel
theorem d25_53 : decode (zB 25) 53 = .ok (.iadd, 1) := by decide +kernel
theorem d25_54 : decode (zB 25) 54 = .ok (.putfield 20, 3) := by decide +kernel
theorem d25_57 : decode (zB 25) 57 = .ok (.aload_n 0, 1) := by decide +kernel
theorem d25_58 : decode (zB 25) 58 = .ok (.iload_n 1, 1) := by decide +kernel
theorem d25_59 : decode (zB 25) 59 = .ok (.invokevirtual 90, 3) := by decide +kernel
theorem d25_62 : decode (zB 25) 62 = .ok (.istore_n 2, 1) := by decide +kernel
theorem d25_63 : decode (zB 25) 63 = .ok (.aload_n 0, 1) := by decide +kernel
theorem d25_64 : decode (zB 25) 64 = .ok (.getfield 10, 3) := by decide +kernel
theorem d25_67 : decode (zB 25) 67 = .ok (.iload 4, 2) := by decide +kernel
theorem d25_69 : decode (zB 25) 69 = .ok (.iconst 0, 1) := by decide +kernel
theorem d25_70 : decode (zB 25) 70 = .ok (.invokevirtual 87, 3) := by decide +kernel
theorem d25_73 : decode (zB 25) 73 = .ok (.pop, 1) := by decide +kernel
theorem d25_74 : decode (zB 25) 74 = .ok (.iinc 3 1, 3) := by decide +kernel
theorem d25_77 : decode (zB 25) 77 = .ok (.goto (-66), 3) := by decide +kernel
theorem d25_80 : decode (zB 25) 80 = .ok (.iload_n 2, 1) := by decide +kernel
theorem d25_81 : decode (zB 25) 81 = .ok (.ireturn, 1) := by decide +kernel
theorem d26_0 : decode (zB 26) 0 = .ok (.aload_n 0, 1) := by decide +kernel
theorem d26_1 : decode (zB 26) 1 = .ok (.iload_n 1, 1) := by decide +kernel
theorem d26_2 : decode (zB 26) 2 = .ok (.invokevirtual 93, 3) := by decide +kernel
theorem d26_5 : decode (zB 26) 5 = .ok (.istore_n 2, 1) := by decide +kernel
theorem d26_6 : decode (zB 26) 6 = .ok (.aload_n 0, 1) := by decide +kernel
theorem d26_7 : decode (zB 26) 7 = .ok (.getfield 20, 3) := by decide +kernel
theorem d26_10 : decode (zB 26) 10 = .ok (.istore_n 3, 1) := by decide +kernel
theorem d26_11 : decode (zB 26) 11 = .ok (.iload_n 3, 1) := by decide +kernel
theorem d26_12 : decode (zB 26) 12 = .ok (.aload_n 0, 1) := by decide +kernel
theorem d26_13 : decode (zB 26) 13 = .ok (.getfield 16, 3) := by decide +kernel
theorem d26_16 : decode (zB 26) 16 = .ok (.if_icmp .ge 73, 3) := by decide +kernel
theorem d26_19 : decode (zB 26) 19 = .ok (.iload_n 2, 1) := by decide +kernel
theorem d26_20 : decode (zB 26) 20 = .ok (.ifCond .eq 69, 3) := by decide +kernel
theorem d26_23 : decode (zB 26) 23 = .ok (.aload_n 0, 1) := by decide +kernel
theorem d26_24 : decode (zB 26) 24 = .ok (.invokevirtual 50, 3) := by decide +kernel
theorem d26_27 : decode (zB 26) 27 = .ok (.bipush 42, 2) := by decide +kernel
theorem d26_29 : decode (zB 26) 29 = .ok (.if_icmp .eq 21, 3) := by decide +kernel
theorem d26_32 : decode (zB 26) 32 = .ok (.aload_n 0, 1) := by decide +kernel
theorem d26_33 : decode (zB 26) 33 = .ok (.invokevirtual 50, 3) := by decide +kernel
theorem d26_36 : decode (zB 26) 36 = .ok (.bipush 47, 2) := by decide +kernel
theorem d26_38 : decode (zB 26) 38 = .ok (.if_icmp .eq 12, 3) := by decide +kernel
theorem d26_41 : decode (zB 26) 41 = .ok (.aload_n 0, 1) := by decide +kernel
theorem d26_42 : decode (zB 26) 42 = .ok (.invokevirtual 50, 3) := by decide +kernel
theorem d26_45 : decode (zB 26) 45 = .ok (.bipush 37, 2) := by decide +kernel
theorem d26_47 : decode (zB 26) 47 = .ok (.if_icmp .ne 42, 3) := by decide +kernel
theorem d26_50 : decode (zB 26) 50 = .ok (.aload_n 0, 1) := by decide +kernel
theorem d26_51 : decode (zB 26) 51 = .ok (.invokevirtual 50, 3) := by decide +kernel
theorem d26_54 : decode (zB 26) 54 = .ok (.istore 4, 2) := by decide +kernel
theorem d26_56 : decode (zB 26) 56 = .ok (.aload_n 0, 1) := by decide +kernel
theorem d26_57 : decode (zB 26) 57 = .ok (.dup, 1) := by decide +kernel
theorem d26_58 : decode (zB 26) 58 = .ok (.getfield 20, 3) := by decide +kernel
theorem d26_61 : decode (zB 26) 61 = .ok (.iconst 1, 1) := by decide +kernel
theorem d26_62 : decode (zB 26) 62 = .ok (.iadd, 1) := by decide +kernel
theorem d26_63 : decode (zB 26) 63 = .ok (.putfield 20, 3) := by decide +kernel
theorem d26_66 : decode (zB 26) 66 = .ok (.aload_n 0, 1) := by decide +kernel
theorem d26_67 : decode (zB 26) 67 = .ok (.iload_n 1, 1) := by decide +kernel
theorem d26_68 : decode (zB 26) 68 = .ok (.invokevirtual 93, 3) := by decide +kernel
theorem d26_71 : decode (zB 26) 71 = .ok (.istore_n 2, 1) := by decide +kernel
theorem d26_72 : decode (zB 26) 72 = .ok (.aload_n 0, 1) := by decide +kernel
theorem d26_73 : decode (zB 26) 73 = .ok (.getfield 10, 3) := by decide +kernel
theorem d26_76 : decode (zB 26) 76 = .ok (.iload 4, 2) := by decide +kernel
theorem d26_78 : decode (zB 26) 78 = .ok (.iconst 0, 1) := by decide +kernel
theorem d26_79 : decode (zB 26) 79 = .ok (.invokevirtual 87, 3) := by decide +kernel
theorem d26_82 : decode (zB 26) 82 = .ok (.pop, 1) := by decide +kernel
theorem d26_83 : decode (zB 26) 83 = .ok (.iinc 3 1, 3) := by decide +kernel
theorem d26_86 : decode (zB 26) 86 = .ok (.goto (-75), 3) := by decide +kernel
theorem d26_89 : decode (zB 26) 89 = .ok (.iload_n 2, 1) := by decide +kernel
theorem d26_90 : decode (zB 26) 90 = .ok (.ireturn, 1) := by decide +kernel
theorem d27_0 : decode (zB 27) 0 = .ok (.aload_n 0, 1) := by decide +kernel
theorem d27_1 : decode (zB 27) 1 = .ok (.invokevirtual 50, 3) := by decide +kernel
theorem d27_4 : decode (zB 27) 4 = .ok (.istore_n 2, 1) := by decide +kernel
theorem d27_5 : decode (zB 27) 5 = .ok (.iload_n 2, 1) := by decide +kernel
theorem d27_6 : decode (zB 27) 6 = .ok (.invokestatic 96, 3) := by decide +kernel
theorem d27_9 : decode (zB 27) 9 = .ok (.ifCond .eq 8, 3) := by decide +kernel
theorem d27_12 : decode (zB 27) 12 = .ok (.aload_n 0, 1) := by decide +kernel
theorem d27_13 : decode (zB 27) 13 = .ok (.invokevirtual 99, 3) := by decide +kernel
theorem d27_16 : decode (zB 27) 16 = .ok (.ireturn, 1) := by decide +kernel
theorem d27_17 : decode (zB 27) 17 = .ok (.iload_n 2, 1) := by decide +kernel
theorem d27_18 : decode (zB 27) 18 = .ok (.bipush 91, 2) := by decide +kernel
theorem d27_20 : decode (zB 27) 20 = .ok (.if_icmp .ne 50, 3) := by decide +kernel
theorem d27_23 : decode (zB 27) 23 = .ok (.iload_n 1, 1) := by decide +kernel
theorem d27_24 : decode (zB 27) 24 = .ok (.bipush 6, 2) := by decide +kernel
theorem d27_26 : decode (zB 27) 26 = .ok (.if_icmp .lt 9, 3) := by decide +kernel
theorem d27_29 : decode (zB 27) 29 = .ok (.aload_n 0, 1) := by decide +kernel
theorem d27_30 : decode (zB 27) 30 = .ok (.iconst 5, 1) := by decide +kernel
theorem d27_31 : decode (zB 27) 31 = .ok (.invokevirtual 54, 3) := by decide +kernel
theorem d27_34 : decode (zB 27) 34 = .ok (.ireturn, 1) := by decide +kernel
theorem d27_35 : decode (zB 27) 35 = .ok (.aload_n 0, 1) := by decide +kernel
theorem d27_36 : decode (zB 27) 36 = .ok (.dup, 1) := by decide +kernel
theorem d27_37 : decode (zB 27) 37 = .ok (.getfield 20, 3) := by decide +kernel
theorem d27_40 : decode (zB 27) 40 = .ok (.iconst 1, 1) := by decide +kernel
theorem d27_41 : decode (zB 27) 41 = .ok (.iadd, 1) := by decide +kernel
theorem d27_42 : decode (zB 27) 42 = .ok (.putfield 20, 3) := by decide +kernel
theorem d27_45 : decode (zB 27) 45 = .ok (.aload_n 0, 1) := by decide +kernel
theorem d27_46 : decode (zB 27) 46 = .ok (.iload_n 1, 1) := by decide +kernel
theorem d27_47 : decode (zB 27) 47 = .ok (.iconst 1, 1) := by decide +kernel
theorem d27_48 : decode (zB 27) 48 = .ok (.iadd, 1) := by decide +kernel
theorem d27_49 : decode (zB 27) 49 = .ok (.invokevirtual 60, 3) := by decide +kernel
theorem d27_52 : decode (zB 27) 52 = .ok (.ifCond .eq 16, 3) := by decide +kernel
theorem d27_55 : decode (zB 27) 55 = .ok (.aload_n 0, 1) := by decide +kernel
theorem d27_56 : decode (zB 27) 56 = .ok (.bipush 93, 2) := by decide +kernel
theorem d27_58 : decode (zB 27) 58 = .ok (.invokevirtual 43, 3) := by decide +kernel
theorem d27_61 : decode (zB 27) 61 = .ok (.ifCond .eq 7, 3) := by decide +kernel
theorem d27_64 : decode (zB 27) 64 = .ok (.iconst 1, 1) := by decide +kernel
theorem d27_65 : decode (zB 27) 65 = .ok (.goto 4, 3) := by decide +kernel
theorem d27_68 : decode (zB 27) 68 = .ok (.iconst 0, 1) := by decide +kernel
theorem d27_69 : decode (zB 27) 69 = .ok (.ireturn, 1) := by decide +kernel
theorem d27_70 : decode (zB 27) 70 = .ok (.iload_n 2, 1) := by decide +kernel
theorem d27_71 : decode (zB 27) 71 = .ok (.iconst (-1), 1) := by decide +kernel
theorem d27_72 : decode (zB 27) 72 = .ok (.if_icmp .ne 7, 3) := by decide +kernel
theorem d27_75 : decode (zB 27) 75 = .ok (.iconst (-1), 1) := by decide +kernel
theorem d27_76 : decode (zB 27) 76 = .ok (.goto 10, 3) := by decide +kernel
theorem d27_79 : decode (zB 27) 79 = .ok (.ldc 102, 2) := by decide +kernel
theorem d27_81 : decode (zB 27) 81 = .ok (.iload_n 2, 1) := by decide +kernel
theorem d27_82 : decode (zB 27) 82 = .ok (.i2c, 1) := by decide +kernel
theorem d27_83 : decode (zB 27) 83 = .ok (.invokevirtual 104, 3) := by decide +kernel
theorem d27_86 : decode (zB 27) 86 = .ok (.istore_n 3, 1) := by decide +kernel
theorem d27_87 : decode (zB 27) 87 = .ok (.iload_n 3, 1) := by decide +kernel
theorem d27_88 : decode (zB 27) 88 = .ok (.ifCond .ge 9, 3) := by decide +kernel
theorem d27_91 : decode (zB 27) 91 = .ok (.aload_n 0, 1) := by decide +kernel
theorem d27_92 : decode (zB 27) 92 = .ok (.iconst 1, 1) := by decide +kernel
theorem d27_93 : decode (zB 27) 93 = .ok (.invokevirtual 54, 3) := by decide +kernel
theorem d27_96 : decode (zB 27) 96 = .ok (.ireturn, 1) := by decide +kernel
theorem d27_97 : decode (zB 27) 97 = .ok (.aload_n 0, 1) := by decide +kernel
theorem d27_98 : decode (zB 27) 98 = .ok (.dup, 1) := by decide +kernel
theorem d27_99 : decode (zB 27) 99 = .ok (.getfield 20, 3) := by decide +kernel
theorem d27_102 : decode (zB 27) 102 = .ok (.iconst 1, 1) := by decide +kernel
theorem d27_103 : decode (zB 27) 103 = .ok (.iadd, 1) := by decide +kernel
theorem d27_104 : decode (zB 27) 104 = .ok (.putfield 20, 3) := by decide +kernel
theorem d27_107 : decode (zB 27) 107 = .ok (.aload_n 0, 1) := by decide +kernel
theorem d27_108 : decode (zB 27) 108 = .ok (.getfield 10, 3) := by decide +kernel
theorem d27_111 : decode (zB 27) 111 = .ok (.bipush 120, 2) := by decide +kernel
theorem d27_113 : decode (zB 27) 113 = .ok (.iload_n 3, 1) := by decide +kernel
theorem d27_114 : decode (zB 27) 114 = .ok (.invokevirtual 87, 3) := by decide +kernel
theorem d27_117 : decode (zB 27) 117 = .ok (.pop, 1) := by decide +kernel
theorem d27_118 : decode (zB 27) 118 = .ok (.iconst 1, 1) := by decide +kernel
theorem d27_119 : decode (zB 27) 119 = .ok (.ireturn, 1) := by decide +kernel
theorem d28_0 : decode (zB 28) 0 = .ok (.iconst 0, 1) := by decide +kernel
theorem d28_1 : decode (zB 28) 1 = .ok (.istore_n 1, 1) := by decide +kernel
theorem d28_2 : decode (zB 28) 2 = .ok (.iconst 0, 1) := by decide +kernel
theorem d28_3 : decode (zB 28) 3 = .ok (.istore_n 2, 1) := by decide +kernel
theorem d28_4 : decode (zB 28) 4 = .ok (.iload_n 2, 1) := by decide +kernel
theorem d28_5 : decode (zB 28) 5 = .ok (.iconst 5, 1) := by decide +kernel
theorem d28_6 : decode (zB 28) 6 = .ok (.if_icmp .ge 42, 3) := by decide +kernel
theorem d28_9 : decode (zB 28) 9 = .ok (.aload_n 0, 1) := by decide +kernel
theorem d28_10 : decode (zB 28) 10 = .ok (.invokevirtual 50, 3) := by decide +kernel
theorem d28_13 : decode (zB 28) 13 = .ok (.invokestatic 96, 3) := by decide +kernel
theorem d28_16 : decode (zB 28) 16 = .ok (.ifCond .eq 32, 3) := by decide +kernel
theorem d28_19 : decode (zB 28) 19 = .ok (.bipush 10, 2) := by decide +kernel
theorem d28_21 : decode (zB 28) 21 = .ok (.iload_n 1, 1) := by decide +kernel
theorem d28_22 : decode (zB 28) 22 = .ok (.imul, 1) := by decide +kernel
theorem d28_23 : decode (zB 28) 23 = .ok (.aload_n 0, 1) := by decide +kernel
theorem d28_24 : decode (zB 28) 24 = .ok (.invokevirtual 50, 3) := by decide +kernel
theorem d28_27 : decode (zB 28) 27 = .ok (.iadd, 1) := by decide +kernel
theorem d28_28 : decode (zB 28) 28 = .ok (.bipush 48, 2) := by decide +kernel
theorem d28_30 : decode (zB 28) 30 = .ok (.isub, 1) := by decide +kernel
theorem d28_31 : decode (zB 28) 31 = .ok (.istore_n 1, 1) := by decide +kernel
theorem d28_32 : decode (zB 28) 32 = .ok (.aload_n 0, 1) := by decide +kernel
theorem d28_33 : decode (zB 28) 33 = .ok (.dup, 1) := by decide +kernel
theorem d28_34 : decode (zB 28) 34 = .ok (.getfield 20, 3) := by decide +kernel
theorem d28_37 : decode (zB 28) 37 = .ok (.iconst 1, 1) := by decide +kernel
theorem d28_38 : decode (zB 28) 38 = .ok (.iadd, 1) := by decide +kernel
theorem d28_39 : decode (zB 28) 39 = .ok (.putfield 20, 3) := by decide +kernel
theorem d28_42 : decode (zB 28) 42 = .ok (.iinc 2 1, 3) := by decide +kernel
theorem d28_45 : decode (zB 28) 45 = .ok (.goto (-41), 3) := by decide +kernel
theorem d28_48 : decode (zB 28) 48 = .ok (.aload_n 0, 1) := by decide +kernel
theorem d28_49 : decode (zB 28) 49 = .ok (.invokevirtual 50, 3) := by decide +kernel
theorem d28_52 : decode (zB 28) 52 = .ok (.invokestatic 96, 3) := by decide +kernel
theorem d28_55 : decode (zB 28) 55 = .ok (.ifCond .eq 9, 3) := by decide +kernel
theorem d28_58 : decode (zB 28) 58 = .ok (.aload_n 0, 1) := by decide +kernel
theorem d28_59 : decode (zB 28) 59 = .ok (.iconst 2, 1) := by decide +kernel
theorem d28_60 : decode (zB 28) 60 = .ok (.invokevirtual 54, 3) := by decide +kernel
theorem d28_63 : decode (zB 28) 63 = .ok (.ireturn, 1) := by decide +kernel
theorem d28_64 : decode (zB 28) 64 = .ok (.aload_n 0, 1) := by decide +kernel
theorem d28_65 : decode (zB 28) 65 = .ok (.getfield 10, 3) := by decide +kernel
theorem d28_68 : decode (zB 28) 68 = .ok (.bipush 35, 2) := by decide +kernel
theorem d28_70 : decode (zB 28) 70 = .ok (.iload_n 1, 1) := by decide +kernel
theorem d28_71 : decode (zB 28) 71 = .ok (.invokevirtual 87, 3) := by decide +kernel
theorem d28_74 : decode (zB 28) 74 = .ok (.pop, 1) := by decide +kernel
theorem d28_75 : decode (zB 28) 75 = .ok (.iconst 1, 1) := by decide +kernel
theorem d28_76 : decode (zB 28) 76 = .ok (.ireturn, 1) := by decide +kernel
theorem d29_0 : decode (zB 29) 0 = .ok (.aload_n 0, 1) := by decide +kernel
theorem d29_1 : decode (zB 29) 1 = .ok (.dup, 1) := by decide +kernel
theorem d29_2 : decode (zB 29) 2 = .ok (.getfield 20, 3) := by decide +kernel
theorem d29_5 : decode (zB 29) 5 = .ok (.iconst 1, 1) := by decide +kernel
theorem d29_6 : decode (zB 29) 6 = .ok (.iadd, 1) := by decide +kernel
theorem d29_7 : decode (zB 29) 7 = .ok (.putfield 20, 3) := by decide +kernel
theorem d29_10 : decode (zB 29) 10 = .ok (.aload_n 0, 1) := by decide +kernel
theorem d29_11 : decode (zB 29) 11 = .ok (.getfield 10, 3) := by decide +kernel
theorem d29_14 : decode (zB 29) 14 = .ok (.iload_n 1, 1) := by decide +kernel
theorem d29_15 : decode (zB 29) 15 = .ok (.iconst 0, 1) := by decide +kernel
theorem d29_16 : decode (zB 29) 16 = .ok (.invokevirtual 87, 3) := by decide +kernel
theorem d29_19 : decode (zB 29) 19 = .ok (.ireturn, 1) := by decide +kernel
theorem d30_0 : decode (zB 30) 0 = .ok (.aload_n 0, 1) := by decide +kernel
theorem d30_1 : decode (zB 30) 1 = .ok (.getfield 20, 3) := by decide +kernel
theorem d30_4 : decode (zB 30) 4 = .ok (.aload_n 0, 1) := by decide +kernel
theorem d30_5 : decode (zB 30) 5 = .ok (.getfield 16, 3) := by decide +kernel
theorem d30_8 : decode (zB 30) 8 = .ok (.if_icmp .ge 15, 3) := by decide +kernel
theorem d30_11 : decode (zB 30) 11 = .ok (.aload_n 0, 1) := by decide +kernel
theorem d30_12 : decode (zB 30) 12 = .ok (.getfield 26, 3) := by decide +kernel
theorem d30_15 : decode (zB 30) 15 = .ok (.aload_n 0, 1) := by decide +kernel
theorem d30_16 : decode (zB 30) 16 = .ok (.getfield 20, 3) := by decide +kernel
theorem d30_19 : decode (zB 30) 19 = .ok (.iaload, 1) := by decide +kernel
theorem d30_20 : decode (zB 30) 20 = .ok (.goto 4, 3) := by decide +kernel
theorem d30_23 : decode (zB 30) 23 = .ok (.iconst (-1), 1) := by decide +kernel
theorem d30_24 : decode (zB 30) 24 = .ok (.ireturn, 1) := by decide +kernel
theorem d31_0 : decode (zB 31) 0 = .ok (.aload_n 0, 1) := by decide +kernel
theorem d31_1 : decode (zB 31) 1 = .ok (.invokevirtual 50, 3) := by decide +kernel
theorem d31_4 : decode (zB 31) 4 = .ok (.iload_n 1, 1) := by decide +kernel
theorem d31_5 : decode (zB 31) 5 = .ok (.if_icmp .eq 9, 3) := by decide +kernel
theorem d31_8 : decode (zB 31) 8 = .ok (.aload_n 0, 1) := by decide +kernel
theorem d31_9 : decode (zB 31) 9 = .ok (.iconst 1, 1) := by decide +kernel
theorem d31_10 : decode (zB 31) 10 = .ok (.invokevirtual 54, 3) := by decide +kernel
theorem d31_13 : decode (zB 31) 13 = .ok (.ireturn, 1) := by decide +kernel
theorem d31_14 : decode (zB 31) 14 = .ok (.aload_n 0, 1) := by decide +kernel
theorem d31_15 : decode (zB 31) 15 = .ok (.dup, 1) := by decide +kernel
theorem d31_16 : decode (zB 31) 16 = .ok (.getfield 20, 3) := by decide +kernel
theorem d31_19 : decode (zB 31) 19 = .ok (.iconst 1, 1) := by decide +kernel
theorem d31_20 : decode (zB 31) 20 = .ok (.iadd, 1) := by decide +kernel
theorem d31_21 : decode (zB 31) 21 = .ok (.putfield 20, 3) := by decide +kernel
theorem d31_24 : decode (zB 31) 24 = .ok (.iconst 1, 1) := by decide +kernel
theorem d31_25 : decode (zB 31) 25 = .ok (.ireturn, 1) := by decide +kernel
theorem d32_0 : decode (zB 32) 0 = .ok (.aload_n 0, 1) := by decide +kernel
theorem d32_1 : decode (zB 32) 1 = .ok (.sipush (-1000), 3) := by decide +kernel
theorem d32_4 : decode (zB 32) 4 = .ok (.iload_n 1, 1) := by decide +kernel
theorem d32_5 : decode (zB 32) 5 = .ok (.imul, 1) := by decide +kernel
theorem d32_6 : decode (zB 32) 6 = .ok (.aload_n 0, 1) := by decide +kernel
theorem d32_7 : decode (zB 32) 7 = .ok (.getfield 20, 3) := by decide +kernel
theorem d32_10 : decode (zB 32) 10 = .ok (.isub, 1) := by decide +kernel
theorem d32_11 : decode (zB 32) 11 = .ok (.putfield 23, 3) := by decide +kernel
theorem d32_14 : decode (zB 32) 14 = .ok (.iconst 0, 1) := by decide +kernel
theorem d32_15 : decode (zB 32) 15 = .ok (.ireturn, 1) := by decide +kernel
theorem d33_0 : decode (zB 33) 0 = .ok (.iload_n 0, 1) := by decide +kernel
theorem d33_1 : decode (zB 33) 1 = .ok (.bipush 48, 2) := by decide +kernel
theorem d33_3 : decode (zB 33) 3 = .ok (.if_icmp .lt 13, 3) := by decide +kernel
theorem d33_6 : decode (zB 33) 6 = .ok (.iload_n 0, 1) := by decide +kernel
theorem d33_7 : decode (zB 33) 7 = .ok (.bipush 57, 2) := by decide +kernel
theorem d33_9 : decode (zB 33) 9 = .ok (.if_icmp .gt 7, 3) := by decide +kernel
theorem d33_12 : decode (zB 33) 12 = .ok (.iconst 1, 1) := by decide +kernel
theorem d33_13 : decode (zB 33) 13 = .ok (.goto 4, 3) := by decide +kernel
theorem d33_16 : decode (zB 33) 16 = .ok (.iconst 0, 1) := by decide +kernel
theorem d33_17 : decode (zB 33) 17 = .ok (.ireturn, 1) := by decide +kernel
theorem d34_0 : decode (zB 34) 0 = .ok (.aload_n 0, 1) := by decide +kernel
theorem d34_1 : decode (zB 34) 1 = .ok (.invokespecial 3, 3) := by decide +kernel
theorem d34_4 : decode (zB 34) 4 = .ok (.aload_n 0, 1) := by decide +kernel
theorem d34_5 : decode (zB 34) 5 = .ok (.bipush 20, 2) := by decide +kernel
theorem d34_7 : decode (zB 34) 7 = .ok (.newarray .int, 2) := by decide +kernel
theorem d34_9 : decode (zB 34) 9 = .ok (.putfield 9, 3) := by decide +kernel
theorem d34_12 : decode (zB 34) 12 = .ok (.aload_n 0, 1) := by decide +kernel
theorem d34_13 : decode (zB 34) 13 = .ok (.iconst 0, 1) := by decide +kernel
theorem d34_14 : decode (zB 34) 14 = .ok (.putfield 15, 3) := by decide +kernel
theorem d34_17 : decode (zB 34) 17 = .ok (.aload_n 0, 1) := by decide +kernel
theorem d34_18 : decode (zB 34) 18 = .ok (.aload_n 1, 1) := by decide +kernel
theorem d34_19 : decode (zB 34) 19 = .ok (.putfield 19, 3) := by decide +kernel
theorem d34_22 : decode (zB 34) 22 = .ok (.aload_n 0, 1) := by decide +kernel
theorem d34_23 : decode (zB 34) 23 = .ok (.aload_n 2, 1) := by decide +kernel
theorem d34_24 : decode (zB 34) 24 = .ok (.putfield 23, 3) := by decide +kernel
theorem d34_27 : decode (zB 34) 27 = .ok (.return_, 1) := by decide +kernel
theorem d35_0 : decode (zB 35) 0 = .ok (.iconst 1, 1) := by decide +kernel
theorem d35_1 : decode (zB 35) 1 = .ok (.istore_n 1, 1) := by decide +kernel
theorem d35_2 : decode (zB 35) 2 = .ok (.aload_n 0, 1) := by decide +kernel
theorem d35_3 : decode (zB 35) 3 = .ok (.iconst 0, 1) := by decide +kernel
theorem d35_4 : decode (zB 35) 4 = .ok (.putfield 15, 3) := by decide +kernel
theorem d35_7 : decode (zB 35) 7 = .ok (.aload_n 0, 1) := by decide +kernel
theorem d35_8 : decode (zB 35) 8 = .ok (.getfield 15, 3) := by decide +kernel
theorem d35_11 : decode (zB 35) 11 = .ok (.iconst 5, 1) := by decide +kernel
theorem d35_12 : decode (zB 35) 12 = .ok (.if_icmp .gt 39, 3) := by decide +kernel
theorem d35_15 : decode (zB 35) 15 = .ok (.aload_n 0, 1) := by decide +kernel
theorem d35_16 : decode (zB 35) 16 = .ok (.iload_n 1, 1) := by decide +kernel
theorem d35_17 : decode (zB 35) 17 = .ok (.invokevirtual 27, 3) := by decide +kernel
theorem d35_20 : decode (zB 35) 20 = .ok (.ifCond .eq 8, 3) := by decide +kernel
theorem d35_23 : decode (zB 35) 23 = .ok (.aload_n 0, 1) := by decide +kernel
theorem d35_24 : decode (zB 35) 24 = .ok (.getfield 15, 3) := by decide +kernel
theorem d35_27 : decode (zB 35) 27 = .ok (.ireturn, 1) := by decide +kernel
theorem d35_28 : decode (zB 35) 28 = .ok (.iload_n 1, 1) := by decide +kernel
theorem d35_29 : decode (zB 35) 29 = .ok (.aload_n 0, 1) := by decide +kernel
theorem d35_30 : decode (zB 35) 30 = .ok (.getfield 19, 3) := by decide +kernel
theorem d35_33 : decode (zB 35) 33 = .ok (.getfield 31, 3) := by decide +kernel
theorem d35_36 : decode (zB 35) 36 = .ok (.imul, 1) := by decide +kernel
theorem d35_37 : decode (zB 35) 37 = .ok (.istore_n 1, 1) := by decide +kernel
theorem d35_38 : decode (zB 35) 38 = .ok (.aload_n 0, 1) := by decide +kernel
theorem d35_39 : decode (zB 35) 39 = .ok (.dup, 1) := by decide +kernel
theorem d35_40 : decode (zB 35) 40 = .ok (.getfield 15, 3) := by decide +kernel
theorem d35_43 : decode (zB 35) 43 = .ok (.iconst 1, 1) := by decide +kernel
theorem d35_44 : decode (zB 35) 44 = .ok (.iadd, 1) := by decide +kernel
theorem d35_45 : decode (zB 35) 45 = .ok (.putfield 15, 3) := by decide +kernel
theorem d35_48 : decode (zB 35) 48 = .ok (.goto (-41), 3) := by decide +kernel
theorem d35_51 : decode (zB 35) 51 = .ok (.bipush (-2), 2) := by decide +kernel
theorem d35_53 : decode (zB 35) 53 = .ok (.ireturn, 1) := by decide +kernel
theorem d36_0 : decode (zB 36) 0 = .ok (.iconst 0, 1) := by decide +kernel
theorem d36_1 : decode (zB 36) 1 = .ok (.istore_n 2, 1) := by decide +kernel
theorem d36_2 : decode (zB 36) 2 = .ok (.iconst 0, 1) := by decide +kernel
theorem d36_3 : decode (zB 36) 3 = .ok (.istore_n 3, 1) := by decide +kernel
theorem d36_4 : decode (zB 36) 4 = .ok (.iload_n 3, 1) := by decide +kernel
theorem d36_5 : decode (zB 36) 5 = .ok (.iload_n 1, 1) := by decide +kernel
theorem d36_6 : decode (zB 36) 6 = .ok (.if_icmp .ge 103, 3) := by decide +kernel
theorem d36_9 : decode (zB 36) 9 = .ok (.iload_n 2, 1) := by decide +kernel
theorem d36_10 : decode (zB 36) 10 = .ok (.aload_n 0, 1) := by decide +kernel
theorem d36_11 : decode (zB 36) 11 = .ok (.getfield 23, 3) := by decide +kernel
theorem d36_14 : decode (zB 36) 14 = .ok (.getfield 36, 3) := by decide +kernel
theorem d36_17 : decode (zB 36) 17 = .ok (.if_icmp .ge 92, 3) := by decide +kernel
theorem d36_20 : decode (zB 36) 20 = .ok (.aload_n 0, 1) := by decide +kernel
theorem d36_21 : decode (zB 36) 21 = .ok (.iload_n 3, 1) := by decide +kernel
theorem d36_22 : decode (zB 36) 22 = .ok (.invokevirtual 41, 3) := by decide +kernel
theorem d36_25 : decode (zB 36) 25 = .ok (.iconst 1, 1) := by decide +kernel
theorem d36_26 : decode (zB 36) 26 = .ok (.iand, 1) := by decide +kernel
theorem d36_27 : decode (zB 36) 27 = .ok (.ifCond .ne 7, 3) := by decide +kernel
theorem d36_30 : decode (zB 36) 30 = .ok (.iconst 1, 1) := by decide +kernel
theorem d36_31 : decode (zB 36) 31 = .ok (.goto 4, 3) := by decide +kernel
theorem d36_34 : decode (zB 36) 34 = .ok (.iconst 0, 1) := by decide +kernel
theorem d36_35 : decode (zB 36) 35 = .ok (.istore 4, 2) := by decide +kernel
theorem d36_37 : decode (zB 36) 37 = .ok (.aload_n 0, 1) := by decide +kernel
theorem d36_38 : decode (zB 36) 38 = .ok (.getfield 9, 3) := by decide +kernel
theorem d36_41 : decode (zB 36) 41 = .ok (.aload_n 0, 1) := by decide +kernel
theorem d36_42 : decode (zB 36) 42 = .ok (.getfield 23, 3) := by decide +kernel
theorem d36_45 : decode (zB 36) 45 = .ok (.getfield 45, 3) := by decide +kernel
theorem d36_48 : decode (zB 36) 48 = .ok (.iload_n 2, 1) := by decide +kernel
theorem d36_49 : decode (zB 36) 49 = .ok (.iaload, 1) := by decide +kernel
theorem d36_50 : decode (zB 36) 50 = .ok (.iload_n 3, 1) := by decide +kernel
theorem d36_51 : decode (zB 36) 51 = .ok (.iastore, 1) := by decide +kernel
theorem d36_52 : decode (zB 36) 52 = .ok (.iinc 2 1, 3) := by decide +kernel
theorem d36_55 : decode (zB 36) 55 = .ok (.iload_n 2, 1) := by decide +kernel
theorem d36_56 : decode (zB 36) 56 = .ok (.aload_n 0, 1) := by decide +kernel
theorem d36_57 : decode (zB 36) 57 = .ok (.getfield 23, 3) := by decide +kernel
theorem d36_60 : decode (zB 36) 60 = .ok (.getfield 36, 3) := by decide +kernel
theorem d36_63 : decode (zB 36) 63 = .ok (.if_icmp .ge 40, 3) := by decide +kernel
theorem d36_66 : decode (zB 36) 66 = .ok (.aload_n 0, 1) := by decide +kernel
theorem d36_67 : decode (zB 36) 67 = .ok (.getfield 23, 3) := by decide +kernel
theorem d36_70 : decode (zB 36) 70 = .ok (.iload_n 2, 1) := by decide +kernel
theorem d36_71 : decode (zB 36) 71 = .ok (.iconst 1, 1) := by decide +kernel
theorem d36_72 : decode (zB 36) 72 = .ok (.isub, 1) := by decide +kernel
theorem d36_73 : decode (zB 36) 73 = .ok (.iload_n 2, 1) := by decide +kernel
theorem d36_74 : decode (zB 36) 74 = .ok (.iload 4, 2) := by decide +kernel
theorem d36_76 : decode (zB 36) 76 = .ok (.invokevirtual 48, 3) := by decide +kernel
theorem d36_79 : decode (zB 36) 79 = .ok (.ifCond .eq 24, 3) := by decide +kernel
theorem d36_82 : decode (zB 36) 82 = .ok (.aload_n 0, 1) := by decide +kernel
theorem d36_83 : decode (zB 36) 83 = .ok (.getfield 9, 3) := by decide +kernel
theorem d36_86 : decode (zB 36) 86 = .ok (.aload_n 0, 1) := by decide +kernel
theorem d36_87 : decode (zB 36) 87 = .ok (.getfield 23, 3) := by decide +kernel
theorem d36_90 : decode (zB 36) 90 = .ok (.getfield 45, 3) := by decide +kernel
theorem d36_93 : decode (zB 36) 93 = .ok (.iload_n 2, 1) := by decide +kernel
theorem d36_94 : decode (zB 36) 94 = .ok (.iaload, 1) := by decide +kernel
theorem d36_95 : decode (zB 36) 95 = .ok (.iload_n 3, 1) := by decide +kernel
theorem d36_96 : decode (zB 36) 96 = .ok (.iastore, 1) := by decide +kernel
theorem d36_97 : decode (zB 36) 97 = .ok (.iinc 2 1, 3) := by decide +kernel
theorem d36_100 : decode (zB 36) 100 = .ok (.goto (-45), 3) := by decide +kernel
theorem d36_103 : decode (zB 36) 103 = .ok (.iinc 3 1, 3) := by decide +kernel
theorem d36_106 : decode (zB 36) 106 = .ok (.goto (-102), 3) := by decide +kernel
theorem d36_109 : decode (zB 36) 109 = .ok (.iload_n 2, 1) := by decide +kernel
theorem d36_110 : decode (zB 36) 110 = .ok (.aload_n 0, 1) := by decide +kernel
theorem d36_111 : decode (zB 36) 111 = .ok (.getfield 23, 3) := by decide +kernel
theorem d36_114 : decode (zB 36) 114 = .ok (.getfield 36, 3) := by decide +kernel
theorem d36_117 : decode (zB 36) 117 = .ok (.if_icmp .lt 7, 3) := by decide +kernel
theorem d36_120 : decode (zB 36) 120 = .ok (.iconst 1, 1) := by decide +kernel
theorem d36_121 : decode (zB 36) 121 = .ok (.goto 4, 3) := by decide +kernel
theorem d36_124 : decode (zB 36) 124 = .ok (.iconst 0, 1) := by decide +kernel
theorem d36_125 : decode (zB 36) 125 = .ok (.ireturn, 1) := by decide +kernel
theorem d37_0 : decode (zB 37) 0 = .ok (.iconst 0, 1) := by decide +kernel
theorem d37_1 : decode (zB 37) 1 = .ok (.istore_n 2, 1) := by decide +kernel
theorem d37_2 : decode (zB 37) 2 = .ok (.iconst 0, 1) := by decide +kernel
theorem d37_3 : decode (zB 37) 3 = .ok (.istore_n 3, 1) := by decide +kernel
theorem d37_4 : decode (zB 37) 4 = .ok (.iload_n 3, 1) := by decide +kernel
theorem d37_5 : decode (zB 37) 5 = .ok (.aload_n 0, 1) := by decide +kernel
theorem d37_6 : decode (zB 37) 6 = .ok (.getfield 15, 3) := by decide +kernel
theorem d37_9 : decode (zB 37) 9 = .ok (.if_icmp .ge 33, 3) := by decide +kernel
theorem d37_12 : decode (zB 37) 12 = .ok (.iload_n 2, 1) := by decide +kernel
theorem d37_13 : decode (zB 37) 13 = .ok (.aload_n 0, 1) := by decide +kernel
theorem d37_14 : decode (zB 37) 14 = .ok (.getfield 19, 3) := by decide +kernel
theorem d37_17 : decode (zB 37) 17 = .ok (.aload_n 0, 1) := by decide +kernel
theorem d37_18 : decode (zB 37) 18 = .ok (.iload_n 1, 1) := by decide +kernel
theorem d37_19 : decode (zB 37) 19 = .ok (.iload_n 3, 1) := by decide +kernel
theorem d37_20 : decode (zB 37) 20 = .ok (.invokevirtual 52, 3) := by decide +kernel
theorem d37_23 : decode (zB 37) 23 = .ok (.invokevirtual 56, 3) := by decide +kernel
theorem d37_26 : decode (zB 37) 26 = .ok (.ifCond .eq 7, 3) := by decide +kernel
theorem d37_29 : decode (zB 37) 29 = .ok (.iconst 1, 1) := by decide +kernel
theorem d37_30 : decode (zB 37) 30 = .ok (.goto 4, 3) := by decide +kernel
theorem d37_33 : decode (zB 37) 33 = .ok (.iconst 0, 1) := by decide +kernel
theorem d37_34 : decode (zB 37) 34 = .ok (.iadd, 1) := by decide +kernel
theorem d37_35 : decode (zB 37) 35 = .ok (.istore_n 2, 1) := by decide +kernel
theorem d37_36 : decode (zB 37) 36 = .ok (.iinc 3 1, 3) := by decide +kernel
theorem d37_39 : decode (zB 37) 39 = .ok (.goto (-35), 3) := by decide +kernel
theorem d37_42 : decode (zB 37) 42 = .ok (.iload_n 2, 1) := by decide +kernel
theorem d37_43 : decode (zB 37) 43 = .ok (.ireturn, 1) := by decide +kernel
theorem d38_0 : decode (zB 38) 0 = .ok (.aload_n 0, 1) := by decide +kernel
theorem d38_1 : decode (zB 38) 1 = .ok (.aload_n 0, 1) := by decide +kernel
theorem d38_2 : decode (zB 38) 2 = .ok (.getfield 9, 3) := by decide +kernel
theorem d38_5 : decode (zB 38) 5 = .ok (.iload_n 1, 1) := by decide +kernel
theorem d38_6 : decode (zB 38) 6 = .ok (.iaload, 1) := by decide +kernel
theorem d38_7 : decode (zB 38) 7 = .ok (.iload_n 2, 1) := by decide +kernel
theorem d38_8 : decode (zB 38) 8 = .ok (.invokevirtual 52, 3) := by decide +kernel
theorem d38_11 : decode (zB 38) 11 = .ok (.ireturn, 1) := by decide +kernel
theorem d39_0 : decode (zB 39) 0 = .ok (.iconst 1, 1) := by decide +kernel
theorem d39_1 : decode (zB 39) 1 = .ok (.istore_n 3, 1) := by decide +kernel
theorem d39_2 : decode (zB 39) 2 = .ok (.iconst 1, 1) := by decide +kernel
theorem d39_3 : decode (zB 39) 3 = .ok (.istore 4, 2) := by decide +kernel
theorem d39_5 : decode (zB 39) 5 = .ok (.iload 4, 2) := by decide +kernel
theorem d39_7 : decode (zB 39) 7 = .ok (.aload_n 0, 1) := by decide +kernel
theorem d39_8 : decode (zB 39) 8 = .ok (.getfield 15, 3) := by decide +kernel
theorem d39_11 : decode (zB 39) 11 = .ok (.if_icmp .ge 23, 3) := by decide +kernel
theorem d39_14 : decode (zB 39) 14 = .ok (.iload_n 3, 1) := by decide +kernel
theorem d39_15 : decode (zB 39) 15 = .ok (.iconst 1, 1) := by decide +kernel
theorem d39_16 : decode (zB 39) 16 = .ok (.aload_n 0, 1) := by decide +kernel
theorem d39_17 : decode (zB 39) 17 = .ok (.getfield 19, 3) := by decide +kernel
theorem d39_20 : decode (zB 39) 20 = .ok (.getfield 31, 3) := by decide +kernel
theorem d39_23 : decode (zB 39) 23 = .ok (.invokestatic 59, 3) := by decide +kernel
theorem d39_26 : decode (zB 39) 26 = .ok (.imul, 1) := by decide +kernel
theorem d39_27 : decode (zB 39) 27 = .ok (.istore_n 3, 1) := by decide +kernel
theorem d39_28 : decode (zB 39) 28 = .ok (.iinc 4 1, 3) := by decide +kernel
theorem d39_31 : decode (zB 39) 31 = .ok (.goto (-26), 3) := by decide +kernel
theorem d39_34 : decode (zB 39) 34 = .ok (.iconst 0, 1) := by decide +kernel
theorem d39_35 : decode (zB 39) 35 = .ok (.istore 4, 2) := by decide +kernel
theorem d39_37 : decode (zB 39) 37 = .ok (.iload_n 1, 1) := by decide +kernel
theorem d39_38 : decode (zB 39) 38 = .ok (.istore 5, 2) := by decide +kernel
theorem d39_40 : decode (zB 39) 40 = .ok (.aload_n 0, 1) := by decide +kernel
theorem d39_41 : decode (zB 39) 41 = .ok (.getfield 15, 3) := by decide +kernel
theorem d39_44 : decode (zB 39) 44 = .ok (.iconst 1, 1) := by decide +kernel
theorem d39_45 : decode (zB 39) 45 = .ok (.isub, 1) := by decide +kernel
theorem d39_46 : decode (zB 39) 46 = .ok (.istore 6, 2) := by decide +kernel
theorem d39_48 : decode (zB 39) 48 = .ok (.iload 6, 2) := by decide +kernel
theorem d39_50 : decode (zB 39) 50 = .ok (.iload_n 2, 1) := by decide +kernel
theorem d39_51 : decode (zB 39) 51 = .ok (.if_icmp .lt 60, 3) := by decide +kernel
theorem d39_54 : decode (zB 39) 54 = .ok (.iload_n 3, 1) := by decide +kernel
theorem d39_55 : decode (zB 39) 55 = .ok (.iconst 1, 1) := by decide +kernel
theorem d39_56 : decode (zB 39) 56 = .ok (.if_icmp .lt 55, 3) := by decide +kernel
theorem d39_59 : decode (zB 39) 59 = .ok (.iload 5, 2) := by decide +kernel
theorem d39_61 : decode (zB 39) 61 = .ok (.iload_n 3, 1) := by decide +kernel
theorem d39_62 : decode (zB 39) 62 = .ok (.idiv, 1) := by decide +kernel
theorem d39_63 : decode (zB 39) 63 = .ok (.istore 4, 2) := by decide +kernel
theorem d39_65 : decode (zB 39) 65 = .ok (.iload 5, 2) := by decide +kernel
theorem d39_67 : decode (zB 39) 67 = .ok (.iload_n 3, 1) := by decide +kernel
theorem d39_68 : decode (zB 39) 68 = .ok (.irem, 1) := by decide +kernel
theorem d39_69 : decode (zB 39) 69 = .ok (.istore 5, 2) := by decide +kernel
theorem d39_71 : decode (zB 39) 71 = .ok (.aload_n 0, 1) := by decide +kernel
theorem d39_72 : decode (zB 39) 72 = .ok (.getfield 19, 3) := by decide +kernel
theorem d39_75 : decode (zB 39) 75 = .ok (.iload 4, 2) := by decide +kernel
theorem d39_77 : decode (zB 39) 77 = .ok (.invokevirtual 56, 3) := by decide +kernel
theorem d39_80 : decode (zB 39) 80 = .ok (.ifCond .eq 11, 3) := by decide +kernel
theorem d39_83 : decode (zB 39) 83 = .ok (.iload_n 3, 1) := by decide +kernel
theorem d39_84 : decode (zB 39) 84 = .ok (.iconst 1, 1) := by decide +kernel
theorem d39_85 : decode (zB 39) 85 = .ok (.isub, 1) := by decide +kernel
theorem d39_86 : decode (zB 39) 86 = .ok (.iload 5, 2) := by decide +kernel
theorem d39_88 : decode (zB 39) 88 = .ok (.isub, 1) := by decide +kernel
theorem d39_89 : decode (zB 39) 89 = .ok (.istore 5, 2) := by decide +kernel
theorem d39_91 : decode (zB 39) 91 = .ok (.iload_n 3, 1) := by decide +kernel
theorem d39_92 : decode (zB 39) 92 = .ok (.iconst 1, 1) := by decide +kernel
theorem d39_93 : decode (zB 39) 93 = .ok (.aload_n 0, 1) := by decide +kernel
theorem d39_94 : decode (zB 39) 94 = .ok (.getfield 19, 3) := by decide +kernel
theorem d39_97 : decode (zB 39) 97 = .ok (.getfield 31, 3) := by decide +kernel
theorem d39_100 : decode (zB 39) 100 = .ok (.invokestatic 59, 3) := by decide +kernel
theorem d39_103 : decode (zB 39) 103 = .ok (.idiv, 1) := by decide +kernel
theorem d39_104 : decode (zB 39) 104 = .ok (.istore_n 3, 1) := by decide +kernel
theorem d39_105 : decode (zB 39) 105 = .ok (.iinc 6 (-1), 3) := by decide +kernel
theorem d39_108 : decode (zB 39) 108 = .ok (.goto (-60), 3) := by decide +kernel
theorem d39_111 : decode (zB 39) 111 = .ok (.iload 4, 2) := by decide +kernel
theorem d39_113 : decode (zB 39) 113 = .ok (.ireturn, 1) := by decide +kernel
theorem d40_0 : decode (zB 40) 0 = .ok (.aload_n 0, 1) := by decide +kernel
theorem d40_1 : decode (zB 40) 1 = .ok (.invokespecial 3, 3) := by decide +kernel
theorem d40_4 : decode (zB 40) 4 = .ok (.aload_n 0, 1) := by decide +kernel
theorem d40_5 : decode (zB 40) 5 = .ok (.bipush 9, 2) := by decide +kernel
theorem d40_7 : decode (zB 40) 7 = .ok (.putfield 9, 3) := by decide +kernel
theorem d40_10 : decode (zB 40) 10 = .ok (.aload_n 0, 1) := by decide +kernel
theorem d40_11 : decode (zB 40) 11 = .ok (.iconst 0, 1) := by decide +kernel
theorem d40_12 : decode (zB 40) 12 = .ok (.putfield 15, 3) := by decide +kernel
theorem d40_15 : decode (zB 40) 15 = .ok (.aload_n 0, 1) := by decide +kernel
theorem d40_16 : decode (zB 40) 16 = .ok (.bipush 10, 2) := by decide +kernel
theorem d40_18 : decode (zB 40) 18 = .ok (.newarray .int, 2) := by decide +kernel
theorem d40_20 : decode (zB 40) 20 = .ok (.putfield 18, 3) := by decide +kernel
theorem d40_23 : decode (zB 40) 23 = .ok (.aload_n 0, 1) := by decide +kernel
theorem d40_24 : decode (zB 40) 24 = .ok (.bipush 32, 2) := by decide +kernel
theorem d40_26 : decode (zB 40) 26 = .ok (.newarray .int, 2) := by decide +kernel
theorem d40_28 : decode (zB 40) 28 = .ok (.putfield 22, 3) := by decide +kernel
theorem d40_31 : decode (zB 40) 31 = .ok (.return_, 1) := by decide +kernel
theorem d41_0 : decode (zB 41) 0 = .ok (.iload_n 1, 1) := by decide +kernel
theorem d41_1 : decode (zB 41) 1 = .ok (.ifCond .lt 18, 3) := by decide +kernel
theorem d41_4 : decode (zB 41) 4 = .ok (.aload_n 0, 1) := by decide +kernel
theorem d41_5 : decode (zB 41) 5 = .ok (.getfield 15, 3) := by decide +kernel
theorem d41_8 : decode (zB 41) 8 = .ok (.iload_n 1, 1) := by decide +kernel
theorem d41_9 : decode (zB 41) 9 = .ok (.ishr, 1) := by decide +kernel
theorem d41_10 : decode (zB 41) 10 = .ok (.iconst 1, 1) := by decide +kernel
theorem d41_11 : decode (zB 41) 11 = .ok (.iand, 1) := by decide +kernel
theorem d41_12 : decode (zB 41) 12 = .ok (.ifCond .eq 7, 3) := by decide +kernel
theorem d41_15 : decode (zB 41) 15 = .ok (.iconst 1, 1) := by decide +kernel
theorem d41_16 : decode (zB 41) 16 = .ok (.goto 4, 3) := by decide +kernel
theorem d41_19 : decode (zB 41) 19 = .ok (.iconst 0, 1) := by decide +kernel
theorem d41_20 : decode (zB 41) 20 = .ok (.ireturn, 1) := by decide +kernel
theorem d42_0 : decode (zB 42) 0 = .ok (.aload_n 0, 1) := by decide +kernel
theorem d42_1 : decode (zB 42) 1 = .ok (.getfield 18, 3) := by decide +kernel
theorem d42_4 : decode (zB 42) 4 = .ok (.iconst 0, 1) := by decide +kernel
theorem d42_5 : decode (zB 42) 5 = .ok (.invokestatic 25, 3) := by decide +kernel
theorem d42_8 : decode (zB 42) 8 = .ok (.iconst 0, 1) := by decide +kernel
theorem d42_9 : decode (zB 42) 9 = .ok (.istore_n 3, 1) := by decide +kernel
theorem d42_10 : decode (zB 42) 10 = .ok (.iload_n 3, 1) := by decide +kernel
theorem d42_11 : decode (zB 42) 11 = .ok (.aload_n 1, 1) := by decide +kernel
theorem d42_12 : decode (zB 42) 12 = .ok (.getfield 31, 3) := by decide +kernel
theorem d42_15 : decode (zB 42) 15 = .ok (.if_icmp .ge 23, 3) := by decide +kernel
theorem d42_18 : decode (zB 42) 18 = .ok (.aload_n 0, 1) := by decide +kernel
theorem d42_19 : decode (zB 42) 19 = .ok (.getfield 18, 3) := by decide +kernel
theorem d42_22 : decode (zB 42) 22 = .ok (.aload_n 2, 1) := by decide +kernel
theorem d42_23 : decode (zB 42) 23 = .ok (.iload_n 3, 1) := by decide +kernel
theorem d42_24 : decode (zB 42) 24 = .ok (.iaload, 1) := by decide +kernel
theorem d42_25 : decode (zB 42) 25 = .ok (.iconst 1, 1) := by decide +kernel
theorem d42_26 : decode (zB 42) 26 = .ok (.iadd, 1) := by decide +kernel
theorem d42_27 : decode (zB 42) 27 = .ok (.dup2, 1) := by decide +kernel
theorem d42_28 : decode (zB 42) 28 = .ok (.iaload, 1) := by decide +kernel
theorem d42_29 : decode (zB 42) 29 = .ok (.iconst 1, 1) := by decide +kernel
theorem d42_30 : decode (zB 42) 30 = .ok (.iadd, 1) := by decide +kernel
theorem d42_31 : decode (zB 42) 31 = .ok (.iastore, 1) := by decide +kernel
theorem d42_32 : decode (zB 42) 32 = .ok (.iinc 3 1, 3) := by decide +kernel
theorem d42_35 : decode (zB 42) 35 = .ok (.goto (-25), 3) := by decide +kernel
theorem d42_38 : decode (zB 42) 38 = .ok (.iconst 0, 1) := by decide +kernel
theorem d42_39 : decode (zB 42) 39 = .ok (.istore_n 3, 1) := by decide +kernel
theorem d42_40 : decode (zB 42) 40 = .ok (.iconst (-1), 1) := by decide +kernel
theorem d42_41 : decode (zB 42) 41 = .ok (.istore 4, 2) := by decide +kernel
theorem d42_43 : decode (zB 42) 43 = .ok (.iload 4, 2) := by decide +kernel
theorem d42_45 : decode (zB 42) 45 = .ok (.aload_n 0, 1) := by decide +kernel
theorem d42_46 : decode (zB 42) 46 = .ok (.getfield 9, 3) := by decide +kernel
theorem d42_49 : decode (zB 42) 49 = .ok (.if_icmp .ge 53, 3) := by decide +kernel
theorem d42_52 : decode (zB 42) 52 = .ok (.aload_n 0, 1) := by decide +kernel
theorem d42_53 : decode (zB 42) 53 = .ok (.getfield 18, 3) := by decide +kernel
theorem d42_56 : decode (zB 42) 56 = .ok (.iload 4, 2) := by decide +kernel
theorem d42_58 : decode (zB 42) 58 = .ok (.iconst 1, 1) := by decide +kernel
theorem d42_59 : decode (zB 42) 59 = .ok (.iadd, 1) := by decide +kernel
theorem d42_60 : decode (zB 42) 60 = .ok (.iaload, 1) := by decide +kernel
theorem d42_61 : decode (zB 42) 61 = .ok (.istore 5, 2) := by decide +kernel
theorem d42_63 : decode (zB 42) 63 = .ok (.aload_n 0, 1) := by decide +kernel
theorem d42_64 : decode (zB 42) 64 = .ok (.getfield 18, 3) := by decide +kernel
theorem d42_67 : decode (zB 42) 67 = .ok (.iload 4, 2) := by decide +kernel
theorem d42_69 : decode (zB 42) 69 = .ok (.iconst 1, 1) := by decide +kernel
theorem d42_70 : decode (zB 42) 70 = .ok (.iadd, 1) := by decide +kernel
theorem d42_71 : decode (zB 42) 71 = .ok (.aload_n 0, 1) := by decide +kernel
theorem d42_72 : decode (zB 42) 72 = .ok (.iload 4, 2) := by decide +kernel
theorem d42_74 : decode (zB 42) 74 = .ok (.invokevirtual 36, 3) := by decide +kernel
theorem d42_77 : decode (zB 42) 77 = .ok (.ifCond .eq 12, 3) := by decide +kernel
theorem d42_80 : decode (zB 42) 80 = .ok (.iload_n 3, 1) := by decide +kernel
theorem d42_81 : decode (zB 42) 81 = .ok (.iload 5, 2) := by decide +kernel
theorem d42_83 : decode (zB 42) 83 = .ok (.iadd, 1) := by decide +kernel
theorem d42_84 : decode (zB 42) 84 = .ok (.iconst 1, 1) := by decide +kernel
theorem d42_85 : decode (zB 42) 85 = .ok (.isub, 1) := by decide +kernel
theorem d42_86 : decode (zB 42) 86 = .ok (.goto 4, 3) := by decide +kernel
theorem d42_89 : decode (zB 42) 89 = .ok (.iload_n 3, 1) := by decide +kernel
theorem d42_90 : decode (zB 42) 90 = .ok (.iastore, 1) := by decide +kernel
theorem d42_91 : decode (zB 42) 91 = .ok (.iload_n 3, 1) := by decide +kernel
theorem d42_92 : decode (zB 42) 92 = .ok (.iload 5, 2) := by decide +kernel
theorem d42_94 : decode (zB 42) 94 = .ok (.iadd, 1) := by decide +kernel
theorem d42_95 : decode (zB 42) 95 = .ok (.istore_n 3, 1) := by decide +kernel
theorem d42_96 : decode (zB 42) 96 = .ok (.iinc 4 1, 3) := by decide +kernel
theorem d42_99 : decode (zB 42) 99 = .ok (.goto (-56), 3) := by decide +kernel
theorem d42_102 : decode (zB 42) 102 = .ok (.iconst 0, 1) := by decide +kernel
theorem d42_103 : decode (zB 42) 103 = .ok (.istore 4, 2) := by decide +kernel
theorem d42_105 : decode (zB 42) 105 = .ok (.iload 4, 2) := by decide +kernel
theorem d42_107 : decode (zB 42) 107 = .ok (.aload_n 1, 1) := by decide +kernel
theorem d42_108 : decode (zB 42) 108 = .ok (.getfield 31, 3) := by decide +kernel
theorem d42_111 : decode (zB 42) 111 = .ok (.if_icmp .ge 62, 3) := by decide +kernel
theorem d42_114 : decode (zB 42) 114 = .ok (.aload_n 2, 1) := by decide +kernel
theorem d42_115 : decode (zB 42) 115 = .ok (.iload 4, 2) := by decide +kernel
theorem d42_117 : decode (zB 42) 117 = .ok (.iaload, 1) := by decide +kernel
theorem d42_118 : decode (zB 42) 118 = .ok (.istore 5, 2) := by decide +kernel
theorem d42_120 : decode (zB 42) 120 = .ok (.aload_n 0, 1) := by decide +kernel
theorem d42_121 : decode (zB 42) 121 = .ok (.getfield 22, 3) := by decide +kernel
theorem d42_124 : decode (zB 42) 124 = .ok (.aload_n 0, 1) := by decide +kernel
theorem d42_125 : decode (zB 42) 125 = .ok (.getfield 18, 3) := by decide +kernel
theorem d42_128 : decode (zB 42) 128 = .ok (.iload 5, 2) := by decide +kernel
theorem d42_130 : decode (zB 42) 130 = .ok (.iconst 1, 1) := by decide +kernel
theorem d42_131 : decode (zB 42) 131 = .ok (.iadd, 1) := by decide +kernel
theorem d42_132 : decode (zB 42) 132 = .ok (.iaload, 1) := by decide +kernel
theorem d42_133 : decode (zB 42) 133 = .ok (.aload_n 1, 1) := by decide +kernel
theorem d42_134 : decode (zB 42) 134 = .ok (.getfield 40, 3) := by decide +kernel
theorem d42_137 : decode (zB 42) 137 = .ok (.iload 4, 2) := by decide +kernel
theorem d42_139 : decode (zB 42) 139 = .ok (.iaload, 1) := by decide +kernel
theorem d42_140 : decode (zB 42) 140 = .ok (.iastore, 1) := by decide +kernel
theorem d42_141 : decode (zB 42) 141 = .ok (.aload_n 0, 1) := by decide +kernel
theorem d42_142 : decode (zB 42) 142 = .ok (.getfield 18, 3) := by decide +kernel
theorem d42_145 : decode (zB 42) 145 = .ok (.iload 5, 2) := by decide +kernel
theorem d42_147 : decode (zB 42) 147 = .ok (.iconst 1, 1) := by decide +kernel
theorem d42_148 : decode (zB 42) 148 = .ok (.iadd, 1) := by decide +kernel
theorem d42_149 : decode (zB 42) 149 = .ok (.dup2, 1) := by decide +kernel
theorem d42_150 : decode (zB 42) 150 = .ok (.iaload, 1) := by decide +kernel
theorem d42_151 : decode (zB 42) 151 = .ok (.aload_n 0, 1) := by decide +kernel
theorem d42_152 : decode (zB 42) 152 = .ok (.iload 5, 2) := by decide +kernel
theorem d42_154 : decode (zB 42) 154 = .ok (.invokevirtual 36, 3) := by decide +kernel
theorem d42_157 : decode (zB 42) 157 = .ok (.ifCond .eq 7, 3) := by decide +kernel
theorem d42_160 : decode (zB 42) 160 = .ok (.iconst (-1), 1) := by decide +kernel
theorem d42_161 : decode (zB 42) 161 = .ok (.goto 4, 3) := by decide +kernel
theorem d42_164 : decode (zB 42) 164 = .ok (.iconst 1, 1) := by decide +kernel
theorem d42_165 : decode (zB 42) 165 = .ok (.iadd, 1) := by decide +kernel
theorem d42_166 : decode (zB 42) 166 = .ok (.iastore, 1) := by decide +kernel
theorem d42_167 : decode (zB 42) 167 = .ok (.iinc 4 1, 3) := by decide +kernel
theorem d42_170 : decode (zB 42) 170 = .ok (.goto (-65), 3) := by decide +kernel
theorem d42_173 : decode (zB 42) 173 = .ok (.aload_n 0, 1) := by decide +kernel
theorem d42_174 : decode (zB 42) 174 = .ok (.getfield 22, 3) := by decide +kernel
theorem d42_177 : decode (zB 42) 177 = .ok (.iconst 0, 1) := by decide +kernel
theorem d42_178 : decode (zB 42) 178 = .ok (.aload_n 1, 1) := by decide +kernel
theorem d42_179 : decode (zB 42) 179 = .ok (.getfield 40, 3) := by decide +kernel
theorem d42_182 : decode (zB 42) 182 = .ok (.iconst 0, 1) := by decide +kernel
theorem d42_183 : decode (zB 42) 183 = .ok (.aload_n 1, 1) := by decide +kernel
theorem d42_184 : decode (zB 42) 184 = .ok (.getfield 31, 3) := by decide +kernel
theorem d42_187 : decode (zB 42) 187 = .ok (.invokestatic 43, 3) := by decide +kernel
theorem d42_190 : decode (zB 42) 190 = .ok (.return_, 1) := by decide +kernel
theorem d43_0 : decode (zB 43) 0 = .ok (.aload_n 0, 1) := by decide +kernel
theorem d43_1 : decode (zB 43) 1 = .ok (.invokespecial 3, 3) := by decide +kernel
theorem d43_4 : decode (zB 43) 4 = .ok (.aload_n 0, 1) := by decide +kernel
theorem d43_5 : decode (zB 43) 5 = .ok (.bipush 20, 2) := by decide +kernel
theorem d43_7 : decode (zB 43) 7 = .ok (.newarray .int, 2) := by decide +kernel
theorem d43_9 : decode (zB 43) 9 = .ok (.putfield 9, 3) := by decide +kernel
theorem d43_12 : decode (zB 43) 12 = .ok (.aload_n 0, 1) := by decide +kernel
theorem d43_13 : decode (zB 43) 13 = .ok (.bipush 8, 2) := by decide +kernel
theorem d43_15 : decode (zB 43) 15 = .ok (.newarray .int, 2) := by decide +kernel
theorem d43_17 : decode (zB 43) 17 = .ok (.putfield 15, 3) := by decide +kernel
theorem d43_20 : decode (zB 43) 20 = .ok (.aload_n 0, 1) := by decide +kernel
theorem d43_21 : decode (zB 43) 21 = .ok (.iconst 0, 1) := by decide +kernel
theorem d43_22 : decode (zB 43) 22 = .ok (.putfield 18, 3) := by decide +kernel
theorem d43_25 : decode (zB 43) 25 = .ok (.aload_n 0, 1) := by decide +kernel
theorem d43_26 : decode (zB 43) 26 = .ok (.bipush 20, 2) := by decide +kernel
theorem d43_28 : decode (zB 43) 28 = .ok (.newarray .int, 2) := by decide +kernel
theorem d43_30 : decode (zB 43) 30 = .ok (.putfield 22, 3) := by decide +kernel
theorem d43_33 : decode (zB 43) 33 = .ok (.aload_n 0, 1) := by decide +kernel
theorem d43_34 : decode (zB 43) 34 = .ok (.bipush 20, 2) := by decide +kernel
theorem d43_36 : decode (zB 43) 36 = .ok (.newarray .int, 2) := by decide +kernel
theorem d43_38 : decode (zB 43) 38 = .ok (.putfield 25, 3) := by decide +kernel
theorem d43_41 : decode (zB 43) 41 = .ok (.aload_n 0, 1) := by decide +kernel
theorem d43_42 : decode (zB 43) 42 = .ok (.sipush 2048, 3) := by decide +kernel
theorem d43_45 : decode (zB 43) 45 = .ok (.newarray .int, 2) := by decide +kernel
theorem d43_47 : decode (zB 43) 47 = .ok (.putfield 28, 3) := by decide +kernel
theorem d43_50 : decode (zB 43) 50 = .ok (.return_, 1) := by decide +kernel
theorem d44_0 : decode (zB 44) 0 = .ok (.aload_n 0, 1) := by decide +kernel
theorem d44_1 : decode (zB 44) 1 = .ok (.getfield 25, 3) := by decide +kernel
theorem d44_4 : decode (zB 44) 4 = .ok (.iconst (-1), 1) := by decide +kernel
theorem d44_5 : decode (zB 44) 5 = .ok (.invokestatic 31, 3) := by decide +kernel
theorem d44_8 : decode (zB 44) 8 = .ok (.iload_n 2, 1) := by decide +kernel
theorem d44_9 : decode (zB 44) 9 = .ok (.iconst 1, 1) := by decide +kernel
theorem d44_10 : decode (zB 44) 10 = .ok (.isub, 1) := by decide +kernel
theorem d44_11 : decode (zB 44) 11 = .ok (.istore_n 3, 1) := by decide +kernel
theorem d44_12 : decode (zB 44) 12 = .ok (.iload_n 3, 1) := by decide +kernel
theorem d44_13 : decode (zB 44) 13 = .ok (.ifCond .lt 40, 3) := by decide +kernel
theorem d44_16 : decode (zB 44) 16 = .ok (.aload_n 1, 1) := by decide +kernel
theorem d44_17 : decode (zB 44) 17 = .ok (.iload_n 3, 1) := by decide +kernel
theorem d44_18 : decode (zB 44) 18 = .ok (.iaload, 1) := by decide +kernel
theorem d44_19 : decode (zB 44) 19 = .ok (.istore 4, 2) := by decide +kernel
theorem d44_21 : decode (zB 44) 21 = .ok (.aload_n 0, 1) := by decide +kernel
theorem d44_22 : decode (zB 44) 22 = .ok (.getfield 22, 3) := by decide +kernel
theorem d44_25 : decode (zB 44) 25 = .ok (.iload 4, 2) := by decide +kernel
theorem d44_27 : decode (zB 44) 27 = .ok (.iload_n 3, 1) := by decide +kernel
theorem d44_28 : decode (zB 44) 28 = .ok (.iastore, 1) := by decide +kernel
theorem d44_29 : decode (zB 44) 29 = .ok (.aload_n 0, 1) := by decide +kernel
theorem d44_30 : decode (zB 44) 30 = .ok (.getfield 25, 3) := by decide +kernel
theorem d44_33 : decode (zB 44) 33 = .ok (.iload 4, 2) := by decide +kernel
theorem d44_35 : decode (zB 44) 35 = .ok (.aload_n 0, 1) := by decide +kernel
theorem d44_36 : decode (zB 44) 36 = .ok (.getfield 25, 3) := by decide +kernel
theorem d44_39 : decode (zB 44) 39 = .ok (.iload 4, 2) := by decide +kernel
theorem d44_41 : decode (zB 44) 41 = .ok (.iaload, 1) := by decide +kernel
theorem d44_42 : decode (zB 44) 42 = .ok (.iload_n 3, 1) := by decide +kernel
theorem d44_43 : decode (zB 44) 43 = .ok (.invokestatic 37, 3) := by decide +kernel
theorem d44_46 : decode (zB 44) 46 = .ok (.iastore, 1) := by decide +kernel
theorem d44_47 : decode (zB 44) 47 = .ok (.iinc 3 (-1), 3) := by decide +kernel
theorem d44_50 : decode (zB 44) 50 = .ok (.goto (-38), 3) := by decide +kernel
theorem d44_53 : decode (zB 44) 53 = .ok (.aload_n 0, 1) := by decide +kernel
theorem d44_54 : decode (zB 44) 54 = .ok (.iconst 0, 1) := by decide +kernel
theorem d44_55 : decode (zB 44) 55 = .ok (.putfield 18, 3) := by decide +kernel
theorem d44_58 : decode (zB 44) 58 = .ok (.iconst 0, 1) := by decide +kernel
theorem d44_59 : decode (zB 44) 59 = .ok (.istore_n 3, 1) := by decide +kernel
theorem d44_60 : decode (zB 44) 60 = .ok (.iload_n 3, 1) := by decide +kernel
theorem d44_61 : decode (zB 44) 61 = .ok (.bipush 20, 2) := by decide +kernel
theorem d44_63 : decode (zB 44) 63 = .ok (.if_icmp .ge 38, 3) := by decide +kernel
theorem d44_66 : decode (zB 44) 66 = .ok (.aload_n 0, 1) := by decide +kernel
theorem d44_67 : decode (zB 44) 67 = .ok (.getfield 25, 3) := by decide +kernel
theorem d44_70 : decode (zB 44) 70 = .ok (.iload_n 3, 1) := by decide +kernel
theorem d44_71 : decode (zB 44) 71 = .ok (.iaload, 1) := by decide +kernel
theorem d44_72 : decode (zB 44) 72 = .ok (.ifCond .lt 23, 3) := by decide +kernel
theorem d44_75 : decode (zB 44) 75 = .ok (.aload_n 0, 1) := by decide +kernel
theorem d44_76 : decode (zB 44) 76 = .ok (.getfield 9, 3) := by decide +kernel
theorem d44_79 : decode (zB 44) 79 = .ok (.aload_n 0, 1) := by decide +kernel
theorem d44_80 : decode (zB 44) 80 = .ok (.getfield 18, 3) := by decide +kernel
theorem d44_83 : decode (zB 44) 83 = .ok (.iload_n 3, 1) := by decide +kernel
theorem d44_84 : decode (zB 44) 84 = .ok (.iastore, 1) := by decide +kernel
theorem d44_85 : decode (zB 44) 85 = .ok (.aload_n 0, 1) := by decide +kernel
theorem d44_86 : decode (zB 44) 86 = .ok (.dup, 1) := by decide +kernel
theorem d44_87 : decode (zB 44) 87 = .ok (.getfield 18, 3) := by decide +kernel
theorem d44_90 : decode (zB 44) 90 = .ok (.iconst 1, 1) := by decide +kernel
theorem d44_91 : decode (zB 44) 91 = .ok (.iadd, 1) := by decide +kernel
theorem d44_92 : decode (zB 44) 92 = .ok (.putfield 18, 3) := by decide +kernel
theorem d44_95 : decode (zB 44) 95 = .ok (.iinc 3 1, 3) := by decide +kernel
theorem d44_98 : decode (zB 44) 98 = .ok (.goto (-38), 3) := by decide +kernel
theorem d44_101 : decode (zB 44) 101 = .ok (.return_, 1) := by decide +kernel
theorem d45_0 : decode (zB 45) 0 = .ok (.iload_n 3, 1) := by decide +kernel
theorem d45_1 : decode (zB 45) 1 = .ok (.ifCond .eq 36, 3) := by decide +kernel
theorem d45_4 : decode (zB 45) 4 = .ok (.aload_n 0, 1) := by decide +kernel
theorem d45_5 : decode (zB 45) 5 = .ok (.getfield 25, 3) := by decide +kernel
theorem d45_8 : decode (zB 45) 8 = .ok (.aload_n 0, 1) := by decide +kernel
theorem d45_9 : decode (zB 45) 9 = .ok (.getfield 9, 3) := by decide +kernel
theorem d45_12 : decode (zB 45) 12 = .ok (.iload_n 1, 1) := by decide +kernel
theorem d45_13 : decode (zB 45) 13 = .ok (.iaload, 1) := by decide +kernel
theorem d45_14 : decode (zB 45) 14 = .ok (.iaload, 1) := by decide +kernel
theorem d45_15 : decode (zB 45) 15 = .ok (.aload_n 0, 1) := by decide +kernel
theorem d45_16 : decode (zB 45) 16 = .ok (.getfield 22, 3) := by decide +kernel
theorem d45_19 : decode (zB 45) 19 = .ok (.aload_n 0, 1) := by decide +kernel
theorem d45_20 : decode (zB 45) 20 = .ok (.getfield 9, 3) := by decide +kernel
theorem d45_23 : decode (zB 45) 23 = .ok (.iload_n 2, 1) := by decide +kernel
theorem d45_24 : decode (zB 45) 24 = .ok (.iaload, 1) := by decide +kernel
theorem d45_25 : decode (zB 45) 25 = .ok (.iaload, 1) := by decide +kernel
theorem d45_26 : decode (zB 45) 26 = .ok (.if_icmp .ge 7, 3) := by decide +kernel
theorem d45_29 : decode (zB 45) 29 = .ok (.iconst 1, 1) := by decide +kernel
theorem d45_30 : decode (zB 45) 30 = .ok (.goto 37, 3) := by decide +kernel
theorem d45_33 : decode (zB 45) 33 = .ok (.iconst 0, 1) := by decide +kernel
theorem d45_34 : decode (zB 45) 34 = .ok (.goto 33, 3) := by decide +kernel
theorem d45_37 : decode (zB 45) 37 = .ok (.aload_n 0, 1) := by decide +kernel
theorem d45_38 : decode (zB 45) 38 = .ok (.getfield 22, 3) := by decide +kernel
theorem d45_41 : decode (zB 45) 41 = .ok (.aload_n 0, 1) := by decide +kernel
theorem d45_42 : decode (zB 45) 42 = .ok (.getfield 9, 3) := by decide +kernel
theorem d45_45 : decode (zB 45) 45 = .ok (.iload_n 1, 1) := by decide +kernel
theorem d45_46 : decode (zB 45) 46 = .ok (.iaload, 1) := by decide +kernel
theorem d45_47 : decode (zB 45) 47 = .ok (.iaload, 1) := by decide +kernel
theorem d45_48 : decode (zB 45) 48 = .ok (.aload_n 0, 1) := by decide +kernel
theorem d45_49 : decode (zB 45) 49 = .ok (.getfield 25, 3) := by decide +kernel
theorem d45_52 : decode (zB 45) 52 = .ok (.aload_n 0, 1) := by decide +kernel
theorem d45_53 : decode (zB 45) 53 = .ok (.getfield 9, 3) := by decide +kernel
theorem d45_56 : decode (zB 45) 56 = .ok (.iload_n 2, 1) := by decide +kernel
theorem d45_57 : decode (zB 45) 57 = .ok (.iaload, 1) := by decide +kernel
theorem d45_58 : decode (zB 45) 58 = .ok (.iaload, 1) := by decide +kernel
theorem d45_59 : decode (zB 45) 59 = .ok (.if_icmp .le 7, 3) := by decide +kernel
theorem d45_62 : decode (zB 45) 62 = .ok (.iconst 1, 1) := by decide +kernel
theorem d45_63 : decode (zB 45) 63 = .ok (.goto 4, 3) := by decide +kernel
theorem d45_66 : decode (zB 45) 66 = .ok (.iconst 0, 1) := by decide +kernel
theorem d45_67 : decode (zB 45) 67 = .ok (.ireturn, 1) := by decide +kernel
theorem d46_0 : decode (zB 46) 0 = .ok (.aload_n 0, 1) := by decide +kernel
theorem d46_1 : decode (zB 46) 1 = .ok (.getfield 18, 3) := by decide +kernel
theorem d46_4 : decode (zB 46) 4 = .ok (.ifCond .le 7, 3) := by decide +kernel
theorem d46_7 : decode (zB 46) 7 = .ok (.iconst 1, 1) := by decide +kernel
theorem d46_8 : decode (zB 46) 8 = .ok (.goto 4, 3) := by decide +kernel
theorem d46_11 : decode (zB 46) 11 = .ok (.iconst 0, 1) := by decide +kernel
theorem d46_12 : decode (zB 46) 12 = .ok (.istore_n 2, 1) := by decide +kernel
theorem d46_13 : decode (zB 46) 13 = .ok (.iconst 1, 1) := by decide +kernel
theorem d46_14 : decode (zB 46) 14 = .ok (.istore_n 3, 1) := by decide +kernel
theorem d46_15 : decode (zB 46) 15 = .ok (.iload_n 3, 1) := by decide +kernel
theorem d46_16 : decode (zB 46) 16 = .ok (.aload_n 0, 1) := by decide +kernel
theorem d46_17 : decode (zB 46) 17 = .ok (.getfield 18, 3) := by decide +kernel
theorem d46_20 : decode (zB 46) 20 = .ok (.if_icmp .ge 24, 3) := by decide +kernel
theorem d46_23 : decode (zB 46) 23 = .ok (.aload_n 0, 1) := by decide +kernel
theorem d46_24 : decode (zB 46) 24 = .ok (.iload_n 3, 1) := by decide +kernel
theorem d46_25 : decode (zB 46) 25 = .ok (.iconst 1, 1) := by decide +kernel
theorem d46_26 : decode (zB 46) 26 = .ok (.isub, 1) := by decide +kernel
theorem d46_27 : decode (zB 46) 27 = .ok (.iload_n 3, 1) := by decide +kernel
theorem d46_28 : decode (zB 46) 28 = .ok (.iload_n 1, 1) := by decide +kernel
theorem d46_29 : decode (zB 46) 29 = .ok (.invokevirtual 43, 3) := by decide +kernel
theorem d46_32 : decode (zB 46) 32 = .ok (.ifCond .ne 6, 3) := by decide +kernel
theorem d46_35 : decode (zB 46) 35 = .ok (.iinc 2 1, 3) := by decide +kernel
theorem d46_38 : decode (zB 46) 38 = .ok (.iinc 3 1, 3) := by decide +kernel
theorem d46_41 : decode (zB 46) 41 = .ok (.goto (-26), 3) := by decide +kernel
theorem d46_44 : decode (zB 46) 44 = .ok (.iload_n 2, 1) := by decide +kernel
theorem d46_45 : decode (zB 46) 45 = .ok (.ireturn, 1) := by decide +kernel
theorem d47_0 : decode (zB 47) 0 = .ok (.iconst 1, 1) := by decide +kernel
theorem d47_1 : decode (zB 47) 1 = .ok (.aload_n 0, 1) := by decide +kernel
theorem d47_2 : decode (zB 47) 2 = .ok (.getfield 18, 3) := by decide +kernel
theorem d47_5 : decode (zB 47) 5 = .ok (.ishl, 1) := by decide +kernel
theorem d47_6 : decode (zB 47) 6 = .ok (.iconst 1, 1) := by decide +kernel
theorem d47_7 : decode (zB 47) 7 = .ok (.isub, 1) := by decide +kernel
theorem d47_8 : decode (zB 47) 8 = .ok (.istore_n 1, 1) := by decide +kernel
theorem d47_9 : decode (zB 47) 9 = .ok (.iload_n 1, 1) := by decide +kernel
theorem d47_10 : decode (zB 47) 10 = .ok (.istore_n 2, 1) := by decide +kernel
theorem d47_11 : decode (zB 47) 11 = .ok (.iload_n 2, 1) := by decide +kernel
theorem d47_12 : decode (zB 47) 12 = .ok (.iconst 1, 1) := by decide +kernel
theorem d47_13 : decode (zB 47) 13 = .ok (.if_icmp .lt 59, 3) := by decide +kernel
theorem d47_16 : decode (zB 47) 16 = .ok (.iconst 0, 1) := by decide +kernel
theorem d47_17 : decode (zB 47) 17 = .ok (.istore_n 3, 1) := by decide +kernel
theorem d47_18 : decode (zB 47) 18 = .ok (.iload_n 3, 1) := by decide +kernel
theorem d47_19 : decode (zB 47) 19 = .ok (.aload_n 0, 1) := by decide +kernel
theorem d47_20 : decode (zB 47) 20 = .ok (.getfield 18, 3) := by decide +kernel
theorem d47_23 : decode (zB 47) 23 = .ok (.if_icmp .ge 43, 3) := by decide +kernel
theorem d47_26 : decode (zB 47) 26 = .ok (.iload_n 2, 1) := by decide +kernel
theorem d47_27 : decode (zB 47) 27 = .ok (.iload_n 3, 1) := by decide +kernel
theorem d47_28 : decode (zB 47) 28 = .ok (.ishr, 1) := by decide +kernel
theorem d47_29 : decode (zB 47) 29 = .ok (.iconst 1, 1) := by decide +kernel
theorem d47_30 : decode (zB 47) 30 = .ok (.iand, 1) := by decide +kernel
theorem d47_31 : decode (zB 47) 31 = .ok (.ifCond .eq 29, 3) := by decide +kernel
theorem d47_34 : decode (zB 47) 34 = .ok (.aload_n 0, 1) := by decide +kernel
theorem d47_35 : decode (zB 47) 35 = .ok (.getfield 28, 3) := by decide +kernel
theorem d47_38 : decode (zB 47) 38 = .ok (.iload_n 2, 1) := by decide +kernel
theorem d47_39 : decode (zB 47) 39 = .ok (.bipush 8, 2) := by decide +kernel
theorem d47_41 : decode (zB 47) 41 = .ok (.imul, 1) := by decide +kernel
theorem d47_42 : decode (zB 47) 42 = .ok (.iload_n 3, 1) := by decide +kernel
theorem d47_43 : decode (zB 47) 43 = .ok (.iadd, 1) := by decide +kernel
theorem d47_44 : decode (zB 47) 44 = .ok (.iload_n 2, 1) := by decide +kernel
theorem d47_45 : decode (zB 47) 45 = .ok (.iload_n 1, 1) := by decide +kernel
theorem d47_46 : decode (zB 47) 46 = .ok (.if_icmp .ne 7, 3) := by decide +kernel
theorem d47_49 : decode (zB 47) 49 = .ok (.iconst 0, 1) := by decide +kernel
theorem d47_50 : decode (zB 47) 50 = .ok (.goto 9, 3) := by decide +kernel
theorem d47_53 : decode (zB 47) 53 = .ok (.aload_n 0, 1) := by decide +kernel
theorem d47_54 : decode (zB 47) 54 = .ok (.iload_n 2, 1) := by decide +kernel
theorem d47_55 : decode (zB 47) 55 = .ok (.iload_n 3, 1) := by decide +kernel
theorem d47_56 : decode (zB 47) 56 = .ok (.invokevirtual 47, 3) := by decide +kernel
theorem d47_59 : decode (zB 47) 59 = .ok (.iastore, 1) := by decide +kernel
theorem d47_60 : decode (zB 47) 60 = .ok (.iinc 3 1, 3) := by decide +kernel
theorem d47_63 : decode (zB 47) 63 = .ok (.goto (-45), 3) := by decide +kernel
theorem d47_66 : decode (zB 47) 66 = .ok (.iinc 2 (-1), 3) := by decide +kernel
theorem d47_69 : decode (zB 47) 69 = .ok (.goto (-58), 3) := by decide +kernel
theorem d47_72 : decode (zB 47) 72 = .ok (.bipush 8, 2) := by decide +kernel
theorem d47_74 : decode (zB 47) 74 = .ok (.istore_n 2, 1) := by decide +kernel
theorem d47_75 : decode (zB 47) 75 = .ok (.aload_n 0, 1) := by decide +kernel
theorem d47_76 : decode (zB 47) 76 = .ok (.getfield 18, 3) := by decide +kernel
theorem d47_79 : decode (zB 47) 79 = .ok (.iconst 1, 1) := by decide +kernel
theorem d47_80 : decode (zB 47) 80 = .ok (.isub, 1) := by decide +kernel
theorem d47_81 : decode (zB 47) 81 = .ok (.istore_n 3, 1) := by decide +kernel
theorem d47_82 : decode (zB 47) 82 = .ok (.iload_n 3, 1) := by decide +kernel
theorem d47_83 : decode (zB 47) 83 = .ok (.ifCond .lt 42, 3) := by decide +kernel
theorem d47_86 : decode (zB 47) 86 = .ok (.iconst 1, 1) := by decide +kernel
theorem d47_87 : decode (zB 47) 87 = .ok (.aload_n 0, 1) := by decide +kernel
theorem d47_88 : decode (zB 47) 88 = .ok (.getfield 28, 3) := by decide +kernel
theorem d47_91 : decode (zB 47) 91 = .ok (.iconst 1, 1) := by decide +kernel
theorem d47_92 : decode (zB 47) 92 = .ok (.iload_n 3, 1) := by decide +kernel
theorem d47_93 : decode (zB 47) 93 = .ok (.ishl, 1) := by decide +kernel
theorem d47_94 : decode (zB 47) 94 = .ok (.bipush 8, 2) := by decide +kernel
theorem d47_96 : decode (zB 47) 96 = .ok (.imul, 1) := by decide +kernel
theorem d47_97 : decode (zB 47) 97 = .ok (.iload_n 3, 1) := by decide +kernel
theorem d47_98 : decode (zB 47) 98 = .ok (.iadd, 1) := by decide +kernel
theorem d47_99 : decode (zB 47) 99 = .ok (.iaload, 1) := by decide +kernel
theorem d47_100 : decode (zB 47) 100 = .ok (.iadd, 1) := by decide +kernel
theorem d47_101 : decode (zB 47) 101 = .ok (.istore 4, 2) := by decide +kernel
theorem d47_103 : decode (zB 47) 103 = .ok (.iload 4, 2) := by decide +kernel
theorem d47_105 : decode (zB 47) 105 = .ok (.iload_n 2, 1) := by decide +kernel
theorem d47_106 : decode (zB 47) 106 = .ok (.if_icmp .gt 13, 3) := by decide +kernel
theorem d47_109 : decode (zB 47) 109 = .ok (.iload 4, 2) := by decide +kernel
theorem d47_111 : decode (zB 47) 111 = .ok (.istore_n 2, 1) := by decide +kernel
theorem d47_112 : decode (zB 47) 112 = .ok (.aload_n 0, 1) := by decide +kernel
theorem d47_113 : decode (zB 47) 113 = .ok (.getfield 15, 3) := by decide +kernel
theorem d47_116 : decode (zB 47) 116 = .ok (.iconst 0, 1) := by decide +kernel
theorem d47_117 : decode (zB 47) 117 = .ok (.iload_n 3, 1) := by decide +kernel
theorem d47_118 : decode (zB 47) 118 = .ok (.iastore, 1) := by decide +kernel
theorem d47_119 : decode (zB 47) 119 = .ok (.iinc 3 (-1), 3) := by decide +kernel
theorem d47_122 : decode (zB 47) 122 = .ok (.goto (-40), 3) := by decide +kernel
theorem d47_125 : decode (zB 47) 125 = .ok (.aload_n 0, 1) := by decide +kernel
theorem d47_126 : decode (zB 47) 126 = .ok (.invokevirtual 50, 3) := by decide +kernel
theorem d47_129 : decode (zB 47) 129 = .ok (.iload_n 2, 1) := by decide +kernel
theorem d47_130 : decode (zB 47) 130 = .ok (.ireturn, 1) := by decide +kernel
theorem d48_0 : decode (zB 48) 0 = .ok (.aload_n 0, 1) := by decide +kernel
theorem d48_1 : decode (zB 48) 1 = .ok (.iload_n 2, 1) := by decide +kernel
theorem d48_2 : decode (zB 48) 2 = .ok (.iload_n 3, 1) := by decide +kernel
theorem d48_3 : decode (zB 48) 3 = .ok (.iconst 1, 1) := by decide +kernel
theorem d48_4 : decode (zB 48) 4 = .ok (.invokevirtual 43, 3) := by decide +kernel
theorem d48_7 : decode (zB 48) 7 = .ok (.ifCond .eq 7, 3) := by decide +kernel
theorem d48_10 : decode (zB 48) 10 = .ok (.iconst 0, 1) := by decide +kernel
theorem d48_11 : decode (zB 48) 11 = .ok (.goto 4, 3) := by decide +kernel
theorem d48_14 : decode (zB 48) 14 = .ok (.iconst 1, 1) := by decide +kernel
theorem d48_15 : decode (zB 48) 15 = .ok (.aload_n 0, 1) := by decide +kernel
theorem d48_16 : decode (zB 48) 16 = .ok (.getfield 28, 3) := by decide +kernel
theorem d48_19 : decode (zB 48) 19 = .ok (.iload_n 1, 1) := by decide +kernel
theorem d48_20 : decode (zB 48) 20 = .ok (.iconst 1, 1) := by decide +kernel
theorem d48_21 : decode (zB 48) 21 = .ok (.iload_n 3, 1) := by decide +kernel
theorem d48_22 : decode (zB 48) 22 = .ok (.ishl, 1) := by decide +kernel
theorem d48_23 : decode (zB 48) 23 = .ok (.ior, 1) := by decide +kernel
theorem d48_24 : decode (zB 48) 24 = .ok (.bipush 8, 2) := by decide +kernel
theorem d48_26 : decode (zB 48) 26 = .ok (.imul, 1) := by decide +kernel
theorem d48_27 : decode (zB 48) 27 = .ok (.iload_n 3, 1) := by decide +kernel
theorem d48_28 : decode (zB 48) 28 = .ok (.iadd, 1) := by decide +kernel
theorem d48_29 : decode (zB 48) 29 = .ok (.iaload, 1) := by decide +kernel
theorem d48_30 : decode (zB 48) 30 = .ok (.iadd, 1) := by decide +kernel
theorem d48_31 : decode (zB 48) 31 = .ok (.ireturn, 1) := by decide +kernel
theorem d49_0 : decode (zB 49) 0 = .ok (.bipush 8, 2) := by decide +kernel
theorem d49_2 : decode (zB 49) 2 = .ok (.istore_n 3, 1) := by decide +kernel
theorem d49_3 : decode (zB 49) 3 = .ok (.iconst 0, 1) := by decide +kernel
theorem d49_4 : decode (zB 49) 4 = .ok (.istore 4, 2) := by decide +kernel
theorem d49_6 : decode (zB 49) 6 = .ok (.iload 4, 2) := by decide +kernel
theorem d49_8 : decode (zB 49) 8 = .ok (.aload_n 0, 1) := by decide +kernel
theorem d49_9 : decode (zB 49) 9 = .ok (.getfield 18, 3) := by decide +kernel
theorem d49_12 : decode (zB 49) 12 = .ok (.if_icmp .ge 31, 3) := by decide +kernel
theorem d49_15 : decode (zB 49) 15 = .ok (.iload_n 1, 1) := by decide +kernel
theorem d49_16 : decode (zB 49) 16 = .ok (.iload 4, 2) := by decide +kernel
theorem d49_18 : decode (zB 49) 18 = .ok (.ishr, 1) := by decide +kernel
theorem d49_19 : decode (zB 49) 19 = .ok (.iconst 1, 1) := by decide +kernel
theorem d49_20 : decode (zB 49) 20 = .ok (.iand, 1) := by decide +kernel
theorem d49_21 : decode (zB 49) 21 = .ok (.ifCond .ne 16, 3) := by decide +kernel
theorem d49_24 : decode (zB 49) 24 = .ok (.iload_n 3, 1) := by decide +kernel
theorem d49_25 : decode (zB 49) 25 = .ok (.aload_n 0, 1) := by decide +kernel
theorem d49_26 : decode (zB 49) 26 = .ok (.iload_n 1, 1) := by decide +kernel
theorem d49_27 : decode (zB 49) 27 = .ok (.iload_n 2, 1) := by decide +kernel
theorem d49_28 : decode (zB 49) 28 = .ok (.iload 4, 2) := by decide +kernel
theorem d49_30 : decode (zB 49) 30 = .ok (.invokevirtual 53, 3) := by decide +kernel
theorem d49_33 : decode (zB 49) 33 = .ok (.invokestatic 57, 3) := by decide +kernel
theorem d49_36 : decode (zB 49) 36 = .ok (.istore_n 3, 1) := by decide +kernel
theorem d49_37 : decode (zB 49) 37 = .ok (.iinc 4 1, 3) := by decide +kernel
theorem d49_40 : decode (zB 49) 40 = .ok (.goto (-34), 3) := by decide +kernel
theorem d49_43 : decode (zB 49) 43 = .ok (.iload_n 3, 1) := by decide +kernel
theorem d49_44 : decode (zB 49) 44 = .ok (.ireturn, 1) := by decide +kernel
theorem d50_0 : decode (zB 50) 0 = .ok (.iconst 1, 1) := by decide +kernel
theorem d50_1 : decode (zB 50) 1 = .ok (.aload_n 0, 1) := by decide +kernel
theorem d50_2 : decode (zB 50) 2 = .ok (.getfield 15, 3) := by decide +kernel
theorem d50_5 : decode (zB 50) 5 = .ok (.iconst 0, 1) := by decide +kernel
theorem d50_6 : decode (zB 50) 6 = .ok (.iaload, 1) := by decide +kernel
theorem d50_7 : decode (zB 50) 7 = .ok (.ishl, 1) := by decide +kernel
theorem d50_8 : decode (zB 50) 8 = .ok (.istore_n 1, 1) := by decide +kernel
theorem d50_9 : decode (zB 50) 9 = .ok (.iconst 1, 1) := by decide +kernel
theorem d50_10 : decode (zB 50) 10 = .ok (.istore_n 2, 1) := by decide +kernel
theorem d50_11 : decode (zB 50) 11 = .ok (.iload_n 2, 1) := by decide +kernel
theorem d50_12 : decode (zB 50) 12 = .ok (.aload_n 0, 1) := by decide +kernel
theorem d50_13 : decode (zB 50) 13 = .ok (.getfield 18, 3) := by decide +kernel
theorem d50_16 : decode (zB 50) 16 = .ok (.if_icmp .ge 94, 3) := by decide +kernel
theorem d50_19 : decode (zB 50) 19 = .ok (.aload_n 0, 1) := by decide +kernel
theorem d50_20 : decode (zB 50) 20 = .ok (.getfield 28, 3) := by decide +kernel
theorem d50_23 : decode (zB 50) 23 = .ok (.iload_n 1, 1) := by decide +kernel
theorem d50_24 : decode (zB 50) 24 = .ok (.bipush 8, 2) := by decide +kernel
theorem d50_26 : decode (zB 50) 26 = .ok (.imul, 1) := by decide +kernel
theorem d50_27 : decode (zB 50) 27 = .ok (.aload_n 0, 1) := by decide +kernel
theorem d50_28 : decode (zB 50) 28 = .ok (.getfield 15, 3) := by decide +kernel
theorem d50_31 : decode (zB 50) 31 = .ok (.iload_n 2, 1) := by decide +kernel
theorem d50_32 : decode (zB 50) 32 = .ok (.iconst 1, 1) := by decide +kernel
theorem d50_33 : decode (zB 50) 33 = .ok (.isub, 1) := by decide +kernel
theorem d50_34 : decode (zB 50) 34 = .ok (.iaload, 1) := by decide +kernel
theorem d50_35 : decode (zB 50) 35 = .ok (.iadd, 1) := by decide +kernel
theorem d50_36 : decode (zB 50) 36 = .ok (.iaload, 1) := by decide +kernel
theorem d50_37 : decode (zB 50) 37 = .ok (.istore_n 3, 1) := by decide +kernel
theorem d50_38 : decode (zB 50) 38 = .ok (.aload_n 0, 1) := by decide +kernel
theorem d50_39 : decode (zB 50) 39 = .ok (.getfield 18, 3) := by decide +kernel
theorem d50_42 : decode (zB 50) 42 = .ok (.iconst 1, 1) := by decide +kernel
theorem d50_43 : decode (zB 50) 43 = .ok (.isub, 1) := by decide +kernel
theorem d50_44 : decode (zB 50) 44 = .ok (.istore 4, 2) := by decide +kernel
theorem d50_46 : decode (zB 50) 46 = .ok (.iload 4, 2) := by decide +kernel
theorem d50_48 : decode (zB 50) 48 = .ok (.ifCond .lt 45, 3) := by decide +kernel
theorem d50_51 : decode (zB 50) 51 = .ok (.iload_n 1, 1) := by decide +kernel
theorem d50_52 : decode (zB 50) 52 = .ok (.iload 4, 2) := by decide +kernel
theorem d50_54 : decode (zB 50) 54 = .ok (.ishr, 1) := by decide +kernel
theorem d50_55 : decode (zB 50) 55 = .ok (.iconst 1, 1) := by decide +kernel
theorem d50_56 : decode (zB 50) 56 = .ok (.iand, 1) := by decide +kernel
theorem d50_57 : decode (zB 50) 57 = .ok (.ifCond .ne 30, 3) := by decide +kernel
theorem d50_60 : decode (zB 50) 60 = .ok (.aload_n 0, 1) := by decide +kernel
theorem d50_61 : decode (zB 50) 61 = .ok (.iload_n 1, 1) := by decide +kernel
theorem d50_62 : decode (zB 50) 62 = .ok (.aload_n 0, 1) := by decide +kernel
theorem d50_63 : decode (zB 50) 63 = .ok (.getfield 15, 3) := by decide +kernel
theorem d50_66 : decode (zB 50) 66 = .ok (.iload_n 2, 1) := by decide +kernel
theorem d50_67 : decode (zB 50) 67 = .ok (.iconst 1, 1) := by decide +kernel
theorem d50_68 : decode (zB 50) 68 = .ok (.isub, 1) := by decide +kernel
theorem d50_69 : decode (zB 50) 69 = .ok (.iaload, 1) := by decide +kernel
theorem d50_70 : decode (zB 50) 70 = .ok (.iload 4, 2) := by decide +kernel
theorem d50_72 : decode (zB 50) 72 = .ok (.invokevirtual 53, 3) := by decide +kernel
theorem d50_75 : decode (zB 50) 75 = .ok (.iload_n 3, 1) := by decide +kernel
theorem d50_76 : decode (zB 50) 76 = .ok (.if_icmp .ne 11, 3) := by decide +kernel
theorem d50_79 : decode (zB 50) 79 = .ok (.aload_n 0, 1) := by decide +kernel
theorem d50_80 : decode (zB 50) 80 = .ok (.getfield 15, 3) := by decide +kernel
theorem d50_83 : decode (zB 50) 83 = .ok (.iload_n 2, 1) := by decide +kernel
theorem d50_84 : decode (zB 50) 84 = .ok (.iload 4, 2) := by decide +kernel
theorem d50_86 : decode (zB 50) 86 = .ok (.iastore, 1) := by decide +kernel
theorem d50_87 : decode (zB 50) 87 = .ok (.iinc 4 (-1), 3) := by decide +kernel
theorem d50_90 : decode (zB 50) 90 = .ok (.goto (-44), 3) := by decide +kernel
theorem d50_93 : decode (zB 50) 93 = .ok (.iload_n 1, 1) := by decide +kernel
theorem d50_94 : decode (zB 50) 94 = .ok (.iconst 1, 1) := by decide +kernel
theorem d50_95 : decode (zB 50) 95 = .ok (.aload_n 0, 1) := by decide +kernel
theorem d50_96 : decode (zB 50) 96 = .ok (.getfield 15, 3) := by decide +kernel
theorem d50_99 : decode (zB 50) 99 = .ok (.iload_n 2, 1) := by decide +kernel
theorem d50_100 : decode (zB 50) 100 = .ok (.iaload, 1) := by decide +kernel
theorem d50_101 : decode (zB 50) 101 = .ok (.ishl, 1) := by decide +kernel
theorem d50_102 : decode (zB 50) 102 = .ok (.ior, 1) := by decide +kernel
theorem d50_103 : decode (zB 50) 103 = .ok (.istore_n 1, 1) := by decide +kernel
theorem d50_104 : decode (zB 50) 104 = .ok (.iinc 2 1, 3) := by decide +kernel
theorem d50_107 : decode (zB 50) 107 = .ok (.goto (-96), 3) := by decide +kernel
theorem d50_110 : decode (zB 50) 110 = .ok (.return_, 1) := by decide +kernel
theorem d51_0 : decode (zB 51) 0 = .ok (.aload_n 0, 1) := by decide +kernel
theorem d51_1 : decode (zB 51) 1 = .ok (.invokespecial 3, 3) := by decide +kernel
theorem d51_4 : decode (zB 51) 4 = .ok (.aload_n 0, 1) := by decide +kernel
theorem d51_5 : decode (zB 51) 5 = .ok (.ldc 11, 2) := by decide +kernel
theorem d51_7 : decode (zB 51) 7 = .ok (.invokevirtual 13, 3) := by decide +kernel
theorem d51_10 : decode (zB 51) 10 = .ok (.newarray .int, 2) := by decide +kernel
theorem d51_12 : decode (zB 51) 12 = .ok (.putfield 19, 3) := by decide +kernel
theorem d51_15 : decode (zB 51) 15 = .ok (.aload_n 0, 1) := by decide +kernel
theorem d51_16 : decode (zB 51) 16 = .ok (.bipush 32, 2) := by decide +kernel
theorem d51_18 : decode (zB 51) 18 = .ok (.newarray .int, 2) := by decide +kernel
theorem d51_20 : decode (zB 51) 20 = .ok (.putfield 25, 3) := by decide +kernel
theorem d51_23 : decode (zB 51) 23 = .ok (.aload_n 0, 1) := by decide +kernel
theorem d51_24 : decode (zB 51) 24 = .ok (.new 9, 3) := by decide +kernel
theorem d51_27 : decode (zB 51) 27 = .ok (.dup, 1) := by decide +kernel
theorem d51_28 : decode (zB 51) 28 = .ok (.invokespecial 28, 3) := by decide +kernel
theorem d51_31 : decode (zB 51) 31 = .ok (.putfield 29, 3) := by decide +kernel
theorem d51_34 : decode (zB 51) 34 = .ok (.aload_n 0, 1) := by decide +kernel
theorem d51_35 : decode (zB 51) 35 = .ok (.iconst 0, 1) := by decide +kernel
theorem d51_36 : decode (zB 51) 36 = .ok (.putfield 33, 3) := by decide +kernel
theorem d51_39 : decode (zB 51) 39 = .ok (.aload_n 0, 1) := by decide +kernel
theorem d51_40 : decode (zB 51) 40 = .ok (.iconst 0, 1) := by decide +kernel
theorem d51_41 : decode (zB 51) 41 = .ok (.putfield 37, 3) := by decide +kernel
theorem d51_44 : decode (zB 51) 44 = .ok (.aload_n 0, 1) := by decide +kernel
theorem d51_45 : decode (zB 51) 45 = .ok (.iconst 0, 1) := by decide +kernel
theorem d51_46 : decode (zB 51) 46 = .ok (.putfield 40, 3) := by decide +kernel
theorem d51_49 : decode (zB 51) 49 = .ok (.aload_n 0, 1) := by decide +kernel
theorem d51_50 : decode (zB 51) 50 = .ok (.aload_n 1, 1) := by decide +kernel
theorem d51_51 : decode (zB 51) 51 = .ok (.putfield 43, 3) := by decide +kernel
theorem d51_54 : decode (zB 51) 54 = .ok (.aload_n 0, 1) := by decide +kernel
theorem d51_55 : decode (zB 51) 55 = .ok (.aload_n 2, 1) := by decide +kernel
theorem d51_56 : decode (zB 51) 56 = .ok (.putfield 46, 3) := by decide +kernel
theorem d51_59 : decode (zB 51) 59 = .ok (.return_, 1) := by decide +kernel
theorem d52_0 : decode (zB 52) 0 = .ok (.aload_n 0, 1) := by decide +kernel
theorem d52_1 : decode (zB 52) 1 = .ok (.aload_n 1, 1) := by decide +kernel
theorem d52_2 : decode (zB 52) 2 = .ok (.iload_n 2, 1) := by decide +kernel
theorem d52_3 : decode (zB 52) 3 = .ok (.invokevirtual 50, 3) := by decide +kernel
theorem d52_6 : decode (zB 52) 6 = .ok (.aload_n 0, 1) := by decide +kernel
theorem d52_7 : decode (zB 52) 7 = .ok (.getfield 29, 3) := by decide +kernel
theorem d52_10 : decode (zB 52) 10 = .ok (.aload_n 0, 1) := by decide +kernel
theorem d52_11 : decode (zB 52) 11 = .ok (.getfield 19, 3) := by decide +kernel
theorem d52_14 : decode (zB 52) 14 = .ok (.invokevirtual 54, 3) := by decide +kernel
theorem d52_17 : decode (zB 52) 17 = .ok (.ifCond .eq 7, 3) := by decide +kernel
theorem d52_20 : decode (zB 52) 20 = .ok (.iconst (-1), 1) := by decide +kernel
theorem d52_21 : decode (zB 52) 21 = .ok (.goto 25, 3) := by decide +kernel
theorem d52_24 : decode (zB 52) 24 = .ok (.aload_n 0, 1) := by decide +kernel
theorem d52_25 : decode (zB 52) 25 = .ok (.getfield 29, 3) := by decide +kernel
theorem d52_28 : decode (zB 52) 28 = .ok (.bipush 104, 2) := by decide +kernel
theorem d52_30 : decode (zB 52) 30 = .ok (.aload_n 0, 1) := by decide +kernel
theorem d52_31 : decode (zB 52) 31 = .ok (.getfield 19, 3) := by decide +kernel
theorem d52_34 : decode (zB 52) 34 = .ok (.aload_n 0, 1) := by decide +kernel
theorem d52_35 : decode (zB 52) 35 = .ok (.getfield 46, 3) := by decide +kernel
theorem d52_38 : decode (zB 52) 38 = .ok (.getfield 58, 3) := by decide +kernel
theorem d52_41 : decode (zB 52) 41 = .ok (.iconst 1, 1) := by decide +kernel
theorem d52_42 : decode (zB 52) 42 = .ok (.isub, 1) := by decide +kernel
theorem d52_43 : decode (zB 52) 43 = .ok (.invokevirtual 63, 3) := by decide +kernel
theorem d52_46 : decode (zB 52) 46 = .ok (.ireturn, 1) := by decide +kernel
theorem d53_0 : decode (zB 53) 0 = .ok (.aload_n 0, 1) := by decide +kernel
theorem d53_1 : decode (zB 53) 1 = .ok (.aload_n 1, 1) := by decide +kernel
theorem d53_2 : decode (zB 53) 2 = .ok (.iload_n 2, 1) := by decide +kernel
theorem d53_3 : decode (zB 53) 3 = .ok (.invokevirtual 50, 3) := by decide +kernel
theorem d53_6 : decode (zB 53) 6 = .ok (.aload_n 0, 1) := by decide +kernel
theorem d53_7 : decode (zB 53) 7 = .ok (.getfield 29, 3) := by decide +kernel
theorem d53_10 : decode (zB 53) 10 = .ok (.bipush 116, 2) := by decide +kernel
theorem d53_12 : decode (zB 53) 12 = .ok (.aload_n 0, 1) := by decide +kernel
theorem d53_13 : decode (zB 53) 13 = .ok (.getfield 19, 3) := by decide +kernel
theorem d53_16 : decode (zB 53) 16 = .ok (.bipush 99, 2) := by decide +kernel
theorem d53_18 : decode (zB 53) 18 = .ok (.invokevirtual 63, 3) := by decide +kernel
theorem d53_21 : decode (zB 53) 21 = .ok (.ireturn, 1) := by decide +kernel
theorem d54_0 : decode (zB 54) 0 = .ok (.aload_n 1, 1) := by decide +kernel
theorem d54_1 : decode (zB 54) 1 = .ok (.getfield 67, 3) := by decide +kernel
theorem d54_4 : decode (zB 54) 4 = .ok (.iload_n 2, 1) := by decide +kernel
theorem d54_5 : decode (zB 54) 5 = .ok (.iaload, 1) := by decide +kernel
theorem d54_6 : decode (zB 54) 6 = .ok (.istore_n 3, 1) := by decide +kernel
theorem d54_7 : decode (zB 54) 7 = .ok (.aload_n 0, 1) := by decide +kernel
theorem d54_8 : decode (zB 54) 8 = .ok (.getfield 19, 3) := by decide +kernel
theorem d54_11 : decode (zB 54) 11 = .ok (.iconst 0, 1) := by decide +kernel
theorem d54_12 : decode (zB 54) 12 = .ok (.aload_n 1, 1) := by decide +kernel
theorem d54_13 : decode (zB 54) 13 = .ok (.getfield 72, 3) := by decide +kernel
theorem d54_16 : decode (zB 54) 16 = .ok (.iload_n 3, 1) := by decide +kernel
theorem d54_17 : decode (zB 54) 17 = .ok (.iaload, 1) := by decide +kernel
theorem d54_18 : decode (zB 54) 18 = .ok (.iastore, 1) := by decide +kernel
theorem d54_19 : decode (zB 54) 19 = .ok (.aload_n 0, 1) := by decide +kernel
theorem d54_20 : decode (zB 54) 20 = .ok (.getfield 19, 3) := by decide +kernel
theorem d54_23 : decode (zB 54) 23 = .ok (.iconst 1, 1) := by decide +kernel
theorem d54_24 : decode (zB 54) 24 = .ok (.aload_n 0, 1) := by decide +kernel
theorem d54_25 : decode (zB 54) 25 = .ok (.getfield 43, 3) := by decide +kernel
theorem d54_28 : decode (zB 54) 28 = .ok (.aload_n 1, 1) := by decide +kernel
theorem d54_29 : decode (zB 54) 29 = .ok (.getfield 72, 3) := by decide +kernel
theorem d54_32 : decode (zB 54) 32 = .ok (.iload_n 3, 1) := by decide +kernel
theorem d54_33 : decode (zB 54) 33 = .ok (.iaload, 1) := by decide +kernel
theorem d54_34 : decode (zB 54) 34 = .ok (.iaload, 1) := by decide +kernel
theorem d54_35 : decode (zB 54) 35 = .ok (.iastore, 1) := by decide +kernel
theorem d54_36 : decode (zB 54) 36 = .ok (.aload_n 0, 1) := by decide +kernel
theorem d54_37 : decode (zB 54) 37 = .ok (.getfield 19, 3) := by decide +kernel
theorem d54_40 : decode (zB 54) 40 = .ok (.iconst 2, 1) := by decide +kernel
theorem d54_41 : decode (zB 54) 41 = .ok (.aload_n 1, 1) := by decide +kernel
theorem d54_42 : decode (zB 54) 42 = .ok (.getfield 75, 3) := by decide +kernel
theorem d54_45 : decode (zB 54) 45 = .ok (.iload_n 3, 1) := by decide +kernel
theorem d54_46 : decode (zB 54) 46 = .ok (.iaload, 1) := by decide +kernel
theorem d54_47 : decode (zB 54) 47 = .ok (.iastore, 1) := by decide +kernel
theorem d54_48 : decode (zB 54) 48 = .ok (.aload_n 0, 1) := by decide +kernel
theorem d54_49 : decode (zB 54) 49 = .ok (.getfield 19, 3) := by decide +kernel
theorem d54_52 : decode (zB 54) 52 = .ok (.iconst 3, 1) := by decide +kernel
theorem d54_53 : decode (zB 54) 53 = .ok (.iload_n 3, 1) := by decide +kernel
theorem d54_54 : decode (zB 54) 54 = .ok (.iastore, 1) := by decide +kernel
theorem d54_55 : decode (zB 54) 55 = .ok (.aload_n 0, 1) := by decide +kernel
theorem d54_56 : decode (zB 54) 56 = .ok (.getfield 19, 3) := by decide +kernel
theorem d54_59 : decode (zB 54) 59 = .ok (.iconst 4, 1) := by decide +kernel
theorem d54_60 : decode (zB 54) 60 = .ok (.iload_n 2, 1) := by decide +kernel
theorem d54_61 : decode (zB 54) 61 = .ok (.iastore, 1) := by decide +kernel
theorem d54_62 : decode (zB 54) 62 = .ok (.aload_n 0, 1) := by decide +kernel
theorem d54_63 : decode (zB 54) 63 = .ok (.getfield 19, 3) := by decide +kernel
theorem d54_66 : decode (zB 54) 66 = .ok (.iconst 5, 1) := by decide +kernel
theorem d54_67 : decode (zB 54) 67 = .ok (.aload_n 1, 1) := by decide +kernel
theorem d54_68 : decode (zB 54) 68 = .ok (.getfield 78, 3) := by decide +kernel
theorem d54_71 : decode (zB 54) 71 = .ok (.iastore, 1) := by decide +kernel
theorem d54_72 : decode (zB 54) 72 = .ok (.aload_n 0, 1) := by decide +kernel
theorem d54_73 : decode (zB 54) 73 = .ok (.getfield 19, 3) := by decide +kernel
theorem d54_76 : decode (zB 54) 76 = .ok (.bipush 6, 2) := by decide +kernel
theorem d54_78 : decode (zB 54) 78 = .ok (.aload_n 1, 1) := by decide +kernel
theorem d54_79 : decode (zB 54) 79 = .ok (.getfield 81, 3) := by decide +kernel
theorem d54_82 : decode (zB 54) 82 = .ok (.iload_n 3, 1) := by decide +kernel
theorem d54_83 : decode (zB 54) 83 = .ok (.iaload, 1) := by decide +kernel
theorem d54_84 : decode (zB 54) 84 = .ok (.iastore, 1) := by decide +kernel
theorem d54_85 : decode (zB 54) 85 = .ok (.aload_n 0, 1) := by decide +kernel
theorem d54_86 : decode (zB 54) 86 = .ok (.getfield 19, 3) := by decide +kernel
theorem d54_89 : decode (zB 54) 89 = .ok (.bipush 7, 2) := by decide +kernel
theorem d54_91 : decode (zB 54) 91 = .ok (.aload_n 0, 1) := by decide +kernel
theorem d54_92 : decode (zB 54) 92 = .ok (.getfield 46, 3) := by decide +kernel
theorem d54_95 : decode (zB 54) 95 = .ok (.getfield 58, 3) := by decide +kernel
theorem d54_98 : decode (zB 54) 98 = .ok (.iastore, 1) := by decide +kernel
theorem d54_99 : decode (zB 54) 99 = .ok (.return_, 1) := by decide +kernel
theorem d55_0 : decode (zB 55) 0 = .ok (.aload_n 0, 1) := by decide +kernel
theorem d55_1 : decode (zB 55) 1 = .ok (.iconst 0, 1) := by decide +kernel
theorem d55_2 : decode (zB 55) 2 = .ok (.putfield 33, 3) := by decide +kernel
theorem d55_5 : decode (zB 55) 5 = .ok (.aload_n 0, 1) := by decide +kernel
theorem d55_6 : decode (zB 55) 6 = .ok (.iconst 0, 1) := by decide +kernel
theorem d55_7 : decode (zB 55) 7 = .ok (.putfield 37, 3) := by decide +kernel
theorem d55_10 : decode (zB 55) 10 = .ok (.aload_n 0, 1) := by decide +kernel
theorem d55_11 : decode (zB 55) 11 = .ok (.iconst 0, 1) := by decide +kernel
theorem d55_12 : decode (zB 55) 12 = .ok (.putfield 40, 3) := by decide +kernel
theorem d55_15 : decode (zB 55) 15 = .ok (.iconst 0, 1) := by decide +kernel
theorem d55_16 : decode (zB 55) 16 = .ok (.istore_n 3, 1) := by decide +kernel
theorem d55_17 : decode (zB 55) 17 = .ok (.iload_n 3, 1) := by decide +kernel
theorem d55_18 : decode (zB 55) 18 = .ok (.iload_n 2, 1) := by decide +kernel
theorem d55_19 : decode (zB 55) 19 = .ok (.if_icmp .ge 28, 3) := by decide +kernel
theorem d55_22 : decode (zB 55) 22 = .ok (.aload_n 1, 1) := by decide +kernel
theorem d55_23 : decode (zB 55) 23 = .ok (.invokevirtual 84, 3) := by decide +kernel
theorem d55_26 : decode (zB 55) 26 = .ok (.aload_n 0, 1) := by decide +kernel
theorem d55_27 : decode (zB 55) 27 = .ok (.aload_n 1, 1) := by decide +kernel
theorem d55_28 : decode (zB 55) 28 = .ok (.invokevirtual 87, 3) := by decide +kernel
theorem d55_31 : decode (zB 55) 31 = .ok (.aload_n 0, 1) := by decide +kernel
theorem d55_32 : decode (zB 55) 32 = .ok (.aload_n 1, 1) := by decide +kernel
theorem d55_33 : decode (zB 55) 33 = .ok (.invokevirtual 91, 3) := by decide +kernel
theorem d55_36 : decode (zB 55) 36 = .ok (.aload_n 0, 1) := by decide +kernel
theorem d55_37 : decode (zB 55) 37 = .ok (.aload_n 1, 1) := by decide +kernel
theorem d55_38 : decode (zB 55) 38 = .ok (.invokevirtual 94, 3) := by decide +kernel
theorem d55_41 : decode (zB 55) 41 = .ok (.iinc 3 1, 3) := by decide +kernel
theorem d55_44 : decode (zB 55) 44 = .ok (.goto (-27), 3) := by decide +kernel
theorem d55_47 : decode (zB 55) 47 = .ok (.return_, 1) := by decide +kernel
theorem d56_0 : decode (zB 56) 0 = .ok (.aload_n 1, 1) := by decide +kernel
theorem d56_1 : decode (zB 56) 1 = .ok (.invokevirtual 84, 3) := by decide +kernel
theorem d56_4 : decode (zB 56) 4 = .ok (.aload_n 0, 1) := by decide +kernel
theorem d56_5 : decode (zB 56) 5 = .ok (.aload_n 1, 1) := by decide +kernel
theorem d56_6 : decode (zB 56) 6 = .ok (.invokevirtual 87, 3) := by decide +kernel
theorem d56_9 : decode (zB 56) 9 = .ok (.aload_n 1, 1) := by decide +kernel
theorem d56_10 : decode (zB 56) 10 = .ok (.iload_n 2, 1) := by decide +kernel
theorem d56_11 : decode (zB 56) 11 = .ok (.invokevirtual 97, 3) := by decide +kernel
theorem d56_14 : decode (zB 56) 14 = .ok (.istore 4, 2) := by decide +kernel
theorem d56_16 : decode (zB 56) 16 = .ok (.iload 4, 2) := by decide +kernel
theorem d56_18 : decode (zB 56) 18 = .ok (.ifCond .lt 25, 3) := by decide +kernel
theorem d56_21 : decode (zB 56) 21 = .ok (.aload_n 0, 1) := by decide +kernel
theorem d56_22 : decode (zB 56) 22 = .ok (.getfield 25, 3) := by decide +kernel
theorem d56_25 : decode (zB 56) 25 = .ok (.iload 4, 2) := by decide +kernel
theorem d56_27 : decode (zB 56) 27 = .ok (.iaload, 1) := by decide +kernel
theorem d56_28 : decode (zB 56) 28 = .ok (.iconst (-1), 1) := by decide +kernel
theorem d56_29 : decode (zB 56) 29 = .ok (.if_icmp .eq 14, 3) := by decide +kernel
theorem d56_32 : decode (zB 56) 32 = .ok (.aload_n 0, 1) := by decide +kernel
theorem d56_33 : decode (zB 56) 33 = .ok (.getfield 25, 3) := by decide +kernel
theorem d56_36 : decode (zB 56) 36 = .ok (.iload 4, 2) := by decide +kernel
theorem d56_38 : decode (zB 56) 38 = .ok (.iaload, 1) := by decide +kernel
theorem d56_39 : decode (zB 56) 39 = .ok (.iload_n 3, 1) := by decide +kernel
theorem d56_40 : decode (zB 56) 40 = .ok (.if_icmp .ne 5, 3) := by decide +kernel
theorem d56_43 : decode (zB 56) 43 = .ok (.iconst 0, 1) := by decide +kernel
theorem d56_44 : decode (zB 56) 44 = .ok (.ireturn, 1) := by decide +kernel
theorem d56_45 : decode (zB 56) 45 = .ok (.aload_n 0, 1) := by decide +kernel
theorem d56_46 : decode (zB 56) 46 = .ok (.getfield 25, 3) := by decide +kernel
theorem d56_49 : decode (zB 56) 49 = .ok (.iload 4, 2) := by decide +kernel
theorem d56_51 : decode (zB 56) 51 = .ok (.iload_n 3, 1) := by decide +kernel
theorem d56_52 : decode (zB 56) 52 = .ok (.iastore, 1) := by decide +kernel
theorem d56_53 : decode (zB 56) 53 = .ok (.aload_n 0, 1) := by decide +kernel
theorem d56_54 : decode (zB 56) 54 = .ok (.aload_n 1, 1) := by decide +kernel
theorem d56_55 : decode (zB 56) 55 = .ok (.invokevirtual 94, 3) := by decide +kernel
theorem d56_58 : decode (zB 56) 58 = .ok (.iconst 1, 1) := by decide +kernel
theorem d56_59 : decode (zB 56) 59 = .ok (.ireturn, 1) := by decide +kernel
theorem d57_0 : decode (zB 57) 0 = .ok (.iconst 0, 1) := by decide +kernel
theorem d57_1 : decode (zB 57) 1 = .ok (.istore_n 2, 1) := by decide +kernel
theorem d57_2 : decode (zB 57) 2 = .ok (.iload_n 2, 1) := by decide +kernel
theorem d57_3 : decode (zB 57) 3 = .ok (.aload_n 1, 1) := by decide +kernel
theorem d57_4 : decode (zB 57) 4 = .ok (.getfield 101, 3) := by decide +kernel
theorem d57_7 : decode (zB 57) 7 = .ok (.if_icmp .ge 21, 3) := by decide +kernel
theorem d57_10 : decode (zB 57) 10 = .ok (.aload_n 0, 1) := by decide +kernel
theorem d57_11 : decode (zB 57) 11 = .ok (.getfield 25, 3) := by decide +kernel
theorem d57_14 : decode (zB 57) 14 = .ok (.iload_n 2, 1) := by decide +kernel
theorem d57_15 : decode (zB 57) 15 = .ok (.aload_n 0, 1) := by decide +kernel
theorem d57_16 : decode (zB 57) 16 = .ok (.aload_n 1, 1) := by decide +kernel
theorem d57_17 : decode (zB 57) 17 = .ok (.iload_n 2, 1) := by decide +kernel
theorem d57_18 : decode (zB 57) 18 = .ok (.invokevirtual 104, 3) := by decide +kernel
theorem d57_21 : decode (zB 57) 21 = .ok (.iastore, 1) := by decide +kernel
theorem d57_22 : decode (zB 57) 22 = .ok (.iinc 2 1, 3) := by decide +kernel
theorem d57_25 : decode (zB 57) 25 = .ok (.goto (-23), 3) := by decide +kernel
theorem d57_28 : decode (zB 57) 28 = .ok (.return_, 1) := by decide +kernel
theorem d58_0 : decode (zB 58) 0 = .ok (.iconst 0, 1) := by decide +kernel
theorem d58_1 : decode (zB 58) 1 = .ok (.istore_n 2, 1) := by decide +kernel
theorem d58_2 : decode (zB 58) 2 = .ok (.iload_n 2, 1) := by decide +kernel
theorem d58_3 : decode (zB 58) 3 = .ok (.aload_n 1, 1) := by decide +kernel
theorem d58_4 : decode (zB 58) 4 = .ok (.getfield 101, 3) := by decide +kernel
theorem d58_7 : decode (zB 58) 7 = .ok (.if_icmp .ge 64, 3) := by decide +kernel
theorem d58_10 : decode (zB 58) 10 = .ok (.aload_n 0, 1) := by decide +kernel
theorem d58_11 : decode (zB 58) 11 = .ok (.getfield 25, 3) := by decide +kernel
theorem d58_14 : decode (zB 58) 14 = .ok (.iload_n 2, 1) := by decide +kernel
theorem d58_15 : decode (zB 58) 15 = .ok (.iaload, 1) := by decide +kernel
theorem d58_16 : decode (zB 58) 16 = .ok (.iconst (-1), 1) := by decide +kernel
theorem d58_17 : decode (zB 58) 17 = .ok (.if_icmp .eq 48, 3) := by decide +kernel
theorem d58_20 : decode (zB 58) 20 = .ok (.aload_n 0, 1) := by decide +kernel
theorem d58_21 : decode (zB 58) 21 = .ok (.dup, 1) := by decide +kernel
theorem d58_22 : decode (zB 58) 22 = .ok (.getfield 33, 3) := by decide +kernel
theorem d58_25 : decode (zB 58) 25 = .ok (.aload_n 0, 1) := by decide +kernel
theorem d58_26 : decode (zB 58) 26 = .ok (.aload_n 1, 1) := by decide +kernel
theorem d58_27 : decode (zB 58) 27 = .ok (.iload_n 2, 1) := by decide +kernel
theorem d58_28 : decode (zB 58) 28 = .ok (.invokevirtual 108, 3) := by decide +kernel
theorem d58_31 : decode (zB 58) 31 = .ok (.iadd, 1) := by decide +kernel
theorem d58_32 : decode (zB 58) 32 = .ok (.putfield 33, 3) := by decide +kernel
theorem d58_35 : decode (zB 58) 35 = .ok (.aload_n 0, 1) := by decide +kernel
theorem d58_36 : decode (zB 58) 36 = .ok (.dup, 1) := by decide +kernel
theorem d58_37 : decode (zB 58) 37 = .ok (.getfield 37, 3) := by decide +kernel
theorem d58_40 : decode (zB 58) 40 = .ok (.aload_n 1, 1) := by decide +kernel
theorem d58_41 : decode (zB 58) 41 = .ok (.getfield 75, 3) := by decide +kernel
theorem d58_44 : decode (zB 58) 44 = .ok (.aload_n 1, 1) := by decide +kernel
theorem d58_45 : decode (zB 58) 45 = .ok (.getfield 67, 3) := by decide +kernel
theorem d58_48 : decode (zB 58) 48 = .ok (.iload_n 2, 1) := by decide +kernel
theorem d58_49 : decode (zB 58) 49 = .ok (.iaload, 1) := by decide +kernel
theorem d58_50 : decode (zB 58) 50 = .ok (.iaload, 1) := by decide +kernel
theorem d58_51 : decode (zB 58) 51 = .ok (.iadd, 1) := by decide +kernel
theorem d58_52 : decode (zB 58) 52 = .ok (.putfield 37, 3) := by decide +kernel
theorem d58_55 : decode (zB 58) 55 = .ok (.aload_n 0, 1) := by decide +kernel
theorem d58_56 : decode (zB 58) 56 = .ok (.dup, 1) := by decide +kernel
theorem d58_57 : decode (zB 58) 57 = .ok (.getfield 40, 3) := by decide +kernel
theorem d58_60 : decode (zB 58) 60 = .ok (.iconst 1, 1) := by decide +kernel
theorem d58_61 : decode (zB 58) 61 = .ok (.iadd, 1) := by decide +kernel
theorem d58_62 : decode (zB 58) 62 = .ok (.putfield 40, 3) := by decide +kernel
theorem d58_65 : decode (zB 58) 65 = .ok (.iinc 2 1, 3) := by decide +kernel
theorem d58_68 : decode (zB 58) 68 = .ok (.goto (-66), 3) := by decide +kernel
theorem d58_71 : decode (zB 58) 71 = .ok (.return_, 1) := by decide +kernel
theorem d59_0 : decode (zB 59) 0 = .ok (.iconst 0, 1) := by decide +kernel
theorem d59_1 : decode (zB 59) 1 = .ok (.istore_n 2, 1) := by decide +kernel
theorem d59_2 : decode (zB 59) 2 = .ok (.iload_n 2, 1) := by decide +kernel
theorem d59_3 : decode (zB 59) 3 = .ok (.aload_n 1, 1) := by decide +kernel
theorem d59_4 : decode (zB 59) 4 = .ok (.getfield 101, 3) := by decide +kernel
theorem d59_7 : decode (zB 59) 7 = .ok (.if_icmp .ge 36, 3) := by decide +kernel
theorem d59_10 : decode (zB 59) 10 = .ok (.aload_n 0, 1) := by decide +kernel
theorem d59_11 : decode (zB 59) 11 = .ok (.getfield 25, 3) := by decide +kernel
theorem d59_14 : decode (zB 59) 14 = .ok (.iload_n 2, 1) := by decide +kernel
theorem d59_15 : decode (zB 59) 15 = .ok (.iaload, 1) := by decide +kernel
theorem d59_16 : decode (zB 59) 16 = .ok (.iconst (-1), 1) := by decide +kernel
theorem d59_17 : decode (zB 59) 17 = .ok (.if_icmp .eq 20, 3) := by decide +kernel
theorem d59_20 : decode (zB 59) 20 = .ok (.aload_n 1, 1) := by decide +kernel
theorem d59_21 : decode (zB 59) 21 = .ok (.getfield 81, 3) := by decide +kernel
theorem d59_24 : decode (zB 59) 24 = .ok (.aload_n 1, 1) := by decide +kernel
theorem d59_25 : decode (zB 59) 25 = .ok (.getfield 67, 3) := by decide +kernel
theorem d59_28 : decode (zB 59) 28 = .ok (.iload_n 2, 1) := by decide +kernel
theorem d59_29 : decode (zB 59) 29 = .ok (.iaload, 1) := by decide +kernel
theorem d59_30 : decode (zB 59) 30 = .ok (.aload_n 0, 1) := by decide +kernel
theorem d59_31 : decode (zB 59) 31 = .ok (.getfield 25, 3) := by decide +kernel
theorem d59_34 : decode (zB 59) 34 = .ok (.iload_n 2, 1) := by decide +kernel
theorem d59_35 : decode (zB 59) 35 = .ok (.iaload, 1) := by decide +kernel
theorem d59_36 : decode (zB 59) 36 = .ok (.iastore, 1) := by decide +kernel
theorem d59_37 : decode (zB 59) 37 = .ok (.iinc 2 1, 3) := by decide +kernel
theorem d59_40 : decode (zB 59) 40 = .ok (.goto (-38), 3) := by decide +kernel
theorem d59_43 : decode (zB 59) 43 = .ok (.aload_n 0, 1) := by decide +kernel
theorem d59_44 : decode (zB 59) 44 = .ok (.getfield 46, 3) := by decide +kernel
theorem d59_47 : decode (zB 59) 47 = .ok (.aload_n 1, 1) := by decide +kernel
theorem d59_48 : decode (zB 59) 48 = .ok (.aload_n 0, 1) := by decide +kernel
theorem d59_49 : decode (zB 59) 49 = .ok (.getfield 25, 3) := by decide +kernel
theorem d59_52 : decode (zB 59) 52 = .ok (.invokevirtual 111, 3) := by decide +kernel
theorem d59_55 : decode (zB 59) 55 = .ok (.aload_n 1, 1) := by decide +kernel
theorem d59_56 : decode (zB 59) 56 = .ok (.dup, 1) := by decide +kernel
theorem d59_57 : decode (zB 59) 57 = .ok (.getfield 78, 3) := by decide +kernel
theorem d59_60 : decode (zB 59) 60 = .ok (.iconst 1, 1) := by decide +kernel
theorem d59_61 : decode (zB 59) 61 = .ok (.iadd, 1) := by decide +kernel
theorem d59_62 : decode (zB 59) 62 = .ok (.putfield 78, 3) := by decide +kernel
theorem d59_65 : decode (zB 59) 65 = .ok (.return_, 1) := by decide +kernel
theorem d60_0 : decode (zB 60) 0 = .ok (.aload_n 0, 1) := by decide +kernel
theorem d60_1 : decode (zB 60) 1 = .ok (.invokespecial 3, 3) := by decide +kernel
theorem d60_4 : decode (zB 60) 4 = .ok (.aload_n 0, 1) := by decide +kernel
theorem d60_5 : decode (zB 60) 5 = .ok (.bipush 32, 2) := by decide +kernel
theorem d60_7 : decode (zB 60) 7 = .ok (.newarray .int, 2) := by decide +kernel
theorem d60_9 : decode (zB 60) 9 = .ok (.putfield 9, 3) := by decide +kernel
theorem d60_12 : decode (zB 60) 12 = .ok (.aload_n 0, 1) := by decide +kernel
theorem d60_13 : decode (zB 60) 13 = .ok (.bipush 32, 2) := by decide +kernel
theorem d60_15 : decode (zB 60) 15 = .ok (.newarray .int, 2) := by decide +kernel
theorem d60_17 : decode (zB 60) 17 = .ok (.putfield 15, 3) := by decide +kernel
theorem d60_20 : decode (zB 60) 20 = .ok (.aload_n 0, 1) := by decide +kernel
theorem d60_21 : decode (zB 60) 21 = .ok (.bipush 32, 2) := by decide +kernel
theorem d60_23 : decode (zB 60) 23 = .ok (.newarray .int, 2) := by decide +kernel
theorem d60_25 : decode (zB 60) 25 = .ok (.putfield 18, 3) := by decide +kernel
theorem d60_28 : decode (zB 60) 28 = .ok (.aload_n 0, 1) := by decide +kernel
theorem d60_29 : decode (zB 60) 29 = .ok (.bipush 32, 2) := by decide +kernel
theorem d60_31 : decode (zB 60) 31 = .ok (.newarray .int, 2) := by decide +kernel
theorem d60_33 : decode (zB 60) 33 = .ok (.putfield 21, 3) := by decide +kernel
theorem d60_36 : decode (zB 60) 36 = .ok (.aload_n 0, 1) := by decide +kernel
theorem d60_37 : decode (zB 60) 37 = .ok (.bipush 32, 2) := by decide +kernel
theorem d60_39 : decode (zB 60) 39 = .ok (.newarray .int, 2) := by decide +kernel
theorem d60_41 : decode (zB 60) 41 = .ok (.putfield 24, 3) := by decide +kernel
theorem d60_44 : decode (zB 60) 44 = .ok (.aload_n 0, 1) := by decide +kernel
theorem d60_45 : decode (zB 60) 45 = .ok (.iconst 0, 1) := by decide +kernel
theorem d60_46 : decode (zB 60) 46 = .ok (.putfield 27, 3) := by decide +kernel
theorem d60_49 : decode (zB 60) 49 = .ok (.aload_n 0, 1) := by decide +kernel
theorem d60_50 : decode (zB 60) 50 = .ok (.iconst 0, 1) := by decide +kernel
theorem d60_51 : decode (zB 60) 51 = .ok (.putfield 31, 3) := by decide +kernel
theorem d60_54 : decode (zB 60) 54 = .ok (.aload_n 0, 1) := by decide +kernel
theorem d60_55 : decode (zB 60) 55 = .ok (.iconst 0, 1) := by decide +kernel
theorem d60_56 : decode (zB 60) 56 = .ok (.putfield 34, 3) := by decide +kernel
theorem d60_59 : decode (zB 60) 59 = .ok (.aload_n 0, 1) := by decide +kernel
theorem d60_60 : decode (zB 60) 60 = .ok (.iconst 1, 1) := by decide +kernel
theorem d60_61 : decode (zB 60) 61 = .ok (.putfield 37, 3) := by decide +kernel
theorem d60_64 : decode (zB 60) 64 = .ok (.return_, 1) := by decide +kernel
theorem d61_0 : decode (zB 61) 0 = .ok (.aload_n 1, 1) := by decide +kernel
theorem d61_1 : decode (zB 61) 1 = .ok (.getfield 9, 3) := by decide +kernel
theorem d61_4 : decode (zB 61) 4 = .ok (.iconst 0, 1) := by decide +kernel
theorem d61_5 : decode (zB 61) 5 = .ok (.aload_n 0, 1) := by decide +kernel
theorem d61_6 : decode (zB 61) 6 = .ok (.getfield 9, 3) := by decide +kernel
theorem d61_9 : decode (zB 61) 9 = .ok (.iconst 0, 1) := by decide +kernel
theorem d61_10 : decode (zB 61) 10 = .ok (.bipush 32, 2) := by decide +kernel
theorem d61_12 : decode (zB 61) 12 = .ok (.invokestatic 40, 3) := by decide +kernel
theorem d61_15 : decode (zB 61) 15 = .ok (.aload_n 1, 1) := by decide +kernel
theorem d61_16 : decode (zB 61) 16 = .ok (.getfield 15, 3) := by decide +kernel
theorem d61_19 : decode (zB 61) 19 = .ok (.iconst 0, 1) := by decide +kernel
theorem d61_20 : decode (zB 61) 20 = .ok (.aload_n 0, 1) := by decide +kernel
theorem d61_21 : decode (zB 61) 21 = .ok (.getfield 15, 3) := by decide +kernel
theorem d61_24 : decode (zB 61) 24 = .ok (.iconst 0, 1) := by decide +kernel
theorem d61_25 : decode (zB 61) 25 = .ok (.bipush 32, 2) := by decide +kernel
theorem d61_27 : decode (zB 61) 27 = .ok (.invokestatic 40, 3) := by decide +kernel
theorem d61_30 : decode (zB 61) 30 = .ok (.aload_n 1, 1) := by decide +kernel
theorem d61_31 : decode (zB 61) 31 = .ok (.getfield 18, 3) := by decide +kernel
theorem d61_34 : decode (zB 61) 34 = .ok (.iconst 0, 1) := by decide +kernel
theorem d61_35 : decode (zB 61) 35 = .ok (.aload_n 0, 1) := by decide +kernel
theorem d61_36 : decode (zB 61) 36 = .ok (.getfield 18, 3) := by decide +kernel
theorem d61_39 : decode (zB 61) 39 = .ok (.iconst 0, 1) := by decide +kernel
theorem d61_40 : decode (zB 61) 40 = .ok (.bipush 32, 2) := by decide +kernel
theorem d61_42 : decode (zB 61) 42 = .ok (.invokestatic 40, 3) := by decide +kernel
theorem d61_45 : decode (zB 61) 45 = .ok (.aload_n 0, 1) := by decide +kernel
theorem d61_46 : decode (zB 61) 46 = .ok (.aload_n 1, 1) := by decide +kernel
theorem d61_47 : decode (zB 61) 47 = .ok (.getfield 27, 3) := by decide +kernel
theorem d61_50 : decode (zB 61) 50 = .ok (.putfield 27, 3) := by decide +kernel
theorem d61_53 : decode (zB 61) 53 = .ok (.aload_n 0, 1) := by decide +kernel
theorem d61_54 : decode (zB 61) 54 = .ok (.aload_n 1, 1) := by decide +kernel
theorem d61_55 : decode (zB 61) 55 = .ok (.getfield 37, 3) := by decide +kernel
theorem d61_58 : decode (zB 61) 58 = .ok (.putfield 37, 3) := by decide +kernel
theorem d61_61 : decode (zB 61) 61 = .ok (.aload_n 0, 1) := by decide +kernel
theorem d61_62 : decode (zB 61) 62 = .ok (.aload_n 1, 1) := by decide +kernel
theorem d61_63 : decode (zB 61) 63 = .ok (.invokevirtual 46, 3) := by decide +kernel
theorem d61_66 : decode (zB 61) 66 = .ok (.return_, 1) := by decide +kernel
theorem d62_0 : decode (zB 62) 0 = .ok (.aload_n 1, 1) := by decide +kernel
theorem d62_1 : decode (zB 62) 1 = .ok (.getfield 21, 3) := by decide +kernel
theorem d62_4 : decode (zB 62) 4 = .ok (.iconst 0, 1) := by decide +kernel
theorem d62_5 : decode (zB 62) 5 = .ok (.aload_n 0, 1) := by decide +kernel
theorem d62_6 : decode (zB 62) 6 = .ok (.getfield 21, 3) := by decide +kernel
theorem d62_9 : decode (zB 62) 9 = .ok (.iconst 0, 1) := by decide +kernel
theorem d62_10 : decode (zB 62) 10 = .ok (.bipush 32, 2) := by decide +kernel
theorem d62_12 : decode (zB 62) 12 = .ok (.invokestatic 40, 3) := by decide +kernel
theorem d62_15 : decode (zB 62) 15 = .ok (.aload_n 1, 1) := by decide +kernel
theorem d62_16 : decode (zB 62) 16 = .ok (.getfield 24, 3) := by decide +kernel
theorem d62_19 : decode (zB 62) 19 = .ok (.iconst 0, 1) := by decide +kernel
theorem d62_20 : decode (zB 62) 20 = .ok (.aload_n 0, 1) := by decide +kernel
theorem d62_21 : decode (zB 62) 21 = .ok (.getfield 24, 3) := by decide +kernel
theorem d62_24 : decode (zB 62) 24 = .ok (.iconst 0, 1) := by decide +kernel
theorem d62_25 : decode (zB 62) 25 = .ok (.bipush 32, 2) := by decide +kernel
theorem d62_27 : decode (zB 62) 27 = .ok (.invokestatic 40, 3) := by decide +kernel
theorem d62_30 : decode (zB 62) 30 = .ok (.aload_n 0, 1) := by decide +kernel
theorem d62_31 : decode (zB 62) 31 = .ok (.aload_n 1, 1) := by decide +kernel
theorem d62_32 : decode (zB 62) 32 = .ok (.getfield 31, 3) := by decide +kernel
theorem d62_35 : decode (zB 62) 35 = .ok (.putfield 31, 3) := by decide +kernel
theorem d62_38 : decode (zB 62) 38 = .ok (.aload_n 0, 1) := by decide +kernel
theorem d62_39 : decode (zB 62) 39 = .ok (.aload_n 1, 1) := by decide +kernel
theorem d62_40 : decode (zB 62) 40 = .ok (.getfield 34, 3) := by decide +kernel
theorem d62_43 : decode (zB 62) 43 = .ok (.putfield 34, 3) := by decide +kernel
theorem d62_46 : decode (zB 62) 46 = .ok (.return_, 1) := by decide +kernel
theorem d63_0 : decode (zB 63) 0 = .ok (.aload_n 0, 1) := by decide +kernel
theorem d63_1 : decode (zB 63) 1 = .ok (.getfield 27, 3) := by decide +kernel
theorem d63_4 : decode (zB 63) 4 = .ok (.istore 4, 2) := by decide +kernel
theorem d63_6 : decode (zB 63) 6 = .ok (.iload 4, 2) := by decide +kernel
theorem d63_8 : decode (zB 63) 8 = .ok (.bipush 32, 2) := by decide +kernel
theorem d63_10 : decode (zB 63) 10 = .ok (.if_icmp .lt 5, 3) := by decide +kernel
theorem d63_13 : decode (zB 63) 13 = .ok (.iconst (-1), 1) := by decide +kernel
theorem d63_14 : decode (zB 63) 14 = .ok (.ireturn, 1) := by decide +kernel
theorem d63_15 : decode (zB 63) 15 = .ok (.aload_n 0, 1) := by decide +kernel
theorem d63_16 : decode (zB 63) 16 = .ok (.getfield 9, 3) := by decide +kernel
theorem d63_19 : decode (zB 63) 19 = .ok (.iload 4, 2) := by decide +kernel
theorem d63_21 : decode (zB 63) 21 = .ok (.iload_n 1, 1) := by decide +kernel
theorem d63_22 : decode (zB 63) 22 = .ok (.iastore, 1) := by decide +kernel
theorem d63_23 : decode (zB 63) 23 = .ok (.aload_n 0, 1) := by decide +kernel
theorem d63_24 : decode (zB 63) 24 = .ok (.getfield 15, 3) := by decide +kernel
theorem d63_27 : decode (zB 63) 27 = .ok (.iload 4, 2) := by decide +kernel
theorem d63_29 : decode (zB 63) 29 = .ok (.iload_n 2, 1) := by decide +kernel
theorem d63_30 : decode (zB 63) 30 = .ok (.iastore, 1) := by decide +kernel
theorem d63_31 : decode (zB 63) 31 = .ok (.aload_n 0, 1) := by decide +kernel
theorem d63_32 : decode (zB 63) 32 = .ok (.getfield 18, 3) := by decide +kernel
theorem d63_35 : decode (zB 63) 35 = .ok (.iload 4, 2) := by decide +kernel
theorem d63_37 : decode (zB 63) 37 = .ok (.iload_n 3, 1) := by decide +kernel
theorem d63_38 : decode (zB 63) 38 = .ok (.iastore, 1) := by decide +kernel
theorem d63_39 : decode (zB 63) 39 = .ok (.aload_n 0, 1) := by decide +kernel
theorem d63_40 : decode (zB 63) 40 = .ok (.getfield 21, 3) := by decide +kernel
theorem d63_43 : decode (zB 63) 43 = .ok (.iload 4, 2) := by decide +kernel
theorem d63_45 : decode (zB 63) 45 = .ok (.bipush 9, 2) := by decide +kernel
theorem d63_47 : decode (zB 63) 47 = .ok (.iastore, 1) := by decide +kernel
theorem d63_48 : decode (zB 63) 48 = .ok (.aload_n 0, 1) := by decide +kernel
theorem d63_49 : decode (zB 63) 49 = .ok (.dup, 1) := by decide +kernel
theorem d63_50 : decode (zB 63) 50 = .ok (.getfield 27, 3) := by decide +kernel
theorem d63_53 : decode (zB 63) 53 = .ok (.iconst 1, 1) := by decide +kernel
theorem d63_54 : decode (zB 63) 54 = .ok (.iadd, 1) := by decide +kernel
theorem d63_55 : decode (zB 63) 55 = .ok (.putfield 27, 3) := by decide +kernel
theorem d63_58 : decode (zB 63) 58 = .ok (.iload_n 3, 1) := by decide +kernel
theorem d63_59 : decode (zB 63) 59 = .ok (.ifCond .ne 9, 3) := by decide +kernel
theorem d63_62 : decode (zB 63) 62 = .ok (.aload_n 0, 1) := by decide +kernel
theorem d63_63 : decode (zB 63) 63 = .ok (.iload 4, 2) := by decide +kernel
theorem d63_65 : decode (zB 63) 65 = .ok (.invokevirtual 50, 3) := by decide +kernel
theorem d63_68 : decode (zB 63) 68 = .ok (.iload 4, 2) := by decide +kernel
theorem d63_70 : decode (zB 63) 70 = .ok (.ireturn, 1) := by decide +kernel
theorem d64_0 : decode (zB 64) 0 = .ok (.aload_n 0, 1) := by decide +kernel
theorem d64_1 : decode (zB 64) 1 = .ok (.getfield 31, 3) := by decide +kernel
theorem d64_4 : decode (zB 64) 4 = .ok (.bipush 32, 2) := by decide +kernel
theorem d64_6 : decode (zB 64) 6 = .ok (.if_icmp .ge 23, 3) := by decide +kernel
theorem d64_9 : decode (zB 64) 9 = .ok (.aload_n 0, 1) := by decide +kernel
theorem d64_10 : decode (zB 64) 10 = .ok (.getfield 24, 3) := by decide +kernel
theorem d64_13 : decode (zB 64) 13 = .ok (.aload_n 0, 1) := by decide +kernel
theorem d64_14 : decode (zB 64) 14 = .ok (.getfield 31, 3) := by decide +kernel
theorem d64_17 : decode (zB 64) 17 = .ok (.iload_n 1, 1) := by decide +kernel
theorem d64_18 : decode (zB 64) 18 = .ok (.iastore, 1) := by decide +kernel
theorem d64_19 : decode (zB 64) 19 = .ok (.aload_n 0, 1) := by decide +kernel
theorem d64_20 : decode (zB 64) 20 = .ok (.dup, 1) := by decide +kernel
theorem d64_21 : decode (zB 64) 21 = .ok (.getfield 31, 3) := by decide +kernel
theorem d64_24 : decode (zB 64) 24 = .ok (.iconst 1, 1) := by decide +kernel
theorem d64_25 : decode (zB 64) 25 = .ok (.iadd, 1) := by decide +kernel
theorem d64_26 : decode (zB 64) 26 = .ok (.putfield 31, 3) := by decide +kernel
theorem d64_29 : decode (zB 64) 29 = .ok (.return_, 1) := by decide +kernel
theorem d65_0 : decode (zB 65) 0 = .ok (.iconst 0, 1) := by decide +kernel
theorem d65_1 : decode (zB 65) 1 = .ok (.istore_n 1, 1) := by decide +kernel
theorem d65_2 : decode (zB 65) 2 = .ok (.iload_n 1, 1) := by decide +kernel
theorem d65_3 : decode (zB 65) 3 = .ok (.aload_n 0, 1) := by decide +kernel
theorem d65_4 : decode (zB 65) 4 = .ok (.getfield 27, 3) := by decide +kernel
theorem d65_7 : decode (zB 65) 7 = .ok (.if_icmp .ge 40, 3) := by decide +kernel
theorem d65_10 : decode (zB 65) 10 = .ok (.aload_n 0, 1) := by decide +kernel
theorem d65_11 : decode (zB 65) 11 = .ok (.getfield 31, 3) := by decide +kernel
theorem d65_14 : decode (zB 65) 14 = .ok (.aload_n 0, 1) := by decide +kernel
theorem d65_15 : decode (zB 65) 15 = .ok (.getfield 27, 3) := by decide +kernel
theorem d65_18 : decode (zB 65) 18 = .ok (.if_icmp .ge 29, 3) := by decide +kernel
theorem d65_21 : decode (zB 65) 21 = .ok (.aload_n 0, 1) := by decide +kernel
theorem d65_22 : decode (zB 65) 22 = .ok (.getfield 18, 3) := by decide +kernel
theorem d65_25 : decode (zB 65) 25 = .ok (.iload_n 1, 1) := by decide +kernel
theorem d65_26 : decode (zB 65) 26 = .ok (.iaload, 1) := by decide +kernel
theorem d65_27 : decode (zB 65) 27 = .ok (.aload_n 0, 1) := by decide +kernel
theorem d65_28 : decode (zB 65) 28 = .ok (.getfield 34, 3) := by decide +kernel
theorem d65_31 : decode (zB 65) 31 = .ok (.iconst 1, 1) := by decide +kernel
theorem d65_32 : decode (zB 65) 32 = .ok (.iadd, 1) := by decide +kernel
theorem d65_33 : decode (zB 65) 33 = .ok (.if_icmp .ne 8, 3) := by decide +kernel
theorem d65_36 : decode (zB 65) 36 = .ok (.aload_n 0, 1) := by decide +kernel
theorem d65_37 : decode (zB 65) 37 = .ok (.iload_n 1, 1) := by decide +kernel
theorem d65_38 : decode (zB 65) 38 = .ok (.invokevirtual 50, 3) := by decide +kernel
theorem d65_41 : decode (zB 65) 41 = .ok (.iinc 1 1, 3) := by decide +kernel
theorem d65_44 : decode (zB 65) 44 = .ok (.goto (-42), 3) := by decide +kernel
theorem d65_47 : decode (zB 65) 47 = .ok (.return_, 1) := by decide +kernel
theorem d66_0 : decode (zB 66) 0 = .ok (.iconst 0, 1) := by decide +kernel
theorem d66_1 : decode (zB 66) 1 = .ok (.istore_n 2, 1) := by decide +kernel
theorem d66_2 : decode (zB 66) 2 = .ok (.iload_n 2, 1) := by decide +kernel
theorem d66_3 : decode (zB 66) 3 = .ok (.aload_n 0, 1) := by decide +kernel
theorem d66_4 : decode (zB 66) 4 = .ok (.getfield 31, 3) := by decide +kernel
theorem d66_7 : decode (zB 66) 7 = .ok (.if_icmp .ge 21, 3) := by decide +kernel
theorem d66_10 : decode (zB 66) 10 = .ok (.aload_n 0, 1) := by decide +kernel
theorem d66_11 : decode (zB 66) 11 = .ok (.getfield 24, 3) := by decide +kernel
theorem d66_14 : decode (zB 66) 14 = .ok (.iload_n 2, 1) := by decide +kernel
theorem d66_15 : decode (zB 66) 15 = .ok (.iaload, 1) := by decide +kernel
theorem d66_16 : decode (zB 66) 16 = .ok (.iload_n 1, 1) := by decide +kernel
theorem d66_17 : decode (zB 66) 17 = .ok (.if_icmp .ne 5, 3) := by decide +kernel
theorem d66_20 : decode (zB 66) 20 = .ok (.iload_n 2, 1) := by decide +kernel
theorem d66_21 : decode (zB 66) 21 = .ok (.ireturn, 1) := by decide +kernel
theorem d66_22 : decode (zB 66) 22 = .ok (.iinc 2 1, 3) := by decide +kernel
theorem d66_25 : decode (zB 66) 25 = .ok (.goto (-23), 3) := by decide +kernel
theorem d66_28 : decode (zB 66) 28 = .ok (.iconst (-1), 1) := by decide +kernel
theorem d66_29 : decode (zB 66) 29 = .ok (.ireturn, 1) := by decide +kernel
theorem d67_0 : decode (zB 67) 0 = .ok (.aload_n 0, 1) := by decide +kernel
theorem d67_1 : decode (zB 67) 1 = .ok (.getfield 9, 3) := by decide +kernel
theorem d67_4 : decode (zB 67) 4 = .ok (.aload_n 0, 1) := by decide +kernel
theorem d67_5 : decode (zB 67) 5 = .ok (.getfield 24, 3) := by decide +kernel
theorem d67_8 : decode (zB 67) 8 = .ok (.iload_n 1, 1) := by decide +kernel
theorem d67_9 : decode (zB 67) 9 = .ok (.iaload, 1) := by decide +kernel
theorem d67_10 : decode (zB 67) 10 = .ok (.iaload, 1) := by decide +kernel
theorem d67_11 : decode (zB 67) 11 = .ok (.ireturn, 1) := by decide +kernel
theorem d68_0 : decode (zB 68) 0 = .ok (.iconst 0, 1) := by decide +kernel
theorem d68_1 : decode (zB 68) 1 = .ok (.istore_n 3, 1) := by decide +kernel
theorem d68_2 : decode (zB 68) 2 = .ok (.iconst 0, 1) := by decide +kernel
theorem d68_3 : decode (zB 68) 3 = .ok (.istore 4, 2) := by decide +kernel
theorem d68_5 : decode (zB 68) 5 = .ok (.iload 4, 2) := by decide +kernel
theorem d68_7 : decode (zB 68) 7 = .ok (.aload_n 0, 1) := by decide +kernel
theorem d68_8 : decode (zB 68) 8 = .ok (.getfield 31, 3) := by decide +kernel
theorem d68_11 : decode (zB 68) 11 = .ok (.if_icmp .ge 40, 3) := by decide +kernel
theorem d68_14 : decode (zB 68) 14 = .ok (.aload_n 0, 1) := by decide +kernel
theorem d68_15 : decode (zB 68) 15 = .ok (.getfield 24, 3) := by decide +kernel
theorem d68_18 : decode (zB 68) 18 = .ok (.iload 4, 2) := by decide +kernel
theorem d68_20 : decode (zB 68) 20 = .ok (.iaload, 1) := by decide +kernel
theorem d68_21 : decode (zB 68) 21 = .ok (.aload_n 1, 1) := by decide +kernel
theorem d68_22 : decode (zB 68) 22 = .ok (.getfield 24, 3) := by decide +kernel
theorem d68_25 : decode (zB 68) 25 = .ok (.iload 4, 2) := by decide +kernel
theorem d68_27 : decode (zB 68) 27 = .ok (.iaload, 1) := by decide +kernel
theorem d68_28 : decode (zB 68) 28 = .ok (.if_icmp .eq 17, 3) := by decide +kernel
theorem d68_31 : decode (zB 68) 31 = .ok (.aload_n 0, 1) := by decide +kernel
theorem d68_32 : decode (zB 68) 32 = .ok (.getfield 24, 3) := by decide +kernel
theorem d68_35 : decode (zB 68) 35 = .ok (.iload 4, 2) := by decide +kernel
theorem d68_37 : decode (zB 68) 37 = .ok (.iaload, 1) := by decide +kernel
theorem d68_38 : decode (zB 68) 38 = .ok (.iload_n 2, 1) := by decide +kernel
theorem d68_39 : decode (zB 68) 39 = .ok (.if_icmp .eq 6, 3) := by decide +kernel
theorem d68_42 : decode (zB 68) 42 = .ok (.iinc 3 1, 3) := by decide +kernel
theorem d68_45 : decode (zB 68) 45 = .ok (.iinc 4 1, 3) := by decide +kernel
theorem d68_48 : decode (zB 68) 48 = .ok (.goto (-43), 3) := by decide +kernel
theorem d68_51 : decode (zB 68) 51 = .ok (.iload_n 3, 1) := by decide +kernel
theorem d68_52 : decode (zB 68) 52 = .ok (.ireturn, 1) := by decide +kernel
theorem d69_0 : decode (zB 69) 0 = .ok (.iconst 0, 1) := by decide +kernel
theorem d69_1 : decode (zB 69) 1 = .ok (.istore_n 1, 1) := by decide +kernel
theorem d69_2 : decode (zB 69) 2 = .ok (.iconst 0, 1) := by decide +kernel
theorem d69_3 : decode (zB 69) 3 = .ok (.istore_n 2, 1) := by decide +kernel
theorem d69_4 : decode (zB 69) 4 = .ok (.iload_n 2, 1) := by decide +kernel
theorem d69_5 : decode (zB 69) 5 = .ok (.aload_n 0, 1) := by decide +kernel
theorem d69_6 : decode (zB 69) 6 = .ok (.getfield 31, 3) := by decide +kernel
theorem d69_9 : decode (zB 69) 9 = .ok (.if_icmp .ge 19, 3) := by decide +kernel
theorem d69_12 : decode (zB 69) 12 = .ok (.iload_n 1, 1) := by decide +kernel
theorem d69_13 : decode (zB 69) 13 = .ok (.iconst 1, 1) := by decide +kernel
theorem d69_14 : decode (zB 69) 14 = .ok (.aload_n 0, 1) := by decide +kernel
theorem d69_15 : decode (zB 69) 15 = .ok (.iload_n 2, 1) := by decide +kernel
theorem d69_16 : decode (zB 69) 16 = .ok (.invokevirtual 54, 3) := by decide +kernel
theorem d69_19 : decode (zB 69) 19 = .ok (.ishl, 1) := by decide +kernel
theorem d69_20 : decode (zB 69) 20 = .ok (.ior, 1) := by decide +kernel
theorem d69_21 : decode (zB 69) 21 = .ok (.istore_n 1, 1) := by decide +kernel
theorem d69_22 : decode (zB 69) 22 = .ok (.iinc 2 1, 3) := by decide +kernel
theorem d69_25 : decode (zB 69) 25 = .ok (.goto (-21), 3) := by decide +kernel
theorem d69_28 : decode (zB 69) 28 = .ok (.iload_n 1, 1) := by decide +kernel
theorem d69_29 : decode (zB 69) 29 = .ok (.ireturn, 1) := by decide +kernel
theorem d70_0 : decode (zB 70) 0 = .ok (.iconst 0, 1) := by decide +kernel
theorem d70_1 : decode (zB 70) 1 = .ok (.istore_n 1, 1) := by decide +kernel
theorem d70_2 : decode (zB 70) 2 = .ok (.iconst 0, 1) := by decide +kernel
theorem d70_3 : decode (zB 70) 3 = .ok (.istore_n 2, 1) := by decide +kernel
theorem d70_4 : decode (zB 70) 4 = .ok (.iload_n 2, 1) := by decide +kernel
theorem d70_5 : decode (zB 70) 5 = .ok (.aload_n 0, 1) := by decide +kernel
theorem d70_6 : decode (zB 70) 6 = .ok (.getfield 31, 3) := by decide +kernel
theorem d70_9 : decode (zB 70) 9 = .ok (.if_icmp .ge 23, 3) := by decide +kernel
theorem d70_12 : decode (zB 70) 12 = .ok (.iload_n 1, 1) := by decide +kernel
theorem d70_13 : decode (zB 70) 13 = .ok (.aload_n 0, 1) := by decide +kernel
theorem d70_14 : decode (zB 70) 14 = .ok (.getfield 15, 3) := by decide +kernel
theorem d70_17 : decode (zB 70) 17 = .ok (.aload_n 0, 1) := by decide +kernel
theorem d70_18 : decode (zB 70) 18 = .ok (.getfield 24, 3) := by decide +kernel
theorem d70_21 : decode (zB 70) 21 = .ok (.iload_n 2, 1) := by decide +kernel
theorem d70_22 : decode (zB 70) 22 = .ok (.iaload, 1) := by decide +kernel
theorem d70_23 : decode (zB 70) 23 = .ok (.iaload, 1) := by decide +kernel
theorem d70_24 : decode (zB 70) 24 = .ok (.iadd, 1) := by decide +kernel
theorem d70_25 : decode (zB 70) 25 = .ok (.istore_n 1, 1) := by decide +kernel
theorem d70_26 : decode (zB 70) 26 = .ok (.iinc 2 1, 3) := by decide +kernel
theorem d70_29 : decode (zB 70) 29 = .ok (.goto (-25), 3) := by decide +kernel
theorem d70_32 : decode (zB 70) 32 = .ok (.iload_n 1, 1) := by decide +kernel
theorem d70_33 : decode (zB 70) 33 = .ok (.ireturn, 1) := by decide +kernel
theorem d71_0 : decode (zB 71) 0 = .ok (.aload_n 0, 1) := by decide +kernel
theorem d71_1 : decode (zB 71) 1 = .ok (.invokespecial 3, 3) := by decide +kernel
theorem d71_4 : decode (zB 71) 4 = .ok (.aload_n 0, 1) := by decide +kernel
theorem d71_5 : decode (zB 71) 5 = .ok (.bipush 21, 2) := by decide +kernel
theorem d71_7 : decode (zB 71) 7 = .ok (.newarray .int, 2) := by decide +kernel
theorem d71_9 : decode (zB 71) 9 = .ok (.putfield 9, 3) := by decide +kernel
theorem d71_12 : decode (zB 71) 12 = .ok (.aload_n 0, 1) := by decide +kernel
theorem d71_13 : decode (zB 71) 13 = .ok (.bipush 21, 2) := by decide +kernel
theorem d71_15 : decode (zB 71) 15 = .ok (.newarray .int, 2) := by decide +kernel
theorem d71_17 : decode (zB 71) 17 = .ok (.putfield 15, 3) := by decide +kernel
theorem d71_20 : decode (zB 71) 20 = .ok (.aload_n 0, 1) := by decide +kernel
theorem d71_21 : decode (zB 71) 21 = .ok (.bipush 10, 2) := by decide +kernel
theorem d71_23 : decode (zB 71) 23 = .ok (.bipush 21, 2) := by decide +kernel
theorem d71_25 : decode (zB 71) 25 = .ok (.multianewarray 18 2, 4) := by decide +kernel
theorem d71_29 : decode (zB 71) 29 = .ok (.putfield 20, 3) := by decide +kernel
theorem d71_32 : decode (zB 71) 32 = .ok (.aload_n 0, 1) := by decide +kernel
theorem d71_33 : decode (zB 71) 33 = .ok (.bipush 20, 2) := by decide +kernel
theorem d71_35 : decode (zB 71) 35 = .ok (.bipush 20, 2) := by decide +kernel
theorem d71_37 : decode (zB 71) 37 = .ok (.multianewarray 18 2, 4) := by decide +kernel
theorem d71_41 : decode (zB 71) 41 = .ok (.putfield 23, 3) := by decide +kernel
theorem d71_44 : decode (zB 71) 44 = .ok (.aload_n 0, 1) := by decide +kernel
theorem d71_45 : decode (zB 71) 45 = .ok (.bipush 20, 2) := by decide +kernel
theorem d71_47 : decode (zB 71) 47 = .ok (.bipush 20, 2) := by decide +kernel
theorem d71_49 : decode (zB 71) 49 = .ok (.multianewarray 18 2, 4) := by decide +kernel
theorem d71_53 : decode (zB 71) 53 = .ok (.putfield 26, 3) := by decide +kernel
theorem d71_56 : decode (zB 71) 56 = .ok (.aload_n 0, 1) := by decide +kernel
theorem d71_57 : decode (zB 71) 57 = .ok (.aload_n 1, 1) := by decide +kernel
theorem d71_58 : decode (zB 71) 58 = .ok (.putfield 29, 3) := by decide +kernel
theorem d71_61 : decode (zB 71) 61 = .ok (.return_, 1) := by decide +kernel
theorem d72_0 : decode (zB 72) 0 = .ok (.aload_n 0, 1) := by decide +kernel
theorem d72_1 : decode (zB 72) 1 = .ok (.aload_n 1, 1) := by decide +kernel
theorem d72_2 : decode (zB 72) 2 = .ok (.invokevirtual 33, 3) := by decide +kernel
theorem d72_5 : decode (zB 72) 5 = .ok (.aload_n 0, 1) := by decide +kernel
theorem d72_6 : decode (zB 72) 6 = .ok (.iload_n 2, 1) := by decide +kernel
theorem d72_7 : decode (zB 72) 7 = .ok (.iload_n 3, 1) := by decide +kernel
theorem d72_8 : decode (zB 72) 8 = .ok (.invokevirtual 37, 3) := by decide +kernel
theorem d72_11 : decode (zB 72) 11 = .ok (.ifCond .eq 5, 3) := by decide +kernel
theorem d72_14 : decode (zB 72) 14 = .ok (.iconst 0, 1) := by decide +kernel
theorem d72_15 : decode (zB 72) 15 = .ok (.ireturn, 1) := by decide +kernel
theorem d72_16 : decode (zB 72) 16 = .ok (.iload_n 2, 1) := by decide +kernel
theorem d72_17 : decode (zB 72) 17 = .ok (.istore 5, 2) := by decide +kernel
theorem d72_19 : decode (zB 72) 19 = .ok (.iload 5, 2) := by decide +kernel
theorem d72_21 : decode (zB 72) 21 = .ok (.iload_n 3, 1) := by decide +kernel
theorem d72_22 : decode (zB 72) 22 = .ok (.if_icmp .gt 52, 3) := by decide +kernel
theorem d72_25 : decode (zB 72) 25 = .ok (.iload 5, 2) := by decide +kernel
theorem d72_27 : decode (zB 72) 27 = .ok (.istore 6, 2) := by decide +kernel
theorem d72_29 : decode (zB 72) 29 = .ok (.iload 6, 2) := by decide +kernel
theorem d72_31 : decode (zB 72) 31 = .ok (.iload_n 3, 1) := by decide +kernel
theorem d72_32 : decode (zB 72) 32 = .ok (.if_icmp .gt 36, 3) := by decide +kernel
theorem d72_35 : decode (zB 72) 35 = .ok (.aload_n 0, 1) := by decide +kernel
theorem d72_36 : decode (zB 72) 36 = .ok (.getfield 23, 3) := by decide +kernel
theorem d72_39 : decode (zB 72) 39 = .ok (.iload 5, 2) := by decide +kernel
theorem d72_41 : decode (zB 72) 41 = .ok (.aaload, 1) := by decide +kernel
theorem d72_42 : decode (zB 72) 42 = .ok (.iload 6, 2) := by decide +kernel
theorem d72_44 : decode (zB 72) 44 = .ok (.aload_n 0, 1) := by decide +kernel
theorem d72_45 : decode (zB 72) 45 = .ok (.iload 5, 2) := by decide +kernel
theorem d72_47 : decode (zB 72) 47 = .ok (.iload 6, 2) := by decide +kernel
theorem d72_49 : decode (zB 72) 49 = .ok (.invokevirtual 37, 3) := by decide +kernel
theorem d72_52 : decode (zB 72) 52 = .ok (.ifCond .eq 7, 3) := by decide +kernel
theorem d72_55 : decode (zB 72) 55 = .ok (.iconst 0, 1) := by decide +kernel
theorem d72_56 : decode (zB 72) 56 = .ok (.goto 5, 3) := by decide +kernel
theorem d72_59 : decode (zB 72) 59 = .ok (.ldc 41, 2) := by decide +kernel
theorem d72_61 : decode (zB 72) 61 = .ok (.iastore, 1) := by decide +kernel
theorem d72_62 : decode (zB 72) 62 = .ok (.iinc 6 1, 3) := by decide +kernel
theorem d72_65 : decode (zB 72) 65 = .ok (.goto (-36), 3) := by decide +kernel
theorem d72_68 : decode (zB 72) 68 = .ok (.iinc 5 1, 3) := by decide +kernel
theorem d72_71 : decode (zB 72) 71 = .ok (.goto (-52), 3) := by decide +kernel
theorem d72_74 : decode (zB 72) 74 = .ok (.iconst 1, 1) := by decide +kernel
theorem d72_75 : decode (zB 72) 75 = .ok (.istore 5, 2) := by decide +kernel
theorem d72_77 : decode (zB 72) 77 = .ok (.iconst 1, 1) := by decide +kernel
theorem d72_78 : decode (zB 72) 78 = .ok (.istore 6, 2) := by decide +kernel
theorem d72_80 : decode (zB 72) 80 = .ok (.iload 6, 2) := by decide +kernel
theorem d72_82 : decode (zB 72) 82 = .ok (.iload 4, 2) := by decide +kernel
theorem d72_84 : decode (zB 72) 84 = .ok (.if_icmp .ge 22, 3) := by decide +kernel
theorem d72_87 : decode (zB 72) 87 = .ok (.iload 5, 2) := by decide +kernel
theorem d72_89 : decode (zB 72) 89 = .ok (.ifCond .eq 17, 3) := by decide +kernel
theorem d72_92 : decode (zB 72) 92 = .ok (.aload_n 0, 1) := by decide +kernel
theorem d72_93 : decode (zB 72) 93 = .ok (.iload_n 2, 1) := by decide +kernel
theorem d72_94 : decode (zB 72) 94 = .ok (.iload_n 3, 1) := by decide +kernel
theorem d72_95 : decode (zB 72) 95 = .ok (.invokevirtual 42, 3) := by decide +kernel
theorem d72_98 : decode (zB 72) 98 = .ok (.istore 5, 2) := by decide +kernel
theorem d72_100 : decode (zB 72) 100 = .ok (.iinc 6 1, 3) := by decide +kernel
theorem d72_103 : decode (zB 72) 103 = .ok (.goto (-23), 3) := by decide +kernel
theorem d72_106 : decode (zB 72) 106 = .ok (.aload_n 0, 1) := by decide +kernel
theorem d72_107 : decode (zB 72) 107 = .ok (.iload_n 2, 1) := by decide +kernel
theorem d72_108 : decode (zB 72) 108 = .ok (.iload_n 3, 1) := by decide +kernel
theorem d72_109 : decode (zB 72) 109 = .ok (.invokevirtual 45, 3) := by decide +kernel
theorem d72_112 : decode (zB 72) 112 = .ok (.aload_n 0, 1) := by decide +kernel
theorem d72_113 : decode (zB 72) 113 = .ok (.iload_n 2, 1) := by decide +kernel
theorem d72_114 : decode (zB 72) 114 = .ok (.iload_n 3, 1) := by decide +kernel
theorem d72_115 : decode (zB 72) 115 = .ok (.invokevirtual 49, 3) := by decide +kernel
theorem d72_118 : decode (zB 72) 118 = .ok (.ireturn, 1) := by decide +kernel
theorem d73_0 : decode (zB 73) 0 = .ok (.aload_n 0, 1) := by decide +kernel
theorem d73_1 : decode (zB 73) 1 = .ok (.getfield 9, 3) := by decide +kernel
theorem d73_4 : decode (zB 73) 4 = .ok (.iconst 0, 1) := by decide +kernel
theorem d73_5 : decode (zB 73) 5 = .ok (.invokestatic 53, 3) := by decide +kernel
theorem d73_8 : decode (zB 73) 8 = .ok (.iconst 0, 1) := by decide +kernel
theorem d73_9 : decode (zB 73) 9 = .ok (.istore_n 2, 1) := by decide +kernel
theorem d73_10 : decode (zB 73) 10 = .ok (.iload_n 2, 1) := by decide +kernel
theorem d73_11 : decode (zB 73) 11 = .ok (.aload_n 1, 1) := by decide +kernel
theorem d73_12 : decode (zB 73) 12 = .ok (.getfield 59, 3) := by decide +kernel
theorem d73_15 : decode (zB 73) 15 = .ok (.if_icmp .ge 25, 3) := by decide +kernel
theorem d73_18 : decode (zB 73) 18 = .ok (.aload_n 0, 1) := by decide +kernel
theorem d73_19 : decode (zB 73) 19 = .ok (.getfield 9, 3) := by decide +kernel
theorem d73_22 : decode (zB 73) 22 = .ok (.aload_n 1, 1) := by decide +kernel
theorem d73_23 : decode (zB 73) 23 = .ok (.iload_n 2, 1) := by decide +kernel
theorem d73_24 : decode (zB 73) 24 = .ok (.invokevirtual 65, 3) := by decide +kernel
theorem d73_27 : decode (zB 73) 27 = .ok (.iconst 1, 1) := by decide +kernel
theorem d73_28 : decode (zB 73) 28 = .ok (.iadd, 1) := by decide +kernel
theorem d73_29 : decode (zB 73) 29 = .ok (.dup2, 1) := by decide +kernel
theorem d73_30 : decode (zB 73) 30 = .ok (.iaload, 1) := by decide +kernel
theorem d73_31 : decode (zB 73) 31 = .ok (.iconst 1, 1) := by decide +kernel
theorem d73_32 : decode (zB 73) 32 = .ok (.iadd, 1) := by decide +kernel
theorem d73_33 : decode (zB 73) 33 = .ok (.iastore, 1) := by decide +kernel
theorem d73_34 : decode (zB 73) 34 = .ok (.iinc 2 1, 3) := by decide +kernel
theorem d73_37 : decode (zB 73) 37 = .ok (.goto (-27), 3) := by decide +kernel
theorem d73_40 : decode (zB 73) 40 = .ok (.iconst 0, 1) := by decide +kernel
theorem d73_41 : decode (zB 73) 41 = .ok (.istore_n 2, 1) := by decide +kernel
theorem d73_42 : decode (zB 73) 42 = .ok (.iload_n 2, 1) := by decide +kernel
theorem d73_43 : decode (zB 73) 43 = .ok (.bipush 20, 2) := by decide +kernel
theorem d73_45 : decode (zB 73) 45 = .ok (.if_icmp .ge 53, 3) := by decide +kernel
theorem d73_48 : decode (zB 73) 48 = .ok (.aload_n 0, 1) := by decide +kernel
theorem d73_49 : decode (zB 73) 49 = .ok (.getfield 15, 3) := by decide +kernel
theorem d73_52 : decode (zB 73) 52 = .ok (.iload_n 2, 1) := by decide +kernel
theorem d73_53 : decode (zB 73) 53 = .ok (.iconst 1, 1) := by decide +kernel
theorem d73_54 : decode (zB 73) 54 = .ok (.iadd, 1) := by decide +kernel
theorem d73_55 : decode (zB 73) 55 = .ok (.aload_n 0, 1) := by decide +kernel
theorem d73_56 : decode (zB 73) 56 = .ok (.getfield 15, 3) := by decide +kernel
theorem d73_59 : decode (zB 73) 59 = .ok (.iload_n 2, 1) := by decide +kernel
theorem d73_60 : decode (zB 73) 60 = .ok (.iaload, 1) := by decide +kernel
theorem d73_61 : decode (zB 73) 61 = .ok (.iconst 1, 1) := by decide +kernel
theorem d73_62 : decode (zB 73) 62 = .ok (.aload_n 0, 1) := by decide +kernel
theorem d73_63 : decode (zB 73) 63 = .ok (.getfield 9, 3) := by decide +kernel
theorem d73_66 : decode (zB 73) 66 = .ok (.iload_n 2, 1) := by decide +kernel
theorem d73_67 : decode (zB 73) 67 = .ok (.iconst 1, 1) := by decide +kernel
theorem d73_68 : decode (zB 73) 68 = .ok (.iadd, 1) := by decide +kernel
theorem d73_69 : decode (zB 73) 69 = .ok (.iaload, 1) := by decide +kernel
theorem d73_70 : decode (zB 73) 70 = .ok (.invokestatic 69, 3) := by decide +kernel
theorem d73_73 : decode (zB 73) 73 = .ok (.iadd, 1) := by decide +kernel
theorem d73_74 : decode (zB 73) 74 = .ok (.iastore, 1) := by decide +kernel
theorem d73_75 : decode (zB 73) 75 = .ok (.aload_n 0, 1) := by decide +kernel
theorem d73_76 : decode (zB 73) 76 = .ok (.getfield 9, 3) := by decide +kernel
theorem d73_79 : decode (zB 73) 79 = .ok (.iload_n 2, 1) := by decide +kernel
theorem d73_80 : decode (zB 73) 80 = .ok (.iconst 1, 1) := by decide +kernel
theorem d73_81 : decode (zB 73) 81 = .ok (.iadd, 1) := by decide +kernel
theorem d73_82 : decode (zB 73) 82 = .ok (.dup2, 1) := by decide +kernel
theorem d73_83 : decode (zB 73) 83 = .ok (.iaload, 1) := by decide +kernel
theorem d73_84 : decode (zB 73) 84 = .ok (.aload_n 0, 1) := by decide +kernel
theorem d73_85 : decode (zB 73) 85 = .ok (.getfield 9, 3) := by decide +kernel
theorem d73_88 : decode (zB 73) 88 = .ok (.iload_n 2, 1) := by decide +kernel
theorem d73_89 : decode (zB 73) 89 = .ok (.iaload, 1) := by decide +kernel
theorem d73_90 : decode (zB 73) 90 = .ok (.iadd, 1) := by decide +kernel
theorem d73_91 : decode (zB 73) 91 = .ok (.iastore, 1) := by decide +kernel
theorem d73_92 : decode (zB 73) 92 = .ok (.iinc 2 1, 3) := by decide +kernel
theorem d73_95 : decode (zB 73) 95 = .ok (.goto (-53), 3) := by decide +kernel
theorem d73_98 : decode (zB 73) 98 = .ok (.return_, 1) := by decide +kernel
theorem d74_0 : decode (zB 74) 0 = .ok (.aload_n 0, 1) := by decide +kernel
theorem d74_1 : decode (zB 74) 1 = .ok (.getfield 15, 3) := by decide +kernel
theorem d74_4 : decode (zB 74) 4 = .ok (.iload_n 2, 1) := by decide +kernel
theorem d74_5 : decode (zB 74) 5 = .ok (.iconst 1, 1) := by decide +kernel
theorem d74_6 : decode (zB 74) 6 = .ok (.iadd, 1) := by decide +kernel
theorem d74_7 : decode (zB 74) 7 = .ok (.iaload, 1) := by decide +kernel
theorem d74_8 : decode (zB 74) 8 = .ok (.aload_n 0, 1) := by decide +kernel
theorem d74_9 : decode (zB 74) 9 = .ok (.getfield 15, 3) := by decide +kernel
theorem d74_12 : decode (zB 74) 12 = .ok (.iload_n 1, 1) := by decide +kernel
theorem d74_13 : decode (zB 74) 13 = .ok (.iaload, 1) := by decide +kernel
theorem d74_14 : decode (zB 74) 14 = .ok (.isub, 1) := by decide +kernel
theorem d74_15 : decode (zB 74) 15 = .ok (.iconst 1, 1) := by decide +kernel
theorem d74_16 : decode (zB 74) 16 = .ok (.if_icmp .gt 7, 3) := by decide +kernel
theorem d74_19 : decode (zB 74) 19 = .ok (.iconst 1, 1) := by decide +kernel
theorem d74_20 : decode (zB 74) 20 = .ok (.goto 4, 3) := by decide +kernel
theorem d74_23 : decode (zB 74) 23 = .ok (.iconst 0, 1) := by decide +kernel
theorem d74_24 : decode (zB 74) 24 = .ok (.ireturn, 1) := by decide +kernel
theorem d75_0 : decode (zB 75) 0 = .ok (.aload_n 0, 1) := by decide +kernel
theorem d75_1 : decode (zB 75) 1 = .ok (.getfield 9, 3) := by decide +kernel
theorem d75_4 : decode (zB 75) 4 = .ok (.iload_n 2, 1) := by decide +kernel
theorem d75_5 : decode (zB 75) 5 = .ok (.iconst 1, 1) := by decide +kernel
theorem d75_6 : decode (zB 75) 6 = .ok (.iadd, 1) := by decide +kernel
theorem d75_7 : decode (zB 75) 7 = .ok (.iaload, 1) := by decide +kernel
theorem d75_8 : decode (zB 75) 8 = .ok (.aload_n 0, 1) := by decide +kernel
theorem d75_9 : decode (zB 75) 9 = .ok (.getfield 9, 3) := by decide +kernel
theorem d75_12 : decode (zB 75) 12 = .ok (.iload_n 1, 1) := by decide +kernel
theorem d75_13 : decode (zB 75) 13 = .ok (.iaload, 1) := by decide +kernel
theorem d75_14 : decode (zB 75) 14 = .ok (.isub, 1) := by decide +kernel
theorem d75_15 : decode (zB 75) 15 = .ok (.ireturn, 1) := by decide +kernel
theorem d76_0 : decode (zB 76) 0 = .ok (.iconst 0, 1) := by decide +kernel
theorem d76_1 : decode (zB 76) 1 = .ok (.istore_n 3, 1) := by decide +kernel
theorem d76_2 : decode (zB 76) 2 = .ok (.iload_n 1, 1) := by decide +kernel
theorem d76_3 : decode (zB 76) 3 = .ok (.istore 4, 2) := by decide +kernel
theorem d76_5 : decode (zB 76) 5 = .ok (.iload 4, 2) := by decide +kernel
theorem d76_7 : decode (zB 76) 7 = .ok (.iload_n 2, 1) := by decide +kernel
theorem d76_8 : decode (zB 76) 8 = .ok (.if_icmp .gt 96, 3) := by decide +kernel
theorem d76_11 : decode (zB 76) 11 = .ok (.aload_n 0, 1) := by decide +kernel
theorem d76_12 : decode (zB 76) 12 = .ok (.iload_n 1, 1) := by decide +kernel
theorem d76_13 : decode (zB 76) 13 = .ok (.iload 4, 2) := by decide +kernel
theorem d76_15 : decode (zB 76) 15 = .ok (.invokevirtual 45, 3) := by decide +kernel
theorem d76_18 : decode (zB 76) 18 = .ok (.iload_n 1, 1) := by decide +kernel
theorem d76_19 : decode (zB 76) 19 = .ok (.istore 5, 2) := by decide +kernel
theorem d76_21 : decode (zB 76) 21 = .ok (.iload 5, 2) := by decide +kernel
theorem d76_23 : decode (zB 76) 23 = .ok (.iload 4, 2) := by decide +kernel
theorem d76_25 : decode (zB 76) 25 = .ok (.if_icmp .gt 73, 3) := by decide +kernel
theorem d76_28 : decode (zB 76) 28 = .ok (.aload_n 0, 1) := by decide +kernel
theorem d76_29 : decode (zB 76) 29 = .ok (.getfield 26, 3) := by decide +kernel
theorem d76_32 : decode (zB 76) 32 = .ok (.iload 5, 2) := by decide +kernel
theorem d76_34 : decode (zB 76) 34 = .ok (.aaload, 1) := by decide +kernel
theorem d76_35 : decode (zB 76) 35 = .ok (.iload 4, 2) := by decide +kernel
theorem d76_37 : decode (zB 76) 37 = .ok (.aload_n 0, 1) := by decide +kernel
theorem d76_38 : decode (zB 76) 38 = .ok (.iload 5, 2) := by decide +kernel
theorem d76_40 : decode (zB 76) 40 = .ok (.iload 4, 2) := by decide +kernel
theorem d76_42 : decode (zB 76) 42 = .ok (.invokevirtual 37, 3) := by decide +kernel
theorem d76_45 : decode (zB 76) 45 = .ok (.ifCond .eq 7, 3) := by decide +kernel
theorem d76_48 : decode (zB 76) 48 = .ok (.iconst 0, 1) := by decide +kernel
theorem d76_49 : decode (zB 76) 49 = .ok (.goto 11, 3) := by decide +kernel
theorem d76_52 : decode (zB 76) 52 = .ok (.aload_n 0, 1) := by decide +kernel
theorem d76_53 : decode (zB 76) 53 = .ok (.iload 5, 2) := by decide +kernel
theorem d76_55 : decode (zB 76) 55 = .ok (.iload 4, 2) := by decide +kernel
theorem d76_57 : decode (zB 76) 57 = .ok (.invokevirtual 49, 3) := by decide +kernel
theorem d76_60 : decode (zB 76) 60 = .ok (.iastore, 1) := by decide +kernel
theorem d76_61 : decode (zB 76) 61 = .ok (.iload_n 3, 1) := by decide +kernel
theorem d76_62 : decode (zB 76) 62 = .ok (.aload_n 0, 1) := by decide +kernel
theorem d76_63 : decode (zB 76) 63 = .ok (.getfield 26, 3) := by decide +kernel
theorem d76_66 : decode (zB 76) 66 = .ok (.iload 5, 2) := by decide +kernel
theorem d76_68 : decode (zB 76) 68 = .ok (.aaload, 1) := by decide +kernel
theorem d76_69 : decode (zB 76) 69 = .ok (.iload 4, 2) := by decide +kernel
theorem d76_71 : decode (zB 76) 71 = .ok (.iaload, 1) := by decide +kernel
theorem d76_72 : decode (zB 76) 72 = .ok (.aload_n 0, 1) := by decide +kernel
theorem d76_73 : decode (zB 76) 73 = .ok (.getfield 23, 3) := by decide +kernel
theorem d76_76 : decode (zB 76) 76 = .ok (.iload 5, 2) := by decide +kernel
theorem d76_78 : decode (zB 76) 78 = .ok (.aaload, 1) := by decide +kernel
theorem d76_79 : decode (zB 76) 79 = .ok (.iload 4, 2) := by decide +kernel
theorem d76_81 : decode (zB 76) 81 = .ok (.iaload, 1) := by decide +kernel
theorem d76_82 : decode (zB 76) 82 = .ok (.if_icmp .ge 7, 3) := by decide +kernel
theorem d76_85 : decode (zB 76) 85 = .ok (.iconst 1, 1) := by decide +kernel
theorem d76_86 : decode (zB 76) 86 = .ok (.goto 4, 3) := by decide +kernel
theorem d76_89 : decode (zB 76) 89 = .ok (.iconst 0, 1) := by decide +kernel
theorem d76_90 : decode (zB 76) 90 = .ok (.ior, 1) := by decide +kernel
theorem d76_91 : decode (zB 76) 91 = .ok (.istore_n 3, 1) := by decide +kernel
theorem d76_92 : decode (zB 76) 92 = .ok (.iinc 5 1, 3) := by decide +kernel
theorem d76_95 : decode (zB 76) 95 = .ok (.goto (-74), 3) := by decide +kernel
theorem d76_98 : decode (zB 76) 98 = .ok (.iinc 4 1, 3) := by decide +kernel
theorem d76_101 : decode (zB 76) 101 = .ok (.goto (-96), 3) := by decide +kernel
theorem d76_104 : decode (zB 76) 104 = .ok (.aload_n 0, 1) := by decide +kernel
theorem d76_105 : decode (zB 76) 105 = .ok (.getfield 23, 3) := by decide +kernel
theorem d76_108 : decode (zB 76) 108 = .ok (.astore 4, 2) := by decide +kernel
theorem d76_110 : decode (zB 76) 110 = .ok (.aload_n 0, 1) := by decide +kernel
theorem d76_111 : decode (zB 76) 111 = .ok (.aload_n 0, 1) := by decide +kernel
theorem d76_112 : decode (zB 76) 112 = .ok (.getfield 26, 3) := by decide +kernel
theorem d76_115 : decode (zB 76) 115 = .ok (.putfield 23, 3) := by decide +kernel
theorem d76_118 : decode (zB 76) 118 = .ok (.aload_n 0, 1) := by decide +kernel
theorem d76_119 : decode (zB 76) 119 = .ok (.aload 4, 2) := by decide +kernel
theorem d76_121 : decode (zB 76) 121 = .ok (.putfield 26, 3) := by decide +kernel
theorem d76_124 : decode (zB 76) 124 = .ok (.iload_n 3, 1) := by decide +kernel
theorem d76_125 : decode (zB 76) 125 = .ok (.ireturn, 1) := by decide +kernel
theorem d77_0 : decode (zB 77) 0 = .ok (.iload_n 1, 1) := by decide +kernel
theorem d77_1 : decode (zB 77) 1 = .ok (.istore_n 3, 1) := by decide +kernel
theorem d77_2 : decode (zB 77) 2 = .ok (.iload_n 3, 1) := by decide +kernel
theorem d77_3 : decode (zB 77) 3 = .ok (.iload_n 2, 1) := by decide +kernel
theorem d77_4 : decode (zB 77) 4 = .ok (.if_icmp .gt 25, 3) := by decide +kernel
theorem d77_7 : decode (zB 77) 7 = .ok (.aload_n 0, 1) := by decide +kernel
theorem d77_8 : decode (zB 77) 8 = .ok (.getfield 20, 3) := by decide +kernel
theorem d77_11 : decode (zB 77) 11 = .ok (.iconst 1, 1) := by decide +kernel
theorem d77_12 : decode (zB 77) 12 = .ok (.aaload, 1) := by decide +kernel
theorem d77_13 : decode (zB 77) 13 = .ok (.iload_n 3, 1) := by decide +kernel
theorem d77_14 : decode (zB 77) 14 = .ok (.aload_n 0, 1) := by decide +kernel
theorem d77_15 : decode (zB 77) 15 = .ok (.getfield 23, 3) := by decide +kernel
theorem d77_18 : decode (zB 77) 18 = .ok (.iload_n 3, 1) := by decide +kernel
theorem d77_19 : decode (zB 77) 19 = .ok (.aaload, 1) := by decide +kernel
theorem d77_20 : decode (zB 77) 20 = .ok (.iload_n 2, 1) := by decide +kernel
theorem d77_21 : decode (zB 77) 21 = .ok (.iaload, 1) := by decide +kernel
theorem d77_22 : decode (zB 77) 22 = .ok (.iastore, 1) := by decide +kernel
theorem d77_23 : decode (zB 77) 23 = .ok (.iinc 3 1, 3) := by decide +kernel
theorem d77_26 : decode (zB 77) 26 = .ok (.goto (-24), 3) := by decide +kernel
theorem d77_29 : decode (zB 77) 29 = .ok (.iconst 2, 1) := by decide +kernel
theorem d77_30 : decode (zB 77) 30 = .ok (.istore_n 3, 1) := by decide +kernel
theorem d77_31 : decode (zB 77) 31 = .ok (.iload_n 3, 1) := by decide +kernel
theorem d77_32 : decode (zB 77) 32 = .ok (.aload_n 0, 1) := by decide +kernel
theorem d77_33 : decode (zB 77) 33 = .ok (.getfield 29, 3) := by decide +kernel
theorem d77_36 : decode (zB 77) 36 = .ok (.getfield 74, 3) := by decide +kernel
theorem d77_39 : decode (zB 77) 39 = .ok (.if_icmp .gt 101, 3) := by decide +kernel
theorem d77_42 : decode (zB 77) 42 = .ok (.iload_n 1, 1) := by decide +kernel
theorem d77_43 : decode (zB 77) 43 = .ok (.istore 4, 2) := by decide +kernel
theorem d77_45 : decode (zB 77) 45 = .ok (.iload 4, 2) := by decide +kernel
theorem d77_47 : decode (zB 77) 47 = .ok (.iload_n 2, 1) := by decide +kernel
theorem d77_48 : decode (zB 77) 48 = .ok (.if_icmp .gt 86, 3) := by decide +kernel
theorem d77_51 : decode (zB 77) 51 = .ok (.ldc 41, 2) := by decide +kernel
theorem d77_53 : decode (zB 77) 53 = .ok (.istore 5, 2) := by decide +kernel
theorem d77_55 : decode (zB 77) 55 = .ok (.iload 4, 2) := by decide +kernel
theorem d77_57 : decode (zB 77) 57 = .ok (.istore 6, 2) := by decide +kernel
theorem d77_59 : decode (zB 77) 59 = .ok (.iload 6, 2) := by decide +kernel
theorem d77_61 : decode (zB 77) 61 = .ok (.iload_n 2, 1) := by decide +kernel
theorem d77_62 : decode (zB 77) 62 = .ok (.if_icmp .ge 55, 3) := by decide +kernel
theorem d77_65 : decode (zB 77) 65 = .ok (.aload_n 0, 1) := by decide +kernel
theorem d77_66 : decode (zB 77) 66 = .ok (.getfield 23, 3) := by decide +kernel
theorem d77_69 : decode (zB 77) 69 = .ok (.iload 4, 2) := by decide +kernel
theorem d77_71 : decode (zB 77) 71 = .ok (.aaload, 1) := by decide +kernel
theorem d77_72 : decode (zB 77) 72 = .ok (.iload 6, 2) := by decide +kernel
theorem d77_74 : decode (zB 77) 74 = .ok (.iaload, 1) := by decide +kernel
theorem d77_75 : decode (zB 77) 75 = .ok (.ldc 41, 2) := by decide +kernel
theorem d77_77 : decode (zB 77) 77 = .ok (.if_icmp .ge 40, 3) := by decide +kernel
theorem d77_80 : decode (zB 77) 80 = .ok (.iload 5, 2) := by decide +kernel
theorem d77_82 : decode (zB 77) 82 = .ok (.aload_n 0, 1) := by decide +kernel
theorem d77_83 : decode (zB 77) 83 = .ok (.getfield 23, 3) := by decide +kernel
theorem d77_86 : decode (zB 77) 86 = .ok (.iload 4, 2) := by decide +kernel
theorem d77_88 : decode (zB 77) 88 = .ok (.aaload, 1) := by decide +kernel
theorem d77_89 : decode (zB 77) 89 = .ok (.iload 6, 2) := by decide +kernel
theorem d77_91 : decode (zB 77) 91 = .ok (.iaload, 1) := by decide +kernel
theorem d77_92 : decode (zB 77) 92 = .ok (.aload_n 0, 1) := by decide +kernel
theorem d77_93 : decode (zB 77) 93 = .ok (.getfield 20, 3) := by decide +kernel
theorem d77_96 : decode (zB 77) 96 = .ok (.iload_n 3, 1) := by decide +kernel
theorem d77_97 : decode (zB 77) 97 = .ok (.iconst 1, 1) := by decide +kernel
theorem d77_98 : decode (zB 77) 98 = .ok (.isub, 1) := by decide +kernel
theorem d77_99 : decode (zB 77) 99 = .ok (.aaload, 1) := by decide +kernel
theorem d77_100 : decode (zB 77) 100 = .ok (.iload 6, 2) := by decide +kernel
theorem d77_102 : decode (zB 77) 102 = .ok (.iconst 1, 1) := by decide +kernel
theorem d77_103 : decode (zB 77) 103 = .ok (.iadd, 1) := by decide +kernel
theorem d77_104 : decode (zB 77) 104 = .ok (.iaload, 1) := by decide +kernel
theorem d77_105 : decode (zB 77) 105 = .ok (.iadd, 1) := by decide +kernel
theorem d77_106 : decode (zB 77) 106 = .ok (.invokestatic 69, 3) := by decide +kernel
theorem d77_109 : decode (zB 77) 109 = .ok (.istore 5, 2) := by decide +kernel
theorem d77_111 : decode (zB 77) 111 = .ok (.iinc 6 1, 3) := by decide +kernel
theorem d77_114 : decode (zB 77) 114 = .ok (.goto (-55), 3) := by decide +kernel
theorem d77_117 : decode (zB 77) 117 = .ok (.aload_n 0, 1) := by decide +kernel
theorem d77_118 : decode (zB 77) 118 = .ok (.getfield 20, 3) := by decide +kernel
theorem d77_121 : decode (zB 77) 121 = .ok (.iload_n 3, 1) := by decide +kernel
theorem d77_122 : decode (zB 77) 122 = .ok (.aaload, 1) := by decide +kernel
theorem d77_123 : decode (zB 77) 123 = .ok (.iload 4, 2) := by decide +kernel
theorem d77_125 : decode (zB 77) 125 = .ok (.iload 5, 2) := by decide +kernel
theorem d77_127 : decode (zB 77) 127 = .ok (.iastore, 1) := by decide +kernel
theorem d77_128 : decode (zB 77) 128 = .ok (.iinc 4 1, 3) := by decide +kernel
theorem d77_131 : decode (zB 77) 131 = .ok (.goto (-86), 3) := by decide +kernel
theorem d77_134 : decode (zB 77) 134 = .ok (.iinc 3 1, 3) := by decide +kernel
theorem d77_137 : decode (zB 77) 137 = .ok (.goto (-106), 3) := by decide +kernel
theorem d77_140 : decode (zB 77) 140 = .ok (.return_, 1) := by decide +kernel
theorem d78_0 : decode (zB 78) 0 = .ok (.iconst 1, 1) := by decide +kernel
theorem d78_1 : decode (zB 78) 1 = .ok (.istore_n 2, 1) := by decide +kernel
theorem d78_2 : decode (zB 78) 2 = .ok (.iconst 2, 1) := by decide +kernel
theorem d78_3 : decode (zB 78) 3 = .ok (.istore_n 3, 1) := by decide +kernel
theorem d78_4 : decode (zB 78) 4 = .ok (.iload_n 3, 1) := by decide +kernel
theorem d78_5 : decode (zB 78) 5 = .ok (.aload_n 0, 1) := by decide +kernel
theorem d78_6 : decode (zB 78) 6 = .ok (.getfield 29, 3) := by decide +kernel
theorem d78_9 : decode (zB 78) 9 = .ok (.getfield 74, 3) := by decide +kernel
theorem d78_12 : decode (zB 78) 12 = .ok (.if_icmp .gt 30, 3) := by decide +kernel
theorem d78_15 : decode (zB 78) 15 = .ok (.aload_n 0, 1) := by decide +kernel
theorem d78_16 : decode (zB 78) 16 = .ok (.getfield 20, 3) := by decide +kernel
theorem d78_19 : decode (zB 78) 19 = .ok (.iload_n 3, 1) := by decide +kernel
theorem d78_20 : decode (zB 78) 20 = .ok (.aaload, 1) := by decide +kernel
theorem d78_21 : decode (zB 78) 21 = .ok (.iload_n 1, 1) := by decide +kernel
theorem d78_22 : decode (zB 78) 22 = .ok (.iaload, 1) := by decide +kernel
theorem d78_23 : decode (zB 78) 23 = .ok (.aload_n 0, 1) := by decide +kernel
theorem d78_24 : decode (zB 78) 24 = .ok (.getfield 20, 3) := by decide +kernel
theorem d78_27 : decode (zB 78) 27 = .ok (.iload_n 2, 1) := by decide +kernel
theorem d78_28 : decode (zB 78) 28 = .ok (.aaload, 1) := by decide +kernel
theorem d78_29 : decode (zB 78) 29 = .ok (.iload_n 1, 1) := by decide +kernel
theorem d78_30 : decode (zB 78) 30 = .ok (.iaload, 1) := by decide +kernel
theorem d78_31 : decode (zB 78) 31 = .ok (.if_icmp .ge 5, 3) := by decide +kernel
theorem d78_34 : decode (zB 78) 34 = .ok (.iload_n 3, 1) := by decide +kernel
theorem d78_35 : decode (zB 78) 35 = .ok (.istore_n 2, 1) := by decide +kernel
theorem d78_36 : decode (zB 78) 36 = .ok (.iinc 3 1, 3) := by decide +kernel
theorem d78_39 : decode (zB 78) 39 = .ok (.goto (-35), 3) := by decide +kernel
theorem d78_42 : decode (zB 78) 42 = .ok (.iload_n 2, 1) := by decide +kernel
theorem d78_43 : decode (zB 78) 43 = .ok (.ireturn, 1) := by decide +kernel
theorem d79_0 : decode (zB 79) 0 = .ok (.ldc 41, 2) := by decide +kernel
theorem d79_2 : decode (zB 79) 2 = .ok (.aload_n 0, 1) := by decide +kernel
theorem d79_3 : decode (zB 79) 3 = .ok (.iload_n 1, 1) := by decide +kernel
theorem d79_4 : decode (zB 79) 4 = .ok (.iload_n 2, 1) := by decide +kernel
theorem d79_5 : decode (zB 79) 5 = .ok (.invokevirtual 79, 3) := by decide +kernel
theorem d79_8 : decode (zB 79) 8 = .ok (.aload_n 0, 1) := by decide +kernel
theorem d79_9 : decode (zB 79) 9 = .ok (.getfield 20, 3) := by decide +kernel
theorem d79_12 : decode (zB 79) 12 = .ok (.aload_n 0, 1) := by decide +kernel
theorem d79_13 : decode (zB 79) 13 = .ok (.iload_n 1, 1) := by decide +kernel
theorem d79_14 : decode (zB 79) 14 = .ok (.invokevirtual 82, 3) := by decide +kernel
theorem d79_17 : decode (zB 79) 17 = .ok (.aaload, 1) := by decide +kernel
theorem d79_18 : decode (zB 79) 18 = .ok (.iload_n 1, 1) := by decide +kernel
theorem d79_19 : decode (zB 79) 19 = .ok (.iaload, 1) := by decide +kernel
theorem d79_20 : decode (zB 79) 20 = .ok (.iadd, 1) := by decide +kernel
theorem d79_21 : decode (zB 79) 21 = .ok (.invokestatic 69, 3) := by decide +kernel
theorem d79_24 : decode (zB 79) 24 = .ok (.ireturn, 1) := by decide +kernel
theorem d80_0 : decode (zB 80) 0 = .ok (.aload_n 0, 1) := by decide +kernel
theorem d80_1 : decode (zB 80) 1 = .ok (.iload_n 1, 1) := by decide +kernel
theorem d80_2 : decode (zB 80) 2 = .ok (.invokevirtual 82, 3) := by decide +kernel
theorem d80_5 : decode (zB 80) 5 = .ok (.istore 4, 2) := by decide +kernel
theorem d80_7 : decode (zB 80) 7 = .ok (.iload_n 3, 1) := by decide +kernel
theorem d80_8 : decode (zB 80) 8 = .ok (.iload 4, 2) := by decide +kernel
theorem d80_10 : decode (zB 80) 10 = .ok (.if_icmp .lt 6, 3) := by decide +kernel
theorem d80_13 : decode (zB 80) 13 = .ok (.bipush (-2), 2) := by decide +kernel
theorem d80_15 : decode (zB 80) 15 = .ok (.ireturn, 1) := by decide +kernel
theorem d80_16 : decode (zB 80) 16 = .ok (.iload_n 1, 1) := by decide +kernel
theorem d80_17 : decode (zB 80) 17 = .ok (.istore 5, 2) := by decide +kernel
theorem d80_19 : decode (zB 80) 19 = .ok (.iconst 0, 1) := by decide +kernel
theorem d80_20 : decode (zB 80) 20 = .ok (.istore 6, 2) := by decide +kernel
theorem d80_22 : decode (zB 80) 22 = .ok (.iload 6, 2) := by decide +kernel
theorem d80_24 : decode (zB 80) 24 = .ok (.iload_n 3, 1) := by decide +kernel
theorem d80_25 : decode (zB 80) 25 = .ok (.if_icmp .ge 78, 3) := by decide +kernel
theorem d80_28 : decode (zB 80) 28 = .ok (.iload 4, 2) := by decide +kernel
theorem d80_30 : decode (zB 80) 30 = .ok (.iload 6, 2) := by decide +kernel
theorem d80_32 : decode (zB 80) 32 = .ok (.isub, 1) := by decide +kernel
theorem d80_33 : decode (zB 80) 33 = .ok (.istore 7, 2) := by decide +kernel
theorem d80_35 : decode (zB 80) 35 = .ok (.iload 5, 2) := by decide +kernel
theorem d80_37 : decode (zB 80) 37 = .ok (.istore 8, 2) := by decide +kernel
theorem d80_39 : decode (zB 80) 39 = .ok (.iload 8, 2) := by decide +kernel
theorem d80_41 : decode (zB 80) 41 = .ok (.iload_n 2, 1) := by decide +kernel
theorem d80_42 : decode (zB 80) 42 = .ok (.iconst 1, 1) := by decide +kernel
theorem d80_43 : decode (zB 80) 43 = .ok (.isub, 1) := by decide +kernel
theorem d80_44 : decode (zB 80) 44 = .ok (.if_icmp .ge 47, 3) := by decide +kernel
theorem d80_47 : decode (zB 80) 47 = .ok (.aload_n 0, 1) := by decide +kernel
theorem d80_48 : decode (zB 80) 48 = .ok (.getfield 23, 3) := by decide +kernel
theorem d80_51 : decode (zB 80) 51 = .ok (.iload 5, 2) := by decide +kernel
theorem d80_53 : decode (zB 80) 53 = .ok (.aaload, 1) := by decide +kernel
theorem d80_54 : decode (zB 80) 54 = .ok (.iload 8, 2) := by decide +kernel
theorem d80_56 : decode (zB 80) 56 = .ok (.iaload, 1) := by decide +kernel
theorem d80_57 : decode (zB 80) 57 = .ok (.aload_n 0, 1) := by decide +kernel
theorem d80_58 : decode (zB 80) 58 = .ok (.getfield 20, 3) := by decide +kernel
theorem d80_61 : decode (zB 80) 61 = .ok (.iload 7, 2) := by decide +kernel
theorem d80_63 : decode (zB 80) 63 = .ok (.iconst 1, 1) := by decide +kernel
theorem d80_64 : decode (zB 80) 64 = .ok (.isub, 1) := by decide +kernel
theorem d80_65 : decode (zB 80) 65 = .ok (.aaload, 1) := by decide +kernel
theorem d80_66 : decode (zB 80) 66 = .ok (.iload 8, 2) := by decide +kernel
theorem d80_68 : decode (zB 80) 68 = .ok (.iconst 1, 1) := by decide +kernel
theorem d80_69 : decode (zB 80) 69 = .ok (.iadd, 1) := by decide +kernel
theorem d80_70 : decode (zB 80) 70 = .ok (.iaload, 1) := by decide +kernel
theorem d80_71 : decode (zB 80) 71 = .ok (.iadd, 1) := by decide +kernel
theorem d80_72 : decode (zB 80) 72 = .ok (.aload_n 0, 1) := by decide +kernel
theorem d80_73 : decode (zB 80) 73 = .ok (.getfield 20, 3) := by decide +kernel
theorem d80_76 : decode (zB 80) 76 = .ok (.iload 7, 2) := by decide +kernel
theorem d80_78 : decode (zB 80) 78 = .ok (.aaload, 1) := by decide +kernel
theorem d80_79 : decode (zB 80) 79 = .ok (.iload 5, 2) := by decide +kernel
theorem d80_81 : decode (zB 80) 81 = .ok (.iaload, 1) := by decide +kernel
theorem d80_82 : decode (zB 80) 82 = .ok (.if_icmp .le 9, 3) := by decide +kernel
theorem d80_85 : decode (zB 80) 85 = .ok (.iinc 8 1, 3) := by decide +kernel
theorem d80_88 : decode (zB 80) 88 = .ok (.goto (-49), 3) := by decide +kernel
theorem d80_91 : decode (zB 80) 91 = .ok (.iload 8, 2) := by decide +kernel
theorem d80_93 : decode (zB 80) 93 = .ok (.iconst 1, 1) := by decide +kernel
theorem d80_94 : decode (zB 80) 94 = .ok (.iadd, 1) := by decide +kernel
theorem d80_95 : decode (zB 80) 95 = .ok (.istore 5, 2) := by decide +kernel
theorem d80_97 : decode (zB 80) 97 = .ok (.iinc 6 1, 3) := by decide +kernel
theorem d80_100 : decode (zB 80) 100 = .ok (.goto (-78), 3) := by decide +kernel
theorem d80_103 : decode (zB 80) 103 = .ok (.iload 5, 2) := by decide +kernel
theorem d80_105 : decode (zB 80) 105 = .ok (.ireturn, 1) := by decide +kernel
theorem d81_0 : decode (zB 81) 0 = .ok (.aload_n 0, 1) := by decide +kernel
theorem d81_1 : decode (zB 81) 1 = .ok (.invokespecial 1, 3) := by decide +kernel
theorem d81_4 : decode (zB 81) 4 = .ok (.aload_n 0, 1) := by decide +kernel
theorem d81_5 : decode (zB 81) 5 = .ok (.sipush 220, 3) := by decide +kernel
theorem d81_8 : decode (zB 81) 8 = .ok (.newarray .int, 2) := by decide +kernel
theorem d81_10 : decode (zB 81) 10 = .ok (.putfield 9, 3) := by decide +kernel
theorem d81_13 : decode (zB 81) 13 = .ok (.aload_n 0, 1) := by decide +kernel
theorem d81_14 : decode (zB 81) 14 = .ok (.iconst 0, 1) := by decide +kernel
theorem d81_15 : decode (zB 81) 15 = .ok (.putfield 13, 3) := by decide +kernel
theorem d81_18 : decode (zB 81) 18 = .ok (.return_, 1) := by decide +kernel
theorem d82_0 : decode (zB 82) 0 = .ok (.aload_n 0, 1) := by decide +kernel
theorem d82_1 : decode (zB 82) 1 = .ok (.getfield 13, 3) := by decide +kernel
theorem d82_4 : decode (zB 82) 4 = .ok (.bipush 20, 2) := by decide +kernel
theorem d82_6 : decode (zB 82) 6 = .ok (.iadd, 1) := by decide +kernel
theorem d82_7 : decode (zB 82) 7 = .ok (.sipush 220, 3) := by decide +kernel
theorem d82_10 : decode (zB 82) 10 = .ok (.if_icmp .gt 7, 3) := by decide +kernel
theorem d82_13 : decode (zB 82) 13 = .ok (.iconst 1, 1) := by decide +kernel
theorem d82_14 : decode (zB 82) 14 = .ok (.goto 4, 3) := by decide +kernel
theorem d82_17 : decode (zB 82) 17 = .ok (.iconst 0, 1) := by decide +kernel
theorem d82_18 : decode (zB 82) 18 = .ok (.ireturn, 1) := by decide +kernel
theorem d83_0 : decode (zB 83) 0 = .ok (.bipush 24, 2) := by decide +kernel
theorem d83_2 : decode (zB 83) 2 = .ok (.istore_n 2, 1) := by decide +kernel
theorem d83_3 : decode (zB 83) 3 = .ok (.iload_n 2, 1) := by decide +kernel
theorem d83_4 : decode (zB 83) 4 = .ok (.ifCond .lt 45, 3) := by decide +kernel
theorem d83_7 : decode (zB 83) 7 = .ok (.aload_n 0, 1) := by decide +kernel
theorem d83_8 : decode (zB 83) 8 = .ok (.getfield 13, 3) := by decide +kernel
theorem d83_11 : decode (zB 83) 11 = .ok (.sipush 220, 3) := by decide +kernel
theorem d83_14 : decode (zB 83) 14 = .ok (.if_icmp .ge 35, 3) := by decide +kernel
theorem d83_17 : decode (zB 83) 17 = .ok (.aload_n 0, 1) := by decide +kernel
theorem d83_18 : decode (zB 83) 18 = .ok (.getfield 9, 3) := by decide +kernel
theorem d83_21 : decode (zB 83) 21 = .ok (.aload_n 0, 1) := by decide +kernel
theorem d83_22 : decode (zB 83) 22 = .ok (.getfield 13, 3) := by decide +kernel
theorem d83_25 : decode (zB 83) 25 = .ok (.iload_n 1, 1) := by decide +kernel
theorem d83_26 : decode (zB 83) 26 = .ok (.iload_n 2, 1) := by decide +kernel
theorem d83_27 : decode (zB 83) 27 = .ok (.ishr, 1) := by decide +kernel
theorem d83_28 : decode (zB 83) 28 = .ok (.sipush 255, 3) := by decide +kernel
theorem d83_31 : decode (zB 83) 31 = .ok (.iand, 1) := by decide +kernel
theorem d83_32 : decode (zB 83) 32 = .ok (.iastore, 1) := by decide +kernel
theorem d83_33 : decode (zB 83) 33 = .ok (.aload_n 0, 1) := by decide +kernel
theorem d83_34 : decode (zB 83) 34 = .ok (.dup, 1) := by decide +kernel
theorem d83_35 : decode (zB 83) 35 = .ok (.getfield 13, 3) := by decide +kernel
theorem d83_38 : decode (zB 83) 38 = .ok (.iconst 1, 1) := by decide +kernel
theorem d83_39 : decode (zB 83) 39 = .ok (.iadd, 1) := by decide +kernel
theorem d83_40 : decode (zB 83) 40 = .ok (.putfield 13, 3) := by decide +kernel
theorem d83_43 : decode (zB 83) 43 = .ok (.iinc 2 (-8), 3) := by decide +kernel
theorem d83_46 : decode (zB 83) 46 = .ok (.goto (-43), 3) := by decide +kernel
theorem d83_49 : decode (zB 83) 49 = .ok (.return_, 1) := by decide +kernel
theorem d84_0 : decode (zB 84) 0 = .ok (.iload_n 1, 1) := by decide +kernel
theorem d84_1 : decode (zB 84) 1 = .ok (.ifCond .lt 20, 3) := by decide +kernel
theorem d84_4 : decode (zB 84) 4 = .ok (.iload_n 1, 1) := by decide +kernel
theorem d84_5 : decode (zB 84) 5 = .ok (.aload_n 0, 1) := by decide +kernel
theorem d84_6 : decode (zB 84) 6 = .ok (.getfield 13, 3) := by decide +kernel
theorem d84_9 : decode (zB 84) 9 = .ok (.if_icmp .ge 12, 3) := by decide +kernel
theorem d84_12 : decode (zB 84) 12 = .ok (.aload_n 0, 1) := by decide +kernel
theorem d84_13 : decode (zB 84) 13 = .ok (.getfield 9, 3) := by decide +kernel
theorem d84_16 : decode (zB 84) 16 = .ok (.iload_n 1, 1) := by decide +kernel
theorem d84_17 : decode (zB 84) 17 = .ok (.iaload, 1) := by decide +kernel
theorem d84_18 : decode (zB 84) 18 = .ok (.goto 4, 3) := by decide +kernel
theorem d84_21 : decode (zB 84) 21 = .ok (.iconst (-1), 1) := by decide +kernel
theorem d84_22 : decode (zB 84) 22 = .ok (.ireturn, 1) := by decide +kernel
theorem d85_0 : decode (zB 85) 0 = .ok (.iconst 0, 1) := by decide +kernel
theorem d85_1 : decode (zB 85) 1 = .ok (.istore_n 2, 1) := by decide +kernel
theorem d85_2 : decode (zB 85) 2 = .ok (.iconst 4, 1) := by decide +kernel
theorem d85_3 : decode (zB 85) 3 = .ok (.iload_n 1, 1) := by decide +kernel
theorem d85_4 : decode (zB 85) 4 = .ok (.imul, 1) := by decide +kernel
theorem d85_5 : decode (zB 85) 5 = .ok (.istore_n 3, 1) := by decide +kernel
theorem d85_6 : decode (zB 85) 6 = .ok (.iload_n 3, 1) := by decide +kernel
theorem d85_7 : decode (zB 85) 7 = .ok (.iconst 4, 1) := by decide +kernel
theorem d85_8 : decode (zB 85) 8 = .ok (.iload_n 1, 1) := by decide +kernel
theorem d85_9 : decode (zB 85) 9 = .ok (.imul, 1) := by decide +kernel
theorem d85_10 : decode (zB 85) 10 = .ok (.iconst 4, 1) := by decide +kernel
theorem d85_11 : decode (zB 85) 11 = .ok (.iadd, 1) := by decide +kernel
theorem d85_12 : decode (zB 85) 12 = .ok (.if_icmp .ge 24, 3) := by decide +kernel
theorem d85_15 : decode (zB 85) 15 = .ok (.iload_n 2, 1) := by decide +kernel
theorem d85_16 : decode (zB 85) 16 = .ok (.bipush 8, 2) := by decide +kernel
theorem d85_18 : decode (zB 85) 18 = .ok (.ishl, 1) := by decide +kernel
theorem d85_19 : decode (zB 85) 19 = .ok (.aload_n 0, 1) := by decide +kernel
theorem d85_20 : decode (zB 85) 20 = .ok (.iload_n 3, 1) := by decide +kernel
theorem d85_21 : decode (zB 85) 21 = .ok (.invokevirtual 17, 3) := by decide +kernel
theorem d85_24 : decode (zB 85) 24 = .ok (.sipush 255, 3) := by decide +kernel
theorem d85_27 : decode (zB 85) 27 = .ok (.iand, 1) := by decide +kernel
theorem d85_28 : decode (zB 85) 28 = .ok (.ior, 1) := by decide +kernel
theorem d85_29 : decode (zB 85) 29 = .ok (.istore_n 2, 1) := by decide +kernel
theorem d85_30 : decode (zB 85) 30 = .ok (.iinc 3 1, 3) := by decide +kernel
theorem d85_33 : decode (zB 85) 33 = .ok (.goto (-27), 3) := by decide +kernel
theorem d85_36 : decode (zB 85) 36 = .ok (.iload_n 2, 1) := by decide +kernel
theorem d85_37 : decode (zB 85) 37 = .ok (.ireturn, 1) := by decide +kernel
theorem d86_0 : decode (zB 86) 0 = .ok (.iconst 0, 1) := by decide +kernel
theorem d86_1 : decode (zB 86) 1 = .ok (.istore_n 2, 1) := by decide +kernel
theorem d86_2 : decode (zB 86) 2 = .ok (.iload_n 2, 1) := by decide +kernel
theorem d86_3 : decode (zB 86) 3 = .ok (.aload_n 1, 1) := by decide +kernel
theorem d86_4 : decode (zB 86) 4 = .ok (.getfield 21, 3) := by decide +kernel
theorem d86_7 : decode (zB 86) 7 = .ok (.if_icmp .ge 25, 3) := by decide +kernel
theorem d86_10 : decode (zB 86) 10 = .ok (.aload_n 0, 1) := by decide +kernel
theorem d86_11 : decode (zB 86) 11 = .ok (.iload_n 2, 1) := by decide +kernel
theorem d86_12 : decode (zB 86) 12 = .ok (.invokevirtual 17, 3) := by decide +kernel
theorem d86_15 : decode (zB 86) 15 = .ok (.aload_n 1, 1) := by decide +kernel
theorem d86_16 : decode (zB 86) 16 = .ok (.getfield 24, 3) := by decide +kernel
theorem d86_19 : decode (zB 86) 19 = .ok (.iload_n 2, 1) := by decide +kernel
theorem d86_20 : decode (zB 86) 20 = .ok (.iaload, 1) := by decide +kernel
theorem d86_21 : decode (zB 86) 21 = .ok (.if_icmp .eq 5, 3) := by decide +kernel
theorem d86_24 : decode (zB 86) 24 = .ok (.iconst 0, 1) := by decide +kernel
theorem d86_25 : decode (zB 86) 25 = .ok (.ireturn, 1) := by decide +kernel
theorem d86_26 : decode (zB 86) 26 = .ok (.iinc 2 1, 3) := by decide +kernel
theorem d86_29 : decode (zB 86) 29 = .ok (.goto (-27), 3) := by decide +kernel
theorem d86_32 : decode (zB 86) 32 = .ok (.iconst 1, 1) := by decide +kernel
theorem d86_33 : decode (zB 86) 33 = .ok (.ireturn, 1) := by decide +kernel
theorem d87_0 : decode (zB 87) 0 = .ok (.iconst 0, 1) := by decide +kernel
theorem d87_1 : decode (zB 87) 1 = .ok (.istore_n 2, 1) := by decide +kernel
theorem d87_2 : decode (zB 87) 2 = .ok (.iconst 0, 1) := by decide +kernel
theorem d87_3 : decode (zB 87) 3 = .ok (.istore_n 3, 1) := by decide +kernel
theorem d87_4 : decode (zB 87) 4 = .ok (.iload_n 3, 1) := by decide +kernel
theorem d87_5 : decode (zB 87) 5 = .ok (.aload_n 1, 1) := by decide +kernel
theorem d87_6 : decode (zB 87) 6 = .ok (.getfield 21, 3) := by decide +kernel
theorem d87_9 : decode (zB 87) 9 = .ok (.if_icmp .ge 43, 3) := by decide +kernel
theorem d87_12 : decode (zB 87) 12 = .ok (.aload_n 0, 1) := by decide +kernel
theorem d87_13 : decode (zB 87) 13 = .ok (.iload_n 3, 1) := by decide +kernel
theorem d87_14 : decode (zB 87) 14 = .ok (.invokevirtual 17, 3) := by decide +kernel
theorem d87_17 : decode (zB 87) 17 = .ok (.istore 4, 2) := by decide +kernel
theorem d87_19 : decode (zB 87) 19 = .ok (.aload_n 1, 1) := by decide +kernel
theorem d87_20 : decode (zB 87) 20 = .ok (.iload 4, 2) := by decide +kernel
theorem d87_22 : decode (zB 87) 22 = .ok (.invokevirtual 27, 3) := by decide +kernel
theorem d87_25 : decode (zB 87) 25 = .ok (.ifCond .lt 12, 3) := by decide +kernel
theorem d87_28 : decode (zB 87) 28 = .ok (.iload_n 2, 1) := by decide +kernel
theorem d87_29 : decode (zB 87) 29 = .ok (.iload 4, 2) := by decide +kernel
theorem d87_31 : decode (zB 87) 31 = .ok (.ishr, 1) := by decide +kernel
theorem d87_32 : decode (zB 87) 32 = .ok (.iconst 1, 1) := by decide +kernel
theorem d87_33 : decode (zB 87) 33 = .ok (.iand, 1) := by decide +kernel
theorem d87_34 : decode (zB 87) 34 = .ok (.ifCond .eq 5, 3) := by decide +kernel
theorem d87_37 : decode (zB 87) 37 = .ok (.iconst 0, 1) := by decide +kernel
theorem d87_38 : decode (zB 87) 38 = .ok (.ireturn, 1) := by decide +kernel
theorem d87_39 : decode (zB 87) 39 = .ok (.iload_n 2, 1) := by decide +kernel
theorem d87_40 : decode (zB 87) 40 = .ok (.iconst 1, 1) := by decide +kernel
theorem d87_41 : decode (zB 87) 41 = .ok (.iload 4, 2) := by decide +kernel
theorem d87_43 : decode (zB 87) 43 = .ok (.ishl, 1) := by decide +kernel
theorem d87_44 : decode (zB 87) 44 = .ok (.ior, 1) := by decide +kernel
theorem d87_45 : decode (zB 87) 45 = .ok (.istore_n 2, 1) := by decide +kernel
theorem d87_46 : decode (zB 87) 46 = .ok (.iinc 3 1, 3) := by decide +kernel
theorem d87_49 : decode (zB 87) 49 = .ok (.goto (-45), 3) := by decide +kernel
theorem d87_52 : decode (zB 87) 52 = .ok (.iconst 1, 1) := by decide +kernel
theorem d87_53 : decode (zB 87) 53 = .ok (.ireturn, 1) := by decide +kernel
theorem d88_0 : decode (zB 88) 0 = .ok (.aload_n 0, 1) := by decide +kernel
theorem d88_1 : decode (zB 88) 1 = .ok (.invokespecial 3, 3) := by decide +kernel
theorem d88_4 : decode (zB 88) 4 = .ok (.aload_n 0, 1) := by decide +kernel
theorem d88_5 : decode (zB 88) 5 = .ok (.bipush 9, 2) := by decide +kernel
theorem d88_7 : decode (zB 88) 7 = .ok (.newarray .int, 2) := by decide +kernel
theorem d88_9 : decode (zB 88) 9 = .ok (.putfield 9, 3) := by decide +kernel
theorem d88_12 : decode (zB 88) 12 = .ok (.aload_n 0, 1) := by decide +kernel
theorem d88_13 : decode (zB 88) 13 = .ok (.bipush 32, 2) := by decide +kernel
theorem d88_15 : decode (zB 88) 15 = .ok (.newarray .int, 2) := by decide +kernel
theorem d88_17 : decode (zB 88) 17 = .ok (.putfield 15, 3) := by decide +kernel
theorem d88_20 : decode (zB 88) 20 = .ok (.aload_n 0, 1) := by decide +kernel
theorem d88_21 : decode (zB 88) 21 = .ok (.bipush 10, 2) := by decide +kernel
theorem d88_23 : decode (zB 88) 23 = .ok (.newarray .int, 2) := by decide +kernel
theorem d88_25 : decode (zB 88) 25 = .ok (.putfield 18, 3) := by decide +kernel
theorem d88_28 : decode (zB 88) 28 = .ok (.aload_n 0, 1) := by decide +kernel
theorem d88_29 : decode (zB 88) 29 = .ok (.aload_n 1, 1) := by decide +kernel
theorem d88_30 : decode (zB 88) 30 = .ok (.putfield 21, 3) := by decide +kernel
theorem d88_33 : decode (zB 88) 33 = .ok (.return_, 1) := by decide +kernel
theorem d89_0 : decode (zB 89) 0 = .ok (.iconst 0, 1) := by decide +kernel
theorem d89_1 : decode (zB 89) 1 = .ok (.istore 4, 2) := by decide +kernel
theorem d89_3 : decode (zB 89) 3 = .ok (.iconst 0, 1) := by decide +kernel
theorem d89_4 : decode (zB 89) 4 = .ok (.istore 5, 2) := by decide +kernel
theorem d89_6 : decode (zB 89) 6 = .ok (.iload 5, 2) := by decide +kernel
theorem d89_8 : decode (zB 89) 8 = .ok (.iload_n 2, 1) := by decide +kernel
theorem d89_9 : decode (zB 89) 9 = .ok (.if_icmp .ge 87, 3) := by decide +kernel
theorem d89_12 : decode (zB 89) 12 = .ok (.aload_n 0, 1) := by decide +kernel
theorem d89_13 : decode (zB 89) 13 = .ok (.getfield 15, 3) := by decide +kernel
theorem d89_16 : decode (zB 89) 16 = .ok (.iload 5, 2) := by decide +kernel
theorem d89_18 : decode (zB 89) 18 = .ok (.iconst 1, 1) := by decide +kernel
theorem d89_19 : decode (zB 89) 19 = .ok (.iastore, 1) := by decide +kernel
theorem d89_20 : decode (zB 89) 20 = .ok (.iconst 0, 1) := by decide +kernel
theorem d89_21 : decode (zB 89) 21 = .ok (.istore 6, 2) := by decide +kernel
theorem d89_23 : decode (zB 89) 23 = .ok (.iload 6, 2) := by decide +kernel
theorem d89_25 : decode (zB 89) 25 = .ok (.iload 5, 2) := by decide +kernel
theorem d89_27 : decode (zB 89) 27 = .ok (.if_icmp .ge 49, 3) := by decide +kernel
theorem d89_30 : decode (zB 89) 30 = .ok (.iload_n 3, 1) := by decide +kernel
theorem d89_31 : decode (zB 89) 31 = .ok (.aload_n 1, 1) := by decide +kernel
theorem d89_32 : decode (zB 89) 32 = .ok (.iload 5, 2) := by decide +kernel
theorem d89_34 : decode (zB 89) 34 = .ok (.iaload, 1) := by decide +kernel
theorem d89_35 : decode (zB 89) 35 = .ok (.aload_n 1, 1) := by decide +kernel
theorem d89_36 : decode (zB 89) 36 = .ok (.iload 6, 2) := by decide +kernel
theorem d89_38 : decode (zB 89) 38 = .ok (.iaload, 1) := by decide +kernel
theorem d89_39 : decode (zB 89) 39 = .ok (.isub, 1) := by decide +kernel
theorem d89_40 : decode (zB 89) 40 = .ok (.imul, 1) := by decide +kernel
theorem d89_41 : decode (zB 89) 41 = .ok (.ifCond .le 29, 3) := by decide +kernel
theorem d89_44 : decode (zB 89) 44 = .ok (.aload_n 0, 1) := by decide +kernel
theorem d89_45 : decode (zB 89) 45 = .ok (.getfield 15, 3) := by decide +kernel
theorem d89_48 : decode (zB 89) 48 = .ok (.iload 5, 2) := by decide +kernel
theorem d89_50 : decode (zB 89) 50 = .ok (.aload_n 0, 1) := by decide +kernel
theorem d89_51 : decode (zB 89) 51 = .ok (.getfield 15, 3) := by decide +kernel
theorem d89_54 : decode (zB 89) 54 = .ok (.iload 5, 2) := by decide +kernel
theorem d89_56 : decode (zB 89) 56 = .ok (.iaload, 1) := by decide +kernel
theorem d89_57 : decode (zB 89) 57 = .ok (.aload_n 0, 1) := by decide +kernel
theorem d89_58 : decode (zB 89) 58 = .ok (.getfield 15, 3) := by decide +kernel
theorem d89_61 : decode (zB 89) 61 = .ok (.iload 6, 2) := by decide +kernel
theorem d89_63 : decode (zB 89) 63 = .ok (.iaload, 1) := by decide +kernel
theorem d89_64 : decode (zB 89) 64 = .ok (.iconst 1, 1) := by decide +kernel
theorem d89_65 : decode (zB 89) 65 = .ok (.iadd, 1) := by decide +kernel
theorem d89_66 : decode (zB 89) 66 = .ok (.invokestatic 25, 3) := by decide +kernel
theorem d89_69 : decode (zB 89) 69 = .ok (.iastore, 1) := by decide +kernel
theorem d89_70 : decode (zB 89) 70 = .ok (.iinc 6 1, 3) := by decide +kernel
theorem d89_73 : decode (zB 89) 73 = .ok (.goto (-50), 3) := by decide +kernel
theorem d89_76 : decode (zB 89) 76 = .ok (.iload 4, 2) := by decide +kernel
theorem d89_78 : decode (zB 89) 78 = .ok (.aload_n 0, 1) := by decide +kernel
theorem d89_79 : decode (zB 89) 79 = .ok (.getfield 15, 3) := by decide +kernel
theorem d89_82 : decode (zB 89) 82 = .ok (.iload 5, 2) := by decide +kernel
theorem d89_84 : decode (zB 89) 84 = .ok (.iaload, 1) := by decide +kernel
theorem d89_85 : decode (zB 89) 85 = .ok (.invokestatic 25, 3) := by decide +kernel
theorem d89_88 : decode (zB 89) 88 = .ok (.istore 4, 2) := by decide +kernel
theorem d89_90 : decode (zB 89) 90 = .ok (.iinc 5 1, 3) := by decide +kernel
theorem d89_93 : decode (zB 89) 93 = .ok (.goto (-87), 3) := by decide +kernel
theorem d89_96 : decode (zB 89) 96 = .ok (.iload 4, 2) := by decide +kernel
theorem d89_98 : decode (zB 89) 98 = .ok (.ireturn, 1) := by decide +kernel
theorem d90_0 : decode (zB 90) 0 = .ok (.iconst 0, 1) := by decide +kernel
theorem d90_1 : decode (zB 90) 1 = .ok (.istore_n 3, 1) := by decide +kernel
theorem d90_2 : decode (zB 90) 2 = .ok (.iload_n 3, 1) := by decide +kernel
theorem d90_3 : decode (zB 90) 3 = .ok (.aload_n 0, 1) := by decide +kernel
theorem d90_4 : decode (zB 90) 4 = .ok (.getfield 21, 3) := by decide +kernel
theorem d90_7 : decode (zB 90) 7 = .ok (.getfield 31, 3) := by decide +kernel
theorem d90_10 : decode (zB 90) 10 = .ok (.if_icmp .ge 32, 3) := by decide +kernel
theorem d90_13 : decode (zB 90) 13 = .ok (.aload_n 0, 1) := by decide +kernel
theorem d90_14 : decode (zB 90) 14 = .ok (.getfield 9, 3) := by decide +kernel
theorem d90_17 : decode (zB 90) 17 = .ok (.iload_n 3, 1) := by decide +kernel
theorem d90_18 : decode (zB 90) 18 = .ok (.aload_n 0, 1) := by decide +kernel
theorem d90_19 : decode (zB 90) 19 = .ok (.getfield 21, 3) := by decide +kernel
theorem d90_22 : decode (zB 90) 22 = .ok (.iload_n 3, 1) := by decide +kernel
theorem d90_23 : decode (zB 90) 23 = .ok (.invokevirtual 37, 3) := by decide +kernel
theorem d90_26 : decode (zB 90) 26 = .ok (.ifCond .eq 8, 3) := by decide +kernel
theorem d90_29 : decode (zB 90) 29 = .ok (.bipush 20, 2) := by decide +kernel
theorem d90_31 : decode (zB 90) 31 = .ok (.goto 4, 3) := by decide +kernel
theorem d90_34 : decode (zB 90) 34 = .ok (.iconst (-1), 1) := by decide +kernel
theorem d90_35 : decode (zB 90) 35 = .ok (.iastore, 1) := by decide +kernel
theorem d90_36 : decode (zB 90) 36 = .ok (.iinc 3 1, 3) := by decide +kernel
theorem d90_39 : decode (zB 90) 39 = .ok (.goto (-37), 3) := by decide +kernel
theorem d90_42 : decode (zB 90) 42 = .ok (.iconst 1, 1) := by decide +kernel
theorem d90_43 : decode (zB 90) 43 = .ok (.istore_n 3, 1) := by decide +kernel
theorem d90_44 : decode (zB 90) 44 = .ok (.iconst 0, 1) := by decide +kernel
theorem d90_45 : decode (zB 90) 45 = .ok (.istore 4, 2) := by decide +kernel
theorem d90_47 : decode (zB 90) 47 = .ok (.iload 4, 2) := by decide +kernel
theorem d90_49 : decode (zB 90) 49 = .ok (.iload_n 2, 1) := by decide +kernel
theorem d90_50 : decode (zB 90) 50 = .ok (.if_icmp .ge 76, 3) := by decide +kernel
theorem d90_53 : decode (zB 90) 53 = .ok (.iload_n 3, 1) := by decide +kernel
theorem d90_54 : decode (zB 90) 54 = .ok (.ifCond .eq 72, 3) := by decide +kernel
theorem d90_57 : decode (zB 90) 57 = .ok (.iconst 0, 1) := by decide +kernel
theorem d90_58 : decode (zB 90) 58 = .ok (.istore_n 3, 1) := by decide +kernel
theorem d90_59 : decode (zB 90) 59 = .ok (.iconst 0, 1) := by decide +kernel
theorem d90_60 : decode (zB 90) 60 = .ok (.istore 5, 2) := by decide +kernel
theorem d90_62 : decode (zB 90) 62 = .ok (.iload 5, 2) := by decide +kernel
theorem d90_64 : decode (zB 90) 64 = .ok (.aload_n 0, 1) := by decide +kernel
theorem d90_65 : decode (zB 90) 65 = .ok (.getfield 21, 3) := by decide +kernel
theorem d90_68 : decode (zB 90) 68 = .ok (.getfield 31, 3) := by decide +kernel
theorem d90_71 : decode (zB 90) 71 = .ok (.if_icmp .ge 33, 3) := by decide +kernel
theorem d90_74 : decode (zB 90) 74 = .ok (.iload_n 3, 1) := by decide +kernel
theorem d90_75 : decode (zB 90) 75 = .ok (.ifCond .ne 29, 3) := by decide +kernel
theorem d90_78 : decode (zB 90) 78 = .ok (.aload_n 0, 1) := by decide +kernel
theorem d90_79 : decode (zB 90) 79 = .ok (.iload 5, 2) := by decide +kernel
theorem d90_81 : decode (zB 90) 81 = .ok (.aload_n 1, 1) := by decide +kernel
theorem d90_82 : decode (zB 90) 82 = .ok (.iload 4, 2) := by decide +kernel
theorem d90_84 : decode (zB 90) 84 = .ok (.iload_n 2, 1) := by decide +kernel
theorem d90_85 : decode (zB 90) 85 = .ok (.invokevirtual 41, 3) := by decide +kernel
theorem d90_88 : decode (zB 90) 88 = .ok (.istore_n 3, 1) := by decide +kernel
theorem d90_89 : decode (zB 90) 89 = .ok (.aload_n 0, 1) := by decide +kernel
theorem d90_90 : decode (zB 90) 90 = .ok (.getfield 18, 3) := by decide +kernel
theorem d90_93 : decode (zB 90) 93 = .ok (.iload 4, 2) := by decide +kernel
theorem d90_95 : decode (zB 90) 95 = .ok (.iload 5, 2) := by decide +kernel
theorem d90_97 : decode (zB 90) 97 = .ok (.iastore, 1) := by decide +kernel
theorem d90_98 : decode (zB 90) 98 = .ok (.iinc 5 1, 3) := by decide +kernel
theorem d90_101 : decode (zB 90) 101 = .ok (.goto (-39), 3) := by decide +kernel
theorem d90_104 : decode (zB 90) 104 = .ok (.aload_n 0, 1) := by decide +kernel
theorem d90_105 : decode (zB 90) 105 = .ok (.getfield 9, 3) := by decide +kernel
theorem d90_108 : decode (zB 90) 108 = .ok (.aload_n 0, 1) := by decide +kernel
theorem d90_109 : decode (zB 90) 109 = .ok (.getfield 18, 3) := by decide +kernel
theorem d90_112 : decode (zB 90) 112 = .ok (.iload 4, 2) := by decide +kernel
theorem d90_114 : decode (zB 90) 114 = .ok (.iaload, 1) := by decide +kernel
theorem d90_115 : decode (zB 90) 115 = .ok (.aload_n 1, 1) := by decide +kernel
theorem d90_116 : decode (zB 90) 116 = .ok (.iload 4, 2) := by decide +kernel
theorem d90_118 : decode (zB 90) 118 = .ok (.iaload, 1) := by decide +kernel
theorem d90_119 : decode (zB 90) 119 = .ok (.iastore, 1) := by decide +kernel
theorem d90_120 : decode (zB 90) 120 = .ok (.iinc 4 1, 3) := by decide +kernel
theorem d90_123 : decode (zB 90) 123 = .ok (.goto (-76), 3) := by decide +kernel
theorem d90_126 : decode (zB 90) 126 = .ok (.iload_n 3, 1) := by decide +kernel
theorem d90_127 : decode (zB 90) 127 = .ok (.ireturn, 1) := by decide +kernel
theorem d91_0 : decode (zB 91) 0 = .ok (.aload_n 0, 1) := by decide +kernel
theorem d91_1 : decode (zB 91) 1 = .ok (.getfield 21, 3) := by decide +kernel
theorem d91_4 : decode (zB 91) 4 = .ok (.iload_n 1, 1) := by decide +kernel
theorem d91_5 : decode (zB 91) 5 = .ok (.invokevirtual 37, 3) := by decide +kernel
theorem d91_8 : decode (zB 91) 8 = .ok (.ifCond .eq 21, 3) := by decide +kernel
theorem d91_11 : decode (zB 91) 11 = .ok (.aload_n 0, 1) := by decide +kernel
theorem d91_12 : decode (zB 91) 12 = .ok (.getfield 9, 3) := by decide +kernel
theorem d91_15 : decode (zB 91) 15 = .ok (.iload_n 1, 1) := by decide +kernel
theorem d91_16 : decode (zB 91) 16 = .ok (.iaload, 1) := by decide +kernel
theorem d91_17 : decode (zB 91) 17 = .ok (.iload_n 2, 1) := by decide +kernel
theorem d91_18 : decode (zB 91) 18 = .ok (.if_icmp .lt 7, 3) := by decide +kernel
theorem d91_21 : decode (zB 91) 21 = .ok (.iconst 1, 1) := by decide +kernel
theorem d91_22 : decode (zB 91) 22 = .ok (.goto 22, 3) := by decide +kernel
theorem d91_25 : decode (zB 91) 25 = .ok (.iconst 0, 1) := by decide +kernel
theorem d91_26 : decode (zB 91) 26 = .ok (.goto 18, 3) := by decide +kernel
theorem d91_29 : decode (zB 91) 29 = .ok (.aload_n 0, 1) := by decide +kernel
theorem d91_30 : decode (zB 91) 30 = .ok (.getfield 9, 3) := by decide +kernel
theorem d91_33 : decode (zB 91) 33 = .ok (.iload_n 1, 1) := by decide +kernel
theorem d91_34 : decode (zB 91) 34 = .ok (.iaload, 1) := by decide +kernel
theorem d91_35 : decode (zB 91) 35 = .ok (.iload_n 2, 1) := by decide +kernel
theorem d91_36 : decode (zB 91) 36 = .ok (.if_icmp .gt 7, 3) := by decide +kernel
theorem d91_39 : decode (zB 91) 39 = .ok (.iconst 1, 1) := by decide +kernel
theorem d91_40 : decode (zB 91) 40 = .ok (.goto 4, 3) := by decide +kernel
theorem d91_43 : decode (zB 91) 43 = .ok (.iconst 0, 1) := by decide +kernel
theorem d91_44 : decode (zB 91) 44 = .ok (.ireturn, 1) := by decide +kernel
theorem d92_0 : decode (zB 92) 0 = .ok (.iload_n 1, 1) := by decide +kernel
theorem d92_1 : decode (zB 92) 1 = .ok (.ifCond .lt 14, 3) := by decide +kernel
theorem d92_4 : decode (zB 92) 4 = .ok (.aload_n 0, 1) := by decide +kernel
theorem d92_5 : decode (zB 92) 5 = .ok (.iload_n 1, 1) := by decide +kernel
theorem d92_6 : decode (zB 92) 6 = .ok (.aload_n 2, 1) := by decide +kernel
theorem d92_7 : decode (zB 92) 7 = .ok (.iload_n 3, 1) := by decide +kernel
theorem d92_8 : decode (zB 92) 8 = .ok (.iaload, 1) := by decide +kernel
theorem d92_9 : decode (zB 92) 9 = .ok (.invokevirtual 45, 3) := by decide +kernel
theorem d92_12 : decode (zB 92) 12 = .ok (.ifCond .ne 5, 3) := by decide +kernel
theorem d92_15 : decode (zB 92) 15 = .ok (.iconst 0, 1) := by decide +kernel
theorem d92_16 : decode (zB 92) 16 = .ok (.ireturn, 1) := by decide +kernel
theorem d92_17 : decode (zB 92) 17 = .ok (.aload_n 0, 1) := by decide +kernel
theorem d92_18 : decode (zB 92) 18 = .ok (.getfield 9, 3) := by decide +kernel
theorem d92_21 : decode (zB 92) 21 = .ok (.iload_n 1, 1) := by decide +kernel
theorem d92_22 : decode (zB 92) 22 = .ok (.iaload, 1) := by decide +kernel
theorem d92_23 : decode (zB 92) 23 = .ok (.istore 5, 2) := by decide +kernel
theorem d92_25 : decode (zB 92) 25 = .ok (.aload_n 0, 1) := by decide +kernel
theorem d92_26 : decode (zB 92) 26 = .ok (.getfield 9, 3) := by decide +kernel
theorem d92_29 : decode (zB 92) 29 = .ok (.iload_n 1, 1) := by decide +kernel
theorem d92_30 : decode (zB 92) 30 = .ok (.aload_n 2, 1) := by decide +kernel
theorem d92_31 : decode (zB 92) 31 = .ok (.iload_n 3, 1) := by decide +kernel
theorem d92_32 : decode (zB 92) 32 = .ok (.iaload, 1) := by decide +kernel
theorem d92_33 : decode (zB 92) 33 = .ok (.iastore, 1) := by decide +kernel
theorem d92_34 : decode (zB 92) 34 = .ok (.aload_n 0, 1) := by decide +kernel
theorem d92_35 : decode (zB 92) 35 = .ok (.aload_n 2, 1) := by decide +kernel
theorem d92_36 : decode (zB 92) 36 = .ok (.iload_n 3, 1) := by decide +kernel
theorem d92_37 : decode (zB 92) 37 = .ok (.iconst 1, 1) := by decide +kernel
theorem d92_38 : decode (zB 92) 38 = .ok (.iadd, 1) := by decide +kernel
theorem d92_39 : decode (zB 92) 39 = .ok (.iload 4, 2) := by decide +kernel
theorem d92_41 : decode (zB 92) 41 = .ok (.invokevirtual 49, 3) := by decide +kernel
theorem d92_44 : decode (zB 92) 44 = .ok (.istore 6, 2) := by decide +kernel
theorem d92_46 : decode (zB 92) 46 = .ok (.aload_n 0, 1) := by decide +kernel
theorem d92_47 : decode (zB 92) 47 = .ok (.getfield 9, 3) := by decide +kernel
theorem d92_50 : decode (zB 92) 50 = .ok (.iload_n 1, 1) := by decide +kernel
theorem d92_51 : decode (zB 92) 51 = .ok (.iload 5, 2) := by decide +kernel
theorem d92_53 : decode (zB 92) 53 = .ok (.iastore, 1) := by decide +kernel
theorem d92_54 : decode (zB 92) 54 = .ok (.iload 6, 2) := by decide +kernel
theorem d92_56 : decode (zB 92) 56 = .ok (.ireturn, 1) := by decide +kernel
theorem d93_0 : decode (zB 93) 0 = .ok (.iload_n 2, 1) := by decide +kernel
theorem d93_1 : decode (zB 93) 1 = .ok (.iload_n 3, 1) := by decide +kernel
theorem d93_2 : decode (zB 93) 2 = .ok (.if_icmp .lt 5, 3) := by decide +kernel
theorem d93_5 : decode (zB 93) 5 = .ok (.iconst 1, 1) := by decide +kernel
theorem d93_6 : decode (zB 93) 6 = .ok (.ireturn, 1) := by decide +kernel
theorem d93_7 : decode (zB 93) 7 = .ok (.aload_n 0, 1) := by decide +kernel
theorem d93_8 : decode (zB 93) 8 = .ok (.aload_n 0, 1) := by decide +kernel
theorem d93_9 : decode (zB 93) 9 = .ok (.aload_n 1, 1) := by decide +kernel
theorem d93_10 : decode (zB 93) 10 = .ok (.iload_n 2, 1) := by decide +kernel
theorem d93_11 : decode (zB 93) 11 = .ok (.iaload, 1) := by decide +kernel
theorem d93_12 : decode (zB 93) 12 = .ok (.iconst 0, 1) := by decide +kernel
theorem d93_13 : decode (zB 93) 13 = .ok (.invokevirtual 53, 3) := by decide +kernel
theorem d93_16 : decode (zB 93) 16 = .ok (.aload_n 1, 1) := by decide +kernel
theorem d93_17 : decode (zB 93) 17 = .ok (.iload_n 2, 1) := by decide +kernel
theorem d93_18 : decode (zB 93) 18 = .ok (.iload_n 3, 1) := by decide +kernel
theorem d93_19 : decode (zB 93) 19 = .ok (.invokevirtual 41, 3) := by decide +kernel
theorem d93_22 : decode (zB 93) 22 = .ok (.ifCond .ne 21, 3) := by decide +kernel
theorem d93_25 : decode (zB 93) 25 = .ok (.aload_n 0, 1) := by decide +kernel
theorem d93_26 : decode (zB 93) 26 = .ok (.aload_n 0, 1) := by decide +kernel
theorem d93_27 : decode (zB 93) 27 = .ok (.aload_n 1, 1) := by decide +kernel
theorem d93_28 : decode (zB 93) 28 = .ok (.iload_n 2, 1) := by decide +kernel
theorem d93_29 : decode (zB 93) 29 = .ok (.iaload, 1) := by decide +kernel
theorem d93_30 : decode (zB 93) 30 = .ok (.iconst 1, 1) := by decide +kernel
theorem d93_31 : decode (zB 93) 31 = .ok (.invokevirtual 53, 3) := by decide +kernel
theorem d93_34 : decode (zB 93) 34 = .ok (.aload_n 1, 1) := by decide +kernel
theorem d93_35 : decode (zB 93) 35 = .ok (.iload_n 2, 1) := by decide +kernel
theorem d93_36 : decode (zB 93) 36 = .ok (.iload_n 3, 1) := by decide +kernel
theorem d93_37 : decode (zB 93) 37 = .ok (.invokevirtual 41, 3) := by decide +kernel
theorem d93_40 : decode (zB 93) 40 = .ok (.ifCond .eq 7, 3) := by decide +kernel
theorem d93_43 : decode (zB 93) 43 = .ok (.iconst 1, 1) := by decide +kernel
theorem d93_44 : decode (zB 93) 44 = .ok (.goto 4, 3) := by decide +kernel
theorem d93_47 : decode (zB 93) 47 = .ok (.iconst 0, 1) := by decide +kernel
theorem d93_48 : decode (zB 93) 48 = .ok (.ireturn, 1) := by decide +kernel
theorem d94_0 : decode (zB 94) 0 = .ok (.iconst (-1), 1) := by decide +kernel
theorem d94_1 : decode (zB 94) 1 = .ok (.istore_n 3, 1) := by decide +kernel
theorem d94_2 : decode (zB 94) 2 = .ok (.iconst 0, 1) := by decide +kernel
theorem d94_3 : decode (zB 94) 3 = .ok (.istore 4, 2) := by decide +kernel
theorem d94_5 : decode (zB 94) 5 = .ok (.iload 4, 2) := by decide +kernel
theorem d94_7 : decode (zB 94) 7 = .ok (.aload_n 0, 1) := by decide +kernel
theorem d94_8 : decode (zB 94) 8 = .ok (.getfield 21, 3) := by decide +kernel
theorem d94_11 : decode (zB 94) 11 = .ok (.getfield 31, 3) := by decide +kernel
theorem d94_14 : decode (zB 94) 14 = .ok (.if_icmp .ge 65, 3) := by decide +kernel
theorem d94_17 : decode (zB 94) 17 = .ok (.aload_n 0, 1) := by decide +kernel
theorem d94_18 : decode (zB 94) 18 = .ok (.getfield 21, 3) := by decide +kernel
theorem d94_21 : decode (zB 94) 21 = .ok (.iload 4, 2) := by decide +kernel
theorem d94_23 : decode (zB 94) 23 = .ok (.invokevirtual 37, 3) := by decide +kernel
theorem d94_26 : decode (zB 94) 26 = .ok (.iload_n 2, 1) := by decide +kernel
theorem d94_27 : decode (zB 94) 27 = .ok (.if_icmp .ne 46, 3) := by decide +kernel
theorem d94_30 : decode (zB 94) 30 = .ok (.aload_n 0, 1) := by decide +kernel
theorem d94_31 : decode (zB 94) 31 = .ok (.iload 4, 2) := by decide +kernel
theorem d94_33 : decode (zB 94) 33 = .ok (.iload_n 1, 1) := by decide +kernel
theorem d94_34 : decode (zB 94) 34 = .ok (.invokevirtual 45, 3) := by decide +kernel
theorem d94_37 : decode (zB 94) 37 = .ok (.ifCond .eq 36, 3) := by decide +kernel
theorem d94_40 : decode (zB 94) 40 = .ok (.iload_n 3, 1) := by decide +kernel
theorem d94_41 : decode (zB 94) 41 = .ok (.ifCond .lt 29, 3) := by decide +kernel
theorem d94_44 : decode (zB 94) 44 = .ok (.aload_n 0, 1) := by decide +kernel
theorem d94_45 : decode (zB 94) 45 = .ok (.getfield 9, 3) := by decide +kernel
theorem d94_48 : decode (zB 94) 48 = .ok (.iload 4, 2) := by decide +kernel
theorem d94_50 : decode (zB 94) 50 = .ok (.iaload, 1) := by decide +kernel
theorem d94_51 : decode (zB 94) 51 = .ok (.iload_n 1, 1) := by decide +kernel
theorem d94_52 : decode (zB 94) 52 = .ok (.isub, 1) := by decide +kernel
theorem d94_53 : decode (zB 94) 53 = .ok (.invokestatic 57, 3) := by decide +kernel
theorem d94_56 : decode (zB 94) 56 = .ok (.aload_n 0, 1) := by decide +kernel
theorem d94_57 : decode (zB 94) 57 = .ok (.getfield 9, 3) := by decide +kernel
theorem d94_60 : decode (zB 94) 60 = .ok (.iload_n 3, 1) := by decide +kernel
theorem d94_61 : decode (zB 94) 61 = .ok (.iaload, 1) := by decide +kernel
theorem d94_62 : decode (zB 94) 62 = .ok (.iload_n 1, 1) := by decide +kernel
theorem d94_63 : decode (zB 94) 63 = .ok (.isub, 1) := by decide +kernel
theorem d94_64 : decode (zB 94) 64 = .ok (.invokestatic 57, 3) := by decide +kernel
theorem d94_67 : decode (zB 94) 67 = .ok (.if_icmp .ge 6, 3) := by decide +kernel
theorem d94_70 : decode (zB 94) 70 = .ok (.iload 4, 2) := by decide +kernel
theorem d94_72 : decode (zB 94) 72 = .ok (.istore_n 3, 1) := by decide +kernel
theorem d94_73 : decode (zB 94) 73 = .ok (.iinc 4 1, 3) := by decide +kernel
theorem d94_76 : decode (zB 94) 76 = .ok (.goto (-71), 3) := by decide +kernel
theorem d94_79 : decode (zB 94) 79 = .ok (.iload_n 3, 1) := by decide +kernel
theorem d94_80 : decode (zB 94) 80 = .ok (.ireturn, 1) := by decide +kernel
theorem d251_0 : decode (zB 251) 0 = .ok (.iconst 0, 1) := by decide +kernel
theorem d251_1 : decode (zB 251) 1 = .ok (.istore_n 2, 1) := by decide +kernel
theorem d251_2 : decode (zB 251) 2 = .ok (.aload_n 0, 1) := by decide +kernel
theorem d251_3 : decode (zB 251) 3 = .ok (.arraylength, 1) := by decide +kernel
theorem d251_4 : decode (zB 251) 4 = .ok (.istore_n 3, 1) := by decide +kernel
theorem d251_5 : decode (zB 251) 5 = .ok (.iload_n 2, 1) := by decide +kernel
theorem d251_6 : decode (zB 251) 6 = .ok (.iload_n 3, 1) := by decide +kernel
theorem d251_7 : decode (zB 251) 7 = .ok (.if_icmp .ge 13, 3) := by decide +kernel
theorem d251_10 : decode (zB 251) 10 = .ok (.aload_n 0, 1) := by decide +kernel
theorem d251_11 : decode (zB 251) 11 = .ok (.iload_n 2, 1) := by decide +kernel
theorem d251_12 : decode (zB 251) 12 = .ok (.iload_n 1, 1) := by decide +kernel
theorem d251_13 : decode (zB 251) 13 = .ok (.iastore, 1) := by decide +kernel
theorem d251_14 : decode (zB 251) 14 = .ok (.iinc 2 1, 3) := by decide +kernel
theorem d251_17 : decode (zB 251) 17 = .ok (.goto (-12), 3) := by decide +kernel
theorem d251_20 : decode (zB 251) 20 = .ok (.return_, 1) := by decide +kernel
