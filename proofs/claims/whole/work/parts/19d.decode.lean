theorem d194_0 : decode (zB 194) 0 = .ok (.iload_n 1, 1) := by decide +kernel
theorem d194_1 : decode (zB 194) 1 = .ok (.ifCond .lt 20, 3) := by decide +kernel
theorem d194_4 : decode (zB 194) 4 = .ok (.iload_n 1, 1) := by decide +kernel
theorem d194_5 : decode (zB 194) 5 = .ok (.aload_n 0, 1) := by decide +kernel
theorem d194_6 : decode (zB 194) 6 = .ok (.getfield 162, 3) := by decide +kernel
theorem d194_9 : decode (zB 194) 9 = .ok (.if_icmp .ge 12, 3) := by decide +kernel
theorem d194_12 : decode (zB 194) 12 = .ok (.aload_n 0, 1) := by decide +kernel
theorem d194_13 : decode (zB 194) 13 = .ok (.getfield 22, 3) := by decide +kernel
theorem d194_16 : decode (zB 194) 16 = .ok (.iload_n 1, 1) := by decide +kernel
theorem d194_17 : decode (zB 194) 17 = .ok (.iaload, 1) := by decide +kernel
theorem d194_18 : decode (zB 194) 18 = .ok (.goto 4, 3) := by decide +kernel
theorem d194_21 : decode (zB 194) 21 = .ok (.iconst (-1), 1) := by decide +kernel
theorem d194_22 : decode (zB 194) 22 = .ok (.ireturn, 1) := by decide +kernel
theorem d195_0 : decode (zB 195) 0 = .ok (.aload_n 0, 1) := by decide +kernel
theorem d195_1 : decode (zB 195) 1 = .ok (.iload_n 1, 1) := by decide +kernel
theorem d195_2 : decode (zB 195) 2 = .ok (.invokevirtual 352, 3) := by decide +kernel
theorem d195_5 : decode (zB 195) 5 = .ok (.ifCond .ne 5, 3) := by decide +kernel
theorem d195_8 : decode (zB 195) 8 = .ok (.iconst (-1), 1) := by decide +kernel
theorem d195_9 : decode (zB 195) 9 = .ok (.ireturn, 1) := by decide +kernel
theorem d195_10 : decode (zB 195) 10 = .ok (.aload_n 0, 1) := by decide +kernel
theorem d195_11 : decode (zB 195) 11 = .ok (.iload_n 1, 1) := by decide +kernel
theorem d195_12 : decode (zB 195) 12 = .ok (.invokevirtual 355, 3) := by decide +kernel
theorem d195_15 : decode (zB 195) 15 = .ok (.aload_n 0, 1) := by decide +kernel
theorem d195_16 : decode (zB 195) 16 = .ok (.getfield 309, 3) := by decide +kernel
theorem d195_19 : decode (zB 195) 19 = .ok (.ireturn, 1) := by decide +kernel
theorem d196_0 : decode (zB 196) 0 = .ok (.iconst 1, 1) := by decide +kernel
theorem d196_1 : decode (zB 196) 1 = .ok (.istore_n 1, 1) := by decide +kernel
theorem d196_2 : decode (zB 196) 2 = .ok (.iload_n 1, 1) := by decide +kernel
theorem d196_3 : decode (zB 196) 3 = .ok (.aload_n 0, 1) := by decide +kernel
theorem d196_4 : decode (zB 196) 4 = .ok (.getfield 162, 3) := by decide +kernel
theorem d196_7 : decode (zB 196) 7 = .ok (.if_icmp .ge 36, 3) := by decide +kernel
theorem d196_10 : decode (zB 196) 10 = .ok (.aload_n 0, 1) := by decide +kernel
theorem d196_11 : decode (zB 196) 11 = .ok (.aload_n 0, 1) := by decide +kernel
theorem d196_12 : decode (zB 196) 12 = .ok (.getfield 22, 3) := by decide +kernel
theorem d196_15 : decode (zB 196) 15 = .ok (.iload_n 1, 1) := by decide +kernel
theorem d196_16 : decode (zB 196) 16 = .ok (.iaload, 1) := by decide +kernel
theorem d196_17 : decode (zB 196) 17 = .ok (.invokevirtual 291, 3) := by decide +kernel
theorem d196_20 : decode (zB 196) 20 = .ok (.aload_n 0, 1) := by decide +kernel
theorem d196_21 : decode (zB 196) 21 = .ok (.aload_n 0, 1) := by decide +kernel
theorem d196_22 : decode (zB 196) 22 = .ok (.getfield 22, 3) := by decide +kernel
theorem d196_25 : decode (zB 196) 25 = .ok (.iload_n 1, 1) := by decide +kernel
theorem d196_26 : decode (zB 196) 26 = .ok (.iconst 1, 1) := by decide +kernel
theorem d196_27 : decode (zB 196) 27 = .ok (.isub, 1) := by decide +kernel
theorem d196_28 : decode (zB 196) 28 = .ok (.iaload, 1) := by decide +kernel
theorem d196_29 : decode (zB 196) 29 = .ok (.invokevirtual 291, 3) := by decide +kernel
theorem d196_32 : decode (zB 196) 32 = .ok (.if_icmp .ge 5, 3) := by decide +kernel
theorem d196_35 : decode (zB 196) 35 = .ok (.iload_n 1, 1) := by decide +kernel
theorem d196_36 : decode (zB 196) 36 = .ok (.ireturn, 1) := by decide +kernel
theorem d196_37 : decode (zB 196) 37 = .ok (.iinc 1 1, 3) := by decide +kernel
theorem d196_40 : decode (zB 196) 40 = .ok (.goto (-38), 3) := by decide +kernel
theorem d196_43 : decode (zB 196) 43 = .ok (.iconst (-1), 1) := by decide +kernel
theorem d196_44 : decode (zB 196) 44 = .ok (.ireturn, 1) := by decide +kernel
theorem d197_0 : decode (zB 197) 0 = .ok (.aload_n 0, 1) := by decide +kernel
theorem d197_1 : decode (zB 197) 1 = .ok (.invokevirtual 358, 3) := by decide +kernel
theorem d197_4 : decode (zB 197) 4 = .ok (.ireturn, 1) := by decide +kernel
theorem d198_0 : decode (zB 198) 0 = .ok (.aload_n 0, 1) := by decide +kernel
theorem d198_1 : decode (zB 198) 1 = .ok (.iload_n 1, 1) := by decide +kernel
theorem d198_2 : decode (zB 198) 2 = .ok (.invokevirtual 352, 3) := by decide +kernel
theorem d198_5 : decode (zB 198) 5 = .ok (.ifCond .eq 23, 3) := by decide +kernel
theorem d198_8 : decode (zB 198) 8 = .ok (.iload_n 2, 1) := by decide +kernel
theorem d198_9 : decode (zB 198) 9 = .ok (.iconst 0, 1) := by decide +kernel
theorem d198_10 : decode (zB 198) 10 = .ok (.iconst 3, 1) := by decide +kernel
theorem d198_11 : decode (zB 198) 11 = .ok (.invokestatic 169, 3) := by decide +kernel
theorem d198_14 : decode (zB 198) 14 = .ok (.ifCond .ne 16, 3) := by decide +kernel
theorem d198_17 : decode (zB 198) 17 = .ok (.iload_n 2, 1) := by decide +kernel
theorem d198_18 : decode (zB 198) 18 = .ok (.bipush 10, 2) := by decide +kernel
theorem d198_20 : decode (zB 198) 20 = .ok (.bipush 41, 2) := by decide +kernel
theorem d198_22 : decode (zB 198) 22 = .ok (.invokestatic 169, 3) := by decide +kernel
theorem d198_25 : decode (zB 198) 25 = .ok (.ifCond .ne 5, 3) := by decide +kernel
theorem d198_28 : decode (zB 198) 28 = .ok (.iconst (-1), 1) := by decide +kernel
theorem d198_29 : decode (zB 198) 29 = .ok (.ireturn, 1) := by decide +kernel
theorem d198_30 : decode (zB 198) 30 = .ok (.aload_n 0, 1) := by decide +kernel
theorem d198_31 : decode (zB 198) 31 = .ok (.invokevirtual 361, 3) := by decide +kernel
theorem d198_34 : decode (zB 198) 34 = .ok (.aload_n 0, 1) := by decide +kernel
theorem d198_35 : decode (zB 198) 35 = .ok (.iload_n 1, 1) := by decide +kernel
theorem d198_36 : decode (zB 198) 36 = .ok (.invokevirtual 355, 3) := by decide +kernel
theorem d198_39 : decode (zB 198) 39 = .ok (.iload_n 2, 1) := by decide +kernel
theorem d198_40 : decode (zB 198) 40 = .ok (.ifCond .ne 10, 3) := by decide +kernel
theorem d198_43 : decode (zB 198) 43 = .ok (.aload_n 0, 1) := by decide +kernel
theorem d198_44 : decode (zB 198) 44 = .ok (.getfield 309, 3) := by decide +kernel
theorem d198_47 : decode (zB 198) 47 = .ok (.goto 64, 3) := by decide +kernel
theorem d198_50 : decode (zB 198) 50 = .ok (.iload_n 2, 1) := by decide +kernel
theorem d198_51 : decode (zB 198) 51 = .ok (.iconst 1, 1) := by decide +kernel
theorem d198_52 : decode (zB 198) 52 = .ok (.if_icmp .ne 10, 3) := by decide +kernel
theorem d198_55 : decode (zB 198) 55 = .ok (.aload_n 0, 1) := by decide +kernel
theorem d198_56 : decode (zB 198) 56 = .ok (.getfield 315, 3) := by decide +kernel
theorem d198_59 : decode (zB 198) 59 = .ok (.goto 52, 3) := by decide +kernel
theorem d198_62 : decode (zB 198) 62 = .ok (.iload_n 2, 1) := by decide +kernel
theorem d198_63 : decode (zB 198) 63 = .ok (.iconst 2, 1) := by decide +kernel
theorem d198_64 : decode (zB 198) 64 = .ok (.if_icmp .ne 10, 3) := by decide +kernel
theorem d198_67 : decode (zB 198) 67 = .ok (.aload_n 0, 1) := by decide +kernel
theorem d198_68 : decode (zB 198) 68 = .ok (.getfield 318, 3) := by decide +kernel
theorem d198_71 : decode (zB 198) 71 = .ok (.goto 40, 3) := by decide +kernel
theorem d198_74 : decode (zB 198) 74 = .ok (.iload_n 2, 1) := by decide +kernel
theorem d198_75 : decode (zB 198) 75 = .ok (.iconst 3, 1) := by decide +kernel
theorem d198_76 : decode (zB 198) 76 = .ok (.if_icmp .ne 10, 3) := by decide +kernel
theorem d198_79 : decode (zB 198) 79 = .ok (.aload_n 0, 1) := by decide +kernel
theorem d198_80 : decode (zB 198) 80 = .ok (.invokevirtual 358, 3) := by decide +kernel
theorem d198_83 : decode (zB 198) 83 = .ok (.goto 28, 3) := by decide +kernel
theorem d198_86 : decode (zB 198) 86 = .ok (.iload_n 2, 1) := by decide +kernel
theorem d198_87 : decode (zB 198) 87 = .ok (.bipush 10, 2) := by decide +kernel
theorem d198_89 : decode (zB 198) 89 = .ok (.isub, 1) := by decide +kernel
theorem d198_90 : decode (zB 198) 90 = .ok (.aload_n 0, 1) := by decide +kernel
theorem d198_91 : decode (zB 198) 91 = .ok (.getfield 162, 3) := by decide +kernel
theorem d198_94 : decode (zB 198) 94 = .ok (.if_icmp .ge 15, 3) := by decide +kernel
theorem d198_97 : decode (zB 198) 97 = .ok (.aload_n 0, 1) := by decide +kernel
theorem d198_98 : decode (zB 198) 98 = .ok (.getfield 22, 3) := by decide +kernel
theorem d198_101 : decode (zB 198) 101 = .ok (.iload_n 2, 1) := by decide +kernel
theorem d198_102 : decode (zB 198) 102 = .ok (.bipush 10, 2) := by decide +kernel
theorem d198_104 : decode (zB 198) 104 = .ok (.isub, 1) := by decide +kernel
theorem d198_105 : decode (zB 198) 105 = .ok (.iaload, 1) := by decide +kernel
theorem d198_106 : decode (zB 198) 106 = .ok (.goto 5, 3) := by decide +kernel
theorem d198_109 : decode (zB 198) 109 = .ok (.bipush (-2), 2) := by decide +kernel
theorem d198_111 : decode (zB 198) 111 = .ok (.istore_n 3, 1) := by decide +kernel
theorem d198_112 : decode (zB 198) 112 = .ok (.aload_n 0, 1) := by decide +kernel
theorem d198_113 : decode (zB 198) 113 = .ok (.invokevirtual 364, 3) := by decide +kernel
theorem d198_116 : decode (zB 198) 116 = .ok (.iload_n 3, 1) := by decide +kernel
theorem d198_117 : decode (zB 198) 117 = .ok (.ireturn, 1) := by decide +kernel
theorem d199_0 : decode (zB 199) 0 = .ok (.iload_n 1, 1) := by decide +kernel
theorem d199_1 : decode (zB 199) 1 = .ok (.iconst 1, 1) := by decide +kernel
theorem d199_2 : decode (zB 199) 2 = .ok (.sipush 10000, 3) := by decide +kernel
theorem d199_5 : decode (zB 199) 5 = .ok (.invokestatic 169, 3) := by decide +kernel
theorem d199_8 : decode (zB 199) 8 = .ok (.ifCond .eq 13, 3) := by decide +kernel
theorem d199_11 : decode (zB 199) 11 = .ok (.iload_n 2, 1) := by decide +kernel
theorem d199_12 : decode (zB 199) 12 = .ok (.iconst 1, 1) := by decide +kernel
theorem d199_13 : decode (zB 199) 13 = .ok (.bipush 9, 2) := by decide +kernel
theorem d199_15 : decode (zB 199) 15 = .ok (.invokestatic 169, 3) := by decide +kernel
theorem d199_18 : decode (zB 199) 18 = .ok (.ifCond .ne 5, 3) := by decide +kernel
theorem d199_21 : decode (zB 199) 21 = .ok (.iconst (-1), 1) := by decide +kernel
theorem d199_22 : decode (zB 199) 22 = .ok (.ireturn, 1) := by decide +kernel
theorem d199_23 : decode (zB 199) 23 = .ok (.iload_n 2, 1) := by decide +kernel
theorem d199_24 : decode (zB 199) 24 = .ok (.iconst 1, 1) := by decide +kernel
theorem d199_25 : decode (zB 199) 25 = .ok (.if_icmp .ne 15, 3) := by decide +kernel
theorem d199_28 : decode (zB 199) 28 = .ok (.iload_n 1, 1) := by decide +kernel
theorem d199_29 : decode (zB 199) 29 = .ok (.iconst 1, 1) := by decide +kernel
theorem d199_30 : decode (zB 199) 30 = .ok (.if_icmp .ne 7, 3) := by decide +kernel
theorem d199_33 : decode (zB 199) 33 = .ok (.iconst 0, 1) := by decide +kernel
theorem d199_34 : decode (zB 199) 34 = .ok (.goto 5, 3) := by decide +kernel
theorem d199_37 : decode (zB 199) 37 = .ok (.bipush (-2), 2) := by decide +kernel
theorem d199_39 : decode (zB 199) 39 = .ok (.ireturn, 1) := by decide +kernel
theorem d199_40 : decode (zB 199) 40 = .ok (.iconst 0, 1) := by decide +kernel
theorem d199_41 : decode (zB 199) 41 = .ok (.istore_n 3, 1) := by decide +kernel
theorem d199_42 : decode (zB 199) 42 = .ok (.iconst 1, 1) := by decide +kernel
theorem d199_43 : decode (zB 199) 43 = .ok (.istore 4, 2) := by decide +kernel
theorem d199_45 : decode (zB 199) 45 = .ok (.iload 4, 2) := by decide +kernel
theorem d199_47 : decode (zB 199) 47 = .ok (.iload_n 1, 1) := by decide +kernel
theorem d199_48 : decode (zB 199) 48 = .ok (.if_icmp .ge 16, 3) := by decide +kernel
theorem d199_51 : decode (zB 199) 51 = .ok (.iload_n 3, 1) := by decide +kernel
theorem d199_52 : decode (zB 199) 52 = .ok (.iconst 1, 1) := by decide +kernel
theorem d199_53 : decode (zB 199) 53 = .ok (.iadd, 1) := by decide +kernel
theorem d199_54 : decode (zB 199) 54 = .ok (.istore_n 3, 1) := by decide +kernel
theorem d199_55 : decode (zB 199) 55 = .ok (.iload 4, 2) := by decide +kernel
theorem d199_57 : decode (zB 199) 57 = .ok (.iload_n 2, 1) := by decide +kernel
theorem d199_58 : decode (zB 199) 58 = .ok (.imul, 1) := by decide +kernel
theorem d199_59 : decode (zB 199) 59 = .ok (.istore 4, 2) := by decide +kernel
theorem d199_61 : decode (zB 199) 61 = .ok (.goto (-16), 3) := by decide +kernel
theorem d199_64 : decode (zB 199) 64 = .ok (.iload_n 3, 1) := by decide +kernel
theorem d199_65 : decode (zB 199) 65 = .ok (.ireturn, 1) := by decide +kernel
theorem d200_0 : decode (zB 200) 0 = .ok (.aload_n 0, 1) := by decide +kernel
theorem d200_1 : decode (zB 200) 1 = .ok (.iconst 0, 1) := by decide +kernel
theorem d200_2 : decode (zB 200) 2 = .ok (.putfield 367, 3) := by decide +kernel
theorem d200_5 : decode (zB 200) 5 = .ok (.iconst 0, 1) := by decide +kernel
theorem d200_6 : decode (zB 200) 6 = .ok (.istore_n 1, 1) := by decide +kernel
theorem d200_7 : decode (zB 200) 7 = .ok (.iload_n 1, 1) := by decide +kernel
theorem d200_8 : decode (zB 200) 8 = .ok (.bipush 20, 2) := by decide +kernel
theorem d200_10 : decode (zB 200) 10 = .ok (.if_icmp .ge 112, 3) := by decide +kernel
theorem d200_13 : decode (zB 200) 13 = .ok (.iconst (-1), 1) := by decide +kernel
theorem d200_14 : decode (zB 200) 14 = .ok (.istore_n 2, 1) := by decide +kernel
theorem d200_15 : decode (zB 200) 15 = .ok (.iconst (-1), 1) := by decide +kernel
theorem d200_16 : decode (zB 200) 16 = .ok (.istore_n 3, 1) := by decide +kernel
theorem d200_17 : decode (zB 200) 17 = .ok (.iconst 0, 1) := by decide +kernel
theorem d200_18 : decode (zB 200) 18 = .ok (.istore 4, 2) := by decide +kernel
theorem d200_20 : decode (zB 200) 20 = .ok (.iload 4, 2) := by decide +kernel
theorem d200_22 : decode (zB 200) 22 = .ok (.aload_n 0, 1) := by decide +kernel
theorem d200_23 : decode (zB 200) 23 = .ok (.getfield 162, 3) := by decide +kernel
theorem d200_26 : decode (zB 200) 26 = .ok (.if_icmp .ge 42, 3) := by decide +kernel
theorem d200_29 : decode (zB 200) 29 = .ok (.aload_n 0, 1) := by decide +kernel
theorem d200_30 : decode (zB 200) 30 = .ok (.aload_n 0, 1) := by decide +kernel
theorem d200_31 : decode (zB 200) 31 = .ok (.getfield 22, 3) := by decide +kernel
theorem d200_34 : decode (zB 200) 34 = .ok (.iload 4, 2) := by decide +kernel
theorem d200_36 : decode (zB 200) 36 = .ok (.iaload, 1) := by decide +kernel
theorem d200_37 : decode (zB 200) 37 = .ok (.invokevirtual 291, 3) := by decide +kernel
theorem d200_40 : decode (zB 200) 40 = .ok (.iload_n 1, 1) := by decide +kernel
theorem d200_41 : decode (zB 200) 41 = .ok (.if_icmp .eq 6, 3) := by decide +kernel
theorem d200_44 : decode (zB 200) 44 = .ok (.goto 18, 3) := by decide +kernel
theorem d200_47 : decode (zB 200) 47 = .ok (.iload_n 2, 1) := by decide +kernel
theorem d200_48 : decode (zB 200) 48 = .ok (.iconst (-1), 1) := by decide +kernel
theorem d200_49 : decode (zB 200) 49 = .ok (.if_icmp .ne 8, 3) := by decide +kernel
theorem d200_52 : decode (zB 200) 52 = .ok (.iload 4, 2) := by decide +kernel
theorem d200_54 : decode (zB 200) 54 = .ok (.goto 4, 3) := by decide +kernel
theorem d200_57 : decode (zB 200) 57 = .ok (.iload_n 2, 1) := by decide +kernel
theorem d200_58 : decode (zB 200) 58 = .ok (.istore_n 2, 1) := by decide +kernel
theorem d200_59 : decode (zB 200) 59 = .ok (.iload 4, 2) := by decide +kernel
theorem d200_61 : decode (zB 200) 61 = .ok (.istore_n 3, 1) := by decide +kernel
theorem d200_62 : decode (zB 200) 62 = .ok (.iinc 4 1, 3) := by decide +kernel
theorem d200_65 : decode (zB 200) 65 = .ok (.goto (-45), 3) := by decide +kernel
theorem d200_68 : decode (zB 200) 68 = .ok (.iload_n 2, 1) := by decide +kernel
theorem d200_69 : decode (zB 200) 69 = .ok (.iconst (-1), 1) := by decide +kernel
theorem d200_70 : decode (zB 200) 70 = .ok (.if_icmp .ne 6, 3) := by decide +kernel
theorem d200_73 : decode (zB 200) 73 = .ok (.goto 43, 3) := by decide +kernel
theorem d200_76 : decode (zB 200) 76 = .ok (.aload_n 0, 1) := by decide +kernel
theorem d200_77 : decode (zB 200) 77 = .ok (.getfield 83, 3) := by decide +kernel
theorem d200_80 : decode (zB 200) 80 = .ok (.aload_n 0, 1) := by decide +kernel
theorem d200_81 : decode (zB 200) 81 = .ok (.getfield 367, 3) := by decide +kernel
theorem d200_84 : decode (zB 200) 84 = .ok (.iload_n 1, 1) := by decide +kernel
theorem d200_85 : decode (zB 200) 85 = .ok (.iastore, 1) := by decide +kernel
theorem d200_86 : decode (zB 200) 86 = .ok (.aload_n 0, 1) := by decide +kernel
theorem d200_87 : decode (zB 200) 87 = .ok (.getfield 86, 3) := by decide +kernel
theorem d200_90 : decode (zB 200) 90 = .ok (.aload_n 0, 1) := by decide +kernel
theorem d200_91 : decode (zB 200) 91 = .ok (.getfield 367, 3) := by decide +kernel
theorem d200_94 : decode (zB 200) 94 = .ok (.iload_n 2, 1) := by decide +kernel
theorem d200_95 : decode (zB 200) 95 = .ok (.iastore, 1) := by decide +kernel
theorem d200_96 : decode (zB 200) 96 = .ok (.aload_n 0, 1) := by decide +kernel
theorem d200_97 : decode (zB 200) 97 = .ok (.getfield 89, 3) := by decide +kernel
theorem d200_100 : decode (zB 200) 100 = .ok (.aload_n 0, 1) := by decide +kernel
theorem d200_101 : decode (zB 200) 101 = .ok (.getfield 367, 3) := by decide +kernel
theorem d200_104 : decode (zB 200) 104 = .ok (.iload_n 3, 1) := by decide +kernel
theorem d200_105 : decode (zB 200) 105 = .ok (.iastore, 1) := by decide +kernel
theorem d200_106 : decode (zB 200) 106 = .ok (.aload_n 0, 1) := by decide +kernel
theorem d200_107 : decode (zB 200) 107 = .ok (.aload_n 0, 1) := by decide +kernel
theorem d200_108 : decode (zB 200) 108 = .ok (.getfield 367, 3) := by decide +kernel
theorem d200_111 : decode (zB 200) 111 = .ok (.iconst 1, 1) := by decide +kernel
theorem d200_112 : decode (zB 200) 112 = .ok (.iadd, 1) := by decide +kernel
theorem d200_113 : decode (zB 200) 113 = .ok (.putfield 367, 3) := by decide +kernel
theorem d200_116 : decode (zB 200) 116 = .ok (.iinc 1 1, 3) := by decide +kernel
theorem d200_119 : decode (zB 200) 119 = .ok (.goto (-112), 3) := by decide +kernel
theorem d200_122 : decode (zB 200) 122 = .ok (.return_, 1) := by decide +kernel
theorem d201_0 : decode (zB 201) 0 = .ok (.iload_n 2, 1) := by decide +kernel
theorem d201_1 : decode (zB 201) 1 = .ok (.ifCond .eq 28, 3) := by decide +kernel
theorem d201_4 : decode (zB 201) 4 = .ok (.aload_n 0, 1) := by decide +kernel
theorem d201_5 : decode (zB 201) 5 = .ok (.getfield 86, 3) := by decide +kernel
theorem d201_8 : decode (zB 201) 8 = .ok (.iload_n 1, 1) := by decide +kernel
theorem d201_9 : decode (zB 201) 9 = .ok (.iaload, 1) := by decide +kernel
theorem d201_10 : decode (zB 201) 10 = .ok (.aload_n 0, 1) := by decide +kernel
theorem d201_11 : decode (zB 201) 11 = .ok (.getfield 89, 3) := by decide +kernel
theorem d201_14 : decode (zB 201) 14 = .ok (.iload_n 1, 1) := by decide +kernel
theorem d201_15 : decode (zB 201) 15 = .ok (.iconst 1, 1) := by decide +kernel
theorem d201_16 : decode (zB 201) 16 = .ok (.iadd, 1) := by decide +kernel
theorem d201_17 : decode (zB 201) 17 = .ok (.iaload, 1) := by decide +kernel
theorem d201_18 : decode (zB 201) 18 = .ok (.if_icmp .le 7, 3) := by decide +kernel
theorem d201_21 : decode (zB 201) 21 = .ok (.iconst 1, 1) := by decide +kernel
theorem d201_22 : decode (zB 201) 22 = .ok (.goto 29, 3) := by decide +kernel
theorem d201_25 : decode (zB 201) 25 = .ok (.iconst 0, 1) := by decide +kernel
theorem d201_26 : decode (zB 201) 26 = .ok (.goto 25, 3) := by decide +kernel
theorem d201_29 : decode (zB 201) 29 = .ok (.aload_n 0, 1) := by decide +kernel
theorem d201_30 : decode (zB 201) 30 = .ok (.getfield 89, 3) := by decide +kernel
theorem d201_33 : decode (zB 201) 33 = .ok (.iload_n 1, 1) := by decide +kernel
theorem d201_34 : decode (zB 201) 34 = .ok (.iaload, 1) := by decide +kernel
theorem d201_35 : decode (zB 201) 35 = .ok (.aload_n 0, 1) := by decide +kernel
theorem d201_36 : decode (zB 201) 36 = .ok (.getfield 86, 3) := by decide +kernel
theorem d201_39 : decode (zB 201) 39 = .ok (.iload_n 1, 1) := by decide +kernel
theorem d201_40 : decode (zB 201) 40 = .ok (.iconst 1, 1) := by decide +kernel
theorem d201_41 : decode (zB 201) 41 = .ok (.iadd, 1) := by decide +kernel
theorem d201_42 : decode (zB 201) 42 = .ok (.iaload, 1) := by decide +kernel
theorem d201_43 : decode (zB 201) 43 = .ok (.if_icmp .ge 7, 3) := by decide +kernel
theorem d201_46 : decode (zB 201) 46 = .ok (.iconst 1, 1) := by decide +kernel
theorem d201_47 : decode (zB 201) 47 = .ok (.goto 4, 3) := by decide +kernel
theorem d201_50 : decode (zB 201) 50 = .ok (.iconst 0, 1) := by decide +kernel
theorem d201_51 : decode (zB 201) 51 = .ok (.ireturn, 1) := by decide +kernel
theorem d202_0 : decode (zB 202) 0 = .ok (.iload_n 1, 1) := by decide +kernel
theorem d202_1 : decode (zB 202) 1 = .ok (.iconst 0, 1) := by decide +kernel
theorem d202_2 : decode (zB 202) 2 = .ok (.iconst 1, 1) := by decide +kernel
theorem d202_3 : decode (zB 202) 3 = .ok (.invokestatic 169, 3) := by decide +kernel
theorem d202_6 : decode (zB 202) 6 = .ok (.ifCond .ne 5, 3) := by decide +kernel
theorem d202_9 : decode (zB 202) 9 = .ok (.iconst (-1), 1) := by decide +kernel
theorem d202_10 : decode (zB 202) 10 = .ok (.ireturn, 1) := by decide +kernel
theorem d202_11 : decode (zB 202) 11 = .ok (.aload_n 0, 1) := by decide +kernel
theorem d202_12 : decode (zB 202) 12 = .ok (.invokevirtual 370, 3) := by decide +kernel
theorem d202_15 : decode (zB 202) 15 = .ok (.aload_n 0, 1) := by decide +kernel
theorem d202_16 : decode (zB 202) 16 = .ok (.getfield 367, 3) := by decide +kernel
theorem d202_19 : decode (zB 202) 19 = .ok (.ifCond .le 7, 3) := by decide +kernel
theorem d202_22 : decode (zB 202) 22 = .ok (.iconst 1, 1) := by decide +kernel
theorem d202_23 : decode (zB 202) 23 = .ok (.goto 4, 3) := by decide +kernel
theorem d202_26 : decode (zB 202) 26 = .ok (.iconst 0, 1) := by decide +kernel
theorem d202_27 : decode (zB 202) 27 = .ok (.istore_n 2, 1) := by decide +kernel
theorem d202_28 : decode (zB 202) 28 = .ok (.iconst 0, 1) := by decide +kernel
theorem d202_29 : decode (zB 202) 29 = .ok (.istore_n 3, 1) := by decide +kernel
theorem d202_30 : decode (zB 202) 30 = .ok (.iload_n 3, 1) := by decide +kernel
theorem d202_31 : decode (zB 202) 31 = .ok (.iconst 1, 1) := by decide +kernel
theorem d202_32 : decode (zB 202) 32 = .ok (.iadd, 1) := by decide +kernel
theorem d202_33 : decode (zB 202) 33 = .ok (.aload_n 0, 1) := by decide +kernel
theorem d202_34 : decode (zB 202) 34 = .ok (.getfield 367, 3) := by decide +kernel
theorem d202_37 : decode (zB 202) 37 = .ok (.if_icmp .ge 35, 3) := by decide +kernel
theorem d202_40 : decode (zB 202) 40 = .ok (.iload_n 2, 1) := by decide +kernel
theorem d202_41 : decode (zB 202) 41 = .ok (.aload_n 0, 1) := by decide +kernel
theorem d202_42 : decode (zB 202) 42 = .ok (.iload_n 3, 1) := by decide +kernel
theorem d202_43 : decode (zB 202) 43 = .ok (.iload_n 1, 1) := by decide +kernel
theorem d202_44 : decode (zB 202) 44 = .ok (.iconst 1, 1) := by decide +kernel
theorem d202_45 : decode (zB 202) 45 = .ok (.if_icmp .ne 7, 3) := by decide +kernel
theorem d202_48 : decode (zB 202) 48 = .ok (.iconst 1, 1) := by decide +kernel
theorem d202_49 : decode (zB 202) 49 = .ok (.goto 4, 3) := by decide +kernel
theorem d202_52 : decode (zB 202) 52 = .ok (.iconst 0, 1) := by decide +kernel
theorem d202_53 : decode (zB 202) 53 = .ok (.invokevirtual 373, 3) := by decide +kernel
theorem d202_56 : decode (zB 202) 56 = .ok (.ifCond .eq 7, 3) := by decide +kernel
theorem d202_59 : decode (zB 202) 59 = .ok (.iconst 0, 1) := by decide +kernel
theorem d202_60 : decode (zB 202) 60 = .ok (.goto 4, 3) := by decide +kernel
theorem d202_63 : decode (zB 202) 63 = .ok (.iconst 1, 1) := by decide +kernel
theorem d202_64 : decode (zB 202) 64 = .ok (.iadd, 1) := by decide +kernel
theorem d202_65 : decode (zB 202) 65 = .ok (.istore_n 2, 1) := by decide +kernel
theorem d202_66 : decode (zB 202) 66 = .ok (.iinc 3 1, 3) := by decide +kernel
theorem d202_69 : decode (zB 202) 69 = .ok (.goto (-39), 3) := by decide +kernel
theorem d202_72 : decode (zB 202) 72 = .ok (.iload_n 2, 1) := by decide +kernel
theorem d202_73 : decode (zB 202) 73 = .ok (.ireturn, 1) := by decide +kernel
theorem d203_0 : decode (zB 203) 0 = .ok (.iload_n 2, 1) := by decide +kernel
theorem d203_1 : decode (zB 203) 1 = .ok (.istore_n 3, 1) := by decide +kernel
theorem d203_2 : decode (zB 203) 2 = .ok (.iconst 1, 1) := by decide +kernel
theorem d203_3 : decode (zB 203) 3 = .ok (.istore 4, 2) := by decide +kernel
theorem d203_5 : decode (zB 203) 5 = .ok (.iconst 0, 1) := by decide +kernel
theorem d203_6 : decode (zB 203) 6 = .ok (.istore 5, 2) := by decide +kernel
theorem d203_8 : decode (zB 203) 8 = .ok (.iconst 1, 1) := by decide +kernel
theorem d203_9 : decode (zB 203) 9 = .ok (.istore 6, 2) := by decide +kernel
theorem d203_11 : decode (zB 203) 11 = .ok (.iload 6, 2) := by decide +kernel
theorem d203_13 : decode (zB 203) 13 = .ok (.iload_n 1, 1) := by decide +kernel
theorem d203_14 : decode (zB 203) 14 = .ok (.if_icmp .ge 18, 3) := by decide +kernel
theorem d203_17 : decode (zB 203) 17 = .ok (.iload 4, 2) := by decide +kernel
theorem d203_19 : decode (zB 203) 19 = .ok (.aload_n 0, 1) := by decide +kernel
theorem d203_20 : decode (zB 203) 20 = .ok (.getfield 156, 3) := by decide +kernel
theorem d203_23 : decode (zB 203) 23 = .ok (.imul, 1) := by decide +kernel
theorem d203_24 : decode (zB 203) 24 = .ok (.istore 4, 2) := by decide +kernel
theorem d203_26 : decode (zB 203) 26 = .ok (.iinc 6 1, 3) := by decide +kernel
theorem d203_29 : decode (zB 203) 29 = .ok (.goto (-18), 3) := by decide +kernel
theorem d203_32 : decode (zB 203) 32 = .ok (.iload_n 1, 1) := by decide +kernel
theorem d203_33 : decode (zB 203) 33 = .ok (.iconst 1, 1) := by decide +kernel
theorem d203_34 : decode (zB 203) 34 = .ok (.isub, 1) := by decide +kernel
theorem d203_35 : decode (zB 203) 35 = .ok (.istore 6, 2) := by decide +kernel
theorem d203_37 : decode (zB 203) 37 = .ok (.iload 6, 2) := by decide +kernel
theorem d203_39 : decode (zB 203) 39 = .ok (.ifCond .lt 70, 3) := by decide +kernel
theorem d203_42 : decode (zB 203) 42 = .ok (.aload_n 0, 1) := by decide +kernel
theorem d203_43 : decode (zB 203) 43 = .ok (.getfield 92, 3) := by decide +kernel
theorem d203_46 : decode (zB 203) 46 = .ok (.iload 6, 2) := by decide +kernel
theorem d203_48 : decode (zB 203) 48 = .ok (.iload_n 3, 1) := by decide +kernel
theorem d203_49 : decode (zB 203) 49 = .ok (.iload 4, 2) := by decide +kernel
theorem d203_51 : decode (zB 203) 51 = .ok (.idiv, 1) := by decide +kernel
theorem d203_52 : decode (zB 203) 52 = .ok (.iastore, 1) := by decide +kernel
theorem d203_53 : decode (zB 203) 53 = .ok (.iload_n 3, 1) := by decide +kernel
theorem d203_54 : decode (zB 203) 54 = .ok (.iload 4, 2) := by decide +kernel
theorem d203_56 : decode (zB 203) 56 = .ok (.irem, 1) := by decide +kernel
theorem d203_57 : decode (zB 203) 57 = .ok (.istore_n 3, 1) := by decide +kernel
theorem d203_58 : decode (zB 203) 58 = .ok (.aload_n 0, 1) := by decide +kernel
theorem d203_59 : decode (zB 203) 59 = .ok (.getfield 180, 3) := by decide +kernel
theorem d203_62 : decode (zB 203) 62 = .ok (.aload_n 0, 1) := by decide +kernel
theorem d203_63 : decode (zB 203) 63 = .ok (.getfield 92, 3) := by decide +kernel
theorem d203_66 : decode (zB 203) 66 = .ok (.iload 6, 2) := by decide +kernel
theorem d203_68 : decode (zB 203) 68 = .ok (.iaload, 1) := by decide +kernel
theorem d203_69 : decode (zB 203) 69 = .ok (.invokestatic 300, 3) := by decide +kernel
theorem d203_72 : decode (zB 203) 72 = .ok (.ifCond .eq 22, 3) := by decide +kernel
theorem d203_75 : decode (zB 203) 75 = .ok (.iload 4, 2) := by decide +kernel
theorem d203_77 : decode (zB 203) 77 = .ok (.iconst 1, 1) := by decide +kernel
theorem d203_78 : decode (zB 203) 78 = .ok (.isub, 1) := by decide +kernel
theorem d203_79 : decode (zB 203) 79 = .ok (.iload_n 3, 1) := by decide +kernel
theorem d203_80 : decode (zB 203) 80 = .ok (.isub, 1) := by decide +kernel
theorem d203_81 : decode (zB 203) 81 = .ok (.istore_n 3, 1) := by decide +kernel
theorem d203_82 : decode (zB 203) 82 = .ok (.iload 5, 2) := by decide +kernel
theorem d203_84 : decode (zB 203) 84 = .ok (.ifCond .ne 7, 3) := by decide +kernel
theorem d203_87 : decode (zB 203) 87 = .ok (.iconst 1, 1) := by decide +kernel
theorem d203_88 : decode (zB 203) 88 = .ok (.goto 4, 3) := by decide +kernel
theorem d203_91 : decode (zB 203) 91 = .ok (.iconst 0, 1) := by decide +kernel
theorem d203_92 : decode (zB 203) 92 = .ok (.istore 5, 2) := by decide +kernel
theorem d203_94 : decode (zB 203) 94 = .ok (.iload 4, 2) := by decide +kernel
theorem d203_96 : decode (zB 203) 96 = .ok (.aload_n 0, 1) := by decide +kernel
theorem d203_97 : decode (zB 203) 97 = .ok (.getfield 156, 3) := by decide +kernel
theorem d203_100 : decode (zB 203) 100 = .ok (.idiv, 1) := by decide +kernel
theorem d203_101 : decode (zB 203) 101 = .ok (.istore 4, 2) := by decide +kernel
theorem d203_103 : decode (zB 203) 103 = .ok (.iinc 6 (-1), 3) := by decide +kernel
theorem d203_106 : decode (zB 203) 106 = .ok (.goto (-69), 3) := by decide +kernel
theorem d203_109 : decode (zB 203) 109 = .ok (.iload 5, 2) := by decide +kernel
theorem d203_111 : decode (zB 203) 111 = .ok (.ireturn, 1) := by decide +kernel
theorem d204_0 : decode (zB 204) 0 = .ok (.iconst 1, 1) := by decide +kernel
theorem d204_1 : decode (zB 204) 1 = .ok (.istore_n 2, 1) := by decide +kernel
theorem d204_2 : decode (zB 204) 2 = .ok (.iconst 0, 1) := by decide +kernel
theorem d204_3 : decode (zB 204) 3 = .ok (.istore_n 3, 1) := by decide +kernel
theorem d204_4 : decode (zB 204) 4 = .ok (.iload_n 3, 1) := by decide +kernel
theorem d204_5 : decode (zB 204) 5 = .ok (.iload_n 1, 1) := by decide +kernel
theorem d204_6 : decode (zB 204) 6 = .ok (.if_icmp .ge 16, 3) := by decide +kernel
theorem d204_9 : decode (zB 204) 9 = .ok (.iload_n 2, 1) := by decide +kernel
theorem d204_10 : decode (zB 204) 10 = .ok (.aload_n 0, 1) := by decide +kernel
theorem d204_11 : decode (zB 204) 11 = .ok (.getfield 156, 3) := by decide +kernel
theorem d204_14 : decode (zB 204) 14 = .ok (.imul, 1) := by decide +kernel
theorem d204_15 : decode (zB 204) 15 = .ok (.istore_n 2, 1) := by decide +kernel
theorem d204_16 : decode (zB 204) 16 = .ok (.iinc 3 1, 3) := by decide +kernel
theorem d204_19 : decode (zB 204) 19 = .ok (.goto (-15), 3) := by decide +kernel
theorem d204_22 : decode (zB 204) 22 = .ok (.iconst 0, 1) := by decide +kernel
theorem d204_23 : decode (zB 204) 23 = .ok (.istore_n 3, 1) := by decide +kernel
theorem d204_24 : decode (zB 204) 24 = .ok (.iconst 0, 1) := by decide +kernel
theorem d204_25 : decode (zB 204) 25 = .ok (.istore 4, 2) := by decide +kernel
theorem d204_27 : decode (zB 204) 27 = .ok (.iload 4, 2) := by decide +kernel
theorem d204_29 : decode (zB 204) 29 = .ok (.iload_n 2, 1) := by decide +kernel
theorem d204_30 : decode (zB 204) 30 = .ok (.if_icmp .ge 109, 3) := by decide +kernel
theorem d204_33 : decode (zB 204) 33 = .ok (.iload_n 3, 1) := by decide +kernel
theorem d204_34 : decode (zB 204) 34 = .ok (.aload_n 0, 1) := by decide +kernel
theorem d204_35 : decode (zB 204) 35 = .ok (.getfield 367, 3) := by decide +kernel
theorem d204_38 : decode (zB 204) 38 = .ok (.if_icmp .ge 101, 3) := by decide +kernel
theorem d204_41 : decode (zB 204) 41 = .ok (.aload_n 0, 1) := by decide +kernel
theorem d204_42 : decode (zB 204) 42 = .ok (.iload_n 1, 1) := by decide +kernel
theorem d204_43 : decode (zB 204) 43 = .ok (.iload 4, 2) := by decide +kernel
theorem d204_45 : decode (zB 204) 45 = .ok (.invokevirtual 377, 3) := by decide +kernel
theorem d204_48 : decode (zB 204) 48 = .ok (.istore 5, 2) := by decide +kernel
theorem d204_50 : decode (zB 204) 50 = .ok (.iconst 1, 1) := by decide +kernel
theorem d204_51 : decode (zB 204) 51 = .ok (.istore 6, 2) := by decide +kernel
theorem d204_53 : decode (zB 204) 53 = .ok (.iload 6, 2) := by decide +kernel
theorem d204_55 : decode (zB 204) 55 = .ok (.ifCond .eq 78, 3) := by decide +kernel
theorem d204_58 : decode (zB 204) 58 = .ok (.iload_n 3, 1) := by decide +kernel
theorem d204_59 : decode (zB 204) 59 = .ok (.aload_n 0, 1) := by decide +kernel
theorem d204_60 : decode (zB 204) 60 = .ok (.getfield 367, 3) := by decide +kernel
theorem d204_63 : decode (zB 204) 63 = .ok (.if_icmp .ge 70, 3) := by decide +kernel
theorem d204_66 : decode (zB 204) 66 = .ok (.iconst 0, 1) := by decide +kernel
theorem d204_67 : decode (zB 204) 67 = .ok (.istore 7, 2) := by decide +kernel
theorem d204_69 : decode (zB 204) 69 = .ok (.iload 7, 2) := by decide +kernel
theorem d204_71 : decode (zB 204) 71 = .ok (.iload_n 1, 1) := by decide +kernel
theorem d204_72 : decode (zB 204) 72 = .ok (.if_icmp .ge 27, 3) := by decide +kernel
theorem d204_75 : decode (zB 204) 75 = .ok (.aload_n 0, 1) := by decide +kernel
theorem d204_76 : decode (zB 204) 76 = .ok (.getfield 95, 3) := by decide +kernel
theorem d204_79 : decode (zB 204) 79 = .ok (.iconst 5, 1) := by decide +kernel
theorem d204_80 : decode (zB 204) 80 = .ok (.iload_n 3, 1) := by decide +kernel
theorem d204_81 : decode (zB 204) 81 = .ok (.imul, 1) := by decide +kernel
theorem d204_82 : decode (zB 204) 82 = .ok (.iload 7, 2) := by decide +kernel
theorem d204_84 : decode (zB 204) 84 = .ok (.iadd, 1) := by decide +kernel
theorem d204_85 : decode (zB 204) 85 = .ok (.aload_n 0, 1) := by decide +kernel
theorem d204_86 : decode (zB 204) 86 = .ok (.getfield 92, 3) := by decide +kernel
theorem d204_89 : decode (zB 204) 89 = .ok (.iload 7, 2) := by decide +kernel
theorem d204_91 : decode (zB 204) 91 = .ok (.iaload, 1) := by decide +kernel
theorem d204_92 : decode (zB 204) 92 = .ok (.iastore, 1) := by decide +kernel
theorem d204_93 : decode (zB 204) 93 = .ok (.iinc 7 1, 3) := by decide +kernel
theorem d204_96 : decode (zB 204) 96 = .ok (.goto (-27), 3) := by decide +kernel
theorem d204_99 : decode (zB 204) 99 = .ok (.iload_n 3, 1) := by decide +kernel
theorem d204_100 : decode (zB 204) 100 = .ok (.iconst 1, 1) := by decide +kernel
theorem d204_101 : decode (zB 204) 101 = .ok (.iadd, 1) := by decide +kernel
theorem d204_102 : decode (zB 204) 102 = .ok (.aload_n 0, 1) := by decide +kernel
theorem d204_103 : decode (zB 204) 103 = .ok (.getfield 367, 3) := by decide +kernel
theorem d204_106 : decode (zB 204) 106 = .ok (.if_icmp .ge 17, 3) := by decide +kernel
theorem d204_109 : decode (zB 204) 109 = .ok (.aload_n 0, 1) := by decide +kernel
theorem d204_110 : decode (zB 204) 110 = .ok (.iload_n 3, 1) := by decide +kernel
theorem d204_111 : decode (zB 204) 111 = .ok (.iload 5, 2) := by decide +kernel
theorem d204_113 : decode (zB 204) 113 = .ok (.invokevirtual 373, 3) := by decide +kernel
theorem d204_116 : decode (zB 204) 116 = .ok (.ifCond .eq 7, 3) := by decide +kernel
theorem d204_119 : decode (zB 204) 119 = .ok (.iconst 1, 1) := by decide +kernel
theorem d204_120 : decode (zB 204) 120 = .ok (.goto 4, 3) := by decide +kernel
theorem d204_123 : decode (zB 204) 123 = .ok (.iconst 0, 1) := by decide +kernel
theorem d204_124 : decode (zB 204) 124 = .ok (.istore 6, 2) := by decide +kernel
theorem d204_126 : decode (zB 204) 126 = .ok (.iload_n 3, 1) := by decide +kernel
theorem d204_127 : decode (zB 204) 127 = .ok (.iconst 1, 1) := by decide +kernel
theorem d204_128 : decode (zB 204) 128 = .ok (.iadd, 1) := by decide +kernel
theorem d204_129 : decode (zB 204) 129 = .ok (.istore_n 3, 1) := by decide +kernel
theorem d204_130 : decode (zB 204) 130 = .ok (.goto (-77), 3) := by decide +kernel
theorem d204_133 : decode (zB 204) 133 = .ok (.iinc 4 1, 3) := by decide +kernel
theorem d204_136 : decode (zB 204) 136 = .ok (.goto (-109), 3) := by decide +kernel
theorem d204_139 : decode (zB 204) 139 = .ok (.iload_n 3, 1) := by decide +kernel
theorem d204_140 : decode (zB 204) 140 = .ok (.aload_n 0, 1) := by decide +kernel
theorem d204_141 : decode (zB 204) 141 = .ok (.getfield 367, 3) := by decide +kernel
theorem d204_144 : decode (zB 204) 144 = .ok (.if_icmp .ne 7, 3) := by decide +kernel
theorem d204_147 : decode (zB 204) 147 = .ok (.iconst 1, 1) := by decide +kernel
theorem d204_148 : decode (zB 204) 148 = .ok (.goto 4, 3) := by decide +kernel
theorem d204_151 : decode (zB 204) 151 = .ok (.iconst 0, 1) := by decide +kernel
theorem d204_152 : decode (zB 204) 152 = .ok (.ireturn, 1) := by decide +kernel
theorem d205_0 : decode (zB 205) 0 = .ok (.aload_n 0, 1) := by decide +kernel
theorem d205_1 : decode (zB 205) 1 = .ok (.invokevirtual 370, 3) := by decide +kernel
theorem d205_4 : decode (zB 205) 4 = .ok (.aload_n 0, 1) := by decide +kernel
theorem d205_5 : decode (zB 205) 5 = .ok (.iconst (-1), 1) := by decide +kernel
theorem d205_6 : decode (zB 205) 6 = .ok (.putfield 380, 3) := by decide +kernel
theorem d205_9 : decode (zB 205) 9 = .ok (.iconst 0, 1) := by decide +kernel
theorem d205_10 : decode (zB 205) 10 = .ok (.istore_n 1, 1) := by decide +kernel
theorem d205_11 : decode (zB 205) 11 = .ok (.iload_n 1, 1) := by decide +kernel
theorem d205_12 : decode (zB 205) 12 = .ok (.iconst 5, 1) := by decide +kernel
theorem d205_13 : decode (zB 205) 13 = .ok (.if_icmp .gt 30, 3) := by decide +kernel
theorem d205_16 : decode (zB 205) 16 = .ok (.aload_n 0, 1) := by decide +kernel
theorem d205_17 : decode (zB 205) 17 = .ok (.getfield 380, 3) := by decide +kernel
theorem d205_20 : decode (zB 205) 20 = .ok (.iconst (-1), 1) := by decide +kernel
theorem d205_21 : decode (zB 205) 21 = .ok (.if_icmp .ne 22, 3) := by decide +kernel
theorem d205_24 : decode (zB 205) 24 = .ok (.aload_n 0, 1) := by decide +kernel
theorem d205_25 : decode (zB 205) 25 = .ok (.iload_n 1, 1) := by decide +kernel
theorem d205_26 : decode (zB 205) 26 = .ok (.invokevirtual 383, 3) := by decide +kernel
theorem d205_29 : decode (zB 205) 29 = .ok (.ifCond .eq 8, 3) := by decide +kernel
theorem d205_32 : decode (zB 205) 32 = .ok (.aload_n 0, 1) := by decide +kernel
theorem d205_33 : decode (zB 205) 33 = .ok (.iload_n 1, 1) := by decide +kernel
theorem d205_34 : decode (zB 205) 34 = .ok (.putfield 380, 3) := by decide +kernel
theorem d205_37 : decode (zB 205) 37 = .ok (.iinc 1 1, 3) := by decide +kernel
theorem d205_40 : decode (zB 205) 40 = .ok (.goto (-29), 3) := by decide +kernel
theorem d205_43 : decode (zB 205) 43 = .ok (.return_, 1) := by decide +kernel
theorem d206_0 : decode (zB 206) 0 = .ok (.aload_n 0, 1) := by decide +kernel
theorem d206_1 : decode (zB 206) 1 = .ok (.invokevirtual 386, 3) := by decide +kernel
theorem d206_4 : decode (zB 206) 4 = .ok (.aload_n 0, 1) := by decide +kernel
theorem d206_5 : decode (zB 206) 5 = .ok (.getfield 380, 3) := by decide +kernel
theorem d206_8 : decode (zB 206) 8 = .ok (.iconst (-1), 1) := by decide +kernel
theorem d206_9 : decode (zB 206) 9 = .ok (.if_icmp .ne 8, 3) := by decide +kernel
theorem d206_12 : decode (zB 206) 12 = .ok (.bipush (-2), 2) := by decide +kernel
theorem d206_14 : decode (zB 206) 14 = .ok (.goto 7, 3) := by decide +kernel
theorem d206_17 : decode (zB 206) 17 = .ok (.aload_n 0, 1) := by decide +kernel
theorem d206_18 : decode (zB 206) 18 = .ok (.getfield 380, 3) := by decide +kernel
theorem d206_21 : decode (zB 206) 21 = .ok (.ireturn, 1) := by decide +kernel
theorem d207_0 : decode (zB 207) 0 = .ok (.iconst 0, 1) := by decide +kernel
theorem d207_1 : decode (zB 207) 1 = .ok (.istore_n 2, 1) := by decide +kernel
theorem d207_2 : decode (zB 207) 2 = .ok (.aload_n 0, 1) := by decide +kernel
theorem d207_3 : decode (zB 207) 3 = .ok (.getfield 83, 3) := by decide +kernel
theorem d207_6 : decode (zB 207) 6 = .ok (.iload_n 2, 1) := by decide +kernel
theorem d207_7 : decode (zB 207) 7 = .ok (.iaload, 1) := by decide +kernel
theorem d207_8 : decode (zB 207) 8 = .ok (.aload_n 0, 1) := by decide +kernel
theorem d207_9 : decode (zB 207) 9 = .ok (.iload_n 1, 1) := by decide +kernel
theorem d207_10 : decode (zB 207) 10 = .ok (.invokevirtual 291, 3) := by decide +kernel
theorem d207_13 : decode (zB 207) 13 = .ok (.if_icmp .eq 10, 3) := by decide +kernel
theorem d207_16 : decode (zB 207) 16 = .ok (.iload_n 2, 1) := by decide +kernel
theorem d207_17 : decode (zB 207) 17 = .ok (.iconst 1, 1) := by decide +kernel
theorem d207_18 : decode (zB 207) 18 = .ok (.iadd, 1) := by decide +kernel
theorem d207_19 : decode (zB 207) 19 = .ok (.istore_n 2, 1) := by decide +kernel
theorem d207_20 : decode (zB 207) 20 = .ok (.goto (-18), 3) := by decide +kernel
theorem d207_23 : decode (zB 207) 23 = .ok (.iload_n 2, 1) := by decide +kernel
theorem d207_24 : decode (zB 207) 24 = .ok (.ireturn, 1) := by decide +kernel
theorem d208_0 : decode (zB 208) 0 = .ok (.aload_n 0, 1) := by decide +kernel
theorem d208_1 : decode (zB 208) 1 = .ok (.iload_n 1, 1) := by decide +kernel
theorem d208_2 : decode (zB 208) 2 = .ok (.invokevirtual 346, 3) := by decide +kernel
theorem d208_5 : decode (zB 208) 5 = .ok (.ifCond .ne 5, 3) := by decide +kernel
theorem d208_8 : decode (zB 208) 8 = .ok (.iconst (-1), 1) := by decide +kernel
theorem d208_9 : decode (zB 208) 9 = .ok (.ireturn, 1) := by decide +kernel
theorem d208_10 : decode (zB 208) 10 = .ok (.aload_n 0, 1) := by decide +kernel
theorem d208_11 : decode (zB 208) 11 = .ok (.invokevirtual 386, 3) := by decide +kernel
theorem d208_14 : decode (zB 208) 14 = .ok (.aload_n 0, 1) := by decide +kernel
theorem d208_15 : decode (zB 208) 15 = .ok (.iload_n 1, 1) := by decide +kernel
theorem d208_16 : decode (zB 208) 16 = .ok (.invokevirtual 349, 3) := by decide +kernel
theorem d208_19 : decode (zB 208) 19 = .ok (.iconst (-1), 1) := by decide +kernel
theorem d208_20 : decode (zB 208) 20 = .ok (.if_icmp .eq 23, 3) := by decide +kernel
theorem d208_23 : decode (zB 208) 23 = .ok (.aload_n 0, 1) := by decide +kernel
theorem d208_24 : decode (zB 208) 24 = .ok (.getfield 380, 3) := by decide +kernel
theorem d208_27 : decode (zB 208) 27 = .ok (.iconst (-1), 1) := by decide +kernel
theorem d208_28 : decode (zB 208) 28 = .ok (.if_icmp .eq 15, 3) := by decide +kernel
theorem d208_31 : decode (zB 208) 31 = .ok (.iload_n 2, 1) := by decide +kernel
theorem d208_32 : decode (zB 208) 32 = .ok (.ifCond .lt 11, 3) := by decide +kernel
theorem d208_35 : decode (zB 208) 35 = .ok (.iload_n 2, 1) := by decide +kernel
theorem d208_36 : decode (zB 208) 36 = .ok (.aload_n 0, 1) := by decide +kernel
theorem d208_37 : decode (zB 208) 37 = .ok (.getfield 380, 3) := by decide +kernel
theorem d208_40 : decode (zB 208) 40 = .ok (.if_icmp .lt 6, 3) := by decide +kernel
theorem d208_43 : decode (zB 208) 43 = .ok (.bipush (-2), 2) := by decide +kernel
theorem d208_45 : decode (zB 208) 45 = .ok (.ireturn, 1) := by decide +kernel
theorem d208_46 : decode (zB 208) 46 = .ok (.aload_n 0, 1) := by decide +kernel
theorem d208_47 : decode (zB 208) 47 = .ok (.getfield 95, 3) := by decide +kernel
theorem d208_50 : decode (zB 208) 50 = .ok (.iconst 5, 1) := by decide +kernel
theorem d208_51 : decode (zB 208) 51 = .ok (.aload_n 0, 1) := by decide +kernel
theorem d208_52 : decode (zB 208) 52 = .ok (.iload_n 1, 1) := by decide +kernel
theorem d208_53 : decode (zB 208) 53 = .ok (.invokevirtual 389, 3) := by decide +kernel
theorem d208_56 : decode (zB 208) 56 = .ok (.imul, 1) := by decide +kernel
theorem d208_57 : decode (zB 208) 57 = .ok (.iload_n 2, 1) := by decide +kernel
theorem d208_58 : decode (zB 208) 58 = .ok (.iadd, 1) := by decide +kernel
theorem d208_59 : decode (zB 208) 59 = .ok (.iaload, 1) := by decide +kernel
theorem d208_60 : decode (zB 208) 60 = .ok (.ireturn, 1) := by decide +kernel
theorem d209_0 : decode (zB 209) 0 = .ok (.aload_n 0, 1) := by decide +kernel
theorem d209_1 : decode (zB 209) 1 = .ok (.invokevirtual 386, 3) := by decide +kernel
theorem d209_4 : decode (zB 209) 4 = .ok (.aload_n 0, 1) := by decide +kernel
theorem d209_5 : decode (zB 209) 5 = .ok (.getfield 380, 3) := by decide +kernel
theorem d209_8 : decode (zB 209) 8 = .ok (.iconst (-1), 1) := by decide +kernel
theorem d209_9 : decode (zB 209) 9 = .ok (.if_icmp .ne 6, 3) := by decide +kernel
theorem d209_12 : decode (zB 209) 12 = .ok (.bipush (-2), 2) := by decide +kernel
theorem d209_14 : decode (zB 209) 14 = .ok (.ireturn, 1) := by decide +kernel
theorem d209_15 : decode (zB 209) 15 = .ok (.iconst 0, 1) := by decide +kernel
theorem d209_16 : decode (zB 209) 16 = .ok (.istore_n 1, 1) := by decide +kernel
theorem d209_17 : decode (zB 209) 17 = .ok (.iload_n 1, 1) := by decide +kernel
theorem d209_18 : decode (zB 209) 18 = .ok (.aload_n 0, 1) := by decide +kernel
theorem d209_19 : decode (zB 209) 19 = .ok (.getfield 380, 3) := by decide +kernel
theorem d209_22 : decode (zB 209) 22 = .ok (.if_icmp .ge 54, 3) := by decide +kernel
theorem d209_25 : decode (zB 209) 25 = .ok (.iconst 0, 1) := by decide +kernel
theorem d209_26 : decode (zB 209) 26 = .ok (.istore_n 2, 1) := by decide +kernel
theorem d209_27 : decode (zB 209) 27 = .ok (.iload_n 2, 1) := by decide +kernel
theorem d209_28 : decode (zB 209) 28 = .ok (.aload_n 0, 1) := by decide +kernel
theorem d209_29 : decode (zB 209) 29 = .ok (.getfield 162, 3) := by decide +kernel
theorem d209_32 : decode (zB 209) 32 = .ok (.if_icmp .ge 34, 3) := by decide +kernel
theorem d209_35 : decode (zB 209) 35 = .ok (.aload_n 0, 1) := by decide +kernel
theorem d209_36 : decode (zB 209) 36 = .ok (.getfield 71, 3) := by decide +kernel
theorem d209_39 : decode (zB 209) 39 = .ok (.iload_n 2, 1) := by decide +kernel
theorem d209_40 : decode (zB 209) 40 = .ok (.aload_n 0, 1) := by decide +kernel
theorem d209_41 : decode (zB 209) 41 = .ok (.getfield 95, 3) := by decide +kernel
theorem d209_44 : decode (zB 209) 44 = .ok (.iconst 5, 1) := by decide +kernel
theorem d209_45 : decode (zB 209) 45 = .ok (.aload_n 0, 1) := by decide +kernel
theorem d209_46 : decode (zB 209) 46 = .ok (.aload_n 0, 1) := by decide +kernel
theorem d209_47 : decode (zB 209) 47 = .ok (.getfield 22, 3) := by decide +kernel
theorem d209_50 : decode (zB 209) 50 = .ok (.iload_n 2, 1) := by decide +kernel
theorem d209_51 : decode (zB 209) 51 = .ok (.iaload, 1) := by decide +kernel
theorem d209_52 : decode (zB 209) 52 = .ok (.invokevirtual 389, 3) := by decide +kernel
theorem d209_55 : decode (zB 209) 55 = .ok (.imul, 1) := by decide +kernel
theorem d209_56 : decode (zB 209) 56 = .ok (.iload_n 1, 1) := by decide +kernel
theorem d209_57 : decode (zB 209) 57 = .ok (.iadd, 1) := by decide +kernel
theorem d209_58 : decode (zB 209) 58 = .ok (.iaload, 1) := by decide +kernel
theorem d209_59 : decode (zB 209) 59 = .ok (.iastore, 1) := by decide +kernel
theorem d209_60 : decode (zB 209) 60 = .ok (.iinc 2 1, 3) := by decide +kernel
theorem d209_63 : decode (zB 209) 63 = .ok (.goto (-36), 3) := by decide +kernel
theorem d209_66 : decode (zB 209) 66 = .ok (.aload_n 0, 1) := by decide +kernel
theorem d209_67 : decode (zB 209) 67 = .ok (.invokevirtual 321, 3) := by decide +kernel
theorem d209_70 : decode (zB 209) 70 = .ok (.iinc 1 1, 3) := by decide +kernel
theorem d209_73 : decode (zB 209) 73 = .ok (.goto (-56), 3) := by decide +kernel
theorem d209_76 : decode (zB 209) 76 = .ok (.aload_n 0, 1) := by decide +kernel
theorem d209_77 : decode (zB 209) 77 = .ok (.getfield 380, 3) := by decide +kernel
theorem d209_80 : decode (zB 209) 80 = .ok (.ireturn, 1) := by decide +kernel
theorem d210_0 : decode (zB 210) 0 = .ok (.sipush 400, 3) := by decide +kernel
theorem d210_3 : decode (zB 210) 3 = .ok (.iload_n 1, 1) := by decide +kernel
theorem d210_4 : decode (zB 210) 4 = .ok (.imul, 1) := by decide +kernel
theorem d210_5 : decode (zB 210) 5 = .ok (.bipush 20, 2) := by decide +kernel
theorem d210_7 : decode (zB 210) 7 = .ok (.iload_n 2, 1) := by decide +kernel
theorem d210_8 : decode (zB 210) 8 = .ok (.imul, 1) := by decide +kernel
theorem d210_9 : decode (zB 210) 9 = .ok (.iadd, 1) := by decide +kernel
theorem d210_10 : decode (zB 210) 10 = .ok (.iload_n 3, 1) := by decide +kernel
theorem d210_11 : decode (zB 210) 11 = .ok (.iadd, 1) := by decide +kernel
theorem d210_12 : decode (zB 210) 12 = .ok (.ireturn, 1) := by decide +kernel
theorem d211_0 : decode (zB 211) 0 = .ok (.iconst 0, 1) := by decide +kernel
theorem d211_1 : decode (zB 211) 1 = .ok (.istore_n 1, 1) := by decide +kernel
theorem d211_2 : decode (zB 211) 2 = .ok (.iload_n 1, 1) := by decide +kernel
theorem d211_3 : decode (zB 211) 3 = .ok (.bipush 20, 2) := by decide +kernel
theorem d211_5 : decode (zB 211) 5 = .ok (.if_icmp .ge 16, 3) := by decide +kernel
theorem d211_8 : decode (zB 211) 8 = .ok (.aload_n 0, 1) := by decide +kernel
theorem d211_9 : decode (zB 211) 9 = .ok (.getfield 98, 3) := by decide +kernel
theorem d211_12 : decode (zB 211) 12 = .ok (.iload_n 1, 1) := by decide +kernel
theorem d211_13 : decode (zB 211) 13 = .ok (.iconst 0, 1) := by decide +kernel
theorem d211_14 : decode (zB 211) 14 = .ok (.iastore, 1) := by decide +kernel
theorem d211_15 : decode (zB 211) 15 = .ok (.iinc 1 1, 3) := by decide +kernel
theorem d211_18 : decode (zB 211) 18 = .ok (.goto (-16), 3) := by decide +kernel
theorem d211_21 : decode (zB 211) 21 = .ok (.iconst 0, 1) := by decide +kernel
theorem d211_22 : decode (zB 211) 22 = .ok (.istore_n 1, 1) := by decide +kernel
theorem d211_23 : decode (zB 211) 23 = .ok (.iload_n 1, 1) := by decide +kernel
theorem d211_24 : decode (zB 211) 24 = .ok (.aload_n 0, 1) := by decide +kernel
theorem d211_25 : decode (zB 211) 25 = .ok (.getfield 162, 3) := by decide +kernel
theorem d211_28 : decode (zB 211) 28 = .ok (.if_icmp .ge 43, 3) := by decide +kernel
theorem d211_31 : decode (zB 211) 31 = .ok (.aload_n 0, 1) := by decide +kernel
theorem d211_32 : decode (zB 211) 32 = .ok (.getfield 98, 3) := by decide +kernel
theorem d211_35 : decode (zB 211) 35 = .ok (.aload_n 0, 1) := by decide +kernel
theorem d211_36 : decode (zB 211) 36 = .ok (.getfield 7, 3) := by decide +kernel
theorem d211_39 : decode (zB 211) 39 = .ok (.aload_n 0, 1) := by decide +kernel
theorem d211_40 : decode (zB 211) 40 = .ok (.getfield 22, 3) := by decide +kernel
theorem d211_43 : decode (zB 211) 43 = .ok (.iload_n 1, 1) := by decide +kernel
theorem d211_44 : decode (zB 211) 44 = .ok (.iaload, 1) := by decide +kernel
theorem d211_45 : decode (zB 211) 45 = .ok (.iaload, 1) := by decide +kernel
theorem d211_46 : decode (zB 211) 46 = .ok (.aload_n 0, 1) := by decide +kernel
theorem d211_47 : decode (zB 211) 47 = .ok (.getfield 98, 3) := by decide +kernel
theorem d211_50 : decode (zB 211) 50 = .ok (.aload_n 0, 1) := by decide +kernel
theorem d211_51 : decode (zB 211) 51 = .ok (.getfield 7, 3) := by decide +kernel
theorem d211_54 : decode (zB 211) 54 = .ok (.aload_n 0, 1) := by decide +kernel
theorem d211_55 : decode (zB 211) 55 = .ok (.getfield 22, 3) := by decide +kernel
theorem d211_58 : decode (zB 211) 58 = .ok (.iload_n 1, 1) := by decide +kernel
theorem d211_59 : decode (zB 211) 59 = .ok (.iaload, 1) := by decide +kernel
theorem d211_60 : decode (zB 211) 60 = .ok (.iaload, 1) := by decide +kernel
theorem d211_61 : decode (zB 211) 61 = .ok (.iaload, 1) := by decide +kernel
theorem d211_62 : decode (zB 211) 62 = .ok (.iconst 1, 1) := by decide +kernel
theorem d211_63 : decode (zB 211) 63 = .ok (.iadd, 1) := by decide +kernel
theorem d211_64 : decode (zB 211) 64 = .ok (.iastore, 1) := by decide +kernel
theorem d211_65 : decode (zB 211) 65 = .ok (.iinc 1 1, 3) := by decide +kernel
theorem d211_68 : decode (zB 211) 68 = .ok (.goto (-45), 3) := by decide +kernel
theorem d211_71 : decode (zB 211) 71 = .ok (.return_, 1) := by decide +kernel
theorem d212_0 : decode (zB 212) 0 = .ok (.iconst 0, 1) := by decide +kernel
theorem d212_1 : decode (zB 212) 1 = .ok (.istore_n 3, 1) := by decide +kernel
theorem d212_2 : decode (zB 212) 2 = .ok (.iload_n 1, 1) := by decide +kernel
theorem d212_3 : decode (zB 212) 3 = .ok (.istore 4, 2) := by decide +kernel
theorem d212_5 : decode (zB 212) 5 = .ok (.iload 4, 2) := by decide +kernel
theorem d212_7 : decode (zB 212) 7 = .ok (.iload_n 2, 1) := by decide +kernel
theorem d212_8 : decode (zB 212) 8 = .ok (.if_icmp .gt 19, 3) := by decide +kernel
theorem d212_11 : decode (zB 212) 11 = .ok (.iload_n 3, 1) := by decide +kernel
theorem d212_12 : decode (zB 212) 12 = .ok (.aload_n 0, 1) := by decide +kernel
theorem d212_13 : decode (zB 212) 13 = .ok (.getfield 98, 3) := by decide +kernel
theorem d212_16 : decode (zB 212) 16 = .ok (.iload 4, 2) := by decide +kernel
theorem d212_18 : decode (zB 212) 18 = .ok (.iaload, 1) := by decide +kernel
theorem d212_19 : decode (zB 212) 19 = .ok (.iadd, 1) := by decide +kernel
theorem d212_20 : decode (zB 212) 20 = .ok (.istore_n 3, 1) := by decide +kernel
theorem d212_21 : decode (zB 212) 21 = .ok (.iinc 4 1, 3) := by decide +kernel
theorem d212_24 : decode (zB 212) 24 = .ok (.goto (-19), 3) := by decide +kernel
theorem d212_27 : decode (zB 212) 27 = .ok (.iload_n 3, 1) := by decide +kernel
theorem d212_28 : decode (zB 212) 28 = .ok (.ireturn, 1) := by decide +kernel
theorem d213_0 : decode (zB 213) 0 = .ok (.iconst 0, 1) := by decide +kernel
theorem d213_1 : decode (zB 213) 1 = .ok (.istore_n 3, 1) := by decide +kernel
theorem d213_2 : decode (zB 213) 2 = .ok (.iload_n 1, 1) := by decide +kernel
theorem d213_3 : decode (zB 213) 3 = .ok (.istore 4, 2) := by decide +kernel
theorem d213_5 : decode (zB 213) 5 = .ok (.iload 4, 2) := by decide +kernel
theorem d213_7 : decode (zB 213) 7 = .ok (.iload_n 2, 1) := by decide +kernel
theorem d213_8 : decode (zB 213) 8 = .ok (.if_icmp .gt 27, 3) := by decide +kernel
theorem d213_11 : decode (zB 213) 11 = .ok (.iload_n 3, 1) := by decide +kernel
theorem d213_12 : decode (zB 213) 12 = .ok (.aload_n 0, 1) := by decide +kernel
theorem d213_13 : decode (zB 213) 13 = .ok (.getfield 98, 3) := by decide +kernel
theorem d213_16 : decode (zB 213) 16 = .ok (.iload 4, 2) := by decide +kernel
theorem d213_18 : decode (zB 213) 18 = .ok (.iaload, 1) := by decide +kernel
theorem d213_19 : decode (zB 213) 19 = .ok (.ifCond .le 7, 3) := by decide +kernel
theorem d213_22 : decode (zB 213) 22 = .ok (.iconst 1, 1) := by decide +kernel
theorem d213_23 : decode (zB 213) 23 = .ok (.goto 4, 3) := by decide +kernel
theorem d213_26 : decode (zB 213) 26 = .ok (.iconst 0, 1) := by decide +kernel
theorem d213_27 : decode (zB 213) 27 = .ok (.iadd, 1) := by decide +kernel
theorem d213_28 : decode (zB 213) 28 = .ok (.istore_n 3, 1) := by decide +kernel
theorem d213_29 : decode (zB 213) 29 = .ok (.iinc 4 1, 3) := by decide +kernel
theorem d213_32 : decode (zB 213) 32 = .ok (.goto (-27), 3) := by decide +kernel
theorem d213_35 : decode (zB 213) 35 = .ok (.iload_n 3, 1) := by decide +kernel
theorem d213_36 : decode (zB 213) 36 = .ok (.iconst 2, 1) := by decide +kernel
theorem d213_37 : decode (zB 213) 37 = .ok (.if_icmp .ge 7, 3) := by decide +kernel
theorem d213_40 : decode (zB 213) 40 = .ok (.iconst 1, 1) := by decide +kernel
theorem d213_41 : decode (zB 213) 41 = .ok (.goto 4, 3) := by decide +kernel
theorem d213_44 : decode (zB 213) 44 = .ok (.iconst 0, 1) := by decide +kernel
theorem d213_45 : decode (zB 213) 45 = .ok (.ireturn, 1) := by decide +kernel
theorem d214_0 : decode (zB 214) 0 = .ok (.iload_n 0, 1) := by decide +kernel
theorem d214_1 : decode (zB 214) 1 = .ok (.ldc_w 392, 3) := by decide +kernel
theorem d214_4 : decode (zB 214) 4 = .ok (.if_icmp .ge 10, 3) := by decide +kernel
theorem d214_7 : decode (zB 214) 7 = .ok (.iload_n 1, 1) := by decide +kernel
theorem d214_8 : decode (zB 214) 8 = .ok (.ldc_w 392, 3) := by decide +kernel
theorem d214_11 : decode (zB 214) 11 = .ok (.if_icmp .lt 9, 3) := by decide +kernel
theorem d214_14 : decode (zB 214) 14 = .ok (.ldc_w 392, 3) := by decide +kernel
theorem d214_17 : decode (zB 214) 17 = .ok (.goto 6, 3) := by decide +kernel
theorem d214_20 : decode (zB 214) 20 = .ok (.iload_n 0, 1) := by decide +kernel
theorem d214_21 : decode (zB 214) 21 = .ok (.iload_n 1, 1) := by decide +kernel
theorem d214_22 : decode (zB 214) 22 = .ok (.iadd, 1) := by decide +kernel
theorem d214_23 : decode (zB 214) 23 = .ok (.ireturn, 1) := by decide +kernel
theorem d215_0 : decode (zB 215) 0 = .ok (.iconst 0, 1) := by decide +kernel
theorem d215_1 : decode (zB 215) 1 = .ok (.istore_n 3, 1) := by decide +kernel
theorem d215_2 : decode (zB 215) 2 = .ok (.iload_n 3, 1) := by decide +kernel
theorem d215_3 : decode (zB 215) 3 = .ok (.aload_n 0, 1) := by decide +kernel
theorem d215_4 : decode (zB 215) 4 = .ok (.getfield 156, 3) := by decide +kernel
theorem d215_7 : decode (zB 215) 7 = .ok (.if_icmp .gt 115, 3) := by decide +kernel
theorem d215_10 : decode (zB 215) 10 = .ok (.iconst 0, 1) := by decide +kernel
theorem d215_11 : decode (zB 215) 11 = .ok (.istore 4, 2) := by decide +kernel
theorem d215_13 : decode (zB 215) 13 = .ok (.iload 4, 2) := by decide +kernel
theorem d215_15 : decode (zB 215) 15 = .ok (.iload_n 2, 1) := by decide +kernel
theorem d215_16 : decode (zB 215) 16 = .ok (.iconst 1, 1) := by decide +kernel
theorem d215_17 : decode (zB 215) 17 = .ok (.iadd, 1) := by decide +kernel
theorem d215_18 : decode (zB 215) 18 = .ok (.if_icmp .gt 98, 3) := by decide +kernel
theorem d215_21 : decode (zB 215) 21 = .ok (.iload 4, 2) := by decide +kernel
theorem d215_23 : decode (zB 215) 23 = .ok (.iload_n 2, 1) := by decide +kernel
theorem d215_24 : decode (zB 215) 24 = .ok (.if_icmp .le 7, 3) := by decide +kernel
theorem d215_27 : decode (zB 215) 27 = .ok (.iconst 0, 1) := by decide +kernel
theorem d215_28 : decode (zB 215) 28 = .ok (.goto 6, 3) := by decide +kernel
theorem d215_31 : decode (zB 215) 31 = .ok (.ldc_w 392, 3) := by decide +kernel
theorem d215_34 : decode (zB 215) 34 = .ok (.istore 5, 2) := by decide +kernel
theorem d215_36 : decode (zB 215) 36 = .ok (.iload 4, 2) := by decide +kernel
theorem d215_38 : decode (zB 215) 38 = .ok (.istore 6, 2) := by decide +kernel
theorem d215_40 : decode (zB 215) 40 = .ok (.iload 6, 2) := by decide +kernel
theorem d215_42 : decode (zB 215) 42 = .ok (.iload_n 2, 1) := by decide +kernel
theorem d215_43 : decode (zB 215) 43 = .ok (.if_icmp .gt 53, 3) := by decide +kernel
theorem d215_46 : decode (zB 215) 46 = .ok (.iload_n 3, 1) := by decide +kernel
theorem d215_47 : decode (zB 215) 47 = .ok (.ifCond .le 49, 3) := by decide +kernel
theorem d215_50 : decode (zB 215) 50 = .ok (.iload 5, 2) := by decide +kernel
theorem d215_52 : decode (zB 215) 52 = .ok (.aload_n 0, 1) := by decide +kernel
theorem d215_53 : decode (zB 215) 53 = .ok (.getfield 101, 3) := by decide +kernel
theorem d215_56 : decode (zB 215) 56 = .ok (.aload_n 0, 1) := by decide +kernel
theorem d215_57 : decode (zB 215) 57 = .ok (.iload_n 1, 1) := by decide +kernel
theorem d215_58 : decode (zB 215) 58 = .ok (.iload 4, 2) := by decide +kernel
theorem d215_60 : decode (zB 215) 60 = .ok (.iload 6, 2) := by decide +kernel
theorem d215_62 : decode (zB 215) 62 = .ok (.invokevirtual 393, 3) := by decide +kernel
theorem d215_65 : decode (zB 215) 65 = .ok (.iaload, 1) := by decide +kernel
theorem d215_66 : decode (zB 215) 66 = .ok (.aload_n 0, 1) := by decide +kernel
theorem d215_67 : decode (zB 215) 67 = .ok (.getfield 104, 3) := by decide +kernel
theorem d215_70 : decode (zB 215) 70 = .ok (.bipush 21, 2) := by decide +kernel
theorem d215_72 : decode (zB 215) 72 = .ok (.iload_n 3, 1) := by decide +kernel
theorem d215_73 : decode (zB 215) 73 = .ok (.iconst 1, 1) := by decide +kernel
theorem d215_74 : decode (zB 215) 74 = .ok (.isub, 1) := by decide +kernel
theorem d215_75 : decode (zB 215) 75 = .ok (.imul, 1) := by decide +kernel
theorem d215_76 : decode (zB 215) 76 = .ok (.iload 6, 2) := by decide +kernel
theorem d215_78 : decode (zB 215) 78 = .ok (.iadd, 1) := by decide +kernel
theorem d215_79 : decode (zB 215) 79 = .ok (.iconst 1, 1) := by decide +kernel
theorem d215_80 : decode (zB 215) 80 = .ok (.iadd, 1) := by decide +kernel
theorem d215_81 : decode (zB 215) 81 = .ok (.iaload, 1) := by decide +kernel
theorem d215_82 : decode (zB 215) 82 = .ok (.invokestatic 396, 3) := by decide +kernel
theorem d215_85 : decode (zB 215) 85 = .ok (.invokestatic 399, 3) := by decide +kernel
theorem d215_88 : decode (zB 215) 88 = .ok (.istore 5, 2) := by decide +kernel
theorem d215_90 : decode (zB 215) 90 = .ok (.iinc 6 1, 3) := by decide +kernel
theorem d215_93 : decode (zB 215) 93 = .ok (.goto (-53), 3) := by decide +kernel
theorem d215_96 : decode (zB 215) 96 = .ok (.aload_n 0, 1) := by decide +kernel
theorem d215_97 : decode (zB 215) 97 = .ok (.getfield 104, 3) := by decide +kernel
theorem d215_100 : decode (zB 215) 100 = .ok (.bipush 21, 2) := by decide +kernel
theorem d215_102 : decode (zB 215) 102 = .ok (.iload_n 3, 1) := by decide +kernel
theorem d215_103 : decode (zB 215) 103 = .ok (.imul, 1) := by decide +kernel
theorem d215_104 : decode (zB 215) 104 = .ok (.iload 4, 2) := by decide +kernel
theorem d215_106 : decode (zB 215) 106 = .ok (.iadd, 1) := by decide +kernel
theorem d215_107 : decode (zB 215) 107 = .ok (.iload 5, 2) := by decide +kernel
theorem d215_109 : decode (zB 215) 109 = .ok (.iastore, 1) := by decide +kernel
theorem d215_110 : decode (zB 215) 110 = .ok (.iinc 4 1, 3) := by decide +kernel
theorem d215_113 : decode (zB 215) 113 = .ok (.goto (-100), 3) := by decide +kernel
theorem d215_116 : decode (zB 215) 116 = .ok (.iinc 3 1, 3) := by decide +kernel
theorem d215_119 : decode (zB 215) 119 = .ok (.goto (-117), 3) := by decide +kernel
theorem d215_122 : decode (zB 215) 122 = .ok (.return_, 1) := by decide +kernel
theorem d216_0 : decode (zB 216) 0 = .ok (.aload_n 0, 1) := by decide +kernel
theorem d216_1 : decode (zB 216) 1 = .ok (.invokevirtual 402, 3) := by decide +kernel
theorem d216_4 : decode (zB 216) 4 = .ok (.iconst 0, 1) := by decide +kernel
theorem d216_5 : decode (zB 216) 5 = .ok (.istore_n 2, 1) := by decide +kernel
theorem d216_6 : decode (zB 216) 6 = .ok (.iload_n 2, 1) := by decide +kernel
theorem d216_7 : decode (zB 216) 7 = .ok (.iload_n 1, 1) := by decide +kernel
theorem d216_8 : decode (zB 216) 8 = .ok (.if_icmp .gt 112, 3) := by decide +kernel
theorem d216_11 : decode (zB 216) 11 = .ok (.iconst 0, 1) := by decide +kernel
theorem d216_12 : decode (zB 216) 12 = .ok (.istore_n 3, 1) := by decide +kernel
theorem d216_13 : decode (zB 216) 13 = .ok (.iload_n 3, 1) := by decide +kernel
theorem d216_14 : decode (zB 216) 14 = .ok (.bipush 20, 2) := by decide +kernel
theorem d216_16 : decode (zB 216) 16 = .ok (.if_icmp .ge 98, 3) := by decide +kernel
theorem d216_19 : decode (zB 216) 19 = .ok (.iload_n 2, 1) := by decide +kernel
theorem d216_20 : decode (zB 216) 20 = .ok (.ifCond .le 11, 3) := by decide +kernel
theorem d216_23 : decode (zB 216) 23 = .ok (.aload_n 0, 1) := by decide +kernel
theorem d216_24 : decode (zB 216) 24 = .ok (.iload_n 2, 1) := by decide +kernel
theorem d216_25 : decode (zB 216) 25 = .ok (.iconst 1, 1) := by decide +kernel
theorem d216_26 : decode (zB 216) 26 = .ok (.isub, 1) := by decide +kernel
theorem d216_27 : decode (zB 216) 27 = .ok (.iload_n 3, 1) := by decide +kernel
theorem d216_28 : decode (zB 216) 28 = .ok (.invokevirtual 405, 3) := by decide +kernel
theorem d216_31 : decode (zB 216) 31 = .ok (.iconst 0, 1) := by decide +kernel
theorem d216_32 : decode (zB 216) 32 = .ok (.istore 4, 2) := by decide +kernel
theorem d216_34 : decode (zB 216) 34 = .ok (.iload 4, 2) := by decide +kernel
theorem d216_36 : decode (zB 216) 36 = .ok (.iload_n 3, 1) := by decide +kernel
theorem d216_37 : decode (zB 216) 37 = .ok (.if_icmp .gt 71, 3) := by decide +kernel
theorem d216_40 : decode (zB 216) 40 = .ok (.aload_n 0, 1) := by decide +kernel
theorem d216_41 : decode (zB 216) 41 = .ok (.getfield 101, 3) := by decide +kernel
theorem d216_44 : decode (zB 216) 44 = .ok (.aload_n 0, 1) := by decide +kernel
theorem d216_45 : decode (zB 216) 45 = .ok (.iload_n 2, 1) := by decide +kernel
theorem d216_46 : decode (zB 216) 46 = .ok (.iload 4, 2) := by decide +kernel
theorem d216_48 : decode (zB 216) 48 = .ok (.iload_n 3, 1) := by decide +kernel
theorem d216_49 : decode (zB 216) 49 = .ok (.invokevirtual 393, 3) := by decide +kernel
theorem d216_52 : decode (zB 216) 52 = .ok (.aload_n 0, 1) := by decide +kernel
theorem d216_53 : decode (zB 216) 53 = .ok (.iload 4, 2) := by decide +kernel
theorem d216_55 : decode (zB 216) 55 = .ok (.iload_n 3, 1) := by decide +kernel
theorem d216_56 : decode (zB 216) 56 = .ok (.invokevirtual 408, 3) := by decide +kernel
theorem d216_59 : decode (zB 216) 59 = .ok (.ifCond .eq 7, 3) := by decide +kernel
theorem d216_62 : decode (zB 216) 62 = .ok (.iconst 0, 1) := by decide +kernel
theorem d216_63 : decode (zB 216) 63 = .ok (.goto 38, 3) := by decide +kernel
theorem d216_66 : decode (zB 216) 66 = .ok (.iload_n 2, 1) := by decide +kernel
theorem d216_67 : decode (zB 216) 67 = .ok (.ifCond .ne 9, 3) := by decide +kernel
theorem d216_70 : decode (zB 216) 70 = .ok (.ldc_w 392, 3) := by decide +kernel
theorem d216_73 : decode (zB 216) 73 = .ok (.goto 28, 3) := by decide +kernel
theorem d216_76 : decode (zB 216) 76 = .ok (.aload_n 0, 1) := by decide +kernel
theorem d216_77 : decode (zB 216) 77 = .ok (.iload 4, 2) := by decide +kernel
theorem d216_79 : decode (zB 216) 79 = .ok (.iload_n 3, 1) := by decide +kernel
theorem d216_80 : decode (zB 216) 80 = .ok (.invokevirtual 411, 3) := by decide +kernel
theorem d216_83 : decode (zB 216) 83 = .ok (.aload_n 0, 1) := by decide +kernel
theorem d216_84 : decode (zB 216) 84 = .ok (.getfield 104, 3) := by decide +kernel
theorem d216_87 : decode (zB 216) 87 = .ok (.bipush 21, 2) := by decide +kernel
theorem d216_89 : decode (zB 216) 89 = .ok (.aload_n 0, 1) := by decide +kernel
theorem d216_90 : decode (zB 216) 90 = .ok (.getfield 156, 3) := by decide +kernel
theorem d216_93 : decode (zB 216) 93 = .ok (.imul, 1) := by decide +kernel
theorem d216_94 : decode (zB 216) 94 = .ok (.iload 4, 2) := by decide +kernel
theorem d216_96 : decode (zB 216) 96 = .ok (.iadd, 1) := by decide +kernel
theorem d216_97 : decode (zB 216) 97 = .ok (.iaload, 1) := by decide +kernel
theorem d216_98 : decode (zB 216) 98 = .ok (.invokestatic 396, 3) := by decide +kernel
theorem d216_101 : decode (zB 216) 101 = .ok (.iastore, 1) := by decide +kernel
theorem d216_102 : decode (zB 216) 102 = .ok (.iinc 4 1, 3) := by decide +kernel
theorem d216_105 : decode (zB 216) 105 = .ok (.goto (-71), 3) := by decide +kernel
theorem d216_108 : decode (zB 216) 108 = .ok (.iinc 3 1, 3) := by decide +kernel
theorem d216_111 : decode (zB 216) 111 = .ok (.goto (-98), 3) := by decide +kernel
theorem d216_114 : decode (zB 216) 114 = .ok (.iinc 2 1, 3) := by decide +kernel
theorem d216_117 : decode (zB 216) 117 = .ok (.goto (-111), 3) := by decide +kernel
theorem d216_120 : decode (zB 216) 120 = .ok (.return_, 1) := by decide +kernel
theorem d217_0 : decode (zB 217) 0 = .ok (.iload_n 1, 1) := by decide +kernel
theorem d217_1 : decode (zB 217) 1 = .ok (.invokestatic 165, 3) := by decide +kernel
theorem d217_4 : decode (zB 217) 4 = .ok (.ifCond .eq 27, 3) := by decide +kernel
theorem d217_7 : decode (zB 217) 7 = .ok (.iload_n 2, 1) := by decide +kernel
theorem d217_8 : decode (zB 217) 8 = .ok (.iload_n 1, 1) := by decide +kernel
theorem d217_9 : decode (zB 217) 9 = .ok (.bipush 19, 2) := by decide +kernel
theorem d217_11 : decode (zB 217) 11 = .ok (.invokestatic 169, 3) := by decide +kernel
theorem d217_14 : decode (zB 217) 14 = .ok (.ifCond .eq 17, 3) := by decide +kernel
theorem d217_17 : decode (zB 217) 17 = .ok (.iload_n 3, 1) := by decide +kernel
theorem d217_18 : decode (zB 217) 18 = .ok (.iconst 1, 1) := by decide +kernel
theorem d217_19 : decode (zB 217) 19 = .ok (.bipush 12, 2) := by decide +kernel
theorem d217_21 : decode (zB 217) 21 = .ok (.invokestatic 169, 3) := by decide +kernel
theorem d217_24 : decode (zB 217) 24 = .ok (.ifCond .eq 7, 3) := by decide +kernel
theorem d217_27 : decode (zB 217) 27 = .ok (.iconst 1, 1) := by decide +kernel
theorem d217_28 : decode (zB 217) 28 = .ok (.goto 4, 3) := by decide +kernel
theorem d217_31 : decode (zB 217) 31 = .ok (.iconst 0, 1) := by decide +kernel
theorem d217_32 : decode (zB 217) 32 = .ok (.ireturn, 1) := by decide +kernel
theorem d218_0 : decode (zB 218) 0 = .ok (.aload_n 0, 1) := by decide +kernel
theorem d218_1 : decode (zB 218) 1 = .ok (.iload_n 1, 1) := by decide +kernel
theorem d218_2 : decode (zB 218) 2 = .ok (.iload_n 2, 1) := by decide +kernel
theorem d218_3 : decode (zB 218) 3 = .ok (.iload_n 3, 1) := by decide +kernel
theorem d218_4 : decode (zB 218) 4 = .ok (.invokevirtual 414, 3) := by decide +kernel
theorem d218_7 : decode (zB 218) 7 = .ok (.ifCond .ne 5, 3) := by decide +kernel
theorem d218_10 : decode (zB 218) 10 = .ok (.iconst (-1), 1) := by decide +kernel
theorem d218_11 : decode (zB 218) 11 = .ok (.ireturn, 1) := by decide +kernel
theorem d218_12 : decode (zB 218) 12 = .ok (.aload_n 0, 1) := by decide +kernel
theorem d218_13 : decode (zB 218) 13 = .ok (.iload_n 3, 1) := by decide +kernel
theorem d218_14 : decode (zB 218) 14 = .ok (.invokevirtual 417, 3) := by decide +kernel
theorem d218_17 : decode (zB 218) 17 = .ok (.aload_n 0, 1) := by decide +kernel
theorem d218_18 : decode (zB 218) 18 = .ok (.getfield 101, 3) := by decide +kernel
theorem d218_21 : decode (zB 218) 21 = .ok (.aload_n 0, 1) := by decide +kernel
theorem d218_22 : decode (zB 218) 22 = .ok (.iload_n 3, 1) := by decide +kernel
theorem d218_23 : decode (zB 218) 23 = .ok (.iload_n 1, 1) := by decide +kernel
theorem d218_24 : decode (zB 218) 24 = .ok (.iload_n 2, 1) := by decide +kernel
theorem d218_25 : decode (zB 218) 25 = .ok (.invokevirtual 393, 3) := by decide +kernel
theorem d218_28 : decode (zB 218) 28 = .ok (.iaload, 1) := by decide +kernel
theorem d218_29 : decode (zB 218) 29 = .ok (.istore 4, 2) := by decide +kernel
theorem d218_31 : decode (zB 218) 31 = .ok (.iload 4, 2) := by decide +kernel
theorem d218_33 : decode (zB 218) 33 = .ok (.ldc_w 392, 3) := by decide +kernel
theorem d218_36 : decode (zB 218) 36 = .ok (.if_icmp .lt 8, 3) := by decide +kernel
theorem d218_39 : decode (zB 218) 39 = .ok (.bipush (-2), 2) := by decide +kernel
theorem d218_41 : decode (zB 218) 41 = .ok (.goto 5, 3) := by decide +kernel
theorem d218_44 : decode (zB 218) 44 = .ok (.iload 4, 2) := by decide +kernel
theorem d218_46 : decode (zB 218) 46 = .ok (.ireturn, 1) := by decide +kernel
theorem d219_0 : decode (zB 219) 0 = .ok (.aload_n 0, 1) := by decide +kernel
theorem d219_1 : decode (zB 219) 1 = .ok (.iload_n 1, 1) := by decide +kernel
theorem d219_2 : decode (zB 219) 2 = .ok (.iload_n 2, 1) := by decide +kernel
theorem d219_3 : decode (zB 219) 3 = .ok (.iload_n 3, 1) := by decide +kernel
theorem d219_4 : decode (zB 219) 4 = .ok (.invokevirtual 414, 3) := by decide +kernel
theorem d219_7 : decode (zB 219) 7 = .ok (.ifCond .eq 14, 3) := by decide +kernel
theorem d219_10 : decode (zB 219) 10 = .ok (.iload 4, 2) := by decide +kernel
theorem d219_12 : decode (zB 219) 12 = .ok (.iconst 0, 1) := by decide +kernel
theorem d219_13 : decode (zB 219) 13 = .ok (.bipush 8, 2) := by decide +kernel
theorem d219_15 : decode (zB 219) 15 = .ok (.invokestatic 169, 3) := by decide +kernel
theorem d219_18 : decode (zB 219) 18 = .ok (.ifCond .ne 5, 3) := by decide +kernel
theorem d219_21 : decode (zB 219) 21 = .ok (.iconst (-1), 1) := by decide +kernel
theorem d219_22 : decode (zB 219) 22 = .ok (.ireturn, 1) := by decide +kernel
theorem d219_23 : decode (zB 219) 23 = .ok (.aload_n 0, 1) := by decide +kernel
theorem d219_24 : decode (zB 219) 24 = .ok (.iload_n 3, 1) := by decide +kernel
theorem d219_25 : decode (zB 219) 25 = .ok (.invokevirtual 417, 3) := by decide +kernel
theorem d219_28 : decode (zB 219) 28 = .ok (.aload_n 0, 1) := by decide +kernel
theorem d219_29 : decode (zB 219) 29 = .ok (.getfield 101, 3) := by decide +kernel
theorem d219_32 : decode (zB 219) 32 = .ok (.aload_n 0, 1) := by decide +kernel
theorem d219_33 : decode (zB 219) 33 = .ok (.iload_n 3, 1) := by decide +kernel
theorem d219_34 : decode (zB 219) 34 = .ok (.iload_n 1, 1) := by decide +kernel
theorem d219_35 : decode (zB 219) 35 = .ok (.iload_n 2, 1) := by decide +kernel
theorem d219_36 : decode (zB 219) 36 = .ok (.invokevirtual 393, 3) := by decide +kernel
theorem d219_39 : decode (zB 219) 39 = .ok (.iaload, 1) := by decide +kernel
theorem d219_40 : decode (zB 219) 40 = .ok (.ldc_w 392, 3) := by decide +kernel
theorem d219_43 : decode (zB 219) 43 = .ok (.if_icmp .lt 5, 3) := by decide +kernel
theorem d219_46 : decode (zB 219) 46 = .ok (.iconst (-1), 1) := by decide +kernel
theorem d219_47 : decode (zB 219) 47 = .ok (.ireturn, 1) := by decide +kernel
theorem d219_48 : decode (zB 219) 48 = .ok (.aload_n 0, 1) := by decide +kernel
theorem d219_49 : decode (zB 219) 49 = .ok (.iload_n 1, 1) := by decide +kernel
theorem d219_50 : decode (zB 219) 50 = .ok (.iload_n 2, 1) := by decide +kernel
theorem d219_51 : decode (zB 219) 51 = .ok (.invokevirtual 408, 3) := by decide +kernel
theorem d219_54 : decode (zB 219) 54 = .ok (.ifCond .eq 6, 3) := by decide +kernel
theorem d219_57 : decode (zB 219) 57 = .ok (.bipush (-2), 2) := by decide +kernel
theorem d219_59 : decode (zB 219) 59 = .ok (.ireturn, 1) := by decide +kernel
theorem d219_60 : decode (zB 219) 60 = .ok (.aload_n 0, 1) := by decide +kernel
theorem d219_61 : decode (zB 219) 61 = .ok (.iload_n 3, 1) := by decide +kernel
theorem d219_62 : decode (zB 219) 62 = .ok (.iconst 1, 1) := by decide +kernel
theorem d219_63 : decode (zB 219) 63 = .ok (.isub, 1) := by decide +kernel
theorem d219_64 : decode (zB 219) 64 = .ok (.iload_n 2, 1) := by decide +kernel
theorem d219_65 : decode (zB 219) 65 = .ok (.invokevirtual 405, 3) := by decide +kernel
theorem d219_68 : decode (zB 219) 68 = .ok (.iconst 1, 1) := by decide +kernel
theorem d219_69 : decode (zB 219) 69 = .ok (.istore 5, 2) := by decide +kernel
theorem d219_71 : decode (zB 219) 71 = .ok (.aload_n 0, 1) := by decide +kernel
theorem d219_72 : decode (zB 219) 72 = .ok (.getfield 104, 3) := by decide +kernel
theorem d219_75 : decode (zB 219) 75 = .ok (.bipush 21, 2) := by decide +kernel
theorem d219_77 : decode (zB 219) 77 = .ok (.iload 5, 2) := by decide +kernel
theorem d219_79 : decode (zB 219) 79 = .ok (.imul, 1) := by decide +kernel
theorem d219_80 : decode (zB 219) 80 = .ok (.iload_n 1, 1) := by decide +kernel
theorem d219_81 : decode (zB 219) 81 = .ok (.iadd, 1) := by decide +kernel
theorem d219_82 : decode (zB 219) 82 = .ok (.iaload, 1) := by decide +kernel
theorem d219_83 : decode (zB 219) 83 = .ok (.aload_n 0, 1) := by decide +kernel
theorem d219_84 : decode (zB 219) 84 = .ok (.getfield 104, 3) := by decide +kernel
theorem d219_87 : decode (zB 219) 87 = .ok (.bipush 21, 2) := by decide +kernel
theorem d219_89 : decode (zB 219) 89 = .ok (.aload_n 0, 1) := by decide +kernel
theorem d219_90 : decode (zB 219) 90 = .ok (.getfield 156, 3) := by decide +kernel
theorem d219_93 : decode (zB 219) 93 = .ok (.imul, 1) := by decide +kernel
theorem d219_94 : decode (zB 219) 94 = .ok (.iload_n 1, 1) := by decide +kernel
theorem d219_95 : decode (zB 219) 95 = .ok (.iadd, 1) := by decide +kernel
theorem d219_96 : decode (zB 219) 96 = .ok (.iaload, 1) := by decide +kernel
theorem d219_97 : decode (zB 219) 97 = .ok (.if_icmp .eq 12, 3) := by decide +kernel
theorem d219_100 : decode (zB 219) 100 = .ok (.iload 5, 2) := by decide +kernel
theorem d219_102 : decode (zB 219) 102 = .ok (.iconst 1, 1) := by decide +kernel
theorem d219_103 : decode (zB 219) 103 = .ok (.iadd, 1) := by decide +kernel
theorem d219_104 : decode (zB 219) 104 = .ok (.istore 5, 2) := by decide +kernel
theorem d219_106 : decode (zB 219) 106 = .ok (.goto (-35), 3) := by decide +kernel
theorem d219_109 : decode (zB 219) 109 = .ok (.iload 4, 2) := by decide +kernel
theorem d219_111 : decode (zB 219) 111 = .ok (.iload 5, 2) := by decide +kernel
theorem d219_113 : decode (zB 219) 113 = .ok (.if_icmp .lt 6, 3) := by decide +kernel
theorem d219_116 : decode (zB 219) 116 = .ok (.bipush (-2), 2) := by decide +kernel
theorem d219_118 : decode (zB 219) 118 = .ok (.ireturn, 1) := by decide +kernel
theorem d219_119 : decode (zB 219) 119 = .ok (.iload_n 1, 1) := by decide +kernel
theorem d219_120 : decode (zB 219) 120 = .ok (.istore 6, 2) := by decide +kernel
theorem d219_122 : decode (zB 219) 122 = .ok (.iconst 0, 1) := by decide +kernel
theorem d219_123 : decode (zB 219) 123 = .ok (.istore 7, 2) := by decide +kernel
theorem d219_125 : decode (zB 219) 125 = .ok (.iload 7, 2) := by decide +kernel
theorem d219_127 : decode (zB 219) 127 = .ok (.iload 4, 2) := by decide +kernel
theorem d219_129 : decode (zB 219) 129 = .ok (.if_icmp .ge 87, 3) := by decide +kernel
theorem d219_132 : decode (zB 219) 132 = .ok (.iload 5, 2) := by decide +kernel
theorem d219_134 : decode (zB 219) 134 = .ok (.iload 7, 2) := by decide +kernel
theorem d219_136 : decode (zB 219) 136 = .ok (.isub, 1) := by decide +kernel
theorem d219_137 : decode (zB 219) 137 = .ok (.istore 8, 2) := by decide +kernel
theorem d219_139 : decode (zB 219) 139 = .ok (.iload 6, 2) := by decide +kernel
theorem d219_141 : decode (zB 219) 141 = .ok (.istore 9, 2) := by decide +kernel
theorem d219_143 : decode (zB 219) 143 = .ok (.aload_n 0, 1) := by decide +kernel
theorem d219_144 : decode (zB 219) 144 = .ok (.getfield 101, 3) := by decide +kernel
theorem d219_147 : decode (zB 219) 147 = .ok (.aload_n 0, 1) := by decide +kernel
theorem d219_148 : decode (zB 219) 148 = .ok (.iload_n 3, 1) := by decide +kernel
theorem d219_149 : decode (zB 219) 149 = .ok (.iconst 1, 1) := by decide +kernel
theorem d219_150 : decode (zB 219) 150 = .ok (.isub, 1) := by decide +kernel
theorem d219_151 : decode (zB 219) 151 = .ok (.iload 6, 2) := by decide +kernel
theorem d219_153 : decode (zB 219) 153 = .ok (.iload 9, 2) := by decide +kernel
theorem d219_155 : decode (zB 219) 155 = .ok (.invokevirtual 393, 3) := by decide +kernel
theorem d219_158 : decode (zB 219) 158 = .ok (.iaload, 1) := by decide +kernel
theorem d219_159 : decode (zB 219) 159 = .ok (.aload_n 0, 1) := by decide +kernel
theorem d219_160 : decode (zB 219) 160 = .ok (.getfield 104, 3) := by decide +kernel
theorem d219_163 : decode (zB 219) 163 = .ok (.bipush 21, 2) := by decide +kernel
theorem d219_165 : decode (zB 219) 165 = .ok (.iload 8, 2) := by decide +kernel
theorem d219_167 : decode (zB 219) 167 = .ok (.iconst 1, 1) := by decide +kernel
theorem d219_168 : decode (zB 219) 168 = .ok (.isub, 1) := by decide +kernel
theorem d219_169 : decode (zB 219) 169 = .ok (.imul, 1) := by decide +kernel
theorem d219_170 : decode (zB 219) 170 = .ok (.iload 9, 2) := by decide +kernel
theorem d219_172 : decode (zB 219) 172 = .ok (.iadd, 1) := by decide +kernel
theorem d219_173 : decode (zB 219) 173 = .ok (.iconst 1, 1) := by decide +kernel
theorem d219_174 : decode (zB 219) 174 = .ok (.iadd, 1) := by decide +kernel
theorem d219_175 : decode (zB 219) 175 = .ok (.iaload, 1) := by decide +kernel
theorem d219_176 : decode (zB 219) 176 = .ok (.invokestatic 396, 3) := by decide +kernel
theorem d219_179 : decode (zB 219) 179 = .ok (.aload_n 0, 1) := by decide +kernel
theorem d219_180 : decode (zB 219) 180 = .ok (.getfield 104, 3) := by decide +kernel
theorem d219_183 : decode (zB 219) 183 = .ok (.bipush 21, 2) := by decide +kernel
theorem d219_185 : decode (zB 219) 185 = .ok (.iload 8, 2) := by decide +kernel
theorem d219_187 : decode (zB 219) 187 = .ok (.imul, 1) := by decide +kernel
theorem d219_188 : decode (zB 219) 188 = .ok (.iload 6, 2) := by decide +kernel
theorem d219_190 : decode (zB 219) 190 = .ok (.iadd, 1) := by decide +kernel
theorem d219_191 : decode (zB 219) 191 = .ok (.iaload, 1) := by decide +kernel
theorem d219_192 : decode (zB 219) 192 = .ok (.if_icmp .eq 12, 3) := by decide +kernel
theorem d219_195 : decode (zB 219) 195 = .ok (.iload 9, 2) := by decide +kernel
theorem d219_197 : decode (zB 219) 197 = .ok (.iconst 1, 1) := by decide +kernel
theorem d219_198 : decode (zB 219) 198 = .ok (.iadd, 1) := by decide +kernel
theorem d219_199 : decode (zB 219) 199 = .ok (.istore 9, 2) := by decide +kernel
theorem d219_201 : decode (zB 219) 201 = .ok (.goto (-58), 3) := by decide +kernel
theorem d219_204 : decode (zB 219) 204 = .ok (.iload 9, 2) := by decide +kernel
theorem d219_206 : decode (zB 219) 206 = .ok (.iconst 1, 1) := by decide +kernel
theorem d219_207 : decode (zB 219) 207 = .ok (.iadd, 1) := by decide +kernel
theorem d219_208 : decode (zB 219) 208 = .ok (.istore 6, 2) := by decide +kernel
theorem d219_210 : decode (zB 219) 210 = .ok (.iinc 7 1, 3) := by decide +kernel
theorem d219_213 : decode (zB 219) 213 = .ok (.goto (-88), 3) := by decide +kernel
theorem d219_216 : decode (zB 219) 216 = .ok (.iload 6, 2) := by decide +kernel
theorem d219_218 : decode (zB 219) 218 = .ok (.ireturn, 1) := by decide +kernel
theorem d220_0 : decode (zB 220) 0 = .ok (.iconst 0, 1) := by decide +kernel
theorem d220_1 : decode (zB 220) 1 = .ok (.istore_n 2, 1) := by decide +kernel
theorem d220_2 : decode (zB 220) 2 = .ok (.iconst 0, 1) := by decide +kernel
theorem d220_3 : decode (zB 220) 3 = .ok (.istore_n 3, 1) := by decide +kernel
theorem d220_4 : decode (zB 220) 4 = .ok (.iload_n 3, 1) := by decide +kernel
theorem d220_5 : decode (zB 220) 5 = .ok (.aload_n 0, 1) := by decide +kernel
theorem d220_6 : decode (zB 220) 6 = .ok (.getfield 162, 3) := by decide +kernel
theorem d220_9 : decode (zB 220) 9 = .ok (.if_icmp .ge 107, 3) := by decide +kernel
theorem d220_12 : decode (zB 220) 12 = .ok (.aload_n 0, 1) := by decide +kernel
theorem d220_13 : decode (zB 220) 13 = .ok (.getfield 107, 3) := by decide +kernel
theorem d220_16 : decode (zB 220) 16 = .ok (.iload_n 3, 1) := by decide +kernel
theorem d220_17 : decode (zB 220) 17 = .ok (.iconst 1, 1) := by decide +kernel
theorem d220_18 : decode (zB 220) 18 = .ok (.iastore, 1) := by decide +kernel
theorem d220_19 : decode (zB 220) 19 = .ok (.iconst 0, 1) := by decide +kernel
theorem d220_20 : decode (zB 220) 20 = .ok (.istore 4, 2) := by decide +kernel
theorem d220_22 : decode (zB 220) 22 = .ok (.iload 4, 2) := by decide +kernel
theorem d220_24 : decode (zB 220) 24 = .ok (.iload_n 3, 1) := by decide +kernel
theorem d220_25 : decode (zB 220) 25 = .ok (.if_icmp .ge 74, 3) := by decide +kernel
theorem d220_28 : decode (zB 220) 28 = .ok (.aload_n 0, 1) := by decide +kernel
theorem d220_29 : decode (zB 220) 29 = .ok (.aload_n 0, 1) := by decide +kernel
theorem d220_30 : decode (zB 220) 30 = .ok (.getfield 22, 3) := by decide +kernel
theorem d220_33 : decode (zB 220) 33 = .ok (.iload_n 3, 1) := by decide +kernel
theorem d220_34 : decode (zB 220) 34 = .ok (.iaload, 1) := by decide +kernel
theorem d220_35 : decode (zB 220) 35 = .ok (.invokevirtual 291, 3) := by decide +kernel
theorem d220_38 : decode (zB 220) 38 = .ok (.aload_n 0, 1) := by decide +kernel
theorem d220_39 : decode (zB 220) 39 = .ok (.aload_n 0, 1) := by decide +kernel
theorem d220_40 : decode (zB 220) 40 = .ok (.getfield 22, 3) := by decide +kernel
theorem d220_43 : decode (zB 220) 43 = .ok (.iload 4, 2) := by decide +kernel
theorem d220_45 : decode (zB 220) 45 = .ok (.iaload, 1) := by decide +kernel
theorem d220_46 : decode (zB 220) 46 = .ok (.invokevirtual 291, 3) := by decide +kernel
theorem d220_49 : decode (zB 220) 49 = .ok (.isub, 1) := by decide +kernel
theorem d220_50 : decode (zB 220) 50 = .ok (.istore 5, 2) := by decide +kernel
theorem d220_52 : decode (zB 220) 52 = .ok (.iload_n 1, 1) := by decide +kernel
theorem d220_53 : decode (zB 220) 53 = .ok (.ifCond .eq 11, 3) := by decide +kernel
theorem d220_56 : decode (zB 220) 56 = .ok (.iload 5, 2) := by decide +kernel
theorem d220_58 : decode (zB 220) 58 = .ok (.ifCond .le 35, 3) := by decide +kernel
theorem d220_61 : decode (zB 220) 61 = .ok (.goto 8, 3) := by decide +kernel
theorem d220_64 : decode (zB 220) 64 = .ok (.iload 5, 2) := by decide +kernel
theorem d220_66 : decode (zB 220) 66 = .ok (.ifCond .ge 27, 3) := by decide +kernel
theorem d220_69 : decode (zB 220) 69 = .ok (.aload_n 0, 1) := by decide +kernel
theorem d220_70 : decode (zB 220) 70 = .ok (.getfield 107, 3) := by decide +kernel
theorem d220_73 : decode (zB 220) 73 = .ok (.iload_n 3, 1) := by decide +kernel
theorem d220_74 : decode (zB 220) 74 = .ok (.aload_n 0, 1) := by decide +kernel
theorem d220_75 : decode (zB 220) 75 = .ok (.getfield 107, 3) := by decide +kernel
theorem d220_78 : decode (zB 220) 78 = .ok (.iload_n 3, 1) := by decide +kernel
theorem d220_79 : decode (zB 220) 79 = .ok (.iaload, 1) := by decide +kernel
theorem d220_80 : decode (zB 220) 80 = .ok (.aload_n 0, 1) := by decide +kernel
theorem d220_81 : decode (zB 220) 81 = .ok (.getfield 107, 3) := by decide +kernel
theorem d220_84 : decode (zB 220) 84 = .ok (.iload 4, 2) := by decide +kernel
theorem d220_86 : decode (zB 220) 86 = .ok (.iaload, 1) := by decide +kernel
theorem d220_87 : decode (zB 220) 87 = .ok (.iconst 1, 1) := by decide +kernel
theorem d220_88 : decode (zB 220) 88 = .ok (.iadd, 1) := by decide +kernel
theorem d220_89 : decode (zB 220) 89 = .ok (.invokestatic 420, 3) := by decide +kernel
theorem d220_92 : decode (zB 220) 92 = .ok (.iastore, 1) := by decide +kernel
theorem d220_93 : decode (zB 220) 93 = .ok (.iinc 4 1, 3) := by decide +kernel
theorem d220_96 : decode (zB 220) 96 = .ok (.goto (-74), 3) := by decide +kernel
theorem d220_99 : decode (zB 220) 99 = .ok (.iload_n 2, 1) := by decide +kernel
theorem d220_100 : decode (zB 220) 100 = .ok (.aload_n 0, 1) := by decide +kernel
theorem d220_101 : decode (zB 220) 101 = .ok (.getfield 107, 3) := by decide +kernel
theorem d220_104 : decode (zB 220) 104 = .ok (.iload_n 3, 1) := by decide +kernel
theorem d220_105 : decode (zB 220) 105 = .ok (.iaload, 1) := by decide +kernel
theorem d220_106 : decode (zB 220) 106 = .ok (.invokestatic 420, 3) := by decide +kernel
theorem d220_109 : decode (zB 220) 109 = .ok (.istore_n 2, 1) := by decide +kernel
theorem d220_110 : decode (zB 220) 110 = .ok (.iinc 3 1, 3) := by decide +kernel
theorem d220_113 : decode (zB 220) 113 = .ok (.goto (-109), 3) := by decide +kernel
theorem d220_116 : decode (zB 220) 116 = .ok (.iload_n 2, 1) := by decide +kernel
theorem d220_117 : decode (zB 220) 117 = .ok (.ireturn, 1) := by decide +kernel
theorem d221_0 : decode (zB 221) 0 = .ok (.aload_n 0, 1) := by decide +kernel
theorem d221_1 : decode (zB 221) 1 = .ok (.iconst 0, 1) := by decide +kernel
theorem d221_2 : decode (zB 221) 2 = .ok (.invokevirtual 423, 3) := by decide +kernel
theorem d221_5 : decode (zB 221) 5 = .ok (.ireturn, 1) := by decide +kernel
theorem d222_0 : decode (zB 222) 0 = .ok (.aload_n 0, 1) := by decide +kernel
theorem d222_1 : decode (zB 222) 1 = .ok (.iconst 1, 1) := by decide +kernel
theorem d222_2 : decode (zB 222) 2 = .ok (.invokevirtual 423, 3) := by decide +kernel
theorem d222_5 : decode (zB 222) 5 = .ok (.ireturn, 1) := by decide +kernel
theorem d223_0 : decode (zB 223) 0 = .ok (.iload_n 2, 1) := by decide +kernel
theorem d223_1 : decode (zB 223) 1 = .ok (.iconst (-1), 1) := by decide +kernel
theorem d223_2 : decode (zB 223) 2 = .ok (.if_icmp .eq 27, 3) := by decide +kernel
theorem d223_5 : decode (zB 223) 5 = .ok (.aload_n 0, 1) := by decide +kernel
theorem d223_6 : decode (zB 223) 6 = .ok (.getfield 180, 3) := by decide +kernel
theorem d223_9 : decode (zB 223) 9 = .ok (.iload_n 1, 1) := by decide +kernel
theorem d223_10 : decode (zB 223) 10 = .ok (.invokestatic 300, 3) := by decide +kernel
theorem d223_13 : decode (zB 223) 13 = .ok (.ifCond .eq 11, 3) := by decide +kernel
theorem d223_16 : decode (zB 223) 16 = .ok (.iload_n 3, 1) := by decide +kernel
theorem d223_17 : decode (zB 223) 17 = .ok (.iload_n 2, 1) := by decide +kernel
theorem d223_18 : decode (zB 223) 18 = .ok (.if_icmp .gt 15, 3) := by decide +kernel
theorem d223_21 : decode (zB 223) 21 = .ok (.goto 8, 3) := by decide +kernel
theorem d223_24 : decode (zB 223) 24 = .ok (.iload_n 3, 1) := by decide +kernel
theorem d223_25 : decode (zB 223) 25 = .ok (.iload_n 2, 1) := by decide +kernel
theorem d223_26 : decode (zB 223) 26 = .ok (.if_icmp .lt 7, 3) := by decide +kernel
theorem d223_29 : decode (zB 223) 29 = .ok (.iconst 1, 1) := by decide +kernel
theorem d223_30 : decode (zB 223) 30 = .ok (.goto 4, 3) := by decide +kernel
theorem d223_33 : decode (zB 223) 33 = .ok (.iconst 0, 1) := by decide +kernel
theorem d223_34 : decode (zB 223) 34 = .ok (.ireturn, 1) := by decide +kernel
theorem d224_0 : decode (zB 224) 0 = .ok (.aload_n 0, 1) := by decide +kernel
theorem d224_1 : decode (zB 224) 1 = .ok (.aload_n 0, 1) := by decide +kernel
theorem d224_2 : decode (zB 224) 2 = .ok (.getfield 22, 3) := by decide +kernel
theorem d224_5 : decode (zB 224) 5 = .ok (.iload_n 1, 1) := by decide +kernel
theorem d224_6 : decode (zB 224) 6 = .ok (.iaload, 1) := by decide +kernel
theorem d224_7 : decode (zB 224) 7 = .ok (.invokevirtual 291, 3) := by decide +kernel
theorem d224_10 : decode (zB 224) 10 = .ok (.istore_n 3, 1) := by decide +kernel
theorem d224_11 : decode (zB 224) 11 = .ok (.iload_n 2, 1) := by decide +kernel
theorem d224_12 : decode (zB 224) 12 = .ok (.istore 4, 2) := by decide +kernel
theorem d224_14 : decode (zB 224) 14 = .ok (.iload 4, 2) := by decide +kernel
theorem d224_16 : decode (zB 224) 16 = .ok (.aload_n 0, 1) := by decide +kernel
theorem d224_17 : decode (zB 224) 17 = .ok (.getfield 156, 3) := by decide +kernel
theorem d224_20 : decode (zB 224) 20 = .ok (.if_icmp .ge 120, 3) := by decide +kernel
theorem d224_23 : decode (zB 224) 23 = .ok (.aload_n 0, 1) := by decide +kernel
theorem d224_24 : decode (zB 224) 24 = .ok (.getfield 113, 3) := by decide +kernel
theorem d224_27 : decode (zB 224) 27 = .ok (.bipush 10, 2) := by decide +kernel
theorem d224_29 : decode (zB 224) 29 = .ok (.iload_n 1, 1) := by decide +kernel
theorem d224_30 : decode (zB 224) 30 = .ok (.imul, 1) := by decide +kernel
theorem d224_31 : decode (zB 224) 31 = .ok (.iload 4, 2) := by decide +kernel
theorem d224_33 : decode (zB 224) 33 = .ok (.iadd, 1) := by decide +kernel
theorem d224_34 : decode (zB 224) 34 = .ok (.iaload, 1) := by decide +kernel
theorem d224_35 : decode (zB 224) 35 = .ok (.istore 5, 2) := by decide +kernel
theorem d224_37 : decode (zB 224) 37 = .ok (.aload_n 0, 1) := by decide +kernel
theorem d224_38 : decode (zB 224) 38 = .ok (.iload 4, 2) := by decide +kernel
theorem d224_40 : decode (zB 224) 40 = .ok (.iload 5, 2) := by decide +kernel
theorem d224_42 : decode (zB 224) 42 = .ok (.iload_n 3, 1) := by decide +kernel
theorem d224_43 : decode (zB 224) 43 = .ok (.invokevirtual 427, 3) := by decide +kernel
theorem d224_46 : decode (zB 224) 46 = .ok (.ifCond .ne 6, 3) := by decide +kernel
theorem d224_49 : decode (zB 224) 49 = .ok (.goto 85, 3) := by decide +kernel
theorem d224_52 : decode (zB 224) 52 = .ok (.iconst 0, 1) := by decide +kernel
theorem d224_53 : decode (zB 224) 53 = .ok (.istore 6, 2) := by decide +kernel
theorem d224_55 : decode (zB 224) 55 = .ok (.iconst 0, 1) := by decide +kernel
theorem d224_56 : decode (zB 224) 56 = .ok (.istore 7, 2) := by decide +kernel
theorem d224_58 : decode (zB 224) 58 = .ok (.iload 7, 2) := by decide +kernel
theorem d224_60 : decode (zB 224) 60 = .ok (.iload 4, 2) := by decide +kernel
theorem d224_62 : decode (zB 224) 62 = .ok (.if_icmp .ge 64, 3) := by decide +kernel
theorem d224_65 : decode (zB 224) 65 = .ok (.iload 5, 2) := by decide +kernel
theorem d224_67 : decode (zB 224) 67 = .ok (.iconst (-1), 1) := by decide +kernel
theorem d224_68 : decode (zB 224) 68 = .ok (.if_icmp .ne 58, 3) := by decide +kernel
theorem d224_71 : decode (zB 224) 71 = .ok (.iload 6, 2) := by decide +kernel
theorem d224_73 : decode (zB 224) 73 = .ok (.ifCond .ne 40, 3) := by decide +kernel
theorem d224_76 : decode (zB 224) 76 = .ok (.aload_n 0, 1) := by decide +kernel
theorem d224_77 : decode (zB 224) 77 = .ok (.getfield 113, 3) := by decide +kernel
theorem d224_80 : decode (zB 224) 80 = .ok (.bipush 10, 2) := by decide +kernel
theorem d224_82 : decode (zB 224) 82 = .ok (.iload_n 1, 1) := by decide +kernel
theorem d224_83 : decode (zB 224) 83 = .ok (.imul, 1) := by decide +kernel
theorem d224_84 : decode (zB 224) 84 = .ok (.iload 7, 2) := by decide +kernel
theorem d224_86 : decode (zB 224) 86 = .ok (.iadd, 1) := by decide +kernel
theorem d224_87 : decode (zB 224) 87 = .ok (.iaload, 1) := by decide +kernel
theorem d224_88 : decode (zB 224) 88 = .ok (.iconst (-1), 1) := by decide +kernel
theorem d224_89 : decode (zB 224) 89 = .ok (.if_icmp .ne 28, 3) := by decide +kernel
theorem d224_92 : decode (zB 224) 92 = .ok (.aload_n 0, 1) := by decide +kernel
theorem d224_93 : decode (zB 224) 93 = .ok (.getfield 180, 3) := by decide +kernel
theorem d224_96 : decode (zB 224) 96 = .ok (.iload 7, 2) := by decide +kernel
theorem d224_98 : decode (zB 224) 98 = .ok (.invokestatic 300, 3) := by decide +kernel
theorem d224_101 : decode (zB 224) 101 = .ok (.aload_n 0, 1) := by decide +kernel
theorem d224_102 : decode (zB 224) 102 = .ok (.getfield 180, 3) := by decide +kernel
theorem d224_105 : decode (zB 224) 105 = .ok (.iload 4, 2) := by decide +kernel
theorem d224_107 : decode (zB 224) 107 = .ok (.invokestatic 300, 3) := by decide +kernel
theorem d224_110 : decode (zB 224) 110 = .ok (.if_icmp .ne 7, 3) := by decide +kernel
theorem d224_113 : decode (zB 224) 113 = .ok (.iconst 1, 1) := by decide +kernel
theorem d224_114 : decode (zB 224) 114 = .ok (.goto 4, 3) := by decide +kernel
theorem d224_117 : decode (zB 224) 117 = .ok (.iconst 0, 1) := by decide +kernel
theorem d224_118 : decode (zB 224) 118 = .ok (.istore 6, 2) := by decide +kernel
theorem d224_120 : decode (zB 224) 120 = .ok (.iinc 7 1, 3) := by decide +kernel
theorem d224_123 : decode (zB 224) 123 = .ok (.goto (-65), 3) := by decide +kernel
theorem d224_126 : decode (zB 224) 126 = .ok (.iload 6, 2) := by decide +kernel
theorem d224_128 : decode (zB 224) 128 = .ok (.ifCond .ne 6, 3) := by decide +kernel
theorem d224_131 : decode (zB 224) 131 = .ok (.iload 4, 2) := by decide +kernel
theorem d224_133 : decode (zB 224) 133 = .ok (.ireturn, 1) := by decide +kernel
theorem d224_134 : decode (zB 224) 134 = .ok (.iinc 4 1, 3) := by decide +kernel
theorem d224_137 : decode (zB 224) 137 = .ok (.goto (-123), 3) := by decide +kernel
theorem d224_140 : decode (zB 224) 140 = .ok (.iconst (-1), 1) := by decide +kernel
theorem d224_141 : decode (zB 224) 141 = .ok (.ireturn, 1) := by decide +kernel
theorem d225_0 : decode (zB 225) 0 = .ok (.iconst 0, 1) := by decide +kernel
theorem d225_1 : decode (zB 225) 1 = .ok (.istore_n 2, 1) := by decide +kernel
theorem d225_2 : decode (zB 225) 2 = .ok (.iload_n 2, 1) := by decide +kernel
theorem d225_3 : decode (zB 225) 3 = .ok (.bipush 10, 2) := by decide +kernel
theorem d225_5 : decode (zB 225) 5 = .ok (.if_icmp .ge 16, 3) := by decide +kernel
theorem d225_8 : decode (zB 225) 8 = .ok (.aload_n 0, 1) := by decide +kernel
theorem d225_9 : decode (zB 225) 9 = .ok (.getfield 113, 3) := by decide +kernel
theorem d225_12 : decode (zB 225) 12 = .ok (.iload_n 2, 1) := by decide +kernel
theorem d225_13 : decode (zB 225) 13 = .ok (.iconst (-1), 1) := by decide +kernel
theorem d225_14 : decode (zB 225) 14 = .ok (.iastore, 1) := by decide +kernel
theorem d225_15 : decode (zB 225) 15 = .ok (.iinc 2 1, 3) := by decide +kernel
theorem d225_18 : decode (zB 225) 18 = .ok (.goto (-16), 3) := by decide +kernel
theorem d225_21 : decode (zB 225) 21 = .ok (.iconst 0, 1) := by decide +kernel
theorem d225_22 : decode (zB 225) 22 = .ok (.istore_n 2, 1) := by decide +kernel
theorem d225_23 : decode (zB 225) 23 = .ok (.aload_n 0, 1) := by decide +kernel
theorem d225_24 : decode (zB 225) 24 = .ok (.getfield 110, 3) := by decide +kernel
theorem d225_27 : decode (zB 225) 27 = .ok (.iconst 0, 1) := by decide +kernel
theorem d225_28 : decode (zB 225) 28 = .ok (.iconst (-1), 1) := by decide +kernel
theorem d225_29 : decode (zB 225) 29 = .ok (.iastore, 1) := by decide +kernel
theorem d225_30 : decode (zB 225) 30 = .ok (.iload_n 2, 1) := by decide +kernel
theorem d225_31 : decode (zB 225) 31 = .ok (.ifCond .lt 126, 3) := by decide +kernel
theorem d225_34 : decode (zB 225) 34 = .ok (.aload_n 0, 1) := by decide +kernel
theorem d225_35 : decode (zB 225) 35 = .ok (.iload_n 2, 1) := by decide +kernel
theorem d225_36 : decode (zB 225) 36 = .ok (.aload_n 0, 1) := by decide +kernel
theorem d225_37 : decode (zB 225) 37 = .ok (.getfield 110, 3) := by decide +kernel
theorem d225_40 : decode (zB 225) 40 = .ok (.iload_n 2, 1) := by decide +kernel
theorem d225_41 : decode (zB 225) 41 = .ok (.iaload, 1) := by decide +kernel
theorem d225_42 : decode (zB 225) 42 = .ok (.iconst 1, 1) := by decide +kernel
theorem d225_43 : decode (zB 225) 43 = .ok (.iadd, 1) := by decide +kernel
theorem d225_44 : decode (zB 225) 44 = .ok (.invokevirtual 430, 3) := by decide +kernel
theorem d225_47 : decode (zB 225) 47 = .ok (.istore_n 3, 1) := by decide +kernel
theorem d225_48 : decode (zB 225) 48 = .ok (.iload_n 3, 1) := by decide +kernel
theorem d225_49 : decode (zB 225) 49 = .ok (.iconst (-1), 1) := by decide +kernel
theorem d225_50 : decode (zB 225) 50 = .ok (.if_icmp .ne 10, 3) := by decide +kernel
theorem d225_53 : decode (zB 225) 53 = .ok (.iload_n 2, 1) := by decide +kernel
theorem d225_54 : decode (zB 225) 54 = .ok (.iconst 1, 1) := by decide +kernel
theorem d225_55 : decode (zB 225) 55 = .ok (.isub, 1) := by decide +kernel
theorem d225_56 : decode (zB 225) 56 = .ok (.istore_n 2, 1) := by decide +kernel
theorem d225_57 : decode (zB 225) 57 = .ok (.goto (-27), 3) := by decide +kernel
theorem d225_60 : decode (zB 225) 60 = .ok (.aload_n 0, 1) := by decide +kernel
theorem d225_61 : decode (zB 225) 61 = .ok (.getfield 110, 3) := by decide +kernel
theorem d225_64 : decode (zB 225) 64 = .ok (.iload_n 2, 1) := by decide +kernel
theorem d225_65 : decode (zB 225) 65 = .ok (.iload_n 3, 1) := by decide +kernel
theorem d225_66 : decode (zB 225) 66 = .ok (.iastore, 1) := by decide +kernel
theorem d225_67 : decode (zB 225) 67 = .ok (.iload_n 2, 1) := by decide +kernel
theorem d225_68 : decode (zB 225) 68 = .ok (.iconst 1, 1) := by decide +kernel
theorem d225_69 : decode (zB 225) 69 = .ok (.iadd, 1) := by decide +kernel
theorem d225_70 : decode (zB 225) 70 = .ok (.iload_n 1, 1) := by decide +kernel
theorem d225_71 : decode (zB 225) 71 = .ok (.if_icmp .ne 5, 3) := by decide +kernel
theorem d225_74 : decode (zB 225) 74 = .ok (.iconst 1, 1) := by decide +kernel
theorem d225_75 : decode (zB 225) 75 = .ok (.ireturn, 1) := by decide +kernel
theorem d225_76 : decode (zB 225) 76 = .ok (.iconst 0, 1) := by decide +kernel
theorem d225_77 : decode (zB 225) 77 = .ok (.istore 4, 2) := by decide +kernel
theorem d225_79 : decode (zB 225) 79 = .ok (.iload 4, 2) := by decide +kernel
theorem d225_81 : decode (zB 225) 81 = .ok (.aload_n 0, 1) := by decide +kernel
theorem d225_82 : decode (zB 225) 82 = .ok (.getfield 156, 3) := by decide +kernel
theorem d225_85 : decode (zB 225) 85 = .ok (.if_icmp .ge 35, 3) := by decide +kernel
theorem d225_88 : decode (zB 225) 88 = .ok (.aload_n 0, 1) := by decide +kernel
theorem d225_89 : decode (zB 225) 89 = .ok (.getfield 113, 3) := by decide +kernel
theorem d225_92 : decode (zB 225) 92 = .ok (.bipush 10, 2) := by decide +kernel
theorem d225_94 : decode (zB 225) 94 = .ok (.iload_n 2, 1) := by decide +kernel
theorem d225_95 : decode (zB 225) 95 = .ok (.iconst 1, 1) := by decide +kernel
theorem d225_96 : decode (zB 225) 96 = .ok (.iadd, 1) := by decide +kernel
theorem d225_97 : decode (zB 225) 97 = .ok (.imul, 1) := by decide +kernel
theorem d225_98 : decode (zB 225) 98 = .ok (.iload 4, 2) := by decide +kernel
theorem d225_100 : decode (zB 225) 100 = .ok (.iadd, 1) := by decide +kernel
theorem d225_101 : decode (zB 225) 101 = .ok (.aload_n 0, 1) := by decide +kernel
theorem d225_102 : decode (zB 225) 102 = .ok (.getfield 113, 3) := by decide +kernel
theorem d225_105 : decode (zB 225) 105 = .ok (.bipush 10, 2) := by decide +kernel
theorem d225_107 : decode (zB 225) 107 = .ok (.iload_n 2, 1) := by decide +kernel
theorem d225_108 : decode (zB 225) 108 = .ok (.imul, 1) := by decide +kernel
theorem d225_109 : decode (zB 225) 109 = .ok (.iload 4, 2) := by decide +kernel
theorem d225_111 : decode (zB 225) 111 = .ok (.iadd, 1) := by decide +kernel
theorem d225_112 : decode (zB 225) 112 = .ok (.iaload, 1) := by decide +kernel
theorem d225_113 : decode (zB 225) 113 = .ok (.iastore, 1) := by decide +kernel
theorem d225_114 : decode (zB 225) 114 = .ok (.iinc 4 1, 3) := by decide +kernel
theorem d225_117 : decode (zB 225) 117 = .ok (.goto (-38), 3) := by decide +kernel
theorem d225_120 : decode (zB 225) 120 = .ok (.aload_n 0, 1) := by decide +kernel
theorem d225_121 : decode (zB 225) 121 = .ok (.getfield 113, 3) := by decide +kernel
theorem d225_124 : decode (zB 225) 124 = .ok (.bipush 10, 2) := by decide +kernel
theorem d225_126 : decode (zB 225) 126 = .ok (.iload_n 2, 1) := by decide +kernel
theorem d225_127 : decode (zB 225) 127 = .ok (.iconst 1, 1) := by decide +kernel
theorem d225_128 : decode (zB 225) 128 = .ok (.iadd, 1) := by decide +kernel
theorem d225_129 : decode (zB 225) 129 = .ok (.imul, 1) := by decide +kernel
theorem d225_130 : decode (zB 225) 130 = .ok (.iload_n 3, 1) := by decide +kernel
theorem d225_131 : decode (zB 225) 131 = .ok (.iadd, 1) := by decide +kernel
theorem d225_132 : decode (zB 225) 132 = .ok (.aload_n 0, 1) := by decide +kernel
theorem d225_133 : decode (zB 225) 133 = .ok (.aload_n 0, 1) := by decide +kernel
theorem d225_134 : decode (zB 225) 134 = .ok (.getfield 22, 3) := by decide +kernel
theorem d225_137 : decode (zB 225) 137 = .ok (.iload_n 2, 1) := by decide +kernel
theorem d225_138 : decode (zB 225) 138 = .ok (.iaload, 1) := by decide +kernel
theorem d225_139 : decode (zB 225) 139 = .ok (.invokevirtual 291, 3) := by decide +kernel
theorem d225_142 : decode (zB 225) 142 = .ok (.iastore, 1) := by decide +kernel
theorem d225_143 : decode (zB 225) 143 = .ok (.iload_n 2, 1) := by decide +kernel
theorem d225_144 : decode (zB 225) 144 = .ok (.iconst 1, 1) := by decide +kernel
theorem d225_145 : decode (zB 225) 145 = .ok (.iadd, 1) := by decide +kernel
theorem d225_146 : decode (zB 225) 146 = .ok (.istore_n 2, 1) := by decide +kernel
theorem d225_147 : decode (zB 225) 147 = .ok (.aload_n 0, 1) := by decide +kernel
theorem d225_148 : decode (zB 225) 148 = .ok (.getfield 110, 3) := by decide +kernel
theorem d225_151 : decode (zB 225) 151 = .ok (.iload_n 2, 1) := by decide +kernel
theorem d225_152 : decode (zB 225) 152 = .ok (.iconst (-1), 1) := by decide +kernel
theorem d225_153 : decode (zB 225) 153 = .ok (.iastore, 1) := by decide +kernel
theorem d225_154 : decode (zB 225) 154 = .ok (.goto (-124), 3) := by decide +kernel
theorem d225_157 : decode (zB 225) 157 = .ok (.iconst 0, 1) := by decide +kernel
theorem d225_158 : decode (zB 225) 158 = .ok (.ireturn, 1) := by decide +kernel
theorem d226_0 : decode (zB 226) 0 = .ok (.iload_n 1, 1) := by decide +kernel
theorem d226_1 : decode (zB 226) 1 = .ok (.iconst 1, 1) := by decide +kernel
theorem d226_2 : decode (zB 226) 2 = .ok (.bipush 10, 2) := by decide +kernel
theorem d226_4 : decode (zB 226) 4 = .ok (.invokestatic 169, 3) := by decide +kernel
theorem d226_7 : decode (zB 226) 7 = .ok (.ifCond .eq 11, 3) := by decide +kernel
theorem d226_10 : decode (zB 226) 10 = .ok (.iload_n 1, 1) := by decide +kernel
theorem d226_11 : decode (zB 226) 11 = .ok (.aload_n 0, 1) := by decide +kernel
theorem d226_12 : decode (zB 226) 12 = .ok (.getfield 162, 3) := by decide +kernel
theorem d226_15 : decode (zB 226) 15 = .ok (.if_icmp .le 5, 3) := by decide +kernel
theorem d226_18 : decode (zB 226) 18 = .ok (.iconst (-1), 1) := by decide +kernel
theorem d226_19 : decode (zB 226) 19 = .ok (.ireturn, 1) := by decide +kernel
theorem d226_20 : decode (zB 226) 20 = .ok (.iload_n 2, 1) := by decide +kernel
theorem d226_21 : decode (zB 226) 21 = .ok (.iconst (-1), 1) := by decide +kernel
theorem d226_22 : decode (zB 226) 22 = .ok (.if_icmp .lt 8, 3) := by decide +kernel
theorem d226_25 : decode (zB 226) 25 = .ok (.iload_n 2, 1) := by decide +kernel
theorem d226_26 : decode (zB 226) 26 = .ok (.iload_n 1, 1) := by decide +kernel
theorem d226_27 : decode (zB 226) 27 = .ok (.if_icmp .lt 6, 3) := by decide +kernel
theorem d226_30 : decode (zB 226) 30 = .ok (.bipush (-3), 2) := by decide +kernel
theorem d226_32 : decode (zB 226) 32 = .ok (.ireturn, 1) := by decide +kernel
theorem d226_33 : decode (zB 226) 33 = .ok (.aload_n 0, 1) := by decide +kernel
theorem d226_34 : decode (zB 226) 34 = .ok (.iload_n 1, 1) := by decide +kernel
theorem d226_35 : decode (zB 226) 35 = .ok (.invokevirtual 433, 3) := by decide +kernel
theorem d226_38 : decode (zB 226) 38 = .ok (.istore_n 3, 1) := by decide +kernel
theorem d226_39 : decode (zB 226) 39 = .ok (.iload_n 2, 1) := by decide +kernel
theorem d226_40 : decode (zB 226) 40 = .ok (.iconst (-1), 1) := by decide +kernel
theorem d226_41 : decode (zB 226) 41 = .ok (.if_icmp .ne 15, 3) := by decide +kernel
theorem d226_44 : decode (zB 226) 44 = .ok (.iload_n 3, 1) := by decide +kernel
theorem d226_45 : decode (zB 226) 45 = .ok (.ifCond .eq 7, 3) := by decide +kernel
theorem d226_48 : decode (zB 226) 48 = .ok (.iconst 1, 1) := by decide +kernel
theorem d226_49 : decode (zB 226) 49 = .ok (.goto 22, 3) := by decide +kernel
theorem d226_52 : decode (zB 226) 52 = .ok (.iconst 0, 1) := by decide +kernel
theorem d226_53 : decode (zB 226) 53 = .ok (.goto 18, 3) := by decide +kernel
theorem d226_56 : decode (zB 226) 56 = .ok (.iload_n 3, 1) := by decide +kernel
theorem d226_57 : decode (zB 226) 57 = .ok (.ifCond .eq 12, 3) := by decide +kernel
theorem d226_60 : decode (zB 226) 60 = .ok (.aload_n 0, 1) := by decide +kernel
theorem d226_61 : decode (zB 226) 61 = .ok (.getfield 110, 3) := by decide +kernel
theorem d226_64 : decode (zB 226) 64 = .ok (.iload_n 2, 1) := by decide +kernel
theorem d226_65 : decode (zB 226) 65 = .ok (.iaload, 1) := by decide +kernel
theorem d226_66 : decode (zB 226) 66 = .ok (.goto 5, 3) := by decide +kernel
theorem d226_69 : decode (zB 226) 69 = .ok (.bipush (-2), 2) := by decide +kernel
theorem d226_71 : decode (zB 226) 71 = .ok (.ireturn, 1) := by decide +kernel
theorem d227_0 : decode (zB 227) 0 = .ok (.aload_n 0, 1) := by decide +kernel
theorem d227_1 : decode (zB 227) 1 = .ok (.invokevirtual 402, 3) := by decide +kernel
theorem d227_4 : decode (zB 227) 4 = .ok (.aload_n 0, 1) := by decide +kernel
theorem d227_5 : decode (zB 227) 5 = .ok (.iconst 0, 1) := by decide +kernel
theorem d227_6 : decode (zB 227) 6 = .ok (.putfield 436, 3) := by decide +kernel
theorem d227_9 : decode (zB 227) 9 = .ok (.iconst 0, 1) := by decide +kernel
theorem d227_10 : decode (zB 227) 10 = .ok (.istore_n 1, 1) := by decide +kernel
theorem d227_11 : decode (zB 227) 11 = .ok (.iload_n 1, 1) := by decide +kernel
theorem d227_12 : decode (zB 227) 12 = .ok (.bipush 20, 2) := by decide +kernel
theorem d227_14 : decode (zB 227) 14 = .ok (.if_icmp .ge 135, 3) := by decide +kernel
theorem d227_17 : decode (zB 227) 17 = .ok (.aload_n 0, 1) := by decide +kernel
theorem d227_18 : decode (zB 227) 18 = .ok (.getfield 98, 3) := by decide +kernel
theorem d227_21 : decode (zB 227) 21 = .ok (.iload_n 1, 1) := by decide +kernel
theorem d227_22 : decode (zB 227) 22 = .ok (.iaload, 1) := by decide +kernel
theorem d227_23 : decode (zB 227) 23 = .ok (.ifCond .ne 6, 3) := by decide +kernel
theorem d227_26 : decode (zB 227) 26 = .ok (.goto 117, 3) := by decide +kernel
theorem d227_29 : decode (zB 227) 29 = .ok (.aload_n 0, 1) := by decide +kernel
theorem d227_30 : decode (zB 227) 30 = .ok (.getfield 436, 3) := by decide +kernel
theorem d227_33 : decode (zB 227) 33 = .ok (.bipush 8, 2) := by decide +kernel
theorem d227_35 : decode (zB 227) 35 = .ok (.if_icmp .ne 5, 3) := by decide +kernel
theorem d227_38 : decode (zB 227) 38 = .ok (.iconst 0, 1) := by decide +kernel
theorem d227_39 : decode (zB 227) 39 = .ok (.ireturn, 1) := by decide +kernel
theorem d227_40 : decode (zB 227) 40 = .ok (.aload_n 0, 1) := by decide +kernel
theorem d227_41 : decode (zB 227) 41 = .ok (.getfield 116, 3) := by decide +kernel
theorem d227_44 : decode (zB 227) 44 = .ok (.aload_n 0, 1) := by decide +kernel
theorem d227_45 : decode (zB 227) 45 = .ok (.getfield 436, 3) := by decide +kernel
theorem d227_48 : decode (zB 227) 48 = .ok (.iload_n 1, 1) := by decide +kernel
theorem d227_49 : decode (zB 227) 49 = .ok (.iastore, 1) := by decide +kernel
theorem d227_50 : decode (zB 227) 50 = .ok (.aload_n 0, 1) := by decide +kernel
theorem d227_51 : decode (zB 227) 51 = .ok (.getfield 162, 3) := by decide +kernel
theorem d227_54 : decode (zB 227) 54 = .ok (.iconst 1, 1) := by decide +kernel
theorem d227_55 : decode (zB 227) 55 = .ok (.isub, 1) := by decide +kernel
theorem d227_56 : decode (zB 227) 56 = .ok (.istore_n 2, 1) := by decide +kernel
theorem d227_57 : decode (zB 227) 57 = .ok (.iload_n 2, 1) := by decide +kernel
theorem d227_58 : decode (zB 227) 58 = .ok (.ifCond .lt 34, 3) := by decide +kernel
theorem d227_61 : decode (zB 227) 61 = .ok (.aload_n 0, 1) := by decide +kernel
theorem d227_62 : decode (zB 227) 62 = .ok (.getfield 7, 3) := by decide +kernel
theorem d227_65 : decode (zB 227) 65 = .ok (.aload_n 0, 1) := by decide +kernel
theorem d227_66 : decode (zB 227) 66 = .ok (.getfield 22, 3) := by decide +kernel
theorem d227_69 : decode (zB 227) 69 = .ok (.iload_n 2, 1) := by decide +kernel
theorem d227_70 : decode (zB 227) 70 = .ok (.iaload, 1) := by decide +kernel
theorem d227_71 : decode (zB 227) 71 = .ok (.iaload, 1) := by decide +kernel
theorem d227_72 : decode (zB 227) 72 = .ok (.iload_n 1, 1) := by decide +kernel
theorem d227_73 : decode (zB 227) 73 = .ok (.if_icmp .ne 13, 3) := by decide +kernel
theorem d227_76 : decode (zB 227) 76 = .ok (.aload_n 0, 1) := by decide +kernel
theorem d227_77 : decode (zB 227) 77 = .ok (.getfield 119, 3) := by decide +kernel
theorem d227_80 : decode (zB 227) 80 = .ok (.aload_n 0, 1) := by decide +kernel
theorem d227_81 : decode (zB 227) 81 = .ok (.getfield 436, 3) := by decide +kernel
theorem d227_84 : decode (zB 227) 84 = .ok (.iload_n 2, 1) := by decide +kernel
theorem d227_85 : decode (zB 227) 85 = .ok (.iastore, 1) := by decide +kernel
theorem d227_86 : decode (zB 227) 86 = .ok (.iinc 2 (-1), 3) := by decide +kernel
theorem d227_89 : decode (zB 227) 89 = .ok (.goto (-32), 3) := by decide +kernel
theorem d227_92 : decode (zB 227) 92 = .ok (.iconst 0, 1) := by decide +kernel
theorem d227_93 : decode (zB 227) 93 = .ok (.istore_n 2, 1) := by decide +kernel
theorem d227_94 : decode (zB 227) 94 = .ok (.iload_n 2, 1) := by decide +kernel
theorem d227_95 : decode (zB 227) 95 = .ok (.aload_n 0, 1) := by decide +kernel
theorem d227_96 : decode (zB 227) 96 = .ok (.getfield 162, 3) := by decide +kernel
theorem d227_99 : decode (zB 227) 99 = .ok (.if_icmp .ge 34, 3) := by decide +kernel
theorem d227_102 : decode (zB 227) 102 = .ok (.aload_n 0, 1) := by decide +kernel
theorem d227_103 : decode (zB 227) 103 = .ok (.getfield 7, 3) := by decide +kernel
theorem d227_106 : decode (zB 227) 106 = .ok (.aload_n 0, 1) := by decide +kernel
theorem d227_107 : decode (zB 227) 107 = .ok (.getfield 22, 3) := by decide +kernel
theorem d227_110 : decode (zB 227) 110 = .ok (.iload_n 2, 1) := by decide +kernel
theorem d227_111 : decode (zB 227) 111 = .ok (.iaload, 1) := by decide +kernel
theorem d227_112 : decode (zB 227) 112 = .ok (.iaload, 1) := by decide +kernel
theorem d227_113 : decode (zB 227) 113 = .ok (.iload_n 1, 1) := by decide +kernel
theorem d227_114 : decode (zB 227) 114 = .ok (.if_icmp .ne 13, 3) := by decide +kernel
theorem d227_117 : decode (zB 227) 117 = .ok (.aload_n 0, 1) := by decide +kernel
theorem d227_118 : decode (zB 227) 118 = .ok (.getfield 122, 3) := by decide +kernel
theorem d227_121 : decode (zB 227) 121 = .ok (.aload_n 0, 1) := by decide +kernel
theorem d227_122 : decode (zB 227) 122 = .ok (.getfield 436, 3) := by decide +kernel
theorem d227_125 : decode (zB 227) 125 = .ok (.iload_n 2, 1) := by decide +kernel
theorem d227_126 : decode (zB 227) 126 = .ok (.iastore, 1) := by decide +kernel
theorem d227_127 : decode (zB 227) 127 = .ok (.iinc 2 1, 3) := by decide +kernel
theorem d227_130 : decode (zB 227) 130 = .ok (.goto (-36), 3) := by decide +kernel
theorem d227_133 : decode (zB 227) 133 = .ok (.aload_n 0, 1) := by decide +kernel
theorem d227_134 : decode (zB 227) 134 = .ok (.aload_n 0, 1) := by decide +kernel
theorem d227_135 : decode (zB 227) 135 = .ok (.getfield 436, 3) := by decide +kernel
theorem d227_138 : decode (zB 227) 138 = .ok (.iconst 1, 1) := by decide +kernel
theorem d227_139 : decode (zB 227) 139 = .ok (.iadd, 1) := by decide +kernel
theorem d227_140 : decode (zB 227) 140 = .ok (.putfield 436, 3) := by decide +kernel
theorem d227_143 : decode (zB 227) 143 = .ok (.iinc 1 1, 3) := by decide +kernel
theorem d227_146 : decode (zB 227) 146 = .ok (.goto (-135), 3) := by decide +kernel
theorem d227_149 : decode (zB 227) 149 = .ok (.aload_n 0, 1) := by decide +kernel
theorem d227_150 : decode (zB 227) 150 = .ok (.getfield 436, 3) := by decide +kernel
theorem d227_153 : decode (zB 227) 153 = .ok (.ifCond .le 7, 3) := by decide +kernel
theorem d227_156 : decode (zB 227) 156 = .ok (.iconst 1, 1) := by decide +kernel
theorem d227_157 : decode (zB 227) 157 = .ok (.goto 4, 3) := by decide +kernel
theorem d227_160 : decode (zB 227) 160 = .ok (.iconst 0, 1) := by decide +kernel
theorem d227_161 : decode (zB 227) 161 = .ok (.ireturn, 1) := by decide +kernel
theorem d228_0 : decode (zB 228) 0 = .ok (.iload_n 1, 1) := by decide +kernel
theorem d228_1 : decode (zB 228) 1 = .ok (.aload_n 0, 1) := by decide +kernel
theorem d228_2 : decode (zB 228) 2 = .ok (.getfield 436, 3) := by decide +kernel
theorem d228_5 : decode (zB 228) 5 = .ok (.if_icmp .eq 18, 3) := by decide +kernel
theorem d228_8 : decode (zB 228) 8 = .ok (.aload_n 0, 1) := by decide +kernel
theorem d228_9 : decode (zB 228) 9 = .ok (.getfield 122, 3) := by decide +kernel
theorem d228_12 : decode (zB 228) 12 = .ok (.iload_n 1, 1) := by decide +kernel
theorem d228_13 : decode (zB 228) 13 = .ok (.iaload, 1) := by decide +kernel
theorem d228_14 : decode (zB 228) 14 = .ok (.aload_n 0, 1) := by decide +kernel
theorem d228_15 : decode (zB 228) 15 = .ok (.getfield 119, 3) := by decide +kernel
theorem d228_18 : decode (zB 228) 18 = .ok (.iload_n 2, 1) := by decide +kernel
theorem d228_19 : decode (zB 228) 19 = .ok (.iaload, 1) := by decide +kernel
theorem d228_20 : decode (zB 228) 20 = .ok (.if_icmp .le 7, 3) := by decide +kernel
theorem d228_23 : decode (zB 228) 23 = .ok (.iconst 1, 1) := by decide +kernel
theorem d228_24 : decode (zB 228) 24 = .ok (.goto 4, 3) := by decide +kernel
theorem d228_27 : decode (zB 228) 27 = .ok (.iconst 0, 1) := by decide +kernel
theorem d228_28 : decode (zB 228) 28 = .ok (.ireturn, 1) := by decide +kernel
theorem d229_0 : decode (zB 229) 0 = .ok (.aload_n 0, 1) := by decide +kernel
theorem d229_1 : decode (zB 229) 1 = .ok (.iload_n 2, 1) := by decide +kernel
theorem d229_2 : decode (zB 229) 2 = .ok (.iload_n 3, 1) := by decide +kernel
theorem d229_3 : decode (zB 229) 3 = .ok (.invokevirtual 439, 3) := by decide +kernel
theorem d229_6 : decode (zB 229) 6 = .ok (.aload_n 0, 1) := by decide +kernel
theorem d229_7 : decode (zB 229) 7 = .ok (.getfield 125, 3) := by decide +kernel
theorem d229_10 : decode (zB 229) 10 = .ok (.bipush 9, 2) := by decide +kernel
theorem d229_12 : decode (zB 229) 12 = .ok (.iload_n 1, 1) := by decide +kernel
theorem d229_13 : decode (zB 229) 13 = .ok (.iconst 1, 1) := by decide +kernel
theorem d229_14 : decode (zB 229) 14 = .ok (.iload_n 3, 1) := by decide +kernel
theorem d229_15 : decode (zB 229) 15 = .ok (.ishl, 1) := by decide +kernel
theorem d229_16 : decode (zB 229) 16 = .ok (.ior, 1) := by decide +kernel
theorem d229_17 : decode (zB 229) 17 = .ok (.imul, 1) := by decide +kernel
theorem d229_18 : decode (zB 229) 18 = .ok (.iload_n 3, 1) := by decide +kernel
theorem d229_19 : decode (zB 229) 19 = .ok (.iadd, 1) := by decide +kernel
theorem d229_20 : decode (zB 229) 20 = .ok (.iaload, 1) := by decide +kernel
theorem d229_21 : decode (zB 229) 21 = .ok (.iadd, 1) := by decide +kernel
theorem d229_22 : decode (zB 229) 22 = .ok (.ireturn, 1) := by decide +kernel
theorem d230_0 : decode (zB 230) 0 = .ok (.iconst 1, 1) := by decide +kernel
theorem d230_1 : decode (zB 230) 1 = .ok (.aload_n 0, 1) := by decide +kernel
theorem d230_2 : decode (zB 230) 2 = .ok (.getfield 436, 3) := by decide +kernel
theorem d230_5 : decode (zB 230) 5 = .ok (.ishl, 1) := by decide +kernel
theorem d230_6 : decode (zB 230) 6 = .ok (.iconst 1, 1) := by decide +kernel
theorem d230_7 : decode (zB 230) 7 = .ok (.isub, 1) := by decide +kernel
theorem d230_8 : decode (zB 230) 8 = .ok (.istore_n 1, 1) := by decide +kernel
theorem d230_9 : decode (zB 230) 9 = .ok (.iload_n 1, 1) := by decide +kernel
theorem d230_10 : decode (zB 230) 10 = .ok (.ifCond .lt 97, 3) := by decide +kernel
theorem d230_13 : decode (zB 230) 13 = .ok (.iconst 0, 1) := by decide +kernel
theorem d230_14 : decode (zB 230) 14 = .ok (.istore_n 2, 1) := by decide +kernel
theorem d230_15 : decode (zB 230) 15 = .ok (.iload_n 2, 1) := by decide +kernel
theorem d230_16 : decode (zB 230) 16 = .ok (.aload_n 0, 1) := by decide +kernel
theorem d230_17 : decode (zB 230) 17 = .ok (.getfield 436, 3) := by decide +kernel
theorem d230_20 : decode (zB 230) 20 = .ok (.if_icmp .gt 81, 3) := by decide +kernel
theorem d230_23 : decode (zB 230) 23 = .ok (.iload_n 1, 1) := by decide +kernel
theorem d230_24 : decode (zB 230) 24 = .ok (.iconst 1, 1) := by decide +kernel
theorem d230_25 : decode (zB 230) 25 = .ok (.aload_n 0, 1) := by decide +kernel
theorem d230_26 : decode (zB 230) 26 = .ok (.getfield 436, 3) := by decide +kernel
theorem d230_29 : decode (zB 230) 29 = .ok (.ishl, 1) := by decide +kernel
theorem d230_30 : decode (zB 230) 30 = .ok (.iconst 1, 1) := by decide +kernel
theorem d230_31 : decode (zB 230) 31 = .ok (.isub, 1) := by decide +kernel
theorem d230_32 : decode (zB 230) 32 = .ok (.if_icmp .ne 7, 3) := by decide +kernel
theorem d230_35 : decode (zB 230) 35 = .ok (.iconst 0, 1) := by decide +kernel
theorem d230_36 : decode (zB 230) 36 = .ok (.goto 6, 3) := by decide +kernel
theorem d230_39 : decode (zB 230) 39 = .ok (.ldc_w 392, 3) := by decide +kernel
theorem d230_42 : decode (zB 230) 42 = .ok (.istore_n 3, 1) := by decide +kernel
theorem d230_43 : decode (zB 230) 43 = .ok (.iconst 0, 1) := by decide +kernel
theorem d230_44 : decode (zB 230) 44 = .ok (.istore 4, 2) := by decide +kernel
theorem d230_46 : decode (zB 230) 46 = .ok (.iload 4, 2) := by decide +kernel
theorem d230_48 : decode (zB 230) 48 = .ok (.aload_n 0, 1) := by decide +kernel
theorem d230_49 : decode (zB 230) 49 = .ok (.getfield 436, 3) := by decide +kernel
theorem d230_52 : decode (zB 230) 52 = .ok (.if_icmp .ge 31, 3) := by decide +kernel
theorem d230_55 : decode (zB 230) 55 = .ok (.iload_n 1, 1) := by decide +kernel
theorem d230_56 : decode (zB 230) 56 = .ok (.iload 4, 2) := by decide +kernel
theorem d230_58 : decode (zB 230) 58 = .ok (.invokestatic 300, 3) := by decide +kernel
theorem d230_61 : decode (zB 230) 61 = .ok (.ifCond .ne 16, 3) := by decide +kernel
theorem d230_64 : decode (zB 230) 64 = .ok (.iload_n 3, 1) := by decide +kernel
theorem d230_65 : decode (zB 230) 65 = .ok (.aload_n 0, 1) := by decide +kernel
theorem d230_66 : decode (zB 230) 66 = .ok (.iload_n 1, 1) := by decide +kernel
theorem d230_67 : decode (zB 230) 67 = .ok (.iload_n 2, 1) := by decide +kernel
theorem d230_68 : decode (zB 230) 68 = .ok (.iload 4, 2) := by decide +kernel
theorem d230_70 : decode (zB 230) 70 = .ok (.invokevirtual 442, 3) := by decide +kernel
theorem d230_73 : decode (zB 230) 73 = .ok (.invokestatic 399, 3) := by decide +kernel
theorem d230_76 : decode (zB 230) 76 = .ok (.istore_n 3, 1) := by decide +kernel
theorem d230_77 : decode (zB 230) 77 = .ok (.iinc 4 1, 3) := by decide +kernel
theorem d230_80 : decode (zB 230) 80 = .ok (.goto (-34), 3) := by decide +kernel
theorem d230_83 : decode (zB 230) 83 = .ok (.aload_n 0, 1) := by decide +kernel
theorem d230_84 : decode (zB 230) 84 = .ok (.getfield 125, 3) := by decide +kernel
theorem d230_87 : decode (zB 230) 87 = .ok (.bipush 9, 2) := by decide +kernel
theorem d230_89 : decode (zB 230) 89 = .ok (.iload_n 1, 1) := by decide +kernel
theorem d230_90 : decode (zB 230) 90 = .ok (.imul, 1) := by decide +kernel
theorem d230_91 : decode (zB 230) 91 = .ok (.iload_n 2, 1) := by decide +kernel
theorem d230_92 : decode (zB 230) 92 = .ok (.iadd, 1) := by decide +kernel
theorem d230_93 : decode (zB 230) 93 = .ok (.iload_n 3, 1) := by decide +kernel
theorem d230_94 : decode (zB 230) 94 = .ok (.iastore, 1) := by decide +kernel
theorem d230_95 : decode (zB 230) 95 = .ok (.iinc 2 1, 3) := by decide +kernel
theorem d230_98 : decode (zB 230) 98 = .ok (.goto (-83), 3) := by decide +kernel
theorem d230_101 : decode (zB 230) 101 = .ok (.iinc 1 (-1), 3) := by decide +kernel
theorem d230_104 : decode (zB 230) 104 = .ok (.goto (-95), 3) := by decide +kernel
theorem d230_107 : decode (zB 230) 107 = .ok (.return_, 1) := by decide +kernel
theorem d231_0 : decode (zB 231) 0 = .ok (.aload_n 0, 1) := by decide +kernel
theorem d231_1 : decode (zB 231) 1 = .ok (.invokevirtual 445, 3) := by decide +kernel
theorem d231_4 : decode (zB 231) 4 = .ok (.ifCond .ne 6, 3) := by decide +kernel
theorem d231_7 : decode (zB 231) 7 = .ok (.bipush (-2), 2) := by decide +kernel
theorem d231_9 : decode (zB 231) 9 = .ok (.ireturn, 1) := by decide +kernel
theorem d231_10 : decode (zB 231) 10 = .ok (.iload_n 1, 1) := by decide +kernel
theorem d231_11 : decode (zB 231) 11 = .ok (.iconst (-1), 1) := by decide +kernel
theorem d231_12 : decode (zB 231) 12 = .ok (.aload_n 0, 1) := by decide +kernel
theorem d231_13 : decode (zB 231) 13 = .ok (.getfield 436, 3) := by decide +kernel
theorem d231_16 : decode (zB 231) 16 = .ok (.iconst 1, 1) := by decide +kernel
theorem d231_17 : decode (zB 231) 17 = .ok (.isub, 1) := by decide +kernel
theorem d231_18 : decode (zB 231) 18 = .ok (.invokestatic 169, 3) := by decide +kernel
theorem d231_21 : decode (zB 231) 21 = .ok (.ifCond .ne 6, 3) := by decide +kernel
theorem d231_24 : decode (zB 231) 24 = .ok (.bipush (-3), 2) := by decide +kernel
theorem d231_26 : decode (zB 231) 26 = .ok (.ireturn, 1) := by decide +kernel
theorem d231_27 : decode (zB 231) 27 = .ok (.aload_n 0, 1) := by decide +kernel
theorem d231_28 : decode (zB 231) 28 = .ok (.invokevirtual 448, 3) := by decide +kernel
theorem d231_31 : decode (zB 231) 31 = .ok (.iload_n 1, 1) := by decide +kernel
theorem d231_32 : decode (zB 231) 32 = .ok (.iconst (-1), 1) := by decide +kernel
theorem d231_33 : decode (zB 231) 33 = .ok (.if_icmp .ne 13, 3) := by decide +kernel
theorem d231_36 : decode (zB 231) 36 = .ok (.aload_n 0, 1) := by decide +kernel
theorem d231_37 : decode (zB 231) 37 = .ok (.getfield 125, 3) := by decide +kernel
theorem d231_40 : decode (zB 231) 40 = .ok (.aload_n 0, 1) := by decide +kernel
theorem d231_41 : decode (zB 231) 41 = .ok (.getfield 436, 3) := by decide +kernel
theorem d231_44 : decode (zB 231) 44 = .ok (.iaload, 1) := by decide +kernel
theorem d231_45 : decode (zB 231) 45 = .ok (.ireturn, 1) := by decide +kernel
theorem d231_46 : decode (zB 231) 46 = .ok (.iconst 0, 1) := by decide +kernel
theorem d231_47 : decode (zB 231) 47 = .ok (.istore_n 2, 1) := by decide +kernel
theorem d231_48 : decode (zB 231) 48 = .ok (.aload_n 0, 1) := by decide +kernel
theorem d231_49 : decode (zB 231) 49 = .ok (.getfield 436, 3) := by decide +kernel
theorem d231_52 : decode (zB 231) 52 = .ok (.istore_n 3, 1) := by decide +kernel
theorem d231_53 : decode (zB 231) 53 = .ok (.iconst 0, 1) := by decide +kernel
theorem d231_54 : decode (zB 231) 54 = .ok (.istore 4, 2) := by decide +kernel
theorem d231_56 : decode (zB 231) 56 = .ok (.iconst 0, 1) := by decide +kernel
theorem d231_57 : decode (zB 231) 57 = .ok (.istore 5, 2) := by decide +kernel
theorem d231_59 : decode (zB 231) 59 = .ok (.iload_n 2, 1) := by decide +kernel
theorem d231_60 : decode (zB 231) 60 = .ok (.iload 5, 2) := by decide +kernel
theorem d231_62 : decode (zB 231) 62 = .ok (.invokestatic 300, 3) := by decide +kernel
theorem d231_65 : decode (zB 231) 65 = .ok (.ifCond .ne 25, 3) := by decide +kernel
theorem d231_68 : decode (zB 231) 68 = .ok (.aload_n 0, 1) := by decide +kernel
theorem d231_69 : decode (zB 231) 69 = .ok (.iload_n 2, 1) := by decide +kernel
theorem d231_70 : decode (zB 231) 70 = .ok (.iload_n 3, 1) := by decide +kernel
theorem d231_71 : decode (zB 231) 71 = .ok (.iload 5, 2) := by decide +kernel
theorem d231_73 : decode (zB 231) 73 = .ok (.invokevirtual 442, 3) := by decide +kernel
theorem d231_76 : decode (zB 231) 76 = .ok (.aload_n 0, 1) := by decide +kernel
theorem d231_77 : decode (zB 231) 77 = .ok (.getfield 125, 3) := by decide +kernel
theorem d231_80 : decode (zB 231) 80 = .ok (.bipush 9, 2) := by decide +kernel
theorem d231_82 : decode (zB 231) 82 = .ok (.iload_n 2, 1) := by decide +kernel
theorem d231_83 : decode (zB 231) 83 = .ok (.imul, 1) := by decide +kernel
theorem d231_84 : decode (zB 231) 84 = .ok (.iload_n 3, 1) := by decide +kernel
theorem d231_85 : decode (zB 231) 85 = .ok (.iadd, 1) := by decide +kernel
theorem d231_86 : decode (zB 231) 86 = .ok (.iaload, 1) := by decide +kernel
theorem d231_87 : decode (zB 231) 87 = .ok (.if_icmp .eq 12, 3) := by decide +kernel
theorem d231_90 : decode (zB 231) 90 = .ok (.iload 5, 2) := by decide +kernel
theorem d231_92 : decode (zB 231) 92 = .ok (.iconst 1, 1) := by decide +kernel
theorem d231_93 : decode (zB 231) 93 = .ok (.iadd, 1) := by decide +kernel
theorem d231_94 : decode (zB 231) 94 = .ok (.istore 5, 2) := by decide +kernel
theorem d231_96 : decode (zB 231) 96 = .ok (.goto (-37), 3) := by decide +kernel
theorem d231_99 : decode (zB 231) 99 = .ok (.iload 4, 2) := by decide +kernel
theorem d231_101 : decode (zB 231) 101 = .ok (.iload_n 1, 1) := by decide +kernel
theorem d231_102 : decode (zB 231) 102 = .ok (.if_icmp .ne 11, 3) := by decide +kernel
theorem d231_105 : decode (zB 231) 105 = .ok (.aload_n 0, 1) := by decide +kernel
theorem d231_106 : decode (zB 231) 106 = .ok (.getfield 116, 3) := by decide +kernel
theorem d231_109 : decode (zB 231) 109 = .ok (.iload 5, 2) := by decide +kernel
theorem d231_111 : decode (zB 231) 111 = .ok (.iaload, 1) := by decide +kernel
theorem d231_112 : decode (zB 231) 112 = .ok (.ireturn, 1) := by decide +kernel
theorem d231_113 : decode (zB 231) 113 = .ok (.iload_n 2, 1) := by decide +kernel
theorem d231_114 : decode (zB 231) 114 = .ok (.iconst 1, 1) := by decide +kernel
theorem d231_115 : decode (zB 231) 115 = .ok (.iload 5, 2) := by decide +kernel
theorem d231_117 : decode (zB 231) 117 = .ok (.ishl, 1) := by decide +kernel
theorem d231_118 : decode (zB 231) 118 = .ok (.ior, 1) := by decide +kernel
theorem d231_119 : decode (zB 231) 119 = .ok (.istore_n 2, 1) := by decide +kernel
theorem d231_120 : decode (zB 231) 120 = .ok (.iload 5, 2) := by decide +kernel
theorem d231_122 : decode (zB 231) 122 = .ok (.istore_n 3, 1) := by decide +kernel
theorem d231_123 : decode (zB 231) 123 = .ok (.iinc 4 1, 3) := by decide +kernel
theorem d231_126 : decode (zB 231) 126 = .ok (.goto (-70), 3) := by decide +kernel
theorem d232_0 : decode (zB 232) 0 = .ok (.aload_n 0, 1) := by decide +kernel
theorem d232_1 : decode (zB 232) 1 = .ok (.iload_n 1, 1) := by decide +kernel
theorem d232_2 : decode (zB 232) 2 = .ok (.invokevirtual 355, 3) := by decide +kernel
theorem d232_5 : decode (zB 232) 5 = .ok (.aload_n 0, 1) := by decide +kernel
theorem d232_6 : decode (zB 232) 6 = .ok (.aload_n 0, 1) := by decide +kernel
theorem d232_7 : decode (zB 232) 7 = .ok (.getfield 162, 3) := by decide +kernel
theorem d232_10 : decode (zB 232) 10 = .ok (.putfield 451, 3) := by decide +kernel
theorem d232_13 : decode (zB 232) 13 = .ok (.aload_n 0, 1) := by decide +kernel
theorem d232_14 : decode (zB 232) 14 = .ok (.getfield 22, 3) := by decide +kernel
theorem d232_17 : decode (zB 232) 17 = .ok (.aload_n 0, 1) := by decide +kernel
theorem d232_18 : decode (zB 232) 18 = .ok (.getfield 128, 3) := by decide +kernel
theorem d232_21 : decode (zB 232) 21 = .ok (.invokestatic 342, 3) := by decide +kernel
theorem d232_24 : decode (zB 232) 24 = .ok (.aload_n 0, 1) := by decide +kernel
theorem d232_25 : decode (zB 232) 25 = .ok (.invokevirtual 364, 3) := by decide +kernel
theorem d232_28 : decode (zB 232) 28 = .ok (.return_, 1) := by decide +kernel
theorem d233_0 : decode (zB 233) 0 = .ok (.iconst 0, 1) := by decide +kernel
theorem d233_1 : decode (zB 233) 1 = .ok (.istore 5, 2) := by decide +kernel
theorem d233_3 : decode (zB 233) 3 = .ok (.iload 5, 2) := by decide +kernel
theorem d233_5 : decode (zB 233) 5 = .ok (.iload_n 1, 1) := by decide +kernel
theorem d233_6 : decode (zB 233) 6 = .ok (.if_icmp .ge 74, 3) := by decide +kernel
theorem d233_9 : decode (zB 233) 9 = .ok (.aload_n 0, 1) := by decide +kernel
theorem d233_10 : decode (zB 233) 10 = .ok (.invokevirtual 324, 3) := by decide +kernel
theorem d233_13 : decode (zB 233) 13 = .ok (.aload_n 0, 1) := by decide +kernel
theorem d233_14 : decode (zB 233) 14 = .ok (.invokevirtual 327, 3) := by decide +kernel
theorem d233_17 : decode (zB 233) 17 = .ok (.aload_n 0, 1) := by decide +kernel
theorem d233_18 : decode (zB 233) 18 = .ok (.iload_n 3, 1) := by decide +kernel
theorem d233_19 : decode (zB 233) 19 = .ok (.invokevirtual 349, 3) := by decide +kernel
theorem d233_22 : decode (zB 233) 22 = .ok (.istore 6, 2) := by decide +kernel
theorem d233_24 : decode (zB 233) 24 = .ok (.iload 5, 2) := by decide +kernel
theorem d233_26 : decode (zB 233) 26 = .ok (.iload_n 2, 1) := by decide +kernel
theorem d233_27 : decode (zB 233) 27 = .ok (.if_icmp .ne 43, 3) := by decide +kernel
theorem d233_30 : decode (zB 233) 30 = .ok (.iload 6, 2) := by decide +kernel
theorem d233_32 : decode (zB 233) 32 = .ok (.iconst (-1), 1) := by decide +kernel
theorem d233_33 : decode (zB 233) 33 = .ok (.if_icmp .eq 26, 3) := by decide +kernel
theorem d233_36 : decode (zB 233) 36 = .ok (.aload_n 0, 1) := by decide +kernel
theorem d233_37 : decode (zB 233) 37 = .ok (.getfield 71, 3) := by decide +kernel
theorem d233_40 : decode (zB 233) 40 = .ok (.iload 6, 2) := by decide +kernel
theorem d233_42 : decode (zB 233) 42 = .ok (.iaload, 1) := by decide +kernel
theorem d233_43 : decode (zB 233) 43 = .ok (.iconst (-1), 1) := by decide +kernel
theorem d233_44 : decode (zB 233) 44 = .ok (.if_icmp .eq 15, 3) := by decide +kernel
theorem d233_47 : decode (zB 233) 47 = .ok (.aload_n 0, 1) := by decide +kernel
theorem d233_48 : decode (zB 233) 48 = .ok (.getfield 71, 3) := by decide +kernel
theorem d233_51 : decode (zB 233) 51 = .ok (.iload 6, 2) := by decide +kernel
theorem d233_53 : decode (zB 233) 53 = .ok (.iaload, 1) := by decide +kernel
theorem d233_54 : decode (zB 233) 54 = .ok (.iload 4, 2) := by decide +kernel
theorem d233_56 : decode (zB 233) 56 = .ok (.if_icmp .ne 5, 3) := by decide +kernel
theorem d233_59 : decode (zB 233) 59 = .ok (.iconst 0, 1) := by decide +kernel
theorem d233_60 : decode (zB 233) 60 = .ok (.ireturn, 1) := by decide +kernel
theorem d233_61 : decode (zB 233) 61 = .ok (.aload_n 0, 1) := by decide +kernel
theorem d233_62 : decode (zB 233) 62 = .ok (.getfield 71, 3) := by decide +kernel
theorem d233_65 : decode (zB 233) 65 = .ok (.iload 6, 2) := by decide +kernel
theorem d233_67 : decode (zB 233) 67 = .ok (.iload 4, 2) := by decide +kernel
theorem d233_69 : decode (zB 233) 69 = .ok (.iastore, 1) := by decide +kernel
theorem d233_70 : decode (zB 233) 70 = .ok (.aload_n 0, 1) := by decide +kernel
theorem d233_71 : decode (zB 233) 71 = .ok (.invokevirtual 330, 3) := by decide +kernel
theorem d233_74 : decode (zB 233) 74 = .ok (.iinc 5 1, 3) := by decide +kernel
theorem d233_77 : decode (zB 233) 77 = .ok (.goto (-74), 3) := by decide +kernel
theorem d233_80 : decode (zB 233) 80 = .ok (.iconst 1, 1) := by decide +kernel
theorem d233_81 : decode (zB 233) 81 = .ok (.ireturn, 1) := by decide +kernel
theorem d234_0 : decode (zB 234) 0 = .ok (.iconst 0, 1) := by decide +kernel
theorem d234_1 : decode (zB 234) 1 = .ok (.istore_n 3, 1) := by decide +kernel
theorem d234_2 : decode (zB 234) 2 = .ok (.iload_n 3, 1) := by decide +kernel
theorem d234_3 : decode (zB 234) 3 = .ok (.iload_n 1, 1) := by decide +kernel
theorem d234_4 : decode (zB 234) 4 = .ok (.if_icmp .ge 18, 3) := by decide +kernel
theorem d234_7 : decode (zB 234) 7 = .ok (.aload_n 0, 1) := by decide +kernel
theorem d234_8 : decode (zB 234) 8 = .ok (.iload_n 3, 1) := by decide +kernel
theorem d234_9 : decode (zB 234) 9 = .ok (.iaload, 1) := by decide +kernel
theorem d234_10 : decode (zB 234) 10 = .ok (.iload_n 2, 1) := by decide +kernel
theorem d234_11 : decode (zB 234) 11 = .ok (.if_icmp .ne 5, 3) := by decide +kernel
theorem d234_14 : decode (zB 234) 14 = .ok (.iload_n 3, 1) := by decide +kernel
theorem d234_15 : decode (zB 234) 15 = .ok (.ireturn, 1) := by decide +kernel
theorem d234_16 : decode (zB 234) 16 = .ok (.iinc 3 1, 3) := by decide +kernel
theorem d234_19 : decode (zB 234) 19 = .ok (.goto (-17), 3) := by decide +kernel
theorem d234_22 : decode (zB 234) 22 = .ok (.iconst (-1), 1) := by decide +kernel
theorem d234_23 : decode (zB 234) 23 = .ok (.ireturn, 1) := by decide +kernel
theorem d235_0 : decode (zB 235) 0 = .ok (.iconst 0, 1) := by decide +kernel
theorem d235_1 : decode (zB 235) 1 = .ok (.istore_n 2, 1) := by decide +kernel
theorem d235_2 : decode (zB 235) 2 = .ok (.iconst 0, 1) := by decide +kernel
theorem d235_3 : decode (zB 235) 3 = .ok (.istore_n 3, 1) := by decide +kernel
theorem d235_4 : decode (zB 235) 4 = .ok (.iload_n 3, 1) := by decide +kernel
theorem d235_5 : decode (zB 235) 5 = .ok (.aload_n 0, 1) := by decide +kernel
theorem d235_6 : decode (zB 235) 6 = .ok (.getfield 162, 3) := by decide +kernel
theorem d235_9 : decode (zB 235) 9 = .ok (.if_icmp .ge 48, 3) := by decide +kernel
theorem d235_12 : decode (zB 235) 12 = .ok (.iload_n 2, 1) := by decide +kernel
theorem d235_13 : decode (zB 235) 13 = .ok (.aload_n 0, 1) := by decide +kernel
theorem d235_14 : decode (zB 235) 14 = .ok (.getfield 22, 3) := by decide +kernel
theorem d235_17 : decode (zB 235) 17 = .ok (.iload_n 3, 1) := by decide +kernel
theorem d235_18 : decode (zB 235) 18 = .ok (.iaload, 1) := by decide +kernel
theorem d235_19 : decode (zB 235) 19 = .ok (.iload_n 1, 1) := by decide +kernel
theorem d235_20 : decode (zB 235) 20 = .ok (.if_icmp .eq 28, 3) := by decide +kernel
theorem d235_23 : decode (zB 235) 23 = .ok (.aload_n 0, 1) := by decide +kernel
theorem d235_24 : decode (zB 235) 24 = .ok (.getfield 128, 3) := by decide +kernel
theorem d235_27 : decode (zB 235) 27 = .ok (.aload_n 0, 1) := by decide +kernel
theorem d235_28 : decode (zB 235) 28 = .ok (.getfield 451, 3) := by decide +kernel
theorem d235_31 : decode (zB 235) 31 = .ok (.aload_n 0, 1) := by decide +kernel
theorem d235_32 : decode (zB 235) 32 = .ok (.getfield 22, 3) := by decide +kernel
theorem d235_35 : decode (zB 235) 35 = .ok (.iload_n 3, 1) := by decide +kernel
theorem d235_36 : decode (zB 235) 36 = .ok (.iaload, 1) := by decide +kernel
theorem d235_37 : decode (zB 235) 37 = .ok (.invokestatic 454, 3) := by decide +kernel
theorem d235_40 : decode (zB 235) 40 = .ok (.iload_n 3, 1) := by decide +kernel
theorem d235_41 : decode (zB 235) 41 = .ok (.if_icmp .eq 7, 3) := by decide +kernel
theorem d235_44 : decode (zB 235) 44 = .ok (.iconst 1, 1) := by decide +kernel
theorem d235_45 : decode (zB 235) 45 = .ok (.goto 4, 3) := by decide +kernel
theorem d235_48 : decode (zB 235) 48 = .ok (.iconst 0, 1) := by decide +kernel
theorem d235_49 : decode (zB 235) 49 = .ok (.iadd, 1) := by decide +kernel
theorem d235_50 : decode (zB 235) 50 = .ok (.istore_n 2, 1) := by decide +kernel
theorem d235_51 : decode (zB 235) 51 = .ok (.iinc 3 1, 3) := by decide +kernel
theorem d235_54 : decode (zB 235) 54 = .ok (.goto (-50), 3) := by decide +kernel
theorem d235_57 : decode (zB 235) 57 = .ok (.iload_n 2, 1) := by decide +kernel
theorem d235_58 : decode (zB 235) 58 = .ok (.ireturn, 1) := by decide +kernel
theorem d236_0 : decode (zB 236) 0 = .ok (.aload_n 0, 1) := by decide +kernel
theorem d236_1 : decode (zB 236) 1 = .ok (.iload_n 1, 1) := by decide +kernel
theorem d236_2 : decode (zB 236) 2 = .ok (.invokevirtual 352, 3) := by decide +kernel
theorem d236_5 : decode (zB 236) 5 = .ok (.ifCond .eq 47, 3) := by decide +kernel
theorem d236_8 : decode (zB 236) 8 = .ok (.iload_n 2, 1) := by decide +kernel
theorem d236_9 : decode (zB 236) 9 = .ok (.iconst 0, 1) := by decide +kernel
theorem d236_10 : decode (zB 236) 10 = .ok (.iload_n 1, 1) := by decide +kernel
theorem d236_11 : decode (zB 236) 11 = .ok (.iconst 1, 1) := by decide +kernel
theorem d236_12 : decode (zB 236) 12 = .ok (.isub, 1) := by decide +kernel
theorem d236_13 : decode (zB 236) 13 = .ok (.invokestatic 169, 3) := by decide +kernel
theorem d236_16 : decode (zB 236) 16 = .ok (.ifCond .eq 36, 3) := by decide +kernel
theorem d236_19 : decode (zB 236) 19 = .ok (.aload_n 0, 1) := by decide +kernel
theorem d236_20 : decode (zB 236) 20 = .ok (.iload_n 3, 1) := by decide +kernel
theorem d236_21 : decode (zB 236) 21 = .ok (.invokevirtual 346, 3) := by decide +kernel
theorem d236_24 : decode (zB 236) 24 = .ok (.ifCond .eq 28, 3) := by decide +kernel
theorem d236_27 : decode (zB 236) 27 = .ok (.iload 4, 2) := by decide +kernel
theorem d236_29 : decode (zB 236) 29 = .ok (.iconst 0, 1) := by decide +kernel
theorem d236_30 : decode (zB 236) 30 = .ok (.aload_n 0, 1) := by decide +kernel
theorem d236_31 : decode (zB 236) 31 = .ok (.getfield 156, 3) := by decide +kernel
theorem d236_34 : decode (zB 236) 34 = .ok (.iconst 1, 1) := by decide +kernel
theorem d236_35 : decode (zB 236) 35 = .ok (.isub, 1) := by decide +kernel
theorem d236_36 : decode (zB 236) 36 = .ok (.invokestatic 169, 3) := by decide +kernel
theorem d236_39 : decode (zB 236) 39 = .ok (.ifCond .eq 13, 3) := by decide +kernel
theorem d236_42 : decode (zB 236) 42 = .ok (.iload 5, 2) := by decide +kernel
theorem d236_44 : decode (zB 236) 44 = .ok (.iconst 0, 1) := by decide +kernel
theorem d236_45 : decode (zB 236) 45 = .ok (.iconst 2, 1) := by decide +kernel
theorem d236_46 : decode (zB 236) 46 = .ok (.invokestatic 169, 3) := by decide +kernel
theorem d236_49 : decode (zB 236) 49 = .ok (.ifCond .ne 5, 3) := by decide +kernel
theorem d236_52 : decode (zB 236) 52 = .ok (.iconst (-1), 1) := by decide +kernel
theorem d236_53 : decode (zB 236) 53 = .ok (.ireturn, 1) := by decide +kernel
theorem d236_54 : decode (zB 236) 54 = .ok (.aload_n 0, 1) := by decide +kernel
theorem d236_55 : decode (zB 236) 55 = .ok (.invokevirtual 361, 3) := by decide +kernel
theorem d236_58 : decode (zB 236) 58 = .ok (.aload_n 0, 1) := by decide +kernel
theorem d236_59 : decode (zB 236) 59 = .ok (.iload_n 1, 1) := by decide +kernel
theorem d236_60 : decode (zB 236) 60 = .ok (.invokevirtual 458, 3) := by decide +kernel
theorem d236_63 : decode (zB 236) 63 = .ok (.bipush (-2), 2) := by decide +kernel
theorem d236_65 : decode (zB 236) 65 = .ok (.istore 6, 2) := by decide +kernel
theorem d236_67 : decode (zB 236) 67 = .ok (.aload_n 0, 1) := by decide +kernel
theorem d236_68 : decode (zB 236) 68 = .ok (.iload_n 1, 1) := by decide +kernel
theorem d236_69 : decode (zB 236) 69 = .ok (.iload_n 2, 1) := by decide +kernel
theorem d236_70 : decode (zB 236) 70 = .ok (.iload_n 3, 1) := by decide +kernel
theorem d236_71 : decode (zB 236) 71 = .ok (.iload 4, 2) := by decide +kernel
theorem d236_73 : decode (zB 236) 73 = .ok (.invokevirtual 461, 3) := by decide +kernel
theorem d236_76 : decode (zB 236) 76 = .ok (.ifCond .eq 63, 3) := by decide +kernel
theorem d236_79 : decode (zB 236) 79 = .ok (.aload_n 0, 1) := by decide +kernel
theorem d236_80 : decode (zB 236) 80 = .ok (.iload_n 3, 1) := by decide +kernel
theorem d236_81 : decode (zB 236) 81 = .ok (.invokevirtual 349, 3) := by decide +kernel
theorem d236_84 : decode (zB 236) 84 = .ok (.istore 7, 2) := by decide +kernel
theorem d236_86 : decode (zB 236) 86 = .ok (.aload_n 0, 1) := by decide +kernel
theorem d236_87 : decode (zB 236) 87 = .ok (.getfield 128, 3) := by decide +kernel
theorem d236_90 : decode (zB 236) 90 = .ok (.aload_n 0, 1) := by decide +kernel
theorem d236_91 : decode (zB 236) 91 = .ok (.getfield 451, 3) := by decide +kernel
theorem d236_94 : decode (zB 236) 94 = .ok (.iload_n 3, 1) := by decide +kernel
theorem d236_95 : decode (zB 236) 95 = .ok (.invokestatic 454, 3) := by decide +kernel
theorem d236_98 : decode (zB 236) 98 = .ok (.istore 8, 2) := by decide +kernel
theorem d236_100 : decode (zB 236) 100 = .ok (.iload 5, 2) := by decide +kernel
theorem d236_102 : decode (zB 236) 102 = .ok (.ifCond .ne 8, 3) := by decide +kernel
theorem d236_105 : decode (zB 236) 105 = .ok (.iload 7, 2) := by decide +kernel
theorem d236_107 : decode (zB 236) 107 = .ok (.goto 30, 3) := by decide +kernel
theorem d236_110 : decode (zB 236) 110 = .ok (.iload 5, 2) := by decide +kernel
theorem d236_112 : decode (zB 236) 112 = .ok (.iconst 1, 1) := by decide +kernel
theorem d236_113 : decode (zB 236) 113 = .ok (.if_icmp .ne 19, 3) := by decide +kernel
theorem d236_116 : decode (zB 236) 116 = .ok (.iload 7, 2) := by decide +kernel
theorem d236_118 : decode (zB 236) 118 = .ok (.iload 8, 2) := by decide +kernel
theorem d236_120 : decode (zB 236) 120 = .ok (.isub, 1) := by decide +kernel
theorem d236_121 : decode (zB 236) 121 = .ok (.iload 8, 2) := by decide +kernel
theorem d236_123 : decode (zB 236) 123 = .ok (.iload 7, 2) := by decide +kernel
theorem d236_125 : decode (zB 236) 125 = .ok (.isub, 1) := by decide +kernel
theorem d236_126 : decode (zB 236) 126 = .ok (.invokestatic 420, 3) := by decide +kernel
theorem d236_129 : decode (zB 236) 129 = .ok (.goto 8, 3) := by decide +kernel
theorem d236_132 : decode (zB 236) 132 = .ok (.aload_n 0, 1) := by decide +kernel
theorem d236_133 : decode (zB 236) 133 = .ok (.iload_n 3, 1) := by decide +kernel
theorem d236_134 : decode (zB 236) 134 = .ok (.invokevirtual 465, 3) := by decide +kernel
theorem d236_137 : decode (zB 236) 137 = .ok (.istore 6, 2) := by decide +kernel
theorem d236_139 : decode (zB 236) 139 = .ok (.aload_n 0, 1) := by decide +kernel
theorem d236_140 : decode (zB 236) 140 = .ok (.invokevirtual 364, 3) := by decide +kernel
theorem d236_143 : decode (zB 236) 143 = .ok (.iload 6, 2) := by decide +kernel
theorem d236_145 : decode (zB 236) 145 = .ok (.ireturn, 1) := by decide +kernel
theorem d237_0 : decode (zB 237) 0 = .ok (.iconst 0, 1) := by decide +kernel
theorem d237_1 : decode (zB 237) 1 = .ok (.istore_n 2, 1) := by decide +kernel
theorem d237_2 : decode (zB 237) 2 = .ok (.iload_n 2, 1) := by decide +kernel
theorem d237_3 : decode (zB 237) 3 = .ok (.aload_n 0, 1) := by decide +kernel
theorem d237_4 : decode (zB 237) 4 = .ok (.getfield 451, 3) := by decide +kernel
theorem d237_7 : decode (zB 237) 7 = .ok (.if_icmp .ge 23, 3) := by decide +kernel
theorem d237_10 : decode (zB 237) 10 = .ok (.aload_n 1, 1) := by decide +kernel
theorem d237_11 : decode (zB 237) 11 = .ok (.iload_n 2, 1) := by decide +kernel
theorem d237_12 : decode (zB 237) 12 = .ok (.iaload, 1) := by decide +kernel
theorem d237_13 : decode (zB 237) 13 = .ok (.aload_n 0, 1) := by decide +kernel
theorem d237_14 : decode (zB 237) 14 = .ok (.getfield 131, 3) := by decide +kernel
theorem d237_17 : decode (zB 237) 17 = .ok (.iload_n 2, 1) := by decide +kernel
theorem d237_18 : decode (zB 237) 18 = .ok (.iaload, 1) := by decide +kernel
theorem d237_19 : decode (zB 237) 19 = .ok (.if_icmp .eq 5, 3) := by decide +kernel
theorem d237_22 : decode (zB 237) 22 = .ok (.iconst 0, 1) := by decide +kernel
theorem d237_23 : decode (zB 237) 23 = .ok (.ireturn, 1) := by decide +kernel
theorem d237_24 : decode (zB 237) 24 = .ok (.iinc 2 1, 3) := by decide +kernel
theorem d237_27 : decode (zB 237) 27 = .ok (.goto (-25), 3) := by decide +kernel
theorem d237_30 : decode (zB 237) 30 = .ok (.iconst 1, 1) := by decide +kernel
theorem d237_31 : decode (zB 237) 31 = .ok (.ireturn, 1) := by decide +kernel
theorem d238_0 : decode (zB 238) 0 = .ok (.iload_n 1, 1) := by decide +kernel
theorem d238_1 : decode (zB 238) 1 = .ok (.iconst 1, 1) := by decide +kernel
theorem d238_2 : decode (zB 238) 2 = .ok (.bipush 6, 2) := by decide +kernel
theorem d238_4 : decode (zB 238) 4 = .ok (.invokestatic 169, 3) := by decide +kernel
theorem d238_7 : decode (zB 238) 7 = .ok (.ifCond .eq 20, 3) := by decide +kernel
theorem d238_10 : decode (zB 238) 10 = .ok (.aload_n 0, 1) := by decide +kernel
theorem d238_11 : decode (zB 238) 11 = .ok (.iload_n 1, 1) := by decide +kernel
theorem d238_12 : decode (zB 238) 12 = .ok (.invokevirtual 352, 3) := by decide +kernel
theorem d238_15 : decode (zB 238) 15 = .ok (.ifCond .eq 12, 3) := by decide +kernel
theorem d238_18 : decode (zB 238) 18 = .ok (.iload_n 2, 1) := by decide +kernel
theorem d238_19 : decode (zB 238) 19 = .ok (.iconst (-1), 1) := by decide +kernel
theorem d238_20 : decode (zB 238) 20 = .ok (.iconst 2, 1) := by decide +kernel
theorem d238_21 : decode (zB 238) 21 = .ok (.invokestatic 169, 3) := by decide +kernel
theorem d238_24 : decode (zB 238) 24 = .ok (.ifCond .ne 5, 3) := by decide +kernel
theorem d238_27 : decode (zB 238) 27 = .ok (.iconst (-1), 1) := by decide +kernel
theorem d238_28 : decode (zB 238) 28 = .ok (.ireturn, 1) := by decide +kernel
theorem d238_29 : decode (zB 238) 29 = .ok (.aload_n 0, 1) := by decide +kernel
theorem d238_30 : decode (zB 238) 30 = .ok (.invokevirtual 361, 3) := by decide +kernel
theorem d238_33 : decode (zB 238) 33 = .ok (.aload_n 0, 1) := by decide +kernel
theorem d238_34 : decode (zB 238) 34 = .ok (.iload_n 1, 1) := by decide +kernel
theorem d238_35 : decode (zB 238) 35 = .ok (.invokevirtual 458, 3) := by decide +kernel
theorem d238_38 : decode (zB 238) 38 = .ok (.aload_n 0, 1) := by decide +kernel
theorem d238_39 : decode (zB 238) 39 = .ok (.getfield 451, 3) := by decide +kernel
theorem d238_42 : decode (zB 238) 42 = .ok (.aload_n 0, 1) := by decide +kernel
theorem d238_43 : decode (zB 238) 43 = .ok (.getfield 183, 3) := by decide +kernel
theorem d238_46 : decode (zB 238) 46 = .ok (.if_icmp .le 5, 3) := by decide +kernel
theorem d238_49 : decode (zB 238) 49 = .ok (.iconst (-1), 1) := by decide +kernel
theorem d238_50 : decode (zB 238) 50 = .ok (.ireturn, 1) := by decide +kernel
theorem d238_51 : decode (zB 238) 51 = .ok (.aload_n 0, 1) := by decide +kernel
theorem d238_52 : decode (zB 238) 52 = .ok (.iconst 0, 1) := by decide +kernel
theorem d238_53 : decode (zB 238) 53 = .ok (.putfield 183, 3) := by decide +kernel
theorem d238_56 : decode (zB 238) 56 = .ok (.iconst 0, 1) := by decide +kernel
theorem d238_57 : decode (zB 238) 57 = .ok (.istore_n 3, 1) := by decide +kernel
theorem d238_58 : decode (zB 238) 58 = .ok (.iload_n 3, 1) := by decide +kernel
theorem d238_59 : decode (zB 238) 59 = .ok (.aload_n 0, 1) := by decide +kernel
theorem d238_60 : decode (zB 238) 60 = .ok (.getfield 451, 3) := by decide +kernel
theorem d238_63 : decode (zB 238) 63 = .ok (.if_icmp .ge 21, 3) := by decide +kernel
theorem d238_66 : decode (zB 238) 66 = .ok (.aload_n 0, 1) := by decide +kernel
theorem d238_67 : decode (zB 238) 67 = .ok (.getfield 131, 3) := by decide +kernel
theorem d238_70 : decode (zB 238) 70 = .ok (.iload_n 3, 1) := by decide +kernel
theorem d238_71 : decode (zB 238) 71 = .ok (.aload_n 0, 1) := by decide +kernel
theorem d238_72 : decode (zB 238) 72 = .ok (.getfield 28, 3) := by decide +kernel
theorem d238_75 : decode (zB 238) 75 = .ok (.iload_n 3, 1) := by decide +kernel
theorem d238_76 : decode (zB 238) 76 = .ok (.baload, 1) := by decide +kernel
theorem d238_77 : decode (zB 238) 77 = .ok (.iastore, 1) := by decide +kernel
theorem d238_78 : decode (zB 238) 78 = .ok (.iinc 3 1, 3) := by decide +kernel
theorem d238_81 : decode (zB 238) 81 = .ok (.goto (-23), 3) := by decide +kernel
theorem d238_84 : decode (zB 238) 84 = .ok (.aload_n 0, 1) := by decide +kernel
theorem d238_85 : decode (zB 238) 85 = .ok (.aload_n 0, 1) := by decide +kernel
theorem d238_86 : decode (zB 238) 86 = .ok (.getfield 128, 3) := by decide +kernel
theorem d238_89 : decode (zB 238) 89 = .ok (.invokevirtual 468, 3) := by decide +kernel
theorem d238_92 : decode (zB 238) 92 = .ok (.ifCond .eq 6, 3) := by decide +kernel
theorem d238_95 : decode (zB 238) 95 = .ok (.bipush (-3), 2) := by decide +kernel
theorem d238_97 : decode (zB 238) 97 = .ok (.ireturn, 1) := by decide +kernel
theorem d238_98 : decode (zB 238) 98 = .ok (.iconst 0, 1) := by decide +kernel
theorem d238_99 : decode (zB 238) 99 = .ok (.istore_n 3, 1) := by decide +kernel
theorem d238_100 : decode (zB 238) 100 = .ok (.iconst (-1), 1) := by decide +kernel
theorem d238_101 : decode (zB 238) 101 = .ok (.istore 4, 2) := by decide +kernel
theorem d238_103 : decode (zB 238) 103 = .ok (.iconst 0, 1) := by decide +kernel
theorem d238_104 : decode (zB 238) 104 = .ok (.istore 5, 2) := by decide +kernel
theorem d238_106 : decode (zB 238) 106 = .ok (.iload 5, 2) := by decide +kernel
theorem d238_108 : decode (zB 238) 108 = .ok (.iload_n 1, 1) := by decide +kernel
theorem d238_109 : decode (zB 238) 109 = .ok (.bipush 32, 2) := by decide +kernel
theorem d238_111 : decode (zB 238) 111 = .ok (.imul, 1) := by decide +kernel
theorem d238_112 : decode (zB 238) 112 = .ok (.aload_n 0, 1) := by decide +kernel
theorem d238_113 : decode (zB 238) 113 = .ok (.getfield 156, 3) := by decide +kernel
theorem d238_116 : decode (zB 238) 116 = .ok (.imul, 1) := by decide +kernel
theorem d238_117 : decode (zB 238) 117 = .ok (.if_icmp .ge 109, 3) := by decide +kernel
theorem d238_120 : decode (zB 238) 120 = .ok (.iload 5, 2) := by decide +kernel
theorem d238_122 : decode (zB 238) 122 = .ok (.aload_n 0, 1) := by decide +kernel
theorem d238_123 : decode (zB 238) 123 = .ok (.getfield 156, 3) := by decide +kernel
theorem d238_126 : decode (zB 238) 126 = .ok (.idiv, 1) := by decide +kernel
theorem d238_127 : decode (zB 238) 127 = .ok (.bipush 32, 2) := by decide +kernel
theorem d238_129 : decode (zB 238) 129 = .ok (.irem, 1) := by decide +kernel
theorem d238_130 : decode (zB 238) 130 = .ok (.istore 6, 2) := by decide +kernel
theorem d238_132 : decode (zB 238) 132 = .ok (.aload_n 0, 1) := by decide +kernel
theorem d238_133 : decode (zB 238) 133 = .ok (.iload 6, 2) := by decide +kernel
theorem d238_135 : decode (zB 238) 135 = .ok (.invokevirtual 346, 3) := by decide +kernel
theorem d238_138 : decode (zB 238) 138 = .ok (.ifCond .ne 6, 3) := by decide +kernel
theorem d238_141 : decode (zB 238) 141 = .ok (.goto 79, 3) := by decide +kernel
theorem d238_144 : decode (zB 238) 144 = .ok (.aload_n 0, 1) := by decide +kernel
theorem d238_145 : decode (zB 238) 145 = .ok (.iload_n 1, 1) := by decide +kernel
theorem d238_146 : decode (zB 238) 146 = .ok (.iload 5, 2) := by decide +kernel
theorem d238_148 : decode (zB 238) 148 = .ok (.aload_n 0, 1) := by decide +kernel
theorem d238_149 : decode (zB 238) 149 = .ok (.getfield 156, 3) := by decide +kernel
theorem d238_152 : decode (zB 238) 152 = .ok (.idiv, 1) := by decide +kernel
theorem d238_153 : decode (zB 238) 153 = .ok (.bipush 32, 2) := by decide +kernel
theorem d238_155 : decode (zB 238) 155 = .ok (.idiv, 1) := by decide +kernel
theorem d238_156 : decode (zB 238) 156 = .ok (.iload 6, 2) := by decide +kernel
theorem d238_158 : decode (zB 238) 158 = .ok (.iload 5, 2) := by decide +kernel
theorem d238_160 : decode (zB 238) 160 = .ok (.aload_n 0, 1) := by decide +kernel
theorem d238_161 : decode (zB 238) 161 = .ok (.getfield 156, 3) := by decide +kernel
theorem d238_164 : decode (zB 238) 164 = .ok (.irem, 1) := by decide +kernel
theorem d238_165 : decode (zB 238) 165 = .ok (.invokevirtual 461, 3) := by decide +kernel
theorem d238_168 : decode (zB 238) 168 = .ok (.ifCond .eq 18, 3) := by decide +kernel
theorem d238_171 : decode (zB 238) 171 = .ok (.aload_n 0, 1) := by decide +kernel
theorem d238_172 : decode (zB 238) 172 = .ok (.aload_n 0, 1) := by decide +kernel
theorem d238_173 : decode (zB 238) 173 = .ok (.getfield 22, 3) := by decide +kernel
theorem d238_176 : decode (zB 238) 176 = .ok (.invokevirtual 468, 3) := by decide +kernel
theorem d238_179 : decode (zB 238) 179 = .ok (.ifCond .eq 7, 3) := by decide +kernel
theorem d238_182 : decode (zB 238) 182 = .ok (.iconst 1, 1) := by decide +kernel
theorem d238_183 : decode (zB 238) 183 = .ok (.goto 4, 3) := by decide +kernel
theorem d238_186 : decode (zB 238) 186 = .ok (.iconst 0, 1) := by decide +kernel
theorem d238_187 : decode (zB 238) 187 = .ok (.istore 7, 2) := by decide +kernel
theorem d238_189 : decode (zB 238) 189 = .ok (.aload_n 0, 1) := by decide +kernel
theorem d238_190 : decode (zB 238) 190 = .ok (.invokevirtual 364, 3) := by decide +kernel
theorem d238_193 : decode (zB 238) 193 = .ok (.iload 7, 2) := by decide +kernel
theorem d238_195 : decode (zB 238) 195 = .ok (.ifCond .ne 6, 3) := by decide +kernel
theorem d238_198 : decode (zB 238) 198 = .ok (.goto 22, 3) := by decide +kernel
theorem d238_201 : decode (zB 238) 201 = .ok (.iload 4, 2) := by decide +kernel
theorem d238_203 : decode (zB 238) 203 = .ok (.iconst (-1), 1) := by decide +kernel
theorem d238_204 : decode (zB 238) 204 = .ok (.if_icmp .ne 8, 3) := by decide +kernel
theorem d238_207 : decode (zB 238) 207 = .ok (.iload 5, 2) := by decide +kernel
theorem d238_209 : decode (zB 238) 209 = .ok (.goto 5, 3) := by decide +kernel
theorem d238_212 : decode (zB 238) 212 = .ok (.iload 4, 2) := by decide +kernel
theorem d238_214 : decode (zB 238) 214 = .ok (.istore 4, 2) := by decide +kernel
theorem d238_216 : decode (zB 238) 216 = .ok (.iload_n 3, 1) := by decide +kernel
theorem d238_217 : decode (zB 238) 217 = .ok (.iconst 1, 1) := by decide +kernel
theorem d238_218 : decode (zB 238) 218 = .ok (.iadd, 1) := by decide +kernel
theorem d238_219 : decode (zB 238) 219 = .ok (.istore_n 3, 1) := by decide +kernel
theorem d238_220 : decode (zB 238) 220 = .ok (.iinc 5 1, 3) := by decide +kernel
theorem d238_223 : decode (zB 238) 223 = .ok (.goto (-117), 3) := by decide +kernel
theorem d238_226 : decode (zB 238) 226 = .ok (.iload_n 2, 1) := by decide +kernel
theorem d238_227 : decode (zB 238) 227 = .ok (.iconst (-1), 1) := by decide +kernel
theorem d238_228 : decode (zB 238) 228 = .ok (.if_icmp .ne 5, 3) := by decide +kernel
theorem d238_231 : decode (zB 238) 231 = .ok (.iload_n 3, 1) := by decide +kernel
theorem d238_232 : decode (zB 238) 232 = .ok (.ireturn, 1) := by decide +kernel
theorem d238_233 : decode (zB 238) 233 = .ok (.iload 4, 2) := by decide +kernel
theorem d238_235 : decode (zB 238) 235 = .ok (.iconst (-1), 1) := by decide +kernel
theorem d238_236 : decode (zB 238) 236 = .ok (.if_icmp .ne 6, 3) := by decide +kernel
theorem d238_239 : decode (zB 238) 239 = .ok (.bipush (-2), 2) := by decide +kernel
theorem d238_241 : decode (zB 238) 241 = .ok (.ireturn, 1) := by decide +kernel
theorem d238_242 : decode (zB 238) 242 = .ok (.iload_n 2, 1) := by decide +kernel
theorem d238_243 : decode (zB 238) 243 = .ok (.ifCond .ne 16, 3) := by decide +kernel
theorem d238_246 : decode (zB 238) 246 = .ok (.iload 4, 2) := by decide +kernel
theorem d238_248 : decode (zB 238) 248 = .ok (.aload_n 0, 1) := by decide +kernel
theorem d238_249 : decode (zB 238) 249 = .ok (.getfield 156, 3) := by decide +kernel
theorem d238_252 : decode (zB 238) 252 = .ok (.idiv, 1) := by decide +kernel
theorem d238_253 : decode (zB 238) 253 = .ok (.bipush 32, 2) := by decide +kernel
theorem d238_255 : decode (zB 238) 255 = .ok (.idiv, 1) := by decide +kernel
theorem d238_256 : decode (zB 238) 256 = .ok (.goto 28, 3) := by decide +kernel
theorem d238_259 : decode (zB 238) 259 = .ok (.iload_n 2, 1) := by decide +kernel
theorem d238_260 : decode (zB 238) 260 = .ok (.iconst 1, 1) := by decide +kernel
theorem d238_261 : decode (zB 238) 261 = .ok (.if_icmp .ne 16, 3) := by decide +kernel
theorem d238_264 : decode (zB 238) 264 = .ok (.iload 4, 2) := by decide +kernel
theorem d238_266 : decode (zB 238) 266 = .ok (.aload_n 0, 1) := by decide +kernel
theorem d238_267 : decode (zB 238) 267 = .ok (.getfield 156, 3) := by decide +kernel
theorem d238_270 : decode (zB 238) 270 = .ok (.idiv, 1) := by decide +kernel
theorem d238_271 : decode (zB 238) 271 = .ok (.bipush 32, 2) := by decide +kernel
theorem d238_273 : decode (zB 238) 273 = .ok (.irem, 1) := by decide +kernel
theorem d238_274 : decode (zB 238) 274 = .ok (.goto 10, 3) := by decide +kernel
theorem d238_277 : decode (zB 238) 277 = .ok (.iload 4, 2) := by decide +kernel
theorem d238_279 : decode (zB 238) 279 = .ok (.aload_n 0, 1) := by decide +kernel
theorem d238_280 : decode (zB 238) 280 = .ok (.getfield 156, 3) := by decide +kernel
theorem d238_283 : decode (zB 238) 283 = .ok (.irem, 1) := by decide +kernel
theorem d238_284 : decode (zB 238) 284 = .ok (.ireturn, 1) := by decide +kernel
theorem d239_0 : decode (zB 239) 0 = .ok (.aload_n 0, 1) := by decide +kernel
theorem d239_1 : decode (zB 239) 1 = .ok (.getfield 173, 3) := by decide +kernel
theorem d239_4 : decode (zB 239) 4 = .ok (.bipush 12, 2) := by decide +kernel
theorem d239_6 : decode (zB 239) 6 = .ok (.if_icmp .eq 8, 3) := by decide +kernel
theorem d239_9 : decode (zB 239) 9 = .ok (.iload_n 1, 1) := by decide +kernel
theorem d239_10 : decode (zB 239) 10 = .ok (.iconst (-1), 1) := by decide +kernel
theorem d239_11 : decode (zB 239) 11 = .ok (.if_icmp .ge 19, 3) := by decide +kernel
theorem d239_14 : decode (zB 239) 14 = .ok (.aload_n 0, 1) := by decide +kernel
theorem d239_15 : decode (zB 239) 15 = .ok (.getfield 173, 3) := by decide +kernel
theorem d239_18 : decode (zB 239) 18 = .ok (.bipush 12, 2) := by decide +kernel
theorem d239_20 : decode (zB 239) 20 = .ok (.if_icmp .ne 7, 3) := by decide +kernel
theorem d239_23 : decode (zB 239) 23 = .ok (.iconst (-1), 1) := by decide +kernel
theorem d239_24 : decode (zB 239) 24 = .ok (.goto 5, 3) := by decide +kernel
theorem d239_27 : decode (zB 239) 27 = .ok (.bipush (-2), 2) := by decide +kernel
theorem d239_29 : decode (zB 239) 29 = .ok (.ireturn, 1) := by decide +kernel
theorem d239_30 : decode (zB 239) 30 = .ok (.aload_n 0, 1) := by decide +kernel
theorem d239_31 : decode (zB 239) 31 = .ok (.invokevirtual 361, 3) := by decide +kernel
theorem d239_34 : decode (zB 239) 34 = .ok (.aload_n 0, 1) := by decide +kernel
theorem d239_35 : decode (zB 239) 35 = .ok (.invokevirtual 324, 3) := by decide +kernel
theorem d239_38 : decode (zB 239) 38 = .ok (.aload_n 0, 1) := by decide +kernel
theorem d239_39 : decode (zB 239) 39 = .ok (.getfield 162, 3) := by decide +kernel
theorem d239_42 : decode (zB 239) 42 = .ok (.istore_n 2, 1) := by decide +kernel
theorem d239_43 : decode (zB 239) 43 = .ok (.iconst 0, 1) := by decide +kernel
theorem d239_44 : decode (zB 239) 44 = .ok (.istore_n 3, 1) := by decide +kernel
theorem d239_45 : decode (zB 239) 45 = .ok (.iconst 0, 1) := by decide +kernel
theorem d239_46 : decode (zB 239) 46 = .ok (.istore 4, 2) := by decide +kernel
theorem d239_48 : decode (zB 239) 48 = .ok (.iload 4, 2) := by decide +kernel
theorem d239_50 : decode (zB 239) 50 = .ok (.iload_n 2, 1) := by decide +kernel
theorem d239_51 : decode (zB 239) 51 = .ok (.if_icmp .ge 45, 3) := by decide +kernel
theorem d239_54 : decode (zB 239) 54 = .ok (.aload_n 0, 1) := by decide +kernel
theorem d239_55 : decode (zB 239) 55 = .ok (.getfield 134, 3) := by decide +kernel
theorem d239_58 : decode (zB 239) 58 = .ok (.iload 4, 2) := by decide +kernel
theorem d239_60 : decode (zB 239) 60 = .ok (.aload_n 0, 1) := by decide +kernel
theorem d239_61 : decode (zB 239) 61 = .ok (.iload 4, 2) := by decide +kernel
theorem d239_63 : decode (zB 239) 63 = .ok (.invokevirtual 303, 3) := by decide +kernel
theorem d239_66 : decode (zB 239) 66 = .ok (.ifCond .eq 7, 3) := by decide +kernel
theorem d239_69 : decode (zB 239) 69 = .ok (.iconst 0, 1) := by decide +kernel
theorem d239_70 : decode (zB 239) 70 = .ok (.goto 9, 3) := by decide +kernel
theorem d239_73 : decode (zB 239) 73 = .ok (.aload_n 0, 1) := by decide +kernel
theorem d239_74 : decode (zB 239) 74 = .ok (.iload 4, 2) := by decide +kernel
theorem d239_76 : decode (zB 239) 76 = .ok (.invokevirtual 312, 3) := by decide +kernel
theorem d239_79 : decode (zB 239) 79 = .ok (.iastore, 1) := by decide +kernel
theorem d239_80 : decode (zB 239) 80 = .ok (.iload_n 3, 1) := by decide +kernel
theorem d239_81 : decode (zB 239) 81 = .ok (.aload_n 0, 1) := by decide +kernel
theorem d239_82 : decode (zB 239) 82 = .ok (.getfield 134, 3) := by decide +kernel
theorem d239_85 : decode (zB 239) 85 = .ok (.iload 4, 2) := by decide +kernel
theorem d239_87 : decode (zB 239) 87 = .ok (.iaload, 1) := by decide +kernel
theorem d239_88 : decode (zB 239) 88 = .ok (.iadd, 1) := by decide +kernel
theorem d239_89 : decode (zB 239) 89 = .ok (.istore_n 3, 1) := by decide +kernel
theorem d239_90 : decode (zB 239) 90 = .ok (.iinc 4 1, 3) := by decide +kernel
theorem d239_93 : decode (zB 239) 93 = .ok (.goto (-45), 3) := by decide +kernel
theorem d239_96 : decode (zB 239) 96 = .ok (.aload_n 0, 1) := by decide +kernel
theorem d239_97 : decode (zB 239) 97 = .ok (.invokevirtual 364, 3) := by decide +kernel
theorem d239_100 : decode (zB 239) 100 = .ok (.iload_n 1, 1) := by decide +kernel
theorem d239_101 : decode (zB 239) 101 = .ok (.iload_n 2, 1) := by decide +kernel
theorem d239_102 : decode (zB 239) 102 = .ok (.if_icmp .le 6, 3) := by decide +kernel
theorem d239_105 : decode (zB 239) 105 = .ok (.bipush (-2), 2) := by decide +kernel
theorem d239_107 : decode (zB 239) 107 = .ok (.ireturn, 1) := by decide +kernel
theorem d239_108 : decode (zB 239) 108 = .ok (.iconst 0, 1) := by decide +kernel
theorem d239_109 : decode (zB 239) 109 = .ok (.istore 4, 2) := by decide +kernel
theorem d239_111 : decode (zB 239) 111 = .ok (.ldc_w 392, 3) := by decide +kernel
theorem d239_114 : decode (zB 239) 114 = .ok (.istore 5, 2) := by decide +kernel
theorem d239_116 : decode (zB 239) 116 = .ok (.iconst 0, 1) := by decide +kernel
theorem d239_117 : decode (zB 239) 117 = .ok (.istore 6, 2) := by decide +kernel
theorem d239_119 : decode (zB 239) 119 = .ok (.iconst 0, 1) := by decide +kernel
theorem d239_120 : decode (zB 239) 120 = .ok (.istore 7, 2) := by decide +kernel
theorem d239_122 : decode (zB 239) 122 = .ok (.iload 7, 2) := by decide +kernel
theorem d239_124 : decode (zB 239) 124 = .ok (.iload_n 2, 1) := by decide +kernel
theorem d239_125 : decode (zB 239) 125 = .ok (.if_icmp .gt 66, 3) := by decide +kernel
theorem d239_128 : decode (zB 239) 128 = .ok (.iload 6, 2) := by decide +kernel
theorem d239_130 : decode (zB 239) 130 = .ok (.iload_n 3, 1) := by decide +kernel
theorem d239_131 : decode (zB 239) 131 = .ok (.iload 6, 2) := by decide +kernel
theorem d239_133 : decode (zB 239) 133 = .ok (.isub, 1) := by decide +kernel
theorem d239_134 : decode (zB 239) 134 = .ok (.invokestatic 420, 3) := by decide +kernel
theorem d239_137 : decode (zB 239) 137 = .ok (.istore 8, 2) := by decide +kernel
theorem d239_139 : decode (zB 239) 139 = .ok (.iload 7, 2) := by decide +kernel
theorem d239_141 : decode (zB 239) 141 = .ok (.iload_n 1, 1) := by decide +kernel
theorem d239_142 : decode (zB 239) 142 = .ok (.if_icmp .ne 6, 3) := by decide +kernel
theorem d239_145 : decode (zB 239) 145 = .ok (.iload 8, 2) := by decide +kernel
theorem d239_147 : decode (zB 239) 147 = .ok (.ireturn, 1) := by decide +kernel
theorem d239_148 : decode (zB 239) 148 = .ok (.iload 8, 2) := by decide +kernel
theorem d239_150 : decode (zB 239) 150 = .ok (.iload 5, 2) := by decide +kernel
theorem d239_152 : decode (zB 239) 152 = .ok (.if_icmp .ge 11, 3) := by decide +kernel
theorem d239_155 : decode (zB 239) 155 = .ok (.iload 8, 2) := by decide +kernel
theorem d239_157 : decode (zB 239) 157 = .ok (.istore 5, 2) := by decide +kernel
theorem d239_159 : decode (zB 239) 159 = .ok (.iload 7, 2) := by decide +kernel
theorem d239_161 : decode (zB 239) 161 = .ok (.istore 4, 2) := by decide +kernel
theorem d239_163 : decode (zB 239) 163 = .ok (.iload 6, 2) := by decide +kernel
theorem d239_165 : decode (zB 239) 165 = .ok (.iload 7, 2) := by decide +kernel
theorem d239_167 : decode (zB 239) 167 = .ok (.iload_n 2, 1) := by decide +kernel
theorem d239_168 : decode (zB 239) 168 = .ok (.if_icmp .ge 13, 3) := by decide +kernel
theorem d239_171 : decode (zB 239) 171 = .ok (.aload_n 0, 1) := by decide +kernel
theorem d239_172 : decode (zB 239) 172 = .ok (.getfield 134, 3) := by decide +kernel
theorem d239_175 : decode (zB 239) 175 = .ok (.iload 7, 2) := by decide +kernel
theorem d239_177 : decode (zB 239) 177 = .ok (.iaload, 1) := by decide +kernel
theorem d239_178 : decode (zB 239) 178 = .ok (.goto 4, 3) := by decide +kernel
theorem d239_181 : decode (zB 239) 181 = .ok (.iconst 0, 1) := by decide +kernel
theorem d239_182 : decode (zB 239) 182 = .ok (.iadd, 1) := by decide +kernel
theorem d239_183 : decode (zB 239) 183 = .ok (.istore 6, 2) := by decide +kernel
theorem d239_185 : decode (zB 239) 185 = .ok (.iinc 7 1, 3) := by decide +kernel
theorem d239_188 : decode (zB 239) 188 = .ok (.goto (-66), 3) := by decide +kernel
theorem d239_191 : decode (zB 239) 191 = .ok (.iload 4, 2) := by decide +kernel
theorem d239_193 : decode (zB 239) 193 = .ok (.ireturn, 1) := by decide +kernel
theorem d240_0 : decode (zB 240) 0 = .ok (.iload_n 1, 1) := by decide +kernel
theorem d240_1 : decode (zB 240) 1 = .ok (.iconst 1, 1) := by decide +kernel
theorem d240_2 : decode (zB 240) 2 = .ok (.if_icmp .lt 9, 3) := by decide +kernel
theorem d240_5 : decode (zB 240) 5 = .ok (.iload_n 1, 1) := by decide +kernel
theorem d240_6 : decode (zB 240) 6 = .ok (.ldc 216, 2) := by decide +kernel
theorem d240_8 : decode (zB 240) 8 = .ok (.if_icmp .lt 5, 3) := by decide +kernel
theorem d240_11 : decode (zB 240) 11 = .ok (.iconst (-1), 1) := by decide +kernel
theorem d240_12 : decode (zB 240) 12 = .ok (.ireturn, 1) := by decide +kernel
theorem d240_13 : decode (zB 240) 13 = .ok (.iconst (-1), 1) := by decide +kernel
theorem d240_14 : decode (zB 240) 14 = .ok (.istore_n 2, 1) := by decide +kernel
theorem d240_15 : decode (zB 240) 15 = .ok (.iconst 0, 1) := by decide +kernel
theorem d240_16 : decode (zB 240) 16 = .ok (.istore_n 3, 1) := by decide +kernel
theorem d240_17 : decode (zB 240) 17 = .ok (.iload_n 3, 1) := by decide +kernel
theorem d240_18 : decode (zB 240) 18 = .ok (.aload_n 0, 1) := by decide +kernel
theorem d240_19 : decode (zB 240) 19 = .ok (.getfield 162, 3) := by decide +kernel
theorem d240_22 : decode (zB 240) 22 = .ok (.if_icmp .ge 29, 3) := by decide +kernel
theorem d240_25 : decode (zB 240) 25 = .ok (.iload_n 1, 1) := by decide +kernel
theorem d240_26 : decode (zB 240) 26 = .ok (.aload_n 0, 1) := by decide +kernel
theorem d240_27 : decode (zB 240) 27 = .ok (.getfield 7, 3) := by decide +kernel
theorem d240_30 : decode (zB 240) 30 = .ok (.aload_n 0, 1) := by decide +kernel
theorem d240_31 : decode (zB 240) 31 = .ok (.getfield 22, 3) := by decide +kernel
theorem d240_34 : decode (zB 240) 34 = .ok (.iload_n 3, 1) := by decide +kernel
theorem d240_35 : decode (zB 240) 35 = .ok (.iaload, 1) := by decide +kernel
theorem d240_36 : decode (zB 240) 36 = .ok (.iaload, 1) := by decide +kernel
theorem d240_37 : decode (zB 240) 37 = .ok (.invokestatic 300, 3) := by decide +kernel
theorem d240_40 : decode (zB 240) 40 = .ok (.ifCond .eq 5, 3) := by decide +kernel
theorem d240_43 : decode (zB 240) 43 = .ok (.iload_n 3, 1) := by decide +kernel
theorem d240_44 : decode (zB 240) 44 = .ok (.istore_n 2, 1) := by decide +kernel
theorem d240_45 : decode (zB 240) 45 = .ok (.iinc 3 1, 3) := by decide +kernel
theorem d240_48 : decode (zB 240) 48 = .ok (.goto (-31), 3) := by decide +kernel
theorem d240_51 : decode (zB 240) 51 = .ok (.iload_n 2, 1) := by decide +kernel
theorem d240_52 : decode (zB 240) 52 = .ok (.iconst (-1), 1) := by decide +kernel
theorem d240_53 : decode (zB 240) 53 = .ok (.if_icmp .ne 6, 3) := by decide +kernel
theorem d240_56 : decode (zB 240) 56 = .ok (.bipush (-2), 2) := by decide +kernel
theorem d240_58 : decode (zB 240) 58 = .ok (.ireturn, 1) := by decide +kernel
theorem d240_59 : decode (zB 240) 59 = .ok (.iconst 0, 1) := by decide +kernel
theorem d240_60 : decode (zB 240) 60 = .ok (.istore_n 3, 1) := by decide +kernel
theorem d240_61 : decode (zB 240) 61 = .ok (.iconst 0, 1) := by decide +kernel
theorem d240_62 : decode (zB 240) 62 = .ok (.istore 4, 2) := by decide +kernel
theorem d240_64 : decode (zB 240) 64 = .ok (.iconst 0, 1) := by decide +kernel
theorem d240_65 : decode (zB 240) 65 = .ok (.istore 5, 2) := by decide +kernel
theorem d240_67 : decode (zB 240) 67 = .ok (.iload 5, 2) := by decide +kernel
theorem d240_69 : decode (zB 240) 69 = .ok (.iload_n 2, 1) := by decide +kernel
theorem d240_70 : decode (zB 240) 70 = .ok (.if_icmp .gt 52, 3) := by decide +kernel
theorem d240_73 : decode (zB 240) 73 = .ok (.aload_n 0, 1) := by decide +kernel
theorem d240_74 : decode (zB 240) 74 = .ok (.iload 5, 2) := by decide +kernel
theorem d240_76 : decode (zB 240) 76 = .ok (.invokevirtual 312, 3) := by decide +kernel
theorem d240_79 : decode (zB 240) 79 = .ok (.istore 6, 2) := by decide +kernel
theorem d240_81 : decode (zB 240) 81 = .ok (.iload_n 3, 1) := by decide +kernel
theorem d240_82 : decode (zB 240) 82 = .ok (.iload 6, 2) := by decide +kernel
theorem d240_84 : decode (zB 240) 84 = .ok (.iadd, 1) := by decide +kernel
theorem d240_85 : decode (zB 240) 85 = .ok (.istore_n 3, 1) := by decide +kernel
theorem d240_86 : decode (zB 240) 86 = .ok (.iload 4, 2) := by decide +kernel
theorem d240_88 : decode (zB 240) 88 = .ok (.iload_n 1, 1) := by decide +kernel
theorem d240_89 : decode (zB 240) 89 = .ok (.aload_n 0, 1) := by decide +kernel
theorem d240_90 : decode (zB 240) 90 = .ok (.getfield 7, 3) := by decide +kernel
theorem d240_93 : decode (zB 240) 93 = .ok (.aload_n 0, 1) := by decide +kernel
theorem d240_94 : decode (zB 240) 94 = .ok (.getfield 22, 3) := by decide +kernel
theorem d240_97 : decode (zB 240) 97 = .ok (.iload 5, 2) := by decide +kernel
theorem d240_99 : decode (zB 240) 99 = .ok (.iaload, 1) := by decide +kernel
theorem d240_100 : decode (zB 240) 100 = .ok (.iaload, 1) := by decide +kernel
theorem d240_101 : decode (zB 240) 101 = .ok (.invokestatic 300, 3) := by decide +kernel
theorem d240_104 : decode (zB 240) 104 = .ok (.ifCond .eq 8, 3) := by decide +kernel
theorem d240_107 : decode (zB 240) 107 = .ok (.iload 6, 2) := by decide +kernel
theorem d240_109 : decode (zB 240) 109 = .ok (.goto 4, 3) := by decide +kernel
theorem d240_112 : decode (zB 240) 112 = .ok (.iconst 1, 1) := by decide +kernel
theorem d240_113 : decode (zB 240) 113 = .ok (.iadd, 1) := by decide +kernel
theorem d240_114 : decode (zB 240) 114 = .ok (.istore 4, 2) := by decide +kernel
theorem d240_116 : decode (zB 240) 116 = .ok (.iinc 5 1, 3) := by decide +kernel
theorem d240_119 : decode (zB 240) 119 = .ok (.goto (-52), 3) := by decide +kernel
theorem d240_122 : decode (zB 240) 122 = .ok (.iload_n 3, 1) := by decide +kernel
theorem d240_123 : decode (zB 240) 123 = .ok (.iload 4, 2) := by decide +kernel
theorem d240_125 : decode (zB 240) 125 = .ok (.invokestatic 399, 3) := by decide +kernel
theorem d240_128 : decode (zB 240) 128 = .ok (.ireturn, 1) := by decide +kernel
theorem d241_0 : decode (zB 241) 0 = .ok (.iload_n 1, 1) := by decide +kernel
theorem d241_1 : decode (zB 241) 1 = .ok (.iconst 0, 1) := by decide +kernel
theorem d241_2 : decode (zB 241) 2 = .ok (.ldc_w 472, 3) := by decide +kernel
theorem d241_5 : decode (zB 241) 5 = .ok (.invokestatic 169, 3) := by decide +kernel
theorem d241_8 : decode (zB 241) 8 = .ok (.ifCond .ne 5, 3) := by decide +kernel
theorem d241_11 : decode (zB 241) 11 = .ok (.iconst 0, 1) := by decide +kernel
theorem d241_12 : decode (zB 241) 12 = .ok (.ireturn, 1) := by decide +kernel
theorem d241_13 : decode (zB 241) 13 = .ok (.aload_n 0, 1) := by decide +kernel
theorem d241_14 : decode (zB 241) 14 = .ok (.iload_n 1, 1) := by decide +kernel
theorem d241_15 : decode (zB 241) 15 = .ok (.putfield 152, 3) := by decide +kernel
theorem d241_18 : decode (zB 241) 18 = .ok (.iconst 1, 1) := by decide +kernel
theorem d241_19 : decode (zB 241) 19 = .ok (.ireturn, 1) := by decide +kernel
theorem d242_0 : decode (zB 242) 0 = .ok (.aload_n 0, 1) := by decide +kernel
theorem d242_1 : decode (zB 242) 1 = .ok (.getfield 162, 3) := by decide +kernel
theorem d242_4 : decode (zB 242) 4 = .ok (.iconst 1, 1) := by decide +kernel
theorem d242_5 : decode (zB 242) 5 = .ok (.isub, 1) := by decide +kernel
theorem d242_6 : decode (zB 242) 6 = .ok (.istore_n 1, 1) := by decide +kernel
theorem d242_7 : decode (zB 242) 7 = .ok (.iload_n 1, 1) := by decide +kernel
theorem d242_8 : decode (zB 242) 8 = .ok (.ifCond .le 64, 3) := by decide +kernel
theorem d242_11 : decode (zB 242) 11 = .ok (.aload_n 0, 1) := by decide +kernel
theorem d242_12 : decode (zB 242) 12 = .ok (.sipush 25173, 3) := by decide +kernel
theorem d242_15 : decode (zB 242) 15 = .ok (.aload_n 0, 1) := by decide +kernel
theorem d242_16 : decode (zB 242) 16 = .ok (.getfield 152, 3) := by decide +kernel
theorem d242_19 : decode (zB 242) 19 = .ok (.imul, 1) := by decide +kernel
theorem d242_20 : decode (zB 242) 20 = .ok (.sipush 13849, 3) := by decide +kernel
theorem d242_23 : decode (zB 242) 23 = .ok (.iadd, 1) := by decide +kernel
theorem d242_24 : decode (zB 242) 24 = .ok (.ldc_w 473, 3) := by decide +kernel
theorem d242_27 : decode (zB 242) 27 = .ok (.irem, 1) := by decide +kernel
theorem d242_28 : decode (zB 242) 28 = .ok (.putfield 152, 3) := by decide +kernel
theorem d242_31 : decode (zB 242) 31 = .ok (.aload_n 0, 1) := by decide +kernel
theorem d242_32 : decode (zB 242) 32 = .ok (.getfield 152, 3) := by decide +kernel
theorem d242_35 : decode (zB 242) 35 = .ok (.iload_n 1, 1) := by decide +kernel
theorem d242_36 : decode (zB 242) 36 = .ok (.iconst 1, 1) := by decide +kernel
theorem d242_37 : decode (zB 242) 37 = .ok (.iadd, 1) := by decide +kernel
theorem d242_38 : decode (zB 242) 38 = .ok (.irem, 1) := by decide +kernel
theorem d242_39 : decode (zB 242) 39 = .ok (.istore_n 2, 1) := by decide +kernel
theorem d242_40 : decode (zB 242) 40 = .ok (.aload_n 0, 1) := by decide +kernel
theorem d242_41 : decode (zB 242) 41 = .ok (.getfield 22, 3) := by decide +kernel
theorem d242_44 : decode (zB 242) 44 = .ok (.iload_n 1, 1) := by decide +kernel
theorem d242_45 : decode (zB 242) 45 = .ok (.iaload, 1) := by decide +kernel
theorem d242_46 : decode (zB 242) 46 = .ok (.istore_n 3, 1) := by decide +kernel
theorem d242_47 : decode (zB 242) 47 = .ok (.aload_n 0, 1) := by decide +kernel
theorem d242_48 : decode (zB 242) 48 = .ok (.getfield 22, 3) := by decide +kernel
theorem d242_51 : decode (zB 242) 51 = .ok (.iload_n 1, 1) := by decide +kernel
theorem d242_52 : decode (zB 242) 52 = .ok (.aload_n 0, 1) := by decide +kernel
theorem d242_53 : decode (zB 242) 53 = .ok (.getfield 22, 3) := by decide +kernel
theorem d242_56 : decode (zB 242) 56 = .ok (.iload_n 2, 1) := by decide +kernel
theorem d242_57 : decode (zB 242) 57 = .ok (.iaload, 1) := by decide +kernel
theorem d242_58 : decode (zB 242) 58 = .ok (.iastore, 1) := by decide +kernel
theorem d242_59 : decode (zB 242) 59 = .ok (.aload_n 0, 1) := by decide +kernel
theorem d242_60 : decode (zB 242) 60 = .ok (.getfield 22, 3) := by decide +kernel
theorem d242_63 : decode (zB 242) 63 = .ok (.iload_n 2, 1) := by decide +kernel
theorem d242_64 : decode (zB 242) 64 = .ok (.iload_n 3, 1) := by decide +kernel
theorem d242_65 : decode (zB 242) 65 = .ok (.iastore, 1) := by decide +kernel
theorem d242_66 : decode (zB 242) 66 = .ok (.iinc 1 (-1), 3) := by decide +kernel
theorem d242_69 : decode (zB 242) 69 = .ok (.goto (-62), 3) := by decide +kernel
theorem d242_72 : decode (zB 242) 72 = .ok (.aload_n 0, 1) := by decide +kernel
theorem d242_73 : decode (zB 242) 73 = .ok (.invokevirtual 358, 3) := by decide +kernel
theorem d242_76 : decode (zB 242) 76 = .ok (.ireturn, 1) := by decide +kernel
theorem d243_0 : decode (zB 243) 0 = .ok (.aload_n 0, 1) := by decide +kernel
theorem d243_1 : decode (zB 243) 1 = .ok (.iconst 1, 1) := by decide +kernel
theorem d243_2 : decode (zB 243) 2 = .ok (.putfield 474, 3) := by decide +kernel
theorem d243_5 : decode (zB 243) 5 = .ok (.aload_n 0, 1) := by decide +kernel
theorem d243_6 : decode (zB 243) 6 = .ok (.aload_n 0, 1) := by decide +kernel
theorem d243_7 : decode (zB 243) 7 = .ok (.getfield 159, 3) := by decide +kernel
theorem d243_10 : decode (zB 243) 10 = .ok (.putfield 478, 3) := by decide +kernel
theorem d243_13 : decode (zB 243) 13 = .ok (.aload_n 0, 1) := by decide +kernel
theorem d243_14 : decode (zB 243) 14 = .ok (.aload_n 0, 1) := by decide +kernel
theorem d243_15 : decode (zB 243) 15 = .ok (.getfield 162, 3) := by decide +kernel
theorem d243_18 : decode (zB 243) 18 = .ok (.putfield 481, 3) := by decide +kernel
theorem d243_21 : decode (zB 243) 21 = .ok (.aload_n 0, 1) := by decide +kernel
theorem d243_22 : decode (zB 243) 22 = .ok (.aload_n 0, 1) := by decide +kernel
theorem d243_23 : decode (zB 243) 23 = .ok (.getfield 173, 3) := by decide +kernel
theorem d243_26 : decode (zB 243) 26 = .ok (.putfield 484, 3) := by decide +kernel
theorem d243_29 : decode (zB 243) 29 = .ok (.aload_n 0, 1) := by decide +kernel
theorem d243_30 : decode (zB 243) 30 = .ok (.aload_n 0, 1) := by decide +kernel
theorem d243_31 : decode (zB 243) 31 = .ok (.getfield 152, 3) := by decide +kernel
theorem d243_34 : decode (zB 243) 34 = .ok (.putfield 487, 3) := by decide +kernel
theorem d243_37 : decode (zB 243) 37 = .ok (.aload_n 0, 1) := by decide +kernel
theorem d243_38 : decode (zB 243) 38 = .ok (.getfield 7, 3) := by decide +kernel
theorem d243_41 : decode (zB 243) 41 = .ok (.aload_n 0, 1) := by decide +kernel
theorem d243_42 : decode (zB 243) 42 = .ok (.getfield 137, 3) := by decide +kernel
theorem d243_45 : decode (zB 243) 45 = .ok (.invokestatic 342, 3) := by decide +kernel
theorem d243_48 : decode (zB 243) 48 = .ok (.aload_n 0, 1) := by decide +kernel
theorem d243_49 : decode (zB 243) 49 = .ok (.getfield 13, 3) := by decide +kernel
theorem d243_52 : decode (zB 243) 52 = .ok (.aload_n 0, 1) := by decide +kernel
theorem d243_53 : decode (zB 243) 53 = .ok (.getfield 140, 3) := by decide +kernel
theorem d243_56 : decode (zB 243) 56 = .ok (.invokestatic 342, 3) := by decide +kernel
theorem d243_59 : decode (zB 243) 59 = .ok (.aload_n 0, 1) := by decide +kernel
theorem d243_60 : decode (zB 243) 60 = .ok (.getfield 16, 3) := by decide +kernel
theorem d243_63 : decode (zB 243) 63 = .ok (.aload_n 0, 1) := by decide +kernel
theorem d243_64 : decode (zB 243) 64 = .ok (.getfield 143, 3) := by decide +kernel
theorem d243_67 : decode (zB 243) 67 = .ok (.invokestatic 342, 3) := by decide +kernel
theorem d243_70 : decode (zB 243) 70 = .ok (.aload_n 0, 1) := by decide +kernel
theorem d243_71 : decode (zB 243) 71 = .ok (.getfield 19, 3) := by decide +kernel
theorem d243_74 : decode (zB 243) 74 = .ok (.aload_n 0, 1) := by decide +kernel
theorem d243_75 : decode (zB 243) 75 = .ok (.getfield 146, 3) := by decide +kernel
theorem d243_78 : decode (zB 243) 78 = .ok (.invokestatic 342, 3) := by decide +kernel
theorem d243_81 : decode (zB 243) 81 = .ok (.aload_n 0, 1) := by decide +kernel
theorem d243_82 : decode (zB 243) 82 = .ok (.getfield 22, 3) := by decide +kernel
theorem d243_85 : decode (zB 243) 85 = .ok (.aload_n 0, 1) := by decide +kernel
theorem d243_86 : decode (zB 243) 86 = .ok (.getfield 149, 3) := by decide +kernel
theorem d243_89 : decode (zB 243) 89 = .ok (.invokestatic 342, 3) := by decide +kernel
theorem d243_92 : decode (zB 243) 92 = .ok (.aload_n 0, 1) := by decide +kernel
theorem d243_93 : decode (zB 243) 93 = .ok (.getfield 162, 3) := by decide +kernel
theorem d243_96 : decode (zB 243) 96 = .ok (.ireturn, 1) := by decide +kernel
theorem d244_0 : decode (zB 244) 0 = .ok (.aload_n 0, 1) := by decide +kernel
theorem d244_1 : decode (zB 244) 1 = .ok (.getfield 474, 3) := by decide +kernel
theorem d244_4 : decode (zB 244) 4 = .ok (.ifCond .ne 5, 3) := by decide +kernel
theorem d244_7 : decode (zB 244) 7 = .ok (.iconst 0, 1) := by decide +kernel
theorem d244_8 : decode (zB 244) 8 = .ok (.ireturn, 1) := by decide +kernel
theorem d244_9 : decode (zB 244) 9 = .ok (.aload_n 0, 1) := by decide +kernel
theorem d244_10 : decode (zB 244) 10 = .ok (.aload_n 0, 1) := by decide +kernel
theorem d244_11 : decode (zB 244) 11 = .ok (.getfield 478, 3) := by decide +kernel
theorem d244_14 : decode (zB 244) 14 = .ok (.putfield 159, 3) := by decide +kernel
theorem d244_17 : decode (zB 244) 17 = .ok (.aload_n 0, 1) := by decide +kernel
theorem d244_18 : decode (zB 244) 18 = .ok (.aload_n 0, 1) := by decide +kernel
theorem d244_19 : decode (zB 244) 19 = .ok (.getfield 481, 3) := by decide +kernel
theorem d244_22 : decode (zB 244) 22 = .ok (.putfield 162, 3) := by decide +kernel
theorem d244_25 : decode (zB 244) 25 = .ok (.aload_n 0, 1) := by decide +kernel
theorem d244_26 : decode (zB 244) 26 = .ok (.aload_n 0, 1) := by decide +kernel
theorem d244_27 : decode (zB 244) 27 = .ok (.getfield 484, 3) := by decide +kernel
theorem d244_30 : decode (zB 244) 30 = .ok (.putfield 173, 3) := by decide +kernel
theorem d244_33 : decode (zB 244) 33 = .ok (.aload_n 0, 1) := by decide +kernel
theorem d244_34 : decode (zB 244) 34 = .ok (.aload_n 0, 1) := by decide +kernel
theorem d244_35 : decode (zB 244) 35 = .ok (.getfield 487, 3) := by decide +kernel
theorem d244_38 : decode (zB 244) 38 = .ok (.putfield 152, 3) := by decide +kernel
theorem d244_41 : decode (zB 244) 41 = .ok (.aload_n 0, 1) := by decide +kernel
theorem d244_42 : decode (zB 244) 42 = .ok (.getfield 137, 3) := by decide +kernel
theorem d244_45 : decode (zB 244) 45 = .ok (.aload_n 0, 1) := by decide +kernel
theorem d244_46 : decode (zB 244) 46 = .ok (.getfield 7, 3) := by decide +kernel
theorem d244_49 : decode (zB 244) 49 = .ok (.invokestatic 342, 3) := by decide +kernel
theorem d244_52 : decode (zB 244) 52 = .ok (.aload_n 0, 1) := by decide +kernel
theorem d244_53 : decode (zB 244) 53 = .ok (.getfield 140, 3) := by decide +kernel
theorem d244_56 : decode (zB 244) 56 = .ok (.aload_n 0, 1) := by decide +kernel
theorem d244_57 : decode (zB 244) 57 = .ok (.getfield 13, 3) := by decide +kernel
theorem d244_60 : decode (zB 244) 60 = .ok (.invokestatic 342, 3) := by decide +kernel
theorem d244_63 : decode (zB 244) 63 = .ok (.aload_n 0, 1) := by decide +kernel
theorem d244_64 : decode (zB 244) 64 = .ok (.getfield 143, 3) := by decide +kernel
theorem d244_67 : decode (zB 244) 67 = .ok (.aload_n 0, 1) := by decide +kernel
theorem d244_68 : decode (zB 244) 68 = .ok (.getfield 16, 3) := by decide +kernel
theorem d244_71 : decode (zB 244) 71 = .ok (.invokestatic 342, 3) := by decide +kernel
theorem d244_74 : decode (zB 244) 74 = .ok (.aload_n 0, 1) := by decide +kernel
theorem d244_75 : decode (zB 244) 75 = .ok (.getfield 146, 3) := by decide +kernel
theorem d244_78 : decode (zB 244) 78 = .ok (.aload_n 0, 1) := by decide +kernel
theorem d244_79 : decode (zB 244) 79 = .ok (.getfield 19, 3) := by decide +kernel
theorem d244_82 : decode (zB 244) 82 = .ok (.invokestatic 342, 3) := by decide +kernel
theorem d244_85 : decode (zB 244) 85 = .ok (.aload_n 0, 1) := by decide +kernel
theorem d244_86 : decode (zB 244) 86 = .ok (.getfield 149, 3) := by decide +kernel
theorem d244_89 : decode (zB 244) 89 = .ok (.aload_n 0, 1) := by decide +kernel
theorem d244_90 : decode (zB 244) 90 = .ok (.getfield 22, 3) := by decide +kernel
theorem d244_93 : decode (zB 244) 93 = .ok (.invokestatic 342, 3) := by decide +kernel
theorem d244_96 : decode (zB 244) 96 = .ok (.iconst 1, 1) := by decide +kernel
theorem d244_97 : decode (zB 244) 97 = .ok (.ireturn, 1) := by decide +kernel
theorem d245_0 : decode (zB 245) 0 = .ok (.iconst 0, 1) := by decide +kernel
theorem d245_1 : decode (zB 245) 1 = .ok (.istore_n 2, 1) := by decide +kernel
theorem d245_2 : decode (zB 245) 2 = .ok (.iconst 4, 1) := by decide +kernel
theorem d245_3 : decode (zB 245) 3 = .ok (.iload_n 1, 1) := by decide +kernel
theorem d245_4 : decode (zB 245) 4 = .ok (.imul, 1) := by decide +kernel
theorem d245_5 : decode (zB 245) 5 = .ok (.istore_n 3, 1) := by decide +kernel
theorem d245_6 : decode (zB 245) 6 = .ok (.iload_n 3, 1) := by decide +kernel
theorem d245_7 : decode (zB 245) 7 = .ok (.iconst 4, 1) := by decide +kernel
theorem d245_8 : decode (zB 245) 8 = .ok (.iload_n 1, 1) := by decide +kernel
theorem d245_9 : decode (zB 245) 9 = .ok (.imul, 1) := by decide +kernel
theorem d245_10 : decode (zB 245) 10 = .ok (.iconst 4, 1) := by decide +kernel
theorem d245_11 : decode (zB 245) 11 = .ok (.iadd, 1) := by decide +kernel
theorem d245_12 : decode (zB 245) 12 = .ok (.if_icmp .ge 25, 3) := by decide +kernel
theorem d245_15 : decode (zB 245) 15 = .ok (.iload_n 2, 1) := by decide +kernel
theorem d245_16 : decode (zB 245) 16 = .ok (.bipush 8, 2) := by decide +kernel
theorem d245_18 : decode (zB 245) 18 = .ok (.ishl, 1) := by decide +kernel
theorem d245_19 : decode (zB 245) 19 = .ok (.aload_n 0, 1) := by decide +kernel
theorem d245_20 : decode (zB 245) 20 = .ok (.getfield 28, 3) := by decide +kernel
theorem d245_23 : decode (zB 245) 23 = .ok (.iload_n 3, 1) := by decide +kernel
theorem d245_24 : decode (zB 245) 24 = .ok (.baload, 1) := by decide +kernel
theorem d245_25 : decode (zB 245) 25 = .ok (.sipush 255, 3) := by decide +kernel
theorem d245_28 : decode (zB 245) 28 = .ok (.iand, 1) := by decide +kernel
theorem d245_29 : decode (zB 245) 29 = .ok (.ior, 1) := by decide +kernel
theorem d245_30 : decode (zB 245) 30 = .ok (.istore_n 2, 1) := by decide +kernel
theorem d245_31 : decode (zB 245) 31 = .ok (.iinc 3 1, 3) := by decide +kernel
theorem d245_34 : decode (zB 245) 34 = .ok (.goto (-28), 3) := by decide +kernel
theorem d245_37 : decode (zB 245) 37 = .ok (.iload_n 2, 1) := by decide +kernel
theorem d245_38 : decode (zB 245) 38 = .ok (.ireturn, 1) := by decide +kernel
theorem d246_0 : decode (zB 246) 0 = .ok (.iload_n 1, 1) := by decide +kernel
theorem d246_1 : decode (zB 246) 1 = .ok (.iconst 0, 1) := by decide +kernel
theorem d246_2 : decode (zB 246) 2 = .ok (.bipush 32, 2) := by decide +kernel
theorem d246_4 : decode (zB 246) 4 = .ok (.invokestatic 169, 3) := by decide +kernel
theorem d246_7 : decode (zB 246) 7 = .ok (.ifCond .eq 13, 3) := by decide +kernel
theorem d246_10 : decode (zB 246) 10 = .ok (.iload_n 1, 1) := by decide +kernel
theorem d246_11 : decode (zB 246) 11 = .ok (.aload_n 0, 1) := by decide +kernel
theorem d246_12 : decode (zB 246) 12 = .ok (.getfield 183, 3) := by decide +kernel
theorem d246_15 : decode (zB 246) 15 = .ok (.iconst 4, 1) := by decide +kernel
theorem d246_16 : decode (zB 246) 16 = .ok (.idiv, 1) := by decide +kernel
theorem d246_17 : decode (zB 246) 17 = .ok (.if_icmp .le 6, 3) := by decide +kernel
theorem d246_20 : decode (zB 246) 20 = .ok (.bipush (-2), 2) := by decide +kernel
theorem d246_22 : decode (zB 246) 22 = .ok (.ireturn, 1) := by decide +kernel
theorem d246_23 : decode (zB 246) 23 = .ok (.aload_n 0, 1) := by decide +kernel
theorem d246_24 : decode (zB 246) 24 = .ok (.iconst 0, 1) := by decide +kernel
theorem d246_25 : decode (zB 246) 25 = .ok (.putfield 183, 3) := by decide +kernel
theorem d246_28 : decode (zB 246) 28 = .ok (.iconst 0, 1) := by decide +kernel
theorem d246_29 : decode (zB 246) 29 = .ok (.istore_n 2, 1) := by decide +kernel
theorem d246_30 : decode (zB 246) 30 = .ok (.iload_n 2, 1) := by decide +kernel
theorem d246_31 : decode (zB 246) 31 = .ok (.iload_n 1, 1) := by decide +kernel
theorem d246_32 : decode (zB 246) 32 = .ok (.if_icmp .ge 33, 3) := by decide +kernel
theorem d246_35 : decode (zB 246) 35 = .ok (.iload_n 2, 1) := by decide +kernel
theorem d246_36 : decode (zB 246) 36 = .ok (.aload_n 0, 1) := by decide +kernel
theorem d246_37 : decode (zB 246) 37 = .ok (.getfield 162, 3) := by decide +kernel
theorem d246_40 : decode (zB 246) 40 = .ok (.if_icmp .eq 17, 3) := by decide +kernel
theorem d246_43 : decode (zB 246) 43 = .ok (.aload_n 0, 1) := by decide +kernel
theorem d246_44 : decode (zB 246) 44 = .ok (.iload_n 2, 1) := by decide +kernel
theorem d246_45 : decode (zB 246) 45 = .ok (.invokevirtual 490, 3) := by decide +kernel
theorem d246_48 : decode (zB 246) 48 = .ok (.aload_n 0, 1) := by decide +kernel
theorem d246_49 : decode (zB 246) 49 = .ok (.getfield 22, 3) := by decide +kernel
theorem d246_52 : decode (zB 246) 52 = .ok (.iload_n 2, 1) := by decide +kernel
theorem d246_53 : decode (zB 246) 53 = .ok (.iaload, 1) := by decide +kernel
theorem d246_54 : decode (zB 246) 54 = .ok (.if_icmp .eq 5, 3) := by decide +kernel
theorem d246_57 : decode (zB 246) 57 = .ok (.iload_n 2, 1) := by decide +kernel
theorem d246_58 : decode (zB 246) 58 = .ok (.ireturn, 1) := by decide +kernel
theorem d246_59 : decode (zB 246) 59 = .ok (.iinc 2 1, 3) := by decide +kernel
theorem d246_62 : decode (zB 246) 62 = .ok (.goto (-32), 3) := by decide +kernel
theorem d246_65 : decode (zB 246) 65 = .ok (.iconst (-1), 1) := by decide +kernel
theorem d246_66 : decode (zB 246) 66 = .ok (.ireturn, 1) := by decide +kernel
theorem d247_0 : decode (zB 247) 0 = .ok (.iconst 0, 1) := by decide +kernel
theorem d247_1 : decode (zB 247) 1 = .ok (.istore_n 1, 1) := by decide +kernel
theorem d247_2 : decode (zB 247) 2 = .ok (.iconst 0, 1) := by decide +kernel
theorem d247_3 : decode (zB 247) 3 = .ok (.istore_n 2, 1) := by decide +kernel
theorem d247_4 : decode (zB 247) 4 = .ok (.iload_n 2, 1) := by decide +kernel
theorem d247_5 : decode (zB 247) 5 = .ok (.aload_n 0, 1) := by decide +kernel
theorem d247_6 : decode (zB 247) 6 = .ok (.getfield 162, 3) := by decide +kernel
theorem d247_9 : decode (zB 247) 9 = .ok (.if_icmp .ge 25, 3) := by decide +kernel
theorem d247_12 : decode (zB 247) 12 = .ok (.iload_n 1, 1) := by decide +kernel
theorem d247_13 : decode (zB 247) 13 = .ok (.iconst 1, 1) := by decide +kernel
theorem d247_14 : decode (zB 247) 14 = .ok (.aload_n 0, 1) := by decide +kernel
theorem d247_15 : decode (zB 247) 15 = .ok (.getfield 7, 3) := by decide +kernel
theorem d247_18 : decode (zB 247) 18 = .ok (.aload_n 0, 1) := by decide +kernel
theorem d247_19 : decode (zB 247) 19 = .ok (.getfield 22, 3) := by decide +kernel
theorem d247_22 : decode (zB 247) 22 = .ok (.iload_n 2, 1) := by decide +kernel
theorem d247_23 : decode (zB 247) 23 = .ok (.iaload, 1) := by decide +kernel
theorem d247_24 : decode (zB 247) 24 = .ok (.iaload, 1) := by decide +kernel
theorem d247_25 : decode (zB 247) 25 = .ok (.ishl, 1) := by decide +kernel
theorem d247_26 : decode (zB 247) 26 = .ok (.ior, 1) := by decide +kernel
theorem d247_27 : decode (zB 247) 27 = .ok (.istore_n 1, 1) := by decide +kernel
theorem d247_28 : decode (zB 247) 28 = .ok (.iinc 2 1, 3) := by decide +kernel
theorem d247_31 : decode (zB 247) 31 = .ok (.goto (-27), 3) := by decide +kernel
theorem d247_34 : decode (zB 247) 34 = .ok (.iload_n 1, 1) := by decide +kernel
theorem d247_35 : decode (zB 247) 35 = .ok (.ireturn, 1) := by decide +kernel
theorem d248_0 : decode (zB 248) 0 = .ok (.iconst 0, 1) := by decide +kernel
theorem d248_1 : decode (zB 248) 1 = .ok (.istore_n 1, 1) := by decide +kernel
theorem d248_2 : decode (zB 248) 2 = .ok (.iconst 0, 1) := by decide +kernel
theorem d248_3 : decode (zB 248) 3 = .ok (.istore_n 2, 1) := by decide +kernel
theorem d248_4 : decode (zB 248) 4 = .ok (.iload_n 2, 1) := by decide +kernel
theorem d248_5 : decode (zB 248) 5 = .ok (.aload_n 0, 1) := by decide +kernel
theorem d248_6 : decode (zB 248) 6 = .ok (.getfield 162, 3) := by decide +kernel
theorem d248_9 : decode (zB 248) 9 = .ok (.if_icmp .ge 23, 3) := by decide +kernel
theorem d248_12 : decode (zB 248) 12 = .ok (.iload_n 1, 1) := by decide +kernel
theorem d248_13 : decode (zB 248) 13 = .ok (.aload_n 0, 1) := by decide +kernel
theorem d248_14 : decode (zB 248) 14 = .ok (.getfield 13, 3) := by decide +kernel
theorem d248_17 : decode (zB 248) 17 = .ok (.aload_n 0, 1) := by decide +kernel
theorem d248_18 : decode (zB 248) 18 = .ok (.getfield 22, 3) := by decide +kernel
theorem d248_21 : decode (zB 248) 21 = .ok (.iload_n 2, 1) := by decide +kernel
theorem d248_22 : decode (zB 248) 22 = .ok (.iaload, 1) := by decide +kernel
theorem d248_23 : decode (zB 248) 23 = .ok (.iaload, 1) := by decide +kernel
theorem d248_24 : decode (zB 248) 24 = .ok (.iadd, 1) := by decide +kernel
theorem d248_25 : decode (zB 248) 25 = .ok (.istore_n 1, 1) := by decide +kernel
theorem d248_26 : decode (zB 248) 26 = .ok (.iinc 2 1, 3) := by decide +kernel
theorem d248_29 : decode (zB 248) 29 = .ok (.goto (-25), 3) := by decide +kernel
theorem d248_32 : decode (zB 248) 32 = .ok (.iload_n 1, 1) := by decide +kernel
theorem d248_33 : decode (zB 248) 33 = .ok (.ireturn, 1) := by decide +kernel
theorem d249_0 : decode (zB 249) 0 = .ok (.iload_n 1, 1) := by decide +kernel
theorem d249_1 : decode (zB 249) 1 = .ok (.tableswitch 105 0 9 #[55, 60, 65, 70, 75, 80, 85, 90, 95, 100], 55) := by decide +kernel
theorem d249_56 : decode (zB 249) 56 = .ok (.aload_n 0, 1) := by decide +kernel
theorem d249_57 : decode (zB 249) 57 = .ok (.getfield 159, 3) := by decide +kernel
theorem d249_60 : decode (zB 249) 60 = .ok (.ireturn, 1) := by decide +kernel
theorem d249_61 : decode (zB 249) 61 = .ok (.aload_n 0, 1) := by decide +kernel
theorem d249_62 : decode (zB 249) 62 = .ok (.getfield 162, 3) := by decide +kernel
theorem d249_65 : decode (zB 249) 65 = .ok (.ireturn, 1) := by decide +kernel
theorem d249_66 : decode (zB 249) 66 = .ok (.aload_n 0, 1) := by decide +kernel
theorem d249_67 : decode (zB 249) 67 = .ok (.getfield 173, 3) := by decide +kernel
theorem d249_70 : decode (zB 249) 70 = .ok (.ireturn, 1) := by decide +kernel
theorem d249_71 : decode (zB 249) 71 = .ok (.aload_n 0, 1) := by decide +kernel
theorem d249_72 : decode (zB 249) 72 = .ok (.getfield 280, 3) := by decide +kernel
theorem d249_75 : decode (zB 249) 75 = .ok (.ireturn, 1) := by decide +kernel
theorem d249_76 : decode (zB 249) 76 = .ok (.aload_n 0, 1) := by decide +kernel
theorem d249_77 : decode (zB 249) 77 = .ok (.getfield 183, 3) := by decide +kernel
theorem d249_80 : decode (zB 249) 80 = .ok (.ireturn, 1) := by decide +kernel
theorem d249_81 : decode (zB 249) 81 = .ok (.aload_n 0, 1) := by decide +kernel
theorem d249_82 : decode (zB 249) 82 = .ok (.getfield 152, 3) := by decide +kernel
theorem d249_85 : decode (zB 249) 85 = .ok (.ireturn, 1) := by decide +kernel
theorem d249_86 : decode (zB 249) 86 = .ok (.aload_n 0, 1) := by decide +kernel
theorem d249_87 : decode (zB 249) 87 = .ok (.getfield 156, 3) := by decide +kernel
theorem d249_90 : decode (zB 249) 90 = .ok (.ireturn, 1) := by decide +kernel
theorem d249_91 : decode (zB 249) 91 = .ok (.aload_n 0, 1) := by decide +kernel
theorem d249_92 : decode (zB 249) 92 = .ok (.getfield 180, 3) := by decide +kernel
theorem d249_95 : decode (zB 249) 95 = .ok (.ireturn, 1) := by decide +kernel
theorem d249_96 : decode (zB 249) 96 = .ok (.aload_n 0, 1) := by decide +kernel
theorem d249_97 : decode (zB 249) 97 = .ok (.invokevirtual 493, 3) := by decide +kernel
theorem d249_100 : decode (zB 249) 100 = .ok (.ireturn, 1) := by decide +kernel
theorem d249_101 : decode (zB 249) 101 = .ok (.aload_n 0, 1) := by decide +kernel
theorem d249_102 : decode (zB 249) 102 = .ok (.invokevirtual 496, 3) := by decide +kernel
theorem d249_105 : decode (zB 249) 105 = .ok (.ireturn, 1) := by decide +kernel
theorem d249_106 : decode (zB 249) 106 = .ok (.iload_n 1, 1) := by decide +kernel
theorem d249_107 : decode (zB 249) 107 = .ok (.bipush 20, 2) := by decide +kernel
theorem d249_109 : decode (zB 249) 109 = .ok (.bipush 39, 2) := by decide +kernel
theorem d249_111 : decode (zB 249) 111 = .ok (.invokestatic 169, 3) := by decide +kernel
theorem d249_114 : decode (zB 249) 114 = .ok (.ifCond .eq 15, 3) := by decide +kernel
theorem d249_117 : decode (zB 249) 117 = .ok (.aload_n 0, 1) := by decide +kernel
theorem d249_118 : decode (zB 249) 118 = .ok (.getfield 25, 3) := by decide +kernel
theorem d249_121 : decode (zB 249) 121 = .ok (.iload_n 1, 1) := by decide +kernel
theorem d249_122 : decode (zB 249) 122 = .ok (.bipush 20, 2) := by decide +kernel
theorem d249_124 : decode (zB 249) 124 = .ok (.isub, 1) := by decide +kernel
theorem d249_125 : decode (zB 249) 125 = .ok (.iaload, 1) := by decide +kernel
theorem d249_126 : decode (zB 249) 126 = .ok (.goto 4, 3) := by decide +kernel
theorem d249_129 : decode (zB 249) 129 = .ok (.iconst (-1), 1) := by decide +kernel
theorem d249_130 : decode (zB 249) 130 = .ok (.ireturn, 1) := by decide +kernel
