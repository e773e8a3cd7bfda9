theorem dX9_bounds_0 : decode cX9_bounds 0 = .ok (.iload_n 1, 1) := by decide +kernel
theorem dX9_bounds_1 : decode cX9_bounds 1 = .ok (.i2l, 1) := by decide +kernel
theorem dX9_bounds_2 : decode cX9_bounds 2 = .ok (.ldc2_w 77, 3) := by decide +kernel
theorem dX9_bounds_5 : decode cX9_bounds 5 = .ok (.ldc2_w 75, 3) := by decide +kernel
theorem dX9_bounds_8 : decode cX9_bounds 8 = .ok (.invokestatic 44, 3) := by decide +kernel
theorem dX9_bounds_11 : decode cX9_bounds 11 = .ok (.ifCond .eq 24, 3) := by decide +kernel
theorem dX9_bounds_14 : decode cX9_bounds 14 = .ok (.iload_n 2, 1) := by decide +kernel
theorem dX9_bounds_15 : decode cX9_bounds 15 = .ok (.i2l, 1) := by decide +kernel
theorem dX9_bounds_16 : decode cX9_bounds 16 = .ok (.iload_n 1, 1) := by decide +kernel
theorem dX9_bounds_17 : decode cX9_bounds 17 = .ok (.i2l, 1) := by decide +kernel
theorem dX9_bounds_18 : decode cX9_bounds 18 = .ok (.iload_n 1, 1) := by decide +kernel
theorem dX9_bounds_19 : decode cX9_bounds 19 = .ok (.bipush 14, 2) := by decide +kernel
theorem dX9_bounds_21 : decode cX9_bounds 21 = .ok (.iadd, 1) := by decide +kernel
theorem dX9_bounds_22 : decode cX9_bounds 22 = .ok (.i2l, 1) := by decide +kernel
theorem dX9_bounds_23 : decode cX9_bounds 23 = .ok (.invokestatic 44, 3) := by decide +kernel
theorem dX9_bounds_26 : decode cX9_bounds 26 = .ok (.ifCond .eq 9, 3) := by decide +kernel
theorem dX9_bounds_29 : decode cX9_bounds 29 = .ok (.iload_n 2, 1) := by decide +kernel
theorem dX9_bounds_30 : decode cX9_bounds 30 = .ok (.bipush 99, 2) := by decide +kernel
theorem dX9_bounds_32 : decode cX9_bounds 32 = .ok (.if_icmp .le 6, 3) := by decide +kernel
theorem dX9_bounds_35 : decode cX9_bounds 35 = .ok (.bipush (-2), 2) := by decide +kernel
theorem dX9_bounds_37 : decode cX9_bounds 37 = .ok (.ireturn, 1) := by decide +kernel
theorem dX9_bounds_38 : decode cX9_bounds 38 = .ok (.bipush 100, 2) := by decide +kernel
theorem dX9_bounds_40 : decode cX9_bounds 40 = .ok (.aload_n 0, 1) := by decide +kernel
theorem dX9_bounds_41 : decode cX9_bounds 41 = .ok (.getfield 11, 3) := by decide +kernel
theorem dX9_bounds_44 : decode cX9_bounds 44 = .ok (.iconst 1, 1) := by decide +kernel
theorem dX9_bounds_45 : decode cX9_bounds 45 = .ok (.iaload, 1) := by decide +kernel
theorem dX9_bounds_46 : decode cX9_bounds 46 = .ok (.imul, 1) := by decide +kernel
theorem dX9_bounds_47 : decode cX9_bounds 47 = .ok (.aload_n 0, 1) := by decide +kernel
theorem dX9_bounds_48 : decode cX9_bounds 48 = .ok (.getfield 11, 3) := by decide +kernel
theorem dX9_bounds_51 : decode cX9_bounds 51 = .ok (.iconst 2, 1) := by decide +kernel
theorem dX9_bounds_52 : decode cX9_bounds 52 = .ok (.iaload, 1) := by decide +kernel
theorem dX9_bounds_53 : decode cX9_bounds 53 = .ok (.iadd, 1) := by decide +kernel
theorem dX9_bounds_54 : decode cX9_bounds 54 = .ok (.istore_n 3, 1) := by decide +kernel
theorem dX9_bounds_55 : decode cX9_bounds 55 = .ok (.aload_n 0, 1) := by decide +kernel
theorem dX9_bounds_56 : decode cX9_bounds 56 = .ok (.getfield 11, 3) := by decide +kernel
theorem dX9_bounds_59 : decode cX9_bounds 59 = .ok (.iconst 1, 1) := by decide +kernel
theorem dX9_bounds_60 : decode cX9_bounds 60 = .ok (.iload_n 1, 1) := by decide +kernel
theorem dX9_bounds_61 : decode cX9_bounds 61 = .ok (.iastore, 1) := by decide +kernel
theorem dX9_bounds_62 : decode cX9_bounds 62 = .ok (.aload_n 0, 1) := by decide +kernel
theorem dX9_bounds_63 : decode cX9_bounds 63 = .ok (.getfield 11, 3) := by decide +kernel
theorem dX9_bounds_66 : decode cX9_bounds 66 = .ok (.iconst 2, 1) := by decide +kernel
theorem dX9_bounds_67 : decode cX9_bounds 67 = .ok (.iload_n 2, 1) := by decide +kernel
theorem dX9_bounds_68 : decode cX9_bounds 68 = .ok (.iastore, 1) := by decide +kernel
theorem dX9_bounds_69 : decode cX9_bounds 69 = .ok (.iload_n 3, 1) := by decide +kernel
theorem dX9_bounds_70 : decode cX9_bounds 70 = .ok (.ireturn, 1) := by decide +kernel
theorem dX9_isWithin_0 : decode cX9_isWithin 0 = .ok (.iload_n 1, 1) := by decide +kernel
theorem dX9_isWithin_1 : decode cX9_isWithin 1 = .ok (.i2l, 1) := by decide +kernel
theorem dX9_isWithin_2 : decode cX9_isWithin 2 = .ok (.aload_n 0, 1) := by decide +kernel
theorem dX9_isWithin_3 : decode cX9_isWithin 3 = .ok (.getfield 11, 3) := by decide +kernel
theorem dX9_isWithin_6 : decode cX9_isWithin 6 = .ok (.iconst 1, 1) := by decide +kernel
theorem dX9_isWithin_7 : decode cX9_isWithin 7 = .ok (.iaload, 1) := by decide +kernel
theorem dX9_isWithin_8 : decode cX9_isWithin 8 = .ok (.i2l, 1) := by decide +kernel
theorem dX9_isWithin_9 : decode cX9_isWithin 9 = .ok (.aload_n 0, 1) := by decide +kernel
theorem dX9_isWithin_10 : decode cX9_isWithin 10 = .ok (.getfield 11, 3) := by decide +kernel
theorem dX9_isWithin_13 : decode cX9_isWithin 13 = .ok (.iconst 2, 1) := by decide +kernel
theorem dX9_isWithin_14 : decode cX9_isWithin 14 = .ok (.iaload, 1) := by decide +kernel
theorem dX9_isWithin_15 : decode cX9_isWithin 15 = .ok (.i2l, 1) := by decide +kernel
theorem dX9_isWithin_16 : decode cX9_isWithin 16 = .ok (.invokestatic 44, 3) := by decide +kernel
theorem dX9_isWithin_19 : decode cX9_isWithin 19 = .ok (.ireturn, 1) := by decide +kernel
theorem dX9_split_0 : decode cX9_split 0 = .ok (.iload_n 1, 1) := by decide +kernel
theorem dX9_split_1 : decode cX9_split 1 = .ok (.i2l, 1) := by decide +kernel
theorem dX9_split_2 : decode cX9_split 2 = .ok (.lconst 1, 1) := by decide +kernel
theorem dX9_split_3 : decode cX9_split 3 = .ok (.ldc2_w 48, 3) := by decide +kernel
theorem dX9_split_6 : decode cX9_split 6 = .ok (.invokestatic 44, 3) := by decide +kernel
theorem dX9_split_9 : decode cX9_split 9 = .ok (.ifCond .eq 15, 3) := by decide +kernel
theorem dX9_split_12 : decode cX9_split 12 = .ok (.iload_n 2, 1) := by decide +kernel
theorem dX9_split_13 : decode cX9_split 13 = .ok (.i2l, 1) := by decide +kernel
theorem dX9_split_14 : decode cX9_split 14 = .ok (.lconst 1, 1) := by decide +kernel
theorem dX9_split_15 : decode cX9_split 15 = .ok (.ldc2_w 79, 3) := by decide +kernel
theorem dX9_split_18 : decode cX9_split 18 = .ok (.invokestatic 44, 3) := by decide +kernel
theorem dX9_split_21 : decode cX9_split 21 = .ok (.ifCond .ne 6, 3) := by decide +kernel
theorem dX9_split_24 : decode cX9_split 24 = .ok (.bipush (-2), 2) := by decide +kernel
theorem dX9_split_26 : decode cX9_split 26 = .ok (.ireturn, 1) := by decide +kernel
theorem dX9_split_27 : decode cX9_split 27 = .ok (.iconst 0, 1) := by decide +kernel
theorem dX9_split_28 : decode cX9_split 28 = .ok (.istore 4, 2) := by decide +kernel
theorem dX9_split_30 : decode cX9_split 30 = .ok (.bipush (-5), 2) := by decide +kernel
theorem dX9_split_32 : decode cX9_split 32 = .ok (.istore 5, 2) := by decide +kernel
theorem dX9_split_34 : decode cX9_split 34 = .ok (.aload_n 0, 1) := by decide +kernel
theorem dX9_split_35 : decode cX9_split 35 = .ok (.getfield 11, 3) := by decide +kernel
theorem dX9_split_38 : decode cX9_split 38 = .ok (.iconst 1, 1) := by decide +kernel
theorem dX9_split_39 : decode cX9_split 39 = .ok (.iaload, 1) := by decide +kernel
theorem dX9_split_40 : decode cX9_split 40 = .ok (.istore 6, 2) := by decide +kernel
theorem dX9_split_42 : decode cX9_split 42 = .ok (.iload 6, 2) := by decide +kernel
theorem dX9_split_44 : decode cX9_split 44 = .ok (.aload_n 0, 1) := by decide +kernel
theorem dX9_split_45 : decode cX9_split 45 = .ok (.getfield 11, 3) := by decide +kernel
theorem dX9_split_48 : decode cX9_split 48 = .ok (.iconst 2, 1) := by decide +kernel
theorem dX9_split_49 : decode cX9_split 49 = .ok (.iaload, 1) := by decide +kernel
theorem dX9_split_50 : decode cX9_split 50 = .ok (.if_icmp .gt 100, 3) := by decide +kernel
theorem dX9_split_53 : decode cX9_split 53 = .ok (.iload_n 2, 1) := by decide +kernel
theorem dX9_split_54 : decode cX9_split 54 = .ok (.iconst 1, 1) := by decide +kernel
theorem dX9_split_55 : decode cX9_split 55 = .ok (.if_icmp .ne 17, 3) := by decide +kernel
theorem dX9_split_58 : decode cX9_split 58 = .ok (.iload 6, 2) := by decide +kernel
theorem dX9_split_60 : decode cX9_split 60 = .ok (.iload_n 1, 1) := by decide +kernel
theorem dX9_split_61 : decode cX9_split 61 = .ok (.if_icmp .ne 7, 3) := by decide +kernel
theorem dX9_split_64 : decode cX9_split 64 = .ok (.iconst 1, 1) := by decide +kernel
theorem dX9_split_65 : decode cX9_split 65 = .ok (.goto 39, 3) := by decide +kernel
theorem dX9_split_68 : decode cX9_split 68 = .ok (.iconst 0, 1) := by decide +kernel
theorem dX9_split_69 : decode cX9_split 69 = .ok (.goto 35, 3) := by decide +kernel
theorem dX9_split_72 : decode cX9_split 72 = .ok (.iload_n 1, 1) := by decide +kernel
theorem dX9_split_73 : decode cX9_split 73 = .ok (.iload 6, 2) := by decide +kernel
theorem dX9_split_75 : decode cX9_split 75 = .ok (.irem, 1) := by decide +kernel
theorem dX9_split_76 : decode cX9_split 76 = .ok (.ifCond .ne 27, 3) := by decide +kernel
theorem dX9_split_79 : decode cX9_split 79 = .ok (.iload_n 1, 1) := by decide +kernel
theorem dX9_split_80 : decode cX9_split 80 = .ok (.iload 6, 2) := by decide +kernel
theorem dX9_split_82 : decode cX9_split 82 = .ok (.idiv, 1) := by decide +kernel
theorem dX9_split_83 : decode cX9_split 83 = .ok (.iload 6, 2) := by decide +kernel
theorem dX9_split_85 : decode cX9_split 85 = .ok (.if_icmp .lt 18, 3) := by decide +kernel
theorem dX9_split_88 : decode cX9_split 88 = .ok (.aload_n 0, 1) := by decide +kernel
theorem dX9_split_89 : decode cX9_split 89 = .ok (.iload_n 1, 1) := by decide +kernel
theorem dX9_split_90 : decode cX9_split 90 = .ok (.iload 6, 2) := by decide +kernel
theorem dX9_split_92 : decode cX9_split 92 = .ok (.idiv, 1) := by decide +kernel
theorem dX9_split_93 : decode cX9_split 93 = .ok (.invokevirtual 81, 3) := by decide +kernel
theorem dX9_split_96 : decode cX9_split 96 = .ok (.ifCond .eq 7, 3) := by decide +kernel
theorem dX9_split_99 : decode cX9_split 99 = .ok (.iconst 1, 1) := by decide +kernel
theorem dX9_split_100 : decode cX9_split 100 = .ok (.goto 4, 3) := by decide +kernel
theorem dX9_split_103 : decode cX9_split 103 = .ok (.iconst 0, 1) := by decide +kernel
theorem dX9_split_104 : decode cX9_split 104 = .ok (.istore 7, 2) := by decide +kernel
theorem dX9_split_106 : decode cX9_split 106 = .ok (.iload 7, 2) := by decide +kernel
theorem dX9_split_108 : decode cX9_split 108 = .ok (.ifCond .ne 6, 3) := by decide +kernel
theorem dX9_split_111 : decode cX9_split 111 = .ok (.goto 33, 3) := by decide +kernel
theorem dX9_split_114 : decode cX9_split 114 = .ok (.iload 4, 2) := by decide +kernel
theorem dX9_split_116 : decode cX9_split 116 = .ok (.iload_n 3, 1) := by decide +kernel
theorem dX9_split_117 : decode cX9_split 117 = .ok (.if_icmp .ne 24, 3) := by decide +kernel
theorem dX9_split_120 : decode cX9_split 120 = .ok (.iload_n 2, 1) := by decide +kernel
theorem dX9_split_121 : decode cX9_split 121 = .ok (.iconst 1, 1) := by decide +kernel
theorem dX9_split_122 : decode cX9_split 122 = .ok (.if_icmp .ne 7, 3) := by decide +kernel
theorem dX9_split_125 : decode cX9_split 125 = .ok (.iload_n 1, 1) := by decide +kernel
theorem dX9_split_126 : decode cX9_split 126 = .ok (.goto 13, 3) := by decide +kernel
theorem dX9_split_129 : decode cX9_split 129 = .ok (.bipush 100, 2) := by decide +kernel
theorem dX9_split_131 : decode cX9_split 131 = .ok (.iload 6, 2) := by decide +kernel
theorem dX9_split_133 : decode cX9_split 133 = .ok (.imul, 1) := by decide +kernel
theorem dX9_split_134 : decode cX9_split 134 = .ok (.iload_n 1, 1) := by decide +kernel
theorem dX9_split_135 : decode cX9_split 135 = .ok (.iload 6, 2) := by decide +kernel
theorem dX9_split_137 : decode cX9_split 137 = .ok (.idiv, 1) := by decide +kernel
theorem dX9_split_138 : decode cX9_split 138 = .ok (.iadd, 1) := by decide +kernel
theorem dX9_split_139 : decode cX9_split 139 = .ok (.istore 5, 2) := by decide +kernel
theorem dX9_split_141 : decode cX9_split 141 = .ok (.iinc 4 1, 3) := by decide +kernel
theorem dX9_split_144 : decode cX9_split 144 = .ok (.iinc 6 1, 3) := by decide +kernel
theorem dX9_split_147 : decode cX9_split 147 = .ok (.goto (-105), 3) := by decide +kernel
theorem dX9_split_150 : decode cX9_split 150 = .ok (.iload_n 3, 1) := by decide +kernel
theorem dX9_split_151 : decode cX9_split 151 = .ok (.iconst (-1), 1) := by decide +kernel
theorem dX9_split_152 : decode cX9_split 152 = .ok (.if_icmp .ne 8, 3) := by decide +kernel
theorem dX9_split_155 : decode cX9_split 155 = .ok (.iload 4, 2) := by decide +kernel
theorem dX9_split_157 : decode cX9_split 157 = .ok (.goto 5, 3) := by decide +kernel
theorem dX9_split_160 : decode cX9_split 160 = .ok (.iload 5, 2) := by decide +kernel
theorem dX9_split_162 : decode cX9_split 162 = .ok (.ireturn, 1) := by decide +kernel
theorem dX9_prime_0 : decode cX9_prime 0 = .ok (.iload_n 1, 1) := by decide +kernel
theorem dX9_prime_1 : decode cX9_prime 1 = .ok (.i2l, 1) := by decide +kernel
theorem dX9_prime_2 : decode cX9_prime 2 = .ok (.lconst 1, 1) := by decide +kernel
theorem dX9_prime_3 : decode cX9_prime 3 = .ok (.ldc2_w 84, 3) := by decide +kernel
theorem dX9_prime_6 : decode cX9_prime 6 = .ok (.invokestatic 44, 3) := by decide +kernel
theorem dX9_prime_9 : decode cX9_prime 9 = .ok (.ifCond .ne 6, 3) := by decide +kernel
theorem dX9_prime_12 : decode cX9_prime 12 = .ok (.bipush (-2), 2) := by decide +kernel
theorem dX9_prime_14 : decode cX9_prime 14 = .ok (.ireturn, 1) := by decide +kernel
theorem dX9_prime_15 : decode cX9_prime 15 = .ok (.iload_n 1, 1) := by decide +kernel
theorem dX9_prime_16 : decode cX9_prime 16 = .ok (.istore_n 3, 1) := by decide +kernel
theorem dX9_prime_17 : decode cX9_prime 17 = .ok (.iconst 0, 1) := by decide +kernel
theorem dX9_prime_18 : decode cX9_prime 18 = .ok (.istore 4, 2) := by decide +kernel
theorem dX9_prime_20 : decode cX9_prime 20 = .ok (.iconst 2, 1) := by decide +kernel
theorem dX9_prime_21 : decode cX9_prime 21 = .ok (.istore 5, 2) := by decide +kernel
theorem dX9_prime_23 : decode cX9_prime 23 = .ok (.iload_n 3, 1) := by decide +kernel
theorem dX9_prime_24 : decode cX9_prime 24 = .ok (.iconst 1, 1) := by decide +kernel
theorem dX9_prime_25 : decode cX9_prime 25 = .ok (.if_icmp .le 36, 3) := by decide +kernel
theorem dX9_prime_28 : decode cX9_prime 28 = .ok (.iload_n 3, 1) := by decide +kernel
theorem dX9_prime_29 : decode cX9_prime 29 = .ok (.iload 5, 2) := by decide +kernel
theorem dX9_prime_31 : decode cX9_prime 31 = .ok (.irem, 1) := by decide +kernel
theorem dX9_prime_32 : decode cX9_prime 32 = .ok (.ifCond .eq 9, 3) := by decide +kernel
theorem dX9_prime_35 : decode cX9_prime 35 = .ok (.iinc 5 1, 3) := by decide +kernel
theorem dX9_prime_38 : decode cX9_prime 38 = .ok (.goto (-15), 3) := by decide +kernel
theorem dX9_prime_41 : decode cX9_prime 41 = .ok (.iload 4, 2) := by decide +kernel
theorem dX9_prime_43 : decode cX9_prime 43 = .ok (.iload_n 2, 1) := by decide +kernel
theorem dX9_prime_44 : decode cX9_prime 44 = .ok (.if_icmp .ne 6, 3) := by decide +kernel
theorem dX9_prime_47 : decode cX9_prime 47 = .ok (.iload 5, 2) := by decide +kernel
theorem dX9_prime_49 : decode cX9_prime 49 = .ok (.ireturn, 1) := by decide +kernel
theorem dX9_prime_50 : decode cX9_prime 50 = .ok (.iload_n 3, 1) := by decide +kernel
theorem dX9_prime_51 : decode cX9_prime 51 = .ok (.iload 5, 2) := by decide +kernel
theorem dX9_prime_53 : decode cX9_prime 53 = .ok (.idiv, 1) := by decide +kernel
theorem dX9_prime_54 : decode cX9_prime 54 = .ok (.istore_n 3, 1) := by decide +kernel
theorem dX9_prime_55 : decode cX9_prime 55 = .ok (.iinc 4 1, 3) := by decide +kernel
theorem dX9_prime_58 : decode cX9_prime 58 = .ok (.goto (-35), 3) := by decide +kernel
theorem dX9_prime_61 : decode cX9_prime 61 = .ok (.iload_n 2, 1) := by decide +kernel
theorem dX9_prime_62 : decode cX9_prime 62 = .ok (.iconst (-1), 1) := by decide +kernel
theorem dX9_prime_63 : decode cX9_prime 63 = .ok (.if_icmp .ne 8, 3) := by decide +kernel
theorem dX9_prime_66 : decode cX9_prime 66 = .ok (.iload 4, 2) := by decide +kernel
theorem dX9_prime_68 : decode cX9_prime 68 = .ok (.goto 5, 3) := by decide +kernel
theorem dX9_prime_71 : decode cX9_prime 71 = .ok (.bipush (-5), 2) := by decide +kernel
theorem dX9_prime_73 : decode cX9_prime 73 = .ok (.ireturn, 1) := by decide +kernel
theorem dX9_isPair_0 : decode cX9_isPair 0 = .ok (.iload_n 1, 1) := by decide +kernel
theorem dX9_isPair_1 : decode cX9_isPair 1 = .ok (.i2l, 1) := by decide +kernel
theorem dX9_isPair_2 : decode cX9_isPair 2 = .ok (.lconst 0, 1) := by decide +kernel
theorem dX9_isPair_3 : decode cX9_isPair 3 = .ok (.aload_n 0, 1) := by decide +kernel
theorem dX9_isPair_4 : decode cX9_isPair 4 = .ok (.getfield 11, 3) := by decide +kernel
theorem dX9_isPair_7 : decode cX9_isPair 7 = .ok (.iconst 3, 1) := by decide +kernel
theorem dX9_isPair_8 : decode cX9_isPair 8 = .ok (.iaload, 1) := by decide +kernel
theorem dX9_isPair_9 : decode cX9_isPair 9 = .ok (.iconst 1, 1) := by decide +kernel
theorem dX9_isPair_10 : decode cX9_isPair 10 = .ok (.isub, 1) := by decide +kernel
theorem dX9_isPair_11 : decode cX9_isPair 11 = .ok (.i2l, 1) := by decide +kernel
theorem dX9_isPair_12 : decode cX9_isPair 12 = .ok (.invokestatic 44, 3) := by decide +kernel
theorem dX9_isPair_15 : decode cX9_isPair 15 = .ok (.ireturn, 1) := by decide +kernel
theorem dX9_play_0 : decode cX9_play 0 = .ok (.aload_n 0, 1) := by decide +kernel
theorem dX9_play_1 : decode cX9_play 1 = .ok (.getfield 11, 3) := by decide +kernel
theorem dX9_play_4 : decode cX9_play 4 = .ok (.bipush 53, 2) := by decide +kernel
theorem dX9_play_6 : decode cX9_play 6 = .ok (.iload_n 1, 1) := by decide +kernel
theorem dX9_play_7 : decode cX9_play 7 = .ok (.iadd, 1) := by decide +kernel
theorem dX9_play_8 : decode cX9_play 8 = .ok (.iaload, 1) := by decide +kernel
theorem dX9_play_9 : decode cX9_play 9 = .ok (.istore_n 2, 1) := by decide +kernel
theorem dX9_play_10 : decode cX9_play 10 = .ok (.aload_n 0, 1) := by decide +kernel
theorem dX9_play_11 : decode cX9_play 11 = .ok (.getfield 11, 3) := by decide +kernel
theorem dX9_play_14 : decode cX9_play 14 = .ok (.bipush 43, 2) := by decide +kernel
theorem dX9_play_16 : decode cX9_play 16 = .ok (.iload_n 1, 1) := by decide +kernel
theorem dX9_play_17 : decode cX9_play 17 = .ok (.iadd, 1) := by decide +kernel
theorem dX9_play_18 : decode cX9_play 18 = .ok (.iaload, 1) := by decide +kernel
theorem dX9_play_19 : decode cX9_play 19 = .ok (.tableswitch 57 1 4 #[29, 33, 37, 43], 29) := by decide +kernel
theorem dX9_play_48 : decode cX9_play 48 = .ok (.iload_n 2, 1) := by decide +kernel
theorem dX9_play_49 : decode cX9_play 49 = .ok (.iconst 3, 1) := by decide +kernel
theorem dX9_play_50 : decode cX9_play 50 = .ok (.iadd, 1) := by decide +kernel
theorem dX9_play_51 : decode cX9_play 51 = .ok (.ireturn, 1) := by decide +kernel
theorem dX9_play_52 : decode cX9_play 52 = .ok (.iload_n 2, 1) := by decide +kernel
theorem dX9_play_53 : decode cX9_play 53 = .ok (.iconst 2, 1) := by decide +kernel
theorem dX9_play_54 : decode cX9_play 54 = .ok (.idiv, 1) := by decide +kernel
theorem dX9_play_55 : decode cX9_play 55 = .ok (.ireturn, 1) := by decide +kernel
theorem dX9_play_56 : decode cX9_play 56 = .ok (.iconst 2, 1) := by decide +kernel
theorem dX9_play_57 : decode cX9_play 57 = .ok (.iload_n 2, 1) := by decide +kernel
theorem dX9_play_58 : decode cX9_play 58 = .ok (.iconst 3, 1) := by decide +kernel
theorem dX9_play_59 : decode cX9_play 59 = .ok (.iadd, 1) := by decide +kernel
theorem dX9_play_60 : decode cX9_play 60 = .ok (.imul, 1) := by decide +kernel
theorem dX9_play_61 : decode cX9_play 61 = .ok (.ireturn, 1) := by decide +kernel
theorem dX9_play_62 : decode cX9_play 62 = .ok (.iload_n 2, 1) := by decide +kernel
theorem dX9_play_63 : decode cX9_play 63 = .ok (.iconst 2, 1) := by decide +kernel
theorem dX9_play_64 : decode cX9_play 64 = .ok (.irem, 1) := by decide +kernel
theorem dX9_play_65 : decode cX9_play 65 = .ok (.ifCond .ne 7, 3) := by decide +kernel
theorem dX9_play_68 : decode cX9_play 68 = .ok (.iconst 0, 1) := by decide +kernel
theorem dX9_play_69 : decode cX9_play 69 = .ok (.goto 6, 3) := by decide +kernel
theorem dX9_play_72 : decode cX9_play 72 = .ok (.iload_n 2, 1) := by decide +kernel
theorem dX9_play_73 : decode cX9_play 73 = .ok (.iconst 2, 1) := by decide +kernel
theorem dX9_play_74 : decode cX9_play 74 = .ok (.idiv, 1) := by decide +kernel
theorem dX9_play_75 : decode cX9_play 75 = .ok (.ireturn, 1) := by decide +kernel
theorem dX9_play_76 : decode cX9_play 76 = .ok (.iload_n 2, 1) := by decide +kernel
theorem dX9_play_77 : decode cX9_play 77 = .ok (.ireturn, 1) := by decide +kernel
theorem dX9_trainsOf_0 : decode cX9_trainsOf 0 = .ok (.iconst 0, 1) := by decide +kernel
theorem dX9_trainsOf_1 : decode cX9_trainsOf 1 = .ok (.istore_n 2, 1) := by decide +kernel
theorem dX9_trainsOf_2 : decode cX9_trainsOf 2 = .ok (.iconst 0, 1) := by decide +kernel
theorem dX9_trainsOf_3 : decode cX9_trainsOf 3 = .ok (.istore_n 3, 1) := by decide +kernel
theorem dX9_trainsOf_4 : decode cX9_trainsOf 4 = .ok (.iload_n 3, 1) := by decide +kernel
theorem dX9_trainsOf_5 : decode cX9_trainsOf 5 = .ok (.aload_n 0, 1) := by decide +kernel
theorem dX9_trainsOf_6 : decode cX9_trainsOf 6 = .ok (.getfield 11, 3) := by decide +kernel
theorem dX9_trainsOf_9 : decode cX9_trainsOf 9 = .ok (.iconst 0, 1) := by decide +kernel
theorem dX9_trainsOf_10 : decode cX9_trainsOf 10 = .ok (.iaload, 1) := by decide +kernel
theorem dX9_trainsOf_11 : decode cX9_trainsOf 11 = .ok (.if_icmp .ge 51, 3) := by decide +kernel
theorem dX9_trainsOf_14 : decode cX9_trainsOf 14 = .ok (.iconst 0, 1) := by decide +kernel
theorem dX9_trainsOf_15 : decode cX9_trainsOf 15 = .ok (.istore 4, 2) := by decide +kernel
theorem dX9_trainsOf_17 : decode cX9_trainsOf 17 = .ok (.iload 4, 2) := by decide +kernel
theorem dX9_trainsOf_19 : decode cX9_trainsOf 19 = .ok (.aload_n 0, 1) := by decide +kernel
theorem dX9_trainsOf_20 : decode cX9_trainsOf 20 = .ok (.getfield 11, 3) := by decide +kernel
theorem dX9_trainsOf_23 : decode cX9_trainsOf 23 = .ok (.bipush 19, 2) := by decide +kernel
theorem dX9_trainsOf_25 : decode cX9_trainsOf 25 = .ok (.iload_n 3, 1) := by decide +kernel
theorem dX9_trainsOf_26 : decode cX9_trainsOf 26 = .ok (.iadd, 1) := by decide +kernel
theorem dX9_trainsOf_27 : decode cX9_trainsOf 27 = .ok (.iaload, 1) := by decide +kernel
theorem dX9_trainsOf_28 : decode cX9_trainsOf 28 = .ok (.if_icmp .ge 28, 3) := by decide +kernel
theorem dX9_trainsOf_31 : decode cX9_trainsOf 31 = .ok (.iload_n 2, 1) := by decide +kernel
theorem dX9_trainsOf_32 : decode cX9_trainsOf 32 = .ok (.aload_n 0, 1) := by decide +kernel
theorem dX9_trainsOf_33 : decode cX9_trainsOf 33 = .ok (.iload_n 3, 1) := by decide +kernel
theorem dX9_trainsOf_34 : decode cX9_trainsOf 34 = .ok (.iload 4, 2) := by decide +kernel
theorem dX9_trainsOf_36 : decode cX9_trainsOf 36 = .ok (.invokevirtual 86, 3) := by decide +kernel
theorem dX9_trainsOf_39 : decode cX9_trainsOf 39 = .ok (.iload_n 1, 1) := by decide +kernel
theorem dX9_trainsOf_40 : decode cX9_trainsOf 40 = .ok (.if_icmp .ne 7, 3) := by decide +kernel
theorem dX9_trainsOf_43 : decode cX9_trainsOf 43 = .ok (.iconst 1, 1) := by decide +kernel
theorem dX9_trainsOf_44 : decode cX9_trainsOf 44 = .ok (.goto 4, 3) := by decide +kernel
theorem dX9_trainsOf_47 : decode cX9_trainsOf 47 = .ok (.iconst 0, 1) := by decide +kernel
theorem dX9_trainsOf_48 : decode cX9_trainsOf 48 = .ok (.iadd, 1) := by decide +kernel
theorem dX9_trainsOf_49 : decode cX9_trainsOf 49 = .ok (.istore_n 2, 1) := by decide +kernel
theorem dX9_trainsOf_50 : decode cX9_trainsOf 50 = .ok (.iinc 4 1, 3) := by decide +kernel
theorem dX9_trainsOf_53 : decode cX9_trainsOf 53 = .ok (.goto (-36), 3) := by decide +kernel
theorem dX9_trainsOf_56 : decode cX9_trainsOf 56 = .ok (.iinc 3 1, 3) := by decide +kernel
theorem dX9_trainsOf_59 : decode cX9_trainsOf 59 = .ok (.goto (-55), 3) := by decide +kernel
theorem dX9_trainsOf_62 : decode cX9_trainsOf 62 = .ok (.iload_n 2, 1) := by decide +kernel
theorem dX9_trainsOf_63 : decode cX9_trainsOf 63 = .ok (.ireturn, 1) := by decide +kernel
theorem dX9_feed_0 : decode cX9_feed 0 = .ok (.iload_n 1, 1) := by decide +kernel
theorem dX9_feed_1 : decode cX9_feed 1 = .ok (.i2l, 1) := by decide +kernel
theorem dX9_feed_2 : decode cX9_feed 2 = .ok (.lconst 1, 1) := by decide +kernel
theorem dX9_feed_3 : decode cX9_feed 3 = .ok (.ldc2_w 90, 3) := by decide +kernel
theorem dX9_feed_6 : decode cX9_feed 6 = .ok (.invokestatic 44, 3) := by decide +kernel
theorem dX9_feed_9 : decode cX9_feed 9 = .ok (.ifCond .ne 6, 3) := by decide +kernel
theorem dX9_feed_12 : decode cX9_feed 12 = .ok (.bipush (-2), 2) := by decide +kernel
theorem dX9_feed_14 : decode cX9_feed 14 = .ok (.ireturn, 1) := by decide +kernel
theorem dX9_feed_15 : decode cX9_feed 15 = .ok (.aload_n 0, 1) := by decide +kernel
theorem dX9_feed_16 : decode cX9_feed 16 = .ok (.getfield 92, 3) := by decide +kernel
theorem dX9_feed_19 : decode cX9_feed 19 = .ok (.bipush 60, 2) := by decide +kernel
theorem dX9_feed_21 : decode cX9_feed 21 = .ok (.if_icmp .ne 6, 3) := by decide +kernel
theorem dX9_feed_24 : decode cX9_feed 24 = .ok (.bipush (-4), 2) := by decide +kernel
theorem dX9_feed_26 : decode cX9_feed 26 = .ok (.ireturn, 1) := by decide +kernel
theorem dX9_feed_27 : decode cX9_feed 27 = .ok (.aload_n 0, 1) := by decide +kernel
theorem dX9_feed_28 : decode cX9_feed 28 = .ok (.getfield 21, 3) := by decide +kernel
theorem dX9_feed_31 : decode cX9_feed 31 = .ok (.aload_n 0, 1) := by decide +kernel
theorem dX9_feed_32 : decode cX9_feed 32 = .ok (.getfield 92, 3) := by decide +kernel
theorem dX9_feed_35 : decode cX9_feed 35 = .ok (.iload_n 1, 1) := by decide +kernel
theorem dX9_feed_36 : decode cX9_feed 36 = .ok (.iastore, 1) := by decide +kernel
theorem dX9_feed_37 : decode cX9_feed 37 = .ok (.aload_n 0, 1) := by decide +kernel
theorem dX9_feed_38 : decode cX9_feed 38 = .ok (.dup, 1) := by decide +kernel
theorem dX9_feed_39 : decode cX9_feed 39 = .ok (.getfield 92, 3) := by decide +kernel
theorem dX9_feed_42 : decode cX9_feed 42 = .ok (.iconst 1, 1) := by decide +kernel
theorem dX9_feed_43 : decode cX9_feed 43 = .ok (.iadd, 1) := by decide +kernel
theorem dX9_feed_44 : decode cX9_feed 44 = .ok (.putfield 92, 3) := by decide +kernel
theorem dX9_feed_47 : decode cX9_feed 47 = .ok (.aload_n 0, 1) := by decide +kernel
theorem dX9_feed_48 : decode cX9_feed 48 = .ok (.getfield 92, 3) := by decide +kernel
theorem dX9_feed_51 : decode cX9_feed 51 = .ok (.ireturn, 1) := by decide +kernel
theorem dX9_here_0 : decode cX9_here 0 = .ok (.aload_n 0, 1) := by decide +kernel
theorem dX9_here_1 : decode cX9_here 1 = .ok (.getfield 96, 3) := by decide +kernel
theorem dX9_here_4 : decode cX9_here 4 = .ok (.aload_n 0, 1) := by decide +kernel
theorem dX9_here_5 : decode cX9_here 5 = .ok (.getfield 92, 3) := by decide +kernel
theorem dX9_here_8 : decode cX9_here 8 = .ok (.if_icmp .ge 15, 3) := by decide +kernel
theorem dX9_here_11 : decode cX9_here 11 = .ok (.aload_n 0, 1) := by decide +kernel
theorem dX9_here_12 : decode cX9_here 12 = .ok (.getfield 21, 3) := by decide +kernel
theorem dX9_here_15 : decode cX9_here 15 = .ok (.aload_n 0, 1) := by decide +kernel
theorem dX9_here_16 : decode cX9_here 16 = .ok (.getfield 96, 3) := by decide +kernel
theorem dX9_here_19 : decode cX9_here 19 = .ok (.iaload, 1) := by decide +kernel
theorem dX9_here_20 : decode cX9_here 20 = .ok (.goto 4, 3) := by decide +kernel
theorem dX9_here_23 : decode cX9_here 23 = .ok (.iconst 0, 1) := by decide +kernel
theorem dX9_here_24 : decode cX9_here 24 = .ok (.ireturn, 1) := by decide +kernel
theorem dX9_fails_0 : decode cX9_fails 0 = .ok (.aload_n 0, 1) := by decide +kernel
theorem dX9_fails_1 : decode cX9_fails 1 = .ok (.getfield 99, 3) := by decide +kernel
theorem dX9_fails_4 : decode cX9_fails 4 = .ok (.iconst (-1), 1) := by decide +kernel
theorem dX9_fails_5 : decode cX9_fails 5 = .ok (.if_icmp .ne 11, 3) := by decide +kernel
theorem dX9_fails_8 : decode cX9_fails 8 = .ok (.aload_n 0, 1) := by decide +kernel
theorem dX9_fails_9 : decode cX9_fails 9 = .ok (.aload_n 0, 1) := by decide +kernel
theorem dX9_fails_10 : decode cX9_fails 10 = .ok (.getfield 96, 3) := by decide +kernel
theorem dX9_fails_13 : decode cX9_fails 13 = .ok (.putfield 99, 3) := by decide +kernel
theorem dX9_fails_16 : decode cX9_fails 16 = .ok (.return_, 1) := by decide +kernel
theorem dX9_figure_0 : decode cX9_figure 0 = .ok (.aload_n 0, 1) := by decide +kernel
theorem dX9_figure_1 : decode cX9_figure 1 = .ok (.invokevirtual 102, 3) := by decide +kernel
theorem dX9_figure_4 : decode cX9_figure 4 = .ok (.istore_n 2, 1) := by decide +kernel
theorem dX9_figure_5 : decode cX9_figure 5 = .ok (.aload_n 0, 1) := by decide +kernel
theorem dX9_figure_6 : decode cX9_figure 6 = .ok (.getfield 99, 3) := by decide +kernel
theorem dX9_figure_9 : decode cX9_figure 9 = .ok (.iconst (-1), 1) := by decide +kernel
theorem dX9_figure_10 : decode cX9_figure 10 = .ok (.if_icmp .ne 19, 3) := by decide +kernel
theorem dX9_figure_13 : decode cX9_figure 13 = .ok (.iload_n 2, 1) := by decide +kernel
theorem dX9_figure_14 : decode cX9_figure 14 = .ok (.i2l, 1) := by decide +kernel
theorem dX9_figure_15 : decode cX9_figure 15 = .ok (.bipush 48, 2) := by decide +kernel
theorem dX9_figure_17 : decode cX9_figure 17 = .ok (.iload_n 1, 1) := by decide +kernel
theorem dX9_figure_18 : decode cX9_figure 18 = .ok (.iadd, 1) := by decide +kernel
theorem dX9_figure_19 : decode cX9_figure 19 = .ok (.i2l, 1) := by decide +kernel
theorem dX9_figure_20 : decode cX9_figure 20 = .ok (.ldc2_w 106, 3) := by decide +kernel
theorem dX9_figure_23 : decode cX9_figure 23 = .ok (.invokestatic 44, 3) := by decide +kernel
theorem dX9_figure_26 : decode cX9_figure 26 = .ok (.ifCond .ne 9, 3) := by decide +kernel
theorem dX9_figure_29 : decode cX9_figure 29 = .ok (.aload_n 0, 1) := by decide +kernel
theorem dX9_figure_30 : decode cX9_figure 30 = .ok (.invokevirtual 108, 3) := by decide +kernel
theorem dX9_figure_33 : decode cX9_figure 33 = .ok (.iconst 0, 1) := by decide +kernel
theorem dX9_figure_34 : decode cX9_figure 34 = .ok (.ireturn, 1) := by decide +kernel
theorem dX9_figure_35 : decode cX9_figure 35 = .ok (.aload_n 0, 1) := by decide +kernel
theorem dX9_figure_36 : decode cX9_figure 36 = .ok (.dup, 1) := by decide +kernel
theorem dX9_figure_37 : decode cX9_figure 37 = .ok (.getfield 96, 3) := by decide +kernel
theorem dX9_figure_40 : decode cX9_figure 40 = .ok (.iconst 1, 1) := by decide +kernel
theorem dX9_figure_41 : decode cX9_figure 41 = .ok (.iadd, 1) := by decide +kernel
theorem dX9_figure_42 : decode cX9_figure 42 = .ok (.putfield 96, 3) := by decide +kernel
theorem dX9_figure_45 : decode cX9_figure 45 = .ok (.iload_n 2, 1) := by decide +kernel
theorem dX9_figure_46 : decode cX9_figure 46 = .ok (.bipush 48, 2) := by decide +kernel
theorem dX9_figure_48 : decode cX9_figure 48 = .ok (.isub, 1) := by decide +kernel
theorem dX9_figure_49 : decode cX9_figure 49 = .ok (.ireturn, 1) := by decide +kernel
theorem dX9_must_0 : decode cX9_must 0 = .ok (.aload_n 0, 1) := by decide +kernel
theorem dX9_must_1 : decode cX9_must 1 = .ok (.getfield 99, 3) := by decide +kernel
theorem dX9_must_4 : decode cX9_must 4 = .ok (.iconst (-1), 1) := by decide +kernel
theorem dX9_must_5 : decode cX9_must 5 = .ok (.if_icmp .ne 11, 3) := by decide +kernel
theorem dX9_must_8 : decode cX9_must 8 = .ok (.aload_n 0, 1) := by decide +kernel
theorem dX9_must_9 : decode cX9_must 9 = .ok (.invokevirtual 102, 3) := by decide +kernel
theorem dX9_must_12 : decode cX9_must 12 = .ok (.iload_n 1, 1) := by decide +kernel
theorem dX9_must_13 : decode cX9_must 13 = .ok (.if_icmp .eq 10, 3) := by decide +kernel
theorem dX9_must_16 : decode cX9_must 16 = .ok (.aload_n 0, 1) := by decide +kernel
theorem dX9_must_17 : decode cX9_must 17 = .ok (.invokevirtual 108, 3) := by decide +kernel
theorem dX9_must_20 : decode cX9_must 20 = .ok (.goto 13, 3) := by decide +kernel
theorem dX9_must_23 : decode cX9_must 23 = .ok (.aload_n 0, 1) := by decide +kernel
theorem dX9_must_24 : decode cX9_must 24 = .ok (.dup, 1) := by decide +kernel
theorem dX9_must_25 : decode cX9_must 25 = .ok (.getfield 96, 3) := by decide +kernel
theorem dX9_must_28 : decode cX9_must 28 = .ok (.iconst 1, 1) := by decide +kernel
theorem dX9_must_29 : decode cX9_must 29 = .ok (.iadd, 1) := by decide +kernel
theorem dX9_must_30 : decode cX9_must 30 = .ok (.putfield 96, 3) := by decide +kernel
theorem dX9_must_33 : decode cX9_must 33 = .ok (.return_, 1) := by decide +kernel
theorem dX9_kindHere_0 : decode cX9_kindHere 0 = .ok (.iconst 0, 1) := by decide +kernel
theorem dX9_kindHere_1 : decode cX9_kindHere 1 = .ok (.istore_n 1, 1) := by decide +kernel
theorem dX9_kindHere_2 : decode cX9_kindHere 2 = .ok (.iload_n 1, 1) := by decide +kernel
theorem dX9_kindHere_3 : decode cX9_kindHere 3 = .ok (.bipush 6, 2) := by decide +kernel
theorem dX9_kindHere_5 : decode cX9_kindHere 5 = .ok (.if_icmp .ge 45, 3) := by decide +kernel
theorem dX9_kindHere_8 : decode cX9_kindHere 8 = .ok (.aload_n 0, 1) := by decide +kernel
theorem dX9_kindHere_9 : decode cX9_kindHere 9 = .ok (.getfield 99, 3) := by decide +kernel
theorem dX9_kindHere_12 : decode cX9_kindHere 12 = .ok (.iconst (-1), 1) := by decide +kernel
theorem dX9_kindHere_13 : decode cX9_kindHere 13 = .ok (.if_icmp .ne 31, 3) := by decide +kernel
theorem dX9_kindHere_16 : decode cX9_kindHere 16 = .ok (.aload_n 0, 1) := by decide +kernel
theorem dX9_kindHere_17 : decode cX9_kindHere 17 = .ok (.invokevirtual 102, 3) := by decide +kernel
theorem dX9_kindHere_20 : decode cX9_kindHere 20 = .ok (.ldc 111, 2) := by decide +kernel
theorem dX9_kindHere_22 : decode cX9_kindHere 22 = .ok (.iload_n 1, 1) := by decide +kernel
theorem dX9_kindHere_23 : decode cX9_kindHere 23 = .ok (.invokevirtual 113, 3) := by decide +kernel
theorem dX9_kindHere_26 : decode cX9_kindHere 26 = .ok (.if_icmp .eq 6, 3) := by decide +kernel
theorem dX9_kindHere_29 : decode cX9_kindHere 29 = .ok (.goto 15, 3) := by decide +kernel
theorem dX9_kindHere_32 : decode cX9_kindHere 32 = .ok (.aload_n 0, 1) := by decide +kernel
theorem dX9_kindHere_33 : decode cX9_kindHere 33 = .ok (.dup, 1) := by decide +kernel
theorem dX9_kindHere_34 : decode cX9_kindHere 34 = .ok (.getfield 96, 3) := by decide +kernel
theorem dX9_kindHere_37 : decode cX9_kindHere 37 = .ok (.iconst 1, 1) := by decide +kernel
theorem dX9_kindHere_38 : decode cX9_kindHere 38 = .ok (.iadd, 1) := by decide +kernel
theorem dX9_kindHere_39 : decode cX9_kindHere 39 = .ok (.putfield 96, 3) := by decide +kernel
theorem dX9_kindHere_42 : decode cX9_kindHere 42 = .ok (.iload_n 1, 1) := by decide +kernel
theorem dX9_kindHere_43 : decode cX9_kindHere 43 = .ok (.ireturn, 1) := by decide +kernel
theorem dX9_kindHere_44 : decode cX9_kindHere 44 = .ok (.iinc 1 1, 3) := by decide +kernel
theorem dX9_kindHere_47 : decode cX9_kindHere 47 = .ok (.goto (-45), 3) := by decide +kernel
theorem dX9_kindHere_50 : decode cX9_kindHere 50 = .ok (.aload_n 0, 1) := by decide +kernel
theorem dX9_kindHere_51 : decode cX9_kindHere 51 = .ok (.invokevirtual 108, 3) := by decide +kernel
theorem dX9_kindHere_54 : decode cX9_kindHere 54 = .ok (.iconst 0, 1) := by decide +kernel
theorem dX9_kindHere_55 : decode cX9_kindHere 55 = .ok (.ireturn, 1) := by decide +kernel
theorem dX9_clauses_0 : decode cX9_clauses 0 = .ok (.iconst 0, 1) := by decide +kernel
theorem dX9_clauses_1 : decode cX9_clauses 1 = .ok (.istore_n 1, 1) := by decide +kernel
theorem dX9_clauses_2 : decode cX9_clauses 2 = .ok (.iconst 1, 1) := by decide +kernel
theorem dX9_clauses_3 : decode cX9_clauses 3 = .ok (.istore_n 2, 1) := by decide +kernel
theorem dX9_clauses_4 : decode cX9_clauses 4 = .ok (.iload_n 2, 1) := by decide +kernel
theorem dX9_clauses_5 : decode cX9_clauses 5 = .ok (.ifCond .eq 137, 3) := by decide +kernel
theorem dX9_clauses_8 : decode cX9_clauses 8 = .ok (.aload_n 0, 1) := by decide +kernel
theorem dX9_clauses_9 : decode cX9_clauses 9 = .ok (.getfield 37, 3) := by decide +kernel
theorem dX9_clauses_12 : decode cX9_clauses 12 = .ok (.iconst 4, 1) := by decide +kernel
theorem dX9_clauses_13 : decode cX9_clauses 13 = .ok (.iload_n 1, 1) := by decide +kernel
theorem dX9_clauses_14 : decode cX9_clauses 14 = .ok (.imul, 1) := by decide +kernel
theorem dX9_clauses_15 : decode cX9_clauses 15 = .ok (.aload_n 0, 1) := by decide +kernel
theorem dX9_clauses_16 : decode cX9_clauses 16 = .ok (.invokevirtual 119, 3) := by decide +kernel
theorem dX9_clauses_19 : decode cX9_clauses 19 = .ok (.iastore, 1) := by decide +kernel
theorem dX9_clauses_20 : decode cX9_clauses 20 = .ok (.aload_n 0, 1) := by decide +kernel
theorem dX9_clauses_21 : decode cX9_clauses 21 = .ok (.getfield 37, 3) := by decide +kernel
theorem dX9_clauses_24 : decode cX9_clauses 24 = .ok (.iconst 4, 1) := by decide +kernel
theorem dX9_clauses_25 : decode cX9_clauses 25 = .ok (.iload_n 1, 1) := by decide +kernel
theorem dX9_clauses_26 : decode cX9_clauses 26 = .ok (.imul, 1) := by decide +kernel
theorem dX9_clauses_27 : decode cX9_clauses 27 = .ok (.iconst 1, 1) := by decide +kernel
theorem dX9_clauses_28 : decode cX9_clauses 28 = .ok (.iadd, 1) := by decide +kernel
theorem dX9_clauses_29 : decode cX9_clauses 29 = .ok (.aload_n 0, 1) := by decide +kernel
theorem dX9_clauses_30 : decode cX9_clauses 30 = .ok (.iconst 0, 1) := by decide +kernel
theorem dX9_clauses_31 : decode cX9_clauses 31 = .ok (.invokevirtual 122, 3) := by decide +kernel
theorem dX9_clauses_34 : decode cX9_clauses 34 = .ok (.iastore, 1) := by decide +kernel
theorem dX9_clauses_35 : decode cX9_clauses 35 = .ok (.aload_n 0, 1) := by decide +kernel
theorem dX9_clauses_36 : decode cX9_clauses 36 = .ok (.bipush 32, 2) := by decide +kernel
theorem dX9_clauses_38 : decode cX9_clauses 38 = .ok (.invokevirtual 125, 3) := by decide +kernel
theorem dX9_clauses_41 : decode cX9_clauses 41 = .ok (.aload_n 0, 1) := by decide +kernel
theorem dX9_clauses_42 : decode cX9_clauses 42 = .ok (.getfield 37, 3) := by decide +kernel
theorem dX9_clauses_45 : decode cX9_clauses 45 = .ok (.iconst 4, 1) := by decide +kernel
theorem dX9_clauses_46 : decode cX9_clauses 46 = .ok (.iload_n 1, 1) := by decide +kernel
theorem dX9_clauses_47 : decode cX9_clauses 47 = .ok (.imul, 1) := by decide +kernel
theorem dX9_clauses_48 : decode cX9_clauses 48 = .ok (.iconst 2, 1) := by decide +kernel
theorem dX9_clauses_49 : decode cX9_clauses 49 = .ok (.iadd, 1) := by decide +kernel
theorem dX9_clauses_50 : decode cX9_clauses 50 = .ok (.bipush 10, 2) := by decide +kernel
theorem dX9_clauses_52 : decode cX9_clauses 52 = .ok (.aload_n 0, 1) := by decide +kernel
theorem dX9_clauses_53 : decode cX9_clauses 53 = .ok (.iconst 1, 1) := by decide +kernel
theorem dX9_clauses_54 : decode cX9_clauses 54 = .ok (.invokevirtual 122, 3) := by decide +kernel
theorem dX9_clauses_57 : decode cX9_clauses 57 = .ok (.imul, 1) := by decide +kernel
theorem dX9_clauses_58 : decode cX9_clauses 58 = .ok (.aload_n 0, 1) := by decide +kernel
theorem dX9_clauses_59 : decode cX9_clauses 59 = .ok (.iconst 0, 1) := by decide +kernel
theorem dX9_clauses_60 : decode cX9_clauses 60 = .ok (.invokevirtual 122, 3) := by decide +kernel
theorem dX9_clauses_63 : decode cX9_clauses 63 = .ok (.iadd, 1) := by decide +kernel
theorem dX9_clauses_64 : decode cX9_clauses 64 = .ok (.iastore, 1) := by decide +kernel
theorem dX9_clauses_65 : decode cX9_clauses 65 = .ok (.aload_n 0, 1) := by decide +kernel
theorem dX9_clauses_66 : decode cX9_clauses 66 = .ok (.bipush 47, 2) := by decide +kernel
theorem dX9_clauses_68 : decode cX9_clauses 68 = .ok (.invokevirtual 125, 3) := by decide +kernel
theorem dX9_clauses_71 : decode cX9_clauses 71 = .ok (.aload_n 0, 1) := by decide +kernel
theorem dX9_clauses_72 : decode cX9_clauses 72 = .ok (.getfield 37, 3) := by decide +kernel
theorem dX9_clauses_75 : decode cX9_clauses 75 = .ok (.iconst 4, 1) := by decide +kernel
theorem dX9_clauses_76 : decode cX9_clauses 76 = .ok (.iload_n 1, 1) := by decide +kernel
theorem dX9_clauses_77 : decode cX9_clauses 77 = .ok (.imul, 1) := by decide +kernel
theorem dX9_clauses_78 : decode cX9_clauses 78 = .ok (.iconst 3, 1) := by decide +kernel
theorem dX9_clauses_79 : decode cX9_clauses 79 = .ok (.iadd, 1) := by decide +kernel
theorem dX9_clauses_80 : decode cX9_clauses 80 = .ok (.bipush 10, 2) := by decide +kernel
theorem dX9_clauses_82 : decode cX9_clauses 82 = .ok (.aload_n 0, 1) := by decide +kernel
theorem dX9_clauses_83 : decode cX9_clauses 83 = .ok (.iconst 1, 1) := by decide +kernel
theorem dX9_clauses_84 : decode cX9_clauses 84 = .ok (.invokevirtual 122, 3) := by decide +kernel
theorem dX9_clauses_87 : decode cX9_clauses 87 = .ok (.imul, 1) := by decide +kernel
theorem dX9_clauses_88 : decode cX9_clauses 88 = .ok (.aload_n 0, 1) := by decide +kernel
theorem dX9_clauses_89 : decode cX9_clauses 89 = .ok (.iconst 0, 1) := by decide +kernel
theorem dX9_clauses_90 : decode cX9_clauses 90 = .ok (.invokevirtual 122, 3) := by decide +kernel
theorem dX9_clauses_93 : decode cX9_clauses 93 = .ok (.iadd, 1) := by decide +kernel
theorem dX9_clauses_94 : decode cX9_clauses 94 = .ok (.iastore, 1) := by decide +kernel
theorem dX9_clauses_95 : decode cX9_clauses 95 = .ok (.iinc 1 1, 3) := by decide +kernel
theorem dX9_clauses_98 : decode cX9_clauses 98 = .ok (.aload_n 0, 1) := by decide +kernel
theorem dX9_clauses_99 : decode cX9_clauses 99 = .ok (.getfield 99, 3) := by decide +kernel
theorem dX9_clauses_102 : decode cX9_clauses 102 = .ok (.iconst (-1), 1) := by decide +kernel
theorem dX9_clauses_103 : decode cX9_clauses 103 = .ok (.if_icmp .ne 16, 3) := by decide +kernel
theorem dX9_clauses_106 : decode cX9_clauses 106 = .ok (.aload_n 0, 1) := by decide +kernel
theorem dX9_clauses_107 : decode cX9_clauses 107 = .ok (.invokevirtual 102, 3) := by decide +kernel
theorem dX9_clauses_110 : decode cX9_clauses 110 = .ok (.bipush 59, 2) := by decide +kernel
theorem dX9_clauses_112 : decode cX9_clauses 112 = .ok (.if_icmp .ne 7, 3) := by decide +kernel
theorem dX9_clauses_115 : decode cX9_clauses 115 = .ok (.iconst 1, 1) := by decide +kernel
theorem dX9_clauses_116 : decode cX9_clauses 116 = .ok (.goto 4, 3) := by decide +kernel
theorem dX9_clauses_119 : decode cX9_clauses 119 = .ok (.iconst 0, 1) := by decide +kernel
theorem dX9_clauses_120 : decode cX9_clauses 120 = .ok (.istore_n 2, 1) := by decide +kernel
theorem dX9_clauses_121 : decode cX9_clauses 121 = .ok (.aload_n 0, 1) := by decide +kernel
theorem dX9_clauses_122 : decode cX9_clauses 122 = .ok (.dup, 1) := by decide +kernel
theorem dX9_clauses_123 : decode cX9_clauses 123 = .ok (.getfield 96, 3) := by decide +kernel
theorem dX9_clauses_126 : decode cX9_clauses 126 = .ok (.iload_n 2, 1) := by decide +kernel
theorem dX9_clauses_127 : decode cX9_clauses 127 = .ok (.ifCond .eq 7, 3) := by decide +kernel
theorem dX9_clauses_130 : decode cX9_clauses 130 = .ok (.iconst 1, 1) := by decide +kernel
theorem dX9_clauses_131 : decode cX9_clauses 131 = .ok (.goto 4, 3) := by decide +kernel
theorem dX9_clauses_134 : decode cX9_clauses 134 = .ok (.iconst 0, 1) := by decide +kernel
theorem dX9_clauses_135 : decode cX9_clauses 135 = .ok (.iadd, 1) := by decide +kernel
theorem dX9_clauses_136 : decode cX9_clauses 136 = .ok (.putfield 96, 3) := by decide +kernel
theorem dX9_clauses_139 : decode cX9_clauses 139 = .ok (.goto (-135), 3) := by decide +kernel
theorem dX9_clauses_142 : decode cX9_clauses 142 = .ok (.aload_n 0, 1) := by decide +kernel
theorem dX9_clauses_143 : decode cX9_clauses 143 = .ok (.getfield 96, 3) := by decide +kernel
theorem dX9_clauses_146 : decode cX9_clauses 146 = .ok (.aload_n 0, 1) := by decide +kernel
theorem dX9_clauses_147 : decode cX9_clauses 147 = .ok (.getfield 92, 3) := by decide +kernel
theorem dX9_clauses_150 : decode cX9_clauses 150 = .ok (.if_icmp .ge 7, 3) := by decide +kernel
theorem dX9_clauses_153 : decode cX9_clauses 153 = .ok (.aload_n 0, 1) := by decide +kernel
theorem dX9_clauses_154 : decode cX9_clauses 154 = .ok (.invokevirtual 108, 3) := by decide +kernel
theorem dX9_clauses_157 : decode cX9_clauses 157 = .ok (.iload_n 1, 1) := by decide +kernel
theorem dX9_clauses_158 : decode cX9_clauses 158 = .ok (.ireturn, 1) := by decide +kernel
theorem dX9_pairs_0 : decode cX9_pairs 0 = .ok (.aload_n 0, 1) := by decide +kernel
theorem dX9_pairs_1 : decode cX9_pairs 1 = .ok (.iconst 0, 1) := by decide +kernel
theorem dX9_pairs_2 : decode cX9_pairs 2 = .ok (.putfield 96, 3) := by decide +kernel
theorem dX9_pairs_5 : decode cX9_pairs 5 = .ok (.aload_n 0, 1) := by decide +kernel
theorem dX9_pairs_6 : decode cX9_pairs 6 = .ok (.iconst (-1), 1) := by decide +kernel
theorem dX9_pairs_7 : decode cX9_pairs 7 = .ok (.putfield 99, 3) := by decide +kernel
theorem dX9_pairs_10 : decode cX9_pairs 10 = .ok (.aload_n 0, 1) := by decide +kernel
theorem dX9_pairs_11 : decode cX9_pairs 11 = .ok (.invokevirtual 129, 3) := by decide +kernel
theorem dX9_pairs_14 : decode cX9_pairs 14 = .ok (.istore_n 1, 1) := by decide +kernel
theorem dX9_pairs_15 : decode cX9_pairs 15 = .ok (.aload_n 0, 1) := by decide +kernel
theorem dX9_pairs_16 : decode cX9_pairs 16 = .ok (.iconst 0, 1) := by decide +kernel
theorem dX9_pairs_17 : decode cX9_pairs 17 = .ok (.putfield 92, 3) := by decide +kernel
theorem dX9_pairs_20 : decode cX9_pairs 20 = .ok (.aload_n 0, 1) := by decide +kernel
theorem dX9_pairs_21 : decode cX9_pairs 21 = .ok (.getfield 99, 3) := by decide +kernel
theorem dX9_pairs_24 : decode cX9_pairs 24 = .ok (.iconst (-1), 1) := by decide +kernel
theorem dX9_pairs_25 : decode cX9_pairs 25 = .ok (.if_icmp .eq 11, 3) := by decide +kernel
theorem dX9_pairs_28 : decode cX9_pairs 28 = .ok (.bipush (-100), 2) := by decide +kernel
theorem dX9_pairs_30 : decode cX9_pairs 30 = .ok (.aload_n 0, 1) := by decide +kernel
theorem dX9_pairs_31 : decode cX9_pairs 31 = .ok (.getfield 99, 3) := by decide +kernel
theorem dX9_pairs_34 : decode cX9_pairs 34 = .ok (.isub, 1) := by decide +kernel
theorem dX9_pairs_35 : decode cX9_pairs 35 = .ok (.ireturn, 1) := by decide +kernel
theorem dX9_pairs_36 : decode cX9_pairs 36 = .ok (.aload_n 0, 1) := by decide +kernel
theorem dX9_pairs_37 : decode cX9_pairs 37 = .ok (.getfield 11, 3) := by decide +kernel
theorem dX9_pairs_40 : decode cX9_pairs 40 = .ok (.iconst 3, 1) := by decide +kernel
theorem dX9_pairs_41 : decode cX9_pairs 41 = .ok (.iaload, 1) := by decide +kernel
theorem dX9_pairs_42 : decode cX9_pairs 42 = .ok (.iload_n 1, 1) := by decide +kernel
theorem dX9_pairs_43 : decode cX9_pairs 43 = .ok (.iadd, 1) := by decide +kernel
theorem dX9_pairs_44 : decode cX9_pairs 44 = .ok (.bipush 10, 2) := by decide +kernel
theorem dX9_pairs_46 : decode cX9_pairs 46 = .ok (.if_icmp .le 6, 3) := by decide +kernel
theorem dX9_pairs_49 : decode cX9_pairs 49 = .ok (.bipush (-4), 2) := by decide +kernel
theorem dX9_pairs_51 : decode cX9_pairs 51 = .ok (.ireturn, 1) := by decide +kernel
theorem dX9_pairs_52 : decode cX9_pairs 52 = .ok (.iconst 0, 1) := by decide +kernel
theorem dX9_pairs_53 : decode cX9_pairs 53 = .ok (.istore_n 2, 1) := by decide +kernel
theorem dX9_pairs_54 : decode cX9_pairs 54 = .ok (.iload_n 2, 1) := by decide +kernel
theorem dX9_pairs_55 : decode cX9_pairs 55 = .ok (.iload_n 1, 1) := by decide +kernel
theorem dX9_pairs_56 : decode cX9_pairs 56 = .ok (.if_icmp .ge 100, 3) := by decide +kernel
theorem dX9_pairs_59 : decode cX9_pairs 59 = .ok (.aload_n 0, 1) := by decide +kernel
theorem dX9_pairs_60 : decode cX9_pairs 60 = .ok (.getfield 11, 3) := by decide +kernel
theorem dX9_pairs_63 : decode cX9_pairs 63 = .ok (.iconst 3, 1) := by decide +kernel
theorem dX9_pairs_64 : decode cX9_pairs 64 = .ok (.iaload, 1) := by decide +kernel
theorem dX9_pairs_65 : decode cX9_pairs 65 = .ok (.istore_n 3, 1) := by decide +kernel
theorem dX9_pairs_66 : decode cX9_pairs 66 = .ok (.aload_n 0, 1) := by decide +kernel
theorem dX9_pairs_67 : decode cX9_pairs 67 = .ok (.getfield 11, 3) := by decide +kernel
theorem dX9_pairs_70 : decode cX9_pairs 70 = .ok (.bipush 43, 2) := by decide +kernel
theorem dX9_pairs_72 : decode cX9_pairs 72 = .ok (.iload_n 3, 1) := by decide +kernel
theorem dX9_pairs_73 : decode cX9_pairs 73 = .ok (.iadd, 1) := by decide +kernel
theorem dX9_pairs_74 : decode cX9_pairs 74 = .ok (.aload_n 0, 1) := by decide +kernel
theorem dX9_pairs_75 : decode cX9_pairs 75 = .ok (.getfield 37, 3) := by decide +kernel
theorem dX9_pairs_78 : decode cX9_pairs 78 = .ok (.iconst 4, 1) := by decide +kernel
theorem dX9_pairs_79 : decode cX9_pairs 79 = .ok (.iload_n 2, 1) := by decide +kernel
theorem dX9_pairs_80 : decode cX9_pairs 80 = .ok (.imul, 1) := by decide +kernel
theorem dX9_pairs_81 : decode cX9_pairs 81 = .ok (.iaload, 1) := by decide +kernel
theorem dX9_pairs_82 : decode cX9_pairs 82 = .ok (.iastore, 1) := by decide +kernel
theorem dX9_pairs_83 : decode cX9_pairs 83 = .ok (.aload_n 0, 1) := by decide +kernel
theorem dX9_pairs_84 : decode cX9_pairs 84 = .ok (.getfield 11, 3) := by decide +kernel
theorem dX9_pairs_87 : decode cX9_pairs 87 = .ok (.bipush 53, 2) := by decide +kernel
theorem dX9_pairs_89 : decode cX9_pairs 89 = .ok (.iload_n 3, 1) := by decide +kernel
theorem dX9_pairs_90 : decode cX9_pairs 90 = .ok (.iadd, 1) := by decide +kernel
theorem dX9_pairs_91 : decode cX9_pairs 91 = .ok (.aload_n 0, 1) := by decide +kernel
theorem dX9_pairs_92 : decode cX9_pairs 92 = .ok (.getfield 37, 3) := by decide +kernel
theorem dX9_pairs_95 : decode cX9_pairs 95 = .ok (.iconst 4, 1) := by decide +kernel
theorem dX9_pairs_96 : decode cX9_pairs 96 = .ok (.iload_n 2, 1) := by decide +kernel
theorem dX9_pairs_97 : decode cX9_pairs 97 = .ok (.imul, 1) := by decide +kernel
theorem dX9_pairs_98 : decode cX9_pairs 98 = .ok (.iconst 1, 1) := by decide +kernel
theorem dX9_pairs_99 : decode cX9_pairs 99 = .ok (.iadd, 1) := by decide +kernel
theorem dX9_pairs_100 : decode cX9_pairs 100 = .ok (.iaload, 1) := by decide +kernel
theorem dX9_pairs_101 : decode cX9_pairs 101 = .ok (.iastore, 1) := by decide +kernel
theorem dX9_pairs_102 : decode cX9_pairs 102 = .ok (.aload_n 0, 1) := by decide +kernel
theorem dX9_pairs_103 : decode cX9_pairs 103 = .ok (.getfield 11, 3) := by decide +kernel
theorem dX9_pairs_106 : decode cX9_pairs 106 = .ok (.bipush 63, 2) := by decide +kernel
theorem dX9_pairs_108 : decode cX9_pairs 108 = .ok (.iload_n 3, 1) := by decide +kernel
theorem dX9_pairs_109 : decode cX9_pairs 109 = .ok (.iadd, 1) := by decide +kernel
theorem dX9_pairs_110 : decode cX9_pairs 110 = .ok (.aload_n 0, 1) := by decide +kernel
theorem dX9_pairs_111 : decode cX9_pairs 111 = .ok (.getfield 37, 3) := by decide +kernel
theorem dX9_pairs_114 : decode cX9_pairs 114 = .ok (.iconst 4, 1) := by decide +kernel
theorem dX9_pairs_115 : decode cX9_pairs 115 = .ok (.iload_n 2, 1) := by decide +kernel
theorem dX9_pairs_116 : decode cX9_pairs 116 = .ok (.imul, 1) := by decide +kernel
theorem dX9_pairs_117 : decode cX9_pairs 117 = .ok (.iconst 2, 1) := by decide +kernel
theorem dX9_pairs_118 : decode cX9_pairs 118 = .ok (.iadd, 1) := by decide +kernel
theorem dX9_pairs_119 : decode cX9_pairs 119 = .ok (.iaload, 1) := by decide +kernel
theorem dX9_pairs_120 : decode cX9_pairs 120 = .ok (.iastore, 1) := by decide +kernel
theorem dX9_pairs_121 : decode cX9_pairs 121 = .ok (.aload_n 0, 1) := by decide +kernel
theorem dX9_pairs_122 : decode cX9_pairs 122 = .ok (.getfield 11, 3) := by decide +kernel
theorem dX9_pairs_125 : decode cX9_pairs 125 = .ok (.bipush 73, 2) := by decide +kernel
theorem dX9_pairs_127 : decode cX9_pairs 127 = .ok (.iload_n 3, 1) := by decide +kernel
theorem dX9_pairs_128 : decode cX9_pairs 128 = .ok (.iadd, 1) := by decide +kernel
theorem dX9_pairs_129 : decode cX9_pairs 129 = .ok (.aload_n 0, 1) := by decide +kernel
theorem dX9_pairs_130 : decode cX9_pairs 130 = .ok (.getfield 37, 3) := by decide +kernel
theorem dX9_pairs_133 : decode cX9_pairs 133 = .ok (.iconst 4, 1) := by decide +kernel
theorem dX9_pairs_134 : decode cX9_pairs 134 = .ok (.iload_n 2, 1) := by decide +kernel
theorem dX9_pairs_135 : decode cX9_pairs 135 = .ok (.imul, 1) := by decide +kernel
theorem dX9_pairs_136 : decode cX9_pairs 136 = .ok (.iconst 3, 1) := by decide +kernel
theorem dX9_pairs_137 : decode cX9_pairs 137 = .ok (.iadd, 1) := by decide +kernel
theorem dX9_pairs_138 : decode cX9_pairs 138 = .ok (.iaload, 1) := by decide +kernel
theorem dX9_pairs_139 : decode cX9_pairs 139 = .ok (.iastore, 1) := by decide +kernel
theorem dX9_pairs_140 : decode cX9_pairs 140 = .ok (.aload_n 0, 1) := by decide +kernel
theorem dX9_pairs_141 : decode cX9_pairs 141 = .ok (.getfield 11, 3) := by decide +kernel
theorem dX9_pairs_144 : decode cX9_pairs 144 = .ok (.iconst 3, 1) := by decide +kernel
theorem dX9_pairs_145 : decode cX9_pairs 145 = .ok (.dup2, 1) := by decide +kernel
theorem dX9_pairs_146 : decode cX9_pairs 146 = .ok (.iaload, 1) := by decide +kernel
theorem dX9_pairs_147 : decode cX9_pairs 147 = .ok (.iconst 1, 1) := by decide +kernel
theorem dX9_pairs_148 : decode cX9_pairs 148 = .ok (.iadd, 1) := by decide +kernel
theorem dX9_pairs_149 : decode cX9_pairs 149 = .ok (.iastore, 1) := by decide +kernel
theorem dX9_pairs_150 : decode cX9_pairs 150 = .ok (.iinc 2 1, 3) := by decide +kernel
theorem dX9_pairs_153 : decode cX9_pairs 153 = .ok (.goto (-99), 3) := by decide +kernel
theorem dX9_pairs_156 : decode cX9_pairs 156 = .ok (.aload_n 0, 1) := by decide +kernel
theorem dX9_pairs_157 : decode cX9_pairs 157 = .ok (.getfield 11, 3) := by decide +kernel
theorem dX9_pairs_160 : decode cX9_pairs 160 = .ok (.iconst 3, 1) := by decide +kernel
theorem dX9_pairs_161 : decode cX9_pairs 161 = .ok (.iaload, 1) := by decide +kernel
theorem dX9_pairs_162 : decode cX9_pairs 162 = .ok (.ireturn, 1) := by decide +kernel
theorem dX9_becomes_0 : decode cX9_becomes 0 = .ok (.aload_n 0, 1) := by decide +kernel
theorem dX9_becomes_1 : decode cX9_becomes 1 = .ok (.iload_n 1, 1) := by decide +kernel
theorem dX9_becomes_2 : decode cX9_becomes 2 = .ok (.invokevirtual 132, 3) := by decide +kernel
theorem dX9_becomes_5 : decode cX9_becomes 5 = .ok (.ifCond .eq 15, 3) := by decide +kernel
theorem dX9_becomes_8 : decode cX9_becomes 8 = .ok (.iload_n 2, 1) := by decide +kernel
theorem dX9_becomes_9 : decode cX9_becomes 9 = .ok (.i2l, 1) := by decide +kernel
theorem dX9_becomes_10 : decode cX9_becomes 10 = .ok (.lconst 0, 1) := by decide +kernel
theorem dX9_becomes_11 : decode cX9_becomes 11 = .ok (.ldc2_w 135, 3) := by decide +kernel
theorem dX9_becomes_14 : decode cX9_becomes 14 = .ok (.invokestatic 44, 3) := by decide +kernel
theorem dX9_becomes_17 : decode cX9_becomes 17 = .ok (.ifCond .ne 5, 3) := by decide +kernel
theorem dX9_becomes_20 : decode cX9_becomes 20 = .ok (.iconst (-1), 1) := by decide +kernel
theorem dX9_becomes_21 : decode cX9_becomes 21 = .ok (.ireturn, 1) := by decide +kernel
theorem dX9_becomes_22 : decode cX9_becomes 22 = .ok (.iload_n 3, 1) := by decide +kernel
theorem dX9_becomes_23 : decode cX9_becomes 23 = .ok (.i2l, 1) := by decide +kernel
theorem dX9_becomes_24 : decode cX9_becomes 24 = .ok (.lconst 0, 1) := by decide +kernel
theorem dX9_becomes_25 : decode cX9_becomes 25 = .ok (.ldc2_w 137, 3) := by decide +kernel
theorem dX9_becomes_28 : decode cX9_becomes 28 = .ok (.invokestatic 44, 3) := by decide +kernel
theorem dX9_becomes_31 : decode cX9_becomes 31 = .ok (.ifCond .ne 6, 3) := by decide +kernel
theorem dX9_becomes_34 : decode cX9_becomes 34 = .ok (.bipush (-2), 2) := by decide +kernel
theorem dX9_becomes_36 : decode cX9_becomes 36 = .ok (.ireturn, 1) := by decide +kernel
theorem dX9_becomes_37 : decode cX9_becomes 37 = .ok (.bipush 10, 2) := by decide +kernel
theorem dX9_becomes_39 : decode cX9_becomes 39 = .ok (.aload_n 0, 1) := by decide +kernel
theorem dX9_becomes_40 : decode cX9_becomes 40 = .ok (.getfield 11, 3) := by decide +kernel
theorem dX9_becomes_43 : decode cX9_becomes 43 = .ok (.bipush 43, 2) := by decide +kernel
theorem dX9_becomes_45 : decode cX9_becomes 45 = .ok (.iload_n 1, 1) := by decide +kernel
theorem dX9_becomes_46 : decode cX9_becomes 46 = .ok (.iadd, 1) := by decide +kernel
theorem dX9_becomes_47 : decode cX9_becomes 47 = .ok (.iaload, 1) := by decide +kernel
theorem dX9_becomes_48 : decode cX9_becomes 48 = .ok (.imul, 1) := by decide +kernel
theorem dX9_becomes_49 : decode cX9_becomes 49 = .ok (.aload_n 0, 1) := by decide +kernel
theorem dX9_becomes_50 : decode cX9_becomes 50 = .ok (.getfield 11, 3) := by decide +kernel
theorem dX9_becomes_53 : decode cX9_becomes 53 = .ok (.bipush 53, 2) := by decide +kernel
theorem dX9_becomes_55 : decode cX9_becomes 55 = .ok (.iload_n 1, 1) := by decide +kernel
theorem dX9_becomes_56 : decode cX9_becomes 56 = .ok (.iadd, 1) := by decide +kernel
theorem dX9_becomes_57 : decode cX9_becomes 57 = .ok (.iaload, 1) := by decide +kernel
theorem dX9_becomes_58 : decode cX9_becomes 58 = .ok (.iadd, 1) := by decide +kernel
theorem dX9_becomes_59 : decode cX9_becomes 59 = .ok (.istore 4, 2) := by decide +kernel
theorem dX9_becomes_61 : decode cX9_becomes 61 = .ok (.aload_n 0, 1) := by decide +kernel
theorem dX9_becomes_62 : decode cX9_becomes 62 = .ok (.getfield 11, 3) := by decide +kernel
theorem dX9_becomes_65 : decode cX9_becomes 65 = .ok (.bipush 43, 2) := by decide +kernel
theorem dX9_becomes_67 : decode cX9_becomes 67 = .ok (.iload_n 1, 1) := by decide +kernel
theorem dX9_becomes_68 : decode cX9_becomes 68 = .ok (.iadd, 1) := by decide +kernel
theorem dX9_becomes_69 : decode cX9_becomes 69 = .ok (.iload_n 2, 1) := by decide +kernel
theorem dX9_becomes_70 : decode cX9_becomes 70 = .ok (.iastore, 1) := by decide +kernel
theorem dX9_becomes_71 : decode cX9_becomes 71 = .ok (.aload_n 0, 1) := by decide +kernel
theorem dX9_becomes_72 : decode cX9_becomes 72 = .ok (.getfield 11, 3) := by decide +kernel
theorem dX9_becomes_75 : decode cX9_becomes 75 = .ok (.bipush 53, 2) := by decide +kernel
theorem dX9_becomes_77 : decode cX9_becomes 77 = .ok (.iload_n 1, 1) := by decide +kernel
theorem dX9_becomes_78 : decode cX9_becomes 78 = .ok (.iadd, 1) := by decide +kernel
theorem dX9_becomes_79 : decode cX9_becomes 79 = .ok (.iload_n 3, 1) := by decide +kernel
theorem dX9_becomes_80 : decode cX9_becomes 80 = .ok (.iastore, 1) := by decide +kernel
theorem dX9_becomes_81 : decode cX9_becomes 81 = .ok (.iload 4, 2) := by decide +kernel
theorem dX9_becomes_83 : decode cX9_becomes 83 = .ok (.ireturn, 1) := by decide +kernel
theorem dX9_teeth_0 : decode cX9_teeth 0 = .ok (.aload_n 0, 1) := by decide +kernel
theorem dX9_teeth_1 : decode cX9_teeth 1 = .ok (.iload_n 1, 1) := by decide +kernel
theorem dX9_teeth_2 : decode cX9_teeth 2 = .ok (.invokevirtual 132, 3) := by decide +kernel
theorem dX9_teeth_5 : decode cX9_teeth 5 = .ok (.ifCond .eq 13, 3) := by decide +kernel
theorem dX9_teeth_8 : decode cX9_teeth 8 = .ok (.iload_n 2, 1) := by decide +kernel
theorem dX9_teeth_9 : decode cX9_teeth 9 = .ok (.i2l, 1) := by decide +kernel
theorem dX9_teeth_10 : decode cX9_teeth 10 = .ok (.lconst 0, 1) := by decide +kernel
theorem dX9_teeth_11 : decode cX9_teeth 11 = .ok (.lconst 1, 1) := by decide +kernel
theorem dX9_teeth_12 : decode cX9_teeth 12 = .ok (.invokestatic 44, 3) := by decide +kernel
theorem dX9_teeth_15 : decode cX9_teeth 15 = .ok (.ifCond .ne 5, 3) := by decide +kernel
theorem dX9_teeth_18 : decode cX9_teeth 18 = .ok (.iconst (-1), 1) := by decide +kernel
theorem dX9_teeth_19 : decode cX9_teeth 19 = .ok (.ireturn, 1) := by decide +kernel
theorem dX9_teeth_20 : decode cX9_teeth 20 = .ok (.iload_n 3, 1) := by decide +kernel
theorem dX9_teeth_21 : decode cX9_teeth 21 = .ok (.i2l, 1) := by decide +kernel
theorem dX9_teeth_22 : decode cX9_teeth 22 = .ok (.ldc2_w 77, 3) := by decide +kernel
theorem dX9_teeth_25 : decode cX9_teeth 25 = .ok (.ldc2_w 75, 3) := by decide +kernel
theorem dX9_teeth_28 : decode cX9_teeth 28 = .ok (.invokestatic 44, 3) := by decide +kernel
theorem dX9_teeth_31 : decode cX9_teeth 31 = .ok (.ifCond .ne 6, 3) := by decide +kernel
theorem dX9_teeth_34 : decode cX9_teeth 34 = .ok (.bipush (-2), 2) := by decide +kernel
theorem dX9_teeth_36 : decode cX9_teeth 36 = .ok (.ireturn, 1) := by decide +kernel
theorem dX9_teeth_37 : decode cX9_teeth 37 = .ok (.iload_n 2, 1) := by decide +kernel
theorem dX9_teeth_38 : decode cX9_teeth 38 = .ok (.ifCond .ne 10, 3) := by decide +kernel
theorem dX9_teeth_41 : decode cX9_teeth 41 = .ok (.bipush 63, 2) := by decide +kernel
theorem dX9_teeth_43 : decode cX9_teeth 43 = .ok (.iload_n 1, 1) := by decide +kernel
theorem dX9_teeth_44 : decode cX9_teeth 44 = .ok (.iadd, 1) := by decide +kernel
theorem dX9_teeth_45 : decode cX9_teeth 45 = .ok (.goto 7, 3) := by decide +kernel
theorem dX9_teeth_48 : decode cX9_teeth 48 = .ok (.bipush 73, 2) := by decide +kernel
theorem dX9_teeth_50 : decode cX9_teeth 50 = .ok (.iload_n 1, 1) := by decide +kernel
theorem dX9_teeth_51 : decode cX9_teeth 51 = .ok (.iadd, 1) := by decide +kernel
theorem dX9_teeth_52 : decode cX9_teeth 52 = .ok (.istore 4, 2) := by decide +kernel
theorem dX9_teeth_54 : decode cX9_teeth 54 = .ok (.aload_n 0, 1) := by decide +kernel
theorem dX9_teeth_55 : decode cX9_teeth 55 = .ok (.getfield 11, 3) := by decide +kernel
theorem dX9_teeth_58 : decode cX9_teeth 58 = .ok (.iload 4, 2) := by decide +kernel
theorem dX9_teeth_60 : decode cX9_teeth 60 = .ok (.iaload, 1) := by decide +kernel
theorem dX9_teeth_61 : decode cX9_teeth 61 = .ok (.istore 5, 2) := by decide +kernel
theorem dX9_teeth_63 : decode cX9_teeth 63 = .ok (.aload_n 0, 1) := by decide +kernel
theorem dX9_teeth_64 : decode cX9_teeth 64 = .ok (.getfield 11, 3) := by decide +kernel
theorem dX9_teeth_67 : decode cX9_teeth 67 = .ok (.iload 4, 2) := by decide +kernel
theorem dX9_teeth_69 : decode cX9_teeth 69 = .ok (.iload_n 3, 1) := by decide +kernel
theorem dX9_teeth_70 : decode cX9_teeth 70 = .ok (.iastore, 1) := by decide +kernel
theorem dX9_teeth_71 : decode cX9_teeth 71 = .ok (.iload 5, 2) := by decide +kernel
theorem dX9_teeth_73 : decode cX9_teeth 73 = .ok (.ireturn, 1) := by decide +kernel
theorem dX9_pair_0 : decode cX9_pair 0 = .ok (.aload_n 0, 1) := by decide +kernel
theorem dX9_pair_1 : decode cX9_pair 1 = .ok (.iload_n 1, 1) := by decide +kernel
theorem dX9_pair_2 : decode cX9_pair 2 = .ok (.invokevirtual 132, 3) := by decide +kernel
theorem dX9_pair_5 : decode cX9_pair 5 = .ok (.ifCond .ne 5, 3) := by decide +kernel
theorem dX9_pair_8 : decode cX9_pair 8 = .ok (.iconst (-1), 1) := by decide +kernel
theorem dX9_pair_9 : decode cX9_pair 9 = .ok (.ireturn, 1) := by decide +kernel
theorem dX9_pair_10 : decode cX9_pair 10 = .ok (.iload_n 2, 1) := by decide +kernel
theorem dX9_pair_11 : decode cX9_pair 11 = .ok (.tableswitch 112 0 6 #[41, 51, 61, 71, 81, 87, 106], 41) := by decide +kernel
theorem dX9_pair_52 : decode cX9_pair 52 = .ok (.aload_n 0, 1) := by decide +kernel
theorem dX9_pair_53 : decode cX9_pair 53 = .ok (.getfield 11, 3) := by decide +kernel
theorem dX9_pair_56 : decode cX9_pair 56 = .ok (.bipush 43, 2) := by decide +kernel
theorem dX9_pair_58 : decode cX9_pair 58 = .ok (.iload_n 1, 1) := by decide +kernel
theorem dX9_pair_59 : decode cX9_pair 59 = .ok (.iadd, 1) := by decide +kernel
theorem dX9_pair_60 : decode cX9_pair 60 = .ok (.iaload, 1) := by decide +kernel
theorem dX9_pair_61 : decode cX9_pair 61 = .ok (.ireturn, 1) := by decide +kernel
theorem dX9_pair_62 : decode cX9_pair 62 = .ok (.aload_n 0, 1) := by decide +kernel
theorem dX9_pair_63 : decode cX9_pair 63 = .ok (.getfield 11, 3) := by decide +kernel
theorem dX9_pair_66 : decode cX9_pair 66 = .ok (.bipush 53, 2) := by decide +kernel
theorem dX9_pair_68 : decode cX9_pair 68 = .ok (.iload_n 1, 1) := by decide +kernel
theorem dX9_pair_69 : decode cX9_pair 69 = .ok (.iadd, 1) := by decide +kernel
theorem dX9_pair_70 : decode cX9_pair 70 = .ok (.iaload, 1) := by decide +kernel
theorem dX9_pair_71 : decode cX9_pair 71 = .ok (.ireturn, 1) := by decide +kernel
theorem dX9_pair_72 : decode cX9_pair 72 = .ok (.aload_n 0, 1) := by decide +kernel
theorem dX9_pair_73 : decode cX9_pair 73 = .ok (.getfield 11, 3) := by decide +kernel
theorem dX9_pair_76 : decode cX9_pair 76 = .ok (.bipush 63, 2) := by decide +kernel
theorem dX9_pair_78 : decode cX9_pair 78 = .ok (.iload_n 1, 1) := by decide +kernel
theorem dX9_pair_79 : decode cX9_pair 79 = .ok (.iadd, 1) := by decide +kernel
theorem dX9_pair_80 : decode cX9_pair 80 = .ok (.iaload, 1) := by decide +kernel
theorem dX9_pair_81 : decode cX9_pair 81 = .ok (.ireturn, 1) := by decide +kernel
theorem dX9_pair_82 : decode cX9_pair 82 = .ok (.aload_n 0, 1) := by decide +kernel
theorem dX9_pair_83 : decode cX9_pair 83 = .ok (.getfield 11, 3) := by decide +kernel
theorem dX9_pair_86 : decode cX9_pair 86 = .ok (.bipush 73, 2) := by decide +kernel
theorem dX9_pair_88 : decode cX9_pair 88 = .ok (.iload_n 1, 1) := by decide +kernel
theorem dX9_pair_89 : decode cX9_pair 89 = .ok (.iadd, 1) := by decide +kernel
theorem dX9_pair_90 : decode cX9_pair 90 = .ok (.iaload, 1) := by decide +kernel
theorem dX9_pair_91 : decode cX9_pair 91 = .ok (.ireturn, 1) := by decide +kernel
theorem dX9_pair_92 : decode cX9_pair 92 = .ok (.aload_n 0, 1) := by decide +kernel
theorem dX9_pair_93 : decode cX9_pair 93 = .ok (.iload_n 1, 1) := by decide +kernel
theorem dX9_pair_94 : decode cX9_pair 94 = .ok (.invokevirtual 139, 3) := by decide +kernel
theorem dX9_pair_97 : decode cX9_pair 97 = .ok (.ireturn, 1) := by decide +kernel
theorem dX9_pair_98 : decode cX9_pair 98 = .ok (.aload_n 0, 1) := by decide +kernel
theorem dX9_pair_99 : decode cX9_pair 99 = .ok (.getfield 11, 3) := by decide +kernel
theorem dX9_pair_102 : decode cX9_pair 102 = .ok (.bipush 43, 2) := by decide +kernel
theorem dX9_pair_104 : decode cX9_pair 104 = .ok (.iload_n 1, 1) := by decide +kernel
theorem dX9_pair_105 : decode cX9_pair 105 = .ok (.iadd, 1) := by decide +kernel
theorem dX9_pair_106 : decode cX9_pair 106 = .ok (.iaload, 1) := by decide +kernel
theorem dX9_pair_107 : decode cX9_pair 107 = .ok (.iconst 5, 1) := by decide +kernel
theorem dX9_pair_108 : decode cX9_pair 108 = .ok (.if_icmp .ne 7, 3) := by decide +kernel
theorem dX9_pair_111 : decode cX9_pair 111 = .ok (.iconst 0, 1) := by decide +kernel
theorem dX9_pair_112 : decode cX9_pair 112 = .ok (.goto 4, 3) := by decide +kernel
theorem dX9_pair_115 : decode cX9_pair 115 = .ok (.iconst 1, 1) := by decide +kernel
theorem dX9_pair_116 : decode cX9_pair 116 = .ok (.ireturn, 1) := by decide +kernel
theorem dX9_pair_117 : decode cX9_pair 117 = .ok (.aload_n 0, 1) := by decide +kernel
theorem dX9_pair_118 : decode cX9_pair 118 = .ok (.iload_n 1, 1) := by decide +kernel
theorem dX9_pair_119 : decode cX9_pair 119 = .ok (.invokevirtual 142, 3) := by decide +kernel
theorem dX9_pair_122 : decode cX9_pair 122 = .ok (.ireturn, 1) := by decide +kernel
theorem dX9_pair_123 : decode cX9_pair 123 = .ok (.iconst (-1), 1) := by decide +kernel
theorem dX9_pair_124 : decode cX9_pair 124 = .ok (.ireturn, 1) := by decide +kernel
theorem dX9_pairAt_0 : decode cX9_pairAt 0 = .ok (.aload_n 0, 1) := by decide +kernel
theorem dX9_pairAt_1 : decode cX9_pairAt 1 = .ok (.getfield 11, 3) := by decide +kernel
theorem dX9_pairAt_4 : decode cX9_pairAt 4 = .ok (.bipush 25, 2) := by decide +kernel
theorem dX9_pairAt_6 : decode cX9_pairAt 6 = .ok (.iconst 3, 1) := by decide +kernel
theorem dX9_pairAt_7 : decode cX9_pairAt 7 = .ok (.iload_n 1, 1) := by decide +kernel
theorem dX9_pairAt_8 : decode cX9_pairAt 8 = .ok (.imul, 1) := by decide +kernel
theorem dX9_pairAt_9 : decode cX9_pairAt 9 = .ok (.iadd, 1) := by decide +kernel
theorem dX9_pairAt_10 : decode cX9_pairAt 10 = .ok (.iload_n 2, 1) := by decide +kernel
theorem dX9_pairAt_11 : decode cX9_pairAt 11 = .ok (.iadd, 1) := by decide +kernel
theorem dX9_pairAt_12 : decode cX9_pairAt 12 = .ok (.iaload, 1) := by decide +kernel
theorem dX9_pairAt_13 : decode cX9_pairAt 13 = .ok (.ireturn, 1) := by decide +kernel
theorem dX9_hasTrain_0 : decode cX9_hasTrain 0 = .ok (.aload_n 0, 1) := by decide +kernel
theorem dX9_hasTrain_1 : decode cX9_hasTrain 1 = .ok (.iload_n 1, 1) := by decide +kernel
theorem dX9_hasTrain_2 : decode cX9_hasTrain 2 = .ok (.invokevirtual 62, 3) := by decide +kernel
theorem dX9_hasTrain_5 : decode cX9_hasTrain 5 = .ok (.ifCond .eq 19, 3) := by decide +kernel
theorem dX9_hasTrain_8 : decode cX9_hasTrain 8 = .ok (.aload_n 0, 1) := by decide +kernel
theorem dX9_hasTrain_9 : decode cX9_hasTrain 9 = .ok (.getfield 11, 3) := by decide +kernel
theorem dX9_hasTrain_12 : decode cX9_hasTrain 12 = .ok (.bipush 19, 2) := by decide +kernel
theorem dX9_hasTrain_14 : decode cX9_hasTrain 14 = .ok (.iload_n 1, 1) := by decide +kernel
theorem dX9_hasTrain_15 : decode cX9_hasTrain 15 = .ok (.iadd, 1) := by decide +kernel
theorem dX9_hasTrain_16 : decode cX9_hasTrain 16 = .ok (.iaload, 1) := by decide +kernel
theorem dX9_hasTrain_17 : decode cX9_hasTrain 17 = .ok (.ifCond .le 7, 3) := by decide +kernel
theorem dX9_hasTrain_20 : decode cX9_hasTrain 20 = .ok (.iconst 1, 1) := by decide +kernel
theorem dX9_hasTrain_21 : decode cX9_hasTrain 21 = .ok (.goto 4, 3) := by decide +kernel
theorem dX9_hasTrain_24 : decode cX9_hasTrain 24 = .ok (.iconst 0, 1) := by decide +kernel
theorem dX9_hasTrain_25 : decode cX9_hasTrain 25 = .ok (.ireturn, 1) := by decide +kernel
theorem dX9_train_0 : decode cX9_train 0 = .ok (.aload_n 0, 1) := by decide +kernel
theorem dX9_train_1 : decode cX9_train 1 = .ok (.iload_n 1, 1) := by decide +kernel
theorem dX9_train_2 : decode cX9_train 2 = .ok (.invokevirtual 62, 3) := by decide +kernel
theorem dX9_train_5 : decode cX9_train 5 = .ok (.ifCond .ne 5, 3) := by decide +kernel
theorem dX9_train_8 : decode cX9_train 8 = .ok (.iconst (-1), 1) := by decide +kernel
theorem dX9_train_9 : decode cX9_train 9 = .ok (.ireturn, 1) := by decide +kernel
theorem dX9_train_10 : decode cX9_train 10 = .ok (.iconst 0, 1) := by decide +kernel
theorem dX9_train_11 : decode cX9_train 11 = .ok (.istore_n 2, 1) := by decide +kernel
theorem dX9_train_12 : decode cX9_train 12 = .ok (.aload_n 0, 1) := by decide +kernel
theorem dX9_train_13 : decode cX9_train 13 = .ok (.getfield 92, 3) := by decide +kernel
theorem dX9_train_16 : decode cX9_train 16 = .ok (.ifCond .ne 7, 3) := by decide +kernel
theorem dX9_train_19 : decode cX9_train 19 = .ok (.iconst 0, 1) := by decide +kernel
theorem dX9_train_20 : decode cX9_train 20 = .ok (.goto 4, 3) := by decide +kernel
theorem dX9_train_23 : decode cX9_train 23 = .ok (.iconst (-1), 1) := by decide +kernel
theorem dX9_train_24 : decode cX9_train 24 = .ok (.istore_n 3, 1) := by decide +kernel
theorem dX9_train_25 : decode cX9_train 25 = .ok (.iconst 0, 1) := by decide +kernel
theorem dX9_train_26 : decode cX9_train 26 = .ok (.istore 4, 2) := by decide +kernel
theorem dX9_train_28 : decode cX9_train 28 = .ok (.iload 4, 2) := by decide +kernel
theorem dX9_train_30 : decode cX9_train 30 = .ok (.aload_n 0, 1) := by decide +kernel
theorem dX9_train_31 : decode cX9_train 31 = .ok (.getfield 92, 3) := by decide +kernel
theorem dX9_train_34 : decode cX9_train 34 = .ok (.if_icmp .ge 64, 3) := by decide +kernel
theorem dX9_train_37 : decode cX9_train 37 = .ok (.iload_n 3, 1) := by decide +kernel
theorem dX9_train_38 : decode cX9_train 38 = .ok (.iconst (-1), 1) := by decide +kernel
theorem dX9_train_39 : decode cX9_train 39 = .ok (.if_icmp .ne 59, 3) := by decide +kernel
theorem dX9_train_42 : decode cX9_train 42 = .ok (.aload_n 0, 1) := by decide +kernel
theorem dX9_train_43 : decode cX9_train 43 = .ok (.getfield 21, 3) := by decide +kernel
theorem dX9_train_46 : decode cX9_train 46 = .ok (.iload 4, 2) := by decide +kernel
theorem dX9_train_48 : decode cX9_train 48 = .ok (.iaload, 1) := by decide +kernel
theorem dX9_train_49 : decode cX9_train 49 = .ok (.bipush 97, 2) := by decide +kernel
theorem dX9_train_51 : decode cX9_train 51 = .ok (.isub, 1) := by decide +kernel
theorem dX9_train_52 : decode cX9_train 52 = .ok (.istore 5, 2) := by decide +kernel
theorem dX9_train_54 : decode cX9_train 54 = .ok (.aload_n 0, 1) := by decide +kernel
theorem dX9_train_55 : decode cX9_train 55 = .ok (.iload 5, 2) := by decide +kernel
theorem dX9_train_57 : decode cX9_train 57 = .ok (.invokevirtual 132, 3) := by decide +kernel
theorem dX9_train_60 : decode cX9_train 60 = .ok (.ifCond .eq 19, 3) := by decide +kernel
theorem dX9_train_63 : decode cX9_train 63 = .ok (.iload 4, 2) := by decide +kernel
theorem dX9_train_65 : decode cX9_train 65 = .ok (.iconst 3, 1) := by decide +kernel
theorem dX9_train_66 : decode cX9_train 66 = .ok (.if_icmp .eq 13, 3) := by decide +kernel
theorem dX9_train_69 : decode cX9_train 69 = .ok (.iload_n 2, 1) := by decide +kernel
theorem dX9_train_70 : decode cX9_train 70 = .ok (.iload 5, 2) := by decide +kernel
theorem dX9_train_72 : decode cX9_train 72 = .ok (.ishr, 1) := by decide +kernel
theorem dX9_train_73 : decode cX9_train 73 = .ok (.iconst 1, 1) := by decide +kernel
theorem dX9_train_74 : decode cX9_train 74 = .ok (.iand, 1) := by decide +kernel
theorem dX9_train_75 : decode cX9_train 75 = .ok (.iconst 1, 1) := by decide +kernel
theorem dX9_train_76 : decode cX9_train 76 = .ok (.if_icmp .ne 9, 3) := by decide +kernel
theorem dX9_train_79 : decode cX9_train 79 = .ok (.iload 4, 2) := by decide +kernel
theorem dX9_train_81 : decode cX9_train 81 = .ok (.istore_n 3, 1) := by decide +kernel
theorem dX9_train_82 : decode cX9_train 82 = .ok (.goto 10, 3) := by decide +kernel
theorem dX9_train_85 : decode cX9_train 85 = .ok (.iload_n 2, 1) := by decide +kernel
theorem dX9_train_86 : decode cX9_train 86 = .ok (.iconst 1, 1) := by decide +kernel
theorem dX9_train_87 : decode cX9_train 87 = .ok (.iload 5, 2) := by decide +kernel
theorem dX9_train_89 : decode cX9_train 89 = .ok (.ishl, 1) := by decide +kernel
theorem dX9_train_90 : decode cX9_train 90 = .ok (.ior, 1) := by decide +kernel
theorem dX9_train_91 : decode cX9_train 91 = .ok (.istore_n 2, 1) := by decide +kernel
theorem dX9_train_92 : decode cX9_train 92 = .ok (.iinc 4 1, 3) := by decide +kernel
theorem dX9_train_95 : decode cX9_train 95 = .ok (.goto (-67), 3) := by decide +kernel
theorem dX9_train_98 : decode cX9_train 98 = .ok (.aload_n 0, 1) := by decide +kernel
theorem dX9_train_99 : decode cX9_train 99 = .ok (.getfield 92, 3) := by decide +kernel
theorem dX9_train_102 : decode cX9_train 102 = .ok (.istore 4, 2) := by decide +kernel
theorem dX9_train_104 : decode cX9_train 104 = .ok (.aload_n 0, 1) := by decide +kernel
theorem dX9_train_105 : decode cX9_train 105 = .ok (.iconst 0, 1) := by decide +kernel
theorem dX9_train_106 : decode cX9_train 106 = .ok (.putfield 92, 3) := by decide +kernel
theorem dX9_train_109 : decode cX9_train 109 = .ok (.iload_n 3, 1) := by decide +kernel
theorem dX9_train_110 : decode cX9_train 110 = .ok (.iconst (-1), 1) := by decide +kernel
theorem dX9_train_111 : decode cX9_train 111 = .ok (.if_icmp .eq 8, 3) := by decide +kernel
theorem dX9_train_114 : decode cX9_train 114 = .ok (.bipush (-100), 2) := by decide +kernel
theorem dX9_train_116 : decode cX9_train 116 = .ok (.iload_n 3, 1) := by decide +kernel
theorem dX9_train_117 : decode cX9_train 117 = .ok (.isub, 1) := by decide +kernel
theorem dX9_train_118 : decode cX9_train 118 = .ok (.ireturn, 1) := by decide +kernel
theorem dX9_train_119 : decode cX9_train 119 = .ok (.iconst 0, 1) := by decide +kernel
theorem dX9_train_120 : decode cX9_train 120 = .ok (.istore 5, 2) := by decide +kernel
theorem dX9_train_122 : decode cX9_train 122 = .ok (.iload 5, 2) := by decide +kernel
theorem dX9_train_124 : decode cX9_train 124 = .ok (.iload 4, 2) := by decide +kernel
theorem dX9_train_126 : decode cX9_train 126 = .ok (.if_icmp .ge 33, 3) := by decide +kernel
theorem dX9_train_129 : decode cX9_train 129 = .ok (.aload_n 0, 1) := by decide +kernel
theorem dX9_train_130 : decode cX9_train 130 = .ok (.getfield 11, 3) := by decide +kernel
theorem dX9_train_133 : decode cX9_train 133 = .ok (.bipush 25, 2) := by decide +kernel
theorem dX9_train_135 : decode cX9_train 135 = .ok (.iconst 3, 1) := by decide +kernel
theorem dX9_train_136 : decode cX9_train 136 = .ok (.iload_n 1, 1) := by decide +kernel
theorem dX9_train_137 : decode cX9_train 137 = .ok (.imul, 1) := by decide +kernel
theorem dX9_train_138 : decode cX9_train 138 = .ok (.iadd, 1) := by decide +kernel
theorem dX9_train_139 : decode cX9_train 139 = .ok (.iload 5, 2) := by decide +kernel
theorem dX9_train_141 : decode cX9_train 141 = .ok (.iadd, 1) := by decide +kernel
theorem dX9_train_142 : decode cX9_train 142 = .ok (.aload_n 0, 1) := by decide +kernel
theorem dX9_train_143 : decode cX9_train 143 = .ok (.getfield 21, 3) := by decide +kernel
theorem dX9_train_146 : decode cX9_train 146 = .ok (.iload 5, 2) := by decide +kernel
theorem dX9_train_148 : decode cX9_train 148 = .ok (.iaload, 1) := by decide +kernel
theorem dX9_train_149 : decode cX9_train 149 = .ok (.bipush 97, 2) := by decide +kernel
theorem dX9_train_151 : decode cX9_train 151 = .ok (.isub, 1) := by decide +kernel
theorem dX9_train_152 : decode cX9_train 152 = .ok (.iastore, 1) := by decide +kernel
theorem dX9_train_153 : decode cX9_train 153 = .ok (.iinc 5 1, 3) := by decide +kernel
theorem dX9_train_156 : decode cX9_train 156 = .ok (.goto (-34), 3) := by decide +kernel
theorem dX9_train_159 : decode cX9_train 159 = .ok (.aload_n 0, 1) := by decide +kernel
theorem dX9_train_160 : decode cX9_train 160 = .ok (.getfield 11, 3) := by decide +kernel
theorem dX9_train_163 : decode cX9_train 163 = .ok (.bipush 19, 2) := by decide +kernel
theorem dX9_train_165 : decode cX9_train 165 = .ok (.iload_n 1, 1) := by decide +kernel
theorem dX9_train_166 : decode cX9_train 166 = .ok (.iadd, 1) := by decide +kernel
theorem dX9_train_167 : decode cX9_train 167 = .ok (.iload 4, 2) := by decide +kernel
theorem dX9_train_169 : decode cX9_train 169 = .ok (.iastore, 1) := by decide +kernel
theorem dX9_train_170 : decode cX9_train 170 = .ok (.iload 4, 2) := by decide +kernel
theorem dX9_train_172 : decode cX9_train 172 = .ok (.ireturn, 1) := by decide +kernel
theorem dX9_drop_0 : decode cX9_drop 0 = .ok (.aload_n 0, 1) := by decide +kernel
theorem dX9_drop_1 : decode cX9_drop 1 = .ok (.iload_n 1, 1) := by decide +kernel
theorem dX9_drop_2 : decode cX9_drop 2 = .ok (.invokevirtual 62, 3) := by decide +kernel
theorem dX9_drop_5 : decode cX9_drop 5 = .ok (.ifCond .ne 5, 3) := by decide +kernel
theorem dX9_drop_8 : decode cX9_drop 8 = .ok (.iconst (-1), 1) := by decide +kernel
theorem dX9_drop_9 : decode cX9_drop 9 = .ok (.ireturn, 1) := by decide +kernel
theorem dX9_drop_10 : decode cX9_drop 10 = .ok (.aload_n 0, 1) := by decide +kernel
theorem dX9_drop_11 : decode cX9_drop 11 = .ok (.getfield 11, 3) := by decide +kernel
theorem dX9_drop_14 : decode cX9_drop 14 = .ok (.bipush 19, 2) := by decide +kernel
theorem dX9_drop_16 : decode cX9_drop 16 = .ok (.iload_n 1, 1) := by decide +kernel
theorem dX9_drop_17 : decode cX9_drop 17 = .ok (.iadd, 1) := by decide +kernel
theorem dX9_drop_18 : decode cX9_drop 18 = .ok (.iaload, 1) := by decide +kernel
theorem dX9_drop_19 : decode cX9_drop 19 = .ok (.istore_n 2, 1) := by decide +kernel
theorem dX9_drop_20 : decode cX9_drop 20 = .ok (.iload_n 2, 1) := by decide +kernel
theorem dX9_drop_21 : decode cX9_drop 21 = .ok (.ifCond .ne 6, 3) := by decide +kernel
theorem dX9_drop_24 : decode cX9_drop 24 = .ok (.bipush (-3), 2) := by decide +kernel
theorem dX9_drop_26 : decode cX9_drop 26 = .ok (.ireturn, 1) := by decide +kernel
theorem dX9_drop_27 : decode cX9_drop 27 = .ok (.aload_n 0, 1) := by decide +kernel
theorem dX9_drop_28 : decode cX9_drop 28 = .ok (.getfield 11, 3) := by decide +kernel
theorem dX9_drop_31 : decode cX9_drop 31 = .ok (.bipush 19, 2) := by decide +kernel
theorem dX9_drop_33 : decode cX9_drop 33 = .ok (.iload_n 1, 1) := by decide +kernel
theorem dX9_drop_34 : decode cX9_drop 34 = .ok (.iadd, 1) := by decide +kernel
theorem dX9_drop_35 : decode cX9_drop 35 = .ok (.iconst 0, 1) := by decide +kernel
theorem dX9_drop_36 : decode cX9_drop 36 = .ok (.iastore, 1) := by decide +kernel
theorem dX9_drop_37 : decode cX9_drop 37 = .ok (.iload_n 2, 1) := by decide +kernel
theorem dX9_drop_38 : decode cX9_drop 38 = .ok (.ireturn, 1) := by decide +kernel
theorem dX9_isRound_0 : decode cX9_isRound 0 = .ok (.iconst 0, 1) := by decide +kernel
theorem dX9_isRound_1 : decode cX9_isRound 1 = .ok (.istore_n 2, 1) := by decide +kernel
theorem dX9_isRound_2 : decode cX9_isRound 2 = .ok (.iconst 0, 1) := by decide +kernel
theorem dX9_isRound_3 : decode cX9_isRound 3 = .ok (.istore_n 3, 1) := by decide +kernel
theorem dX9_isRound_4 : decode cX9_isRound 4 = .ok (.iload_n 3, 1) := by decide +kernel
theorem dX9_isRound_5 : decode cX9_isRound 5 = .ok (.aload_n 0, 1) := by decide +kernel
theorem dX9_isRound_6 : decode cX9_isRound 6 = .ok (.getfield 11, 3) := by decide +kernel
theorem dX9_isRound_9 : decode cX9_isRound 9 = .ok (.bipush 19, 2) := by decide +kernel
theorem dX9_isRound_11 : decode cX9_isRound 11 = .ok (.iload_n 1, 1) := by decide +kernel
theorem dX9_isRound_12 : decode cX9_isRound 12 = .ok (.iadd, 1) := by decide +kernel
theorem dX9_isRound_13 : decode cX9_isRound 13 = .ok (.iaload, 1) := by decide +kernel
theorem dX9_isRound_14 : decode cX9_isRound 14 = .ok (.if_icmp .ge 35, 3) := by decide +kernel
theorem dX9_isRound_17 : decode cX9_isRound 17 = .ok (.iload_n 2, 1) := by decide +kernel
theorem dX9_isRound_18 : decode cX9_isRound 18 = .ok (.aload_n 0, 1) := by decide +kernel
theorem dX9_isRound_19 : decode cX9_isRound 19 = .ok (.getfield 11, 3) := by decide +kernel
theorem dX9_isRound_22 : decode cX9_isRound 22 = .ok (.bipush 43, 2) := by decide +kernel
theorem dX9_isRound_24 : decode cX9_isRound 24 = .ok (.aload_n 0, 1) := by decide +kernel
theorem dX9_isRound_25 : decode cX9_isRound 25 = .ok (.iload_n 1, 1) := by decide +kernel
theorem dX9_isRound_26 : decode cX9_isRound 26 = .ok (.iload_n 3, 1) := by decide +kernel
theorem dX9_isRound_27 : decode cX9_isRound 27 = .ok (.invokevirtual 86, 3) := by decide +kernel
theorem dX9_isRound_30 : decode cX9_isRound 30 = .ok (.iadd, 1) := by decide +kernel
theorem dX9_isRound_31 : decode cX9_isRound 31 = .ok (.iaload, 1) := by decide +kernel
theorem dX9_isRound_32 : decode cX9_isRound 32 = .ok (.iconst 5, 1) := by decide +kernel
theorem dX9_isRound_33 : decode cX9_isRound 33 = .ok (.if_icmp .ne 7, 3) := by decide +kernel
theorem dX9_isRound_36 : decode cX9_isRound 36 = .ok (.iconst 0, 1) := by decide +kernel
theorem dX9_isRound_37 : decode cX9_isRound 37 = .ok (.goto 4, 3) := by decide +kernel
theorem dX9_isRound_40 : decode cX9_isRound 40 = .ok (.iconst 1, 1) := by decide +kernel
theorem dX9_isRound_41 : decode cX9_isRound 41 = .ok (.iadd, 1) := by decide +kernel
theorem dX9_isRound_42 : decode cX9_isRound 42 = .ok (.istore_n 2, 1) := by decide +kernel
theorem dX9_isRound_43 : decode cX9_isRound 43 = .ok (.iinc 3 1, 3) := by decide +kernel
theorem dX9_isRound_46 : decode cX9_isRound 46 = .ok (.goto (-42), 3) := by decide +kernel
theorem dX9_isRound_49 : decode cX9_isRound 49 = .ok (.iload_n 2, 1) := by decide +kernel
theorem dX9_isRound_50 : decode cX9_isRound 50 = .ok (.iconst 2, 1) := by decide +kernel
theorem dX9_isRound_51 : decode cX9_isRound 51 = .ok (.irem, 1) := by decide +kernel
theorem dX9_isRound_52 : decode cX9_isRound 52 = .ok (.iconst 1, 1) := by decide +kernel
theorem dX9_isRound_53 : decode cX9_isRound 53 = .ok (.if_icmp .ne 7, 3) := by decide +kernel
theorem dX9_isRound_56 : decode cX9_isRound 56 = .ok (.iconst 1, 1) := by decide +kernel
theorem dX9_isRound_57 : decode cX9_isRound 57 = .ok (.goto 4, 3) := by decide +kernel
theorem dX9_isRound_60 : decode cX9_isRound 60 = .ok (.iconst 0, 1) := by decide +kernel
theorem dX9_isRound_61 : decode cX9_isRound 61 = .ok (.ireturn, 1) := by decide +kernel
theorem dX9_of_0 : decode cX9_of 0 = .ok (.aload_n 0, 1) := by decide +kernel
theorem dX9_of_1 : decode cX9_of 1 = .ok (.iload_n 1, 1) := by decide +kernel
theorem dX9_of_2 : decode cX9_of 2 = .ok (.invokevirtual 62, 3) := by decide +kernel
theorem dX9_of_5 : decode cX9_of 5 = .ok (.ifCond .eq 27, 3) := by decide +kernel
theorem dX9_of_8 : decode cX9_of 8 = .ok (.iload_n 2, 1) := by decide +kernel
theorem dX9_of_9 : decode cX9_of 9 = .ok (.i2l, 1) := by decide +kernel
theorem dX9_of_10 : decode cX9_of 10 = .ok (.lconst 0, 1) := by decide +kernel
theorem dX9_of_11 : decode cX9_of 11 = .ok (.lconst 1, 1) := by decide +kernel
theorem dX9_of_12 : decode cX9_of 12 = .ok (.invokestatic 44, 3) := by decide +kernel
theorem dX9_of_15 : decode cX9_of 15 = .ok (.ifCond .ne 19, 3) := by decide +kernel
theorem dX9_of_18 : decode cX9_of 18 = .ok (.iload_n 2, 1) := by decide +kernel
theorem dX9_of_19 : decode cX9_of 19 = .ok (.i2l, 1) := by decide +kernel
theorem dX9_of_20 : decode cX9_of 20 = .ok (.ldc2_w 77, 3) := by decide +kernel
theorem dX9_of_23 : decode cX9_of 23 = .ok (.ldc2_w 145, 3) := by decide +kernel
theorem dX9_of_26 : decode cX9_of 26 = .ok (.invokestatic 44, 3) := by decide +kernel
theorem dX9_of_29 : decode cX9_of 29 = .ok (.ifCond .ne 5, 3) := by decide +kernel
theorem dX9_of_32 : decode cX9_of 32 = .ok (.iconst (-1), 1) := by decide +kernel
theorem dX9_of_33 : decode cX9_of 33 = .ok (.ireturn, 1) := by decide +kernel
theorem dX9_of_34 : decode cX9_of 34 = .ok (.iload_n 2, 1) := by decide +kernel
theorem dX9_of_35 : decode cX9_of 35 = .ok (.iconst 2, 1) := by decide +kernel
theorem dX9_of_36 : decode cX9_of 36 = .ok (.if_icmp .ge 33, 3) := by decide +kernel
theorem dX9_of_39 : decode cX9_of 39 = .ok (.iload_n 2, 1) := by decide +kernel
theorem dX9_of_40 : decode cX9_of 40 = .ok (.ifCond .ne 15, 3) := by decide +kernel
theorem dX9_of_43 : decode cX9_of 43 = .ok (.aload_n 0, 1) := by decide +kernel
theorem dX9_of_44 : decode cX9_of 44 = .ok (.getfield 11, 3) := by decide +kernel
theorem dX9_of_47 : decode cX9_of 47 = .ok (.bipush 19, 2) := by decide +kernel
theorem dX9_of_49 : decode cX9_of 49 = .ok (.iload_n 1, 1) := by decide +kernel
theorem dX9_of_50 : decode cX9_of 50 = .ok (.iadd, 1) := by decide +kernel
theorem dX9_of_51 : decode cX9_of 51 = .ok (.iaload, 1) := by decide +kernel
theorem dX9_of_52 : decode cX9_of 52 = .ok (.goto 16, 3) := by decide +kernel
theorem dX9_of_55 : decode cX9_of 55 = .ok (.aload_n 0, 1) := by decide +kernel
theorem dX9_of_56 : decode cX9_of 56 = .ok (.iload_n 1, 1) := by decide +kernel
theorem dX9_of_57 : decode cX9_of 57 = .ok (.invokevirtual 147, 3) := by decide +kernel
theorem dX9_of_60 : decode cX9_of 60 = .ok (.ifCond .eq 7, 3) := by decide +kernel
theorem dX9_of_63 : decode cX9_of 63 = .ok (.iconst 1, 1) := by decide +kernel
theorem dX9_of_64 : decode cX9_of 64 = .ok (.goto 4, 3) := by decide +kernel
theorem dX9_of_67 : decode cX9_of 67 = .ok (.iconst 0, 1) := by decide +kernel
theorem dX9_of_68 : decode cX9_of 68 = .ok (.ireturn, 1) := by decide +kernel
theorem dX9_of_69 : decode cX9_of 69 = .ok (.iload_n 2, 1) := by decide +kernel
theorem dX9_of_70 : decode cX9_of 70 = .ok (.bipush 10, 2) := by decide +kernel
theorem dX9_of_72 : decode cX9_of 72 = .ok (.isub, 1) := by decide +kernel
theorem dX9_of_73 : decode cX9_of 73 = .ok (.aload_n 0, 1) := by decide +kernel
theorem dX9_of_74 : decode cX9_of 74 = .ok (.getfield 11, 3) := by decide +kernel
theorem dX9_of_77 : decode cX9_of 77 = .ok (.bipush 19, 2) := by decide +kernel
theorem dX9_of_79 : decode cX9_of 79 = .ok (.iload_n 1, 1) := by decide +kernel
theorem dX9_of_80 : decode cX9_of 80 = .ok (.iadd, 1) := by decide +kernel
theorem dX9_of_81 : decode cX9_of 81 = .ok (.iaload, 1) := by decide +kernel
theorem dX9_of_82 : decode cX9_of 82 = .ok (.if_icmp .ge 15, 3) := by decide +kernel
theorem dX9_of_85 : decode cX9_of 85 = .ok (.aload_n 0, 1) := by decide +kernel
theorem dX9_of_86 : decode cX9_of 86 = .ok (.iload_n 1, 1) := by decide +kernel
theorem dX9_of_87 : decode cX9_of 87 = .ok (.iload_n 2, 1) := by decide +kernel
theorem dX9_of_88 : decode cX9_of 88 = .ok (.bipush 10, 2) := by decide +kernel
theorem dX9_of_90 : decode cX9_of 90 = .ok (.isub, 1) := by decide +kernel
theorem dX9_of_91 : decode cX9_of 91 = .ok (.invokevirtual 86, 3) := by decide +kernel
theorem dX9_of_94 : decode cX9_of 94 = .ok (.goto 5, 3) := by decide +kernel
theorem dX9_of_97 : decode cX9_of 97 = .ok (.bipush (-5), 2) := by decide +kernel
theorem dX9_of_99 : decode cX9_of 99 = .ok (.ireturn, 1) := by decide +kernel
theorem dX9_product_0 : decode cX9_product 0 = .ok (.lconst 1, 1) := by decide +kernel
theorem dX9_product_1 : decode cX9_product 1 = .ok (.lstore 5, 2) := by decide +kernel
theorem dX9_product_3 : decode cX9_product 3 = .ok (.iload_n 3, 1) := by decide +kernel
theorem dX9_product_4 : decode cX9_product 4 = .ok (.istore 7, 2) := by decide +kernel
theorem dX9_product_6 : decode cX9_product 6 = .ok (.iload 7, 2) := by decide +kernel
theorem dX9_product_8 : decode cX9_product 8 = .ok (.iload 4, 2) := by decide +kernel
theorem dX9_product_10 : decode cX9_product 10 = .ok (.if_icmp .ge 29, 3) := by decide +kernel
theorem dX9_product_13 : decode cX9_product 13 = .ok (.lload 5, 2) := by decide +kernel
theorem dX9_product_15 : decode cX9_product 15 = .ok (.aload_n 0, 1) := by decide +kernel
theorem dX9_product_16 : decode cX9_product 16 = .ok (.getfield 11, 3) := by decide +kernel
theorem dX9_product_19 : decode cX9_product 19 = .ok (.iload_n 2, 1) := by decide +kernel
theorem dX9_product_20 : decode cX9_product 20 = .ok (.aload_n 0, 1) := by decide +kernel
theorem dX9_product_21 : decode cX9_product 21 = .ok (.iload_n 1, 1) := by decide +kernel
theorem dX9_product_22 : decode cX9_product 22 = .ok (.iload 7, 2) := by decide +kernel
theorem dX9_product_24 : decode cX9_product 24 = .ok (.invokevirtual 86, 3) := by decide +kernel
theorem dX9_product_27 : decode cX9_product 27 = .ok (.iadd, 1) := by decide +kernel
theorem dX9_product_28 : decode cX9_product 28 = .ok (.iaload, 1) := by decide +kernel
theorem dX9_product_29 : decode cX9_product 29 = .ok (.i2l, 1) := by decide +kernel
theorem dX9_product_30 : decode cX9_product 30 = .ok (.lmul, 1) := by decide +kernel
theorem dX9_product_31 : decode cX9_product 31 = .ok (.lstore 5, 2) := by decide +kernel
theorem dX9_product_33 : decode cX9_product 33 = .ok (.iinc 7 1, 3) := by decide +kernel
theorem dX9_product_36 : decode cX9_product 36 = .ok (.goto (-30), 3) := by decide +kernel
theorem dX9_product_39 : decode cX9_product 39 = .ok (.lload 5, 2) := by decide +kernel
theorem dX9_product_41 : decode cX9_product 41 = .ok (.lreturn, 1) := by decide +kernel
theorem dX9_drivers_0 : decode cX9_drivers 0 = .ok (.aload_n 0, 1) := by decide +kernel
theorem dX9_drivers_1 : decode cX9_drivers 1 = .ok (.iload_n 1, 1) := by decide +kernel
theorem dX9_drivers_2 : decode cX9_drivers 2 = .ok (.bipush 63, 2) := by decide +kernel
theorem dX9_drivers_4 : decode cX9_drivers 4 = .ok (.iconst 0, 1) := by decide +kernel
theorem dX9_drivers_5 : decode cX9_drivers 5 = .ok (.aload_n 0, 1) := by decide +kernel
theorem dX9_drivers_6 : decode cX9_drivers 6 = .ok (.getfield 11, 3) := by decide +kernel
theorem dX9_drivers_9 : decode cX9_drivers 9 = .ok (.bipush 19, 2) := by decide +kernel
theorem dX9_drivers_11 : decode cX9_drivers 11 = .ok (.iload_n 1, 1) := by decide +kernel
theorem dX9_drivers_12 : decode cX9_drivers 12 = .ok (.iadd, 1) := by decide +kernel
theorem dX9_drivers_13 : decode cX9_drivers 13 = .ok (.iaload, 1) := by decide +kernel
theorem dX9_drivers_14 : decode cX9_drivers 14 = .ok (.invokevirtual 150, 3) := by decide +kernel
theorem dX9_drivers_17 : decode cX9_drivers 17 = .ok (.lreturn, 1) := by decide +kernel
theorem dX9_drivens_0 : decode cX9_drivens 0 = .ok (.aload_n 0, 1) := by decide +kernel
theorem dX9_drivens_1 : decode cX9_drivens 1 = .ok (.iload_n 1, 1) := by decide +kernel
theorem dX9_drivens_2 : decode cX9_drivens 2 = .ok (.bipush 73, 2) := by decide +kernel
theorem dX9_drivens_4 : decode cX9_drivens 4 = .ok (.iconst 0, 1) := by decide +kernel
theorem dX9_drivens_5 : decode cX9_drivens 5 = .ok (.aload_n 0, 1) := by decide +kernel
theorem dX9_drivens_6 : decode cX9_drivens 6 = .ok (.getfield 11, 3) := by decide +kernel
theorem dX9_drivens_9 : decode cX9_drivens 9 = .ok (.bipush 19, 2) := by decide +kernel
theorem dX9_drivens_11 : decode cX9_drivens 11 = .ok (.iload_n 1, 1) := by decide +kernel
theorem dX9_drivens_12 : decode cX9_drivens 12 = .ok (.iadd, 1) := by decide +kernel
theorem dX9_drivens_13 : decode cX9_drivens 13 = .ok (.iaload, 1) := by decide +kernel
theorem dX9_drivens_14 : decode cX9_drivens 14 = .ok (.invokevirtual 150, 3) := by decide +kernel
theorem dX9_drivens_17 : decode cX9_drivens 17 = .ok (.lreturn, 1) := by decide +kernel
theorem dX9_turns_0 : decode cX9_turns 0 = .ok (.aload_n 0, 1) := by decide +kernel
theorem dX9_turns_1 : decode cX9_turns 1 = .ok (.iload_n 1, 1) := by decide +kernel
theorem dX9_turns_2 : decode cX9_turns 2 = .ok (.invokevirtual 154, 3) := by decide +kernel
theorem dX9_turns_5 : decode cX9_turns 5 = .ok (.ifCond .eq 27, 3) := by decide +kernel
theorem dX9_turns_8 : decode cX9_turns 8 = .ok (.iload_n 2, 1) := by decide +kernel
theorem dX9_turns_9 : decode cX9_turns 9 = .ok (.invokestatic 70, 3) := by decide +kernel
theorem dX9_turns_12 : decode cX9_turns 12 = .ok (.ifCond .eq 20, 3) := by decide +kernel
theorem dX9_turns_15 : decode cX9_turns 15 = .ok (.aload_n 0, 1) := by decide +kernel
theorem dX9_turns_16 : decode cX9_turns 16 = .ok (.iload_n 1, 1) := by decide +kernel
theorem dX9_turns_17 : decode cX9_turns 17 = .ok (.invokevirtual 157, 3) := by decide +kernel
theorem dX9_turns_20 : decode cX9_turns 20 = .ok (.aload_n 0, 1) := by decide +kernel
theorem dX9_turns_21 : decode cX9_turns 21 = .ok (.iload_n 1, 1) := by decide +kernel
theorem dX9_turns_22 : decode cX9_turns 22 = .ok (.invokevirtual 161, 3) := by decide +kernel
theorem dX9_turns_25 : decode cX9_turns 25 = .ok (.iload_n 2, 1) := by decide +kernel
theorem dX9_turns_26 : decode cX9_turns 26 = .ok (.invokestatic 50, 3) := by decide +kernel
theorem dX9_turns_29 : decode cX9_turns 29 = .ok (.goto 6, 3) := by decide +kernel
theorem dX9_turns_32 : decode cX9_turns 32 = .ok (.ldc2_w 73, 3) := by decide +kernel
theorem dX9_turns_35 : decode cX9_turns 35 = .ok (.lreturn, 1) := by decide +kernel
theorem dX9_off_0 : decode cX9_off 0 = .ok (.lload_n 2, 1) := by decide +kernel
theorem dX9_off_1 : decode cX9_off 1 = .ok (.aload_n 0, 1) := by decide +kernel
theorem dX9_off_2 : decode cX9_off 2 = .ok (.getfield 11, 3) := by decide +kernel
theorem dX9_off_5 : decode cX9_off 5 = .ok (.bipush 13, 2) := by decide +kernel
theorem dX9_off_7 : decode cX9_off 7 = .ok (.iload_n 1, 1) := by decide +kernel
theorem dX9_off_8 : decode cX9_off 8 = .ok (.iadd, 1) := by decide +kernel
theorem dX9_off_9 : decode cX9_off 9 = .ok (.iaload, 1) := by decide +kernel
theorem dX9_off_10 : decode cX9_off 10 = .ok (.i2l, 1) := by decide +kernel
theorem dX9_off_11 : decode cX9_off 11 = .ok (.lmul, 1) := by decide +kernel
theorem dX9_off_12 : decode cX9_off 12 = .ok (.lload 4, 2) := by decide +kernel
theorem dX9_off_14 : decode cX9_off 14 = .ok (.aload_n 0, 1) := by decide +kernel
theorem dX9_off_15 : decode cX9_off 15 = .ok (.getfield 11, 3) := by decide +kernel
theorem dX9_off_18 : decode cX9_off 18 = .ok (.bipush 7, 2) := by decide +kernel
theorem dX9_off_20 : decode cX9_off 20 = .ok (.iload_n 1, 1) := by decide +kernel
theorem dX9_off_21 : decode cX9_off 21 = .ok (.iadd, 1) := by decide +kernel
theorem dX9_off_22 : decode cX9_off 22 = .ok (.iaload, 1) := by decide +kernel
theorem dX9_off_23 : decode cX9_off 23 = .ok (.i2l, 1) := by decide +kernel
theorem dX9_off_24 : decode cX9_off 24 = .ok (.lmul, 1) := by decide +kernel
theorem dX9_off_25 : decode cX9_off 25 = .ok (.lsub, 1) := by decide +kernel
theorem dX9_off_26 : decode cX9_off 26 = .ok (.lreturn, 1) := by decide +kernel
theorem dX9_wrong_0 : decode cX9_wrong 0 = .ok (.aload_n 0, 1) := by decide +kernel
theorem dX9_wrong_1 : decode cX9_wrong 1 = .ok (.iload_n 1, 1) := by decide +kernel
theorem dX9_wrong_2 : decode cX9_wrong 2 = .ok (.invokevirtual 154, 3) := by decide +kernel
theorem dX9_wrong_5 : decode cX9_wrong 5 = .ok (.ifCond .eq 10, 3) := by decide +kernel
theorem dX9_wrong_8 : decode cX9_wrong 8 = .ok (.iload_n 2, 1) := by decide +kernel
theorem dX9_wrong_9 : decode cX9_wrong 9 = .ok (.invokestatic 70, 3) := by decide +kernel
theorem dX9_wrong_12 : decode cX9_wrong 12 = .ok (.ifCond .ne 7, 3) := by decide +kernel
theorem dX9_wrong_15 : decode cX9_wrong 15 = .ok (.ldc2_w 73, 3) := by decide +kernel
theorem dX9_wrong_18 : decode cX9_wrong 18 = .ok (.lreturn, 1) := by decide +kernel
theorem dX9_wrong_19 : decode cX9_wrong 19 = .ok (.aload_n 0, 1) := by decide +kernel
theorem dX9_wrong_20 : decode cX9_wrong 20 = .ok (.iload_n 1, 1) := by decide +kernel
theorem dX9_wrong_21 : decode cX9_wrong 21 = .ok (.invokevirtual 161, 3) := by decide +kernel
theorem dX9_wrong_24 : decode cX9_wrong 24 = .ok (.lstore_n 3, 1) := by decide +kernel
theorem dX9_wrong_25 : decode cX9_wrong 25 = .ok (.aload_n 0, 1) := by decide +kernel
theorem dX9_wrong_26 : decode cX9_wrong 26 = .ok (.iload_n 1, 1) := by decide +kernel
theorem dX9_wrong_27 : decode cX9_wrong 27 = .ok (.aload_n 0, 1) := by decide +kernel
theorem dX9_wrong_28 : decode cX9_wrong 28 = .ok (.iload_n 1, 1) := by decide +kernel
theorem dX9_wrong_29 : decode cX9_wrong 29 = .ok (.invokevirtual 157, 3) := by decide +kernel
theorem dX9_wrong_32 : decode cX9_wrong 32 = .ok (.lload_n 3, 1) := by decide +kernel
theorem dX9_wrong_33 : decode cX9_wrong 33 = .ok (.invokevirtual 164, 3) := by decide +kernel
theorem dX9_wrong_36 : decode cX9_wrong 36 = .ok (.lload_n 3, 1) := by decide +kernel
theorem dX9_wrong_37 : decode cX9_wrong 37 = .ok (.aload_n 0, 1) := by decide +kernel
theorem dX9_wrong_38 : decode cX9_wrong 38 = .ok (.getfield 11, 3) := by decide +kernel
theorem dX9_wrong_41 : decode cX9_wrong 41 = .ok (.bipush 13, 2) := by decide +kernel
theorem dX9_wrong_43 : decode cX9_wrong 43 = .ok (.iload_n 1, 1) := by decide +kernel
theorem dX9_wrong_44 : decode cX9_wrong 44 = .ok (.iadd, 1) := by decide +kernel
theorem dX9_wrong_45 : decode cX9_wrong 45 = .ok (.iaload, 1) := by decide +kernel
theorem dX9_wrong_46 : decode cX9_wrong 46 = .ok (.i2l, 1) := by decide +kernel
theorem dX9_wrong_47 : decode cX9_wrong 47 = .ok (.lmul, 1) := by decide +kernel
theorem dX9_wrong_48 : decode cX9_wrong 48 = .ok (.iload_n 2, 1) := by decide +kernel
theorem dX9_wrong_49 : decode cX9_wrong 49 = .ok (.invokestatic 50, 3) := by decide +kernel
theorem dX9_wrong_52 : decode cX9_wrong 52 = .ok (.lreturn, 1) := by decide +kernel
theorem dX9_lag_0 : decode cX9_lag 0 = .ok (.aload_n 0, 1) := by decide +kernel
theorem dX9_lag_1 : decode cX9_lag 1 = .ok (.getfield 11, 3) := by decide +kernel
theorem dX9_lag_4 : decode cX9_lag 4 = .ok (.bipush 19, 2) := by decide +kernel
theorem dX9_lag_6 : decode cX9_lag 6 = .ok (.iload_n 1, 1) := by decide +kernel
theorem dX9_lag_7 : decode cX9_lag 7 = .ok (.iadd, 1) := by decide +kernel
theorem dX9_lag_8 : decode cX9_lag 8 = .ok (.iaload, 1) := by decide +kernel
theorem dX9_lag_9 : decode cX9_lag 9 = .ok (.istore_n 2, 1) := by decide +kernel
theorem dX9_lag_10 : decode cX9_lag 10 = .ok (.lconst 0, 1) := by decide +kernel
theorem dX9_lag_11 : decode cX9_lag 11 = .ok (.lstore_n 3, 1) := by decide +kernel
theorem dX9_lag_12 : decode cX9_lag 12 = .ok (.iconst 0, 1) := by decide +kernel
theorem dX9_lag_13 : decode cX9_lag 13 = .ok (.istore 5, 2) := by decide +kernel
theorem dX9_lag_15 : decode cX9_lag 15 = .ok (.iload 5, 2) := by decide +kernel
theorem dX9_lag_17 : decode cX9_lag 17 = .ok (.iload_n 2, 1) := by decide +kernel
theorem dX9_lag_18 : decode cX9_lag 18 = .ok (.if_icmp .ge 48, 3) := by decide +kernel
theorem dX9_lag_21 : decode cX9_lag 21 = .ok (.lload_n 3, 1) := by decide +kernel
theorem dX9_lag_22 : decode cX9_lag 22 = .ok (.aload_n 0, 1) := by decide +kernel
theorem dX9_lag_23 : decode cX9_lag 23 = .ok (.aload_n 0, 1) := by decide +kernel
theorem dX9_lag_24 : decode cX9_lag 24 = .ok (.iload_n 1, 1) := by decide +kernel
theorem dX9_lag_25 : decode cX9_lag 25 = .ok (.iload 5, 2) := by decide +kernel
theorem dX9_lag_27 : decode cX9_lag 27 = .ok (.invokevirtual 86, 3) := by decide +kernel
theorem dX9_lag_30 : decode cX9_lag 30 = .ok (.invokevirtual 139, 3) := by decide +kernel
theorem dX9_lag_33 : decode cX9_lag 33 = .ok (.i2l, 1) := by decide +kernel
theorem dX9_lag_34 : decode cX9_lag 34 = .ok (.aload_n 0, 1) := by decide +kernel
theorem dX9_lag_35 : decode cX9_lag 35 = .ok (.iload_n 1, 1) := by decide +kernel
theorem dX9_lag_36 : decode cX9_lag 36 = .ok (.bipush 73, 2) := by decide +kernel
theorem dX9_lag_38 : decode cX9_lag 38 = .ok (.iconst 0, 1) := by decide +kernel
theorem dX9_lag_39 : decode cX9_lag 39 = .ok (.iload 5, 2) := by decide +kernel
theorem dX9_lag_41 : decode cX9_lag 41 = .ok (.invokevirtual 150, 3) := by decide +kernel
theorem dX9_lag_44 : decode cX9_lag 44 = .ok (.lmul, 1) := by decide +kernel
theorem dX9_lag_45 : decode cX9_lag 45 = .ok (.aload_n 0, 1) := by decide +kernel
theorem dX9_lag_46 : decode cX9_lag 46 = .ok (.iload_n 1, 1) := by decide +kernel
theorem dX9_lag_47 : decode cX9_lag 47 = .ok (.bipush 63, 2) := by decide +kernel
theorem dX9_lag_49 : decode cX9_lag 49 = .ok (.iload 5, 2) := by decide +kernel
theorem dX9_lag_51 : decode cX9_lag 51 = .ok (.iconst 1, 1) := by decide +kernel
theorem dX9_lag_52 : decode cX9_lag 52 = .ok (.iadd, 1) := by decide +kernel
theorem dX9_lag_53 : decode cX9_lag 53 = .ok (.iload_n 2, 1) := by decide +kernel
theorem dX9_lag_54 : decode cX9_lag 54 = .ok (.invokevirtual 150, 3) := by decide +kernel
theorem dX9_lag_57 : decode cX9_lag 57 = .ok (.lmul, 1) := by decide +kernel
theorem dX9_lag_58 : decode cX9_lag 58 = .ok (.ladd, 1) := by decide +kernel
theorem dX9_lag_59 : decode cX9_lag 59 = .ok (.lstore_n 3, 1) := by decide +kernel
theorem dX9_lag_60 : decode cX9_lag 60 = .ok (.iinc 5 1, 3) := by decide +kernel
theorem dX9_lag_63 : decode cX9_lag 63 = .ok (.goto (-48), 3) := by decide +kernel
theorem dX9_lag_66 : decode cX9_lag 66 = .ok (.lload_n 3, 1) := by decide +kernel
theorem dX9_lag_67 : decode cX9_lag 67 = .ok (.lreturn, 1) := by decide +kernel
theorem dX9_backlash_0 : decode cX9_backlash 0 = .ok (.aload_n 0, 1) := by decide +kernel
theorem dX9_backlash_1 : decode cX9_backlash 1 = .ok (.iload_n 1, 1) := by decide +kernel
theorem dX9_backlash_2 : decode cX9_backlash 2 = .ok (.invokevirtual 154, 3) := by decide +kernel
theorem dX9_backlash_5 : decode cX9_backlash 5 = .ok (.ifCond .eq 31, 3) := by decide +kernel
theorem dX9_backlash_8 : decode cX9_backlash 8 = .ok (.iload_n 2, 1) := by decide +kernel
theorem dX9_backlash_9 : decode cX9_backlash 9 = .ok (.invokestatic 70, 3) := by decide +kernel
theorem dX9_backlash_12 : decode cX9_backlash 12 = .ok (.ifCond .eq 24, 3) := by decide +kernel
theorem dX9_backlash_15 : decode cX9_backlash 15 = .ok (.aload_n 0, 1) := by decide +kernel
theorem dX9_backlash_16 : decode cX9_backlash 16 = .ok (.iload_n 1, 1) := by decide +kernel
theorem dX9_backlash_17 : decode cX9_backlash 17 = .ok (.invokevirtual 168, 3) := by decide +kernel
theorem dX9_backlash_20 : decode cX9_backlash 20 = .ok (.ldc2_w 171, 3) := by decide +kernel
theorem dX9_backlash_23 : decode cX9_backlash 23 = .ok (.aload_n 0, 1) := by decide +kernel
theorem dX9_backlash_24 : decode cX9_backlash 24 = .ok (.iload_n 1, 1) := by decide +kernel
theorem dX9_backlash_25 : decode cX9_backlash 25 = .ok (.invokevirtual 161, 3) := by decide +kernel
theorem dX9_backlash_28 : decode cX9_backlash 28 = .ok (.lmul, 1) := by decide +kernel
theorem dX9_backlash_29 : decode cX9_backlash 29 = .ok (.iload_n 2, 1) := by decide +kernel
theorem dX9_backlash_30 : decode cX9_backlash 30 = .ok (.invokestatic 50, 3) := by decide +kernel
theorem dX9_backlash_33 : decode cX9_backlash 33 = .ok (.goto 6, 3) := by decide +kernel
theorem dX9_backlash_36 : decode cX9_backlash 36 = .ok (.ldc2_w 73, 3) := by decide +kernel
theorem dX9_backlash_39 : decode cX9_backlash 39 = .ok (.lreturn, 1) := by decide +kernel
theorem dX9_shared_0 : decode cX9_shared 0 = .ok (.iconst 0, 1) := by decide +kernel
theorem dX9_shared_1 : decode cX9_shared 1 = .ok (.istore_n 3, 1) := by decide +kernel
theorem dX9_shared_2 : decode cX9_shared 2 = .ok (.iload_n 3, 1) := by decide +kernel
theorem dX9_shared_3 : decode cX9_shared 3 = .ok (.aload_n 0, 1) := by decide +kernel
theorem dX9_shared_4 : decode cX9_shared 4 = .ok (.getfield 11, 3) := by decide +kernel
theorem dX9_shared_7 : decode cX9_shared 7 = .ok (.bipush 19, 2) := by decide +kernel
theorem dX9_shared_9 : decode cX9_shared 9 = .ok (.iload_n 1, 1) := by decide +kernel
theorem dX9_shared_10 : decode cX9_shared 10 = .ok (.iadd, 1) := by decide +kernel
theorem dX9_shared_11 : decode cX9_shared 11 = .ok (.iaload, 1) := by decide +kernel
theorem dX9_shared_12 : decode cX9_shared 12 = .ok (.if_icmp .ge 37, 3) := by decide +kernel
theorem dX9_shared_15 : decode cX9_shared 15 = .ok (.iload_n 3, 1) := by decide +kernel
theorem dX9_shared_16 : decode cX9_shared 16 = .ok (.aload_n 0, 1) := by decide +kernel
theorem dX9_shared_17 : decode cX9_shared 17 = .ok (.getfield 11, 3) := by decide +kernel
theorem dX9_shared_20 : decode cX9_shared 20 = .ok (.bipush 19, 2) := by decide +kernel
theorem dX9_shared_22 : decode cX9_shared 22 = .ok (.iload_n 2, 1) := by decide +kernel
theorem dX9_shared_23 : decode cX9_shared 23 = .ok (.iadd, 1) := by decide +kernel
theorem dX9_shared_24 : decode cX9_shared 24 = .ok (.iaload, 1) := by decide +kernel
theorem dX9_shared_25 : decode cX9_shared 25 = .ok (.if_icmp .ge 24, 3) := by decide +kernel
theorem dX9_shared_28 : decode cX9_shared 28 = .ok (.aload_n 0, 1) := by decide +kernel
theorem dX9_shared_29 : decode cX9_shared 29 = .ok (.iload_n 1, 1) := by decide +kernel
theorem dX9_shared_30 : decode cX9_shared 30 = .ok (.iload_n 3, 1) := by decide +kernel
theorem dX9_shared_31 : decode cX9_shared 31 = .ok (.invokevirtual 86, 3) := by decide +kernel
theorem dX9_shared_34 : decode cX9_shared 34 = .ok (.aload_n 0, 1) := by decide +kernel
theorem dX9_shared_35 : decode cX9_shared 35 = .ok (.iload_n 2, 1) := by decide +kernel
theorem dX9_shared_36 : decode cX9_shared 36 = .ok (.iload_n 3, 1) := by decide +kernel
theorem dX9_shared_37 : decode cX9_shared 37 = .ok (.invokevirtual 86, 3) := by decide +kernel
theorem dX9_shared_40 : decode cX9_shared 40 = .ok (.if_icmp .ne 9, 3) := by decide +kernel
theorem dX9_shared_43 : decode cX9_shared 43 = .ok (.iinc 3 1, 3) := by decide +kernel
theorem dX9_shared_46 : decode cX9_shared 46 = .ok (.goto (-44), 3) := by decide +kernel
theorem dX9_shared_49 : decode cX9_shared 49 = .ok (.iload_n 3, 1) := by decide +kernel
theorem dX9_shared_50 : decode cX9_shared 50 = .ok (.ireturn, 1) := by decide +kernel
theorem dX9_areTwo_0 : decode cX9_areTwo 0 = .ok (.aload_n 0, 1) := by decide +kernel
theorem dX9_areTwo_1 : decode cX9_areTwo 1 = .ok (.iload_n 1, 1) := by decide +kernel
theorem dX9_areTwo_2 : decode cX9_areTwo 2 = .ok (.invokevirtual 62, 3) := by decide +kernel
theorem dX9_areTwo_5 : decode cX9_areTwo 5 = .ok (.ifCond .eq 20, 3) := by decide +kernel
theorem dX9_areTwo_8 : decode cX9_areTwo 8 = .ok (.aload_n 0, 1) := by decide +kernel
theorem dX9_areTwo_9 : decode cX9_areTwo 9 = .ok (.iload_n 2, 1) := by decide +kernel
theorem dX9_areTwo_10 : decode cX9_areTwo 10 = .ok (.invokevirtual 62, 3) := by decide +kernel
theorem dX9_areTwo_13 : decode cX9_areTwo 13 = .ok (.ifCond .eq 12, 3) := by decide +kernel
theorem dX9_areTwo_16 : decode cX9_areTwo 16 = .ok (.iload_n 1, 1) := by decide +kernel
theorem dX9_areTwo_17 : decode cX9_areTwo 17 = .ok (.iload_n 2, 1) := by decide +kernel
theorem dX9_areTwo_18 : decode cX9_areTwo 18 = .ok (.if_icmp .eq 7, 3) := by decide +kernel
theorem dX9_areTwo_21 : decode cX9_areTwo 21 = .ok (.iconst 1, 1) := by decide +kernel
theorem dX9_areTwo_22 : decode cX9_areTwo 22 = .ok (.goto 4, 3) := by decide +kernel
theorem dX9_areTwo_25 : decode cX9_areTwo 25 = .ok (.iconst 0, 1) := by decide +kernel
theorem dX9_areTwo_26 : decode cX9_areTwo 26 = .ok (.ireturn, 1) := by decide +kernel
theorem dX9_share_0 : decode cX9_share 0 = .ok (.aload_n 0, 1) := by decide +kernel
theorem dX9_share_1 : decode cX9_share 1 = .ok (.iload_n 1, 1) := by decide +kernel
theorem dX9_share_2 : decode cX9_share 2 = .ok (.iload_n 2, 1) := by decide +kernel
theorem dX9_share_3 : decode cX9_share 3 = .ok (.invokevirtual 173, 3) := by decide +kernel
theorem dX9_share_6 : decode cX9_share 6 = .ok (.ifCond .ne 5, 3) := by decide +kernel
theorem dX9_share_9 : decode cX9_share 9 = .ok (.iconst (-1), 1) := by decide +kernel
theorem dX9_share_10 : decode cX9_share 10 = .ok (.ireturn, 1) := by decide +kernel
theorem dX9_share_11 : decode cX9_share 11 = .ok (.aload_n 0, 1) := by decide +kernel
theorem dX9_share_12 : decode cX9_share 12 = .ok (.iload_n 1, 1) := by decide +kernel
theorem dX9_share_13 : decode cX9_share 13 = .ok (.invokevirtual 154, 3) := by decide +kernel
theorem dX9_share_16 : decode cX9_share 16 = .ok (.ifCond .eq 20, 3) := by decide +kernel
theorem dX9_share_19 : decode cX9_share 19 = .ok (.aload_n 0, 1) := by decide +kernel
theorem dX9_share_20 : decode cX9_share 20 = .ok (.iload_n 2, 1) := by decide +kernel
theorem dX9_share_21 : decode cX9_share 21 = .ok (.invokevirtual 154, 3) := by decide +kernel
theorem dX9_share_24 : decode cX9_share 24 = .ok (.ifCond .eq 12, 3) := by decide +kernel
theorem dX9_share_27 : decode cX9_share 27 = .ok (.aload_n 0, 1) := by decide +kernel
theorem dX9_share_28 : decode cX9_share 28 = .ok (.iload_n 1, 1) := by decide +kernel
theorem dX9_share_29 : decode cX9_share 29 = .ok (.iload_n 2, 1) := by decide +kernel
theorem dX9_share_30 : decode cX9_share 30 = .ok (.invokevirtual 176, 3) := by decide +kernel
theorem dX9_share_33 : decode cX9_share 33 = .ok (.goto 5, 3) := by decide +kernel
theorem dX9_share_36 : decode cX9_share 36 = .ok (.bipush (-3), 2) := by decide +kernel
theorem dX9_share_38 : decode cX9_share 38 = .ok (.ireturn, 1) := by decide +kernel
theorem dX9_wheels_0 : decode cX9_wheels 0 = .ok (.iconst 0, 1) := by decide +kernel
theorem dX9_wheels_1 : decode cX9_wheels 1 = .ok (.istore_n 1, 1) := by decide +kernel
theorem dX9_wheels_2 : decode cX9_wheels 2 = .ok (.iconst 0, 1) := by decide +kernel
theorem dX9_wheels_3 : decode cX9_wheels 3 = .ok (.istore_n 2, 1) := by decide +kernel
theorem dX9_wheels_4 : decode cX9_wheels 4 = .ok (.iload_n 2, 1) := by decide +kernel
theorem dX9_wheels_5 : decode cX9_wheels 5 = .ok (.aload_n 0, 1) := by decide +kernel
theorem dX9_wheels_6 : decode cX9_wheels 6 = .ok (.getfield 11, 3) := by decide +kernel
theorem dX9_wheels_9 : decode cX9_wheels 9 = .ok (.iconst 0, 1) := by decide +kernel
theorem dX9_wheels_10 : decode cX9_wheels 10 = .ok (.iaload, 1) := by decide +kernel
theorem dX9_wheels_11 : decode cX9_wheels 11 = .ok (.if_icmp .ge 65, 3) := by decide +kernel
theorem dX9_wheels_14 : decode cX9_wheels 14 = .ok (.iconst 0, 1) := by decide +kernel
theorem dX9_wheels_15 : decode cX9_wheels 15 = .ok (.istore_n 3, 1) := by decide +kernel
theorem dX9_wheels_16 : decode cX9_wheels 16 = .ok (.iconst 0, 1) := by decide +kernel
theorem dX9_wheels_17 : decode cX9_wheels 17 = .ok (.istore 4, 2) := by decide +kernel
theorem dX9_wheels_19 : decode cX9_wheels 19 = .ok (.iload 4, 2) := by decide +kernel
theorem dX9_wheels_21 : decode cX9_wheels 21 = .ok (.iload_n 2, 1) := by decide +kernel
theorem dX9_wheels_22 : decode cX9_wheels 22 = .ok (.if_icmp .ge 32, 3) := by decide +kernel
theorem dX9_wheels_25 : decode cX9_wheels 25 = .ok (.aload_n 0, 1) := by decide +kernel
theorem dX9_wheels_26 : decode cX9_wheels 26 = .ok (.iload_n 2, 1) := by decide +kernel
theorem dX9_wheels_27 : decode cX9_wheels 27 = .ok (.iload 4, 2) := by decide +kernel
theorem dX9_wheels_29 : decode cX9_wheels 29 = .ok (.invokevirtual 176, 3) := by decide +kernel
theorem dX9_wheels_32 : decode cX9_wheels 32 = .ok (.iload_n 3, 1) := by decide +kernel
theorem dX9_wheels_33 : decode cX9_wheels 33 = .ok (.if_icmp .le 13, 3) := by decide +kernel
theorem dX9_wheels_36 : decode cX9_wheels 36 = .ok (.aload_n 0, 1) := by decide +kernel
theorem dX9_wheels_37 : decode cX9_wheels 37 = .ok (.iload_n 2, 1) := by decide +kernel
theorem dX9_wheels_38 : decode cX9_wheels 38 = .ok (.iload 4, 2) := by decide +kernel
theorem dX9_wheels_40 : decode cX9_wheels 40 = .ok (.invokevirtual 176, 3) := by decide +kernel
theorem dX9_wheels_43 : decode cX9_wheels 43 = .ok (.goto 4, 3) := by decide +kernel
theorem dX9_wheels_46 : decode cX9_wheels 46 = .ok (.iload_n 3, 1) := by decide +kernel
theorem dX9_wheels_47 : decode cX9_wheels 47 = .ok (.istore_n 3, 1) := by decide +kernel
theorem dX9_wheels_48 : decode cX9_wheels 48 = .ok (.iinc 4 1, 3) := by decide +kernel
theorem dX9_wheels_51 : decode cX9_wheels 51 = .ok (.goto (-32), 3) := by decide +kernel
theorem dX9_wheels_54 : decode cX9_wheels 54 = .ok (.iload_n 1, 1) := by decide +kernel
theorem dX9_wheels_55 : decode cX9_wheels 55 = .ok (.iconst 2, 1) := by decide +kernel
theorem dX9_wheels_56 : decode cX9_wheels 56 = .ok (.aload_n 0, 1) := by decide +kernel
theorem dX9_wheels_57 : decode cX9_wheels 57 = .ok (.getfield 11, 3) := by decide +kernel
theorem dX9_wheels_60 : decode cX9_wheels 60 = .ok (.bipush 19, 2) := by decide +kernel
theorem dX9_wheels_62 : decode cX9_wheels 62 = .ok (.iload_n 2, 1) := by decide +kernel
theorem dX9_wheels_63 : decode cX9_wheels 63 = .ok (.iadd, 1) := by decide +kernel
theorem dX9_wheels_64 : decode cX9_wheels 64 = .ok (.iaload, 1) := by decide +kernel
theorem dX9_wheels_65 : decode cX9_wheels 65 = .ok (.iload_n 3, 1) := by decide +kernel
theorem dX9_wheels_66 : decode cX9_wheels 66 = .ok (.isub, 1) := by decide +kernel
theorem dX9_wheels_67 : decode cX9_wheels 67 = .ok (.imul, 1) := by decide +kernel
theorem dX9_wheels_68 : decode cX9_wheels 68 = .ok (.iadd, 1) := by decide +kernel
theorem dX9_wheels_69 : decode cX9_wheels 69 = .ok (.istore_n 1, 1) := by decide +kernel
theorem dX9_wheels_70 : decode cX9_wheels 70 = .ok (.iinc 2 1, 3) := by decide +kernel
theorem dX9_wheels_73 : decode cX9_wheels 73 = .ok (.goto (-69), 3) := by decide +kernel
theorem dX9_wheels_76 : decode cX9_wheels 76 = .ok (.iload_n 1, 1) := by decide +kernel
theorem dX9_wheels_77 : decode cX9_wheels 77 = .ok (.ireturn, 1) := by decide +kernel
theorem dX9_order_0 : decode cX9_order 0 = .ok (.aload_n 0, 1) := by decide +kernel
theorem dX9_order_1 : decode cX9_order 1 = .ok (.iload_n 1, 1) := by decide +kernel
theorem dX9_order_2 : decode cX9_order 2 = .ok (.invokevirtual 62, 3) := by decide +kernel
theorem dX9_order_5 : decode cX9_order 5 = .ok (.ifCond .eq 21, 3) := by decide +kernel
theorem dX9_order_8 : decode cX9_order 8 = .ok (.iload_n 2, 1) := by decide +kernel
theorem dX9_order_9 : decode cX9_order 9 = .ok (.ifCond .eq 19, 3) := by decide +kernel
theorem dX9_order_12 : decode cX9_order 12 = .ok (.iload_n 2, 1) := by decide +kernel
theorem dX9_order_13 : decode cX9_order 13 = .ok (.i2l, 1) := by decide +kernel
theorem dX9_order_14 : decode cX9_order 14 = .ok (.ldc2_w 77, 3) := by decide +kernel
theorem dX9_order_17 : decode cX9_order 17 = .ok (.ldc2_w 145, 3) := by decide +kernel
theorem dX9_order_20 : decode cX9_order 20 = .ok (.invokestatic 44, 3) := by decide +kernel
theorem dX9_order_23 : decode cX9_order 23 = .ok (.ifCond .ne 5, 3) := by decide +kernel
theorem dX9_order_26 : decode cX9_order 26 = .ok (.iconst (-1), 1) := by decide +kernel
theorem dX9_order_27 : decode cX9_order 27 = .ok (.ireturn, 1) := by decide +kernel
theorem dX9_order_28 : decode cX9_order 28 = .ok (.aload_n 0, 1) := by decide +kernel
theorem dX9_order_29 : decode cX9_order 29 = .ok (.getfield 11, 3) := by decide +kernel
theorem dX9_order_32 : decode cX9_order 32 = .ok (.bipush 19, 2) := by decide +kernel
theorem dX9_order_34 : decode cX9_order 34 = .ok (.iload_n 1, 1) := by decide +kernel
theorem dX9_order_35 : decode cX9_order 35 = .ok (.iadd, 1) := by decide +kernel
theorem dX9_order_36 : decode cX9_order 36 = .ok (.iaload, 1) := by decide +kernel
theorem dX9_order_37 : decode cX9_order 37 = .ok (.istore_n 3, 1) := by decide +kernel
theorem dX9_order_38 : decode cX9_order 38 = .ok (.iload_n 3, 1) := by decide +kernel
theorem dX9_order_39 : decode cX9_order 39 = .ok (.ifCond .ne 6, 3) := by decide +kernel
theorem dX9_order_42 : decode cX9_order 42 = .ok (.bipush (-3), 2) := by decide +kernel
theorem dX9_order_44 : decode cX9_order 44 = .ok (.ireturn, 1) := by decide +kernel
theorem dX9_order_45 : decode cX9_order 45 = .ok (.iload_n 2, 1) := by decide +kernel
theorem dX9_order_46 : decode cX9_order 46 = .ok (.ifCond .le 14, 3) := by decide +kernel
theorem dX9_order_49 : decode cX9_order 49 = .ok (.iload_n 2, 1) := by decide +kernel
theorem dX9_order_50 : decode cX9_order 50 = .ok (.bipush 10, 2) := by decide +kernel
theorem dX9_order_52 : decode cX9_order 52 = .ok (.isub, 1) := by decide +kernel
theorem dX9_order_53 : decode cX9_order 53 = .ok (.iload_n 3, 1) := by decide +kernel
theorem dX9_order_54 : decode cX9_order 54 = .ok (.if_icmp .lt 6, 3) := by decide +kernel
theorem dX9_order_57 : decode cX9_order 57 = .ok (.bipush (-5), 2) := by decide +kernel
theorem dX9_order_59 : decode cX9_order 59 = .ok (.ireturn, 1) := by decide +kernel
theorem dX9_order_60 : decode cX9_order 60 = .ok (.aload_n 0, 1) := by decide +kernel
theorem dX9_order_61 : decode cX9_order 61 = .ok (.iload_n 1, 1) := by decide +kernel
theorem dX9_order_62 : decode cX9_order 62 = .ok (.iconst 0, 1) := by decide +kernel
theorem dX9_order_63 : decode cX9_order 63 = .ok (.invokevirtual 86, 3) := by decide +kernel
theorem dX9_order_66 : decode cX9_order 66 = .ok (.istore 4, 2) := by decide +kernel
theorem dX9_order_68 : decode cX9_order 68 = .ok (.aload_n 0, 1) := by decide +kernel
theorem dX9_order_69 : decode cX9_order 69 = .ok (.iload_n 1, 1) := by decide +kernel
theorem dX9_order_70 : decode cX9_order 70 = .ok (.iconst 1, 1) := by decide +kernel
theorem dX9_order_71 : decode cX9_order 71 = .ok (.invokevirtual 86, 3) := by decide +kernel
theorem dX9_order_74 : decode cX9_order 74 = .ok (.istore 5, 2) := by decide +kernel
theorem dX9_order_76 : decode cX9_order 76 = .ok (.aload_n 0, 1) := by decide +kernel
theorem dX9_order_77 : decode cX9_order 77 = .ok (.iload_n 1, 1) := by decide +kernel
theorem dX9_order_78 : decode cX9_order 78 = .ok (.iconst 2, 1) := by decide +kernel
theorem dX9_order_79 : decode cX9_order 79 = .ok (.invokevirtual 86, 3) := by decide +kernel
theorem dX9_order_82 : decode cX9_order 82 = .ok (.istore 6, 2) := by decide +kernel
theorem dX9_order_84 : decode cX9_order 84 = .ok (.iconst (-1), 1) := by decide +kernel
theorem dX9_order_85 : decode cX9_order 85 = .ok (.istore 7, 2) := by decide +kernel
theorem dX9_order_87 : decode cX9_order 87 = .ok (.iconst 0, 1) := by decide +kernel
theorem dX9_order_88 : decode cX9_order 88 = .ok (.istore 8, 2) := by decide +kernel
theorem dX9_order_90 : decode cX9_order 90 = .ok (.iconst 0, 1) := by decide +kernel
theorem dX9_order_91 : decode cX9_order 91 = .ok (.istore 9, 2) := by decide +kernel
theorem dX9_order_93 : decode cX9_order 93 = .ok (.iload 9, 2) := by decide +kernel
theorem dX9_order_95 : decode cX9_order 95 = .ok (.bipush 27, 2) := by decide +kernel
theorem dX9_order_97 : decode cX9_order 97 = .ok (.if_icmp .ge 223, 3) := by decide +kernel
theorem dX9_order_100 : decode cX9_order 100 = .ok (.iload 9, 2) := by decide +kernel
theorem dX9_order_102 : decode cX9_order 102 = .ok (.bipush 9, 2) := by decide +kernel
theorem dX9_order_104 : decode cX9_order 104 = .ok (.idiv, 1) := by decide +kernel
theorem dX9_order_105 : decode cX9_order 105 = .ok (.istore 10, 2) := by decide +kernel
theorem dX9_order_107 : decode cX9_order 107 = .ok (.iload 9, 2) := by decide +kernel
theorem dX9_order_109 : decode cX9_order 109 = .ok (.iconst 3, 1) := by decide +kernel
theorem dX9_order_110 : decode cX9_order 110 = .ok (.idiv, 1) := by decide +kernel
theorem dX9_order_111 : decode cX9_order 111 = .ok (.iconst 3, 1) := by decide +kernel
theorem dX9_order_112 : decode cX9_order 112 = .ok (.irem, 1) := by decide +kernel
theorem dX9_order_113 : decode cX9_order 113 = .ok (.istore 11, 2) := by decide +kernel
theorem dX9_order_115 : decode cX9_order 115 = .ok (.iload 9, 2) := by decide +kernel
theorem dX9_order_117 : decode cX9_order 117 = .ok (.iconst 3, 1) := by decide +kernel
theorem dX9_order_118 : decode cX9_order 118 = .ok (.irem, 1) := by decide +kernel
theorem dX9_order_119 : decode cX9_order 119 = .ok (.istore 12, 2) := by decide +kernel
theorem dX9_order_121 : decode cX9_order 121 = .ok (.iload 10, 2) := by decide +kernel
theorem dX9_order_123 : decode cX9_order 123 = .ok (.iload 11, 2) := by decide +kernel
theorem dX9_order_125 : decode cX9_order 125 = .ok (.if_icmp .eq 189, 3) := by decide +kernel
theorem dX9_order_128 : decode cX9_order 128 = .ok (.iload 11, 2) := by decide +kernel
theorem dX9_order_130 : decode cX9_order 130 = .ok (.iload 12, 2) := by decide +kernel
theorem dX9_order_132 : decode cX9_order 132 = .ok (.if_icmp .eq 182, 3) := by decide +kernel
theorem dX9_order_135 : decode cX9_order 135 = .ok (.iload 10, 2) := by decide +kernel
theorem dX9_order_137 : decode cX9_order 137 = .ok (.iload 12, 2) := by decide +kernel
theorem dX9_order_139 : decode cX9_order 139 = .ok (.if_icmp .eq 175, 3) := by decide +kernel
theorem dX9_order_142 : decode cX9_order 142 = .ok (.iload_n 3, 1) := by decide +kernel
theorem dX9_order_143 : decode cX9_order 143 = .ok (.iconst 3, 1) := by decide +kernel
theorem dX9_order_144 : decode cX9_order 144 = .ok (.if_icmp .ge 9, 3) := by decide +kernel
theorem dX9_order_147 : decode cX9_order 147 = .ok (.iload 12, 2) := by decide +kernel
theorem dX9_order_149 : decode cX9_order 149 = .ok (.iconst 2, 1) := by decide +kernel
theorem dX9_order_150 : decode cX9_order 150 = .ok (.if_icmp .ne 164, 3) := by decide +kernel
theorem dX9_order_153 : decode cX9_order 153 = .ok (.iload_n 3, 1) := by decide +kernel
theorem dX9_order_154 : decode cX9_order 154 = .ok (.iconst 2, 1) := by decide +kernel
theorem dX9_order_155 : decode cX9_order 155 = .ok (.if_icmp .ge 12, 3) := by decide +kernel
theorem dX9_order_158 : decode cX9_order 158 = .ok (.iload 11, 2) := by decide +kernel
theorem dX9_order_160 : decode cX9_order 160 = .ok (.iconst 1, 1) := by decide +kernel
theorem dX9_order_161 : decode cX9_order 161 = .ok (.if_icmp .eq 6, 3) := by decide +kernel
theorem dX9_order_164 : decode cX9_order 164 = .ok (.goto 150, 3) := by decide +kernel
theorem dX9_order_167 : decode cX9_order 167 = .ok (.aload_n 0, 1) := by decide +kernel
theorem dX9_order_168 : decode cX9_order 168 = .ok (.getfield 11, 3) := by decide +kernel
theorem dX9_order_171 : decode cX9_order 171 = .ok (.bipush 25, 2) := by decide +kernel
theorem dX9_order_173 : decode cX9_order 173 = .ok (.iconst 3, 1) := by decide +kernel
theorem dX9_order_174 : decode cX9_order 174 = .ok (.iload_n 1, 1) := by decide +kernel
theorem dX9_order_175 : decode cX9_order 175 = .ok (.imul, 1) := by decide +kernel
theorem dX9_order_176 : decode cX9_order 176 = .ok (.iadd, 1) := by decide +kernel
theorem dX9_order_177 : decode cX9_order 177 = .ok (.iload 10, 2) := by decide +kernel
theorem dX9_order_179 : decode cX9_order 179 = .ok (.ifCond .ne 8, 3) := by decide +kernel
theorem dX9_order_182 : decode cX9_order 182 = .ok (.iload 4, 2) := by decide +kernel
theorem dX9_order_184 : decode cX9_order 184 = .ok (.goto 16, 3) := by decide +kernel
theorem dX9_order_187 : decode cX9_order 187 = .ok (.iload 10, 2) := by decide +kernel
theorem dX9_order_189 : decode cX9_order 189 = .ok (.iconst 1, 1) := by decide +kernel
theorem dX9_order_190 : decode cX9_order 190 = .ok (.if_icmp .ne 8, 3) := by decide +kernel
theorem dX9_order_193 : decode cX9_order 193 = .ok (.iload 5, 2) := by decide +kernel
theorem dX9_order_195 : decode cX9_order 195 = .ok (.goto 5, 3) := by decide +kernel
theorem dX9_order_198 : decode cX9_order 198 = .ok (.iload 6, 2) := by decide +kernel
theorem dX9_order_200 : decode cX9_order 200 = .ok (.iastore, 1) := by decide +kernel
theorem dX9_order_201 : decode cX9_order 201 = .ok (.aload_n 0, 1) := by decide +kernel
theorem dX9_order_202 : decode cX9_order 202 = .ok (.getfield 11, 3) := by decide +kernel
theorem dX9_order_205 : decode cX9_order 205 = .ok (.bipush 25, 2) := by decide +kernel
theorem dX9_order_207 : decode cX9_order 207 = .ok (.iconst 3, 1) := by decide +kernel
theorem dX9_order_208 : decode cX9_order 208 = .ok (.iload_n 1, 1) := by decide +kernel
theorem dX9_order_209 : decode cX9_order 209 = .ok (.imul, 1) := by decide +kernel
theorem dX9_order_210 : decode cX9_order 210 = .ok (.iadd, 1) := by decide +kernel
theorem dX9_order_211 : decode cX9_order 211 = .ok (.iconst 1, 1) := by decide +kernel
theorem dX9_order_212 : decode cX9_order 212 = .ok (.iadd, 1) := by decide +kernel
theorem dX9_order_213 : decode cX9_order 213 = .ok (.iload 11, 2) := by decide +kernel
theorem dX9_order_215 : decode cX9_order 215 = .ok (.ifCond .ne 8, 3) := by decide +kernel
theorem dX9_order_218 : decode cX9_order 218 = .ok (.iload 4, 2) := by decide +kernel
theorem dX9_order_220 : decode cX9_order 220 = .ok (.goto 16, 3) := by decide +kernel
theorem dX9_order_223 : decode cX9_order 223 = .ok (.iload 11, 2) := by decide +kernel
theorem dX9_order_225 : decode cX9_order 225 = .ok (.iconst 1, 1) := by decide +kernel
theorem dX9_order_226 : decode cX9_order 226 = .ok (.if_icmp .ne 8, 3) := by decide +kernel
theorem dX9_order_229 : decode cX9_order 229 = .ok (.iload 5, 2) := by decide +kernel
theorem dX9_order_231 : decode cX9_order 231 = .ok (.goto 5, 3) := by decide +kernel
theorem dX9_order_234 : decode cX9_order 234 = .ok (.iload 6, 2) := by decide +kernel
theorem dX9_order_236 : decode cX9_order 236 = .ok (.iastore, 1) := by decide +kernel
theorem dX9_order_237 : decode cX9_order 237 = .ok (.aload_n 0, 1) := by decide +kernel
theorem dX9_order_238 : decode cX9_order 238 = .ok (.getfield 11, 3) := by decide +kernel
theorem dX9_order_241 : decode cX9_order 241 = .ok (.bipush 25, 2) := by decide +kernel
theorem dX9_order_243 : decode cX9_order 243 = .ok (.iconst 3, 1) := by decide +kernel
theorem dX9_order_244 : decode cX9_order 244 = .ok (.iload_n 1, 1) := by decide +kernel
theorem dX9_order_245 : decode cX9_order 245 = .ok (.imul, 1) := by decide +kernel
theorem dX9_order_246 : decode cX9_order 246 = .ok (.iadd, 1) := by decide +kernel
theorem dX9_order_247 : decode cX9_order 247 = .ok (.iconst 2, 1) := by decide +kernel
theorem dX9_order_248 : decode cX9_order 248 = .ok (.iadd, 1) := by decide +kernel
theorem dX9_order_249 : decode cX9_order 249 = .ok (.iload 12, 2) := by decide +kernel
theorem dX9_order_251 : decode cX9_order 251 = .ok (.ifCond .ne 8, 3) := by decide +kernel
theorem dX9_order_254 : decode cX9_order 254 = .ok (.iload 4, 2) := by decide +kernel
theorem dX9_order_256 : decode cX9_order 256 = .ok (.goto 16, 3) := by decide +kernel
theorem dX9_order_259 : decode cX9_order 259 = .ok (.iload 12, 2) := by decide +kernel
theorem dX9_order_261 : decode cX9_order 261 = .ok (.iconst 1, 1) := by decide +kernel
theorem dX9_order_262 : decode cX9_order 262 = .ok (.if_icmp .ne 8, 3) := by decide +kernel
theorem dX9_order_265 : decode cX9_order 265 = .ok (.iload 5, 2) := by decide +kernel
theorem dX9_order_267 : decode cX9_order 267 = .ok (.goto 5, 3) := by decide +kernel
theorem dX9_order_270 : decode cX9_order 270 = .ok (.iload 6, 2) := by decide +kernel
theorem dX9_order_272 : decode cX9_order 272 = .ok (.iastore, 1) := by decide +kernel
theorem dX9_order_273 : decode cX9_order 273 = .ok (.aload_n 0, 1) := by decide +kernel
theorem dX9_order_274 : decode cX9_order 274 = .ok (.invokevirtual 179, 3) := by decide +kernel
theorem dX9_order_277 : decode cX9_order 277 = .ok (.istore 13, 2) := by decide +kernel
theorem dX9_order_279 : decode cX9_order 279 = .ok (.iload 7, 2) := by decide +kernel
theorem dX9_order_281 : decode cX9_order 281 = .ok (.iconst (-1), 1) := by decide +kernel
theorem dX9_order_282 : decode cX9_order 282 = .ok (.if_icmp .eq 13, 3) := by decide +kernel
theorem dX9_order_285 : decode cX9_order 285 = .ok (.iload 13, 2) := by decide +kernel
theorem dX9_order_287 : decode cX9_order 287 = .ok (.iload 7, 2) := by decide +kernel
theorem dX9_order_289 : decode cX9_order 289 = .ok (.if_icmp .lt 6, 3) := by decide +kernel
theorem dX9_order_292 : decode cX9_order 292 = .ok (.goto 22, 3) := by decide +kernel
theorem dX9_order_295 : decode cX9_order 295 = .ok (.iload 13, 2) := by decide +kernel
theorem dX9_order_297 : decode cX9_order 297 = .ok (.istore 7, 2) := by decide +kernel
theorem dX9_order_299 : decode cX9_order 299 = .ok (.iload_n 2, 1) := by decide +kernel
theorem dX9_order_300 : decode cX9_order 300 = .ok (.ifCond .le 14, 3) := by decide +kernel
theorem dX9_order_303 : decode cX9_order 303 = .ok (.aload_n 0, 1) := by decide +kernel
theorem dX9_order_304 : decode cX9_order 304 = .ok (.iload_n 1, 1) := by decide +kernel
theorem dX9_order_305 : decode cX9_order 305 = .ok (.iload_n 2, 1) := by decide +kernel
theorem dX9_order_306 : decode cX9_order 306 = .ok (.bipush 10, 2) := by decide +kernel
theorem dX9_order_308 : decode cX9_order 308 = .ok (.isub, 1) := by decide +kernel
theorem dX9_order_309 : decode cX9_order 309 = .ok (.invokevirtual 86, 3) := by decide +kernel
theorem dX9_order_312 : decode cX9_order 312 = .ok (.istore 8, 2) := by decide +kernel
theorem dX9_order_314 : decode cX9_order 314 = .ok (.iinc 9 1, 3) := by decide +kernel
theorem dX9_order_317 : decode cX9_order 317 = .ok (.goto (-224), 3) := by decide +kernel
theorem dX9_order_320 : decode cX9_order 320 = .ok (.aload_n 0, 1) := by decide +kernel
theorem dX9_order_321 : decode cX9_order 321 = .ok (.getfield 11, 3) := by decide +kernel
theorem dX9_order_324 : decode cX9_order 324 = .ok (.bipush 25, 2) := by decide +kernel
theorem dX9_order_326 : decode cX9_order 326 = .ok (.iconst 3, 1) := by decide +kernel
theorem dX9_order_327 : decode cX9_order 327 = .ok (.iload_n 1, 1) := by decide +kernel
theorem dX9_order_328 : decode cX9_order 328 = .ok (.imul, 1) := by decide +kernel
theorem dX9_order_329 : decode cX9_order 329 = .ok (.iadd, 1) := by decide +kernel
theorem dX9_order_330 : decode cX9_order 330 = .ok (.iload 4, 2) := by decide +kernel
theorem dX9_order_332 : decode cX9_order 332 = .ok (.iastore, 1) := by decide +kernel
theorem dX9_order_333 : decode cX9_order 333 = .ok (.aload_n 0, 1) := by decide +kernel
theorem dX9_order_334 : decode cX9_order 334 = .ok (.getfield 11, 3) := by decide +kernel
theorem dX9_order_337 : decode cX9_order 337 = .ok (.bipush 25, 2) := by decide +kernel
theorem dX9_order_339 : decode cX9_order 339 = .ok (.iconst 3, 1) := by decide +kernel
theorem dX9_order_340 : decode cX9_order 340 = .ok (.iload_n 1, 1) := by decide +kernel
theorem dX9_order_341 : decode cX9_order 341 = .ok (.imul, 1) := by decide +kernel
theorem dX9_order_342 : decode cX9_order 342 = .ok (.iadd, 1) := by decide +kernel
theorem dX9_order_343 : decode cX9_order 343 = .ok (.iconst 1, 1) := by decide +kernel
theorem dX9_order_344 : decode cX9_order 344 = .ok (.iadd, 1) := by decide +kernel
theorem dX9_order_345 : decode cX9_order 345 = .ok (.iload 5, 2) := by decide +kernel
theorem dX9_order_347 : decode cX9_order 347 = .ok (.iastore, 1) := by decide +kernel
theorem dX9_order_348 : decode cX9_order 348 = .ok (.aload_n 0, 1) := by decide +kernel
theorem dX9_order_349 : decode cX9_order 349 = .ok (.getfield 11, 3) := by decide +kernel
theorem dX9_order_352 : decode cX9_order 352 = .ok (.bipush 25, 2) := by decide +kernel
theorem dX9_order_354 : decode cX9_order 354 = .ok (.iconst 3, 1) := by decide +kernel
theorem dX9_order_355 : decode cX9_order 355 = .ok (.iload_n 1, 1) := by decide +kernel
theorem dX9_order_356 : decode cX9_order 356 = .ok (.imul, 1) := by decide +kernel
theorem dX9_order_357 : decode cX9_order 357 = .ok (.iadd, 1) := by decide +kernel
theorem dX9_order_358 : decode cX9_order 358 = .ok (.iconst 2, 1) := by decide +kernel
theorem dX9_order_359 : decode cX9_order 359 = .ok (.iadd, 1) := by decide +kernel
theorem dX9_order_360 : decode cX9_order 360 = .ok (.iload 6, 2) := by decide +kernel
theorem dX9_order_362 : decode cX9_order 362 = .ok (.iastore, 1) := by decide +kernel
theorem dX9_order_363 : decode cX9_order 363 = .ok (.iload_n 2, 1) := by decide +kernel
theorem dX9_order_364 : decode cX9_order 364 = .ok (.ifCond .ne 8, 3) := by decide +kernel
theorem dX9_order_367 : decode cX9_order 367 = .ok (.iload 7, 2) := by decide +kernel
theorem dX9_order_369 : decode cX9_order 369 = .ok (.goto 5, 3) := by decide +kernel
theorem dX9_order_372 : decode cX9_order 372 = .ok (.iload 8, 2) := by decide +kernel
theorem dX9_order_374 : decode cX9_order 374 = .ok (.ireturn, 1) := by decide +kernel
theorem dX9_tries_0 : decode cX9_tries 0 = .ok (.iload_n 2, 1) := by decide +kernel
theorem dX9_tries_1 : decode cX9_tries 1 = .ok (.iconst 1, 1) := by decide +kernel
theorem dX9_tries_2 : decode cX9_tries 2 = .ok (.if_icmp .ne 8, 3) := by decide +kernel
theorem dX9_tries_5 : decode cX9_tries 5 = .ok (.iload_n 3, 1) := by decide +kernel
theorem dX9_tries_6 : decode cX9_tries 6 = .ok (.i2l, 1) := by decide +kernel
theorem dX9_tries_7 : decode cX9_tries 7 = .ok (.goto 8, 3) := by decide +kernel
theorem dX9_tries_10 : decode cX9_tries 10 = .ok (.iload_n 3, 1) := by decide +kernel
theorem dX9_tries_11 : decode cX9_tries 11 = .ok (.iload 4, 2) := by decide +kernel
theorem dX9_tries_13 : decode cX9_tries 13 = .ok (.imul, 1) := by decide +kernel
theorem dX9_tries_14 : decode cX9_tries 14 = .ok (.i2l, 1) := by decide +kernel
theorem dX9_tries_15 : decode cX9_tries 15 = .ok (.lstore 7, 2) := by decide +kernel
theorem dX9_tries_17 : decode cX9_tries 17 = .ok (.iload_n 2, 1) := by decide +kernel
theorem dX9_tries_18 : decode cX9_tries 18 = .ok (.iconst 1, 1) := by decide +kernel
theorem dX9_tries_19 : decode cX9_tries 19 = .ok (.if_icmp .ne 9, 3) := by decide +kernel
theorem dX9_tries_22 : decode cX9_tries 22 = .ok (.iload 5, 2) := by decide +kernel
theorem dX9_tries_24 : decode cX9_tries 24 = .ok (.i2l, 1) := by decide +kernel
theorem dX9_tries_25 : decode cX9_tries 25 = .ok (.goto 9, 3) := by decide +kernel
theorem dX9_tries_28 : decode cX9_tries 28 = .ok (.iload 5, 2) := by decide +kernel
theorem dX9_tries_30 : decode cX9_tries 30 = .ok (.iload 6, 2) := by decide +kernel
theorem dX9_tries_32 : decode cX9_tries 32 = .ok (.imul, 1) := by decide +kernel
theorem dX9_tries_33 : decode cX9_tries 33 = .ok (.i2l, 1) := by decide +kernel
theorem dX9_tries_34 : decode cX9_tries 34 = .ok (.lstore 9, 2) := by decide +kernel
theorem dX9_tries_36 : decode cX9_tries 36 = .ok (.aload_n 0, 1) := by decide +kernel
theorem dX9_tries_37 : decode cX9_tries 37 = .ok (.iload_n 1, 1) := by decide +kernel
theorem dX9_tries_38 : decode cX9_tries 38 = .ok (.lload 7, 2) := by decide +kernel
theorem dX9_tries_40 : decode cX9_tries 40 = .ok (.lload 9, 2) := by decide +kernel
theorem dX9_tries_42 : decode cX9_tries 42 = .ok (.invokevirtual 164, 3) := by decide +kernel
theorem dX9_tries_45 : decode cX9_tries 45 = .ok (.lstore 11, 2) := by decide +kernel
theorem dX9_tries_47 : decode cX9_tries 47 = .ok (.lload 11, 2) := by decide +kernel
theorem dX9_tries_49 : decode cX9_tries 49 = .ok (.lconst 0, 1) := by decide +kernel
theorem dX9_tries_50 : decode cX9_tries 50 = .ok (.lcmp, 1) := by decide +kernel
theorem dX9_tries_51 : decode cX9_tries 51 = .ok (.ifCond .ge 8, 3) := by decide +kernel
theorem dX9_tries_54 : decode cX9_tries 54 = .ok (.lload 11, 2) := by decide +kernel
theorem dX9_tries_56 : decode cX9_tries 56 = .ok (.lneg, 1) := by decide +kernel
theorem dX9_tries_57 : decode cX9_tries 57 = .ok (.lstore 11, 2) := by decide +kernel
theorem dX9_tries_59 : decode cX9_tries 59 = .ok (.iload_n 3, 1) := by decide +kernel
theorem dX9_tries_60 : decode cX9_tries 60 = .ok (.iload 5, 2) := by decide +kernel
theorem dX9_tries_62 : decode cX9_tries 62 = .ok (.iadd, 1) := by decide +kernel
theorem dX9_tries_63 : decode cX9_tries 63 = .ok (.iload_n 2, 1) := by decide +kernel
theorem dX9_tries_64 : decode cX9_tries 64 = .ok (.iconst 1, 1) := by decide +kernel
theorem dX9_tries_65 : decode cX9_tries 65 = .ok (.if_icmp .ne 7, 3) := by decide +kernel
theorem dX9_tries_68 : decode cX9_tries 68 = .ok (.iconst 0, 1) := by decide +kernel
theorem dX9_tries_69 : decode cX9_tries 69 = .ok (.goto 8, 3) := by decide +kernel
theorem dX9_tries_72 : decode cX9_tries 72 = .ok (.iload 4, 2) := by decide +kernel
theorem dX9_tries_74 : decode cX9_tries 74 = .ok (.iload 6, 2) := by decide +kernel
theorem dX9_tries_76 : decode cX9_tries 76 = .ok (.iadd, 1) := by decide +kernel
theorem dX9_tries_77 : decode cX9_tries 77 = .ok (.iadd, 1) := by decide +kernel
theorem dX9_tries_78 : decode cX9_tries 78 = .ok (.istore 13, 2) := by decide +kernel
theorem dX9_tries_80 : decode cX9_tries 80 = .ok (.aload_n 0, 1) := by decide +kernel
theorem dX9_tries_81 : decode cX9_tries 81 = .ok (.getfield 182, 3) := by decide +kernel
theorem dX9_tries_84 : decode cX9_tries 84 = .ok (.ifCond .le 55, 3) := by decide +kernel
theorem dX9_tries_87 : decode cX9_tries 87 = .ok (.lload 11, 2) := by decide +kernel
theorem dX9_tries_89 : decode cX9_tries 89 = .ok (.aload_n 0, 1) := by decide +kernel
theorem dX9_tries_90 : decode cX9_tries 90 = .ok (.getfield 185, 3) := by decide +kernel
theorem dX9_tries_93 : decode cX9_tries 93 = .ok (.lmul, 1) := by decide +kernel
theorem dX9_tries_94 : decode cX9_tries 94 = .ok (.lstore 14, 2) := by decide +kernel
theorem dX9_tries_96 : decode cX9_tries 96 = .ok (.aload_n 0, 1) := by decide +kernel
theorem dX9_tries_97 : decode cX9_tries 97 = .ok (.getfield 189, 3) := by decide +kernel
theorem dX9_tries_100 : decode cX9_tries 100 = .ok (.lload 9, 2) := by decide +kernel
theorem dX9_tries_102 : decode cX9_tries 102 = .ok (.lmul, 1) := by decide +kernel
theorem dX9_tries_103 : decode cX9_tries 103 = .ok (.lstore 16, 2) := by decide +kernel
theorem dX9_tries_105 : decode cX9_tries 105 = .ok (.lload 14, 2) := by decide +kernel
theorem dX9_tries_107 : decode cX9_tries 107 = .ok (.lload 16, 2) := by decide +kernel
theorem dX9_tries_109 : decode cX9_tries 109 = .ok (.lcmp, 1) := by decide +kernel
theorem dX9_tries_110 : decode cX9_tries 110 = .ok (.ifCond .gt 28, 3) := by decide +kernel
theorem dX9_tries_113 : decode cX9_tries 113 = .ok (.lload 14, 2) := by decide +kernel
theorem dX9_tries_115 : decode cX9_tries 115 = .ok (.lload 16, 2) := by decide +kernel
theorem dX9_tries_117 : decode cX9_tries 117 = .ok (.lcmp, 1) := by decide +kernel
theorem dX9_tries_118 : decode cX9_tries 118 = .ok (.ifCond .ne 21, 3) := by decide +kernel
theorem dX9_tries_121 : decode cX9_tries 121 = .ok (.iload_n 2, 1) := by decide +kernel
theorem dX9_tries_122 : decode cX9_tries 122 = .ok (.aload_n 0, 1) := by decide +kernel
theorem dX9_tries_123 : decode cX9_tries 123 = .ok (.getfield 182, 3) := by decide +kernel
theorem dX9_tries_126 : decode cX9_tries 126 = .ok (.if_icmp .gt 12, 3) := by decide +kernel
theorem dX9_tries_129 : decode cX9_tries 129 = .ok (.iload 13, 2) := by decide +kernel
theorem dX9_tries_131 : decode cX9_tries 131 = .ok (.aload_n 0, 1) := by decide +kernel
theorem dX9_tries_132 : decode cX9_tries 132 = .ok (.getfield 192, 3) := by decide +kernel
theorem dX9_tries_135 : decode cX9_tries 135 = .ok (.if_icmp .lt 4, 3) := by decide +kernel
theorem dX9_tries_138 : decode cX9_tries 138 = .ok (.return_, 1) := by decide +kernel
theorem dX9_tries_139 : decode cX9_tries 139 = .ok (.aload_n 0, 1) := by decide +kernel
theorem dX9_tries_140 : decode cX9_tries 140 = .ok (.iload_n 2, 1) := by decide +kernel
theorem dX9_tries_141 : decode cX9_tries 141 = .ok (.putfield 182, 3) := by decide +kernel
theorem dX9_tries_144 : decode cX9_tries 144 = .ok (.aload_n 0, 1) := by decide +kernel
theorem dX9_tries_145 : decode cX9_tries 145 = .ok (.iload 13, 2) := by decide +kernel
theorem dX9_tries_147 : decode cX9_tries 147 = .ok (.putfield 192, 3) := by decide +kernel
theorem dX9_tries_150 : decode cX9_tries 150 = .ok (.aload_n 0, 1) := by decide +kernel
theorem dX9_tries_151 : decode cX9_tries 151 = .ok (.iload_n 3, 1) := by decide +kernel
theorem dX9_tries_152 : decode cX9_tries 152 = .ok (.putfield 195, 3) := by decide +kernel
theorem dX9_tries_155 : decode cX9_tries 155 = .ok (.aload_n 0, 1) := by decide +kernel
theorem dX9_tries_156 : decode cX9_tries 156 = .ok (.iload 4, 2) := by decide +kernel
theorem dX9_tries_158 : decode cX9_tries 158 = .ok (.putfield 198, 3) := by decide +kernel
theorem dX9_tries_161 : decode cX9_tries 161 = .ok (.aload_n 0, 1) := by decide +kernel
theorem dX9_tries_162 : decode cX9_tries 162 = .ok (.iload 5, 2) := by decide +kernel
theorem dX9_tries_164 : decode cX9_tries 164 = .ok (.putfield 201, 3) := by decide +kernel
theorem dX9_tries_167 : decode cX9_tries 167 = .ok (.aload_n 0, 1) := by decide +kernel
theorem dX9_tries_168 : decode cX9_tries 168 = .ok (.iload 6, 2) := by decide +kernel
theorem dX9_tries_170 : decode cX9_tries 170 = .ok (.putfield 204, 3) := by decide +kernel
theorem dX9_tries_173 : decode cX9_tries 173 = .ok (.aload_n 0, 1) := by decide +kernel
theorem dX9_tries_174 : decode cX9_tries 174 = .ok (.lload 11, 2) := by decide +kernel
theorem dX9_tries_176 : decode cX9_tries 176 = .ok (.putfield 189, 3) := by decide +kernel
theorem dX9_tries_179 : decode cX9_tries 179 = .ok (.aload_n 0, 1) := by decide +kernel
theorem dX9_tries_180 : decode cX9_tries 180 = .ok (.lload 9, 2) := by decide +kernel
theorem dX9_tries_182 : decode cX9_tries 182 = .ok (.putfield 185, 3) := by decide +kernel
theorem dX9_tries_185 : decode cX9_tries 185 = .ok (.return_, 1) := by decide +kernel
theorem dX9_finds_0 : decode cX9_finds 0 = .ok (.aload_n 0, 1) := by decide +kernel
theorem dX9_finds_1 : decode cX9_finds 1 = .ok (.iconst 0, 1) := by decide +kernel
theorem dX9_finds_2 : decode cX9_finds 2 = .ok (.putfield 182, 3) := by decide +kernel
theorem dX9_finds_5 : decode cX9_finds 5 = .ok (.aload_n 0, 1) := by decide +kernel
theorem dX9_finds_6 : decode cX9_finds 6 = .ok (.getfield 11, 3) := by decide +kernel
theorem dX9_finds_9 : decode cX9_finds 9 = .ok (.iconst 1, 1) := by decide +kernel
theorem dX9_finds_10 : decode cX9_finds 10 = .ok (.iaload, 1) := by decide +kernel
theorem dX9_finds_11 : decode cX9_finds 11 = .ok (.istore_n 2, 1) := by decide +kernel
theorem dX9_finds_12 : decode cX9_finds 12 = .ok (.iload_n 2, 1) := by decide +kernel
theorem dX9_finds_13 : decode cX9_finds 13 = .ok (.aload_n 0, 1) := by decide +kernel
theorem dX9_finds_14 : decode cX9_finds 14 = .ok (.getfield 11, 3) := by decide +kernel
theorem dX9_finds_17 : decode cX9_finds 17 = .ok (.iconst 2, 1) := by decide +kernel
theorem dX9_finds_18 : decode cX9_finds 18 = .ok (.iaload, 1) := by decide +kernel
theorem dX9_finds_19 : decode cX9_finds 19 = .ok (.if_icmp .gt 42, 3) := by decide +kernel
theorem dX9_finds_22 : decode cX9_finds 22 = .ok (.aload_n 0, 1) := by decide +kernel
theorem dX9_finds_23 : decode cX9_finds 23 = .ok (.getfield 11, 3) := by decide +kernel
theorem dX9_finds_26 : decode cX9_finds 26 = .ok (.iconst 1, 1) := by decide +kernel
theorem dX9_finds_27 : decode cX9_finds 27 = .ok (.iaload, 1) := by decide +kernel
theorem dX9_finds_28 : decode cX9_finds 28 = .ok (.istore_n 3, 1) := by decide +kernel
theorem dX9_finds_29 : decode cX9_finds 29 = .ok (.iload_n 3, 1) := by decide +kernel
theorem dX9_finds_30 : decode cX9_finds 30 = .ok (.aload_n 0, 1) := by decide +kernel
theorem dX9_finds_31 : decode cX9_finds 31 = .ok (.getfield 11, 3) := by decide +kernel
theorem dX9_finds_34 : decode cX9_finds 34 = .ok (.iconst 2, 1) := by decide +kernel
theorem dX9_finds_35 : decode cX9_finds 35 = .ok (.iaload, 1) := by decide +kernel
theorem dX9_finds_36 : decode cX9_finds 36 = .ok (.if_icmp .gt 19, 3) := by decide +kernel
theorem dX9_finds_39 : decode cX9_finds 39 = .ok (.aload_n 0, 1) := by decide +kernel
theorem dX9_finds_40 : decode cX9_finds 40 = .ok (.iload_n 1, 1) := by decide +kernel
theorem dX9_finds_41 : decode cX9_finds 41 = .ok (.iconst 1, 1) := by decide +kernel
theorem dX9_finds_42 : decode cX9_finds 42 = .ok (.iload_n 2, 1) := by decide +kernel
theorem dX9_finds_43 : decode cX9_finds 43 = .ok (.iconst 1, 1) := by decide +kernel
theorem dX9_finds_44 : decode cX9_finds 44 = .ok (.iload_n 3, 1) := by decide +kernel
theorem dX9_finds_45 : decode cX9_finds 45 = .ok (.iconst 1, 1) := by decide +kernel
theorem dX9_finds_46 : decode cX9_finds 46 = .ok (.invokevirtual 207, 3) := by decide +kernel
theorem dX9_finds_49 : decode cX9_finds 49 = .ok (.iinc 3 1, 3) := by decide +kernel
theorem dX9_finds_52 : decode cX9_finds 52 = .ok (.goto (-23), 3) := by decide +kernel
theorem dX9_finds_55 : decode cX9_finds 55 = .ok (.iinc 2 1, 3) := by decide +kernel
theorem dX9_finds_58 : decode cX9_finds 58 = .ok (.goto (-46), 3) := by decide +kernel
theorem dX9_finds_61 : decode cX9_finds 61 = .ok (.aload_n 0, 1) := by decide +kernel
theorem dX9_finds_62 : decode cX9_finds 62 = .ok (.getfield 11, 3) := by decide +kernel
theorem dX9_finds_65 : decode cX9_finds 65 = .ok (.iconst 1, 1) := by decide +kernel
theorem dX9_finds_66 : decode cX9_finds 66 = .ok (.iaload, 1) := by decide +kernel
theorem dX9_finds_67 : decode cX9_finds 67 = .ok (.istore_n 2, 1) := by decide +kernel
theorem dX9_finds_68 : decode cX9_finds 68 = .ok (.iload_n 2, 1) := by decide +kernel
theorem dX9_finds_69 : decode cX9_finds 69 = .ok (.aload_n 0, 1) := by decide +kernel
theorem dX9_finds_70 : decode cX9_finds 70 = .ok (.getfield 11, 3) := by decide +kernel
theorem dX9_finds_73 : decode cX9_finds 73 = .ok (.iconst 2, 1) := by decide +kernel
theorem dX9_finds_74 : decode cX9_finds 74 = .ok (.iaload, 1) := by decide +kernel
theorem dX9_finds_75 : decode cX9_finds 75 = .ok (.if_icmp .gt 85, 3) := by decide +kernel
theorem dX9_finds_78 : decode cX9_finds 78 = .ok (.iload_n 2, 1) := by decide +kernel
theorem dX9_finds_79 : decode cX9_finds 79 = .ok (.istore_n 3, 1) := by decide +kernel
theorem dX9_finds_80 : decode cX9_finds 80 = .ok (.iload_n 3, 1) := by decide +kernel
theorem dX9_finds_81 : decode cX9_finds 81 = .ok (.aload_n 0, 1) := by decide +kernel
theorem dX9_finds_82 : decode cX9_finds 82 = .ok (.getfield 11, 3) := by decide +kernel
theorem dX9_finds_85 : decode cX9_finds 85 = .ok (.iconst 2, 1) := by decide +kernel
theorem dX9_finds_86 : decode cX9_finds 86 = .ok (.iaload, 1) := by decide +kernel
theorem dX9_finds_87 : decode cX9_finds 87 = .ok (.if_icmp .gt 67, 3) := by decide +kernel
theorem dX9_finds_90 : decode cX9_finds 90 = .ok (.aload_n 0, 1) := by decide +kernel
theorem dX9_finds_91 : decode cX9_finds 91 = .ok (.getfield 11, 3) := by decide +kernel
theorem dX9_finds_94 : decode cX9_finds 94 = .ok (.iconst 1, 1) := by decide +kernel
theorem dX9_finds_95 : decode cX9_finds 95 = .ok (.iaload, 1) := by decide +kernel
theorem dX9_finds_96 : decode cX9_finds 96 = .ok (.istore 4, 2) := by decide +kernel
theorem dX9_finds_98 : decode cX9_finds 98 = .ok (.iload 4, 2) := by decide +kernel
theorem dX9_finds_100 : decode cX9_finds 100 = .ok (.aload_n 0, 1) := by decide +kernel
theorem dX9_finds_101 : decode cX9_finds 101 = .ok (.getfield 11, 3) := by decide +kernel
theorem dX9_finds_104 : decode cX9_finds 104 = .ok (.iconst 2, 1) := by decide +kernel
theorem dX9_finds_105 : decode cX9_finds 105 = .ok (.iaload, 1) := by decide +kernel
theorem dX9_finds_106 : decode cX9_finds 106 = .ok (.if_icmp .gt 42, 3) := by decide +kernel
theorem dX9_finds_109 : decode cX9_finds 109 = .ok (.iload 4, 2) := by decide +kernel
theorem dX9_finds_111 : decode cX9_finds 111 = .ok (.istore 5, 2) := by decide +kernel
theorem dX9_finds_113 : decode cX9_finds 113 = .ok (.iload 5, 2) := by decide +kernel
theorem dX9_finds_115 : decode cX9_finds 115 = .ok (.aload_n 0, 1) := by decide +kernel
theorem dX9_finds_116 : decode cX9_finds 116 = .ok (.getfield 11, 3) := by decide +kernel
theorem dX9_finds_119 : decode cX9_finds 119 = .ok (.iconst 2, 1) := by decide +kernel
theorem dX9_finds_120 : decode cX9_finds 120 = .ok (.iaload, 1) := by decide +kernel
theorem dX9_finds_121 : decode cX9_finds 121 = .ok (.if_icmp .gt 21, 3) := by decide +kernel
theorem dX9_finds_124 : decode cX9_finds 124 = .ok (.aload_n 0, 1) := by decide +kernel
theorem dX9_finds_125 : decode cX9_finds 125 = .ok (.iload_n 1, 1) := by decide +kernel
theorem dX9_finds_126 : decode cX9_finds 126 = .ok (.iconst 2, 1) := by decide +kernel
theorem dX9_finds_127 : decode cX9_finds 127 = .ok (.iload_n 2, 1) := by decide +kernel
theorem dX9_finds_128 : decode cX9_finds 128 = .ok (.iload_n 3, 1) := by decide +kernel
theorem dX9_finds_129 : decode cX9_finds 129 = .ok (.iload 4, 2) := by decide +kernel
theorem dX9_finds_131 : decode cX9_finds 131 = .ok (.iload 5, 2) := by decide +kernel
theorem dX9_finds_133 : decode cX9_finds 133 = .ok (.invokevirtual 207, 3) := by decide +kernel
theorem dX9_finds_136 : decode cX9_finds 136 = .ok (.iinc 5 1, 3) := by decide +kernel
theorem dX9_finds_139 : decode cX9_finds 139 = .ok (.goto (-26), 3) := by decide +kernel
theorem dX9_finds_142 : decode cX9_finds 142 = .ok (.iinc 4 1, 3) := by decide +kernel
theorem dX9_finds_145 : decode cX9_finds 145 = .ok (.goto (-47), 3) := by decide +kernel
theorem dX9_finds_148 : decode cX9_finds 148 = .ok (.iinc 3 1, 3) := by decide +kernel
theorem dX9_finds_151 : decode cX9_finds 151 = .ok (.goto (-71), 3) := by decide +kernel
theorem dX9_finds_154 : decode cX9_finds 154 = .ok (.iinc 2 1, 3) := by decide +kernel
theorem dX9_finds_157 : decode cX9_finds 157 = .ok (.goto (-89), 3) := by decide +kernel
theorem dX9_finds_160 : decode cX9_finds 160 = .ok (.return_, 1) := by decide +kernel
theorem dX9_found_0 : decode cX9_found 0 = .ok (.aload_n 0, 1) := by decide +kernel
theorem dX9_found_1 : decode cX9_found 1 = .ok (.iload_n 1, 1) := by decide +kernel
theorem dX9_found_2 : decode cX9_found 2 = .ok (.invokevirtual 62, 3) := by decide +kernel
theorem dX9_found_5 : decode cX9_found 5 = .ok (.ifCond .eq 27, 3) := by decide +kernel
theorem dX9_found_8 : decode cX9_found 8 = .ok (.iload_n 2, 1) := by decide +kernel
theorem dX9_found_9 : decode cX9_found 9 = .ok (.i2l, 1) := by decide +kernel
theorem dX9_found_10 : decode cX9_found 10 = .ok (.lconst 0, 1) := by decide +kernel
theorem dX9_found_11 : decode cX9_found 11 = .ok (.lconst 1, 1) := by decide +kernel
theorem dX9_found_12 : decode cX9_found 12 = .ok (.invokestatic 44, 3) := by decide +kernel
theorem dX9_found_15 : decode cX9_found 15 = .ok (.ifCond .ne 19, 3) := by decide +kernel
theorem dX9_found_18 : decode cX9_found 18 = .ok (.iload_n 2, 1) := by decide +kernel
theorem dX9_found_19 : decode cX9_found 19 = .ok (.i2l, 1) := by decide +kernel
theorem dX9_found_20 : decode cX9_found 20 = .ok (.ldc2_w 77, 3) := by decide +kernel
theorem dX9_found_23 : decode cX9_found 23 = .ok (.ldc2_w 211, 3) := by decide +kernel
theorem dX9_found_26 : decode cX9_found 26 = .ok (.invokestatic 44, 3) := by decide +kernel
theorem dX9_found_29 : decode cX9_found 29 = .ok (.ifCond .ne 5, 3) := by decide +kernel
theorem dX9_found_32 : decode cX9_found 32 = .ok (.iconst (-1), 1) := by decide +kernel
theorem dX9_found_33 : decode cX9_found 33 = .ok (.ireturn, 1) := by decide +kernel
theorem dX9_found_34 : decode cX9_found 34 = .ok (.aload_n 0, 1) := by decide +kernel
theorem dX9_found_35 : decode cX9_found 35 = .ok (.iload_n 1, 1) := by decide +kernel
theorem dX9_found_36 : decode cX9_found 36 = .ok (.invokevirtual 213, 3) := by decide +kernel
theorem dX9_found_39 : decode cX9_found 39 = .ok (.iload_n 2, 1) := by decide +kernel
theorem dX9_found_40 : decode cX9_found 40 = .ok (.tableswitch 106 0 12 #[68, 73, 106, 106, 106, 106, 106, 106, 106, 106, 78, 83, 88], 68) := by decide +kernel
theorem dX9_found_108 : decode cX9_found 108 = .ok (.aload_n 0, 1) := by decide +kernel
theorem dX9_found_109 : decode cX9_found 109 = .ok (.getfield 182, 3) := by decide +kernel
theorem dX9_found_112 : decode cX9_found 112 = .ok (.ireturn, 1) := by decide +kernel
theorem dX9_found_113 : decode cX9_found 113 = .ok (.aload_n 0, 1) := by decide +kernel
theorem dX9_found_114 : decode cX9_found 114 = .ok (.getfield 192, 3) := by decide +kernel
theorem dX9_found_117 : decode cX9_found 117 = .ok (.ireturn, 1) := by decide +kernel
theorem dX9_found_118 : decode cX9_found 118 = .ok (.aload_n 0, 1) := by decide +kernel
theorem dX9_found_119 : decode cX9_found 119 = .ok (.getfield 195, 3) := by decide +kernel
theorem dX9_found_122 : decode cX9_found 122 = .ok (.ireturn, 1) := by decide +kernel
theorem dX9_found_123 : decode cX9_found 123 = .ok (.aload_n 0, 1) := by decide +kernel
theorem dX9_found_124 : decode cX9_found 124 = .ok (.getfield 201, 3) := by decide +kernel
theorem dX9_found_127 : decode cX9_found 127 = .ok (.ireturn, 1) := by decide +kernel
theorem dX9_found_128 : decode cX9_found 128 = .ok (.aload_n 0, 1) := by decide +kernel
theorem dX9_found_129 : decode cX9_found 129 = .ok (.getfield 182, 3) := by decide +kernel
theorem dX9_found_132 : decode cX9_found 132 = .ok (.iconst 2, 1) := by decide +kernel
theorem dX9_found_133 : decode cX9_found 133 = .ok (.if_icmp .ne 10, 3) := by decide +kernel
theorem dX9_found_136 : decode cX9_found 136 = .ok (.aload_n 0, 1) := by decide +kernel
theorem dX9_found_137 : decode cX9_found 137 = .ok (.getfield 198, 3) := by decide +kernel
theorem dX9_found_140 : decode cX9_found 140 = .ok (.goto 5, 3) := by decide +kernel
theorem dX9_found_143 : decode cX9_found 143 = .ok (.bipush (-5), 2) := by decide +kernel
theorem dX9_found_145 : decode cX9_found 145 = .ok (.ireturn, 1) := by decide +kernel
theorem dX9_found_146 : decode cX9_found 146 = .ok (.aload_n 0, 1) := by decide +kernel
theorem dX9_found_147 : decode cX9_found 147 = .ok (.getfield 182, 3) := by decide +kernel
theorem dX9_found_150 : decode cX9_found 150 = .ok (.iconst 2, 1) := by decide +kernel
theorem dX9_found_151 : decode cX9_found 151 = .ok (.if_icmp .ne 10, 3) := by decide +kernel
theorem dX9_found_154 : decode cX9_found 154 = .ok (.aload_n 0, 1) := by decide +kernel
theorem dX9_found_155 : decode cX9_found 155 = .ok (.getfield 204, 3) := by decide +kernel
theorem dX9_found_158 : decode cX9_found 158 = .ok (.goto 5, 3) := by decide +kernel
theorem dX9_found_161 : decode cX9_found 161 = .ok (.bipush (-5), 2) := by decide +kernel
theorem dX9_found_163 : decode cX9_found 163 = .ok (.ireturn, 1) := by decide +kernel
theorem dX9_foundWrong_0 : decode cX9_foundWrong 0 = .ok (.aload_n 0, 1) := by decide +kernel
theorem dX9_foundWrong_1 : decode cX9_foundWrong 1 = .ok (.iload_n 1, 1) := by decide +kernel
theorem dX9_foundWrong_2 : decode cX9_foundWrong 2 = .ok (.invokevirtual 62, 3) := by decide +kernel
theorem dX9_foundWrong_5 : decode cX9_foundWrong 5 = .ok (.ifCond .eq 10, 3) := by decide +kernel
theorem dX9_foundWrong_8 : decode cX9_foundWrong 8 = .ok (.iload_n 2, 1) := by decide +kernel
theorem dX9_foundWrong_9 : decode cX9_foundWrong 9 = .ok (.invokestatic 70, 3) := by decide +kernel
theorem dX9_foundWrong_12 : decode cX9_foundWrong 12 = .ok (.ifCond .ne 7, 3) := by decide +kernel
theorem dX9_foundWrong_15 : decode cX9_foundWrong 15 = .ok (.ldc2_w 73, 3) := by decide +kernel
theorem dX9_foundWrong_18 : decode cX9_foundWrong 18 = .ok (.lreturn, 1) := by decide +kernel
theorem dX9_foundWrong_19 : decode cX9_foundWrong 19 = .ok (.aload_n 0, 1) := by decide +kernel
theorem dX9_foundWrong_20 : decode cX9_foundWrong 20 = .ok (.iload_n 1, 1) := by decide +kernel
theorem dX9_foundWrong_21 : decode cX9_foundWrong 21 = .ok (.invokevirtual 213, 3) := by decide +kernel
theorem dX9_foundWrong_24 : decode cX9_foundWrong 24 = .ok (.aload_n 0, 1) := by decide +kernel
theorem dX9_foundWrong_25 : decode cX9_foundWrong 25 = .ok (.getfield 195, 3) := by decide +kernel
theorem dX9_foundWrong_28 : decode cX9_foundWrong 28 = .ok (.i2l, 1) := by decide +kernel
theorem dX9_foundWrong_29 : decode cX9_foundWrong 29 = .ok (.aload_n 0, 1) := by decide +kernel
theorem dX9_foundWrong_30 : decode cX9_foundWrong 30 = .ok (.getfield 198, 3) := by decide +kernel
theorem dX9_foundWrong_33 : decode cX9_foundWrong 33 = .ok (.i2l, 1) := by decide +kernel
theorem dX9_foundWrong_34 : decode cX9_foundWrong 34 = .ok (.lmul, 1) := by decide +kernel
theorem dX9_foundWrong_35 : decode cX9_foundWrong 35 = .ok (.lstore_n 3, 1) := by decide +kernel
theorem dX9_foundWrong_36 : decode cX9_foundWrong 36 = .ok (.aload_n 0, 1) := by decide +kernel
theorem dX9_foundWrong_37 : decode cX9_foundWrong 37 = .ok (.getfield 201, 3) := by decide +kernel
theorem dX9_foundWrong_40 : decode cX9_foundWrong 40 = .ok (.i2l, 1) := by decide +kernel
theorem dX9_foundWrong_41 : decode cX9_foundWrong 41 = .ok (.aload_n 0, 1) := by decide +kernel
theorem dX9_foundWrong_42 : decode cX9_foundWrong 42 = .ok (.getfield 204, 3) := by decide +kernel
theorem dX9_foundWrong_45 : decode cX9_foundWrong 45 = .ok (.i2l, 1) := by decide +kernel
theorem dX9_foundWrong_46 : decode cX9_foundWrong 46 = .ok (.lmul, 1) := by decide +kernel
theorem dX9_foundWrong_47 : decode cX9_foundWrong 47 = .ok (.lstore 5, 2) := by decide +kernel
theorem dX9_foundWrong_49 : decode cX9_foundWrong 49 = .ok (.aload_n 0, 1) := by decide +kernel
theorem dX9_foundWrong_50 : decode cX9_foundWrong 50 = .ok (.iload_n 1, 1) := by decide +kernel
theorem dX9_foundWrong_51 : decode cX9_foundWrong 51 = .ok (.lload_n 3, 1) := by decide +kernel
theorem dX9_foundWrong_52 : decode cX9_foundWrong 52 = .ok (.lload 5, 2) := by decide +kernel
theorem dX9_foundWrong_54 : decode cX9_foundWrong 54 = .ok (.invokevirtual 164, 3) := by decide +kernel
theorem dX9_foundWrong_57 : decode cX9_foundWrong 57 = .ok (.lload 5, 2) := by decide +kernel
theorem dX9_foundWrong_59 : decode cX9_foundWrong 59 = .ok (.aload_n 0, 1) := by decide +kernel
theorem dX9_foundWrong_60 : decode cX9_foundWrong 60 = .ok (.getfield 11, 3) := by decide +kernel
theorem dX9_foundWrong_63 : decode cX9_foundWrong 63 = .ok (.bipush 13, 2) := by decide +kernel
theorem dX9_foundWrong_65 : decode cX9_foundWrong 65 = .ok (.iload_n 1, 1) := by decide +kernel
theorem dX9_foundWrong_66 : decode cX9_foundWrong 66 = .ok (.iadd, 1) := by decide +kernel
theorem dX9_foundWrong_67 : decode cX9_foundWrong 67 = .ok (.iaload, 1) := by decide +kernel
theorem dX9_foundWrong_68 : decode cX9_foundWrong 68 = .ok (.i2l, 1) := by decide +kernel
theorem dX9_foundWrong_69 : decode cX9_foundWrong 69 = .ok (.lmul, 1) := by decide +kernel
theorem dX9_foundWrong_70 : decode cX9_foundWrong 70 = .ok (.iload_n 2, 1) := by decide +kernel
theorem dX9_foundWrong_71 : decode cX9_foundWrong 71 = .ok (.invokestatic 50, 3) := by decide +kernel
theorem dX9_foundWrong_74 : decode cX9_foundWrong 74 = .ok (.lreturn, 1) := by decide +kernel
theorem dX9_goes_0 : decode cX9_goes 0 = .ok (.aload_n 0, 1) := by decide +kernel
theorem dX9_goes_1 : decode cX9_goes 1 = .ok (.getfield 11, 3) := by decide +kernel
theorem dX9_goes_4 : decode cX9_goes 4 = .ok (.iconst 4, 1) := by decide +kernel
theorem dX9_goes_5 : decode cX9_goes 5 = .ok (.iaload, 1) := by decide +kernel
theorem dX9_goes_6 : decode cX9_goes 6 = .ok (.iload_n 1, 1) := by decide +kernel
theorem dX9_goes_7 : decode cX9_goes 7 = .ok (.iadd, 1) := by decide +kernel
theorem dX9_goes_8 : decode cX9_goes 8 = .ok (.istore_n 2, 1) := by decide +kernel
theorem dX9_goes_9 : decode cX9_goes 9 = .ok (.aload_n 0, 1) := by decide +kernel
theorem dX9_goes_10 : decode cX9_goes 10 = .ok (.getfield 11, 3) := by decide +kernel
theorem dX9_goes_13 : decode cX9_goes 13 = .ok (.iconst 4, 1) := by decide +kernel
theorem dX9_goes_14 : decode cX9_goes 14 = .ok (.iload_n 2, 1) := by decide +kernel
theorem dX9_goes_15 : decode cX9_goes 15 = .ok (.sipush 9999, 3) := by decide +kernel
theorem dX9_goes_18 : decode cX9_goes 18 = .ok (.if_icmp .le 9, 3) := by decide +kernel
theorem dX9_goes_21 : decode cX9_goes 21 = .ok (.sipush 9999, 3) := by decide +kernel
theorem dX9_goes_24 : decode cX9_goes 24 = .ok (.goto 17, 3) := by decide +kernel
theorem dX9_goes_27 : decode cX9_goes 27 = .ok (.iload_n 2, 1) := by decide +kernel
theorem dX9_goes_28 : decode cX9_goes 28 = .ok (.sipush (-9999), 3) := by decide +kernel
theorem dX9_goes_31 : decode cX9_goes 31 = .ok (.if_icmp .ge 9, 3) := by decide +kernel
theorem dX9_goes_34 : decode cX9_goes 34 = .ok (.sipush (-9999), 3) := by decide +kernel
theorem dX9_goes_37 : decode cX9_goes 37 = .ok (.goto 4, 3) := by decide +kernel
theorem dX9_goes_40 : decode cX9_goes 40 = .ok (.iload_n 2, 1) := by decide +kernel
theorem dX9_goes_41 : decode cX9_goes 41 = .ok (.iastore, 1) := by decide +kernel
theorem dX9_goes_42 : decode cX9_goes 42 = .ok (.aload_n 0, 1) := by decide +kernel
theorem dX9_goes_43 : decode cX9_goes 43 = .ok (.getfield 11, 3) := by decide +kernel
theorem dX9_goes_46 : decode cX9_goes 46 = .ok (.iconst 5, 1) := by decide +kernel
theorem dX9_goes_47 : decode cX9_goes 47 = .ok (.iload_n 1, 1) := by decide +kernel
theorem dX9_goes_48 : decode cX9_goes 48 = .ok (.ifCond .ge 7, 3) := by decide +kernel
theorem dX9_goes_51 : decode cX9_goes 51 = .ok (.iconst 1, 1) := by decide +kernel
theorem dX9_goes_52 : decode cX9_goes 52 = .ok (.goto 4, 3) := by decide +kernel
theorem dX9_goes_55 : decode cX9_goes 55 = .ok (.iconst 0, 1) := by decide +kernel
theorem dX9_goes_56 : decode cX9_goes 56 = .ok (.iastore, 1) := by decide +kernel
theorem dX9_goes_57 : decode cX9_goes 57 = .ok (.return_, 1) := by decide +kernel
theorem dX9_turn_0 : decode cX9_turn 0 = .ok (.iload_n 1, 1) := by decide +kernel
theorem dX9_turn_1 : decode cX9_turn 1 = .ok (.i2l, 1) := by decide +kernel
theorem dX9_turn_2 : decode cX9_turn 2 = .ok (.ldc2_w 216, 3) := by decide +kernel
theorem dX9_turn_5 : decode cX9_turn 5 = .ok (.ldc2_w 75, 3) := by decide +kernel
theorem dX9_turn_8 : decode cX9_turn 8 = .ok (.invokestatic 44, 3) := by decide +kernel
theorem dX9_turn_11 : decode cX9_turn 11 = .ok (.ifCond .eq 7, 3) := by decide +kernel
theorem dX9_turn_14 : decode cX9_turn 14 = .ok (.iload_n 1, 1) := by decide +kernel
theorem dX9_turn_15 : decode cX9_turn 15 = .ok (.ifCond .ne 6, 3) := by decide +kernel
theorem dX9_turn_18 : decode cX9_turn 18 = .ok (.bipush (-2), 2) := by decide +kernel
theorem dX9_turn_20 : decode cX9_turn 20 = .ok (.ireturn, 1) := by decide +kernel
theorem dX9_turn_21 : decode cX9_turn 21 = .ok (.aload_n 0, 1) := by decide +kernel
theorem dX9_turn_22 : decode cX9_turn 22 = .ok (.getfield 11, 3) := by decide +kernel
theorem dX9_turn_25 : decode cX9_turn 25 = .ok (.iconst 4, 1) := by decide +kernel
theorem dX9_turn_26 : decode cX9_turn 26 = .ok (.iaload, 1) := by decide +kernel
theorem dX9_turn_27 : decode cX9_turn 27 = .ok (.iload_n 1, 1) := by decide +kernel
theorem dX9_turn_28 : decode cX9_turn 28 = .ok (.iadd, 1) := by decide +kernel
theorem dX9_turn_29 : decode cX9_turn 29 = .ok (.i2l, 1) := by decide +kernel
theorem dX9_turn_30 : decode cX9_turn 30 = .ok (.ldc2_w 218, 3) := by decide +kernel
theorem dX9_turn_33 : decode cX9_turn 33 = .ok (.ldc2_w 48, 3) := by decide +kernel
theorem dX9_turn_36 : decode cX9_turn 36 = .ok (.invokestatic 44, 3) := by decide +kernel
theorem dX9_turn_39 : decode cX9_turn 39 = .ok (.ifCond .ne 6, 3) := by decide +kernel
theorem dX9_turn_42 : decode cX9_turn 42 = .ok (.bipush (-3), 2) := by decide +kernel
theorem dX9_turn_44 : decode cX9_turn 44 = .ok (.ireturn, 1) := by decide +kernel
theorem dX9_turn_45 : decode cX9_turn 45 = .ok (.aload_n 0, 1) := by decide +kernel
theorem dX9_turn_46 : decode cX9_turn 46 = .ok (.iload_n 1, 1) := by decide +kernel
theorem dX9_turn_47 : decode cX9_turn 47 = .ok (.invokevirtual 220, 3) := by decide +kernel
theorem dX9_turn_50 : decode cX9_turn 50 = .ok (.aload_n 0, 1) := by decide +kernel
theorem dX9_turn_51 : decode cX9_turn 51 = .ok (.getfield 11, 3) := by decide +kernel
theorem dX9_turn_54 : decode cX9_turn 54 = .ok (.iconst 4, 1) := by decide +kernel
theorem dX9_turn_55 : decode cX9_turn 55 = .ok (.iaload, 1) := by decide +kernel
theorem dX9_turn_56 : decode cX9_turn 56 = .ok (.sipush 10000, 3) := by decide +kernel
theorem dX9_turn_59 : decode cX9_turn 59 = .ok (.iadd, 1) := by decide +kernel
theorem dX9_turn_60 : decode cX9_turn 60 = .ok (.ireturn, 1) := by decide +kernel
theorem dX9_crank_0 : decode cX9_crank 0 = .ok (.iload_n 1, 1) := by decide +kernel
theorem dX9_crank_1 : decode cX9_crank 1 = .ok (.i2l, 1) := by decide +kernel
theorem dX9_crank_2 : decode cX9_crank 2 = .ok (.lconst 0, 1) := by decide +kernel
theorem dX9_crank_3 : decode cX9_crank 3 = .ok (.lconst 1, 1) := by decide +kernel
theorem dX9_crank_4 : decode cX9_crank 4 = .ok (.invokestatic 44, 3) := by decide +kernel
theorem dX9_crank_7 : decode cX9_crank 7 = .ok (.ifCond .ne 5, 3) := by decide +kernel
theorem dX9_crank_10 : decode cX9_crank 10 = .ok (.iconst (-1), 1) := by decide +kernel
theorem dX9_crank_11 : decode cX9_crank 11 = .ok (.ireturn, 1) := by decide +kernel
theorem dX9_crank_12 : decode cX9_crank 12 = .ok (.iload_n 1, 1) := by decide +kernel
theorem dX9_crank_13 : decode cX9_crank 13 = .ok (.ifCond .ne 16, 3) := by decide +kernel
theorem dX9_crank_16 : decode cX9_crank 16 = .ok (.aload_n 0, 1) := by decide +kernel
theorem dX9_crank_17 : decode cX9_crank 17 = .ok (.getfield 11, 3) := by decide +kernel
theorem dX9_crank_20 : decode cX9_crank 20 = .ok (.iconst 4, 1) := by decide +kernel
theorem dX9_crank_21 : decode cX9_crank 21 = .ok (.iaload, 1) := by decide +kernel
theorem dX9_crank_22 : decode cX9_crank 22 = .ok (.sipush 10000, 3) := by decide +kernel
theorem dX9_crank_25 : decode cX9_crank 25 = .ok (.iadd, 1) := by decide +kernel
theorem dX9_crank_26 : decode cX9_crank 26 = .ok (.goto 9, 3) := by decide +kernel
theorem dX9_crank_29 : decode cX9_crank 29 = .ok (.aload_n 0, 1) := by decide +kernel
theorem dX9_crank_30 : decode cX9_crank 30 = .ok (.getfield 11, 3) := by decide +kernel
theorem dX9_crank_33 : decode cX9_crank 33 = .ok (.iconst 5, 1) := by decide +kernel
theorem dX9_crank_34 : decode cX9_crank 34 = .ok (.iaload, 1) := by decide +kernel
theorem dX9_crank_35 : decode cX9_crank 35 = .ok (.ireturn, 1) := by decide +kernel
theorem dX9_standsAt_0 : decode cX9_standsAt 0 = .ok (.aload_n 0, 1) := by decide +kernel
theorem dX9_standsAt_1 : decode cX9_standsAt 1 = .ok (.iload_n 1, 1) := by decide +kernel
theorem dX9_standsAt_2 : decode cX9_standsAt 2 = .ok (.invokevirtual 161, 3) := by decide +kernel
theorem dX9_standsAt_5 : decode cX9_standsAt 5 = .ok (.lstore_n 2, 1) := by decide +kernel
theorem dX9_standsAt_6 : decode cX9_standsAt 6 = .ok (.ldc2_w 223, 3) := by decide +kernel
theorem dX9_standsAt_9 : decode cX9_standsAt 9 = .ok (.aload_n 0, 1) := by decide +kernel
theorem dX9_standsAt_10 : decode cX9_standsAt 10 = .ok (.getfield 11, 3) := by decide +kernel
theorem dX9_standsAt_13 : decode cX9_standsAt 13 = .ok (.iconst 4, 1) := by decide +kernel
theorem dX9_standsAt_14 : decode cX9_standsAt 14 = .ok (.iaload, 1) := by decide +kernel
theorem dX9_standsAt_15 : decode cX9_standsAt 15 = .ok (.i2l, 1) := by decide +kernel
theorem dX9_standsAt_16 : decode cX9_standsAt 16 = .ok (.lmul, 1) := by decide +kernel
theorem dX9_standsAt_17 : decode cX9_standsAt 17 = .ok (.aload_n 0, 1) := by decide +kernel
theorem dX9_standsAt_18 : decode cX9_standsAt 18 = .ok (.iload_n 1, 1) := by decide +kernel
theorem dX9_standsAt_19 : decode cX9_standsAt 19 = .ok (.invokevirtual 157, 3) := by decide +kernel
theorem dX9_standsAt_22 : decode cX9_standsAt 22 = .ok (.lmul, 1) := by decide +kernel
theorem dX9_standsAt_23 : decode cX9_standsAt 23 = .ok (.lload_n 2, 1) := by decide +kernel
theorem dX9_standsAt_24 : decode cX9_standsAt 24 = .ok (.ldiv, 1) := by decide +kernel
theorem dX9_standsAt_25 : decode cX9_standsAt 25 = .ok (.lstore 4, 2) := by decide +kernel
theorem dX9_standsAt_27 : decode cX9_standsAt 27 = .ok (.aload_n 0, 1) := by decide +kernel
theorem dX9_standsAt_28 : decode cX9_standsAt 28 = .ok (.getfield 11, 3) := by decide +kernel
theorem dX9_standsAt_31 : decode cX9_standsAt 31 = .ok (.iconst 5, 1) := by decide +kernel
theorem dX9_standsAt_32 : decode cX9_standsAt 32 = .ok (.iaload, 1) := by decide +kernel
theorem dX9_standsAt_33 : decode cX9_standsAt 33 = .ok (.iconst 1, 1) := by decide +kernel
theorem dX9_standsAt_34 : decode cX9_standsAt 34 = .ok (.if_icmp .ne 23, 3) := by decide +kernel
theorem dX9_standsAt_37 : decode cX9_standsAt 37 = .ok (.lload 4, 2) := by decide +kernel
theorem dX9_standsAt_39 : decode cX9_standsAt 39 = .ok (.ldc2_w 223, 3) := by decide +kernel
theorem dX9_standsAt_42 : decode cX9_standsAt 42 = .ok (.aload_n 0, 1) := by decide +kernel
theorem dX9_standsAt_43 : decode cX9_standsAt 43 = .ok (.iload_n 1, 1) := by decide +kernel
theorem dX9_standsAt_44 : decode cX9_standsAt 44 = .ok (.invokevirtual 168, 3) := by decide +kernel
theorem dX9_standsAt_47 : decode cX9_standsAt 47 = .ok (.lmul, 1) := by decide +kernel
theorem dX9_standsAt_48 : decode cX9_standsAt 48 = .ok (.ldc2_w 171, 3) := by decide +kernel
theorem dX9_standsAt_51 : decode cX9_standsAt 51 = .ok (.lload_n 2, 1) := by decide +kernel
theorem dX9_standsAt_52 : decode cX9_standsAt 52 = .ok (.lmul, 1) := by decide +kernel
theorem dX9_standsAt_53 : decode cX9_standsAt 53 = .ok (.ldiv, 1) := by decide +kernel
theorem dX9_standsAt_54 : decode cX9_standsAt 54 = .ok (.ladd, 1) := by decide +kernel
theorem dX9_standsAt_55 : decode cX9_standsAt 55 = .ok (.lstore 4, 2) := by decide +kernel
theorem dX9_standsAt_57 : decode cX9_standsAt 57 = .ok (.aload_n 0, 1) := by decide +kernel
theorem dX9_standsAt_58 : decode cX9_standsAt 58 = .ok (.iload_n 1, 1) := by decide +kernel
theorem dX9_standsAt_59 : decode cX9_standsAt 59 = .ok (.invokevirtual 147, 3) := by decide +kernel
theorem dX9_standsAt_62 : decode cX9_standsAt 62 = .ok (.ifCond .eq 9, 3) := by decide +kernel
theorem dX9_standsAt_65 : decode cX9_standsAt 65 = .ok (.lload 4, 2) := by decide +kernel
theorem dX9_standsAt_67 : decode cX9_standsAt 67 = .ok (.lneg, 1) := by decide +kernel
theorem dX9_standsAt_68 : decode cX9_standsAt 68 = .ok (.goto 5, 3) := by decide +kernel
theorem dX9_standsAt_71 : decode cX9_standsAt 71 = .ok (.lload 4, 2) := by decide +kernel
theorem dX9_standsAt_73 : decode cX9_standsAt 73 = .ok (.lreturn, 1) := by decide +kernel
theorem dX9_stands_0 : decode cX9_stands 0 = .ok (.aload_n 0, 1) := by decide +kernel
theorem dX9_stands_1 : decode cX9_stands 1 = .ok (.iload_n 1, 1) := by decide +kernel
theorem dX9_stands_2 : decode cX9_stands 2 = .ok (.invokevirtual 154, 3) := by decide +kernel
theorem dX9_stands_5 : decode cX9_stands 5 = .ok (.ifCond .eq 11, 3) := by decide +kernel
theorem dX9_stands_8 : decode cX9_stands 8 = .ok (.aload_n 0, 1) := by decide +kernel
theorem dX9_stands_9 : decode cX9_stands 9 = .ok (.iload_n 1, 1) := by decide +kernel
theorem dX9_stands_10 : decode cX9_stands 10 = .ok (.invokevirtual 225, 3) := by decide +kernel
theorem dX9_stands_13 : decode cX9_stands 13 = .ok (.goto 6, 3) := by decide +kernel
theorem dX9_stands_16 : decode cX9_stands 16 = .ok (.ldc2_w 73, 3) := by decide +kernel
theorem dX9_stands_19 : decode cX9_stands 19 = .ok (.lreturn, 1) := by decide +kernel
theorem dX9_meet_0 : decode cX9_meet 0 = .ok (.aload_n 0, 1) := by decide +kernel
theorem dX9_meet_1 : decode cX9_meet 1 = .ok (.iload_n 1, 1) := by decide +kernel
theorem dX9_meet_2 : decode cX9_meet 2 = .ok (.iload_n 2, 1) := by decide +kernel
theorem dX9_meet_3 : decode cX9_meet 3 = .ok (.invokevirtual 173, 3) := by decide +kernel
theorem dX9_meet_6 : decode cX9_meet 6 = .ok (.ifCond .eq 19, 3) := by decide +kernel
theorem dX9_meet_9 : decode cX9_meet 9 = .ok (.aload_n 0, 1) := by decide +kernel
theorem dX9_meet_10 : decode cX9_meet 10 = .ok (.iload_n 1, 1) := by decide +kernel
theorem dX9_meet_11 : decode cX9_meet 11 = .ok (.invokevirtual 154, 3) := by decide +kernel
theorem dX9_meet_14 : decode cX9_meet 14 = .ok (.ifCond .eq 11, 3) := by decide +kernel
theorem dX9_meet_17 : decode cX9_meet 17 = .ok (.aload_n 0, 1) := by decide +kernel
theorem dX9_meet_18 : decode cX9_meet 18 = .ok (.iload_n 2, 1) := by decide +kernel
theorem dX9_meet_19 : decode cX9_meet 19 = .ok (.invokevirtual 154, 3) := by decide +kernel
theorem dX9_meet_22 : decode cX9_meet 22 = .ok (.ifCond .ne 7, 3) := by decide +kernel
theorem dX9_meet_25 : decode cX9_meet 25 = .ok (.ldc2_w 73, 3) := by decide +kernel
theorem dX9_meet_28 : decode cX9_meet 28 = .ok (.lreturn, 1) := by decide +kernel
theorem dX9_meet_29 : decode cX9_meet 29 = .ok (.aload_n 0, 1) := by decide +kernel
theorem dX9_meet_30 : decode cX9_meet 30 = .ok (.iload_n 1, 1) := by decide +kernel
theorem dX9_meet_31 : decode cX9_meet 31 = .ok (.iconst 1, 1) := by decide +kernel
theorem dX9_meet_32 : decode cX9_meet 32 = .ok (.invokevirtual 228, 3) := by decide +kernel
theorem dX9_meet_35 : decode cX9_meet 35 = .ok (.lstore_n 3, 1) := by decide +kernel
theorem dX9_meet_36 : decode cX9_meet 36 = .ok (.aload_n 0, 1) := by decide +kernel
theorem dX9_meet_37 : decode cX9_meet 37 = .ok (.iload_n 2, 1) := by decide +kernel
theorem dX9_meet_38 : decode cX9_meet 38 = .ok (.iconst 1, 1) := by decide +kernel
theorem dX9_meet_39 : decode cX9_meet 39 = .ok (.invokevirtual 228, 3) := by decide +kernel
theorem dX9_meet_42 : decode cX9_meet 42 = .ok (.lstore 5, 2) := by decide +kernel
theorem dX9_meet_44 : decode cX9_meet 44 = .ok (.lload_n 3, 1) := by decide +kernel
theorem dX9_meet_45 : decode cX9_meet 45 = .ok (.lload_n 3, 1) := by decide +kernel
theorem dX9_meet_46 : decode cX9_meet 46 = .ok (.lload 5, 2) := by decide +kernel
theorem dX9_meet_48 : decode cX9_meet 48 = .ok (.invokestatic 40, 3) := by decide +kernel
theorem dX9_meet_51 : decode cX9_meet 51 = .ok (.ldiv, 1) := by decide +kernel
theorem dX9_meet_52 : decode cX9_meet 52 = .ok (.lload 5, 2) := by decide +kernel
theorem dX9_meet_54 : decode cX9_meet 54 = .ok (.lmul, 1) := by decide +kernel
theorem dX9_meet_55 : decode cX9_meet 55 = .ok (.lreturn, 1) := by decide +kernel
theorem dX9_partOf_0 : decode cX9_partOf 0 = .ok (.aload_n 0, 1) := by decide +kernel
theorem dX9_partOf_1 : decode cX9_partOf 1 = .ok (.iload_n 1, 1) := by decide +kernel
theorem dX9_partOf_2 : decode cX9_partOf 2 = .ok (.invokevirtual 161, 3) := by decide +kernel
theorem dX9_partOf_5 : decode cX9_partOf 5 = .ok (.lstore_n 3, 1) := by decide +kernel
theorem dX9_partOf_6 : decode cX9_partOf 6 = .ok (.iload_n 2, 1) := by decide +kernel
theorem dX9_partOf_7 : decode cX9_partOf 7 = .ok (.i2l, 1) := by decide +kernel
theorem dX9_partOf_8 : decode cX9_partOf 8 = .ok (.aload_n 0, 1) := by decide +kernel
theorem dX9_partOf_9 : decode cX9_partOf 9 = .ok (.iload_n 1, 1) := by decide +kernel
theorem dX9_partOf_10 : decode cX9_partOf 10 = .ok (.invokevirtual 157, 3) := by decide +kernel
theorem dX9_partOf_13 : decode cX9_partOf 13 = .ok (.lmul, 1) := by decide +kernel
theorem dX9_partOf_14 : decode cX9_partOf 14 = .ok (.lload_n 3, 1) := by decide +kernel
theorem dX9_partOf_15 : decode cX9_partOf 15 = .ok (.lrem, 1) := by decide +kernel
theorem dX9_partOf_16 : decode cX9_partOf 16 = .ok (.lstore 5, 2) := by decide +kernel
theorem dX9_partOf_18 : decode cX9_partOf 18 = .ok (.aload_n 0, 1) := by decide +kernel
theorem dX9_partOf_19 : decode cX9_partOf 19 = .ok (.iload_n 1, 1) := by decide +kernel
theorem dX9_partOf_20 : decode cX9_partOf 20 = .ok (.invokevirtual 147, 3) := by decide +kernel
theorem dX9_partOf_23 : decode cX9_partOf 23 = .ok (.ifCond .eq 8, 3) := by decide +kernel
theorem dX9_partOf_26 : decode cX9_partOf 26 = .ok (.lload 5, 2) := by decide +kernel
theorem dX9_partOf_28 : decode cX9_partOf 28 = .ok (.lneg, 1) := by decide +kernel
theorem dX9_partOf_29 : decode cX9_partOf 29 = .ok (.lstore 5, 2) := by decide +kernel
theorem dX9_partOf_31 : decode cX9_partOf 31 = .ok (.lload 5, 2) := by decide +kernel
theorem dX9_partOf_33 : decode cX9_partOf 33 = .ok (.lconst 0, 1) := by decide +kernel
theorem dX9_partOf_34 : decode cX9_partOf 34 = .ok (.lcmp, 1) := by decide +kernel
theorem dX9_partOf_35 : decode cX9_partOf 35 = .ok (.ifCond .ge 10, 3) := by decide +kernel
theorem dX9_partOf_38 : decode cX9_partOf 38 = .ok (.lload 5, 2) := by decide +kernel
theorem dX9_partOf_40 : decode cX9_partOf 40 = .ok (.lload_n 3, 1) := by decide +kernel
theorem dX9_partOf_41 : decode cX9_partOf 41 = .ok (.ladd, 1) := by decide +kernel
theorem dX9_partOf_42 : decode cX9_partOf 42 = .ok (.goto 5, 3) := by decide +kernel
theorem dX9_partOf_45 : decode cX9_partOf 45 = .ok (.lload 5, 2) := by decide +kernel
theorem dX9_partOf_47 : decode cX9_partOf 47 = .ok (.lreturn, 1) := by decide +kernel
theorem dX9_join_0 : decode cX9_join 0 = .ok (.aload_n 0, 1) := by decide +kernel
theorem dX9_join_1 : decode cX9_join 1 = .ok (.iload_n 1, 1) := by decide +kernel
theorem dX9_join_2 : decode cX9_join 2 = .ok (.iload_n 2, 1) := by decide +kernel
theorem dX9_join_3 : decode cX9_join 3 = .ok (.invokevirtual 173, 3) := by decide +kernel
theorem dX9_join_6 : decode cX9_join 6 = .ok (.ifCond .ne 5, 3) := by decide +kernel
theorem dX9_join_9 : decode cX9_join 9 = .ok (.iconst (-1), 1) := by decide +kernel
theorem dX9_join_10 : decode cX9_join 10 = .ok (.ireturn, 1) := by decide +kernel
theorem dX9_join_11 : decode cX9_join 11 = .ok (.iload_n 3, 1) := by decide +kernel
theorem dX9_join_12 : decode cX9_join 12 = .ok (.i2l, 1) := by decide +kernel
theorem dX9_join_13 : decode cX9_join 13 = .ok (.lconst 0, 1) := by decide +kernel
theorem dX9_join_14 : decode cX9_join 14 = .ok (.ldc2_w 232, 3) := by decide +kernel
theorem dX9_join_17 : decode cX9_join 17 = .ok (.invokestatic 44, 3) := by decide +kernel
theorem dX9_join_20 : decode cX9_join 20 = .ok (.ifCond .ne 6, 3) := by decide +kernel
theorem dX9_join_23 : decode cX9_join 23 = .ok (.bipush (-2), 2) := by decide +kernel
theorem dX9_join_25 : decode cX9_join 25 = .ok (.ireturn, 1) := by decide +kernel
theorem dX9_join_26 : decode cX9_join 26 = .ok (.aload_n 0, 1) := by decide +kernel
theorem dX9_join_27 : decode cX9_join 27 = .ok (.iload_n 1, 1) := by decide +kernel
theorem dX9_join_28 : decode cX9_join 28 = .ok (.invokevirtual 154, 3) := by decide +kernel
theorem dX9_join_31 : decode cX9_join 31 = .ok (.ifCond .eq 11, 3) := by decide +kernel
theorem dX9_join_34 : decode cX9_join 34 = .ok (.aload_n 0, 1) := by decide +kernel
theorem dX9_join_35 : decode cX9_join 35 = .ok (.iload_n 2, 1) := by decide +kernel
theorem dX9_join_36 : decode cX9_join 36 = .ok (.invokevirtual 154, 3) := by decide +kernel
theorem dX9_join_39 : decode cX9_join 39 = .ok (.ifCond .ne 6, 3) := by decide +kernel
theorem dX9_join_42 : decode cX9_join 42 = .ok (.bipush (-3), 2) := by decide +kernel
theorem dX9_join_44 : decode cX9_join 44 = .ok (.ireturn, 1) := by decide +kernel
theorem dX9_join_45 : decode cX9_join 45 = .ok (.aload_n 0, 1) := by decide +kernel
theorem dX9_join_46 : decode cX9_join 46 = .ok (.iload_n 1, 1) := by decide +kernel
theorem dX9_join_47 : decode cX9_join 47 = .ok (.invokevirtual 161, 3) := by decide +kernel
theorem dX9_join_50 : decode cX9_join 50 = .ok (.lstore 4, 2) := by decide +kernel
theorem dX9_join_52 : decode cX9_join 52 = .ok (.aload_n 0, 1) := by decide +kernel
theorem dX9_join_53 : decode cX9_join 53 = .ok (.iload_n 2, 1) := by decide +kernel
theorem dX9_join_54 : decode cX9_join 54 = .ok (.invokevirtual 161, 3) := by decide +kernel
theorem dX9_join_57 : decode cX9_join 57 = .ok (.lstore 6, 2) := by decide +kernel
theorem dX9_join_59 : decode cX9_join 59 = .ok (.iconst 1, 1) := by decide +kernel
theorem dX9_join_60 : decode cX9_join 60 = .ok (.istore 8, 2) := by decide +kernel
theorem dX9_join_62 : decode cX9_join 62 = .ok (.iload 8, 2) := by decide +kernel
theorem dX9_join_64 : decode cX9_join 64 = .ok (.sipush 999, 3) := by decide +kernel
theorem dX9_join_67 : decode cX9_join 67 = .ok (.if_icmp .gt 103, 3) := by decide +kernel
theorem dX9_join_70 : decode cX9_join 70 = .ok (.aload_n 0, 1) := by decide +kernel
theorem dX9_join_71 : decode cX9_join 71 = .ok (.iload_n 1, 1) := by decide +kernel
theorem dX9_join_72 : decode cX9_join 72 = .ok (.aload_n 0, 1) := by decide +kernel
theorem dX9_join_73 : decode cX9_join 73 = .ok (.getfield 11, 3) := by decide +kernel
theorem dX9_join_76 : decode cX9_join 76 = .ok (.iconst 4, 1) := by decide +kernel
theorem dX9_join_77 : decode cX9_join 77 = .ok (.iaload, 1) := by decide +kernel
theorem dX9_join_78 : decode cX9_join 78 = .ok (.iload 8, 2) := by decide +kernel
theorem dX9_join_80 : decode cX9_join 80 = .ok (.iadd, 1) := by decide +kernel
theorem dX9_join_81 : decode cX9_join 81 = .ok (.invokevirtual 234, 3) := by decide +kernel
theorem dX9_join_84 : decode cX9_join 84 = .ok (.lload 6, 2) := by decide +kernel
theorem dX9_join_86 : decode cX9_join 86 = .ok (.lmul, 1) := by decide +kernel
theorem dX9_join_87 : decode cX9_join 87 = .ok (.aload_n 0, 1) := by decide +kernel
theorem dX9_join_88 : decode cX9_join 88 = .ok (.iload_n 2, 1) := by decide +kernel
theorem dX9_join_89 : decode cX9_join 89 = .ok (.aload_n 0, 1) := by decide +kernel
theorem dX9_join_90 : decode cX9_join 90 = .ok (.getfield 11, 3) := by decide +kernel
theorem dX9_join_93 : decode cX9_join 93 = .ok (.iconst 4, 1) := by decide +kernel
theorem dX9_join_94 : decode cX9_join 94 = .ok (.iaload, 1) := by decide +kernel
theorem dX9_join_95 : decode cX9_join 95 = .ok (.iload 8, 2) := by decide +kernel
theorem dX9_join_97 : decode cX9_join 97 = .ok (.iadd, 1) := by decide +kernel
theorem dX9_join_98 : decode cX9_join 98 = .ok (.invokevirtual 234, 3) := by decide +kernel
theorem dX9_join_101 : decode cX9_join 101 = .ok (.lload 4, 2) := by decide +kernel
theorem dX9_join_103 : decode cX9_join 103 = .ok (.lmul, 1) := by decide +kernel
theorem dX9_join_104 : decode cX9_join 104 = .ok (.lsub, 1) := by decide +kernel
theorem dX9_join_105 : decode cX9_join 105 = .ok (.lstore 9, 2) := by decide +kernel
theorem dX9_join_107 : decode cX9_join 107 = .ok (.lload 9, 2) := by decide +kernel
theorem dX9_join_109 : decode cX9_join 109 = .ok (.lconst 0, 1) := by decide +kernel
theorem dX9_join_110 : decode cX9_join 110 = .ok (.lcmp, 1) := by decide +kernel
theorem dX9_join_111 : decode cX9_join 111 = .ok (.ifCond .ge 8, 3) := by decide +kernel
theorem dX9_join_114 : decode cX9_join 114 = .ok (.lload 9, 2) := by decide +kernel
theorem dX9_join_116 : decode cX9_join 116 = .ok (.lneg, 1) := by decide +kernel
theorem dX9_join_117 : decode cX9_join 117 = .ok (.lstore 9, 2) := by decide +kernel
theorem dX9_join_119 : decode cX9_join 119 = .ok (.lload 4, 2) := by decide +kernel
theorem dX9_join_121 : decode cX9_join 121 = .ok (.lload 6, 2) := by decide +kernel
theorem dX9_join_123 : decode cX9_join 123 = .ok (.lmul, 1) := by decide +kernel
theorem dX9_join_124 : decode cX9_join 124 = .ok (.lload 9, 2) := by decide +kernel
theorem dX9_join_126 : decode cX9_join 126 = .ok (.lsub, 1) := by decide +kernel
theorem dX9_join_127 : decode cX9_join 127 = .ok (.lload 9, 2) := by decide +kernel
theorem dX9_join_129 : decode cX9_join 129 = .ok (.lcmp, 1) := by decide +kernel
theorem dX9_join_130 : decode cX9_join 130 = .ok (.ifCond .ge 13, 3) := by decide +kernel
theorem dX9_join_133 : decode cX9_join 133 = .ok (.lload 4, 2) := by decide +kernel
theorem dX9_join_135 : decode cX9_join 135 = .ok (.lload 6, 2) := by decide +kernel
theorem dX9_join_137 : decode cX9_join 137 = .ok (.lmul, 1) := by decide +kernel
theorem dX9_join_138 : decode cX9_join 138 = .ok (.lload 9, 2) := by decide +kernel
theorem dX9_join_140 : decode cX9_join 140 = .ok (.lsub, 1) := by decide +kernel
theorem dX9_join_141 : decode cX9_join 141 = .ok (.lstore 9, 2) := by decide +kernel
theorem dX9_join_143 : decode cX9_join 143 = .ok (.ldc2_w 237, 3) := by decide +kernel
theorem dX9_join_146 : decode cX9_join 146 = .ok (.lload 9, 2) := by decide +kernel
theorem dX9_join_148 : decode cX9_join 148 = .ok (.lmul, 1) := by decide +kernel
theorem dX9_join_149 : decode cX9_join 149 = .ok (.iload_n 3, 1) := by decide +kernel
theorem dX9_join_150 : decode cX9_join 150 = .ok (.i2l, 1) := by decide +kernel
theorem dX9_join_151 : decode cX9_join 151 = .ok (.lload 4, 2) := by decide +kernel
theorem dX9_join_153 : decode cX9_join 153 = .ok (.lload 6, 2) := by decide +kernel
theorem dX9_join_155 : decode cX9_join 155 = .ok (.lmul, 1) := by decide +kernel
theorem dX9_join_156 : decode cX9_join 156 = .ok (.lmul, 1) := by decide +kernel
theorem dX9_join_157 : decode cX9_join 157 = .ok (.lcmp, 1) := by decide +kernel
theorem dX9_join_158 : decode cX9_join 158 = .ok (.ifCond .gt 6, 3) := by decide +kernel
theorem dX9_join_161 : decode cX9_join 161 = .ok (.iload 8, 2) := by decide +kernel
theorem dX9_join_163 : decode cX9_join 163 = .ok (.ireturn, 1) := by decide +kernel
theorem dX9_join_164 : decode cX9_join 164 = .ok (.iinc 8 1, 3) := by decide +kernel
theorem dX9_join_167 : decode cX9_join 167 = .ok (.goto (-105), 3) := by decide +kernel
theorem dX9_join_170 : decode cX9_join 170 = .ok (.bipush (-5), 2) := by decide +kernel
theorem dX9_join_172 : decode cX9_join 172 = .ok (.ireturn, 1) := by decide +kernel
theorem dX9_drift_0 : decode cX9_drift 0 = .ok (.aload_n 0, 1) := by decide +kernel
theorem dX9_drift_1 : decode cX9_drift 1 = .ok (.iload_n 1, 1) := by decide +kernel
theorem dX9_drift_2 : decode cX9_drift 2 = .ok (.invokevirtual 154, 3) := by decide +kernel
theorem dX9_drift_5 : decode cX9_drift 5 = .ok (.ifCond .eq 15, 3) := by decide +kernel
theorem dX9_drift_8 : decode cX9_drift 8 = .ok (.iload_n 2, 1) := by decide +kernel
theorem dX9_drift_9 : decode cX9_drift 9 = .ok (.i2l, 1) := by decide +kernel
theorem dX9_drift_10 : decode cX9_drift 10 = .ok (.lconst 0, 1) := by decide +kernel
theorem dX9_drift_11 : decode cX9_drift 11 = .ok (.ldc2_w 48, 3) := by decide +kernel
theorem dX9_drift_14 : decode cX9_drift 14 = .ok (.invokestatic 44, 3) := by decide +kernel
theorem dX9_drift_17 : decode cX9_drift 17 = .ok (.ifCond .ne 7, 3) := by decide +kernel
theorem dX9_drift_20 : decode cX9_drift 20 = .ok (.ldc2_w 73, 3) := by decide +kernel
theorem dX9_drift_23 : decode cX9_drift 23 = .ok (.lreturn, 1) := by decide +kernel
theorem dX9_drift_24 : decode cX9_drift 24 = .ok (.ldc2_w 237, 3) := by decide +kernel
theorem dX9_drift_27 : decode cX9_drift 27 = .ok (.iload_n 2, 1) := by decide +kernel
theorem dX9_drift_28 : decode cX9_drift 28 = .ok (.i2l, 1) := by decide +kernel
theorem dX9_drift_29 : decode cX9_drift 29 = .ok (.lmul, 1) := by decide +kernel
theorem dX9_drift_30 : decode cX9_drift 30 = .ok (.aload_n 0, 1) := by decide +kernel
theorem dX9_drift_31 : decode cX9_drift 31 = .ok (.iload_n 1, 1) := by decide +kernel
theorem dX9_drift_32 : decode cX9_drift 32 = .ok (.iconst 0, 1) := by decide +kernel
theorem dX9_drift_33 : decode cX9_drift 33 = .ok (.invokevirtual 239, 3) := by decide +kernel
theorem dX9_drift_36 : decode cX9_drift 36 = .ok (.lmul, 1) := by decide +kernel
theorem dX9_drift_37 : decode cX9_drift 37 = .ok (.aload_n 0, 1) := by decide +kernel
theorem dX9_drift_38 : decode cX9_drift 38 = .ok (.iload_n 1, 1) := by decide +kernel
theorem dX9_drift_39 : decode cX9_drift 39 = .ok (.iconst 1, 1) := by decide +kernel
theorem dX9_drift_40 : decode cX9_drift 40 = .ok (.invokevirtual 239, 3) := by decide +kernel
theorem dX9_drift_43 : decode cX9_drift 43 = .ok (.ldiv, 1) := by decide +kernel
theorem dX9_drift_44 : decode cX9_drift 44 = .ok (.lreturn, 1) := by decide +kernel
