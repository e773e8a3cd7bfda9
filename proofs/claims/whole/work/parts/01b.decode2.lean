theorem dX8_teeth_0 : decode cX8_teeth 0 = .ok (.aload_n 0, 1) := by decide +kernel
theorem dX8_teeth_1 : decode cX8_teeth 1 = .ok (.getfield 12, 3) := by decide +kernel
theorem dX8_teeth_4 : decode cX8_teeth 4 = .ok (.getfield 135, 3) := by decide +kernel
theorem dX8_teeth_7 : decode cX8_teeth 7 = .ok (.iload_n 1, 1) := by decide +kernel
theorem dX8_teeth_8 : decode cX8_teeth 8 = .ok (.invokevirtual 148, 3) := by decide +kernel
theorem dX8_teeth_11 : decode cX8_teeth 11 = .ok (.ifCond .eq 12, 3) := by decide +kernel
theorem dX8_teeth_14 : decode cX8_teeth 14 = .ok (.iload_n 2, 1) := by decide +kernel
theorem dX8_teeth_15 : decode cX8_teeth 15 = .ok (.ifCond .lt 8, 3) := by decide +kernel
theorem dX8_teeth_18 : decode cX8_teeth 18 = .ok (.iload_n 2, 1) := by decide +kernel
theorem dX8_teeth_19 : decode cX8_teeth 19 = .ok (.iconst 1, 1) := by decide +kernel
theorem dX8_teeth_20 : decode cX8_teeth 20 = .ok (.if_icmp .le 5, 3) := by decide +kernel
theorem dX8_teeth_23 : decode cX8_teeth 23 = .ok (.iconst (-1), 1) := by decide +kernel
theorem dX8_teeth_24 : decode cX8_teeth 24 = .ok (.ireturn, 1) := by decide +kernel
theorem dX8_teeth_25 : decode cX8_teeth 25 = .ok (.iload_n 3, 1) := by decide +kernel
theorem dX8_teeth_26 : decode cX8_teeth 26 = .ok (.invokestatic 102, 3) := by decide +kernel
theorem dX8_teeth_29 : decode cX8_teeth 29 = .ok (.ifCond .ne 6, 3) := by decide +kernel
theorem dX8_teeth_32 : decode cX8_teeth 32 = .ok (.bipush (-2), 2) := by decide +kernel
theorem dX8_teeth_34 : decode cX8_teeth 34 = .ok (.ireturn, 1) := by decide +kernel
theorem dX8_teeth_35 : decode cX8_teeth 35 = .ok (.iload_n 2, 1) := by decide +kernel
theorem dX8_teeth_36 : decode cX8_teeth 36 = .ok (.ifCond .ne 16, 3) := by decide +kernel
theorem dX8_teeth_39 : decode cX8_teeth 39 = .ok (.aload_n 0, 1) := by decide +kernel
theorem dX8_teeth_40 : decode cX8_teeth 40 = .ok (.getfield 12, 3) := by decide +kernel
theorem dX8_teeth_43 : decode cX8_teeth 43 = .ok (.getfield 135, 3) := by decide +kernel
theorem dX8_teeth_46 : decode cX8_teeth 46 = .ok (.getfield 157, 3) := by decide +kernel
theorem dX8_teeth_49 : decode cX8_teeth 49 = .ok (.goto 13, 3) := by decide +kernel
theorem dX8_teeth_52 : decode cX8_teeth 52 = .ok (.aload_n 0, 1) := by decide +kernel
theorem dX8_teeth_53 : decode cX8_teeth 53 = .ok (.getfield 12, 3) := by decide +kernel
theorem dX8_teeth_56 : decode cX8_teeth 56 = .ok (.getfield 135, 3) := by decide +kernel
theorem dX8_teeth_59 : decode cX8_teeth 59 = .ok (.getfield 160, 3) := by decide +kernel
theorem dX8_teeth_62 : decode cX8_teeth 62 = .ok (.astore 4, 2) := by decide +kernel
theorem dX8_teeth_64 : decode cX8_teeth 64 = .ok (.aload 4, 2) := by decide +kernel
theorem dX8_teeth_66 : decode cX8_teeth 66 = .ok (.iload_n 1, 1) := by decide +kernel
theorem dX8_teeth_67 : decode cX8_teeth 67 = .ok (.invokestatic 76, 3) := by decide +kernel
theorem dX8_teeth_70 : decode cX8_teeth 70 = .ok (.istore 5, 2) := by decide +kernel
theorem dX8_teeth_72 : decode cX8_teeth 72 = .ok (.aload 4, 2) := by decide +kernel
theorem dX8_teeth_74 : decode cX8_teeth 74 = .ok (.iload_n 1, 1) := by decide +kernel
theorem dX8_teeth_75 : decode cX8_teeth 75 = .ok (.iload_n 3, 1) := by decide +kernel
theorem dX8_teeth_76 : decode cX8_teeth 76 = .ok (.invokestatic 124, 3) := by decide +kernel
theorem dX8_teeth_79 : decode cX8_teeth 79 = .ok (.iload 5, 2) := by decide +kernel
theorem dX8_teeth_81 : decode cX8_teeth 81 = .ok (.ireturn, 1) := by decide +kernel
theorem dX8_pair_0 : decode cX8_pair 0 = .ok (.aload_n 0, 1) := by decide +kernel
theorem dX8_pair_1 : decode cX8_pair 1 = .ok (.getfield 12, 3) := by decide +kernel
theorem dX8_pair_4 : decode cX8_pair 4 = .ok (.getfield 135, 3) := by decide +kernel
theorem dX8_pair_7 : decode cX8_pair 7 = .ok (.iload_n 1, 1) := by decide +kernel
theorem dX8_pair_8 : decode cX8_pair 8 = .ok (.invokevirtual 148, 3) := by decide +kernel
theorem dX8_pair_11 : decode cX8_pair 11 = .ok (.ifCond .ne 5, 3) := by decide +kernel
theorem dX8_pair_14 : decode cX8_pair 14 = .ok (.iconst (-1), 1) := by decide +kernel
theorem dX8_pair_15 : decode cX8_pair 15 = .ok (.ireturn, 1) := by decide +kernel
theorem dX8_pair_16 : decode cX8_pair 16 = .ok (.iload_n 2, 1) := by decide +kernel
theorem dX8_pair_17 : decode cX8_pair 17 = .ok (.tableswitch 147 0 6 #[43, 58, 73, 88, 103, 115, 135], 43) := by decide +kernel
theorem dX8_pair_60 : decode cX8_pair 60 = .ok (.aload_n 0, 1) := by decide +kernel
theorem dX8_pair_61 : decode cX8_pair 61 = .ok (.getfield 12, 3) := by decide +kernel
theorem dX8_pair_64 : decode cX8_pair 64 = .ok (.getfield 135, 3) := by decide +kernel
theorem dX8_pair_67 : decode cX8_pair 67 = .ok (.getfield 151, 3) := by decide +kernel
theorem dX8_pair_70 : decode cX8_pair 70 = .ok (.iload_n 1, 1) := by decide +kernel
theorem dX8_pair_71 : decode cX8_pair 71 = .ok (.invokestatic 76, 3) := by decide +kernel
theorem dX8_pair_74 : decode cX8_pair 74 = .ok (.ireturn, 1) := by decide +kernel
theorem dX8_pair_75 : decode cX8_pair 75 = .ok (.aload_n 0, 1) := by decide +kernel
theorem dX8_pair_76 : decode cX8_pair 76 = .ok (.getfield 12, 3) := by decide +kernel
theorem dX8_pair_79 : decode cX8_pair 79 = .ok (.getfield 135, 3) := by decide +kernel
theorem dX8_pair_82 : decode cX8_pair 82 = .ok (.getfield 154, 3) := by decide +kernel
theorem dX8_pair_85 : decode cX8_pair 85 = .ok (.iload_n 1, 1) := by decide +kernel
theorem dX8_pair_86 : decode cX8_pair 86 = .ok (.invokestatic 76, 3) := by decide +kernel
theorem dX8_pair_89 : decode cX8_pair 89 = .ok (.ireturn, 1) := by decide +kernel
theorem dX8_pair_90 : decode cX8_pair 90 = .ok (.aload_n 0, 1) := by decide +kernel
theorem dX8_pair_91 : decode cX8_pair 91 = .ok (.getfield 12, 3) := by decide +kernel
theorem dX8_pair_94 : decode cX8_pair 94 = .ok (.getfield 135, 3) := by decide +kernel
theorem dX8_pair_97 : decode cX8_pair 97 = .ok (.getfield 157, 3) := by decide +kernel
theorem dX8_pair_100 : decode cX8_pair 100 = .ok (.iload_n 1, 1) := by decide +kernel
theorem dX8_pair_101 : decode cX8_pair 101 = .ok (.invokestatic 76, 3) := by decide +kernel
theorem dX8_pair_104 : decode cX8_pair 104 = .ok (.ireturn, 1) := by decide +kernel
theorem dX8_pair_105 : decode cX8_pair 105 = .ok (.aload_n 0, 1) := by decide +kernel
theorem dX8_pair_106 : decode cX8_pair 106 = .ok (.getfield 12, 3) := by decide +kernel
theorem dX8_pair_109 : decode cX8_pair 109 = .ok (.getfield 135, 3) := by decide +kernel
theorem dX8_pair_112 : decode cX8_pair 112 = .ok (.getfield 160, 3) := by decide +kernel
theorem dX8_pair_115 : decode cX8_pair 115 = .ok (.iload_n 1, 1) := by decide +kernel
theorem dX8_pair_116 : decode cX8_pair 116 = .ok (.invokestatic 76, 3) := by decide +kernel
theorem dX8_pair_119 : decode cX8_pair 119 = .ok (.ireturn, 1) := by decide +kernel
theorem dX8_pair_120 : decode cX8_pair 120 = .ok (.aload_n 0, 1) := by decide +kernel
theorem dX8_pair_121 : decode cX8_pair 121 = .ok (.getfield 12, 3) := by decide +kernel
theorem dX8_pair_124 : decode cX8_pair 124 = .ok (.getfield 135, 3) := by decide +kernel
theorem dX8_pair_127 : decode cX8_pair 127 = .ok (.iload_n 1, 1) := by decide +kernel
theorem dX8_pair_128 : decode cX8_pair 128 = .ok (.invokevirtual 163, 3) := by decide +kernel
theorem dX8_pair_131 : decode cX8_pair 131 = .ok (.ireturn, 1) := by decide +kernel
theorem dX8_pair_132 : decode cX8_pair 132 = .ok (.aload_n 0, 1) := by decide +kernel
theorem dX8_pair_133 : decode cX8_pair 133 = .ok (.getfield 12, 3) := by decide +kernel
theorem dX8_pair_136 : decode cX8_pair 136 = .ok (.getfield 135, 3) := by decide +kernel
theorem dX8_pair_139 : decode cX8_pair 139 = .ok (.iload_n 1, 1) := by decide +kernel
theorem dX8_pair_140 : decode cX8_pair 140 = .ok (.invokevirtual 167, 3) := by decide +kernel
theorem dX8_pair_143 : decode cX8_pair 143 = .ok (.ifCond .eq 7, 3) := by decide +kernel
theorem dX8_pair_146 : decode cX8_pair 146 = .ok (.iconst 1, 1) := by decide +kernel
theorem dX8_pair_147 : decode cX8_pair 147 = .ok (.goto 4, 3) := by decide +kernel
theorem dX8_pair_150 : decode cX8_pair 150 = .ok (.iconst 0, 1) := by decide +kernel
theorem dX8_pair_151 : decode cX8_pair 151 = .ok (.ireturn, 1) := by decide +kernel
theorem dX8_pair_152 : decode cX8_pair 152 = .ok (.aload_n 0, 1) := by decide +kernel
theorem dX8_pair_153 : decode cX8_pair 153 = .ok (.getfield 12, 3) := by decide +kernel
theorem dX8_pair_156 : decode cX8_pair 156 = .ok (.getfield 170, 3) := by decide +kernel
theorem dX8_pair_159 : decode cX8_pair 159 = .ok (.iload_n 1, 1) := by decide +kernel
theorem dX8_pair_160 : decode cX8_pair 160 = .ok (.invokevirtual 174, 3) := by decide +kernel
theorem dX8_pair_163 : decode cX8_pair 163 = .ok (.ireturn, 1) := by decide +kernel
theorem dX8_pair_164 : decode cX8_pair 164 = .ok (.iconst (-1), 1) := by decide +kernel
theorem dX8_pair_165 : decode cX8_pair 165 = .ok (.ireturn, 1) := by decide +kernel
theorem dX8_train_0 : decode cX8_train 0 = .ok (.aload_n 0, 1) := by decide +kernel
theorem dX8_train_1 : decode cX8_train 1 = .ok (.getfield 12, 3) := by decide +kernel
theorem dX8_train_4 : decode cX8_train 4 = .ok (.iload_n 1, 1) := by decide +kernel
theorem dX8_train_5 : decode cX8_train 5 = .ok (.invokevirtual 68, 3) := by decide +kernel
theorem dX8_train_8 : decode cX8_train 8 = .ok (.ifCond .ne 5, 3) := by decide +kernel
theorem dX8_train_11 : decode cX8_train 11 = .ok (.iconst (-1), 1) := by decide +kernel
theorem dX8_train_12 : decode cX8_train 12 = .ok (.ireturn, 1) := by decide +kernel
theorem dX8_train_13 : decode cX8_train 13 = .ok (.aload_n 0, 1) := by decide +kernel
theorem dX8_train_14 : decode cX8_train 14 = .ok (.getfield 31, 3) := by decide +kernel
theorem dX8_train_17 : decode cX8_train 17 = .ok (.aload_n 0, 1) := by decide +kernel
theorem dX8_train_18 : decode cX8_train 18 = .ok (.getfield 12, 3) := by decide +kernel
theorem dX8_train_21 : decode cX8_train 21 = .ok (.getfield 135, 3) := by decide +kernel
theorem dX8_train_24 : decode cX8_train 24 = .ok (.getfield 139, 3) := by decide +kernel
theorem dX8_train_27 : decode cX8_train 27 = .ok (.invokevirtual 179, 3) := by decide +kernel
theorem dX8_train_30 : decode cX8_train 30 = .ok (.istore_n 2, 1) := by decide +kernel
theorem dX8_train_31 : decode cX8_train 31 = .ok (.aload_n 0, 1) := by decide +kernel
theorem dX8_train_32 : decode cX8_train 32 = .ok (.getfield 31, 3) := by decide +kernel
theorem dX8_train_35 : decode cX8_train 35 = .ok (.getfield 118, 3) := by decide +kernel
theorem dX8_train_38 : decode cX8_train 38 = .ok (.istore_n 3, 1) := by decide +kernel
theorem dX8_train_39 : decode cX8_train 39 = .ok (.aload_n 0, 1) := by decide +kernel
theorem dX8_train_40 : decode cX8_train 40 = .ok (.getfield 31, 3) := by decide +kernel
theorem dX8_train_43 : decode cX8_train 43 = .ok (.iconst 0, 1) := by decide +kernel
theorem dX8_train_44 : decode cX8_train 44 = .ok (.putfield 118, 3) := by decide +kernel
theorem dX8_train_47 : decode cX8_train 47 = .ok (.iload_n 2, 1) := by decide +kernel
theorem dX8_train_48 : decode cX8_train 48 = .ok (.iconst (-1), 1) := by decide +kernel
theorem dX8_train_49 : decode cX8_train 49 = .ok (.if_icmp .eq 8, 3) := by decide +kernel
theorem dX8_train_52 : decode cX8_train 52 = .ok (.bipush (-100), 2) := by decide +kernel
theorem dX8_train_54 : decode cX8_train 54 = .ok (.iload_n 2, 1) := by decide +kernel
theorem dX8_train_55 : decode cX8_train 55 = .ok (.isub, 1) := by decide +kernel
theorem dX8_train_56 : decode cX8_train 56 = .ok (.ireturn, 1) := by decide +kernel
theorem dX8_train_57 : decode cX8_train 57 = .ok (.aload_n 0, 1) := by decide +kernel
theorem dX8_train_58 : decode cX8_train 58 = .ok (.getfield 12, 3) := by decide +kernel
theorem dX8_train_61 : decode cX8_train 61 = .ok (.getfield 170, 3) := by decide +kernel
theorem dX8_train_64 : decode cX8_train 64 = .ok (.iload_n 1, 1) := by decide +kernel
theorem dX8_train_65 : decode cX8_train 65 = .ok (.iload_n 3, 1) := by decide +kernel
theorem dX8_train_66 : decode cX8_train 66 = .ok (.invokevirtual 182, 3) := by decide +kernel
theorem dX8_train_69 : decode cX8_train 69 = .ok (.iconst 0, 1) := by decide +kernel
theorem dX8_train_70 : decode cX8_train 70 = .ok (.istore 4, 2) := by decide +kernel
theorem dX8_train_72 : decode cX8_train 72 = .ok (.iload 4, 2) := by decide +kernel
theorem dX8_train_74 : decode cX8_train 74 = .ok (.iload_n 3, 1) := by decide +kernel
theorem dX8_train_75 : decode cX8_train 75 = .ok (.if_icmp .ge 31, 3) := by decide +kernel
theorem dX8_train_78 : decode cX8_train 78 = .ok (.aload_n 0, 1) := by decide +kernel
theorem dX8_train_79 : decode cX8_train 79 = .ok (.getfield 12, 3) := by decide +kernel
theorem dX8_train_82 : decode cX8_train 82 = .ok (.getfield 170, 3) := by decide +kernel
theorem dX8_train_85 : decode cX8_train 85 = .ok (.iload_n 1, 1) := by decide +kernel
theorem dX8_train_86 : decode cX8_train 86 = .ok (.iload 4, 2) := by decide +kernel
theorem dX8_train_88 : decode cX8_train 88 = .ok (.aload_n 0, 1) := by decide +kernel
theorem dX8_train_89 : decode cX8_train 89 = .ok (.getfield 31, 3) := by decide +kernel
theorem dX8_train_92 : decode cX8_train 92 = .ok (.iload 4, 2) := by decide +kernel
theorem dX8_train_94 : decode cX8_train 94 = .ok (.invokevirtual 186, 3) := by decide +kernel
theorem dX8_train_97 : decode cX8_train 97 = .ok (.invokevirtual 189, 3) := by decide +kernel
theorem dX8_train_100 : decode cX8_train 100 = .ok (.iinc 4 1, 3) := by decide +kernel
theorem dX8_train_103 : decode cX8_train 103 = .ok (.goto (-31), 3) := by decide +kernel
theorem dX8_train_106 : decode cX8_train 106 = .ok (.iload_n 3, 1) := by decide +kernel
theorem dX8_train_107 : decode cX8_train 107 = .ok (.ireturn, 1) := by decide +kernel
theorem dX8_drop_0 : decode cX8_drop 0 = .ok (.aload_n 0, 1) := by decide +kernel
theorem dX8_drop_1 : decode cX8_drop 1 = .ok (.getfield 12, 3) := by decide +kernel
theorem dX8_drop_4 : decode cX8_drop 4 = .ok (.iload_n 1, 1) := by decide +kernel
theorem dX8_drop_5 : decode cX8_drop 5 = .ok (.invokevirtual 68, 3) := by decide +kernel
theorem dX8_drop_8 : decode cX8_drop 8 = .ok (.ifCond .ne 5, 3) := by decide +kernel
theorem dX8_drop_11 : decode cX8_drop 11 = .ok (.iconst (-1), 1) := by decide +kernel
theorem dX8_drop_12 : decode cX8_drop 12 = .ok (.ireturn, 1) := by decide +kernel
theorem dX8_drop_13 : decode cX8_drop 13 = .ok (.aload_n 0, 1) := by decide +kernel
theorem dX8_drop_14 : decode cX8_drop 14 = .ok (.getfield 12, 3) := by decide +kernel
theorem dX8_drop_17 : decode cX8_drop 17 = .ok (.iload_n 1, 1) := by decide +kernel
theorem dX8_drop_18 : decode cX8_drop 18 = .ok (.invokevirtual 192, 3) := by decide +kernel
theorem dX8_drop_21 : decode cX8_drop 21 = .ok (.ifCond .ne 6, 3) := by decide +kernel
theorem dX8_drop_24 : decode cX8_drop 24 = .ok (.bipush (-3), 2) := by decide +kernel
theorem dX8_drop_26 : decode cX8_drop 26 = .ok (.ireturn, 1) := by decide +kernel
theorem dX8_drop_27 : decode cX8_drop 27 = .ok (.aload_n 0, 1) := by decide +kernel
theorem dX8_drop_28 : decode cX8_drop 28 = .ok (.getfield 12, 3) := by decide +kernel
theorem dX8_drop_31 : decode cX8_drop 31 = .ok (.getfield 170, 3) := by decide +kernel
theorem dX8_drop_34 : decode cX8_drop 34 = .ok (.iload_n 1, 1) := by decide +kernel
theorem dX8_drop_35 : decode cX8_drop 35 = .ok (.invokevirtual 195, 3) := by decide +kernel
theorem dX8_drop_38 : decode cX8_drop 38 = .ok (.istore_n 2, 1) := by decide +kernel
theorem dX8_drop_39 : decode cX8_drop 39 = .ok (.aload_n 0, 1) := by decide +kernel
theorem dX8_drop_40 : decode cX8_drop 40 = .ok (.getfield 12, 3) := by decide +kernel
theorem dX8_drop_43 : decode cX8_drop 43 = .ok (.getfield 170, 3) := by decide +kernel
theorem dX8_drop_46 : decode cX8_drop 46 = .ok (.iload_n 1, 1) := by decide +kernel
theorem dX8_drop_47 : decode cX8_drop 47 = .ok (.iconst 0, 1) := by decide +kernel
theorem dX8_drop_48 : decode cX8_drop 48 = .ok (.invokevirtual 182, 3) := by decide +kernel
theorem dX8_drop_51 : decode cX8_drop 51 = .ok (.iload_n 2, 1) := by decide +kernel
theorem dX8_drop_52 : decode cX8_drop 52 = .ok (.ireturn, 1) := by decide +kernel
theorem dX8_of_0 : decode cX8_of 0 = .ok (.aload_n 0, 1) := by decide +kernel
theorem dX8_of_1 : decode cX8_of 1 = .ok (.getfield 12, 3) := by decide +kernel
theorem dX8_of_4 : decode cX8_of 4 = .ok (.iload_n 1, 1) := by decide +kernel
theorem dX8_of_5 : decode cX8_of 5 = .ok (.invokevirtual 68, 3) := by decide +kernel
theorem dX8_of_8 : decode cX8_of 8 = .ok (.ifCond .eq 19, 3) := by decide +kernel
theorem dX8_of_11 : decode cX8_of 11 = .ok (.iload_n 2, 1) := by decide +kernel
theorem dX8_of_12 : decode cX8_of 12 = .ok (.ifCond .eq 17, 3) := by decide +kernel
theorem dX8_of_15 : decode cX8_of 15 = .ok (.iload_n 2, 1) := by decide +kernel
theorem dX8_of_16 : decode cX8_of 16 = .ok (.iconst 1, 1) := by decide +kernel
theorem dX8_of_17 : decode cX8_of 17 = .ok (.if_icmp .eq 12, 3) := by decide +kernel
theorem dX8_of_20 : decode cX8_of 20 = .ok (.iload_n 2, 1) := by decide +kernel
theorem dX8_of_21 : decode cX8_of 21 = .ok (.invokestatic 197, 3) := by decide +kernel
theorem dX8_of_24 : decode cX8_of 24 = .ok (.ifCond .ne 5, 3) := by decide +kernel
theorem dX8_of_27 : decode cX8_of 27 = .ok (.iconst (-1), 1) := by decide +kernel
theorem dX8_of_28 : decode cX8_of 28 = .ok (.ireturn, 1) := by decide +kernel
theorem dX8_of_29 : decode cX8_of 29 = .ok (.iload_n 2, 1) := by decide +kernel
theorem dX8_of_30 : decode cX8_of 30 = .ok (.ifCond .ne 15, 3) := by decide +kernel
theorem dX8_of_33 : decode cX8_of 33 = .ok (.aload_n 0, 1) := by decide +kernel
theorem dX8_of_34 : decode cX8_of 34 = .ok (.getfield 12, 3) := by decide +kernel
theorem dX8_of_37 : decode cX8_of 37 = .ok (.getfield 170, 3) := by decide +kernel
theorem dX8_of_40 : decode cX8_of 40 = .ok (.iload_n 1, 1) := by decide +kernel
theorem dX8_of_41 : decode cX8_of 41 = .ok (.invokevirtual 195, 3) := by decide +kernel
theorem dX8_of_44 : decode cX8_of 44 = .ok (.ireturn, 1) := by decide +kernel
theorem dX8_of_45 : decode cX8_of 45 = .ok (.iload_n 2, 1) := by decide +kernel
theorem dX8_of_46 : decode cX8_of 46 = .ok (.iconst 1, 1) := by decide +kernel
theorem dX8_of_47 : decode cX8_of 47 = .ok (.if_icmp .ne 20, 3) := by decide +kernel
theorem dX8_of_50 : decode cX8_of 50 = .ok (.aload_n 0, 1) := by decide +kernel
theorem dX8_of_51 : decode cX8_of 51 = .ok (.getfield 12, 3) := by decide +kernel
theorem dX8_of_54 : decode cX8_of 54 = .ok (.iload_n 1, 1) := by decide +kernel
theorem dX8_of_55 : decode cX8_of 55 = .ok (.invokevirtual 200, 3) := by decide +kernel
theorem dX8_of_58 : decode cX8_of 58 = .ok (.ifCond .eq 7, 3) := by decide +kernel
theorem dX8_of_61 : decode cX8_of 61 = .ok (.iconst 1, 1) := by decide +kernel
theorem dX8_of_62 : decode cX8_of 62 = .ok (.goto 4, 3) := by decide +kernel
theorem dX8_of_65 : decode cX8_of 65 = .ok (.iconst 0, 1) := by decide +kernel
theorem dX8_of_66 : decode cX8_of 66 = .ok (.ireturn, 1) := by decide +kernel
theorem dX8_of_67 : decode cX8_of 67 = .ok (.iload_n 2, 1) := by decide +kernel
theorem dX8_of_68 : decode cX8_of 68 = .ok (.bipush 10, 2) := by decide +kernel
theorem dX8_of_70 : decode cX8_of 70 = .ok (.isub, 1) := by decide +kernel
theorem dX8_of_71 : decode cX8_of 71 = .ok (.aload_n 0, 1) := by decide +kernel
theorem dX8_of_72 : decode cX8_of 72 = .ok (.getfield 12, 3) := by decide +kernel
theorem dX8_of_75 : decode cX8_of 75 = .ok (.getfield 170, 3) := by decide +kernel
theorem dX8_of_78 : decode cX8_of 78 = .ok (.iload_n 1, 1) := by decide +kernel
theorem dX8_of_79 : decode cX8_of 79 = .ok (.invokevirtual 195, 3) := by decide +kernel
theorem dX8_of_82 : decode cX8_of 82 = .ok (.if_icmp .ge 21, 3) := by decide +kernel
theorem dX8_of_85 : decode cX8_of 85 = .ok (.aload_n 0, 1) := by decide +kernel
theorem dX8_of_86 : decode cX8_of 86 = .ok (.getfield 12, 3) := by decide +kernel
theorem dX8_of_89 : decode cX8_of 89 = .ok (.getfield 170, 3) := by decide +kernel
theorem dX8_of_92 : decode cX8_of 92 = .ok (.iload_n 1, 1) := by decide +kernel
theorem dX8_of_93 : decode cX8_of 93 = .ok (.iload_n 2, 1) := by decide +kernel
theorem dX8_of_94 : decode cX8_of 94 = .ok (.bipush 10, 2) := by decide +kernel
theorem dX8_of_96 : decode cX8_of 96 = .ok (.isub, 1) := by decide +kernel
theorem dX8_of_97 : decode cX8_of 97 = .ok (.invokevirtual 203, 3) := by decide +kernel
theorem dX8_of_100 : decode cX8_of 100 = .ok (.goto 5, 3) := by decide +kernel
theorem dX8_of_103 : decode cX8_of 103 = .ok (.bipush (-5), 2) := by decide +kernel
theorem dX8_of_105 : decode cX8_of 105 = .ok (.ireturn, 1) := by decide +kernel
theorem dX8_turns_0 : decode cX8_turns 0 = .ok (.aload_n 0, 1) := by decide +kernel
theorem dX8_turns_1 : decode cX8_turns 1 = .ok (.getfield 12, 3) := by decide +kernel
theorem dX8_turns_4 : decode cX8_turns 4 = .ok (.iload_n 1, 1) := by decide +kernel
theorem dX8_turns_5 : decode cX8_turns 5 = .ok (.invokevirtual 192, 3) := by decide +kernel
theorem dX8_turns_8 : decode cX8_turns 8 = .ok (.ifCond .eq 10, 3) := by decide +kernel
theorem dX8_turns_11 : decode cX8_turns 11 = .ok (.iload_n 2, 1) := by decide +kernel
theorem dX8_turns_12 : decode cX8_turns 12 = .ok (.invokestatic 83, 3) := by decide +kernel
theorem dX8_turns_15 : decode cX8_turns 15 = .ok (.ifCond .ne 7, 3) := by decide +kernel
theorem dX8_turns_18 : decode cX8_turns 18 = .ok (.ldc2_w 86, 3) := by decide +kernel
theorem dX8_turns_21 : decode cX8_turns 21 = .ok (.lreturn, 1) := by decide +kernel
theorem dX8_turns_22 : decode cX8_turns 22 = .ok (.aload_n 0, 1) := by decide +kernel
theorem dX8_turns_23 : decode cX8_turns 23 = .ok (.getfield 12, 3) := by decide +kernel
theorem dX8_turns_26 : decode cX8_turns 26 = .ok (.iload_n 1, 1) := by decide +kernel
theorem dX8_turns_27 : decode cX8_turns 27 = .ok (.invokevirtual 206, 3) := by decide +kernel
theorem dX8_turns_30 : decode cX8_turns 30 = .ok (.aload_n 0, 1) := by decide +kernel
theorem dX8_turns_31 : decode cX8_turns 31 = .ok (.getfield 12, 3) := by decide +kernel
theorem dX8_turns_34 : decode cX8_turns 34 = .ok (.iload_n 1, 1) := by decide +kernel
theorem dX8_turns_35 : decode cX8_turns 35 = .ok (.invokevirtual 209, 3) := by decide +kernel
theorem dX8_turns_38 : decode cX8_turns 38 = .ok (.iload_n 2, 1) := by decide +kernel
theorem dX8_turns_39 : decode cX8_turns 39 = .ok (.invokestatic 88, 3) := by decide +kernel
theorem dX8_turns_42 : decode cX8_turns 42 = .ok (.lreturn, 1) := by decide +kernel
theorem dX8_wrong_0 : decode cX8_wrong 0 = .ok (.aload_n 0, 1) := by decide +kernel
theorem dX8_wrong_1 : decode cX8_wrong 1 = .ok (.getfield 12, 3) := by decide +kernel
theorem dX8_wrong_4 : decode cX8_wrong 4 = .ok (.iload_n 1, 1) := by decide +kernel
theorem dX8_wrong_5 : decode cX8_wrong 5 = .ok (.invokevirtual 192, 3) := by decide +kernel
theorem dX8_wrong_8 : decode cX8_wrong 8 = .ok (.ifCond .eq 10, 3) := by decide +kernel
theorem dX8_wrong_11 : decode cX8_wrong 11 = .ok (.iload_n 2, 1) := by decide +kernel
theorem dX8_wrong_12 : decode cX8_wrong 12 = .ok (.invokestatic 83, 3) := by decide +kernel
theorem dX8_wrong_15 : decode cX8_wrong 15 = .ok (.ifCond .ne 7, 3) := by decide +kernel
theorem dX8_wrong_18 : decode cX8_wrong 18 = .ok (.ldc2_w 86, 3) := by decide +kernel
theorem dX8_wrong_21 : decode cX8_wrong 21 = .ok (.lreturn, 1) := by decide +kernel
theorem dX8_wrong_22 : decode cX8_wrong 22 = .ok (.aload_n 0, 1) := by decide +kernel
theorem dX8_wrong_23 : decode cX8_wrong 23 = .ok (.getfield 12, 3) := by decide +kernel
theorem dX8_wrong_26 : decode cX8_wrong 26 = .ok (.iload_n 1, 1) := by decide +kernel
theorem dX8_wrong_27 : decode cX8_wrong 27 = .ok (.invokevirtual 211, 3) := by decide +kernel
theorem dX8_wrong_30 : decode cX8_wrong 30 = .ok (.aload_n 0, 1) := by decide +kernel
theorem dX8_wrong_31 : decode cX8_wrong 31 = .ok (.getfield 12, 3) := by decide +kernel
theorem dX8_wrong_34 : decode cX8_wrong 34 = .ok (.iload_n 1, 1) := by decide +kernel
theorem dX8_wrong_35 : decode cX8_wrong 35 = .ok (.invokevirtual 214, 3) := by decide +kernel
theorem dX8_wrong_38 : decode cX8_wrong 38 = .ok (.iload_n 2, 1) := by decide +kernel
theorem dX8_wrong_39 : decode cX8_wrong 39 = .ok (.invokestatic 88, 3) := by decide +kernel
theorem dX8_wrong_42 : decode cX8_wrong 42 = .ok (.lreturn, 1) := by decide +kernel
theorem dX8_backlash_0 : decode cX8_backlash 0 = .ok (.aload_n 0, 1) := by decide +kernel
theorem dX8_backlash_1 : decode cX8_backlash 1 = .ok (.getfield 12, 3) := by decide +kernel
theorem dX8_backlash_4 : decode cX8_backlash 4 = .ok (.iload_n 1, 1) := by decide +kernel
theorem dX8_backlash_5 : decode cX8_backlash 5 = .ok (.invokevirtual 192, 3) := by decide +kernel
theorem dX8_backlash_8 : decode cX8_backlash 8 = .ok (.ifCond .eq 10, 3) := by decide +kernel
theorem dX8_backlash_11 : decode cX8_backlash 11 = .ok (.iload_n 2, 1) := by decide +kernel
theorem dX8_backlash_12 : decode cX8_backlash 12 = .ok (.invokestatic 83, 3) := by decide +kernel
theorem dX8_backlash_15 : decode cX8_backlash 15 = .ok (.ifCond .ne 7, 3) := by decide +kernel
theorem dX8_backlash_18 : decode cX8_backlash 18 = .ok (.ldc2_w 86, 3) := by decide +kernel
theorem dX8_backlash_21 : decode cX8_backlash 21 = .ok (.lreturn, 1) := by decide +kernel
theorem dX8_backlash_22 : decode cX8_backlash 22 = .ok (.aload_n 0, 1) := by decide +kernel
theorem dX8_backlash_23 : decode cX8_backlash 23 = .ok (.getfield 12, 3) := by decide +kernel
theorem dX8_backlash_26 : decode cX8_backlash 26 = .ok (.iload_n 1, 1) := by decide +kernel
theorem dX8_backlash_27 : decode cX8_backlash 27 = .ok (.invokevirtual 217, 3) := by decide +kernel
theorem dX8_backlash_30 : decode cX8_backlash 30 = .ok (.aload_n 0, 1) := by decide +kernel
theorem dX8_backlash_31 : decode cX8_backlash 31 = .ok (.getfield 12, 3) := by decide +kernel
theorem dX8_backlash_34 : decode cX8_backlash 34 = .ok (.iload_n 1, 1) := by decide +kernel
theorem dX8_backlash_35 : decode cX8_backlash 35 = .ok (.invokevirtual 220, 3) := by decide +kernel
theorem dX8_backlash_38 : decode cX8_backlash 38 = .ok (.iload_n 2, 1) := by decide +kernel
theorem dX8_backlash_39 : decode cX8_backlash 39 = .ok (.invokestatic 88, 3) := by decide +kernel
theorem dX8_backlash_42 : decode cX8_backlash 42 = .ok (.lreturn, 1) := by decide +kernel
theorem dX8_share_0 : decode cX8_share 0 = .ok (.aload_n 0, 1) := by decide +kernel
theorem dX8_share_1 : decode cX8_share 1 = .ok (.iload_n 1, 1) := by decide +kernel
theorem dX8_share_2 : decode cX8_share 2 = .ok (.iload_n 2, 1) := by decide +kernel
theorem dX8_share_3 : decode cX8_share 3 = .ok (.invokevirtual 223, 3) := by decide +kernel
theorem dX8_share_6 : decode cX8_share 6 = .ok (.ifCond .ne 5, 3) := by decide +kernel
theorem dX8_share_9 : decode cX8_share 9 = .ok (.iconst (-1), 1) := by decide +kernel
theorem dX8_share_10 : decode cX8_share 10 = .ok (.ireturn, 1) := by decide +kernel
theorem dX8_share_11 : decode cX8_share 11 = .ok (.aload_n 0, 1) := by decide +kernel
theorem dX8_share_12 : decode cX8_share 12 = .ok (.getfield 12, 3) := by decide +kernel
theorem dX8_share_15 : decode cX8_share 15 = .ok (.iload_n 1, 1) := by decide +kernel
theorem dX8_share_16 : decode cX8_share 16 = .ok (.invokevirtual 192, 3) := by decide +kernel
theorem dX8_share_19 : decode cX8_share 19 = .ok (.ifCond .eq 14, 3) := by decide +kernel
theorem dX8_share_22 : decode cX8_share 22 = .ok (.aload_n 0, 1) := by decide +kernel
theorem dX8_share_23 : decode cX8_share 23 = .ok (.getfield 12, 3) := by decide +kernel
theorem dX8_share_26 : decode cX8_share 26 = .ok (.iload_n 2, 1) := by decide +kernel
theorem dX8_share_27 : decode cX8_share 27 = .ok (.invokevirtual 192, 3) := by decide +kernel
theorem dX8_share_30 : decode cX8_share 30 = .ok (.ifCond .ne 6, 3) := by decide +kernel
theorem dX8_share_33 : decode cX8_share 33 = .ok (.bipush (-3), 2) := by decide +kernel
theorem dX8_share_35 : decode cX8_share 35 = .ok (.ireturn, 1) := by decide +kernel
theorem dX8_share_36 : decode cX8_share 36 = .ok (.aload_n 0, 1) := by decide +kernel
theorem dX8_share_37 : decode cX8_share 37 = .ok (.getfield 12, 3) := by decide +kernel
theorem dX8_share_40 : decode cX8_share 40 = .ok (.getfield 170, 3) := by decide +kernel
theorem dX8_share_43 : decode cX8_share 43 = .ok (.iload_n 1, 1) := by decide +kernel
theorem dX8_share_44 : decode cX8_share 44 = .ok (.iload_n 2, 1) := by decide +kernel
theorem dX8_share_45 : decode cX8_share 45 = .ok (.invokevirtual 226, 3) := by decide +kernel
theorem dX8_share_48 : decode cX8_share 48 = .ok (.ireturn, 1) := by decide +kernel
theorem dX8_order_0 : decode cX8_order 0 = .ok (.aload_n 0, 1) := by decide +kernel
theorem dX8_order_1 : decode cX8_order 1 = .ok (.getfield 12, 3) := by decide +kernel
theorem dX8_order_4 : decode cX8_order 4 = .ok (.iload_n 1, 1) := by decide +kernel
theorem dX8_order_5 : decode cX8_order 5 = .ok (.invokevirtual 68, 3) := by decide +kernel
theorem dX8_order_8 : decode cX8_order 8 = .ok (.ifCond .eq 14, 3) := by decide +kernel
theorem dX8_order_11 : decode cX8_order 11 = .ok (.iload_n 2, 1) := by decide +kernel
theorem dX8_order_12 : decode cX8_order 12 = .ok (.ifCond .eq 12, 3) := by decide +kernel
theorem dX8_order_15 : decode cX8_order 15 = .ok (.iload_n 2, 1) := by decide +kernel
theorem dX8_order_16 : decode cX8_order 16 = .ok (.invokestatic 197, 3) := by decide +kernel
theorem dX8_order_19 : decode cX8_order 19 = .ok (.ifCond .ne 5, 3) := by decide +kernel
theorem dX8_order_22 : decode cX8_order 22 = .ok (.iconst (-1), 1) := by decide +kernel
theorem dX8_order_23 : decode cX8_order 23 = .ok (.ireturn, 1) := by decide +kernel
theorem dX8_order_24 : decode cX8_order 24 = .ok (.aload_n 0, 1) := by decide +kernel
theorem dX8_order_25 : decode cX8_order 25 = .ok (.getfield 12, 3) := by decide +kernel
theorem dX8_order_28 : decode cX8_order 28 = .ok (.iload_n 1, 1) := by decide +kernel
theorem dX8_order_29 : decode cX8_order 29 = .ok (.invokevirtual 192, 3) := by decide +kernel
theorem dX8_order_32 : decode cX8_order 32 = .ok (.ifCond .ne 6, 3) := by decide +kernel
theorem dX8_order_35 : decode cX8_order 35 = .ok (.bipush (-3), 2) := by decide +kernel
theorem dX8_order_37 : decode cX8_order 37 = .ok (.ireturn, 1) := by decide +kernel
theorem dX8_order_38 : decode cX8_order 38 = .ok (.aload_n 0, 1) := by decide +kernel
theorem dX8_order_39 : decode cX8_order 39 = .ok (.iload_n 1, 1) := by decide +kernel
theorem dX8_order_40 : decode cX8_order 40 = .ok (.invokevirtual 229, 3) := by decide +kernel
theorem dX8_order_43 : decode cX8_order 43 = .ok (.istore_n 3, 1) := by decide +kernel
theorem dX8_order_44 : decode cX8_order 44 = .ok (.iload_n 2, 1) := by decide +kernel
theorem dX8_order_45 : decode cX8_order 45 = .ok (.ifCond .ne 10, 3) := by decide +kernel
theorem dX8_order_48 : decode cX8_order 48 = .ok (.aload_n 0, 1) := by decide +kernel
theorem dX8_order_49 : decode cX8_order 49 = .ok (.iload_n 1, 1) := by decide +kernel
theorem dX8_order_50 : decode cX8_order 50 = .ok (.iload_n 3, 1) := by decide +kernel
theorem dX8_order_51 : decode cX8_order 51 = .ok (.invokevirtual 232, 3) := by decide +kernel
theorem dX8_order_54 : decode cX8_order 54 = .ok (.ireturn, 1) := by decide +kernel
theorem dX8_order_55 : decode cX8_order 55 = .ok (.iload_n 2, 1) := by decide +kernel
theorem dX8_order_56 : decode cX8_order 56 = .ok (.bipush 10, 2) := by decide +kernel
theorem dX8_order_58 : decode cX8_order 58 = .ok (.isub, 1) := by decide +kernel
theorem dX8_order_59 : decode cX8_order 59 = .ok (.aload_n 0, 1) := by decide +kernel
theorem dX8_order_60 : decode cX8_order 60 = .ok (.getfield 12, 3) := by decide +kernel
theorem dX8_order_63 : decode cX8_order 63 = .ok (.getfield 170, 3) := by decide +kernel
theorem dX8_order_66 : decode cX8_order 66 = .ok (.iload_n 1, 1) := by decide +kernel
theorem dX8_order_67 : decode cX8_order 67 = .ok (.invokevirtual 195, 3) := by decide +kernel
theorem dX8_order_70 : decode cX8_order 70 = .ok (.if_icmp .lt 6, 3) := by decide +kernel
theorem dX8_order_73 : decode cX8_order 73 = .ok (.bipush (-5), 2) := by decide +kernel
theorem dX8_order_75 : decode cX8_order 75 = .ok (.ireturn, 1) := by decide +kernel
theorem dX8_order_76 : decode cX8_order 76 = .ok (.aload_n 0, 1) := by decide +kernel
theorem dX8_order_77 : decode cX8_order 77 = .ok (.getfield 12, 3) := by decide +kernel
theorem dX8_order_80 : decode cX8_order 80 = .ok (.getfield 170, 3) := by decide +kernel
theorem dX8_order_83 : decode cX8_order 83 = .ok (.iload_n 1, 1) := by decide +kernel
theorem dX8_order_84 : decode cX8_order 84 = .ok (.iload_n 3, 1) := by decide +kernel
theorem dX8_order_85 : decode cX8_order 85 = .ok (.iload_n 2, 1) := by decide +kernel
theorem dX8_order_86 : decode cX8_order 86 = .ok (.bipush 10, 2) := by decide +kernel
theorem dX8_order_88 : decode cX8_order 88 = .ok (.isub, 1) := by decide +kernel
theorem dX8_order_89 : decode cX8_order 89 = .ok (.invokestatic 235, 3) := by decide +kernel
theorem dX8_order_92 : decode cX8_order 92 = .ok (.invokevirtual 203, 3) := by decide +kernel
theorem dX8_order_95 : decode cX8_order 95 = .ok (.ireturn, 1) := by decide +kernel
theorem dX8_found_0 : decode cX8_found 0 = .ok (.iload_n 2, 1) := by decide +kernel
theorem dX8_found_1 : decode cX8_found 1 = .ok (.bipush 10, 2) := by decide +kernel
theorem dX8_found_3 : decode cX8_found 3 = .ok (.if_icmp .lt 13, 3) := by decide +kernel
theorem dX8_found_6 : decode cX8_found 6 = .ok (.iload_n 2, 1) := by decide +kernel
theorem dX8_found_7 : decode cX8_found 7 = .ok (.bipush 13, 2) := by decide +kernel
theorem dX8_found_9 : decode cX8_found 9 = .ok (.if_icmp .gt 7, 3) := by decide +kernel
theorem dX8_found_12 : decode cX8_found 12 = .ok (.iconst 1, 1) := by decide +kernel
theorem dX8_found_13 : decode cX8_found 13 = .ok (.goto 4, 3) := by decide +kernel
theorem dX8_found_16 : decode cX8_found 16 = .ok (.iconst 0, 1) := by decide +kernel
theorem dX8_found_17 : decode cX8_found 17 = .ok (.istore_n 3, 1) := by decide +kernel
theorem dX8_found_18 : decode cX8_found 18 = .ok (.aload_n 0, 1) := by decide +kernel
theorem dX8_found_19 : decode cX8_found 19 = .ok (.getfield 12, 3) := by decide +kernel
theorem dX8_found_22 : decode cX8_found 22 = .ok (.iload_n 1, 1) := by decide +kernel
theorem dX8_found_23 : decode cX8_found 23 = .ok (.invokevirtual 68, 3) := by decide +kernel
theorem dX8_found_26 : decode cX8_found 26 = .ok (.ifCond .eq 16, 3) := by decide +kernel
theorem dX8_found_29 : decode cX8_found 29 = .ok (.iload_n 2, 1) := by decide +kernel
theorem dX8_found_30 : decode cX8_found 30 = .ok (.ifCond .eq 14, 3) := by decide +kernel
theorem dX8_found_33 : decode cX8_found 33 = .ok (.iload_n 2, 1) := by decide +kernel
theorem dX8_found_34 : decode cX8_found 34 = .ok (.iconst 1, 1) := by decide +kernel
theorem dX8_found_35 : decode cX8_found 35 = .ok (.if_icmp .eq 9, 3) := by decide +kernel
theorem dX8_found_38 : decode cX8_found 38 = .ok (.iload_n 3, 1) := by decide +kernel
theorem dX8_found_39 : decode cX8_found 39 = .ok (.ifCond .ne 5, 3) := by decide +kernel
theorem dX8_found_42 : decode cX8_found 42 = .ok (.iconst (-1), 1) := by decide +kernel
theorem dX8_found_43 : decode cX8_found 43 = .ok (.ireturn, 1) := by decide +kernel
theorem dX8_found_44 : decode cX8_found 44 = .ok (.aload_n 0, 1) := by decide +kernel
theorem dX8_found_45 : decode cX8_found 45 = .ok (.getfield 52, 3) := by decide +kernel
theorem dX8_found_48 : decode cX8_found 48 = .ok (.aload_n 0, 1) := by decide +kernel
theorem dX8_found_49 : decode cX8_found 49 = .ok (.getfield 12, 3) := by decide +kernel
theorem dX8_found_52 : decode cX8_found 52 = .ok (.getfield 72, 3) := by decide +kernel
theorem dX8_found_55 : decode cX8_found 55 = .ok (.iload_n 1, 1) := by decide +kernel
theorem dX8_found_56 : decode cX8_found 56 = .ok (.invokestatic 76, 3) := by decide +kernel
theorem dX8_found_59 : decode cX8_found 59 = .ok (.aload_n 0, 1) := by decide +kernel
theorem dX8_found_60 : decode cX8_found 60 = .ok (.getfield 12, 3) := by decide +kernel
theorem dX8_found_63 : decode cX8_found 63 = .ok (.getfield 80, 3) := by decide +kernel
theorem dX8_found_66 : decode cX8_found 66 = .ok (.iload_n 1, 1) := by decide +kernel
theorem dX8_found_67 : decode cX8_found 67 = .ok (.invokestatic 76, 3) := by decide +kernel
theorem dX8_found_70 : decode cX8_found 70 = .ok (.aload_n 0, 1) := by decide +kernel
theorem dX8_found_71 : decode cX8_found 71 = .ok (.getfield 12, 3) := by decide +kernel
theorem dX8_found_74 : decode cX8_found 74 = .ok (.getfield 105, 3) := by decide +kernel
theorem dX8_found_77 : decode cX8_found 77 = .ok (.aload_n 0, 1) := by decide +kernel
theorem dX8_found_78 : decode cX8_found 78 = .ok (.getfield 12, 3) := by decide +kernel
theorem dX8_found_81 : decode cX8_found 81 = .ok (.getfield 108, 3) := by decide +kernel
theorem dX8_found_84 : decode cX8_found 84 = .ok (.invokevirtual 238, 3) := by decide +kernel
theorem dX8_found_87 : decode cX8_found 87 = .ok (.iload_n 2, 1) := by decide +kernel
theorem dX8_found_88 : decode cX8_found 88 = .ok (.ifCond .ne 19, 3) := by decide +kernel
theorem dX8_found_91 : decode cX8_found 91 = .ok (.aload_n 0, 1) := by decide +kernel
theorem dX8_found_92 : decode cX8_found 92 = .ok (.getfield 52, 3) := by decide +kernel
theorem dX8_found_95 : decode cX8_found 95 = .ok (.invokevirtual 242, 3) := by decide +kernel
theorem dX8_found_98 : decode cX8_found 98 = .ok (.ifCond .eq 7, 3) := by decide +kernel
theorem dX8_found_101 : decode cX8_found 101 = .ok (.iconst 1, 1) := by decide +kernel
theorem dX8_found_102 : decode cX8_found 102 = .ok (.goto 4, 3) := by decide +kernel
theorem dX8_found_105 : decode cX8_found 105 = .ok (.iconst 2, 1) := by decide +kernel
theorem dX8_found_106 : decode cX8_found 106 = .ok (.ireturn, 1) := by decide +kernel
theorem dX8_found_107 : decode cX8_found 107 = .ok (.iload_n 2, 1) := by decide +kernel
theorem dX8_found_108 : decode cX8_found 108 = .ok (.iconst 1, 1) := by decide +kernel
theorem dX8_found_109 : decode cX8_found 109 = .ok (.if_icmp .ne 11, 3) := by decide +kernel
theorem dX8_found_112 : decode cX8_found 112 = .ok (.aload_n 0, 1) := by decide +kernel
theorem dX8_found_113 : decode cX8_found 113 = .ok (.getfield 52, 3) := by decide +kernel
theorem dX8_found_116 : decode cX8_found 116 = .ok (.invokevirtual 246, 3) := by decide +kernel
theorem dX8_found_119 : decode cX8_found 119 = .ok (.ireturn, 1) := by decide +kernel
theorem dX8_found_120 : decode cX8_found 120 = .ok (.iload_n 2, 1) := by decide +kernel
theorem dX8_found_121 : decode cX8_found 121 = .ok (.bipush 12, 2) := by decide +kernel
theorem dX8_found_123 : decode cX8_found 123 = .ok (.if_icmp .lt 16, 3) := by decide +kernel
theorem dX8_found_126 : decode cX8_found 126 = .ok (.aload_n 0, 1) := by decide +kernel
theorem dX8_found_127 : decode cX8_found 127 = .ok (.getfield 52, 3) := by decide +kernel
theorem dX8_found_130 : decode cX8_found 130 = .ok (.invokevirtual 242, 3) := by decide +kernel
theorem dX8_found_133 : decode cX8_found 133 = .ok (.ifCond .eq 6, 3) := by decide +kernel
theorem dX8_found_136 : decode cX8_found 136 = .ok (.bipush (-5), 2) := by decide +kernel
theorem dX8_found_138 : decode cX8_found 138 = .ok (.ireturn, 1) := by decide +kernel
theorem dX8_found_139 : decode cX8_found 139 = .ok (.aload_n 0, 1) := by decide +kernel
theorem dX8_found_140 : decode cX8_found 140 = .ok (.getfield 52, 3) := by decide +kernel
theorem dX8_found_143 : decode cX8_found 143 = .ok (.iload_n 2, 1) := by decide +kernel
theorem dX8_found_144 : decode cX8_found 144 = .ok (.bipush 10, 2) := by decide +kernel
theorem dX8_found_146 : decode cX8_found 146 = .ok (.isub, 1) := by decide +kernel
theorem dX8_found_147 : decode cX8_found 147 = .ok (.invokevirtual 249, 3) := by decide +kernel
theorem dX8_found_150 : decode cX8_found 150 = .ok (.ireturn, 1) := by decide +kernel
theorem dX8_foundWrong_0 : decode cX8_foundWrong 0 = .ok (.aload_n 0, 1) := by decide +kernel
theorem dX8_foundWrong_1 : decode cX8_foundWrong 1 = .ok (.getfield 12, 3) := by decide +kernel
theorem dX8_foundWrong_4 : decode cX8_foundWrong 4 = .ok (.iload_n 1, 1) := by decide +kernel
theorem dX8_foundWrong_5 : decode cX8_foundWrong 5 = .ok (.invokevirtual 68, 3) := by decide +kernel
theorem dX8_foundWrong_8 : decode cX8_foundWrong 8 = .ok (.ifCond .eq 10, 3) := by decide +kernel
theorem dX8_foundWrong_11 : decode cX8_foundWrong 11 = .ok (.iload_n 2, 1) := by decide +kernel
theorem dX8_foundWrong_12 : decode cX8_foundWrong 12 = .ok (.invokestatic 83, 3) := by decide +kernel
theorem dX8_foundWrong_15 : decode cX8_foundWrong 15 = .ok (.ifCond .ne 7, 3) := by decide +kernel
theorem dX8_foundWrong_18 : decode cX8_foundWrong 18 = .ok (.ldc2_w 86, 3) := by decide +kernel
theorem dX8_foundWrong_21 : decode cX8_foundWrong 21 = .ok (.lreturn, 1) := by decide +kernel
theorem dX8_foundWrong_22 : decode cX8_foundWrong 22 = .ok (.aload_n 0, 1) := by decide +kernel
theorem dX8_foundWrong_23 : decode cX8_foundWrong 23 = .ok (.getfield 52, 3) := by decide +kernel
theorem dX8_foundWrong_26 : decode cX8_foundWrong 26 = .ok (.aload_n 0, 1) := by decide +kernel
theorem dX8_foundWrong_27 : decode cX8_foundWrong 27 = .ok (.getfield 12, 3) := by decide +kernel
theorem dX8_foundWrong_30 : decode cX8_foundWrong 30 = .ok (.getfield 72, 3) := by decide +kernel
theorem dX8_foundWrong_33 : decode cX8_foundWrong 33 = .ok (.iload_n 1, 1) := by decide +kernel
theorem dX8_foundWrong_34 : decode cX8_foundWrong 34 = .ok (.invokestatic 76, 3) := by decide +kernel
theorem dX8_foundWrong_37 : decode cX8_foundWrong 37 = .ok (.aload_n 0, 1) := by decide +kernel
theorem dX8_foundWrong_38 : decode cX8_foundWrong 38 = .ok (.getfield 12, 3) := by decide +kernel
theorem dX8_foundWrong_41 : decode cX8_foundWrong 41 = .ok (.getfield 80, 3) := by decide +kernel
theorem dX8_foundWrong_44 : decode cX8_foundWrong 44 = .ok (.iload_n 1, 1) := by decide +kernel
theorem dX8_foundWrong_45 : decode cX8_foundWrong 45 = .ok (.invokestatic 76, 3) := by decide +kernel
theorem dX8_foundWrong_48 : decode cX8_foundWrong 48 = .ok (.aload_n 0, 1) := by decide +kernel
theorem dX8_foundWrong_49 : decode cX8_foundWrong 49 = .ok (.getfield 12, 3) := by decide +kernel
theorem dX8_foundWrong_52 : decode cX8_foundWrong 52 = .ok (.getfield 105, 3) := by decide +kernel
theorem dX8_foundWrong_55 : decode cX8_foundWrong 55 = .ok (.aload_n 0, 1) := by decide +kernel
theorem dX8_foundWrong_56 : decode cX8_foundWrong 56 = .ok (.getfield 12, 3) := by decide +kernel
theorem dX8_foundWrong_59 : decode cX8_foundWrong 59 = .ok (.getfield 108, 3) := by decide +kernel
theorem dX8_foundWrong_62 : decode cX8_foundWrong 62 = .ok (.invokevirtual 238, 3) := by decide +kernel
theorem dX8_foundWrong_65 : decode cX8_foundWrong 65 = .ok (.aload_n 0, 1) := by decide +kernel
theorem dX8_foundWrong_66 : decode cX8_foundWrong 66 = .ok (.getfield 52, 3) := by decide +kernel
theorem dX8_foundWrong_69 : decode cX8_foundWrong 69 = .ok (.invokevirtual 252, 3) := by decide +kernel
theorem dX8_foundWrong_72 : decode cX8_foundWrong 72 = .ok (.aload_n 0, 1) := by decide +kernel
theorem dX8_foundWrong_73 : decode cX8_foundWrong 73 = .ok (.getfield 52, 3) := by decide +kernel
theorem dX8_foundWrong_76 : decode cX8_foundWrong 76 = .ok (.invokevirtual 255, 3) := by decide +kernel
theorem dX8_foundWrong_79 : decode cX8_foundWrong 79 = .ok (.iload_n 2, 1) := by decide +kernel
theorem dX8_foundWrong_80 : decode cX8_foundWrong 80 = .ok (.invokestatic 88, 3) := by decide +kernel
theorem dX8_foundWrong_83 : decode cX8_foundWrong 83 = .ok (.lreturn, 1) := by decide +kernel
theorem dX8_turn_0 : decode cX8_turn 0 = .ok (.iload_n 1, 1) := by decide +kernel
theorem dX8_turn_1 : decode cX8_turn 1 = .ok (.invokestatic 257, 3) := by decide +kernel
theorem dX8_turn_4 : decode cX8_turn 4 = .ok (.ifCond .ne 6, 3) := by decide +kernel
theorem dX8_turn_7 : decode cX8_turn 7 = .ok (.bipush (-2), 2) := by decide +kernel
theorem dX8_turn_9 : decode cX8_turn 9 = .ok (.ireturn, 1) := by decide +kernel
theorem dX8_turn_10 : decode cX8_turn 10 = .ok (.aload_n 0, 1) := by decide +kernel
theorem dX8_turn_11 : decode cX8_turn 11 = .ok (.getfield 12, 3) := by decide +kernel
theorem dX8_turn_14 : decode cX8_turn 14 = .ok (.getfield 260, 3) := by decide +kernel
theorem dX8_turn_17 : decode cX8_turn 17 = .ok (.iload_n 1, 1) := by decide +kernel
theorem dX8_turn_18 : decode cX8_turn 18 = .ok (.iadd, 1) := by decide +kernel
theorem dX8_turn_19 : decode cX8_turn 19 = .ok (.sipush (-9999), 3) := by decide +kernel
theorem dX8_turn_22 : decode cX8_turn 22 = .ok (.if_icmp .lt 18, 3) := by decide +kernel
theorem dX8_turn_25 : decode cX8_turn 25 = .ok (.aload_n 0, 1) := by decide +kernel
theorem dX8_turn_26 : decode cX8_turn 26 = .ok (.getfield 12, 3) := by decide +kernel
theorem dX8_turn_29 : decode cX8_turn 29 = .ok (.getfield 260, 3) := by decide +kernel
theorem dX8_turn_32 : decode cX8_turn 32 = .ok (.iload_n 1, 1) := by decide +kernel
theorem dX8_turn_33 : decode cX8_turn 33 = .ok (.iadd, 1) := by decide +kernel
theorem dX8_turn_34 : decode cX8_turn 34 = .ok (.sipush 9999, 3) := by decide +kernel
theorem dX8_turn_37 : decode cX8_turn 37 = .ok (.if_icmp .le 6, 3) := by decide +kernel
theorem dX8_turn_40 : decode cX8_turn 40 = .ok (.bipush (-3), 2) := by decide +kernel
theorem dX8_turn_42 : decode cX8_turn 42 = .ok (.ireturn, 1) := by decide +kernel
theorem dX8_turn_43 : decode cX8_turn 43 = .ok (.aload_n 0, 1) := by decide +kernel
theorem dX8_turn_44 : decode cX8_turn 44 = .ok (.getfield 12, 3) := by decide +kernel
theorem dX8_turn_47 : decode cX8_turn 47 = .ok (.iload_n 1, 1) := by decide +kernel
theorem dX8_turn_48 : decode cX8_turn 48 = .ok (.invokevirtual 263, 3) := by decide +kernel
theorem dX8_turn_51 : decode cX8_turn 51 = .ok (.aload_n 0, 1) := by decide +kernel
theorem dX8_turn_52 : decode cX8_turn 52 = .ok (.getfield 12, 3) := by decide +kernel
theorem dX8_turn_55 : decode cX8_turn 55 = .ok (.getfield 260, 3) := by decide +kernel
theorem dX8_turn_58 : decode cX8_turn 58 = .ok (.sipush 10000, 3) := by decide +kernel
theorem dX8_turn_61 : decode cX8_turn 61 = .ok (.iadd, 1) := by decide +kernel
theorem dX8_turn_62 : decode cX8_turn 62 = .ok (.ireturn, 1) := by decide +kernel
theorem dX8_crank_0 : decode cX8_crank 0 = .ok (.iload_n 1, 1) := by decide +kernel
theorem dX8_crank_1 : decode cX8_crank 1 = .ok (.ifCond .ne 15, 3) := by decide +kernel
theorem dX8_crank_4 : decode cX8_crank 4 = .ok (.aload_n 0, 1) := by decide +kernel
theorem dX8_crank_5 : decode cX8_crank 5 = .ok (.getfield 12, 3) := by decide +kernel
theorem dX8_crank_8 : decode cX8_crank 8 = .ok (.getfield 260, 3) := by decide +kernel
theorem dX8_crank_11 : decode cX8_crank 11 = .ok (.sipush 10000, 3) := by decide +kernel
theorem dX8_crank_14 : decode cX8_crank 14 = .ok (.iadd, 1) := by decide +kernel
theorem dX8_crank_15 : decode cX8_crank 15 = .ok (.ireturn, 1) := by decide +kernel
theorem dX8_crank_16 : decode cX8_crank 16 = .ok (.iload_n 1, 1) := by decide +kernel
theorem dX8_crank_17 : decode cX8_crank 17 = .ok (.iconst 1, 1) := by decide +kernel
theorem dX8_crank_18 : decode cX8_crank 18 = .ok (.if_icmp .ne 19, 3) := by decide +kernel
theorem dX8_crank_21 : decode cX8_crank 21 = .ok (.aload_n 0, 1) := by decide +kernel
theorem dX8_crank_22 : decode cX8_crank 22 = .ok (.getfield 12, 3) := by decide +kernel
theorem dX8_crank_25 : decode cX8_crank 25 = .ok (.getfield 267, 3) := by decide +kernel
theorem dX8_crank_28 : decode cX8_crank 28 = .ok (.ifCond .eq 7, 3) := by decide +kernel
theorem dX8_crank_31 : decode cX8_crank 31 = .ok (.iconst 1, 1) := by decide +kernel
theorem dX8_crank_32 : decode cX8_crank 32 = .ok (.goto 4, 3) := by decide +kernel
theorem dX8_crank_35 : decode cX8_crank 35 = .ok (.iconst 0, 1) := by decide +kernel
theorem dX8_crank_36 : decode cX8_crank 36 = .ok (.ireturn, 1) := by decide +kernel
theorem dX8_crank_37 : decode cX8_crank 37 = .ok (.iconst (-1), 1) := by decide +kernel
theorem dX8_crank_38 : decode cX8_crank 38 = .ok (.ireturn, 1) := by decide +kernel
theorem dX8_stands_0 : decode cX8_stands 0 = .ok (.aload_n 0, 1) := by decide +kernel
theorem dX8_stands_1 : decode cX8_stands 1 = .ok (.getfield 12, 3) := by decide +kernel
theorem dX8_stands_4 : decode cX8_stands 4 = .ok (.iload_n 1, 1) := by decide +kernel
theorem dX8_stands_5 : decode cX8_stands 5 = .ok (.invokevirtual 192, 3) := by decide +kernel
theorem dX8_stands_8 : decode cX8_stands 8 = .ok (.ifCond .eq 14, 3) := by decide +kernel
theorem dX8_stands_11 : decode cX8_stands 11 = .ok (.aload_n 0, 1) := by decide +kernel
theorem dX8_stands_12 : decode cX8_stands 12 = .ok (.getfield 12, 3) := by decide +kernel
theorem dX8_stands_15 : decode cX8_stands 15 = .ok (.iload_n 1, 1) := by decide +kernel
theorem dX8_stands_16 : decode cX8_stands 16 = .ok (.invokevirtual 270, 3) := by decide +kernel
theorem dX8_stands_19 : decode cX8_stands 19 = .ok (.goto 6, 3) := by decide +kernel
theorem dX8_stands_22 : decode cX8_stands 22 = .ok (.ldc2_w 86, 3) := by decide +kernel
theorem dX8_stands_25 : decode cX8_stands 25 = .ok (.lreturn, 1) := by decide +kernel
theorem dX8_meet_0 : decode cX8_meet 0 = .ok (.aload_n 0, 1) := by decide +kernel
theorem dX8_meet_1 : decode cX8_meet 1 = .ok (.iload_n 1, 1) := by decide +kernel
theorem dX8_meet_2 : decode cX8_meet 2 = .ok (.iload_n 2, 1) := by decide +kernel
theorem dX8_meet_3 : decode cX8_meet 3 = .ok (.invokevirtual 223, 3) := by decide +kernel
theorem dX8_meet_6 : decode cX8_meet 6 = .ok (.ifCond .eq 25, 3) := by decide +kernel
theorem dX8_meet_9 : decode cX8_meet 9 = .ok (.aload_n 0, 1) := by decide +kernel
theorem dX8_meet_10 : decode cX8_meet 10 = .ok (.getfield 12, 3) := by decide +kernel
theorem dX8_meet_13 : decode cX8_meet 13 = .ok (.iload_n 1, 1) := by decide +kernel
theorem dX8_meet_14 : decode cX8_meet 14 = .ok (.invokevirtual 192, 3) := by decide +kernel
theorem dX8_meet_17 : decode cX8_meet 17 = .ok (.ifCond .eq 14, 3) := by decide +kernel
theorem dX8_meet_20 : decode cX8_meet 20 = .ok (.aload_n 0, 1) := by decide +kernel
theorem dX8_meet_21 : decode cX8_meet 21 = .ok (.getfield 12, 3) := by decide +kernel
theorem dX8_meet_24 : decode cX8_meet 24 = .ok (.iload_n 2, 1) := by decide +kernel
theorem dX8_meet_25 : decode cX8_meet 25 = .ok (.invokevirtual 192, 3) := by decide +kernel
theorem dX8_meet_28 : decode cX8_meet 28 = .ok (.ifCond .ne 7, 3) := by decide +kernel
theorem dX8_meet_31 : decode cX8_meet 31 = .ok (.ldc2_w 86, 3) := by decide +kernel
theorem dX8_meet_34 : decode cX8_meet 34 = .ok (.lreturn, 1) := by decide +kernel
theorem dX8_meet_35 : decode cX8_meet 35 = .ok (.aload_n 0, 1) := by decide +kernel
theorem dX8_meet_36 : decode cX8_meet 36 = .ok (.getfield 12, 3) := by decide +kernel
theorem dX8_meet_39 : decode cX8_meet 39 = .ok (.iload_n 1, 1) := by decide +kernel
theorem dX8_meet_40 : decode cX8_meet 40 = .ok (.invokevirtual 206, 3) := by decide +kernel
theorem dX8_meet_43 : decode cX8_meet 43 = .ok (.aload_n 0, 1) := by decide +kernel
theorem dX8_meet_44 : decode cX8_meet 44 = .ok (.getfield 12, 3) := by decide +kernel
theorem dX8_meet_47 : decode cX8_meet 47 = .ok (.iload_n 1, 1) := by decide +kernel
theorem dX8_meet_48 : decode cX8_meet 48 = .ok (.invokevirtual 209, 3) := by decide +kernel
theorem dX8_meet_51 : decode cX8_meet 51 = .ok (.iconst 1, 1) := by decide +kernel
theorem dX8_meet_52 : decode cX8_meet 52 = .ok (.invokestatic 88, 3) := by decide +kernel
theorem dX8_meet_55 : decode cX8_meet 55 = .ok (.lstore_n 3, 1) := by decide +kernel
theorem dX8_meet_56 : decode cX8_meet 56 = .ok (.aload_n 0, 1) := by decide +kernel
theorem dX8_meet_57 : decode cX8_meet 57 = .ok (.getfield 12, 3) := by decide +kernel
theorem dX8_meet_60 : decode cX8_meet 60 = .ok (.iload_n 2, 1) := by decide +kernel
theorem dX8_meet_61 : decode cX8_meet 61 = .ok (.invokevirtual 206, 3) := by decide +kernel
theorem dX8_meet_64 : decode cX8_meet 64 = .ok (.aload_n 0, 1) := by decide +kernel
theorem dX8_meet_65 : decode cX8_meet 65 = .ok (.getfield 12, 3) := by decide +kernel
theorem dX8_meet_68 : decode cX8_meet 68 = .ok (.iload_n 2, 1) := by decide +kernel
theorem dX8_meet_69 : decode cX8_meet 69 = .ok (.invokevirtual 209, 3) := by decide +kernel
theorem dX8_meet_72 : decode cX8_meet 72 = .ok (.iconst 1, 1) := by decide +kernel
theorem dX8_meet_73 : decode cX8_meet 73 = .ok (.invokestatic 88, 3) := by decide +kernel
theorem dX8_meet_76 : decode cX8_meet 76 = .ok (.lstore 5, 2) := by decide +kernel
theorem dX8_meet_78 : decode cX8_meet 78 = .ok (.lload_n 3, 1) := by decide +kernel
theorem dX8_meet_79 : decode cX8_meet 79 = .ok (.lload 5, 2) := by decide +kernel
theorem dX8_meet_81 : decode cX8_meet 81 = .ok (.lload_n 3, 1) := by decide +kernel
theorem dX8_meet_82 : decode cX8_meet 82 = .ok (.lload 5, 2) := by decide +kernel
theorem dX8_meet_84 : decode cX8_meet 84 = .ok (.invokestatic 273, 3) := by decide +kernel
theorem dX8_meet_87 : decode cX8_meet 87 = .ok (.invokestatic 92, 3) := by decide +kernel
theorem dX8_meet_90 : decode cX8_meet 90 = .ok (.lmul, 1) := by decide +kernel
theorem dX8_meet_91 : decode cX8_meet 91 = .ok (.lreturn, 1) := by decide +kernel
theorem dX8_join_0 : decode cX8_join 0 = .ok (.aload_n 0, 1) := by decide +kernel
theorem dX8_join_1 : decode cX8_join 1 = .ok (.iload_n 1, 1) := by decide +kernel
theorem dX8_join_2 : decode cX8_join 2 = .ok (.iload_n 2, 1) := by decide +kernel
theorem dX8_join_3 : decode cX8_join 3 = .ok (.invokevirtual 223, 3) := by decide +kernel
theorem dX8_join_6 : decode cX8_join 6 = .ok (.ifCond .ne 5, 3) := by decide +kernel
theorem dX8_join_9 : decode cX8_join 9 = .ok (.iconst (-1), 1) := by decide +kernel
theorem dX8_join_10 : decode cX8_join 10 = .ok (.ireturn, 1) := by decide +kernel
theorem dX8_join_11 : decode cX8_join 11 = .ok (.iload_n 3, 1) := by decide +kernel
theorem dX8_join_12 : decode cX8_join 12 = .ok (.ifCond .lt 10, 3) := by decide +kernel
theorem dX8_join_15 : decode cX8_join 15 = .ok (.iload_n 3, 1) := by decide +kernel
theorem dX8_join_16 : decode cX8_join 16 = .ok (.sipush 499, 3) := by decide +kernel
theorem dX8_join_19 : decode cX8_join 19 = .ok (.if_icmp .le 6, 3) := by decide +kernel
theorem dX8_join_22 : decode cX8_join 22 = .ok (.bipush (-2), 2) := by decide +kernel
theorem dX8_join_24 : decode cX8_join 24 = .ok (.ireturn, 1) := by decide +kernel
theorem dX8_join_25 : decode cX8_join 25 = .ok (.aload_n 0, 1) := by decide +kernel
theorem dX8_join_26 : decode cX8_join 26 = .ok (.getfield 12, 3) := by decide +kernel
theorem dX8_join_29 : decode cX8_join 29 = .ok (.iload_n 1, 1) := by decide +kernel
theorem dX8_join_30 : decode cX8_join 30 = .ok (.invokevirtual 192, 3) := by decide +kernel
theorem dX8_join_33 : decode cX8_join 33 = .ok (.ifCond .eq 14, 3) := by decide +kernel
theorem dX8_join_36 : decode cX8_join 36 = .ok (.aload_n 0, 1) := by decide +kernel
theorem dX8_join_37 : decode cX8_join 37 = .ok (.getfield 12, 3) := by decide +kernel
theorem dX8_join_40 : decode cX8_join 40 = .ok (.iload_n 2, 1) := by decide +kernel
theorem dX8_join_41 : decode cX8_join 41 = .ok (.invokevirtual 192, 3) := by decide +kernel
theorem dX8_join_44 : decode cX8_join 44 = .ok (.ifCond .ne 6, 3) := by decide +kernel
theorem dX8_join_47 : decode cX8_join 47 = .ok (.bipush (-3), 2) := by decide +kernel
theorem dX8_join_49 : decode cX8_join 49 = .ok (.ireturn, 1) := by decide +kernel
theorem dX8_join_50 : decode cX8_join 50 = .ok (.aload_n 0, 1) := by decide +kernel
theorem dX8_join_51 : decode cX8_join 51 = .ok (.iload_n 1, 1) := by decide +kernel
theorem dX8_join_52 : decode cX8_join 52 = .ok (.iload_n 2, 1) := by decide +kernel
theorem dX8_join_53 : decode cX8_join 53 = .ok (.iload_n 3, 1) := by decide +kernel
theorem dX8_join_54 : decode cX8_join 54 = .ok (.invokevirtual 276, 3) := by decide +kernel
theorem dX8_join_57 : decode cX8_join 57 = .ok (.ireturn, 1) := by decide +kernel
theorem dX8_drift_0 : decode cX8_drift 0 = .ok (.aload_n 0, 1) := by decide +kernel
theorem dX8_drift_1 : decode cX8_drift 1 = .ok (.getfield 12, 3) := by decide +kernel
theorem dX8_drift_4 : decode cX8_drift 4 = .ok (.iload_n 1, 1) := by decide +kernel
theorem dX8_drift_5 : decode cX8_drift 5 = .ok (.invokevirtual 192, 3) := by decide +kernel
theorem dX8_drift_8 : decode cX8_drift 8 = .ok (.ifCond .eq 14, 3) := by decide +kernel
theorem dX8_drift_11 : decode cX8_drift 11 = .ok (.iload_n 2, 1) := by decide +kernel
theorem dX8_drift_12 : decode cX8_drift 12 = .ok (.ifCond .lt 10, 3) := by decide +kernel
theorem dX8_drift_15 : decode cX8_drift 15 = .ok (.iload_n 2, 1) := by decide +kernel
theorem dX8_drift_16 : decode cX8_drift 16 = .ok (.sipush 9999, 3) := by decide +kernel
theorem dX8_drift_19 : decode cX8_drift 19 = .ok (.if_icmp .le 7, 3) := by decide +kernel
theorem dX8_drift_22 : decode cX8_drift 22 = .ok (.ldc2_w 86, 3) := by decide +kernel
theorem dX8_drift_25 : decode cX8_drift 25 = .ok (.lreturn, 1) := by decide +kernel
theorem dX8_drift_26 : decode cX8_drift 26 = .ok (.ldc2_w 280, 3) := by decide +kernel
theorem dX8_drift_29 : decode cX8_drift 29 = .ok (.iload_n 2, 1) := by decide +kernel
theorem dX8_drift_30 : decode cX8_drift 30 = .ok (.i2l, 1) := by decide +kernel
theorem dX8_drift_31 : decode cX8_drift 31 = .ok (.lmul, 1) := by decide +kernel
theorem dX8_drift_32 : decode cX8_drift 32 = .ok (.aload_n 0, 1) := by decide +kernel
theorem dX8_drift_33 : decode cX8_drift 33 = .ok (.getfield 12, 3) := by decide +kernel
theorem dX8_drift_36 : decode cX8_drift 36 = .ok (.iload_n 1, 1) := by decide +kernel
theorem dX8_drift_37 : decode cX8_drift 37 = .ok (.invokevirtual 211, 3) := by decide +kernel
theorem dX8_drift_40 : decode cX8_drift 40 = .ok (.lmul, 1) := by decide +kernel
theorem dX8_drift_41 : decode cX8_drift 41 = .ok (.aload_n 0, 1) := by decide +kernel
theorem dX8_drift_42 : decode cX8_drift 42 = .ok (.getfield 12, 3) := by decide +kernel
theorem dX8_drift_45 : decode cX8_drift 45 = .ok (.iload_n 1, 1) := by decide +kernel
theorem dX8_drift_46 : decode cX8_drift 46 = .ok (.invokevirtual 214, 3) := by decide +kernel
theorem dX8_drift_49 : decode cX8_drift 49 = .ok (.invokestatic 92, 3) := by decide +kernel
theorem dX8_drift_52 : decode cX8_drift 52 = .ok (.lreturn, 1) := by decide +kernel
theorem dX8_were_0 : decode cX8_were 0 = .ok (.aload_n 0, 1) := by decide +kernel
theorem dX8_were_1 : decode cX8_were 1 = .ok (.getfield 12, 3) := by decide +kernel
theorem dX8_were_4 : decode cX8_were 4 = .ok (.iload_n 1, 1) := by decide +kernel
theorem dX8_were_5 : decode cX8_were 5 = .ok (.invokevirtual 68, 3) := by decide +kernel
theorem dX8_were_8 : decode cX8_were 8 = .ok (.ifCond .eq 23, 3) := by decide +kernel
theorem dX8_were_11 : decode cX8_were 11 = .ok (.iload_n 2, 1) := by decide +kernel
theorem dX8_were_12 : decode cX8_were 12 = .ok (.ifCond .lt 19, 3) := by decide +kernel
theorem dX8_were_15 : decode cX8_were 15 = .ok (.iload_n 2, 1) := by decide +kernel
theorem dX8_were_16 : decode cX8_were 16 = .ok (.iconst 3, 1) := by decide +kernel
theorem dX8_were_17 : decode cX8_were 17 = .ok (.if_icmp .ge 14, 3) := by decide +kernel
theorem dX8_were_20 : decode cX8_were 20 = .ok (.iload 5, 2) := by decide +kernel
theorem dX8_were_22 : decode cX8_were 22 = .ok (.ifCond .lt 9, 3) := by decide +kernel
theorem dX8_were_25 : decode cX8_were 25 = .ok (.iload 5, 2) := by decide +kernel
theorem dX8_were_27 : decode cX8_were 27 = .ok (.iconst 1, 1) := by decide +kernel
theorem dX8_were_28 : decode cX8_were 28 = .ok (.if_icmp .le 5, 3) := by decide +kernel
theorem dX8_were_31 : decode cX8_were 31 = .ok (.iconst (-1), 1) := by decide +kernel
theorem dX8_were_32 : decode cX8_were 32 = .ok (.ireturn, 1) := by decide +kernel
theorem dX8_were_33 : decode cX8_were 33 = .ok (.iload_n 2, 1) := by decide +kernel
theorem dX8_were_34 : decode cX8_were 34 = .ok (.aload_n 0, 1) := by decide +kernel
theorem dX8_were_35 : decode cX8_were 35 = .ok (.getfield 12, 3) := by decide +kernel
theorem dX8_were_38 : decode cX8_were 38 = .ok (.getfield 170, 3) := by decide +kernel
theorem dX8_were_41 : decode cX8_were 41 = .ok (.iload_n 1, 1) := by decide +kernel
theorem dX8_were_42 : decode cX8_were 42 = .ok (.invokevirtual 195, 3) := by decide +kernel
theorem dX8_were_45 : decode cX8_were 45 = .ok (.if_icmp .lt 6, 3) := by decide +kernel
theorem dX8_were_48 : decode cX8_were 48 = .ok (.bipush (-3), 2) := by decide +kernel
theorem dX8_were_50 : decode cX8_were 50 = .ok (.ireturn, 1) := by decide +kernel
theorem dX8_were_51 : decode cX8_were 51 = .ok (.aload_n 0, 1) := by decide +kernel
theorem dX8_were_52 : decode cX8_were 52 = .ok (.getfield 21, 3) := by decide +kernel
theorem dX8_were_55 : decode cX8_were 55 = .ok (.aload_n 0, 1) := by decide +kernel
theorem dX8_were_56 : decode cX8_were 56 = .ok (.getfield 12, 3) := by decide +kernel
theorem dX8_were_59 : decode cX8_were 59 = .ok (.invokevirtual 282, 3) := by decide +kernel
theorem dX8_were_62 : decode cX8_were 62 = .ok (.aload_n 0, 1) := by decide +kernel
theorem dX8_were_63 : decode cX8_were 63 = .ok (.getfield 12, 3) := by decide +kernel
theorem dX8_were_66 : decode cX8_were 66 = .ok (.getfield 170, 3) := by decide +kernel
theorem dX8_were_69 : decode cX8_were 69 = .ok (.iload_n 1, 1) := by decide +kernel
theorem dX8_were_70 : decode cX8_were 70 = .ok (.iload_n 2, 1) := by decide +kernel
theorem dX8_were_71 : decode cX8_were 71 = .ok (.invokevirtual 203, 3) := by decide +kernel
theorem dX8_were_74 : decode cX8_were 74 = .ok (.istore 6, 2) := by decide +kernel
theorem dX8_were_76 : decode cX8_were 76 = .ok (.iconst 0, 1) := by decide +kernel
theorem dX8_were_77 : decode cX8_were 77 = .ok (.istore 7, 2) := by decide +kernel
theorem dX8_were_79 : decode cX8_were 79 = .ok (.bipush (-5), 2) := by decide +kernel
theorem dX8_were_81 : decode cX8_were 81 = .ok (.istore 8, 2) := by decide +kernel
theorem dX8_were_83 : decode cX8_were 83 = .ok (.bipush 99, 2) := by decide +kernel
theorem dX8_were_85 : decode cX8_were 85 = .ok (.istore 9, 2) := by decide +kernel
theorem dX8_were_87 : decode cX8_were 87 = .ok (.iload 9, 2) := by decide +kernel
theorem dX8_were_89 : decode cX8_were 89 = .ok (.bipush 10, 2) := by decide +kernel
theorem dX8_were_91 : decode cX8_were 91 = .ok (.if_icmp .lt 46, 3) := by decide +kernel
theorem dX8_were_94 : decode cX8_were 94 = .ok (.aload_n 0, 1) := by decide +kernel
theorem dX8_were_95 : decode cX8_were 95 = .ok (.getfield 21, 3) := by decide +kernel
theorem dX8_were_98 : decode cX8_were 98 = .ok (.getfield 135, 3) := by decide +kernel
theorem dX8_were_101 : decode cX8_were 101 = .ok (.getfield 157, 3) := by decide +kernel
theorem dX8_were_104 : decode cX8_were 104 = .ok (.iload 6, 2) := by decide +kernel
theorem dX8_were_106 : decode cX8_were 106 = .ok (.iload 9, 2) := by decide +kernel
theorem dX8_were_108 : decode cX8_were 108 = .ok (.invokestatic 124, 3) := by decide +kernel
theorem dX8_were_111 : decode cX8_were 111 = .ok (.aload_n 0, 1) := by decide +kernel
theorem dX8_were_112 : decode cX8_were 112 = .ok (.getfield 21, 3) := by decide +kernel
theorem dX8_were_115 : decode cX8_were 115 = .ok (.iload_n 1, 1) := by decide +kernel
theorem dX8_were_116 : decode cX8_were 116 = .ok (.invokevirtual 270, 3) := by decide +kernel
theorem dX8_were_119 : decode cX8_were 119 = .ok (.lload_n 3, 1) := by decide +kernel
theorem dX8_were_120 : decode cX8_were 120 = .ok (.lcmp, 1) := by decide +kernel
theorem dX8_were_121 : decode cX8_were 121 = .ok (.ifCond .ne 10, 3) := by decide +kernel
theorem dX8_were_124 : decode cX8_were 124 = .ok (.iinc 7 1, 3) := by decide +kernel
theorem dX8_were_127 : decode cX8_were 127 = .ok (.iload 9, 2) := by decide +kernel
theorem dX8_were_129 : decode cX8_were 129 = .ok (.istore 8, 2) := by decide +kernel
theorem dX8_were_131 : decode cX8_were 131 = .ok (.iinc 9 (-1), 3) := by decide +kernel
theorem dX8_were_134 : decode cX8_were 134 = .ok (.goto (-47), 3) := by decide +kernel
theorem dX8_were_137 : decode cX8_were 137 = .ok (.iload 5, 2) := by decide +kernel
theorem dX8_were_139 : decode cX8_were 139 = .ok (.ifCond .ne 8, 3) := by decide +kernel
theorem dX8_were_142 : decode cX8_were 142 = .ok (.iload 7, 2) := by decide +kernel
theorem dX8_were_144 : decode cX8_were 144 = .ok (.goto 5, 3) := by decide +kernel
theorem dX8_were_147 : decode cX8_were 147 = .ok (.iload 8, 2) := by decide +kernel
theorem dX8_were_149 : decode cX8_were 149 = .ok (.ireturn, 1) := by decide +kernel
theorem dX8_odds_0 : decode cX8_odds 0 = .ok (.aload_n 0, 1) := by decide +kernel
theorem dX8_odds_1 : decode cX8_odds 1 = .ok (.getfield 12, 3) := by decide +kernel
theorem dX8_odds_4 : decode cX8_odds 4 = .ok (.iload_n 1, 1) := by decide +kernel
theorem dX8_odds_5 : decode cX8_odds 5 = .ok (.invokevirtual 192, 3) := by decide +kernel
theorem dX8_odds_8 : decode cX8_odds 8 = .ok (.ifCond .eq 22, 3) := by decide +kernel
theorem dX8_odds_11 : decode cX8_odds 11 = .ok (.iload_n 3, 1) := by decide +kernel
theorem dX8_odds_12 : decode cX8_odds 12 = .ok (.iconst 1, 1) := by decide +kernel
theorem dX8_odds_13 : decode cX8_odds 13 = .ok (.if_icmp .lt 17, 3) := by decide +kernel
theorem dX8_odds_16 : decode cX8_odds 16 = .ok (.iload_n 3, 1) := by decide +kernel
theorem dX8_odds_17 : decode cX8_odds 17 = .ok (.bipush 30, 2) := by decide +kernel
theorem dX8_odds_19 : decode cX8_odds 19 = .ok (.if_icmp .gt 11, 3) := by decide +kernel
theorem dX8_odds_22 : decode cX8_odds 22 = .ok (.iload 4, 2) := by decide +kernel
theorem dX8_odds_24 : decode cX8_odds 24 = .ok (.invokestatic 83, 3) := by decide +kernel
theorem dX8_odds_27 : decode cX8_odds 27 = .ok (.ifCond .ne 7, 3) := by decide +kernel
theorem dX8_odds_30 : decode cX8_odds 30 = .ok (.ldc2_w 86, 3) := by decide +kernel
theorem dX8_odds_33 : decode cX8_odds 33 = .ok (.lreturn, 1) := by decide +kernel
theorem dX8_odds_34 : decode cX8_odds 34 = .ok (.iconst 0, 1) := by decide +kernel
theorem dX8_odds_35 : decode cX8_odds 35 = .ok (.istore 5, 2) := by decide +kernel
theorem dX8_odds_37 : decode cX8_odds 37 = .ok (.iconst 0, 1) := by decide +kernel
theorem dX8_odds_38 : decode cX8_odds 38 = .ok (.istore 6, 2) := by decide +kernel
theorem dX8_odds_40 : decode cX8_odds 40 = .ok (.iload 6, 2) := by decide +kernel
theorem dX8_odds_42 : decode cX8_odds 42 = .ok (.iload_n 3, 1) := by decide +kernel
theorem dX8_odds_43 : decode cX8_odds 43 = .ok (.if_icmp .ge 27, 3) := by decide +kernel
theorem dX8_odds_46 : decode cX8_odds 46 = .ok (.aload_n 0, 1) := by decide +kernel
theorem dX8_odds_47 : decode cX8_odds 47 = .ok (.getfield 12, 3) := by decide +kernel
theorem dX8_odds_50 : decode cX8_odds 50 = .ok (.iload_n 1, 1) := by decide +kernel
theorem dX8_odds_51 : decode cX8_odds 51 = .ok (.iload_n 2, 1) := by decide +kernel
theorem dX8_odds_52 : decode cX8_odds 52 = .ok (.iload 6, 2) := by decide +kernel
theorem dX8_odds_54 : decode cX8_odds 54 = .ok (.iadd, 1) := by decide +kernel
theorem dX8_odds_55 : decode cX8_odds 55 = .ok (.invokevirtual 286, 3) := by decide +kernel
theorem dX8_odds_58 : decode cX8_odds 58 = .ok (.ifCond .ne 6, 3) := by decide +kernel
theorem dX8_odds_61 : decode cX8_odds 61 = .ok (.iinc 5 1, 3) := by decide +kernel
theorem dX8_odds_64 : decode cX8_odds 64 = .ok (.iinc 6 1, 3) := by decide +kernel
theorem dX8_odds_67 : decode cX8_odds 67 = .ok (.goto (-27), 3) := by decide +kernel
theorem dX8_odds_70 : decode cX8_odds 70 = .ok (.iload 5, 2) := by decide +kernel
theorem dX8_odds_72 : decode cX8_odds 72 = .ok (.i2l, 1) := by decide +kernel
theorem dX8_odds_73 : decode cX8_odds 73 = .ok (.iload_n 3, 1) := by decide +kernel
theorem dX8_odds_74 : decode cX8_odds 74 = .ok (.i2l, 1) := by decide +kernel
theorem dX8_odds_75 : decode cX8_odds 75 = .ok (.iload 4, 2) := by decide +kernel
theorem dX8_odds_77 : decode cX8_odds 77 = .ok (.invokestatic 88, 3) := by decide +kernel
theorem dX8_odds_80 : decode cX8_odds 80 = .ok (.lreturn, 1) := by decide +kernel
theorem dX8_plan_0 : decode cX8_plan 0 = .ok (.iload_n 1, 1) := by decide +kernel
theorem dX8_plan_1 : decode cX8_plan 1 = .ok (.iconst (-1), 1) := by decide +kernel
theorem dX8_plan_2 : decode cX8_plan 2 = .ok (.if_icmp .ne 16, 3) := by decide +kernel
theorem dX8_plan_5 : decode cX8_plan 5 = .ok (.aload_n 0, 1) := by decide +kernel
theorem dX8_plan_6 : decode cX8_plan 6 = .ok (.getfield 12, 3) := by decide +kernel
theorem dX8_plan_9 : decode cX8_plan 9 = .ok (.getfield 289, 3) := by decide +kernel
theorem dX8_plan_12 : decode cX8_plan 12 = .ok (.iconst 0, 1) := by decide +kernel
theorem dX8_plan_13 : decode cX8_plan 13 = .ok (.putfield 293, 3) := by decide +kernel
theorem dX8_plan_16 : decode cX8_plan 16 = .ok (.iconst 0, 1) := by decide +kernel
theorem dX8_plan_17 : decode cX8_plan 17 = .ok (.ireturn, 1) := by decide +kernel
theorem dX8_plan_18 : decode cX8_plan 18 = .ok (.iload_n 1, 1) := by decide +kernel
theorem dX8_plan_19 : decode cX8_plan 19 = .ok (.ifCond .lt 8, 3) := by decide +kernel
theorem dX8_plan_22 : decode cX8_plan 22 = .ok (.iload_n 1, 1) := by decide +kernel
theorem dX8_plan_23 : decode cX8_plan 23 = .ok (.iconst 2, 1) := by decide +kernel
theorem dX8_plan_24 : decode cX8_plan 24 = .ok (.if_icmp .le 5, 3) := by decide +kernel
theorem dX8_plan_27 : decode cX8_plan 27 = .ok (.iconst (-1), 1) := by decide +kernel
theorem dX8_plan_28 : decode cX8_plan 28 = .ok (.ireturn, 1) := by decide +kernel
theorem dX8_plan_29 : decode cX8_plan 29 = .ok (.iload_n 1, 1) := by decide +kernel
theorem dX8_plan_30 : decode cX8_plan 30 = .ok (.iload_n 2, 1) := by decide +kernel
theorem dX8_plan_31 : decode cX8_plan 31 = .ok (.invokestatic 296, 3) := by decide +kernel
theorem dX8_plan_34 : decode cX8_plan 34 = .ok (.ifCond .ne 6, 3) := by decide +kernel
theorem dX8_plan_37 : decode cX8_plan 37 = .ok (.bipush (-2), 2) := by decide +kernel
theorem dX8_plan_39 : decode cX8_plan 39 = .ok (.ireturn, 1) := by decide +kernel
theorem dX8_plan_40 : decode cX8_plan 40 = .ok (.aload_n 0, 1) := by decide +kernel
theorem dX8_plan_41 : decode cX8_plan 41 = .ok (.getfield 12, 3) := by decide +kernel
theorem dX8_plan_44 : decode cX8_plan 44 = .ok (.getfield 289, 3) := by decide +kernel
theorem dX8_plan_47 : decode cX8_plan 47 = .ok (.getfield 293, 3) := by decide +kernel
theorem dX8_plan_50 : decode cX8_plan 50 = .ok (.bipush 8, 2) := by decide +kernel
theorem dX8_plan_52 : decode cX8_plan 52 = .ok (.if_icmp .lt 6, 3) := by decide +kernel
theorem dX8_plan_55 : decode cX8_plan 55 = .ok (.bipush (-4), 2) := by decide +kernel
theorem dX8_plan_57 : decode cX8_plan 57 = .ok (.ireturn, 1) := by decide +kernel
theorem dX8_plan_58 : decode cX8_plan 58 = .ok (.aload_n 0, 1) := by decide +kernel
theorem dX8_plan_59 : decode cX8_plan 59 = .ok (.getfield 12, 3) := by decide +kernel
theorem dX8_plan_62 : decode cX8_plan 62 = .ok (.getfield 289, 3) := by decide +kernel
theorem dX8_plan_65 : decode cX8_plan 65 = .ok (.iload_n 1, 1) := by decide +kernel
theorem dX8_plan_66 : decode cX8_plan 66 = .ok (.iload_n 2, 1) := by decide +kernel
theorem dX8_plan_67 : decode cX8_plan 67 = .ok (.invokevirtual 299, 3) := by decide +kernel
theorem dX8_plan_70 : decode cX8_plan 70 = .ok (.aload_n 0, 1) := by decide +kernel
theorem dX8_plan_71 : decode cX8_plan 71 = .ok (.getfield 12, 3) := by decide +kernel
theorem dX8_plan_74 : decode cX8_plan 74 = .ok (.getfield 289, 3) := by decide +kernel
theorem dX8_plan_77 : decode cX8_plan 77 = .ok (.getfield 293, 3) := by decide +kernel
theorem dX8_plan_80 : decode cX8_plan 80 = .ok (.ireturn, 1) := by decide +kernel
theorem dX8_ends_0 : decode cX8_ends 0 = .ok (.iload_n 1, 1) := by decide +kernel
theorem dX8_ends_1 : decode cX8_ends 1 = .ok (.bipush 10, 2) := by decide +kernel
theorem dX8_ends_3 : decode cX8_ends 3 = .ok (.if_icmp .lt 13, 3) := by decide +kernel
theorem dX8_ends_6 : decode cX8_ends 6 = .ok (.iload_n 1, 1) := by decide +kernel
theorem dX8_ends_7 : decode cX8_ends 7 = .ok (.bipush 16, 2) := by decide +kernel
theorem dX8_ends_9 : decode cX8_ends 9 = .ok (.if_icmp .ge 7, 3) := by decide +kernel
theorem dX8_ends_12 : decode cX8_ends 12 = .ok (.iconst 1, 1) := by decide +kernel
theorem dX8_ends_13 : decode cX8_ends 13 = .ok (.goto 4, 3) := by decide +kernel
theorem dX8_ends_16 : decode cX8_ends 16 = .ok (.iconst 0, 1) := by decide +kernel
theorem dX8_ends_17 : decode cX8_ends 17 = .ok (.istore_n 2, 1) := by decide +kernel
theorem dX8_ends_18 : decode cX8_ends 18 = .ok (.iload_n 1, 1) := by decide +kernel
theorem dX8_ends_19 : decode cX8_ends 19 = .ok (.ifCond .eq 25, 3) := by decide +kernel
theorem dX8_ends_22 : decode cX8_ends 22 = .ok (.iload_n 2, 1) := by decide +kernel
theorem dX8_ends_23 : decode cX8_ends 23 = .ok (.ifCond .eq 17, 3) := by decide +kernel
theorem dX8_ends_26 : decode cX8_ends 26 = .ok (.aload_n 0, 1) := by decide +kernel
theorem dX8_ends_27 : decode cX8_ends 27 = .ok (.getfield 12, 3) := by decide +kernel
theorem dX8_ends_30 : decode cX8_ends 30 = .ok (.iload_n 1, 1) := by decide +kernel
theorem dX8_ends_31 : decode cX8_ends 31 = .ok (.bipush 10, 2) := by decide +kernel
theorem dX8_ends_33 : decode cX8_ends 33 = .ok (.isub, 1) := by decide +kernel
theorem dX8_ends_34 : decode cX8_ends 34 = .ok (.invokevirtual 192, 3) := by decide +kernel
theorem dX8_ends_37 : decode cX8_ends 37 = .ok (.ifCond .ne 7, 3) := by decide +kernel
theorem dX8_ends_40 : decode cX8_ends 40 = .ok (.ldc2_w 86, 3) := by decide +kernel
theorem dX8_ends_43 : decode cX8_ends 43 = .ok (.lreturn, 1) := by decide +kernel
theorem dX8_ends_44 : decode cX8_ends 44 = .ok (.aload_n 0, 1) := by decide +kernel
theorem dX8_ends_45 : decode cX8_ends 45 = .ok (.getfield 21, 3) := by decide +kernel
theorem dX8_ends_48 : decode cX8_ends 48 = .ok (.aload_n 0, 1) := by decide +kernel
theorem dX8_ends_49 : decode cX8_ends 49 = .ok (.getfield 12, 3) := by decide +kernel
theorem dX8_ends_52 : decode cX8_ends 52 = .ok (.invokevirtual 282, 3) := by decide +kernel
theorem dX8_ends_55 : decode cX8_ends 55 = .ok (.aload_n 0, 1) := by decide +kernel
theorem dX8_ends_56 : decode cX8_ends 56 = .ok (.getfield 21, 3) := by decide +kernel
theorem dX8_ends_59 : decode cX8_ends 59 = .ok (.invokevirtual 302, 3) := by decide +kernel
theorem dX8_ends_62 : decode cX8_ends 62 = .ok (.iload_n 1, 1) := by decide +kernel
theorem dX8_ends_63 : decode cX8_ends 63 = .ok (.ifCond .ne 14, 3) := by decide +kernel
theorem dX8_ends_66 : decode cX8_ends 66 = .ok (.aload_n 0, 1) := by decide +kernel
theorem dX8_ends_67 : decode cX8_ends 67 = .ok (.getfield 21, 3) := by decide +kernel
theorem dX8_ends_70 : decode cX8_ends 70 = .ok (.getfield 260, 3) := by decide +kernel
theorem dX8_ends_73 : decode cX8_ends 73 = .ok (.i2l, 1) := by decide +kernel
theorem dX8_ends_74 : decode cX8_ends 74 = .ok (.goto 14, 3) := by decide +kernel
theorem dX8_ends_77 : decode cX8_ends 77 = .ok (.aload_n 0, 1) := by decide +kernel
theorem dX8_ends_78 : decode cX8_ends 78 = .ok (.getfield 21, 3) := by decide +kernel
theorem dX8_ends_81 : decode cX8_ends 81 = .ok (.iload_n 1, 1) := by decide +kernel
theorem dX8_ends_82 : decode cX8_ends 82 = .ok (.bipush 10, 2) := by decide +kernel
theorem dX8_ends_84 : decode cX8_ends 84 = .ok (.isub, 1) := by decide +kernel
theorem dX8_ends_85 : decode cX8_ends 85 = .ok (.invokevirtual 270, 3) := by decide +kernel
theorem dX8_ends_88 : decode cX8_ends 88 = .ok (.lreturn, 1) := by decide +kernel
theorem dX8_writePair_0 : decode cX8_writePair 0 = .ok (.aload_n 0, 1) := by decide +kernel
theorem dX8_writePair_1 : decode cX8_writePair 1 = .ok (.getfield 12, 3) := by decide +kernel
theorem dX8_writePair_4 : decode cX8_writePair 4 = .ok (.getfield 135, 3) := by decide +kernel
theorem dX8_writePair_7 : decode cX8_writePair 7 = .ok (.iload_n 1, 1) := by decide +kernel
theorem dX8_writePair_8 : decode cX8_writePair 8 = .ok (.invokevirtual 148, 3) := by decide +kernel
theorem dX8_writePair_11 : decode cX8_writePair 11 = .ok (.ifCond .ne 5, 3) := by decide +kernel
theorem dX8_writePair_14 : decode cX8_writePair 14 = .ok (.iconst (-1), 1) := by decide +kernel
theorem dX8_writePair_15 : decode cX8_writePair 15 = .ok (.ireturn, 1) := by decide +kernel
theorem dX8_writePair_16 : decode cX8_writePair 16 = .ok (.aload_n 0, 1) := by decide +kernel
theorem dX8_writePair_17 : decode cX8_writePair 17 = .ok (.getfield 38, 3) := by decide +kernel
theorem dX8_writePair_20 : decode cX8_writePair 20 = .ok (.iconst 0, 1) := by decide +kernel
theorem dX8_writePair_21 : decode cX8_writePair 21 = .ok (.putfield 305, 3) := by decide +kernel
theorem dX8_writePair_24 : decode cX8_writePair 24 = .ok (.aload_n 0, 1) := by decide +kernel
theorem dX8_writePair_25 : decode cX8_writePair 25 = .ok (.getfield 38, 3) := by decide +kernel
theorem dX8_writePair_28 : decode cX8_writePair 28 = .ok (.aload_n 0, 1) := by decide +kernel
theorem dX8_writePair_29 : decode cX8_writePair 29 = .ok (.getfield 12, 3) := by decide +kernel
theorem dX8_writePair_32 : decode cX8_writePair 32 = .ok (.getfield 135, 3) := by decide +kernel
theorem dX8_writePair_35 : decode cX8_writePair 35 = .ok (.getfield 151, 3) := by decide +kernel
theorem dX8_writePair_38 : decode cX8_writePair 38 = .ok (.iload_n 1, 1) := by decide +kernel
theorem dX8_writePair_39 : decode cX8_writePair 39 = .ok (.invokestatic 76, 3) := by decide +kernel
theorem dX8_writePair_42 : decode cX8_writePair 42 = .ok (.invokestatic 306, 3) := by decide +kernel
theorem dX8_writePair_45 : decode cX8_writePair 45 = .ok (.invokevirtual 309, 3) := by decide +kernel
theorem dX8_writePair_48 : decode cX8_writePair 48 = .ok (.aload_n 0, 1) := by decide +kernel
theorem dX8_writePair_49 : decode cX8_writePair 49 = .ok (.getfield 38, 3) := by decide +kernel
theorem dX8_writePair_52 : decode cX8_writePair 52 = .ok (.bipush 48, 2) := by decide +kernel
theorem dX8_writePair_54 : decode cX8_writePair 54 = .ok (.aload_n 0, 1) := by decide +kernel
theorem dX8_writePair_55 : decode cX8_writePair 55 = .ok (.getfield 12, 3) := by decide +kernel
theorem dX8_writePair_58 : decode cX8_writePair 58 = .ok (.getfield 135, 3) := by decide +kernel
theorem dX8_writePair_61 : decode cX8_writePair 61 = .ok (.getfield 154, 3) := by decide +kernel
theorem dX8_writePair_64 : decode cX8_writePair 64 = .ok (.iload_n 1, 1) := by decide +kernel
theorem dX8_writePair_65 : decode cX8_writePair 65 = .ok (.invokestatic 76, 3) := by decide +kernel
theorem dX8_writePair_68 : decode cX8_writePair 68 = .ok (.iadd, 1) := by decide +kernel
theorem dX8_writePair_69 : decode cX8_writePair 69 = .ok (.invokevirtual 309, 3) := by decide +kernel
theorem dX8_writePair_72 : decode cX8_writePair 72 = .ok (.aload_n 0, 1) := by decide +kernel
theorem dX8_writePair_73 : decode cX8_writePair 73 = .ok (.getfield 38, 3) := by decide +kernel
theorem dX8_writePair_76 : decode cX8_writePair 76 = .ok (.bipush 32, 2) := by decide +kernel
theorem dX8_writePair_78 : decode cX8_writePair 78 = .ok (.invokevirtual 309, 3) := by decide +kernel
theorem dX8_writePair_81 : decode cX8_writePair 81 = .ok (.aload_n 0, 1) := by decide +kernel
theorem dX8_writePair_82 : decode cX8_writePair 82 = .ok (.getfield 38, 3) := by decide +kernel
theorem dX8_writePair_85 : decode cX8_writePair 85 = .ok (.aload_n 0, 1) := by decide +kernel
theorem dX8_writePair_86 : decode cX8_writePair 86 = .ok (.getfield 12, 3) := by decide +kernel
theorem dX8_writePair_89 : decode cX8_writePair 89 = .ok (.getfield 135, 3) := by decide +kernel
theorem dX8_writePair_92 : decode cX8_writePair 92 = .ok (.getfield 157, 3) := by decide +kernel
theorem dX8_writePair_95 : decode cX8_writePair 95 = .ok (.iload_n 1, 1) := by decide +kernel
theorem dX8_writePair_96 : decode cX8_writePair 96 = .ok (.invokestatic 76, 3) := by decide +kernel
theorem dX8_writePair_99 : decode cX8_writePair 99 = .ok (.invokevirtual 311, 3) := by decide +kernel
theorem dX8_writePair_102 : decode cX8_writePair 102 = .ok (.aload_n 0, 1) := by decide +kernel
theorem dX8_writePair_103 : decode cX8_writePair 103 = .ok (.getfield 38, 3) := by decide +kernel
theorem dX8_writePair_106 : decode cX8_writePair 106 = .ok (.bipush 47, 2) := by decide +kernel
theorem dX8_writePair_108 : decode cX8_writePair 108 = .ok (.invokevirtual 309, 3) := by decide +kernel
theorem dX8_writePair_111 : decode cX8_writePair 111 = .ok (.aload_n 0, 1) := by decide +kernel
theorem dX8_writePair_112 : decode cX8_writePair 112 = .ok (.getfield 38, 3) := by decide +kernel
theorem dX8_writePair_115 : decode cX8_writePair 115 = .ok (.aload_n 0, 1) := by decide +kernel
theorem dX8_writePair_116 : decode cX8_writePair 116 = .ok (.getfield 12, 3) := by decide +kernel
theorem dX8_writePair_119 : decode cX8_writePair 119 = .ok (.getfield 135, 3) := by decide +kernel
theorem dX8_writePair_122 : decode cX8_writePair 122 = .ok (.getfield 160, 3) := by decide +kernel
theorem dX8_writePair_125 : decode cX8_writePair 125 = .ok (.iload_n 1, 1) := by decide +kernel
theorem dX8_writePair_126 : decode cX8_writePair 126 = .ok (.invokestatic 76, 3) := by decide +kernel
theorem dX8_writePair_129 : decode cX8_writePair 129 = .ok (.invokevirtual 311, 3) := by decide +kernel
theorem dX8_writePair_132 : decode cX8_writePair 132 = .ok (.aload_n 0, 1) := by decide +kernel
theorem dX8_writePair_133 : decode cX8_writePair 133 = .ok (.getfield 38, 3) := by decide +kernel
theorem dX8_writePair_136 : decode cX8_writePair 136 = .ok (.getfield 305, 3) := by decide +kernel
theorem dX8_writePair_139 : decode cX8_writePair 139 = .ok (.ireturn, 1) := by decide +kernel
theorem dX8_writeTrain_0 : decode cX8_writeTrain 0 = .ok (.aload_n 0, 1) := by decide +kernel
theorem dX8_writeTrain_1 : decode cX8_writeTrain 1 = .ok (.getfield 12, 3) := by decide +kernel
theorem dX8_writeTrain_4 : decode cX8_writeTrain 4 = .ok (.iload_n 1, 1) := by decide +kernel
theorem dX8_writeTrain_5 : decode cX8_writeTrain 5 = .ok (.invokevirtual 68, 3) := by decide +kernel
theorem dX8_writeTrain_8 : decode cX8_writeTrain 8 = .ok (.ifCond .ne 5, 3) := by decide +kernel
theorem dX8_writeTrain_11 : decode cX8_writeTrain 11 = .ok (.iconst (-1), 1) := by decide +kernel
theorem dX8_writeTrain_12 : decode cX8_writeTrain 12 = .ok (.ireturn, 1) := by decide +kernel
theorem dX8_writeTrain_13 : decode cX8_writeTrain 13 = .ok (.aload_n 0, 1) := by decide +kernel
theorem dX8_writeTrain_14 : decode cX8_writeTrain 14 = .ok (.getfield 12, 3) := by decide +kernel
theorem dX8_writeTrain_17 : decode cX8_writeTrain 17 = .ok (.iload_n 1, 1) := by decide +kernel
theorem dX8_writeTrain_18 : decode cX8_writeTrain 18 = .ok (.invokevirtual 192, 3) := by decide +kernel
theorem dX8_writeTrain_21 : decode cX8_writeTrain 21 = .ok (.ifCond .ne 6, 3) := by decide +kernel
theorem dX8_writeTrain_24 : decode cX8_writeTrain 24 = .ok (.bipush (-3), 2) := by decide +kernel
theorem dX8_writeTrain_26 : decode cX8_writeTrain 26 = .ok (.ireturn, 1) := by decide +kernel
theorem dX8_writeTrain_27 : decode cX8_writeTrain 27 = .ok (.aload_n 0, 1) := by decide +kernel
theorem dX8_writeTrain_28 : decode cX8_writeTrain 28 = .ok (.getfield 38, 3) := by decide +kernel
theorem dX8_writeTrain_31 : decode cX8_writeTrain 31 = .ok (.iconst 0, 1) := by decide +kernel
theorem dX8_writeTrain_32 : decode cX8_writeTrain 32 = .ok (.putfield 305, 3) := by decide +kernel
theorem dX8_writeTrain_35 : decode cX8_writeTrain 35 = .ok (.iconst 0, 1) := by decide +kernel
theorem dX8_writeTrain_36 : decode cX8_writeTrain 36 = .ok (.istore_n 2, 1) := by decide +kernel
theorem dX8_writeTrain_37 : decode cX8_writeTrain 37 = .ok (.iload_n 2, 1) := by decide +kernel
theorem dX8_writeTrain_38 : decode cX8_writeTrain 38 = .ok (.aload_n 0, 1) := by decide +kernel
theorem dX8_writeTrain_39 : decode cX8_writeTrain 39 = .ok (.getfield 12, 3) := by decide +kernel
theorem dX8_writeTrain_42 : decode cX8_writeTrain 42 = .ok (.getfield 170, 3) := by decide +kernel
theorem dX8_writeTrain_45 : decode cX8_writeTrain 45 = .ok (.iload_n 1, 1) := by decide +kernel
theorem dX8_writeTrain_46 : decode cX8_writeTrain 46 = .ok (.invokevirtual 195, 3) := by decide +kernel
theorem dX8_writeTrain_49 : decode cX8_writeTrain 49 = .ok (.if_icmp .ge 31, 3) := by decide +kernel
theorem dX8_writeTrain_52 : decode cX8_writeTrain 52 = .ok (.aload_n 0, 1) := by decide +kernel
theorem dX8_writeTrain_53 : decode cX8_writeTrain 53 = .ok (.getfield 38, 3) := by decide +kernel
theorem dX8_writeTrain_56 : decode cX8_writeTrain 56 = .ok (.bipush 97, 2) := by decide +kernel
theorem dX8_writeTrain_58 : decode cX8_writeTrain 58 = .ok (.aload_n 0, 1) := by decide +kernel
theorem dX8_writeTrain_59 : decode cX8_writeTrain 59 = .ok (.getfield 12, 3) := by decide +kernel
theorem dX8_writeTrain_62 : decode cX8_writeTrain 62 = .ok (.getfield 170, 3) := by decide +kernel
theorem dX8_writeTrain_65 : decode cX8_writeTrain 65 = .ok (.iload_n 1, 1) := by decide +kernel
theorem dX8_writeTrain_66 : decode cX8_writeTrain 66 = .ok (.iload_n 2, 1) := by decide +kernel
theorem dX8_writeTrain_67 : decode cX8_writeTrain 67 = .ok (.invokevirtual 203, 3) := by decide +kernel
theorem dX8_writeTrain_70 : decode cX8_writeTrain 70 = .ok (.iadd, 1) := by decide +kernel
theorem dX8_writeTrain_71 : decode cX8_writeTrain 71 = .ok (.invokevirtual 309, 3) := by decide +kernel
theorem dX8_writeTrain_74 : decode cX8_writeTrain 74 = .ok (.iinc 2 1, 3) := by decide +kernel
theorem dX8_writeTrain_77 : decode cX8_writeTrain 77 = .ok (.goto (-40), 3) := by decide +kernel
theorem dX8_writeTrain_80 : decode cX8_writeTrain 80 = .ok (.aload_n 0, 1) := by decide +kernel
theorem dX8_writeTrain_81 : decode cX8_writeTrain 81 = .ok (.getfield 38, 3) := by decide +kernel
theorem dX8_writeTrain_84 : decode cX8_writeTrain 84 = .ok (.getfield 305, 3) := by decide +kernel
theorem dX8_writeTrain_87 : decode cX8_writeTrain 87 = .ok (.ireturn, 1) := by decide +kernel
theorem dX8_paper_0 : decode cX8_paper 0 = .ok (.iload_n 1, 1) := by decide +kernel
theorem dX8_paper_1 : decode cX8_paper 1 = .ok (.ifCond .lt 28, 3) := by decide +kernel
theorem dX8_paper_4 : decode cX8_paper 4 = .ok (.iload_n 1, 1) := by decide +kernel
theorem dX8_paper_5 : decode cX8_paper 5 = .ok (.aload_n 0, 1) := by decide +kernel
theorem dX8_paper_6 : decode cX8_paper 6 = .ok (.getfield 38, 3) := by decide +kernel
theorem dX8_paper_9 : decode cX8_paper 9 = .ok (.getfield 305, 3) := by decide +kernel
theorem dX8_paper_12 : decode cX8_paper 12 = .ok (.if_icmp .ge 17, 3) := by decide +kernel
theorem dX8_paper_15 : decode cX8_paper 15 = .ok (.aload_n 0, 1) := by decide +kernel
theorem dX8_paper_16 : decode cX8_paper 16 = .ok (.getfield 38, 3) := by decide +kernel
theorem dX8_paper_19 : decode cX8_paper 19 = .ok (.getfield 314, 3) := by decide +kernel
theorem dX8_paper_22 : decode cX8_paper 22 = .ok (.iload_n 1, 1) := by decide +kernel
theorem dX8_paper_23 : decode cX8_paper 23 = .ok (.invokestatic 76, 3) := by decide +kernel
theorem dX8_paper_26 : decode cX8_paper 26 = .ok (.goto 4, 3) := by decide +kernel
theorem dX8_paper_29 : decode cX8_paper 29 = .ok (.iconst (-1), 1) := by decide +kernel
theorem dX8_paper_30 : decode cX8_paper 30 = .ok (.ireturn, 1) := by decide +kernel
theorem dX8_judge_0 : decode cX8_judge 0 = .ok (.aload_n 0, 1) := by decide +kernel
theorem dX8_judge_1 : decode cX8_judge 1 = .ok (.getfield 45, 3) := by decide +kernel
theorem dX8_judge_4 : decode cX8_judge 4 = .ok (.iload_n 1, 1) := by decide +kernel
theorem dX8_judge_5 : decode cX8_judge 5 = .ok (.invokevirtual 315, 3) := by decide +kernel
theorem dX8_judge_8 : decode cX8_judge 8 = .ok (.ifCond .ne 5, 3) := by decide +kernel
theorem dX8_judge_11 : decode cX8_judge 11 = .ok (.iconst (-1), 1) := by decide +kernel
theorem dX8_judge_12 : decode cX8_judge 12 = .ok (.ireturn, 1) := by decide +kernel
theorem dX8_judge_13 : decode cX8_judge 13 = .ok (.aload_n 0, 1) := by decide +kernel
theorem dX8_judge_14 : decode cX8_judge 14 = .ok (.getfield 45, 3) := by decide +kernel
theorem dX8_judge_17 : decode cX8_judge 17 = .ok (.iload_n 1, 1) := by decide +kernel
theorem dX8_judge_18 : decode cX8_judge 18 = .ok (.invokevirtual 316, 3) := by decide +kernel
theorem dX8_judge_21 : decode cX8_judge 21 = .ok (.ifCond .ne 6, 3) := by decide +kernel
theorem dX8_judge_24 : decode cX8_judge 24 = .ok (.bipush (-11), 2) := by decide +kernel
theorem dX8_judge_26 : decode cX8_judge 26 = .ok (.ireturn, 1) := by decide +kernel
theorem dX8_judge_27 : decode cX8_judge 27 = .ok (.iconst 0, 1) := by decide +kernel
theorem dX8_judge_28 : decode cX8_judge 28 = .ok (.istore_n 2, 1) := by decide +kernel
theorem dX8_judge_29 : decode cX8_judge 29 = .ok (.iload_n 2, 1) := by decide +kernel
theorem dX8_judge_30 : decode cX8_judge 30 = .ok (.aload_n 0, 1) := by decide +kernel
theorem dX8_judge_31 : decode cX8_judge 31 = .ok (.getfield 45, 3) := by decide +kernel
theorem dX8_judge_34 : decode cX8_judge 34 = .ok (.iload_n 1, 1) := by decide +kernel
theorem dX8_judge_35 : decode cX8_judge 35 = .ok (.invokevirtual 319, 3) := by decide +kernel
theorem dX8_judge_38 : decode cX8_judge 38 = .ok (.if_icmp .ge 49, 3) := by decide +kernel
theorem dX8_judge_41 : decode cX8_judge 41 = .ok (.aload_n 0, 1) := by decide +kernel
theorem dX8_judge_42 : decode cX8_judge 42 = .ok (.getfield 12, 3) := by decide +kernel
theorem dX8_judge_45 : decode cX8_judge 45 = .ok (.iload_n 2, 1) := by decide +kernel
theorem dX8_judge_46 : decode cX8_judge 46 = .ok (.invokevirtual 192, 3) := by decide +kernel
theorem dX8_judge_49 : decode cX8_judge 49 = .ok (.ifCond .eq 14, 3) := by decide +kernel
theorem dX8_judge_52 : decode cX8_judge 52 = .ok (.aload_n 0, 1) := by decide +kernel
theorem dX8_judge_53 : decode cX8_judge 53 = .ok (.getfield 12, 3) := by decide +kernel
theorem dX8_judge_56 : decode cX8_judge 56 = .ok (.iload_n 2, 1) := by decide +kernel
theorem dX8_judge_57 : decode cX8_judge 57 = .ok (.invokevirtual 270, 3) := by decide +kernel
theorem dX8_judge_60 : decode cX8_judge 60 = .ok (.goto 4, 3) := by decide +kernel
theorem dX8_judge_63 : decode cX8_judge 63 = .ok (.lconst 0, 1) := by decide +kernel
theorem dX8_judge_64 : decode cX8_judge 64 = .ok (.lstore_n 3, 1) := by decide +kernel
theorem dX8_judge_65 : decode cX8_judge 65 = .ok (.aload_n 0, 1) := by decide +kernel
theorem dX8_judge_66 : decode cX8_judge 66 = .ok (.getfield 45, 3) := by decide +kernel
theorem dX8_judge_69 : decode cX8_judge 69 = .ok (.iload_n 1, 1) := by decide +kernel
theorem dX8_judge_70 : decode cX8_judge 70 = .ok (.iload_n 2, 1) := by decide +kernel
theorem dX8_judge_71 : decode cX8_judge 71 = .ok (.invokevirtual 321, 3) := by decide +kernel
theorem dX8_judge_74 : decode cX8_judge 74 = .ok (.lload_n 3, 1) := by decide +kernel
theorem dX8_judge_75 : decode cX8_judge 75 = .ok (.lcmp, 1) := by decide +kernel
theorem dX8_judge_76 : decode cX8_judge 76 = .ok (.ifCond .eq 5, 3) := by decide +kernel
theorem dX8_judge_79 : decode cX8_judge 79 = .ok (.iload_n 2, 1) := by decide +kernel
theorem dX8_judge_80 : decode cX8_judge 80 = .ok (.ireturn, 1) := by decide +kernel
theorem dX8_judge_81 : decode cX8_judge 81 = .ok (.iinc 2 1, 3) := by decide +kernel
theorem dX8_judge_84 : decode cX8_judge 84 = .ok (.goto (-55), 3) := by decide +kernel
theorem dX8_judge_87 : decode cX8_judge 87 = .ok (.bipush (-5), 2) := by decide +kernel
theorem dX8_judge_89 : decode cX8_judge 89 = .ok (.ireturn, 1) := by decide +kernel
theorem dX8_list_0 : decode cX8_list 0 = .ok (.aload_n 0, 1) := by decide +kernel
theorem dX8_list_1 : decode cX8_list 1 = .ok (.getfield 45, 3) := by decide +kernel
theorem dX8_list_4 : decode cX8_list 4 = .ok (.iload_n 1, 1) := by decide +kernel
theorem dX8_list_5 : decode cX8_list 5 = .ok (.invokevirtual 315, 3) := by decide +kernel
theorem dX8_list_8 : decode cX8_list 8 = .ok (.ifCond .ne 5, 3) := by decide +kernel
theorem dX8_list_11 : decode cX8_list 11 = .ok (.iconst (-1), 1) := by decide +kernel
theorem dX8_list_12 : decode cX8_list 12 = .ok (.ireturn, 1) := by decide +kernel
theorem dX8_list_13 : decode cX8_list 13 = .ok (.iload_n 2, 1) := by decide +kernel
theorem dX8_list_14 : decode cX8_list 14 = .ok (.bipush 12, 2) := by decide +kernel
theorem dX8_list_16 : decode cX8_list 16 = .ok (.if_icmp .le 6, 3) := by decide +kernel
theorem dX8_list_19 : decode cX8_list 19 = .ok (.bipush (-2), 2) := by decide +kernel
theorem dX8_list_21 : decode cX8_list 21 = .ok (.ireturn, 1) := by decide +kernel
theorem dX8_list_22 : decode cX8_list 22 = .ok (.iload_n 2, 1) := by decide +kernel
theorem dX8_list_23 : decode cX8_list 23 = .ok (.ifCond .ge 6, 3) := by decide +kernel
theorem dX8_list_26 : decode cX8_list 26 = .ok (.bipush (-14), 2) := by decide +kernel
theorem dX8_list_28 : decode cX8_list 28 = .ok (.ireturn, 1) := by decide +kernel
theorem dX8_list_29 : decode cX8_list 29 = .ok (.aload_n 0, 1) := by decide +kernel
theorem dX8_list_30 : decode cX8_list 30 = .ok (.getfield 45, 3) := by decide +kernel
theorem dX8_list_33 : decode cX8_list 33 = .ok (.iload_n 1, 1) := by decide +kernel
theorem dX8_list_34 : decode cX8_list 34 = .ok (.iload_n 2, 1) := by decide +kernel
theorem dX8_list_35 : decode cX8_list 35 = .ok (.invokevirtual 325, 3) := by decide +kernel
theorem dX8_list_38 : decode cX8_list 38 = .ok (.iconst 1, 1) := by decide +kernel
theorem dX8_list_39 : decode cX8_list 39 = .ok (.ireturn, 1) := by decide +kernel
theorem dX8_put_0 : decode cX8_put 0 = .ok (.aload_n 0, 1) := by decide +kernel
theorem dX8_put_1 : decode cX8_put 1 = .ok (.getfield 45, 3) := by decide +kernel
theorem dX8_put_4 : decode cX8_put 4 = .ok (.iload_n 1, 1) := by decide +kernel
theorem dX8_put_5 : decode cX8_put 5 = .ok (.invokevirtual 315, 3) := by decide +kernel
theorem dX8_put_8 : decode cX8_put 8 = .ok (.ifCond .ne 5, 3) := by decide +kernel
theorem dX8_put_11 : decode cX8_put 11 = .ok (.iconst (-1), 1) := by decide +kernel
theorem dX8_put_12 : decode cX8_put 12 = .ok (.ireturn, 1) := by decide +kernel
theorem dX8_put_13 : decode cX8_put 13 = .ok (.aload_n 0, 1) := by decide +kernel
theorem dX8_put_14 : decode cX8_put 14 = .ok (.getfield 45, 3) := by decide +kernel
theorem dX8_put_17 : decode cX8_put 17 = .ok (.iload_n 1, 1) := by decide +kernel
theorem dX8_put_18 : decode cX8_put 18 = .ok (.invokevirtual 316, 3) := by decide +kernel
theorem dX8_put_21 : decode cX8_put 21 = .ok (.ifCond .ne 6, 3) := by decide +kernel
theorem dX8_put_24 : decode cX8_put 24 = .ok (.bipush (-11), 2) := by decide +kernel
theorem dX8_put_26 : decode cX8_put 26 = .ok (.ireturn, 1) := by decide +kernel
theorem dX8_put_27 : decode cX8_put 27 = .ok (.iload_n 2, 1) := by decide +kernel
theorem dX8_put_28 : decode cX8_put 28 = .ok (.ifCond .lt 15, 3) := by decide +kernel
theorem dX8_put_31 : decode cX8_put 31 = .ok (.iload_n 2, 1) := by decide +kernel
theorem dX8_put_32 : decode cX8_put 32 = .ok (.aload_n 0, 1) := by decide +kernel
theorem dX8_put_33 : decode cX8_put 33 = .ok (.getfield 45, 3) := by decide +kernel
theorem dX8_put_36 : decode cX8_put 36 = .ok (.iload_n 1, 1) := by decide +kernel
theorem dX8_put_37 : decode cX8_put 37 = .ok (.invokevirtual 319, 3) := by decide +kernel
theorem dX8_put_40 : decode cX8_put 40 = .ok (.if_icmp .lt 6, 3) := by decide +kernel
theorem dX8_put_43 : decode cX8_put 43 = .ok (.bipush (-13), 2) := by decide +kernel
theorem dX8_put_45 : decode cX8_put 45 = .ok (.ireturn, 1) := by decide +kernel
theorem dX8_put_46 : decode cX8_put 46 = .ok (.aload_n 0, 1) := by decide +kernel
theorem dX8_put_47 : decode cX8_put 47 = .ok (.getfield 45, 3) := by decide +kernel
theorem dX8_put_50 : decode cX8_put 50 = .ok (.iload_n 1, 1) := by decide +kernel
theorem dX8_put_51 : decode cX8_put 51 = .ok (.iload_n 2, 1) := by decide +kernel
theorem dX8_put_52 : decode cX8_put 52 = .ok (.lload_n 3, 1) := by decide +kernel
theorem dX8_put_53 : decode cX8_put 53 = .ok (.invokevirtual 328, 3) := by decide +kernel
theorem dX8_put_56 : decode cX8_put 56 = .ok (.iconst 1, 1) := by decide +kernel
theorem dX8_put_57 : decode cX8_put 57 = .ok (.ireturn, 1) := by decide +kernel
theorem dX8_get_0 : decode cX8_get 0 = .ok (.aload_n 0, 1) := by decide +kernel
theorem dX8_get_1 : decode cX8_get 1 = .ok (.getfield 45, 3) := by decide +kernel
theorem dX8_get_4 : decode cX8_get 4 = .ok (.iload_n 1, 1) := by decide +kernel
theorem dX8_get_5 : decode cX8_get 5 = .ok (.invokevirtual 315, 3) := by decide +kernel
theorem dX8_get_8 : decode cX8_get 8 = .ok (.ifCond .eq 19, 3) := by decide +kernel
theorem dX8_get_11 : decode cX8_get 11 = .ok (.iload_n 2, 1) := by decide +kernel
theorem dX8_get_12 : decode cX8_get 12 = .ok (.ifCond .lt 15, 3) := by decide +kernel
theorem dX8_get_15 : decode cX8_get 15 = .ok (.iload_n 2, 1) := by decide +kernel
theorem dX8_get_16 : decode cX8_get 16 = .ok (.aload_n 0, 1) := by decide +kernel
theorem dX8_get_17 : decode cX8_get 17 = .ok (.getfield 45, 3) := by decide +kernel
theorem dX8_get_20 : decode cX8_get 20 = .ok (.iload_n 1, 1) := by decide +kernel
theorem dX8_get_21 : decode cX8_get 21 = .ok (.invokevirtual 319, 3) := by decide +kernel
theorem dX8_get_24 : decode cX8_get 24 = .ok (.if_icmp .lt 7, 3) := by decide +kernel
theorem dX8_get_27 : decode cX8_get 27 = .ok (.ldc2_w 86, 3) := by decide +kernel
theorem dX8_get_30 : decode cX8_get 30 = .ok (.lreturn, 1) := by decide +kernel
theorem dX8_get_31 : decode cX8_get 31 = .ok (.aload_n 0, 1) := by decide +kernel
theorem dX8_get_32 : decode cX8_get 32 = .ok (.getfield 45, 3) := by decide +kernel
theorem dX8_get_35 : decode cX8_get 35 = .ok (.iload_n 1, 1) := by decide +kernel
theorem dX8_get_36 : decode cX8_get 36 = .ok (.iload_n 2, 1) := by decide +kernel
theorem dX8_get_37 : decode cX8_get 37 = .ok (.invokevirtual 321, 3) := by decide +kernel
theorem dX8_get_40 : decode cX8_get 40 = .ok (.lreturn, 1) := by decide +kernel
theorem dX8_image_0 : decode cX8_image 0 = .ok (.aload_n 0, 1) := by decide +kernel
theorem dX8_image_1 : decode cX8_image 1 = .ok (.getfield 18, 3) := by decide +kernel
theorem dX8_image_4 : decode cX8_image 4 = .ok (.aload_n 0, 1) := by decide +kernel
theorem dX8_image_5 : decode cX8_image 5 = .ok (.getfield 12, 3) := by decide +kernel
theorem dX8_image_8 : decode cX8_image 8 = .ok (.invokevirtual 282, 3) := by decide +kernel
theorem dX8_image_11 : decode cX8_image 11 = .ok (.aload_n 0, 1) := by decide +kernel
theorem dX8_image_12 : decode cX8_image 12 = .ok (.iconst 1, 1) := by decide +kernel
theorem dX8_image_13 : decode cX8_image 13 = .ok (.putfield 24, 3) := by decide +kernel
theorem dX8_image_16 : decode cX8_image 16 = .ok (.aload_n 0, 1) := by decide +kernel
theorem dX8_image_17 : decode cX8_image 17 = .ok (.getfield 12, 3) := by decide +kernel
theorem dX8_image_20 : decode cX8_image 20 = .ok (.getfield 60, 3) := by decide +kernel
theorem dX8_image_23 : decode cX8_image 23 = .ok (.ireturn, 1) := by decide +kernel
theorem dX8_undo_0 : decode cX8_undo 0 = .ok (.aload_n 0, 1) := by decide +kernel
theorem dX8_undo_1 : decode cX8_undo 1 = .ok (.getfield 24, 3) := by decide +kernel
theorem dX8_undo_4 : decode cX8_undo 4 = .ok (.ifCond .ne 6, 3) := by decide +kernel
theorem dX8_undo_7 : decode cX8_undo 7 = .ok (.bipush (-3), 2) := by decide +kernel
theorem dX8_undo_9 : decode cX8_undo 9 = .ok (.ireturn, 1) := by decide +kernel
theorem dX8_undo_10 : decode cX8_undo 10 = .ok (.aload_n 0, 1) := by decide +kernel
theorem dX8_undo_11 : decode cX8_undo 11 = .ok (.getfield 12, 3) := by decide +kernel
theorem dX8_undo_14 : decode cX8_undo 14 = .ok (.aload_n 0, 1) := by decide +kernel
theorem dX8_undo_15 : decode cX8_undo 15 = .ok (.getfield 18, 3) := by decide +kernel
theorem dX8_undo_18 : decode cX8_undo 18 = .ok (.invokevirtual 282, 3) := by decide +kernel
theorem dX8_undo_21 : decode cX8_undo 21 = .ok (.aload_n 0, 1) := by decide +kernel
theorem dX8_undo_22 : decode cX8_undo 22 = .ok (.getfield 12, 3) := by decide +kernel
theorem dX8_undo_25 : decode cX8_undo 25 = .ok (.getfield 60, 3) := by decide +kernel
theorem dX8_undo_28 : decode cX8_undo 28 = .ok (.ireturn, 1) := by decide +kernel
theorem dX8_count_0 : decode cX8_count 0 = .ok (.iload_n 1, 1) := by decide +kernel
theorem dX8_count_1 : decode cX8_count 1 = .ok (.tableswitch 111 0 6 #[43, 51, 62, 73, 84, 92, 100], 43) := by decide +kernel
theorem dX8_count_44 : decode cX8_count 44 = .ok (.aload_n 0, 1) := by decide +kernel
theorem dX8_count_45 : decode cX8_count 45 = .ok (.getfield 12, 3) := by decide +kernel
theorem dX8_count_48 : decode cX8_count 48 = .ok (.getfield 60, 3) := by decide +kernel
theorem dX8_count_51 : decode cX8_count 51 = .ok (.ireturn, 1) := by decide +kernel
theorem dX8_count_52 : decode cX8_count 52 = .ok (.aload_n 0, 1) := by decide +kernel
theorem dX8_count_53 : decode cX8_count 53 = .ok (.getfield 12, 3) := by decide +kernel
theorem dX8_count_56 : decode cX8_count 56 = .ok (.getfield 135, 3) := by decide +kernel
theorem dX8_count_59 : decode cX8_count 59 = .ok (.getfield 139, 3) := by decide +kernel
theorem dX8_count_62 : decode cX8_count 62 = .ok (.ireturn, 1) := by decide +kernel
theorem dX8_count_63 : decode cX8_count 63 = .ok (.aload_n 0, 1) := by decide +kernel
theorem dX8_count_64 : decode cX8_count 64 = .ok (.getfield 12, 3) := by decide +kernel
theorem dX8_count_67 : decode cX8_count 67 = .ok (.getfield 170, 3) := by decide +kernel
theorem dX8_count_70 : decode cX8_count 70 = .ok (.invokevirtual 332, 3) := by decide +kernel
theorem dX8_count_73 : decode cX8_count 73 = .ok (.ireturn, 1) := by decide +kernel
theorem dX8_count_74 : decode cX8_count 74 = .ok (.aload_n 0, 1) := by decide +kernel
theorem dX8_count_75 : decode cX8_count 75 = .ok (.getfield 12, 3) := by decide +kernel
theorem dX8_count_78 : decode cX8_count 78 = .ok (.getfield 170, 3) := by decide +kernel
theorem dX8_count_81 : decode cX8_count 81 = .ok (.invokevirtual 335, 3) := by decide +kernel
theorem dX8_count_84 : decode cX8_count 84 = .ok (.ireturn, 1) := by decide +kernel
theorem dX8_count_85 : decode cX8_count 85 = .ok (.aload_n 0, 1) := by decide +kernel
theorem dX8_count_86 : decode cX8_count 86 = .ok (.getfield 31, 3) := by decide +kernel
theorem dX8_count_89 : decode cX8_count 89 = .ok (.getfield 118, 3) := by decide +kernel
theorem dX8_count_92 : decode cX8_count 92 = .ok (.ireturn, 1) := by decide +kernel
theorem dX8_count_93 : decode cX8_count 93 = .ok (.aload_n 0, 1) := by decide +kernel
theorem dX8_count_94 : decode cX8_count 94 = .ok (.getfield 38, 3) := by decide +kernel
theorem dX8_count_97 : decode cX8_count 97 = .ok (.getfield 305, 3) := by decide +kernel
theorem dX8_count_100 : decode cX8_count 100 = .ok (.ireturn, 1) := by decide +kernel
theorem dX8_count_101 : decode cX8_count 101 = .ok (.aload_n 0, 1) := by decide +kernel
theorem dX8_count_102 : decode cX8_count 102 = .ok (.getfield 12, 3) := by decide +kernel
theorem dX8_count_105 : decode cX8_count 105 = .ok (.getfield 289, 3) := by decide +kernel
theorem dX8_count_108 : decode cX8_count 108 = .ok (.getfield 293, 3) := by decide +kernel
theorem dX8_count_111 : decode cX8_count 111 = .ok (.ireturn, 1) := by decide +kernel
theorem dX8_count_112 : decode cX8_count 112 = .ok (.bipush (-2), 2) := by decide +kernel
theorem dX8_count_114 : decode cX8_count 114 = .ok (.ireturn, 1) := by decide +kernel
theorem dX8_areTwo_0 : decode cX8_areTwo 0 = .ok (.aload_n 0, 1) := by decide +kernel
theorem dX8_areTwo_1 : decode cX8_areTwo 1 = .ok (.getfield 12, 3) := by decide +kernel
theorem dX8_areTwo_4 : decode cX8_areTwo 4 = .ok (.iload_n 1, 1) := by decide +kernel
theorem dX8_areTwo_5 : decode cX8_areTwo 5 = .ok (.invokevirtual 68, 3) := by decide +kernel
theorem dX8_areTwo_8 : decode cX8_areTwo 8 = .ok (.ifCond .eq 23, 3) := by decide +kernel
theorem dX8_areTwo_11 : decode cX8_areTwo 11 = .ok (.aload_n 0, 1) := by decide +kernel
theorem dX8_areTwo_12 : decode cX8_areTwo 12 = .ok (.getfield 12, 3) := by decide +kernel
theorem dX8_areTwo_15 : decode cX8_areTwo 15 = .ok (.iload_n 2, 1) := by decide +kernel
theorem dX8_areTwo_16 : decode cX8_areTwo 16 = .ok (.invokevirtual 68, 3) := by decide +kernel
theorem dX8_areTwo_19 : decode cX8_areTwo 19 = .ok (.ifCond .eq 12, 3) := by decide +kernel
theorem dX8_areTwo_22 : decode cX8_areTwo 22 = .ok (.iload_n 1, 1) := by decide +kernel
theorem dX8_areTwo_23 : decode cX8_areTwo 23 = .ok (.iload_n 2, 1) := by decide +kernel
theorem dX8_areTwo_24 : decode cX8_areTwo 24 = .ok (.if_icmp .eq 7, 3) := by decide +kernel
theorem dX8_areTwo_27 : decode cX8_areTwo 27 = .ok (.iconst 1, 1) := by decide +kernel
theorem dX8_areTwo_28 : decode cX8_areTwo 28 = .ok (.goto 4, 3) := by decide +kernel
theorem dX8_areTwo_31 : decode cX8_areTwo 31 = .ok (.iconst 0, 1) := by decide +kernel
theorem dX8_areTwo_32 : decode cX8_areTwo 32 = .ok (.ireturn, 1) := by decide +kernel
theorem dX8_splitIntoOne_0 : decode cX8_splitIntoOne 0 = .ok (.iload_n 1, 1) := by decide +kernel
theorem dX8_splitIntoOne_1 : decode cX8_splitIntoOne 1 = .ok (.iload_n 2, 1) := by decide +kernel
theorem dX8_splitIntoOne_2 : decode cX8_splitIntoOne 2 = .ok (.if_icmp .ne 7, 3) := by decide +kernel
theorem dX8_splitIntoOne_5 : decode cX8_splitIntoOne 5 = .ok (.iload_n 1, 1) := by decide +kernel
theorem dX8_splitIntoOne_6 : decode cX8_splitIntoOne 6 = .ok (.goto 4, 3) := by decide +kernel
theorem dX8_splitIntoOne_9 : decode cX8_splitIntoOne 9 = .ok (.iconst 0, 1) := by decide +kernel
theorem dX8_splitIntoOne_10 : decode cX8_splitIntoOne 10 = .ok (.ireturn, 1) := by decide +kernel
theorem dX8_splitIntoTwo_0 : decode cX8_splitIntoTwo 0 = .ok (.iload_n 2, 1) := by decide +kernel
theorem dX8_splitIntoTwo_1 : decode cX8_splitIntoTwo 1 = .ok (.iconst 1, 1) := by decide +kernel
theorem dX8_splitIntoTwo_2 : decode cX8_splitIntoTwo 2 = .ok (.if_icmp .lt 9, 3) := by decide +kernel
theorem dX8_splitIntoTwo_5 : decode cX8_splitIntoTwo 5 = .ok (.iload_n 1, 1) := by decide +kernel
theorem dX8_splitIntoTwo_6 : decode cX8_splitIntoTwo 6 = .ok (.iload_n 2, 1) := by decide +kernel
theorem dX8_splitIntoTwo_7 : decode cX8_splitIntoTwo 7 = .ok (.irem, 1) := by decide +kernel
theorem dX8_splitIntoTwo_8 : decode cX8_splitIntoTwo 8 = .ok (.ifCond .eq 5, 3) := by decide +kernel
theorem dX8_splitIntoTwo_11 : decode cX8_splitIntoTwo 11 = .ok (.iconst 0, 1) := by decide +kernel
theorem dX8_splitIntoTwo_12 : decode cX8_splitIntoTwo 12 = .ok (.ireturn, 1) := by decide +kernel
theorem dX8_splitIntoTwo_13 : decode cX8_splitIntoTwo 13 = .ok (.iload_n 1, 1) := by decide +kernel
theorem dX8_splitIntoTwo_14 : decode cX8_splitIntoTwo 14 = .ok (.iload_n 2, 1) := by decide +kernel
theorem dX8_splitIntoTwo_15 : decode cX8_splitIntoTwo 15 = .ok (.idiv, 1) := by decide +kernel
theorem dX8_splitIntoTwo_16 : decode cX8_splitIntoTwo 16 = .ok (.istore_n 3, 1) := by decide +kernel
theorem dX8_splitIntoTwo_17 : decode cX8_splitIntoTwo 17 = .ok (.iload_n 3, 1) := by decide +kernel
theorem dX8_splitIntoTwo_18 : decode cX8_splitIntoTwo 18 = .ok (.iload_n 2, 1) := by decide +kernel
theorem dX8_splitIntoTwo_19 : decode cX8_splitIntoTwo 19 = .ok (.if_icmp .lt 23, 3) := by decide +kernel
theorem dX8_splitIntoTwo_22 : decode cX8_splitIntoTwo 22 = .ok (.iload_n 3, 1) := by decide +kernel
theorem dX8_splitIntoTwo_23 : decode cX8_splitIntoTwo 23 = .ok (.aload_n 0, 1) := by decide +kernel
theorem dX8_splitIntoTwo_24 : decode cX8_splitIntoTwo 24 = .ok (.getfield 12, 3) := by decide +kernel
theorem dX8_splitIntoTwo_27 : decode cX8_splitIntoTwo 27 = .ok (.getfield 108, 3) := by decide +kernel
theorem dX8_splitIntoTwo_30 : decode cX8_splitIntoTwo 30 = .ok (.if_icmp .gt 12, 3) := by decide +kernel
theorem dX8_splitIntoTwo_33 : decode cX8_splitIntoTwo 33 = .ok (.bipush 100, 2) := by decide +kernel
theorem dX8_splitIntoTwo_35 : decode cX8_splitIntoTwo 35 = .ok (.iload_n 2, 1) := by decide +kernel
theorem dX8_splitIntoTwo_36 : decode cX8_splitIntoTwo 36 = .ok (.imul, 1) := by decide +kernel
theorem dX8_splitIntoTwo_37 : decode cX8_splitIntoTwo 37 = .ok (.iload_n 3, 1) := by decide +kernel
theorem dX8_splitIntoTwo_38 : decode cX8_splitIntoTwo 38 = .ok (.iadd, 1) := by decide +kernel
theorem dX8_splitIntoTwo_39 : decode cX8_splitIntoTwo 39 = .ok (.goto 4, 3) := by decide +kernel
theorem dX8_splitIntoTwo_42 : decode cX8_splitIntoTwo 42 = .ok (.iconst 0, 1) := by decide +kernel
theorem dX8_splitIntoTwo_43 : decode cX8_splitIntoTwo 43 = .ok (.ireturn, 1) := by decide +kernel
theorem dX8_bestOrder_0 : decode cX8_bestOrder 0 = .ok (.iconst 0, 1) := by decide +kernel
theorem dX8_bestOrder_1 : decode cX8_bestOrder 1 = .ok (.istore_n 2, 1) := by decide +kernel
theorem dX8_bestOrder_2 : decode cX8_bestOrder 2 = .ok (.aload_n 0, 1) := by decide +kernel
theorem dX8_bestOrder_3 : decode cX8_bestOrder 3 = .ok (.iload_n 1, 1) := by decide +kernel
theorem dX8_bestOrder_4 : decode cX8_bestOrder 4 = .ok (.iconst 0, 1) := by decide +kernel
theorem dX8_bestOrder_5 : decode cX8_bestOrder 5 = .ok (.invokevirtual 232, 3) := by decide +kernel
theorem dX8_bestOrder_8 : decode cX8_bestOrder 8 = .ok (.istore_n 3, 1) := by decide +kernel
theorem dX8_bestOrder_9 : decode cX8_bestOrder 9 = .ok (.iconst 1, 1) := by decide +kernel
theorem dX8_bestOrder_10 : decode cX8_bestOrder 10 = .ok (.istore 4, 2) := by decide +kernel
theorem dX8_bestOrder_12 : decode cX8_bestOrder 12 = .ok (.iload 4, 2) := by decide +kernel
theorem dX8_bestOrder_14 : decode cX8_bestOrder 14 = .ok (.getstatic 338, 3) := by decide +kernel
theorem dX8_bestOrder_17 : decode cX8_bestOrder 17 = .ok (.arraylength, 1) := by decide +kernel
theorem dX8_bestOrder_18 : decode cX8_bestOrder 18 = .ok (.iconst 3, 1) := by decide +kernel
theorem dX8_bestOrder_19 : decode cX8_bestOrder 19 = .ok (.idiv, 1) := by decide +kernel
theorem dX8_bestOrder_20 : decode cX8_bestOrder 20 = .ok (.if_icmp .ge 49, 3) := by decide +kernel
theorem dX8_bestOrder_23 : decode cX8_bestOrder 23 = .ok (.iload 4, 2) := by decide +kernel
theorem dX8_bestOrder_25 : decode cX8_bestOrder 25 = .ok (.aload_n 0, 1) := by decide +kernel
theorem dX8_bestOrder_26 : decode cX8_bestOrder 26 = .ok (.getfield 12, 3) := by decide +kernel
theorem dX8_bestOrder_29 : decode cX8_bestOrder 29 = .ok (.getfield 170, 3) := by decide +kernel
theorem dX8_bestOrder_32 : decode cX8_bestOrder 32 = .ok (.iload_n 1, 1) := by decide +kernel
theorem dX8_bestOrder_33 : decode cX8_bestOrder 33 = .ok (.invokevirtual 195, 3) := by decide +kernel
theorem dX8_bestOrder_36 : decode cX8_bestOrder 36 = .ok (.invokestatic 341, 3) := by decide +kernel
theorem dX8_bestOrder_39 : decode cX8_bestOrder 39 = .ok (.ifCond .eq 24, 3) := by decide +kernel
theorem dX8_bestOrder_42 : decode cX8_bestOrder 42 = .ok (.aload_n 0, 1) := by decide +kernel
theorem dX8_bestOrder_43 : decode cX8_bestOrder 43 = .ok (.iload_n 1, 1) := by decide +kernel
theorem dX8_bestOrder_44 : decode cX8_bestOrder 44 = .ok (.iload 4, 2) := by decide +kernel
theorem dX8_bestOrder_46 : decode cX8_bestOrder 46 = .ok (.invokevirtual 232, 3) := by decide +kernel
theorem dX8_bestOrder_49 : decode cX8_bestOrder 49 = .ok (.istore 5, 2) := by decide +kernel
theorem dX8_bestOrder_51 : decode cX8_bestOrder 51 = .ok (.iload 5, 2) := by decide +kernel
theorem dX8_bestOrder_53 : decode cX8_bestOrder 53 = .ok (.iload_n 3, 1) := by decide +kernel
theorem dX8_bestOrder_54 : decode cX8_bestOrder 54 = .ok (.if_icmp .ge 9, 3) := by decide +kernel
theorem dX8_bestOrder_57 : decode cX8_bestOrder 57 = .ok (.iload 4, 2) := by decide +kernel
theorem dX8_bestOrder_59 : decode cX8_bestOrder 59 = .ok (.istore_n 2, 1) := by decide +kernel
theorem dX8_bestOrder_60 : decode cX8_bestOrder 60 = .ok (.iload 5, 2) := by decide +kernel
theorem dX8_bestOrder_62 : decode cX8_bestOrder 62 = .ok (.istore_n 3, 1) := by decide +kernel
theorem dX8_bestOrder_63 : decode cX8_bestOrder 63 = .ok (.iinc 4 1, 3) := by decide +kernel
theorem dX8_bestOrder_66 : decode cX8_bestOrder 66 = .ok (.goto (-54), 3) := by decide +kernel
theorem dX8_bestOrder_69 : decode cX8_bestOrder 69 = .ok (.iload_n 2, 1) := by decide +kernel
theorem dX8_bestOrder_70 : decode cX8_bestOrder 70 = .ok (.ireturn, 1) := by decide +kernel
theorem dX8_wheelsBy_0 : decode cX8_wheelsBy 0 = .ok (.aload_n 0, 1) := by decide +kernel
theorem dX8_wheelsBy_1 : decode cX8_wheelsBy 1 = .ok (.getfield 21, 3) := by decide +kernel
theorem dX8_wheelsBy_4 : decode cX8_wheelsBy 4 = .ok (.aload_n 0, 1) := by decide +kernel
theorem dX8_wheelsBy_5 : decode cX8_wheelsBy 5 = .ok (.getfield 12, 3) := by decide +kernel
theorem dX8_wheelsBy_8 : decode cX8_wheelsBy 8 = .ok (.invokevirtual 282, 3) := by decide +kernel
theorem dX8_wheelsBy_11 : decode cX8_wheelsBy 11 = .ok (.iconst 0, 1) := by decide +kernel
theorem dX8_wheelsBy_12 : decode cX8_wheelsBy 12 = .ok (.istore_n 3, 1) := by decide +kernel
theorem dX8_wheelsBy_13 : decode cX8_wheelsBy 13 = .ok (.iload_n 3, 1) := by decide +kernel
theorem dX8_wheelsBy_14 : decode cX8_wheelsBy 14 = .ok (.aload_n 0, 1) := by decide +kernel
theorem dX8_wheelsBy_15 : decode cX8_wheelsBy 15 = .ok (.getfield 12, 3) := by decide +kernel
theorem dX8_wheelsBy_18 : decode cX8_wheelsBy 18 = .ok (.getfield 170, 3) := by decide +kernel
theorem dX8_wheelsBy_21 : decode cX8_wheelsBy 21 = .ok (.iload_n 1, 1) := by decide +kernel
theorem dX8_wheelsBy_22 : decode cX8_wheelsBy 22 = .ok (.invokevirtual 195, 3) := by decide +kernel
theorem dX8_wheelsBy_25 : decode cX8_wheelsBy 25 = .ok (.if_icmp .ge 37, 3) := by decide +kernel
theorem dX8_wheelsBy_28 : decode cX8_wheelsBy 28 = .ok (.aload_n 0, 1) := by decide +kernel
theorem dX8_wheelsBy_29 : decode cX8_wheelsBy 29 = .ok (.getfield 21, 3) := by decide +kernel
theorem dX8_wheelsBy_32 : decode cX8_wheelsBy 32 = .ok (.getfield 170, 3) := by decide +kernel
theorem dX8_wheelsBy_35 : decode cX8_wheelsBy 35 = .ok (.iload_n 1, 1) := by decide +kernel
theorem dX8_wheelsBy_36 : decode cX8_wheelsBy 36 = .ok (.iload_n 3, 1) := by decide +kernel
theorem dX8_wheelsBy_37 : decode cX8_wheelsBy 37 = .ok (.aload_n 0, 1) := by decide +kernel
theorem dX8_wheelsBy_38 : decode cX8_wheelsBy 38 = .ok (.getfield 12, 3) := by decide +kernel
theorem dX8_wheelsBy_41 : decode cX8_wheelsBy 41 = .ok (.getfield 170, 3) := by decide +kernel
theorem dX8_wheelsBy_44 : decode cX8_wheelsBy 44 = .ok (.iload_n 1, 1) := by decide +kernel
theorem dX8_wheelsBy_45 : decode cX8_wheelsBy 45 = .ok (.iload_n 2, 1) := by decide +kernel
theorem dX8_wheelsBy_46 : decode cX8_wheelsBy 46 = .ok (.iload_n 3, 1) := by decide +kernel
theorem dX8_wheelsBy_47 : decode cX8_wheelsBy 47 = .ok (.invokestatic 235, 3) := by decide +kernel
theorem dX8_wheelsBy_50 : decode cX8_wheelsBy 50 = .ok (.invokevirtual 203, 3) := by decide +kernel
theorem dX8_wheelsBy_53 : decode cX8_wheelsBy 53 = .ok (.invokevirtual 189, 3) := by decide +kernel
theorem dX8_wheelsBy_56 : decode cX8_wheelsBy 56 = .ok (.iinc 3 1, 3) := by decide +kernel
theorem dX8_wheelsBy_59 : decode cX8_wheelsBy 59 = .ok (.goto (-46), 3) := by decide +kernel
theorem dX8_wheelsBy_62 : decode cX8_wheelsBy 62 = .ok (.aload_n 0, 1) := by decide +kernel
theorem dX8_wheelsBy_63 : decode cX8_wheelsBy 63 = .ok (.getfield 21, 3) := by decide +kernel
theorem dX8_wheelsBy_66 : decode cX8_wheelsBy 66 = .ok (.getfield 170, 3) := by decide +kernel
theorem dX8_wheelsBy_69 : decode cX8_wheelsBy 69 = .ok (.invokevirtual 335, 3) := by decide +kernel
theorem dX8_wheelsBy_72 : decode cX8_wheelsBy 72 = .ok (.ireturn, 1) := by decide +kernel
theorem dX8_turnsUntilJoined_0 : decode cX8_turnsUntilJoined 0 = .ok (.aload_n 0, 1) := by decide +kernel
theorem dX8_turnsUntilJoined_1 : decode cX8_turnsUntilJoined 1 = .ok (.getfield 12, 3) := by decide +kernel
theorem dX8_turnsUntilJoined_4 : decode cX8_turnsUntilJoined 4 = .ok (.iload_n 1, 1) := by decide +kernel
theorem dX8_turnsUntilJoined_5 : decode cX8_turnsUntilJoined 5 = .ok (.invokevirtual 209, 3) := by decide +kernel
theorem dX8_turnsUntilJoined_8 : decode cX8_turnsUntilJoined 8 = .ok (.lstore 4, 2) := by decide +kernel
theorem dX8_turnsUntilJoined_10 : decode cX8_turnsUntilJoined 10 = .ok (.aload_n 0, 1) := by decide +kernel
theorem dX8_turnsUntilJoined_11 : decode cX8_turnsUntilJoined 11 = .ok (.getfield 12, 3) := by decide +kernel
theorem dX8_turnsUntilJoined_14 : decode cX8_turnsUntilJoined 14 = .ok (.iload_n 2, 1) := by decide +kernel
theorem dX8_turnsUntilJoined_15 : decode cX8_turnsUntilJoined 15 = .ok (.invokevirtual 209, 3) := by decide +kernel
theorem dX8_turnsUntilJoined_18 : decode cX8_turnsUntilJoined 18 = .ok (.lstore 6, 2) := by decide +kernel
theorem dX8_turnsUntilJoined_20 : decode cX8_turnsUntilJoined 20 = .ok (.lload 4, 2) := by decide +kernel
theorem dX8_turnsUntilJoined_22 : decode cX8_turnsUntilJoined 22 = .ok (.lconst 1, 1) := by decide +kernel
theorem dX8_turnsUntilJoined_23 : decode cX8_turnsUntilJoined 23 = .ok (.lcmp, 1) := by decide +kernel
theorem dX8_turnsUntilJoined_24 : decode cX8_turnsUntilJoined 24 = .ok (.ifCond .lt 10, 3) := by decide +kernel
theorem dX8_turnsUntilJoined_27 : decode cX8_turnsUntilJoined 27 = .ok (.lload 6, 2) := by decide +kernel
theorem dX8_turnsUntilJoined_29 : decode cX8_turnsUntilJoined 29 = .ok (.lconst 1, 1) := by decide +kernel
theorem dX8_turnsUntilJoined_30 : decode cX8_turnsUntilJoined 30 = .ok (.lcmp, 1) := by decide +kernel
theorem dX8_turnsUntilJoined_31 : decode cX8_turnsUntilJoined 31 = .ok (.ifCond .ge 6, 3) := by decide +kernel
theorem dX8_turnsUntilJoined_34 : decode cX8_turnsUntilJoined 34 = .ok (.bipush (-5), 2) := by decide +kernel
theorem dX8_turnsUntilJoined_36 : decode cX8_turnsUntilJoined 36 = .ok (.ireturn, 1) := by decide +kernel
theorem dX8_turnsUntilJoined_37 : decode cX8_turnsUntilJoined 37 = .ok (.aload_n 0, 1) := by decide +kernel
theorem dX8_turnsUntilJoined_38 : decode cX8_turnsUntilJoined 38 = .ok (.getfield 12, 3) := by decide +kernel
theorem dX8_turnsUntilJoined_41 : decode cX8_turnsUntilJoined 41 = .ok (.iload_n 1, 1) := by decide +kernel
theorem dX8_turnsUntilJoined_42 : decode cX8_turnsUntilJoined 42 = .ok (.invokevirtual 200, 3) := by decide +kernel
theorem dX8_turnsUntilJoined_45 : decode cX8_turnsUntilJoined 45 = .ok (.ifCond .eq 15, 3) := by decide +kernel
theorem dX8_turnsUntilJoined_48 : decode cX8_turnsUntilJoined 48 = .ok (.aload_n 0, 1) := by decide +kernel
theorem dX8_turnsUntilJoined_49 : decode cX8_turnsUntilJoined 49 = .ok (.getfield 12, 3) := by decide +kernel
theorem dX8_turnsUntilJoined_52 : decode cX8_turnsUntilJoined 52 = .ok (.iload_n 1, 1) := by decide +kernel
theorem dX8_turnsUntilJoined_53 : decode cX8_turnsUntilJoined 53 = .ok (.invokevirtual 206, 3) := by decide +kernel
theorem dX8_turnsUntilJoined_56 : decode cX8_turnsUntilJoined 56 = .ok (.lneg, 1) := by decide +kernel
theorem dX8_turnsUntilJoined_57 : decode cX8_turnsUntilJoined 57 = .ok (.goto 11, 3) := by decide +kernel
theorem dX8_turnsUntilJoined_60 : decode cX8_turnsUntilJoined 60 = .ok (.aload_n 0, 1) := by decide +kernel
theorem dX8_turnsUntilJoined_61 : decode cX8_turnsUntilJoined 61 = .ok (.getfield 12, 3) := by decide +kernel
theorem dX8_turnsUntilJoined_64 : decode cX8_turnsUntilJoined 64 = .ok (.iload_n 1, 1) := by decide +kernel
theorem dX8_turnsUntilJoined_65 : decode cX8_turnsUntilJoined 65 = .ok (.invokevirtual 206, 3) := by decide +kernel
theorem dX8_turnsUntilJoined_68 : decode cX8_turnsUntilJoined 68 = .ok (.lstore 8, 2) := by decide +kernel
theorem dX8_turnsUntilJoined_70 : decode cX8_turnsUntilJoined 70 = .ok (.aload_n 0, 1) := by decide +kernel
theorem dX8_turnsUntilJoined_71 : decode cX8_turnsUntilJoined 71 = .ok (.getfield 12, 3) := by decide +kernel
theorem dX8_turnsUntilJoined_74 : decode cX8_turnsUntilJoined 74 = .ok (.iload_n 2, 1) := by decide +kernel
theorem dX8_turnsUntilJoined_75 : decode cX8_turnsUntilJoined 75 = .ok (.invokevirtual 200, 3) := by decide +kernel
theorem dX8_turnsUntilJoined_78 : decode cX8_turnsUntilJoined 78 = .ok (.ifCond .eq 15, 3) := by decide +kernel
theorem dX8_turnsUntilJoined_81 : decode cX8_turnsUntilJoined 81 = .ok (.aload_n 0, 1) := by decide +kernel
theorem dX8_turnsUntilJoined_82 : decode cX8_turnsUntilJoined 82 = .ok (.getfield 12, 3) := by decide +kernel
theorem dX8_turnsUntilJoined_85 : decode cX8_turnsUntilJoined 85 = .ok (.iload_n 2, 1) := by decide +kernel
theorem dX8_turnsUntilJoined_86 : decode cX8_turnsUntilJoined 86 = .ok (.invokevirtual 206, 3) := by decide +kernel
theorem dX8_turnsUntilJoined_89 : decode cX8_turnsUntilJoined 89 = .ok (.lneg, 1) := by decide +kernel
theorem dX8_turnsUntilJoined_90 : decode cX8_turnsUntilJoined 90 = .ok (.goto 11, 3) := by decide +kernel
theorem dX8_turnsUntilJoined_93 : decode cX8_turnsUntilJoined 93 = .ok (.aload_n 0, 1) := by decide +kernel
theorem dX8_turnsUntilJoined_94 : decode cX8_turnsUntilJoined 94 = .ok (.getfield 12, 3) := by decide +kernel
theorem dX8_turnsUntilJoined_97 : decode cX8_turnsUntilJoined 97 = .ok (.iload_n 2, 1) := by decide +kernel
theorem dX8_turnsUntilJoined_98 : decode cX8_turnsUntilJoined 98 = .ok (.invokevirtual 206, 3) := by decide +kernel
theorem dX8_turnsUntilJoined_101 : decode cX8_turnsUntilJoined 101 = .ok (.lstore 10, 2) := by decide +kernel
theorem dX8_turnsUntilJoined_103 : decode cX8_turnsUntilJoined 103 = .ok (.lload 4, 2) := by decide +kernel
theorem dX8_turnsUntilJoined_105 : decode cX8_turnsUntilJoined 105 = .ok (.lload 6, 2) := by decide +kernel
theorem dX8_turnsUntilJoined_107 : decode cX8_turnsUntilJoined 107 = .ok (.lmul, 1) := by decide +kernel
theorem dX8_turnsUntilJoined_108 : decode cX8_turnsUntilJoined 108 = .ok (.lstore 12, 2) := by decide +kernel
theorem dX8_turnsUntilJoined_110 : decode cX8_turnsUntilJoined 110 = .ok (.iconst 1, 1) := by decide +kernel
theorem dX8_turnsUntilJoined_111 : decode cX8_turnsUntilJoined 111 = .ok (.istore 14, 2) := by decide +kernel
theorem dX8_turnsUntilJoined_113 : decode cX8_turnsUntilJoined 113 = .ok (.iload 14, 2) := by decide +kernel
theorem dX8_turnsUntilJoined_115 : decode cX8_turnsUntilJoined 115 = .ok (.sipush 999, 3) := by decide +kernel
theorem dX8_turnsUntilJoined_118 : decode cX8_turnsUntilJoined 118 = .ok (.if_icmp .gt 93, 3) := by decide +kernel
theorem dX8_turnsUntilJoined_121 : decode cX8_turnsUntilJoined 121 = .ok (.aload_n 0, 1) := by decide +kernel
theorem dX8_turnsUntilJoined_122 : decode cX8_turnsUntilJoined 122 = .ok (.getfield 12, 3) := by decide +kernel
theorem dX8_turnsUntilJoined_125 : decode cX8_turnsUntilJoined 125 = .ok (.getfield 260, 3) := by decide +kernel
theorem dX8_turnsUntilJoined_128 : decode cX8_turnsUntilJoined 128 = .ok (.iload 14, 2) := by decide +kernel
theorem dX8_turnsUntilJoined_130 : decode cX8_turnsUntilJoined 130 = .ok (.iadd, 1) := by decide +kernel
theorem dX8_turnsUntilJoined_131 : decode cX8_turnsUntilJoined 131 = .ok (.i2l, 1) := by decide +kernel
theorem dX8_turnsUntilJoined_132 : decode cX8_turnsUntilJoined 132 = .ok (.lload 8, 2) := by decide +kernel
theorem dX8_turnsUntilJoined_134 : decode cX8_turnsUntilJoined 134 = .ok (.lmul, 1) := by decide +kernel
theorem dX8_turnsUntilJoined_135 : decode cX8_turnsUntilJoined 135 = .ok (.lload 4, 2) := by decide +kernel
theorem dX8_turnsUntilJoined_137 : decode cX8_turnsUntilJoined 137 = .ok (.invokestatic 344, 3) := by decide +kernel
theorem dX8_turnsUntilJoined_140 : decode cX8_turnsUntilJoined 140 = .ok (.lstore 15, 2) := by decide +kernel
theorem dX8_turnsUntilJoined_142 : decode cX8_turnsUntilJoined 142 = .ok (.aload_n 0, 1) := by decide +kernel
theorem dX8_turnsUntilJoined_143 : decode cX8_turnsUntilJoined 143 = .ok (.getfield 12, 3) := by decide +kernel
theorem dX8_turnsUntilJoined_146 : decode cX8_turnsUntilJoined 146 = .ok (.getfield 260, 3) := by decide +kernel
theorem dX8_turnsUntilJoined_149 : decode cX8_turnsUntilJoined 149 = .ok (.iload 14, 2) := by decide +kernel
theorem dX8_turnsUntilJoined_151 : decode cX8_turnsUntilJoined 151 = .ok (.iadd, 1) := by decide +kernel
theorem dX8_turnsUntilJoined_152 : decode cX8_turnsUntilJoined 152 = .ok (.i2l, 1) := by decide +kernel
theorem dX8_turnsUntilJoined_153 : decode cX8_turnsUntilJoined 153 = .ok (.lload 10, 2) := by decide +kernel
theorem dX8_turnsUntilJoined_155 : decode cX8_turnsUntilJoined 155 = .ok (.lmul, 1) := by decide +kernel
theorem dX8_turnsUntilJoined_156 : decode cX8_turnsUntilJoined 156 = .ok (.lload 6, 2) := by decide +kernel
theorem dX8_turnsUntilJoined_158 : decode cX8_turnsUntilJoined 158 = .ok (.invokestatic 344, 3) := by decide +kernel
theorem dX8_turnsUntilJoined_161 : decode cX8_turnsUntilJoined 161 = .ok (.lstore 17, 2) := by decide +kernel
theorem dX8_turnsUntilJoined_163 : decode cX8_turnsUntilJoined 163 = .ok (.lload 15, 2) := by decide +kernel
theorem dX8_turnsUntilJoined_165 : decode cX8_turnsUntilJoined 165 = .ok (.lload 6, 2) := by decide +kernel
theorem dX8_turnsUntilJoined_167 : decode cX8_turnsUntilJoined 167 = .ok (.lmul, 1) := by decide +kernel
theorem dX8_turnsUntilJoined_168 : decode cX8_turnsUntilJoined 168 = .ok (.lload 17, 2) := by decide +kernel
theorem dX8_turnsUntilJoined_170 : decode cX8_turnsUntilJoined 170 = .ok (.lload 4, 2) := by decide +kernel
theorem dX8_turnsUntilJoined_172 : decode cX8_turnsUntilJoined 172 = .ok (.lmul, 1) := by decide +kernel
theorem dX8_turnsUntilJoined_173 : decode cX8_turnsUntilJoined 173 = .ok (.lsub, 1) := by decide +kernel
theorem dX8_turnsUntilJoined_174 : decode cX8_turnsUntilJoined 174 = .ok (.invokestatic 96, 3) := by decide +kernel
theorem dX8_turnsUntilJoined_177 : decode cX8_turnsUntilJoined 177 = .ok (.lstore 19, 2) := by decide +kernel
theorem dX8_turnsUntilJoined_179 : decode cX8_turnsUntilJoined 179 = .ok (.lload 19, 2) := by decide +kernel
theorem dX8_turnsUntilJoined_181 : decode cX8_turnsUntilJoined 181 = .ok (.lload 12, 2) := by decide +kernel
theorem dX8_turnsUntilJoined_183 : decode cX8_turnsUntilJoined 183 = .ok (.lload 19, 2) := by decide +kernel
theorem dX8_turnsUntilJoined_185 : decode cX8_turnsUntilJoined 185 = .ok (.lsub, 1) := by decide +kernel
theorem dX8_turnsUntilJoined_186 : decode cX8_turnsUntilJoined 186 = .ok (.invokestatic 347, 3) := by decide +kernel
theorem dX8_turnsUntilJoined_189 : decode cX8_turnsUntilJoined 189 = .ok (.ldc2_w 280, 3) := by decide +kernel
theorem dX8_turnsUntilJoined_192 : decode cX8_turnsUntilJoined 192 = .ok (.lmul, 1) := by decide +kernel
theorem dX8_turnsUntilJoined_193 : decode cX8_turnsUntilJoined 193 = .ok (.iload_n 3, 1) := by decide +kernel
theorem dX8_turnsUntilJoined_194 : decode cX8_turnsUntilJoined 194 = .ok (.i2l, 1) := by decide +kernel
theorem dX8_turnsUntilJoined_195 : decode cX8_turnsUntilJoined 195 = .ok (.lload 12, 2) := by decide +kernel
theorem dX8_turnsUntilJoined_197 : decode cX8_turnsUntilJoined 197 = .ok (.lmul, 1) := by decide +kernel
theorem dX8_turnsUntilJoined_198 : decode cX8_turnsUntilJoined 198 = .ok (.lcmp, 1) := by decide +kernel
theorem dX8_turnsUntilJoined_199 : decode cX8_turnsUntilJoined 199 = .ok (.ifCond .gt 6, 3) := by decide +kernel
theorem dX8_turnsUntilJoined_202 : decode cX8_turnsUntilJoined 202 = .ok (.iload 14, 2) := by decide +kernel
theorem dX8_turnsUntilJoined_204 : decode cX8_turnsUntilJoined 204 = .ok (.ireturn, 1) := by decide +kernel
theorem dX8_turnsUntilJoined_205 : decode cX8_turnsUntilJoined 205 = .ok (.iinc 14 1, 3) := by decide +kernel
theorem dX8_turnsUntilJoined_208 : decode cX8_turnsUntilJoined 208 = .ok (.goto (-95), 3) := by decide +kernel
theorem dX8_turnsUntilJoined_211 : decode cX8_turnsUntilJoined 211 = .ok (.bipush (-5), 2) := by decide +kernel
theorem dX8_turnsUntilJoined_213 : decode cX8_turnsUntilJoined 213 = .ok (.ireturn, 1) := by decide +kernel
theorem dX8_isRatio_0 : decode cX8_isRatio 0 = .ok (.iload_n 0, 1) := by decide +kernel
theorem dX8_isRatio_1 : decode cX8_isRatio 1 = .ok (.iconst 1, 1) := by decide +kernel
theorem dX8_isRatio_2 : decode cX8_isRatio 2 = .ok (.if_icmp .lt 26, 3) := by decide +kernel
theorem dX8_isRatio_5 : decode cX8_isRatio 5 = .ok (.iload_n 0, 1) := by decide +kernel
theorem dX8_isRatio_6 : decode cX8_isRatio 6 = .ok (.sipush 9999, 3) := by decide +kernel
theorem dX8_isRatio_9 : decode cX8_isRatio 9 = .ok (.if_icmp .gt 19, 3) := by decide +kernel
theorem dX8_isRatio_12 : decode cX8_isRatio 12 = .ok (.iload_n 1, 1) := by decide +kernel
theorem dX8_isRatio_13 : decode cX8_isRatio 13 = .ok (.iconst 1, 1) := by decide +kernel
theorem dX8_isRatio_14 : decode cX8_isRatio 14 = .ok (.if_icmp .lt 14, 3) := by decide +kernel
theorem dX8_isRatio_17 : decode cX8_isRatio 17 = .ok (.iload_n 1, 1) := by decide +kernel
theorem dX8_isRatio_18 : decode cX8_isRatio 18 = .ok (.sipush 9999, 3) := by decide +kernel
theorem dX8_isRatio_21 : decode cX8_isRatio 21 = .ok (.if_icmp .gt 7, 3) := by decide +kernel
theorem dX8_isRatio_24 : decode cX8_isRatio 24 = .ok (.iconst 1, 1) := by decide +kernel
theorem dX8_isRatio_25 : decode cX8_isRatio 25 = .ok (.goto 4, 3) := by decide +kernel
theorem dX8_isRatio_28 : decode cX8_isRatio 28 = .ok (.iconst 0, 1) := by decide +kernel
theorem dX8_isRatio_29 : decode cX8_isRatio 29 = .ok (.ireturn, 1) := by decide +kernel
theorem dX8_isPart_0 : decode cX8_isPart 0 = .ok (.iload_n 0, 1) := by decide +kernel
theorem dX8_isPart_1 : decode cX8_isPart 1 = .ok (.ifCond .eq 8, 3) := by decide +kernel
theorem dX8_isPart_4 : decode cX8_isPart 4 = .ok (.iload_n 0, 1) := by decide +kernel
theorem dX8_isPart_5 : decode cX8_isPart 5 = .ok (.iconst 1, 1) := by decide +kernel
theorem dX8_isPart_6 : decode cX8_isPart 6 = .ok (.if_icmp .ne 7, 3) := by decide +kernel
theorem dX8_isPart_9 : decode cX8_isPart 9 = .ok (.iconst 1, 1) := by decide +kernel
theorem dX8_isPart_10 : decode cX8_isPart 10 = .ok (.goto 4, 3) := by decide +kernel
theorem dX8_isPart_13 : decode cX8_isPart 13 = .ok (.iconst 0, 1) := by decide +kernel
theorem dX8_isPart_14 : decode cX8_isPart 14 = .ok (.ireturn, 1) := by decide +kernel
theorem dX8_isTeeth_0 : decode cX8_isTeeth 0 = .ok (.iload_n 0, 1) := by decide +kernel
theorem dX8_isTeeth_1 : decode cX8_isTeeth 1 = .ok (.bipush 10, 2) := by decide +kernel
theorem dX8_isTeeth_3 : decode cX8_isTeeth 3 = .ok (.if_icmp .lt 13, 3) := by decide +kernel
theorem dX8_isTeeth_6 : decode cX8_isTeeth 6 = .ok (.iload_n 0, 1) := by decide +kernel
theorem dX8_isTeeth_7 : decode cX8_isTeeth 7 = .ok (.bipush 99, 2) := by decide +kernel
theorem dX8_isTeeth_9 : decode cX8_isTeeth 9 = .ok (.if_icmp .gt 7, 3) := by decide +kernel
theorem dX8_isTeeth_12 : decode cX8_isTeeth 12 = .ok (.iconst 1, 1) := by decide +kernel
theorem dX8_isTeeth_13 : decode cX8_isTeeth 13 = .ok (.goto 4, 3) := by decide +kernel
theorem dX8_isTeeth_16 : decode cX8_isTeeth 16 = .ok (.iconst 0, 1) := by decide +kernel
theorem dX8_isTeeth_17 : decode cX8_isTeeth 17 = .ok (.ireturn, 1) := by decide +kernel
theorem dX8_isCranked_0 : decode cX8_isCranked 0 = .ok (.iload_n 0, 1) := by decide +kernel
theorem dX8_isCranked_1 : decode cX8_isCranked 1 = .ok (.bipush (-99), 2) := by decide +kernel
theorem dX8_isCranked_3 : decode cX8_isCranked 3 = .ok (.if_icmp .lt 17, 3) := by decide +kernel
theorem dX8_isCranked_6 : decode cX8_isCranked 6 = .ok (.iload_n 0, 1) := by decide +kernel
theorem dX8_isCranked_7 : decode cX8_isCranked 7 = .ok (.bipush 99, 2) := by decide +kernel
theorem dX8_isCranked_9 : decode cX8_isCranked 9 = .ok (.if_icmp .gt 11, 3) := by decide +kernel
theorem dX8_isCranked_12 : decode cX8_isCranked 12 = .ok (.iload_n 0, 1) := by decide +kernel
theorem dX8_isCranked_13 : decode cX8_isCranked 13 = .ok (.ifCond .eq 7, 3) := by decide +kernel
theorem dX8_isCranked_16 : decode cX8_isCranked 16 = .ok (.iconst 1, 1) := by decide +kernel
theorem dX8_isCranked_17 : decode cX8_isCranked 17 = .ok (.goto 4, 3) := by decide +kernel
theorem dX8_isCranked_20 : decode cX8_isCranked 20 = .ok (.iconst 0, 1) := by decide +kernel
theorem dX8_isCranked_21 : decode cX8_isCranked 21 = .ok (.ireturn, 1) := by decide +kernel
theorem dX8_isPlanned_0 : decode cX8_isPlanned 0 = .ok (.iload_n 0, 1) := by decide +kernel
theorem dX8_isPlanned_1 : decode cX8_isPlanned 1 = .ok (.ifCond .ne 8, 3) := by decide +kernel
theorem dX8_isPlanned_4 : decode cX8_isPlanned 4 = .ok (.iload_n 1, 1) := by decide +kernel
theorem dX8_isPlanned_5 : decode cX8_isPlanned 5 = .ok (.invokestatic 257, 3) := by decide +kernel
theorem dX8_isPlanned_8 : decode cX8_isPlanned 8 = .ok (.ireturn, 1) := by decide +kernel
theorem dX8_isPlanned_9 : decode cX8_isPlanned 9 = .ok (.iload_n 1, 1) := by decide +kernel
theorem dX8_isPlanned_10 : decode cX8_isPlanned 10 = .ok (.ifCond .lt 23, 3) := by decide +kernel
theorem dX8_isPlanned_13 : decode cX8_isPlanned 13 = .ok (.iload_n 1, 1) := by decide +kernel
theorem dX8_isPlanned_14 : decode cX8_isPlanned 14 = .ok (.iload_n 0, 1) := by decide +kernel
theorem dX8_isPlanned_15 : decode cX8_isPlanned 15 = .ok (.iconst 1, 1) := by decide +kernel
theorem dX8_isPlanned_16 : decode cX8_isPlanned 16 = .ok (.if_icmp .ne 8, 3) := by decide +kernel
theorem dX8_isPlanned_19 : decode cX8_isPlanned 19 = .ok (.bipush 6, 2) := by decide +kernel
theorem dX8_isPlanned_21 : decode cX8_isPlanned 21 = .ok (.goto 5, 3) := by decide +kernel
theorem dX8_isPlanned_24 : decode cX8_isPlanned 24 = .ok (.bipush 10, 2) := by decide +kernel
theorem dX8_isPlanned_26 : decode cX8_isPlanned 26 = .ok (.if_icmp .ge 7, 3) := by decide +kernel
theorem dX8_isPlanned_29 : decode cX8_isPlanned 29 = .ok (.iconst 1, 1) := by decide +kernel
theorem dX8_isPlanned_30 : decode cX8_isPlanned 30 = .ok (.goto 4, 3) := by decide +kernel
theorem dX8_isPlanned_33 : decode cX8_isPlanned 33 = .ok (.iconst 0, 1) := by decide +kernel
theorem dX8_isPlanned_34 : decode cX8_isPlanned 34 = .ok (.ireturn, 1) := by decide +kernel
theorem dX8_asksPlace_0 : decode cX8_asksPlace 0 = .ok (.iload_n 0, 1) := by decide +kernel
theorem dX8_asksPlace_1 : decode cX8_asksPlace 1 = .ok (.bipush 10, 2) := by decide +kernel
theorem dX8_asksPlace_3 : decode cX8_asksPlace 3 = .ok (.if_icmp .lt 13, 3) := by decide +kernel
theorem dX8_asksPlace_6 : decode cX8_asksPlace 6 = .ok (.iload_n 0, 1) := by decide +kernel
theorem dX8_asksPlace_7 : decode cX8_asksPlace 7 = .ok (.bipush 13, 2) := by decide +kernel
theorem dX8_asksPlace_9 : decode cX8_asksPlace 9 = .ok (.if_icmp .ge 7, 3) := by decide +kernel
theorem dX8_asksPlace_12 : decode cX8_asksPlace 12 = .ok (.iconst 1, 1) := by decide +kernel
theorem dX8_asksPlace_13 : decode cX8_asksPlace 13 = .ok (.goto 4, 3) := by decide +kernel
theorem dX8_asksPlace_16 : decode cX8_asksPlace 16 = .ok (.iconst 0, 1) := by decide +kernel
theorem dX8_asksPlace_17 : decode cX8_asksPlace 17 = .ok (.ireturn, 1) := by decide +kernel
theorem dX8_isOrderOf_0 : decode cX8_isOrderOf 0 = .ok (.iconst 0, 1) := by decide +kernel
theorem dX8_isOrderOf_1 : decode cX8_isOrderOf 1 = .ok (.istore_n 2, 1) := by decide +kernel
theorem dX8_isOrderOf_2 : decode cX8_isOrderOf 2 = .ok (.iload_n 2, 1) := by decide +kernel
theorem dX8_isOrderOf_3 : decode cX8_isOrderOf 3 = .ok (.iload_n 1, 1) := by decide +kernel
theorem dX8_isOrderOf_4 : decode cX8_isOrderOf 4 = .ok (.if_icmp .ge 20, 3) := by decide +kernel
theorem dX8_isOrderOf_7 : decode cX8_isOrderOf 7 = .ok (.iload_n 0, 1) := by decide +kernel
theorem dX8_isOrderOf_8 : decode cX8_isOrderOf 8 = .ok (.iload_n 2, 1) := by decide +kernel
theorem dX8_isOrderOf_9 : decode cX8_isOrderOf 9 = .ok (.invokestatic 235, 3) := by decide +kernel
theorem dX8_isOrderOf_12 : decode cX8_isOrderOf 12 = .ok (.iload_n 1, 1) := by decide +kernel
theorem dX8_isOrderOf_13 : decode cX8_isOrderOf 13 = .ok (.if_icmp .lt 5, 3) := by decide +kernel
theorem dX8_isOrderOf_16 : decode cX8_isOrderOf 16 = .ok (.iconst 0, 1) := by decide +kernel
theorem dX8_isOrderOf_17 : decode cX8_isOrderOf 17 = .ok (.ireturn, 1) := by decide +kernel
theorem dX8_isOrderOf_18 : decode cX8_isOrderOf 18 = .ok (.iinc 2 1, 3) := by decide +kernel
theorem dX8_isOrderOf_21 : decode cX8_isOrderOf 21 = .ok (.goto (-19), 3) := by decide +kernel
theorem dX8_isOrderOf_24 : decode cX8_isOrderOf 24 = .ok (.iconst 1, 1) := by decide +kernel
theorem dX8_isOrderOf_25 : decode cX8_isOrderOf 25 = .ok (.ireturn, 1) := by decide +kernel
theorem dX8_placeBy_0 : decode cX8_placeBy 0 = .ok (.getstatic 338, 3) := by decide +kernel
theorem dX8_placeBy_3 : decode cX8_placeBy 3 = .ok (.iload_n 0, 1) := by decide +kernel
theorem dX8_placeBy_4 : decode cX8_placeBy 4 = .ok (.iconst 3, 1) := by decide +kernel
theorem dX8_placeBy_5 : decode cX8_placeBy 5 = .ok (.imul, 1) := by decide +kernel
theorem dX8_placeBy_6 : decode cX8_placeBy 6 = .ok (.iload_n 1, 1) := by decide +kernel
theorem dX8_placeBy_7 : decode cX8_placeBy 7 = .ok (.iadd, 1) := by decide +kernel
theorem dX8_placeBy_8 : decode cX8_placeBy 8 = .ok (.invokestatic 76, 3) := by decide +kernel
theorem dX8_placeBy_11 : decode cX8_placeBy 11 = .ok (.ireturn, 1) := by decide +kernel
theorem dX8_kindLetter_0 : decode cX8_kindLetter 0 = .ok (.iload_n 0, 1) := by decide +kernel
theorem dX8_kindLetter_1 : decode cX8_kindLetter 1 = .ok (.ifCond .lt 19, 3) := by decide +kernel
theorem dX8_kindLetter_4 : decode cX8_kindLetter 4 = .ok (.iload_n 0, 1) := by decide +kernel
theorem dX8_kindLetter_5 : decode cX8_kindLetter 5 = .ok (.getstatic 350, 3) := by decide +kernel
theorem dX8_kindLetter_8 : decode cX8_kindLetter 8 = .ok (.arraylength, 1) := by decide +kernel
theorem dX8_kindLetter_9 : decode cX8_kindLetter 9 = .ok (.if_icmp .ge 11, 3) := by decide +kernel
theorem dX8_kindLetter_12 : decode cX8_kindLetter 12 = .ok (.getstatic 350, 3) := by decide +kernel
theorem dX8_kindLetter_15 : decode cX8_kindLetter 15 = .ok (.iload_n 0, 1) := by decide +kernel
theorem dX8_kindLetter_16 : decode cX8_kindLetter 16 = .ok (.caload, 1) := by decide +kernel
theorem dX8_kindLetter_17 : decode cX8_kindLetter 17 = .ok (.goto 4, 3) := by decide +kernel
theorem dX8_kindLetter_20 : decode cX8_kindLetter 20 = .ok (.iconst 0, 1) := by decide +kernel
theorem dX8_kindLetter_21 : decode cX8_kindLetter 21 = .ok (.ireturn, 1) := by decide +kernel
theorem dX8_kindOf_0 : decode cX8_kindOf 0 = .ok (.iconst 0, 1) := by decide +kernel
theorem dX8_kindOf_1 : decode cX8_kindOf 1 = .ok (.istore_n 1, 1) := by decide +kernel
theorem dX8_kindOf_2 : decode cX8_kindOf 2 = .ok (.iload_n 1, 1) := by decide +kernel
theorem dX8_kindOf_3 : decode cX8_kindOf 3 = .ok (.getstatic 350, 3) := by decide +kernel
theorem dX8_kindOf_6 : decode cX8_kindOf 6 = .ok (.arraylength, 1) := by decide +kernel
theorem dX8_kindOf_7 : decode cX8_kindOf 7 = .ok (.if_icmp .ge 20, 3) := by decide +kernel
theorem dX8_kindOf_10 : decode cX8_kindOf 10 = .ok (.getstatic 350, 3) := by decide +kernel
theorem dX8_kindOf_13 : decode cX8_kindOf 13 = .ok (.iload_n 1, 1) := by decide +kernel
theorem dX8_kindOf_14 : decode cX8_kindOf 14 = .ok (.caload, 1) := by decide +kernel
theorem dX8_kindOf_15 : decode cX8_kindOf 15 = .ok (.iload_n 0, 1) := by decide +kernel
theorem dX8_kindOf_16 : decode cX8_kindOf 16 = .ok (.if_icmp .ne 5, 3) := by decide +kernel
theorem dX8_kindOf_19 : decode cX8_kindOf 19 = .ok (.iload_n 1, 1) := by decide +kernel
theorem dX8_kindOf_20 : decode cX8_kindOf 20 = .ok (.ireturn, 1) := by decide +kernel
theorem dX8_kindOf_21 : decode cX8_kindOf 21 = .ok (.iinc 1 1, 3) := by decide +kernel
theorem dX8_kindOf_24 : decode cX8_kindOf 24 = .ok (.goto (-22), 3) := by decide +kernel
theorem dX8_kindOf_27 : decode cX8_kindOf 27 = .ok (.iconst (-1), 1) := by decide +kernel
theorem dX8_kindOf_28 : decode cX8_kindOf 28 = .ok (.ireturn, 1) := by decide +kernel
theorem dX8_at_0 : decode cX8_at 0 = .ok (.iload_n 1, 1) := by decide +kernel
theorem dX8_at_1 : decode cX8_at 1 = .ok (.ifCond .lt 15, 3) := by decide +kernel
theorem dX8_at_4 : decode cX8_at 4 = .ok (.iload_n 1, 1) := by decide +kernel
theorem dX8_at_5 : decode cX8_at 5 = .ok (.aload_n 0, 1) := by decide +kernel
theorem dX8_at_6 : decode cX8_at 6 = .ok (.arraylength, 1) := by decide +kernel
theorem dX8_at_7 : decode cX8_at 7 = .ok (.if_icmp .ge 9, 3) := by decide +kernel
theorem dX8_at_10 : decode cX8_at 10 = .ok (.aload_n 0, 1) := by decide +kernel
theorem dX8_at_11 : decode cX8_at 11 = .ok (.iload_n 1, 1) := by decide +kernel
theorem dX8_at_12 : decode cX8_at 12 = .ok (.iaload, 1) := by decide +kernel
theorem dX8_at_13 : decode cX8_at 13 = .ok (.goto 4, 3) := by decide +kernel
theorem dX8_at_16 : decode cX8_at 16 = .ok (.iconst 0, 1) := by decide +kernel
theorem dX8_at_17 : decode cX8_at 17 = .ok (.ireturn, 1) := by decide +kernel
theorem dX8_set_0 : decode cX8_set 0 = .ok (.iload_n 1, 1) := by decide +kernel
theorem dX8_set_1 : decode cX8_set 1 = .ok (.ifCond .lt 13, 3) := by decide +kernel
theorem dX8_set_4 : decode cX8_set 4 = .ok (.iload_n 1, 1) := by decide +kernel
theorem dX8_set_5 : decode cX8_set 5 = .ok (.aload_n 0, 1) := by decide +kernel
theorem dX8_set_6 : decode cX8_set 6 = .ok (.arraylength, 1) := by decide +kernel
theorem dX8_set_7 : decode cX8_set 7 = .ok (.if_icmp .ge 7, 3) := by decide +kernel
theorem dX8_set_10 : decode cX8_set 10 = .ok (.aload_n 0, 1) := by decide +kernel
theorem dX8_set_11 : decode cX8_set 11 = .ok (.iload_n 1, 1) := by decide +kernel
theorem dX8_set_12 : decode cX8_set 12 = .ok (.iload_n 2, 1) := by decide +kernel
theorem dX8_set_13 : decode cX8_set 13 = .ok (.iastore, 1) := by decide +kernel
theorem dX8_set_14 : decode cX8_set 14 = .ok (.return_, 1) := by decide +kernel
theorem dX8_copy_0 : decode cX8_copy 0 = .ok (.iconst 0, 1) := by decide +kernel
theorem dX8_copy_1 : decode cX8_copy 1 = .ok (.istore_n 2, 1) := by decide +kernel
theorem dX8_copy_2 : decode cX8_copy 2 = .ok (.iload_n 2, 1) := by decide +kernel
theorem dX8_copy_3 : decode cX8_copy 3 = .ok (.aload_n 0, 1) := by decide +kernel
theorem dX8_copy_4 : decode cX8_copy 4 = .ok (.arraylength, 1) := by decide +kernel
theorem dX8_copy_5 : decode cX8_copy 5 = .ok (.if_icmp .ge 21, 3) := by decide +kernel
theorem dX8_copy_8 : decode cX8_copy 8 = .ok (.iload_n 2, 1) := by decide +kernel
theorem dX8_copy_9 : decode cX8_copy 9 = .ok (.aload_n 1, 1) := by decide +kernel
theorem dX8_copy_10 : decode cX8_copy 10 = .ok (.arraylength, 1) := by decide +kernel
theorem dX8_copy_11 : decode cX8_copy 11 = .ok (.if_icmp .ge 15, 3) := by decide +kernel
theorem dX8_copy_14 : decode cX8_copy 14 = .ok (.aload_n 1, 1) := by decide +kernel
theorem dX8_copy_15 : decode cX8_copy 15 = .ok (.iload_n 2, 1) := by decide +kernel
theorem dX8_copy_16 : decode cX8_copy 16 = .ok (.aload_n 0, 1) := by decide +kernel
theorem dX8_copy_17 : decode cX8_copy 17 = .ok (.iload_n 2, 1) := by decide +kernel
theorem dX8_copy_18 : decode cX8_copy 18 = .ok (.iaload, 1) := by decide +kernel
theorem dX8_copy_19 : decode cX8_copy 19 = .ok (.iastore, 1) := by decide +kernel
theorem dX8_copy_20 : decode cX8_copy 20 = .ok (.iinc 2 1, 3) := by decide +kernel
theorem dX8_copy_23 : decode cX8_copy 23 = .ok (.goto (-21), 3) := by decide +kernel
theorem dX8_copy_26 : decode cX8_copy 26 = .ok (.return_, 1) := by decide +kernel
theorem dX8_quotient_0 : decode cX8_quotient 0 = .ok (.lload_n 2, 1) := by decide +kernel
theorem dX8_quotient_1 : decode cX8_quotient 1 = .ok (.lconst 0, 1) := by decide +kernel
theorem dX8_quotient_2 : decode cX8_quotient 2 = .ok (.lcmp, 1) := by decide +kernel
theorem dX8_quotient_3 : decode cX8_quotient 3 = .ok (.ifCond .ne 7, 3) := by decide +kernel
theorem dX8_quotient_6 : decode cX8_quotient 6 = .ok (.lconst 0, 1) := by decide +kernel
theorem dX8_quotient_7 : decode cX8_quotient 7 = .ok (.goto 6, 3) := by decide +kernel
theorem dX8_quotient_10 : decode cX8_quotient 10 = .ok (.lload_n 0, 1) := by decide +kernel
theorem dX8_quotient_11 : decode cX8_quotient 11 = .ok (.lload_n 2, 1) := by decide +kernel
theorem dX8_quotient_12 : decode cX8_quotient 12 = .ok (.ldiv, 1) := by decide +kernel
theorem dX8_quotient_13 : decode cX8_quotient 13 = .ok (.lreturn, 1) := by decide +kernel
theorem dX8_lowest_0 : decode cX8_lowest 0 = .ok (.lload_n 0, 1) := by decide +kernel
theorem dX8_lowest_1 : decode cX8_lowest 1 = .ok (.invokestatic 96, 3) := by decide +kernel
theorem dX8_lowest_4 : decode cX8_lowest 4 = .ok (.lload_n 2, 1) := by decide +kernel
theorem dX8_lowest_5 : decode cX8_lowest 5 = .ok (.invokestatic 273, 3) := by decide +kernel
theorem dX8_lowest_8 : decode cX8_lowest 8 = .ok (.lstore 5, 2) := by decide +kernel
theorem dX8_lowest_10 : decode cX8_lowest 10 = .ok (.iload 4, 2) := by decide +kernel
theorem dX8_lowest_12 : decode cX8_lowest 12 = .ok (.ifCond .ne 7, 3) := by decide +kernel
theorem dX8_lowest_15 : decode cX8_lowest 15 = .ok (.lload_n 0, 1) := by decide +kernel
theorem dX8_lowest_16 : decode cX8_lowest 16 = .ok (.goto 4, 3) := by decide +kernel
theorem dX8_lowest_19 : decode cX8_lowest 19 = .ok (.lload_n 2, 1) := by decide +kernel
theorem dX8_lowest_20 : decode cX8_lowest 20 = .ok (.lload 5, 2) := by decide +kernel
theorem dX8_lowest_22 : decode cX8_lowest 22 = .ok (.invokestatic 92, 3) := by decide +kernel
theorem dX8_lowest_25 : decode cX8_lowest 25 = .ok (.lreturn, 1) := by decide +kernel
theorem dX8_greatestCommon_0 : decode cX8_greatestCommon 0 = .ok (.lload_n 0, 1) := by decide +kernel
theorem dX8_greatestCommon_1 : decode cX8_greatestCommon 1 = .ok (.lstore 4, 2) := by decide +kernel
theorem dX8_greatestCommon_3 : decode cX8_greatestCommon 3 = .ok (.lload_n 2, 1) := by decide +kernel
theorem dX8_greatestCommon_4 : decode cX8_greatestCommon 4 = .ok (.lstore 6, 2) := by decide +kernel
theorem dX8_greatestCommon_6 : decode cX8_greatestCommon 6 = .ok (.iconst 0, 1) := by decide +kernel
theorem dX8_greatestCommon_7 : decode cX8_greatestCommon 7 = .ok (.istore 8, 2) := by decide +kernel
theorem dX8_greatestCommon_9 : decode cX8_greatestCommon 9 = .ok (.iload 8, 2) := by decide +kernel
theorem dX8_greatestCommon_11 : decode cX8_greatestCommon 11 = .ok (.bipush 100, 2) := by decide +kernel
theorem dX8_greatestCommon_13 : decode cX8_greatestCommon 13 = .ok (.if_icmp .ge 31, 3) := by decide +kernel
theorem dX8_greatestCommon_16 : decode cX8_greatestCommon 16 = .ok (.lload 6, 2) := by decide +kernel
theorem dX8_greatestCommon_18 : decode cX8_greatestCommon 18 = .ok (.lconst 0, 1) := by decide +kernel
theorem dX8_greatestCommon_19 : decode cX8_greatestCommon 19 = .ok (.lcmp, 1) := by decide +kernel
theorem dX8_greatestCommon_20 : decode cX8_greatestCommon 20 = .ok (.ifCond .eq 24, 3) := by decide +kernel
theorem dX8_greatestCommon_23 : decode cX8_greatestCommon 23 = .ok (.lload 4, 2) := by decide +kernel
theorem dX8_greatestCommon_25 : decode cX8_greatestCommon 25 = .ok (.lload 6, 2) := by decide +kernel
theorem dX8_greatestCommon_27 : decode cX8_greatestCommon 27 = .ok (.lrem, 1) := by decide +kernel
theorem dX8_greatestCommon_28 : decode cX8_greatestCommon 28 = .ok (.lstore 9, 2) := by decide +kernel
theorem dX8_greatestCommon_30 : decode cX8_greatestCommon 30 = .ok (.lload 6, 2) := by decide +kernel
theorem dX8_greatestCommon_32 : decode cX8_greatestCommon 32 = .ok (.lstore 4, 2) := by decide +kernel
theorem dX8_greatestCommon_34 : decode cX8_greatestCommon 34 = .ok (.lload 9, 2) := by decide +kernel
theorem dX8_greatestCommon_36 : decode cX8_greatestCommon 36 = .ok (.lstore 6, 2) := by decide +kernel
theorem dX8_greatestCommon_38 : decode cX8_greatestCommon 38 = .ok (.iinc 8 1, 3) := by decide +kernel
theorem dX8_greatestCommon_41 : decode cX8_greatestCommon 41 = .ok (.goto (-32), 3) := by decide +kernel
theorem dX8_greatestCommon_44 : decode cX8_greatestCommon 44 = .ok (.lload 4, 2) := by decide +kernel
theorem dX8_greatestCommon_46 : decode cX8_greatestCommon 46 = .ok (.lreturn, 1) := by decide +kernel
theorem dX9_init_0 : decode cX9_init 0 = .ok (.aload_n 0, 1) := by decide +kernel
theorem dX9_init_1 : decode cX9_init 1 = .ok (.invokespecial 3, 3) := by decide +kernel
theorem dX9_init_4 : decode cX9_init 4 = .ok (.aload_n 0, 1) := by decide +kernel
theorem dX9_init_5 : decode cX9_init 5 = .ok (.bipush 99, 2) := by decide +kernel
theorem dX9_init_7 : decode cX9_init 7 = .ok (.newarray .int, 2) := by decide +kernel
theorem dX9_init_9 : decode cX9_init 9 = .ok (.putfield 11, 3) := by decide +kernel
theorem dX9_init_12 : decode cX9_init 12 = .ok (.aload_n 0, 1) := by decide +kernel
theorem dX9_init_13 : decode cX9_init 13 = .ok (.bipush 99, 2) := by decide +kernel
theorem dX9_init_15 : decode cX9_init 15 = .ok (.newarray .int, 2) := by decide +kernel
theorem dX9_init_17 : decode cX9_init 17 = .ok (.putfield 15, 3) := by decide +kernel
theorem dX9_init_20 : decode cX9_init 20 = .ok (.aload_n 0, 1) := by decide +kernel
theorem dX9_init_21 : decode cX9_init 21 = .ok (.bipush 99, 2) := by decide +kernel
theorem dX9_init_23 : decode cX9_init 23 = .ok (.newarray .int, 2) := by decide +kernel
theorem dX9_init_25 : decode cX9_init 25 = .ok (.putfield 18, 3) := by decide +kernel
theorem dX9_init_28 : decode cX9_init 28 = .ok (.aload_n 0, 1) := by decide +kernel
theorem dX9_init_29 : decode cX9_init 29 = .ok (.bipush 60, 2) := by decide +kernel
theorem dX9_init_31 : decode cX9_init 31 = .ok (.newarray .int, 2) := by decide +kernel
theorem dX9_init_33 : decode cX9_init 33 = .ok (.putfield 21, 3) := by decide +kernel
theorem dX9_init_36 : decode cX9_init 36 = .ok (.aload_n 0, 1) := by decide +kernel
theorem dX9_init_37 : decode cX9_init 37 = .ok (.bipush 8, 2) := by decide +kernel
theorem dX9_init_39 : decode cX9_init 39 = .ok (.newarray .int, 2) := by decide +kernel
theorem dX9_init_41 : decode cX9_init 41 = .ok (.putfield 24, 3) := by decide +kernel
theorem dX9_init_44 : decode cX9_init 44 = .ok (.aload_n 0, 1) := by decide +kernel
theorem dX9_init_45 : decode cX9_init 45 = .ok (.iconst 4, 1) := by decide +kernel
theorem dX9_init_46 : decode cX9_init 46 = .ok (.newarray .int, 2) := by decide +kernel
theorem dX9_init_48 : decode cX9_init 48 = .ok (.putfield 27, 3) := by decide +kernel
theorem dX9_init_51 : decode cX9_init 51 = .ok (.aload_n 0, 1) := by decide +kernel
theorem dX9_init_52 : decode cX9_init 52 = .ok (.bipush 48, 2) := by decide +kernel
theorem dX9_init_54 : decode cX9_init 54 = .ok (.newarray .long, 2) := by decide +kernel
theorem dX9_init_56 : decode cX9_init 56 = .ok (.putfield 30, 3) := by decide +kernel
theorem dX9_init_59 : decode cX9_init 59 = .ok (.aload_n 0, 1) := by decide +kernel
theorem dX9_init_60 : decode cX9_init 60 = .ok (.bipush 60, 2) := by decide +kernel
theorem dX9_init_62 : decode cX9_init 62 = .ok (.newarray .int, 2) := by decide +kernel
theorem dX9_init_64 : decode cX9_init 64 = .ok (.putfield 34, 3) := by decide +kernel
theorem dX9_init_67 : decode cX9_init 67 = .ok (.aload_n 0, 1) := by decide +kernel
theorem dX9_init_68 : decode cX9_init 68 = .ok (.sipush 240, 3) := by decide +kernel
theorem dX9_init_71 : decode cX9_init 71 = .ok (.newarray .int, 2) := by decide +kernel
theorem dX9_init_73 : decode cX9_init 73 = .ok (.putfield 37, 3) := by decide +kernel
theorem dX9_init_76 : decode cX9_init 76 = .ok (.aload_n 0, 1) := by decide +kernel
theorem dX9_init_77 : decode cX9_init 77 = .ok (.getfield 11, 3) := by decide +kernel
theorem dX9_init_80 : decode cX9_init 80 = .ok (.iconst 1, 1) := by decide +kernel
theorem dX9_init_81 : decode cX9_init 81 = .ok (.bipush 20, 2) := by decide +kernel
theorem dX9_init_83 : decode cX9_init 83 = .ok (.iastore, 1) := by decide +kernel
theorem dX9_init_84 : decode cX9_init 84 = .ok (.aload_n 0, 1) := by decide +kernel
theorem dX9_init_85 : decode cX9_init 85 = .ok (.getfield 11, 3) := by decide +kernel
theorem dX9_init_88 : decode cX9_init 88 = .ok (.iconst 2, 1) := by decide +kernel
theorem dX9_init_89 : decode cX9_init 89 = .ok (.bipush 30, 2) := by decide +kernel
theorem dX9_init_91 : decode cX9_init 91 = .ok (.iastore, 1) := by decide +kernel
theorem dX9_init_92 : decode cX9_init 92 = .ok (.iconst 0, 1) := by decide +kernel
theorem dX9_init_93 : decode cX9_init 93 = .ok (.istore_n 1, 1) := by decide +kernel
theorem dX9_init_94 : decode cX9_init 94 = .ok (.iload_n 1, 1) := by decide +kernel
theorem dX9_init_95 : decode cX9_init 95 = .ok (.iconst 4, 1) := by decide +kernel
theorem dX9_init_96 : decode cX9_init 96 = .ok (.if_icmp .ge 16, 3) := by decide +kernel
theorem dX9_init_99 : decode cX9_init 99 = .ok (.aload_n 0, 1) := by decide +kernel
theorem dX9_init_100 : decode cX9_init 100 = .ok (.getfield 27, 3) := by decide +kernel
theorem dX9_init_103 : decode cX9_init 103 = .ok (.iload_n 1, 1) := by decide +kernel
theorem dX9_init_104 : decode cX9_init 104 = .ok (.iconst (-1), 1) := by decide +kernel
theorem dX9_init_105 : decode cX9_init 105 = .ok (.iastore, 1) := by decide +kernel
theorem dX9_init_106 : decode cX9_init 106 = .ok (.iinc 1 1, 3) := by decide +kernel
theorem dX9_init_109 : decode cX9_init 109 = .ok (.goto (-15), 3) := by decide +kernel
theorem dX9_init_112 : decode cX9_init 112 = .ok (.return_, 1) := by decide +kernel
theorem dX9_isIn_0 : decode cX9_isIn 0 = .ok (.lload_n 0, 1) := by decide +kernel
theorem dX9_isIn_1 : decode cX9_isIn 1 = .ok (.lload_n 2, 1) := by decide +kernel
theorem dX9_isIn_2 : decode cX9_isIn 2 = .ok (.lcmp, 1) := by decide +kernel
theorem dX9_isIn_3 : decode cX9_isIn 3 = .ok (.ifCond .lt 14, 3) := by decide +kernel
theorem dX9_isIn_6 : decode cX9_isIn 6 = .ok (.lload_n 0, 1) := by decide +kernel
theorem dX9_isIn_7 : decode cX9_isIn 7 = .ok (.lload 4, 2) := by decide +kernel
theorem dX9_isIn_9 : decode cX9_isIn 9 = .ok (.lcmp, 1) := by decide +kernel
theorem dX9_isIn_10 : decode cX9_isIn 10 = .ok (.ifCond .gt 7, 3) := by decide +kernel
theorem dX9_isIn_13 : decode cX9_isIn 13 = .ok (.iconst 1, 1) := by decide +kernel
theorem dX9_isIn_14 : decode cX9_isIn 14 = .ok (.goto 4, 3) := by decide +kernel
theorem dX9_isIn_17 : decode cX9_isIn 17 = .ok (.iconst 0, 1) := by decide +kernel
theorem dX9_isIn_18 : decode cX9_isIn 18 = .ok (.ireturn, 1) := by decide +kernel
theorem dX9_common_0 : decode cX9_common 0 = .ok (.lload_n 0, 1) := by decide +kernel
theorem dX9_common_1 : decode cX9_common 1 = .ok (.lconst 0, 1) := by decide +kernel
theorem dX9_common_2 : decode cX9_common 2 = .ok (.lcmp, 1) := by decide +kernel
theorem dX9_common_3 : decode cX9_common 3 = .ok (.ifCond .ge 8, 3) := by decide +kernel
theorem dX9_common_6 : decode cX9_common 6 = .ok (.lload_n 0, 1) := by decide +kernel
theorem dX9_common_7 : decode cX9_common 7 = .ok (.lneg, 1) := by decide +kernel
theorem dX9_common_8 : decode cX9_common 8 = .ok (.goto 4, 3) := by decide +kernel
theorem dX9_common_11 : decode cX9_common 11 = .ok (.lload_n 0, 1) := by decide +kernel
theorem dX9_common_12 : decode cX9_common 12 = .ok (.lstore 4, 2) := by decide +kernel
theorem dX9_common_14 : decode cX9_common 14 = .ok (.lload_n 2, 1) := by decide +kernel
theorem dX9_common_15 : decode cX9_common 15 = .ok (.lstore 6, 2) := by decide +kernel
theorem dX9_common_17 : decode cX9_common 17 = .ok (.lload 6, 2) := by decide +kernel
theorem dX9_common_19 : decode cX9_common 19 = .ok (.lconst 0, 1) := by decide +kernel
theorem dX9_common_20 : decode cX9_common 20 = .ok (.lcmp, 1) := by decide +kernel
theorem dX9_common_21 : decode cX9_common 21 = .ok (.ifCond .eq 21, 3) := by decide +kernel
theorem dX9_common_24 : decode cX9_common 24 = .ok (.lload 4, 2) := by decide +kernel
theorem dX9_common_26 : decode cX9_common 26 = .ok (.lload 6, 2) := by decide +kernel
theorem dX9_common_28 : decode cX9_common 28 = .ok (.lrem, 1) := by decide +kernel
theorem dX9_common_29 : decode cX9_common 29 = .ok (.lstore 8, 2) := by decide +kernel
theorem dX9_common_31 : decode cX9_common 31 = .ok (.lload 6, 2) := by decide +kernel
theorem dX9_common_33 : decode cX9_common 33 = .ok (.lstore 4, 2) := by decide +kernel
theorem dX9_common_35 : decode cX9_common 35 = .ok (.lload 8, 2) := by decide +kernel
theorem dX9_common_37 : decode cX9_common 37 = .ok (.lstore 6, 2) := by decide +kernel
theorem dX9_common_39 : decode cX9_common 39 = .ok (.goto (-22), 3) := by decide +kernel
theorem dX9_common_42 : decode cX9_common 42 = .ok (.lload 4, 2) := by decide +kernel
theorem dX9_common_44 : decode cX9_common 44 = .ok (.lreturn, 1) := by decide +kernel
theorem dX9_told_0 : decode cX9_told 0 = .ok (.lload_n 0, 1) := by decide +kernel
theorem dX9_told_1 : decode cX9_told 1 = .ok (.lload_n 2, 1) := by decide +kernel
theorem dX9_told_2 : decode cX9_told 2 = .ok (.invokestatic 40, 3) := by decide +kernel
theorem dX9_told_5 : decode cX9_told 5 = .ok (.lstore 5, 2) := by decide +kernel
theorem dX9_told_7 : decode cX9_told 7 = .ok (.iload 4, 2) := by decide +kernel
theorem dX9_told_9 : decode cX9_told 9 = .ok (.ifCond .ne 7, 3) := by decide +kernel
theorem dX9_told_12 : decode cX9_told 12 = .ok (.lload_n 0, 1) := by decide +kernel
theorem dX9_told_13 : decode cX9_told 13 = .ok (.goto 4, 3) := by decide +kernel
theorem dX9_told_16 : decode cX9_told 16 = .ok (.lload_n 2, 1) := by decide +kernel
theorem dX9_told_17 : decode cX9_told 17 = .ok (.lload 5, 2) := by decide +kernel
theorem dX9_told_19 : decode cX9_told 19 = .ok (.ldiv, 1) := by decide +kernel
theorem dX9_told_20 : decode cX9_told 20 = .ok (.lreturn, 1) := by decide +kernel
theorem dX9_isPart_0 : decode cX9_isPart 0 = .ok (.iload_n 0, 1) := by decide +kernel
theorem dX9_isPart_1 : decode cX9_isPart 1 = .ok (.i2l, 1) := by decide +kernel
theorem dX9_isPart_2 : decode cX9_isPart 2 = .ok (.lconst 0, 1) := by decide +kernel
theorem dX9_isPart_3 : decode cX9_isPart 3 = .ok (.lconst 1, 1) := by decide +kernel
theorem dX9_isPart_4 : decode cX9_isPart 4 = .ok (.invokestatic 44, 3) := by decide +kernel
theorem dX9_isPart_7 : decode cX9_isPart 7 = .ok (.ireturn, 1) := by decide +kernel
theorem dX9_isBody_0 : decode cX9_isBody 0 = .ok (.iload_n 1, 1) := by decide +kernel
theorem dX9_isBody_1 : decode cX9_isBody 1 = .ok (.i2l, 1) := by decide +kernel
theorem dX9_isBody_2 : decode cX9_isBody 2 = .ok (.lconst 0, 1) := by decide +kernel
theorem dX9_isBody_3 : decode cX9_isBody 3 = .ok (.aload_n 0, 1) := by decide +kernel
theorem dX9_isBody_4 : decode cX9_isBody 4 = .ok (.getfield 11, 3) := by decide +kernel
theorem dX9_isBody_7 : decode cX9_isBody 7 = .ok (.iconst 0, 1) := by decide +kernel
theorem dX9_isBody_8 : decode cX9_isBody 8 = .ok (.iaload, 1) := by decide +kernel
theorem dX9_isBody_9 : decode cX9_isBody 9 = .ok (.iconst 1, 1) := by decide +kernel
theorem dX9_isBody_10 : decode cX9_isBody 10 = .ok (.isub, 1) := by decide +kernel
theorem dX9_isBody_11 : decode cX9_isBody 11 = .ok (.i2l, 1) := by decide +kernel
theorem dX9_isBody_12 : decode cX9_isBody 12 = .ok (.invokestatic 44, 3) := by decide +kernel
theorem dX9_isBody_15 : decode cX9_isBody 15 = .ok (.ireturn, 1) := by decide +kernel
theorem dX9_isRatio_0 : decode cX9_isRatio 0 = .ok (.iload_n 0, 1) := by decide +kernel
theorem dX9_isRatio_1 : decode cX9_isRatio 1 = .ok (.i2l, 1) := by decide +kernel
theorem dX9_isRatio_2 : decode cX9_isRatio 2 = .ok (.lconst 1, 1) := by decide +kernel
theorem dX9_isRatio_3 : decode cX9_isRatio 3 = .ok (.ldc2_w 48, 3) := by decide +kernel
theorem dX9_isRatio_6 : decode cX9_isRatio 6 = .ok (.invokestatic 44, 3) := by decide +kernel
theorem dX9_isRatio_9 : decode cX9_isRatio 9 = .ok (.ifCond .eq 19, 3) := by decide +kernel
theorem dX9_isRatio_12 : decode cX9_isRatio 12 = .ok (.iload_n 1, 1) := by decide +kernel
theorem dX9_isRatio_13 : decode cX9_isRatio 13 = .ok (.i2l, 1) := by decide +kernel
theorem dX9_isRatio_14 : decode cX9_isRatio 14 = .ok (.lconst 1, 1) := by decide +kernel
theorem dX9_isRatio_15 : decode cX9_isRatio 15 = .ok (.ldc2_w 48, 3) := by decide +kernel
theorem dX9_isRatio_18 : decode cX9_isRatio 18 = .ok (.invokestatic 44, 3) := by decide +kernel
theorem dX9_isRatio_21 : decode cX9_isRatio 21 = .ok (.ifCond .eq 7, 3) := by decide +kernel
theorem dX9_isRatio_24 : decode cX9_isRatio 24 = .ok (.iconst 1, 1) := by decide +kernel
theorem dX9_isRatio_25 : decode cX9_isRatio 25 = .ok (.goto 4, 3) := by decide +kernel
theorem dX9_isRatio_28 : decode cX9_isRatio 28 = .ok (.iconst 0, 1) := by decide +kernel
theorem dX9_isRatio_29 : decode cX9_isRatio 29 = .ok (.ireturn, 1) := by decide +kernel
theorem dX9_becomesRatio_0 : decode cX9_becomesRatio 0 = .ok (.aload_n 0, 1) := by decide +kernel
theorem dX9_becomesRatio_1 : decode cX9_becomesRatio 1 = .ok (.getfield 11, 3) := by decide +kernel
theorem dX9_becomesRatio_4 : decode cX9_becomesRatio 4 = .ok (.bipush 7, 2) := by decide +kernel
theorem dX9_becomesRatio_6 : decode cX9_becomesRatio 6 = .ok (.iload_n 1, 1) := by decide +kernel
theorem dX9_becomesRatio_7 : decode cX9_becomesRatio 7 = .ok (.iadd, 1) := by decide +kernel
theorem dX9_becomesRatio_8 : decode cX9_becomesRatio 8 = .ok (.iload_n 2, 1) := by decide +kernel
theorem dX9_becomesRatio_9 : decode cX9_becomesRatio 9 = .ok (.i2l, 1) := by decide +kernel
theorem dX9_becomesRatio_10 : decode cX9_becomesRatio 10 = .ok (.iload_n 3, 1) := by decide +kernel
theorem dX9_becomesRatio_11 : decode cX9_becomesRatio 11 = .ok (.i2l, 1) := by decide +kernel
theorem dX9_becomesRatio_12 : decode cX9_becomesRatio 12 = .ok (.iconst 0, 1) := by decide +kernel
theorem dX9_becomesRatio_13 : decode cX9_becomesRatio 13 = .ok (.invokestatic 50, 3) := by decide +kernel
theorem dX9_becomesRatio_16 : decode cX9_becomesRatio 16 = .ok (.l2i, 1) := by decide +kernel
theorem dX9_becomesRatio_17 : decode cX9_becomesRatio 17 = .ok (.iastore, 1) := by decide +kernel
theorem dX9_becomesRatio_18 : decode cX9_becomesRatio 18 = .ok (.aload_n 0, 1) := by decide +kernel
theorem dX9_becomesRatio_19 : decode cX9_becomesRatio 19 = .ok (.getfield 11, 3) := by decide +kernel
theorem dX9_becomesRatio_22 : decode cX9_becomesRatio 22 = .ok (.bipush 13, 2) := by decide +kernel
theorem dX9_becomesRatio_24 : decode cX9_becomesRatio 24 = .ok (.iload_n 1, 1) := by decide +kernel
theorem dX9_becomesRatio_25 : decode cX9_becomesRatio 25 = .ok (.iadd, 1) := by decide +kernel
theorem dX9_becomesRatio_26 : decode cX9_becomesRatio 26 = .ok (.iload_n 2, 1) := by decide +kernel
theorem dX9_becomesRatio_27 : decode cX9_becomesRatio 27 = .ok (.i2l, 1) := by decide +kernel
theorem dX9_becomesRatio_28 : decode cX9_becomesRatio 28 = .ok (.iload_n 3, 1) := by decide +kernel
theorem dX9_becomesRatio_29 : decode cX9_becomesRatio 29 = .ok (.i2l, 1) := by decide +kernel
theorem dX9_becomesRatio_30 : decode cX9_becomesRatio 30 = .ok (.iconst 1, 1) := by decide +kernel
theorem dX9_becomesRatio_31 : decode cX9_becomesRatio 31 = .ok (.invokestatic 50, 3) := by decide +kernel
theorem dX9_becomesRatio_34 : decode cX9_becomesRatio 34 = .ok (.l2i, 1) := by decide +kernel
theorem dX9_becomesRatio_35 : decode cX9_becomesRatio 35 = .ok (.iastore, 1) := by decide +kernel
theorem dX9_becomesRatio_36 : decode cX9_becomesRatio 36 = .ok (.return_, 1) := by decide +kernel
theorem dX9_body_0 : decode cX9_body 0 = .ok (.iload_n 1, 1) := by decide +kernel
theorem dX9_body_1 : decode cX9_body 1 = .ok (.iload_n 2, 1) := by decide +kernel
theorem dX9_body_2 : decode cX9_body 2 = .ok (.invokestatic 54, 3) := by decide +kernel
theorem dX9_body_5 : decode cX9_body 5 = .ok (.ifCond .ne 6, 3) := by decide +kernel
theorem dX9_body_8 : decode cX9_body 8 = .ok (.bipush (-2), 2) := by decide +kernel
theorem dX9_body_10 : decode cX9_body 10 = .ok (.ireturn, 1) := by decide +kernel
theorem dX9_body_11 : decode cX9_body 11 = .ok (.aload_n 0, 1) := by decide +kernel
theorem dX9_body_12 : decode cX9_body 12 = .ok (.getfield 11, 3) := by decide +kernel
theorem dX9_body_15 : decode cX9_body 15 = .ok (.iconst 0, 1) := by decide +kernel
theorem dX9_body_16 : decode cX9_body 16 = .ok (.iaload, 1) := by decide +kernel
theorem dX9_body_17 : decode cX9_body 17 = .ok (.bipush 6, 2) := by decide +kernel
theorem dX9_body_19 : decode cX9_body 19 = .ok (.if_icmp .ne 6, 3) := by decide +kernel
theorem dX9_body_22 : decode cX9_body 22 = .ok (.bipush (-4), 2) := by decide +kernel
theorem dX9_body_24 : decode cX9_body 24 = .ok (.ireturn, 1) := by decide +kernel
theorem dX9_body_25 : decode cX9_body 25 = .ok (.aload_n 0, 1) := by decide +kernel
theorem dX9_body_26 : decode cX9_body 26 = .ok (.aload_n 0, 1) := by decide +kernel
theorem dX9_body_27 : decode cX9_body 27 = .ok (.getfield 11, 3) := by decide +kernel
theorem dX9_body_30 : decode cX9_body 30 = .ok (.iconst 0, 1) := by decide +kernel
theorem dX9_body_31 : decode cX9_body 31 = .ok (.iaload, 1) := by decide +kernel
theorem dX9_body_32 : decode cX9_body 32 = .ok (.iload_n 1, 1) := by decide +kernel
theorem dX9_body_33 : decode cX9_body 33 = .ok (.iload_n 2, 1) := by decide +kernel
theorem dX9_body_34 : decode cX9_body 34 = .ok (.invokevirtual 58, 3) := by decide +kernel
theorem dX9_body_37 : decode cX9_body 37 = .ok (.aload_n 0, 1) := by decide +kernel
theorem dX9_body_38 : decode cX9_body 38 = .ok (.getfield 11, 3) := by decide +kernel
theorem dX9_body_41 : decode cX9_body 41 = .ok (.bipush 19, 2) := by decide +kernel
theorem dX9_body_43 : decode cX9_body 43 = .ok (.aload_n 0, 1) := by decide +kernel
theorem dX9_body_44 : decode cX9_body 44 = .ok (.getfield 11, 3) := by decide +kernel
theorem dX9_body_47 : decode cX9_body 47 = .ok (.iconst 0, 1) := by decide +kernel
theorem dX9_body_48 : decode cX9_body 48 = .ok (.iaload, 1) := by decide +kernel
theorem dX9_body_49 : decode cX9_body 49 = .ok (.iadd, 1) := by decide +kernel
theorem dX9_body_50 : decode cX9_body 50 = .ok (.iconst 0, 1) := by decide +kernel
theorem dX9_body_51 : decode cX9_body 51 = .ok (.iastore, 1) := by decide +kernel
theorem dX9_body_52 : decode cX9_body 52 = .ok (.aload_n 0, 1) := by decide +kernel
theorem dX9_body_53 : decode cX9_body 53 = .ok (.getfield 11, 3) := by decide +kernel
theorem dX9_body_56 : decode cX9_body 56 = .ok (.iconst 0, 1) := by decide +kernel
theorem dX9_body_57 : decode cX9_body 57 = .ok (.dup2, 1) := by decide +kernel
theorem dX9_body_58 : decode cX9_body 58 = .ok (.iaload, 1) := by decide +kernel
theorem dX9_body_59 : decode cX9_body 59 = .ok (.iconst 1, 1) := by decide +kernel
theorem dX9_body_60 : decode cX9_body 60 = .ok (.iadd, 1) := by decide +kernel
theorem dX9_body_61 : decode cX9_body 61 = .ok (.iastore, 1) := by decide +kernel
theorem dX9_body_62 : decode cX9_body 62 = .ok (.aload_n 0, 1) := by decide +kernel
theorem dX9_body_63 : decode cX9_body 63 = .ok (.getfield 11, 3) := by decide +kernel
theorem dX9_body_66 : decode cX9_body 66 = .ok (.iconst 0, 1) := by decide +kernel
theorem dX9_body_67 : decode cX9_body 67 = .ok (.iaload, 1) := by decide +kernel
theorem dX9_body_68 : decode cX9_body 68 = .ok (.iconst 1, 1) := by decide +kernel
theorem dX9_body_69 : decode cX9_body 69 = .ok (.isub, 1) := by decide +kernel
theorem dX9_body_70 : decode cX9_body 70 = .ok (.ireturn, 1) := by decide +kernel
theorem dX9_ratio_0 : decode cX9_ratio 0 = .ok (.aload_n 0, 1) := by decide +kernel
theorem dX9_ratio_1 : decode cX9_ratio 1 = .ok (.iload_n 1, 1) := by decide +kernel
theorem dX9_ratio_2 : decode cX9_ratio 2 = .ok (.invokevirtual 62, 3) := by decide +kernel
theorem dX9_ratio_5 : decode cX9_ratio 5 = .ok (.ifCond .ne 5, 3) := by decide +kernel
theorem dX9_ratio_8 : decode cX9_ratio 8 = .ok (.iconst (-1), 1) := by decide +kernel
theorem dX9_ratio_9 : decode cX9_ratio 9 = .ok (.ireturn, 1) := by decide +kernel
theorem dX9_ratio_10 : decode cX9_ratio 10 = .ok (.iload_n 2, 1) := by decide +kernel
theorem dX9_ratio_11 : decode cX9_ratio 11 = .ok (.iload_n 3, 1) := by decide +kernel
theorem dX9_ratio_12 : decode cX9_ratio 12 = .ok (.invokestatic 54, 3) := by decide +kernel
theorem dX9_ratio_15 : decode cX9_ratio 15 = .ok (.ifCond .ne 6, 3) := by decide +kernel
theorem dX9_ratio_18 : decode cX9_ratio 18 = .ok (.bipush (-2), 2) := by decide +kernel
theorem dX9_ratio_20 : decode cX9_ratio 20 = .ok (.ireturn, 1) := by decide +kernel
theorem dX9_ratio_21 : decode cX9_ratio 21 = .ok (.sipush 10000, 3) := by decide +kernel
theorem dX9_ratio_24 : decode cX9_ratio 24 = .ok (.aload_n 0, 1) := by decide +kernel
theorem dX9_ratio_25 : decode cX9_ratio 25 = .ok (.getfield 11, 3) := by decide +kernel
theorem dX9_ratio_28 : decode cX9_ratio 28 = .ok (.bipush 7, 2) := by decide +kernel
theorem dX9_ratio_30 : decode cX9_ratio 30 = .ok (.iload_n 1, 1) := by decide +kernel
theorem dX9_ratio_31 : decode cX9_ratio 31 = .ok (.iadd, 1) := by decide +kernel
theorem dX9_ratio_32 : decode cX9_ratio 32 = .ok (.iaload, 1) := by decide +kernel
theorem dX9_ratio_33 : decode cX9_ratio 33 = .ok (.imul, 1) := by decide +kernel
theorem dX9_ratio_34 : decode cX9_ratio 34 = .ok (.aload_n 0, 1) := by decide +kernel
theorem dX9_ratio_35 : decode cX9_ratio 35 = .ok (.getfield 11, 3) := by decide +kernel
theorem dX9_ratio_38 : decode cX9_ratio 38 = .ok (.bipush 13, 2) := by decide +kernel
theorem dX9_ratio_40 : decode cX9_ratio 40 = .ok (.iload_n 1, 1) := by decide +kernel
theorem dX9_ratio_41 : decode cX9_ratio 41 = .ok (.iadd, 1) := by decide +kernel
theorem dX9_ratio_42 : decode cX9_ratio 42 = .ok (.iaload, 1) := by decide +kernel
theorem dX9_ratio_43 : decode cX9_ratio 43 = .ok (.iadd, 1) := by decide +kernel
theorem dX9_ratio_44 : decode cX9_ratio 44 = .ok (.istore 4, 2) := by decide +kernel
theorem dX9_ratio_46 : decode cX9_ratio 46 = .ok (.aload_n 0, 1) := by decide +kernel
theorem dX9_ratio_47 : decode cX9_ratio 47 = .ok (.iload_n 1, 1) := by decide +kernel
theorem dX9_ratio_48 : decode cX9_ratio 48 = .ok (.iload_n 2, 1) := by decide +kernel
theorem dX9_ratio_49 : decode cX9_ratio 49 = .ok (.iload_n 3, 1) := by decide +kernel
theorem dX9_ratio_50 : decode cX9_ratio 50 = .ok (.invokevirtual 58, 3) := by decide +kernel
theorem dX9_ratio_53 : decode cX9_ratio 53 = .ok (.iload 4, 2) := by decide +kernel
theorem dX9_ratio_55 : decode cX9_ratio 55 = .ok (.ireturn, 1) := by decide +kernel
theorem dX9_terms_0 : decode cX9_terms 0 = .ok (.aload_n 0, 1) := by decide +kernel
theorem dX9_terms_1 : decode cX9_terms 1 = .ok (.getfield 11, 3) := by decide +kernel
theorem dX9_terms_4 : decode cX9_terms 4 = .ok (.bipush 7, 2) := by decide +kernel
theorem dX9_terms_6 : decode cX9_terms 6 = .ok (.iload_n 1, 1) := by decide +kernel
theorem dX9_terms_7 : decode cX9_terms 7 = .ok (.iadd, 1) := by decide +kernel
theorem dX9_terms_8 : decode cX9_terms 8 = .ok (.iaload, 1) := by decide +kernel
theorem dX9_terms_9 : decode cX9_terms 9 = .ok (.istore_n 2, 1) := by decide +kernel
theorem dX9_terms_10 : decode cX9_terms 10 = .ok (.aload_n 0, 1) := by decide +kernel
theorem dX9_terms_11 : decode cX9_terms 11 = .ok (.getfield 11, 3) := by decide +kernel
theorem dX9_terms_14 : decode cX9_terms 14 = .ok (.bipush 13, 2) := by decide +kernel
theorem dX9_terms_16 : decode cX9_terms 16 = .ok (.iload_n 1, 1) := by decide +kernel
theorem dX9_terms_17 : decode cX9_terms 17 = .ok (.iadd, 1) := by decide +kernel
theorem dX9_terms_18 : decode cX9_terms 18 = .ok (.iaload, 1) := by decide +kernel
theorem dX9_terms_19 : decode cX9_terms 19 = .ok (.istore_n 3, 1) := by decide +kernel
theorem dX9_terms_20 : decode cX9_terms 20 = .ok (.iconst 0, 1) := by decide +kernel
theorem dX9_terms_21 : decode cX9_terms 21 = .ok (.istore 4, 2) := by decide +kernel
theorem dX9_terms_23 : decode cX9_terms 23 = .ok (.iload_n 3, 1) := by decide +kernel
theorem dX9_terms_24 : decode cX9_terms 24 = .ok (.ifCond .eq 29, 3) := by decide +kernel
theorem dX9_terms_27 : decode cX9_terms 27 = .ok (.aload_n 0, 1) := by decide +kernel
theorem dX9_terms_28 : decode cX9_terms 28 = .ok (.getfield 34, 3) := by decide +kernel
theorem dX9_terms_31 : decode cX9_terms 31 = .ok (.iload 4, 2) := by decide +kernel
theorem dX9_terms_33 : decode cX9_terms 33 = .ok (.iload_n 2, 1) := by decide +kernel
theorem dX9_terms_34 : decode cX9_terms 34 = .ok (.iload_n 3, 1) := by decide +kernel
theorem dX9_terms_35 : decode cX9_terms 35 = .ok (.idiv, 1) := by decide +kernel
theorem dX9_terms_36 : decode cX9_terms 36 = .ok (.iastore, 1) := by decide +kernel
theorem dX9_terms_37 : decode cX9_terms 37 = .ok (.iinc 4 1, 3) := by decide +kernel
theorem dX9_terms_40 : decode cX9_terms 40 = .ok (.iload_n 2, 1) := by decide +kernel
theorem dX9_terms_41 : decode cX9_terms 41 = .ok (.iload_n 3, 1) := by decide +kernel
theorem dX9_terms_42 : decode cX9_terms 42 = .ok (.irem, 1) := by decide +kernel
theorem dX9_terms_43 : decode cX9_terms 43 = .ok (.istore 5, 2) := by decide +kernel
theorem dX9_terms_45 : decode cX9_terms 45 = .ok (.iload_n 3, 1) := by decide +kernel
theorem dX9_terms_46 : decode cX9_terms 46 = .ok (.istore_n 2, 1) := by decide +kernel
theorem dX9_terms_47 : decode cX9_terms 47 = .ok (.iload 5, 2) := by decide +kernel
theorem dX9_terms_49 : decode cX9_terms 49 = .ok (.istore_n 3, 1) := by decide +kernel
theorem dX9_terms_50 : decode cX9_terms 50 = .ok (.goto (-27), 3) := by decide +kernel
theorem dX9_terms_53 : decode cX9_terms 53 = .ok (.iload 4, 2) := by decide +kernel
theorem dX9_terms_55 : decode cX9_terms 55 = .ok (.ireturn, 1) := by decide +kernel
theorem dX9_term_0 : decode cX9_term 0 = .ok (.aload_n 0, 1) := by decide +kernel
theorem dX9_term_1 : decode cX9_term 1 = .ok (.iload_n 1, 1) := by decide +kernel
theorem dX9_term_2 : decode cX9_term 2 = .ok (.invokevirtual 62, 3) := by decide +kernel
theorem dX9_term_5 : decode cX9_term 5 = .ok (.ifCond .ne 5, 3) := by decide +kernel
theorem dX9_term_8 : decode cX9_term 8 = .ok (.iconst (-1), 1) := by decide +kernel
theorem dX9_term_9 : decode cX9_term 9 = .ok (.ireturn, 1) := by decide +kernel
theorem dX9_term_10 : decode cX9_term 10 = .ok (.aload_n 0, 1) := by decide +kernel
theorem dX9_term_11 : decode cX9_term 11 = .ok (.iload_n 1, 1) := by decide +kernel
theorem dX9_term_12 : decode cX9_term 12 = .ok (.invokevirtual 66, 3) := by decide +kernel
theorem dX9_term_15 : decode cX9_term 15 = .ok (.istore_n 3, 1) := by decide +kernel
theorem dX9_term_16 : decode cX9_term 16 = .ok (.iload_n 2, 1) := by decide +kernel
theorem dX9_term_17 : decode cX9_term 17 = .ok (.iconst (-1), 1) := by decide +kernel
theorem dX9_term_18 : decode cX9_term 18 = .ok (.if_icmp .ne 5, 3) := by decide +kernel
theorem dX9_term_21 : decode cX9_term 21 = .ok (.iload_n 3, 1) := by decide +kernel
theorem dX9_term_22 : decode cX9_term 22 = .ok (.ireturn, 1) := by decide +kernel
theorem dX9_term_23 : decode cX9_term 23 = .ok (.iload_n 2, 1) := by decide +kernel
theorem dX9_term_24 : decode cX9_term 24 = .ok (.i2l, 1) := by decide +kernel
theorem dX9_term_25 : decode cX9_term 25 = .ok (.lconst 0, 1) := by decide +kernel
theorem dX9_term_26 : decode cX9_term 26 = .ok (.iload_n 3, 1) := by decide +kernel
theorem dX9_term_27 : decode cX9_term 27 = .ok (.iconst 1, 1) := by decide +kernel
theorem dX9_term_28 : decode cX9_term 28 = .ok (.isub, 1) := by decide +kernel
theorem dX9_term_29 : decode cX9_term 29 = .ok (.i2l, 1) := by decide +kernel
theorem dX9_term_30 : decode cX9_term 30 = .ok (.invokestatic 44, 3) := by decide +kernel
theorem dX9_term_33 : decode cX9_term 33 = .ok (.ifCond .eq 12, 3) := by decide +kernel
theorem dX9_term_36 : decode cX9_term 36 = .ok (.aload_n 0, 1) := by decide +kernel
theorem dX9_term_37 : decode cX9_term 37 = .ok (.getfield 34, 3) := by decide +kernel
theorem dX9_term_40 : decode cX9_term 40 = .ok (.iload_n 2, 1) := by decide +kernel
theorem dX9_term_41 : decode cX9_term 41 = .ok (.iaload, 1) := by decide +kernel
theorem dX9_term_42 : decode cX9_term 42 = .ok (.goto 5, 3) := by decide +kernel
theorem dX9_term_45 : decode cX9_term 45 = .ok (.bipush (-5), 2) := by decide +kernel
theorem dX9_term_47 : decode cX9_term 47 = .ok (.ireturn, 1) := by decide +kernel
theorem dX9_convergent_0 : decode cX9_convergent 0 = .ok (.aload_n 0, 1) := by decide +kernel
theorem dX9_convergent_1 : decode cX9_convergent 1 = .ok (.iload_n 1, 1) := by decide +kernel
theorem dX9_convergent_2 : decode cX9_convergent 2 = .ok (.invokevirtual 62, 3) := by decide +kernel
theorem dX9_convergent_5 : decode cX9_convergent 5 = .ok (.ifCond .eq 27, 3) := by decide +kernel
theorem dX9_convergent_8 : decode cX9_convergent 8 = .ok (.iload_n 3, 1) := by decide +kernel
theorem dX9_convergent_9 : decode cX9_convergent 9 = .ok (.invokestatic 70, 3) := by decide +kernel
theorem dX9_convergent_12 : decode cX9_convergent 12 = .ok (.ifCond .eq 20, 3) := by decide +kernel
theorem dX9_convergent_15 : decode cX9_convergent 15 = .ok (.iload_n 2, 1) := by decide +kernel
theorem dX9_convergent_16 : decode cX9_convergent 16 = .ok (.i2l, 1) := by decide +kernel
theorem dX9_convergent_17 : decode cX9_convergent 17 = .ok (.lconst 0, 1) := by decide +kernel
theorem dX9_convergent_18 : decode cX9_convergent 18 = .ok (.aload_n 0, 1) := by decide +kernel
theorem dX9_convergent_19 : decode cX9_convergent 19 = .ok (.iload_n 1, 1) := by decide +kernel
theorem dX9_convergent_20 : decode cX9_convergent 20 = .ok (.invokevirtual 66, 3) := by decide +kernel
theorem dX9_convergent_23 : decode cX9_convergent 23 = .ok (.iconst 1, 1) := by decide +kernel
theorem dX9_convergent_24 : decode cX9_convergent 24 = .ok (.isub, 1) := by decide +kernel
theorem dX9_convergent_25 : decode cX9_convergent 25 = .ok (.i2l, 1) := by decide +kernel
theorem dX9_convergent_26 : decode cX9_convergent 26 = .ok (.invokestatic 44, 3) := by decide +kernel
theorem dX9_convergent_29 : decode cX9_convergent 29 = .ok (.ifCond .ne 7, 3) := by decide +kernel
theorem dX9_convergent_32 : decode cX9_convergent 32 = .ok (.ldc2_w 73, 3) := by decide +kernel
theorem dX9_convergent_35 : decode cX9_convergent 35 = .ok (.lreturn, 1) := by decide +kernel
theorem dX9_convergent_36 : decode cX9_convergent 36 = .ok (.lconst 1, 1) := by decide +kernel
theorem dX9_convergent_37 : decode cX9_convergent 37 = .ok (.lstore 4, 2) := by decide +kernel
theorem dX9_convergent_39 : decode cX9_convergent 39 = .ok (.lconst 0, 1) := by decide +kernel
theorem dX9_convergent_40 : decode cX9_convergent 40 = .ok (.lstore 6, 2) := by decide +kernel
theorem dX9_convergent_42 : decode cX9_convergent 42 = .ok (.iload_n 2, 1) := by decide +kernel
theorem dX9_convergent_43 : decode cX9_convergent 43 = .ok (.istore 8, 2) := by decide +kernel
theorem dX9_convergent_45 : decode cX9_convergent 45 = .ok (.iload 8, 2) := by decide +kernel
theorem dX9_convergent_47 : decode cX9_convergent 47 = .ok (.ifCond .lt 33, 3) := by decide +kernel
theorem dX9_convergent_50 : decode cX9_convergent 50 = .ok (.aload_n 0, 1) := by decide +kernel
theorem dX9_convergent_51 : decode cX9_convergent 51 = .ok (.getfield 34, 3) := by decide +kernel
theorem dX9_convergent_54 : decode cX9_convergent 54 = .ok (.iload 8, 2) := by decide +kernel
theorem dX9_convergent_56 : decode cX9_convergent 56 = .ok (.iaload, 1) := by decide +kernel
theorem dX9_convergent_57 : decode cX9_convergent 57 = .ok (.i2l, 1) := by decide +kernel
theorem dX9_convergent_58 : decode cX9_convergent 58 = .ok (.lload 4, 2) := by decide +kernel
theorem dX9_convergent_60 : decode cX9_convergent 60 = .ok (.lmul, 1) := by decide +kernel
theorem dX9_convergent_61 : decode cX9_convergent 61 = .ok (.lload 6, 2) := by decide +kernel
theorem dX9_convergent_63 : decode cX9_convergent 63 = .ok (.ladd, 1) := by decide +kernel
theorem dX9_convergent_64 : decode cX9_convergent 64 = .ok (.lstore 9, 2) := by decide +kernel
theorem dX9_convergent_66 : decode cX9_convergent 66 = .ok (.lload 4, 2) := by decide +kernel
theorem dX9_convergent_68 : decode cX9_convergent 68 = .ok (.lstore 6, 2) := by decide +kernel
theorem dX9_convergent_70 : decode cX9_convergent 70 = .ok (.lload 9, 2) := by decide +kernel
theorem dX9_convergent_72 : decode cX9_convergent 72 = .ok (.lstore 4, 2) := by decide +kernel
theorem dX9_convergent_74 : decode cX9_convergent 74 = .ok (.iinc 8 (-1), 3) := by decide +kernel
theorem dX9_convergent_77 : decode cX9_convergent 77 = .ok (.goto (-32), 3) := by decide +kernel
theorem dX9_convergent_80 : decode cX9_convergent 80 = .ok (.lload 4, 2) := by decide +kernel
theorem dX9_convergent_82 : decode cX9_convergent 82 = .ok (.lload 6, 2) := by decide +kernel
theorem dX9_convergent_84 : decode cX9_convergent 84 = .ok (.iload_n 3, 1) := by decide +kernel
theorem dX9_convergent_85 : decode cX9_convergent 85 = .ok (.invokestatic 50, 3) := by decide +kernel
theorem dX9_convergent_88 : decode cX9_convergent 88 = .ok (.lreturn, 1) := by decide +kernel
theorem dX9_near_0 : decode cX9_near 0 = .ok (.aload_n 0, 1) := by decide +kernel
theorem dX9_near_1 : decode cX9_near 1 = .ok (.iload_n 1, 1) := by decide +kernel
theorem dX9_near_2 : decode cX9_near 2 = .ok (.invokevirtual 62, 3) := by decide +kernel
theorem dX9_near_5 : decode cX9_near 5 = .ok (.ifCond .eq 22, 3) := by decide +kernel
theorem dX9_near_8 : decode cX9_near 8 = .ok (.iload_n 2, 1) := by decide +kernel
theorem dX9_near_9 : decode cX9_near 9 = .ok (.i2l, 1) := by decide +kernel
theorem dX9_near_10 : decode cX9_near 10 = .ok (.lconst 1, 1) := by decide +kernel
theorem dX9_near_11 : decode cX9_near 11 = .ok (.ldc2_w 75, 3) := by decide +kernel
theorem dX9_near_14 : decode cX9_near 14 = .ok (.invokestatic 44, 3) := by decide +kernel
theorem dX9_near_17 : decode cX9_near 17 = .ok (.ifCond .eq 10, 3) := by decide +kernel
theorem dX9_near_20 : decode cX9_near 20 = .ok (.iload_n 3, 1) := by decide +kernel
theorem dX9_near_21 : decode cX9_near 21 = .ok (.invokestatic 70, 3) := by decide +kernel
theorem dX9_near_24 : decode cX9_near 24 = .ok (.ifCond .ne 7, 3) := by decide +kernel
theorem dX9_near_27 : decode cX9_near 27 = .ok (.ldc2_w 73, 3) := by decide +kernel
theorem dX9_near_30 : decode cX9_near 30 = .ok (.lreturn, 1) := by decide +kernel
theorem dX9_near_31 : decode cX9_near 31 = .ok (.aload_n 0, 1) := by decide +kernel
theorem dX9_near_32 : decode cX9_near 32 = .ok (.getfield 11, 3) := by decide +kernel
theorem dX9_near_35 : decode cX9_near 35 = .ok (.bipush 7, 2) := by decide +kernel
theorem dX9_near_37 : decode cX9_near 37 = .ok (.iload_n 1, 1) := by decide +kernel
theorem dX9_near_38 : decode cX9_near 38 = .ok (.iadd, 1) := by decide +kernel
theorem dX9_near_39 : decode cX9_near 39 = .ok (.iaload, 1) := by decide +kernel
theorem dX9_near_40 : decode cX9_near 40 = .ok (.i2l, 1) := by decide +kernel
theorem dX9_near_41 : decode cX9_near 41 = .ok (.lstore 4, 2) := by decide +kernel
theorem dX9_near_43 : decode cX9_near 43 = .ok (.aload_n 0, 1) := by decide +kernel
theorem dX9_near_44 : decode cX9_near 44 = .ok (.getfield 11, 3) := by decide +kernel
theorem dX9_near_47 : decode cX9_near 47 = .ok (.bipush 13, 2) := by decide +kernel
theorem dX9_near_49 : decode cX9_near 49 = .ok (.iload_n 1, 1) := by decide +kernel
theorem dX9_near_50 : decode cX9_near 50 = .ok (.iadd, 1) := by decide +kernel
theorem dX9_near_51 : decode cX9_near 51 = .ok (.iaload, 1) := by decide +kernel
theorem dX9_near_52 : decode cX9_near 52 = .ok (.i2l, 1) := by decide +kernel
theorem dX9_near_53 : decode cX9_near 53 = .ok (.lstore 6, 2) := by decide +kernel
theorem dX9_near_55 : decode cX9_near 55 = .ok (.lconst 0, 1) := by decide +kernel
theorem dX9_near_56 : decode cX9_near 56 = .ok (.lstore 8, 2) := by decide +kernel
theorem dX9_near_58 : decode cX9_near 58 = .ok (.lconst 0, 1) := by decide +kernel
theorem dX9_near_59 : decode cX9_near 59 = .ok (.lstore 10, 2) := by decide +kernel
theorem dX9_near_61 : decode cX9_near 61 = .ok (.lconst 0, 1) := by decide +kernel
theorem dX9_near_62 : decode cX9_near 62 = .ok (.lstore 12, 2) := by decide +kernel
theorem dX9_near_64 : decode cX9_near 64 = .ok (.iconst 1, 1) := by decide +kernel
theorem dX9_near_65 : decode cX9_near 65 = .ok (.istore 14, 2) := by decide +kernel
theorem dX9_near_67 : decode cX9_near 67 = .ok (.iload 14, 2) := by decide +kernel
theorem dX9_near_69 : decode cX9_near 69 = .ok (.iload_n 2, 1) := by decide +kernel
theorem dX9_near_70 : decode cX9_near 70 = .ok (.if_icmp .gt 110, 3) := by decide +kernel
theorem dX9_near_73 : decode cX9_near 73 = .ok (.lload 4, 2) := by decide +kernel
theorem dX9_near_75 : decode cX9_near 75 = .ok (.iload 14, 2) := by decide +kernel
theorem dX9_near_77 : decode cX9_near 77 = .ok (.i2l, 1) := by decide +kernel
theorem dX9_near_78 : decode cX9_near 78 = .ok (.lmul, 1) := by decide +kernel
theorem dX9_near_79 : decode cX9_near 79 = .ok (.lload 6, 2) := by decide +kernel
theorem dX9_near_81 : decode cX9_near 81 = .ok (.ldiv, 1) := by decide +kernel
theorem dX9_near_82 : decode cX9_near 82 = .ok (.lstore 15, 2) := by decide +kernel
theorem dX9_near_84 : decode cX9_near 84 = .ok (.lload 15, 2) := by decide +kernel
theorem dX9_near_86 : decode cX9_near 86 = .ok (.lload 4, 2) := by decide +kernel
theorem dX9_near_88 : decode cX9_near 88 = .ok (.iload 14, 2) := by decide +kernel
theorem dX9_near_90 : decode cX9_near 90 = .ok (.i2l, 1) := by decide +kernel
theorem dX9_near_91 : decode cX9_near 91 = .ok (.lmul, 1) := by decide +kernel
theorem dX9_near_92 : decode cX9_near 92 = .ok (.lload 6, 2) := by decide +kernel
theorem dX9_near_94 : decode cX9_near 94 = .ok (.ldiv, 1) := by decide +kernel
theorem dX9_near_95 : decode cX9_near 95 = .ok (.lconst 1, 1) := by decide +kernel
theorem dX9_near_96 : decode cX9_near 96 = .ok (.ladd, 1) := by decide +kernel
theorem dX9_near_97 : decode cX9_near 97 = .ok (.lcmp, 1) := by decide +kernel
theorem dX9_near_98 : decode cX9_near 98 = .ok (.ifCond .gt 76, 3) := by decide +kernel
theorem dX9_near_101 : decode cX9_near 101 = .ok (.lload 15, 2) := by decide +kernel
theorem dX9_near_103 : decode cX9_near 103 = .ok (.lload 6, 2) := by decide +kernel
theorem dX9_near_105 : decode cX9_near 105 = .ok (.lmul, 1) := by decide +kernel
theorem dX9_near_106 : decode cX9_near 106 = .ok (.lload 4, 2) := by decide +kernel
theorem dX9_near_108 : decode cX9_near 108 = .ok (.iload 14, 2) := by decide +kernel
theorem dX9_near_110 : decode cX9_near 110 = .ok (.i2l, 1) := by decide +kernel
theorem dX9_near_111 : decode cX9_near 111 = .ok (.lmul, 1) := by decide +kernel
theorem dX9_near_112 : decode cX9_near 112 = .ok (.lsub, 1) := by decide +kernel
theorem dX9_near_113 : decode cX9_near 113 = .ok (.lstore 17, 2) := by decide +kernel
theorem dX9_near_115 : decode cX9_near 115 = .ok (.lload 17, 2) := by decide +kernel
theorem dX9_near_117 : decode cX9_near 117 = .ok (.lconst 0, 1) := by decide +kernel
theorem dX9_near_118 : decode cX9_near 118 = .ok (.lcmp, 1) := by decide +kernel
theorem dX9_near_119 : decode cX9_near 119 = .ok (.ifCond .ge 8, 3) := by decide +kernel
theorem dX9_near_122 : decode cX9_near 122 = .ok (.lload 17, 2) := by decide +kernel
theorem dX9_near_124 : decode cX9_near 124 = .ok (.lneg, 1) := by decide +kernel
theorem dX9_near_125 : decode cX9_near 125 = .ok (.lstore 17, 2) := by decide +kernel
theorem dX9_near_127 : decode cX9_near 127 = .ok (.lload 10, 2) := by decide +kernel
theorem dX9_near_129 : decode cX9_near 129 = .ok (.lconst 0, 1) := by decide +kernel
theorem dX9_near_130 : decode cX9_near 130 = .ok (.lcmp, 1) := by decide +kernel
theorem dX9_near_131 : decode cX9_near 131 = .ok (.ifCond .le 21, 3) := by decide +kernel
theorem dX9_near_134 : decode cX9_near 134 = .ok (.lload 17, 2) := by decide +kernel
theorem dX9_near_136 : decode cX9_near 136 = .ok (.lload 10, 2) := by decide +kernel
theorem dX9_near_138 : decode cX9_near 138 = .ok (.lmul, 1) := by decide +kernel
theorem dX9_near_139 : decode cX9_near 139 = .ok (.lload 12, 2) := by decide +kernel
theorem dX9_near_141 : decode cX9_near 141 = .ok (.iload 14, 2) := by decide +kernel
theorem dX9_near_143 : decode cX9_near 143 = .ok (.i2l, 1) := by decide +kernel
theorem dX9_near_144 : decode cX9_near 144 = .ok (.lmul, 1) := by decide +kernel
theorem dX9_near_145 : decode cX9_near 145 = .ok (.lcmp, 1) := by decide +kernel
theorem dX9_near_146 : decode cX9_near 146 = .ok (.ifCond .lt 6, 3) := by decide +kernel
theorem dX9_near_149 : decode cX9_near 149 = .ok (.goto 16, 3) := by decide +kernel
theorem dX9_near_152 : decode cX9_near 152 = .ok (.lload 15, 2) := by decide +kernel
theorem dX9_near_154 : decode cX9_near 154 = .ok (.lstore 8, 2) := by decide +kernel
theorem dX9_near_156 : decode cX9_near 156 = .ok (.iload 14, 2) := by decide +kernel
theorem dX9_near_158 : decode cX9_near 158 = .ok (.i2l, 1) := by decide +kernel
theorem dX9_near_159 : decode cX9_near 159 = .ok (.lstore 10, 2) := by decide +kernel
theorem dX9_near_161 : decode cX9_near 161 = .ok (.lload 17, 2) := by decide +kernel
theorem dX9_near_163 : decode cX9_near 163 = .ok (.lstore 12, 2) := by decide +kernel
theorem dX9_near_165 : decode cX9_near 165 = .ok (.lload 15, 2) := by decide +kernel
theorem dX9_near_167 : decode cX9_near 167 = .ok (.lconst 1, 1) := by decide +kernel
theorem dX9_near_168 : decode cX9_near 168 = .ok (.ladd, 1) := by decide +kernel
theorem dX9_near_169 : decode cX9_near 169 = .ok (.lstore 15, 2) := by decide +kernel
theorem dX9_near_171 : decode cX9_near 171 = .ok (.goto (-87), 3) := by decide +kernel
theorem dX9_near_174 : decode cX9_near 174 = .ok (.iinc 14 1, 3) := by decide +kernel
theorem dX9_near_177 : decode cX9_near 177 = .ok (.goto (-110), 3) := by decide +kernel
theorem dX9_near_180 : decode cX9_near 180 = .ok (.lload 8, 2) := by decide +kernel
theorem dX9_near_182 : decode cX9_near 182 = .ok (.lload 10, 2) := by decide +kernel
theorem dX9_near_184 : decode cX9_near 184 = .ok (.iload_n 3, 1) := by decide +kernel
theorem dX9_near_185 : decode cX9_near 185 = .ok (.invokestatic 50, 3) := by decide +kernel
theorem dX9_near_188 : decode cX9_near 188 = .ok (.lreturn, 1) := by decide +kernel
