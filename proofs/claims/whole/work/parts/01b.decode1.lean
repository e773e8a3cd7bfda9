theorem dX0_init_0 : decode cX0_init 0 = .ok (.aload_n 0, 1) := by decide +kernel
theorem dX0_init_1 : decode cX0_init 1 = .ok (.invokespecial 1, 3) := by decide +kernel
theorem dX0_init_4 : decode cX0_init 4 = .ok (.aload_n 0, 1) := by decide +kernel
theorem dX0_init_5 : decode cX0_init 5 = .ok (.lconst 0, 1) := by decide +kernel
theorem dX0_init_6 : decode cX0_init 6 = .ok (.putfield 7, 3) := by decide +kernel
theorem dX0_init_9 : decode cX0_init 9 = .ok (.aload_n 0, 1) := by decide +kernel
theorem dX0_init_10 : decode cX0_init 10 = .ok (.lconst 0, 1) := by decide +kernel
theorem dX0_init_11 : decode cX0_init 11 = .ok (.putfield 13, 3) := by decide +kernel
theorem dX0_init_14 : decode cX0_init 14 = .ok (.aload_n 0, 1) := by decide +kernel
theorem dX0_init_15 : decode cX0_init 15 = .ok (.iconst 0, 1) := by decide +kernel
theorem dX0_init_16 : decode cX0_init 16 = .ok (.putfield 16, 3) := by decide +kernel
theorem dX0_init_19 : decode cX0_init 19 = .ok (.aload_n 0, 1) := by decide +kernel
theorem dX0_init_20 : decode cX0_init 20 = .ok (.iconst 0, 1) := by decide +kernel
theorem dX0_init_21 : decode cX0_init 21 = .ok (.putfield 20, 3) := by decide +kernel
theorem dX0_init_24 : decode cX0_init 24 = .ok (.aload_n 0, 1) := by decide +kernel
theorem dX0_init_25 : decode cX0_init 25 = .ok (.iconst 0, 1) := by decide +kernel
theorem dX0_init_26 : decode cX0_init 26 = .ok (.putfield 23, 3) := by decide +kernel
theorem dX0_init_29 : decode cX0_init 29 = .ok (.aload_n 0, 1) := by decide +kernel
theorem dX0_init_30 : decode cX0_init 30 = .ok (.iconst 0, 1) := by decide +kernel
theorem dX0_init_31 : decode cX0_init 31 = .ok (.putfield 26, 3) := by decide +kernel
theorem dX0_init_34 : decode cX0_init 34 = .ok (.aload_n 0, 1) := by decide +kernel
theorem dX0_init_35 : decode cX0_init 35 = .ok (.iconst 0, 1) := by decide +kernel
theorem dX0_init_36 : decode cX0_init 36 = .ok (.putfield 29, 3) := by decide +kernel
theorem dX0_init_39 : decode cX0_init 39 = .ok (.aload_n 0, 1) := by decide +kernel
theorem dX0_init_40 : decode cX0_init 40 = .ok (.iconst 0, 1) := by decide +kernel
theorem dX0_init_41 : decode cX0_init 41 = .ok (.putfield 32, 3) := by decide +kernel
theorem dX0_init_44 : decode cX0_init 44 = .ok (.aload_n 0, 1) := by decide +kernel
theorem dX0_init_45 : decode cX0_init 45 = .ok (.lconst 0, 1) := by decide +kernel
theorem dX0_init_46 : decode cX0_init 46 = .ok (.putfield 35, 3) := by decide +kernel
theorem dX0_init_49 : decode cX0_init 49 = .ok (.aload_n 0, 1) := by decide +kernel
theorem dX0_init_50 : decode cX0_init 50 = .ok (.lconst 0, 1) := by decide +kernel
theorem dX0_init_51 : decode cX0_init 51 = .ok (.putfield 38, 3) := by decide +kernel
theorem dX0_init_54 : decode cX0_init 54 = .ok (.return_, 1) := by decide +kernel
theorem dX0_seek_0 : decode cX0_seek 0 = .ok (.iload_n 1, 1) := by decide +kernel
theorem dX0_seek_1 : decode cX0_seek 1 = .ok (.i2l, 1) := by decide +kernel
theorem dX0_seek_2 : decode cX0_seek 2 = .ok (.aload_n 0, 1) := by decide +kernel
theorem dX0_seek_3 : decode cX0_seek 3 = .ok (.getfield 7, 3) := by decide +kernel
theorem dX0_seek_6 : decode cX0_seek 6 = .ok (.lcmp, 1) := by decide +kernel
theorem dX0_seek_7 : decode cX0_seek 7 = .ok (.ifCond .ne 31, 3) := by decide +kernel
theorem dX0_seek_10 : decode cX0_seek 10 = .ok (.iload_n 2, 1) := by decide +kernel
theorem dX0_seek_11 : decode cX0_seek 11 = .ok (.i2l, 1) := by decide +kernel
theorem dX0_seek_12 : decode cX0_seek 12 = .ok (.aload_n 0, 1) := by decide +kernel
theorem dX0_seek_13 : decode cX0_seek 13 = .ok (.getfield 13, 3) := by decide +kernel
theorem dX0_seek_16 : decode cX0_seek 16 = .ok (.lcmp, 1) := by decide +kernel
theorem dX0_seek_17 : decode cX0_seek 17 = .ok (.ifCond .ne 21, 3) := by decide +kernel
theorem dX0_seek_20 : decode cX0_seek 20 = .ok (.iload_n 3, 1) := by decide +kernel
theorem dX0_seek_21 : decode cX0_seek 21 = .ok (.aload_n 0, 1) := by decide +kernel
theorem dX0_seek_22 : decode cX0_seek 22 = .ok (.getfield 16, 3) := by decide +kernel
theorem dX0_seek_25 : decode cX0_seek 25 = .ok (.if_icmp .ne 13, 3) := by decide +kernel
theorem dX0_seek_28 : decode cX0_seek 28 = .ok (.iload 4, 2) := by decide +kernel
theorem dX0_seek_30 : decode cX0_seek 30 = .ok (.aload_n 0, 1) := by decide +kernel
theorem dX0_seek_31 : decode cX0_seek 31 = .ok (.getfield 20, 3) := by decide +kernel
theorem dX0_seek_34 : decode cX0_seek 34 = .ok (.if_icmp .ne 4, 3) := by decide +kernel
theorem dX0_seek_37 : decode cX0_seek 37 = .ok (.return_, 1) := by decide +kernel
theorem dX0_seek_38 : decode cX0_seek 38 = .ok (.aload_n 0, 1) := by decide +kernel
theorem dX0_seek_39 : decode cX0_seek 39 = .ok (.iload_n 1, 1) := by decide +kernel
theorem dX0_seek_40 : decode cX0_seek 40 = .ok (.i2l, 1) := by decide +kernel
theorem dX0_seek_41 : decode cX0_seek 41 = .ok (.putfield 7, 3) := by decide +kernel
theorem dX0_seek_44 : decode cX0_seek 44 = .ok (.aload_n 0, 1) := by decide +kernel
theorem dX0_seek_45 : decode cX0_seek 45 = .ok (.iload_n 2, 1) := by decide +kernel
theorem dX0_seek_46 : decode cX0_seek 46 = .ok (.i2l, 1) := by decide +kernel
theorem dX0_seek_47 : decode cX0_seek 47 = .ok (.putfield 13, 3) := by decide +kernel
theorem dX0_seek_50 : decode cX0_seek 50 = .ok (.aload_n 0, 1) := by decide +kernel
theorem dX0_seek_51 : decode cX0_seek 51 = .ok (.iload_n 3, 1) := by decide +kernel
theorem dX0_seek_52 : decode cX0_seek 52 = .ok (.putfield 16, 3) := by decide +kernel
theorem dX0_seek_55 : decode cX0_seek 55 = .ok (.aload_n 0, 1) := by decide +kernel
theorem dX0_seek_56 : decode cX0_seek 56 = .ok (.iload 4, 2) := by decide +kernel
theorem dX0_seek_58 : decode cX0_seek 58 = .ok (.putfield 20, 3) := by decide +kernel
theorem dX0_seek_61 : decode cX0_seek 61 = .ok (.aload_n 0, 1) := by decide +kernel
theorem dX0_seek_62 : decode cX0_seek 62 = .ok (.lconst 1, 1) := by decide +kernel
theorem dX0_seek_63 : decode cX0_seek 63 = .ok (.putfield 35, 3) := by decide +kernel
theorem dX0_seek_66 : decode cX0_seek 66 = .ok (.aload_n 0, 1) := by decide +kernel
theorem dX0_seek_67 : decode cX0_seek 67 = .ok (.lconst 0, 1) := by decide +kernel
theorem dX0_seek_68 : decode cX0_seek 68 = .ok (.putfield 38, 3) := by decide +kernel
theorem dX0_seek_71 : decode cX0_seek 71 = .ok (.aload_n 0, 1) := by decide +kernel
theorem dX0_seek_72 : decode cX0_seek 72 = .ok (.invokevirtual 41, 3) := by decide +kernel
theorem dX0_seek_75 : decode cX0_seek 75 = .ok (.aload_n 0, 1) := by decide +kernel
theorem dX0_seek_76 : decode cX0_seek 76 = .ok (.invokevirtual 44, 3) := by decide +kernel
theorem dX0_seek_79 : decode cX0_seek 79 = .ok (.return_, 1) := by decide +kernel
theorem dX0_isOnePair_0 : decode cX0_isOnePair 0 = .ok (.aload_n 0, 1) := by decide +kernel
theorem dX0_isOnePair_1 : decode cX0_isOnePair 1 = .ok (.getfield 26, 3) := by decide +kernel
theorem dX0_isOnePair_4 : decode cX0_isOnePair 4 = .ok (.ifCond .ne 7, 3) := by decide +kernel
theorem dX0_isOnePair_7 : decode cX0_isOnePair 7 = .ok (.iconst 1, 1) := by decide +kernel
theorem dX0_isOnePair_8 : decode cX0_isOnePair 8 = .ok (.goto 4, 3) := by decide +kernel
theorem dX0_isOnePair_11 : decode cX0_isOnePair 11 = .ok (.iconst 0, 1) := by decide +kernel
theorem dX0_isOnePair_12 : decode cX0_isOnePair 12 = .ok (.ireturn, 1) := by decide +kernel
theorem dX0_allTeeth_0 : decode cX0_allTeeth 0 = .ok (.aload_n 0, 1) := by decide +kernel
theorem dX0_allTeeth_1 : decode cX0_allTeeth 1 = .ok (.getfield 23, 3) := by decide +kernel
theorem dX0_allTeeth_4 : decode cX0_allTeeth 4 = .ok (.aload_n 0, 1) := by decide +kernel
theorem dX0_allTeeth_5 : decode cX0_allTeeth 5 = .ok (.getfield 26, 3) := by decide +kernel
theorem dX0_allTeeth_8 : decode cX0_allTeeth 8 = .ok (.iadd, 1) := by decide +kernel
theorem dX0_allTeeth_9 : decode cX0_allTeeth 9 = .ok (.aload_n 0, 1) := by decide +kernel
theorem dX0_allTeeth_10 : decode cX0_allTeeth 10 = .ok (.getfield 29, 3) := by decide +kernel
theorem dX0_allTeeth_13 : decode cX0_allTeeth 13 = .ok (.iadd, 1) := by decide +kernel
theorem dX0_allTeeth_14 : decode cX0_allTeeth 14 = .ok (.aload_n 0, 1) := by decide +kernel
theorem dX0_allTeeth_15 : decode cX0_allTeeth 15 = .ok (.getfield 32, 3) := by decide +kernel
theorem dX0_allTeeth_18 : decode cX0_allTeeth 18 = .ok (.iadd, 1) := by decide +kernel
theorem dX0_allTeeth_19 : decode cX0_allTeeth 19 = .ok (.ireturn, 1) := by decide +kernel
theorem dX0_wheel_0 : decode cX0_wheel 0 = .ok (.iload_n 1, 1) := by decide +kernel
theorem dX0_wheel_1 : decode cX0_wheel 1 = .ok (.tableswitch 42 0 2 #[27, 32, 37], 27) := by decide +kernel
theorem dX0_wheel_28 : decode cX0_wheel 28 = .ok (.aload_n 0, 1) := by decide +kernel
theorem dX0_wheel_29 : decode cX0_wheel 29 = .ok (.getfield 23, 3) := by decide +kernel
theorem dX0_wheel_32 : decode cX0_wheel 32 = .ok (.ireturn, 1) := by decide +kernel
theorem dX0_wheel_33 : decode cX0_wheel 33 = .ok (.aload_n 0, 1) := by decide +kernel
theorem dX0_wheel_34 : decode cX0_wheel 34 = .ok (.getfield 29, 3) := by decide +kernel
theorem dX0_wheel_37 : decode cX0_wheel 37 = .ok (.ireturn, 1) := by decide +kernel
theorem dX0_wheel_38 : decode cX0_wheel 38 = .ok (.aload_n 0, 1) := by decide +kernel
theorem dX0_wheel_39 : decode cX0_wheel 39 = .ok (.getfield 26, 3) := by decide +kernel
theorem dX0_wheel_42 : decode cX0_wheel 42 = .ok (.ireturn, 1) := by decide +kernel
theorem dX0_wheel_43 : decode cX0_wheel 43 = .ok (.aload_n 0, 1) := by decide +kernel
theorem dX0_wheel_44 : decode cX0_wheel 44 = .ok (.getfield 32, 3) := by decide +kernel
theorem dX0_wheel_47 : decode cX0_wheel 47 = .ok (.ireturn, 1) := by decide +kernel
theorem dX0_wrongAbove_0 : decode cX0_wrongAbove 0 = .ok (.aload_n 0, 1) := by decide +kernel
theorem dX0_wrongAbove_1 : decode cX0_wrongAbove 1 = .ok (.getfield 35, 3) := by decide +kernel
theorem dX0_wrongAbove_4 : decode cX0_wrongAbove 4 = .ok (.lreturn, 1) := by decide +kernel
theorem dX0_wrongBelow_0 : decode cX0_wrongBelow 0 = .ok (.aload_n 0, 1) := by decide +kernel
theorem dX0_wrongBelow_1 : decode cX0_wrongBelow 1 = .ok (.getfield 38, 3) := by decide +kernel
theorem dX0_wrongBelow_4 : decode cX0_wrongBelow 4 = .ok (.aload_n 0, 1) := by decide +kernel
theorem dX0_wrongBelow_5 : decode cX0_wrongBelow 5 = .ok (.getfield 13, 3) := by decide +kernel
theorem dX0_wrongBelow_8 : decode cX0_wrongBelow 8 = .ok (.lmul, 1) := by decide +kernel
theorem dX0_wrongBelow_9 : decode cX0_wrongBelow 9 = .ok (.lreturn, 1) := by decide +kernel
theorem dX0_seekOnePair_0 : decode cX0_seekOnePair 0 = .ok (.aload_n 0, 1) := by decide +kernel
theorem dX0_seekOnePair_1 : decode cX0_seekOnePair 1 = .ok (.getfield 16, 3) := by decide +kernel
theorem dX0_seekOnePair_4 : decode cX0_seekOnePair 4 = .ok (.istore_n 1, 1) := by decide +kernel
theorem dX0_seekOnePair_5 : decode cX0_seekOnePair 5 = .ok (.iload_n 1, 1) := by decide +kernel
theorem dX0_seekOnePair_6 : decode cX0_seekOnePair 6 = .ok (.aload_n 0, 1) := by decide +kernel
theorem dX0_seekOnePair_7 : decode cX0_seekOnePair 7 = .ok (.getfield 20, 3) := by decide +kernel
theorem dX0_seekOnePair_10 : decode cX0_seekOnePair 10 = .ok (.if_icmp .gt 36, 3) := by decide +kernel
theorem dX0_seekOnePair_13 : decode cX0_seekOnePair 13 = .ok (.aload_n 0, 1) := by decide +kernel
theorem dX0_seekOnePair_14 : decode cX0_seekOnePair 14 = .ok (.getfield 16, 3) := by decide +kernel
theorem dX0_seekOnePair_17 : decode cX0_seekOnePair 17 = .ok (.istore_n 2, 1) := by decide +kernel
theorem dX0_seekOnePair_18 : decode cX0_seekOnePair 18 = .ok (.iload_n 2, 1) := by decide +kernel
theorem dX0_seekOnePair_19 : decode cX0_seekOnePair 19 = .ok (.aload_n 0, 1) := by decide +kernel
theorem dX0_seekOnePair_20 : decode cX0_seekOnePair 20 = .ok (.getfield 20, 3) := by decide +kernel
theorem dX0_seekOnePair_23 : decode cX0_seekOnePair 23 = .ok (.if_icmp .gt 17, 3) := by decide +kernel
theorem dX0_seekOnePair_26 : decode cX0_seekOnePair 26 = .ok (.aload_n 0, 1) := by decide +kernel
theorem dX0_seekOnePair_27 : decode cX0_seekOnePair 27 = .ok (.iload_n 1, 1) := by decide +kernel
theorem dX0_seekOnePair_28 : decode cX0_seekOnePair 28 = .ok (.iconst 0, 1) := by decide +kernel
theorem dX0_seekOnePair_29 : decode cX0_seekOnePair 29 = .ok (.iload_n 2, 1) := by decide +kernel
theorem dX0_seekOnePair_30 : decode cX0_seekOnePair 30 = .ok (.iconst 0, 1) := by decide +kernel
theorem dX0_seekOnePair_31 : decode cX0_seekOnePair 31 = .ok (.invokevirtual 47, 3) := by decide +kernel
theorem dX0_seekOnePair_34 : decode cX0_seekOnePair 34 = .ok (.iinc 2 1, 3) := by decide +kernel
theorem dX0_seekOnePair_37 : decode cX0_seekOnePair 37 = .ok (.goto (-19), 3) := by decide +kernel
theorem dX0_seekOnePair_40 : decode cX0_seekOnePair 40 = .ok (.iinc 1 1, 3) := by decide +kernel
theorem dX0_seekOnePair_43 : decode cX0_seekOnePair 43 = .ok (.goto (-38), 3) := by decide +kernel
theorem dX0_seekOnePair_46 : decode cX0_seekOnePair 46 = .ok (.return_, 1) := by decide +kernel
theorem dX0_seekTwoPairs_0 : decode cX0_seekTwoPairs 0 = .ok (.aload_n 0, 1) := by decide +kernel
theorem dX0_seekTwoPairs_1 : decode cX0_seekTwoPairs 1 = .ok (.getfield 16, 3) := by decide +kernel
theorem dX0_seekTwoPairs_4 : decode cX0_seekTwoPairs 4 = .ok (.istore_n 1, 1) := by decide +kernel
theorem dX0_seekTwoPairs_5 : decode cX0_seekTwoPairs 5 = .ok (.iload_n 1, 1) := by decide +kernel
theorem dX0_seekTwoPairs_6 : decode cX0_seekTwoPairs 6 = .ok (.aload_n 0, 1) := by decide +kernel
theorem dX0_seekTwoPairs_7 : decode cX0_seekTwoPairs 7 = .ok (.getfield 20, 3) := by decide +kernel
theorem dX0_seekTwoPairs_10 : decode cX0_seekTwoPairs 10 = .ok (.if_icmp .gt 51, 3) := by decide +kernel
theorem dX0_seekTwoPairs_13 : decode cX0_seekTwoPairs 13 = .ok (.aload_n 0, 1) := by decide +kernel
theorem dX0_seekTwoPairs_14 : decode cX0_seekTwoPairs 14 = .ok (.getfield 16, 3) := by decide +kernel
theorem dX0_seekTwoPairs_17 : decode cX0_seekTwoPairs 17 = .ok (.istore_n 2, 1) := by decide +kernel
theorem dX0_seekTwoPairs_18 : decode cX0_seekTwoPairs 18 = .ok (.iload_n 2, 1) := by decide +kernel
theorem dX0_seekTwoPairs_19 : decode cX0_seekTwoPairs 19 = .ok (.aload_n 0, 1) := by decide +kernel
theorem dX0_seekTwoPairs_20 : decode cX0_seekTwoPairs 20 = .ok (.getfield 20, 3) := by decide +kernel
theorem dX0_seekTwoPairs_23 : decode cX0_seekTwoPairs 23 = .ok (.if_icmp .gt 32, 3) := by decide +kernel
theorem dX0_seekTwoPairs_26 : decode cX0_seekTwoPairs 26 = .ok (.iload_n 2, 1) := by decide +kernel
theorem dX0_seekTwoPairs_27 : decode cX0_seekTwoPairs 27 = .ok (.istore_n 3, 1) := by decide +kernel
theorem dX0_seekTwoPairs_28 : decode cX0_seekTwoPairs 28 = .ok (.iload_n 3, 1) := by decide +kernel
theorem dX0_seekTwoPairs_29 : decode cX0_seekTwoPairs 29 = .ok (.aload_n 0, 1) := by decide +kernel
theorem dX0_seekTwoPairs_30 : decode cX0_seekTwoPairs 30 = .ok (.getfield 20, 3) := by decide +kernel
theorem dX0_seekTwoPairs_33 : decode cX0_seekTwoPairs 33 = .ok (.if_icmp .gt 16, 3) := by decide +kernel
theorem dX0_seekTwoPairs_36 : decode cX0_seekTwoPairs 36 = .ok (.aload_n 0, 1) := by decide +kernel
theorem dX0_seekTwoPairs_37 : decode cX0_seekTwoPairs 37 = .ok (.iload_n 1, 1) := by decide +kernel
theorem dX0_seekTwoPairs_38 : decode cX0_seekTwoPairs 38 = .ok (.iload_n 2, 1) := by decide +kernel
theorem dX0_seekTwoPairs_39 : decode cX0_seekTwoPairs 39 = .ok (.iload_n 3, 1) := by decide +kernel
theorem dX0_seekTwoPairs_40 : decode cX0_seekTwoPairs 40 = .ok (.invokevirtual 51, 3) := by decide +kernel
theorem dX0_seekTwoPairs_43 : decode cX0_seekTwoPairs 43 = .ok (.iinc 3 1, 3) := by decide +kernel
theorem dX0_seekTwoPairs_46 : decode cX0_seekTwoPairs 46 = .ok (.goto (-18), 3) := by decide +kernel
theorem dX0_seekTwoPairs_49 : decode cX0_seekTwoPairs 49 = .ok (.iinc 2 1, 3) := by decide +kernel
theorem dX0_seekTwoPairs_52 : decode cX0_seekTwoPairs 52 = .ok (.goto (-34), 3) := by decide +kernel
theorem dX0_seekTwoPairs_55 : decode cX0_seekTwoPairs 55 = .ok (.iinc 1 1, 3) := by decide +kernel
theorem dX0_seekTwoPairs_58 : decode cX0_seekTwoPairs 58 = .ok (.goto (-53), 3) := by decide +kernel
theorem dX0_seekTwoPairs_61 : decode cX0_seekTwoPairs 61 = .ok (.return_, 1) := by decide +kernel
theorem dX0_offerFourth_0 : decode cX0_offerFourth 0 = .ok (.aload_n 0, 1) := by decide +kernel
theorem dX0_offerFourth_1 : decode cX0_offerFourth 1 = .ok (.getfield 7, 3) := by decide +kernel
theorem dX0_offerFourth_4 : decode cX0_offerFourth 4 = .ok (.iload_n 2, 1) := by decide +kernel
theorem dX0_offerFourth_5 : decode cX0_offerFourth 5 = .ok (.i2l, 1) := by decide +kernel
theorem dX0_offerFourth_6 : decode cX0_offerFourth 6 = .ok (.lmul, 1) := by decide +kernel
theorem dX0_offerFourth_7 : decode cX0_offerFourth 7 = .ok (.iload_n 3, 1) := by decide +kernel
theorem dX0_offerFourth_8 : decode cX0_offerFourth 8 = .ok (.i2l, 1) := by decide +kernel
theorem dX0_offerFourth_9 : decode cX0_offerFourth 9 = .ok (.lmul, 1) := by decide +kernel
theorem dX0_offerFourth_10 : decode cX0_offerFourth 10 = .ok (.aload_n 0, 1) := by decide +kernel
theorem dX0_offerFourth_11 : decode cX0_offerFourth 11 = .ok (.getfield 13, 3) := by decide +kernel
theorem dX0_offerFourth_14 : decode cX0_offerFourth 14 = .ok (.iload_n 1, 1) := by decide +kernel
theorem dX0_offerFourth_15 : decode cX0_offerFourth 15 = .ok (.i2l, 1) := by decide +kernel
theorem dX0_offerFourth_16 : decode cX0_offerFourth 16 = .ok (.lmul, 1) := by decide +kernel
theorem dX0_offerFourth_17 : decode cX0_offerFourth 17 = .ok (.invokestatic 55, 3) := by decide +kernel
theorem dX0_offerFourth_20 : decode cX0_offerFourth 20 = .ok (.lstore 4, 2) := by decide +kernel
theorem dX0_offerFourth_22 : decode cX0_offerFourth 22 = .ok (.lload 4, 2) := by decide +kernel
theorem dX0_offerFourth_24 : decode cX0_offerFourth 24 = .ok (.iload_n 1, 1) := by decide +kernel
theorem dX0_offerFourth_25 : decode cX0_offerFourth 25 = .ok (.aload_n 0, 1) := by decide +kernel
theorem dX0_offerFourth_26 : decode cX0_offerFourth 26 = .ok (.getfield 20, 3) := by decide +kernel
theorem dX0_offerFourth_29 : decode cX0_offerFourth 29 = .ok (.invokestatic 61, 3) := by decide +kernel
theorem dX0_offerFourth_32 : decode cX0_offerFourth 32 = .ok (.istore 6, 2) := by decide +kernel
theorem dX0_offerFourth_34 : decode cX0_offerFourth 34 = .ok (.lload 4, 2) := by decide +kernel
theorem dX0_offerFourth_36 : decode cX0_offerFourth 36 = .ok (.lconst 1, 1) := by decide +kernel
theorem dX0_offerFourth_37 : decode cX0_offerFourth 37 = .ok (.ladd, 1) := by decide +kernel
theorem dX0_offerFourth_38 : decode cX0_offerFourth 38 = .ok (.iload_n 1, 1) := by decide +kernel
theorem dX0_offerFourth_39 : decode cX0_offerFourth 39 = .ok (.aload_n 0, 1) := by decide +kernel
theorem dX0_offerFourth_40 : decode cX0_offerFourth 40 = .ok (.getfield 20, 3) := by decide +kernel
theorem dX0_offerFourth_43 : decode cX0_offerFourth 43 = .ok (.invokestatic 61, 3) := by decide +kernel
theorem dX0_offerFourth_46 : decode cX0_offerFourth 46 = .ok (.istore 7, 2) := by decide +kernel
theorem dX0_offerFourth_48 : decode cX0_offerFourth 48 = .ok (.aload_n 0, 1) := by decide +kernel
theorem dX0_offerFourth_49 : decode cX0_offerFourth 49 = .ok (.iload_n 1, 1) := by decide +kernel
theorem dX0_offerFourth_50 : decode cX0_offerFourth 50 = .ok (.iload 6, 2) := by decide +kernel
theorem dX0_offerFourth_52 : decode cX0_offerFourth 52 = .ok (.iload_n 2, 1) := by decide +kernel
theorem dX0_offerFourth_53 : decode cX0_offerFourth 53 = .ok (.iload_n 3, 1) := by decide +kernel
theorem dX0_offerFourth_54 : decode cX0_offerFourth 54 = .ok (.invokevirtual 47, 3) := by decide +kernel
theorem dX0_offerFourth_57 : decode cX0_offerFourth 57 = .ok (.iload 7, 2) := by decide +kernel
theorem dX0_offerFourth_59 : decode cX0_offerFourth 59 = .ok (.iload 6, 2) := by decide +kernel
theorem dX0_offerFourth_61 : decode cX0_offerFourth 61 = .ok (.if_icmp .eq 12, 3) := by decide +kernel
theorem dX0_offerFourth_64 : decode cX0_offerFourth 64 = .ok (.aload_n 0, 1) := by decide +kernel
theorem dX0_offerFourth_65 : decode cX0_offerFourth 65 = .ok (.iload_n 1, 1) := by decide +kernel
theorem dX0_offerFourth_66 : decode cX0_offerFourth 66 = .ok (.iload 7, 2) := by decide +kernel
theorem dX0_offerFourth_68 : decode cX0_offerFourth 68 = .ok (.iload_n 2, 1) := by decide +kernel
theorem dX0_offerFourth_69 : decode cX0_offerFourth 69 = .ok (.iload_n 3, 1) := by decide +kernel
theorem dX0_offerFourth_70 : decode cX0_offerFourth 70 = .ok (.invokevirtual 47, 3) := by decide +kernel
theorem dX0_offerFourth_73 : decode cX0_offerFourth 73 = .ok (.return_, 1) := by decide +kernel
theorem dX0_offer_0 : decode cX0_offer 0 = .ok (.iload_n 3, 1) := by decide +kernel
theorem dX0_offer_1 : decode cX0_offer 1 = .ok (.iload 4, 2) := by decide +kernel
theorem dX0_offer_3 : decode cX0_offer 3 = .ok (.invokestatic 65, 3) := by decide +kernel
theorem dX0_offer_6 : decode cX0_offer 6 = .ok (.lstore 5, 2) := by decide +kernel
theorem dX0_offer_8 : decode cX0_offer 8 = .ok (.iload_n 1, 1) := by decide +kernel
theorem dX0_offer_9 : decode cX0_offer 9 = .ok (.iload_n 2, 1) := by decide +kernel
theorem dX0_offer_10 : decode cX0_offer 10 = .ok (.invokestatic 65, 3) := by decide +kernel
theorem dX0_offer_13 : decode cX0_offer 13 = .ok (.aload_n 0, 1) := by decide +kernel
theorem dX0_offer_14 : decode cX0_offer 14 = .ok (.getfield 13, 3) := by decide +kernel
theorem dX0_offer_17 : decode cX0_offer 17 = .ok (.lmul, 1) := by decide +kernel
theorem dX0_offer_18 : decode cX0_offer 18 = .ok (.aload_n 0, 1) := by decide +kernel
theorem dX0_offer_19 : decode cX0_offer 19 = .ok (.getfield 7, 3) := by decide +kernel
theorem dX0_offer_22 : decode cX0_offer 22 = .ok (.lload 5, 2) := by decide +kernel
theorem dX0_offer_24 : decode cX0_offer 24 = .ok (.lmul, 1) := by decide +kernel
theorem dX0_offer_25 : decode cX0_offer 25 = .ok (.lsub, 1) := by decide +kernel
theorem dX0_offer_26 : decode cX0_offer 26 = .ok (.lstore 7, 2) := by decide +kernel
theorem dX0_offer_28 : decode cX0_offer 28 = .ok (.lload 7, 2) := by decide +kernel
theorem dX0_offer_30 : decode cX0_offer 30 = .ok (.invokestatic 69, 3) := by decide +kernel
theorem dX0_offer_33 : decode cX0_offer 33 = .ok (.aload_n 0, 1) := by decide +kernel
theorem dX0_offer_34 : decode cX0_offer 34 = .ok (.getfield 38, 3) := by decide +kernel
theorem dX0_offer_37 : decode cX0_offer 37 = .ok (.lmul, 1) := by decide +kernel
theorem dX0_offer_38 : decode cX0_offer 38 = .ok (.lstore 9, 2) := by decide +kernel
theorem dX0_offer_40 : decode cX0_offer 40 = .ok (.aload_n 0, 1) := by decide +kernel
theorem dX0_offer_41 : decode cX0_offer 41 = .ok (.getfield 35, 3) := by decide +kernel
theorem dX0_offer_44 : decode cX0_offer 44 = .ok (.invokestatic 69, 3) := by decide +kernel
theorem dX0_offer_47 : decode cX0_offer 47 = .ok (.lload 5, 2) := by decide +kernel
theorem dX0_offer_49 : decode cX0_offer 49 = .ok (.lmul, 1) := by decide +kernel
theorem dX0_offer_50 : decode cX0_offer 50 = .ok (.lstore 11, 2) := by decide +kernel
theorem dX0_offer_52 : decode cX0_offer 52 = .ok (.lload 9, 2) := by decide +kernel
theorem dX0_offer_54 : decode cX0_offer 54 = .ok (.lload 11, 2) := by decide +kernel
theorem dX0_offer_56 : decode cX0_offer 56 = .ok (.lcmp, 1) := by decide +kernel
theorem dX0_offer_57 : decode cX0_offer 57 = .ok (.ifCond .lt 23, 3) := by decide +kernel
theorem dX0_offer_60 : decode cX0_offer 60 = .ok (.lload 9, 2) := by decide +kernel
theorem dX0_offer_62 : decode cX0_offer 62 = .ok (.lload 11, 2) := by decide +kernel
theorem dX0_offer_64 : decode cX0_offer 64 = .ok (.lcmp, 1) := by decide +kernel
theorem dX0_offer_65 : decode cX0_offer 65 = .ok (.ifCond .ne 48, 3) := by decide +kernel
theorem dX0_offer_68 : decode cX0_offer 68 = .ok (.aload_n 0, 1) := by decide +kernel
theorem dX0_offer_69 : decode cX0_offer 69 = .ok (.iload_n 1, 1) := by decide +kernel
theorem dX0_offer_70 : decode cX0_offer 70 = .ok (.iload_n 2, 1) := by decide +kernel
theorem dX0_offer_71 : decode cX0_offer 71 = .ok (.iload_n 3, 1) := by decide +kernel
theorem dX0_offer_72 : decode cX0_offer 72 = .ok (.iload 4, 2) := by decide +kernel
theorem dX0_offer_74 : decode cX0_offer 74 = .ok (.invokevirtual 75, 3) := by decide +kernel
theorem dX0_offer_77 : decode cX0_offer 77 = .ok (.ifCond .eq 36, 3) := by decide +kernel
theorem dX0_offer_80 : decode cX0_offer 80 = .ok (.aload_n 0, 1) := by decide +kernel
theorem dX0_offer_81 : decode cX0_offer 81 = .ok (.iload_n 1, 1) := by decide +kernel
theorem dX0_offer_82 : decode cX0_offer 82 = .ok (.putfield 23, 3) := by decide +kernel
theorem dX0_offer_85 : decode cX0_offer 85 = .ok (.aload_n 0, 1) := by decide +kernel
theorem dX0_offer_86 : decode cX0_offer 86 = .ok (.iload_n 2, 1) := by decide +kernel
theorem dX0_offer_87 : decode cX0_offer 87 = .ok (.putfield 26, 3) := by decide +kernel
theorem dX0_offer_90 : decode cX0_offer 90 = .ok (.aload_n 0, 1) := by decide +kernel
theorem dX0_offer_91 : decode cX0_offer 91 = .ok (.iload_n 3, 1) := by decide +kernel
theorem dX0_offer_92 : decode cX0_offer 92 = .ok (.putfield 29, 3) := by decide +kernel
theorem dX0_offer_95 : decode cX0_offer 95 = .ok (.aload_n 0, 1) := by decide +kernel
theorem dX0_offer_96 : decode cX0_offer 96 = .ok (.iload 4, 2) := by decide +kernel
theorem dX0_offer_98 : decode cX0_offer 98 = .ok (.putfield 32, 3) := by decide +kernel
theorem dX0_offer_101 : decode cX0_offer 101 = .ok (.aload_n 0, 1) := by decide +kernel
theorem dX0_offer_102 : decode cX0_offer 102 = .ok (.lload 7, 2) := by decide +kernel
theorem dX0_offer_104 : decode cX0_offer 104 = .ok (.putfield 35, 3) := by decide +kernel
theorem dX0_offer_107 : decode cX0_offer 107 = .ok (.aload_n 0, 1) := by decide +kernel
theorem dX0_offer_108 : decode cX0_offer 108 = .ok (.lload 5, 2) := by decide +kernel
theorem dX0_offer_110 : decode cX0_offer 110 = .ok (.putfield 38, 3) := by decide +kernel
theorem dX0_offer_113 : decode cX0_offer 113 = .ok (.return_, 1) := by decide +kernel
theorem dX0_isAhead_0 : decode cX0_isAhead 0 = .ok (.iload_n 2, 1) := by decide +kernel
theorem dX0_isAhead_1 : decode cX0_isAhead 1 = .ok (.ifCond .ne 7, 3) := by decide +kernel
theorem dX0_isAhead_4 : decode cX0_isAhead 4 = .ok (.iconst 1, 1) := by decide +kernel
theorem dX0_isAhead_5 : decode cX0_isAhead 5 = .ok (.goto 4, 3) := by decide +kernel
theorem dX0_isAhead_8 : decode cX0_isAhead 8 = .ok (.iconst 0, 1) := by decide +kernel
theorem dX0_isAhead_9 : decode cX0_isAhead 9 = .ok (.aload_n 0, 1) := by decide +kernel
theorem dX0_isAhead_10 : decode cX0_isAhead 10 = .ok (.invokevirtual 79, 3) := by decide +kernel
theorem dX0_isAhead_13 : decode cX0_isAhead 13 = .ok (.if_icmp .eq 13, 3) := by decide +kernel
theorem dX0_isAhead_16 : decode cX0_isAhead 16 = .ok (.iload_n 2, 1) := by decide +kernel
theorem dX0_isAhead_17 : decode cX0_isAhead 17 = .ok (.ifCond .ne 7, 3) := by decide +kernel
theorem dX0_isAhead_20 : decode cX0_isAhead 20 = .ok (.iconst 1, 1) := by decide +kernel
theorem dX0_isAhead_21 : decode cX0_isAhead 21 = .ok (.goto 4, 3) := by decide +kernel
theorem dX0_isAhead_24 : decode cX0_isAhead 24 = .ok (.iconst 0, 1) := by decide +kernel
theorem dX0_isAhead_25 : decode cX0_isAhead 25 = .ok (.ireturn, 1) := by decide +kernel
theorem dX0_isAhead_26 : decode cX0_isAhead 26 = .ok (.iload_n 1, 1) := by decide +kernel
theorem dX0_isAhead_27 : decode cX0_isAhead 27 = .ok (.iload_n 2, 1) := by decide +kernel
theorem dX0_isAhead_28 : decode cX0_isAhead 28 = .ok (.iadd, 1) := by decide +kernel
theorem dX0_isAhead_29 : decode cX0_isAhead 29 = .ok (.iload_n 3, 1) := by decide +kernel
theorem dX0_isAhead_30 : decode cX0_isAhead 30 = .ok (.iadd, 1) := by decide +kernel
theorem dX0_isAhead_31 : decode cX0_isAhead 31 = .ok (.iload 4, 2) := by decide +kernel
theorem dX0_isAhead_33 : decode cX0_isAhead 33 = .ok (.iadd, 1) := by decide +kernel
theorem dX0_isAhead_34 : decode cX0_isAhead 34 = .ok (.istore 5, 2) := by decide +kernel
theorem dX0_isAhead_36 : decode cX0_isAhead 36 = .ok (.iload 5, 2) := by decide +kernel
theorem dX0_isAhead_38 : decode cX0_isAhead 38 = .ok (.aload_n 0, 1) := by decide +kernel
theorem dX0_isAhead_39 : decode cX0_isAhead 39 = .ok (.invokevirtual 83, 3) := by decide +kernel
theorem dX0_isAhead_42 : decode cX0_isAhead 42 = .ok (.if_icmp .eq 18, 3) := by decide +kernel
theorem dX0_isAhead_45 : decode cX0_isAhead 45 = .ok (.iload 5, 2) := by decide +kernel
theorem dX0_isAhead_47 : decode cX0_isAhead 47 = .ok (.aload_n 0, 1) := by decide +kernel
theorem dX0_isAhead_48 : decode cX0_isAhead 48 = .ok (.invokevirtual 83, 3) := by decide +kernel
theorem dX0_isAhead_51 : decode cX0_isAhead 51 = .ok (.if_icmp .ge 7, 3) := by decide +kernel
theorem dX0_isAhead_54 : decode cX0_isAhead 54 = .ok (.iconst 1, 1) := by decide +kernel
theorem dX0_isAhead_55 : decode cX0_isAhead 55 = .ok (.goto 4, 3) := by decide +kernel
theorem dX0_isAhead_58 : decode cX0_isAhead 58 = .ok (.iconst 0, 1) := by decide +kernel
theorem dX0_isAhead_59 : decode cX0_isAhead 59 = .ok (.ireturn, 1) := by decide +kernel
theorem dX0_isAhead_60 : decode cX0_isAhead 60 = .ok (.iload_n 1, 1) := by decide +kernel
theorem dX0_isAhead_61 : decode cX0_isAhead 61 = .ok (.aload_n 0, 1) := by decide +kernel
theorem dX0_isAhead_62 : decode cX0_isAhead 62 = .ok (.getfield 23, 3) := by decide +kernel
theorem dX0_isAhead_65 : decode cX0_isAhead 65 = .ok (.if_icmp .eq 17, 3) := by decide +kernel
theorem dX0_isAhead_68 : decode cX0_isAhead 68 = .ok (.iload_n 1, 1) := by decide +kernel
theorem dX0_isAhead_69 : decode cX0_isAhead 69 = .ok (.aload_n 0, 1) := by decide +kernel
theorem dX0_isAhead_70 : decode cX0_isAhead 70 = .ok (.getfield 23, 3) := by decide +kernel
theorem dX0_isAhead_73 : decode cX0_isAhead 73 = .ok (.if_icmp .ge 7, 3) := by decide +kernel
theorem dX0_isAhead_76 : decode cX0_isAhead 76 = .ok (.iconst 1, 1) := by decide +kernel
theorem dX0_isAhead_77 : decode cX0_isAhead 77 = .ok (.goto 4, 3) := by decide +kernel
theorem dX0_isAhead_80 : decode cX0_isAhead 80 = .ok (.iconst 0, 1) := by decide +kernel
theorem dX0_isAhead_81 : decode cX0_isAhead 81 = .ok (.ireturn, 1) := by decide +kernel
theorem dX0_isAhead_82 : decode cX0_isAhead 82 = .ok (.iload_n 2, 1) := by decide +kernel
theorem dX0_isAhead_83 : decode cX0_isAhead 83 = .ok (.aload_n 0, 1) := by decide +kernel
theorem dX0_isAhead_84 : decode cX0_isAhead 84 = .ok (.getfield 26, 3) := by decide +kernel
theorem dX0_isAhead_87 : decode cX0_isAhead 87 = .ok (.if_icmp .eq 17, 3) := by decide +kernel
theorem dX0_isAhead_90 : decode cX0_isAhead 90 = .ok (.iload_n 2, 1) := by decide +kernel
theorem dX0_isAhead_91 : decode cX0_isAhead 91 = .ok (.aload_n 0, 1) := by decide +kernel
theorem dX0_isAhead_92 : decode cX0_isAhead 92 = .ok (.getfield 26, 3) := by decide +kernel
theorem dX0_isAhead_95 : decode cX0_isAhead 95 = .ok (.if_icmp .ge 7, 3) := by decide +kernel
theorem dX0_isAhead_98 : decode cX0_isAhead 98 = .ok (.iconst 1, 1) := by decide +kernel
theorem dX0_isAhead_99 : decode cX0_isAhead 99 = .ok (.goto 4, 3) := by decide +kernel
theorem dX0_isAhead_102 : decode cX0_isAhead 102 = .ok (.iconst 0, 1) := by decide +kernel
theorem dX0_isAhead_103 : decode cX0_isAhead 103 = .ok (.ireturn, 1) := by decide +kernel
theorem dX0_isAhead_104 : decode cX0_isAhead 104 = .ok (.iload_n 3, 1) := by decide +kernel
theorem dX0_isAhead_105 : decode cX0_isAhead 105 = .ok (.aload_n 0, 1) := by decide +kernel
theorem dX0_isAhead_106 : decode cX0_isAhead 106 = .ok (.getfield 29, 3) := by decide +kernel
theorem dX0_isAhead_109 : decode cX0_isAhead 109 = .ok (.if_icmp .ge 7, 3) := by decide +kernel
theorem dX0_isAhead_112 : decode cX0_isAhead 112 = .ok (.iconst 1, 1) := by decide +kernel
theorem dX0_isAhead_113 : decode cX0_isAhead 113 = .ok (.goto 4, 3) := by decide +kernel
theorem dX0_isAhead_116 : decode cX0_isAhead 116 = .ok (.iconst 0, 1) := by decide +kernel
theorem dX0_isAhead_117 : decode cX0_isAhead 117 = .ok (.ireturn, 1) := by decide +kernel
theorem dX0_product_0 : decode cX0_product 0 = .ok (.iload_n 1, 1) := by decide +kernel
theorem dX0_product_1 : decode cX0_product 1 = .ok (.ifCond .ne 8, 3) := by decide +kernel
theorem dX0_product_4 : decode cX0_product 4 = .ok (.iload_n 0, 1) := by decide +kernel
theorem dX0_product_5 : decode cX0_product 5 = .ok (.i2l, 1) := by decide +kernel
theorem dX0_product_6 : decode cX0_product 6 = .ok (.goto 8, 3) := by decide +kernel
theorem dX0_product_9 : decode cX0_product 9 = .ok (.iload_n 0, 1) := by decide +kernel
theorem dX0_product_10 : decode cX0_product 10 = .ok (.i2l, 1) := by decide +kernel
theorem dX0_product_11 : decode cX0_product 11 = .ok (.iload_n 1, 1) := by decide +kernel
theorem dX0_product_12 : decode cX0_product 12 = .ok (.i2l, 1) := by decide +kernel
theorem dX0_product_13 : decode cX0_product 13 = .ok (.lmul, 1) := by decide +kernel
theorem dX0_product_14 : decode cX0_product 14 = .ok (.lreturn, 1) := by decide +kernel
theorem dX0_within_0 : decode cX0_within 0 = .ok (.iload_n 2, 1) := by decide +kernel
theorem dX0_within_1 : decode cX0_within 1 = .ok (.i2l, 1) := by decide +kernel
theorem dX0_within_2 : decode cX0_within 2 = .ok (.iload_n 3, 1) := by decide +kernel
theorem dX0_within_3 : decode cX0_within 3 = .ok (.i2l, 1) := by decide +kernel
theorem dX0_within_4 : decode cX0_within 4 = .ok (.lload_n 0, 1) := by decide +kernel
theorem dX0_within_5 : decode cX0_within 5 = .ok (.invokestatic 87, 3) := by decide +kernel
theorem dX0_within_8 : decode cX0_within 8 = .ok (.invokestatic 90, 3) := by decide +kernel
theorem dX0_within_11 : decode cX0_within 11 = .ok (.l2i, 1) := by decide +kernel
theorem dX0_within_12 : decode cX0_within 12 = .ok (.ireturn, 1) := by decide +kernel
theorem dX1_init_0 : decode cX1_init 0 = .ok (.aload_n 0, 1) := by decide +kernel
theorem dX1_init_1 : decode cX1_init 1 = .ok (.invokespecial 3, 3) := by decide +kernel
theorem dX1_init_4 : decode cX1_init 4 = .ok (.aload_n 0, 1) := by decide +kernel
theorem dX1_init_5 : decode cX1_init 5 = .ok (.iconst 0, 1) := by decide +kernel
theorem dX1_init_6 : decode cX1_init 6 = .ok (.putfield 9, 3) := by decide +kernel
theorem dX1_init_9 : decode cX1_init 9 = .ok (.aload_n 0, 1) := by decide +kernel
theorem dX1_init_10 : decode cX1_init 10 = .ok (.bipush 6, 2) := by decide +kernel
theorem dX1_init_12 : decode cX1_init 12 = .ok (.newarray .int, 2) := by decide +kernel
theorem dX1_init_14 : decode cX1_init 14 = .ok (.putfield 15, 3) := by decide +kernel
theorem dX1_init_17 : decode cX1_init 17 = .ok (.aload_n 0, 1) := by decide +kernel
theorem dX1_init_18 : decode cX1_init 18 = .ok (.bipush 6, 2) := by decide +kernel
theorem dX1_init_20 : decode cX1_init 20 = .ok (.newarray .int, 2) := by decide +kernel
theorem dX1_init_22 : decode cX1_init 22 = .ok (.putfield 19, 3) := by decide +kernel
theorem dX1_init_25 : decode cX1_init 25 = .ok (.aload_n 0, 1) := by decide +kernel
theorem dX1_init_26 : decode cX1_init 26 = .ok (.bipush 20, 2) := by decide +kernel
theorem dX1_init_28 : decode cX1_init 28 = .ok (.putfield 22, 3) := by decide +kernel
theorem dX1_init_31 : decode cX1_init 31 = .ok (.aload_n 0, 1) := by decide +kernel
theorem dX1_init_32 : decode cX1_init 32 = .ok (.bipush 30, 2) := by decide +kernel
theorem dX1_init_34 : decode cX1_init 34 = .ok (.putfield 25, 3) := by decide +kernel
theorem dX1_init_37 : decode cX1_init 37 = .ok (.aload_n 0, 1) := by decide +kernel
theorem dX1_init_38 : decode cX1_init 38 = .ok (.new 28, 3) := by decide +kernel
theorem dX1_init_41 : decode cX1_init 41 = .ok (.dup, 1) := by decide +kernel
theorem dX1_init_42 : decode cX1_init 42 = .ok (.invokespecial 30, 3) := by decide +kernel
theorem dX1_init_45 : decode cX1_init 45 = .ok (.putfield 31, 3) := by decide +kernel
theorem dX1_init_48 : decode cX1_init 48 = .ok (.aload_n 0, 1) := by decide +kernel
theorem dX1_init_49 : decode cX1_init 49 = .ok (.new 35, 3) := by decide +kernel
theorem dX1_init_52 : decode cX1_init 52 = .ok (.dup, 1) := by decide +kernel
theorem dX1_init_53 : decode cX1_init 53 = .ok (.invokespecial 37, 3) := by decide +kernel
theorem dX1_init_56 : decode cX1_init 56 = .ok (.putfield 38, 3) := by decide +kernel
theorem dX1_init_59 : decode cX1_init 59 = .ok (.aload_n 0, 1) := by decide +kernel
theorem dX1_init_60 : decode cX1_init 60 = .ok (.iconst 0, 1) := by decide +kernel
theorem dX1_init_61 : decode cX1_init 61 = .ok (.putfield 42, 3) := by decide +kernel
theorem dX1_init_64 : decode cX1_init 64 = .ok (.aload_n 0, 1) := by decide +kernel
theorem dX1_init_65 : decode cX1_init 65 = .ok (.iconst 0, 1) := by decide +kernel
theorem dX1_init_66 : decode cX1_init 66 = .ok (.putfield 45, 3) := by decide +kernel
theorem dX1_init_69 : decode cX1_init 69 = .ok (.aload_n 0, 1) := by decide +kernel
theorem dX1_init_70 : decode cX1_init 70 = .ok (.new 49, 3) := by decide +kernel
theorem dX1_init_73 : decode cX1_init 73 = .ok (.dup, 1) := by decide +kernel
theorem dX1_init_74 : decode cX1_init 74 = .ok (.invokespecial 51, 3) := by decide +kernel
theorem dX1_init_77 : decode cX1_init 77 = .ok (.putfield 52, 3) := by decide +kernel
theorem dX1_init_80 : decode cX1_init 80 = .ok (.return_, 1) := by decide +kernel
theorem dX1_copyFrom_0 : decode cX1_copyFrom 0 = .ok (.aload_n 0, 1) := by decide +kernel
theorem dX1_copyFrom_1 : decode cX1_copyFrom 1 = .ok (.aload_n 1, 1) := by decide +kernel
theorem dX1_copyFrom_2 : decode cX1_copyFrom 2 = .ok (.getfield 9, 3) := by decide +kernel
theorem dX1_copyFrom_5 : decode cX1_copyFrom 5 = .ok (.putfield 9, 3) := by decide +kernel
theorem dX1_copyFrom_8 : decode cX1_copyFrom 8 = .ok (.aload_n 1, 1) := by decide +kernel
theorem dX1_copyFrom_9 : decode cX1_copyFrom 9 = .ok (.getfield 15, 3) := by decide +kernel
theorem dX1_copyFrom_12 : decode cX1_copyFrom 12 = .ok (.aload_n 0, 1) := by decide +kernel
theorem dX1_copyFrom_13 : decode cX1_copyFrom 13 = .ok (.getfield 15, 3) := by decide +kernel
theorem dX1_copyFrom_16 : decode cX1_copyFrom 16 = .ok (.invokestatic 56, 3) := by decide +kernel
theorem dX1_copyFrom_19 : decode cX1_copyFrom 19 = .ok (.aload_n 1, 1) := by decide +kernel
theorem dX1_copyFrom_20 : decode cX1_copyFrom 20 = .ok (.getfield 19, 3) := by decide +kernel
theorem dX1_copyFrom_23 : decode cX1_copyFrom 23 = .ok (.aload_n 0, 1) := by decide +kernel
theorem dX1_copyFrom_24 : decode cX1_copyFrom 24 = .ok (.getfield 19, 3) := by decide +kernel
theorem dX1_copyFrom_27 : decode cX1_copyFrom 27 = .ok (.invokestatic 56, 3) := by decide +kernel
theorem dX1_copyFrom_30 : decode cX1_copyFrom 30 = .ok (.aload_n 0, 1) := by decide +kernel
theorem dX1_copyFrom_31 : decode cX1_copyFrom 31 = .ok (.aload_n 1, 1) := by decide +kernel
theorem dX1_copyFrom_32 : decode cX1_copyFrom 32 = .ok (.getfield 22, 3) := by decide +kernel
theorem dX1_copyFrom_35 : decode cX1_copyFrom 35 = .ok (.putfield 22, 3) := by decide +kernel
theorem dX1_copyFrom_38 : decode cX1_copyFrom 38 = .ok (.aload_n 0, 1) := by decide +kernel
theorem dX1_copyFrom_39 : decode cX1_copyFrom 39 = .ok (.aload_n 1, 1) := by decide +kernel
theorem dX1_copyFrom_40 : decode cX1_copyFrom 40 = .ok (.getfield 25, 3) := by decide +kernel
theorem dX1_copyFrom_43 : decode cX1_copyFrom 43 = .ok (.putfield 25, 3) := by decide +kernel
theorem dX1_copyFrom_46 : decode cX1_copyFrom 46 = .ok (.aload_n 0, 1) := by decide +kernel
theorem dX1_copyFrom_47 : decode cX1_copyFrom 47 = .ok (.getfield 31, 3) := by decide +kernel
theorem dX1_copyFrom_50 : decode cX1_copyFrom 50 = .ok (.aload_n 1, 1) := by decide +kernel
theorem dX1_copyFrom_51 : decode cX1_copyFrom 51 = .ok (.getfield 31, 3) := by decide +kernel
theorem dX1_copyFrom_54 : decode cX1_copyFrom 54 = .ok (.invokevirtual 60, 3) := by decide +kernel
theorem dX1_copyFrom_57 : decode cX1_copyFrom 57 = .ok (.aload_n 0, 1) := by decide +kernel
theorem dX1_copyFrom_58 : decode cX1_copyFrom 58 = .ok (.getfield 38, 3) := by decide +kernel
theorem dX1_copyFrom_61 : decode cX1_copyFrom 61 = .ok (.aload_n 1, 1) := by decide +kernel
theorem dX1_copyFrom_62 : decode cX1_copyFrom 62 = .ok (.getfield 38, 3) := by decide +kernel
theorem dX1_copyFrom_65 : decode cX1_copyFrom 65 = .ok (.invokevirtual 64, 3) := by decide +kernel
theorem dX1_copyFrom_68 : decode cX1_copyFrom 68 = .ok (.aload_n 0, 1) := by decide +kernel
theorem dX1_copyFrom_69 : decode cX1_copyFrom 69 = .ok (.aload_n 1, 1) := by decide +kernel
theorem dX1_copyFrom_70 : decode cX1_copyFrom 70 = .ok (.getfield 42, 3) := by decide +kernel
theorem dX1_copyFrom_73 : decode cX1_copyFrom 73 = .ok (.putfield 42, 3) := by decide +kernel
theorem dX1_copyFrom_76 : decode cX1_copyFrom 76 = .ok (.aload_n 0, 1) := by decide +kernel
theorem dX1_copyFrom_77 : decode cX1_copyFrom 77 = .ok (.aload_n 1, 1) := by decide +kernel
theorem dX1_copyFrom_78 : decode cX1_copyFrom 78 = .ok (.getfield 45, 3) := by decide +kernel
theorem dX1_copyFrom_81 : decode cX1_copyFrom 81 = .ok (.putfield 45, 3) := by decide +kernel
theorem dX1_copyFrom_84 : decode cX1_copyFrom 84 = .ok (.aload_n 0, 1) := by decide +kernel
theorem dX1_copyFrom_85 : decode cX1_copyFrom 85 = .ok (.getfield 52, 3) := by decide +kernel
theorem dX1_copyFrom_88 : decode cX1_copyFrom 88 = .ok (.aload_n 1, 1) := by decide +kernel
theorem dX1_copyFrom_89 : decode cX1_copyFrom 89 = .ok (.getfield 52, 3) := by decide +kernel
theorem dX1_copyFrom_92 : decode cX1_copyFrom 92 = .ok (.invokevirtual 67, 3) := by decide +kernel
theorem dX1_copyFrom_95 : decode cX1_copyFrom 95 = .ok (.return_, 1) := by decide +kernel
theorem dX1_hasBody_0 : decode cX1_hasBody 0 = .ok (.iload_n 1, 1) := by decide +kernel
theorem dX1_hasBody_1 : decode cX1_hasBody 1 = .ok (.ifCond .lt 15, 3) := by decide +kernel
theorem dX1_hasBody_4 : decode cX1_hasBody 4 = .ok (.iload_n 1, 1) := by decide +kernel
theorem dX1_hasBody_5 : decode cX1_hasBody 5 = .ok (.aload_n 0, 1) := by decide +kernel
theorem dX1_hasBody_6 : decode cX1_hasBody 6 = .ok (.getfield 9, 3) := by decide +kernel
theorem dX1_hasBody_9 : decode cX1_hasBody 9 = .ok (.if_icmp .ge 7, 3) := by decide +kernel
theorem dX1_hasBody_12 : decode cX1_hasBody 12 = .ok (.iconst 1, 1) := by decide +kernel
theorem dX1_hasBody_13 : decode cX1_hasBody 13 = .ok (.goto 4, 3) := by decide +kernel
theorem dX1_hasBody_16 : decode cX1_hasBody 16 = .ok (.iconst 0, 1) := by decide +kernel
theorem dX1_hasBody_17 : decode cX1_hasBody 17 = .ok (.ireturn, 1) := by decide +kernel
theorem dX1_hasTrain_0 : decode cX1_hasTrain 0 = .ok (.aload_n 0, 1) := by decide +kernel
theorem dX1_hasTrain_1 : decode cX1_hasTrain 1 = .ok (.iload_n 1, 1) := by decide +kernel
theorem dX1_hasTrain_2 : decode cX1_hasTrain 2 = .ok (.invokevirtual 70, 3) := by decide +kernel
theorem dX1_hasTrain_5 : decode cX1_hasTrain 5 = .ok (.ifCond .eq 18, 3) := by decide +kernel
theorem dX1_hasTrain_8 : decode cX1_hasTrain 8 = .ok (.aload_n 0, 1) := by decide +kernel
theorem dX1_hasTrain_9 : decode cX1_hasTrain 9 = .ok (.getfield 38, 3) := by decide +kernel
theorem dX1_hasTrain_12 : decode cX1_hasTrain 12 = .ok (.iload_n 1, 1) := by decide +kernel
theorem dX1_hasTrain_13 : decode cX1_hasTrain 13 = .ok (.invokevirtual 74, 3) := by decide +kernel
theorem dX1_hasTrain_16 : decode cX1_hasTrain 16 = .ok (.ifCond .le 7, 3) := by decide +kernel
theorem dX1_hasTrain_19 : decode cX1_hasTrain 19 = .ok (.iconst 1, 1) := by decide +kernel
theorem dX1_hasTrain_20 : decode cX1_hasTrain 20 = .ok (.goto 4, 3) := by decide +kernel
theorem dX1_hasTrain_23 : decode cX1_hasTrain 23 = .ok (.iconst 0, 1) := by decide +kernel
theorem dX1_hasTrain_24 : decode cX1_hasTrain 24 = .ok (.ireturn, 1) := by decide +kernel
theorem dX1_wish_0 : decode cX1_wish 0 = .ok (.aload_n 0, 1) := by decide +kernel
theorem dX1_wish_1 : decode cX1_wish 1 = .ok (.getfield 15, 3) := by decide +kernel
theorem dX1_wish_4 : decode cX1_wish 4 = .ok (.iload_n 1, 1) := by decide +kernel
theorem dX1_wish_5 : decode cX1_wish 5 = .ok (.iload_n 2, 1) := by decide +kernel
theorem dX1_wish_6 : decode cX1_wish 6 = .ok (.i2l, 1) := by decide +kernel
theorem dX1_wish_7 : decode cX1_wish 7 = .ok (.iload_n 3, 1) := by decide +kernel
theorem dX1_wish_8 : decode cX1_wish 8 = .ok (.i2l, 1) := by decide +kernel
theorem dX1_wish_9 : decode cX1_wish 9 = .ok (.iconst 0, 1) := by decide +kernel
theorem dX1_wish_10 : decode cX1_wish 10 = .ok (.invokestatic 78, 3) := by decide +kernel
theorem dX1_wish_13 : decode cX1_wish 13 = .ok (.l2i, 1) := by decide +kernel
theorem dX1_wish_14 : decode cX1_wish 14 = .ok (.invokestatic 82, 3) := by decide +kernel
theorem dX1_wish_17 : decode cX1_wish 17 = .ok (.aload_n 0, 1) := by decide +kernel
theorem dX1_wish_18 : decode cX1_wish 18 = .ok (.getfield 19, 3) := by decide +kernel
theorem dX1_wish_21 : decode cX1_wish 21 = .ok (.iload_n 1, 1) := by decide +kernel
theorem dX1_wish_22 : decode cX1_wish 22 = .ok (.iload_n 2, 1) := by decide +kernel
theorem dX1_wish_23 : decode cX1_wish 23 = .ok (.i2l, 1) := by decide +kernel
theorem dX1_wish_24 : decode cX1_wish 24 = .ok (.iload_n 3, 1) := by decide +kernel
theorem dX1_wish_25 : decode cX1_wish 25 = .ok (.i2l, 1) := by decide +kernel
theorem dX1_wish_26 : decode cX1_wish 26 = .ok (.iconst 1, 1) := by decide +kernel
theorem dX1_wish_27 : decode cX1_wish 27 = .ok (.invokestatic 78, 3) := by decide +kernel
theorem dX1_wish_30 : decode cX1_wish 30 = .ok (.l2i, 1) := by decide +kernel
theorem dX1_wish_31 : decode cX1_wish 31 = .ok (.invokestatic 82, 3) := by decide +kernel
theorem dX1_wish_34 : decode cX1_wish 34 = .ok (.return_, 1) := by decide +kernel
theorem dX1_drivers_0 : decode cX1_drivers 0 = .ok (.lconst 1, 1) := by decide +kernel
theorem dX1_drivers_1 : decode cX1_drivers 1 = .ok (.lstore_n 2, 1) := by decide +kernel
theorem dX1_drivers_2 : decode cX1_drivers 2 = .ok (.iconst 0, 1) := by decide +kernel
theorem dX1_drivers_3 : decode cX1_drivers 3 = .ok (.istore 4, 2) := by decide +kernel
theorem dX1_drivers_5 : decode cX1_drivers 5 = .ok (.iload 4, 2) := by decide +kernel
theorem dX1_drivers_7 : decode cX1_drivers 7 = .ok (.aload_n 0, 1) := by decide +kernel
theorem dX1_drivers_8 : decode cX1_drivers 8 = .ok (.getfield 38, 3) := by decide +kernel
theorem dX1_drivers_11 : decode cX1_drivers 11 = .ok (.iload_n 1, 1) := by decide +kernel
theorem dX1_drivers_12 : decode cX1_drivers 12 = .ok (.invokevirtual 74, 3) := by decide +kernel
theorem dX1_drivers_15 : decode cX1_drivers 15 = .ok (.if_icmp .ge 33, 3) := by decide +kernel
theorem dX1_drivers_18 : decode cX1_drivers 18 = .ok (.lload_n 2, 1) := by decide +kernel
theorem dX1_drivers_19 : decode cX1_drivers 19 = .ok (.aload_n 0, 1) := by decide +kernel
theorem dX1_drivers_20 : decode cX1_drivers 20 = .ok (.getfield 31, 3) := by decide +kernel
theorem dX1_drivers_23 : decode cX1_drivers 23 = .ok (.getfield 86, 3) := by decide +kernel
theorem dX1_drivers_26 : decode cX1_drivers 26 = .ok (.aload_n 0, 1) := by decide +kernel
theorem dX1_drivers_27 : decode cX1_drivers 27 = .ok (.getfield 38, 3) := by decide +kernel
theorem dX1_drivers_30 : decode cX1_drivers 30 = .ok (.iload_n 1, 1) := by decide +kernel
theorem dX1_drivers_31 : decode cX1_drivers 31 = .ok (.iload 4, 2) := by decide +kernel
theorem dX1_drivers_33 : decode cX1_drivers 33 = .ok (.invokevirtual 89, 3) := by decide +kernel
theorem dX1_drivers_36 : decode cX1_drivers 36 = .ok (.invokestatic 93, 3) := by decide +kernel
theorem dX1_drivers_39 : decode cX1_drivers 39 = .ok (.i2l, 1) := by decide +kernel
theorem dX1_drivers_40 : decode cX1_drivers 40 = .ok (.lmul, 1) := by decide +kernel
theorem dX1_drivers_41 : decode cX1_drivers 41 = .ok (.lstore_n 2, 1) := by decide +kernel
theorem dX1_drivers_42 : decode cX1_drivers 42 = .ok (.iinc 4 1, 3) := by decide +kernel
theorem dX1_drivers_45 : decode cX1_drivers 45 = .ok (.goto (-40), 3) := by decide +kernel
theorem dX1_drivers_48 : decode cX1_drivers 48 = .ok (.lload_n 2, 1) := by decide +kernel
theorem dX1_drivers_49 : decode cX1_drivers 49 = .ok (.lreturn, 1) := by decide +kernel
theorem dX1_drivens_0 : decode cX1_drivens 0 = .ok (.lconst 1, 1) := by decide +kernel
theorem dX1_drivens_1 : decode cX1_drivens 1 = .ok (.lstore_n 2, 1) := by decide +kernel
theorem dX1_drivens_2 : decode cX1_drivens 2 = .ok (.iconst 0, 1) := by decide +kernel
theorem dX1_drivens_3 : decode cX1_drivens 3 = .ok (.istore 4, 2) := by decide +kernel
theorem dX1_drivens_5 : decode cX1_drivens 5 = .ok (.iload 4, 2) := by decide +kernel
theorem dX1_drivens_7 : decode cX1_drivens 7 = .ok (.aload_n 0, 1) := by decide +kernel
theorem dX1_drivens_8 : decode cX1_drivens 8 = .ok (.getfield 38, 3) := by decide +kernel
theorem dX1_drivens_11 : decode cX1_drivens 11 = .ok (.iload_n 1, 1) := by decide +kernel
theorem dX1_drivens_12 : decode cX1_drivens 12 = .ok (.invokevirtual 74, 3) := by decide +kernel
theorem dX1_drivens_15 : decode cX1_drivens 15 = .ok (.if_icmp .ge 33, 3) := by decide +kernel
theorem dX1_drivens_18 : decode cX1_drivens 18 = .ok (.lload_n 2, 1) := by decide +kernel
theorem dX1_drivens_19 : decode cX1_drivens 19 = .ok (.aload_n 0, 1) := by decide +kernel
theorem dX1_drivens_20 : decode cX1_drivens 20 = .ok (.getfield 31, 3) := by decide +kernel
theorem dX1_drivens_23 : decode cX1_drivens 23 = .ok (.getfield 97, 3) := by decide +kernel
theorem dX1_drivens_26 : decode cX1_drivens 26 = .ok (.aload_n 0, 1) := by decide +kernel
theorem dX1_drivens_27 : decode cX1_drivens 27 = .ok (.getfield 38, 3) := by decide +kernel
theorem dX1_drivens_30 : decode cX1_drivens 30 = .ok (.iload_n 1, 1) := by decide +kernel
theorem dX1_drivens_31 : decode cX1_drivens 31 = .ok (.iload 4, 2) := by decide +kernel
theorem dX1_drivens_33 : decode cX1_drivens 33 = .ok (.invokevirtual 89, 3) := by decide +kernel
theorem dX1_drivens_36 : decode cX1_drivens 36 = .ok (.invokestatic 93, 3) := by decide +kernel
theorem dX1_drivens_39 : decode cX1_drivens 39 = .ok (.i2l, 1) := by decide +kernel
theorem dX1_drivens_40 : decode cX1_drivens 40 = .ok (.lmul, 1) := by decide +kernel
theorem dX1_drivens_41 : decode cX1_drivens 41 = .ok (.lstore_n 2, 1) := by decide +kernel
theorem dX1_drivens_42 : decode cX1_drivens 42 = .ok (.iinc 4 1, 3) := by decide +kernel
theorem dX1_drivens_45 : decode cX1_drivens 45 = .ok (.goto (-40), 3) := by decide +kernel
theorem dX1_drivens_48 : decode cX1_drivens 48 = .ok (.lload_n 2, 1) := by decide +kernel
theorem dX1_drivens_49 : decode cX1_drivens 49 = .ok (.lreturn, 1) := by decide +kernel
theorem dX1_wrongAbove_0 : decode cX1_wrongAbove 0 = .ok (.aload_n 0, 1) := by decide +kernel
theorem dX1_wrongAbove_1 : decode cX1_wrongAbove 1 = .ok (.iload_n 1, 1) := by decide +kernel
theorem dX1_wrongAbove_2 : decode cX1_wrongAbove 2 = .ok (.invokevirtual 100, 3) := by decide +kernel
theorem dX1_wrongAbove_5 : decode cX1_wrongAbove 5 = .ok (.aload_n 0, 1) := by decide +kernel
theorem dX1_wrongAbove_6 : decode cX1_wrongAbove 6 = .ok (.getfield 19, 3) := by decide +kernel
theorem dX1_wrongAbove_9 : decode cX1_wrongAbove 9 = .ok (.iload_n 1, 1) := by decide +kernel
theorem dX1_wrongAbove_10 : decode cX1_wrongAbove 10 = .ok (.invokestatic 93, 3) := by decide +kernel
theorem dX1_wrongAbove_13 : decode cX1_wrongAbove 13 = .ok (.i2l, 1) := by decide +kernel
theorem dX1_wrongAbove_14 : decode cX1_wrongAbove 14 = .ok (.lmul, 1) := by decide +kernel
theorem dX1_wrongAbove_15 : decode cX1_wrongAbove 15 = .ok (.aload_n 0, 1) := by decide +kernel
theorem dX1_wrongAbove_16 : decode cX1_wrongAbove 16 = .ok (.getfield 15, 3) := by decide +kernel
theorem dX1_wrongAbove_19 : decode cX1_wrongAbove 19 = .ok (.iload_n 1, 1) := by decide +kernel
theorem dX1_wrongAbove_20 : decode cX1_wrongAbove 20 = .ok (.invokestatic 93, 3) := by decide +kernel
theorem dX1_wrongAbove_23 : decode cX1_wrongAbove 23 = .ok (.i2l, 1) := by decide +kernel
theorem dX1_wrongAbove_24 : decode cX1_wrongAbove 24 = .ok (.aload_n 0, 1) := by decide +kernel
theorem dX1_wrongAbove_25 : decode cX1_wrongAbove 25 = .ok (.iload_n 1, 1) := by decide +kernel
theorem dX1_wrongAbove_26 : decode cX1_wrongAbove 26 = .ok (.invokevirtual 103, 3) := by decide +kernel
theorem dX1_wrongAbove_29 : decode cX1_wrongAbove 29 = .ok (.lmul, 1) := by decide +kernel
theorem dX1_wrongAbove_30 : decode cX1_wrongAbove 30 = .ok (.lsub, 1) := by decide +kernel
theorem dX1_wrongAbove_31 : decode cX1_wrongAbove 31 = .ok (.lreturn, 1) := by decide +kernel
theorem dX1_wrongBelow_0 : decode cX1_wrongBelow 0 = .ok (.aload_n 0, 1) := by decide +kernel
theorem dX1_wrongBelow_1 : decode cX1_wrongBelow 1 = .ok (.iload_n 1, 1) := by decide +kernel
theorem dX1_wrongBelow_2 : decode cX1_wrongBelow 2 = .ok (.invokevirtual 103, 3) := by decide +kernel
theorem dX1_wrongBelow_5 : decode cX1_wrongBelow 5 = .ok (.aload_n 0, 1) := by decide +kernel
theorem dX1_wrongBelow_6 : decode cX1_wrongBelow 6 = .ok (.getfield 19, 3) := by decide +kernel
theorem dX1_wrongBelow_9 : decode cX1_wrongBelow 9 = .ok (.iload_n 1, 1) := by decide +kernel
theorem dX1_wrongBelow_10 : decode cX1_wrongBelow 10 = .ok (.invokestatic 93, 3) := by decide +kernel
theorem dX1_wrongBelow_13 : decode cX1_wrongBelow 13 = .ok (.i2l, 1) := by decide +kernel
theorem dX1_wrongBelow_14 : decode cX1_wrongBelow 14 = .ok (.lmul, 1) := by decide +kernel
theorem dX1_wrongBelow_15 : decode cX1_wrongBelow 15 = .ok (.lreturn, 1) := by decide +kernel
theorem dX1_isRound_0 : decode cX1_isRound 0 = .ok (.iconst 0, 1) := by decide +kernel
theorem dX1_isRound_1 : decode cX1_isRound 1 = .ok (.istore_n 2, 1) := by decide +kernel
theorem dX1_isRound_2 : decode cX1_isRound 2 = .ok (.iconst 0, 1) := by decide +kernel
theorem dX1_isRound_3 : decode cX1_isRound 3 = .ok (.istore_n 3, 1) := by decide +kernel
theorem dX1_isRound_4 : decode cX1_isRound 4 = .ok (.iload_n 3, 1) := by decide +kernel
theorem dX1_isRound_5 : decode cX1_isRound 5 = .ok (.aload_n 0, 1) := by decide +kernel
theorem dX1_isRound_6 : decode cX1_isRound 6 = .ok (.getfield 38, 3) := by decide +kernel
theorem dX1_isRound_9 : decode cX1_isRound 9 = .ok (.iload_n 1, 1) := by decide +kernel
theorem dX1_isRound_10 : decode cX1_isRound 10 = .ok (.invokevirtual 74, 3) := by decide +kernel
theorem dX1_isRound_13 : decode cX1_isRound 13 = .ok (.if_icmp .ge 38, 3) := by decide +kernel
theorem dX1_isRound_16 : decode cX1_isRound 16 = .ok (.aload_n 0, 1) := by decide +kernel
theorem dX1_isRound_17 : decode cX1_isRound 17 = .ok (.getfield 31, 3) := by decide +kernel
theorem dX1_isRound_20 : decode cX1_isRound 20 = .ok (.aload_n 0, 1) := by decide +kernel
theorem dX1_isRound_21 : decode cX1_isRound 21 = .ok (.getfield 38, 3) := by decide +kernel
theorem dX1_isRound_24 : decode cX1_isRound 24 = .ok (.iload_n 1, 1) := by decide +kernel
theorem dX1_isRound_25 : decode cX1_isRound 25 = .ok (.iload_n 3, 1) := by decide +kernel
theorem dX1_isRound_26 : decode cX1_isRound 26 = .ok (.invokevirtual 89, 3) := by decide +kernel
theorem dX1_isRound_29 : decode cX1_isRound 29 = .ok (.invokevirtual 105, 3) := by decide +kernel
theorem dX1_isRound_32 : decode cX1_isRound 32 = .ok (.ifCond .eq 13, 3) := by decide +kernel
theorem dX1_isRound_35 : decode cX1_isRound 35 = .ok (.iload_n 2, 1) := by decide +kernel
theorem dX1_isRound_36 : decode cX1_isRound 36 = .ok (.ifCond .ne 7, 3) := by decide +kernel
theorem dX1_isRound_39 : decode cX1_isRound 39 = .ok (.iconst 1, 1) := by decide +kernel
theorem dX1_isRound_40 : decode cX1_isRound 40 = .ok (.goto 4, 3) := by decide +kernel
theorem dX1_isRound_43 : decode cX1_isRound 43 = .ok (.iconst 0, 1) := by decide +kernel
theorem dX1_isRound_44 : decode cX1_isRound 44 = .ok (.istore_n 2, 1) := by decide +kernel
theorem dX1_isRound_45 : decode cX1_isRound 45 = .ok (.iinc 3 1, 3) := by decide +kernel
theorem dX1_isRound_48 : decode cX1_isRound 48 = .ok (.goto (-44), 3) := by decide +kernel
theorem dX1_isRound_51 : decode cX1_isRound 51 = .ok (.iload_n 2, 1) := by decide +kernel
theorem dX1_isRound_52 : decode cX1_isRound 52 = .ok (.ireturn, 1) := by decide +kernel
theorem dX1_slackAbove_0 : decode cX1_slackAbove 0 = .ok (.lconst 0, 1) := by decide +kernel
theorem dX1_slackAbove_1 : decode cX1_slackAbove 1 = .ok (.lstore_n 2, 1) := by decide +kernel
theorem dX1_slackAbove_2 : decode cX1_slackAbove 2 = .ok (.lconst 1, 1) := by decide +kernel
theorem dX1_slackAbove_3 : decode cX1_slackAbove 3 = .ok (.lstore 4, 2) := by decide +kernel
theorem dX1_slackAbove_5 : decode cX1_slackAbove 5 = .ok (.iconst 0, 1) := by decide +kernel
theorem dX1_slackAbove_6 : decode cX1_slackAbove 6 = .ok (.istore 6, 2) := by decide +kernel
theorem dX1_slackAbove_8 : decode cX1_slackAbove 8 = .ok (.iload 6, 2) := by decide +kernel
theorem dX1_slackAbove_10 : decode cX1_slackAbove 10 = .ok (.aload_n 0, 1) := by decide +kernel
theorem dX1_slackAbove_11 : decode cX1_slackAbove 11 = .ok (.getfield 38, 3) := by decide +kernel
theorem dX1_slackAbove_14 : decode cX1_slackAbove 14 = .ok (.iload_n 1, 1) := by decide +kernel
theorem dX1_slackAbove_15 : decode cX1_slackAbove 15 = .ok (.invokevirtual 74, 3) := by decide +kernel
theorem dX1_slackAbove_18 : decode cX1_slackAbove 18 = .ok (.if_icmp .ge 69, 3) := by decide +kernel
theorem dX1_slackAbove_21 : decode cX1_slackAbove 21 = .ok (.aload_n 0, 1) := by decide +kernel
theorem dX1_slackAbove_22 : decode cX1_slackAbove 22 = .ok (.getfield 38, 3) := by decide +kernel
theorem dX1_slackAbove_25 : decode cX1_slackAbove 25 = .ok (.iload_n 1, 1) := by decide +kernel
theorem dX1_slackAbove_26 : decode cX1_slackAbove 26 = .ok (.iload 6, 2) := by decide +kernel
theorem dX1_slackAbove_28 : decode cX1_slackAbove 28 = .ok (.invokevirtual 89, 3) := by decide +kernel
theorem dX1_slackAbove_31 : decode cX1_slackAbove 31 = .ok (.istore 7, 2) := by decide +kernel
theorem dX1_slackAbove_33 : decode cX1_slackAbove 33 = .ok (.lload_n 2, 1) := by decide +kernel
theorem dX1_slackAbove_34 : decode cX1_slackAbove 34 = .ok (.aload_n 0, 1) := by decide +kernel
theorem dX1_slackAbove_35 : decode cX1_slackAbove 35 = .ok (.getfield 31, 3) := by decide +kernel
theorem dX1_slackAbove_38 : decode cX1_slackAbove 38 = .ok (.getfield 86, 3) := by decide +kernel
theorem dX1_slackAbove_41 : decode cX1_slackAbove 41 = .ok (.iload 7, 2) := by decide +kernel
theorem dX1_slackAbove_43 : decode cX1_slackAbove 43 = .ok (.invokestatic 93, 3) := by decide +kernel
theorem dX1_slackAbove_46 : decode cX1_slackAbove 46 = .ok (.i2l, 1) := by decide +kernel
theorem dX1_slackAbove_47 : decode cX1_slackAbove 47 = .ok (.lmul, 1) := by decide +kernel
theorem dX1_slackAbove_48 : decode cX1_slackAbove 48 = .ok (.aload_n 0, 1) := by decide +kernel
theorem dX1_slackAbove_49 : decode cX1_slackAbove 49 = .ok (.getfield 31, 3) := by decide +kernel
theorem dX1_slackAbove_52 : decode cX1_slackAbove 52 = .ok (.iload 7, 2) := by decide +kernel
theorem dX1_slackAbove_54 : decode cX1_slackAbove 54 = .ok (.invokevirtual 108, 3) := by decide +kernel
theorem dX1_slackAbove_57 : decode cX1_slackAbove 57 = .ok (.i2l, 1) := by decide +kernel
theorem dX1_slackAbove_58 : decode cX1_slackAbove 58 = .ok (.lload 4, 2) := by decide +kernel
theorem dX1_slackAbove_60 : decode cX1_slackAbove 60 = .ok (.lmul, 1) := by decide +kernel
theorem dX1_slackAbove_61 : decode cX1_slackAbove 61 = .ok (.ladd, 1) := by decide +kernel
theorem dX1_slackAbove_62 : decode cX1_slackAbove 62 = .ok (.lstore_n 2, 1) := by decide +kernel
theorem dX1_slackAbove_63 : decode cX1_slackAbove 63 = .ok (.lload 4, 2) := by decide +kernel
theorem dX1_slackAbove_65 : decode cX1_slackAbove 65 = .ok (.aload_n 0, 1) := by decide +kernel
theorem dX1_slackAbove_66 : decode cX1_slackAbove 66 = .ok (.getfield 31, 3) := by decide +kernel
theorem dX1_slackAbove_69 : decode cX1_slackAbove 69 = .ok (.getfield 97, 3) := by decide +kernel
theorem dX1_slackAbove_72 : decode cX1_slackAbove 72 = .ok (.iload 7, 2) := by decide +kernel
theorem dX1_slackAbove_74 : decode cX1_slackAbove 74 = .ok (.invokestatic 93, 3) := by decide +kernel
theorem dX1_slackAbove_77 : decode cX1_slackAbove 77 = .ok (.i2l, 1) := by decide +kernel
theorem dX1_slackAbove_78 : decode cX1_slackAbove 78 = .ok (.lmul, 1) := by decide +kernel
theorem dX1_slackAbove_79 : decode cX1_slackAbove 79 = .ok (.lstore 4, 2) := by decide +kernel
theorem dX1_slackAbove_81 : decode cX1_slackAbove 81 = .ok (.iinc 6 1, 3) := by decide +kernel
theorem dX1_slackAbove_84 : decode cX1_slackAbove 84 = .ok (.goto (-76), 3) := by decide +kernel
theorem dX1_slackAbove_87 : decode cX1_slackAbove 87 = .ok (.lload_n 2, 1) := by decide +kernel
theorem dX1_slackAbove_88 : decode cX1_slackAbove 88 = .ok (.lreturn, 1) := by decide +kernel
theorem dX1_slackBelow_0 : decode cX1_slackBelow 0 = .ok (.ldc2_w 111, 3) := by decide +kernel
theorem dX1_slackBelow_3 : decode cX1_slackBelow 3 = .ok (.aload_n 0, 1) := by decide +kernel
theorem dX1_slackBelow_4 : decode cX1_slackBelow 4 = .ok (.iload_n 1, 1) := by decide +kernel
theorem dX1_slackBelow_5 : decode cX1_slackBelow 5 = .ok (.invokevirtual 103, 3) := by decide +kernel
theorem dX1_slackBelow_8 : decode cX1_slackBelow 8 = .ok (.lmul, 1) := by decide +kernel
theorem dX1_slackBelow_9 : decode cX1_slackBelow 9 = .ok (.lreturn, 1) := by decide +kernel
theorem dX1_standing_0 : decode cX1_standing 0 = .ok (.ldc2_w 113, 3) := by decide +kernel
theorem dX1_standing_3 : decode cX1_standing 3 = .ok (.aload_n 0, 1) := by decide +kernel
theorem dX1_standing_4 : decode cX1_standing 4 = .ok (.getfield 42, 3) := by decide +kernel
theorem dX1_standing_7 : decode cX1_standing 7 = .ok (.i2l, 1) := by decide +kernel
theorem dX1_standing_8 : decode cX1_standing 8 = .ok (.lmul, 1) := by decide +kernel
theorem dX1_standing_9 : decode cX1_standing 9 = .ok (.aload_n 0, 1) := by decide +kernel
theorem dX1_standing_10 : decode cX1_standing 10 = .ok (.iload_n 1, 1) := by decide +kernel
theorem dX1_standing_11 : decode cX1_standing 11 = .ok (.invokevirtual 100, 3) := by decide +kernel
theorem dX1_standing_14 : decode cX1_standing 14 = .ok (.lmul, 1) := by decide +kernel
theorem dX1_standing_15 : decode cX1_standing 15 = .ok (.aload_n 0, 1) := by decide +kernel
theorem dX1_standing_16 : decode cX1_standing 16 = .ok (.iload_n 1, 1) := by decide +kernel
theorem dX1_standing_17 : decode cX1_standing 17 = .ok (.invokevirtual 103, 3) := by decide +kernel
theorem dX1_standing_20 : decode cX1_standing 20 = .ok (.invokestatic 115, 3) := by decide +kernel
theorem dX1_standing_23 : decode cX1_standing 23 = .ok (.lstore_n 2, 1) := by decide +kernel
theorem dX1_standing_24 : decode cX1_standing 24 = .ok (.aload_n 0, 1) := by decide +kernel
theorem dX1_standing_25 : decode cX1_standing 25 = .ok (.getfield 45, 3) := by decide +kernel
theorem dX1_standing_28 : decode cX1_standing 28 = .ok (.ifCond .eq 23, 3) := by decide +kernel
theorem dX1_standing_31 : decode cX1_standing 31 = .ok (.lload_n 2, 1) := by decide +kernel
theorem dX1_standing_32 : decode cX1_standing 32 = .ok (.ldc2_w 113, 3) := by decide +kernel
theorem dX1_standing_35 : decode cX1_standing 35 = .ok (.aload_n 0, 1) := by decide +kernel
theorem dX1_standing_36 : decode cX1_standing 36 = .ok (.iload_n 1, 1) := by decide +kernel
theorem dX1_standing_37 : decode cX1_standing 37 = .ok (.invokevirtual 119, 3) := by decide +kernel
theorem dX1_standing_40 : decode cX1_standing 40 = .ok (.lmul, 1) := by decide +kernel
theorem dX1_standing_41 : decode cX1_standing 41 = .ok (.aload_n 0, 1) := by decide +kernel
theorem dX1_standing_42 : decode cX1_standing 42 = .ok (.iload_n 1, 1) := by decide +kernel
theorem dX1_standing_43 : decode cX1_standing 43 = .ok (.invokevirtual 122, 3) := by decide +kernel
theorem dX1_standing_46 : decode cX1_standing 46 = .ok (.invokestatic 115, 3) := by decide +kernel
theorem dX1_standing_49 : decode cX1_standing 49 = .ok (.ladd, 1) := by decide +kernel
theorem dX1_standing_50 : decode cX1_standing 50 = .ok (.lstore_n 2, 1) := by decide +kernel
theorem dX1_standing_51 : decode cX1_standing 51 = .ok (.aload_n 0, 1) := by decide +kernel
theorem dX1_standing_52 : decode cX1_standing 52 = .ok (.iload_n 1, 1) := by decide +kernel
theorem dX1_standing_53 : decode cX1_standing 53 = .ok (.invokevirtual 125, 3) := by decide +kernel
theorem dX1_standing_56 : decode cX1_standing 56 = .ok (.ifCond .eq 8, 3) := by decide +kernel
theorem dX1_standing_59 : decode cX1_standing 59 = .ok (.lload_n 2, 1) := by decide +kernel
theorem dX1_standing_60 : decode cX1_standing 60 = .ok (.lneg, 1) := by decide +kernel
theorem dX1_standing_61 : decode cX1_standing 61 = .ok (.goto 4, 3) := by decide +kernel
theorem dX1_standing_64 : decode cX1_standing 64 = .ok (.lload_n 2, 1) := by decide +kernel
theorem dX1_standing_65 : decode cX1_standing 65 = .ok (.lreturn, 1) := by decide +kernel
theorem dX1_slips_0 : decode cX1_slips 0 = .ok (.iload_n 2, 1) := by decide +kernel
theorem dX1_slips_1 : decode cX1_slips 1 = .ok (.istore_n 3, 1) := by decide +kernel
theorem dX1_slips_2 : decode cX1_slips 2 = .ok (.iconst 0, 1) := by decide +kernel
theorem dX1_slips_3 : decode cX1_slips 3 = .ok (.istore 4, 2) := by decide +kernel
theorem dX1_slips_5 : decode cX1_slips 5 = .ok (.iload 4, 2) := by decide +kernel
theorem dX1_slips_7 : decode cX1_slips 7 = .ok (.aload_n 0, 1) := by decide +kernel
theorem dX1_slips_8 : decode cX1_slips 8 = .ok (.getfield 38, 3) := by decide +kernel
theorem dX1_slips_11 : decode cX1_slips 11 = .ok (.iload_n 1, 1) := by decide +kernel
theorem dX1_slips_12 : decode cX1_slips 12 = .ok (.invokevirtual 74, 3) := by decide +kernel
theorem dX1_slips_15 : decode cX1_slips 15 = .ok (.if_icmp .ge 47, 3) := by decide +kernel
theorem dX1_slips_18 : decode cX1_slips 18 = .ok (.iload_n 3, 1) := by decide +kernel
theorem dX1_slips_19 : decode cX1_slips 19 = .ok (.ldc 128, 2) := by decide +kernel
theorem dX1_slips_21 : decode cX1_slips 21 = .ok (.imul, 1) := by decide +kernel
theorem dX1_slips_22 : decode cX1_slips 22 = .ok (.sipush 12345, 3) := by decide +kernel
theorem dX1_slips_25 : decode cX1_slips 25 = .ok (.iadd, 1) := by decide +kernel
theorem dX1_slips_26 : decode cX1_slips 26 = .ok (.istore_n 3, 1) := by decide +kernel
theorem dX1_slips_27 : decode cX1_slips 27 = .ok (.iload_n 3, 1) := by decide +kernel
theorem dX1_slips_28 : decode cX1_slips 28 = .ok (.bipush 16, 2) := by decide +kernel
theorem dX1_slips_30 : decode cX1_slips 30 = .ok (.iushr, 1) := by decide +kernel
theorem dX1_slips_31 : decode cX1_slips 31 = .ok (.bipush 100, 2) := by decide +kernel
theorem dX1_slips_33 : decode cX1_slips 33 = .ok (.irem, 1) := by decide +kernel
theorem dX1_slips_34 : decode cX1_slips 34 = .ok (.aload_n 0, 1) := by decide +kernel
theorem dX1_slips_35 : decode cX1_slips 35 = .ok (.getfield 31, 3) := by decide +kernel
theorem dX1_slips_38 : decode cX1_slips 38 = .ok (.aload_n 0, 1) := by decide +kernel
theorem dX1_slips_39 : decode cX1_slips 39 = .ok (.getfield 38, 3) := by decide +kernel
theorem dX1_slips_42 : decode cX1_slips 42 = .ok (.iload_n 1, 1) := by decide +kernel
theorem dX1_slips_43 : decode cX1_slips 43 = .ok (.iload 4, 2) := by decide +kernel
theorem dX1_slips_45 : decode cX1_slips 45 = .ok (.invokevirtual 89, 3) := by decide +kernel
theorem dX1_slips_48 : decode cX1_slips 48 = .ok (.invokevirtual 108, 3) := by decide +kernel
theorem dX1_slips_51 : decode cX1_slips 51 = .ok (.if_icmp .ge 5, 3) := by decide +kernel
theorem dX1_slips_54 : decode cX1_slips 54 = .ok (.iconst 1, 1) := by decide +kernel
theorem dX1_slips_55 : decode cX1_slips 55 = .ok (.ireturn, 1) := by decide +kernel
theorem dX1_slips_56 : decode cX1_slips 56 = .ok (.iinc 4 1, 3) := by decide +kernel
theorem dX1_slips_59 : decode cX1_slips 59 = .ok (.goto (-54), 3) := by decide +kernel
theorem dX1_slips_62 : decode cX1_slips 62 = .ok (.iconst 0, 1) := by decide +kernel
theorem dX1_slips_63 : decode cX1_slips 63 = .ok (.ireturn, 1) := by decide +kernel
theorem dX1_crankBy_0 : decode cX1_crankBy 0 = .ok (.aload_n 0, 1) := by decide +kernel
theorem dX1_crankBy_1 : decode cX1_crankBy 1 = .ok (.sipush (-9999), 3) := by decide +kernel
theorem dX1_crankBy_4 : decode cX1_crankBy 4 = .ok (.sipush 9999, 3) := by decide +kernel
theorem dX1_crankBy_7 : decode cX1_crankBy 7 = .ok (.aload_n 0, 1) := by decide +kernel
theorem dX1_crankBy_8 : decode cX1_crankBy 8 = .ok (.getfield 42, 3) := by decide +kernel
theorem dX1_crankBy_11 : decode cX1_crankBy 11 = .ok (.iload_n 1, 1) := by decide +kernel
theorem dX1_crankBy_12 : decode cX1_crankBy 12 = .ok (.iadd, 1) := by decide +kernel
theorem dX1_crankBy_13 : decode cX1_crankBy 13 = .ok (.invokestatic 129, 3) := by decide +kernel
theorem dX1_crankBy_16 : decode cX1_crankBy 16 = .ok (.invokestatic 134, 3) := by decide +kernel
theorem dX1_crankBy_19 : decode cX1_crankBy 19 = .ok (.putfield 42, 3) := by decide +kernel
theorem dX1_crankBy_22 : decode cX1_crankBy 22 = .ok (.aload_n 0, 1) := by decide +kernel
theorem dX1_crankBy_23 : decode cX1_crankBy 23 = .ok (.iload_n 1, 1) := by decide +kernel
theorem dX1_crankBy_24 : decode cX1_crankBy 24 = .ok (.ifCond .ge 7, 3) := by decide +kernel
theorem dX1_crankBy_27 : decode cX1_crankBy 27 = .ok (.iconst 1, 1) := by decide +kernel
theorem dX1_crankBy_28 : decode cX1_crankBy 28 = .ok (.goto 4, 3) := by decide +kernel
theorem dX1_crankBy_31 : decode cX1_crankBy 31 = .ok (.iconst 0, 1) := by decide +kernel
theorem dX1_crankBy_32 : decode cX1_crankBy 32 = .ok (.putfield 45, 3) := by decide +kernel
theorem dX1_crankBy_35 : decode cX1_crankBy 35 = .ok (.return_, 1) := by decide +kernel
theorem dX1_followPlan_0 : decode cX1_followPlan 0 = .ok (.iconst 0, 1) := by decide +kernel
theorem dX1_followPlan_1 : decode cX1_followPlan 1 = .ok (.istore_n 1, 1) := by decide +kernel
theorem dX1_followPlan_2 : decode cX1_followPlan 2 = .ok (.iload_n 1, 1) := by decide +kernel
theorem dX1_followPlan_3 : decode cX1_followPlan 3 = .ok (.aload_n 0, 1) := by decide +kernel
theorem dX1_followPlan_4 : decode cX1_followPlan 4 = .ok (.getfield 52, 3) := by decide +kernel
theorem dX1_followPlan_7 : decode cX1_followPlan 7 = .ok (.getfield 137, 3) := by decide +kernel
theorem dX1_followPlan_10 : decode cX1_followPlan 10 = .ok (.if_icmp .ge 93, 3) := by decide +kernel
theorem dX1_followPlan_13 : decode cX1_followPlan 13 = .ok (.aload_n 0, 1) := by decide +kernel
theorem dX1_followPlan_14 : decode cX1_followPlan 14 = .ok (.getfield 52, 3) := by decide +kernel
theorem dX1_followPlan_17 : decode cX1_followPlan 17 = .ok (.getfield 140, 3) := by decide +kernel
theorem dX1_followPlan_20 : decode cX1_followPlan 20 = .ok (.iload_n 1, 1) := by decide +kernel
theorem dX1_followPlan_21 : decode cX1_followPlan 21 = .ok (.invokestatic 93, 3) := by decide +kernel
theorem dX1_followPlan_24 : decode cX1_followPlan 24 = .ok (.istore_n 2, 1) := by decide +kernel
theorem dX1_followPlan_25 : decode cX1_followPlan 25 = .ok (.aload_n 0, 1) := by decide +kernel
theorem dX1_followPlan_26 : decode cX1_followPlan 26 = .ok (.getfield 52, 3) := by decide +kernel
theorem dX1_followPlan_29 : decode cX1_followPlan 29 = .ok (.getfield 143, 3) := by decide +kernel
theorem dX1_followPlan_32 : decode cX1_followPlan 32 = .ok (.iload_n 1, 1) := by decide +kernel
theorem dX1_followPlan_33 : decode cX1_followPlan 33 = .ok (.invokestatic 93, 3) := by decide +kernel
theorem dX1_followPlan_36 : decode cX1_followPlan 36 = .ok (.istore_n 3, 1) := by decide +kernel
theorem dX1_followPlan_37 : decode cX1_followPlan 37 = .ok (.iload_n 2, 1) := by decide +kernel
theorem dX1_followPlan_38 : decode cX1_followPlan 38 = .ok (.ifCond .ne 11, 3) := by decide +kernel
theorem dX1_followPlan_41 : decode cX1_followPlan 41 = .ok (.aload_n 0, 1) := by decide +kernel
theorem dX1_followPlan_42 : decode cX1_followPlan 42 = .ok (.iload_n 3, 1) := by decide +kernel
theorem dX1_followPlan_43 : decode cX1_followPlan 43 = .ok (.invokevirtual 146, 3) := by decide +kernel
theorem dX1_followPlan_46 : decode cX1_followPlan 46 = .ok (.goto 51, 3) := by decide +kernel
theorem dX1_followPlan_49 : decode cX1_followPlan 49 = .ok (.iload_n 2, 1) := by decide +kernel
theorem dX1_followPlan_50 : decode cX1_followPlan 50 = .ok (.iconst 1, 1) := by decide +kernel
theorem dX1_followPlan_51 : decode cX1_followPlan 51 = .ok (.if_icmp .ne 22, 3) := by decide +kernel
theorem dX1_followPlan_54 : decode cX1_followPlan 54 = .ok (.aload_n 0, 1) := by decide +kernel
theorem dX1_followPlan_55 : decode cX1_followPlan 55 = .ok (.iload_n 3, 1) := by decide +kernel
theorem dX1_followPlan_56 : decode cX1_followPlan 56 = .ok (.invokevirtual 150, 3) := by decide +kernel
theorem dX1_followPlan_59 : decode cX1_followPlan 59 = .ok (.ifCond .eq 14, 3) := by decide +kernel
theorem dX1_followPlan_62 : decode cX1_followPlan 62 = .ok (.aload_n 0, 1) := by decide +kernel
theorem dX1_followPlan_63 : decode cX1_followPlan 63 = .ok (.getfield 38, 3) := by decide +kernel
theorem dX1_followPlan_66 : decode cX1_followPlan 66 = .ok (.iload_n 3, 1) := by decide +kernel
theorem dX1_followPlan_67 : decode cX1_followPlan 67 = .ok (.invokevirtual 153, 3) := by decide +kernel
theorem dX1_followPlan_70 : decode cX1_followPlan 70 = .ok (.goto 27, 3) := by decide +kernel
theorem dX1_followPlan_73 : decode cX1_followPlan 73 = .ok (.iload_n 2, 1) := by decide +kernel
theorem dX1_followPlan_74 : decode cX1_followPlan 74 = .ok (.iconst 2, 1) := by decide +kernel
theorem dX1_followPlan_75 : decode cX1_followPlan 75 = .ok (.if_icmp .ne 22, 3) := by decide +kernel
theorem dX1_followPlan_78 : decode cX1_followPlan 78 = .ok (.aload_n 0, 1) := by decide +kernel
theorem dX1_followPlan_79 : decode cX1_followPlan 79 = .ok (.getfield 31, 3) := by decide +kernel
theorem dX1_followPlan_82 : decode cX1_followPlan 82 = .ok (.iload_n 3, 1) := by decide +kernel
theorem dX1_followPlan_83 : decode cX1_followPlan 83 = .ok (.invokevirtual 156, 3) := by decide +kernel
theorem dX1_followPlan_86 : decode cX1_followPlan 86 = .ok (.ifCond .eq 11, 3) := by decide +kernel
theorem dX1_followPlan_89 : decode cX1_followPlan 89 = .ok (.aload_n 0, 1) := by decide +kernel
theorem dX1_followPlan_90 : decode cX1_followPlan 90 = .ok (.getfield 31, 3) := by decide +kernel
theorem dX1_followPlan_93 : decode cX1_followPlan 93 = .ok (.iload_n 3, 1) := by decide +kernel
theorem dX1_followPlan_94 : decode cX1_followPlan 94 = .ok (.invokevirtual 159, 3) := by decide +kernel
theorem dX1_followPlan_97 : decode cX1_followPlan 97 = .ok (.iinc 1 1, 3) := by decide +kernel
theorem dX1_followPlan_100 : decode cX1_followPlan 100 = .ok (.goto (-98), 3) := by decide +kernel
theorem dX1_followPlan_103 : decode cX1_followPlan 103 = .ok (.return_, 1) := by decide +kernel
theorem dX2_init_0 : decode cX2_init 0 = .ok (.aload_n 0, 1) := by decide +kernel
theorem dX2_init_1 : decode cX2_init 1 = .ok (.invokespecial 3, 3) := by decide +kernel
theorem dX2_init_4 : decode cX2_init 4 = .ok (.aload_n 0, 1) := by decide +kernel
theorem dX2_init_5 : decode cX2_init 5 = .ok (.iconst 0, 1) := by decide +kernel
theorem dX2_init_6 : decode cX2_init 6 = .ok (.putfield 9, 3) := by decide +kernel
theorem dX2_init_9 : decode cX2_init 9 = .ok (.aload_n 0, 1) := by decide +kernel
theorem dX2_init_10 : decode cX2_init 10 = .ok (.bipush 10, 2) := by decide +kernel
theorem dX2_init_12 : decode cX2_init 12 = .ok (.newarray .int, 2) := by decide +kernel
theorem dX2_init_14 : decode cX2_init 14 = .ok (.putfield 15, 3) := by decide +kernel
theorem dX2_init_17 : decode cX2_init 17 = .ok (.aload_n 0, 1) := by decide +kernel
theorem dX2_init_18 : decode cX2_init 18 = .ok (.bipush 10, 2) := by decide +kernel
theorem dX2_init_20 : decode cX2_init 20 = .ok (.newarray .int, 2) := by decide +kernel
theorem dX2_init_22 : decode cX2_init 22 = .ok (.putfield 19, 3) := by decide +kernel
theorem dX2_init_25 : decode cX2_init 25 = .ok (.aload_n 0, 1) := by decide +kernel
theorem dX2_init_26 : decode cX2_init 26 = .ok (.bipush 10, 2) := by decide +kernel
theorem dX2_init_28 : decode cX2_init 28 = .ok (.newarray .int, 2) := by decide +kernel
theorem dX2_init_30 : decode cX2_init 30 = .ok (.putfield 22, 3) := by decide +kernel
theorem dX2_init_33 : decode cX2_init 33 = .ok (.aload_n 0, 1) := by decide +kernel
theorem dX2_init_34 : decode cX2_init 34 = .ok (.bipush 10, 2) := by decide +kernel
theorem dX2_init_36 : decode cX2_init 36 = .ok (.newarray .int, 2) := by decide +kernel
theorem dX2_init_38 : decode cX2_init 38 = .ok (.putfield 25, 3) := by decide +kernel
theorem dX2_init_41 : decode cX2_init 41 = .ok (.return_, 1) := by decide +kernel
theorem dX2_copyFrom_0 : decode cX2_copyFrom 0 = .ok (.aload_n 0, 1) := by decide +kernel
theorem dX2_copyFrom_1 : decode cX2_copyFrom 1 = .ok (.aload_n 1, 1) := by decide +kernel
theorem dX2_copyFrom_2 : decode cX2_copyFrom 2 = .ok (.getfield 9, 3) := by decide +kernel
theorem dX2_copyFrom_5 : decode cX2_copyFrom 5 = .ok (.putfield 9, 3) := by decide +kernel
theorem dX2_copyFrom_8 : decode cX2_copyFrom 8 = .ok (.aload_n 1, 1) := by decide +kernel
theorem dX2_copyFrom_9 : decode cX2_copyFrom 9 = .ok (.getfield 15, 3) := by decide +kernel
theorem dX2_copyFrom_12 : decode cX2_copyFrom 12 = .ok (.aload_n 0, 1) := by decide +kernel
theorem dX2_copyFrom_13 : decode cX2_copyFrom 13 = .ok (.getfield 15, 3) := by decide +kernel
theorem dX2_copyFrom_16 : decode cX2_copyFrom 16 = .ok (.invokestatic 28, 3) := by decide +kernel
theorem dX2_copyFrom_19 : decode cX2_copyFrom 19 = .ok (.aload_n 1, 1) := by decide +kernel
theorem dX2_copyFrom_20 : decode cX2_copyFrom 20 = .ok (.getfield 19, 3) := by decide +kernel
theorem dX2_copyFrom_23 : decode cX2_copyFrom 23 = .ok (.aload_n 0, 1) := by decide +kernel
theorem dX2_copyFrom_24 : decode cX2_copyFrom 24 = .ok (.getfield 19, 3) := by decide +kernel
theorem dX2_copyFrom_27 : decode cX2_copyFrom 27 = .ok (.invokestatic 28, 3) := by decide +kernel
theorem dX2_copyFrom_30 : decode cX2_copyFrom 30 = .ok (.aload_n 1, 1) := by decide +kernel
theorem dX2_copyFrom_31 : decode cX2_copyFrom 31 = .ok (.getfield 22, 3) := by decide +kernel
theorem dX2_copyFrom_34 : decode cX2_copyFrom 34 = .ok (.aload_n 0, 1) := by decide +kernel
theorem dX2_copyFrom_35 : decode cX2_copyFrom 35 = .ok (.getfield 22, 3) := by decide +kernel
theorem dX2_copyFrom_38 : decode cX2_copyFrom 38 = .ok (.invokestatic 28, 3) := by decide +kernel
theorem dX2_copyFrom_41 : decode cX2_copyFrom 41 = .ok (.aload_n 1, 1) := by decide +kernel
theorem dX2_copyFrom_42 : decode cX2_copyFrom 42 = .ok (.getfield 25, 3) := by decide +kernel
theorem dX2_copyFrom_45 : decode cX2_copyFrom 45 = .ok (.aload_n 0, 1) := by decide +kernel
theorem dX2_copyFrom_46 : decode cX2_copyFrom 46 = .ok (.getfield 25, 3) := by decide +kernel
theorem dX2_copyFrom_49 : decode cX2_copyFrom 49 = .ok (.invokestatic 28, 3) := by decide +kernel
theorem dX2_copyFrom_52 : decode cX2_copyFrom 52 = .ok (.return_, 1) := by decide +kernel
theorem dX2_has_0 : decode cX2_has 0 = .ok (.iload_n 1, 1) := by decide +kernel
theorem dX2_has_1 : decode cX2_has 1 = .ok (.ifCond .lt 15, 3) := by decide +kernel
theorem dX2_has_4 : decode cX2_has 4 = .ok (.iload_n 1, 1) := by decide +kernel
theorem dX2_has_5 : decode cX2_has 5 = .ok (.aload_n 0, 1) := by decide +kernel
theorem dX2_has_6 : decode cX2_has 6 = .ok (.getfield 9, 3) := by decide +kernel
theorem dX2_has_9 : decode cX2_has 9 = .ok (.if_icmp .ge 7, 3) := by decide +kernel
theorem dX2_has_12 : decode cX2_has 12 = .ok (.iconst 1, 1) := by decide +kernel
theorem dX2_has_13 : decode cX2_has 13 = .ok (.goto 4, 3) := by decide +kernel
theorem dX2_has_16 : decode cX2_has 16 = .ok (.iconst 0, 1) := by decide +kernel
theorem dX2_has_17 : decode cX2_has 17 = .ok (.ireturn, 1) := by decide +kernel
theorem dX2_add_0 : decode cX2_add 0 = .ok (.aload_n 0, 1) := by decide +kernel
theorem dX2_add_1 : decode cX2_add 1 = .ok (.getfield 15, 3) := by decide +kernel
theorem dX2_add_4 : decode cX2_add 4 = .ok (.aload_n 0, 1) := by decide +kernel
theorem dX2_add_5 : decode cX2_add 5 = .ok (.getfield 9, 3) := by decide +kernel
theorem dX2_add_8 : decode cX2_add 8 = .ok (.iload_n 1, 1) := by decide +kernel
theorem dX2_add_9 : decode cX2_add 9 = .ok (.invokestatic 32, 3) := by decide +kernel
theorem dX2_add_12 : decode cX2_add 12 = .ok (.aload_n 0, 1) := by decide +kernel
theorem dX2_add_13 : decode cX2_add 13 = .ok (.getfield 19, 3) := by decide +kernel
theorem dX2_add_16 : decode cX2_add 16 = .ok (.aload_n 0, 1) := by decide +kernel
theorem dX2_add_17 : decode cX2_add 17 = .ok (.getfield 9, 3) := by decide +kernel
theorem dX2_add_20 : decode cX2_add 20 = .ok (.iload_n 2, 1) := by decide +kernel
theorem dX2_add_21 : decode cX2_add 21 = .ok (.invokestatic 32, 3) := by decide +kernel
theorem dX2_add_24 : decode cX2_add 24 = .ok (.aload_n 0, 1) := by decide +kernel
theorem dX2_add_25 : decode cX2_add 25 = .ok (.getfield 22, 3) := by decide +kernel
theorem dX2_add_28 : decode cX2_add 28 = .ok (.aload_n 0, 1) := by decide +kernel
theorem dX2_add_29 : decode cX2_add 29 = .ok (.getfield 9, 3) := by decide +kernel
theorem dX2_add_32 : decode cX2_add 32 = .ok (.iload_n 3, 1) := by decide +kernel
theorem dX2_add_33 : decode cX2_add 33 = .ok (.invokestatic 32, 3) := by decide +kernel
theorem dX2_add_36 : decode cX2_add 36 = .ok (.aload_n 0, 1) := by decide +kernel
theorem dX2_add_37 : decode cX2_add 37 = .ok (.getfield 25, 3) := by decide +kernel
theorem dX2_add_40 : decode cX2_add 40 = .ok (.aload_n 0, 1) := by decide +kernel
theorem dX2_add_41 : decode cX2_add 41 = .ok (.getfield 9, 3) := by decide +kernel
theorem dX2_add_44 : decode cX2_add 44 = .ok (.iload 4, 2) := by decide +kernel
theorem dX2_add_46 : decode cX2_add 46 = .ok (.invokestatic 32, 3) := by decide +kernel
theorem dX2_add_49 : decode cX2_add 49 = .ok (.aload_n 0, 1) := by decide +kernel
theorem dX2_add_50 : decode cX2_add 50 = .ok (.dup, 1) := by decide +kernel
theorem dX2_add_51 : decode cX2_add 51 = .ok (.getfield 9, 3) := by decide +kernel
theorem dX2_add_54 : decode cX2_add 54 = .ok (.iconst 1, 1) := by decide +kernel
theorem dX2_add_55 : decode cX2_add 55 = .ok (.iadd, 1) := by decide +kernel
theorem dX2_add_56 : decode cX2_add 56 = .ok (.putfield 9, 3) := by decide +kernel
theorem dX2_add_59 : decode cX2_add 59 = .ok (.return_, 1) := by decide +kernel
theorem dX2_goesRound_0 : decode cX2_goesRound 0 = .ok (.aload_n 0, 1) := by decide +kernel
theorem dX2_goesRound_1 : decode cX2_goesRound 1 = .ok (.getfield 15, 3) := by decide +kernel
theorem dX2_goesRound_4 : decode cX2_goesRound 4 = .ok (.iload_n 1, 1) := by decide +kernel
theorem dX2_goesRound_5 : decode cX2_goesRound 5 = .ok (.invokestatic 36, 3) := by decide +kernel
theorem dX2_goesRound_8 : decode cX2_goesRound 8 = .ok (.iconst 5, 1) := by decide +kernel
theorem dX2_goesRound_9 : decode cX2_goesRound 9 = .ok (.if_icmp .eq 7, 3) := by decide +kernel
theorem dX2_goesRound_12 : decode cX2_goesRound 12 = .ok (.iconst 1, 1) := by decide +kernel
theorem dX2_goesRound_13 : decode cX2_goesRound 13 = .ok (.goto 4, 3) := by decide +kernel
theorem dX2_goesRound_16 : decode cX2_goesRound 16 = .ok (.iconst 0, 1) := by decide +kernel
theorem dX2_goesRound_17 : decode cX2_goesRound 17 = .ok (.ireturn, 1) := by decide +kernel
theorem dX2_play_0 : decode cX2_play 0 = .ok (.aload_n 0, 1) := by decide +kernel
theorem dX2_play_1 : decode cX2_play 1 = .ok (.getfield 19, 3) := by decide +kernel
theorem dX2_play_4 : decode cX2_play 4 = .ok (.iload_n 1, 1) := by decide +kernel
theorem dX2_play_5 : decode cX2_play 5 = .ok (.invokestatic 36, 3) := by decide +kernel
theorem dX2_play_8 : decode cX2_play 8 = .ok (.istore_n 2, 1) := by decide +kernel
theorem dX2_play_9 : decode cX2_play 9 = .ok (.aload_n 0, 1) := by decide +kernel
theorem dX2_play_10 : decode cX2_play 10 = .ok (.getfield 15, 3) := by decide +kernel
theorem dX2_play_13 : decode cX2_play 13 = .ok (.iload_n 1, 1) := by decide +kernel
theorem dX2_play_14 : decode cX2_play 14 = .ok (.invokestatic 36, 3) := by decide +kernel
theorem dX2_play_17 : decode cX2_play 17 = .ok (.tableswitch 59 1 4 #[31, 35, 39, 45], 31) := by decide +kernel
theorem dX2_play_48 : decode cX2_play 48 = .ok (.iload_n 2, 1) := by decide +kernel
theorem dX2_play_49 : decode cX2_play 49 = .ok (.iconst 3, 1) := by decide +kernel
theorem dX2_play_50 : decode cX2_play 50 = .ok (.iadd, 1) := by decide +kernel
theorem dX2_play_51 : decode cX2_play 51 = .ok (.ireturn, 1) := by decide +kernel
theorem dX2_play_52 : decode cX2_play 52 = .ok (.iload_n 2, 1) := by decide +kernel
theorem dX2_play_53 : decode cX2_play 53 = .ok (.iconst 2, 1) := by decide +kernel
theorem dX2_play_54 : decode cX2_play 54 = .ok (.idiv, 1) := by decide +kernel
theorem dX2_play_55 : decode cX2_play 55 = .ok (.ireturn, 1) := by decide +kernel
theorem dX2_play_56 : decode cX2_play 56 = .ok (.iconst 2, 1) := by decide +kernel
theorem dX2_play_57 : decode cX2_play 57 = .ok (.iload_n 2, 1) := by decide +kernel
theorem dX2_play_58 : decode cX2_play 58 = .ok (.iconst 3, 1) := by decide +kernel
theorem dX2_play_59 : decode cX2_play 59 = .ok (.iadd, 1) := by decide +kernel
theorem dX2_play_60 : decode cX2_play 60 = .ok (.imul, 1) := by decide +kernel
theorem dX2_play_61 : decode cX2_play 61 = .ok (.ireturn, 1) := by decide +kernel
theorem dX2_play_62 : decode cX2_play 62 = .ok (.iload_n 2, 1) := by decide +kernel
theorem dX2_play_63 : decode cX2_play 63 = .ok (.iconst 2, 1) := by decide +kernel
theorem dX2_play_64 : decode cX2_play 64 = .ok (.irem, 1) := by decide +kernel
theorem dX2_play_65 : decode cX2_play 65 = .ok (.ifCond .ne 7, 3) := by decide +kernel
theorem dX2_play_68 : decode cX2_play 68 = .ok (.iconst 0, 1) := by decide +kernel
theorem dX2_play_69 : decode cX2_play 69 = .ok (.goto 6, 3) := by decide +kernel
theorem dX2_play_72 : decode cX2_play 72 = .ok (.iload_n 2, 1) := by decide +kernel
theorem dX2_play_73 : decode cX2_play 73 = .ok (.iconst 2, 1) := by decide +kernel
theorem dX2_play_74 : decode cX2_play 74 = .ok (.idiv, 1) := by decide +kernel
theorem dX2_play_75 : decode cX2_play 75 = .ok (.ireturn, 1) := by decide +kernel
theorem dX2_play_76 : decode cX2_play 76 = .ok (.iload_n 2, 1) := by decide +kernel
theorem dX2_play_77 : decode cX2_play 77 = .ok (.ireturn, 1) := by decide +kernel
theorem dX2_changeWheels_0 : decode cX2_changeWheels 0 = .ok (.aload_n 0, 1) := by decide +kernel
theorem dX2_changeWheels_1 : decode cX2_changeWheels 1 = .ok (.getfield 22, 3) := by decide +kernel
theorem dX2_changeWheels_4 : decode cX2_changeWheels 4 = .ok (.iload_n 1, 1) := by decide +kernel
theorem dX2_changeWheels_5 : decode cX2_changeWheels 5 = .ok (.invokestatic 36, 3) := by decide +kernel
theorem dX2_changeWheels_8 : decode cX2_changeWheels 8 = .ok (.istore_n 2, 1) := by decide +kernel
theorem dX2_changeWheels_9 : decode cX2_changeWheels 9 = .ok (.aload_n 0, 1) := by decide +kernel
theorem dX2_changeWheels_10 : decode cX2_changeWheels 10 = .ok (.getfield 22, 3) := by decide +kernel
theorem dX2_changeWheels_13 : decode cX2_changeWheels 13 = .ok (.iload_n 1, 1) := by decide +kernel
theorem dX2_changeWheels_14 : decode cX2_changeWheels 14 = .ok (.aload_n 0, 1) := by decide +kernel
theorem dX2_changeWheels_15 : decode cX2_changeWheels 15 = .ok (.getfield 25, 3) := by decide +kernel
theorem dX2_changeWheels_18 : decode cX2_changeWheels 18 = .ok (.iload_n 1, 1) := by decide +kernel
theorem dX2_changeWheels_19 : decode cX2_changeWheels 19 = .ok (.invokestatic 36, 3) := by decide +kernel
theorem dX2_changeWheels_22 : decode cX2_changeWheels 22 = .ok (.invokestatic 32, 3) := by decide +kernel
theorem dX2_changeWheels_25 : decode cX2_changeWheels 25 = .ok (.aload_n 0, 1) := by decide +kernel
theorem dX2_changeWheels_26 : decode cX2_changeWheels 26 = .ok (.getfield 25, 3) := by decide +kernel
theorem dX2_changeWheels_29 : decode cX2_changeWheels 29 = .ok (.iload_n 1, 1) := by decide +kernel
theorem dX2_changeWheels_30 : decode cX2_changeWheels 30 = .ok (.iload_n 2, 1) := by decide +kernel
theorem dX2_changeWheels_31 : decode cX2_changeWheels 31 = .ok (.invokestatic 32, 3) := by decide +kernel
theorem dX2_changeWheels_34 : decode cX2_changeWheels 34 = .ok (.return_, 1) := by decide +kernel
theorem dX3_init_0 : decode cX3_init 0 = .ok (.aload_n 0, 1) := by decide +kernel
theorem dX3_init_1 : decode cX3_init 1 = .ok (.invokespecial 3, 3) := by decide +kernel
theorem dX3_init_4 : decode cX3_init 4 = .ok (.aload_n 0, 1) := by decide +kernel
theorem dX3_init_5 : decode cX3_init 5 = .ok (.iconst 0, 1) := by decide +kernel
theorem dX3_init_6 : decode cX3_init 6 = .ok (.putfield 9, 3) := by decide +kernel
theorem dX3_init_9 : decode cX3_init 9 = .ok (.aload_n 0, 1) := by decide +kernel
theorem dX3_init_10 : decode cX3_init 10 = .ok (.bipush 8, 2) := by decide +kernel
theorem dX3_init_12 : decode cX3_init 12 = .ok (.newarray .int, 2) := by decide +kernel
theorem dX3_init_14 : decode cX3_init 14 = .ok (.putfield 15, 3) := by decide +kernel
theorem dX3_init_17 : decode cX3_init 17 = .ok (.aload_n 0, 1) := by decide +kernel
theorem dX3_init_18 : decode cX3_init 18 = .ok (.bipush 8, 2) := by decide +kernel
theorem dX3_init_20 : decode cX3_init 20 = .ok (.newarray .int, 2) := by decide +kernel
theorem dX3_init_22 : decode cX3_init 22 = .ok (.putfield 19, 3) := by decide +kernel
theorem dX3_init_25 : decode cX3_init 25 = .ok (.return_, 1) := by decide +kernel
theorem dX3_copyFrom_0 : decode cX3_copyFrom 0 = .ok (.aload_n 0, 1) := by decide +kernel
theorem dX3_copyFrom_1 : decode cX3_copyFrom 1 = .ok (.aload_n 1, 1) := by decide +kernel
theorem dX3_copyFrom_2 : decode cX3_copyFrom 2 = .ok (.getfield 9, 3) := by decide +kernel
theorem dX3_copyFrom_5 : decode cX3_copyFrom 5 = .ok (.putfield 9, 3) := by decide +kernel
theorem dX3_copyFrom_8 : decode cX3_copyFrom 8 = .ok (.aload_n 1, 1) := by decide +kernel
theorem dX3_copyFrom_9 : decode cX3_copyFrom 9 = .ok (.getfield 15, 3) := by decide +kernel
theorem dX3_copyFrom_12 : decode cX3_copyFrom 12 = .ok (.aload_n 0, 1) := by decide +kernel
theorem dX3_copyFrom_13 : decode cX3_copyFrom 13 = .ok (.getfield 15, 3) := by decide +kernel
theorem dX3_copyFrom_16 : decode cX3_copyFrom 16 = .ok (.invokestatic 22, 3) := by decide +kernel
theorem dX3_copyFrom_19 : decode cX3_copyFrom 19 = .ok (.aload_n 1, 1) := by decide +kernel
theorem dX3_copyFrom_20 : decode cX3_copyFrom 20 = .ok (.getfield 19, 3) := by decide +kernel
theorem dX3_copyFrom_23 : decode cX3_copyFrom 23 = .ok (.aload_n 0, 1) := by decide +kernel
theorem dX3_copyFrom_24 : decode cX3_copyFrom 24 = .ok (.getfield 19, 3) := by decide +kernel
theorem dX3_copyFrom_27 : decode cX3_copyFrom 27 = .ok (.invokestatic 22, 3) := by decide +kernel
theorem dX3_copyFrom_30 : decode cX3_copyFrom 30 = .ok (.return_, 1) := by decide +kernel
theorem dX3_add_0 : decode cX3_add 0 = .ok (.aload_n 0, 1) := by decide +kernel
theorem dX3_add_1 : decode cX3_add 1 = .ok (.getfield 15, 3) := by decide +kernel
theorem dX3_add_4 : decode cX3_add 4 = .ok (.aload_n 0, 1) := by decide +kernel
theorem dX3_add_5 : decode cX3_add 5 = .ok (.getfield 9, 3) := by decide +kernel
theorem dX3_add_8 : decode cX3_add 8 = .ok (.iload_n 1, 1) := by decide +kernel
theorem dX3_add_9 : decode cX3_add 9 = .ok (.invokestatic 26, 3) := by decide +kernel
theorem dX3_add_12 : decode cX3_add 12 = .ok (.aload_n 0, 1) := by decide +kernel
theorem dX3_add_13 : decode cX3_add 13 = .ok (.getfield 19, 3) := by decide +kernel
theorem dX3_add_16 : decode cX3_add 16 = .ok (.aload_n 0, 1) := by decide +kernel
theorem dX3_add_17 : decode cX3_add 17 = .ok (.getfield 9, 3) := by decide +kernel
theorem dX3_add_20 : decode cX3_add 20 = .ok (.iload_n 2, 1) := by decide +kernel
theorem dX3_add_21 : decode cX3_add 21 = .ok (.invokestatic 26, 3) := by decide +kernel
theorem dX3_add_24 : decode cX3_add 24 = .ok (.aload_n 0, 1) := by decide +kernel
theorem dX3_add_25 : decode cX3_add 25 = .ok (.dup, 1) := by decide +kernel
theorem dX3_add_26 : decode cX3_add 26 = .ok (.getfield 9, 3) := by decide +kernel
theorem dX3_add_29 : decode cX3_add 29 = .ok (.iconst 1, 1) := by decide +kernel
theorem dX3_add_30 : decode cX3_add 30 = .ok (.iadd, 1) := by decide +kernel
theorem dX3_add_31 : decode cX3_add 31 = .ok (.putfield 9, 3) := by decide +kernel
theorem dX3_add_34 : decode cX3_add 34 = .ok (.return_, 1) := by decide +kernel
theorem dX4_init_0 : decode cX4_init 0 = .ok (.aload_n 0, 1) := by decide +kernel
theorem dX4_init_1 : decode cX4_init 1 = .ok (.invokespecial 3, 3) := by decide +kernel
theorem dX4_init_4 : decode cX4_init 4 = .ok (.aload_n 0, 1) := by decide +kernel
theorem dX4_init_5 : decode cX4_init 5 = .ok (.iconst 4, 1) := by decide +kernel
theorem dX4_init_6 : decode cX4_init 6 = .ok (.newarray .int, 2) := by decide +kernel
theorem dX4_init_8 : decode cX4_init 8 = .ok (.putfield 9, 3) := by decide +kernel
theorem dX4_init_11 : decode cX4_init 11 = .ok (.aload_n 0, 1) := by decide +kernel
theorem dX4_init_12 : decode cX4_init 12 = .ok (.bipush 48, 2) := by decide +kernel
theorem dX4_init_14 : decode cX4_init 14 = .ok (.newarray .long, 2) := by decide +kernel
theorem dX4_init_16 : decode cX4_init 16 = .ok (.putfield 15, 3) := by decide +kernel
theorem dX4_init_19 : decode cX4_init 19 = .ok (.return_, 1) := by decide +kernel
theorem dX4_has_0 : decode cX4_has 0 = .ok (.iload_n 1, 1) := by decide +kernel
theorem dX4_has_1 : decode cX4_has 1 = .ok (.ifCond .lt 12, 3) := by decide +kernel
theorem dX4_has_4 : decode cX4_has 4 = .ok (.iload_n 1, 1) := by decide +kernel
theorem dX4_has_5 : decode cX4_has 5 = .ok (.iconst 4, 1) := by decide +kernel
theorem dX4_has_6 : decode cX4_has 6 = .ok (.if_icmp .ge 7, 3) := by decide +kernel
theorem dX4_has_9 : decode cX4_has 9 = .ok (.iconst 1, 1) := by decide +kernel
theorem dX4_has_10 : decode cX4_has 10 = .ok (.goto 4, 3) := by decide +kernel
theorem dX4_has_13 : decode cX4_has 13 = .ok (.iconst 0, 1) := by decide +kernel
theorem dX4_has_14 : decode cX4_has 14 = .ok (.ireturn, 1) := by decide +kernel
theorem dX4_isHeld_0 : decode cX4_isHeld 0 = .ok (.aload_n 0, 1) := by decide +kernel
theorem dX4_isHeld_1 : decode cX4_isHeld 1 = .ok (.getfield 9, 3) := by decide +kernel
theorem dX4_isHeld_4 : decode cX4_isHeld 4 = .ok (.iload_n 1, 1) := by decide +kernel
theorem dX4_isHeld_5 : decode cX4_isHeld 5 = .ok (.invokestatic 19, 3) := by decide +kernel
theorem dX4_isHeld_8 : decode cX4_isHeld 8 = .ok (.ifCond .le 7, 3) := by decide +kernel
theorem dX4_isHeld_11 : decode cX4_isHeld 11 = .ok (.iconst 1, 1) := by decide +kernel
theorem dX4_isHeld_12 : decode cX4_isHeld 12 = .ok (.goto 4, 3) := by decide +kernel
theorem dX4_isHeld_15 : decode cX4_isHeld 15 = .ok (.iconst 0, 1) := by decide +kernel
theorem dX4_isHeld_16 : decode cX4_isHeld 16 = .ok (.ireturn, 1) := by decide +kernel
theorem dX4_size_0 : decode cX4_size 0 = .ok (.aload_n 0, 1) := by decide +kernel
theorem dX4_size_1 : decode cX4_size 1 = .ok (.iload_n 1, 1) := by decide +kernel
theorem dX4_size_2 : decode cX4_size 2 = .ok (.invokevirtual 23, 3) := by decide +kernel
theorem dX4_size_5 : decode cX4_size 5 = .ok (.ifCond .eq 16, 3) := by decide +kernel
theorem dX4_size_8 : decode cX4_size 8 = .ok (.aload_n 0, 1) := by decide +kernel
theorem dX4_size_9 : decode cX4_size 9 = .ok (.getfield 9, 3) := by decide +kernel
theorem dX4_size_12 : decode cX4_size 12 = .ok (.iload_n 1, 1) := by decide +kernel
theorem dX4_size_13 : decode cX4_size 13 = .ok (.invokestatic 19, 3) := by decide +kernel
theorem dX4_size_16 : decode cX4_size 16 = .ok (.iconst 1, 1) := by decide +kernel
theorem dX4_size_17 : decode cX4_size 17 = .ok (.isub, 1) := by decide +kernel
theorem dX4_size_18 : decode cX4_size 18 = .ok (.goto 4, 3) := by decide +kernel
theorem dX4_size_21 : decode cX4_size 21 = .ok (.iconst 0, 1) := by decide +kernel
theorem dX4_size_22 : decode cX4_size 22 = .ok (.ireturn, 1) := by decide +kernel
theorem dX4_hold_0 : decode cX4_hold 0 = .ok (.aload_n 0, 1) := by decide +kernel
theorem dX4_hold_1 : decode cX4_hold 1 = .ok (.getfield 9, 3) := by decide +kernel
theorem dX4_hold_4 : decode cX4_hold 4 = .ok (.iload_n 1, 1) := by decide +kernel
theorem dX4_hold_5 : decode cX4_hold 5 = .ok (.iload_n 2, 1) := by decide +kernel
theorem dX4_hold_6 : decode cX4_hold 6 = .ok (.iconst 1, 1) := by decide +kernel
theorem dX4_hold_7 : decode cX4_hold 7 = .ok (.iadd, 1) := by decide +kernel
theorem dX4_hold_8 : decode cX4_hold 8 = .ok (.invokestatic 27, 3) := by decide +kernel
theorem dX4_hold_11 : decode cX4_hold 11 = .ok (.iconst 0, 1) := by decide +kernel
theorem dX4_hold_12 : decode cX4_hold 12 = .ok (.istore_n 3, 1) := by decide +kernel
theorem dX4_hold_13 : decode cX4_hold 13 = .ok (.iload_n 3, 1) := by decide +kernel
theorem dX4_hold_14 : decode cX4_hold 14 = .ok (.iload_n 2, 1) := by decide +kernel
theorem dX4_hold_15 : decode cX4_hold 15 = .ok (.if_icmp .ge 16, 3) := by decide +kernel
theorem dX4_hold_18 : decode cX4_hold 18 = .ok (.aload_n 0, 1) := by decide +kernel
theorem dX4_hold_19 : decode cX4_hold 19 = .ok (.iload_n 1, 1) := by decide +kernel
theorem dX4_hold_20 : decode cX4_hold 20 = .ok (.iload_n 3, 1) := by decide +kernel
theorem dX4_hold_21 : decode cX4_hold 21 = .ok (.lconst 0, 1) := by decide +kernel
theorem dX4_hold_22 : decode cX4_hold 22 = .ok (.invokevirtual 31, 3) := by decide +kernel
theorem dX4_hold_25 : decode cX4_hold 25 = .ok (.iinc 3 1, 3) := by decide +kernel
theorem dX4_hold_28 : decode cX4_hold 28 = .ok (.goto (-15), 3) := by decide +kernel
theorem dX4_hold_31 : decode cX4_hold 31 = .ok (.return_, 1) := by decide +kernel
theorem dX4_cell_0 : decode cX4_cell 0 = .ok (.iload_n 1, 1) := by decide +kernel
theorem dX4_cell_1 : decode cX4_cell 1 = .ok (.bipush 12, 2) := by decide +kernel
theorem dX4_cell_3 : decode cX4_cell 3 = .ok (.imul, 1) := by decide +kernel
theorem dX4_cell_4 : decode cX4_cell 4 = .ok (.iload_n 2, 1) := by decide +kernel
theorem dX4_cell_5 : decode cX4_cell 5 = .ok (.iadd, 1) := by decide +kernel
theorem dX4_cell_6 : decode cX4_cell 6 = .ok (.istore_n 3, 1) := by decide +kernel
theorem dX4_cell_7 : decode cX4_cell 7 = .ok (.iload_n 3, 1) := by decide +kernel
theorem dX4_cell_8 : decode cX4_cell 8 = .ok (.ifCond .lt 21, 3) := by decide +kernel
theorem dX4_cell_11 : decode cX4_cell 11 = .ok (.iload_n 3, 1) := by decide +kernel
theorem dX4_cell_12 : decode cX4_cell 12 = .ok (.aload_n 0, 1) := by decide +kernel
theorem dX4_cell_13 : decode cX4_cell 13 = .ok (.getfield 15, 3) := by decide +kernel
theorem dX4_cell_16 : decode cX4_cell 16 = .ok (.arraylength, 1) := by decide +kernel
theorem dX4_cell_17 : decode cX4_cell 17 = .ok (.if_icmp .ge 12, 3) := by decide +kernel
theorem dX4_cell_20 : decode cX4_cell 20 = .ok (.aload_n 0, 1) := by decide +kernel
theorem dX4_cell_21 : decode cX4_cell 21 = .ok (.getfield 15, 3) := by decide +kernel
theorem dX4_cell_24 : decode cX4_cell 24 = .ok (.iload_n 3, 1) := by decide +kernel
theorem dX4_cell_25 : decode cX4_cell 25 = .ok (.laload, 1) := by decide +kernel
theorem dX4_cell_26 : decode cX4_cell 26 = .ok (.goto 4, 3) := by decide +kernel
theorem dX4_cell_29 : decode cX4_cell 29 = .ok (.lconst 0, 1) := by decide +kernel
theorem dX4_cell_30 : decode cX4_cell 30 = .ok (.lreturn, 1) := by decide +kernel
theorem dX4_fill_0 : decode cX4_fill 0 = .ok (.iload_n 1, 1) := by decide +kernel
theorem dX4_fill_1 : decode cX4_fill 1 = .ok (.bipush 12, 2) := by decide +kernel
theorem dX4_fill_3 : decode cX4_fill 3 = .ok (.imul, 1) := by decide +kernel
theorem dX4_fill_4 : decode cX4_fill 4 = .ok (.iload_n 2, 1) := by decide +kernel
theorem dX4_fill_5 : decode cX4_fill 5 = .ok (.iadd, 1) := by decide +kernel
theorem dX4_fill_6 : decode cX4_fill 6 = .ok (.istore 5, 2) := by decide +kernel
theorem dX4_fill_8 : decode cX4_fill 8 = .ok (.iload 5, 2) := by decide +kernel
theorem dX4_fill_10 : decode cX4_fill 10 = .ok (.ifCond .lt 21, 3) := by decide +kernel
theorem dX4_fill_13 : decode cX4_fill 13 = .ok (.iload 5, 2) := by decide +kernel
theorem dX4_fill_15 : decode cX4_fill 15 = .ok (.aload_n 0, 1) := by decide +kernel
theorem dX4_fill_16 : decode cX4_fill 16 = .ok (.getfield 15, 3) := by decide +kernel
theorem dX4_fill_19 : decode cX4_fill 19 = .ok (.arraylength, 1) := by decide +kernel
theorem dX4_fill_20 : decode cX4_fill 20 = .ok (.if_icmp .ge 11, 3) := by decide +kernel
theorem dX4_fill_23 : decode cX4_fill 23 = .ok (.aload_n 0, 1) := by decide +kernel
theorem dX4_fill_24 : decode cX4_fill 24 = .ok (.getfield 15, 3) := by decide +kernel
theorem dX4_fill_27 : decode cX4_fill 27 = .ok (.iload 5, 2) := by decide +kernel
theorem dX4_fill_29 : decode cX4_fill 29 = .ok (.lload_n 3, 1) := by decide +kernel
theorem dX4_fill_30 : decode cX4_fill 30 = .ok (.lastore, 1) := by decide +kernel
theorem dX4_fill_31 : decode cX4_fill 31 = .ok (.return_, 1) := by decide +kernel
theorem dX5_init_0 : decode cX5_init 0 = .ok (.aload_n 0, 1) := by decide +kernel
theorem dX5_init_1 : decode cX5_init 1 = .ok (.invokespecial 3, 3) := by decide +kernel
theorem dX5_init_4 : decode cX5_init 4 = .ok (.aload_n 0, 1) := by decide +kernel
theorem dX5_init_5 : decode cX5_init 5 = .ok (.iconst 0, 1) := by decide +kernel
theorem dX5_init_6 : decode cX5_init 6 = .ok (.putfield 9, 3) := by decide +kernel
theorem dX5_init_9 : decode cX5_init 9 = .ok (.aload_n 0, 1) := by decide +kernel
theorem dX5_init_10 : decode cX5_init 10 = .ok (.bipush 9, 2) := by decide +kernel
theorem dX5_init_12 : decode cX5_init 12 = .ok (.newarray .int, 2) := by decide +kernel
theorem dX5_init_14 : decode cX5_init 14 = .ok (.putfield 15, 3) := by decide +kernel
theorem dX5_init_17 : decode cX5_init 17 = .ok (.return_, 1) := by decide +kernel
theorem dX5_add_0 : decode cX5_add 0 = .ok (.aload_n 0, 1) := by decide +kernel
theorem dX5_add_1 : decode cX5_add 1 = .ok (.getfield 15, 3) := by decide +kernel
theorem dX5_add_4 : decode cX5_add 4 = .ok (.aload_n 0, 1) := by decide +kernel
theorem dX5_add_5 : decode cX5_add 5 = .ok (.getfield 9, 3) := by decide +kernel
theorem dX5_add_8 : decode cX5_add 8 = .ok (.iload_n 1, 1) := by decide +kernel
theorem dX5_add_9 : decode cX5_add 9 = .ok (.invokestatic 19, 3) := by decide +kernel
theorem dX5_add_12 : decode cX5_add 12 = .ok (.aload_n 0, 1) := by decide +kernel
theorem dX5_add_13 : decode cX5_add 13 = .ok (.dup, 1) := by decide +kernel
theorem dX5_add_14 : decode cX5_add 14 = .ok (.getfield 9, 3) := by decide +kernel
theorem dX5_add_17 : decode cX5_add 17 = .ok (.iconst 1, 1) := by decide +kernel
theorem dX5_add_18 : decode cX5_add 18 = .ok (.iadd, 1) := by decide +kernel
theorem dX5_add_19 : decode cX5_add 19 = .ok (.putfield 9, 3) := by decide +kernel
theorem dX5_add_22 : decode cX5_add 22 = .ok (.return_, 1) := by decide +kernel
theorem dX5_addTwoFigures_0 : decode cX5_addTwoFigures 0 = .ok (.aload_n 0, 1) := by decide +kernel
theorem dX5_addTwoFigures_1 : decode cX5_addTwoFigures 1 = .ok (.bipush 48, 2) := by decide +kernel
theorem dX5_addTwoFigures_3 : decode cX5_addTwoFigures 3 = .ok (.iload_n 1, 1) := by decide +kernel
theorem dX5_addTwoFigures_4 : decode cX5_addTwoFigures 4 = .ok (.bipush 10, 2) := by decide +kernel
theorem dX5_addTwoFigures_6 : decode cX5_addTwoFigures 6 = .ok (.idiv, 1) := by decide +kernel
theorem dX5_addTwoFigures_7 : decode cX5_addTwoFigures 7 = .ok (.iadd, 1) := by decide +kernel
theorem dX5_addTwoFigures_8 : decode cX5_addTwoFigures 8 = .ok (.invokevirtual 23, 3) := by decide +kernel
theorem dX5_addTwoFigures_11 : decode cX5_addTwoFigures 11 = .ok (.aload_n 0, 1) := by decide +kernel
theorem dX5_addTwoFigures_12 : decode cX5_addTwoFigures 12 = .ok (.bipush 48, 2) := by decide +kernel
theorem dX5_addTwoFigures_14 : decode cX5_addTwoFigures 14 = .ok (.iload_n 1, 1) := by decide +kernel
theorem dX5_addTwoFigures_15 : decode cX5_addTwoFigures 15 = .ok (.bipush 10, 2) := by decide +kernel
theorem dX5_addTwoFigures_17 : decode cX5_addTwoFigures 17 = .ok (.irem, 1) := by decide +kernel
theorem dX5_addTwoFigures_18 : decode cX5_addTwoFigures 18 = .ok (.iadd, 1) := by decide +kernel
theorem dX5_addTwoFigures_19 : decode cX5_addTwoFigures 19 = .ok (.invokevirtual 23, 3) := by decide +kernel
theorem dX5_addTwoFigures_22 : decode cX5_addTwoFigures 22 = .ok (.return_, 1) := by decide +kernel
theorem dX6_init_0 : decode cX6_init 0 = .ok (.aload_n 0, 1) := by decide +kernel
theorem dX6_init_1 : decode cX6_init 1 = .ok (.invokespecial 3, 3) := by decide +kernel
theorem dX6_init_4 : decode cX6_init 4 = .ok (.aload_n 0, 1) := by decide +kernel
theorem dX6_init_5 : decode cX6_init 5 = .ok (.iconst 0, 1) := by decide +kernel
theorem dX6_init_6 : decode cX6_init 6 = .ok (.putfield 9, 3) := by decide +kernel
theorem dX6_init_9 : decode cX6_init 9 = .ok (.aload_n 0, 1) := by decide +kernel
theorem dX6_init_10 : decode cX6_init 10 = .ok (.bipush 60, 2) := by decide +kernel
theorem dX6_init_12 : decode cX6_init 12 = .ok (.newarray .int, 2) := by decide +kernel
theorem dX6_init_14 : decode cX6_init 14 = .ok (.putfield 15, 3) := by decide +kernel
theorem dX6_init_17 : decode cX6_init 17 = .ok (.return_, 1) := by decide +kernel
theorem dX6_clauses_0 : decode cX6_clauses 0 = .ok (.aload_n 0, 1) := by decide +kernel
theorem dX6_clauses_1 : decode cX6_clauses 1 = .ok (.getfield 9, 3) := by decide +kernel
theorem dX6_clauses_4 : decode cX6_clauses 4 = .ok (.iconst 1, 1) := by decide +kernel
theorem dX6_clauses_5 : decode cX6_clauses 5 = .ok (.iadd, 1) := by decide +kernel
theorem dX6_clauses_6 : decode cX6_clauses 6 = .ok (.bipush 9, 2) := by decide +kernel
theorem dX6_clauses_8 : decode cX6_clauses 8 = .ok (.idiv, 1) := by decide +kernel
theorem dX6_clauses_9 : decode cX6_clauses 9 = .ok (.ireturn, 1) := by decide +kernel
theorem dX6_faultAsPairs_0 : decode cX6_faultAsPairs 0 = .ok (.iconst 0, 1) := by decide +kernel
theorem dX6_faultAsPairs_1 : decode cX6_faultAsPairs 1 = .ok (.istore_n 1, 1) := by decide +kernel
theorem dX6_faultAsPairs_2 : decode cX6_faultAsPairs 2 = .ok (.iload_n 1, 1) := by decide +kernel
theorem dX6_faultAsPairs_3 : decode cX6_faultAsPairs 3 = .ok (.aload_n 0, 1) := by decide +kernel
theorem dX6_faultAsPairs_4 : decode cX6_faultAsPairs 4 = .ok (.getfield 9, 3) := by decide +kernel
theorem dX6_faultAsPairs_7 : decode cX6_faultAsPairs 7 = .ok (.if_icmp .ge 29, 3) := by decide +kernel
theorem dX6_faultAsPairs_10 : decode cX6_faultAsPairs 10 = .ok (.iload_n 1, 1) := by decide +kernel
theorem dX6_faultAsPairs_11 : decode cX6_faultAsPairs 11 = .ok (.bipush 9, 2) := by decide +kernel
theorem dX6_faultAsPairs_13 : decode cX6_faultAsPairs 13 = .ok (.irem, 1) := by decide +kernel
theorem dX6_faultAsPairs_14 : decode cX6_faultAsPairs 14 = .ok (.aload_n 0, 1) := by decide +kernel
theorem dX6_faultAsPairs_15 : decode cX6_faultAsPairs 15 = .ok (.getfield 15, 3) := by decide +kernel
theorem dX6_faultAsPairs_18 : decode cX6_faultAsPairs 18 = .ok (.iload_n 1, 1) := by decide +kernel
theorem dX6_faultAsPairs_19 : decode cX6_faultAsPairs 19 = .ok (.invokestatic 19, 3) := by decide +kernel
theorem dX6_faultAsPairs_22 : decode cX6_faultAsPairs 22 = .ok (.invokestatic 23, 3) := by decide +kernel
theorem dX6_faultAsPairs_25 : decode cX6_faultAsPairs 25 = .ok (.ifCond .ne 5, 3) := by decide +kernel
theorem dX6_faultAsPairs_28 : decode cX6_faultAsPairs 28 = .ok (.iload_n 1, 1) := by decide +kernel
theorem dX6_faultAsPairs_29 : decode cX6_faultAsPairs 29 = .ok (.ireturn, 1) := by decide +kernel
theorem dX6_faultAsPairs_30 : decode cX6_faultAsPairs 30 = .ok (.iinc 1 1, 3) := by decide +kernel
theorem dX6_faultAsPairs_33 : decode cX6_faultAsPairs 33 = .ok (.goto (-31), 3) := by decide +kernel
theorem dX6_faultAsPairs_36 : decode cX6_faultAsPairs 36 = .ok (.aload_n 0, 1) := by decide +kernel
theorem dX6_faultAsPairs_37 : decode cX6_faultAsPairs 37 = .ok (.getfield 9, 3) := by decide +kernel
theorem dX6_faultAsPairs_40 : decode cX6_faultAsPairs 40 = .ok (.bipush 9, 2) := by decide +kernel
theorem dX6_faultAsPairs_42 : decode cX6_faultAsPairs 42 = .ok (.irem, 1) := by decide +kernel
theorem dX6_faultAsPairs_43 : decode cX6_faultAsPairs 43 = .ok (.bipush 8, 2) := by decide +kernel
theorem dX6_faultAsPairs_45 : decode cX6_faultAsPairs 45 = .ok (.if_icmp .ne 7, 3) := by decide +kernel
theorem dX6_faultAsPairs_48 : decode cX6_faultAsPairs 48 = .ok (.iconst (-1), 1) := by decide +kernel
theorem dX6_faultAsPairs_49 : decode cX6_faultAsPairs 49 = .ok (.goto 7, 3) := by decide +kernel
theorem dX6_faultAsPairs_52 : decode cX6_faultAsPairs 52 = .ok (.aload_n 0, 1) := by decide +kernel
theorem dX6_faultAsPairs_53 : decode cX6_faultAsPairs 53 = .ok (.getfield 9, 3) := by decide +kernel
theorem dX6_faultAsPairs_56 : decode cX6_faultAsPairs 56 = .ok (.ireturn, 1) := by decide +kernel
theorem dX6_fitsClause_0 : decode cX6_fitsClause 0 = .ok (.iload_n 0, 1) := by decide +kernel
theorem dX6_fitsClause_1 : decode cX6_fitsClause 1 = .ok (.tableswitch 119 0 8 #[51, 119, 65, 77, 119, 95, 77, 119, 107], 51) := by decide +kernel
theorem dX6_fitsClause_52 : decode cX6_fitsClause 52 = .ok (.iload_n 1, 1) := by decide +kernel
theorem dX6_fitsClause_53 : decode cX6_fitsClause 53 = .ok (.invokestatic 27, 3) := by decide +kernel
theorem dX6_fitsClause_56 : decode cX6_fitsClause 56 = .ok (.iconst (-1), 1) := by decide +kernel
theorem dX6_fitsClause_57 : decode cX6_fitsClause 57 = .ok (.if_icmp .eq 7, 3) := by decide +kernel
theorem dX6_fitsClause_60 : decode cX6_fitsClause 60 = .ok (.iconst 1, 1) := by decide +kernel
theorem dX6_fitsClause_61 : decode cX6_fitsClause 61 = .ok (.goto 4, 3) := by decide +kernel
theorem dX6_fitsClause_64 : decode cX6_fitsClause 64 = .ok (.iconst 0, 1) := by decide +kernel
theorem dX6_fitsClause_65 : decode cX6_fitsClause 65 = .ok (.ireturn, 1) := by decide +kernel
theorem dX6_fitsClause_66 : decode cX6_fitsClause 66 = .ok (.iload_n 1, 1) := by decide +kernel
theorem dX6_fitsClause_67 : decode cX6_fitsClause 67 = .ok (.bipush 32, 2) := by decide +kernel
theorem dX6_fitsClause_69 : decode cX6_fitsClause 69 = .ok (.if_icmp .ne 7, 3) := by decide +kernel
theorem dX6_fitsClause_72 : decode cX6_fitsClause 72 = .ok (.iconst 1, 1) := by decide +kernel
theorem dX6_fitsClause_73 : decode cX6_fitsClause 73 = .ok (.goto 4, 3) := by decide +kernel
theorem dX6_fitsClause_76 : decode cX6_fitsClause 76 = .ok (.iconst 0, 1) := by decide +kernel
theorem dX6_fitsClause_77 : decode cX6_fitsClause 77 = .ok (.ireturn, 1) := by decide +kernel
theorem dX6_fitsClause_78 : decode cX6_fitsClause 78 = .ok (.iload_n 1, 1) := by decide +kernel
theorem dX6_fitsClause_79 : decode cX6_fitsClause 79 = .ok (.bipush 49, 2) := by decide +kernel
theorem dX6_fitsClause_81 : decode cX6_fitsClause 81 = .ok (.if_icmp .lt 13, 3) := by decide +kernel
theorem dX6_fitsClause_84 : decode cX6_fitsClause 84 = .ok (.iload_n 1, 1) := by decide +kernel
theorem dX6_fitsClause_85 : decode cX6_fitsClause 85 = .ok (.bipush 57, 2) := by decide +kernel
theorem dX6_fitsClause_87 : decode cX6_fitsClause 87 = .ok (.if_icmp .gt 7, 3) := by decide +kernel
theorem dX6_fitsClause_90 : decode cX6_fitsClause 90 = .ok (.iconst 1, 1) := by decide +kernel
theorem dX6_fitsClause_91 : decode cX6_fitsClause 91 = .ok (.goto 4, 3) := by decide +kernel
theorem dX6_fitsClause_94 : decode cX6_fitsClause 94 = .ok (.iconst 0, 1) := by decide +kernel
theorem dX6_fitsClause_95 : decode cX6_fitsClause 95 = .ok (.ireturn, 1) := by decide +kernel
theorem dX6_fitsClause_96 : decode cX6_fitsClause 96 = .ok (.iload_n 1, 1) := by decide +kernel
theorem dX6_fitsClause_97 : decode cX6_fitsClause 97 = .ok (.bipush 47, 2) := by decide +kernel
theorem dX6_fitsClause_99 : decode cX6_fitsClause 99 = .ok (.if_icmp .ne 7, 3) := by decide +kernel
theorem dX6_fitsClause_102 : decode cX6_fitsClause 102 = .ok (.iconst 1, 1) := by decide +kernel
theorem dX6_fitsClause_103 : decode cX6_fitsClause 103 = .ok (.goto 4, 3) := by decide +kernel
theorem dX6_fitsClause_106 : decode cX6_fitsClause 106 = .ok (.iconst 0, 1) := by decide +kernel
theorem dX6_fitsClause_107 : decode cX6_fitsClause 107 = .ok (.ireturn, 1) := by decide +kernel
theorem dX6_fitsClause_108 : decode cX6_fitsClause 108 = .ok (.iload_n 1, 1) := by decide +kernel
theorem dX6_fitsClause_109 : decode cX6_fitsClause 109 = .ok (.bipush 59, 2) := by decide +kernel
theorem dX6_fitsClause_111 : decode cX6_fitsClause 111 = .ok (.if_icmp .ne 7, 3) := by decide +kernel
theorem dX6_fitsClause_114 : decode cX6_fitsClause 114 = .ok (.iconst 1, 1) := by decide +kernel
theorem dX6_fitsClause_115 : decode cX6_fitsClause 115 = .ok (.goto 4, 3) := by decide +kernel
theorem dX6_fitsClause_118 : decode cX6_fitsClause 118 = .ok (.iconst 0, 1) := by decide +kernel
theorem dX6_fitsClause_119 : decode cX6_fitsClause 119 = .ok (.ireturn, 1) := by decide +kernel
theorem dX6_fitsClause_120 : decode cX6_fitsClause 120 = .ok (.iload_n 1, 1) := by decide +kernel
theorem dX6_fitsClause_121 : decode cX6_fitsClause 121 = .ok (.bipush 48, 2) := by decide +kernel
theorem dX6_fitsClause_123 : decode cX6_fitsClause 123 = .ok (.if_icmp .lt 13, 3) := by decide +kernel
theorem dX6_fitsClause_126 : decode cX6_fitsClause 126 = .ok (.iload_n 1, 1) := by decide +kernel
theorem dX6_fitsClause_127 : decode cX6_fitsClause 127 = .ok (.bipush 57, 2) := by decide +kernel
theorem dX6_fitsClause_129 : decode cX6_fitsClause 129 = .ok (.if_icmp .gt 7, 3) := by decide +kernel
theorem dX6_fitsClause_132 : decode cX6_fitsClause 132 = .ok (.iconst 1, 1) := by decide +kernel
theorem dX6_fitsClause_133 : decode cX6_fitsClause 133 = .ok (.goto 4, 3) := by decide +kernel
theorem dX6_fitsClause_136 : decode cX6_fitsClause 136 = .ok (.iconst 0, 1) := by decide +kernel
theorem dX6_fitsClause_137 : decode cX6_fitsClause 137 = .ok (.ireturn, 1) := by decide +kernel
theorem dX6_tellPair_0 : decode cX6_tellPair 0 = .ok (.iload_n 1, 1) := by decide +kernel
theorem dX6_tellPair_1 : decode cX6_tellPair 1 = .ok (.bipush 9, 2) := by decide +kernel
theorem dX6_tellPair_3 : decode cX6_tellPair 3 = .ok (.imul, 1) := by decide +kernel
theorem dX6_tellPair_4 : decode cX6_tellPair 4 = .ok (.istore_n 3, 1) := by decide +kernel
theorem dX6_tellPair_5 : decode cX6_tellPair 5 = .ok (.aload_n 2, 1) := by decide +kernel
theorem dX6_tellPair_6 : decode cX6_tellPair 6 = .ok (.aload_n 0, 1) := by decide +kernel
theorem dX6_tellPair_7 : decode cX6_tellPair 7 = .ok (.getfield 15, 3) := by decide +kernel
theorem dX6_tellPair_10 : decode cX6_tellPair 10 = .ok (.iload_n 3, 1) := by decide +kernel
theorem dX6_tellPair_11 : decode cX6_tellPair 11 = .ok (.invokestatic 19, 3) := by decide +kernel
theorem dX6_tellPair_14 : decode cX6_tellPair 14 = .ok (.invokestatic 27, 3) := by decide +kernel
theorem dX6_tellPair_17 : decode cX6_tellPair 17 = .ok (.aload_n 0, 1) := by decide +kernel
theorem dX6_tellPair_18 : decode cX6_tellPair 18 = .ok (.iload_n 3, 1) := by decide +kernel
theorem dX6_tellPair_19 : decode cX6_tellPair 19 = .ok (.iconst 1, 1) := by decide +kernel
theorem dX6_tellPair_20 : decode cX6_tellPair 20 = .ok (.iadd, 1) := by decide +kernel
theorem dX6_tellPair_21 : decode cX6_tellPair 21 = .ok (.invokevirtual 31, 3) := by decide +kernel
theorem dX6_tellPair_24 : decode cX6_tellPair 24 = .ok (.aload_n 0, 1) := by decide +kernel
theorem dX6_tellPair_25 : decode cX6_tellPair 25 = .ok (.iload_n 3, 1) := by decide +kernel
theorem dX6_tellPair_26 : decode cX6_tellPair 26 = .ok (.iconst 3, 1) := by decide +kernel
theorem dX6_tellPair_27 : decode cX6_tellPair 27 = .ok (.iadd, 1) := by decide +kernel
theorem dX6_tellPair_28 : decode cX6_tellPair 28 = .ok (.invokevirtual 34, 3) := by decide +kernel
theorem dX6_tellPair_31 : decode cX6_tellPair 31 = .ok (.aload_n 0, 1) := by decide +kernel
theorem dX6_tellPair_32 : decode cX6_tellPair 32 = .ok (.iload_n 3, 1) := by decide +kernel
theorem dX6_tellPair_33 : decode cX6_tellPair 33 = .ok (.bipush 6, 2) := by decide +kernel
theorem dX6_tellPair_35 : decode cX6_tellPair 35 = .ok (.iadd, 1) := by decide +kernel
theorem dX6_tellPair_36 : decode cX6_tellPair 36 = .ok (.invokevirtual 34, 3) := by decide +kernel
theorem dX6_tellPair_39 : decode cX6_tellPair 39 = .ok (.invokevirtual 37, 3) := by decide +kernel
theorem dX6_tellPair_42 : decode cX6_tellPair 42 = .ok (.return_, 1) := by decide +kernel
theorem dX6_figureAt_0 : decode cX6_figureAt 0 = .ok (.aload_n 0, 1) := by decide +kernel
theorem dX6_figureAt_1 : decode cX6_figureAt 1 = .ok (.getfield 15, 3) := by decide +kernel
theorem dX6_figureAt_4 : decode cX6_figureAt 4 = .ok (.iload_n 1, 1) := by decide +kernel
theorem dX6_figureAt_5 : decode cX6_figureAt 5 = .ok (.invokestatic 19, 3) := by decide +kernel
theorem dX6_figureAt_8 : decode cX6_figureAt 8 = .ok (.bipush 48, 2) := by decide +kernel
theorem dX6_figureAt_10 : decode cX6_figureAt 10 = .ok (.isub, 1) := by decide +kernel
theorem dX6_figureAt_11 : decode cX6_figureAt 11 = .ok (.ireturn, 1) := by decide +kernel
theorem dX6_numberAt_0 : decode cX6_numberAt 0 = .ok (.bipush 10, 2) := by decide +kernel
theorem dX6_numberAt_2 : decode cX6_numberAt 2 = .ok (.aload_n 0, 1) := by decide +kernel
theorem dX6_numberAt_3 : decode cX6_numberAt 3 = .ok (.iload_n 1, 1) := by decide +kernel
theorem dX6_numberAt_4 : decode cX6_numberAt 4 = .ok (.invokevirtual 31, 3) := by decide +kernel
theorem dX6_numberAt_7 : decode cX6_numberAt 7 = .ok (.imul, 1) := by decide +kernel
theorem dX6_numberAt_8 : decode cX6_numberAt 8 = .ok (.aload_n 0, 1) := by decide +kernel
theorem dX6_numberAt_9 : decode cX6_numberAt 9 = .ok (.iload_n 1, 1) := by decide +kernel
theorem dX6_numberAt_10 : decode cX6_numberAt 10 = .ok (.iconst 1, 1) := by decide +kernel
theorem dX6_numberAt_11 : decode cX6_numberAt 11 = .ok (.iadd, 1) := by decide +kernel
theorem dX6_numberAt_12 : decode cX6_numberAt 12 = .ok (.invokevirtual 31, 3) := by decide +kernel
theorem dX6_numberAt_15 : decode cX6_numberAt 15 = .ok (.iadd, 1) := by decide +kernel
theorem dX6_numberAt_16 : decode cX6_numberAt 16 = .ok (.ireturn, 1) := by decide +kernel
theorem dX6_pairTold_0 : decode cX6_pairTold 0 = .ok (.aload_n 0, 1) := by decide +kernel
theorem dX6_pairTold_1 : decode cX6_pairTold 1 = .ok (.getfield 15, 3) := by decide +kernel
theorem dX6_pairTold_4 : decode cX6_pairTold 4 = .ok (.iload_n 1, 1) := by decide +kernel
theorem dX6_pairTold_5 : decode cX6_pairTold 5 = .ok (.invokestatic 19, 3) := by decide +kernel
theorem dX6_pairTold_8 : decode cX6_pairTold 8 = .ok (.bipush 97, 2) := by decide +kernel
theorem dX6_pairTold_10 : decode cX6_pairTold 10 = .ok (.isub, 1) := by decide +kernel
theorem dX6_pairTold_11 : decode cX6_pairTold 11 = .ok (.ireturn, 1) := by decide +kernel
theorem dX6_faultAsTrain_0 : decode cX6_faultAsTrain 0 = .ok (.iconst 0, 1) := by decide +kernel
theorem dX6_faultAsTrain_1 : decode cX6_faultAsTrain 1 = .ok (.istore_n 2, 1) := by decide +kernel
theorem dX6_faultAsTrain_2 : decode cX6_faultAsTrain 2 = .ok (.iload_n 2, 1) := by decide +kernel
theorem dX6_faultAsTrain_3 : decode cX6_faultAsTrain 3 = .ok (.aload_n 0, 1) := by decide +kernel
theorem dX6_faultAsTrain_4 : decode cX6_faultAsTrain 4 = .ok (.getfield 9, 3) := by decide +kernel
theorem dX6_faultAsTrain_7 : decode cX6_faultAsTrain 7 = .ok (.if_icmp .ge 39, 3) := by decide +kernel
theorem dX6_faultAsTrain_10 : decode cX6_faultAsTrain 10 = .ok (.aload_n 0, 1) := by decide +kernel
theorem dX6_faultAsTrain_11 : decode cX6_faultAsTrain 11 = .ok (.iload_n 2, 1) := by decide +kernel
theorem dX6_faultAsTrain_12 : decode cX6_faultAsTrain 12 = .ok (.invokevirtual 43, 3) := by decide +kernel
theorem dX6_faultAsTrain_15 : decode cX6_faultAsTrain 15 = .ok (.istore_n 3, 1) := by decide +kernel
theorem dX6_faultAsTrain_16 : decode cX6_faultAsTrain 16 = .ok (.iload_n 2, 1) := by decide +kernel
theorem dX6_faultAsTrain_17 : decode cX6_faultAsTrain 17 = .ok (.iconst 3, 1) := by decide +kernel
theorem dX6_faultAsTrain_18 : decode cX6_faultAsTrain 18 = .ok (.if_icmp .ge 20, 3) := by decide +kernel
theorem dX6_faultAsTrain_21 : decode cX6_faultAsTrain 21 = .ok (.iload_n 3, 1) := by decide +kernel
theorem dX6_faultAsTrain_22 : decode cX6_faultAsTrain 22 = .ok (.ifCond .lt 16, 3) := by decide +kernel
theorem dX6_faultAsTrain_25 : decode cX6_faultAsTrain 25 = .ok (.iload_n 3, 1) := by decide +kernel
theorem dX6_faultAsTrain_26 : decode cX6_faultAsTrain 26 = .ok (.iload_n 1, 1) := by decide +kernel
theorem dX6_faultAsTrain_27 : decode cX6_faultAsTrain 27 = .ok (.if_icmp .ge 11, 3) := by decide +kernel
theorem dX6_faultAsTrain_30 : decode cX6_faultAsTrain 30 = .ok (.aload_n 0, 1) := by decide +kernel
theorem dX6_faultAsTrain_31 : decode cX6_faultAsTrain 31 = .ok (.iload_n 2, 1) := by decide +kernel
theorem dX6_faultAsTrain_32 : decode cX6_faultAsTrain 32 = .ok (.invokevirtual 46, 3) := by decide +kernel
theorem dX6_faultAsTrain_35 : decode cX6_faultAsTrain 35 = .ok (.ifCond .eq 5, 3) := by decide +kernel
theorem dX6_faultAsTrain_38 : decode cX6_faultAsTrain 38 = .ok (.iload_n 2, 1) := by decide +kernel
theorem dX6_faultAsTrain_39 : decode cX6_faultAsTrain 39 = .ok (.ireturn, 1) := by decide +kernel
theorem dX6_faultAsTrain_40 : decode cX6_faultAsTrain 40 = .ok (.iinc 2 1, 3) := by decide +kernel
theorem dX6_faultAsTrain_43 : decode cX6_faultAsTrain 43 = .ok (.goto (-41), 3) := by decide +kernel
theorem dX6_faultAsTrain_46 : decode cX6_faultAsTrain 46 = .ok (.aload_n 0, 1) := by decide +kernel
theorem dX6_faultAsTrain_47 : decode cX6_faultAsTrain 47 = .ok (.getfield 9, 3) := by decide +kernel
theorem dX6_faultAsTrain_50 : decode cX6_faultAsTrain 50 = .ok (.ifCond .ne 7, 3) := by decide +kernel
theorem dX6_faultAsTrain_53 : decode cX6_faultAsTrain 53 = .ok (.iconst 0, 1) := by decide +kernel
theorem dX6_faultAsTrain_54 : decode cX6_faultAsTrain 54 = .ok (.goto 4, 3) := by decide +kernel
theorem dX6_faultAsTrain_57 : decode cX6_faultAsTrain 57 = .ok (.iconst (-1), 1) := by decide +kernel
theorem dX6_faultAsTrain_58 : decode cX6_faultAsTrain 58 = .ok (.ireturn, 1) := by decide +kernel
theorem dX6_isToldAhead_0 : decode cX6_isToldAhead 0 = .ok (.iconst 0, 1) := by decide +kernel
theorem dX6_isToldAhead_1 : decode cX6_isToldAhead 1 = .ok (.istore_n 2, 1) := by decide +kernel
theorem dX6_isToldAhead_2 : decode cX6_isToldAhead 2 = .ok (.iload_n 2, 1) := by decide +kernel
theorem dX6_isToldAhead_3 : decode cX6_isToldAhead 3 = .ok (.iload_n 1, 1) := by decide +kernel
theorem dX6_isToldAhead_4 : decode cX6_isToldAhead 4 = .ok (.if_icmp .ge 30, 3) := by decide +kernel
theorem dX6_isToldAhead_7 : decode cX6_isToldAhead 7 = .ok (.aload_n 0, 1) := by decide +kernel
theorem dX6_isToldAhead_8 : decode cX6_isToldAhead 8 = .ok (.getfield 15, 3) := by decide +kernel
theorem dX6_isToldAhead_11 : decode cX6_isToldAhead 11 = .ok (.iload_n 2, 1) := by decide +kernel
theorem dX6_isToldAhead_12 : decode cX6_isToldAhead 12 = .ok (.invokestatic 19, 3) := by decide +kernel
theorem dX6_isToldAhead_15 : decode cX6_isToldAhead 15 = .ok (.aload_n 0, 1) := by decide +kernel
theorem dX6_isToldAhead_16 : decode cX6_isToldAhead 16 = .ok (.getfield 15, 3) := by decide +kernel
theorem dX6_isToldAhead_19 : decode cX6_isToldAhead 19 = .ok (.iload_n 1, 1) := by decide +kernel
theorem dX6_isToldAhead_20 : decode cX6_isToldAhead 20 = .ok (.invokestatic 19, 3) := by decide +kernel
theorem dX6_isToldAhead_23 : decode cX6_isToldAhead 23 = .ok (.if_icmp .ne 5, 3) := by decide +kernel
theorem dX6_isToldAhead_26 : decode cX6_isToldAhead 26 = .ok (.iconst 1, 1) := by decide +kernel
theorem dX6_isToldAhead_27 : decode cX6_isToldAhead 27 = .ok (.ireturn, 1) := by decide +kernel
theorem dX6_isToldAhead_28 : decode cX6_isToldAhead 28 = .ok (.iinc 2 1, 3) := by decide +kernel
theorem dX6_isToldAhead_31 : decode cX6_isToldAhead 31 = .ok (.goto (-29), 3) := by decide +kernel
theorem dX6_isToldAhead_34 : decode cX6_isToldAhead 34 = .ok (.iconst 0, 1) := by decide +kernel
theorem dX6_isToldAhead_35 : decode cX6_isToldAhead 35 = .ok (.ireturn, 1) := by decide +kernel
theorem dX7_init_0 : decode cX7_init 0 = .ok (.aload_n 0, 1) := by decide +kernel
theorem dX7_init_1 : decode cX7_init 1 = .ok (.invokespecial 3, 3) := by decide +kernel
theorem dX7_init_4 : decode cX7_init 4 = .ok (.aload_n 0, 1) := by decide +kernel
theorem dX7_init_5 : decode cX7_init 5 = .ok (.bipush 6, 2) := by decide +kernel
theorem dX7_init_7 : decode cX7_init 7 = .ok (.newarray .int, 2) := by decide +kernel
theorem dX7_init_9 : decode cX7_init 9 = .ok (.putfield 9, 3) := by decide +kernel
theorem dX7_init_12 : decode cX7_init 12 = .ok (.aload_n 0, 1) := by decide +kernel
theorem dX7_init_13 : decode cX7_init 13 = .ok (.bipush 18, 2) := by decide +kernel
theorem dX7_init_15 : decode cX7_init 15 = .ok (.newarray .int, 2) := by decide +kernel
theorem dX7_init_17 : decode cX7_init 17 = .ok (.putfield 15, 3) := by decide +kernel
theorem dX7_init_20 : decode cX7_init 20 = .ok (.return_, 1) := by decide +kernel
theorem dX7_copyFrom_0 : decode cX7_copyFrom 0 = .ok (.aload_n 1, 1) := by decide +kernel
theorem dX7_copyFrom_1 : decode cX7_copyFrom 1 = .ok (.getfield 9, 3) := by decide +kernel
theorem dX7_copyFrom_4 : decode cX7_copyFrom 4 = .ok (.aload_n 0, 1) := by decide +kernel
theorem dX7_copyFrom_5 : decode cX7_copyFrom 5 = .ok (.getfield 9, 3) := by decide +kernel
theorem dX7_copyFrom_8 : decode cX7_copyFrom 8 = .ok (.invokestatic 18, 3) := by decide +kernel
theorem dX7_copyFrom_11 : decode cX7_copyFrom 11 = .ok (.aload_n 1, 1) := by decide +kernel
theorem dX7_copyFrom_12 : decode cX7_copyFrom 12 = .ok (.getfield 15, 3) := by decide +kernel
theorem dX7_copyFrom_15 : decode cX7_copyFrom 15 = .ok (.aload_n 0, 1) := by decide +kernel
theorem dX7_copyFrom_16 : decode cX7_copyFrom 16 = .ok (.getfield 15, 3) := by decide +kernel
theorem dX7_copyFrom_19 : decode cX7_copyFrom 19 = .ok (.invokestatic 18, 3) := by decide +kernel
theorem dX7_copyFrom_22 : decode cX7_copyFrom 22 = .ok (.return_, 1) := by decide +kernel
theorem dX7_length_0 : decode cX7_length 0 = .ok (.aload_n 0, 1) := by decide +kernel
theorem dX7_length_1 : decode cX7_length 1 = .ok (.getfield 9, 3) := by decide +kernel
theorem dX7_length_4 : decode cX7_length 4 = .ok (.iload_n 1, 1) := by decide +kernel
theorem dX7_length_5 : decode cX7_length 5 = .ok (.invokestatic 22, 3) := by decide +kernel
theorem dX7_length_8 : decode cX7_length 8 = .ok (.ireturn, 1) := by decide +kernel
theorem dX7_pairAt_0 : decode cX7_pairAt 0 = .ok (.aload_n 0, 1) := by decide +kernel
theorem dX7_pairAt_1 : decode cX7_pairAt 1 = .ok (.getfield 15, 3) := by decide +kernel
theorem dX7_pairAt_4 : decode cX7_pairAt 4 = .ok (.iload_n 1, 1) := by decide +kernel
theorem dX7_pairAt_5 : decode cX7_pairAt 5 = .ok (.iconst 3, 1) := by decide +kernel
theorem dX7_pairAt_6 : decode cX7_pairAt 6 = .ok (.imul, 1) := by decide +kernel
theorem dX7_pairAt_7 : decode cX7_pairAt 7 = .ok (.iload_n 2, 1) := by decide +kernel
theorem dX7_pairAt_8 : decode cX7_pairAt 8 = .ok (.iadd, 1) := by decide +kernel
theorem dX7_pairAt_9 : decode cX7_pairAt 9 = .ok (.invokestatic 22, 3) := by decide +kernel
theorem dX7_pairAt_12 : decode cX7_pairAt 12 = .ok (.ireturn, 1) := by decide +kernel
theorem dX7_cut_0 : decode cX7_cut 0 = .ok (.aload_n 0, 1) := by decide +kernel
theorem dX7_cut_1 : decode cX7_cut 1 = .ok (.getfield 9, 3) := by decide +kernel
theorem dX7_cut_4 : decode cX7_cut 4 = .ok (.iload_n 1, 1) := by decide +kernel
theorem dX7_cut_5 : decode cX7_cut 5 = .ok (.iload_n 2, 1) := by decide +kernel
theorem dX7_cut_6 : decode cX7_cut 6 = .ok (.invokestatic 26, 3) := by decide +kernel
theorem dX7_cut_9 : decode cX7_cut 9 = .ok (.return_, 1) := by decide +kernel
theorem dX7_become_0 : decode cX7_become 0 = .ok (.aload_n 0, 1) := by decide +kernel
theorem dX7_become_1 : decode cX7_become 1 = .ok (.getfield 15, 3) := by decide +kernel
theorem dX7_become_4 : decode cX7_become 4 = .ok (.iload_n 1, 1) := by decide +kernel
theorem dX7_become_5 : decode cX7_become 5 = .ok (.iconst 3, 1) := by decide +kernel
theorem dX7_become_6 : decode cX7_become 6 = .ok (.imul, 1) := by decide +kernel
theorem dX7_become_7 : decode cX7_become 7 = .ok (.iload_n 2, 1) := by decide +kernel
theorem dX7_become_8 : decode cX7_become 8 = .ok (.iadd, 1) := by decide +kernel
theorem dX7_become_9 : decode cX7_become 9 = .ok (.iload_n 3, 1) := by decide +kernel
theorem dX7_become_10 : decode cX7_become 10 = .ok (.invokestatic 26, 3) := by decide +kernel
theorem dX7_become_13 : decode cX7_become 13 = .ok (.return_, 1) := by decide +kernel
theorem dX7_turnAbout_0 : decode cX7_turnAbout 0 = .ok (.aload_n 0, 1) := by decide +kernel
theorem dX7_turnAbout_1 : decode cX7_turnAbout 1 = .ok (.iload_n 1, 1) := by decide +kernel
theorem dX7_turnAbout_2 : decode cX7_turnAbout 2 = .ok (.invokevirtual 30, 3) := by decide +kernel
theorem dX7_turnAbout_5 : decode cX7_turnAbout 5 = .ok (.iconst 1, 1) := by decide +kernel
theorem dX7_turnAbout_6 : decode cX7_turnAbout 6 = .ok (.isub, 1) := by decide +kernel
theorem dX7_turnAbout_7 : decode cX7_turnAbout 7 = .ok (.istore_n 2, 1) := by decide +kernel
theorem dX7_turnAbout_8 : decode cX7_turnAbout 8 = .ok (.aload_n 0, 1) := by decide +kernel
theorem dX7_turnAbout_9 : decode cX7_turnAbout 9 = .ok (.iload_n 1, 1) := by decide +kernel
theorem dX7_turnAbout_10 : decode cX7_turnAbout 10 = .ok (.iconst 0, 1) := by decide +kernel
theorem dX7_turnAbout_11 : decode cX7_turnAbout 11 = .ok (.invokevirtual 34, 3) := by decide +kernel
theorem dX7_turnAbout_14 : decode cX7_turnAbout 14 = .ok (.istore_n 3, 1) := by decide +kernel
theorem dX7_turnAbout_15 : decode cX7_turnAbout 15 = .ok (.aload_n 0, 1) := by decide +kernel
theorem dX7_turnAbout_16 : decode cX7_turnAbout 16 = .ok (.iload_n 1, 1) := by decide +kernel
theorem dX7_turnAbout_17 : decode cX7_turnAbout 17 = .ok (.iconst 0, 1) := by decide +kernel
theorem dX7_turnAbout_18 : decode cX7_turnAbout 18 = .ok (.aload_n 0, 1) := by decide +kernel
theorem dX7_turnAbout_19 : decode cX7_turnAbout 19 = .ok (.iload_n 1, 1) := by decide +kernel
theorem dX7_turnAbout_20 : decode cX7_turnAbout 20 = .ok (.iload_n 2, 1) := by decide +kernel
theorem dX7_turnAbout_21 : decode cX7_turnAbout 21 = .ok (.invokevirtual 34, 3) := by decide +kernel
theorem dX7_turnAbout_24 : decode cX7_turnAbout 24 = .ok (.invokevirtual 38, 3) := by decide +kernel
theorem dX7_turnAbout_27 : decode cX7_turnAbout 27 = .ok (.aload_n 0, 1) := by decide +kernel
theorem dX7_turnAbout_28 : decode cX7_turnAbout 28 = .ok (.iload_n 1, 1) := by decide +kernel
theorem dX7_turnAbout_29 : decode cX7_turnAbout 29 = .ok (.iload_n 2, 1) := by decide +kernel
theorem dX7_turnAbout_30 : decode cX7_turnAbout 30 = .ok (.iload_n 3, 1) := by decide +kernel
theorem dX7_turnAbout_31 : decode cX7_turnAbout 31 = .ok (.invokevirtual 38, 3) := by decide +kernel
theorem dX7_turnAbout_34 : decode cX7_turnAbout 34 = .ok (.return_, 1) := by decide +kernel
theorem dX7_number_0 : decode cX7_number 0 = .ok (.iconst 0, 1) := by decide +kernel
theorem dX7_number_1 : decode cX7_number 1 = .ok (.istore_n 1, 1) := by decide +kernel
theorem dX7_number_2 : decode cX7_number 2 = .ok (.iconst 0, 1) := by decide +kernel
theorem dX7_number_3 : decode cX7_number 3 = .ok (.istore_n 2, 1) := by decide +kernel
theorem dX7_number_4 : decode cX7_number 4 = .ok (.iload_n 2, 1) := by decide +kernel
theorem dX7_number_5 : decode cX7_number 5 = .ok (.bipush 6, 2) := by decide +kernel
theorem dX7_number_7 : decode cX7_number 7 = .ok (.if_icmp .ge 20, 3) := by decide +kernel
theorem dX7_number_10 : decode cX7_number 10 = .ok (.aload_n 0, 1) := by decide +kernel
theorem dX7_number_11 : decode cX7_number 11 = .ok (.iload_n 2, 1) := by decide +kernel
theorem dX7_number_12 : decode cX7_number 12 = .ok (.invokevirtual 30, 3) := by decide +kernel
theorem dX7_number_15 : decode cX7_number 15 = .ok (.ifCond .le 6, 3) := by decide +kernel
theorem dX7_number_18 : decode cX7_number 18 = .ok (.iinc 1 1, 3) := by decide +kernel
theorem dX7_number_21 : decode cX7_number 21 = .ok (.iinc 2 1, 3) := by decide +kernel
theorem dX7_number_24 : decode cX7_number 24 = .ok (.goto (-20), 3) := by decide +kernel
theorem dX7_number_27 : decode cX7_number 27 = .ok (.iload_n 1, 1) := by decide +kernel
theorem dX7_number_28 : decode cX7_number 28 = .ok (.ireturn, 1) := by decide +kernel
theorem dX7_holding_0 : decode cX7_holding 0 = .ok (.iconst 0, 1) := by decide +kernel
theorem dX7_holding_1 : decode cX7_holding 1 = .ok (.istore_n 2, 1) := by decide +kernel
theorem dX7_holding_2 : decode cX7_holding 2 = .ok (.iconst 0, 1) := by decide +kernel
theorem dX7_holding_3 : decode cX7_holding 3 = .ok (.istore_n 3, 1) := by decide +kernel
theorem dX7_holding_4 : decode cX7_holding 4 = .ok (.iload_n 3, 1) := by decide +kernel
theorem dX7_holding_5 : decode cX7_holding 5 = .ok (.bipush 6, 2) := by decide +kernel
theorem dX7_holding_7 : decode cX7_holding 7 = .ok (.if_icmp .ge 42, 3) := by decide +kernel
theorem dX7_holding_10 : decode cX7_holding 10 = .ok (.iconst 0, 1) := by decide +kernel
theorem dX7_holding_11 : decode cX7_holding 11 = .ok (.istore 4, 2) := by decide +kernel
theorem dX7_holding_13 : decode cX7_holding 13 = .ok (.iload 4, 2) := by decide +kernel
theorem dX7_holding_15 : decode cX7_holding 15 = .ok (.aload_n 0, 1) := by decide +kernel
theorem dX7_holding_16 : decode cX7_holding 16 = .ok (.iload_n 3, 1) := by decide +kernel
theorem dX7_holding_17 : decode cX7_holding 17 = .ok (.invokevirtual 30, 3) := by decide +kernel
theorem dX7_holding_20 : decode cX7_holding 20 = .ok (.if_icmp .ge 23, 3) := by decide +kernel
theorem dX7_holding_23 : decode cX7_holding 23 = .ok (.aload_n 0, 1) := by decide +kernel
theorem dX7_holding_24 : decode cX7_holding 24 = .ok (.iload_n 3, 1) := by decide +kernel
theorem dX7_holding_25 : decode cX7_holding 25 = .ok (.iload 4, 2) := by decide +kernel
theorem dX7_holding_27 : decode cX7_holding 27 = .ok (.invokevirtual 34, 3) := by decide +kernel
theorem dX7_holding_30 : decode cX7_holding 30 = .ok (.iload_n 1, 1) := by decide +kernel
theorem dX7_holding_31 : decode cX7_holding 31 = .ok (.if_icmp .ne 6, 3) := by decide +kernel
theorem dX7_holding_34 : decode cX7_holding 34 = .ok (.iinc 2 1, 3) := by decide +kernel
theorem dX7_holding_37 : decode cX7_holding 37 = .ok (.iinc 4 1, 3) := by decide +kernel
theorem dX7_holding_40 : decode cX7_holding 40 = .ok (.goto (-27), 3) := by decide +kernel
theorem dX7_holding_43 : decode cX7_holding 43 = .ok (.iinc 3 1, 3) := by decide +kernel
theorem dX7_holding_46 : decode cX7_holding 46 = .ok (.goto (-42), 3) := by decide +kernel
theorem dX7_holding_49 : decode cX7_holding 49 = .ok (.iload_n 2, 1) := by decide +kernel
theorem dX7_holding_50 : decode cX7_holding 50 = .ok (.ireturn, 1) := by decide +kernel
theorem dX7_shared_0 : decode cX7_shared 0 = .ok (.aload_n 0, 1) := by decide +kernel
theorem dX7_shared_1 : decode cX7_shared 1 = .ok (.iload_n 1, 1) := by decide +kernel
theorem dX7_shared_2 : decode cX7_shared 2 = .ok (.invokevirtual 30, 3) := by decide +kernel
theorem dX7_shared_5 : decode cX7_shared 5 = .ok (.aload_n 0, 1) := by decide +kernel
theorem dX7_shared_6 : decode cX7_shared 6 = .ok (.iload_n 2, 1) := by decide +kernel
theorem dX7_shared_7 : decode cX7_shared 7 = .ok (.invokevirtual 30, 3) := by decide +kernel
theorem dX7_shared_10 : decode cX7_shared 10 = .ok (.invokestatic 42, 3) := by decide +kernel
theorem dX7_shared_13 : decode cX7_shared 13 = .ok (.istore_n 3, 1) := by decide +kernel
theorem dX7_shared_14 : decode cX7_shared 14 = .ok (.iconst 0, 1) := by decide +kernel
theorem dX7_shared_15 : decode cX7_shared 15 = .ok (.istore 4, 2) := by decide +kernel
theorem dX7_shared_17 : decode cX7_shared 17 = .ok (.iload 4, 2) := by decide +kernel
theorem dX7_shared_19 : decode cX7_shared 19 = .ok (.iload_n 3, 1) := by decide +kernel
theorem dX7_shared_20 : decode cX7_shared 20 = .ok (.if_icmp .ge 29, 3) := by decide +kernel
theorem dX7_shared_23 : decode cX7_shared 23 = .ok (.aload_n 0, 1) := by decide +kernel
theorem dX7_shared_24 : decode cX7_shared 24 = .ok (.iload_n 1, 1) := by decide +kernel
theorem dX7_shared_25 : decode cX7_shared 25 = .ok (.iload 4, 2) := by decide +kernel
theorem dX7_shared_27 : decode cX7_shared 27 = .ok (.invokevirtual 34, 3) := by decide +kernel
theorem dX7_shared_30 : decode cX7_shared 30 = .ok (.aload_n 0, 1) := by decide +kernel
theorem dX7_shared_31 : decode cX7_shared 31 = .ok (.iload_n 2, 1) := by decide +kernel
theorem dX7_shared_32 : decode cX7_shared 32 = .ok (.iload 4, 2) := by decide +kernel
theorem dX7_shared_34 : decode cX7_shared 34 = .ok (.invokevirtual 34, 3) := by decide +kernel
theorem dX7_shared_37 : decode cX7_shared 37 = .ok (.if_icmp .eq 6, 3) := by decide +kernel
theorem dX7_shared_40 : decode cX7_shared 40 = .ok (.iload 4, 2) := by decide +kernel
theorem dX7_shared_42 : decode cX7_shared 42 = .ok (.ireturn, 1) := by decide +kernel
theorem dX7_shared_43 : decode cX7_shared 43 = .ok (.iinc 4 1, 3) := by decide +kernel
theorem dX7_shared_46 : decode cX7_shared 46 = .ok (.goto (-29), 3) := by decide +kernel
theorem dX7_shared_49 : decode cX7_shared 49 = .ok (.iload_n 3, 1) := by decide +kernel
theorem dX7_shared_50 : decode cX7_shared 50 = .ok (.ireturn, 1) := by decide +kernel
theorem dX7_wheels_0 : decode cX7_wheels 0 = .ok (.iconst 0, 1) := by decide +kernel
theorem dX7_wheels_1 : decode cX7_wheels 1 = .ok (.istore_n 1, 1) := by decide +kernel
theorem dX7_wheels_2 : decode cX7_wheels 2 = .ok (.iconst 0, 1) := by decide +kernel
theorem dX7_wheels_3 : decode cX7_wheels 3 = .ok (.istore_n 2, 1) := by decide +kernel
theorem dX7_wheels_4 : decode cX7_wheels 4 = .ok (.iload_n 2, 1) := by decide +kernel
theorem dX7_wheels_5 : decode cX7_wheels 5 = .ok (.bipush 6, 2) := by decide +kernel
theorem dX7_wheels_7 : decode cX7_wheels 7 = .ok (.if_icmp .ge 50, 3) := by decide +kernel
theorem dX7_wheels_10 : decode cX7_wheels 10 = .ok (.iconst 0, 1) := by decide +kernel
theorem dX7_wheels_11 : decode cX7_wheels 11 = .ok (.istore_n 3, 1) := by decide +kernel
theorem dX7_wheels_12 : decode cX7_wheels 12 = .ok (.iconst 0, 1) := by decide +kernel
theorem dX7_wheels_13 : decode cX7_wheels 13 = .ok (.istore 4, 2) := by decide +kernel
theorem dX7_wheels_15 : decode cX7_wheels 15 = .ok (.iload 4, 2) := by decide +kernel
theorem dX7_wheels_17 : decode cX7_wheels 17 = .ok (.iload_n 2, 1) := by decide +kernel
theorem dX7_wheels_18 : decode cX7_wheels 18 = .ok (.if_icmp .ge 21, 3) := by decide +kernel
theorem dX7_wheels_21 : decode cX7_wheels 21 = .ok (.iload_n 3, 1) := by decide +kernel
theorem dX7_wheels_22 : decode cX7_wheels 22 = .ok (.aload_n 0, 1) := by decide +kernel
theorem dX7_wheels_23 : decode cX7_wheels 23 = .ok (.iload_n 2, 1) := by decide +kernel
theorem dX7_wheels_24 : decode cX7_wheels 24 = .ok (.iload 4, 2) := by decide +kernel
theorem dX7_wheels_26 : decode cX7_wheels 26 = .ok (.invokevirtual 47, 3) := by decide +kernel
theorem dX7_wheels_29 : decode cX7_wheels 29 = .ok (.invokestatic 50, 3) := by decide +kernel
theorem dX7_wheels_32 : decode cX7_wheels 32 = .ok (.istore_n 3, 1) := by decide +kernel
theorem dX7_wheels_33 : decode cX7_wheels 33 = .ok (.iinc 4 1, 3) := by decide +kernel
theorem dX7_wheels_36 : decode cX7_wheels 36 = .ok (.goto (-21), 3) := by decide +kernel
theorem dX7_wheels_39 : decode cX7_wheels 39 = .ok (.iload_n 1, 1) := by decide +kernel
theorem dX7_wheels_40 : decode cX7_wheels 40 = .ok (.iconst 2, 1) := by decide +kernel
theorem dX7_wheels_41 : decode cX7_wheels 41 = .ok (.aload_n 0, 1) := by decide +kernel
theorem dX7_wheels_42 : decode cX7_wheels 42 = .ok (.iload_n 2, 1) := by decide +kernel
theorem dX7_wheels_43 : decode cX7_wheels 43 = .ok (.invokevirtual 30, 3) := by decide +kernel
theorem dX7_wheels_46 : decode cX7_wheels 46 = .ok (.iload_n 3, 1) := by decide +kernel
theorem dX7_wheels_47 : decode cX7_wheels 47 = .ok (.isub, 1) := by decide +kernel
theorem dX7_wheels_48 : decode cX7_wheels 48 = .ok (.imul, 1) := by decide +kernel
theorem dX7_wheels_49 : decode cX7_wheels 49 = .ok (.iadd, 1) := by decide +kernel
theorem dX7_wheels_50 : decode cX7_wheels 50 = .ok (.istore_n 1, 1) := by decide +kernel
theorem dX7_wheels_51 : decode cX7_wheels 51 = .ok (.iinc 2 1, 3) := by decide +kernel
theorem dX7_wheels_54 : decode cX7_wheels 54 = .ok (.goto (-50), 3) := by decide +kernel
theorem dX7_wheels_57 : decode cX7_wheels 57 = .ok (.iload_n 1, 1) := by decide +kernel
theorem dX7_wheels_58 : decode cX7_wheels 58 = .ok (.ireturn, 1) := by decide +kernel
theorem dX8_init_0 : decode cX8_init 0 = .ok (.aload_n 0, 1) := by decide +kernel
theorem dX8_init_1 : decode cX8_init 1 = .ok (.invokespecial 3, 3) := by decide +kernel
theorem dX8_init_4 : decode cX8_init 4 = .ok (.aload_n 0, 1) := by decide +kernel
theorem dX8_init_5 : decode cX8_init 5 = .ok (.new 9, 3) := by decide +kernel
theorem dX8_init_8 : decode cX8_init 8 = .ok (.dup, 1) := by decide +kernel
theorem dX8_init_9 : decode cX8_init 9 = .ok (.invokespecial 11, 3) := by decide +kernel
theorem dX8_init_12 : decode cX8_init 12 = .ok (.putfield 12, 3) := by decide +kernel
theorem dX8_init_15 : decode cX8_init 15 = .ok (.aload_n 0, 1) := by decide +kernel
theorem dX8_init_16 : decode cX8_init 16 = .ok (.new 9, 3) := by decide +kernel
theorem dX8_init_19 : decode cX8_init 19 = .ok (.dup, 1) := by decide +kernel
theorem dX8_init_20 : decode cX8_init 20 = .ok (.invokespecial 11, 3) := by decide +kernel
theorem dX8_init_23 : decode cX8_init 23 = .ok (.putfield 18, 3) := by decide +kernel
theorem dX8_init_26 : decode cX8_init 26 = .ok (.aload_n 0, 1) := by decide +kernel
theorem dX8_init_27 : decode cX8_init 27 = .ok (.new 9, 3) := by decide +kernel
theorem dX8_init_30 : decode cX8_init 30 = .ok (.dup, 1) := by decide +kernel
theorem dX8_init_31 : decode cX8_init 31 = .ok (.invokespecial 11, 3) := by decide +kernel
theorem dX8_init_34 : decode cX8_init 34 = .ok (.putfield 21, 3) := by decide +kernel
theorem dX8_init_37 : decode cX8_init 37 = .ok (.aload_n 0, 1) := by decide +kernel
theorem dX8_init_38 : decode cX8_init 38 = .ok (.iconst 0, 1) := by decide +kernel
theorem dX8_init_39 : decode cX8_init 39 = .ok (.putfield 24, 3) := by decide +kernel
theorem dX8_init_42 : decode cX8_init 42 = .ok (.aload_n 0, 1) := by decide +kernel
theorem dX8_init_43 : decode cX8_init 43 = .ok (.new 28, 3) := by decide +kernel
theorem dX8_init_46 : decode cX8_init 46 = .ok (.dup, 1) := by decide +kernel
theorem dX8_init_47 : decode cX8_init 47 = .ok (.invokespecial 30, 3) := by decide +kernel
theorem dX8_init_50 : decode cX8_init 50 = .ok (.putfield 31, 3) := by decide +kernel
theorem dX8_init_53 : decode cX8_init 53 = .ok (.aload_n 0, 1) := by decide +kernel
theorem dX8_init_54 : decode cX8_init 54 = .ok (.new 35, 3) := by decide +kernel
theorem dX8_init_57 : decode cX8_init 57 = .ok (.dup, 1) := by decide +kernel
theorem dX8_init_58 : decode cX8_init 58 = .ok (.invokespecial 37, 3) := by decide +kernel
theorem dX8_init_61 : decode cX8_init 61 = .ok (.putfield 38, 3) := by decide +kernel
theorem dX8_init_64 : decode cX8_init 64 = .ok (.aload_n 0, 1) := by decide +kernel
theorem dX8_init_65 : decode cX8_init 65 = .ok (.new 42, 3) := by decide +kernel
theorem dX8_init_68 : decode cX8_init 68 = .ok (.dup, 1) := by decide +kernel
theorem dX8_init_69 : decode cX8_init 69 = .ok (.invokespecial 44, 3) := by decide +kernel
theorem dX8_init_72 : decode cX8_init 72 = .ok (.putfield 45, 3) := by decide +kernel
theorem dX8_init_75 : decode cX8_init 75 = .ok (.aload_n 0, 1) := by decide +kernel
theorem dX8_init_76 : decode cX8_init 76 = .ok (.new 49, 3) := by decide +kernel
theorem dX8_init_79 : decode cX8_init 79 = .ok (.dup, 1) := by decide +kernel
theorem dX8_init_80 : decode cX8_init 80 = .ok (.invokespecial 51, 3) := by decide +kernel
theorem dX8_init_83 : decode cX8_init 83 = .ok (.putfield 52, 3) := by decide +kernel
theorem dX8_init_86 : decode cX8_init 86 = .ok (.return_, 1) := by decide +kernel
theorem dX8_body_0 : decode cX8_body 0 = .ok (.iload_n 1, 1) := by decide +kernel
theorem dX8_body_1 : decode cX8_body 1 = .ok (.iload_n 2, 1) := by decide +kernel
theorem dX8_body_2 : decode cX8_body 2 = .ok (.invokestatic 56, 3) := by decide +kernel
theorem dX8_body_5 : decode cX8_body 5 = .ok (.ifCond .ne 6, 3) := by decide +kernel
theorem dX8_body_8 : decode cX8_body 8 = .ok (.bipush (-2), 2) := by decide +kernel
theorem dX8_body_10 : decode cX8_body 10 = .ok (.ireturn, 1) := by decide +kernel
theorem dX8_body_11 : decode cX8_body 11 = .ok (.aload_n 0, 1) := by decide +kernel
theorem dX8_body_12 : decode cX8_body 12 = .ok (.getfield 12, 3) := by decide +kernel
theorem dX8_body_15 : decode cX8_body 15 = .ok (.getfield 60, 3) := by decide +kernel
theorem dX8_body_18 : decode cX8_body 18 = .ok (.bipush 6, 2) := by decide +kernel
theorem dX8_body_20 : decode cX8_body 20 = .ok (.if_icmp .lt 6, 3) := by decide +kernel
theorem dX8_body_23 : decode cX8_body 23 = .ok (.bipush (-4), 2) := by decide +kernel
theorem dX8_body_25 : decode cX8_body 25 = .ok (.ireturn, 1) := by decide +kernel
theorem dX8_body_26 : decode cX8_body 26 = .ok (.aload_n 0, 1) := by decide +kernel
theorem dX8_body_27 : decode cX8_body 27 = .ok (.getfield 12, 3) := by decide +kernel
theorem dX8_body_30 : decode cX8_body 30 = .ok (.dup, 1) := by decide +kernel
theorem dX8_body_31 : decode cX8_body 31 = .ok (.getfield 60, 3) := by decide +kernel
theorem dX8_body_34 : decode cX8_body 34 = .ok (.iconst 1, 1) := by decide +kernel
theorem dX8_body_35 : decode cX8_body 35 = .ok (.iadd, 1) := by decide +kernel
theorem dX8_body_36 : decode cX8_body 36 = .ok (.putfield 60, 3) := by decide +kernel
theorem dX8_body_39 : decode cX8_body 39 = .ok (.aload_n 0, 1) := by decide +kernel
theorem dX8_body_40 : decode cX8_body 40 = .ok (.getfield 12, 3) := by decide +kernel
theorem dX8_body_43 : decode cX8_body 43 = .ok (.aload_n 0, 1) := by decide +kernel
theorem dX8_body_44 : decode cX8_body 44 = .ok (.getfield 12, 3) := by decide +kernel
theorem dX8_body_47 : decode cX8_body 47 = .ok (.getfield 60, 3) := by decide +kernel
theorem dX8_body_50 : decode cX8_body 50 = .ok (.iconst 1, 1) := by decide +kernel
theorem dX8_body_51 : decode cX8_body 51 = .ok (.isub, 1) := by decide +kernel
theorem dX8_body_52 : decode cX8_body 52 = .ok (.iload_n 1, 1) := by decide +kernel
theorem dX8_body_53 : decode cX8_body 53 = .ok (.iload_n 2, 1) := by decide +kernel
theorem dX8_body_54 : decode cX8_body 54 = .ok (.invokevirtual 64, 3) := by decide +kernel
theorem dX8_body_57 : decode cX8_body 57 = .ok (.aload_n 0, 1) := by decide +kernel
theorem dX8_body_58 : decode cX8_body 58 = .ok (.getfield 12, 3) := by decide +kernel
theorem dX8_body_61 : decode cX8_body 61 = .ok (.getfield 60, 3) := by decide +kernel
theorem dX8_body_64 : decode cX8_body 64 = .ok (.iconst 1, 1) := by decide +kernel
theorem dX8_body_65 : decode cX8_body 65 = .ok (.isub, 1) := by decide +kernel
theorem dX8_body_66 : decode cX8_body 66 = .ok (.ireturn, 1) := by decide +kernel
theorem dX8_ratio_0 : decode cX8_ratio 0 = .ok (.aload_n 0, 1) := by decide +kernel
theorem dX8_ratio_1 : decode cX8_ratio 1 = .ok (.getfield 12, 3) := by decide +kernel
theorem dX8_ratio_4 : decode cX8_ratio 4 = .ok (.iload_n 1, 1) := by decide +kernel
theorem dX8_ratio_5 : decode cX8_ratio 5 = .ok (.invokevirtual 68, 3) := by decide +kernel
theorem dX8_ratio_8 : decode cX8_ratio 8 = .ok (.ifCond .ne 5, 3) := by decide +kernel
theorem dX8_ratio_11 : decode cX8_ratio 11 = .ok (.iconst (-1), 1) := by decide +kernel
theorem dX8_ratio_12 : decode cX8_ratio 12 = .ok (.ireturn, 1) := by decide +kernel
theorem dX8_ratio_13 : decode cX8_ratio 13 = .ok (.iload_n 2, 1) := by decide +kernel
theorem dX8_ratio_14 : decode cX8_ratio 14 = .ok (.iload_n 3, 1) := by decide +kernel
theorem dX8_ratio_15 : decode cX8_ratio 15 = .ok (.invokestatic 56, 3) := by decide +kernel
theorem dX8_ratio_18 : decode cX8_ratio 18 = .ok (.ifCond .ne 6, 3) := by decide +kernel
theorem dX8_ratio_21 : decode cX8_ratio 21 = .ok (.bipush (-2), 2) := by decide +kernel
theorem dX8_ratio_23 : decode cX8_ratio 23 = .ok (.ireturn, 1) := by decide +kernel
theorem dX8_ratio_24 : decode cX8_ratio 24 = .ok (.sipush 10000, 3) := by decide +kernel
theorem dX8_ratio_27 : decode cX8_ratio 27 = .ok (.aload_n 0, 1) := by decide +kernel
theorem dX8_ratio_28 : decode cX8_ratio 28 = .ok (.getfield 12, 3) := by decide +kernel
theorem dX8_ratio_31 : decode cX8_ratio 31 = .ok (.getfield 72, 3) := by decide +kernel
theorem dX8_ratio_34 : decode cX8_ratio 34 = .ok (.iload_n 1, 1) := by decide +kernel
theorem dX8_ratio_35 : decode cX8_ratio 35 = .ok (.invokestatic 76, 3) := by decide +kernel
theorem dX8_ratio_38 : decode cX8_ratio 38 = .ok (.imul, 1) := by decide +kernel
theorem dX8_ratio_39 : decode cX8_ratio 39 = .ok (.aload_n 0, 1) := by decide +kernel
theorem dX8_ratio_40 : decode cX8_ratio 40 = .ok (.getfield 12, 3) := by decide +kernel
theorem dX8_ratio_43 : decode cX8_ratio 43 = .ok (.getfield 80, 3) := by decide +kernel
theorem dX8_ratio_46 : decode cX8_ratio 46 = .ok (.iload_n 1, 1) := by decide +kernel
theorem dX8_ratio_47 : decode cX8_ratio 47 = .ok (.invokestatic 76, 3) := by decide +kernel
theorem dX8_ratio_50 : decode cX8_ratio 50 = .ok (.iadd, 1) := by decide +kernel
theorem dX8_ratio_51 : decode cX8_ratio 51 = .ok (.istore 4, 2) := by decide +kernel
theorem dX8_ratio_53 : decode cX8_ratio 53 = .ok (.aload_n 0, 1) := by decide +kernel
theorem dX8_ratio_54 : decode cX8_ratio 54 = .ok (.getfield 12, 3) := by decide +kernel
theorem dX8_ratio_57 : decode cX8_ratio 57 = .ok (.iload_n 1, 1) := by decide +kernel
theorem dX8_ratio_58 : decode cX8_ratio 58 = .ok (.iload_n 2, 1) := by decide +kernel
theorem dX8_ratio_59 : decode cX8_ratio 59 = .ok (.iload_n 3, 1) := by decide +kernel
theorem dX8_ratio_60 : decode cX8_ratio 60 = .ok (.invokevirtual 64, 3) := by decide +kernel
theorem dX8_ratio_63 : decode cX8_ratio 63 = .ok (.iload 4, 2) := by decide +kernel
theorem dX8_ratio_65 : decode cX8_ratio 65 = .ok (.ireturn, 1) := by decide +kernel
theorem dX8_term_0 : decode cX8_term 0 = .ok (.aload_n 0, 1) := by decide +kernel
theorem dX8_term_1 : decode cX8_term 1 = .ok (.getfield 12, 3) := by decide +kernel
theorem dX8_term_4 : decode cX8_term 4 = .ok (.iload_n 1, 1) := by decide +kernel
theorem dX8_term_5 : decode cX8_term 5 = .ok (.invokevirtual 68, 3) := by decide +kernel
theorem dX8_term_8 : decode cX8_term 8 = .ok (.ifCond .ne 5, 3) := by decide +kernel
theorem dX8_term_11 : decode cX8_term 11 = .ok (.iconst (-1), 1) := by decide +kernel
theorem dX8_term_12 : decode cX8_term 12 = .ok (.ireturn, 1) := by decide +kernel
theorem dX8_term_13 : decode cX8_term 13 = .ok (.aload_n 0, 1) := by decide +kernel
theorem dX8_term_14 : decode cX8_term 14 = .ok (.getfield 12, 3) := by decide +kernel
theorem dX8_term_17 : decode cX8_term 17 = .ok (.getfield 72, 3) := by decide +kernel
theorem dX8_term_20 : decode cX8_term 20 = .ok (.iload_n 1, 1) := by decide +kernel
theorem dX8_term_21 : decode cX8_term 21 = .ok (.invokestatic 76, 3) := by decide +kernel
theorem dX8_term_24 : decode cX8_term 24 = .ok (.istore_n 3, 1) := by decide +kernel
theorem dX8_term_25 : decode cX8_term 25 = .ok (.aload_n 0, 1) := by decide +kernel
theorem dX8_term_26 : decode cX8_term 26 = .ok (.getfield 12, 3) := by decide +kernel
theorem dX8_term_29 : decode cX8_term 29 = .ok (.getfield 80, 3) := by decide +kernel
theorem dX8_term_32 : decode cX8_term 32 = .ok (.iload_n 1, 1) := by decide +kernel
theorem dX8_term_33 : decode cX8_term 33 = .ok (.invokestatic 76, 3) := by decide +kernel
theorem dX8_term_36 : decode cX8_term 36 = .ok (.istore 4, 2) := by decide +kernel
theorem dX8_term_38 : decode cX8_term 38 = .ok (.iconst 0, 1) := by decide +kernel
theorem dX8_term_39 : decode cX8_term 39 = .ok (.istore 5, 2) := by decide +kernel
theorem dX8_term_41 : decode cX8_term 41 = .ok (.iconst 0, 1) := by decide +kernel
theorem dX8_term_42 : decode cX8_term 42 = .ok (.istore 6, 2) := by decide +kernel
theorem dX8_term_44 : decode cX8_term 44 = .ok (.iload 6, 2) := by decide +kernel
theorem dX8_term_46 : decode cX8_term 46 = .ok (.bipush 100, 2) := by decide +kernel
theorem dX8_term_48 : decode cX8_term 48 = .ok (.if_icmp .ge 41, 3) := by decide +kernel
theorem dX8_term_51 : decode cX8_term 51 = .ok (.iload 4, 2) := by decide +kernel
theorem dX8_term_53 : decode cX8_term 53 = .ok (.ifCond .eq 36, 3) := by decide +kernel
theorem dX8_term_56 : decode cX8_term 56 = .ok (.iload 6, 2) := by decide +kernel
theorem dX8_term_58 : decode cX8_term 58 = .ok (.iload_n 2, 1) := by decide +kernel
theorem dX8_term_59 : decode cX8_term 59 = .ok (.if_icmp .ne 8, 3) := by decide +kernel
theorem dX8_term_62 : decode cX8_term 62 = .ok (.iload_n 3, 1) := by decide +kernel
theorem dX8_term_63 : decode cX8_term 63 = .ok (.iload 4, 2) := by decide +kernel
theorem dX8_term_65 : decode cX8_term 65 = .ok (.idiv, 1) := by decide +kernel
theorem dX8_term_66 : decode cX8_term 66 = .ok (.ireturn, 1) := by decide +kernel
theorem dX8_term_67 : decode cX8_term 67 = .ok (.iload_n 3, 1) := by decide +kernel
theorem dX8_term_68 : decode cX8_term 68 = .ok (.iload 4, 2) := by decide +kernel
theorem dX8_term_70 : decode cX8_term 70 = .ok (.irem, 1) := by decide +kernel
theorem dX8_term_71 : decode cX8_term 71 = .ok (.istore 7, 2) := by decide +kernel
theorem dX8_term_73 : decode cX8_term 73 = .ok (.iload 4, 2) := by decide +kernel
theorem dX8_term_75 : decode cX8_term 75 = .ok (.istore_n 3, 1) := by decide +kernel
theorem dX8_term_76 : decode cX8_term 76 = .ok (.iload 7, 2) := by decide +kernel
theorem dX8_term_78 : decode cX8_term 78 = .ok (.istore 4, 2) := by decide +kernel
theorem dX8_term_80 : decode cX8_term 80 = .ok (.iinc 5 1, 3) := by decide +kernel
theorem dX8_term_83 : decode cX8_term 83 = .ok (.iinc 6 1, 3) := by decide +kernel
theorem dX8_term_86 : decode cX8_term 86 = .ok (.goto (-42), 3) := by decide +kernel
theorem dX8_term_89 : decode cX8_term 89 = .ok (.iload_n 2, 1) := by decide +kernel
theorem dX8_term_90 : decode cX8_term 90 = .ok (.iconst (-1), 1) := by decide +kernel
theorem dX8_term_91 : decode cX8_term 91 = .ok (.if_icmp .ne 8, 3) := by decide +kernel
theorem dX8_term_94 : decode cX8_term 94 = .ok (.iload 5, 2) := by decide +kernel
theorem dX8_term_96 : decode cX8_term 96 = .ok (.goto 5, 3) := by decide +kernel
theorem dX8_term_99 : decode cX8_term 99 = .ok (.bipush (-5), 2) := by decide +kernel
theorem dX8_term_101 : decode cX8_term 101 = .ok (.ireturn, 1) := by decide +kernel
theorem dX8_convergent_0 : decode cX8_convergent 0 = .ok (.aload_n 0, 1) := by decide +kernel
theorem dX8_convergent_1 : decode cX8_convergent 1 = .ok (.getfield 12, 3) := by decide +kernel
theorem dX8_convergent_4 : decode cX8_convergent 4 = .ok (.iload_n 1, 1) := by decide +kernel
theorem dX8_convergent_5 : decode cX8_convergent 5 = .ok (.invokevirtual 68, 3) := by decide +kernel
theorem dX8_convergent_8 : decode cX8_convergent 8 = .ok (.ifCond .eq 10, 3) := by decide +kernel
theorem dX8_convergent_11 : decode cX8_convergent 11 = .ok (.iload_n 3, 1) := by decide +kernel
theorem dX8_convergent_12 : decode cX8_convergent 12 = .ok (.invokestatic 83, 3) := by decide +kernel
theorem dX8_convergent_15 : decode cX8_convergent 15 = .ok (.ifCond .ne 7, 3) := by decide +kernel
theorem dX8_convergent_18 : decode cX8_convergent 18 = .ok (.ldc2_w 86, 3) := by decide +kernel
theorem dX8_convergent_21 : decode cX8_convergent 21 = .ok (.lreturn, 1) := by decide +kernel
theorem dX8_convergent_22 : decode cX8_convergent 22 = .ok (.aload_n 0, 1) := by decide +kernel
theorem dX8_convergent_23 : decode cX8_convergent 23 = .ok (.getfield 12, 3) := by decide +kernel
theorem dX8_convergent_26 : decode cX8_convergent 26 = .ok (.getfield 72, 3) := by decide +kernel
theorem dX8_convergent_29 : decode cX8_convergent 29 = .ok (.iload_n 1, 1) := by decide +kernel
theorem dX8_convergent_30 : decode cX8_convergent 30 = .ok (.invokestatic 76, 3) := by decide +kernel
theorem dX8_convergent_33 : decode cX8_convergent 33 = .ok (.istore 4, 2) := by decide +kernel
theorem dX8_convergent_35 : decode cX8_convergent 35 = .ok (.aload_n 0, 1) := by decide +kernel
theorem dX8_convergent_36 : decode cX8_convergent 36 = .ok (.getfield 12, 3) := by decide +kernel
theorem dX8_convergent_39 : decode cX8_convergent 39 = .ok (.getfield 80, 3) := by decide +kernel
theorem dX8_convergent_42 : decode cX8_convergent 42 = .ok (.iload_n 1, 1) := by decide +kernel
theorem dX8_convergent_43 : decode cX8_convergent 43 = .ok (.invokestatic 76, 3) := by decide +kernel
theorem dX8_convergent_46 : decode cX8_convergent 46 = .ok (.istore 5, 2) := by decide +kernel
theorem dX8_convergent_48 : decode cX8_convergent 48 = .ok (.lconst 1, 1) := by decide +kernel
theorem dX8_convergent_49 : decode cX8_convergent 49 = .ok (.lstore 6, 2) := by decide +kernel
theorem dX8_convergent_51 : decode cX8_convergent 51 = .ok (.lconst 0, 1) := by decide +kernel
theorem dX8_convergent_52 : decode cX8_convergent 52 = .ok (.lstore 8, 2) := by decide +kernel
theorem dX8_convergent_54 : decode cX8_convergent 54 = .ok (.lconst 0, 1) := by decide +kernel
theorem dX8_convergent_55 : decode cX8_convergent 55 = .ok (.lstore 10, 2) := by decide +kernel
theorem dX8_convergent_57 : decode cX8_convergent 57 = .ok (.lconst 1, 1) := by decide +kernel
theorem dX8_convergent_58 : decode cX8_convergent 58 = .ok (.lstore 12, 2) := by decide +kernel
theorem dX8_convergent_60 : decode cX8_convergent 60 = .ok (.iconst 0, 1) := by decide +kernel
theorem dX8_convergent_61 : decode cX8_convergent 61 = .ok (.istore 14, 2) := by decide +kernel
theorem dX8_convergent_63 : decode cX8_convergent 63 = .ok (.iload 14, 2) := by decide +kernel
theorem dX8_convergent_65 : decode cX8_convergent 65 = .ok (.bipush 100, 2) := by decide +kernel
theorem dX8_convergent_67 : decode cX8_convergent 67 = .ok (.if_icmp .ge 88, 3) := by decide +kernel
theorem dX8_convergent_70 : decode cX8_convergent 70 = .ok (.iload 5, 2) := by decide +kernel
theorem dX8_convergent_72 : decode cX8_convergent 72 = .ok (.ifCond .eq 83, 3) := by decide +kernel
theorem dX8_convergent_75 : decode cX8_convergent 75 = .ok (.iload 4, 2) := by decide +kernel
theorem dX8_convergent_77 : decode cX8_convergent 77 = .ok (.iload 5, 2) := by decide +kernel
theorem dX8_convergent_79 : decode cX8_convergent 79 = .ok (.idiv, 1) := by decide +kernel
theorem dX8_convergent_80 : decode cX8_convergent 80 = .ok (.i2l, 1) := by decide +kernel
theorem dX8_convergent_81 : decode cX8_convergent 81 = .ok (.lstore 15, 2) := by decide +kernel
theorem dX8_convergent_83 : decode cX8_convergent 83 = .ok (.lload 15, 2) := by decide +kernel
theorem dX8_convergent_85 : decode cX8_convergent 85 = .ok (.lload 6, 2) := by decide +kernel
theorem dX8_convergent_87 : decode cX8_convergent 87 = .ok (.lmul, 1) := by decide +kernel
theorem dX8_convergent_88 : decode cX8_convergent 88 = .ok (.lload 10, 2) := by decide +kernel
theorem dX8_convergent_90 : decode cX8_convergent 90 = .ok (.ladd, 1) := by decide +kernel
theorem dX8_convergent_91 : decode cX8_convergent 91 = .ok (.lstore 17, 2) := by decide +kernel
theorem dX8_convergent_93 : decode cX8_convergent 93 = .ok (.lload 15, 2) := by decide +kernel
theorem dX8_convergent_95 : decode cX8_convergent 95 = .ok (.lload 8, 2) := by decide +kernel
theorem dX8_convergent_97 : decode cX8_convergent 97 = .ok (.lmul, 1) := by decide +kernel
theorem dX8_convergent_98 : decode cX8_convergent 98 = .ok (.lload 12, 2) := by decide +kernel
theorem dX8_convergent_100 : decode cX8_convergent 100 = .ok (.ladd, 1) := by decide +kernel
theorem dX8_convergent_101 : decode cX8_convergent 101 = .ok (.lstore 19, 2) := by decide +kernel
theorem dX8_convergent_103 : decode cX8_convergent 103 = .ok (.iload 14, 2) := by decide +kernel
theorem dX8_convergent_105 : decode cX8_convergent 105 = .ok (.iload_n 2, 1) := by decide +kernel
theorem dX8_convergent_106 : decode cX8_convergent 106 = .ok (.if_icmp .ne 12, 3) := by decide +kernel
theorem dX8_convergent_109 : decode cX8_convergent 109 = .ok (.lload 17, 2) := by decide +kernel
theorem dX8_convergent_111 : decode cX8_convergent 111 = .ok (.lload 19, 2) := by decide +kernel
theorem dX8_convergent_113 : decode cX8_convergent 113 = .ok (.iload_n 3, 1) := by decide +kernel
theorem dX8_convergent_114 : decode cX8_convergent 114 = .ok (.invokestatic 88, 3) := by decide +kernel
theorem dX8_convergent_117 : decode cX8_convergent 117 = .ok (.lreturn, 1) := by decide +kernel
theorem dX8_convergent_118 : decode cX8_convergent 118 = .ok (.lload 6, 2) := by decide +kernel
theorem dX8_convergent_120 : decode cX8_convergent 120 = .ok (.lstore 10, 2) := by decide +kernel
theorem dX8_convergent_122 : decode cX8_convergent 122 = .ok (.lload 8, 2) := by decide +kernel
theorem dX8_convergent_124 : decode cX8_convergent 124 = .ok (.lstore 12, 2) := by decide +kernel
theorem dX8_convergent_126 : decode cX8_convergent 126 = .ok (.lload 17, 2) := by decide +kernel
theorem dX8_convergent_128 : decode cX8_convergent 128 = .ok (.lstore 6, 2) := by decide +kernel
theorem dX8_convergent_130 : decode cX8_convergent 130 = .ok (.lload 19, 2) := by decide +kernel
theorem dX8_convergent_132 : decode cX8_convergent 132 = .ok (.lstore 8, 2) := by decide +kernel
theorem dX8_convergent_134 : decode cX8_convergent 134 = .ok (.iload 4, 2) := by decide +kernel
theorem dX8_convergent_136 : decode cX8_convergent 136 = .ok (.iload 5, 2) := by decide +kernel
theorem dX8_convergent_138 : decode cX8_convergent 138 = .ok (.irem, 1) := by decide +kernel
theorem dX8_convergent_139 : decode cX8_convergent 139 = .ok (.istore 21, 2) := by decide +kernel
theorem dX8_convergent_141 : decode cX8_convergent 141 = .ok (.iload 5, 2) := by decide +kernel
theorem dX8_convergent_143 : decode cX8_convergent 143 = .ok (.istore 4, 2) := by decide +kernel
theorem dX8_convergent_145 : decode cX8_convergent 145 = .ok (.iload 21, 2) := by decide +kernel
theorem dX8_convergent_147 : decode cX8_convergent 147 = .ok (.istore 5, 2) := by decide +kernel
theorem dX8_convergent_149 : decode cX8_convergent 149 = .ok (.iinc 14 1, 3) := by decide +kernel
theorem dX8_convergent_152 : decode cX8_convergent 152 = .ok (.goto (-89), 3) := by decide +kernel
theorem dX8_convergent_155 : decode cX8_convergent 155 = .ok (.ldc2_w 86, 3) := by decide +kernel
theorem dX8_convergent_158 : decode cX8_convergent 158 = .ok (.lreturn, 1) := by decide +kernel
theorem dX8_near_0 : decode cX8_near 0 = .ok (.aload_n 0, 1) := by decide +kernel
theorem dX8_near_1 : decode cX8_near 1 = .ok (.getfield 12, 3) := by decide +kernel
theorem dX8_near_4 : decode cX8_near 4 = .ok (.iload_n 1, 1) := by decide +kernel
theorem dX8_near_5 : decode cX8_near 5 = .ok (.invokevirtual 68, 3) := by decide +kernel
theorem dX8_near_8 : decode cX8_near 8 = .ok (.ifCond .eq 21, 3) := by decide +kernel
theorem dX8_near_11 : decode cX8_near 11 = .ok (.iload_n 2, 1) := by decide +kernel
theorem dX8_near_12 : decode cX8_near 12 = .ok (.iconst 1, 1) := by decide +kernel
theorem dX8_near_13 : decode cX8_near 13 = .ok (.if_icmp .lt 16, 3) := by decide +kernel
theorem dX8_near_16 : decode cX8_near 16 = .ok (.iload_n 2, 1) := by decide +kernel
theorem dX8_near_17 : decode cX8_near 17 = .ok (.bipush 99, 2) := by decide +kernel
theorem dX8_near_19 : decode cX8_near 19 = .ok (.if_icmp .gt 10, 3) := by decide +kernel
theorem dX8_near_22 : decode cX8_near 22 = .ok (.iload_n 3, 1) := by decide +kernel
theorem dX8_near_23 : decode cX8_near 23 = .ok (.invokestatic 83, 3) := by decide +kernel
theorem dX8_near_26 : decode cX8_near 26 = .ok (.ifCond .ne 7, 3) := by decide +kernel
theorem dX8_near_29 : decode cX8_near 29 = .ok (.ldc2_w 86, 3) := by decide +kernel
theorem dX8_near_32 : decode cX8_near 32 = .ok (.lreturn, 1) := by decide +kernel
theorem dX8_near_33 : decode cX8_near 33 = .ok (.aload_n 0, 1) := by decide +kernel
theorem dX8_near_34 : decode cX8_near 34 = .ok (.getfield 12, 3) := by decide +kernel
theorem dX8_near_37 : decode cX8_near 37 = .ok (.getfield 72, 3) := by decide +kernel
theorem dX8_near_40 : decode cX8_near 40 = .ok (.iload_n 1, 1) := by decide +kernel
theorem dX8_near_41 : decode cX8_near 41 = .ok (.invokestatic 76, 3) := by decide +kernel
theorem dX8_near_44 : decode cX8_near 44 = .ok (.i2l, 1) := by decide +kernel
theorem dX8_near_45 : decode cX8_near 45 = .ok (.lstore 4, 2) := by decide +kernel
theorem dX8_near_47 : decode cX8_near 47 = .ok (.aload_n 0, 1) := by decide +kernel
theorem dX8_near_48 : decode cX8_near 48 = .ok (.getfield 12, 3) := by decide +kernel
theorem dX8_near_51 : decode cX8_near 51 = .ok (.getfield 80, 3) := by decide +kernel
theorem dX8_near_54 : decode cX8_near 54 = .ok (.iload_n 1, 1) := by decide +kernel
theorem dX8_near_55 : decode cX8_near 55 = .ok (.invokestatic 76, 3) := by decide +kernel
theorem dX8_near_58 : decode cX8_near 58 = .ok (.i2l, 1) := by decide +kernel
theorem dX8_near_59 : decode cX8_near 59 = .ok (.lstore 6, 2) := by decide +kernel
theorem dX8_near_61 : decode cX8_near 61 = .ok (.lload 4, 2) := by decide +kernel
theorem dX8_near_63 : decode cX8_near 63 = .ok (.lload 6, 2) := by decide +kernel
theorem dX8_near_65 : decode cX8_near 65 = .ok (.invokestatic 92, 3) := by decide +kernel
theorem dX8_near_68 : decode cX8_near 68 = .ok (.lstore 8, 2) := by decide +kernel
theorem dX8_near_70 : decode cX8_near 70 = .ok (.lconst 1, 1) := by decide +kernel
theorem dX8_near_71 : decode cX8_near 71 = .ok (.lstore 10, 2) := by decide +kernel
theorem dX8_near_73 : decode cX8_near 73 = .ok (.lconst 1, 1) := by decide +kernel
theorem dX8_near_74 : decode cX8_near 74 = .ok (.lstore 12, 2) := by decide +kernel
theorem dX8_near_76 : decode cX8_near 76 = .ok (.lload 12, 2) := by decide +kernel
theorem dX8_near_78 : decode cX8_near 78 = .ok (.iload_n 2, 1) := by decide +kernel
theorem dX8_near_79 : decode cX8_near 79 = .ok (.i2l, 1) := by decide +kernel
theorem dX8_near_80 : decode cX8_near 80 = .ok (.lcmp, 1) := by decide +kernel
theorem dX8_near_81 : decode cX8_near 81 = .ok (.ifCond .gt 93, 3) := by decide +kernel
theorem dX8_near_84 : decode cX8_near 84 = .ok (.lload 4, 2) := by decide +kernel
theorem dX8_near_86 : decode cX8_near 86 = .ok (.lload 12, 2) := by decide +kernel
theorem dX8_near_88 : decode cX8_near 88 = .ok (.lmul, 1) := by decide +kernel
theorem dX8_near_89 : decode cX8_near 89 = .ok (.lload 6, 2) := by decide +kernel
theorem dX8_near_91 : decode cX8_near 91 = .ok (.invokestatic 92, 3) := by decide +kernel
theorem dX8_near_94 : decode cX8_near 94 = .ok (.lstore 14, 2) := by decide +kernel
theorem dX8_near_96 : decode cX8_near 96 = .ok (.lload 14, 2) := by decide +kernel
theorem dX8_near_98 : decode cX8_near 98 = .ok (.lstore 16, 2) := by decide +kernel
theorem dX8_near_100 : decode cX8_near 100 = .ok (.lload 16, 2) := by decide +kernel
theorem dX8_near_102 : decode cX8_near 102 = .ok (.lload 14, 2) := by decide +kernel
theorem dX8_near_104 : decode cX8_near 104 = .ok (.lconst 1, 1) := by decide +kernel
theorem dX8_near_105 : decode cX8_near 105 = .ok (.ladd, 1) := by decide +kernel
theorem dX8_near_106 : decode cX8_near 106 = .ok (.lcmp, 1) := by decide +kernel
theorem dX8_near_107 : decode cX8_near 107 = .ok (.ifCond .gt 58, 3) := by decide +kernel
theorem dX8_near_110 : decode cX8_near 110 = .ok (.lload 16, 2) := by decide +kernel
theorem dX8_near_112 : decode cX8_near 112 = .ok (.lload 6, 2) := by decide +kernel
theorem dX8_near_114 : decode cX8_near 114 = .ok (.lmul, 1) := by decide +kernel
theorem dX8_near_115 : decode cX8_near 115 = .ok (.lload 4, 2) := by decide +kernel
theorem dX8_near_117 : decode cX8_near 117 = .ok (.lload 12, 2) := by decide +kernel
theorem dX8_near_119 : decode cX8_near 119 = .ok (.lmul, 1) := by decide +kernel
theorem dX8_near_120 : decode cX8_near 120 = .ok (.lsub, 1) := by decide +kernel
theorem dX8_near_121 : decode cX8_near 121 = .ok (.invokestatic 96, 3) := by decide +kernel
theorem dX8_near_124 : decode cX8_near 124 = .ok (.lload 10, 2) := by decide +kernel
theorem dX8_near_126 : decode cX8_near 126 = .ok (.lmul, 1) := by decide +kernel
theorem dX8_near_127 : decode cX8_near 127 = .ok (.lload 8, 2) := by decide +kernel
theorem dX8_near_129 : decode cX8_near 129 = .ok (.lload 6, 2) := by decide +kernel
theorem dX8_near_131 : decode cX8_near 131 = .ok (.lmul, 1) := by decide +kernel
theorem dX8_near_132 : decode cX8_near 132 = .ok (.lload 4, 2) := by decide +kernel
theorem dX8_near_134 : decode cX8_near 134 = .ok (.lload 10, 2) := by decide +kernel
theorem dX8_near_136 : decode cX8_near 136 = .ok (.lmul, 1) := by decide +kernel
theorem dX8_near_137 : decode cX8_near 137 = .ok (.lsub, 1) := by decide +kernel
theorem dX8_near_138 : decode cX8_near 138 = .ok (.invokestatic 96, 3) := by decide +kernel
theorem dX8_near_141 : decode cX8_near 141 = .ok (.lload 12, 2) := by decide +kernel
theorem dX8_near_143 : decode cX8_near 143 = .ok (.lmul, 1) := by decide +kernel
theorem dX8_near_144 : decode cX8_near 144 = .ok (.lcmp, 1) := by decide +kernel
theorem dX8_near_145 : decode cX8_near 145 = .ok (.ifCond .ge 11, 3) := by decide +kernel
theorem dX8_near_148 : decode cX8_near 148 = .ok (.lload 16, 2) := by decide +kernel
theorem dX8_near_150 : decode cX8_near 150 = .ok (.lstore 8, 2) := by decide +kernel
theorem dX8_near_152 : decode cX8_near 152 = .ok (.lload 12, 2) := by decide +kernel
theorem dX8_near_154 : decode cX8_near 154 = .ok (.lstore 10, 2) := by decide +kernel
theorem dX8_near_156 : decode cX8_near 156 = .ok (.lload 16, 2) := by decide +kernel
theorem dX8_near_158 : decode cX8_near 158 = .ok (.lconst 1, 1) := by decide +kernel
theorem dX8_near_159 : decode cX8_near 159 = .ok (.ladd, 1) := by decide +kernel
theorem dX8_near_160 : decode cX8_near 160 = .ok (.lstore 16, 2) := by decide +kernel
theorem dX8_near_162 : decode cX8_near 162 = .ok (.goto (-62), 3) := by decide +kernel
theorem dX8_near_165 : decode cX8_near 165 = .ok (.lload 12, 2) := by decide +kernel
theorem dX8_near_167 : decode cX8_near 167 = .ok (.lconst 1, 1) := by decide +kernel
theorem dX8_near_168 : decode cX8_near 168 = .ok (.ladd, 1) := by decide +kernel
theorem dX8_near_169 : decode cX8_near 169 = .ok (.lstore 12, 2) := by decide +kernel
theorem dX8_near_171 : decode cX8_near 171 = .ok (.goto (-95), 3) := by decide +kernel
theorem dX8_near_174 : decode cX8_near 174 = .ok (.lload 8, 2) := by decide +kernel
theorem dX8_near_176 : decode cX8_near 176 = .ok (.lload 10, 2) := by decide +kernel
theorem dX8_near_178 : decode cX8_near 178 = .ok (.iload_n 3, 1) := by decide +kernel
theorem dX8_near_179 : decode cX8_near 179 = .ok (.invokestatic 88, 3) := by decide +kernel
theorem dX8_near_182 : decode cX8_near 182 = .ok (.lreturn, 1) := by decide +kernel
theorem dX8_bounds_0 : decode cX8_bounds 0 = .ok (.iload_n 1, 1) := by decide +kernel
theorem dX8_bounds_1 : decode cX8_bounds 1 = .ok (.invokestatic 102, 3) := by decide +kernel
theorem dX8_bounds_4 : decode cX8_bounds 4 = .ok (.ifCond .eq 23, 3) := by decide +kernel
theorem dX8_bounds_7 : decode cX8_bounds 7 = .ok (.iload_n 2, 1) := by decide +kernel
theorem dX8_bounds_8 : decode cX8_bounds 8 = .ok (.invokestatic 102, 3) := by decide +kernel
theorem dX8_bounds_11 : decode cX8_bounds 11 = .ok (.ifCond .eq 16, 3) := by decide +kernel
theorem dX8_bounds_14 : decode cX8_bounds 14 = .ok (.iload_n 2, 1) := by decide +kernel
theorem dX8_bounds_15 : decode cX8_bounds 15 = .ok (.iload_n 1, 1) := by decide +kernel
theorem dX8_bounds_16 : decode cX8_bounds 16 = .ok (.if_icmp .lt 11, 3) := by decide +kernel
theorem dX8_bounds_19 : decode cX8_bounds 19 = .ok (.iload_n 2, 1) := by decide +kernel
theorem dX8_bounds_20 : decode cX8_bounds 20 = .ok (.iload_n 1, 1) := by decide +kernel
theorem dX8_bounds_21 : decode cX8_bounds 21 = .ok (.bipush 14, 2) := by decide +kernel
theorem dX8_bounds_23 : decode cX8_bounds 23 = .ok (.iadd, 1) := by decide +kernel
theorem dX8_bounds_24 : decode cX8_bounds 24 = .ok (.if_icmp .le 6, 3) := by decide +kernel
theorem dX8_bounds_27 : decode cX8_bounds 27 = .ok (.bipush (-2), 2) := by decide +kernel
theorem dX8_bounds_29 : decode cX8_bounds 29 = .ok (.ireturn, 1) := by decide +kernel
theorem dX8_bounds_30 : decode cX8_bounds 30 = .ok (.bipush 100, 2) := by decide +kernel
theorem dX8_bounds_32 : decode cX8_bounds 32 = .ok (.aload_n 0, 1) := by decide +kernel
theorem dX8_bounds_33 : decode cX8_bounds 33 = .ok (.getfield 12, 3) := by decide +kernel
theorem dX8_bounds_36 : decode cX8_bounds 36 = .ok (.getfield 105, 3) := by decide +kernel
theorem dX8_bounds_39 : decode cX8_bounds 39 = .ok (.imul, 1) := by decide +kernel
theorem dX8_bounds_40 : decode cX8_bounds 40 = .ok (.aload_n 0, 1) := by decide +kernel
theorem dX8_bounds_41 : decode cX8_bounds 41 = .ok (.getfield 12, 3) := by decide +kernel
theorem dX8_bounds_44 : decode cX8_bounds 44 = .ok (.getfield 108, 3) := by decide +kernel
theorem dX8_bounds_47 : decode cX8_bounds 47 = .ok (.iadd, 1) := by decide +kernel
theorem dX8_bounds_48 : decode cX8_bounds 48 = .ok (.istore_n 3, 1) := by decide +kernel
theorem dX8_bounds_49 : decode cX8_bounds 49 = .ok (.aload_n 0, 1) := by decide +kernel
theorem dX8_bounds_50 : decode cX8_bounds 50 = .ok (.getfield 12, 3) := by decide +kernel
theorem dX8_bounds_53 : decode cX8_bounds 53 = .ok (.iload_n 1, 1) := by decide +kernel
theorem dX8_bounds_54 : decode cX8_bounds 54 = .ok (.putfield 105, 3) := by decide +kernel
theorem dX8_bounds_57 : decode cX8_bounds 57 = .ok (.aload_n 0, 1) := by decide +kernel
theorem dX8_bounds_58 : decode cX8_bounds 58 = .ok (.getfield 12, 3) := by decide +kernel
theorem dX8_bounds_61 : decode cX8_bounds 61 = .ok (.iload_n 2, 1) := by decide +kernel
theorem dX8_bounds_62 : decode cX8_bounds 62 = .ok (.putfield 108, 3) := by decide +kernel
theorem dX8_bounds_65 : decode cX8_bounds 65 = .ok (.iload_n 3, 1) := by decide +kernel
theorem dX8_bounds_66 : decode cX8_bounds 66 = .ok (.ireturn, 1) := by decide +kernel
theorem dX8_split_0 : decode cX8_split 0 = .ok (.iload_n 1, 1) := by decide +kernel
theorem dX8_split_1 : decode cX8_split 1 = .ok (.iconst 1, 1) := by decide +kernel
theorem dX8_split_2 : decode cX8_split 2 = .ok (.if_icmp .lt 20, 3) := by decide +kernel
theorem dX8_split_5 : decode cX8_split 5 = .ok (.iload_n 1, 1) := by decide +kernel
theorem dX8_split_6 : decode cX8_split 6 = .ok (.sipush 9999, 3) := by decide +kernel
theorem dX8_split_9 : decode cX8_split 9 = .ok (.if_icmp .gt 13, 3) := by decide +kernel
theorem dX8_split_12 : decode cX8_split 12 = .ok (.iload_n 2, 1) := by decide +kernel
theorem dX8_split_13 : decode cX8_split 13 = .ok (.iconst 1, 1) := by decide +kernel
theorem dX8_split_14 : decode cX8_split 14 = .ok (.if_icmp .lt 8, 3) := by decide +kernel
theorem dX8_split_17 : decode cX8_split 17 = .ok (.iload_n 2, 1) := by decide +kernel
theorem dX8_split_18 : decode cX8_split 18 = .ok (.iconst 2, 1) := by decide +kernel
theorem dX8_split_19 : decode cX8_split 19 = .ok (.if_icmp .le 6, 3) := by decide +kernel
theorem dX8_split_22 : decode cX8_split 22 = .ok (.bipush (-2), 2) := by decide +kernel
theorem dX8_split_24 : decode cX8_split 24 = .ok (.ireturn, 1) := by decide +kernel
theorem dX8_split_25 : decode cX8_split 25 = .ok (.iconst 0, 1) := by decide +kernel
theorem dX8_split_26 : decode cX8_split 26 = .ok (.istore 4, 2) := by decide +kernel
theorem dX8_split_28 : decode cX8_split 28 = .ok (.aload_n 0, 1) := by decide +kernel
theorem dX8_split_29 : decode cX8_split 29 = .ok (.getfield 12, 3) := by decide +kernel
theorem dX8_split_32 : decode cX8_split 32 = .ok (.getfield 105, 3) := by decide +kernel
theorem dX8_split_35 : decode cX8_split 35 = .ok (.istore 5, 2) := by decide +kernel
theorem dX8_split_37 : decode cX8_split 37 = .ok (.iload 5, 2) := by decide +kernel
theorem dX8_split_39 : decode cX8_split 39 = .ok (.aload_n 0, 1) := by decide +kernel
theorem dX8_split_40 : decode cX8_split 40 = .ok (.getfield 12, 3) := by decide +kernel
theorem dX8_split_43 : decode cX8_split 43 = .ok (.getfield 108, 3) := by decide +kernel
theorem dX8_split_46 : decode cX8_split 46 = .ok (.if_icmp .gt 53, 3) := by decide +kernel
theorem dX8_split_49 : decode cX8_split 49 = .ok (.iload_n 2, 1) := by decide +kernel
theorem dX8_split_50 : decode cX8_split 50 = .ok (.iconst 1, 1) := by decide +kernel
theorem dX8_split_51 : decode cX8_split 51 = .ok (.if_icmp .ne 13, 3) := by decide +kernel
theorem dX8_split_54 : decode cX8_split 54 = .ok (.aload_n 0, 1) := by decide +kernel
theorem dX8_split_55 : decode cX8_split 55 = .ok (.iload_n 1, 1) := by decide +kernel
theorem dX8_split_56 : decode cX8_split 56 = .ok (.iload 5, 2) := by decide +kernel
theorem dX8_split_58 : decode cX8_split 58 = .ok (.invokevirtual 111, 3) := by decide +kernel
theorem dX8_split_61 : decode cX8_split 61 = .ok (.goto 10, 3) := by decide +kernel
theorem dX8_split_64 : decode cX8_split 64 = .ok (.aload_n 0, 1) := by decide +kernel
theorem dX8_split_65 : decode cX8_split 65 = .ok (.iload_n 1, 1) := by decide +kernel
theorem dX8_split_66 : decode cX8_split 66 = .ok (.iload 5, 2) := by decide +kernel
theorem dX8_split_68 : decode cX8_split 68 = .ok (.invokevirtual 115, 3) := by decide +kernel
theorem dX8_split_71 : decode cX8_split 71 = .ok (.istore 6, 2) := by decide +kernel
theorem dX8_split_73 : decode cX8_split 73 = .ok (.iload 6, 2) := by decide +kernel
theorem dX8_split_75 : decode cX8_split 75 = .ok (.ifCond .ne 6, 3) := by decide +kernel
theorem dX8_split_78 : decode cX8_split 78 = .ok (.goto 15, 3) := by decide +kernel
theorem dX8_split_81 : decode cX8_split 81 = .ok (.iload 4, 2) := by decide +kernel
theorem dX8_split_83 : decode cX8_split 83 = .ok (.iload_n 3, 1) := by decide +kernel
theorem dX8_split_84 : decode cX8_split 84 = .ok (.if_icmp .ne 6, 3) := by decide +kernel
theorem dX8_split_87 : decode cX8_split 87 = .ok (.iload 6, 2) := by decide +kernel
theorem dX8_split_89 : decode cX8_split 89 = .ok (.ireturn, 1) := by decide +kernel
theorem dX8_split_90 : decode cX8_split 90 = .ok (.iinc 4 1, 3) := by decide +kernel
theorem dX8_split_93 : decode cX8_split 93 = .ok (.iinc 5 1, 3) := by decide +kernel
theorem dX8_split_96 : decode cX8_split 96 = .ok (.goto (-59), 3) := by decide +kernel
theorem dX8_split_99 : decode cX8_split 99 = .ok (.iload_n 3, 1) := by decide +kernel
theorem dX8_split_100 : decode cX8_split 100 = .ok (.iconst (-1), 1) := by decide +kernel
theorem dX8_split_101 : decode cX8_split 101 = .ok (.if_icmp .ne 8, 3) := by decide +kernel
theorem dX8_split_104 : decode cX8_split 104 = .ok (.iload 4, 2) := by decide +kernel
theorem dX8_split_106 : decode cX8_split 106 = .ok (.goto 5, 3) := by decide +kernel
theorem dX8_split_109 : decode cX8_split 109 = .ok (.bipush (-5), 2) := by decide +kernel
theorem dX8_split_111 : decode cX8_split 111 = .ok (.ireturn, 1) := by decide +kernel
theorem dX8_prime_0 : decode cX8_prime 0 = .ok (.iload_n 1, 1) := by decide +kernel
theorem dX8_prime_1 : decode cX8_prime 1 = .ok (.iconst 1, 1) := by decide +kernel
theorem dX8_prime_2 : decode cX8_prime 2 = .ok (.if_icmp .lt 10, 3) := by decide +kernel
theorem dX8_prime_5 : decode cX8_prime 5 = .ok (.iload_n 1, 1) := by decide +kernel
theorem dX8_prime_6 : decode cX8_prime 6 = .ok (.sipush 2047, 3) := by decide +kernel
theorem dX8_prime_9 : decode cX8_prime 9 = .ok (.if_icmp .le 6, 3) := by decide +kernel
theorem dX8_prime_12 : decode cX8_prime 12 = .ok (.bipush (-2), 2) := by decide +kernel
theorem dX8_prime_14 : decode cX8_prime 14 = .ok (.ireturn, 1) := by decide +kernel
theorem dX8_prime_15 : decode cX8_prime 15 = .ok (.iload_n 1, 1) := by decide +kernel
theorem dX8_prime_16 : decode cX8_prime 16 = .ok (.istore_n 3, 1) := by decide +kernel
theorem dX8_prime_17 : decode cX8_prime 17 = .ok (.iconst 2, 1) := by decide +kernel
theorem dX8_prime_18 : decode cX8_prime 18 = .ok (.istore 4, 2) := by decide +kernel
theorem dX8_prime_20 : decode cX8_prime 20 = .ok (.iconst 0, 1) := by decide +kernel
theorem dX8_prime_21 : decode cX8_prime 21 = .ok (.istore 5, 2) := by decide +kernel
theorem dX8_prime_23 : decode cX8_prime 23 = .ok (.iconst 0, 1) := by decide +kernel
theorem dX8_prime_24 : decode cX8_prime 24 = .ok (.istore 6, 2) := by decide +kernel
theorem dX8_prime_26 : decode cX8_prime 26 = .ok (.iload 6, 2) := by decide +kernel
theorem dX8_prime_28 : decode cX8_prime 28 = .ok (.sipush 4094, 3) := by decide +kernel
theorem dX8_prime_31 : decode cX8_prime 31 = .ok (.if_icmp .ge 50, 3) := by decide +kernel
theorem dX8_prime_34 : decode cX8_prime 34 = .ok (.iload_n 3, 1) := by decide +kernel
theorem dX8_prime_35 : decode cX8_prime 35 = .ok (.iconst 1, 1) := by decide +kernel
theorem dX8_prime_36 : decode cX8_prime 36 = .ok (.if_icmp .le 45, 3) := by decide +kernel
theorem dX8_prime_39 : decode cX8_prime 39 = .ok (.iload 4, 2) := by decide +kernel
theorem dX8_prime_41 : decode cX8_prime 41 = .ok (.iconst 1, 1) := by decide +kernel
theorem dX8_prime_42 : decode cX8_prime 42 = .ok (.if_icmp .le 39, 3) := by decide +kernel
theorem dX8_prime_45 : decode cX8_prime 45 = .ok (.iload_n 3, 1) := by decide +kernel
theorem dX8_prime_46 : decode cX8_prime 46 = .ok (.iload 4, 2) := by decide +kernel
theorem dX8_prime_48 : decode cX8_prime 48 = .ok (.irem, 1) := by decide +kernel
theorem dX8_prime_49 : decode cX8_prime 49 = .ok (.ifCond .eq 9, 3) := by decide +kernel
theorem dX8_prime_52 : decode cX8_prime 52 = .ok (.iinc 4 1, 3) := by decide +kernel
theorem dX8_prime_55 : decode cX8_prime 55 = .ok (.goto 20, 3) := by decide +kernel
theorem dX8_prime_58 : decode cX8_prime 58 = .ok (.iload 5, 2) := by decide +kernel
theorem dX8_prime_60 : decode cX8_prime 60 = .ok (.iload_n 2, 1) := by decide +kernel
theorem dX8_prime_61 : decode cX8_prime 61 = .ok (.if_icmp .ne 6, 3) := by decide +kernel
theorem dX8_prime_64 : decode cX8_prime 64 = .ok (.iload 4, 2) := by decide +kernel
theorem dX8_prime_66 : decode cX8_prime 66 = .ok (.ireturn, 1) := by decide +kernel
theorem dX8_prime_67 : decode cX8_prime 67 = .ok (.iinc 5 1, 3) := by decide +kernel
theorem dX8_prime_70 : decode cX8_prime 70 = .ok (.iload_n 3, 1) := by decide +kernel
theorem dX8_prime_71 : decode cX8_prime 71 = .ok (.iload 4, 2) := by decide +kernel
theorem dX8_prime_73 : decode cX8_prime 73 = .ok (.idiv, 1) := by decide +kernel
theorem dX8_prime_74 : decode cX8_prime 74 = .ok (.istore_n 3, 1) := by decide +kernel
theorem dX8_prime_75 : decode cX8_prime 75 = .ok (.iinc 6 1, 3) := by decide +kernel
theorem dX8_prime_78 : decode cX8_prime 78 = .ok (.goto (-52), 3) := by decide +kernel
theorem dX8_prime_81 : decode cX8_prime 81 = .ok (.iload_n 2, 1) := by decide +kernel
theorem dX8_prime_82 : decode cX8_prime 82 = .ok (.iconst (-1), 1) := by decide +kernel
theorem dX8_prime_83 : decode cX8_prime 83 = .ok (.if_icmp .ne 8, 3) := by decide +kernel
theorem dX8_prime_86 : decode cX8_prime 86 = .ok (.iload 5, 2) := by decide +kernel
theorem dX8_prime_88 : decode cX8_prime 88 = .ok (.goto 5, 3) := by decide +kernel
theorem dX8_prime_91 : decode cX8_prime 91 = .ok (.bipush (-5), 2) := by decide +kernel
theorem dX8_prime_93 : decode cX8_prime 93 = .ok (.ireturn, 1) := by decide +kernel
theorem dX8_feed_0 : decode cX8_feed 0 = .ok (.iload_n 1, 1) := by decide +kernel
theorem dX8_feed_1 : decode cX8_feed 1 = .ok (.iconst 1, 1) := by decide +kernel
theorem dX8_feed_2 : decode cX8_feed 2 = .ok (.if_icmp .lt 9, 3) := by decide +kernel
theorem dX8_feed_5 : decode cX8_feed 5 = .ok (.iload_n 1, 1) := by decide +kernel
theorem dX8_feed_6 : decode cX8_feed 6 = .ok (.bipush 127, 2) := by decide +kernel
theorem dX8_feed_8 : decode cX8_feed 8 = .ok (.if_icmp .le 6, 3) := by decide +kernel
theorem dX8_feed_11 : decode cX8_feed 11 = .ok (.bipush (-2), 2) := by decide +kernel
theorem dX8_feed_13 : decode cX8_feed 13 = .ok (.ireturn, 1) := by decide +kernel
theorem dX8_feed_14 : decode cX8_feed 14 = .ok (.aload_n 0, 1) := by decide +kernel
theorem dX8_feed_15 : decode cX8_feed 15 = .ok (.getfield 31, 3) := by decide +kernel
theorem dX8_feed_18 : decode cX8_feed 18 = .ok (.getfield 118, 3) := by decide +kernel
theorem dX8_feed_21 : decode cX8_feed 21 = .ok (.bipush 60, 2) := by decide +kernel
theorem dX8_feed_23 : decode cX8_feed 23 = .ok (.if_icmp .lt 6, 3) := by decide +kernel
theorem dX8_feed_26 : decode cX8_feed 26 = .ok (.bipush (-4), 2) := by decide +kernel
theorem dX8_feed_28 : decode cX8_feed 28 = .ok (.ireturn, 1) := by decide +kernel
theorem dX8_feed_29 : decode cX8_feed 29 = .ok (.aload_n 0, 1) := by decide +kernel
theorem dX8_feed_30 : decode cX8_feed 30 = .ok (.getfield 31, 3) := by decide +kernel
theorem dX8_feed_33 : decode cX8_feed 33 = .ok (.getfield 121, 3) := by decide +kernel
theorem dX8_feed_36 : decode cX8_feed 36 = .ok (.aload_n 0, 1) := by decide +kernel
theorem dX8_feed_37 : decode cX8_feed 37 = .ok (.getfield 31, 3) := by decide +kernel
theorem dX8_feed_40 : decode cX8_feed 40 = .ok (.getfield 118, 3) := by decide +kernel
theorem dX8_feed_43 : decode cX8_feed 43 = .ok (.iload_n 1, 1) := by decide +kernel
theorem dX8_feed_44 : decode cX8_feed 44 = .ok (.invokestatic 124, 3) := by decide +kernel
theorem dX8_feed_47 : decode cX8_feed 47 = .ok (.aload_n 0, 1) := by decide +kernel
theorem dX8_feed_48 : decode cX8_feed 48 = .ok (.getfield 31, 3) := by decide +kernel
theorem dX8_feed_51 : decode cX8_feed 51 = .ok (.dup, 1) := by decide +kernel
theorem dX8_feed_52 : decode cX8_feed 52 = .ok (.getfield 118, 3) := by decide +kernel
theorem dX8_feed_55 : decode cX8_feed 55 = .ok (.iconst 1, 1) := by decide +kernel
theorem dX8_feed_56 : decode cX8_feed 56 = .ok (.iadd, 1) := by decide +kernel
theorem dX8_feed_57 : decode cX8_feed 57 = .ok (.putfield 118, 3) := by decide +kernel
theorem dX8_feed_60 : decode cX8_feed 60 = .ok (.aload_n 0, 1) := by decide +kernel
theorem dX8_feed_61 : decode cX8_feed 61 = .ok (.getfield 31, 3) := by decide +kernel
theorem dX8_feed_64 : decode cX8_feed 64 = .ok (.getfield 118, 3) := by decide +kernel
theorem dX8_feed_67 : decode cX8_feed 67 = .ok (.ireturn, 1) := by decide +kernel
theorem dX8_pairs_0 : decode cX8_pairs 0 = .ok (.aload_n 0, 1) := by decide +kernel
theorem dX8_pairs_1 : decode cX8_pairs 1 = .ok (.getfield 31, 3) := by decide +kernel
theorem dX8_pairs_4 : decode cX8_pairs 4 = .ok (.invokevirtual 128, 3) := by decide +kernel
theorem dX8_pairs_7 : decode cX8_pairs 7 = .ok (.istore_n 1, 1) := by decide +kernel
theorem dX8_pairs_8 : decode cX8_pairs 8 = .ok (.aload_n 0, 1) := by decide +kernel
theorem dX8_pairs_9 : decode cX8_pairs 9 = .ok (.getfield 31, 3) := by decide +kernel
theorem dX8_pairs_12 : decode cX8_pairs 12 = .ok (.invokevirtual 132, 3) := by decide +kernel
theorem dX8_pairs_15 : decode cX8_pairs 15 = .ok (.istore_n 2, 1) := by decide +kernel
theorem dX8_pairs_16 : decode cX8_pairs 16 = .ok (.aload_n 0, 1) := by decide +kernel
theorem dX8_pairs_17 : decode cX8_pairs 17 = .ok (.getfield 31, 3) := by decide +kernel
theorem dX8_pairs_20 : decode cX8_pairs 20 = .ok (.iconst 0, 1) := by decide +kernel
theorem dX8_pairs_21 : decode cX8_pairs 21 = .ok (.putfield 118, 3) := by decide +kernel
theorem dX8_pairs_24 : decode cX8_pairs 24 = .ok (.iload_n 1, 1) := by decide +kernel
theorem dX8_pairs_25 : decode cX8_pairs 25 = .ok (.iconst (-1), 1) := by decide +kernel
theorem dX8_pairs_26 : decode cX8_pairs 26 = .ok (.if_icmp .eq 8, 3) := by decide +kernel
theorem dX8_pairs_29 : decode cX8_pairs 29 = .ok (.bipush (-100), 2) := by decide +kernel
theorem dX8_pairs_31 : decode cX8_pairs 31 = .ok (.iload_n 1, 1) := by decide +kernel
theorem dX8_pairs_32 : decode cX8_pairs 32 = .ok (.isub, 1) := by decide +kernel
theorem dX8_pairs_33 : decode cX8_pairs 33 = .ok (.ireturn, 1) := by decide +kernel
theorem dX8_pairs_34 : decode cX8_pairs 34 = .ok (.aload_n 0, 1) := by decide +kernel
theorem dX8_pairs_35 : decode cX8_pairs 35 = .ok (.getfield 12, 3) := by decide +kernel
theorem dX8_pairs_38 : decode cX8_pairs 38 = .ok (.getfield 135, 3) := by decide +kernel
theorem dX8_pairs_41 : decode cX8_pairs 41 = .ok (.getfield 139, 3) := by decide +kernel
theorem dX8_pairs_44 : decode cX8_pairs 44 = .ok (.iload_n 2, 1) := by decide +kernel
theorem dX8_pairs_45 : decode cX8_pairs 45 = .ok (.iadd, 1) := by decide +kernel
theorem dX8_pairs_46 : decode cX8_pairs 46 = .ok (.bipush 10, 2) := by decide +kernel
theorem dX8_pairs_48 : decode cX8_pairs 48 = .ok (.if_icmp .le 6, 3) := by decide +kernel
theorem dX8_pairs_51 : decode cX8_pairs 51 = .ok (.bipush (-4), 2) := by decide +kernel
theorem dX8_pairs_53 : decode cX8_pairs 53 = .ok (.ireturn, 1) := by decide +kernel
theorem dX8_pairs_54 : decode cX8_pairs 54 = .ok (.iconst 0, 1) := by decide +kernel
theorem dX8_pairs_55 : decode cX8_pairs 55 = .ok (.istore_n 3, 1) := by decide +kernel
theorem dX8_pairs_56 : decode cX8_pairs 56 = .ok (.iload_n 3, 1) := by decide +kernel
theorem dX8_pairs_57 : decode cX8_pairs 57 = .ok (.iload_n 2, 1) := by decide +kernel
theorem dX8_pairs_58 : decode cX8_pairs 58 = .ok (.if_icmp .ge 24, 3) := by decide +kernel
theorem dX8_pairs_61 : decode cX8_pairs 61 = .ok (.aload_n 0, 1) := by decide +kernel
theorem dX8_pairs_62 : decode cX8_pairs 62 = .ok (.getfield 31, 3) := by decide +kernel
theorem dX8_pairs_65 : decode cX8_pairs 65 = .ok (.iload_n 3, 1) := by decide +kernel
theorem dX8_pairs_66 : decode cX8_pairs 66 = .ok (.aload_n 0, 1) := by decide +kernel
theorem dX8_pairs_67 : decode cX8_pairs 67 = .ok (.getfield 12, 3) := by decide +kernel
theorem dX8_pairs_70 : decode cX8_pairs 70 = .ok (.getfield 135, 3) := by decide +kernel
theorem dX8_pairs_73 : decode cX8_pairs 73 = .ok (.invokevirtual 144, 3) := by decide +kernel
theorem dX8_pairs_76 : decode cX8_pairs 76 = .ok (.iinc 3 1, 3) := by decide +kernel
theorem dX8_pairs_79 : decode cX8_pairs 79 = .ok (.goto (-23), 3) := by decide +kernel
theorem dX8_pairs_82 : decode cX8_pairs 82 = .ok (.aload_n 0, 1) := by decide +kernel
theorem dX8_pairs_83 : decode cX8_pairs 83 = .ok (.getfield 12, 3) := by decide +kernel
theorem dX8_pairs_86 : decode cX8_pairs 86 = .ok (.getfield 135, 3) := by decide +kernel
theorem dX8_pairs_89 : decode cX8_pairs 89 = .ok (.getfield 139, 3) := by decide +kernel
theorem dX8_pairs_92 : decode cX8_pairs 92 = .ok (.ireturn, 1) := by decide +kernel
theorem dX8_becomes_0 : decode cX8_becomes 0 = .ok (.aload_n 0, 1) := by decide +kernel
theorem dX8_becomes_1 : decode cX8_becomes 1 = .ok (.getfield 12, 3) := by decide +kernel
theorem dX8_becomes_4 : decode cX8_becomes 4 = .ok (.getfield 135, 3) := by decide +kernel
theorem dX8_becomes_7 : decode cX8_becomes 7 = .ok (.iload_n 1, 1) := by decide +kernel
theorem dX8_becomes_8 : decode cX8_becomes 8 = .ok (.invokevirtual 148, 3) := by decide +kernel
theorem dX8_becomes_11 : decode cX8_becomes 11 = .ok (.ifCond .eq 13, 3) := by decide +kernel
theorem dX8_becomes_14 : decode cX8_becomes 14 = .ok (.iload_n 2, 1) := by decide +kernel
theorem dX8_becomes_15 : decode cX8_becomes 15 = .ok (.ifCond .lt 9, 3) := by decide +kernel
theorem dX8_becomes_18 : decode cX8_becomes 18 = .ok (.iload_n 2, 1) := by decide +kernel
theorem dX8_becomes_19 : decode cX8_becomes 19 = .ok (.bipush 6, 2) := by decide +kernel
theorem dX8_becomes_21 : decode cX8_becomes 21 = .ok (.if_icmp .lt 5, 3) := by decide +kernel
theorem dX8_becomes_24 : decode cX8_becomes 24 = .ok (.iconst (-1), 1) := by decide +kernel
theorem dX8_becomes_25 : decode cX8_becomes 25 = .ok (.ireturn, 1) := by decide +kernel
theorem dX8_becomes_26 : decode cX8_becomes 26 = .ok (.iload_n 3, 1) := by decide +kernel
theorem dX8_becomes_27 : decode cX8_becomes 27 = .ok (.ifCond .lt 9, 3) := by decide +kernel
theorem dX8_becomes_30 : decode cX8_becomes 30 = .ok (.iload_n 3, 1) := by decide +kernel
theorem dX8_becomes_31 : decode cX8_becomes 31 = .ok (.bipush 9, 2) := by decide +kernel
theorem dX8_becomes_33 : decode cX8_becomes 33 = .ok (.if_icmp .le 6, 3) := by decide +kernel
theorem dX8_becomes_36 : decode cX8_becomes 36 = .ok (.bipush (-2), 2) := by decide +kernel
theorem dX8_becomes_38 : decode cX8_becomes 38 = .ok (.ireturn, 1) := by decide +kernel
theorem dX8_becomes_39 : decode cX8_becomes 39 = .ok (.bipush 10, 2) := by decide +kernel
theorem dX8_becomes_41 : decode cX8_becomes 41 = .ok (.aload_n 0, 1) := by decide +kernel
theorem dX8_becomes_42 : decode cX8_becomes 42 = .ok (.getfield 12, 3) := by decide +kernel
theorem dX8_becomes_45 : decode cX8_becomes 45 = .ok (.getfield 135, 3) := by decide +kernel
theorem dX8_becomes_48 : decode cX8_becomes 48 = .ok (.getfield 151, 3) := by decide +kernel
theorem dX8_becomes_51 : decode cX8_becomes 51 = .ok (.iload_n 1, 1) := by decide +kernel
theorem dX8_becomes_52 : decode cX8_becomes 52 = .ok (.invokestatic 76, 3) := by decide +kernel
theorem dX8_becomes_55 : decode cX8_becomes 55 = .ok (.imul, 1) := by decide +kernel
theorem dX8_becomes_56 : decode cX8_becomes 56 = .ok (.aload_n 0, 1) := by decide +kernel
theorem dX8_becomes_57 : decode cX8_becomes 57 = .ok (.getfield 12, 3) := by decide +kernel
theorem dX8_becomes_60 : decode cX8_becomes 60 = .ok (.getfield 135, 3) := by decide +kernel
theorem dX8_becomes_63 : decode cX8_becomes 63 = .ok (.getfield 154, 3) := by decide +kernel
theorem dX8_becomes_66 : decode cX8_becomes 66 = .ok (.iload_n 1, 1) := by decide +kernel
theorem dX8_becomes_67 : decode cX8_becomes 67 = .ok (.invokestatic 76, 3) := by decide +kernel
theorem dX8_becomes_70 : decode cX8_becomes 70 = .ok (.iadd, 1) := by decide +kernel
theorem dX8_becomes_71 : decode cX8_becomes 71 = .ok (.istore 4, 2) := by decide +kernel
theorem dX8_becomes_73 : decode cX8_becomes 73 = .ok (.aload_n 0, 1) := by decide +kernel
theorem dX8_becomes_74 : decode cX8_becomes 74 = .ok (.getfield 12, 3) := by decide +kernel
theorem dX8_becomes_77 : decode cX8_becomes 77 = .ok (.getfield 135, 3) := by decide +kernel
theorem dX8_becomes_80 : decode cX8_becomes 80 = .ok (.getfield 151, 3) := by decide +kernel
theorem dX8_becomes_83 : decode cX8_becomes 83 = .ok (.iload_n 1, 1) := by decide +kernel
theorem dX8_becomes_84 : decode cX8_becomes 84 = .ok (.iload_n 2, 1) := by decide +kernel
theorem dX8_becomes_85 : decode cX8_becomes 85 = .ok (.invokestatic 124, 3) := by decide +kernel
theorem dX8_becomes_88 : decode cX8_becomes 88 = .ok (.aload_n 0, 1) := by decide +kernel
theorem dX8_becomes_89 : decode cX8_becomes 89 = .ok (.getfield 12, 3) := by decide +kernel
theorem dX8_becomes_92 : decode cX8_becomes 92 = .ok (.getfield 135, 3) := by decide +kernel
theorem dX8_becomes_95 : decode cX8_becomes 95 = .ok (.getfield 154, 3) := by decide +kernel
theorem dX8_becomes_98 : decode cX8_becomes 98 = .ok (.iload_n 1, 1) := by decide +kernel
theorem dX8_becomes_99 : decode cX8_becomes 99 = .ok (.iload_n 3, 1) := by decide +kernel
theorem dX8_becomes_100 : decode cX8_becomes 100 = .ok (.invokestatic 124, 3) := by decide +kernel
theorem dX8_becomes_103 : decode cX8_becomes 103 = .ok (.iload 4, 2) := by decide +kernel
theorem dX8_becomes_105 : decode cX8_becomes 105 = .ok (.ireturn, 1) := by decide +kernel
