set_option maxRecDepth 100000 in
set_option maxHeartbeats 4000000 in
theorem E_X0_product {G : oG} {m : oM} {x0 : Int32} {x1 : Int32} {w : Int64} (h : F_X0_product x0 x1 = some w) : oEv G M_X0_product [.int x0, .int x1] m (some (.long w)) m := by
  unfold F_X0_product at h
  refine ⟨?_, ?_⟩
  · show oRun G M_X0_product 0 [(0, .int x0), (1, .int x1)] [] m (some (.long w)) m
    refine oRun.iload_n 1 dX0_product_0 1 rfl rfl rfl ?_
    by_cases c1 : x1 = 0
    · replace h := oIp c1 h
      refine oRun.if_ne_f 4 dX0_product_1 rfl c1 rfl ?_
      refine oRun.iload_n 5 dX0_product_4 0 rfl rfl rfl ?_
      refine oRun.i2l 6 dX0_product_5 rfl ?_
      refine oRun.goto 14 dX0_product_6 rfl ?_
      rw [← Option.some.inj h]
      exact oRun.ret (r := some (.long x0.toInt64)) dX0_product_14
    · replace h := oIn c1 h
      refine oRun.if_ne_t 9 dX0_product_1 c1 rfl ?_
      refine oRun.iload_n 10 dX0_product_9 0 rfl rfl rfl ?_
      refine oRun.i2l 11 dX0_product_10 rfl ?_
      refine oRun.iload_n 12 dX0_product_11 1 rfl rfl rfl ?_
      refine oRun.i2l 13 dX0_product_12 rfl ?_
      refine oRun.lmul 14 dX0_product_13 rfl ?_
      rw [← Option.some.inj h]
      exact oRun.ret (r := some (.long (x0.toInt64 * x1.toInt64))) dX0_product_14
  · exact True.intro
set_option maxRecDepth 100000 in
set_option maxHeartbeats 4000000 in
theorem E_X0_isOnePair {G : oG} {m : oM} {w : Int32} (h : F_X0_isOnePair m = some w) : oEv G M_X0_isOnePair [.ref 50] m (some (.int w)) m := by
  unfold F_X0_isOnePair at h
  refine ⟨?_, ?_⟩
  · show oRun G M_X0_isOnePair 0 [(0, .ref 50)] [] m (some (.int w)) m
    refine oRun.aload_n 1 dX0_isOnePair_0 0 rfl rfl (Nat.le_of_ble_eq_true rfl) rfl ?_
    refine oRun.getI 4 dX0_isOnePair_1 fd_RX0_26 rfl rfl rfl ?_
    by_cases c4 : (m.1 50 5) = 0
    · replace h := oIp c4 h
      refine oRun.if_ne_f 7 dX0_isOnePair_4 rfl c4 rfl ?_
      refine oRun.iconst 8 dX0_isOnePair_7 oc_i1 rfl ?_
      refine oRun.goto 12 dX0_isOnePair_8 rfl ?_
      rw [← Option.some.inj h]
      exact oRun.ret (r := some (.int 1)) dX0_isOnePair_12
    · replace h := oIn c4 h
      refine oRun.if_ne_t 11 dX0_isOnePair_4 c4 rfl ?_
      refine oRun.iconst 12 dX0_isOnePair_11 oc_i0 rfl ?_
      rw [← Option.some.inj h]
      exact oRun.ret (r := some (.int 0)) dX0_isOnePair_12
  · show oROK (some .boolean) (some (.int w))
    by_cases c4 : (m.1 50 5) = 0
    · replace h := oIp c4 h
      rw [← Option.some.inj h]
      exact Or.inr rfl
    · replace h := oIn c4 h
      rw [← Option.some.inj h]
      exact Or.inl rfl
set_option maxRecDepth 100000 in
set_option maxHeartbeats 4000000 in
theorem E_X0_allTeeth {G : oG} {m : oM} {w : Int32} (h : F_X0_allTeeth m = some w) : oEv G M_X0_allTeeth [.ref 50] m (some (.int w)) m := by
  unfold F_X0_allTeeth at h
  refine ⟨?_, ?_⟩
  · show oRun G M_X0_allTeeth 0 [(0, .ref 50)] [] m (some (.int w)) m
    refine oRun.aload_n 1 dX0_allTeeth_0 0 rfl rfl (Nat.le_of_ble_eq_true rfl) rfl ?_
    refine oRun.getI 4 dX0_allTeeth_1 fd_RX0_23 rfl rfl rfl ?_
    refine oRun.aload_n 5 dX0_allTeeth_4 0 rfl rfl (Nat.le_of_ble_eq_true rfl) rfl ?_
    refine oRun.getI 8 dX0_allTeeth_5 fd_RX0_26 rfl rfl rfl ?_
    refine oRun.iadd 9 dX0_allTeeth_8 rfl ?_
    refine oRun.aload_n 10 dX0_allTeeth_9 0 rfl rfl (Nat.le_of_ble_eq_true rfl) rfl ?_
    refine oRun.getI 13 dX0_allTeeth_10 fd_RX0_29 rfl rfl rfl ?_
    refine oRun.iadd 14 dX0_allTeeth_13 rfl ?_
    refine oRun.aload_n 15 dX0_allTeeth_14 0 rfl rfl (Nat.le_of_ble_eq_true rfl) rfl ?_
    refine oRun.getI 18 dX0_allTeeth_15 fd_RX0_32 rfl rfl rfl ?_
    refine oRun.iadd 19 dX0_allTeeth_18 rfl ?_
    rw [← Option.some.inj h]
    exact oRun.ret (r := some (.int ((((m.1 50 4) + (m.1 50 5)) + (m.1 50 6)) + (m.1 50 7)))) dX0_allTeeth_19
  · exact True.intro
set_option maxRecDepth 100000 in
set_option maxHeartbeats 4000000 in
theorem E_X0_isAhead_J9 {G : oG} {m : oM} {x1 : Int32} {x2 : Int32} {x3 : Int32} {x4 : Int32} {t0 : Int32} {w : Int32} (h : F_X0_isAhead_J9 m x1 x2 x3 x4 t0 = some w) : oRun G M_X0_isAhead 9 [(0, .ref 50), (1, .int x1), (2, .int x2), (3, .int x3), (4, .int x4)] [.int t0] m (some (.int w)) m := by
  unfold F_X0_isAhead_J9 at h
  refine oRun.aload_n 10 dX0_isAhead_9 0 rfl rfl (Nat.le_of_ble_eq_true rfl) rfl ?_
  obtain ⟨r10, hr10, h⟩ := oB1 h
  refine oRun.callV (as := []) 13 dX0_isAhead_10 lk_RX0_79 (oFit_i (Nat.le_of_ble_eq_true rfl) (Nat.le_of_ble_eq_true rfl)) rfl rfl rfl rfl (Nat.le_of_ble_eq_true rfl) (Nat.le_of_ble_eq_true rfl) rfl (E_X0_isOnePair hr10) rfl ?_
  show oRun G _ 13 _ [.int r10, .int t0] _ _ _
  by_cases c13 : t0 = r10
  · replace h := oIp c13 h
    refine oRun.icmp_eq_t 26 dX0_isAhead_13 c13 rfl ?_
    refine oRun.iload_n 27 dX0_isAhead_26 1 rfl rfl rfl ?_
    refine oRun.iload_n 28 dX0_isAhead_27 2 rfl rfl rfl ?_
    refine oRun.iadd 29 dX0_isAhead_28 rfl ?_
    refine oRun.iload_n 30 dX0_isAhead_29 3 rfl rfl rfl ?_
    refine oRun.iadd 31 dX0_isAhead_30 rfl ?_
    refine oRun.iload 33 dX0_isAhead_31 4 rfl rfl ?_
    refine oRun.iadd 34 dX0_isAhead_33 rfl ?_
    obtain ⟨x5_34, hx5_34, h⟩ := oB1 h
    refine oRun.nameI hx5_34 ?_
    refine oRun.istore 36 dX0_isAhead_34 (Nat.le_of_ble_eq_true rfl) rfl rfl ?_
    refine oRun.iload 38 dX0_isAhead_36 0 rfl rfl ?_
    refine oRun.aload_n 39 dX0_isAhead_38 1 rfl rfl (Nat.le_of_ble_eq_true rfl) rfl ?_
    obtain ⟨r39, hr39, h⟩ := oB1 h
    refine oRun.callV (as := []) 42 dX0_isAhead_39 lk_RX0_83 (oFit_i (Nat.le_of_ble_eq_true rfl) (Nat.le_of_ble_eq_true rfl)) rfl rfl rfl rfl (Nat.le_of_ble_eq_true rfl) (Nat.le_of_ble_eq_true rfl) rfl (E_X0_allTeeth hr39) rfl ?_
    show oRun G _ 42 _ [.int r39, .int x5_34] _ _ _
    by_cases c42 : x5_34 = r39
    · replace h := oIp c42 h
      refine oRun.icmp_eq_t 60 dX0_isAhead_42 c42 rfl ?_
      refine oRun.iload_n 61 dX0_isAhead_60 2 rfl rfl rfl ?_
      refine oRun.aload_n 62 dX0_isAhead_61 1 rfl rfl (Nat.le_of_ble_eq_true rfl) rfl ?_
      refine oRun.getI 65 dX0_isAhead_62 fd_RX0_23 rfl rfl rfl ?_
      by_cases c65 : x1 = (m.1 50 4)
      · replace h := oIp c65 h
        refine oRun.icmp_eq_t 82 dX0_isAhead_65 c65 rfl ?_
        refine oRun.iload_n 83 dX0_isAhead_82 3 rfl rfl rfl ?_
        refine oRun.aload_n 84 dX0_isAhead_83 1 rfl rfl (Nat.le_of_ble_eq_true rfl) rfl ?_
        refine oRun.getI 87 dX0_isAhead_84 fd_RX0_26 rfl rfl rfl ?_
        by_cases c87 : x2 = (m.1 50 5)
        · replace h := oIp c87 h
          refine oRun.icmp_eq_t 104 dX0_isAhead_87 c87 rfl ?_
          refine oRun.iload_n 105 dX0_isAhead_104 4 rfl rfl rfl ?_
          refine oRun.aload_n 106 dX0_isAhead_105 1 rfl rfl (Nat.le_of_ble_eq_true rfl) rfl ?_
          refine oRun.getI 109 dX0_isAhead_106 fd_RX0_29 rfl rfl rfl ?_
          by_cases c109 : (m.1 50 6) ≤ x3
          · replace h := oIp c109 h
            refine oRun.icmp_ge_t 116 dX0_isAhead_109 c109 rfl ?_
            refine oRun.iconst 117 dX0_isAhead_116 oc_i0 rfl ?_
            rw [← Option.some.inj h]
            exact oRun.ret (r := some (.int 0)) dX0_isAhead_117
          · replace h := oIn c109 h
            refine oRun.icmp_ge_f 112 dX0_isAhead_109 rfl c109 rfl ?_
            refine oRun.iconst 113 dX0_isAhead_112 oc_i1 rfl ?_
            refine oRun.goto 117 dX0_isAhead_113 rfl ?_
            rw [← Option.some.inj h]
            exact oRun.ret (r := some (.int 1)) dX0_isAhead_117
        · replace h := oIn c87 h
          refine oRun.icmp_eq_f 90 dX0_isAhead_87 rfl c87 rfl ?_
          refine oRun.iload_n 91 dX0_isAhead_90 3 rfl rfl rfl ?_
          refine oRun.aload_n 92 dX0_isAhead_91 1 rfl rfl (Nat.le_of_ble_eq_true rfl) rfl ?_
          refine oRun.getI 95 dX0_isAhead_92 fd_RX0_26 rfl rfl rfl ?_
          by_cases c95 : (m.1 50 5) ≤ x2
          · replace h := oIp c95 h
            refine oRun.icmp_ge_t 102 dX0_isAhead_95 c95 rfl ?_
            refine oRun.iconst 103 dX0_isAhead_102 oc_i0 rfl ?_
            rw [← Option.some.inj h]
            exact oRun.ret (r := some (.int 0)) dX0_isAhead_103
          · replace h := oIn c95 h
            refine oRun.icmp_ge_f 98 dX0_isAhead_95 rfl c95 rfl ?_
            refine oRun.iconst 99 dX0_isAhead_98 oc_i1 rfl ?_
            refine oRun.goto 103 dX0_isAhead_99 rfl ?_
            rw [← Option.some.inj h]
            exact oRun.ret (r := some (.int 1)) dX0_isAhead_103
      · replace h := oIn c65 h
        refine oRun.icmp_eq_f 68 dX0_isAhead_65 rfl c65 rfl ?_
        refine oRun.iload_n 69 dX0_isAhead_68 2 rfl rfl rfl ?_
        refine oRun.aload_n 70 dX0_isAhead_69 1 rfl rfl (Nat.le_of_ble_eq_true rfl) rfl ?_
        refine oRun.getI 73 dX0_isAhead_70 fd_RX0_23 rfl rfl rfl ?_
        by_cases c73 : (m.1 50 4) ≤ x1
        · replace h := oIp c73 h
          refine oRun.icmp_ge_t 80 dX0_isAhead_73 c73 rfl ?_
          refine oRun.iconst 81 dX0_isAhead_80 oc_i0 rfl ?_
          rw [← Option.some.inj h]
          exact oRun.ret (r := some (.int 0)) dX0_isAhead_81
        · replace h := oIn c73 h
          refine oRun.icmp_ge_f 76 dX0_isAhead_73 rfl c73 rfl ?_
          refine oRun.iconst 77 dX0_isAhead_76 oc_i1 rfl ?_
          refine oRun.goto 81 dX0_isAhead_77 rfl ?_
          rw [← Option.some.inj h]
          exact oRun.ret (r := some (.int 1)) dX0_isAhead_81
    · replace h := oIn c42 h
      refine oRun.icmp_eq_f 45 dX0_isAhead_42 rfl c42 rfl ?_
      refine oRun.iload 47 dX0_isAhead_45 0 rfl rfl ?_
      refine oRun.aload_n 48 dX0_isAhead_47 1 rfl rfl (Nat.le_of_ble_eq_true rfl) rfl ?_
      obtain ⟨r48, hr48, h⟩ := oB1 h
      refine oRun.callV (as := []) 51 dX0_isAhead_48 lk_RX0_83 (oFit_i (Nat.le_of_ble_eq_true rfl) (Nat.le_of_ble_eq_true rfl)) rfl rfl rfl rfl (Nat.le_of_ble_eq_true rfl) (Nat.le_of_ble_eq_true rfl) rfl (E_X0_allTeeth hr48) rfl ?_
      show oRun G _ 51 _ [.int r48, .int x5_34] _ _ _
      by_cases c51 : r48 ≤ x5_34
      · replace h := oIp c51 h
        refine oRun.icmp_ge_t 58 dX0_isAhead_51 c51 rfl ?_
        refine oRun.iconst 59 dX0_isAhead_58 oc_i0 rfl ?_
        rw [← Option.some.inj h]
        exact oRun.ret (r := some (.int 0)) dX0_isAhead_59
      · replace h := oIn c51 h
        refine oRun.icmp_ge_f 54 dX0_isAhead_51 rfl c51 rfl ?_
        refine oRun.iconst 55 dX0_isAhead_54 oc_i1 rfl ?_
        refine oRun.goto 59 dX0_isAhead_55 rfl ?_
        rw [← Option.some.inj h]
        exact oRun.ret (r := some (.int 1)) dX0_isAhead_59
  · replace h := oIn c13 h
    refine oRun.icmp_eq_f 16 dX0_isAhead_13 rfl c13 rfl ?_
    refine oRun.iload_n 17 dX0_isAhead_16 2 rfl rfl rfl ?_
    by_cases c17 : x2 = 0
    · replace h := oIp c17 h
      refine oRun.if_ne_f 20 dX0_isAhead_17 rfl c17 rfl ?_
      refine oRun.iconst 21 dX0_isAhead_20 oc_i1 rfl ?_
      refine oRun.goto 25 dX0_isAhead_21 rfl ?_
      rw [← Option.some.inj h]
      exact oRun.ret (r := some (.int 1)) dX0_isAhead_25
    · replace h := oIn c17 h
      refine oRun.if_ne_t 24 dX0_isAhead_17 c17 rfl ?_
      refine oRun.iconst 25 dX0_isAhead_24 oc_i0 rfl ?_
      rw [← Option.some.inj h]
      exact oRun.ret (r := some (.int 0)) dX0_isAhead_25
set_option maxRecDepth 100000 in
set_option maxHeartbeats 4000000 in
theorem B_X0_isAhead_J9 {G : oG} {m : oM} {x1 : Int32} {x2 : Int32} {x3 : Int32} {x4 : Int32} {t0 : Int32} {w : Int32} (h : F_X0_isAhead_J9 m x1 x2 x3 x4 t0 = some w) : w = 0 ∨ w = 1 := by
  unfold F_X0_isAhead_J9 at h
  obtain ⟨r10, hr10, h⟩ := oB1 h
  by_cases c13 : t0 = r10
  · replace h := oIp c13 h
    obtain ⟨x5_34, hx5_34, h⟩ := oB1 h
    obtain ⟨r39, hr39, h⟩ := oB1 h
    by_cases c42 : x5_34 = r39
    · replace h := oIp c42 h
      by_cases c65 : x1 = (m.1 50 4)
      · replace h := oIp c65 h
        by_cases c87 : x2 = (m.1 50 5)
        · replace h := oIp c87 h
          by_cases c109 : (m.1 50 6) ≤ x3
          · replace h := oIp c109 h
            rw [← Option.some.inj h]
            exact Or.inl rfl
          · replace h := oIn c109 h
            rw [← Option.some.inj h]
            exact Or.inr rfl
        · replace h := oIn c87 h
          by_cases c95 : (m.1 50 5) ≤ x2
          · replace h := oIp c95 h
            rw [← Option.some.inj h]
            exact Or.inl rfl
          · replace h := oIn c95 h
            rw [← Option.some.inj h]
            exact Or.inr rfl
      · replace h := oIn c65 h
        by_cases c73 : (m.1 50 4) ≤ x1
        · replace h := oIp c73 h
          rw [← Option.some.inj h]
          exact Or.inl rfl
        · replace h := oIn c73 h
          rw [← Option.some.inj h]
          exact Or.inr rfl
    · replace h := oIn c42 h
      obtain ⟨r48, hr48, h⟩ := oB1 h
      by_cases c51 : r48 ≤ x5_34
      · replace h := oIp c51 h
        rw [← Option.some.inj h]
        exact Or.inl rfl
      · replace h := oIn c51 h
        rw [← Option.some.inj h]
        exact Or.inr rfl
  · replace h := oIn c13 h
    by_cases c17 : x2 = 0
    · replace h := oIp c17 h
      rw [← Option.some.inj h]
      exact Or.inr rfl
    · replace h := oIn c17 h
      rw [← Option.some.inj h]
      exact Or.inl rfl
set_option maxRecDepth 100000 in
set_option maxHeartbeats 4000000 in
theorem E_X0_isAhead {G : oG} {m : oM} {x1 : Int32} {x2 : Int32} {x3 : Int32} {x4 : Int32} {w : Int32} (h : F_X0_isAhead m x1 x2 x3 x4 = some w) : oEv G M_X0_isAhead [.ref 50, .int x1, .int x2, .int x3, .int x4] m (some (.int w)) m := by
  unfold F_X0_isAhead at h
  refine ⟨?_, ?_⟩
  · show oRun G M_X0_isAhead 0 [(0, .ref 50), (1, .int x1), (2, .int x2), (3, .int x3), (4, .int x4)] [] m (some (.int w)) m
    refine oRun.iload_n 1 dX0_isAhead_0 2 rfl rfl rfl ?_
    by_cases c1 : x2 = 0
    · replace h := oIp c1 h
      refine oRun.if_ne_f 4 dX0_isAhead_1 rfl c1 rfl ?_
      refine oRun.iconst 5 dX0_isAhead_4 oc_i1 rfl ?_
      refine oRun.goto 9 dX0_isAhead_5 rfl ?_
      refine oRun.sub [0, 1, 2, 3, 4] rfl ?_
      exact E_X0_isAhead_J9 h
    · replace h := oIn c1 h
      refine oRun.if_ne_t 8 dX0_isAhead_1 c1 rfl ?_
      refine oRun.iconst 9 dX0_isAhead_8 oc_i0 rfl ?_
      refine oRun.sub [0, 1, 2, 3, 4] rfl ?_
      exact E_X0_isAhead_J9 h
  · show oROK (some .boolean) (some (.int w))
    by_cases c1 : x2 = 0
    · replace h := oIp c1 h
      exact B_X0_isAhead_J9 (G := G) h
    · replace h := oIn c1 h
      exact B_X0_isAhead_J9 (G := G) h
set_option maxRecDepth 100000 in
set_option maxHeartbeats 4000000 in
theorem E_X0_offer_J80 {G : oG} {m : oM} {x1 : Int32} {x2 : Int32} {x3 : Int32} {x4 : Int32} {x5 : Int64} {x7 : Int64} {w : oM} (h : F_X0_offer_J80 m x1 x2 x3 x4 x5 x7 = some w) : oRun G M_X0_offer 80 [(0, .ref 50), (1, .int x1), (2, .int x2), (3, .int x3), (4, .int x4), (5, .long x5), (7, .long x7)] [] m none w := by
  unfold F_X0_offer_J80 at h
  refine oRun.aload_n 81 dX0_offer_80 0 rfl rfl (Nat.le_of_ble_eq_true rfl) rfl ?_
  refine oRun.iload_n 82 dX0_offer_81 1 rfl rfl rfl ?_
  obtain ⟨m82, hm82, h⟩ := oB1 h
  refine oRun.putI 85 dX0_offer_82 fp_RX0_23 rfl rfl rfl ?_
  refine oRun.nameM hm82 ?_
  refine oRun.aload_n 86 dX0_offer_85 0 rfl rfl (Nat.le_of_ble_eq_true rfl) rfl ?_
  refine oRun.iload_n 87 dX0_offer_86 2 rfl rfl rfl ?_
  obtain ⟨m87, hm87, h⟩ := oB1 h
  refine oRun.putI 90 dX0_offer_87 fp_RX0_26 rfl rfl rfl ?_
  refine oRun.nameM hm87 ?_
  refine oRun.aload_n 91 dX0_offer_90 0 rfl rfl (Nat.le_of_ble_eq_true rfl) rfl ?_
  refine oRun.iload_n 92 dX0_offer_91 3 rfl rfl rfl ?_
  obtain ⟨m92, hm92, h⟩ := oB1 h
  refine oRun.putI 95 dX0_offer_92 fp_RX0_29 rfl rfl rfl ?_
  refine oRun.nameM hm92 ?_
  refine oRun.aload_n 96 dX0_offer_95 0 rfl rfl (Nat.le_of_ble_eq_true rfl) rfl ?_
  refine oRun.iload 98 dX0_offer_96 4 rfl rfl ?_
  obtain ⟨m98, hm98, h⟩ := oB1 h
  refine oRun.putI 101 dX0_offer_98 fp_RX0_32 rfl rfl rfl ?_
  refine oRun.nameM hm98 ?_
  refine oRun.aload_n 102 dX0_offer_101 0 rfl rfl (Nat.le_of_ble_eq_true rfl) rfl ?_
  refine oRun.lload 104 dX0_offer_102 6 rfl rfl ?_
  obtain ⟨m104, hm104, h⟩ := oB1 h
  refine oRun.putL 107 dX0_offer_104 fp_RX0_35 rfl rfl rfl ?_
  refine oRun.nameM hm104 ?_
  refine oRun.aload_n 108 dX0_offer_107 0 rfl rfl (Nat.le_of_ble_eq_true rfl) rfl ?_
  refine oRun.lload 110 dX0_offer_108 5 rfl rfl ?_
  obtain ⟨m110, hm110, h⟩ := oB1 h
  refine oRun.putL 113 dX0_offer_110 fp_RX0_38 rfl rfl rfl ?_
  refine oRun.nameM hm110 ?_
  rw [← Option.some.inj h]
  exact oRun.ret (r := none) dX0_offer_113
set_option maxRecDepth 100000 in
set_option maxHeartbeats 4000000 in
theorem E_X0_offer {G : oG} {m : oM} {x1 : Int32} {x2 : Int32} {x3 : Int32} {x4 : Int32} {w : oM} (h : F_X0_offer m x1 x2 x3 x4 = some w) : oEv G M_X0_offer [.ref 50, .int x1, .int x2, .int x3, .int x4] m none w := by
  unfold F_X0_offer at h
  refine ⟨?_, ?_⟩
  · show oRun G M_X0_offer 0 [(0, .ref 50), (1, .int x1), (2, .int x2), (3, .int x3), (4, .int x4)] [] m none w
    refine oRun.iload_n 1 dX0_offer_0 3 rfl rfl rfl ?_
    refine oRun.iload 3 dX0_offer_1 4 rfl rfl ?_
    obtain ⟨r3, hr3, h⟩ := oB1 h
    refine oRun.callS (as := [.int x3, .int x4]) 6 dX0_offer_3 lk_RX0_65 (oFit_i (Nat.le_of_ble_eq_true rfl) (Nat.le_of_ble_eq_true rfl)) rfl (Nat.le_of_ble_eq_true rfl) (Nat.le_of_ble_eq_true rfl) rfl (E_X0_product hr3) rfl ?_
    show oRun G _ 6 _ [.long r3] _ _ _
    refine oRun.lstore 8 dX0_offer_6 (Nat.le_of_ble_eq_true rfl) rfl rfl ?_
    refine oRun.iload_n 9 dX0_offer_8 2 rfl rfl rfl ?_
    refine oRun.iload_n 10 dX0_offer_9 3 rfl rfl rfl ?_
    obtain ⟨r10, hr10, h⟩ := oB1 h
    refine oRun.callS (as := [.int x1, .int x2]) 13 dX0_offer_10 lk_RX0_65 (oFit_i (Nat.le_of_ble_eq_true rfl) (Nat.le_of_ble_eq_true rfl)) rfl (Nat.le_of_ble_eq_true rfl) (Nat.le_of_ble_eq_true rfl) rfl (E_X0_product hr10) rfl ?_
    show oRun G _ 13 _ [.long r10] _ _ _
    refine oRun.aload_n 14 dX0_offer_13 1 rfl rfl (Nat.le_of_ble_eq_true rfl) rfl ?_
    refine oRun.getL 17 dX0_offer_14 fd_RX0_13 rfl rfl rfl ?_
    refine oRun.lmul 18 dX0_offer_17 rfl ?_
    refine oRun.aload_n 19 dX0_offer_18 1 rfl rfl (Nat.le_of_ble_eq_true rfl) rfl ?_
    refine oRun.getL 22 dX0_offer_19 fd_RX0_7 rfl rfl rfl ?_
    refine oRun.lload 24 dX0_offer_22 0 rfl rfl ?_
    refine oRun.lmul 25 dX0_offer_24 rfl ?_
    refine oRun.lsub 26 dX0_offer_25 rfl ?_
    obtain ⟨x7_26, hx7_26, h⟩ := oB1 h
    refine oRun.nameJ hx7_26 ?_
    refine oRun.lstore 28 dX0_offer_26 (Nat.le_of_ble_eq_true rfl) rfl rfl ?_
    refine oRun.lload 30 dX0_offer_28 0 rfl rfl ?_
    obtain ⟨r30, hr30, h⟩ := oB1 h
    refine oRun.callS (as := [.long x7_26]) 33 dX0_offer_30 lk_RX0_69 (oFit_i (Nat.le_of_ble_eq_true rfl) (Nat.le_of_ble_eq_true rfl)) rfl (Nat.le_of_ble_eq_true rfl) (Nat.le_of_ble_eq_true rfl) rfl (E_J9_abs_067f4 hr30) rfl ?_
    show oRun G _ 33 _ [.long r30] _ _ _
    refine oRun.aload_n 34 dX0_offer_33 2 rfl rfl (Nat.le_of_ble_eq_true rfl) rfl ?_
    refine oRun.getL 37 dX0_offer_34 fd_RX0_38 rfl rfl rfl ?_
    refine oRun.lmul 38 dX0_offer_37 rfl ?_
    obtain ⟨x9_38, hx9_38, h⟩ := oB1 h
    refine oRun.nameJ hx9_38 ?_
    refine oRun.lstore 40 dX0_offer_38 (Nat.le_of_ble_eq_true rfl) rfl rfl ?_
    refine oRun.aload_n 41 dX0_offer_40 3 rfl rfl (Nat.le_of_ble_eq_true rfl) rfl ?_
    refine oRun.getL 44 dX0_offer_41 fd_RX0_35 rfl rfl rfl ?_
    obtain ⟨r44, hr44, h⟩ := oB1 h
    refine oRun.callS (as := [.long (m.2 50 8)]) 47 dX0_offer_44 lk_RX0_69 (oFit_i (Nat.le_of_ble_eq_true rfl) (Nat.le_of_ble_eq_true rfl)) rfl (Nat.le_of_ble_eq_true rfl) (Nat.le_of_ble_eq_true rfl) rfl (E_J9_abs_067f4 hr44) rfl ?_
    show oRun G _ 47 _ [.long r44] _ _ _
    refine oRun.lload 49 dX0_offer_47 2 rfl rfl ?_
    refine oRun.lmul 50 dX0_offer_49 rfl ?_
    obtain ⟨x11_50, hx11_50, h⟩ := oB1 h
    refine oRun.nameJ hx11_50 ?_
    refine oRun.lstore 52 dX0_offer_50 (Nat.le_of_ble_eq_true rfl) rfl rfl ?_
    refine oRun.lload 54 dX0_offer_52 1 rfl rfl ?_
    refine oRun.lload 56 dX0_offer_54 0 rfl rfl ?_
    refine oRun.lcmp 57 dX0_offer_56 rfl ?_
    by_cases c57 : x9_38 < x11_50
    · replace h := oIp c57 h
      refine oRun.if_lt_t 80 dX0_offer_57 ((oLc_lt _ _).mpr c57) rfl ?_
      refine oRun.sub [4, 5, 6, 7, 8, 3, 2] rfl ?_
      exact E_X0_offer_J80 h
    · replace h := oIn c57 h
      refine oRun.if_lt_f 60 dX0_offer_57 rfl (mt (oLc_lt _ _).mp c57) rfl ?_
      refine oRun.lload 62 dX0_offer_60 1 rfl rfl ?_
      refine oRun.lload 64 dX0_offer_62 0 rfl rfl ?_
      refine oRun.lcmp 65 dX0_offer_64 rfl ?_
      by_cases c65 : x9_38 = x11_50
      · replace h := oIp c65 h
        refine oRun.if_ne_f 68 dX0_offer_65 rfl ((oLc_eq _ _).mpr c65) rfl ?_
        refine oRun.aload_n 69 dX0_offer_68 4 rfl rfl (Nat.le_of_ble_eq_true rfl) rfl ?_
        refine oRun.iload_n 70 dX0_offer_69 5 rfl rfl rfl ?_
        refine oRun.iload_n 71 dX0_offer_70 6 rfl rfl rfl ?_
        refine oRun.iload_n 72 dX0_offer_71 7 rfl rfl rfl ?_
        refine oRun.iload 74 dX0_offer_72 8 rfl rfl ?_
        obtain ⟨r74, hr74, h⟩ := oB1 h
        refine oRun.callV (as := [.int x1, .int x2, .int x3, .int x4]) 77 dX0_offer_74 lk_RX0_75 (oFit_i (Nat.le_of_ble_eq_true rfl) (Nat.le_of_ble_eq_true rfl)) rfl rfl rfl rfl (Nat.le_of_ble_eq_true rfl) (Nat.le_of_ble_eq_true rfl) rfl (E_X0_isAhead hr74) rfl ?_
        show oRun G _ 77 _ [.int r74] _ _ _
        by_cases c77 : r74 = 0
        · replace h := oIp c77 h
          refine oRun.if_eq_t 113 dX0_offer_77 c77 rfl ?_
          rw [← Option.some.inj h]
          exact oRun.ret (r := none) dX0_offer_113
        · replace h := oIn c77 h
          refine oRun.if_eq_f 80 dX0_offer_77 rfl c77 rfl ?_
          refine oRun.sub [4, 5, 6, 7, 8, 3, 2] rfl ?_
          exact E_X0_offer_J80 h
      · replace h := oIn c65 h
        refine oRun.if_ne_t 113 dX0_offer_65 (mt (oLc_eq _ _).mp c65) rfl ?_
        rw [← Option.some.inj h]
        exact oRun.ret (r := none) dX0_offer_113
  · exact True.intro
set_option maxRecDepth 100000 in
set_option maxHeartbeats 4000000 in
theorem E_X0_seekOnePair_L18 {G : oG} {x1 : Int32} {r : Option Value} {m' : oM} : ∀ (n : Nat) (x2 : Int32) (m : oM) (b : oM), oLoop (fun s : Int32 × oM => F_X0_seekOnePair_L18 x1 s.1 s.2) n (x2, m) = some b → oRun G M_X0_seekOnePair 40 [(0, .ref 50), (1, .int x1)] [] b r m' → oRun G M_X0_seekOnePair 18 [(0, .ref 50), (1, .int x1), (2, .int x2)] [] m r m' := by
  intro n
  induction n with
  | zero => intro x2 m b h _; exact (oLoop_zero h).elim
  | succ n ih =>
    intro x2 m b h he
    obtain ⟨q', hq', h⟩ := oLoop_succ h
    have hc : ∀ s' : Int32 × oM, q' = .inl s' → oRun G M_X0_seekOnePair 18 [(0, .ref 50), (1, .int x1), (2, .int s'.1)] [] s'.2 r m' := by
      rintro s' rfl
      exact ih (s'.1) (s'.2) b h he
    have hx : ∀ b' : oM, q' = .inr b' → oRun G M_X0_seekOnePair 40 [(0, .ref 50), (1, .int x1)] [] b' r m' := by
      rintro b' rfl
      have h : b' = b := h
      rw [h]
      exact he
    clear h he ih
    have h := hq'
    clear hq'
    replace h : F_X0_seekOnePair_L18 x1 x2 m = some q' := h
    unfold F_X0_seekOnePair_L18 at h
    refine oRun.iload_n 19 dX0_seekOnePair_18 2 rfl rfl rfl ?_
    refine oRun.aload_n 20 dX0_seekOnePair_19 0 rfl rfl (Nat.le_of_ble_eq_true rfl) rfl ?_
    refine oRun.getI 23 dX0_seekOnePair_20 fd_RX0_20 rfl rfl rfl ?_
    by_cases c23 : (m.1 50 3) < x2
    · replace h := oIp c23 h
      refine oRun.icmp_gt_t 40 dX0_seekOnePair_23 c23 rfl ?_
      cases h
      refine oRun.sub [0, 1] rfl ?_
      exact hx _ rfl
    · replace h := oIn c23 h
      refine oRun.icmp_gt_f 26 dX0_seekOnePair_23 rfl c23 rfl ?_
      refine oRun.aload_n 27 dX0_seekOnePair_26 0 rfl rfl (Nat.le_of_ble_eq_true rfl) rfl ?_
      refine oRun.iload_n 28 dX0_seekOnePair_27 1 rfl rfl rfl ?_
      refine oRun.iconst 29 dX0_seekOnePair_28 oc_i0 rfl ?_
      refine oRun.iload_n 30 dX0_seekOnePair_29 2 rfl rfl rfl ?_
      refine oRun.iconst 31 dX0_seekOnePair_30 oc_i0 rfl ?_
      obtain ⟨r31, hr31, h⟩ := oB1 h
      refine oRun.callV (as := [.int x1, .int 0, .int x2, .int 0]) 34 dX0_seekOnePair_31 lk_RX0_47 (oFit_i (Nat.le_of_ble_eq_true rfl) (Nat.le_of_ble_eq_true rfl)) rfl rfl rfl rfl (Nat.le_of_ble_eq_true rfl) (Nat.le_of_ble_eq_true rfl) rfl (E_X0_offer hr31) rfl ?_
      show oRun G _ 34 _ [] _ _ _
      refine oRun.iinc 37 dX0_seekOnePair_34 2 rfl (oAddC oc_i1) (Nat.le_of_ble_eq_true rfl) rfl rfl ?_
      refine oRun.goto 18 dX0_seekOnePair_37 rfl ?_
      cases h
      refine oRun.sub [1, 2, 0] rfl ?_
      exact hc _ rfl
set_option maxRecDepth 100000 in
set_option maxHeartbeats 4000000 in
theorem E_X0_seekOnePair_L5 {G : oG} {r : Option Value} {m' : oM} : ∀ (n : Nat) (x1 : Int32) (m : oM) (b : oM), oLoop (fun s : Int32 × oM => F_X0_seekOnePair_L5 s.1 s.2) n (x1, m) = some b → oRun G M_X0_seekOnePair 46 [] [] b r m' → oRun G M_X0_seekOnePair 5 [(0, .ref 50), (1, .int x1)] [] m r m' := by
  intro n
  induction n with
  | zero => intro x1 m b h _; exact (oLoop_zero h).elim
  | succ n ih =>
    intro x1 m b h he
    obtain ⟨q', hq', h⟩ := oLoop_succ h
    have hc : ∀ s' : Int32 × oM, q' = .inl s' → oRun G M_X0_seekOnePair 5 [(0, .ref 50), (1, .int s'.1)] [] s'.2 r m' := by
      rintro s' rfl
      exact ih (s'.1) (s'.2) b h he
    have hx : ∀ b' : oM, q' = .inr b' → oRun G M_X0_seekOnePair 46 [] [] b' r m' := by
      rintro b' rfl
      have h : b' = b := h
      rw [h]
      exact he
    clear h he ih
    have h := hq'
    clear hq'
    replace h : F_X0_seekOnePair_L5 x1 m = some q' := h
    unfold F_X0_seekOnePair_L5 at h
    refine oRun.iload_n 6 dX0_seekOnePair_5 1 rfl rfl rfl ?_
    refine oRun.aload_n 7 dX0_seekOnePair_6 0 rfl rfl (Nat.le_of_ble_eq_true rfl) rfl ?_
    refine oRun.getI 10 dX0_seekOnePair_7 fd_RX0_20 rfl rfl rfl ?_
    by_cases c10 : (m.1 50 3) < x1
    · replace h := oIp c10 h
      refine oRun.icmp_gt_t 46 dX0_seekOnePair_10 c10 rfl ?_
      cases h
      refine oRun.sub [] rfl ?_
      exact hx _ rfl
    · replace h := oIn c10 h
      refine oRun.icmp_gt_f 13 dX0_seekOnePair_10 rfl c10 rfl ?_
      refine oRun.aload_n 14 dX0_seekOnePair_13 0 rfl rfl (Nat.le_of_ble_eq_true rfl) rfl ?_
      refine oRun.getI 17 dX0_seekOnePair_14 fd_RX0_16 rfl rfl rfl ?_
      obtain ⟨x2_17, hx2_17, h⟩ := oB1 h
      refine oRun.nameI hx2_17 ?_
      refine oRun.istore_n 18 dX0_seekOnePair_17 rfl (Nat.le_of_ble_eq_true rfl) rfl rfl ?_
      obtain ⟨b18, hb18, h⟩ := oB1 h
      refine oRun.sub [1, 2, 0] rfl ?_
      refine E_X0_seekOnePair_L18 _ _ _ _ hb18 ?_
      refine oRun.iinc 43 dX0_seekOnePair_40 1 rfl (oAddC oc_i1) (Nat.le_of_ble_eq_true rfl) rfl rfl ?_
      refine oRun.goto 5 dX0_seekOnePair_43 rfl ?_
      cases h
      refine oRun.sub [1, 0] rfl ?_
      exact hc _ rfl
set_option maxRecDepth 100000 in
set_option maxHeartbeats 4000000 in
theorem E_X0_seekOnePair {G : oG} {m : oM} {w : oM} (h : F_X0_seekOnePair m = some w) : oEv G M_X0_seekOnePair [.ref 50] m none w := by
  unfold F_X0_seekOnePair at h
  refine ⟨?_, ?_⟩
  · show oRun G M_X0_seekOnePair 0 [(0, .ref 50)] [] m none w
    refine oRun.aload_n 1 dX0_seekOnePair_0 0 rfl rfl (Nat.le_of_ble_eq_true rfl) rfl ?_
    refine oRun.getI 4 dX0_seekOnePair_1 fd_RX0_16 rfl rfl rfl ?_
    obtain ⟨x1_4, hx1_4, h⟩ := oB1 h
    refine oRun.nameI hx1_4 ?_
    refine oRun.istore_n 5 dX0_seekOnePair_4 rfl (Nat.le_of_ble_eq_true rfl) rfl rfl ?_
    obtain ⟨b5, hb5, h⟩ := oB1 h
    refine oRun.sub [1, 0] rfl ?_
    refine E_X0_seekOnePair_L5 _ _ _ _ hb5 ?_
    rw [← Option.some.inj h]
    exact oRun.ret (r := none) dX0_seekOnePair_46
  · exact True.intro
set_option maxRecDepth 100000 in
set_option maxHeartbeats 4000000 in
theorem E_J9_min_f86c9 {G : oG} {m : oM} {x0 : Int64} {x2 : Int64} {w : Int64} (h : F_J9_min_f86c9 x0 x2 = some w) : oEv G M_J9_min_f86c9 [.long x0, .long x2] m (some (.long w)) m := by
  unfold F_J9_min_f86c9 at h
  refine ⟨?_, ?_⟩
  · show oRun G M_J9_min_f86c9 0 [(0, .long x0), (2, .long x2)] [] m (some (.long w)) m
    refine oRun.lload_n 1 dJ9_min_f86c9_0 0 rfl rfl rfl ?_
    refine oRun.lload_n 2 dJ9_min_f86c9_1 1 rfl rfl rfl ?_
    refine oRun.lcmp 3 dJ9_min_f86c9_2 rfl ?_
    by_cases c3 : x2 < x0
    · replace h := oIp c3 h
      refine oRun.if_gt_t 10 dJ9_min_f86c9_3 ((oLc_gt _ _).mpr c3) rfl ?_
      refine oRun.lload_n 11 dJ9_min_f86c9_10 1 rfl rfl rfl ?_
      rw [← Option.some.inj h]
      exact oRun.ret (r := some (.long x2)) dJ9_min_f86c9_11
    · replace h := oIn c3 h
      refine oRun.if_gt_f 6 dJ9_min_f86c9_3 rfl (mt (oLc_gt _ _).mp c3) rfl ?_
      refine oRun.lload_n 7 dJ9_min_f86c9_6 0 rfl rfl rfl ?_
      refine oRun.goto 11 dJ9_min_f86c9_7 rfl ?_
      rw [← Option.some.inj h]
      exact oRun.ret (r := some (.long x0)) dJ9_min_f86c9_11
  · exact True.intro
set_option maxRecDepth 100000 in
set_option maxHeartbeats 4000000 in
theorem E_J9_max_f86c9 {G : oG} {m : oM} {x0 : Int64} {x2 : Int64} {w : Int64} (h : F_J9_max_f86c9 x0 x2 = some w) : oEv G M_J9_max_f86c9 [.long x0, .long x2] m (some (.long w)) m := by
  unfold F_J9_max_f86c9 at h
  refine ⟨?_, ?_⟩
  · show oRun G M_J9_max_f86c9 0 [(0, .long x0), (2, .long x2)] [] m (some (.long w)) m
    refine oRun.lload_n 1 dJ9_max_f86c9_0 0 rfl rfl rfl ?_
    refine oRun.lload_n 2 dJ9_max_f86c9_1 1 rfl rfl rfl ?_
    refine oRun.lcmp 3 dJ9_max_f86c9_2 rfl ?_
    by_cases c3 : x0 < x2
    · replace h := oIp c3 h
      refine oRun.if_lt_t 10 dJ9_max_f86c9_3 ((oLc_lt _ _).mpr c3) rfl ?_
      refine oRun.lload_n 11 dJ9_max_f86c9_10 1 rfl rfl rfl ?_
      rw [← Option.some.inj h]
      exact oRun.ret (r := some (.long x2)) dJ9_max_f86c9_11
    · replace h := oIn c3 h
      refine oRun.if_lt_f 6 dJ9_max_f86c9_3 rfl (mt (oLc_lt _ _).mp c3) rfl ?_
      refine oRun.lload_n 7 dJ9_max_f86c9_6 0 rfl rfl rfl ?_
      refine oRun.goto 11 dJ9_max_f86c9_7 rfl ?_
      rw [← Option.some.inj h]
      exact oRun.ret (r := some (.long x0)) dJ9_max_f86c9_11
  · exact True.intro
set_option maxRecDepth 100000 in
set_option maxHeartbeats 4000000 in
theorem E_X0_within {G : oG} {m : oM} {x0 : Int64} {x2 : Int32} {x3 : Int32} {w : Int32} (h : F_X0_within x0 x2 x3 = some w) : oEv G M_X0_within [.long x0, .int x2, .int x3] m (some (.int w)) m := by
  unfold F_X0_within at h
  refine ⟨?_, ?_⟩
  · show oRun G M_X0_within 0 [(0, .long x0), (2, .int x2), (3, .int x3)] [] m (some (.int w)) m
    refine oRun.iload_n 1 dX0_within_0 1 rfl rfl rfl ?_
    refine oRun.i2l 2 dX0_within_1 rfl ?_
    refine oRun.iload_n 3 dX0_within_2 2 rfl rfl rfl ?_
    refine oRun.i2l 4 dX0_within_3 rfl ?_
    refine oRun.lload_n 5 dX0_within_4 0 rfl rfl rfl ?_
    obtain ⟨r5, hr5, h⟩ := oB1 h
    refine oRun.callS (as := [.long x3.toInt64, .long x0]) 8 dX0_within_5 lk_RX0_87 (oFit_i (Nat.le_of_ble_eq_true rfl) (Nat.le_of_ble_eq_true rfl)) rfl (Nat.le_of_ble_eq_true rfl) (Nat.le_of_ble_eq_true rfl) rfl (E_J9_min_f86c9 hr5) rfl ?_
    show oRun G _ 8 _ [.long r5, .long x2.toInt64] _ _ _
    obtain ⟨r8, hr8, h⟩ := oB1 h
    refine oRun.callS (as := [.long x2.toInt64, .long r5]) 11 dX0_within_8 lk_RX0_90 (oFit_i (Nat.le_of_ble_eq_true rfl) (Nat.le_of_ble_eq_true rfl)) rfl (Nat.le_of_ble_eq_true rfl) (Nat.le_of_ble_eq_true rfl) rfl (E_J9_max_f86c9 hr8) rfl ?_
    show oRun G _ 11 _ [.long r8] _ _ _
    refine oRun.l2i 12 dX0_within_11 rfl ?_
    rw [← Option.some.inj h]
    exact oRun.ret (r := some (.int r8.toInt32)) dX0_within_12
  · exact True.intro
set_option maxRecDepth 100000 in
set_option maxHeartbeats 4000000 in
theorem E_X0_offerFourth {G : oG} {m : oM} {x1 : Int32} {x2 : Int32} {x3 : Int32} {w : oM} (h : F_X0_offerFourth m x1 x2 x3 = some w) : oEv G M_X0_offerFourth [.ref 50, .int x1, .int x2, .int x3] m none w := by
  unfold F_X0_offerFourth at h
  refine ⟨?_, ?_⟩
  · show oRun G M_X0_offerFourth 0 [(0, .ref 50), (1, .int x1), (2, .int x2), (3, .int x3)] [] m none w
    refine oRun.aload_n 1 dX0_offerFourth_0 0 rfl rfl (Nat.le_of_ble_eq_true rfl) rfl ?_
    refine oRun.getL 4 dX0_offerFourth_1 fd_RX0_7 rfl rfl rfl ?_
    refine oRun.iload_n 5 dX0_offerFourth_4 2 rfl rfl rfl ?_
    refine oRun.i2l 6 dX0_offerFourth_5 rfl ?_
    refine oRun.lmul 7 dX0_offerFourth_6 rfl ?_
    refine oRun.iload_n 8 dX0_offerFourth_7 3 rfl rfl rfl ?_
    refine oRun.i2l 9 dX0_offerFourth_8 rfl ?_
    refine oRun.lmul 10 dX0_offerFourth_9 rfl ?_
    refine oRun.aload_n 11 dX0_offerFourth_10 0 rfl rfl (Nat.le_of_ble_eq_true rfl) rfl ?_
    refine oRun.getL 14 dX0_offerFourth_11 fd_RX0_13 rfl rfl rfl ?_
    refine oRun.iload_n 15 dX0_offerFourth_14 1 rfl rfl rfl ?_
    refine oRun.i2l 16 dX0_offerFourth_15 rfl ?_
    refine oRun.lmul 17 dX0_offerFourth_16 rfl ?_
    obtain ⟨r17, hr17, h⟩ := oB1 h
    refine oRun.callN (as := [.long (((m.2 50 0) * x2.toInt64) * x3.toInt64), .long ((m.2 50 1) * x1.toInt64)]) 20 dX0_offerFourth_17 lk_RX0_55 (oFit_i (Nat.le_of_ble_eq_true rfl) (Nat.le_of_ble_eq_true rfl)) rfl (Nat.le_of_ble_eq_true rfl) (Nat.le_of_ble_eq_true rfl) rfl (E_X8_quotient hr17) rfl ?_
    show oRun G _ 20 _ [.long r17] _ _ _
    refine oRun.lstore 22 dX0_offerFourth_20 (Nat.le_of_ble_eq_true rfl) rfl rfl ?_
    refine oRun.lload 24 dX0_offerFourth_22 0 rfl rfl ?_
    refine oRun.iload_n 25 dX0_offerFourth_24 2 rfl rfl rfl ?_
    refine oRun.aload_n 26 dX0_offerFourth_25 1 rfl rfl (Nat.le_of_ble_eq_true rfl) rfl ?_
    refine oRun.getI 29 dX0_offerFourth_26 fd_RX0_20 rfl rfl rfl ?_
    obtain ⟨r29, hr29, h⟩ := oB1 h
    refine oRun.callS (as := [.long r17, .int x1, .int (m.1 50 3)]) 32 dX0_offerFourth_29 lk_RX0_61 (oFit_i (Nat.le_of_ble_eq_true rfl) (Nat.le_of_ble_eq_true rfl)) rfl (Nat.le_of_ble_eq_true rfl) (Nat.le_of_ble_eq_true rfl) rfl (E_X0_within hr29) rfl ?_
    show oRun G _ 32 _ [.int r29] _ _ _
    refine oRun.istore 34 dX0_offerFourth_32 (Nat.le_of_ble_eq_true rfl) rfl rfl ?_
    refine oRun.lload 36 dX0_offerFourth_34 1 rfl rfl ?_
    refine oRun.lconst 37 dX0_offerFourth_36 oc_l1 rfl ?_
    refine oRun.ladd 38 dX0_offerFourth_37 rfl ?_
    refine oRun.iload_n 39 dX0_offerFourth_38 3 rfl rfl rfl ?_
    refine oRun.aload_n 40 dX0_offerFourth_39 2 rfl rfl (Nat.le_of_ble_eq_true rfl) rfl ?_
    refine oRun.getI 43 dX0_offerFourth_40 fd_RX0_20 rfl rfl rfl ?_
    obtain ⟨r43, hr43, h⟩ := oB1 h
    refine oRun.callS (as := [.long (r17 + 1), .int x1, .int (m.1 50 3)]) 46 dX0_offerFourth_43 lk_RX0_61 (oFit_i (Nat.le_of_ble_eq_true rfl) (Nat.le_of_ble_eq_true rfl)) rfl (Nat.le_of_ble_eq_true rfl) (Nat.le_of_ble_eq_true rfl) rfl (E_X0_within hr43) rfl ?_
    show oRun G _ 46 _ [.int r43] _ _ _
    refine oRun.istore 48 dX0_offerFourth_46 (Nat.le_of_ble_eq_true rfl) rfl rfl ?_
    refine oRun.aload_n 49 dX0_offerFourth_48 3 rfl rfl (Nat.le_of_ble_eq_true rfl) rfl ?_
    refine oRun.iload_n 50 dX0_offerFourth_49 4 rfl rfl rfl ?_
    refine oRun.iload 52 dX0_offerFourth_50 1 rfl rfl ?_
    refine oRun.iload_n 53 dX0_offerFourth_52 5 rfl rfl rfl ?_
    refine oRun.iload_n 54 dX0_offerFourth_53 6 rfl rfl rfl ?_
    obtain ⟨r54, hr54, h⟩ := oB1 h
    refine oRun.callV (as := [.int x1, .int r29, .int x2, .int x3]) 57 dX0_offerFourth_54 lk_RX0_47 (oFit_i (Nat.le_of_ble_eq_true rfl) (Nat.le_of_ble_eq_true rfl)) rfl rfl rfl rfl (Nat.le_of_ble_eq_true rfl) (Nat.le_of_ble_eq_true rfl) rfl (E_X0_offer hr54) rfl ?_
    show oRun G _ 57 _ [] _ _ _
    refine oRun.iload 59 dX0_offerFourth_57 0 rfl rfl ?_
    refine oRun.iload 61 dX0_offerFourth_59 1 rfl rfl ?_
    by_cases c61 : r43 = r29
    · replace h := oIp c61 h
      refine oRun.icmp_eq_t 73 dX0_offerFourth_61 c61 rfl ?_
      rw [← Option.some.inj h]
      exact oRun.ret (r := none) dX0_offerFourth_73
    · replace h := oIn c61 h
      refine oRun.icmp_eq_f 64 dX0_offerFourth_61 rfl c61 rfl ?_
      refine oRun.aload_n 65 dX0_offerFourth_64 3 rfl rfl (Nat.le_of_ble_eq_true rfl) rfl ?_
      refine oRun.iload_n 66 dX0_offerFourth_65 4 rfl rfl rfl ?_
      refine oRun.iload 68 dX0_offerFourth_66 0 rfl rfl ?_
      refine oRun.iload_n 69 dX0_offerFourth_68 5 rfl rfl rfl ?_
      refine oRun.iload_n 70 dX0_offerFourth_69 6 rfl rfl rfl ?_
      obtain ⟨r70, hr70, h⟩ := oB1 h
      refine oRun.callV (as := [.int x1, .int r43, .int x2, .int x3]) 73 dX0_offerFourth_70 lk_RX0_47 (oFit_i (Nat.le_of_ble_eq_true rfl) (Nat.le_of_ble_eq_true rfl)) rfl rfl rfl rfl (Nat.le_of_ble_eq_true rfl) (Nat.le_of_ble_eq_true rfl) rfl (E_X0_offer hr70) rfl ?_
      show oRun G _ 73 _ [] _ _ _
      rw [← Option.some.inj h]
      exact oRun.ret (r := none) dX0_offerFourth_73
  · exact True.intro
set_option maxRecDepth 100000 in
set_option maxHeartbeats 4000000 in
theorem E_X0_seekTwoPairs_L28 {G : oG} {x1 : Int32} {x2 : Int32} {r : Option Value} {m' : oM} : ∀ (n : Nat) (x3 : Int32) (m : oM) (b : oM), oLoop (fun s : Int32 × oM => F_X0_seekTwoPairs_L28 x1 x2 s.1 s.2) n (x3, m) = some b → oRun G M_X0_seekTwoPairs 49 [(0, .ref 50), (1, .int x1), (2, .int x2)] [] b r m' → oRun G M_X0_seekTwoPairs 28 [(0, .ref 50), (1, .int x1), (2, .int x2), (3, .int x3)] [] m r m' := by
  intro n
  induction n with
  | zero => intro x3 m b h _; exact (oLoop_zero h).elim
  | succ n ih =>
    intro x3 m b h he
    obtain ⟨q', hq', h⟩ := oLoop_succ h
    have hc : ∀ s' : Int32 × oM, q' = .inl s' → oRun G M_X0_seekTwoPairs 28 [(0, .ref 50), (1, .int x1), (2, .int x2), (3, .int s'.1)] [] s'.2 r m' := by
      rintro s' rfl
      exact ih (s'.1) (s'.2) b h he
    have hx : ∀ b' : oM, q' = .inr b' → oRun G M_X0_seekTwoPairs 49 [(0, .ref 50), (1, .int x1), (2, .int x2)] [] b' r m' := by
      rintro b' rfl
      have h : b' = b := h
      rw [h]
      exact he
    clear h he ih
    have h := hq'
    clear hq'
    replace h : F_X0_seekTwoPairs_L28 x1 x2 x3 m = some q' := h
    unfold F_X0_seekTwoPairs_L28 at h
    refine oRun.iload_n 29 dX0_seekTwoPairs_28 3 rfl rfl rfl ?_
    refine oRun.aload_n 30 dX0_seekTwoPairs_29 0 rfl rfl (Nat.le_of_ble_eq_true rfl) rfl ?_
    refine oRun.getI 33 dX0_seekTwoPairs_30 fd_RX0_20 rfl rfl rfl ?_
    by_cases c33 : (m.1 50 3) < x3
    · replace h := oIp c33 h
      refine oRun.icmp_gt_t 49 dX0_seekTwoPairs_33 c33 rfl ?_
      cases h
      refine oRun.sub [0, 1, 2] rfl ?_
      exact hx _ rfl
    · replace h := oIn c33 h
      refine oRun.icmp_gt_f 36 dX0_seekTwoPairs_33 rfl c33 rfl ?_
      refine oRun.aload_n 37 dX0_seekTwoPairs_36 0 rfl rfl (Nat.le_of_ble_eq_true rfl) rfl ?_
      refine oRun.iload_n 38 dX0_seekTwoPairs_37 1 rfl rfl rfl ?_
      refine oRun.iload_n 39 dX0_seekTwoPairs_38 2 rfl rfl rfl ?_
      refine oRun.iload_n 40 dX0_seekTwoPairs_39 3 rfl rfl rfl ?_
      obtain ⟨r40, hr40, h⟩ := oB1 h
      refine oRun.callV (as := [.int x1, .int x2, .int x3]) 43 dX0_seekTwoPairs_40 lk_RX0_51 (oFit_i (Nat.le_of_ble_eq_true rfl) (Nat.le_of_ble_eq_true rfl)) rfl rfl rfl rfl (Nat.le_of_ble_eq_true rfl) (Nat.le_of_ble_eq_true rfl) rfl (E_X0_offerFourth hr40) rfl ?_
      show oRun G _ 43 _ [] _ _ _
      refine oRun.iinc 46 dX0_seekTwoPairs_43 3 rfl (oAddC oc_i1) (Nat.le_of_ble_eq_true rfl) rfl rfl ?_
      refine oRun.goto 28 dX0_seekTwoPairs_46 rfl ?_
      cases h
      refine oRun.sub [1, 2, 3, 0] rfl ?_
      exact hc _ rfl
set_option maxRecDepth 100000 in
set_option maxHeartbeats 4000000 in
theorem E_X0_seekTwoPairs_L18 {G : oG} {x1 : Int32} {r : Option Value} {m' : oM} : ∀ (n : Nat) (x2 : Int32) (m : oM) (b : oM), oLoop (fun s : Int32 × oM => F_X0_seekTwoPairs_L18 x1 s.1 s.2) n (x2, m) = some b → oRun G M_X0_seekTwoPairs 55 [(0, .ref 50), (1, .int x1)] [] b r m' → oRun G M_X0_seekTwoPairs 18 [(0, .ref 50), (1, .int x1), (2, .int x2)] [] m r m' := by
  intro n
  induction n with
  | zero => intro x2 m b h _; exact (oLoop_zero h).elim
  | succ n ih =>
    intro x2 m b h he
    obtain ⟨q', hq', h⟩ := oLoop_succ h
    have hc : ∀ s' : Int32 × oM, q' = .inl s' → oRun G M_X0_seekTwoPairs 18 [(0, .ref 50), (1, .int x1), (2, .int s'.1)] [] s'.2 r m' := by
      rintro s' rfl
      exact ih (s'.1) (s'.2) b h he
    have hx : ∀ b' : oM, q' = .inr b' → oRun G M_X0_seekTwoPairs 55 [(0, .ref 50), (1, .int x1)] [] b' r m' := by
      rintro b' rfl
      have h : b' = b := h
      rw [h]
      exact he
    clear h he ih
    have h := hq'
    clear hq'
    replace h : F_X0_seekTwoPairs_L18 x1 x2 m = some q' := h
    unfold F_X0_seekTwoPairs_L18 at h
    refine oRun.iload_n 19 dX0_seekTwoPairs_18 2 rfl rfl rfl ?_
    refine oRun.aload_n 20 dX0_seekTwoPairs_19 0 rfl rfl (Nat.le_of_ble_eq_true rfl) rfl ?_
    refine oRun.getI 23 dX0_seekTwoPairs_20 fd_RX0_20 rfl rfl rfl ?_
    by_cases c23 : (m.1 50 3) < x2
    · replace h := oIp c23 h
      refine oRun.icmp_gt_t 55 dX0_seekTwoPairs_23 c23 rfl ?_
      cases h
      refine oRun.sub [0, 1] rfl ?_
      exact hx _ rfl
    · replace h := oIn c23 h
      refine oRun.icmp_gt_f 26 dX0_seekTwoPairs_23 rfl c23 rfl ?_
      refine oRun.iload_n 27 dX0_seekTwoPairs_26 2 rfl rfl rfl ?_
      refine oRun.istore_n 28 dX0_seekTwoPairs_27 rfl (Nat.le_of_ble_eq_true rfl) rfl rfl ?_
      obtain ⟨b28, hb28, h⟩ := oB1 h
      refine oRun.sub [1, 2, 3, 0] rfl ?_
      refine E_X0_seekTwoPairs_L28 _ _ _ _ hb28 ?_
      refine oRun.iinc 52 dX0_seekTwoPairs_49 2 rfl (oAddC oc_i1) (Nat.le_of_ble_eq_true rfl) rfl rfl ?_
      refine oRun.goto 18 dX0_seekTwoPairs_52 rfl ?_
      cases h
      refine oRun.sub [1, 2, 0] rfl ?_
      exact hc _ rfl
set_option maxRecDepth 100000 in
set_option maxHeartbeats 4000000 in
theorem E_X0_seekTwoPairs_L5 {G : oG} {r : Option Value} {m' : oM} : ∀ (n : Nat) (x1 : Int32) (m : oM) (b : oM), oLoop (fun s : Int32 × oM => F_X0_seekTwoPairs_L5 s.1 s.2) n (x1, m) = some b → oRun G M_X0_seekTwoPairs 61 [] [] b r m' → oRun G M_X0_seekTwoPairs 5 [(0, .ref 50), (1, .int x1)] [] m r m' := by
  intro n
  induction n with
  | zero => intro x1 m b h _; exact (oLoop_zero h).elim
  | succ n ih =>
    intro x1 m b h he
    obtain ⟨q', hq', h⟩ := oLoop_succ h
    have hc : ∀ s' : Int32 × oM, q' = .inl s' → oRun G M_X0_seekTwoPairs 5 [(0, .ref 50), (1, .int s'.1)] [] s'.2 r m' := by
      rintro s' rfl
      exact ih (s'.1) (s'.2) b h he
    have hx : ∀ b' : oM, q' = .inr b' → oRun G M_X0_seekTwoPairs 61 [] [] b' r m' := by
      rintro b' rfl
      have h : b' = b := h
      rw [h]
      exact he
    clear h he ih
    have h := hq'
    clear hq'
    replace h : F_X0_seekTwoPairs_L5 x1 m = some q' := h
    unfold F_X0_seekTwoPairs_L5 at h
    refine oRun.iload_n 6 dX0_seekTwoPairs_5 1 rfl rfl rfl ?_
    refine oRun.aload_n 7 dX0_seekTwoPairs_6 0 rfl rfl (Nat.le_of_ble_eq_true rfl) rfl ?_
    refine oRun.getI 10 dX0_seekTwoPairs_7 fd_RX0_20 rfl rfl rfl ?_
    by_cases c10 : (m.1 50 3) < x1
    · replace h := oIp c10 h
      refine oRun.icmp_gt_t 61 dX0_seekTwoPairs_10 c10 rfl ?_
      cases h
      refine oRun.sub [] rfl ?_
      exact hx _ rfl
    · replace h := oIn c10 h
      refine oRun.icmp_gt_f 13 dX0_seekTwoPairs_10 rfl c10 rfl ?_
      refine oRun.aload_n 14 dX0_seekTwoPairs_13 0 rfl rfl (Nat.le_of_ble_eq_true rfl) rfl ?_
      refine oRun.getI 17 dX0_seekTwoPairs_14 fd_RX0_16 rfl rfl rfl ?_
      obtain ⟨x2_17, hx2_17, h⟩ := oB1 h
      refine oRun.nameI hx2_17 ?_
      refine oRun.istore_n 18 dX0_seekTwoPairs_17 rfl (Nat.le_of_ble_eq_true rfl) rfl rfl ?_
      obtain ⟨b18, hb18, h⟩ := oB1 h
      refine oRun.sub [1, 2, 0] rfl ?_
      refine E_X0_seekTwoPairs_L18 _ _ _ _ hb18 ?_
      refine oRun.iinc 58 dX0_seekTwoPairs_55 1 rfl (oAddC oc_i1) (Nat.le_of_ble_eq_true rfl) rfl rfl ?_
      refine oRun.goto 5 dX0_seekTwoPairs_58 rfl ?_
      cases h
      refine oRun.sub [1, 0] rfl ?_
      exact hc _ rfl
set_option maxRecDepth 100000 in
set_option maxHeartbeats 4000000 in
theorem E_X0_seekTwoPairs {G : oG} {m : oM} {w : oM} (h : F_X0_seekTwoPairs m = some w) : oEv G M_X0_seekTwoPairs [.ref 50] m none w := by
  unfold F_X0_seekTwoPairs at h
  refine ⟨?_, ?_⟩
  · show oRun G M_X0_seekTwoPairs 0 [(0, .ref 50)] [] m none w
    refine oRun.aload_n 1 dX0_seekTwoPairs_0 0 rfl rfl (Nat.le_of_ble_eq_true rfl) rfl ?_
    refine oRun.getI 4 dX0_seekTwoPairs_1 fd_RX0_16 rfl rfl rfl ?_
    obtain ⟨x1_4, hx1_4, h⟩ := oB1 h
    refine oRun.nameI hx1_4 ?_
    refine oRun.istore_n 5 dX0_seekTwoPairs_4 rfl (Nat.le_of_ble_eq_true rfl) rfl rfl ?_
    obtain ⟨b5, hb5, h⟩ := oB1 h
    refine oRun.sub [1, 0] rfl ?_
    refine E_X0_seekTwoPairs_L5 _ _ _ _ hb5 ?_
    rw [← Option.some.inj h]
    exact oRun.ret (r := none) dX0_seekTwoPairs_61
  · exact True.intro
set_option maxRecDepth 100000 in
set_option maxHeartbeats 4000000 in
theorem E_X0_seek_J38 {G : oG} {m : oM} {x1 : Int32} {x2 : Int32} {x3 : Int32} {x4 : Int32} {w : oM} (h : F_X0_seek_J38 m x1 x2 x3 x4 = some w) : oRun G M_X0_seek 38 [(0, .ref 50), (1, .int x1), (2, .int x2), (3, .int x3), (4, .int x4)] [] m none w := by
  unfold F_X0_seek_J38 at h
  refine oRun.aload_n 39 dX0_seek_38 0 rfl rfl (Nat.le_of_ble_eq_true rfl) rfl ?_
  refine oRun.iload_n 40 dX0_seek_39 1 rfl rfl rfl ?_
  refine oRun.i2l 41 dX0_seek_40 rfl ?_
  obtain ⟨m41, hm41, h⟩ := oB1 h
  refine oRun.putL 44 dX0_seek_41 fp_RX0_7 rfl rfl rfl ?_
  refine oRun.nameM hm41 ?_
  refine oRun.aload_n 45 dX0_seek_44 0 rfl rfl (Nat.le_of_ble_eq_true rfl) rfl ?_
  refine oRun.iload_n 46 dX0_seek_45 2 rfl rfl rfl ?_
  refine oRun.i2l 47 dX0_seek_46 rfl ?_
  obtain ⟨m47, hm47, h⟩ := oB1 h
  refine oRun.putL 50 dX0_seek_47 fp_RX0_13 rfl rfl rfl ?_
  refine oRun.nameM hm47 ?_
  refine oRun.aload_n 51 dX0_seek_50 0 rfl rfl (Nat.le_of_ble_eq_true rfl) rfl ?_
  refine oRun.iload_n 52 dX0_seek_51 3 rfl rfl rfl ?_
  obtain ⟨m52, hm52, h⟩ := oB1 h
  refine oRun.putI 55 dX0_seek_52 fp_RX0_16 rfl rfl rfl ?_
  refine oRun.nameM hm52 ?_
  refine oRun.aload_n 56 dX0_seek_55 0 rfl rfl (Nat.le_of_ble_eq_true rfl) rfl ?_
  refine oRun.iload 58 dX0_seek_56 4 rfl rfl ?_
  obtain ⟨m58, hm58, h⟩ := oB1 h
  refine oRun.putI 61 dX0_seek_58 fp_RX0_20 rfl rfl rfl ?_
  refine oRun.nameM hm58 ?_
  refine oRun.aload_n 62 dX0_seek_61 0 rfl rfl (Nat.le_of_ble_eq_true rfl) rfl ?_
  refine oRun.lconst 63 dX0_seek_62 oc_l1 rfl ?_
  obtain ⟨m63, hm63, h⟩ := oB1 h
  refine oRun.putL 66 dX0_seek_63 fp_RX0_35 rfl rfl rfl ?_
  refine oRun.nameM hm63 ?_
  refine oRun.aload_n 67 dX0_seek_66 0 rfl rfl (Nat.le_of_ble_eq_true rfl) rfl ?_
  refine oRun.lconst 68 dX0_seek_67 oc_l0 rfl ?_
  obtain ⟨m68, hm68, h⟩ := oB1 h
  refine oRun.putL 71 dX0_seek_68 fp_RX0_38 rfl rfl rfl ?_
  refine oRun.nameM hm68 ?_
  refine oRun.aload_n 72 dX0_seek_71 0 rfl rfl (Nat.le_of_ble_eq_true rfl) rfl ?_
  obtain ⟨r72, hr72, h⟩ := oB1 h
  refine oRun.callV (as := []) 75 dX0_seek_72 lk_RX0_41 (oFit_i (Nat.le_of_ble_eq_true rfl) (Nat.le_of_ble_eq_true rfl)) rfl rfl rfl rfl (Nat.le_of_ble_eq_true rfl) (Nat.le_of_ble_eq_true rfl) rfl (E_X0_seekOnePair hr72) rfl ?_
  show oRun G _ 75 _ [] _ _ _
  refine oRun.aload_n 76 dX0_seek_75 0 rfl rfl (Nat.le_of_ble_eq_true rfl) rfl ?_
  obtain ⟨r76, hr76, h⟩ := oB1 h
  refine oRun.callV (as := []) 79 dX0_seek_76 lk_RX0_44 (oFit_i (Nat.le_of_ble_eq_true rfl) (Nat.le_of_ble_eq_true rfl)) rfl rfl rfl rfl (Nat.le_of_ble_eq_true rfl) (Nat.le_of_ble_eq_true rfl) rfl (E_X0_seekTwoPairs hr76) rfl ?_
  show oRun G _ 79 _ [] _ _ _
  rw [← Option.some.inj h]
  exact oRun.ret (r := none) dX0_seek_79
set_option maxRecDepth 100000 in
set_option maxHeartbeats 4000000 in
theorem E_X0_seek {G : oG} {m : oM} {x1 : Int32} {x2 : Int32} {x3 : Int32} {x4 : Int32} {w : oM} (h : F_X0_seek m x1 x2 x3 x4 = some w) : oEv G M_X0_seek [.ref 50, .int x1, .int x2, .int x3, .int x4] m none w := by
  unfold F_X0_seek at h
  refine ⟨?_, ?_⟩
  · show oRun G M_X0_seek 0 [(0, .ref 50), (1, .int x1), (2, .int x2), (3, .int x3), (4, .int x4)] [] m none w
    refine oRun.iload_n 1 dX0_seek_0 1 rfl rfl rfl ?_
    refine oRun.i2l 2 dX0_seek_1 rfl ?_
    refine oRun.aload_n 3 dX0_seek_2 0 rfl rfl (Nat.le_of_ble_eq_true rfl) rfl ?_
    refine oRun.getL 6 dX0_seek_3 fd_RX0_7 rfl rfl rfl ?_
    refine oRun.lcmp 7 dX0_seek_6 rfl ?_
    by_cases c7 : x1.toInt64 = (m.2 50 0)
    · replace h := oIp c7 h
      refine oRun.if_ne_f 10 dX0_seek_7 rfl ((oLc_eq _ _).mpr c7) rfl ?_
      refine oRun.iload_n 11 dX0_seek_10 2 rfl rfl rfl ?_
      refine oRun.i2l 12 dX0_seek_11 rfl ?_
      refine oRun.aload_n 13 dX0_seek_12 0 rfl rfl (Nat.le_of_ble_eq_true rfl) rfl ?_
      refine oRun.getL 16 dX0_seek_13 fd_RX0_13 rfl rfl rfl ?_
      refine oRun.lcmp 17 dX0_seek_16 rfl ?_
      by_cases c17 : x2.toInt64 = (m.2 50 1)
      · replace h := oIp c17 h
        refine oRun.if_ne_f 20 dX0_seek_17 rfl ((oLc_eq _ _).mpr c17) rfl ?_
        refine oRun.iload_n 21 dX0_seek_20 3 rfl rfl rfl ?_
        refine oRun.aload_n 22 dX0_seek_21 0 rfl rfl (Nat.le_of_ble_eq_true rfl) rfl ?_
        refine oRun.getI 25 dX0_seek_22 fd_RX0_16 rfl rfl rfl ?_
        by_cases c25 : x3 = (m.1 50 2)
        · replace h := oIp c25 h
          refine oRun.icmp_ne_f 28 dX0_seek_25 rfl c25 rfl ?_
          refine oRun.iload 30 dX0_seek_28 4 rfl rfl ?_
          refine oRun.aload_n 31 dX0_seek_30 0 rfl rfl (Nat.le_of_ble_eq_true rfl) rfl ?_
          refine oRun.getI 34 dX0_seek_31 fd_RX0_20 rfl rfl rfl ?_
          by_cases c34 : x4 = (m.1 50 3)
          · replace h := oIp c34 h
            refine oRun.icmp_ne_f 37 dX0_seek_34 rfl c34 rfl ?_
            rw [← Option.some.inj h]
            exact oRun.ret (r := none) dX0_seek_37
          · replace h := oIn c34 h
            refine oRun.icmp_ne_t 38 dX0_seek_34 c34 rfl ?_
            refine oRun.sub [0, 1, 2, 3, 4] rfl ?_
            exact E_X0_seek_J38 h
        · replace h := oIn c25 h
          refine oRun.icmp_ne_t 38 dX0_seek_25 c25 rfl ?_
          refine oRun.sub [0, 1, 2, 3, 4] rfl ?_
          exact E_X0_seek_J38 h
      · replace h := oIn c17 h
        refine oRun.if_ne_t 38 dX0_seek_17 (mt (oLc_eq _ _).mp c17) rfl ?_
        refine oRun.sub [0, 1, 2, 3, 4] rfl ?_
        exact E_X0_seek_J38 h
    · replace h := oIn c7 h
      refine oRun.if_ne_t 38 dX0_seek_7 (mt (oLc_eq _ _).mp c7) rfl ?_
      refine oRun.sub [0, 1, 2, 3, 4] rfl ?_
      exact E_X0_seek_J38 h
  · exact True.intro
set_option maxRecDepth 100000 in
set_option maxHeartbeats 4000000 in
theorem E_X0_wheel {G : oG} {m : oM} {x1 : Int32} {w : Int32} (h : F_X0_wheel m x1 = some w) : oEv G M_X0_wheel [.ref 50, .int x1] m (some (.int w)) m := by
  unfold F_X0_wheel at h
  refine ⟨?_, ?_⟩
  · show oRun G M_X0_wheel 0 [(0, .ref 50), (1, .int x1)] [] m (some (.int w)) m
    refine oRun.iload_n 1 dX0_wheel_0 1 rfl rfl rfl ?_
    by_cases c1_0 : x1 = 0
    · replace h := oIp c1_0 h
      refine oRun.tsin 28 dX0_wheel_1 (q := 0) (by rw [c1_0]; rfl) (by decide) (by decide) rfl rfl ?_
      refine oRun.aload_n 29 dX0_wheel_28 0 rfl rfl (Nat.le_of_ble_eq_true rfl) rfl ?_
      refine oRun.getI 32 dX0_wheel_29 fd_RX0_23 rfl rfl rfl ?_
      rw [← Option.some.inj h]
      exact oRun.ret (r := some (.int (m.1 50 4))) dX0_wheel_32
    · replace h := oIn c1_0 h
      by_cases c1_1 : x1 = 1
      · replace h := oIp c1_1 h
        refine oRun.tsin 33 dX0_wheel_1 (q := 1) (by rw [c1_1]; rfl) (by decide) (by decide) rfl rfl ?_
        refine oRun.aload_n 34 dX0_wheel_33 0 rfl rfl (Nat.le_of_ble_eq_true rfl) rfl ?_
        refine oRun.getI 37 dX0_wheel_34 fd_RX0_29 rfl rfl rfl ?_
        rw [← Option.some.inj h]
        exact oRun.ret (r := some (.int (m.1 50 6))) dX0_wheel_37
      · replace h := oIn c1_1 h
        by_cases c1_2 : x1 = 2
        · replace h := oIp c1_2 h
          refine oRun.tsin 38 dX0_wheel_1 (q := 2) (by rw [c1_2]; rfl) (by decide) (by decide) rfl rfl ?_
          refine oRun.aload_n 39 dX0_wheel_38 0 rfl rfl (Nat.le_of_ble_eq_true rfl) rfl ?_
          refine oRun.getI 42 dX0_wheel_39 fd_RX0_26 rfl rfl rfl ?_
          rw [← Option.some.inj h]
          exact oRun.ret (r := some (.int (m.1 50 5))) dX0_wheel_42
        · replace h := oIn c1_2 h
          have dk : oRun G M_X0_wheel 43 [(0, .ref 50), (1, .int x1)] [] m (some (.int w)) m := by
            refine oRun.aload_n 44 dX0_wheel_43 0 rfl rfl (Nat.le_of_ble_eq_true rfl) rfl ?_
            refine oRun.getI 47 dX0_wheel_44 fd_RX0_32 rfl rfl rfl ?_
            rw [← Option.some.inj h]
            exact oRun.ret (r := some (.int (m.1 50 7))) dX0_wheel_47
          by_cases hl1 : x1.toInt < 0 ∨ 2 < x1.toInt
          · exact oRun.tsout 43 dX0_wheel_1 hl1 rfl dk
          · have hq : x1.toInt = 0 ∨ x1.toInt = 1 ∨ x1.toInt = 2 := by omega
            rcases hq with hq | hq | hq
            · exact absurd (oTs (k := 0) rfl hq) c1_0
            · exact absurd (oTs (k := 1) rfl hq) c1_1
            · exact absurd (oTs (k := 2) rfl hq) c1_2
  · exact True.intro
set_option maxRecDepth 100000 in
set_option maxHeartbeats 4000000 in
theorem E_X8_found_J44 {G : oG} {m : oM} {x1 : Int32} {x2 : Int32} {w : Int32 × oM} (h : F_X8_found_J44 m x1 x2 = some w) : oRun G M_X8_found 44 [(0, .ref 0), (1, .int x1), (2, .int x2)] [] m (some (.int w.1)) w.2 := by
  unfold F_X8_found_J44 at h
  refine oRun.aload_n 45 dX8_found_44 0 rfl rfl (Nat.le_of_ble_eq_true rfl) rfl ?_
  refine oRun.getR 48 dX8_found_45 fd_RX8_52 rfl rfl (Nat.le_of_ble_eq_true rfl) rfl ?_
  refine oRun.aload_n 49 dX8_found_48 0 rfl rfl (Nat.le_of_ble_eq_true rfl) rfl ?_
  refine oRun.getR 52 dX8_found_49 fd_RX8_12 rfl rfl (Nat.le_of_ble_eq_true rfl) rfl ?_
  refine oRun.getR 55 dX8_found_52 fd_RX8_72 rfl rfl (Nat.le_of_ble_eq_true rfl) rfl ?_
  refine oRun.iload_n 56 dX8_found_55 1 rfl rfl rfl ?_
  obtain ⟨r56, hr56, h⟩ := oB1 h
  refine oRun.callS (as := [.ref 2, .int x1]) 59 dX8_found_56 lk_RX8_76 (oFit_i (Nat.le_of_ble_eq_true rfl) (Nat.le_of_ble_eq_true rfl)) rfl (Nat.le_of_ble_eq_true rfl) (Nat.le_of_ble_eq_true rfl) rfl (E_X8_at (Or.inr ⟨_, rfl⟩) hr56) rfl ?_
  show oRun G _ 59 _ [.int r56, .ref 50] _ _ _
  refine oRun.aload_n 60 dX8_found_59 0 rfl rfl (Nat.le_of_ble_eq_true rfl) rfl ?_
  refine oRun.getR 63 dX8_found_60 fd_RX8_12 rfl rfl (Nat.le_of_ble_eq_true rfl) rfl ?_
  refine oRun.getR 66 dX8_found_63 fd_RX8_80 rfl rfl (Nat.le_of_ble_eq_true rfl) rfl ?_
  refine oRun.iload_n 67 dX8_found_66 1 rfl rfl rfl ?_
  obtain ⟨r67, hr67, h⟩ := oB1 h
  refine oRun.callS (as := [.ref 3, .int x1]) 70 dX8_found_67 lk_RX8_76 (oFit_i (Nat.le_of_ble_eq_true rfl) (Nat.le_of_ble_eq_true rfl)) rfl (Nat.le_of_ble_eq_true rfl) (Nat.le_of_ble_eq_true rfl) rfl (E_X8_at (Or.inr ⟨_, rfl⟩) hr67) rfl ?_
  show oRun G _ 70 _ [.int r67, .int r56, .ref 50] _ _ _
  refine oRun.aload_n 71 dX8_found_70 0 rfl rfl (Nat.le_of_ble_eq_true rfl) rfl ?_
  refine oRun.getR 74 dX8_found_71 fd_RX8_12 rfl rfl (Nat.le_of_ble_eq_true rfl) rfl ?_
  refine oRun.getI 77 dX8_found_74 fd_RX8_105 rfl rfl rfl ?_
  refine oRun.aload_n 78 dX8_found_77 0 rfl rfl (Nat.le_of_ble_eq_true rfl) rfl ?_
  refine oRun.getR 81 dX8_found_78 fd_RX8_12 rfl rfl (Nat.le_of_ble_eq_true rfl) rfl ?_
  refine oRun.getI 84 dX8_found_81 fd_RX8_108 rfl rfl rfl ?_
  obtain ⟨r84, hr84, h⟩ := oB1 h
  refine oRun.callV (as := [.int r56, .int r67, .int (m.1 1 3), .int (m.1 1 4)]) 87 dX8_found_84 lk_RX8_238 (oFit_i (Nat.le_of_ble_eq_true rfl) (Nat.le_of_ble_eq_true rfl)) rfl rfl rfl rfl (Nat.le_of_ble_eq_true rfl) (Nat.le_of_ble_eq_true rfl) rfl (E_X0_seek hr84) rfl ?_
  show oRun G _ 87 _ [] _ _ _
  refine oRun.iload_n 88 dX8_found_87 2 rfl rfl rfl ?_
  by_cases c88 : x2 = 0
  · replace h := oIp c88 h
    refine oRun.if_ne_f 91 dX8_found_88 rfl c88 rfl ?_
    refine oRun.aload_n 92 dX8_found_91 0 rfl rfl (Nat.le_of_ble_eq_true rfl) rfl ?_
    refine oRun.getR 95 dX8_found_92 fd_RX8_52 rfl rfl (Nat.le_of_ble_eq_true rfl) rfl ?_
    obtain ⟨r95, hr95, h⟩ := oB1 h
    refine oRun.callV (as := []) 98 dX8_found_95 lk_RX8_242 (oFit_i (Nat.le_of_ble_eq_true rfl) (Nat.le_of_ble_eq_true rfl)) rfl rfl rfl rfl (Nat.le_of_ble_eq_true rfl) (Nat.le_of_ble_eq_true rfl) rfl (E_X0_isOnePair hr95) rfl ?_
    show oRun G _ 98 _ [.int r95] _ _ _
    by_cases c98 : r95 = 0
    · replace h := oIp c98 h
      refine oRun.if_eq_t 105 dX8_found_98 c98 rfl ?_
      refine oRun.iconst 106 dX8_found_105 oc_i2 rfl ?_
      rw [← Option.some.inj h]
      exact oRun.ret (r := some (.int 2)) dX8_found_106
    · replace h := oIn c98 h
      refine oRun.if_eq_f 101 dX8_found_98 rfl c98 rfl ?_
      refine oRun.iconst 102 dX8_found_101 oc_i1 rfl ?_
      refine oRun.goto 106 dX8_found_102 rfl ?_
      rw [← Option.some.inj h]
      exact oRun.ret (r := some (.int 1)) dX8_found_106
  · replace h := oIn c88 h
    refine oRun.if_ne_t 107 dX8_found_88 c88 rfl ?_
    refine oRun.iload_n 108 dX8_found_107 2 rfl rfl rfl ?_
    refine oRun.iconst 109 dX8_found_108 oc_i1 rfl ?_
    by_cases c109 : x2 = 1
    · replace h := oIp c109 h
      refine oRun.icmp_ne_f 112 dX8_found_109 rfl c109 rfl ?_
      refine oRun.aload_n 113 dX8_found_112 0 rfl rfl (Nat.le_of_ble_eq_true rfl) rfl ?_
      refine oRun.getR 116 dX8_found_113 fd_RX8_52 rfl rfl (Nat.le_of_ble_eq_true rfl) rfl ?_
      obtain ⟨r116, hr116, h⟩ := oB1 h
      refine oRun.callV (as := []) 119 dX8_found_116 lk_RX8_246 (oFit_i (Nat.le_of_ble_eq_true rfl) (Nat.le_of_ble_eq_true rfl)) rfl rfl rfl rfl (Nat.le_of_ble_eq_true rfl) (Nat.le_of_ble_eq_true rfl) rfl (E_X0_allTeeth hr116) rfl ?_
      show oRun G _ 119 _ [.int r116] _ _ _
      rw [← Option.some.inj h]
      exact oRun.ret (r := some (.int r116)) dX8_found_119
    · replace h := oIn c109 h
      refine oRun.icmp_ne_t 120 dX8_found_109 c109 rfl ?_
      refine oRun.iload_n 121 dX8_found_120 2 rfl rfl rfl ?_
      refine oRun.bipush 123 dX8_found_121 oc_b12 rfl ?_
      by_cases c123 : x2 < 12
      · replace h := oIp c123 h
        refine oRun.icmp_lt_t 139 dX8_found_123 c123 rfl ?_
        refine oRun.aload_n 140 dX8_found_139 0 rfl rfl (Nat.le_of_ble_eq_true rfl) rfl ?_
        refine oRun.getR 143 dX8_found_140 fd_RX8_52 rfl rfl (Nat.le_of_ble_eq_true rfl) rfl ?_
        refine oRun.iload_n 144 dX8_found_143 2 rfl rfl rfl ?_
        refine oRun.bipush 146 dX8_found_144 oc_b10 rfl ?_
        refine oRun.isub 147 dX8_found_146 rfl ?_
        obtain ⟨r147, hr147, h⟩ := oB1 h
        refine oRun.callV (as := [.int (x2 - 10)]) 150 dX8_found_147 lk_RX8_249 (oFit_i (Nat.le_of_ble_eq_true rfl) (Nat.le_of_ble_eq_true rfl)) rfl rfl rfl rfl (Nat.le_of_ble_eq_true rfl) (Nat.le_of_ble_eq_true rfl) rfl (E_X0_wheel hr147) rfl ?_
        show oRun G _ 150 _ [.int r147] _ _ _
        rw [← Option.some.inj h]
        exact oRun.ret (r := some (.int r147)) dX8_found_150
      · replace h := oIn c123 h
        refine oRun.icmp_lt_f 126 dX8_found_123 rfl c123 rfl ?_
        refine oRun.aload_n 127 dX8_found_126 0 rfl rfl (Nat.le_of_ble_eq_true rfl) rfl ?_
        refine oRun.getR 130 dX8_found_127 fd_RX8_52 rfl rfl (Nat.le_of_ble_eq_true rfl) rfl ?_
        obtain ⟨r130, hr130, h⟩ := oB1 h
        refine oRun.callV (as := []) 133 dX8_found_130 lk_RX8_242 (oFit_i (Nat.le_of_ble_eq_true rfl) (Nat.le_of_ble_eq_true rfl)) rfl rfl rfl rfl (Nat.le_of_ble_eq_true rfl) (Nat.le_of_ble_eq_true rfl) rfl (E_X0_isOnePair hr130) rfl ?_
        show oRun G _ 133 _ [.int r130] _ _ _
        by_cases c133 : r130 = 0
        · replace h := oIp c133 h
          refine oRun.if_eq_t 139 dX8_found_133 c133 rfl ?_
          refine oRun.aload_n 140 dX8_found_139 0 rfl rfl (Nat.le_of_ble_eq_true rfl) rfl ?_
          refine oRun.getR 143 dX8_found_140 fd_RX8_52 rfl rfl (Nat.le_of_ble_eq_true rfl) rfl ?_
          refine oRun.iload_n 144 dX8_found_143 2 rfl rfl rfl ?_
          refine oRun.bipush 146 dX8_found_144 oc_b10 rfl ?_
          refine oRun.isub 147 dX8_found_146 rfl ?_
          obtain ⟨r147, hr147, h⟩ := oB1 h
          refine oRun.callV (as := [.int (x2 - 10)]) 150 dX8_found_147 lk_RX8_249 (oFit_i (Nat.le_of_ble_eq_true rfl) (Nat.le_of_ble_eq_true rfl)) rfl rfl rfl rfl (Nat.le_of_ble_eq_true rfl) (Nat.le_of_ble_eq_true rfl) rfl (E_X0_wheel hr147) rfl ?_
          show oRun G _ 150 _ [.int r147] _ _ _
          rw [← Option.some.inj h]
          exact oRun.ret (r := some (.int r147)) dX8_found_150
        · replace h := oIn c133 h
          refine oRun.if_eq_f 136 dX8_found_133 rfl c133 rfl ?_
          refine oRun.bipush 138 dX8_found_136 oc_bm5 rfl ?_
          rw [← Option.some.inj h]
          exact oRun.ret (r := some (.int (-5))) dX8_found_138
set_option maxRecDepth 100000 in
set_option maxHeartbeats 4000000 in
theorem E_X8_found_J17 {G : oG} {m : oM} {x1 : Int32} {x2 : Int32} {t0 : Int32} {w : Int32 × oM} (h : F_X8_found_J17 m x1 x2 t0 = some w) : oRun G M_X8_found 17 [(0, .ref 0), (1, .int x1), (2, .int x2)] [.int t0] m (some (.int w.1)) w.2 := by
  unfold F_X8_found_J17 at h
  refine oRun.istore_n 18 dX8_found_17 rfl (Nat.le_of_ble_eq_true rfl) rfl rfl ?_
  refine oRun.aload_n 19 dX8_found_18 1 rfl rfl (Nat.le_of_ble_eq_true rfl) rfl ?_
  refine oRun.getR 22 dX8_found_19 fd_RX8_12 rfl rfl (Nat.le_of_ble_eq_true rfl) rfl ?_
  refine oRun.iload_n 23 dX8_found_22 2 rfl rfl rfl ?_
  obtain ⟨r23, hr23, h⟩ := oB1 h
  refine oRun.callV (as := [.int x1]) 26 dX8_found_23 lk_RX8_68 (oFit_i (Nat.le_of_ble_eq_true rfl) (Nat.le_of_ble_eq_true rfl)) rfl rfl rfl rfl (Nat.le_of_ble_eq_true rfl) (Nat.le_of_ble_eq_true rfl) rfl (E_X1_hasBody rfl hr23) rfl ?_
  show oRun G _ 26 _ [.int r23] _ _ _
  by_cases c26 : r23 = 0
  · replace h := oIp c26 h
    refine oRun.if_eq_t 42 dX8_found_26 c26 rfl ?_
    refine oRun.iconst 43 dX8_found_42 oc_im1 rfl ?_
    rw [← Option.some.inj h]
    exact oRun.ret (r := some (.int (-1))) dX8_found_43
  · replace h := oIn c26 h
    refine oRun.if_eq_f 29 dX8_found_26 rfl c26 rfl ?_
    refine oRun.iload_n 30 dX8_found_29 3 rfl rfl rfl ?_
    by_cases c30 : x2 = 0
    · replace h := oIp c30 h
      refine oRun.if_eq_t 44 dX8_found_30 c30 rfl ?_
      refine oRun.sub [1, 2, 3] rfl ?_
      exact E_X8_found_J44 h
    · replace h := oIn c30 h
      refine oRun.if_eq_f 33 dX8_found_30 rfl c30 rfl ?_
      refine oRun.iload_n 34 dX8_found_33 3 rfl rfl rfl ?_
      refine oRun.iconst 35 dX8_found_34 oc_i1 rfl ?_
      by_cases c35 : x2 = 1
      · replace h := oIp c35 h
        refine oRun.icmp_eq_t 44 dX8_found_35 c35 rfl ?_
        refine oRun.sub [1, 2, 3] rfl ?_
        exact E_X8_found_J44 h
      · replace h := oIn c35 h
        refine oRun.icmp_eq_f 38 dX8_found_35 rfl c35 rfl ?_
        refine oRun.iload_n 39 dX8_found_38 0 rfl rfl rfl ?_
        by_cases c39 : t0 = 0
        · replace h := oIp c39 h
          refine oRun.if_ne_f 42 dX8_found_39 rfl c39 rfl ?_
          refine oRun.iconst 43 dX8_found_42 oc_im1 rfl ?_
          rw [← Option.some.inj h]
          exact oRun.ret (r := some (.int (-1))) dX8_found_43
        · replace h := oIn c39 h
          refine oRun.if_ne_t 44 dX8_found_39 c39 rfl ?_
          refine oRun.sub [1, 2, 3] rfl ?_
          exact E_X8_found_J44 h
set_option maxRecDepth 100000 in
set_option maxHeartbeats 4000000 in
theorem E_X8_found_J16 {G : oG} {m : oM} {x1 : Int32} {x2 : Int32} {w : Int32 × oM} (h : F_X8_found_J16 m x1 x2 = some w) : oRun G M_X8_found 16 [(0, .ref 0), (1, .int x1), (2, .int x2)] [] m (some (.int w.1)) w.2 := by
  unfold F_X8_found_J16 at h
  refine oRun.iconst 17 dX8_found_16 oc_i0 rfl ?_
  refine oRun.sub [0, 1, 2] rfl ?_
  exact E_X8_found_J17 h
set_option maxRecDepth 100000 in
set_option maxHeartbeats 4000000 in
theorem E_X8_found {G : oG} {m : oM} {x1 : Int32} {x2 : Int32} {w : Int32 × oM} (h : F_X8_found m x1 x2 = some w) : oEv G M_X8_found [.ref 0, .int x1, .int x2] m (some (.int w.1)) w.2 := by
  unfold F_X8_found at h
  refine ⟨?_, ?_⟩
  · show oRun G M_X8_found 0 [(0, .ref 0), (1, .int x1), (2, .int x2)] [] m (some (.int w.1)) w.2
    refine oRun.iload_n 1 dX8_found_0 2 rfl rfl rfl ?_
    refine oRun.bipush 3 dX8_found_1 oc_b10 rfl ?_
    by_cases c3 : x2 < 10
    · replace h := oIp c3 h
      refine oRun.icmp_lt_t 16 dX8_found_3 c3 rfl ?_
      refine oRun.sub [0, 1, 2] rfl ?_
      exact E_X8_found_J16 h
    · replace h := oIn c3 h
      refine oRun.icmp_lt_f 6 dX8_found_3 rfl c3 rfl ?_
      refine oRun.iload_n 7 dX8_found_6 2 rfl rfl rfl ?_
      refine oRun.bipush 9 dX8_found_7 oc_b13 rfl ?_
      by_cases c9 : 13 < x2
      · replace h := oIp c9 h
        refine oRun.icmp_gt_t 16 dX8_found_9 c9 rfl ?_
        refine oRun.sub [0, 1, 2] rfl ?_
        exact E_X8_found_J16 h
      · replace h := oIn c9 h
        refine oRun.icmp_gt_f 12 dX8_found_9 rfl c9 rfl ?_
        refine oRun.iconst 13 dX8_found_12 oc_i1 rfl ?_
        refine oRun.goto 17 dX8_found_13 rfl ?_
        refine oRun.sub [0, 1, 2] rfl ?_
        exact E_X8_found_J17 h
  · exact True.intro
set_option maxRecDepth 100000 in
set_option maxHeartbeats 4000000 in
theorem E_X9_tries_J139 {G : oG} {m : oM} {x2 : Int32} {x3 : Int32} {x4 : Int32} {x5 : Int32} {x6 : Int32} {x9 : Int64} {x11 : Int64} {x13 : Int32} {w : oM} (h : F_X9_tries_J139 m x2 x3 x4 x5 x6 x9 x11 x13 = some w) : oRun G M_X9_tries 139 [(0, .ref 51), (2, .int x2), (3, .int x3), (4, .int x4), (5, .int x5), (6, .int x6), (9, .long x9), (11, .long x11), (13, .int x13)] [] m none w := by
  unfold F_X9_tries_J139 at h
  refine oRun.aload_n 140 dX9_tries_139 0 rfl rfl (Nat.le_of_ble_eq_true rfl) rfl ?_
  refine oRun.iload_n 141 dX9_tries_140 1 rfl rfl rfl ?_
  obtain ⟨m141, hm141, h⟩ := oB1 h
  refine oRun.putI 144 dX9_tries_141 fp_RX9_182 rfl rfl rfl ?_
  refine oRun.nameM hm141 ?_
  refine oRun.aload_n 145 dX9_tries_144 0 rfl rfl (Nat.le_of_ble_eq_true rfl) rfl ?_
  refine oRun.iload 147 dX9_tries_145 8 rfl rfl ?_
  obtain ⟨m147, hm147, h⟩ := oB1 h
  refine oRun.putI 150 dX9_tries_147 fp_RX9_192 rfl rfl rfl ?_
  refine oRun.nameM hm147 ?_
  refine oRun.aload_n 151 dX9_tries_150 0 rfl rfl (Nat.le_of_ble_eq_true rfl) rfl ?_
  refine oRun.iload_n 152 dX9_tries_151 2 rfl rfl rfl ?_
  obtain ⟨m152, hm152, h⟩ := oB1 h
  refine oRun.putI 155 dX9_tries_152 fp_RX9_195 rfl rfl rfl ?_
  refine oRun.nameM hm152 ?_
  refine oRun.aload_n 156 dX9_tries_155 0 rfl rfl (Nat.le_of_ble_eq_true rfl) rfl ?_
  refine oRun.iload 158 dX9_tries_156 3 rfl rfl ?_
  obtain ⟨m158, hm158, h⟩ := oB1 h
  refine oRun.putI 161 dX9_tries_158 fp_RX9_198 rfl rfl rfl ?_
  refine oRun.nameM hm158 ?_
  refine oRun.aload_n 162 dX9_tries_161 0 rfl rfl (Nat.le_of_ble_eq_true rfl) rfl ?_
  refine oRun.iload 164 dX9_tries_162 4 rfl rfl ?_
  obtain ⟨m164, hm164, h⟩ := oB1 h
  refine oRun.putI 167 dX9_tries_164 fp_RX9_201 rfl rfl rfl ?_
  refine oRun.nameM hm164 ?_
  refine oRun.aload_n 168 dX9_tries_167 0 rfl rfl (Nat.le_of_ble_eq_true rfl) rfl ?_
  refine oRun.iload 170 dX9_tries_168 5 rfl rfl ?_
  obtain ⟨m170, hm170, h⟩ := oB1 h
  refine oRun.putI 173 dX9_tries_170 fp_RX9_204 rfl rfl rfl ?_
  refine oRun.nameM hm170 ?_
  refine oRun.aload_n 174 dX9_tries_173 0 rfl rfl (Nat.le_of_ble_eq_true rfl) rfl ?_
  refine oRun.lload 176 dX9_tries_174 7 rfl rfl ?_
  obtain ⟨m176, hm176, h⟩ := oB1 h
  refine oRun.putL 179 dX9_tries_176 fp_RX9_189 rfl rfl rfl ?_
  refine oRun.nameM hm176 ?_
  refine oRun.aload_n 180 dX9_tries_179 0 rfl rfl (Nat.le_of_ble_eq_true rfl) rfl ?_
  refine oRun.lload 182 dX9_tries_180 6 rfl rfl ?_
  obtain ⟨m182, hm182, h⟩ := oB1 h
  refine oRun.putL 185 dX9_tries_182 fp_RX9_185 rfl rfl rfl ?_
  refine oRun.nameM hm182 ?_
  rw [← Option.some.inj h]
  exact oRun.ret (r := none) dX9_tries_185
set_option maxRecDepth 100000 in
set_option maxHeartbeats 4000000 in
theorem E_X9_tries_J77 {G : oG} {m : oM} {x2 : Int32} {x3 : Int32} {x4 : Int32} {x5 : Int32} {x6 : Int32} {x9 : Int64} {x11 : Int64} {t0 : Int32} {t1 : Int32} {w : oM} (h : F_X9_tries_J77 m x2 x3 x4 x5 x6 x9 x11 t0 t1 = some w) : oRun G M_X9_tries 77 [(0, .ref 51), (2, .int x2), (3, .int x3), (4, .int x4), (5, .int x5), (6, .int x6), (9, .long x9), (11, .long x11)] [.int t1, .int t0] m none w := by
  unfold F_X9_tries_J77 at h
  refine oRun.iadd 78 dX9_tries_77 rfl ?_
  obtain ⟨x13_78, hx13_78, h⟩ := oB1 h
  refine oRun.nameI hx13_78 ?_
  refine oRun.istore 80 dX9_tries_78 (Nat.le_of_ble_eq_true rfl) rfl rfl ?_
  refine oRun.aload_n 81 dX9_tries_80 1 rfl rfl (Nat.le_of_ble_eq_true rfl) rfl ?_
  refine oRun.getI 84 dX9_tries_81 fd_RX9_182 rfl rfl rfl ?_
  by_cases c84 : (m.1 51 14) ≤ 0
  · replace h := oIp c84 h
    refine oRun.if_le_t 139 dX9_tries_84 c84 rfl ?_
    refine oRun.sub [1, 2, 3, 4, 5, 6, 7, 8, 0] rfl ?_
    exact E_X9_tries_J139 h
  · replace h := oIn c84 h
    refine oRun.if_le_f 87 dX9_tries_84 rfl c84 rfl ?_
    refine oRun.lload 89 dX9_tries_87 8 rfl rfl ?_
    refine oRun.aload_n 90 dX9_tries_89 1 rfl rfl (Nat.le_of_ble_eq_true rfl) rfl ?_
    refine oRun.getL 93 dX9_tries_90 fd_RX9_185 rfl rfl rfl ?_
    refine oRun.lmul 94 dX9_tries_93 rfl ?_
    obtain ⟨x14_94, hx14_94, h⟩ := oB1 h
    refine oRun.nameJ hx14_94 ?_
    refine oRun.lstore 96 dX9_tries_94 (Nat.le_of_ble_eq_true rfl) rfl rfl ?_
    refine oRun.aload_n 97 dX9_tries_96 2 rfl rfl (Nat.le_of_ble_eq_true rfl) rfl ?_
    refine oRun.getL 100 dX9_tries_97 fd_RX9_189 rfl rfl rfl ?_
    refine oRun.lload 102 dX9_tries_100 8 rfl rfl ?_
    refine oRun.lmul 103 dX9_tries_102 rfl ?_
    obtain ⟨x16_103, hx16_103, h⟩ := oB1 h
    refine oRun.nameJ hx16_103 ?_
    refine oRun.lstore 105 dX9_tries_103 (Nat.le_of_ble_eq_true rfl) rfl rfl ?_
    refine oRun.lload 107 dX9_tries_105 1 rfl rfl ?_
    refine oRun.lload 109 dX9_tries_107 0 rfl rfl ?_
    refine oRun.lcmp 110 dX9_tries_109 rfl ?_
    by_cases c110 : x16_103 < x14_94
    · replace h := oIp c110 h
      refine oRun.if_gt_t 138 dX9_tries_110 ((oLc_gt _ _).mpr c110) rfl ?_
      rw [← Option.some.inj h]
      exact oRun.ret (r := none) dX9_tries_138
    · replace h := oIn c110 h
      refine oRun.if_gt_f 113 dX9_tries_110 rfl (mt (oLc_gt _ _).mp c110) rfl ?_
      refine oRun.lload 115 dX9_tries_113 1 rfl rfl ?_
      refine oRun.lload 117 dX9_tries_115 0 rfl rfl ?_
      refine oRun.lcmp 118 dX9_tries_117 rfl ?_
      by_cases c118 : x14_94 = x16_103
      · replace h := oIp c118 h
        refine oRun.if_ne_f 121 dX9_tries_118 rfl ((oLc_eq _ _).mpr c118) rfl ?_
        refine oRun.iload_n 122 dX9_tries_121 4 rfl rfl rfl ?_
        refine oRun.aload_n 123 dX9_tries_122 3 rfl rfl (Nat.le_of_ble_eq_true rfl) rfl ?_
        refine oRun.getI 126 dX9_tries_123 fd_RX9_182 rfl rfl rfl ?_
        by_cases c126 : (m.1 51 14) < x2
        · replace h := oIp c126 h
          refine oRun.icmp_gt_t 138 dX9_tries_126 c126 rfl ?_
          rw [← Option.some.inj h]
          exact oRun.ret (r := none) dX9_tries_138
        · replace h := oIn c126 h
          refine oRun.icmp_gt_f 129 dX9_tries_126 rfl c126 rfl ?_
          refine oRun.iload 131 dX9_tries_129 2 rfl rfl ?_
          refine oRun.aload_n 132 dX9_tries_131 3 rfl rfl (Nat.le_of_ble_eq_true rfl) rfl ?_
          refine oRun.getI 135 dX9_tries_132 fd_RX9_192 rfl rfl rfl ?_
          by_cases c135 : x13_78 < (m.1 51 15)
          · replace h := oIp c135 h
            refine oRun.icmp_lt_t 139 dX9_tries_135 c135 rfl ?_
            refine oRun.sub [3, 4, 5, 6, 7, 8, 9, 10, 2] rfl ?_
            exact E_X9_tries_J139 h
          · replace h := oIn c135 h
            refine oRun.icmp_lt_f 138 dX9_tries_135 rfl c135 rfl ?_
            rw [← Option.some.inj h]
            exact oRun.ret (r := none) dX9_tries_138
      · replace h := oIn c118 h
        refine oRun.if_ne_t 139 dX9_tries_118 (mt (oLc_eq _ _).mp c118) rfl ?_
        refine oRun.sub [3, 4, 5, 6, 7, 8, 9, 10, 2] rfl ?_
        exact E_X9_tries_J139 h
set_option maxRecDepth 100000 in
set_option maxHeartbeats 4000000 in
theorem E_X9_tries_J59 {G : oG} {m : oM} {x2 : Int32} {x3 : Int32} {x4 : Int32} {x5 : Int32} {x6 : Int32} {x9 : Int64} {x11 : Int64} {w : oM} (h : F_X9_tries_J59 m x2 x3 x4 x5 x6 x9 x11 = some w) : oRun G M_X9_tries 59 [(0, .ref 51), (2, .int x2), (3, .int x3), (4, .int x4), (5, .int x5), (6, .int x6), (9, .long x9), (11, .long x11)] [] m none w := by
  unfold F_X9_tries_J59 at h
  refine oRun.iload_n 60 dX9_tries_59 2 rfl rfl rfl ?_
  refine oRun.iload 62 dX9_tries_60 4 rfl rfl ?_
  refine oRun.iadd 63 dX9_tries_62 rfl ?_
  refine oRun.iload_n 64 dX9_tries_63 1 rfl rfl rfl ?_
  refine oRun.iconst 65 dX9_tries_64 oc_i1 rfl ?_
  by_cases c65 : x2 = 1
  · replace h := oIp c65 h
    refine oRun.icmp_ne_f 68 dX9_tries_65 rfl c65 rfl ?_
    refine oRun.iconst 69 dX9_tries_68 oc_i0 rfl ?_
    refine oRun.goto 77 dX9_tries_69 rfl ?_
    refine oRun.sub [0, 1, 2, 3, 4, 5, 6, 7] rfl ?_
    exact E_X9_tries_J77 h
  · replace h := oIn c65 h
    refine oRun.icmp_ne_t 72 dX9_tries_65 c65 rfl ?_
    refine oRun.iload 74 dX9_tries_72 3 rfl rfl ?_
    refine oRun.iload 76 dX9_tries_74 5 rfl rfl ?_
    refine oRun.iadd 77 dX9_tries_76 rfl ?_
    refine oRun.sub [0, 1, 2, 3, 4, 5, 6, 7] rfl ?_
    exact E_X9_tries_J77 h
set_option maxRecDepth 100000 in
set_option maxHeartbeats 4000000 in
theorem E_X9_tries_J34 {G : oG} {m : oM} {x1 : Int32} {x2 : Int32} {x3 : Int32} {x4 : Int32} {x5 : Int32} {x6 : Int32} {x7 : Int64} {t0 : Int64} {w : oM} (h : F_X9_tries_J34 m x1 x2 x3 x4 x5 x6 x7 t0 = some w) : oRun G M_X9_tries 34 [(0, .ref 51), (1, .int x1), (2, .int x2), (3, .int x3), (4, .int x4), (5, .int x5), (6, .int x6), (7, .long x7)] [.long t0] m none w := by
  unfold F_X9_tries_J34 at h
  refine oRun.lstore 36 dX9_tries_34 (Nat.le_of_ble_eq_true rfl) rfl rfl ?_
  refine oRun.aload_n 37 dX9_tries_36 1 rfl rfl (Nat.le_of_ble_eq_true rfl) rfl ?_
  refine oRun.iload_n 38 dX9_tries_37 2 rfl rfl rfl ?_
  refine oRun.lload 40 dX9_tries_38 8 rfl rfl ?_
  refine oRun.lload 42 dX9_tries_40 0 rfl rfl ?_
  obtain ⟨r42, hr42, h⟩ := oB1 h
  refine oRun.callV (as := [.int x1, .long x7, .long t0]) 45 dX9_tries_42 lk_RX9_164 (oFit_i (Nat.le_of_ble_eq_true rfl) (Nat.le_of_ble_eq_true rfl)) rfl rfl rfl rfl (Nat.le_of_ble_eq_true rfl) (Nat.le_of_ble_eq_true rfl) rfl (E_X9_off hr42) rfl ?_
  show oRun G _ 45 _ [.long r42] _ _ _
  refine oRun.lstore 47 dX9_tries_45 (Nat.le_of_ble_eq_true rfl) rfl rfl ?_
  refine oRun.lload 49 dX9_tries_47 0 rfl rfl ?_
  refine oRun.lconst 50 dX9_tries_49 oc_l0 rfl ?_
  refine oRun.lcmp 51 dX9_tries_50 rfl ?_
  by_cases c51 : 0 ≤ r42
  · replace h := oIp c51 h
    refine oRun.if_ge_t 59 dX9_tries_51 ((oLc_ge _ _).mpr c51) rfl ?_
    refine oRun.sub [2, 4, 5, 6, 7, 8, 1, 0] rfl ?_
    exact E_X9_tries_J59 h
  · replace h := oIn c51 h
    refine oRun.if_ge_f 54 dX9_tries_51 rfl (mt (oLc_ge _ _).mp c51) rfl ?_
    refine oRun.lload 56 dX9_tries_54 0 rfl rfl ?_
    refine oRun.lneg 57 dX9_tries_56 rfl ?_
    obtain ⟨x11_57, hx11_57, h⟩ := oB1 h
    refine oRun.nameJ hx11_57 ?_
    refine oRun.lstore 59 dX9_tries_57 (Nat.le_of_ble_eq_true rfl) rfl rfl ?_
    refine oRun.sub [2, 4, 5, 6, 7, 8, 1, 0] rfl ?_
    exact E_X9_tries_J59 h
set_option maxRecDepth 100000 in
set_option maxHeartbeats 4000000 in
theorem E_X9_tries_J15 {G : oG} {m : oM} {x1 : Int32} {x2 : Int32} {x3 : Int32} {x4 : Int32} {x5 : Int32} {x6 : Int32} {t0 : Int64} {w : oM} (h : F_X9_tries_J15 m x1 x2 x3 x4 x5 x6 t0 = some w) : oRun G M_X9_tries 15 [(0, .ref 51), (1, .int x1), (2, .int x2), (3, .int x3), (4, .int x4), (5, .int x5), (6, .int x6)] [.long t0] m none w := by
  unfold F_X9_tries_J15 at h
  refine oRun.lstore 17 dX9_tries_15 (Nat.le_of_ble_eq_true rfl) rfl rfl ?_
  refine oRun.iload_n 18 dX9_tries_17 3 rfl rfl rfl ?_
  refine oRun.iconst 19 dX9_tries_18 oc_i1 rfl ?_
  by_cases c19 : x2 = 1
  · replace h := oIp c19 h
    refine oRun.icmp_ne_f 22 dX9_tries_19 rfl c19 rfl ?_
    refine oRun.iload 24 dX9_tries_22 6 rfl rfl ?_
    refine oRun.i2l 25 dX9_tries_24 rfl ?_
    refine oRun.goto 34 dX9_tries_25 rfl ?_
    refine oRun.sub [1, 2, 3, 4, 5, 6, 7, 0] rfl ?_
    exact E_X9_tries_J34 h
  · replace h := oIn c19 h
    refine oRun.icmp_ne_t 28 dX9_tries_19 c19 rfl ?_
    refine oRun.iload 30 dX9_tries_28 6 rfl rfl ?_
    refine oRun.iload 32 dX9_tries_30 7 rfl rfl ?_
    refine oRun.imul 33 dX9_tries_32 rfl ?_
    refine oRun.i2l 34 dX9_tries_33 rfl ?_
    refine oRun.sub [1, 2, 3, 4, 5, 6, 7, 0] rfl ?_
    exact E_X9_tries_J34 h
set_option maxRecDepth 100000 in
set_option maxHeartbeats 4000000 in
theorem E_X9_tries {G : oG} {m : oM} {x1 : Int32} {x2 : Int32} {x3 : Int32} {x4 : Int32} {x5 : Int32} {x6 : Int32} {w : oM} (h : F_X9_tries m x1 x2 x3 x4 x5 x6 = some w) : oEv G M_X9_tries [.ref 51, .int x1, .int x2, .int x3, .int x4, .int x5, .int x6] m none w := by
  unfold F_X9_tries at h
  refine ⟨?_, ?_⟩
  · show oRun G M_X9_tries 0 [(0, .ref 51), (1, .int x1), (2, .int x2), (3, .int x3), (4, .int x4), (5, .int x5), (6, .int x6)] [] m none w
    refine oRun.iload_n 1 dX9_tries_0 2 rfl rfl rfl ?_
    refine oRun.iconst 2 dX9_tries_1 oc_i1 rfl ?_
    by_cases c2 : x2 = 1
    · replace h := oIp c2 h
      refine oRun.icmp_ne_f 5 dX9_tries_2 rfl c2 rfl ?_
      refine oRun.iload_n 6 dX9_tries_5 3 rfl rfl rfl ?_
      refine oRun.i2l 7 dX9_tries_6 rfl ?_
      refine oRun.goto 15 dX9_tries_7 rfl ?_
      refine oRun.sub [0, 1, 2, 3, 4, 5, 6] rfl ?_
      exact E_X9_tries_J15 h
    · replace h := oIn c2 h
      refine oRun.icmp_ne_t 10 dX9_tries_2 c2 rfl ?_
      refine oRun.iload_n 11 dX9_tries_10 3 rfl rfl rfl ?_
      refine oRun.iload 13 dX9_tries_11 4 rfl rfl ?_
      refine oRun.imul 14 dX9_tries_13 rfl ?_
      refine oRun.i2l 15 dX9_tries_14 rfl ?_
      refine oRun.sub [0, 1, 2, 3, 4, 5, 6] rfl ?_
      exact E_X9_tries_J15 h
  · exact True.intro
set_option maxRecDepth 100000 in
set_option maxHeartbeats 4000000 in
theorem E_X9_finds_L29 {G : oG} {x1 : Int32} {x2 : Int32} {r : Option Value} {m' : oM} : ∀ (n : Nat) (x3 : Int32) (m : oM) (b : oM), oLoop (fun s : Int32 × oM => F_X9_finds_L29 x1 x2 s.1 s.2) n (x3, m) = some b → oRun G M_X9_finds 55 [(0, .ref 51), (1, .int x1), (2, .int x2)] [] b r m' → oRun G M_X9_finds 29 [(0, .ref 51), (1, .int x1), (2, .int x2), (3, .int x3)] [] m r m' := by
  intro n
  induction n with
  | zero => intro x3 m b h _; exact (oLoop_zero h).elim
  | succ n ih =>
    intro x3 m b h he
    obtain ⟨q', hq', h⟩ := oLoop_succ h
    have hc : ∀ s' : Int32 × oM, q' = .inl s' → oRun G M_X9_finds 29 [(0, .ref 51), (1, .int x1), (2, .int x2), (3, .int s'.1)] [] s'.2 r m' := by
      rintro s' rfl
      exact ih (s'.1) (s'.2) b h he
    have hx : ∀ b' : oM, q' = .inr b' → oRun G M_X9_finds 55 [(0, .ref 51), (1, .int x1), (2, .int x2)] [] b' r m' := by
      rintro b' rfl
      have h : b' = b := h
      rw [h]
      exact he
    clear h he ih
    have h := hq'
    clear hq'
    replace h : F_X9_finds_L29 x1 x2 x3 m = some q' := h
    unfold F_X9_finds_L29 at h
    refine oRun.iload_n 30 dX9_finds_29 3 rfl rfl rfl ?_
    refine oRun.aload_n 31 dX9_finds_30 0 rfl rfl (Nat.le_of_ble_eq_true rfl) rfl ?_
    refine oRun.getR 34 dX9_finds_31 fd_RX9_11 rfl rfl (Nat.le_of_ble_eq_true rfl) rfl ?_
    refine oRun.iconst 35 dX9_finds_34 oc_i2 rfl ?_
    refine oRun.iaload (x := m.1 52 2) 36 dX9_finds_35 (Or.inr ⟨_, rfl⟩) (oAL_lit (i := 2) rfl) rfl ?_
    by_cases c36 : (m.1 52 2) < x3
    · replace h := oIp c36 h
      refine oRun.icmp_gt_t 55 dX9_finds_36 c36 rfl ?_
      cases h
      refine oRun.sub [0, 1, 2] rfl ?_
      exact hx _ rfl
    · replace h := oIn c36 h
      refine oRun.icmp_gt_f 39 dX9_finds_36 rfl c36 rfl ?_
      refine oRun.aload_n 40 dX9_finds_39 0 rfl rfl (Nat.le_of_ble_eq_true rfl) rfl ?_
      refine oRun.iload_n 41 dX9_finds_40 1 rfl rfl rfl ?_
      refine oRun.iconst 42 dX9_finds_41 oc_i1 rfl ?_
      refine oRun.iload_n 43 dX9_finds_42 2 rfl rfl rfl ?_
      refine oRun.iconst 44 dX9_finds_43 oc_i1 rfl ?_
      refine oRun.iload_n 45 dX9_finds_44 3 rfl rfl rfl ?_
      refine oRun.iconst 46 dX9_finds_45 oc_i1 rfl ?_
      obtain ⟨r46, hr46, h⟩ := oB1 h
      refine oRun.callV (as := [.int x1, .int 1, .int x2, .int 1, .int x3, .int 1]) 49 dX9_finds_46 lk_RX9_207 (oFit_i (Nat.le_of_ble_eq_true rfl) (Nat.le_of_ble_eq_true rfl)) rfl rfl rfl rfl (Nat.le_of_ble_eq_true rfl) (Nat.le_of_ble_eq_true rfl) rfl (E_X9_tries hr46) rfl ?_
      show oRun G _ 49 _ [] _ _ _
      refine oRun.iinc 52 dX9_finds_49 3 rfl (oAddC oc_i1) (Nat.le_of_ble_eq_true rfl) rfl rfl ?_
      refine oRun.goto 29 dX9_finds_52 rfl ?_
      cases h
      refine oRun.sub [1, 2, 3, 0] rfl ?_
      exact hc _ rfl
set_option maxRecDepth 100000 in
set_option maxHeartbeats 4000000 in
theorem E_X9_finds_L12 {G : oG} {x1 : Int32} {r : Option Value} {m' : oM} : ∀ (n : Nat) (x2 : Int32) (m : oM) (b : oM), oLoop (fun s : Int32 × oM => F_X9_finds_L12 x1 s.1 s.2) n (x2, m) = some b → oRun G M_X9_finds 61 [(0, .ref 51), (1, .int x1)] [] b r m' → oRun G M_X9_finds 12 [(0, .ref 51), (1, .int x1), (2, .int x2)] [] m r m' := by
  intro n
  induction n with
  | zero => intro x2 m b h _; exact (oLoop_zero h).elim
  | succ n ih =>
    intro x2 m b h he
    obtain ⟨q', hq', h⟩ := oLoop_succ h
    have hc : ∀ s' : Int32 × oM, q' = .inl s' → oRun G M_X9_finds 12 [(0, .ref 51), (1, .int x1), (2, .int s'.1)] [] s'.2 r m' := by
      rintro s' rfl
      exact ih (s'.1) (s'.2) b h he
    have hx : ∀ b' : oM, q' = .inr b' → oRun G M_X9_finds 61 [(0, .ref 51), (1, .int x1)] [] b' r m' := by
      rintro b' rfl
      have h : b' = b := h
      rw [h]
      exact he
    clear h he ih
    have h := hq'
    clear hq'
    replace h : F_X9_finds_L12 x1 x2 m = some q' := h
    unfold F_X9_finds_L12 at h
    refine oRun.iload_n 13 dX9_finds_12 2 rfl rfl rfl ?_
    refine oRun.aload_n 14 dX9_finds_13 0 rfl rfl (Nat.le_of_ble_eq_true rfl) rfl ?_
    refine oRun.getR 17 dX9_finds_14 fd_RX9_11 rfl rfl (Nat.le_of_ble_eq_true rfl) rfl ?_
    refine oRun.iconst 18 dX9_finds_17 oc_i2 rfl ?_
    refine oRun.iaload (x := m.1 52 2) 19 dX9_finds_18 (Or.inr ⟨_, rfl⟩) (oAL_lit (i := 2) rfl) rfl ?_
    by_cases c19 : (m.1 52 2) < x2
    · replace h := oIp c19 h
      refine oRun.icmp_gt_t 61 dX9_finds_19 c19 rfl ?_
      cases h
      refine oRun.sub [0, 1] rfl ?_
      exact hx _ rfl
    · replace h := oIn c19 h
      refine oRun.icmp_gt_f 22 dX9_finds_19 rfl c19 rfl ?_
      refine oRun.aload_n 23 dX9_finds_22 0 rfl rfl (Nat.le_of_ble_eq_true rfl) rfl ?_
      refine oRun.getR 26 dX9_finds_23 fd_RX9_11 rfl rfl (Nat.le_of_ble_eq_true rfl) rfl ?_
      refine oRun.iconst 27 dX9_finds_26 oc_i1 rfl ?_
      refine oRun.iaload (x := m.1 52 1) 28 dX9_finds_27 (Or.inr ⟨_, rfl⟩) (oAL_lit (i := 1) rfl) rfl ?_
      obtain ⟨x3_28, hx3_28, h⟩ := oB1 h
      refine oRun.nameI hx3_28 ?_
      refine oRun.istore_n 29 dX9_finds_28 rfl (Nat.le_of_ble_eq_true rfl) rfl rfl ?_
      obtain ⟨b29, hb29, h⟩ := oB1 h
      refine oRun.sub [1, 2, 3, 0] rfl ?_
      refine E_X9_finds_L29 _ _ _ _ hb29 ?_
      refine oRun.iinc 58 dX9_finds_55 2 rfl (oAddC oc_i1) (Nat.le_of_ble_eq_true rfl) rfl rfl ?_
      refine oRun.goto 12 dX9_finds_58 rfl ?_
      cases h
      refine oRun.sub [1, 2, 0] rfl ?_
      exact hc _ rfl
set_option maxRecDepth 100000 in
set_option maxHeartbeats 4000000 in
theorem E_X9_finds_L113 {G : oG} {x1 : Int32} {x2 : Int32} {x3 : Int32} {x4 : Int32} {r : Option Value} {m' : oM} : ∀ (n : Nat) (x5 : Int32) (m : oM) (b : oM), oLoop (fun s : Int32 × oM => F_X9_finds_L113 x1 x2 x3 x4 s.1 s.2) n (x5, m) = some b → oRun G M_X9_finds 142 [(0, .ref 51), (1, .int x1), (2, .int x2), (3, .int x3), (4, .int x4)] [] b r m' → oRun G M_X9_finds 113 [(0, .ref 51), (1, .int x1), (2, .int x2), (3, .int x3), (4, .int x4), (5, .int x5)] [] m r m' := by
  intro n
  induction n with
  | zero => intro x5 m b h _; exact (oLoop_zero h).elim
  | succ n ih =>
    intro x5 m b h he
    obtain ⟨q', hq', h⟩ := oLoop_succ h
    have hc : ∀ s' : Int32 × oM, q' = .inl s' → oRun G M_X9_finds 113 [(0, .ref 51), (1, .int x1), (2, .int x2), (3, .int x3), (4, .int x4), (5, .int s'.1)] [] s'.2 r m' := by
      rintro s' rfl
      exact ih (s'.1) (s'.2) b h he
    have hx : ∀ b' : oM, q' = .inr b' → oRun G M_X9_finds 142 [(0, .ref 51), (1, .int x1), (2, .int x2), (3, .int x3), (4, .int x4)] [] b' r m' := by
      rintro b' rfl
      have h : b' = b := h
      rw [h]
      exact he
    clear h he ih
    have h := hq'
    clear hq'
    replace h : F_X9_finds_L113 x1 x2 x3 x4 x5 m = some q' := h
    unfold F_X9_finds_L113 at h
    refine oRun.iload 115 dX9_finds_113 5 rfl rfl ?_
    refine oRun.aload_n 116 dX9_finds_115 0 rfl rfl (Nat.le_of_ble_eq_true rfl) rfl ?_
    refine oRun.getR 119 dX9_finds_116 fd_RX9_11 rfl rfl (Nat.le_of_ble_eq_true rfl) rfl ?_
    refine oRun.iconst 120 dX9_finds_119 oc_i2 rfl ?_
    refine oRun.iaload (x := m.1 52 2) 121 dX9_finds_120 (Or.inr ⟨_, rfl⟩) (oAL_lit (i := 2) rfl) rfl ?_
    by_cases c121 : (m.1 52 2) < x5
    · replace h := oIp c121 h
      refine oRun.icmp_gt_t 142 dX9_finds_121 c121 rfl ?_
      cases h
      refine oRun.sub [0, 1, 2, 3, 4] rfl ?_
      exact hx _ rfl
    · replace h := oIn c121 h
      refine oRun.icmp_gt_f 124 dX9_finds_121 rfl c121 rfl ?_
      refine oRun.aload_n 125 dX9_finds_124 0 rfl rfl (Nat.le_of_ble_eq_true rfl) rfl ?_
      refine oRun.iload_n 126 dX9_finds_125 1 rfl rfl rfl ?_
      refine oRun.iconst 127 dX9_finds_126 oc_i2 rfl ?_
      refine oRun.iload_n 128 dX9_finds_127 2 rfl rfl rfl ?_
      refine oRun.iload_n 129 dX9_finds_128 3 rfl rfl rfl ?_
      refine oRun.iload 131 dX9_finds_129 4 rfl rfl ?_
      refine oRun.iload 133 dX9_finds_131 5 rfl rfl ?_
      obtain ⟨r133, hr133, h⟩ := oB1 h
      refine oRun.callV (as := [.int x1, .int 2, .int x2, .int x3, .int x4, .int x5]) 136 dX9_finds_133 lk_RX9_207 (oFit_i (Nat.le_of_ble_eq_true rfl) (Nat.le_of_ble_eq_true rfl)) rfl rfl rfl rfl (Nat.le_of_ble_eq_true rfl) (Nat.le_of_ble_eq_true rfl) rfl (E_X9_tries hr133) rfl ?_
      show oRun G _ 136 _ [] _ _ _
      refine oRun.iinc 139 dX9_finds_136 5 rfl (oAddC oc_i1) (Nat.le_of_ble_eq_true rfl) rfl rfl ?_
      refine oRun.goto 113 dX9_finds_139 rfl ?_
      cases h
      refine oRun.sub [1, 2, 3, 4, 5, 0] rfl ?_
      exact hc _ rfl
set_option maxRecDepth 100000 in
set_option maxHeartbeats 4000000 in
theorem E_X9_finds_L98 {G : oG} {x1 : Int32} {x2 : Int32} {x3 : Int32} {r : Option Value} {m' : oM} : ∀ (n : Nat) (x4 : Int32) (m : oM) (b : oM), oLoop (fun s : Int32 × oM => F_X9_finds_L98 x1 x2 x3 s.1 s.2) n (x4, m) = some b → oRun G M_X9_finds 148 [(0, .ref 51), (1, .int x1), (2, .int x2), (3, .int x3)] [] b r m' → oRun G M_X9_finds 98 [(0, .ref 51), (1, .int x1), (2, .int x2), (3, .int x3), (4, .int x4)] [] m r m' := by
  intro n
  induction n with
  | zero => intro x4 m b h _; exact (oLoop_zero h).elim
  | succ n ih =>
    intro x4 m b h he
    obtain ⟨q', hq', h⟩ := oLoop_succ h
    have hc : ∀ s' : Int32 × oM, q' = .inl s' → oRun G M_X9_finds 98 [(0, .ref 51), (1, .int x1), (2, .int x2), (3, .int x3), (4, .int s'.1)] [] s'.2 r m' := by
      rintro s' rfl
      exact ih (s'.1) (s'.2) b h he
    have hx : ∀ b' : oM, q' = .inr b' → oRun G M_X9_finds 148 [(0, .ref 51), (1, .int x1), (2, .int x2), (3, .int x3)] [] b' r m' := by
      rintro b' rfl
      have h : b' = b := h
      rw [h]
      exact he
    clear h he ih
    have h := hq'
    clear hq'
    replace h : F_X9_finds_L98 x1 x2 x3 x4 m = some q' := h
    unfold F_X9_finds_L98 at h
    refine oRun.iload 100 dX9_finds_98 4 rfl rfl ?_
    refine oRun.aload_n 101 dX9_finds_100 0 rfl rfl (Nat.le_of_ble_eq_true rfl) rfl ?_
    refine oRun.getR 104 dX9_finds_101 fd_RX9_11 rfl rfl (Nat.le_of_ble_eq_true rfl) rfl ?_
    refine oRun.iconst 105 dX9_finds_104 oc_i2 rfl ?_
    refine oRun.iaload (x := m.1 52 2) 106 dX9_finds_105 (Or.inr ⟨_, rfl⟩) (oAL_lit (i := 2) rfl) rfl ?_
    by_cases c106 : (m.1 52 2) < x4
    · replace h := oIp c106 h
      refine oRun.icmp_gt_t 148 dX9_finds_106 c106 rfl ?_
      cases h
      refine oRun.sub [0, 1, 2, 3] rfl ?_
      exact hx _ rfl
    · replace h := oIn c106 h
      refine oRun.icmp_gt_f 109 dX9_finds_106 rfl c106 rfl ?_
      refine oRun.iload 111 dX9_finds_109 4 rfl rfl ?_
      refine oRun.istore 113 dX9_finds_111 (Nat.le_of_ble_eq_true rfl) rfl rfl ?_
      obtain ⟨b113, hb113, h⟩ := oB1 h
      refine oRun.sub [1, 2, 3, 4, 5, 0] rfl ?_
      refine E_X9_finds_L113 _ _ _ _ hb113 ?_
      refine oRun.iinc 145 dX9_finds_142 4 rfl (oAddC oc_i1) (Nat.le_of_ble_eq_true rfl) rfl rfl ?_
      refine oRun.goto 98 dX9_finds_145 rfl ?_
      cases h
      refine oRun.sub [1, 2, 3, 4, 0] rfl ?_
      exact hc _ rfl
set_option maxRecDepth 100000 in
set_option maxHeartbeats 4000000 in
theorem E_X9_finds_L80 {G : oG} {x1 : Int32} {x2 : Int32} {r : Option Value} {m' : oM} : ∀ (n : Nat) (x3 : Int32) (m : oM) (b : oM), oLoop (fun s : Int32 × oM => F_X9_finds_L80 x1 x2 s.1 s.2) n (x3, m) = some b → oRun G M_X9_finds 154 [(0, .ref 51), (1, .int x1), (2, .int x2)] [] b r m' → oRun G M_X9_finds 80 [(0, .ref 51), (1, .int x1), (2, .int x2), (3, .int x3)] [] m r m' := by
  intro n
  induction n with
  | zero => intro x3 m b h _; exact (oLoop_zero h).elim
  | succ n ih =>
    intro x3 m b h he
    obtain ⟨q', hq', h⟩ := oLoop_succ h
    have hc : ∀ s' : Int32 × oM, q' = .inl s' → oRun G M_X9_finds 80 [(0, .ref 51), (1, .int x1), (2, .int x2), (3, .int s'.1)] [] s'.2 r m' := by
      rintro s' rfl
      exact ih (s'.1) (s'.2) b h he
    have hx : ∀ b' : oM, q' = .inr b' → oRun G M_X9_finds 154 [(0, .ref 51), (1, .int x1), (2, .int x2)] [] b' r m' := by
      rintro b' rfl
      have h : b' = b := h
      rw [h]
      exact he
    clear h he ih
    have h := hq'
    clear hq'
    replace h : F_X9_finds_L80 x1 x2 x3 m = some q' := h
    unfold F_X9_finds_L80 at h
    refine oRun.iload_n 81 dX9_finds_80 3 rfl rfl rfl ?_
    refine oRun.aload_n 82 dX9_finds_81 0 rfl rfl (Nat.le_of_ble_eq_true rfl) rfl ?_
    refine oRun.getR 85 dX9_finds_82 fd_RX9_11 rfl rfl (Nat.le_of_ble_eq_true rfl) rfl ?_
    refine oRun.iconst 86 dX9_finds_85 oc_i2 rfl ?_
    refine oRun.iaload (x := m.1 52 2) 87 dX9_finds_86 (Or.inr ⟨_, rfl⟩) (oAL_lit (i := 2) rfl) rfl ?_
    by_cases c87 : (m.1 52 2) < x3
    · replace h := oIp c87 h
      refine oRun.icmp_gt_t 154 dX9_finds_87 c87 rfl ?_
      cases h
      refine oRun.sub [0, 1, 2] rfl ?_
      exact hx _ rfl
    · replace h := oIn c87 h
      refine oRun.icmp_gt_f 90 dX9_finds_87 rfl c87 rfl ?_
      refine oRun.aload_n 91 dX9_finds_90 0 rfl rfl (Nat.le_of_ble_eq_true rfl) rfl ?_
      refine oRun.getR 94 dX9_finds_91 fd_RX9_11 rfl rfl (Nat.le_of_ble_eq_true rfl) rfl ?_
      refine oRun.iconst 95 dX9_finds_94 oc_i1 rfl ?_
      refine oRun.iaload (x := m.1 52 1) 96 dX9_finds_95 (Or.inr ⟨_, rfl⟩) (oAL_lit (i := 1) rfl) rfl ?_
      obtain ⟨x4_96, hx4_96, h⟩ := oB1 h
      refine oRun.nameI hx4_96 ?_
      refine oRun.istore 98 dX9_finds_96 (Nat.le_of_ble_eq_true rfl) rfl rfl ?_
      obtain ⟨b98, hb98, h⟩ := oB1 h
      refine oRun.sub [1, 2, 3, 4, 0] rfl ?_
      refine E_X9_finds_L98 _ _ _ _ hb98 ?_
      refine oRun.iinc 151 dX9_finds_148 3 rfl (oAddC oc_i1) (Nat.le_of_ble_eq_true rfl) rfl rfl ?_
      refine oRun.goto 80 dX9_finds_151 rfl ?_
      cases h
      refine oRun.sub [1, 2, 3, 0] rfl ?_
      exact hc _ rfl
set_option maxRecDepth 100000 in
set_option maxHeartbeats 4000000 in
theorem E_X9_finds_L68 {G : oG} {x1 : Int32} {r : Option Value} {m' : oM} : ∀ (n : Nat) (x2 : Int32) (m : oM) (b : oM), oLoop (fun s : Int32 × oM => F_X9_finds_L68 x1 s.1 s.2) n (x2, m) = some b → oRun G M_X9_finds 160 [] [] b r m' → oRun G M_X9_finds 68 [(0, .ref 51), (1, .int x1), (2, .int x2)] [] m r m' := by
  intro n
  induction n with
  | zero => intro x2 m b h _; exact (oLoop_zero h).elim
  | succ n ih =>
    intro x2 m b h he
    obtain ⟨q', hq', h⟩ := oLoop_succ h
    have hc : ∀ s' : Int32 × oM, q' = .inl s' → oRun G M_X9_finds 68 [(0, .ref 51), (1, .int x1), (2, .int s'.1)] [] s'.2 r m' := by
      rintro s' rfl
      exact ih (s'.1) (s'.2) b h he
    have hx : ∀ b' : oM, q' = .inr b' → oRun G M_X9_finds 160 [] [] b' r m' := by
      rintro b' rfl
      have h : b' = b := h
      rw [h]
      exact he
    clear h he ih
    have h := hq'
    clear hq'
    replace h : F_X9_finds_L68 x1 x2 m = some q' := h
    unfold F_X9_finds_L68 at h
    refine oRun.iload_n 69 dX9_finds_68 2 rfl rfl rfl ?_
    refine oRun.aload_n 70 dX9_finds_69 0 rfl rfl (Nat.le_of_ble_eq_true rfl) rfl ?_
    refine oRun.getR 73 dX9_finds_70 fd_RX9_11 rfl rfl (Nat.le_of_ble_eq_true rfl) rfl ?_
    refine oRun.iconst 74 dX9_finds_73 oc_i2 rfl ?_
    refine oRun.iaload (x := m.1 52 2) 75 dX9_finds_74 (Or.inr ⟨_, rfl⟩) (oAL_lit (i := 2) rfl) rfl ?_
    by_cases c75 : (m.1 52 2) < x2
    · replace h := oIp c75 h
      refine oRun.icmp_gt_t 160 dX9_finds_75 c75 rfl ?_
      cases h
      refine oRun.sub [] rfl ?_
      exact hx _ rfl
    · replace h := oIn c75 h
      refine oRun.icmp_gt_f 78 dX9_finds_75 rfl c75 rfl ?_
      refine oRun.iload_n 79 dX9_finds_78 2 rfl rfl rfl ?_
      refine oRun.istore_n 80 dX9_finds_79 rfl (Nat.le_of_ble_eq_true rfl) rfl rfl ?_
      obtain ⟨b80, hb80, h⟩ := oB1 h
      refine oRun.sub [1, 2, 3, 0] rfl ?_
      refine E_X9_finds_L80 _ _ _ _ hb80 ?_
      refine oRun.iinc 157 dX9_finds_154 2 rfl (oAddC oc_i1) (Nat.le_of_ble_eq_true rfl) rfl rfl ?_
      refine oRun.goto 68 dX9_finds_157 rfl ?_
      cases h
      refine oRun.sub [1, 2, 0] rfl ?_
      exact hc _ rfl
set_option maxRecDepth 100000 in
set_option maxHeartbeats 4000000 in
theorem E_X9_finds {G : oG} {m : oM} {x1 : Int32} {w : oM} (h : F_X9_finds m x1 = some w) : oEv G M_X9_finds [.ref 51, .int x1] m none w := by
  unfold F_X9_finds at h
  refine ⟨?_, ?_⟩
  · show oRun G M_X9_finds 0 [(0, .ref 51), (1, .int x1)] [] m none w
    refine oRun.aload_n 1 dX9_finds_0 0 rfl rfl (Nat.le_of_ble_eq_true rfl) rfl ?_
    refine oRun.iconst 2 dX9_finds_1 oc_i0 rfl ?_
    obtain ⟨m2, hm2, h⟩ := oB1 h
    refine oRun.putI 5 dX9_finds_2 fp_RX9_182 rfl rfl rfl ?_
    refine oRun.nameM hm2 ?_
    refine oRun.aload_n 6 dX9_finds_5 0 rfl rfl (Nat.le_of_ble_eq_true rfl) rfl ?_
    refine oRun.getR 9 dX9_finds_6 fd_RX9_11 rfl rfl (Nat.le_of_ble_eq_true rfl) rfl ?_
    refine oRun.iconst 10 dX9_finds_9 oc_i1 rfl ?_
    refine oRun.iaload (x := m2.1 52 1) 11 dX9_finds_10 (Or.inr ⟨_, rfl⟩) (oAL_lit (i := 1) rfl) rfl ?_
    obtain ⟨x2_11, hx2_11, h⟩ := oB1 h
    refine oRun.nameI hx2_11 ?_
    refine oRun.istore_n 12 dX9_finds_11 rfl (Nat.le_of_ble_eq_true rfl) rfl rfl ?_
    obtain ⟨b12, hb12, h⟩ := oB1 h
    refine oRun.sub [1, 2, 0] rfl ?_
    refine E_X9_finds_L12 _ _ _ _ hb12 ?_
    refine oRun.aload_n 62 dX9_finds_61 0 rfl rfl (Nat.le_of_ble_eq_true rfl) rfl ?_
    refine oRun.getR 65 dX9_finds_62 fd_RX9_11 rfl rfl (Nat.le_of_ble_eq_true rfl) rfl ?_
    refine oRun.iconst 66 dX9_finds_65 oc_i1 rfl ?_
    refine oRun.iaload (x := b12.1 52 1) 67 dX9_finds_66 (Or.inr ⟨_, rfl⟩) (oAL_lit (i := 1) rfl) rfl ?_
    obtain ⟨x2_67, hx2_67, h⟩ := oB1 h
    refine oRun.nameI hx2_67 ?_
    refine oRun.istore_n 68 dX9_finds_67 rfl (Nat.le_of_ble_eq_true rfl) rfl rfl ?_
    obtain ⟨b68, hb68, h⟩ := oB1 h
    refine oRun.sub [1, 2, 0] rfl ?_
    refine E_X9_finds_L68 _ _ _ _ hb68 ?_
    rw [← Option.some.inj h]
    exact oRun.ret (r := none) dX9_finds_160
  · exact True.intro
set_option maxRecDepth 100000 in
set_option maxHeartbeats 4000000 in
theorem E_X9_found_J34 {G : oG} {m : oM} {x1 : Int32} {x2 : Int32} {w : Int32 × oM} (h : F_X9_found_J34 m x1 x2 = some w) : oRun G M_X9_found 34 [(0, .ref 51), (1, .int x1), (2, .int x2)] [] m (some (.int w.1)) w.2 := by
  unfold F_X9_found_J34 at h
  refine oRun.aload_n 35 dX9_found_34 0 rfl rfl (Nat.le_of_ble_eq_true rfl) rfl ?_
  refine oRun.iload_n 36 dX9_found_35 1 rfl rfl rfl ?_
  obtain ⟨r36, hr36, h⟩ := oB1 h
  refine oRun.callV (as := [.int x1]) 39 dX9_found_36 lk_RX9_213 (oFit_i (Nat.le_of_ble_eq_true rfl) (Nat.le_of_ble_eq_true rfl)) rfl rfl rfl rfl (Nat.le_of_ble_eq_true rfl) (Nat.le_of_ble_eq_true rfl) rfl (E_X9_finds hr36) rfl ?_
  show oRun G _ 39 _ [] _ _ _
  refine oRun.iload_n 40 dX9_found_39 2 rfl rfl rfl ?_
  by_cases c40_0 : x2 = 0
  · replace h := oIp c40_0 h
    refine oRun.tsin 108 dX9_found_40 (q := 0) (by rw [c40_0]; rfl) (by decide) (by decide) rfl rfl ?_
    refine oRun.aload_n 109 dX9_found_108 0 rfl rfl (Nat.le_of_ble_eq_true rfl) rfl ?_
    refine oRun.getI 112 dX9_found_109 fd_RX9_182 rfl rfl rfl ?_
    rw [← Option.some.inj h]
    exact oRun.ret (r := some (.int (r36.1 51 14))) dX9_found_112
  · replace h := oIn c40_0 h
    by_cases c40_1 : x2 = 1
    · replace h := oIp c40_1 h
      refine oRun.tsin 113 dX9_found_40 (q := 1) (by rw [c40_1]; rfl) (by decide) (by decide) rfl rfl ?_
      refine oRun.aload_n 114 dX9_found_113 0 rfl rfl (Nat.le_of_ble_eq_true rfl) rfl ?_
      refine oRun.getI 117 dX9_found_114 fd_RX9_192 rfl rfl rfl ?_
      rw [← Option.some.inj h]
      exact oRun.ret (r := some (.int (r36.1 51 15))) dX9_found_117
    · replace h := oIn c40_1 h
      by_cases c40_10 : x2 = 10
      · replace h := oIp c40_10 h
        refine oRun.tsin 118 dX9_found_40 (q := 10) (by rw [c40_10]; rfl) (by decide) (by decide) rfl rfl ?_
        refine oRun.aload_n 119 dX9_found_118 0 rfl rfl (Nat.le_of_ble_eq_true rfl) rfl ?_
        refine oRun.getI 122 dX9_found_119 fd_RX9_195 rfl rfl rfl ?_
        rw [← Option.some.inj h]
        exact oRun.ret (r := some (.int (r36.1 51 16))) dX9_found_122
      · replace h := oIn c40_10 h
        by_cases c40_11 : x2 = 11
        · replace h := oIp c40_11 h
          refine oRun.tsin 123 dX9_found_40 (q := 11) (by rw [c40_11]; rfl) (by decide) (by decide) rfl rfl ?_
          refine oRun.aload_n 124 dX9_found_123 0 rfl rfl (Nat.le_of_ble_eq_true rfl) rfl ?_
          refine oRun.getI 127 dX9_found_124 fd_RX9_201 rfl rfl rfl ?_
          rw [← Option.some.inj h]
          exact oRun.ret (r := some (.int (r36.1 51 18))) dX9_found_127
        · replace h := oIn c40_11 h
          by_cases c40_12 : x2 = 12
          · replace h := oIp c40_12 h
            refine oRun.tsin 128 dX9_found_40 (q := 12) (by rw [c40_12]; rfl) (by decide) (by decide) rfl rfl ?_
            refine oRun.aload_n 129 dX9_found_128 0 rfl rfl (Nat.le_of_ble_eq_true rfl) rfl ?_
            refine oRun.getI 132 dX9_found_129 fd_RX9_182 rfl rfl rfl ?_
            refine oRun.iconst 133 dX9_found_132 oc_i2 rfl ?_
            by_cases c133 : (r36.1 51 14) = 2
            · replace h := oIp c133 h
              refine oRun.icmp_ne_f 136 dX9_found_133 rfl c133 rfl ?_
              refine oRun.aload_n 137 dX9_found_136 0 rfl rfl (Nat.le_of_ble_eq_true rfl) rfl ?_
              refine oRun.getI 140 dX9_found_137 fd_RX9_198 rfl rfl rfl ?_
              refine oRun.goto 145 dX9_found_140 rfl ?_
              rw [← Option.some.inj h]
              exact oRun.ret (r := some (.int (r36.1 51 17))) dX9_found_145
            · replace h := oIn c133 h
              refine oRun.icmp_ne_t 143 dX9_found_133 c133 rfl ?_
              refine oRun.bipush 145 dX9_found_143 oc_bm5 rfl ?_
              rw [← Option.some.inj h]
              exact oRun.ret (r := some (.int (-5))) dX9_found_145
          · replace h := oIn c40_12 h
            have dk : oRun G M_X9_found 146 [(0, .ref 51), (1, .int x1), (2, .int x2)] [] r36 (some (.int w.1)) w.2 := by
              refine oRun.aload_n 147 dX9_found_146 0 rfl rfl (Nat.le_of_ble_eq_true rfl) rfl ?_
              refine oRun.getI 150 dX9_found_147 fd_RX9_182 rfl rfl rfl ?_
              refine oRun.iconst 151 dX9_found_150 oc_i2 rfl ?_
              by_cases c151 : (r36.1 51 14) = 2
              · replace h := oIp c151 h
                refine oRun.icmp_ne_f 154 dX9_found_151 rfl c151 rfl ?_
                refine oRun.aload_n 155 dX9_found_154 0 rfl rfl (Nat.le_of_ble_eq_true rfl) rfl ?_
                refine oRun.getI 158 dX9_found_155 fd_RX9_204 rfl rfl rfl ?_
                refine oRun.goto 163 dX9_found_158 rfl ?_
                rw [← Option.some.inj h]
                exact oRun.ret (r := some (.int (r36.1 51 19))) dX9_found_163
              · replace h := oIn c151 h
                refine oRun.icmp_ne_t 161 dX9_found_151 c151 rfl ?_
                refine oRun.bipush 163 dX9_found_161 oc_bm5 rfl ?_
                rw [← Option.some.inj h]
                exact oRun.ret (r := some (.int (-5))) dX9_found_163
            by_cases hl40 : x2.toInt < 0 ∨ 12 < x2.toInt
            · exact oRun.tsout 146 dX9_found_40 hl40 rfl dk
            · have hq : x2.toInt = 0 ∨ x2.toInt = 1 ∨ x2.toInt = 2 ∨ x2.toInt = 3 ∨ x2.toInt = 4 ∨ x2.toInt = 5 ∨ x2.toInt = 6 ∨ x2.toInt = 7 ∨ x2.toInt = 8 ∨ x2.toInt = 9 ∨ x2.toInt = 10 ∨ x2.toInt = 11 ∨ x2.toInt = 12 := by omega
              rcases hq with hq | hq | hq | hq | hq | hq | hq | hq | hq | hq | hq | hq | hq
              · exact absurd (oTs (k := 0) rfl hq) c40_0
              · exact absurd (oTs (k := 1) rfl hq) c40_1
              · exact oRun.tsin 146 dX9_found_40 (q := 2) hq (by decide) (by decide) rfl rfl dk
              · exact oRun.tsin 146 dX9_found_40 (q := 3) hq (by decide) (by decide) rfl rfl dk
              · exact oRun.tsin 146 dX9_found_40 (q := 4) hq (by decide) (by decide) rfl rfl dk
              · exact oRun.tsin 146 dX9_found_40 (q := 5) hq (by decide) (by decide) rfl rfl dk
              · exact oRun.tsin 146 dX9_found_40 (q := 6) hq (by decide) (by decide) rfl rfl dk
              · exact oRun.tsin 146 dX9_found_40 (q := 7) hq (by decide) (by decide) rfl rfl dk
              · exact oRun.tsin 146 dX9_found_40 (q := 8) hq (by decide) (by decide) rfl rfl dk
              · exact oRun.tsin 146 dX9_found_40 (q := 9) hq (by decide) (by decide) rfl rfl dk
              · exact absurd (oTs (k := 10) rfl hq) c40_10
              · exact absurd (oTs (k := 11) rfl hq) c40_11
              · exact absurd (oTs (k := 12) rfl hq) c40_12
set_option maxRecDepth 100000 in
set_option maxHeartbeats 4000000 in
theorem E_X9_found {G : oG} {m : oM} {x1 : Int32} {x2 : Int32} {w : Int32 × oM} (h : F_X9_found m x1 x2 = some w) : oEv G M_X9_found [.ref 51, .int x1, .int x2] m (some (.int w.1)) w.2 := by
  unfold F_X9_found at h
  refine ⟨?_, ?_⟩
  · show oRun G M_X9_found 0 [(0, .ref 51), (1, .int x1), (2, .int x2)] [] m (some (.int w.1)) w.2
    refine oRun.aload_n 1 dX9_found_0 0 rfl rfl (Nat.le_of_ble_eq_true rfl) rfl ?_
    refine oRun.iload_n 2 dX9_found_1 1 rfl rfl rfl ?_
    obtain ⟨r2, hr2, h⟩ := oB1 h
    refine oRun.callV (as := [.int x1]) 5 dX9_found_2 lk_RX9_62 (oFit_i (Nat.le_of_ble_eq_true rfl) (Nat.le_of_ble_eq_true rfl)) rfl rfl rfl rfl (Nat.le_of_ble_eq_true rfl) (Nat.le_of_ble_eq_true rfl) rfl (E_X9_isBody hr2) rfl ?_
    show oRun G _ 5 _ [.int r2] _ _ _
    by_cases c5 : r2 = 0
    · replace h := oIp c5 h
      refine oRun.if_eq_t 32 dX9_found_5 c5 rfl ?_
      refine oRun.iconst 33 dX9_found_32 oc_im1 rfl ?_
      rw [← Option.some.inj h]
      exact oRun.ret (r := some (.int (-1))) dX9_found_33
    · replace h := oIn c5 h
      refine oRun.if_eq_f 8 dX9_found_5 rfl c5 rfl ?_
      refine oRun.iload_n 9 dX9_found_8 2 rfl rfl rfl ?_
      refine oRun.i2l 10 dX9_found_9 rfl ?_
      refine oRun.lconst 11 dX9_found_10 oc_l0 rfl ?_
      refine oRun.lconst 12 dX9_found_11 oc_l1 rfl ?_
      obtain ⟨r12, hr12, h⟩ := oB1 h
      refine oRun.callS (as := [.long x2.toInt64, .long 0, .long 1]) 15 dX9_found_12 lk_RX9_44 (oFit_i (Nat.le_of_ble_eq_true rfl) (Nat.le_of_ble_eq_true rfl)) rfl (Nat.le_of_ble_eq_true rfl) (Nat.le_of_ble_eq_true rfl) rfl (E_X9_isIn hr12) rfl ?_
      show oRun G _ 15 _ [.int r12] _ _ _
      by_cases c15 : r12 = 0
      · replace h := oIp c15 h
        refine oRun.if_ne_f 18 dX9_found_15 rfl c15 rfl ?_
        refine oRun.iload_n 19 dX9_found_18 2 rfl rfl rfl ?_
        refine oRun.i2l 20 dX9_found_19 rfl ?_
        refine oRun.ldc2 23 dX9_found_20 wd_4_211 rfl ?_
        refine oRun.ldc2 26 dX9_found_23 wd_5_170 rfl ?_
        obtain ⟨r26, hr26, h⟩ := oB1 h
        refine oRun.callS (as := [.long x2.toInt64, .long 10, .long 13]) 29 dX9_found_26 lk_RX9_44 (oFit_i (Nat.le_of_ble_eq_true rfl) (Nat.le_of_ble_eq_true rfl)) rfl (Nat.le_of_ble_eq_true rfl) (Nat.le_of_ble_eq_true rfl) rfl (E_X9_isIn hr26) rfl ?_
        show oRun G _ 29 _ [.int r26] _ _ _
        by_cases c29 : r26 = 0
        · replace h := oIp c29 h
          refine oRun.if_ne_f 32 dX9_found_29 rfl c29 rfl ?_
          refine oRun.iconst 33 dX9_found_32 oc_im1 rfl ?_
          rw [← Option.some.inj h]
          exact oRun.ret (r := some (.int (-1))) dX9_found_33
        · replace h := oIn c29 h
          refine oRun.if_ne_t 34 dX9_found_29 c29 rfl ?_
          refine oRun.sub [0, 1, 2] rfl ?_
          exact E_X9_found_J34 h
      · replace h := oIn c15 h
        refine oRun.if_ne_t 34 dX9_found_15 c15 rfl ?_
        refine oRun.sub [0, 1, 2] rfl ?_
        exact E_X9_found_J34 h
  · exact True.intro
set_option maxRecDepth 100000 in
set_option maxHeartbeats 4000000 in
theorem E_X0_wrongAbove {G : oG} {m : oM} {w : Int64} (h : F_X0_wrongAbove m = some w) : oEv G M_X0_wrongAbove [.ref 50] m (some (.long w)) m := by
  unfold F_X0_wrongAbove at h
  refine ⟨?_, ?_⟩
  · show oRun G M_X0_wrongAbove 0 [(0, .ref 50)] [] m (some (.long w)) m
    refine oRun.aload_n 1 dX0_wrongAbove_0 0 rfl rfl (Nat.le_of_ble_eq_true rfl) rfl ?_
    refine oRun.getL 4 dX0_wrongAbove_1 fd_RX0_35 rfl rfl rfl ?_
    rw [← Option.some.inj h]
    exact oRun.ret (r := some (.long (m.2 50 8))) dX0_wrongAbove_4
  · exact True.intro
set_option maxRecDepth 100000 in
set_option maxHeartbeats 4000000 in
theorem E_X0_wrongBelow {G : oG} {m : oM} {w : Int64} (h : F_X0_wrongBelow m = some w) : oEv G M_X0_wrongBelow [.ref 50] m (some (.long w)) m := by
  unfold F_X0_wrongBelow at h
  refine ⟨?_, ?_⟩
  · show oRun G M_X0_wrongBelow 0 [(0, .ref 50)] [] m (some (.long w)) m
    refine oRun.aload_n 1 dX0_wrongBelow_0 0 rfl rfl (Nat.le_of_ble_eq_true rfl) rfl ?_
    refine oRun.getL 4 dX0_wrongBelow_1 fd_RX0_38 rfl rfl rfl ?_
    refine oRun.aload_n 5 dX0_wrongBelow_4 0 rfl rfl (Nat.le_of_ble_eq_true rfl) rfl ?_
    refine oRun.getL 8 dX0_wrongBelow_5 fd_RX0_13 rfl rfl rfl ?_
    refine oRun.lmul 9 dX0_wrongBelow_8 rfl ?_
    rw [← Option.some.inj h]
    exact oRun.ret (r := some (.long ((m.2 50 9) * (m.2 50 1)))) dX0_wrongBelow_9
  · exact True.intro
set_option maxRecDepth 100000 in
set_option maxHeartbeats 4000000 in
theorem E_X8_foundWrong {G : oG} {m : oM} {x1 : Int32} {x2 : Int32} {w : Int64 × oM} (h : F_X8_foundWrong m x1 x2 = some w) : oEv G M_X8_foundWrong [.ref 0, .int x1, .int x2] m (some (.long w.1)) w.2 := by
  unfold F_X8_foundWrong at h
  refine ⟨?_, ?_⟩
  · show oRun G M_X8_foundWrong 0 [(0, .ref 0), (1, .int x1), (2, .int x2)] [] m (some (.long w.1)) w.2
    refine oRun.aload_n 1 dX8_foundWrong_0 0 rfl rfl (Nat.le_of_ble_eq_true rfl) rfl ?_
    refine oRun.getR 4 dX8_foundWrong_1 fd_RX8_12 rfl rfl (Nat.le_of_ble_eq_true rfl) rfl ?_
    refine oRun.iload_n 5 dX8_foundWrong_4 1 rfl rfl rfl ?_
    obtain ⟨r5, hr5, h⟩ := oB1 h
    refine oRun.callV (as := [.int x1]) 8 dX8_foundWrong_5 lk_RX8_68 (oFit_i (Nat.le_of_ble_eq_true rfl) (Nat.le_of_ble_eq_true rfl)) rfl rfl rfl rfl (Nat.le_of_ble_eq_true rfl) (Nat.le_of_ble_eq_true rfl) rfl (E_X1_hasBody rfl hr5) rfl ?_
    show oRun G _ 8 _ [.int r5] _ _ _
    by_cases c8 : r5 = 0
    · replace h := oIp c8 h
      refine oRun.if_eq_t 18 dX8_foundWrong_8 c8 rfl ?_
      refine oRun.ldc2 21 dX8_foundWrong_18 wd_2_48 rfl ?_
      rw [← Option.some.inj h]
      exact oRun.ret (r := some (.long (-9223372036854775808))) dX8_foundWrong_21
    · replace h := oIn c8 h
      refine oRun.if_eq_f 11 dX8_foundWrong_8 rfl c8 rfl ?_
      refine oRun.iload_n 12 dX8_foundWrong_11 2 rfl rfl rfl ?_
      obtain ⟨r12, hr12, h⟩ := oB1 h
      refine oRun.callS (as := [.int x2]) 15 dX8_foundWrong_12 lk_RX8_83 (oFit_i (Nat.le_of_ble_eq_true rfl) (Nat.le_of_ble_eq_true rfl)) rfl (Nat.le_of_ble_eq_true rfl) (Nat.le_of_ble_eq_true rfl) rfl (E_X8_isPart hr12) rfl ?_
      show oRun G _ 15 _ [.int r12] _ _ _
      by_cases c15 : r12 = 0
      · replace h := oIp c15 h
        refine oRun.if_ne_f 18 dX8_foundWrong_15 rfl c15 rfl ?_
        refine oRun.ldc2 21 dX8_foundWrong_18 wd_2_48 rfl ?_
        rw [← Option.some.inj h]
        exact oRun.ret (r := some (.long (-9223372036854775808))) dX8_foundWrong_21
      · replace h := oIn c15 h
        refine oRun.if_ne_t 22 dX8_foundWrong_15 c15 rfl ?_
        refine oRun.aload_n 23 dX8_foundWrong_22 0 rfl rfl (Nat.le_of_ble_eq_true rfl) rfl ?_
        refine oRun.getR 26 dX8_foundWrong_23 fd_RX8_52 rfl rfl (Nat.le_of_ble_eq_true rfl) rfl ?_
        refine oRun.aload_n 27 dX8_foundWrong_26 0 rfl rfl (Nat.le_of_ble_eq_true rfl) rfl ?_
        refine oRun.getR 30 dX8_foundWrong_27 fd_RX8_12 rfl rfl (Nat.le_of_ble_eq_true rfl) rfl ?_
        refine oRun.getR 33 dX8_foundWrong_30 fd_RX8_72 rfl rfl (Nat.le_of_ble_eq_true rfl) rfl ?_
        refine oRun.iload_n 34 dX8_foundWrong_33 1 rfl rfl rfl ?_
        obtain ⟨r34, hr34, h⟩ := oB1 h
        refine oRun.callS (as := [.ref 2, .int x1]) 37 dX8_foundWrong_34 lk_RX8_76 (oFit_i (Nat.le_of_ble_eq_true rfl) (Nat.le_of_ble_eq_true rfl)) rfl (Nat.le_of_ble_eq_true rfl) (Nat.le_of_ble_eq_true rfl) rfl (E_X8_at (Or.inr ⟨_, rfl⟩) hr34) rfl ?_
        show oRun G _ 37 _ [.int r34, .ref 50] _ _ _
        refine oRun.aload_n 38 dX8_foundWrong_37 0 rfl rfl (Nat.le_of_ble_eq_true rfl) rfl ?_
        refine oRun.getR 41 dX8_foundWrong_38 fd_RX8_12 rfl rfl (Nat.le_of_ble_eq_true rfl) rfl ?_
        refine oRun.getR 44 dX8_foundWrong_41 fd_RX8_80 rfl rfl (Nat.le_of_ble_eq_true rfl) rfl ?_
        refine oRun.iload_n 45 dX8_foundWrong_44 1 rfl rfl rfl ?_
        obtain ⟨r45, hr45, h⟩ := oB1 h
        refine oRun.callS (as := [.ref 3, .int x1]) 48 dX8_foundWrong_45 lk_RX8_76 (oFit_i (Nat.le_of_ble_eq_true rfl) (Nat.le_of_ble_eq_true rfl)) rfl (Nat.le_of_ble_eq_true rfl) (Nat.le_of_ble_eq_true rfl) rfl (E_X8_at (Or.inr ⟨_, rfl⟩) hr45) rfl ?_
        show oRun G _ 48 _ [.int r45, .int r34, .ref 50] _ _ _
        refine oRun.aload_n 49 dX8_foundWrong_48 0 rfl rfl (Nat.le_of_ble_eq_true rfl) rfl ?_
        refine oRun.getR 52 dX8_foundWrong_49 fd_RX8_12 rfl rfl (Nat.le_of_ble_eq_true rfl) rfl ?_
        refine oRun.getI 55 dX8_foundWrong_52 fd_RX8_105 rfl rfl rfl ?_
        refine oRun.aload_n 56 dX8_foundWrong_55 0 rfl rfl (Nat.le_of_ble_eq_true rfl) rfl ?_
        refine oRun.getR 59 dX8_foundWrong_56 fd_RX8_12 rfl rfl (Nat.le_of_ble_eq_true rfl) rfl ?_
        refine oRun.getI 62 dX8_foundWrong_59 fd_RX8_108 rfl rfl rfl ?_
        obtain ⟨r62, hr62, h⟩ := oB1 h
        refine oRun.callV (as := [.int r34, .int r45, .int (m.1 1 3), .int (m.1 1 4)]) 65 dX8_foundWrong_62 lk_RX8_238 (oFit_i (Nat.le_of_ble_eq_true rfl) (Nat.le_of_ble_eq_true rfl)) rfl rfl rfl rfl (Nat.le_of_ble_eq_true rfl) (Nat.le_of_ble_eq_true rfl) rfl (E_X0_seek hr62) rfl ?_
        show oRun G _ 65 _ [] _ _ _
        refine oRun.aload_n 66 dX8_foundWrong_65 0 rfl rfl (Nat.le_of_ble_eq_true rfl) rfl ?_
        refine oRun.getR 69 dX8_foundWrong_66 fd_RX8_52 rfl rfl (Nat.le_of_ble_eq_true rfl) rfl ?_
        obtain ⟨r69, hr69, h⟩ := oB1 h
        refine oRun.callV (as := []) 72 dX8_foundWrong_69 lk_RX8_252 (oFit_i (Nat.le_of_ble_eq_true rfl) (Nat.le_of_ble_eq_true rfl)) rfl rfl rfl rfl (Nat.le_of_ble_eq_true rfl) (Nat.le_of_ble_eq_true rfl) rfl (E_X0_wrongAbove hr69) rfl ?_
        show oRun G _ 72 _ [.long r69] _ _ _
        refine oRun.aload_n 73 dX8_foundWrong_72 0 rfl rfl (Nat.le_of_ble_eq_true rfl) rfl ?_
        refine oRun.getR 76 dX8_foundWrong_73 fd_RX8_52 rfl rfl (Nat.le_of_ble_eq_true rfl) rfl ?_
        obtain ⟨r76, hr76, h⟩ := oB1 h
        refine oRun.callV (as := []) 79 dX8_foundWrong_76 lk_RX8_255 (oFit_i (Nat.le_of_ble_eq_true rfl) (Nat.le_of_ble_eq_true rfl)) rfl rfl rfl rfl (Nat.le_of_ble_eq_true rfl) (Nat.le_of_ble_eq_true rfl) rfl (E_X0_wrongBelow hr76) rfl ?_
        show oRun G _ 79 _ [.long r76, .long r69] _ _ _
        refine oRun.iload_n 80 dX8_foundWrong_79 2 rfl rfl rfl ?_
        obtain ⟨r80, hr80, h⟩ := oB1 h
        refine oRun.callS (as := [.long r69, .long r76, .int x2]) 83 dX8_foundWrong_80 lk_RX8_88 (oFit_i (Nat.le_of_ble_eq_true rfl) (Nat.le_of_ble_eq_true rfl)) rfl (Nat.le_of_ble_eq_true rfl) (Nat.le_of_ble_eq_true rfl) rfl (E_X8_lowest hr80) rfl ?_
        show oRun G _ 83 _ [.long r80] _ _ _
        rw [← Option.some.inj h]
        exact oRun.ret (r := some (.long r80)) dX8_foundWrong_83
  · exact True.intro
set_option maxRecDepth 100000 in
set_option maxHeartbeats 4000000 in
theorem E_X9_foundWrong {G : oG} {m : oM} {x1 : Int32} {x2 : Int32} {w : Int64 × oM} (h : F_X9_foundWrong m x1 x2 = some w) : oEv G M_X9_foundWrong [.ref 51, .int x1, .int x2] m (some (.long w.1)) w.2 := by
  unfold F_X9_foundWrong at h
  refine ⟨?_, ?_⟩
  · show oRun G M_X9_foundWrong 0 [(0, .ref 51), (1, .int x1), (2, .int x2)] [] m (some (.long w.1)) w.2
    refine oRun.aload_n 1 dX9_foundWrong_0 0 rfl rfl (Nat.le_of_ble_eq_true rfl) rfl ?_
    refine oRun.iload_n 2 dX9_foundWrong_1 1 rfl rfl rfl ?_
    obtain ⟨r2, hr2, h⟩ := oB1 h
    refine oRun.callV (as := [.int x1]) 5 dX9_foundWrong_2 lk_RX9_62 (oFit_i (Nat.le_of_ble_eq_true rfl) (Nat.le_of_ble_eq_true rfl)) rfl rfl rfl rfl (Nat.le_of_ble_eq_true rfl) (Nat.le_of_ble_eq_true rfl) rfl (E_X9_isBody hr2) rfl ?_
    show oRun G _ 5 _ [.int r2] _ _ _
    by_cases c5 : r2 = 0
    · replace h := oIp c5 h
      refine oRun.if_eq_t 15 dX9_foundWrong_5 c5 rfl ?_
      refine oRun.ldc2 18 dX9_foundWrong_15 wd_4_201 rfl ?_
      rw [← Option.some.inj h]
      exact oRun.ret (r := some (.long (-9223372036854775808))) dX9_foundWrong_18
    · replace h := oIn c5 h
      refine oRun.if_eq_f 8 dX9_foundWrong_5 rfl c5 rfl ?_
      refine oRun.iload_n 9 dX9_foundWrong_8 2 rfl rfl rfl ?_
      obtain ⟨r9, hr9, h⟩ := oB1 h
      refine oRun.callS (as := [.int x2]) 12 dX9_foundWrong_9 lk_RX9_70 (oFit_i (Nat.le_of_ble_eq_true rfl) (Nat.le_of_ble_eq_true rfl)) rfl (Nat.le_of_ble_eq_true rfl) (Nat.le_of_ble_eq_true rfl) rfl (E_X9_isPart hr9) rfl ?_
      show oRun G _ 12 _ [.int r9] _ _ _
      by_cases c12 : r9 = 0
      · replace h := oIp c12 h
        refine oRun.if_ne_f 15 dX9_foundWrong_12 rfl c12 rfl ?_
        refine oRun.ldc2 18 dX9_foundWrong_15 wd_4_201 rfl ?_
        rw [← Option.some.inj h]
        exact oRun.ret (r := some (.long (-9223372036854775808))) dX9_foundWrong_18
      · replace h := oIn c12 h
        refine oRun.if_ne_t 19 dX9_foundWrong_12 c12 rfl ?_
        refine oRun.aload_n 20 dX9_foundWrong_19 0 rfl rfl (Nat.le_of_ble_eq_true rfl) rfl ?_
        refine oRun.iload_n 21 dX9_foundWrong_20 1 rfl rfl rfl ?_
        obtain ⟨r21, hr21, h⟩ := oB1 h
        refine oRun.callV (as := [.int x1]) 24 dX9_foundWrong_21 lk_RX9_213 (oFit_i (Nat.le_of_ble_eq_true rfl) (Nat.le_of_ble_eq_true rfl)) rfl rfl rfl rfl (Nat.le_of_ble_eq_true rfl) (Nat.le_of_ble_eq_true rfl) rfl (E_X9_finds hr21) rfl ?_
        show oRun G _ 24 _ [] _ _ _
        refine oRun.aload_n 25 dX9_foundWrong_24 0 rfl rfl (Nat.le_of_ble_eq_true rfl) rfl ?_
        refine oRun.getI 28 dX9_foundWrong_25 fd_RX9_195 rfl rfl rfl ?_
        refine oRun.i2l 29 dX9_foundWrong_28 rfl ?_
        refine oRun.aload_n 30 dX9_foundWrong_29 0 rfl rfl (Nat.le_of_ble_eq_true rfl) rfl ?_
        refine oRun.getI 33 dX9_foundWrong_30 fd_RX9_198 rfl rfl rfl ?_
        refine oRun.i2l 34 dX9_foundWrong_33 rfl ?_
        refine oRun.lmul 35 dX9_foundWrong_34 rfl ?_
        obtain ⟨x3_35, hx3_35, h⟩ := oB1 h
        refine oRun.nameJ hx3_35 ?_
        refine oRun.lstore_n 36 dX9_foundWrong_35 rfl (Nat.le_of_ble_eq_true rfl) rfl rfl ?_
        refine oRun.aload_n 37 dX9_foundWrong_36 1 rfl rfl (Nat.le_of_ble_eq_true rfl) rfl ?_
        refine oRun.getI 40 dX9_foundWrong_37 fd_RX9_201 rfl rfl rfl ?_
        refine oRun.i2l 41 dX9_foundWrong_40 rfl ?_
        refine oRun.aload_n 42 dX9_foundWrong_41 1 rfl rfl (Nat.le_of_ble_eq_true rfl) rfl ?_
        refine oRun.getI 45 dX9_foundWrong_42 fd_RX9_204 rfl rfl rfl ?_
        refine oRun.i2l 46 dX9_foundWrong_45 rfl ?_
        refine oRun.lmul 47 dX9_foundWrong_46 rfl ?_
        obtain ⟨x5_47, hx5_47, h⟩ := oB1 h
        refine oRun.nameJ hx5_47 ?_
        refine oRun.lstore 49 dX9_foundWrong_47 (Nat.le_of_ble_eq_true rfl) rfl rfl ?_
        refine oRun.aload_n 50 dX9_foundWrong_49 2 rfl rfl (Nat.le_of_ble_eq_true rfl) rfl ?_
        refine oRun.iload_n 51 dX9_foundWrong_50 3 rfl rfl rfl ?_
        refine oRun.lload_n 52 dX9_foundWrong_51 1 rfl rfl rfl ?_
        refine oRun.lload 54 dX9_foundWrong_52 0 rfl rfl ?_
        obtain ⟨r54, hr54, h⟩ := oB1 h
        refine oRun.callV (as := [.int x1, .long x3_35, .long x5_47]) 57 dX9_foundWrong_54 lk_RX9_164 (oFit_i (Nat.le_of_ble_eq_true rfl) (Nat.le_of_ble_eq_true rfl)) rfl rfl rfl rfl (Nat.le_of_ble_eq_true rfl) (Nat.le_of_ble_eq_true rfl) rfl (E_X9_off hr54) rfl ?_
        show oRun G _ 57 _ [.long r54] _ _ _
        refine oRun.lload 59 dX9_foundWrong_57 0 rfl rfl ?_
        refine oRun.aload_n 60 dX9_foundWrong_59 2 rfl rfl (Nat.le_of_ble_eq_true rfl) rfl ?_
        refine oRun.getR 63 dX9_foundWrong_60 fd_RX9_11 rfl rfl (Nat.le_of_ble_eq_true rfl) rfl ?_
        refine oRun.bipush 65 dX9_foundWrong_63 oc_b13 rfl ?_
        refine oRun.iload_n 66 dX9_foundWrong_65 3 rfl rfl rfl ?_
        refine oRun.iadd 67 dX9_foundWrong_66 rfl ?_
        obtain ⟨v67, hv67, h⟩ := oB1 h
        refine oRun.iaload 68 dX9_foundWrong_67 (Or.inr ⟨_, rfl⟩) hv67 rfl ?_
        refine oRun.i2l 69 dX9_foundWrong_68 rfl ?_
        refine oRun.lmul 70 dX9_foundWrong_69 rfl ?_
        refine oRun.iload_n 71 dX9_foundWrong_70 4 rfl rfl rfl ?_
        obtain ⟨r71, hr71, h⟩ := oB1 h
        refine oRun.callS (as := [.long r54, .long (x5_47 * v67.toInt64), .int x2]) 74 dX9_foundWrong_71 lk_RX9_50 (oFit_i (Nat.le_of_ble_eq_true rfl) (Nat.le_of_ble_eq_true rfl)) rfl (Nat.le_of_ble_eq_true rfl) (Nat.le_of_ble_eq_true rfl) rfl (E_X9_told hr71) rfl ?_
        show oRun G _ 74 _ [.long r71] _ _ _
        rw [← Option.some.inj h]
        exact oRun.ret (r := some (.long r71)) dX9_foundWrong_74
  · exact True.intro
set_option maxRecDepth 100000 in
set_option maxHeartbeats 4000000 in
theorem E_X8_isCranked {G : oG} {m : oM} {x0 : Int32} {w : Int32} (h : F_X8_isCranked x0 = some w) : oEv G M_X8_isCranked [.int x0] m (some (.int w)) m := by
  unfold F_X8_isCranked at h
  refine ⟨?_, ?_⟩
  · show oRun G M_X8_isCranked 0 [(0, .int x0)] [] m (some (.int w)) m
    refine oRun.iload_n 1 dX8_isCranked_0 0 rfl rfl rfl ?_
    refine oRun.bipush 3 dX8_isCranked_1 oc_bm99 rfl ?_
    by_cases c3 : x0 < (-99)
    · replace h := oIp c3 h
      refine oRun.icmp_lt_t 20 dX8_isCranked_3 c3 rfl ?_
      refine oRun.iconst 21 dX8_isCranked_20 oc_i0 rfl ?_
      rw [← Option.some.inj h]
      exact oRun.ret (r := some (.int 0)) dX8_isCranked_21
    · replace h := oIn c3 h
      refine oRun.icmp_lt_f 6 dX8_isCranked_3 rfl c3 rfl ?_
      refine oRun.iload_n 7 dX8_isCranked_6 0 rfl rfl rfl ?_
      refine oRun.bipush 9 dX8_isCranked_7 oc_b99 rfl ?_
      by_cases c9 : 99 < x0
      · replace h := oIp c9 h
        refine oRun.icmp_gt_t 20 dX8_isCranked_9 c9 rfl ?_
        refine oRun.iconst 21 dX8_isCranked_20 oc_i0 rfl ?_
        rw [← Option.some.inj h]
        exact oRun.ret (r := some (.int 0)) dX8_isCranked_21
      · replace h := oIn c9 h
        refine oRun.icmp_gt_f 12 dX8_isCranked_9 rfl c9 rfl ?_
        refine oRun.iload_n 13 dX8_isCranked_12 0 rfl rfl rfl ?_
        by_cases c13 : x0 = 0
        · replace h := oIp c13 h
          refine oRun.if_eq_t 20 dX8_isCranked_13 c13 rfl ?_
          refine oRun.iconst 21 dX8_isCranked_20 oc_i0 rfl ?_
          rw [← Option.some.inj h]
          exact oRun.ret (r := some (.int 0)) dX8_isCranked_21
        · replace h := oIn c13 h
          refine oRun.if_eq_f 16 dX8_isCranked_13 rfl c13 rfl ?_
          refine oRun.iconst 17 dX8_isCranked_16 oc_i1 rfl ?_
          refine oRun.goto 21 dX8_isCranked_17 rfl ?_
          rw [← Option.some.inj h]
          exact oRun.ret (r := some (.int 1)) dX8_isCranked_21
  · show oROK (some .boolean) (some (.int w))
    by_cases c3 : x0 < (-99)
    · replace h := oIp c3 h
      rw [← Option.some.inj h]
      exact Or.inl rfl
    · replace h := oIn c3 h
      by_cases c9 : 99 < x0
      · replace h := oIp c9 h
        rw [← Option.some.inj h]
        exact Or.inl rfl
      · replace h := oIn c9 h
        by_cases c13 : x0 = 0
        · replace h := oIp c13 h
          rw [← Option.some.inj h]
          exact Or.inl rfl
        · replace h := oIn c13 h
          rw [← Option.some.inj h]
          exact Or.inr rfl
set_option maxRecDepth 100000 in
set_option maxHeartbeats 4000000 in
theorem E_X1_crankBy {G : oG} {o : Nat} (ho : oOb o = true) {m : oM} {x1 : Int32} {w : oM} (h : F_X1_crankBy o m x1 = some w) : oEv G M_X1_crankBy [.ref o, .int x1] m none w := by
  unfold F_X1_crankBy at h
  refine ⟨?_, ?_⟩
  · show oRun G M_X1_crankBy 0 [(0, .ref o), (1, .int x1)] [] m none w
    refine oRun.aload_n 1 dX1_crankBy_0 0 rfl rfl (oLt66 (oO_lt ho)) rfl ?_
    refine oRun.sipush 4 dX1_crankBy_1 oc_sm9999 rfl ?_
    refine oRun.sipush 7 dX1_crankBy_4 oc_s9999 rfl ?_
    refine oRun.aload_n 8 dX1_crankBy_7 0 rfl rfl (oLt66 (oO_lt ho)) rfl ?_
    refine oRun.getI 11 dX1_crankBy_8 fd_RX1_42 (oO_sh ho) rfl rfl ?_
    refine oRun.iload_n 12 dX1_crankBy_11 1 rfl rfl rfl ?_
    refine oRun.iadd 13 dX1_crankBy_12 rfl ?_
    obtain ⟨r13, hr13, h⟩ := oB1 h
    refine oRun.callS (as := [.int 9999, .int ((m.1 o 7) + x1)]) 16 dX1_crankBy_13 lk_RX1_129 (oFit_i (Nat.le_of_ble_eq_true rfl) (Nat.le_of_ble_eq_true rfl)) rfl (Nat.le_of_ble_eq_true rfl) (Nat.le_of_ble_eq_true rfl) rfl (E_J9_min_7cf53 hr13) rfl ?_
    show oRun G _ 16 _ [.int r13, .int (-9999), .ref o] _ _ _
    obtain ⟨r16, hr16, h⟩ := oB1 h
    refine oRun.callS (as := [.int (-9999), .int r13]) 19 dX1_crankBy_16 lk_RX1_134 (oFit_i (Nat.le_of_ble_eq_true rfl) (Nat.le_of_ble_eq_true rfl)) rfl (Nat.le_of_ble_eq_true rfl) (Nat.le_of_ble_eq_true rfl) rfl (E_J9_max_7cf53 hr16) rfl ?_
    show oRun G _ 19 _ [.int r16, .ref o] _ _ _
    obtain ⟨m19, hm19, h⟩ := oB1 h
    refine oRun.putI 22 dX1_crankBy_19 fp_RX1_42 (oO_sh ho) rfl rfl ?_
    refine oRun.nameM hm19 ?_
    refine oRun.aload_n 23 dX1_crankBy_22 0 rfl rfl (oLt66 (oO_lt ho)) rfl ?_
    refine oRun.iload_n 24 dX1_crankBy_23 1 rfl rfl rfl ?_
    by_cases c24 : 0 ≤ x1
    · replace h := oIp c24 h
      refine oRun.if_ge_t 31 dX1_crankBy_24 c24 rfl ?_
      refine oRun.iconst 32 dX1_crankBy_31 oc_i0 rfl ?_
      obtain ⟨m32, hm32, h⟩ := oB1 h
      refine oRun.putZ 35 dX1_crankBy_32 fp_RX1_45 (oO_sh ho) rfl (by decide) rfl ?_
      refine oRun.nameM hm32 ?_
      rw [← Option.some.inj h]
      exact oRun.ret (r := none) dX1_crankBy_35
    · replace h := oIn c24 h
      refine oRun.if_ge_f 27 dX1_crankBy_24 rfl c24 rfl ?_
      refine oRun.iconst 28 dX1_crankBy_27 oc_i1 rfl ?_
      refine oRun.goto 32 dX1_crankBy_28 rfl ?_
      obtain ⟨m32, hm32, h⟩ := oB1 h
      refine oRun.putZ 35 dX1_crankBy_32 fp_RX1_45 (oO_sh ho) rfl (by decide) rfl ?_
      refine oRun.nameM hm32 ?_
      rw [← Option.some.inj h]
      exact oRun.ret (r := none) dX1_crankBy_35
  · exact True.intro
set_option maxRecDepth 100000 in
set_option maxHeartbeats 4000000 in
theorem E_X8_turn {G : oG} {m : oM} {x1 : Int32} {w : Int32 × oM} (h : F_X8_turn m x1 = some w) : oEv G M_X8_turn [.ref 0, .int x1] m (some (.int w.1)) w.2 := by
  unfold F_X8_turn at h
  refine ⟨?_, ?_⟩
  · show oRun G M_X8_turn 0 [(0, .ref 0), (1, .int x1)] [] m (some (.int w.1)) w.2
    refine oRun.iload_n 1 dX8_turn_0 1 rfl rfl rfl ?_
    obtain ⟨r1, hr1, h⟩ := oB1 h
    refine oRun.callS (as := [.int x1]) 4 dX8_turn_1 lk_RX8_257 (oFit_i (Nat.le_of_ble_eq_true rfl) (Nat.le_of_ble_eq_true rfl)) rfl (Nat.le_of_ble_eq_true rfl) (Nat.le_of_ble_eq_true rfl) rfl (E_X8_isCranked hr1) rfl ?_
    show oRun G _ 4 _ [.int r1] _ _ _
    by_cases c4 : r1 = 0
    · replace h := oIp c4 h
      refine oRun.if_ne_f 7 dX8_turn_4 rfl c4 rfl ?_
      refine oRun.bipush 9 dX8_turn_7 oc_bm2 rfl ?_
      rw [← Option.some.inj h]
      exact oRun.ret (r := some (.int (-2))) dX8_turn_9
    · replace h := oIn c4 h
      refine oRun.if_ne_t 10 dX8_turn_4 c4 rfl ?_
      refine oRun.aload_n 11 dX8_turn_10 0 rfl rfl (Nat.le_of_ble_eq_true rfl) rfl ?_
      refine oRun.getR 14 dX8_turn_11 fd_RX8_12 rfl rfl (Nat.le_of_ble_eq_true rfl) rfl ?_
      refine oRun.getI 17 dX8_turn_14 fd_RX8_260 rfl rfl rfl ?_
      refine oRun.iload_n 18 dX8_turn_17 1 rfl rfl rfl ?_
      refine oRun.iadd 19 dX8_turn_18 rfl ?_
      refine oRun.sipush 22 dX8_turn_19 oc_sm9999 rfl ?_
      by_cases c22 : ((m.1 1 7) + x1) < (-9999)
      · replace h := oIp c22 h
        refine oRun.icmp_lt_t 40 dX8_turn_22 c22 rfl ?_
        refine oRun.bipush 42 dX8_turn_40 oc_bm3 rfl ?_
        rw [← Option.some.inj h]
        exact oRun.ret (r := some (.int (-3))) dX8_turn_42
      · replace h := oIn c22 h
        refine oRun.icmp_lt_f 25 dX8_turn_22 rfl c22 rfl ?_
        refine oRun.aload_n 26 dX8_turn_25 0 rfl rfl (Nat.le_of_ble_eq_true rfl) rfl ?_
        refine oRun.getR 29 dX8_turn_26 fd_RX8_12 rfl rfl (Nat.le_of_ble_eq_true rfl) rfl ?_
        refine oRun.getI 32 dX8_turn_29 fd_RX8_260 rfl rfl rfl ?_
        refine oRun.iload_n 33 dX8_turn_32 1 rfl rfl rfl ?_
        refine oRun.iadd 34 dX8_turn_33 rfl ?_
        refine oRun.sipush 37 dX8_turn_34 oc_s9999 rfl ?_
        by_cases c37 : ((m.1 1 7) + x1) ≤ 9999
        · replace h := oIp c37 h
          refine oRun.icmp_le_t 43 dX8_turn_37 c37 rfl ?_
          refine oRun.aload_n 44 dX8_turn_43 0 rfl rfl (Nat.le_of_ble_eq_true rfl) rfl ?_
          refine oRun.getR 47 dX8_turn_44 fd_RX8_12 rfl rfl (Nat.le_of_ble_eq_true rfl) rfl ?_
          refine oRun.iload_n 48 dX8_turn_47 1 rfl rfl rfl ?_
          obtain ⟨r48, hr48, h⟩ := oB1 h
          refine oRun.callV (as := [.int x1]) 51 dX8_turn_48 lk_RX8_263 (oFit_i (Nat.le_of_ble_eq_true rfl) (Nat.le_of_ble_eq_true rfl)) rfl rfl rfl rfl (Nat.le_of_ble_eq_true rfl) (Nat.le_of_ble_eq_true rfl) rfl (E_X1_crankBy rfl hr48) rfl ?_
          show oRun G _ 51 _ [] _ _ _
          refine oRun.aload_n 52 dX8_turn_51 0 rfl rfl (Nat.le_of_ble_eq_true rfl) rfl ?_
          refine oRun.getR 55 dX8_turn_52 fd_RX8_12 rfl rfl (Nat.le_of_ble_eq_true rfl) rfl ?_
          refine oRun.getI 58 dX8_turn_55 fd_RX8_260 rfl rfl rfl ?_
          refine oRun.sipush 61 dX8_turn_58 oc_s10000 rfl ?_
          refine oRun.iadd 62 dX8_turn_61 rfl ?_
          rw [← Option.some.inj h]
          exact oRun.ret (r := some (.int ((r48.1 1 7) + 10000))) dX8_turn_62
        · replace h := oIn c37 h
          refine oRun.icmp_le_f 40 dX8_turn_37 rfl c37 rfl ?_
          refine oRun.bipush 42 dX8_turn_40 oc_bm3 rfl ?_
          rw [← Option.some.inj h]
          exact oRun.ret (r := some (.int (-3))) dX8_turn_42
  · exact True.intro
set_option maxRecDepth 100000 in
set_option maxHeartbeats 4000000 in
theorem E_X9_goes {G : oG} {m : oM} {x1 : Int32} {w : oM} (h : F_X9_goes m x1 = some w) : oEv G M_X9_goes [.ref 51, .int x1] m none w := by
  unfold F_X9_goes at h
  refine ⟨?_, ?_⟩
  · show oRun G M_X9_goes 0 [(0, .ref 51), (1, .int x1)] [] m none w
    refine oRun.aload_n 1 dX9_goes_0 0 rfl rfl (Nat.le_of_ble_eq_true rfl) rfl ?_
    refine oRun.getR 4 dX9_goes_1 fd_RX9_11 rfl rfl (Nat.le_of_ble_eq_true rfl) rfl ?_
    refine oRun.iconst 5 dX9_goes_4 oc_i4 rfl ?_
    refine oRun.iaload (x := m.1 52 4) 6 dX9_goes_5 (Or.inr ⟨_, rfl⟩) (oAL_lit (i := 4) rfl) rfl ?_
    refine oRun.iload_n 7 dX9_goes_6 1 rfl rfl rfl ?_
    refine oRun.iadd 8 dX9_goes_7 rfl ?_
    obtain ⟨x2_8, hx2_8, h⟩ := oB1 h
    refine oRun.nameI hx2_8 ?_
    refine oRun.istore_n 9 dX9_goes_8 rfl (Nat.le_of_ble_eq_true rfl) rfl rfl ?_
    refine oRun.aload_n 10 dX9_goes_9 1 rfl rfl (Nat.le_of_ble_eq_true rfl) rfl ?_
    refine oRun.getR 13 dX9_goes_10 fd_RX9_11 rfl rfl (Nat.le_of_ble_eq_true rfl) rfl ?_
    refine oRun.iconst 14 dX9_goes_13 oc_i4 rfl ?_
    refine oRun.iload_n 15 dX9_goes_14 0 rfl rfl rfl ?_
    refine oRun.sipush 18 dX9_goes_15 oc_s9999 rfl ?_
    by_cases c18 : x2_8 ≤ 9999
    · replace h := oIp c18 h
      refine oRun.icmp_le_t 27 dX9_goes_18 c18 rfl ?_
      refine oRun.iload_n 28 dX9_goes_27 0 rfl rfl rfl ?_
      refine oRun.sipush 31 dX9_goes_28 oc_sm9999 rfl ?_
      by_cases c31 : (-9999) ≤ x2_8
      · replace h := oIp c31 h
        refine oRun.icmp_ge_t 40 dX9_goes_31 c31 rfl ?_
        refine oRun.iload_n 41 dX9_goes_40 0 rfl rfl rfl ?_
        obtain ⟨m41, hm41, h⟩ := oB1 h
        refine oRun.iastore 42 dX9_goes_41 rfl (oAS_lit (i := 4) rfl hm41) rfl ?_
        refine oRun.aload_n 43 dX9_goes_42 1 rfl rfl (Nat.le_of_ble_eq_true rfl) rfl ?_
        refine oRun.getR 46 dX9_goes_43 fd_RX9_11 rfl rfl (Nat.le_of_ble_eq_true rfl) rfl ?_
        refine oRun.iconst 47 dX9_goes_46 oc_i5 rfl ?_
        refine oRun.iload_n 48 dX9_goes_47 2 rfl rfl rfl ?_
        by_cases c48 : 0 ≤ x1
        · replace h := oIp c48 h
          refine oRun.if_ge_t 55 dX9_goes_48 c48 rfl ?_
          refine oRun.iconst 56 dX9_goes_55 oc_i0 rfl ?_
          obtain ⟨m56, hm56, h⟩ := oB1 h
          refine oRun.iastore 57 dX9_goes_56 rfl (oAS_lit (i := 5) rfl hm56) rfl ?_
          rw [← Option.some.inj h]
          exact oRun.ret (r := none) dX9_goes_57
        · replace h := oIn c48 h
          refine oRun.if_ge_f 51 dX9_goes_48 rfl c48 rfl ?_
          refine oRun.iconst 52 dX9_goes_51 oc_i1 rfl ?_
          refine oRun.goto 56 dX9_goes_52 rfl ?_
          obtain ⟨m56, hm56, h⟩ := oB1 h
          refine oRun.iastore 57 dX9_goes_56 rfl (oAS_lit (i := 5) rfl hm56) rfl ?_
          rw [← Option.some.inj h]
          exact oRun.ret (r := none) dX9_goes_57
      · replace h := oIn c31 h
        refine oRun.icmp_ge_f 34 dX9_goes_31 rfl c31 rfl ?_
        refine oRun.sipush 37 dX9_goes_34 oc_sm9999 rfl ?_
        refine oRun.goto 41 dX9_goes_37 rfl ?_
        obtain ⟨m41, hm41, h⟩ := oB1 h
        refine oRun.iastore 42 dX9_goes_41 rfl (oAS_lit (i := 4) rfl hm41) rfl ?_
        refine oRun.aload_n 43 dX9_goes_42 1 rfl rfl (Nat.le_of_ble_eq_true rfl) rfl ?_
        refine oRun.getR 46 dX9_goes_43 fd_RX9_11 rfl rfl (Nat.le_of_ble_eq_true rfl) rfl ?_
        refine oRun.iconst 47 dX9_goes_46 oc_i5 rfl ?_
        refine oRun.iload_n 48 dX9_goes_47 2 rfl rfl rfl ?_
        by_cases c48 : 0 ≤ x1
        · replace h := oIp c48 h
          refine oRun.if_ge_t 55 dX9_goes_48 c48 rfl ?_
          refine oRun.iconst 56 dX9_goes_55 oc_i0 rfl ?_
          obtain ⟨m56, hm56, h⟩ := oB1 h
          refine oRun.iastore 57 dX9_goes_56 rfl (oAS_lit (i := 5) rfl hm56) rfl ?_
          rw [← Option.some.inj h]
          exact oRun.ret (r := none) dX9_goes_57
        · replace h := oIn c48 h
          refine oRun.if_ge_f 51 dX9_goes_48 rfl c48 rfl ?_
          refine oRun.iconst 52 dX9_goes_51 oc_i1 rfl ?_
          refine oRun.goto 56 dX9_goes_52 rfl ?_
          obtain ⟨m56, hm56, h⟩ := oB1 h
          refine oRun.iastore 57 dX9_goes_56 rfl (oAS_lit (i := 5) rfl hm56) rfl ?_
          rw [← Option.some.inj h]
          exact oRun.ret (r := none) dX9_goes_57
    · replace h := oIn c18 h
      refine oRun.icmp_le_f 21 dX9_goes_18 rfl c18 rfl ?_
      refine oRun.sipush 24 dX9_goes_21 oc_s9999 rfl ?_
      refine oRun.goto 41 dX9_goes_24 rfl ?_
      obtain ⟨m41, hm41, h⟩ := oB1 h
      refine oRun.iastore 42 dX9_goes_41 rfl (oAS_lit (i := 4) rfl hm41) rfl ?_
      refine oRun.aload_n 43 dX9_goes_42 1 rfl rfl (Nat.le_of_ble_eq_true rfl) rfl ?_
      refine oRun.getR 46 dX9_goes_43 fd_RX9_11 rfl rfl (Nat.le_of_ble_eq_true rfl) rfl ?_
      refine oRun.iconst 47 dX9_goes_46 oc_i5 rfl ?_
      refine oRun.iload_n 48 dX9_goes_47 2 rfl rfl rfl ?_
      by_cases c48 : 0 ≤ x1
      · replace h := oIp c48 h
        refine oRun.if_ge_t 55 dX9_goes_48 c48 rfl ?_
        refine oRun.iconst 56 dX9_goes_55 oc_i0 rfl ?_
        obtain ⟨m56, hm56, h⟩ := oB1 h
        refine oRun.iastore 57 dX9_goes_56 rfl (oAS_lit (i := 5) rfl hm56) rfl ?_
        rw [← Option.some.inj h]
        exact oRun.ret (r := none) dX9_goes_57
      · replace h := oIn c48 h
        refine oRun.if_ge_f 51 dX9_goes_48 rfl c48 rfl ?_
        refine oRun.iconst 52 dX9_goes_51 oc_i1 rfl ?_
        refine oRun.goto 56 dX9_goes_52 rfl ?_
        obtain ⟨m56, hm56, h⟩ := oB1 h
        refine oRun.iastore 57 dX9_goes_56 rfl (oAS_lit (i := 5) rfl hm56) rfl ?_
        rw [← Option.some.inj h]
        exact oRun.ret (r := none) dX9_goes_57
  · exact True.intro
set_option maxRecDepth 100000 in
set_option maxHeartbeats 4000000 in
theorem E_X9_turn {G : oG} {m : oM} {x1 : Int32} {w : Int32 × oM} (h : F_X9_turn m x1 = some w) : oEv G M_X9_turn [.ref 51, .int x1] m (some (.int w.1)) w.2 := by
  unfold F_X9_turn at h
  refine ⟨?_, ?_⟩
  · show oRun G M_X9_turn 0 [(0, .ref 51), (1, .int x1)] [] m (some (.int w.1)) w.2
    refine oRun.iload_n 1 dX9_turn_0 1 rfl rfl rfl ?_
    refine oRun.i2l 2 dX9_turn_1 rfl ?_
    refine oRun.ldc2 5 dX9_turn_2 wd_5_187 rfl ?_
    refine oRun.ldc2 8 dX9_turn_5 wd_4_206 rfl ?_
    obtain ⟨r8, hr8, h⟩ := oB1 h
    refine oRun.callS (as := [.long x1.toInt64, .long (-99), .long 99]) 11 dX9_turn_8 lk_RX9_44 (oFit_i (Nat.le_of_ble_eq_true rfl) (Nat.le_of_ble_eq_true rfl)) rfl (Nat.le_of_ble_eq_true rfl) (Nat.le_of_ble_eq_true rfl) rfl (E_X9_isIn hr8) rfl ?_
    show oRun G _ 11 _ [.int r8] _ _ _
    by_cases c11 : r8 = 0
    · replace h := oIp c11 h
      refine oRun.if_eq_t 18 dX9_turn_11 c11 rfl ?_
      refine oRun.bipush 20 dX9_turn_18 oc_bm2 rfl ?_
      rw [← Option.some.inj h]
      exact oRun.ret (r := some (.int (-2))) dX9_turn_20
    · replace h := oIn c11 h
      refine oRun.if_eq_f 14 dX9_turn_11 rfl c11 rfl ?_
      refine oRun.iload_n 15 dX9_turn_14 1 rfl rfl rfl ?_
      by_cases c15 : x1 = 0
      · replace h := oIp c15 h
        refine oRun.if_ne_f 18 dX9_turn_15 rfl c15 rfl ?_
        refine oRun.bipush 20 dX9_turn_18 oc_bm2 rfl ?_
        rw [← Option.some.inj h]
        exact oRun.ret (r := some (.int (-2))) dX9_turn_20
      · replace h := oIn c15 h
        refine oRun.if_ne_t 21 dX9_turn_15 c15 rfl ?_
        refine oRun.aload_n 22 dX9_turn_21 0 rfl rfl (Nat.le_of_ble_eq_true rfl) rfl ?_
        refine oRun.getR 25 dX9_turn_22 fd_RX9_11 rfl rfl (Nat.le_of_ble_eq_true rfl) rfl ?_
        refine oRun.iconst 26 dX9_turn_25 oc_i4 rfl ?_
        refine oRun.iaload (x := m.1 52 4) 27 dX9_turn_26 (Or.inr ⟨_, rfl⟩) (oAL_lit (i := 4) rfl) rfl ?_
        refine oRun.iload_n 28 dX9_turn_27 1 rfl rfl rfl ?_
        refine oRun.iadd 29 dX9_turn_28 rfl ?_
        refine oRun.i2l 30 dX9_turn_29 rfl ?_
        refine oRun.ldc2 33 dX9_turn_30 wd_5_188 rfl ?_
        refine oRun.ldc2 36 dX9_turn_33 wd_4_164 rfl ?_
        obtain ⟨r36, hr36, h⟩ := oB1 h
        refine oRun.callS (as := [.long (((m.1 52 4) + x1)).toInt64, .long (-9999), .long 9999]) 39 dX9_turn_36 lk_RX9_44 (oFit_i (Nat.le_of_ble_eq_true rfl) (Nat.le_of_ble_eq_true rfl)) rfl (Nat.le_of_ble_eq_true rfl) (Nat.le_of_ble_eq_true rfl) rfl (E_X9_isIn hr36) rfl ?_
        show oRun G _ 39 _ [.int r36] _ _ _
        by_cases c39 : r36 = 0
        · replace h := oIp c39 h
          refine oRun.if_ne_f 42 dX9_turn_39 rfl c39 rfl ?_
          refine oRun.bipush 44 dX9_turn_42 oc_bm3 rfl ?_
          rw [← Option.some.inj h]
          exact oRun.ret (r := some (.int (-3))) dX9_turn_44
        · replace h := oIn c39 h
          refine oRun.if_ne_t 45 dX9_turn_39 c39 rfl ?_
          refine oRun.aload_n 46 dX9_turn_45 0 rfl rfl (Nat.le_of_ble_eq_true rfl) rfl ?_
          refine oRun.iload_n 47 dX9_turn_46 1 rfl rfl rfl ?_
          obtain ⟨r47, hr47, h⟩ := oB1 h
          refine oRun.callV (as := [.int x1]) 50 dX9_turn_47 lk_RX9_220 (oFit_i (Nat.le_of_ble_eq_true rfl) (Nat.le_of_ble_eq_true rfl)) rfl rfl rfl rfl (Nat.le_of_ble_eq_true rfl) (Nat.le_of_ble_eq_true rfl) rfl (E_X9_goes hr47) rfl ?_
          show oRun G _ 50 _ [] _ _ _
          refine oRun.aload_n 51 dX9_turn_50 0 rfl rfl (Nat.le_of_ble_eq_true rfl) rfl ?_
          refine oRun.getR 54 dX9_turn_51 fd_RX9_11 rfl rfl (Nat.le_of_ble_eq_true rfl) rfl ?_
          refine oRun.iconst 55 dX9_turn_54 oc_i4 rfl ?_
          refine oRun.iaload (x := r47.1 52 4) 56 dX9_turn_55 (Or.inr ⟨_, rfl⟩) (oAL_lit (i := 4) rfl) rfl ?_
          refine oRun.sipush 59 dX9_turn_56 oc_s10000 rfl ?_
          refine oRun.iadd 60 dX9_turn_59 rfl ?_
          rw [← Option.some.inj h]
          exact oRun.ret (r := some (.int ((r47.1 52 4) + 10000))) dX9_turn_60
  · exact True.intro
set_option maxRecDepth 100000 in
set_option maxHeartbeats 4000000 in
theorem E_X8_crank {G : oG} {m : oM} {x1 : Int32} {w : Int32} (h : F_X8_crank m x1 = some w) : oEv G M_X8_crank [.ref 0, .int x1] m (some (.int w)) m := by
  unfold F_X8_crank at h
  refine ⟨?_, ?_⟩
  · show oRun G M_X8_crank 0 [(0, .ref 0), (1, .int x1)] [] m (some (.int w)) m
    refine oRun.iload_n 1 dX8_crank_0 1 rfl rfl rfl ?_
    by_cases c1 : x1 = 0
    · replace h := oIp c1 h
      refine oRun.if_ne_f 4 dX8_crank_1 rfl c1 rfl ?_
      refine oRun.aload_n 5 dX8_crank_4 0 rfl rfl (Nat.le_of_ble_eq_true rfl) rfl ?_
      refine oRun.getR 8 dX8_crank_5 fd_RX8_12 rfl rfl (Nat.le_of_ble_eq_true rfl) rfl ?_
      refine oRun.getI 11 dX8_crank_8 fd_RX8_260 rfl rfl rfl ?_
      refine oRun.sipush 14 dX8_crank_11 oc_s10000 rfl ?_
      refine oRun.iadd 15 dX8_crank_14 rfl ?_
      rw [← Option.some.inj h]
      exact oRun.ret (r := some (.int ((m.1 1 7) + 10000))) dX8_crank_15
    · replace h := oIn c1 h
      refine oRun.if_ne_t 16 dX8_crank_1 c1 rfl ?_
      refine oRun.iload_n 17 dX8_crank_16 1 rfl rfl rfl ?_
      refine oRun.iconst 18 dX8_crank_17 oc_i1 rfl ?_
      by_cases c18 : x1 = 1
      · replace h := oIp c18 h
        refine oRun.icmp_ne_f 21 dX8_crank_18 rfl c18 rfl ?_
        refine oRun.aload_n 22 dX8_crank_21 0 rfl rfl (Nat.le_of_ble_eq_true rfl) rfl ?_
        refine oRun.getR 25 dX8_crank_22 fd_RX8_12 rfl rfl (Nat.le_of_ble_eq_true rfl) rfl ?_
        refine oRun.getI 28 dX8_crank_25 fd_RX8_267 rfl rfl rfl ?_
        by_cases c28 : (m.1 1 8) = 0
        · replace h := oIp c28 h
          refine oRun.if_eq_t 35 dX8_crank_28 c28 rfl ?_
          refine oRun.iconst 36 dX8_crank_35 oc_i0 rfl ?_
          rw [← Option.some.inj h]
          exact oRun.ret (r := some (.int 0)) dX8_crank_36
        · replace h := oIn c28 h
          refine oRun.if_eq_f 31 dX8_crank_28 rfl c28 rfl ?_
          refine oRun.iconst 32 dX8_crank_31 oc_i1 rfl ?_
          refine oRun.goto 36 dX8_crank_32 rfl ?_
          rw [← Option.some.inj h]
          exact oRun.ret (r := some (.int 1)) dX8_crank_36
      · replace h := oIn c18 h
        refine oRun.icmp_ne_t 37 dX8_crank_18 c18 rfl ?_
        refine oRun.iconst 38 dX8_crank_37 oc_im1 rfl ?_
        rw [← Option.some.inj h]
        exact oRun.ret (r := some (.int (-1))) dX8_crank_38
  · exact True.intro
set_option maxRecDepth 100000 in
set_option maxHeartbeats 4000000 in
theorem E_X9_crank {G : oG} {m : oM} {x1 : Int32} {w : Int32} (h : F_X9_crank m x1 = some w) : oEv G M_X9_crank [.ref 51, .int x1] m (some (.int w)) m := by
  unfold F_X9_crank at h
  refine ⟨?_, ?_⟩
  · show oRun G M_X9_crank 0 [(0, .ref 51), (1, .int x1)] [] m (some (.int w)) m
    refine oRun.iload_n 1 dX9_crank_0 1 rfl rfl rfl ?_
    refine oRun.i2l 2 dX9_crank_1 rfl ?_
    refine oRun.lconst 3 dX9_crank_2 oc_l0 rfl ?_
    refine oRun.lconst 4 dX9_crank_3 oc_l1 rfl ?_
    obtain ⟨r4, hr4, h⟩ := oB1 h
    refine oRun.callS (as := [.long x1.toInt64, .long 0, .long 1]) 7 dX9_crank_4 lk_RX9_44 (oFit_i (Nat.le_of_ble_eq_true rfl) (Nat.le_of_ble_eq_true rfl)) rfl (Nat.le_of_ble_eq_true rfl) (Nat.le_of_ble_eq_true rfl) rfl (E_X9_isIn hr4) rfl ?_
    show oRun G _ 7 _ [.int r4] _ _ _
    by_cases c7 : r4 = 0
    · replace h := oIp c7 h
      refine oRun.if_ne_f 10 dX9_crank_7 rfl c7 rfl ?_
      refine oRun.iconst 11 dX9_crank_10 oc_im1 rfl ?_
      rw [← Option.some.inj h]
      exact oRun.ret (r := some (.int (-1))) dX9_crank_11
    · replace h := oIn c7 h
      refine oRun.if_ne_t 12 dX9_crank_7 c7 rfl ?_
      refine oRun.iload_n 13 dX9_crank_12 1 rfl rfl rfl ?_
      by_cases c13 : x1 = 0
      · replace h := oIp c13 h
        refine oRun.if_ne_f 16 dX9_crank_13 rfl c13 rfl ?_
        refine oRun.aload_n 17 dX9_crank_16 0 rfl rfl (Nat.le_of_ble_eq_true rfl) rfl ?_
        refine oRun.getR 20 dX9_crank_17 fd_RX9_11 rfl rfl (Nat.le_of_ble_eq_true rfl) rfl ?_
        refine oRun.iconst 21 dX9_crank_20 oc_i4 rfl ?_
        refine oRun.iaload (x := m.1 52 4) 22 dX9_crank_21 (Or.inr ⟨_, rfl⟩) (oAL_lit (i := 4) rfl) rfl ?_
        refine oRun.sipush 25 dX9_crank_22 oc_s10000 rfl ?_
        refine oRun.iadd 26 dX9_crank_25 rfl ?_
        refine oRun.goto 35 dX9_crank_26 rfl ?_
        rw [← Option.some.inj h]
        exact oRun.ret (r := some (.int ((m.1 52 4) + 10000))) dX9_crank_35
      · replace h := oIn c13 h
        refine oRun.if_ne_t 29 dX9_crank_13 c13 rfl ?_
        refine oRun.aload_n 30 dX9_crank_29 0 rfl rfl (Nat.le_of_ble_eq_true rfl) rfl ?_
        refine oRun.getR 33 dX9_crank_30 fd_RX9_11 rfl rfl (Nat.le_of_ble_eq_true rfl) rfl ?_
        refine oRun.iconst 34 dX9_crank_33 oc_i5 rfl ?_
        refine oRun.iaload (x := m.1 52 5) 35 dX9_crank_34 (Or.inr ⟨_, rfl⟩) (oAL_lit (i := 5) rfl) rfl ?_
        rw [← Option.some.inj h]
        exact oRun.ret (r := some (.int (m.1 52 5))) dX9_crank_35
  · exact True.intro
set_option maxRecDepth 100000 in
set_option maxHeartbeats 4000000 in
theorem E_X1_standing {G : oG} {o : Nat} (ho : oOb o = true) {m : oM} {x1 : Int32} {w : Int64} (h : F_X1_standing o m x1 = some w) : oEv G M_X1_standing [.ref o, .int x1] m (some (.long w)) m := by
  unfold F_X1_standing at h
  refine ⟨?_, ?_⟩
  · show oRun G M_X1_standing 0 [(0, .ref o), (1, .int x1)] [] m (some (.long w)) m
    refine oRun.ldc2 3 dX1_standing_0 wd_3_168 rfl ?_
    refine oRun.aload_n 4 dX1_standing_3 0 rfl rfl (oLt66 (oO_lt ho)) rfl ?_
    refine oRun.getI 7 dX1_standing_4 fd_RX1_42 (oO_sh ho) rfl rfl ?_
    refine oRun.i2l 8 dX1_standing_7 rfl ?_
    refine oRun.lmul 9 dX1_standing_8 rfl ?_
    refine oRun.aload_n 10 dX1_standing_9 0 rfl rfl (oLt66 (oO_lt ho)) rfl ?_
    refine oRun.iload_n 11 dX1_standing_10 1 rfl rfl rfl ?_
    obtain ⟨r11, hr11, h⟩ := oB1 h
    refine oRun.callV (as := [.int x1]) 14 dX1_standing_11 lk_RX1_100 (oFit_i (Nat.le_of_ble_eq_true rfl) (Nat.le_of_ble_eq_true rfl)) (oO_sh ho) rfl rfl rfl (Nat.le_of_ble_eq_true rfl) (Nat.le_of_ble_eq_true rfl) rfl (E_X1_drivers ho hr11) rfl ?_
    show oRun G _ 14 _ [.long r11, .long (1000000 * ((m.1 o 7)).toInt64)] _ _ _
    refine oRun.lmul 15 dX1_standing_14 rfl ?_
    refine oRun.aload_n 16 dX1_standing_15 0 rfl rfl (oLt66 (oO_lt ho)) rfl ?_
    refine oRun.iload_n 17 dX1_standing_16 1 rfl rfl rfl ?_
    obtain ⟨r17, hr17, h⟩ := oB1 h
    refine oRun.callV (as := [.int x1]) 20 dX1_standing_17 lk_RX1_103 (oFit_i (Nat.le_of_ble_eq_true rfl) (Nat.le_of_ble_eq_true rfl)) (oO_sh ho) rfl rfl rfl (Nat.le_of_ble_eq_true rfl) (Nat.le_of_ble_eq_true rfl) rfl (E_X1_drivens ho hr17) rfl ?_
    show oRun G _ 20 _ [.long r17, .long ((1000000 * ((m.1 o 7)).toInt64) * r11)] _ _ _
    obtain ⟨r20, hr20, h⟩ := oB1 h
    refine oRun.callN (as := [.long ((1000000 * ((m.1 o 7)).toInt64) * r11), .long r17]) 23 dX1_standing_20 lk_RX1_115 (oFit_i (Nat.le_of_ble_eq_true rfl) (Nat.le_of_ble_eq_true rfl)) rfl (Nat.le_of_ble_eq_true rfl) (Nat.le_of_ble_eq_true rfl) rfl (E_X8_quotient hr20) rfl ?_
    show oRun G _ 23 _ [.long r20] _ _ _
    refine oRun.lstore_n 24 dX1_standing_23 rfl (Nat.le_of_ble_eq_true rfl) rfl rfl ?_
    refine oRun.aload_n 25 dX1_standing_24 1 rfl rfl (oLt66 (oO_lt ho)) rfl ?_
    refine oRun.getI 28 dX1_standing_25 fd_RX1_45 (oO_sh ho) rfl rfl ?_
    by_cases c28 : (m.1 o 8) = 0
    · replace h := oIp c28 h
      refine oRun.if_eq_t 51 dX1_standing_28 c28 rfl ?_
      refine oRun.aload_n 52 dX1_standing_51 1 rfl rfl (oLt66 (oO_lt ho)) rfl ?_
      refine oRun.iload_n 53 dX1_standing_52 2 rfl rfl rfl ?_
      obtain ⟨r53, hr53, h⟩ := oB1 h
      refine oRun.callV (as := [.int x1]) 56 dX1_standing_53 lk_RX1_125 (oFit_i (Nat.le_of_ble_eq_true rfl) (Nat.le_of_ble_eq_true rfl)) (oO_sh ho) rfl rfl rfl (Nat.le_of_ble_eq_true rfl) (Nat.le_of_ble_eq_true rfl) rfl (E_X1_isRound ho hr53) rfl ?_
      show oRun G _ 56 _ [.int r53] _ _ _
      by_cases c56 : r53 = 0
      · replace h := oIp c56 h
        refine oRun.if_eq_t 64 dX1_standing_56 c56 rfl ?_
        refine oRun.lload_n 65 dX1_standing_64 0 rfl rfl rfl ?_
        rw [← Option.some.inj h]
        exact oRun.ret (r := some (.long r20)) dX1_standing_65
      · replace h := oIn c56 h
        refine oRun.if_eq_f 59 dX1_standing_56 rfl c56 rfl ?_
        refine oRun.lload_n 60 dX1_standing_59 0 rfl rfl rfl ?_
        refine oRun.lneg 61 dX1_standing_60 rfl ?_
        refine oRun.goto 65 dX1_standing_61 rfl ?_
        rw [← Option.some.inj h]
        exact oRun.ret (r := some (.long (-r20))) dX1_standing_65
    · replace h := oIn c28 h
      refine oRun.if_eq_f 31 dX1_standing_28 rfl c28 rfl ?_
      refine oRun.lload_n 32 dX1_standing_31 0 rfl rfl rfl ?_
      refine oRun.ldc2 35 dX1_standing_32 wd_3_168 rfl ?_
      refine oRun.aload_n 36 dX1_standing_35 1 rfl rfl (oLt66 (oO_lt ho)) rfl ?_
      refine oRun.iload_n 37 dX1_standing_36 2 rfl rfl rfl ?_
      obtain ⟨r37, hr37, h⟩ := oB1 h
      refine oRun.callV (as := [.int x1]) 40 dX1_standing_37 lk_RX1_119 (oFit_i (Nat.le_of_ble_eq_true rfl) (Nat.le_of_ble_eq_true rfl)) (oO_sh ho) rfl rfl rfl (Nat.le_of_ble_eq_true rfl) (Nat.le_of_ble_eq_true rfl) rfl (E_X1_slackAbove ho hr37) rfl ?_
      show oRun G _ 40 _ [.long r37, .long 1000000, .long r20] _ _ _
      refine oRun.lmul 41 dX1_standing_40 rfl ?_
      refine oRun.aload_n 42 dX1_standing_41 1 rfl rfl (oLt66 (oO_lt ho)) rfl ?_
      refine oRun.iload_n 43 dX1_standing_42 2 rfl rfl rfl ?_
      obtain ⟨r43, hr43, h⟩ := oB1 h
      refine oRun.callV (as := [.int x1]) 46 dX1_standing_43 lk_RX1_122 (oFit_i (Nat.le_of_ble_eq_true rfl) (Nat.le_of_ble_eq_true rfl)) (oO_sh ho) rfl rfl rfl (Nat.le_of_ble_eq_true rfl) (Nat.le_of_ble_eq_true rfl) rfl (E_X1_slackBelow ho hr43) rfl ?_
      show oRun G _ 46 _ [.long r43, .long (1000000 * r37), .long r20] _ _ _
      obtain ⟨r46, hr46, h⟩ := oB1 h
      refine oRun.callN (as := [.long (1000000 * r37), .long r43]) 49 dX1_standing_46 lk_RX1_115 (oFit_i (Nat.le_of_ble_eq_true rfl) (Nat.le_of_ble_eq_true rfl)) rfl (Nat.le_of_ble_eq_true rfl) (Nat.le_of_ble_eq_true rfl) rfl (E_X8_quotient hr46) rfl ?_
      show oRun G _ 49 _ [.long r46, .long r20] _ _ _
      refine oRun.ladd 50 dX1_standing_49 rfl ?_
      obtain ⟨x2_50, hx2_50, h⟩ := oB1 h
      refine oRun.nameJ hx2_50 ?_
      refine oRun.lstore_n 51 dX1_standing_50 rfl (Nat.le_of_ble_eq_true rfl) rfl rfl ?_
      refine oRun.aload_n 52 dX1_standing_51 1 rfl rfl (oLt66 (oO_lt ho)) rfl ?_
      refine oRun.iload_n 53 dX1_standing_52 2 rfl rfl rfl ?_
      obtain ⟨r53, hr53, h⟩ := oB1 h
      refine oRun.callV (as := [.int x1]) 56 dX1_standing_53 lk_RX1_125 (oFit_i (Nat.le_of_ble_eq_true rfl) (Nat.le_of_ble_eq_true rfl)) (oO_sh ho) rfl rfl rfl (Nat.le_of_ble_eq_true rfl) (Nat.le_of_ble_eq_true rfl) rfl (E_X1_isRound ho hr53) rfl ?_
      show oRun G _ 56 _ [.int r53] _ _ _
      by_cases c56 : r53 = 0
      · replace h := oIp c56 h
        refine oRun.if_eq_t 64 dX1_standing_56 c56 rfl ?_
        refine oRun.lload_n 65 dX1_standing_64 0 rfl rfl rfl ?_
        rw [← Option.some.inj h]
        exact oRun.ret (r := some (.long x2_50)) dX1_standing_65
      · replace h := oIn c56 h
        refine oRun.if_eq_f 59 dX1_standing_56 rfl c56 rfl ?_
        refine oRun.lload_n 60 dX1_standing_59 0 rfl rfl rfl ?_
        refine oRun.lneg 61 dX1_standing_60 rfl ?_
        refine oRun.goto 65 dX1_standing_61 rfl ?_
        rw [← Option.some.inj h]
        exact oRun.ret (r := some (.long (-x2_50))) dX1_standing_65
  · exact True.intro
set_option maxRecDepth 100000 in
set_option maxHeartbeats 4000000 in
theorem E_X8_stands {G : oG} {m : oM} {x1 : Int32} {w : Int64} (h : F_X8_stands m x1 = some w) : oEv G M_X8_stands [.ref 0, .int x1] m (some (.long w)) m := by
  unfold F_X8_stands at h
  refine ⟨?_, ?_⟩
  · show oRun G M_X8_stands 0 [(0, .ref 0), (1, .int x1)] [] m (some (.long w)) m
    refine oRun.aload_n 1 dX8_stands_0 0 rfl rfl (Nat.le_of_ble_eq_true rfl) rfl ?_
    refine oRun.getR 4 dX8_stands_1 fd_RX8_12 rfl rfl (Nat.le_of_ble_eq_true rfl) rfl ?_
    refine oRun.iload_n 5 dX8_stands_4 1 rfl rfl rfl ?_
    obtain ⟨r5, hr5, h⟩ := oB1 h
    refine oRun.callV (as := [.int x1]) 8 dX8_stands_5 lk_RX8_192 (oFit_i (Nat.le_of_ble_eq_true rfl) (Nat.le_of_ble_eq_true rfl)) rfl rfl rfl rfl (Nat.le_of_ble_eq_true rfl) (Nat.le_of_ble_eq_true rfl) rfl (E_X1_hasTrain rfl hr5) rfl ?_
    show oRun G _ 8 _ [.int r5] _ _ _
    by_cases c8 : r5 = 0
    · replace h := oIp c8 h
      refine oRun.if_eq_t 22 dX8_stands_8 c8 rfl ?_
      refine oRun.ldc2 25 dX8_stands_22 wd_2_48 rfl ?_
      rw [← Option.some.inj h]
      exact oRun.ret (r := some (.long (-9223372036854775808))) dX8_stands_25
    · replace h := oIn c8 h
      refine oRun.if_eq_f 11 dX8_stands_8 rfl c8 rfl ?_
      refine oRun.aload_n 12 dX8_stands_11 0 rfl rfl (Nat.le_of_ble_eq_true rfl) rfl ?_
      refine oRun.getR 15 dX8_stands_12 fd_RX8_12 rfl rfl (Nat.le_of_ble_eq_true rfl) rfl ?_
      refine oRun.iload_n 16 dX8_stands_15 1 rfl rfl rfl ?_
      obtain ⟨r16, hr16, h⟩ := oB1 h
      refine oRun.callV (as := [.int x1]) 19 dX8_stands_16 lk_RX8_270 (oFit_i (Nat.le_of_ble_eq_true rfl) (Nat.le_of_ble_eq_true rfl)) rfl rfl rfl rfl (Nat.le_of_ble_eq_true rfl) (Nat.le_of_ble_eq_true rfl) rfl (E_X1_standing rfl hr16) rfl ?_
      show oRun G _ 19 _ [.long r16] _ _ _
      refine oRun.goto 25 dX8_stands_19 rfl ?_
      rw [← Option.some.inj h]
      exact oRun.ret (r := some (.long r16)) dX8_stands_25
  · exact True.intro
set_option maxRecDepth 100000 in
set_option maxHeartbeats 4000000 in
theorem E_X9_standsAt {G : oG} {m : oM} {x1 : Int32} {w : Int64} (h : F_X9_standsAt m x1 = some w) : oEv G M_X9_standsAt [.ref 51, .int x1] m (some (.long w)) m := by
  unfold F_X9_standsAt at h
  refine ⟨?_, ?_⟩
  · show oRun G M_X9_standsAt 0 [(0, .ref 51), (1, .int x1)] [] m (some (.long w)) m
    refine oRun.aload_n 1 dX9_standsAt_0 0 rfl rfl (Nat.le_of_ble_eq_true rfl) rfl ?_
    refine oRun.iload_n 2 dX9_standsAt_1 1 rfl rfl rfl ?_
    obtain ⟨r2, hr2, h⟩ := oB1 h
    refine oRun.callV (as := [.int x1]) 5 dX9_standsAt_2 lk_RX9_161 (oFit_i (Nat.le_of_ble_eq_true rfl) (Nat.le_of_ble_eq_true rfl)) rfl rfl rfl rfl (Nat.le_of_ble_eq_true rfl) (Nat.le_of_ble_eq_true rfl) rfl (E_X9_drivens hr2) rfl ?_
    show oRun G _ 5 _ [.long r2] _ _ _
    refine oRun.lstore_n 6 dX9_standsAt_5 rfl (Nat.le_of_ble_eq_true rfl) rfl rfl ?_
    refine oRun.ldc2 9 dX9_standsAt_6 wd_5_205 rfl ?_
    refine oRun.aload_n 10 dX9_standsAt_9 1 rfl rfl (Nat.le_of_ble_eq_true rfl) rfl ?_
    refine oRun.getR 13 dX9_standsAt_10 fd_RX9_11 rfl rfl (Nat.le_of_ble_eq_true rfl) rfl ?_
    refine oRun.iconst 14 dX9_standsAt_13 oc_i4 rfl ?_
    refine oRun.iaload (x := m.1 52 4) 15 dX9_standsAt_14 (Or.inr ⟨_, rfl⟩) (oAL_lit (i := 4) rfl) rfl ?_
    refine oRun.i2l 16 dX9_standsAt_15 rfl ?_
    refine oRun.lmul 17 dX9_standsAt_16 rfl ?_
    refine oRun.aload_n 18 dX9_standsAt_17 1 rfl rfl (Nat.le_of_ble_eq_true rfl) rfl ?_
    refine oRun.iload_n 19 dX9_standsAt_18 2 rfl rfl rfl ?_
    obtain ⟨r19, hr19, h⟩ := oB1 h
    refine oRun.callV (as := [.int x1]) 22 dX9_standsAt_19 lk_RX9_157 (oFit_i (Nat.le_of_ble_eq_true rfl) (Nat.le_of_ble_eq_true rfl)) rfl rfl rfl rfl (Nat.le_of_ble_eq_true rfl) (Nat.le_of_ble_eq_true rfl) rfl (E_X9_drivers hr19) rfl ?_
    show oRun G _ 22 _ [.long r19, .long (1000000 * ((m.1 52 4)).toInt64)] _ _ _
    refine oRun.lmul 23 dX9_standsAt_22 rfl ?_
    refine oRun.lload_n 24 dX9_standsAt_23 0 rfl rfl rfl ?_
    obtain ⟨v24, hv24, h⟩ := oB1 h
    obtain ⟨hz24, hv24⟩ := oDz hv24
    refine oRun.ldiv 25 dX9_standsAt_24 hz24 rfl ?_
    refine oRun.nameJ hv24 ?_
    refine oRun.lstore 27 dX9_standsAt_25 (Nat.le_of_ble_eq_true rfl) rfl rfl ?_
    refine oRun.aload_n 28 dX9_standsAt_27 2 rfl rfl (Nat.le_of_ble_eq_true rfl) rfl ?_
    refine oRun.getR 31 dX9_standsAt_28 fd_RX9_11 rfl rfl (Nat.le_of_ble_eq_true rfl) rfl ?_
    refine oRun.iconst 32 dX9_standsAt_31 oc_i5 rfl ?_
    refine oRun.iaload (x := m.1 52 5) 33 dX9_standsAt_32 (Or.inr ⟨_, rfl⟩) (oAL_lit (i := 5) rfl) rfl ?_
    refine oRun.iconst 34 dX9_standsAt_33 oc_i1 rfl ?_
    by_cases c34 : (m.1 52 5) = 1
    · replace h := oIp c34 h
      refine oRun.icmp_ne_f 37 dX9_standsAt_34 rfl c34 rfl ?_
      refine oRun.lload 39 dX9_standsAt_37 0 rfl rfl ?_
      refine oRun.ldc2 42 dX9_standsAt_39 wd_5_205 rfl ?_
      refine oRun.aload_n 43 dX9_standsAt_42 2 rfl rfl (Nat.le_of_ble_eq_true rfl) rfl ?_
      refine oRun.iload_n 44 dX9_standsAt_43 3 rfl rfl rfl ?_
      obtain ⟨r44, hr44, h⟩ := oB1 h
      refine oRun.callV (as := [.int x1]) 47 dX9_standsAt_44 lk_RX9_168 (oFit_i (Nat.le_of_ble_eq_true rfl) (Nat.le_of_ble_eq_true rfl)) rfl rfl rfl rfl (Nat.le_of_ble_eq_true rfl) (Nat.le_of_ble_eq_true rfl) rfl (E_X9_lag hr44) rfl ?_
      show oRun G _ 47 _ [.long r44, .long 1000000, .long v24] _ _ _
      refine oRun.lmul 48 dX9_standsAt_47 rfl ?_
      refine oRun.ldc2 51 dX9_standsAt_48 wd_5_145 rfl ?_
      refine oRun.lload_n 52 dX9_standsAt_51 1 rfl rfl rfl ?_
      refine oRun.lmul 53 dX9_standsAt_52 rfl ?_
      obtain ⟨v53, hv53, h⟩ := oB1 h
      obtain ⟨hz53, hv53⟩ := oDz hv53
      refine oRun.ldiv 54 dX9_standsAt_53 hz53 rfl ?_
      refine oRun.nameJ hv53 ?_
      refine oRun.ladd 55 dX9_standsAt_54 rfl ?_
      obtain ⟨x4_55, hx4_55, h⟩ := oB1 h
      refine oRun.nameJ hx4_55 ?_
      refine oRun.lstore 57 dX9_standsAt_55 (Nat.le_of_ble_eq_true rfl) rfl rfl ?_
      refine oRun.aload_n 58 dX9_standsAt_57 2 rfl rfl (Nat.le_of_ble_eq_true rfl) rfl ?_
      refine oRun.iload_n 59 dX9_standsAt_58 3 rfl rfl rfl ?_
      obtain ⟨r59, hr59, h⟩ := oB1 h
      refine oRun.callV (as := [.int x1]) 62 dX9_standsAt_59 lk_RX9_147 (oFit_i (Nat.le_of_ble_eq_true rfl) (Nat.le_of_ble_eq_true rfl)) rfl rfl rfl rfl (Nat.le_of_ble_eq_true rfl) (Nat.le_of_ble_eq_true rfl) rfl (E_X9_isRound hr59) rfl ?_
      show oRun G _ 62 _ [.int r59] _ _ _
      by_cases c62 : r59 = 0
      · replace h := oIp c62 h
        refine oRun.if_eq_t 71 dX9_standsAt_62 c62 rfl ?_
        refine oRun.lload 73 dX9_standsAt_71 0 rfl rfl ?_
        rw [← Option.some.inj h]
        exact oRun.ret (r := some (.long x4_55)) dX9_standsAt_73
      · replace h := oIn c62 h
        refine oRun.if_eq_f 65 dX9_standsAt_62 rfl c62 rfl ?_
        refine oRun.lload 67 dX9_standsAt_65 0 rfl rfl ?_
        refine oRun.lneg 68 dX9_standsAt_67 rfl ?_
        refine oRun.goto 73 dX9_standsAt_68 rfl ?_
        rw [← Option.some.inj h]
        exact oRun.ret (r := some (.long (-x4_55))) dX9_standsAt_73
    · replace h := oIn c34 h
      refine oRun.icmp_ne_t 57 dX9_standsAt_34 c34 rfl ?_
      refine oRun.aload_n 58 dX9_standsAt_57 2 rfl rfl (Nat.le_of_ble_eq_true rfl) rfl ?_
      refine oRun.iload_n 59 dX9_standsAt_58 3 rfl rfl rfl ?_
      obtain ⟨r59, hr59, h⟩ := oB1 h
      refine oRun.callV (as := [.int x1]) 62 dX9_standsAt_59 lk_RX9_147 (oFit_i (Nat.le_of_ble_eq_true rfl) (Nat.le_of_ble_eq_true rfl)) rfl rfl rfl rfl (Nat.le_of_ble_eq_true rfl) (Nat.le_of_ble_eq_true rfl) rfl (E_X9_isRound hr59) rfl ?_
      show oRun G _ 62 _ [.int r59] _ _ _
      by_cases c62 : r59 = 0
      · replace h := oIp c62 h
        refine oRun.if_eq_t 71 dX9_standsAt_62 c62 rfl ?_
        refine oRun.lload 73 dX9_standsAt_71 0 rfl rfl ?_
        rw [← Option.some.inj h]
        exact oRun.ret (r := some (.long v24)) dX9_standsAt_73
      · replace h := oIn c62 h
        refine oRun.if_eq_f 65 dX9_standsAt_62 rfl c62 rfl ?_
        refine oRun.lload 67 dX9_standsAt_65 0 rfl rfl ?_
        refine oRun.lneg 68 dX9_standsAt_67 rfl ?_
        refine oRun.goto 73 dX9_standsAt_68 rfl ?_
        rw [← Option.some.inj h]
        exact oRun.ret (r := some (.long (-v24))) dX9_standsAt_73
  · exact True.intro
set_option maxRecDepth 100000 in
set_option maxHeartbeats 4000000 in
theorem E_X9_stands {G : oG} {m : oM} {x1 : Int32} {w : Int64} (h : F_X9_stands m x1 = some w) : oEv G M_X9_stands [.ref 51, .int x1] m (some (.long w)) m := by
  unfold F_X9_stands at h
  refine ⟨?_, ?_⟩
  · show oRun G M_X9_stands 0 [(0, .ref 51), (1, .int x1)] [] m (some (.long w)) m
    refine oRun.aload_n 1 dX9_stands_0 0 rfl rfl (Nat.le_of_ble_eq_true rfl) rfl ?_
    refine oRun.iload_n 2 dX9_stands_1 1 rfl rfl rfl ?_
    obtain ⟨r2, hr2, h⟩ := oB1 h
    refine oRun.callV (as := [.int x1]) 5 dX9_stands_2 lk_RX9_154 (oFit_i (Nat.le_of_ble_eq_true rfl) (Nat.le_of_ble_eq_true rfl)) rfl rfl rfl rfl (Nat.le_of_ble_eq_true rfl) (Nat.le_of_ble_eq_true rfl) rfl (E_X9_hasTrain hr2) rfl ?_
    show oRun G _ 5 _ [.int r2] _ _ _
    by_cases c5 : r2 = 0
    · replace h := oIp c5 h
      refine oRun.if_eq_t 16 dX9_stands_5 c5 rfl ?_
      refine oRun.ldc2 19 dX9_stands_16 wd_4_201 rfl ?_
      rw [← Option.some.inj h]
      exact oRun.ret (r := some (.long (-9223372036854775808))) dX9_stands_19
    · replace h := oIn c5 h
      refine oRun.if_eq_f 8 dX9_stands_5 rfl c5 rfl ?_
      refine oRun.aload_n 9 dX9_stands_8 0 rfl rfl (Nat.le_of_ble_eq_true rfl) rfl ?_
      refine oRun.iload_n 10 dX9_stands_9 1 rfl rfl rfl ?_
      obtain ⟨r10, hr10, h⟩ := oB1 h
      refine oRun.callV (as := [.int x1]) 13 dX9_stands_10 lk_RX9_225 (oFit_i (Nat.le_of_ble_eq_true rfl) (Nat.le_of_ble_eq_true rfl)) rfl rfl rfl rfl (Nat.le_of_ble_eq_true rfl) (Nat.le_of_ble_eq_true rfl) rfl (E_X9_standsAt hr10) rfl ?_
      show oRun G _ 13 _ [.long r10] _ _ _
      refine oRun.goto 19 dX9_stands_13 rfl ?_
      rw [← Option.some.inj h]
      exact oRun.ret (r := some (.long r10)) dX9_stands_19
  · exact True.intro
set_option maxRecDepth 100000 in
set_option maxHeartbeats 4000000 in
theorem E_X8_meet {G : oG} {m : oM} {x1 : Int32} {x2 : Int32} {w : Int64} (h : F_X8_meet m x1 x2 = some w) : oEv G M_X8_meet [.ref 0, .int x1, .int x2] m (some (.long w)) m := by
  unfold F_X8_meet at h
  refine ⟨?_, ?_⟩
  · show oRun G M_X8_meet 0 [(0, .ref 0), (1, .int x1), (2, .int x2)] [] m (some (.long w)) m
    refine oRun.aload_n 1 dX8_meet_0 0 rfl rfl (Nat.le_of_ble_eq_true rfl) rfl ?_
    refine oRun.iload_n 2 dX8_meet_1 1 rfl rfl rfl ?_
    refine oRun.iload_n 3 dX8_meet_2 2 rfl rfl rfl ?_
    obtain ⟨r3, hr3, h⟩ := oB1 h
    refine oRun.callV (as := [.int x1, .int x2]) 6 dX8_meet_3 lk_RX8_223 (oFit_i (Nat.le_of_ble_eq_true rfl) (Nat.le_of_ble_eq_true rfl)) rfl rfl rfl rfl (Nat.le_of_ble_eq_true rfl) (Nat.le_of_ble_eq_true rfl) rfl (E_X8_areTwo hr3) rfl ?_
    show oRun G _ 6 _ [.int r3] _ _ _
    by_cases c6 : r3 = 0
    · replace h := oIp c6 h
      refine oRun.if_eq_t 31 dX8_meet_6 c6 rfl ?_
      refine oRun.ldc2 34 dX8_meet_31 wd_2_48 rfl ?_
      rw [← Option.some.inj h]
      exact oRun.ret (r := some (.long (-9223372036854775808))) dX8_meet_34
    · replace h := oIn c6 h
      refine oRun.if_eq_f 9 dX8_meet_6 rfl c6 rfl ?_
      refine oRun.aload_n 10 dX8_meet_9 0 rfl rfl (Nat.le_of_ble_eq_true rfl) rfl ?_
      refine oRun.getR 13 dX8_meet_10 fd_RX8_12 rfl rfl (Nat.le_of_ble_eq_true rfl) rfl ?_
      refine oRun.iload_n 14 dX8_meet_13 1 rfl rfl rfl ?_
      obtain ⟨r14, hr14, h⟩ := oB1 h
      refine oRun.callV (as := [.int x1]) 17 dX8_meet_14 lk_RX8_192 (oFit_i (Nat.le_of_ble_eq_true rfl) (Nat.le_of_ble_eq_true rfl)) rfl rfl rfl rfl (Nat.le_of_ble_eq_true rfl) (Nat.le_of_ble_eq_true rfl) rfl (E_X1_hasTrain rfl hr14) rfl ?_
      show oRun G _ 17 _ [.int r14] _ _ _
      by_cases c17 : r14 = 0
      · replace h := oIp c17 h
        refine oRun.if_eq_t 31 dX8_meet_17 c17 rfl ?_
        refine oRun.ldc2 34 dX8_meet_31 wd_2_48 rfl ?_
        rw [← Option.some.inj h]
        exact oRun.ret (r := some (.long (-9223372036854775808))) dX8_meet_34
      · replace h := oIn c17 h
        refine oRun.if_eq_f 20 dX8_meet_17 rfl c17 rfl ?_
        refine oRun.aload_n 21 dX8_meet_20 0 rfl rfl (Nat.le_of_ble_eq_true rfl) rfl ?_
        refine oRun.getR 24 dX8_meet_21 fd_RX8_12 rfl rfl (Nat.le_of_ble_eq_true rfl) rfl ?_
        refine oRun.iload_n 25 dX8_meet_24 2 rfl rfl rfl ?_
        obtain ⟨r25, hr25, h⟩ := oB1 h
        refine oRun.callV (as := [.int x2]) 28 dX8_meet_25 lk_RX8_192 (oFit_i (Nat.le_of_ble_eq_true rfl) (Nat.le_of_ble_eq_true rfl)) rfl rfl rfl rfl (Nat.le_of_ble_eq_true rfl) (Nat.le_of_ble_eq_true rfl) rfl (E_X1_hasTrain rfl hr25) rfl ?_
        show oRun G _ 28 _ [.int r25] _ _ _
        by_cases c28 : r25 = 0
        · replace h := oIp c28 h
          refine oRun.if_ne_f 31 dX8_meet_28 rfl c28 rfl ?_
          refine oRun.ldc2 34 dX8_meet_31 wd_2_48 rfl ?_
          rw [← Option.some.inj h]
          exact oRun.ret (r := some (.long (-9223372036854775808))) dX8_meet_34
        · replace h := oIn c28 h
          refine oRun.if_ne_t 35 dX8_meet_28 c28 rfl ?_
          refine oRun.aload_n 36 dX8_meet_35 0 rfl rfl (Nat.le_of_ble_eq_true rfl) rfl ?_
          refine oRun.getR 39 dX8_meet_36 fd_RX8_12 rfl rfl (Nat.le_of_ble_eq_true rfl) rfl ?_
          refine oRun.iload_n 40 dX8_meet_39 1 rfl rfl rfl ?_
          obtain ⟨r40, hr40, h⟩ := oB1 h
          refine oRun.callV (as := [.int x1]) 43 dX8_meet_40 lk_RX8_206 (oFit_i (Nat.le_of_ble_eq_true rfl) (Nat.le_of_ble_eq_true rfl)) rfl rfl rfl rfl (Nat.le_of_ble_eq_true rfl) (Nat.le_of_ble_eq_true rfl) rfl (E_X1_drivers rfl hr40) rfl ?_
          show oRun G _ 43 _ [.long r40] _ _ _
          refine oRun.aload_n 44 dX8_meet_43 0 rfl rfl (Nat.le_of_ble_eq_true rfl) rfl ?_
          refine oRun.getR 47 dX8_meet_44 fd_RX8_12 rfl rfl (Nat.le_of_ble_eq_true rfl) rfl ?_
          refine oRun.iload_n 48 dX8_meet_47 1 rfl rfl rfl ?_
          obtain ⟨r48, hr48, h⟩ := oB1 h
          refine oRun.callV (as := [.int x1]) 51 dX8_meet_48 lk_RX8_209 (oFit_i (Nat.le_of_ble_eq_true rfl) (Nat.le_of_ble_eq_true rfl)) rfl rfl rfl rfl (Nat.le_of_ble_eq_true rfl) (Nat.le_of_ble_eq_true rfl) rfl (E_X1_drivens rfl hr48) rfl ?_
          show oRun G _ 51 _ [.long r48, .long r40] _ _ _
          refine oRun.iconst 52 dX8_meet_51 oc_i1 rfl ?_
          obtain ⟨r52, hr52, h⟩ := oB1 h
          refine oRun.callS (as := [.long r40, .long r48, .int 1]) 55 dX8_meet_52 lk_RX8_88 (oFit_i (Nat.le_of_ble_eq_true rfl) (Nat.le_of_ble_eq_true rfl)) rfl (Nat.le_of_ble_eq_true rfl) (Nat.le_of_ble_eq_true rfl) rfl (E_X8_lowest hr52) rfl ?_
          show oRun G _ 55 _ [.long r52] _ _ _
          refine oRun.lstore_n 56 dX8_meet_55 rfl (Nat.le_of_ble_eq_true rfl) rfl rfl ?_
          refine oRun.aload_n 57 dX8_meet_56 1 rfl rfl (Nat.le_of_ble_eq_true rfl) rfl ?_
          refine oRun.getR 60 dX8_meet_57 fd_RX8_12 rfl rfl (Nat.le_of_ble_eq_true rfl) rfl ?_
          refine oRun.iload_n 61 dX8_meet_60 3 rfl rfl rfl ?_
          obtain ⟨r61, hr61, h⟩ := oB1 h
          refine oRun.callV (as := [.int x2]) 64 dX8_meet_61 lk_RX8_206 (oFit_i (Nat.le_of_ble_eq_true rfl) (Nat.le_of_ble_eq_true rfl)) rfl rfl rfl rfl (Nat.le_of_ble_eq_true rfl) (Nat.le_of_ble_eq_true rfl) rfl (E_X1_drivers rfl hr61) rfl ?_
          show oRun G _ 64 _ [.long r61] _ _ _
          refine oRun.aload_n 65 dX8_meet_64 1 rfl rfl (Nat.le_of_ble_eq_true rfl) rfl ?_
          refine oRun.getR 68 dX8_meet_65 fd_RX8_12 rfl rfl (Nat.le_of_ble_eq_true rfl) rfl ?_
          refine oRun.iload_n 69 dX8_meet_68 3 rfl rfl rfl ?_
          obtain ⟨r69, hr69, h⟩ := oB1 h
          refine oRun.callV (as := [.int x2]) 72 dX8_meet_69 lk_RX8_209 (oFit_i (Nat.le_of_ble_eq_true rfl) (Nat.le_of_ble_eq_true rfl)) rfl rfl rfl rfl (Nat.le_of_ble_eq_true rfl) (Nat.le_of_ble_eq_true rfl) rfl (E_X1_drivens rfl hr69) rfl ?_
          show oRun G _ 72 _ [.long r69, .long r61] _ _ _
          refine oRun.iconst 73 dX8_meet_72 oc_i1 rfl ?_
          obtain ⟨r73, hr73, h⟩ := oB1 h
          refine oRun.callS (as := [.long r61, .long r69, .int 1]) 76 dX8_meet_73 lk_RX8_88 (oFit_i (Nat.le_of_ble_eq_true rfl) (Nat.le_of_ble_eq_true rfl)) rfl (Nat.le_of_ble_eq_true rfl) (Nat.le_of_ble_eq_true rfl) rfl (E_X8_lowest hr73) rfl ?_
          show oRun G _ 76 _ [.long r73] _ _ _
          refine oRun.lstore 78 dX8_meet_76 (Nat.le_of_ble_eq_true rfl) rfl rfl ?_
          refine oRun.lload_n 79 dX8_meet_78 1 rfl rfl rfl ?_
          refine oRun.lload 81 dX8_meet_79 0 rfl rfl ?_
          refine oRun.lload_n 82 dX8_meet_81 1 rfl rfl rfl ?_
          refine oRun.lload 84 dX8_meet_82 0 rfl rfl ?_
          obtain ⟨r84, hr84, h⟩ := oB1 h
          refine oRun.callS (as := [.long r52, .long r73]) 87 dX8_meet_84 lk_RX8_273 (oFit_i (Nat.le_of_ble_eq_true rfl) (Nat.le_of_ble_eq_true rfl)) rfl (Nat.le_of_ble_eq_true rfl) (Nat.le_of_ble_eq_true rfl) rfl (E_X8_greatestCommon hr84) rfl ?_
          show oRun G _ 87 _ [.long r84, .long r73, .long r52] _ _ _
          obtain ⟨r87, hr87, h⟩ := oB1 h
          refine oRun.callS (as := [.long r73, .long r84]) 90 dX8_meet_87 lk_RX8_92 (oFit_i (Nat.le_of_ble_eq_true rfl) (Nat.le_of_ble_eq_true rfl)) rfl (Nat.le_of_ble_eq_true rfl) (Nat.le_of_ble_eq_true rfl) rfl (E_X8_quotient hr87) rfl ?_
          show oRun G _ 90 _ [.long r87, .long r52] _ _ _
          refine oRun.lmul 91 dX8_meet_90 rfl ?_
          rw [← Option.some.inj h]
          exact oRun.ret (r := some (.long (r52 * r87))) dX8_meet_91
  · exact True.intro
set_option maxRecDepth 100000 in
set_option maxHeartbeats 4000000 in
theorem E_X9_meet {G : oG} {m : oM} {x1 : Int32} {x2 : Int32} {w : Int64} (h : F_X9_meet m x1 x2 = some w) : oEv G M_X9_meet [.ref 51, .int x1, .int x2] m (some (.long w)) m := by
  unfold F_X9_meet at h
  refine ⟨?_, ?_⟩
  · show oRun G M_X9_meet 0 [(0, .ref 51), (1, .int x1), (2, .int x2)] [] m (some (.long w)) m
    refine oRun.aload_n 1 dX9_meet_0 0 rfl rfl (Nat.le_of_ble_eq_true rfl) rfl ?_
    refine oRun.iload_n 2 dX9_meet_1 1 rfl rfl rfl ?_
    refine oRun.iload_n 3 dX9_meet_2 2 rfl rfl rfl ?_
    obtain ⟨r3, hr3, h⟩ := oB1 h
    refine oRun.callV (as := [.int x1, .int x2]) 6 dX9_meet_3 lk_RX9_173 (oFit_i (Nat.le_of_ble_eq_true rfl) (Nat.le_of_ble_eq_true rfl)) rfl rfl rfl rfl (Nat.le_of_ble_eq_true rfl) (Nat.le_of_ble_eq_true rfl) rfl (E_X9_areTwo hr3) rfl ?_
    show oRun G _ 6 _ [.int r3] _ _ _
    by_cases c6 : r3 = 0
    · replace h := oIp c6 h
      refine oRun.if_eq_t 25 dX9_meet_6 c6 rfl ?_
      refine oRun.ldc2 28 dX9_meet_25 wd_4_201 rfl ?_
      rw [← Option.some.inj h]
      exact oRun.ret (r := some (.long (-9223372036854775808))) dX9_meet_28
    · replace h := oIn c6 h
      refine oRun.if_eq_f 9 dX9_meet_6 rfl c6 rfl ?_
      refine oRun.aload_n 10 dX9_meet_9 0 rfl rfl (Nat.le_of_ble_eq_true rfl) rfl ?_
      refine oRun.iload_n 11 dX9_meet_10 1 rfl rfl rfl ?_
      obtain ⟨r11, hr11, h⟩ := oB1 h
      refine oRun.callV (as := [.int x1]) 14 dX9_meet_11 lk_RX9_154 (oFit_i (Nat.le_of_ble_eq_true rfl) (Nat.le_of_ble_eq_true rfl)) rfl rfl rfl rfl (Nat.le_of_ble_eq_true rfl) (Nat.le_of_ble_eq_true rfl) rfl (E_X9_hasTrain hr11) rfl ?_
      show oRun G _ 14 _ [.int r11] _ _ _
      by_cases c14 : r11 = 0
      · replace h := oIp c14 h
        refine oRun.if_eq_t 25 dX9_meet_14 c14 rfl ?_
        refine oRun.ldc2 28 dX9_meet_25 wd_4_201 rfl ?_
        rw [← Option.some.inj h]
        exact oRun.ret (r := some (.long (-9223372036854775808))) dX9_meet_28
      · replace h := oIn c14 h
        refine oRun.if_eq_f 17 dX9_meet_14 rfl c14 rfl ?_
        refine oRun.aload_n 18 dX9_meet_17 0 rfl rfl (Nat.le_of_ble_eq_true rfl) rfl ?_
        refine oRun.iload_n 19 dX9_meet_18 2 rfl rfl rfl ?_
        obtain ⟨r19, hr19, h⟩ := oB1 h
        refine oRun.callV (as := [.int x2]) 22 dX9_meet_19 lk_RX9_154 (oFit_i (Nat.le_of_ble_eq_true rfl) (Nat.le_of_ble_eq_true rfl)) rfl rfl rfl rfl (Nat.le_of_ble_eq_true rfl) (Nat.le_of_ble_eq_true rfl) rfl (E_X9_hasTrain hr19) rfl ?_
        show oRun G _ 22 _ [.int r19] _ _ _
        by_cases c22 : r19 = 0
        · replace h := oIp c22 h
          refine oRun.if_ne_f 25 dX9_meet_22 rfl c22 rfl ?_
          refine oRun.ldc2 28 dX9_meet_25 wd_4_201 rfl ?_
          rw [← Option.some.inj h]
          exact oRun.ret (r := some (.long (-9223372036854775808))) dX9_meet_28
        · replace h := oIn c22 h
          refine oRun.if_ne_t 29 dX9_meet_22 c22 rfl ?_
          refine oRun.aload_n 30 dX9_meet_29 0 rfl rfl (Nat.le_of_ble_eq_true rfl) rfl ?_
          refine oRun.iload_n 31 dX9_meet_30 1 rfl rfl rfl ?_
          refine oRun.iconst 32 dX9_meet_31 oc_i1 rfl ?_
          obtain ⟨r32, hr32, h⟩ := oB1 h
          refine oRun.callV (as := [.int x1, .int 1]) 35 dX9_meet_32 lk_RX9_228 (oFit_i (Nat.le_of_ble_eq_true rfl) (Nat.le_of_ble_eq_true rfl)) rfl rfl rfl rfl (Nat.le_of_ble_eq_true rfl) (Nat.le_of_ble_eq_true rfl) rfl (E_X9_turns hr32) rfl ?_
          show oRun G _ 35 _ [.long r32] _ _ _
          refine oRun.lstore_n 36 dX9_meet_35 rfl (Nat.le_of_ble_eq_true rfl) rfl rfl ?_
          refine oRun.aload_n 37 dX9_meet_36 1 rfl rfl (Nat.le_of_ble_eq_true rfl) rfl ?_
          refine oRun.iload_n 38 dX9_meet_37 3 rfl rfl rfl ?_
          refine oRun.iconst 39 dX9_meet_38 oc_i1 rfl ?_
          obtain ⟨r39, hr39, h⟩ := oB1 h
          refine oRun.callV (as := [.int x2, .int 1]) 42 dX9_meet_39 lk_RX9_228 (oFit_i (Nat.le_of_ble_eq_true rfl) (Nat.le_of_ble_eq_true rfl)) rfl rfl rfl rfl (Nat.le_of_ble_eq_true rfl) (Nat.le_of_ble_eq_true rfl) rfl (E_X9_turns hr39) rfl ?_
          show oRun G _ 42 _ [.long r39] _ _ _
          refine oRun.lstore 44 dX9_meet_42 (Nat.le_of_ble_eq_true rfl) rfl rfl ?_
          refine oRun.lload_n 45 dX9_meet_44 1 rfl rfl rfl ?_
          refine oRun.lload_n 46 dX9_meet_45 1 rfl rfl rfl ?_
          refine oRun.lload 48 dX9_meet_46 0 rfl rfl ?_
          obtain ⟨r48, hr48, h⟩ := oB1 h
          refine oRun.callS (as := [.long r32, .long r39]) 51 dX9_meet_48 lk_RX9_40 (oFit_i (Nat.le_of_ble_eq_true rfl) (Nat.le_of_ble_eq_true rfl)) rfl (Nat.le_of_ble_eq_true rfl) (Nat.le_of_ble_eq_true rfl) rfl (E_X9_common hr48) rfl ?_
          show oRun G _ 51 _ [.long r48, .long r32] _ _ _
          obtain ⟨v51, hv51, h⟩ := oB1 h
          obtain ⟨hz51, hv51⟩ := oDz hv51
          refine oRun.ldiv 52 dX9_meet_51 hz51 rfl ?_
          refine oRun.nameJ hv51 ?_
          refine oRun.lload 54 dX9_meet_52 0 rfl rfl ?_
          refine oRun.lmul 55 dX9_meet_54 rfl ?_
          rw [← Option.some.inj h]
          exact oRun.ret (r := some (.long (v51 * r39))) dX9_meet_55
  · exact True.intro
set_option maxRecDepth 100000 in
set_option maxHeartbeats 4000000 in
theorem E_J9_floorMod_f86c9 {G : oG} {m : oM} {x0 : Int64} {x2 : Int64} {w : Int64} (h : F_J9_floorMod_f86c9 x0 x2 = some w) : oEv G M_J9_floorMod_f86c9 [.long x0, .long x2] m (some (.long w)) m := by
  unfold F_J9_floorMod_f86c9 at h
  refine ⟨?_, ?_⟩
  · show oRun G M_J9_floorMod_f86c9 0 [(0, .long x0), (2, .long x2)] [] m (some (.long w)) m
    refine oRun.lload_n 1 dJ9_floorMod_f86c9_0 0 rfl rfl rfl ?_
    refine oRun.lload_n 2 dJ9_floorMod_f86c9_1 1 rfl rfl rfl ?_
    obtain ⟨v2, hv2, h⟩ := oB1 h
    obtain ⟨hz2, hv2⟩ := oDz hv2
    refine oRun.lrem 3 dJ9_floorMod_f86c9_2 hz2 rfl ?_
    refine oRun.nameJ hv2 ?_
    refine oRun.lstore 5 dJ9_floorMod_f86c9_3 (Nat.le_of_ble_eq_true rfl) rfl rfl ?_
    refine oRun.lload_n 6 dJ9_floorMod_f86c9_5 1 rfl rfl rfl ?_
    refine oRun.lload_n 7 dJ9_floorMod_f86c9_6 2 rfl rfl rfl ?_
    refine oRun.lxor 8 dJ9_floorMod_f86c9_7 rfl ?_
    refine oRun.lconst 9 dJ9_floorMod_f86c9_8 oc_l0 rfl ?_
    refine oRun.lcmp 10 dJ9_floorMod_f86c9_9 rfl ?_
    by_cases c10 : 0 ≤ (x0 ^^^ x2)
    · replace h := oIp c10 h
      refine oRun.if_ge_t 25 dJ9_floorMod_f86c9_10 ((oLc_ge _ _).mpr c10) rfl ?_
      refine oRun.lload 27 dJ9_floorMod_f86c9_25 0 rfl rfl ?_
      rw [← Option.some.inj h]
      exact oRun.ret (r := some (.long v2)) dJ9_floorMod_f86c9_27
    · replace h := oIn c10 h
      refine oRun.if_ge_f 13 dJ9_floorMod_f86c9_10 rfl (mt (oLc_ge _ _).mp c10) rfl ?_
      refine oRun.lload 15 dJ9_floorMod_f86c9_13 0 rfl rfl ?_
      refine oRun.lconst 16 dJ9_floorMod_f86c9_15 oc_l0 rfl ?_
      refine oRun.lcmp 17 dJ9_floorMod_f86c9_16 rfl ?_
      by_cases c17 : v2 = 0
      · replace h := oIp c17 h
        refine oRun.if_eq_t 25 dJ9_floorMod_f86c9_17 ((oLc_eq _ _).mpr c17) rfl ?_
        refine oRun.lload 27 dJ9_floorMod_f86c9_25 0 rfl rfl ?_
        rw [← Option.some.inj h]
        exact oRun.ret (r := some (.long v2)) dJ9_floorMod_f86c9_27
      · replace h := oIn c17 h
        refine oRun.if_eq_f 20 dJ9_floorMod_f86c9_17 rfl (mt (oLc_eq _ _).mp c17) rfl ?_
        refine oRun.lload 22 dJ9_floorMod_f86c9_20 0 rfl rfl ?_
        refine oRun.lload_n 23 dJ9_floorMod_f86c9_22 2 rfl rfl rfl ?_
        refine oRun.ladd 24 dJ9_floorMod_f86c9_23 rfl ?_
        rw [← Option.some.inj h]
        exact oRun.ret (r := some (.long (v2 + x2))) dJ9_floorMod_f86c9_24
  · exact True.intro
set_option maxRecDepth 100000 in
set_option maxHeartbeats 4000000 in
theorem E_X8_turnsUntilJoined_L113 {G : oG} {m : oM} {x3 : Int32} {x4 : Int64} {x6 : Int64} {x8 : Int64} {x10 : Int64} {x12 : Int64} {r : Option Value} {m' : oM} : ∀ (n : Nat) (x14 : Int32) (b : (Unit) ⊕ (Int32)), oLoop (fun s : Int32 => F_X8_turnsUntilJoined_L113 m x3 x4 x6 x8 x10 x12 s) n x14 = some b → Sum.elim (fun yy => oRun G M_X8_turnsUntilJoined 211 [] [] m r m') (fun zz => r = (some (.int zz)) ∧ m' = m) b → oRun G M_X8_turnsUntilJoined 113 [(0, .ref 0), (3, .int x3), (4, .long x4), (6, .long x6), (8, .long x8), (10, .long x10), (12, .long x12), (14, .int x14)] [] m r m' := by
  intro n
  induction n with
  | zero => intro x14 b h _; exact (oLoop_zero h).elim
  | succ n ih =>
    intro x14 b h he
    obtain ⟨q', hq', h⟩ := oLoop_succ h
    have hc : ∀ s' : Int32, q' = .inl s' → oRun G M_X8_turnsUntilJoined 113 [(0, .ref 0), (3, .int x3), (4, .long x4), (6, .long x6), (8, .long x8), (10, .long x10), (12, .long x12), (14, .int s')] [] m r m' := by
      rintro s' rfl
      exact ih (s') b h he
    have hx : ∀ b' : (Unit) ⊕ (Int32), q' = .inr b' → Sum.elim (fun yy => oRun G M_X8_turnsUntilJoined 211 [] [] m r m') (fun zz => r = (some (.int zz)) ∧ m' = m) b' := by
      rintro b' rfl
      have h : b' = b := h
      rw [h]
      exact he
    clear h he ih
    have h := hq'
    clear hq'
    replace h : F_X8_turnsUntilJoined_L113 m x3 x4 x6 x8 x10 x12 x14 = some q' := h
    unfold F_X8_turnsUntilJoined_L113 at h
    refine oRun.iload 115 dX8_turnsUntilJoined_113 7 rfl rfl ?_
    refine oRun.sipush 118 dX8_turnsUntilJoined_115 oc_s999 rfl ?_
    by_cases c118 : 999 < x14
    · replace h := oIp c118 h
      refine oRun.icmp_gt_t 211 dX8_turnsUntilJoined_118 c118 rfl ?_
      cases h
      refine oRun.sub [] rfl ?_
      exact hx _ rfl
    · replace h := oIn c118 h
      refine oRun.icmp_gt_f 121 dX8_turnsUntilJoined_118 rfl c118 rfl ?_
      refine oRun.aload_n 122 dX8_turnsUntilJoined_121 0 rfl rfl (Nat.le_of_ble_eq_true rfl) rfl ?_
      refine oRun.getR 125 dX8_turnsUntilJoined_122 fd_RX8_12 rfl rfl (Nat.le_of_ble_eq_true rfl) rfl ?_
      refine oRun.getI 128 dX8_turnsUntilJoined_125 fd_RX8_260 rfl rfl rfl ?_
      refine oRun.iload 130 dX8_turnsUntilJoined_128 7 rfl rfl ?_
      refine oRun.iadd 131 dX8_turnsUntilJoined_130 rfl ?_
      refine oRun.i2l 132 dX8_turnsUntilJoined_131 rfl ?_
      refine oRun.lload 134 dX8_turnsUntilJoined_132 4 rfl rfl ?_
      refine oRun.lmul 135 dX8_turnsUntilJoined_134 rfl ?_
      refine oRun.lload 137 dX8_turnsUntilJoined_135 2 rfl rfl ?_
      obtain ⟨r137, hr137, h⟩ := oB1 h
      refine oRun.callS (as := [.long ((((m.1 1 7) + x14)).toInt64 * x8), .long x4]) 140 dX8_turnsUntilJoined_137 lk_RX8_344 (oFit_i (Nat.le_of_ble_eq_true rfl) (Nat.le_of_ble_eq_true rfl)) rfl (Nat.le_of_ble_eq_true rfl) (Nat.le_of_ble_eq_true rfl) rfl (E_J9_floorMod_f86c9 hr137) rfl ?_
      show oRun G _ 140 _ [.long r137] _ _ _
      refine oRun.lstore 142 dX8_turnsUntilJoined_140 (Nat.le_of_ble_eq_true rfl) rfl rfl ?_
      refine oRun.aload_n 143 dX8_turnsUntilJoined_142 1 rfl rfl (Nat.le_of_ble_eq_true rfl) rfl ?_
      refine oRun.getR 146 dX8_turnsUntilJoined_143 fd_RX8_12 rfl rfl (Nat.le_of_ble_eq_true rfl) rfl ?_
      refine oRun.getI 149 dX8_turnsUntilJoined_146 fd_RX8_260 rfl rfl rfl ?_
      refine oRun.iload 151 dX8_turnsUntilJoined_149 8 rfl rfl ?_
      refine oRun.iadd 152 dX8_turnsUntilJoined_151 rfl ?_
      refine oRun.i2l 153 dX8_turnsUntilJoined_152 rfl ?_
      refine oRun.lload 155 dX8_turnsUntilJoined_153 6 rfl rfl ?_
      refine oRun.lmul 156 dX8_turnsUntilJoined_155 rfl ?_
      refine oRun.lload 158 dX8_turnsUntilJoined_156 4 rfl rfl ?_
      obtain ⟨r158, hr158, h⟩ := oB1 h
      refine oRun.callS (as := [.long ((((m.1 1 7) + x14)).toInt64 * x10), .long x6]) 161 dX8_turnsUntilJoined_158 lk_RX8_344 (oFit_i (Nat.le_of_ble_eq_true rfl) (Nat.le_of_ble_eq_true rfl)) rfl (Nat.le_of_ble_eq_true rfl) (Nat.le_of_ble_eq_true rfl) rfl (E_J9_floorMod_f86c9 hr158) rfl ?_
      show oRun G _ 161 _ [.long r158] _ _ _
      refine oRun.lstore 163 dX8_turnsUntilJoined_161 (Nat.le_of_ble_eq_true rfl) rfl rfl ?_
      refine oRun.lload 165 dX8_turnsUntilJoined_163 1 rfl rfl ?_
      refine oRun.lload 167 dX8_turnsUntilJoined_165 5 rfl rfl ?_
      refine oRun.lmul 168 dX8_turnsUntilJoined_167 rfl ?_
      refine oRun.lload 170 dX8_turnsUntilJoined_168 0 rfl rfl ?_
      refine oRun.lload 172 dX8_turnsUntilJoined_170 4 rfl rfl ?_
      refine oRun.lmul 173 dX8_turnsUntilJoined_172 rfl ?_
      refine oRun.lsub 174 dX8_turnsUntilJoined_173 rfl ?_
      obtain ⟨r174, hr174, h⟩ := oB1 h
      refine oRun.callS (as := [.long ((r137 * x6) - (r158 * x4))]) 177 dX8_turnsUntilJoined_174 lk_RX8_96 (oFit_i (Nat.le_of_ble_eq_true rfl) (Nat.le_of_ble_eq_true rfl)) rfl (Nat.le_of_ble_eq_true rfl) (Nat.le_of_ble_eq_true rfl) rfl (E_J9_abs_067f4 hr174) rfl ?_
      show oRun G _ 177 _ [.long r174] _ _ _
      refine oRun.lstore 179 dX8_turnsUntilJoined_177 (Nat.le_of_ble_eq_true rfl) rfl rfl ?_
      refine oRun.lload 181 dX8_turnsUntilJoined_179 0 rfl rfl ?_
      refine oRun.lload 183 dX8_turnsUntilJoined_181 9 rfl rfl ?_
      refine oRun.lload 185 dX8_turnsUntilJoined_183 0 rfl rfl ?_
      refine oRun.lsub 186 dX8_turnsUntilJoined_185 rfl ?_
      obtain ⟨r186, hr186, h⟩ := oB1 h
      refine oRun.callS (as := [.long r174, .long (x12 - r174)]) 189 dX8_turnsUntilJoined_186 lk_RX8_347 (oFit_i (Nat.le_of_ble_eq_true rfl) (Nat.le_of_ble_eq_true rfl)) rfl (Nat.le_of_ble_eq_true rfl) (Nat.le_of_ble_eq_true rfl) rfl (E_J9_min_f86c9 hr186) rfl ?_
      show oRun G _ 189 _ [.long r186] _ _ _
      refine oRun.ldc2 192 dX8_turnsUntilJoined_189 wd_3_189 rfl ?_
      refine oRun.lmul 193 dX8_turnsUntilJoined_192 rfl ?_
      refine oRun.iload_n 194 dX8_turnsUntilJoined_193 4 rfl rfl rfl ?_
      refine oRun.i2l 195 dX8_turnsUntilJoined_194 rfl ?_
      refine oRun.lload 197 dX8_turnsUntilJoined_195 9 rfl rfl ?_
      refine oRun.lmul 198 dX8_turnsUntilJoined_197 rfl ?_
      refine oRun.lcmp 199 dX8_turnsUntilJoined_198 rfl ?_
      by_cases c199 : (x3.toInt64 * x12) < (r186 * 1000)
      · replace h := oIp c199 h
        refine oRun.if_gt_t 205 dX8_turnsUntilJoined_199 ((oLc_gt _ _).mpr c199) rfl ?_
        refine oRun.iinc 208 dX8_turnsUntilJoined_205 10 rfl (oAddC oc_i1) (Nat.le_of_ble_eq_true rfl) rfl rfl ?_
        refine oRun.goto 113 dX8_turnsUntilJoined_208 rfl ?_
        cases h
        refine oRun.sub [4, 5, 6, 7, 8, 9, 10, 0] rfl ?_
        exact hc _ rfl
      · replace h := oIn c199 h
        refine oRun.if_gt_f 202 dX8_turnsUntilJoined_199 rfl (mt (oLc_gt _ _).mp c199) rfl ?_
        refine oRun.iload 204 dX8_turnsUntilJoined_202 10 rfl rfl ?_
        cases h
        obtain ⟨hr1, hr2⟩ := hx _ rfl
        rw [hr1, hr2]
        exact oRun.ret (r := some (.int x14)) dX8_turnsUntilJoined_204
set_option maxRecDepth 100000 in
set_option maxHeartbeats 4000000 in
theorem E_X8_turnsUntilJoined_J101 {G : oG} {m : oM} {x3 : Int32} {x4 : Int64} {x6 : Int64} {x8 : Int64} {t0 : Int64} {w : Int32} (h : F_X8_turnsUntilJoined_J101 m x3 x4 x6 x8 t0 = some w) : oRun G M_X8_turnsUntilJoined 101 [(0, .ref 0), (3, .int x3), (4, .long x4), (6, .long x6), (8, .long x8)] [.long t0] m (some (.int w)) m := by
  unfold F_X8_turnsUntilJoined_J101 at h
  refine oRun.lstore 103 dX8_turnsUntilJoined_101 (Nat.le_of_ble_eq_true rfl) rfl rfl ?_
  refine oRun.lload 105 dX8_turnsUntilJoined_103 3 rfl rfl ?_
  refine oRun.lload 107 dX8_turnsUntilJoined_105 4 rfl rfl ?_
  refine oRun.lmul 108 dX8_turnsUntilJoined_107 rfl ?_
  obtain ⟨x12_108, hx12_108, h⟩ := oB1 h
  refine oRun.nameJ hx12_108 ?_
  refine oRun.lstore 110 dX8_turnsUntilJoined_108 (Nat.le_of_ble_eq_true rfl) rfl rfl ?_
  refine oRun.iconst 111 dX8_turnsUntilJoined_110 oc_i1 rfl ?_
  refine oRun.istore 113 dX8_turnsUntilJoined_111 (Nat.le_of_ble_eq_true rfl) rfl rfl ?_
  obtain ⟨b113, hb113, h⟩ := oB1 h
  refine oRun.sub [3, 4, 5, 6, 7, 2, 1, 0] rfl ?_
  refine E_X8_turnsUntilJoined_L113 _ _ _ hb113 ?_
  rcases b113 with y113 | z113
  · replace h := oSl h
    show oRun G _ _ _ _ _ _ _
    refine oRun.bipush 213 dX8_turnsUntilJoined_211 oc_bm5 rfl ?_
    rw [← Option.some.inj h]
    exact oRun.ret (r := some (.int (-5))) dX8_turnsUntilJoined_213
  · replace h := oSr h
    cases h
    exact ⟨rfl, rfl⟩
set_option maxRecDepth 100000 in
set_option maxHeartbeats 4000000 in
theorem E_X8_turnsUntilJoined_J68 {G : oG} {m : oM} {x2 : Int32} {x3 : Int32} {x4 : Int64} {x6 : Int64} {t0 : Int64} {w : Int32} (h : F_X8_turnsUntilJoined_J68 m x2 x3 x4 x6 t0 = some w) : oRun G M_X8_turnsUntilJoined 68 [(0, .ref 0), (2, .int x2), (3, .int x3), (4, .long x4), (6, .long x6)] [.long t0] m (some (.int w)) m := by
  unfold F_X8_turnsUntilJoined_J68 at h
  refine oRun.lstore 70 dX8_turnsUntilJoined_68 (Nat.le_of_ble_eq_true rfl) rfl rfl ?_
  refine oRun.aload_n 71 dX8_turnsUntilJoined_70 1 rfl rfl (Nat.le_of_ble_eq_true rfl) rfl ?_
  refine oRun.getR 74 dX8_turnsUntilJoined_71 fd_RX8_12 rfl rfl (Nat.le_of_ble_eq_true rfl) rfl ?_
  refine oRun.iload_n 75 dX8_turnsUntilJoined_74 2 rfl rfl rfl ?_
  obtain ⟨r75, hr75, h⟩ := oB1 h
  refine oRun.callV (as := [.int x2]) 78 dX8_turnsUntilJoined_75 lk_RX8_200 (oFit_i (Nat.le_of_ble_eq_true rfl) (Nat.le_of_ble_eq_true rfl)) rfl rfl rfl rfl (Nat.le_of_ble_eq_true rfl) (Nat.le_of_ble_eq_true rfl) rfl (E_X1_isRound rfl hr75) rfl ?_
  show oRun G _ 78 _ [.int r75] _ _ _
  by_cases c78 : r75 = 0
  · replace h := oIp c78 h
    refine oRun.if_eq_t 93 dX8_turnsUntilJoined_78 c78 rfl ?_
    refine oRun.aload_n 94 dX8_turnsUntilJoined_93 1 rfl rfl (Nat.le_of_ble_eq_true rfl) rfl ?_
    refine oRun.getR 97 dX8_turnsUntilJoined_94 fd_RX8_12 rfl rfl (Nat.le_of_ble_eq_true rfl) rfl ?_
    refine oRun.iload_n 98 dX8_turnsUntilJoined_97 2 rfl rfl rfl ?_
    obtain ⟨r98, hr98, h⟩ := oB1 h
    refine oRun.callV (as := [.int x2]) 101 dX8_turnsUntilJoined_98 lk_RX8_206 (oFit_i (Nat.le_of_ble_eq_true rfl) (Nat.le_of_ble_eq_true rfl)) rfl rfl rfl rfl (Nat.le_of_ble_eq_true rfl) (Nat.le_of_ble_eq_true rfl) rfl (E_X1_drivers rfl hr98) rfl ?_
    show oRun G _ 101 _ [.long r98] _ _ _
    refine oRun.sub [1, 3, 4, 5, 0] rfl ?_
    exact E_X8_turnsUntilJoined_J101 h
  · replace h := oIn c78 h
    refine oRun.if_eq_f 81 dX8_turnsUntilJoined_78 rfl c78 rfl ?_
    refine oRun.aload_n 82 dX8_turnsUntilJoined_81 1 rfl rfl (Nat.le_of_ble_eq_true rfl) rfl ?_
    refine oRun.getR 85 dX8_turnsUntilJoined_82 fd_RX8_12 rfl rfl (Nat.le_of_ble_eq_true rfl) rfl ?_
    refine oRun.iload_n 86 dX8_turnsUntilJoined_85 2 rfl rfl rfl ?_
    obtain ⟨r86, hr86, h⟩ := oB1 h
    refine oRun.callV (as := [.int x2]) 89 dX8_turnsUntilJoined_86 lk_RX8_206 (oFit_i (Nat.le_of_ble_eq_true rfl) (Nat.le_of_ble_eq_true rfl)) rfl rfl rfl rfl (Nat.le_of_ble_eq_true rfl) (Nat.le_of_ble_eq_true rfl) rfl (E_X1_drivers rfl hr86) rfl ?_
    show oRun G _ 89 _ [.long r86] _ _ _
    refine oRun.lneg 90 dX8_turnsUntilJoined_89 rfl ?_
    refine oRun.goto 101 dX8_turnsUntilJoined_90 rfl ?_
    refine oRun.sub [1, 3, 4, 5, 0] rfl ?_
    exact E_X8_turnsUntilJoined_J101 h
set_option maxRecDepth 100000 in
set_option maxHeartbeats 4000000 in
theorem E_X8_turnsUntilJoined {G : oG} {m : oM} {x1 : Int32} {x2 : Int32} {x3 : Int32} {w : Int32} (h : F_X8_turnsUntilJoined m x1 x2 x3 = some w) : oEv G M_X8_turnsUntilJoined [.ref 0, .int x1, .int x2, .int x3] m (some (.int w)) m := by
  unfold F_X8_turnsUntilJoined at h
  refine ⟨?_, ?_⟩
  · show oRun G M_X8_turnsUntilJoined 0 [(0, .ref 0), (1, .int x1), (2, .int x2), (3, .int x3)] [] m (some (.int w)) m
    refine oRun.aload_n 1 dX8_turnsUntilJoined_0 0 rfl rfl (Nat.le_of_ble_eq_true rfl) rfl ?_
    refine oRun.getR 4 dX8_turnsUntilJoined_1 fd_RX8_12 rfl rfl (Nat.le_of_ble_eq_true rfl) rfl ?_
    refine oRun.iload_n 5 dX8_turnsUntilJoined_4 1 rfl rfl rfl ?_
    obtain ⟨r5, hr5, h⟩ := oB1 h
    refine oRun.callV (as := [.int x1]) 8 dX8_turnsUntilJoined_5 lk_RX8_209 (oFit_i (Nat.le_of_ble_eq_true rfl) (Nat.le_of_ble_eq_true rfl)) rfl rfl rfl rfl (Nat.le_of_ble_eq_true rfl) (Nat.le_of_ble_eq_true rfl) rfl (E_X1_drivens rfl hr5) rfl ?_
    show oRun G _ 8 _ [.long r5] _ _ _
    refine oRun.lstore 10 dX8_turnsUntilJoined_8 (Nat.le_of_ble_eq_true rfl) rfl rfl ?_
    refine oRun.aload_n 11 dX8_turnsUntilJoined_10 1 rfl rfl (Nat.le_of_ble_eq_true rfl) rfl ?_
    refine oRun.getR 14 dX8_turnsUntilJoined_11 fd_RX8_12 rfl rfl (Nat.le_of_ble_eq_true rfl) rfl ?_
    refine oRun.iload_n 15 dX8_turnsUntilJoined_14 3 rfl rfl rfl ?_
    obtain ⟨r15, hr15, h⟩ := oB1 h
    refine oRun.callV (as := [.int x2]) 18 dX8_turnsUntilJoined_15 lk_RX8_209 (oFit_i (Nat.le_of_ble_eq_true rfl) (Nat.le_of_ble_eq_true rfl)) rfl rfl rfl rfl (Nat.le_of_ble_eq_true rfl) (Nat.le_of_ble_eq_true rfl) rfl (E_X1_drivens rfl hr15) rfl ?_
    show oRun G _ 18 _ [.long r15] _ _ _
    refine oRun.lstore 20 dX8_turnsUntilJoined_18 (Nat.le_of_ble_eq_true rfl) rfl rfl ?_
    refine oRun.lload 22 dX8_turnsUntilJoined_20 1 rfl rfl ?_
    refine oRun.lconst 23 dX8_turnsUntilJoined_22 oc_l1 rfl ?_
    refine oRun.lcmp 24 dX8_turnsUntilJoined_23 rfl ?_
    by_cases c24 : r5 < 1
    · replace h := oIp c24 h
      refine oRun.if_lt_t 34 dX8_turnsUntilJoined_24 ((oLc_lt _ _).mpr c24) rfl ?_
      refine oRun.bipush 36 dX8_turnsUntilJoined_34 oc_bm5 rfl ?_
      rw [← Option.some.inj h]
      exact oRun.ret (r := some (.int (-5))) dX8_turnsUntilJoined_36
    · replace h := oIn c24 h
      refine oRun.if_lt_f 27 dX8_turnsUntilJoined_24 rfl (mt (oLc_lt _ _).mp c24) rfl ?_
      refine oRun.lload 29 dX8_turnsUntilJoined_27 0 rfl rfl ?_
      refine oRun.lconst 30 dX8_turnsUntilJoined_29 oc_l1 rfl ?_
      refine oRun.lcmp 31 dX8_turnsUntilJoined_30 rfl ?_
      by_cases c31 : 1 ≤ r15
      · replace h := oIp c31 h
        refine oRun.if_ge_t 37 dX8_turnsUntilJoined_31 ((oLc_ge _ _).mpr c31) rfl ?_
        refine oRun.aload_n 38 dX8_turnsUntilJoined_37 2 rfl rfl (Nat.le_of_ble_eq_true rfl) rfl ?_
        refine oRun.getR 41 dX8_turnsUntilJoined_38 fd_RX8_12 rfl rfl (Nat.le_of_ble_eq_true rfl) rfl ?_
        refine oRun.iload_n 42 dX8_turnsUntilJoined_41 3 rfl rfl rfl ?_
        obtain ⟨r42, hr42, h⟩ := oB1 h
        refine oRun.callV (as := [.int x1]) 45 dX8_turnsUntilJoined_42 lk_RX8_200 (oFit_i (Nat.le_of_ble_eq_true rfl) (Nat.le_of_ble_eq_true rfl)) rfl rfl rfl rfl (Nat.le_of_ble_eq_true rfl) (Nat.le_of_ble_eq_true rfl) rfl (E_X1_isRound rfl hr42) rfl ?_
        show oRun G _ 45 _ [.int r42] _ _ _
        by_cases c45 : r42 = 0
        · replace h := oIp c45 h
          refine oRun.if_eq_t 60 dX8_turnsUntilJoined_45 c45 rfl ?_
          refine oRun.aload_n 61 dX8_turnsUntilJoined_60 2 rfl rfl (Nat.le_of_ble_eq_true rfl) rfl ?_
          refine oRun.getR 64 dX8_turnsUntilJoined_61 fd_RX8_12 rfl rfl (Nat.le_of_ble_eq_true rfl) rfl ?_
          refine oRun.iload_n 65 dX8_turnsUntilJoined_64 3 rfl rfl rfl ?_
          obtain ⟨r65, hr65, h⟩ := oB1 h
          refine oRun.callV (as := [.int x1]) 68 dX8_turnsUntilJoined_65 lk_RX8_206 (oFit_i (Nat.le_of_ble_eq_true rfl) (Nat.le_of_ble_eq_true rfl)) rfl rfl rfl rfl (Nat.le_of_ble_eq_true rfl) (Nat.le_of_ble_eq_true rfl) rfl (E_X1_drivers rfl hr65) rfl ?_
          show oRun G _ 68 _ [.long r65] _ _ _
          refine oRun.sub [2, 4, 5, 1, 0] rfl ?_
          exact E_X8_turnsUntilJoined_J68 h
        · replace h := oIn c45 h
          refine oRun.if_eq_f 48 dX8_turnsUntilJoined_45 rfl c45 rfl ?_
          refine oRun.aload_n 49 dX8_turnsUntilJoined_48 2 rfl rfl (Nat.le_of_ble_eq_true rfl) rfl ?_
          refine oRun.getR 52 dX8_turnsUntilJoined_49 fd_RX8_12 rfl rfl (Nat.le_of_ble_eq_true rfl) rfl ?_
          refine oRun.iload_n 53 dX8_turnsUntilJoined_52 3 rfl rfl rfl ?_
          obtain ⟨r53, hr53, h⟩ := oB1 h
          refine oRun.callV (as := [.int x1]) 56 dX8_turnsUntilJoined_53 lk_RX8_206 (oFit_i (Nat.le_of_ble_eq_true rfl) (Nat.le_of_ble_eq_true rfl)) rfl rfl rfl rfl (Nat.le_of_ble_eq_true rfl) (Nat.le_of_ble_eq_true rfl) rfl (E_X1_drivers rfl hr53) rfl ?_
          show oRun G _ 56 _ [.long r53] _ _ _
          refine oRun.lneg 57 dX8_turnsUntilJoined_56 rfl ?_
          refine oRun.goto 68 dX8_turnsUntilJoined_57 rfl ?_
          refine oRun.sub [2, 4, 5, 1, 0] rfl ?_
          exact E_X8_turnsUntilJoined_J68 h
      · replace h := oIn c31 h
        refine oRun.if_ge_f 34 dX8_turnsUntilJoined_31 rfl (mt (oLc_ge _ _).mp c31) rfl ?_
        refine oRun.bipush 36 dX8_turnsUntilJoined_34 oc_bm5 rfl ?_
        rw [← Option.some.inj h]
        exact oRun.ret (r := some (.int (-5))) dX8_turnsUntilJoined_36
  · exact True.intro
set_option maxRecDepth 100000 in
set_option maxHeartbeats 4000000 in
theorem E_X8_join {G : oG} {m : oM} {x1 : Int32} {x2 : Int32} {x3 : Int32} {w : Int32} (h : F_X8_join m x1 x2 x3 = some w) : oEv G M_X8_join [.ref 0, .int x1, .int x2, .int x3] m (some (.int w)) m := by
  unfold F_X8_join at h
  refine ⟨?_, ?_⟩
  · show oRun G M_X8_join 0 [(0, .ref 0), (1, .int x1), (2, .int x2), (3, .int x3)] [] m (some (.int w)) m
    refine oRun.aload_n 1 dX8_join_0 0 rfl rfl (Nat.le_of_ble_eq_true rfl) rfl ?_
    refine oRun.iload_n 2 dX8_join_1 1 rfl rfl rfl ?_
    refine oRun.iload_n 3 dX8_join_2 2 rfl rfl rfl ?_
    obtain ⟨r3, hr3, h⟩ := oB1 h
    refine oRun.callV (as := [.int x1, .int x2]) 6 dX8_join_3 lk_RX8_223 (oFit_i (Nat.le_of_ble_eq_true rfl) (Nat.le_of_ble_eq_true rfl)) rfl rfl rfl rfl (Nat.le_of_ble_eq_true rfl) (Nat.le_of_ble_eq_true rfl) rfl (E_X8_areTwo hr3) rfl ?_
    show oRun G _ 6 _ [.int r3] _ _ _
    by_cases c6 : r3 = 0
    · replace h := oIp c6 h
      refine oRun.if_ne_f 9 dX8_join_6 rfl c6 rfl ?_
      refine oRun.iconst 10 dX8_join_9 oc_im1 rfl ?_
      rw [← Option.some.inj h]
      exact oRun.ret (r := some (.int (-1))) dX8_join_10
    · replace h := oIn c6 h
      refine oRun.if_ne_t 11 dX8_join_6 c6 rfl ?_
      refine oRun.iload_n 12 dX8_join_11 3 rfl rfl rfl ?_
      by_cases c12 : x3 < 0
      · replace h := oIp c12 h
        refine oRun.if_lt_t 22 dX8_join_12 c12 rfl ?_
        refine oRun.bipush 24 dX8_join_22 oc_bm2 rfl ?_
        rw [← Option.some.inj h]
        exact oRun.ret (r := some (.int (-2))) dX8_join_24
      · replace h := oIn c12 h
        refine oRun.if_lt_f 15 dX8_join_12 rfl c12 rfl ?_
        refine oRun.iload_n 16 dX8_join_15 3 rfl rfl rfl ?_
        refine oRun.sipush 19 dX8_join_16 oc_s499 rfl ?_
        by_cases c19 : x3 ≤ 499
        · replace h := oIp c19 h
          refine oRun.icmp_le_t 25 dX8_join_19 c19 rfl ?_
          refine oRun.aload_n 26 dX8_join_25 0 rfl rfl (Nat.le_of_ble_eq_true rfl) rfl ?_
          refine oRun.getR 29 dX8_join_26 fd_RX8_12 rfl rfl (Nat.le_of_ble_eq_true rfl) rfl ?_
          refine oRun.iload_n 30 dX8_join_29 1 rfl rfl rfl ?_
          obtain ⟨r30, hr30, h⟩ := oB1 h
          refine oRun.callV (as := [.int x1]) 33 dX8_join_30 lk_RX8_192 (oFit_i (Nat.le_of_ble_eq_true rfl) (Nat.le_of_ble_eq_true rfl)) rfl rfl rfl rfl (Nat.le_of_ble_eq_true rfl) (Nat.le_of_ble_eq_true rfl) rfl (E_X1_hasTrain rfl hr30) rfl ?_
          show oRun G _ 33 _ [.int r30] _ _ _
          by_cases c33 : r30 = 0
          · replace h := oIp c33 h
            refine oRun.if_eq_t 47 dX8_join_33 c33 rfl ?_
            refine oRun.bipush 49 dX8_join_47 oc_bm3 rfl ?_
            rw [← Option.some.inj h]
            exact oRun.ret (r := some (.int (-3))) dX8_join_49
          · replace h := oIn c33 h
            refine oRun.if_eq_f 36 dX8_join_33 rfl c33 rfl ?_
            refine oRun.aload_n 37 dX8_join_36 0 rfl rfl (Nat.le_of_ble_eq_true rfl) rfl ?_
            refine oRun.getR 40 dX8_join_37 fd_RX8_12 rfl rfl (Nat.le_of_ble_eq_true rfl) rfl ?_
            refine oRun.iload_n 41 dX8_join_40 2 rfl rfl rfl ?_
            obtain ⟨r41, hr41, h⟩ := oB1 h
            refine oRun.callV (as := [.int x2]) 44 dX8_join_41 lk_RX8_192 (oFit_i (Nat.le_of_ble_eq_true rfl) (Nat.le_of_ble_eq_true rfl)) rfl rfl rfl rfl (Nat.le_of_ble_eq_true rfl) (Nat.le_of_ble_eq_true rfl) rfl (E_X1_hasTrain rfl hr41) rfl ?_
            show oRun G _ 44 _ [.int r41] _ _ _
            by_cases c44 : r41 = 0
            · replace h := oIp c44 h
              refine oRun.if_ne_f 47 dX8_join_44 rfl c44 rfl ?_
              refine oRun.bipush 49 dX8_join_47 oc_bm3 rfl ?_
              rw [← Option.some.inj h]
              exact oRun.ret (r := some (.int (-3))) dX8_join_49
            · replace h := oIn c44 h
              refine oRun.if_ne_t 50 dX8_join_44 c44 rfl ?_
              refine oRun.aload_n 51 dX8_join_50 0 rfl rfl (Nat.le_of_ble_eq_true rfl) rfl ?_
              refine oRun.iload_n 52 dX8_join_51 1 rfl rfl rfl ?_
              refine oRun.iload_n 53 dX8_join_52 2 rfl rfl rfl ?_
              refine oRun.iload_n 54 dX8_join_53 3 rfl rfl rfl ?_
              obtain ⟨r54, hr54, h⟩ := oB1 h
              refine oRun.callV (as := [.int x1, .int x2, .int x3]) 57 dX8_join_54 lk_RX8_276 (oFit_i (Nat.le_of_ble_eq_true rfl) (Nat.le_of_ble_eq_true rfl)) rfl rfl rfl rfl (Nat.le_of_ble_eq_true rfl) (Nat.le_of_ble_eq_true rfl) rfl (E_X8_turnsUntilJoined hr54) rfl ?_
              show oRun G _ 57 _ [.int r54] _ _ _
              rw [← Option.some.inj h]
              exact oRun.ret (r := some (.int r54)) dX8_join_57
        · replace h := oIn c19 h
          refine oRun.icmp_le_f 22 dX8_join_19 rfl c19 rfl ?_
          refine oRun.bipush 24 dX8_join_22 oc_bm2 rfl ?_
          rw [← Option.some.inj h]
          exact oRun.ret (r := some (.int (-2))) dX8_join_24
  · exact True.intro
set_option maxRecDepth 100000 in
set_option maxHeartbeats 4000000 in
theorem E_X9_partOf {G : oG} {m : oM} {x1 : Int32} {x2 : Int32} {w : Int64} (h : F_X9_partOf m x1 x2 = some w) : oEv G M_X9_partOf [.ref 51, .int x1, .int x2] m (some (.long w)) m := by
  unfold F_X9_partOf at h
  refine ⟨?_, ?_⟩
  · show oRun G M_X9_partOf 0 [(0, .ref 51), (1, .int x1), (2, .int x2)] [] m (some (.long w)) m
    refine oRun.aload_n 1 dX9_partOf_0 0 rfl rfl (Nat.le_of_ble_eq_true rfl) rfl ?_
    refine oRun.iload_n 2 dX9_partOf_1 1 rfl rfl rfl ?_
    obtain ⟨r2, hr2, h⟩ := oB1 h
    refine oRun.callV (as := [.int x1]) 5 dX9_partOf_2 lk_RX9_161 (oFit_i (Nat.le_of_ble_eq_true rfl) (Nat.le_of_ble_eq_true rfl)) rfl rfl rfl rfl (Nat.le_of_ble_eq_true rfl) (Nat.le_of_ble_eq_true rfl) rfl (E_X9_drivens hr2) rfl ?_
    show oRun G _ 5 _ [.long r2] _ _ _
    refine oRun.lstore_n 6 dX9_partOf_5 rfl (Nat.le_of_ble_eq_true rfl) rfl rfl ?_
    refine oRun.iload_n 7 dX9_partOf_6 3 rfl rfl rfl ?_
    refine oRun.i2l 8 dX9_partOf_7 rfl ?_
    refine oRun.aload_n 9 dX9_partOf_8 1 rfl rfl (Nat.le_of_ble_eq_true rfl) rfl ?_
    refine oRun.iload_n 10 dX9_partOf_9 2 rfl rfl rfl ?_
    obtain ⟨r10, hr10, h⟩ := oB1 h
    refine oRun.callV (as := [.int x1]) 13 dX9_partOf_10 lk_RX9_157 (oFit_i (Nat.le_of_ble_eq_true rfl) (Nat.le_of_ble_eq_true rfl)) rfl rfl rfl rfl (Nat.le_of_ble_eq_true rfl) (Nat.le_of_ble_eq_true rfl) rfl (E_X9_drivers hr10) rfl ?_
    show oRun G _ 13 _ [.long r10, .long x2.toInt64] _ _ _
    refine oRun.lmul 14 dX9_partOf_13 rfl ?_
    refine oRun.lload_n 15 dX9_partOf_14 0 rfl rfl rfl ?_
    obtain ⟨v15, hv15, h⟩ := oB1 h
    obtain ⟨hz15, hv15⟩ := oDz hv15
    refine oRun.lrem 16 dX9_partOf_15 hz15 rfl ?_
    refine oRun.nameJ hv15 ?_
    refine oRun.lstore 18 dX9_partOf_16 (Nat.le_of_ble_eq_true rfl) rfl rfl ?_
    refine oRun.aload_n 19 dX9_partOf_18 2 rfl rfl (Nat.le_of_ble_eq_true rfl) rfl ?_
    refine oRun.iload_n 20 dX9_partOf_19 3 rfl rfl rfl ?_
    obtain ⟨r20, hr20, h⟩ := oB1 h
    refine oRun.callV (as := [.int x1]) 23 dX9_partOf_20 lk_RX9_147 (oFit_i (Nat.le_of_ble_eq_true rfl) (Nat.le_of_ble_eq_true rfl)) rfl rfl rfl rfl (Nat.le_of_ble_eq_true rfl) (Nat.le_of_ble_eq_true rfl) rfl (E_X9_isRound hr20) rfl ?_
    show oRun G _ 23 _ [.int r20] _ _ _
    by_cases c23 : r20 = 0
    · replace h := oIp c23 h
      refine oRun.if_eq_t 31 dX9_partOf_23 c23 rfl ?_
      refine oRun.lload 33 dX9_partOf_31 0 rfl rfl ?_
      refine oRun.lconst 34 dX9_partOf_33 oc_l0 rfl ?_
      refine oRun.lcmp 35 dX9_partOf_34 rfl ?_
      by_cases c35 : 0 ≤ v15
      · replace h := oIp c35 h
        refine oRun.if_ge_t 45 dX9_partOf_35 ((oLc_ge _ _).mpr c35) rfl ?_
        refine oRun.lload 47 dX9_partOf_45 0 rfl rfl ?_
        rw [← Option.some.inj h]
        exact oRun.ret (r := some (.long v15)) dX9_partOf_47
      · replace h := oIn c35 h
        refine oRun.if_ge_f 38 dX9_partOf_35 rfl (mt (oLc_ge _ _).mp c35) rfl ?_
        refine oRun.lload 40 dX9_partOf_38 0 rfl rfl ?_
        refine oRun.lload_n 41 dX9_partOf_40 1 rfl rfl rfl ?_
        refine oRun.ladd 42 dX9_partOf_41 rfl ?_
        refine oRun.goto 47 dX9_partOf_42 rfl ?_
        rw [← Option.some.inj h]
        exact oRun.ret (r := some (.long (v15 + r2))) dX9_partOf_47
    · replace h := oIn c23 h
      refine oRun.if_eq_f 26 dX9_partOf_23 rfl c23 rfl ?_
      refine oRun.lload 28 dX9_partOf_26 0 rfl rfl ?_
      refine oRun.lneg 29 dX9_partOf_28 rfl ?_
      obtain ⟨x5_29, hx5_29, h⟩ := oB1 h
      refine oRun.nameJ hx5_29 ?_
      refine oRun.lstore 31 dX9_partOf_29 (Nat.le_of_ble_eq_true rfl) rfl rfl ?_
      refine oRun.lload 33 dX9_partOf_31 0 rfl rfl ?_
      refine oRun.lconst 34 dX9_partOf_33 oc_l0 rfl ?_
      refine oRun.lcmp 35 dX9_partOf_34 rfl ?_
      by_cases c35 : 0 ≤ x5_29
      · replace h := oIp c35 h
        refine oRun.if_ge_t 45 dX9_partOf_35 ((oLc_ge _ _).mpr c35) rfl ?_
        refine oRun.lload 47 dX9_partOf_45 0 rfl rfl ?_
        rw [← Option.some.inj h]
        exact oRun.ret (r := some (.long x5_29)) dX9_partOf_47
      · replace h := oIn c35 h
        refine oRun.if_ge_f 38 dX9_partOf_35 rfl (mt (oLc_ge _ _).mp c35) rfl ?_
        refine oRun.lload 40 dX9_partOf_38 0 rfl rfl ?_
        refine oRun.lload_n 41 dX9_partOf_40 1 rfl rfl rfl ?_
        refine oRun.ladd 42 dX9_partOf_41 rfl ?_
        refine oRun.goto 47 dX9_partOf_42 rfl ?_
        rw [← Option.some.inj h]
        exact oRun.ret (r := some (.long (x5_29 + r2))) dX9_partOf_47
  · exact True.intro
set_option maxRecDepth 100000 in
set_option maxHeartbeats 4000000 in
theorem E_X9_join_J143 {G : oG} {m : oM} {x1 : Int32} {x2 : Int32} {x3 : Int32} {x4 : Int64} {x6 : Int64} {x8 : Int32} {x9 : Int64} {r : Option Value} {m' : oM} {q' : (Int32) ⊕ ((Unit) ⊕ (Int32))} (h : F_X9_join_J143 m x1 x2 x3 x4 x6 x8 x9 = some q') (hc : ∀ s' : Int32, q' = .inl s' → oRun G M_X9_join 62 [(0, .ref 51), (1, .int x1), (2, .int x2), (3, .int x3), (4, .long x4), (6, .long x6), (8, .int s')] [] m r m') (hx : ∀ b' : (Unit) ⊕ (Int32), q' = .inr b' → Sum.elim (fun yy => oRun G M_X9_join 170 [] [] m r m') (fun zz => r = (some (.int zz)) ∧ m' = m) b') : oRun G M_X9_join 143 [(0, .ref 51), (1, .int x1), (2, .int x2), (3, .int x3), (4, .long x4), (6, .long x6), (8, .int x8), (9, .long x9)] [] m r m' := by
  unfold F_X9_join_J143 at h
  refine oRun.ldc2 146 dX9_join_143 wd_5_220 rfl ?_
  refine oRun.lload 148 dX9_join_146 7 rfl rfl ?_
  refine oRun.lmul 149 dX9_join_148 rfl ?_
  refine oRun.iload_n 150 dX9_join_149 3 rfl rfl rfl ?_
  refine oRun.i2l 151 dX9_join_150 rfl ?_
  refine oRun.lload 153 dX9_join_151 4 rfl rfl ?_
  refine oRun.lload 155 dX9_join_153 5 rfl rfl ?_
  refine oRun.lmul 156 dX9_join_155 rfl ?_
  refine oRun.lmul 157 dX9_join_156 rfl ?_
  refine oRun.lcmp 158 dX9_join_157 rfl ?_
  by_cases c158 : (x3.toInt64 * (x4 * x6)) < (1000 * x9)
  · replace h := oIp c158 h
    refine oRun.if_gt_t 164 dX9_join_158 ((oLc_gt _ _).mpr c158) rfl ?_
    refine oRun.iinc 167 dX9_join_164 6 rfl (oAddC oc_i1) (Nat.le_of_ble_eq_true rfl) rfl rfl ?_
    refine oRun.goto 62 dX9_join_167 rfl ?_
    cases h
    refine oRun.sub [1, 2, 3, 4, 5, 6, 0] rfl ?_
    exact hc _ rfl
  · replace h := oIn c158 h
    refine oRun.if_gt_f 161 dX9_join_158 rfl (mt (oLc_gt _ _).mp c158) rfl ?_
    refine oRun.iload 163 dX9_join_161 6 rfl rfl ?_
    cases h
    obtain ⟨hr1, hr2⟩ := hx _ rfl
    rw [hr1, hr2]
    exact oRun.ret (r := some (.int x8)) dX9_join_163
set_option maxRecDepth 100000 in
set_option maxHeartbeats 4000000 in
theorem E_X9_join_J119 {G : oG} {m : oM} {x1 : Int32} {x2 : Int32} {x3 : Int32} {x4 : Int64} {x6 : Int64} {x8 : Int32} {x9 : Int64} {r : Option Value} {m' : oM} {q' : (Int32) ⊕ ((Unit) ⊕ (Int32))} (h : F_X9_join_J119 m x1 x2 x3 x4 x6 x8 x9 = some q') (hc : ∀ s' : Int32, q' = .inl s' → oRun G M_X9_join 62 [(0, .ref 51), (1, .int x1), (2, .int x2), (3, .int x3), (4, .long x4), (6, .long x6), (8, .int s')] [] m r m') (hx : ∀ b' : (Unit) ⊕ (Int32), q' = .inr b' → Sum.elim (fun yy => oRun G M_X9_join 170 [] [] m r m') (fun zz => r = (some (.int zz)) ∧ m' = m) b') : oRun G M_X9_join 119 [(0, .ref 51), (1, .int x1), (2, .int x2), (3, .int x3), (4, .long x4), (6, .long x6), (8, .int x8), (9, .long x9)] [] m r m' := by
  unfold F_X9_join_J119 at h
  refine oRun.lload 121 dX9_join_119 4 rfl rfl ?_
  refine oRun.lload 123 dX9_join_121 5 rfl rfl ?_
  refine oRun.lmul 124 dX9_join_123 rfl ?_
  refine oRun.lload 126 dX9_join_124 7 rfl rfl ?_
  refine oRun.lsub 127 dX9_join_126 rfl ?_
  refine oRun.lload 129 dX9_join_127 7 rfl rfl ?_
  refine oRun.lcmp 130 dX9_join_129 rfl ?_
  by_cases c130 : x9 ≤ ((x4 * x6) - x9)
  · replace h := oIp c130 h
    refine oRun.if_ge_t 143 dX9_join_130 ((oLc_ge _ _).mpr c130) rfl ?_
    refine oRun.sub [0, 1, 2, 3, 4, 5, 6, 7] rfl ?_
    exact E_X9_join_J143 h hc hx
  · replace h := oIn c130 h
    refine oRun.if_ge_f 133 dX9_join_130 rfl (mt (oLc_ge _ _).mp c130) rfl ?_
    refine oRun.lload 135 dX9_join_133 4 rfl rfl ?_
    refine oRun.lload 137 dX9_join_135 5 rfl rfl ?_
    refine oRun.lmul 138 dX9_join_137 rfl ?_
    refine oRun.lload 140 dX9_join_138 7 rfl rfl ?_
    refine oRun.lsub 141 dX9_join_140 rfl ?_
    obtain ⟨x9_141, hx9_141, h⟩ := oB1 h
    refine oRun.nameJ hx9_141 ?_
    refine oRun.lstore 143 dX9_join_141 (Nat.le_of_ble_eq_true rfl) rfl rfl ?_
    refine oRun.sub [1, 2, 3, 4, 5, 6, 7, 0] rfl ?_
    exact E_X9_join_J143 h hc hx
set_option maxRecDepth 100000 in
set_option maxHeartbeats 4000000 in
theorem E_X9_join_L62 {G : oG} {m : oM} {x1 : Int32} {x2 : Int32} {x3 : Int32} {x4 : Int64} {x6 : Int64} {r : Option Value} {m' : oM} : ∀ (n : Nat) (x8 : Int32) (b : (Unit) ⊕ (Int32)), oLoop (fun s : Int32 => F_X9_join_L62 m x1 x2 x3 x4 x6 s) n x8 = some b → Sum.elim (fun yy => oRun G M_X9_join 170 [] [] m r m') (fun zz => r = (some (.int zz)) ∧ m' = m) b → oRun G M_X9_join 62 [(0, .ref 51), (1, .int x1), (2, .int x2), (3, .int x3), (4, .long x4), (6, .long x6), (8, .int x8)] [] m r m' := by
  intro n
  induction n with
  | zero => intro x8 b h _; exact (oLoop_zero h).elim
  | succ n ih =>
    intro x8 b h he
    obtain ⟨q', hq', h⟩ := oLoop_succ h
    have hc : ∀ s' : Int32, q' = .inl s' → oRun G M_X9_join 62 [(0, .ref 51), (1, .int x1), (2, .int x2), (3, .int x3), (4, .long x4), (6, .long x6), (8, .int s')] [] m r m' := by
      rintro s' rfl
      exact ih (s') b h he
    have hx : ∀ b' : (Unit) ⊕ (Int32), q' = .inr b' → Sum.elim (fun yy => oRun G M_X9_join 170 [] [] m r m') (fun zz => r = (some (.int zz)) ∧ m' = m) b' := by
      rintro b' rfl
      have h : b' = b := h
      rw [h]
      exact he
    clear h he ih
    have h := hq'
    clear hq'
    replace h : F_X9_join_L62 m x1 x2 x3 x4 x6 x8 = some q' := h
    unfold F_X9_join_L62 at h
    refine oRun.iload 64 dX9_join_62 6 rfl rfl ?_
    refine oRun.sipush 67 dX9_join_64 oc_s999 rfl ?_
    by_cases c67 : 999 < x8
    · replace h := oIp c67 h
      refine oRun.icmp_gt_t 170 dX9_join_67 c67 rfl ?_
      cases h
      refine oRun.sub [] rfl ?_
      exact hx _ rfl
    · replace h := oIn c67 h
      refine oRun.icmp_gt_f 70 dX9_join_67 rfl c67 rfl ?_
      refine oRun.aload_n 71 dX9_join_70 0 rfl rfl (Nat.le_of_ble_eq_true rfl) rfl ?_
      refine oRun.iload_n 72 dX9_join_71 1 rfl rfl rfl ?_
      refine oRun.aload_n 73 dX9_join_72 0 rfl rfl (Nat.le_of_ble_eq_true rfl) rfl ?_
      refine oRun.getR 76 dX9_join_73 fd_RX9_11 rfl rfl (Nat.le_of_ble_eq_true rfl) rfl ?_
      refine oRun.iconst 77 dX9_join_76 oc_i4 rfl ?_
      refine oRun.iaload (x := m.1 52 4) 78 dX9_join_77 (Or.inr ⟨_, rfl⟩) (oAL_lit (i := 4) rfl) rfl ?_
      refine oRun.iload 80 dX9_join_78 6 rfl rfl ?_
      refine oRun.iadd 81 dX9_join_80 rfl ?_
      obtain ⟨r81, hr81, h⟩ := oB1 h
      refine oRun.callV (as := [.int x1, .int ((m.1 52 4) + x8)]) 84 dX9_join_81 lk_RX9_234 (oFit_i (Nat.le_of_ble_eq_true rfl) (Nat.le_of_ble_eq_true rfl)) rfl rfl rfl rfl (Nat.le_of_ble_eq_true rfl) (Nat.le_of_ble_eq_true rfl) rfl (E_X9_partOf hr81) rfl ?_
      show oRun G _ 84 _ [.long r81] _ _ _
      refine oRun.lload 86 dX9_join_84 5 rfl rfl ?_
      refine oRun.lmul 87 dX9_join_86 rfl ?_
      refine oRun.aload_n 88 dX9_join_87 0 rfl rfl (Nat.le_of_ble_eq_true rfl) rfl ?_
      refine oRun.iload_n 89 dX9_join_88 2 rfl rfl rfl ?_
      refine oRun.aload_n 90 dX9_join_89 0 rfl rfl (Nat.le_of_ble_eq_true rfl) rfl ?_
      refine oRun.getR 93 dX9_join_90 fd_RX9_11 rfl rfl (Nat.le_of_ble_eq_true rfl) rfl ?_
      refine oRun.iconst 94 dX9_join_93 oc_i4 rfl ?_
      refine oRun.iaload (x := m.1 52 4) 95 dX9_join_94 (Or.inr ⟨_, rfl⟩) (oAL_lit (i := 4) rfl) rfl ?_
      refine oRun.iload 97 dX9_join_95 6 rfl rfl ?_
      refine oRun.iadd 98 dX9_join_97 rfl ?_
      obtain ⟨r98, hr98, h⟩ := oB1 h
      refine oRun.callV (as := [.int x2, .int ((m.1 52 4) + x8)]) 101 dX9_join_98 lk_RX9_234 (oFit_i (Nat.le_of_ble_eq_true rfl) (Nat.le_of_ble_eq_true rfl)) rfl rfl rfl rfl (Nat.le_of_ble_eq_true rfl) (Nat.le_of_ble_eq_true rfl) rfl (E_X9_partOf hr98) rfl ?_
      show oRun G _ 101 _ [.long r98, .long (r81 * x6)] _ _ _
      refine oRun.lload 103 dX9_join_101 4 rfl rfl ?_
      refine oRun.lmul 104 dX9_join_103 rfl ?_
      refine oRun.lsub 105 dX9_join_104 rfl ?_
      obtain ⟨x9_105, hx9_105, h⟩ := oB1 h
      refine oRun.nameJ hx9_105 ?_
      refine oRun.lstore 107 dX9_join_105 (Nat.le_of_ble_eq_true rfl) rfl rfl ?_
      refine oRun.lload 109 dX9_join_107 0 rfl rfl ?_
      refine oRun.lconst 110 dX9_join_109 oc_l0 rfl ?_
      refine oRun.lcmp 111 dX9_join_110 rfl ?_
      by_cases c111 : 0 ≤ x9_105
      · replace h := oIp c111 h
        refine oRun.if_ge_t 119 dX9_join_111 ((oLc_ge _ _).mpr c111) rfl ?_
        refine oRun.sub [1, 2, 3, 4, 5, 6, 7, 0] rfl ?_
        exact E_X9_join_J119 h hc hx
      · replace h := oIn c111 h
        refine oRun.if_ge_f 114 dX9_join_111 rfl (mt (oLc_ge _ _).mp c111) rfl ?_
        refine oRun.lload 116 dX9_join_114 0 rfl rfl ?_
        refine oRun.lneg 117 dX9_join_116 rfl ?_
        obtain ⟨x9_117, hx9_117, h⟩ := oB1 h
        refine oRun.nameJ hx9_117 ?_
        refine oRun.lstore 119 dX9_join_117 (Nat.le_of_ble_eq_true rfl) rfl rfl ?_
        refine oRun.sub [1, 2, 3, 4, 5, 6, 7, 0] rfl ?_
        exact E_X9_join_J119 h hc hx
set_option maxRecDepth 100000 in
set_option maxHeartbeats 4000000 in
theorem E_X9_join {G : oG} {m : oM} {x1 : Int32} {x2 : Int32} {x3 : Int32} {w : Int32} (h : F_X9_join m x1 x2 x3 = some w) : oEv G M_X9_join [.ref 51, .int x1, .int x2, .int x3] m (some (.int w)) m := by
  unfold F_X9_join at h
  refine ⟨?_, ?_⟩
  · show oRun G M_X9_join 0 [(0, .ref 51), (1, .int x1), (2, .int x2), (3, .int x3)] [] m (some (.int w)) m
    refine oRun.aload_n 1 dX9_join_0 0 rfl rfl (Nat.le_of_ble_eq_true rfl) rfl ?_
    refine oRun.iload_n 2 dX9_join_1 1 rfl rfl rfl ?_
    refine oRun.iload_n 3 dX9_join_2 2 rfl rfl rfl ?_
    obtain ⟨r3, hr3, h⟩ := oB1 h
    refine oRun.callV (as := [.int x1, .int x2]) 6 dX9_join_3 lk_RX9_173 (oFit_i (Nat.le_of_ble_eq_true rfl) (Nat.le_of_ble_eq_true rfl)) rfl rfl rfl rfl (Nat.le_of_ble_eq_true rfl) (Nat.le_of_ble_eq_true rfl) rfl (E_X9_areTwo hr3) rfl ?_
    show oRun G _ 6 _ [.int r3] _ _ _
    by_cases c6 : r3 = 0
    · replace h := oIp c6 h
      refine oRun.if_ne_f 9 dX9_join_6 rfl c6 rfl ?_
      refine oRun.iconst 10 dX9_join_9 oc_im1 rfl ?_
      rw [← Option.some.inj h]
      exact oRun.ret (r := some (.int (-1))) dX9_join_10
    · replace h := oIn c6 h
      refine oRun.if_ne_t 11 dX9_join_6 c6 rfl ?_
      refine oRun.iload_n 12 dX9_join_11 3 rfl rfl rfl ?_
      refine oRun.i2l 13 dX9_join_12 rfl ?_
      refine oRun.lconst 14 dX9_join_13 oc_l0 rfl ?_
      refine oRun.ldc2 17 dX9_join_14 wd_5_215 rfl ?_
      obtain ⟨r17, hr17, h⟩ := oB1 h
      refine oRun.callS (as := [.long x3.toInt64, .long 0, .long 499]) 20 dX9_join_17 lk_RX9_44 (oFit_i (Nat.le_of_ble_eq_true rfl) (Nat.le_of_ble_eq_true rfl)) rfl (Nat.le_of_ble_eq_true rfl) (Nat.le_of_ble_eq_true rfl) rfl (E_X9_isIn hr17) rfl ?_
      show oRun G _ 20 _ [.int r17] _ _ _
      by_cases c20 : r17 = 0
      · replace h := oIp c20 h
        refine oRun.if_ne_f 23 dX9_join_20 rfl c20 rfl ?_
        refine oRun.bipush 25 dX9_join_23 oc_bm2 rfl ?_
        rw [← Option.some.inj h]
        exact oRun.ret (r := some (.int (-2))) dX9_join_25
      · replace h := oIn c20 h
        refine oRun.if_ne_t 26 dX9_join_20 c20 rfl ?_
        refine oRun.aload_n 27 dX9_join_26 0 rfl rfl (Nat.le_of_ble_eq_true rfl) rfl ?_
        refine oRun.iload_n 28 dX9_join_27 1 rfl rfl rfl ?_
        obtain ⟨r28, hr28, h⟩ := oB1 h
        refine oRun.callV (as := [.int x1]) 31 dX9_join_28 lk_RX9_154 (oFit_i (Nat.le_of_ble_eq_true rfl) (Nat.le_of_ble_eq_true rfl)) rfl rfl rfl rfl (Nat.le_of_ble_eq_true rfl) (Nat.le_of_ble_eq_true rfl) rfl (E_X9_hasTrain hr28) rfl ?_
        show oRun G _ 31 _ [.int r28] _ _ _
        by_cases c31 : r28 = 0
        · replace h := oIp c31 h
          refine oRun.if_eq_t 42 dX9_join_31 c31 rfl ?_
          refine oRun.bipush 44 dX9_join_42 oc_bm3 rfl ?_
          rw [← Option.some.inj h]
          exact oRun.ret (r := some (.int (-3))) dX9_join_44
        · replace h := oIn c31 h
          refine oRun.if_eq_f 34 dX9_join_31 rfl c31 rfl ?_
          refine oRun.aload_n 35 dX9_join_34 0 rfl rfl (Nat.le_of_ble_eq_true rfl) rfl ?_
          refine oRun.iload_n 36 dX9_join_35 2 rfl rfl rfl ?_
          obtain ⟨r36, hr36, h⟩ := oB1 h
          refine oRun.callV (as := [.int x2]) 39 dX9_join_36 lk_RX9_154 (oFit_i (Nat.le_of_ble_eq_true rfl) (Nat.le_of_ble_eq_true rfl)) rfl rfl rfl rfl (Nat.le_of_ble_eq_true rfl) (Nat.le_of_ble_eq_true rfl) rfl (E_X9_hasTrain hr36) rfl ?_
          show oRun G _ 39 _ [.int r36] _ _ _
          by_cases c39 : r36 = 0
          · replace h := oIp c39 h
            refine oRun.if_ne_f 42 dX9_join_39 rfl c39 rfl ?_
            refine oRun.bipush 44 dX9_join_42 oc_bm3 rfl ?_
            rw [← Option.some.inj h]
            exact oRun.ret (r := some (.int (-3))) dX9_join_44
          · replace h := oIn c39 h
            refine oRun.if_ne_t 45 dX9_join_39 c39 rfl ?_
            refine oRun.aload_n 46 dX9_join_45 0 rfl rfl (Nat.le_of_ble_eq_true rfl) rfl ?_
            refine oRun.iload_n 47 dX9_join_46 1 rfl rfl rfl ?_
            obtain ⟨r47, hr47, h⟩ := oB1 h
            refine oRun.callV (as := [.int x1]) 50 dX9_join_47 lk_RX9_161 (oFit_i (Nat.le_of_ble_eq_true rfl) (Nat.le_of_ble_eq_true rfl)) rfl rfl rfl rfl (Nat.le_of_ble_eq_true rfl) (Nat.le_of_ble_eq_true rfl) rfl (E_X9_drivens hr47) rfl ?_
            show oRun G _ 50 _ [.long r47] _ _ _
            refine oRun.lstore 52 dX9_join_50 (Nat.le_of_ble_eq_true rfl) rfl rfl ?_
            refine oRun.aload_n 53 dX9_join_52 1 rfl rfl (Nat.le_of_ble_eq_true rfl) rfl ?_
            refine oRun.iload_n 54 dX9_join_53 3 rfl rfl rfl ?_
            obtain ⟨r54, hr54, h⟩ := oB1 h
            refine oRun.callV (as := [.int x2]) 57 dX9_join_54 lk_RX9_161 (oFit_i (Nat.le_of_ble_eq_true rfl) (Nat.le_of_ble_eq_true rfl)) rfl rfl rfl rfl (Nat.le_of_ble_eq_true rfl) (Nat.le_of_ble_eq_true rfl) rfl (E_X9_drivens hr54) rfl ?_
            show oRun G _ 57 _ [.long r54] _ _ _
            refine oRun.lstore 59 dX9_join_57 (Nat.le_of_ble_eq_true rfl) rfl rfl ?_
            refine oRun.iconst 60 dX9_join_59 oc_i1 rfl ?_
            refine oRun.istore 62 dX9_join_60 (Nat.le_of_ble_eq_true rfl) rfl rfl ?_
            obtain ⟨b62, hb62, h⟩ := oB1 h
            refine oRun.sub [3, 4, 5, 6, 2, 1, 0] rfl ?_
            refine E_X9_join_L62 _ _ _ hb62 ?_
            rcases b62 with y62 | z62
            · replace h := oSl h
              show oRun G _ _ _ _ _ _ _
              refine oRun.bipush 172 dX9_join_170 oc_bm5 rfl ?_
              rw [← Option.some.inj h]
              exact oRun.ret (r := some (.int (-5))) dX9_join_172
            · replace h := oSr h
              cases h
              exact ⟨rfl, rfl⟩
  · exact True.intro
set_option maxRecDepth 100000 in
set_option maxHeartbeats 4000000 in
theorem E_X8_drift {G : oG} {m : oM} {x1 : Int32} {x2 : Int32} {w : Int64} (h : F_X8_drift m x1 x2 = some w) : oEv G M_X8_drift [.ref 0, .int x1, .int x2] m (some (.long w)) m := by
  unfold F_X8_drift at h
  refine ⟨?_, ?_⟩
  · show oRun G M_X8_drift 0 [(0, .ref 0), (1, .int x1), (2, .int x2)] [] m (some (.long w)) m
    refine oRun.aload_n 1 dX8_drift_0 0 rfl rfl (Nat.le_of_ble_eq_true rfl) rfl ?_
    refine oRun.getR 4 dX8_drift_1 fd_RX8_12 rfl rfl (Nat.le_of_ble_eq_true rfl) rfl ?_
    refine oRun.iload_n 5 dX8_drift_4 1 rfl rfl rfl ?_
    obtain ⟨r5, hr5, h⟩ := oB1 h
    refine oRun.callV (as := [.int x1]) 8 dX8_drift_5 lk_RX8_192 (oFit_i (Nat.le_of_ble_eq_true rfl) (Nat.le_of_ble_eq_true rfl)) rfl rfl rfl rfl (Nat.le_of_ble_eq_true rfl) (Nat.le_of_ble_eq_true rfl) rfl (E_X1_hasTrain rfl hr5) rfl ?_
    show oRun G _ 8 _ [.int r5] _ _ _
    by_cases c8 : r5 = 0
    · replace h := oIp c8 h
      refine oRun.if_eq_t 22 dX8_drift_8 c8 rfl ?_
      refine oRun.ldc2 25 dX8_drift_22 wd_2_48 rfl ?_
      rw [← Option.some.inj h]
      exact oRun.ret (r := some (.long (-9223372036854775808))) dX8_drift_25
    · replace h := oIn c8 h
      refine oRun.if_eq_f 11 dX8_drift_8 rfl c8 rfl ?_
      refine oRun.iload_n 12 dX8_drift_11 2 rfl rfl rfl ?_
      by_cases c12 : x2 < 0
      · replace h := oIp c12 h
        refine oRun.if_lt_t 22 dX8_drift_12 c12 rfl ?_
        refine oRun.ldc2 25 dX8_drift_22 wd_2_48 rfl ?_
        rw [← Option.some.inj h]
        exact oRun.ret (r := some (.long (-9223372036854775808))) dX8_drift_25
      · replace h := oIn c12 h
        refine oRun.if_lt_f 15 dX8_drift_12 rfl c12 rfl ?_
        refine oRun.iload_n 16 dX8_drift_15 2 rfl rfl rfl ?_
        refine oRun.sipush 19 dX8_drift_16 oc_s9999 rfl ?_
        by_cases c19 : x2 ≤ 9999
        · replace h := oIp c19 h
          refine oRun.icmp_le_t 26 dX8_drift_19 c19 rfl ?_
          refine oRun.ldc2 29 dX8_drift_26 wd_3_189 rfl ?_
          refine oRun.iload_n 30 dX8_drift_29 2 rfl rfl rfl ?_
          refine oRun.i2l 31 dX8_drift_30 rfl ?_
          refine oRun.lmul 32 dX8_drift_31 rfl ?_
          refine oRun.aload_n 33 dX8_drift_32 0 rfl rfl (Nat.le_of_ble_eq_true rfl) rfl ?_
          refine oRun.getR 36 dX8_drift_33 fd_RX8_12 rfl rfl (Nat.le_of_ble_eq_true rfl) rfl ?_
          refine oRun.iload_n 37 dX8_drift_36 1 rfl rfl rfl ?_
          obtain ⟨r37, hr37, h⟩ := oB1 h
          refine oRun.callV (as := [.int x1]) 40 dX8_drift_37 lk_RX8_211 (oFit_i (Nat.le_of_ble_eq_true rfl) (Nat.le_of_ble_eq_true rfl)) rfl rfl rfl rfl (Nat.le_of_ble_eq_true rfl) (Nat.le_of_ble_eq_true rfl) rfl (E_X1_wrongAbove rfl hr37) rfl ?_
          show oRun G _ 40 _ [.long r37, .long (1000 * x2.toInt64)] _ _ _
          refine oRun.lmul 41 dX8_drift_40 rfl ?_
          refine oRun.aload_n 42 dX8_drift_41 0 rfl rfl (Nat.le_of_ble_eq_true rfl) rfl ?_
          refine oRun.getR 45 dX8_drift_42 fd_RX8_12 rfl rfl (Nat.le_of_ble_eq_true rfl) rfl ?_
          refine oRun.iload_n 46 dX8_drift_45 1 rfl rfl rfl ?_
          obtain ⟨r46, hr46, h⟩ := oB1 h
          refine oRun.callV (as := [.int x1]) 49 dX8_drift_46 lk_RX8_214 (oFit_i (Nat.le_of_ble_eq_true rfl) (Nat.le_of_ble_eq_true rfl)) rfl rfl rfl rfl (Nat.le_of_ble_eq_true rfl) (Nat.le_of_ble_eq_true rfl) rfl (E_X1_wrongBelow rfl hr46) rfl ?_
          show oRun G _ 49 _ [.long r46, .long ((1000 * x2.toInt64) * r37)] _ _ _
          obtain ⟨r49, hr49, h⟩ := oB1 h
          refine oRun.callS (as := [.long ((1000 * x2.toInt64) * r37), .long r46]) 52 dX8_drift_49 lk_RX8_92 (oFit_i (Nat.le_of_ble_eq_true rfl) (Nat.le_of_ble_eq_true rfl)) rfl (Nat.le_of_ble_eq_true rfl) (Nat.le_of_ble_eq_true rfl) rfl (E_X8_quotient hr49) rfl ?_
          show oRun G _ 52 _ [.long r49] _ _ _
          rw [← Option.some.inj h]
          exact oRun.ret (r := some (.long r49)) dX8_drift_52
        · replace h := oIn c19 h
          refine oRun.icmp_le_f 22 dX8_drift_19 rfl c19 rfl ?_
          refine oRun.ldc2 25 dX8_drift_22 wd_2_48 rfl ?_
          rw [← Option.some.inj h]
          exact oRun.ret (r := some (.long (-9223372036854775808))) dX8_drift_25
  · exact True.intro
set_option maxRecDepth 100000 in
set_option maxHeartbeats 4000000 in
theorem E_X9_drift {G : oG} {m : oM} {x1 : Int32} {x2 : Int32} {w : Int64} (h : F_X9_drift m x1 x2 = some w) : oEv G M_X9_drift [.ref 51, .int x1, .int x2] m (some (.long w)) m := by
  unfold F_X9_drift at h
  refine ⟨?_, ?_⟩
  · show oRun G M_X9_drift 0 [(0, .ref 51), (1, .int x1), (2, .int x2)] [] m (some (.long w)) m
    refine oRun.aload_n 1 dX9_drift_0 0 rfl rfl (Nat.le_of_ble_eq_true rfl) rfl ?_
    refine oRun.iload_n 2 dX9_drift_1 1 rfl rfl rfl ?_
    obtain ⟨r2, hr2, h⟩ := oB1 h
    refine oRun.callV (as := [.int x1]) 5 dX9_drift_2 lk_RX9_154 (oFit_i (Nat.le_of_ble_eq_true rfl) (Nat.le_of_ble_eq_true rfl)) rfl rfl rfl rfl (Nat.le_of_ble_eq_true rfl) (Nat.le_of_ble_eq_true rfl) rfl (E_X9_hasTrain hr2) rfl ?_
    show oRun G _ 5 _ [.int r2] _ _ _
    by_cases c5 : r2 = 0
    · replace h := oIp c5 h
      refine oRun.if_eq_t 20 dX9_drift_5 c5 rfl ?_
      refine oRun.ldc2 23 dX9_drift_20 wd_4_201 rfl ?_
      rw [← Option.some.inj h]
      exact oRun.ret (r := some (.long (-9223372036854775808))) dX9_drift_23
    · replace h := oIn c5 h
      refine oRun.if_eq_f 8 dX9_drift_5 rfl c5 rfl ?_
      refine oRun.iload_n 9 dX9_drift_8 2 rfl rfl rfl ?_
      refine oRun.i2l 10 dX9_drift_9 rfl ?_
      refine oRun.lconst 11 dX9_drift_10 oc_l0 rfl ?_
      refine oRun.ldc2 14 dX9_drift_11 wd_4_164 rfl ?_
      obtain ⟨r14, hr14, h⟩ := oB1 h
      refine oRun.callS (as := [.long x2.toInt64, .long 0, .long 9999]) 17 dX9_drift_14 lk_RX9_44 (oFit_i (Nat.le_of_ble_eq_true rfl) (Nat.le_of_ble_eq_true rfl)) rfl (Nat.le_of_ble_eq_true rfl) (Nat.le_of_ble_eq_true rfl) rfl (E_X9_isIn hr14) rfl ?_
      show oRun G _ 17 _ [.int r14] _ _ _
      by_cases c17 : r14 = 0
      · replace h := oIp c17 h
        refine oRun.if_ne_f 20 dX9_drift_17 rfl c17 rfl ?_
        refine oRun.ldc2 23 dX9_drift_20 wd_4_201 rfl ?_
        rw [← Option.some.inj h]
        exact oRun.ret (r := some (.long (-9223372036854775808))) dX9_drift_23
      · replace h := oIn c17 h
        refine oRun.if_ne_t 24 dX9_drift_17 c17 rfl ?_
        refine oRun.ldc2 27 dX9_drift_24 wd_5_220 rfl ?_
        refine oRun.iload_n 28 dX9_drift_27 2 rfl rfl rfl ?_
        refine oRun.i2l 29 dX9_drift_28 rfl ?_
        refine oRun.lmul 30 dX9_drift_29 rfl ?_
        refine oRun.aload_n 31 dX9_drift_30 0 rfl rfl (Nat.le_of_ble_eq_true rfl) rfl ?_
        refine oRun.iload_n 32 dX9_drift_31 1 rfl rfl rfl ?_
        refine oRun.iconst 33 dX9_drift_32 oc_i0 rfl ?_
        obtain ⟨r33, hr33, h⟩ := oB1 h
        refine oRun.callV (as := [.int x1, .int 0]) 36 dX9_drift_33 lk_RX9_239 (oFit_i (Nat.le_of_ble_eq_true rfl) (Nat.le_of_ble_eq_true rfl)) rfl rfl rfl rfl (Nat.le_of_ble_eq_true rfl) (Nat.le_of_ble_eq_true rfl) rfl (E_X9_wrong hr33) rfl ?_
        show oRun G _ 36 _ [.long r33, .long (1000 * x2.toInt64)] _ _ _
        refine oRun.lmul 37 dX9_drift_36 rfl ?_
        refine oRun.aload_n 38 dX9_drift_37 0 rfl rfl (Nat.le_of_ble_eq_true rfl) rfl ?_
        refine oRun.iload_n 39 dX9_drift_38 1 rfl rfl rfl ?_
        refine oRun.iconst 40 dX9_drift_39 oc_i1 rfl ?_
        obtain ⟨r40, hr40, h⟩ := oB1 h
        refine oRun.callV (as := [.int x1, .int 1]) 43 dX9_drift_40 lk_RX9_239 (oFit_i (Nat.le_of_ble_eq_true rfl) (Nat.le_of_ble_eq_true rfl)) rfl rfl rfl rfl (Nat.le_of_ble_eq_true rfl) (Nat.le_of_ble_eq_true rfl) rfl (E_X9_wrong hr40) rfl ?_
        show oRun G _ 43 _ [.long r40, .long ((1000 * x2.toInt64) * r33)] _ _ _
        obtain ⟨v43, hv43, h⟩ := oB1 h
        obtain ⟨hz43, hv43⟩ := oDz hv43
        refine oRun.ldiv 44 dX9_drift_43 hz43 rfl ?_
        refine oRun.nameJ hv43 ?_
        rw [← Option.some.inj h]
        exact oRun.ret (r := some (.long v43)) dX9_drift_44
  · exact True.intro
