set_option maxRecDepth 100000 in
set_option maxHeartbeats 4000000 in
theorem E_X8_isRatio {G : oG} {m : oM} {x0 : Int32} {x1 : Int32} {w : Int32} (h : F_X8_isRatio x0 x1 = some w) : oEv G M_X8_isRatio [.int x0, .int x1] m (some (.int w)) m := by
  unfold F_X8_isRatio at h
  refine ⟨?_, ?_⟩
  · show oRun G M_X8_isRatio 0 [(0, .int x0), (1, .int x1)] [] m (some (.int w)) m
    refine oRun.iload_n 1 dX8_isRatio_0 0 rfl rfl rfl ?_
    refine oRun.iconst 2 dX8_isRatio_1 oc_i1 rfl ?_
    by_cases c2 : x0 < 1
    · replace h := oIp c2 h
      refine oRun.icmp_lt_t 28 dX8_isRatio_2 c2 rfl ?_
      refine oRun.iconst 29 dX8_isRatio_28 oc_i0 rfl ?_
      rw [← Option.some.inj h]
      exact oRun.ret (r := some (.int 0)) dX8_isRatio_29
    · replace h := oIn c2 h
      refine oRun.icmp_lt_f 5 dX8_isRatio_2 rfl c2 rfl ?_
      refine oRun.iload_n 6 dX8_isRatio_5 0 rfl rfl rfl ?_
      refine oRun.sipush 9 dX8_isRatio_6 oc_s9999 rfl ?_
      by_cases c9 : 9999 < x0
      · replace h := oIp c9 h
        refine oRun.icmp_gt_t 28 dX8_isRatio_9 c9 rfl ?_
        refine oRun.iconst 29 dX8_isRatio_28 oc_i0 rfl ?_
        rw [← Option.some.inj h]
        exact oRun.ret (r := some (.int 0)) dX8_isRatio_29
      · replace h := oIn c9 h
        refine oRun.icmp_gt_f 12 dX8_isRatio_9 rfl c9 rfl ?_
        refine oRun.iload_n 13 dX8_isRatio_12 1 rfl rfl rfl ?_
        refine oRun.iconst 14 dX8_isRatio_13 oc_i1 rfl ?_
        by_cases c14 : x1 < 1
        · replace h := oIp c14 h
          refine oRun.icmp_lt_t 28 dX8_isRatio_14 c14 rfl ?_
          refine oRun.iconst 29 dX8_isRatio_28 oc_i0 rfl ?_
          rw [← Option.some.inj h]
          exact oRun.ret (r := some (.int 0)) dX8_isRatio_29
        · replace h := oIn c14 h
          refine oRun.icmp_lt_f 17 dX8_isRatio_14 rfl c14 rfl ?_
          refine oRun.iload_n 18 dX8_isRatio_17 1 rfl rfl rfl ?_
          refine oRun.sipush 21 dX8_isRatio_18 oc_s9999 rfl ?_
          by_cases c21 : 9999 < x1
          · replace h := oIp c21 h
            refine oRun.icmp_gt_t 28 dX8_isRatio_21 c21 rfl ?_
            refine oRun.iconst 29 dX8_isRatio_28 oc_i0 rfl ?_
            rw [← Option.some.inj h]
            exact oRun.ret (r := some (.int 0)) dX8_isRatio_29
          · replace h := oIn c21 h
            refine oRun.icmp_gt_f 24 dX8_isRatio_21 rfl c21 rfl ?_
            refine oRun.iconst 25 dX8_isRatio_24 oc_i1 rfl ?_
            refine oRun.goto 29 dX8_isRatio_25 rfl ?_
            rw [← Option.some.inj h]
            exact oRun.ret (r := some (.int 1)) dX8_isRatio_29
  · show oROK (some .boolean) (some (.int w))
    by_cases c2 : x0 < 1
    · replace h := oIp c2 h
      rw [← Option.some.inj h]
      exact Or.inl rfl
    · replace h := oIn c2 h
      by_cases c9 : 9999 < x0
      · replace h := oIp c9 h
        rw [← Option.some.inj h]
        exact Or.inl rfl
      · replace h := oIn c9 h
        by_cases c14 : x1 < 1
        · replace h := oIp c14 h
          rw [← Option.some.inj h]
          exact Or.inl rfl
        · replace h := oIn c14 h
          by_cases c21 : 9999 < x1
          · replace h := oIp c21 h
            rw [← Option.some.inj h]
            exact Or.inl rfl
          · replace h := oIn c21 h
            rw [← Option.some.inj h]
            exact Or.inr rfl
set_option maxRecDepth 100000 in
set_option maxHeartbeats 4000000 in
theorem E_J9_abs_067f4 {G : oG} {m : oM} {x0 : Int64} {w : Int64} (h : F_J9_abs_067f4 x0 = some w) : oEv G M_J9_abs_067f4 [.long x0] m (some (.long w)) m := by
  unfold F_J9_abs_067f4 at h
  refine ⟨?_, ?_⟩
  · show oRun G M_J9_abs_067f4 0 [(0, .long x0)] [] m (some (.long w)) m
    refine oRun.lload_n 1 dJ9_abs_067f4_0 0 rfl rfl rfl ?_
    refine oRun.lconst 2 dJ9_abs_067f4_1 oc_l0 rfl ?_
    refine oRun.lcmp 3 dJ9_abs_067f4_2 rfl ?_
    by_cases c3 : 0 ≤ x0
    · replace h := oIp c3 h
      refine oRun.if_ge_t 11 dJ9_abs_067f4_3 ((oLc_ge _ _).mpr c3) rfl ?_
      refine oRun.lload_n 12 dJ9_abs_067f4_11 0 rfl rfl rfl ?_
      rw [← Option.some.inj h]
      exact oRun.ret (r := some (.long x0)) dJ9_abs_067f4_12
    · replace h := oIn c3 h
      refine oRun.if_ge_f 6 dJ9_abs_067f4_3 rfl (mt (oLc_ge _ _).mp c3) rfl ?_
      refine oRun.lload_n 7 dJ9_abs_067f4_6 0 rfl rfl rfl ?_
      refine oRun.lneg 8 dJ9_abs_067f4_7 rfl ?_
      refine oRun.goto 12 dJ9_abs_067f4_8 rfl ?_
      rw [← Option.some.inj h]
      exact oRun.ret (r := some (.long (-x0))) dJ9_abs_067f4_12
  · exact True.intro
set_option maxRecDepth 100000 in
set_option maxHeartbeats 4000000 in
theorem E_X8_greatestCommon_L9 {G : oG} {m : oM} {r : Option Value} {m' : oM} : ∀ (n : Nat) (x4 : Int64) (x6 : Int64) (x8 : Int32) (b : Int64), oLoop (fun s : Int64 × Int64 × Int32 => F_X8_greatestCommon_L9 s.1 s.2.1 s.2.2) n (x4, x6, x8) = some b → oRun G M_X8_greatestCommon 44 [(4, .long b)] [] m r m' → oRun G M_X8_greatestCommon 9 [(4, .long x4), (6, .long x6), (8, .int x8)] [] m r m' := by
  intro n
  induction n with
  | zero => intro x4 x6 x8 b h _; exact (oLoop_zero h).elim
  | succ n ih =>
    intro x4 x6 x8 b h he
    obtain ⟨q', hq', h⟩ := oLoop_succ h
    have hc : ∀ s' : Int64 × Int64 × Int32, q' = .inl s' → oRun G M_X8_greatestCommon 9 [(4, .long s'.1), (6, .long s'.2.1), (8, .int s'.2.2)] [] m r m' := by
      rintro s' rfl
      exact ih (s'.1) (s'.2.1) (s'.2.2) b h he
    have hx : ∀ b' : Int64, q' = .inr b' → oRun G M_X8_greatestCommon 44 [(4, .long b')] [] m r m' := by
      rintro b' rfl
      have h : b' = b := h
      rw [h]
      exact he
    clear h he ih
    have h := hq'
    clear hq'
    replace h : F_X8_greatestCommon_L9 x4 x6 x8 = some q' := h
    unfold F_X8_greatestCommon_L9 at h
    refine oRun.iload 11 dX8_greatestCommon_9 2 rfl rfl ?_
    refine oRun.bipush 13 dX8_greatestCommon_11 oc_b100 rfl ?_
    by_cases c13 : 100 ≤ x8
    · replace h := oIp c13 h
      refine oRun.icmp_ge_t 44 dX8_greatestCommon_13 c13 rfl ?_
      cases h
      refine oRun.sub [0] rfl ?_
      exact hx _ rfl
    · replace h := oIn c13 h
      refine oRun.icmp_ge_f 16 dX8_greatestCommon_13 rfl c13 rfl ?_
      refine oRun.lload 18 dX8_greatestCommon_16 1 rfl rfl ?_
      refine oRun.lconst 19 dX8_greatestCommon_18 oc_l0 rfl ?_
      refine oRun.lcmp 20 dX8_greatestCommon_19 rfl ?_
      by_cases c20 : x6 = 0
      · replace h := oIp c20 h
        refine oRun.if_eq_t 44 dX8_greatestCommon_20 ((oLc_eq _ _).mpr c20) rfl ?_
        cases h
        refine oRun.sub [0] rfl ?_
        exact hx _ rfl
      · replace h := oIn c20 h
        refine oRun.if_eq_f 23 dX8_greatestCommon_20 rfl (mt (oLc_eq _ _).mp c20) rfl ?_
        refine oRun.lload 25 dX8_greatestCommon_23 0 rfl rfl ?_
        refine oRun.lload 27 dX8_greatestCommon_25 1 rfl rfl ?_
        obtain ⟨v27, hv27, h⟩ := oB1 h
        obtain ⟨hz27, hv27⟩ := oDz hv27
        refine oRun.lrem 28 dX8_greatestCommon_27 hz27 rfl ?_
        refine oRun.nameJ hv27 ?_
        refine oRun.lstore 30 dX8_greatestCommon_28 (Nat.le_of_ble_eq_true rfl) rfl rfl ?_
        refine oRun.lload 32 dX8_greatestCommon_30 2 rfl rfl ?_
        refine oRun.lstore 34 dX8_greatestCommon_32 (Nat.le_of_ble_eq_true rfl) rfl rfl ?_
        refine oRun.lload 36 dX8_greatestCommon_34 1 rfl rfl ?_
        refine oRun.lstore 38 dX8_greatestCommon_36 (Nat.le_of_ble_eq_true rfl) rfl rfl ?_
        refine oRun.iinc 41 dX8_greatestCommon_38 3 rfl (oAddC oc_i1) (Nat.le_of_ble_eq_true rfl) rfl rfl ?_
        refine oRun.goto 9 dX8_greatestCommon_41 rfl ?_
        cases h
        refine oRun.sub [2, 1, 0] rfl ?_
        exact hc _ rfl
set_option maxRecDepth 100000 in
set_option maxHeartbeats 4000000 in
theorem E_X8_greatestCommon {G : oG} {m : oM} {x0 : Int64} {x2 : Int64} {w : Int64} (h : F_X8_greatestCommon x0 x2 = some w) : oEv G M_X8_greatestCommon [.long x0, .long x2] m (some (.long w)) m := by
  unfold F_X8_greatestCommon at h
  refine ⟨?_, ?_⟩
  · show oRun G M_X8_greatestCommon 0 [(0, .long x0), (2, .long x2)] [] m (some (.long w)) m
    refine oRun.lload_n 1 dX8_greatestCommon_0 0 rfl rfl rfl ?_
    refine oRun.lstore 3 dX8_greatestCommon_1 (Nat.le_of_ble_eq_true rfl) rfl rfl ?_
    refine oRun.lload_n 4 dX8_greatestCommon_3 2 rfl rfl rfl ?_
    refine oRun.lstore 6 dX8_greatestCommon_4 (Nat.le_of_ble_eq_true rfl) rfl rfl ?_
    refine oRun.iconst 7 dX8_greatestCommon_6 oc_i0 rfl ?_
    refine oRun.istore 9 dX8_greatestCommon_7 (Nat.le_of_ble_eq_true rfl) rfl rfl ?_
    obtain ⟨b9, hb9, h⟩ := oB1 h
    refine oRun.sub [2, 1, 0] rfl ?_
    refine E_X8_greatestCommon_L9 _ _ _ _ _ hb9 ?_
    refine oRun.lload 46 dX8_greatestCommon_44 0 rfl rfl ?_
    rw [← Option.some.inj h]
    exact oRun.ret (r := some (.long b9)) dX8_greatestCommon_46
  · exact True.intro
set_option maxRecDepth 100000 in
set_option maxHeartbeats 4000000 in
theorem E_X8_quotient {G : oG} {m : oM} {x0 : Int64} {x2 : Int64} {w : Int64} (h : F_X8_quotient x0 x2 = some w) : oEv G M_X8_quotient [.long x0, .long x2] m (some (.long w)) m := by
  unfold F_X8_quotient at h
  refine ⟨?_, ?_⟩
  · show oRun G M_X8_quotient 0 [(0, .long x0), (2, .long x2)] [] m (some (.long w)) m
    refine oRun.lload_n 1 dX8_quotient_0 1 rfl rfl rfl ?_
    refine oRun.lconst 2 dX8_quotient_1 oc_l0 rfl ?_
    refine oRun.lcmp 3 dX8_quotient_2 rfl ?_
    by_cases c3 : x2 = 0
    · replace h := oIp c3 h
      refine oRun.if_ne_f 6 dX8_quotient_3 rfl ((oLc_eq _ _).mpr c3) rfl ?_
      refine oRun.lconst 7 dX8_quotient_6 oc_l0 rfl ?_
      refine oRun.goto 13 dX8_quotient_7 rfl ?_
      rw [← Option.some.inj h]
      exact oRun.ret (r := some (.long 0)) dX8_quotient_13
    · replace h := oIn c3 h
      refine oRun.if_ne_t 10 dX8_quotient_3 (mt (oLc_eq _ _).mp c3) rfl ?_
      refine oRun.lload_n 11 dX8_quotient_10 0 rfl rfl rfl ?_
      refine oRun.lload_n 12 dX8_quotient_11 1 rfl rfl rfl ?_
      obtain ⟨v12, hv12, h⟩ := oB1 h
      obtain ⟨hz12, hv12⟩ := oDz hv12
      refine oRun.ldiv 13 dX8_quotient_12 hz12 rfl ?_
      refine oRun.nameJ hv12 ?_
      rw [← Option.some.inj h]
      exact oRun.ret (r := some (.long v12)) dX8_quotient_13
  · exact True.intro
set_option maxRecDepth 100000 in
set_option maxHeartbeats 4000000 in
theorem E_X8_lowest {G : oG} {m : oM} {x0 : Int64} {x2 : Int64} {x4 : Int32} {w : Int64} (h : F_X8_lowest x0 x2 x4 = some w) : oEv G M_X8_lowest [.long x0, .long x2, .int x4] m (some (.long w)) m := by
  unfold F_X8_lowest at h
  refine ⟨?_, ?_⟩
  · show oRun G M_X8_lowest 0 [(0, .long x0), (2, .long x2), (4, .int x4)] [] m (some (.long w)) m
    refine oRun.lload_n 1 dX8_lowest_0 0 rfl rfl rfl ?_
    obtain ⟨r1, hr1, h⟩ := oB1 h
    refine oRun.callS (as := [.long x0]) 4 dX8_lowest_1 lk_RX8_96 (oFit_i (Nat.le_of_ble_eq_true rfl) (Nat.le_of_ble_eq_true rfl)) rfl (Nat.le_of_ble_eq_true rfl) (Nat.le_of_ble_eq_true rfl) rfl (E_J9_abs_067f4 hr1) rfl ?_
    show oRun G _ 4 _ [.long r1] _ _ _
    refine oRun.lload_n 5 dX8_lowest_4 1 rfl rfl rfl ?_
    obtain ⟨r5, hr5, h⟩ := oB1 h
    refine oRun.callS (as := [.long r1, .long x2]) 8 dX8_lowest_5 lk_RX8_273 (oFit_i (Nat.le_of_ble_eq_true rfl) (Nat.le_of_ble_eq_true rfl)) rfl (Nat.le_of_ble_eq_true rfl) (Nat.le_of_ble_eq_true rfl) rfl (E_X8_greatestCommon hr5) rfl ?_
    show oRun G _ 8 _ [.long r5] _ _ _
    refine oRun.lstore 10 dX8_lowest_8 (Nat.le_of_ble_eq_true rfl) rfl rfl ?_
    refine oRun.iload 12 dX8_lowest_10 3 rfl rfl ?_
    by_cases c12 : x4 = 0
    · replace h := oIp c12 h
      refine oRun.if_ne_f 15 dX8_lowest_12 rfl c12 rfl ?_
      refine oRun.lload_n 16 dX8_lowest_15 1 rfl rfl rfl ?_
      refine oRun.goto 20 dX8_lowest_16 rfl ?_
      refine oRun.lload 22 dX8_lowest_20 0 rfl rfl ?_
      obtain ⟨r22, hr22, h⟩ := oB1 h
      refine oRun.callS (as := [.long x0, .long r5]) 25 dX8_lowest_22 lk_RX8_92 (oFit_i (Nat.le_of_ble_eq_true rfl) (Nat.le_of_ble_eq_true rfl)) rfl (Nat.le_of_ble_eq_true rfl) (Nat.le_of_ble_eq_true rfl) rfl (E_X8_quotient hr22) rfl ?_
      show oRun G _ 25 _ [.long r22] _ _ _
      rw [← Option.some.inj h]
      exact oRun.ret (r := some (.long r22)) dX8_lowest_25
    · replace h := oIn c12 h
      refine oRun.if_ne_t 19 dX8_lowest_12 c12 rfl ?_
      refine oRun.lload_n 20 dX8_lowest_19 2 rfl rfl rfl ?_
      refine oRun.lload 22 dX8_lowest_20 0 rfl rfl ?_
      obtain ⟨r22, hr22, h⟩ := oB1 h
      refine oRun.callS (as := [.long x2, .long r5]) 25 dX8_lowest_22 lk_RX8_92 (oFit_i (Nat.le_of_ble_eq_true rfl) (Nat.le_of_ble_eq_true rfl)) rfl (Nat.le_of_ble_eq_true rfl) (Nat.le_of_ble_eq_true rfl) rfl (E_X8_quotient hr22) rfl ?_
      show oRun G _ 25 _ [.long r22] _ _ _
      rw [← Option.some.inj h]
      exact oRun.ret (r := some (.long r22)) dX8_lowest_25
  · exact True.intro
set_option maxRecDepth 100000 in
set_option maxHeartbeats 4000000 in
theorem E_X8_set {G : oG} {p0 : Nat} (hp0 : oWA p0) {m : oM} {x1 : Int32} {x2 : Int32} {w : oM} (h : F_X8_set p0 m x1 x2 = some w) : oEv G M_X8_set [.ref p0, .int x1, .int x2] m none w := by
  unfold F_X8_set at h
  refine ⟨?_, ?_⟩
  · show oRun G M_X8_set 0 [(0, .ref p0), (1, .int x1), (2, .int x2)] [] m none w
    refine oRun.iload_n 1 dX8_set_0 1 rfl rfl rfl ?_
    by_cases c1 : x1 < 0
    · replace h := oIp c1 h
      refine oRun.if_lt_t 14 dX8_set_1 c1 rfl ?_
      rw [← Option.some.inj h]
      exact oRun.ret (r := none) dX8_set_14
    · replace h := oIn c1 h
      refine oRun.if_lt_f 4 dX8_set_1 rfl c1 rfl ?_
      refine oRun.iload_n 5 dX8_set_4 1 rfl rfl rfl ?_
      refine oRun.aload_n 6 dX8_set_5 0 rfl rfl (oWA_lt hp0) rfl ?_
      refine oRun.aleni 7 dX8_set_6 (Or.inr hp0) rfl ?_
      by_cases c7 : (Int32.ofNat (oLn p0)) ≤ x1
      · replace h := oIp c7 h
        refine oRun.icmp_ge_t 14 dX8_set_7 c7 rfl ?_
        rw [← Option.some.inj h]
        exact oRun.ret (r := none) dX8_set_14
      · replace h := oIn c7 h
        refine oRun.icmp_ge_f 10 dX8_set_7 rfl c7 rfl ?_
        refine oRun.aload_n 11 dX8_set_10 0 rfl rfl (oWA_lt hp0) rfl ?_
        refine oRun.iload_n 12 dX8_set_11 1 rfl rfl rfl ?_
        refine oRun.iload_n 13 dX8_set_12 2 rfl rfl rfl ?_
        obtain ⟨m13, hm13, h⟩ := oB1 h
        refine oRun.iastore 14 dX8_set_13 (hp0).choose_spec hm13 rfl ?_
        rw [← Option.some.inj h]
        exact oRun.ret (r := none) dX8_set_14
  · exact True.intro
set_option maxRecDepth 100000 in
set_option maxHeartbeats 4000000 in
theorem E_X1_wish {G : oG} {o : Nat} (ho : oOb o = true) {m : oM} {x1 : Int32} {x2 : Int32} {x3 : Int32} {w : oM} (h : F_X1_wish o m x1 x2 x3 = some w) : oEv G M_X1_wish [.ref o, .int x1, .int x2, .int x3] m none w := by
  unfold F_X1_wish at h
  refine ⟨?_, ?_⟩
  · show oRun G M_X1_wish 0 [(0, .ref o), (1, .int x1), (2, .int x2), (3, .int x3)] [] m none w
    refine oRun.aload_n 1 dX1_wish_0 0 rfl rfl (oLt66 (oO_lt ho)) rfl ?_
    refine oRun.getR 4 dX1_wish_1 fd_RX1_15 (oO_sh ho) rfl (oO_l1 ho) rfl ?_
    refine oRun.iload_n 5 dX1_wish_4 1 rfl rfl rfl ?_
    refine oRun.iload_n 6 dX1_wish_5 2 rfl rfl rfl ?_
    refine oRun.i2l 7 dX1_wish_6 rfl ?_
    refine oRun.iload_n 8 dX1_wish_7 3 rfl rfl rfl ?_
    refine oRun.i2l 9 dX1_wish_8 rfl ?_
    refine oRun.iconst 10 dX1_wish_9 oc_i0 rfl ?_
    obtain ⟨r10, hr10, h⟩ := oB1 h
    refine oRun.callN (as := [.long x2.toInt64, .long x3.toInt64, .int 0]) 13 dX1_wish_10 lk_RX1_78 (oFit_i (Nat.le_of_ble_eq_true rfl) (Nat.le_of_ble_eq_true rfl)) rfl (Nat.le_of_ble_eq_true rfl) (Nat.le_of_ble_eq_true rfl) rfl (E_X8_lowest hr10) rfl ?_
    show oRun G _ 13 _ [.long r10, .int x1, .ref (o + 1)] _ _ _
    refine oRun.l2i 14 dX1_wish_13 rfl ?_
    obtain ⟨r14, hr14, h⟩ := oB1 h
    refine oRun.callN (as := [.ref (o + 1), .int x1, .int r10.toInt32]) 17 dX1_wish_14 lk_RX1_82 (oFit_i (Nat.le_of_ble_eq_true rfl) (Nat.le_of_ble_eq_true rfl)) rfl (Nat.le_of_ble_eq_true rfl) (Nat.le_of_ble_eq_true rfl) rfl (E_X8_set (oWA_i (oO_a1 ho)) hr14) rfl ?_
    show oRun G _ 17 _ [] _ _ _
    refine oRun.aload_n 18 dX1_wish_17 0 rfl rfl (oLt66 (oO_lt ho)) rfl ?_
    refine oRun.getR 21 dX1_wish_18 fd_RX1_19 (oO_sh ho) rfl (oO_l2 ho) rfl ?_
    refine oRun.iload_n 22 dX1_wish_21 1 rfl rfl rfl ?_
    refine oRun.iload_n 23 dX1_wish_22 2 rfl rfl rfl ?_
    refine oRun.i2l 24 dX1_wish_23 rfl ?_
    refine oRun.iload_n 25 dX1_wish_24 3 rfl rfl rfl ?_
    refine oRun.i2l 26 dX1_wish_25 rfl ?_
    refine oRun.iconst 27 dX1_wish_26 oc_i1 rfl ?_
    obtain ⟨r27, hr27, h⟩ := oB1 h
    refine oRun.callN (as := [.long x2.toInt64, .long x3.toInt64, .int 1]) 30 dX1_wish_27 lk_RX1_78 (oFit_i (Nat.le_of_ble_eq_true rfl) (Nat.le_of_ble_eq_true rfl)) rfl (Nat.le_of_ble_eq_true rfl) (Nat.le_of_ble_eq_true rfl) rfl (E_X8_lowest hr27) rfl ?_
    show oRun G _ 30 _ [.long r27, .int x1, .ref (o + 2)] _ _ _
    refine oRun.l2i 31 dX1_wish_30 rfl ?_
    obtain ⟨r31, hr31, h⟩ := oB1 h
    refine oRun.callN (as := [.ref (o + 2), .int x1, .int r27.toInt32]) 34 dX1_wish_31 lk_RX1_82 (oFit_i (Nat.le_of_ble_eq_true rfl) (Nat.le_of_ble_eq_true rfl)) rfl (Nat.le_of_ble_eq_true rfl) (Nat.le_of_ble_eq_true rfl) rfl (E_X8_set (oWA_i (oO_a2 ho)) hr31) rfl ?_
    show oRun G _ 34 _ [] _ _ _
    rw [← Option.some.inj h]
    exact oRun.ret (r := none) dX1_wish_34
  · exact True.intro
set_option maxRecDepth 100000 in
set_option maxHeartbeats 4000000 in
theorem E_X8_body {G : oG} {m : oM} {x1 : Int32} {x2 : Int32} {w : Int32 × oM} (h : F_X8_body m x1 x2 = some w) : oEv G M_X8_body [.ref 0, .int x1, .int x2] m (some (.int w.1)) w.2 := by
  unfold F_X8_body at h
  refine ⟨?_, ?_⟩
  · show oRun G M_X8_body 0 [(0, .ref 0), (1, .int x1), (2, .int x2)] [] m (some (.int w.1)) w.2
    refine oRun.iload_n 1 dX8_body_0 1 rfl rfl rfl ?_
    refine oRun.iload_n 2 dX8_body_1 2 rfl rfl rfl ?_
    obtain ⟨r2, hr2, h⟩ := oB1 h
    refine oRun.callS (as := [.int x1, .int x2]) 5 dX8_body_2 lk_RX8_56 (oFit_i (Nat.le_of_ble_eq_true rfl) (Nat.le_of_ble_eq_true rfl)) rfl (Nat.le_of_ble_eq_true rfl) (Nat.le_of_ble_eq_true rfl) rfl (E_X8_isRatio hr2) rfl ?_
    show oRun G _ 5 _ [.int r2] _ _ _
    by_cases c5 : r2 = 0
    · replace h := oIp c5 h
      refine oRun.if_ne_f 8 dX8_body_5 rfl c5 rfl ?_
      refine oRun.bipush 10 dX8_body_8 oc_bm2 rfl ?_
      rw [← Option.some.inj h]
      exact oRun.ret (r := some (.int (-2))) dX8_body_10
    · replace h := oIn c5 h
      refine oRun.if_ne_t 11 dX8_body_5 c5 rfl ?_
      refine oRun.aload_n 12 dX8_body_11 0 rfl rfl (Nat.le_of_ble_eq_true rfl) rfl ?_
      refine oRun.getR 15 dX8_body_12 fd_RX8_12 rfl rfl (Nat.le_of_ble_eq_true rfl) rfl ?_
      refine oRun.getI 18 dX8_body_15 fd_RX8_60 rfl rfl rfl ?_
      refine oRun.bipush 20 dX8_body_18 oc_b6 rfl ?_
      by_cases c20 : (m.1 1 0) < 6
      · replace h := oIp c20 h
        refine oRun.icmp_lt_t 26 dX8_body_20 c20 rfl ?_
        refine oRun.aload_n 27 dX8_body_26 0 rfl rfl (Nat.le_of_ble_eq_true rfl) rfl ?_
        refine oRun.getR 30 dX8_body_27 fd_RX8_12 rfl rfl (Nat.le_of_ble_eq_true rfl) rfl ?_
        refine oRun.dup 31 dX8_body_30 rfl rfl ?_
        refine oRun.getI 34 dX8_body_31 fd_RX8_60 rfl rfl rfl ?_
        refine oRun.iconst 35 dX8_body_34 oc_i1 rfl ?_
        refine oRun.iadd 36 dX8_body_35 rfl ?_
        obtain ⟨m36, hm36, h⟩ := oB1 h
        refine oRun.putI 39 dX8_body_36 fp_RX8_60 rfl rfl rfl ?_
        refine oRun.nameM hm36 ?_
        refine oRun.aload_n 40 dX8_body_39 0 rfl rfl (Nat.le_of_ble_eq_true rfl) rfl ?_
        refine oRun.getR 43 dX8_body_40 fd_RX8_12 rfl rfl (Nat.le_of_ble_eq_true rfl) rfl ?_
        refine oRun.aload_n 44 dX8_body_43 0 rfl rfl (Nat.le_of_ble_eq_true rfl) rfl ?_
        refine oRun.getR 47 dX8_body_44 fd_RX8_12 rfl rfl (Nat.le_of_ble_eq_true rfl) rfl ?_
        refine oRun.getI 50 dX8_body_47 fd_RX8_60 rfl rfl rfl ?_
        refine oRun.iconst 51 dX8_body_50 oc_i1 rfl ?_
        refine oRun.isub 52 dX8_body_51 rfl ?_
        refine oRun.iload_n 53 dX8_body_52 1 rfl rfl rfl ?_
        refine oRun.iload_n 54 dX8_body_53 2 rfl rfl rfl ?_
        obtain ⟨r54, hr54, h⟩ := oB1 h
        refine oRun.callV (as := [.int ((m36.1 1 0) - 1), .int x1, .int x2]) 57 dX8_body_54 lk_RX8_64 (oFit_i (Nat.le_of_ble_eq_true rfl) (Nat.le_of_ble_eq_true rfl)) rfl rfl rfl rfl (Nat.le_of_ble_eq_true rfl) (Nat.le_of_ble_eq_true rfl) rfl (E_X1_wish rfl hr54) rfl ?_
        show oRun G _ 57 _ [] _ _ _
        refine oRun.aload_n 58 dX8_body_57 0 rfl rfl (Nat.le_of_ble_eq_true rfl) rfl ?_
        refine oRun.getR 61 dX8_body_58 fd_RX8_12 rfl rfl (Nat.le_of_ble_eq_true rfl) rfl ?_
        refine oRun.getI 64 dX8_body_61 fd_RX8_60 rfl rfl rfl ?_
        refine oRun.iconst 65 dX8_body_64 oc_i1 rfl ?_
        refine oRun.isub 66 dX8_body_65 rfl ?_
        rw [← Option.some.inj h]
        exact oRun.ret (r := some (.int ((r54.1 1 0) - 1))) dX8_body_66
      · replace h := oIn c20 h
        refine oRun.icmp_lt_f 23 dX8_body_20 rfl c20 rfl ?_
        refine oRun.bipush 25 dX8_body_23 oc_bm4 rfl ?_
        rw [← Option.some.inj h]
        exact oRun.ret (r := some (.int (-4))) dX8_body_25
  · exact True.intro
set_option maxRecDepth 100000 in
set_option maxHeartbeats 4000000 in
theorem E_X9_isIn {G : oG} {m : oM} {x0 : Int64} {x2 : Int64} {x4 : Int64} {w : Int32} (h : F_X9_isIn x0 x2 x4 = some w) : oEv G M_X9_isIn [.long x0, .long x2, .long x4] m (some (.int w)) m := by
  unfold F_X9_isIn at h
  refine ⟨?_, ?_⟩
  · show oRun G M_X9_isIn 0 [(0, .long x0), (2, .long x2), (4, .long x4)] [] m (some (.int w)) m
    refine oRun.lload_n 1 dX9_isIn_0 0 rfl rfl rfl ?_
    refine oRun.lload_n 2 dX9_isIn_1 1 rfl rfl rfl ?_
    refine oRun.lcmp 3 dX9_isIn_2 rfl ?_
    by_cases c3 : x0 < x2
    · replace h := oIp c3 h
      refine oRun.if_lt_t 17 dX9_isIn_3 ((oLc_lt _ _).mpr c3) rfl ?_
      refine oRun.iconst 18 dX9_isIn_17 oc_i0 rfl ?_
      rw [← Option.some.inj h]
      exact oRun.ret (r := some (.int 0)) dX9_isIn_18
    · replace h := oIn c3 h
      refine oRun.if_lt_f 6 dX9_isIn_3 rfl (mt (oLc_lt _ _).mp c3) rfl ?_
      refine oRun.lload_n 7 dX9_isIn_6 0 rfl rfl rfl ?_
      refine oRun.lload 9 dX9_isIn_7 2 rfl rfl ?_
      refine oRun.lcmp 10 dX9_isIn_9 rfl ?_
      by_cases c10 : x4 < x0
      · replace h := oIp c10 h
        refine oRun.if_gt_t 17 dX9_isIn_10 ((oLc_gt _ _).mpr c10) rfl ?_
        refine oRun.iconst 18 dX9_isIn_17 oc_i0 rfl ?_
        rw [← Option.some.inj h]
        exact oRun.ret (r := some (.int 0)) dX9_isIn_18
      · replace h := oIn c10 h
        refine oRun.if_gt_f 13 dX9_isIn_10 rfl (mt (oLc_gt _ _).mp c10) rfl ?_
        refine oRun.iconst 14 dX9_isIn_13 oc_i1 rfl ?_
        refine oRun.goto 18 dX9_isIn_14 rfl ?_
        rw [← Option.some.inj h]
        exact oRun.ret (r := some (.int 1)) dX9_isIn_18
  · show oROK (some .boolean) (some (.int w))
    by_cases c3 : x0 < x2
    · replace h := oIp c3 h
      rw [← Option.some.inj h]
      exact Or.inl rfl
    · replace h := oIn c3 h
      by_cases c10 : x4 < x0
      · replace h := oIp c10 h
        rw [← Option.some.inj h]
        exact Or.inl rfl
      · replace h := oIn c10 h
        rw [← Option.some.inj h]
        exact Or.inr rfl
set_option maxRecDepth 100000 in
set_option maxHeartbeats 4000000 in
theorem E_X9_isRatio {G : oG} {m : oM} {x0 : Int32} {x1 : Int32} {w : Int32} (h : F_X9_isRatio x0 x1 = some w) : oEv G M_X9_isRatio [.int x0, .int x1] m (some (.int w)) m := by
  unfold F_X9_isRatio at h
  refine ⟨?_, ?_⟩
  · show oRun G M_X9_isRatio 0 [(0, .int x0), (1, .int x1)] [] m (some (.int w)) m
    refine oRun.iload_n 1 dX9_isRatio_0 0 rfl rfl rfl ?_
    refine oRun.i2l 2 dX9_isRatio_1 rfl ?_
    refine oRun.lconst 3 dX9_isRatio_2 oc_l1 rfl ?_
    refine oRun.ldc2 6 dX9_isRatio_3 wd_4_164 rfl ?_
    obtain ⟨r6, hr6, h⟩ := oB1 h
    refine oRun.callS (as := [.long x0.toInt64, .long 1, .long 9999]) 9 dX9_isRatio_6 lk_RX9_44 (oFit_i (Nat.le_of_ble_eq_true rfl) (Nat.le_of_ble_eq_true rfl)) rfl (Nat.le_of_ble_eq_true rfl) (Nat.le_of_ble_eq_true rfl) rfl (E_X9_isIn hr6) rfl ?_
    show oRun G _ 9 _ [.int r6] _ _ _
    by_cases c9 : r6 = 0
    · replace h := oIp c9 h
      refine oRun.if_eq_t 28 dX9_isRatio_9 c9 rfl ?_
      refine oRun.iconst 29 dX9_isRatio_28 oc_i0 rfl ?_
      rw [← Option.some.inj h]
      exact oRun.ret (r := some (.int 0)) dX9_isRatio_29
    · replace h := oIn c9 h
      refine oRun.if_eq_f 12 dX9_isRatio_9 rfl c9 rfl ?_
      refine oRun.iload_n 13 dX9_isRatio_12 1 rfl rfl rfl ?_
      refine oRun.i2l 14 dX9_isRatio_13 rfl ?_
      refine oRun.lconst 15 dX9_isRatio_14 oc_l1 rfl ?_
      refine oRun.ldc2 18 dX9_isRatio_15 wd_4_164 rfl ?_
      obtain ⟨r18, hr18, h⟩ := oB1 h
      refine oRun.callS (as := [.long x1.toInt64, .long 1, .long 9999]) 21 dX9_isRatio_18 lk_RX9_44 (oFit_i (Nat.le_of_ble_eq_true rfl) (Nat.le_of_ble_eq_true rfl)) rfl (Nat.le_of_ble_eq_true rfl) (Nat.le_of_ble_eq_true rfl) rfl (E_X9_isIn hr18) rfl ?_
      show oRun G _ 21 _ [.int r18] _ _ _
      by_cases c21 : r18 = 0
      · replace h := oIp c21 h
        refine oRun.if_eq_t 28 dX9_isRatio_21 c21 rfl ?_
        refine oRun.iconst 29 dX9_isRatio_28 oc_i0 rfl ?_
        rw [← Option.some.inj h]
        exact oRun.ret (r := some (.int 0)) dX9_isRatio_29
      · replace h := oIn c21 h
        refine oRun.if_eq_f 24 dX9_isRatio_21 rfl c21 rfl ?_
        refine oRun.iconst 25 dX9_isRatio_24 oc_i1 rfl ?_
        refine oRun.goto 29 dX9_isRatio_25 rfl ?_
        rw [← Option.some.inj h]
        exact oRun.ret (r := some (.int 1)) dX9_isRatio_29
  · show oROK (some .boolean) (some (.int w))
    obtain ⟨r6, hr6, h⟩ := oB1 h
    by_cases c9 : r6 = 0
    · replace h := oIp c9 h
      rw [← Option.some.inj h]
      exact Or.inl rfl
    · replace h := oIn c9 h
      obtain ⟨r18, hr18, h⟩ := oB1 h
      by_cases c21 : r18 = 0
      · replace h := oIp c21 h
        rw [← Option.some.inj h]
        exact Or.inl rfl
      · replace h := oIn c21 h
        rw [← Option.some.inj h]
        exact Or.inr rfl
set_option maxRecDepth 100000 in
set_option maxHeartbeats 4000000 in
theorem E_X9_common_L17 {G : oG} {m : oM} {r : Option Value} {m' : oM} : ∀ (n : Nat) (x4 : Int64) (x6 : Int64) (b : Int64), oLoop (fun s : Int64 × Int64 => F_X9_common_L17 s.1 s.2) n (x4, x6) = some b → oRun G M_X9_common 42 [(4, .long b)] [] m r m' → oRun G M_X9_common 17 [(4, .long x4), (6, .long x6)] [] m r m' := by
  intro n
  induction n with
  | zero => intro x4 x6 b h _; exact (oLoop_zero h).elim
  | succ n ih =>
    intro x4 x6 b h he
    obtain ⟨q', hq', h⟩ := oLoop_succ h
    have hc : ∀ s' : Int64 × Int64, q' = .inl s' → oRun G M_X9_common 17 [(4, .long s'.1), (6, .long s'.2)] [] m r m' := by
      rintro s' rfl
      exact ih (s'.1) (s'.2) b h he
    have hx : ∀ b' : Int64, q' = .inr b' → oRun G M_X9_common 42 [(4, .long b')] [] m r m' := by
      rintro b' rfl
      have h : b' = b := h
      rw [h]
      exact he
    clear h he ih
    have h := hq'
    clear hq'
    replace h : F_X9_common_L17 x4 x6 = some q' := h
    unfold F_X9_common_L17 at h
    refine oRun.lload 19 dX9_common_17 1 rfl rfl ?_
    refine oRun.lconst 20 dX9_common_19 oc_l0 rfl ?_
    refine oRun.lcmp 21 dX9_common_20 rfl ?_
    by_cases c21 : x6 = 0
    · replace h := oIp c21 h
      refine oRun.if_eq_t 42 dX9_common_21 ((oLc_eq _ _).mpr c21) rfl ?_
      cases h
      refine oRun.sub [0] rfl ?_
      exact hx _ rfl
    · replace h := oIn c21 h
      refine oRun.if_eq_f 24 dX9_common_21 rfl (mt (oLc_eq _ _).mp c21) rfl ?_
      refine oRun.lload 26 dX9_common_24 0 rfl rfl ?_
      refine oRun.lload 28 dX9_common_26 1 rfl rfl ?_
      obtain ⟨v28, hv28, h⟩ := oB1 h
      obtain ⟨hz28, hv28⟩ := oDz hv28
      refine oRun.lrem 29 dX9_common_28 hz28 rfl ?_
      refine oRun.nameJ hv28 ?_
      refine oRun.lstore 31 dX9_common_29 (Nat.le_of_ble_eq_true rfl) rfl rfl ?_
      refine oRun.lload 33 dX9_common_31 2 rfl rfl ?_
      refine oRun.lstore 35 dX9_common_33 (Nat.le_of_ble_eq_true rfl) rfl rfl ?_
      refine oRun.lload 37 dX9_common_35 1 rfl rfl ?_
      refine oRun.lstore 39 dX9_common_37 (Nat.le_of_ble_eq_true rfl) rfl rfl ?_
      refine oRun.goto 17 dX9_common_39 rfl ?_
      cases h
      refine oRun.sub [1, 0] rfl ?_
      exact hc _ rfl
set_option maxRecDepth 100000 in
set_option maxHeartbeats 4000000 in
theorem E_X9_common {G : oG} {m : oM} {x0 : Int64} {x2 : Int64} {w : Int64} (h : F_X9_common x0 x2 = some w) : oEv G M_X9_common [.long x0, .long x2] m (some (.long w)) m := by
  unfold F_X9_common at h
  refine ⟨?_, ?_⟩
  · show oRun G M_X9_common 0 [(0, .long x0), (2, .long x2)] [] m (some (.long w)) m
    refine oRun.lload_n 1 dX9_common_0 0 rfl rfl rfl ?_
    refine oRun.lconst 2 dX9_common_1 oc_l0 rfl ?_
    refine oRun.lcmp 3 dX9_common_2 rfl ?_
    by_cases c3 : 0 ≤ x0
    · replace h := oIp c3 h
      refine oRun.if_ge_t 11 dX9_common_3 ((oLc_ge _ _).mpr c3) rfl ?_
      refine oRun.lload_n 12 dX9_common_11 0 rfl rfl rfl ?_
      refine oRun.lstore 14 dX9_common_12 (Nat.le_of_ble_eq_true rfl) rfl rfl ?_
      refine oRun.lload_n 15 dX9_common_14 2 rfl rfl rfl ?_
      refine oRun.lstore 17 dX9_common_15 (Nat.le_of_ble_eq_true rfl) rfl rfl ?_
      obtain ⟨b17, hb17, h⟩ := oB1 h
      refine oRun.sub [1, 0] rfl ?_
      refine E_X9_common_L17 _ _ _ _ hb17 ?_
      refine oRun.lload 44 dX9_common_42 0 rfl rfl ?_
      rw [← Option.some.inj h]
      exact oRun.ret (r := some (.long b17)) dX9_common_44
    · replace h := oIn c3 h
      refine oRun.if_ge_f 6 dX9_common_3 rfl (mt (oLc_ge _ _).mp c3) rfl ?_
      refine oRun.lload_n 7 dX9_common_6 0 rfl rfl rfl ?_
      refine oRun.lneg 8 dX9_common_7 rfl ?_
      refine oRun.goto 12 dX9_common_8 rfl ?_
      obtain ⟨x4_12, hx4_12, h⟩ := oB1 h
      refine oRun.nameJ hx4_12 ?_
      refine oRun.lstore 14 dX9_common_12 (Nat.le_of_ble_eq_true rfl) rfl rfl ?_
      refine oRun.lload_n 15 dX9_common_14 2 rfl rfl rfl ?_
      refine oRun.lstore 17 dX9_common_15 (Nat.le_of_ble_eq_true rfl) rfl rfl ?_
      obtain ⟨b17, hb17, h⟩ := oB1 h
      refine oRun.sub [1, 0] rfl ?_
      refine E_X9_common_L17 _ _ _ _ hb17 ?_
      refine oRun.lload 44 dX9_common_42 0 rfl rfl ?_
      rw [← Option.some.inj h]
      exact oRun.ret (r := some (.long b17)) dX9_common_44
  · exact True.intro
set_option maxRecDepth 100000 in
set_option maxHeartbeats 4000000 in
theorem E_X9_told {G : oG} {m : oM} {x0 : Int64} {x2 : Int64} {x4 : Int32} {w : Int64} (h : F_X9_told x0 x2 x4 = some w) : oEv G M_X9_told [.long x0, .long x2, .int x4] m (some (.long w)) m := by
  unfold F_X9_told at h
  refine ⟨?_, ?_⟩
  · show oRun G M_X9_told 0 [(0, .long x0), (2, .long x2), (4, .int x4)] [] m (some (.long w)) m
    refine oRun.lload_n 1 dX9_told_0 0 rfl rfl rfl ?_
    refine oRun.lload_n 2 dX9_told_1 1 rfl rfl rfl ?_
    obtain ⟨r2, hr2, h⟩ := oB1 h
    refine oRun.callS (as := [.long x0, .long x2]) 5 dX9_told_2 lk_RX9_40 (oFit_i (Nat.le_of_ble_eq_true rfl) (Nat.le_of_ble_eq_true rfl)) rfl (Nat.le_of_ble_eq_true rfl) (Nat.le_of_ble_eq_true rfl) rfl (E_X9_common hr2) rfl ?_
    show oRun G _ 5 _ [.long r2] _ _ _
    refine oRun.lstore 7 dX9_told_5 (Nat.le_of_ble_eq_true rfl) rfl rfl ?_
    refine oRun.iload 9 dX9_told_7 3 rfl rfl ?_
    by_cases c9 : x4 = 0
    · replace h := oIp c9 h
      refine oRun.if_ne_f 12 dX9_told_9 rfl c9 rfl ?_
      refine oRun.lload_n 13 dX9_told_12 1 rfl rfl rfl ?_
      refine oRun.goto 17 dX9_told_13 rfl ?_
      refine oRun.lload 19 dX9_told_17 0 rfl rfl ?_
      obtain ⟨v19, hv19, h⟩ := oB1 h
      obtain ⟨hz19, hv19⟩ := oDz hv19
      refine oRun.ldiv 20 dX9_told_19 hz19 rfl ?_
      refine oRun.nameJ hv19 ?_
      rw [← Option.some.inj h]
      exact oRun.ret (r := some (.long v19)) dX9_told_20
    · replace h := oIn c9 h
      refine oRun.if_ne_t 16 dX9_told_9 c9 rfl ?_
      refine oRun.lload_n 17 dX9_told_16 2 rfl rfl rfl ?_
      refine oRun.lload 19 dX9_told_17 0 rfl rfl ?_
      obtain ⟨v19, hv19, h⟩ := oB1 h
      obtain ⟨hz19, hv19⟩ := oDz hv19
      refine oRun.ldiv 20 dX9_told_19 hz19 rfl ?_
      refine oRun.nameJ hv19 ?_
      rw [← Option.some.inj h]
      exact oRun.ret (r := some (.long v19)) dX9_told_20
  · exact True.intro
set_option maxRecDepth 100000 in
set_option maxHeartbeats 4000000 in
theorem E_X9_becomesRatio {G : oG} {m : oM} {x1 : Int32} {x2 : Int32} {x3 : Int32} {w : oM} (h : F_X9_becomesRatio m x1 x2 x3 = some w) : oEv G M_X9_becomesRatio [.ref 51, .int x1, .int x2, .int x3] m none w := by
  unfold F_X9_becomesRatio at h
  refine ⟨?_, ?_⟩
  · show oRun G M_X9_becomesRatio 0 [(0, .ref 51), (1, .int x1), (2, .int x2), (3, .int x3)] [] m none w
    refine oRun.aload_n 1 dX9_becomesRatio_0 0 rfl rfl (Nat.le_of_ble_eq_true rfl) rfl ?_
    refine oRun.getR 4 dX9_becomesRatio_1 fd_RX9_11 rfl rfl (Nat.le_of_ble_eq_true rfl) rfl ?_
    refine oRun.bipush 6 dX9_becomesRatio_4 oc_b7 rfl ?_
    refine oRun.iload_n 7 dX9_becomesRatio_6 1 rfl rfl rfl ?_
    refine oRun.iadd 8 dX9_becomesRatio_7 rfl ?_
    refine oRun.iload_n 9 dX9_becomesRatio_8 2 rfl rfl rfl ?_
    refine oRun.i2l 10 dX9_becomesRatio_9 rfl ?_
    refine oRun.iload_n 11 dX9_becomesRatio_10 3 rfl rfl rfl ?_
    refine oRun.i2l 12 dX9_becomesRatio_11 rfl ?_
    refine oRun.iconst 13 dX9_becomesRatio_12 oc_i0 rfl ?_
    obtain ⟨r13, hr13, h⟩ := oB1 h
    refine oRun.callS (as := [.long x2.toInt64, .long x3.toInt64, .int 0]) 16 dX9_becomesRatio_13 lk_RX9_50 (oFit_i (Nat.le_of_ble_eq_true rfl) (Nat.le_of_ble_eq_true rfl)) rfl (Nat.le_of_ble_eq_true rfl) (Nat.le_of_ble_eq_true rfl) rfl (E_X9_told hr13) rfl ?_
    show oRun G _ 16 _ [.long r13, .int (7 + x1), .ref 52] _ _ _
    refine oRun.l2i 17 dX9_becomesRatio_16 rfl ?_
    obtain ⟨m17, hm17, h⟩ := oB1 h
    refine oRun.iastore 18 dX9_becomesRatio_17 rfl hm17 rfl ?_
    refine oRun.aload_n 19 dX9_becomesRatio_18 0 rfl rfl (Nat.le_of_ble_eq_true rfl) rfl ?_
    refine oRun.getR 22 dX9_becomesRatio_19 fd_RX9_11 rfl rfl (Nat.le_of_ble_eq_true rfl) rfl ?_
    refine oRun.bipush 24 dX9_becomesRatio_22 oc_b13 rfl ?_
    refine oRun.iload_n 25 dX9_becomesRatio_24 1 rfl rfl rfl ?_
    refine oRun.iadd 26 dX9_becomesRatio_25 rfl ?_
    refine oRun.iload_n 27 dX9_becomesRatio_26 2 rfl rfl rfl ?_
    refine oRun.i2l 28 dX9_becomesRatio_27 rfl ?_
    refine oRun.iload_n 29 dX9_becomesRatio_28 3 rfl rfl rfl ?_
    refine oRun.i2l 30 dX9_becomesRatio_29 rfl ?_
    refine oRun.iconst 31 dX9_becomesRatio_30 oc_i1 rfl ?_
    obtain ⟨r31, hr31, h⟩ := oB1 h
    refine oRun.callS (as := [.long x2.toInt64, .long x3.toInt64, .int 1]) 34 dX9_becomesRatio_31 lk_RX9_50 (oFit_i (Nat.le_of_ble_eq_true rfl) (Nat.le_of_ble_eq_true rfl)) rfl (Nat.le_of_ble_eq_true rfl) (Nat.le_of_ble_eq_true rfl) rfl (E_X9_told hr31) rfl ?_
    show oRun G _ 34 _ [.long r31, .int (13 + x1), .ref 52] _ _ _
    refine oRun.l2i 35 dX9_becomesRatio_34 rfl ?_
    obtain ⟨m35, hm35, h⟩ := oB1 h
    refine oRun.iastore 36 dX9_becomesRatio_35 rfl hm35 rfl ?_
    rw [← Option.some.inj h]
    exact oRun.ret (r := none) dX9_becomesRatio_36
  · exact True.intro
set_option maxRecDepth 100000 in
set_option maxHeartbeats 4000000 in
theorem E_X9_body {G : oG} {m : oM} {x1 : Int32} {x2 : Int32} {w : Int32 × oM} (h : F_X9_body m x1 x2 = some w) : oEv G M_X9_body [.ref 51, .int x1, .int x2] m (some (.int w.1)) w.2 := by
  unfold F_X9_body at h
  refine ⟨?_, ?_⟩
  · show oRun G M_X9_body 0 [(0, .ref 51), (1, .int x1), (2, .int x2)] [] m (some (.int w.1)) w.2
    refine oRun.iload_n 1 dX9_body_0 1 rfl rfl rfl ?_
    refine oRun.iload_n 2 dX9_body_1 2 rfl rfl rfl ?_
    obtain ⟨r2, hr2, h⟩ := oB1 h
    refine oRun.callS (as := [.int x1, .int x2]) 5 dX9_body_2 lk_RX9_54 (oFit_i (Nat.le_of_ble_eq_true rfl) (Nat.le_of_ble_eq_true rfl)) rfl (Nat.le_of_ble_eq_true rfl) (Nat.le_of_ble_eq_true rfl) rfl (E_X9_isRatio hr2) rfl ?_
    show oRun G _ 5 _ [.int r2] _ _ _
    by_cases c5 : r2 = 0
    · replace h := oIp c5 h
      refine oRun.if_ne_f 8 dX9_body_5 rfl c5 rfl ?_
      refine oRun.bipush 10 dX9_body_8 oc_bm2 rfl ?_
      rw [← Option.some.inj h]
      exact oRun.ret (r := some (.int (-2))) dX9_body_10
    · replace h := oIn c5 h
      refine oRun.if_ne_t 11 dX9_body_5 c5 rfl ?_
      refine oRun.aload_n 12 dX9_body_11 0 rfl rfl (Nat.le_of_ble_eq_true rfl) rfl ?_
      refine oRun.getR 15 dX9_body_12 fd_RX9_11 rfl rfl (Nat.le_of_ble_eq_true rfl) rfl ?_
      refine oRun.iconst 16 dX9_body_15 oc_i0 rfl ?_
      refine oRun.iaload (x := m.1 52 0) 17 dX9_body_16 (Or.inr ⟨_, rfl⟩) (oAL_lit (i := 0) rfl) rfl ?_
      refine oRun.bipush 19 dX9_body_17 oc_b6 rfl ?_
      by_cases c19 : (m.1 52 0) = 6
      · replace h := oIp c19 h
        refine oRun.icmp_ne_f 22 dX9_body_19 rfl c19 rfl ?_
        refine oRun.bipush 24 dX9_body_22 oc_bm4 rfl ?_
        rw [← Option.some.inj h]
        exact oRun.ret (r := some (.int (-4))) dX9_body_24
      · replace h := oIn c19 h
        refine oRun.icmp_ne_t 25 dX9_body_19 c19 rfl ?_
        refine oRun.aload_n 26 dX9_body_25 0 rfl rfl (Nat.le_of_ble_eq_true rfl) rfl ?_
        refine oRun.aload_n 27 dX9_body_26 0 rfl rfl (Nat.le_of_ble_eq_true rfl) rfl ?_
        refine oRun.getR 30 dX9_body_27 fd_RX9_11 rfl rfl (Nat.le_of_ble_eq_true rfl) rfl ?_
        refine oRun.iconst 31 dX9_body_30 oc_i0 rfl ?_
        refine oRun.iaload (x := m.1 52 0) 32 dX9_body_31 (Or.inr ⟨_, rfl⟩) (oAL_lit (i := 0) rfl) rfl ?_
        refine oRun.iload_n 33 dX9_body_32 1 rfl rfl rfl ?_
        refine oRun.iload_n 34 dX9_body_33 2 rfl rfl rfl ?_
        obtain ⟨r34, hr34, h⟩ := oB1 h
        refine oRun.callV (as := [.int (m.1 52 0), .int x1, .int x2]) 37 dX9_body_34 lk_RX9_58 (oFit_i (Nat.le_of_ble_eq_true rfl) (Nat.le_of_ble_eq_true rfl)) rfl rfl rfl rfl (Nat.le_of_ble_eq_true rfl) (Nat.le_of_ble_eq_true rfl) rfl (E_X9_becomesRatio hr34) rfl ?_
        show oRun G _ 37 _ [] _ _ _
        refine oRun.aload_n 38 dX9_body_37 0 rfl rfl (Nat.le_of_ble_eq_true rfl) rfl ?_
        refine oRun.getR 41 dX9_body_38 fd_RX9_11 rfl rfl (Nat.le_of_ble_eq_true rfl) rfl ?_
        refine oRun.bipush 43 dX9_body_41 oc_b19 rfl ?_
        refine oRun.aload_n 44 dX9_body_43 0 rfl rfl (Nat.le_of_ble_eq_true rfl) rfl ?_
        refine oRun.getR 47 dX9_body_44 fd_RX9_11 rfl rfl (Nat.le_of_ble_eq_true rfl) rfl ?_
        refine oRun.iconst 48 dX9_body_47 oc_i0 rfl ?_
        refine oRun.iaload (x := r34.1 52 0) 49 dX9_body_48 (Or.inr ⟨_, rfl⟩) (oAL_lit (i := 0) rfl) rfl ?_
        refine oRun.iadd 50 dX9_body_49 rfl ?_
        refine oRun.iconst 51 dX9_body_50 oc_i0 rfl ?_
        obtain ⟨m51, hm51, h⟩ := oB1 h
        refine oRun.iastore 52 dX9_body_51 rfl hm51 rfl ?_
        refine oRun.aload_n 53 dX9_body_52 0 rfl rfl (Nat.le_of_ble_eq_true rfl) rfl ?_
        refine oRun.getR 56 dX9_body_53 fd_RX9_11 rfl rfl (Nat.le_of_ble_eq_true rfl) rfl ?_
        refine oRun.iconst 57 dX9_body_56 oc_i0 rfl ?_
        refine oRun.dup2 58 dX9_body_57 rfl rfl rfl ?_
        refine oRun.iaload (x := m51.1 52 0) 59 dX9_body_58 (Or.inr ⟨_, rfl⟩) (oAL_lit (i := 0) rfl) rfl ?_
        refine oRun.iconst 60 dX9_body_59 oc_i1 rfl ?_
        refine oRun.iadd 61 dX9_body_60 rfl ?_
        obtain ⟨m61, hm61, h⟩ := oB1 h
        refine oRun.iastore 62 dX9_body_61 rfl (oAS_lit (i := 0) rfl hm61) rfl ?_
        refine oRun.aload_n 63 dX9_body_62 0 rfl rfl (Nat.le_of_ble_eq_true rfl) rfl ?_
        refine oRun.getR 66 dX9_body_63 fd_RX9_11 rfl rfl (Nat.le_of_ble_eq_true rfl) rfl ?_
        refine oRun.iconst 67 dX9_body_66 oc_i0 rfl ?_
        refine oRun.iaload (x := m61.1 52 0) 68 dX9_body_67 (Or.inr ⟨_, rfl⟩) (oAL_lit (i := 0) rfl) rfl ?_
        refine oRun.iconst 69 dX9_body_68 oc_i1 rfl ?_
        refine oRun.isub 70 dX9_body_69 rfl ?_
        rw [← Option.some.inj h]
        exact oRun.ret (r := some (.int ((m61.1 52 0) - 1))) dX9_body_70
  · exact True.intro
set_option maxRecDepth 100000 in
set_option maxHeartbeats 4000000 in
theorem E_X1_hasBody {G : oG} {o : Nat} (ho : oOb o = true) {m : oM} {x1 : Int32} {w : Int32} (h : F_X1_hasBody o m x1 = some w) : oEv G M_X1_hasBody [.ref o, .int x1] m (some (.int w)) m := by
  unfold F_X1_hasBody at h
  refine ⟨?_, ?_⟩
  · show oRun G M_X1_hasBody 0 [(0, .ref o), (1, .int x1)] [] m (some (.int w)) m
    refine oRun.iload_n 1 dX1_hasBody_0 1 rfl rfl rfl ?_
    by_cases c1 : x1 < 0
    · replace h := oIp c1 h
      refine oRun.if_lt_t 16 dX1_hasBody_1 c1 rfl ?_
      refine oRun.iconst 17 dX1_hasBody_16 oc_i0 rfl ?_
      rw [← Option.some.inj h]
      exact oRun.ret (r := some (.int 0)) dX1_hasBody_17
    · replace h := oIn c1 h
      refine oRun.if_lt_f 4 dX1_hasBody_1 rfl c1 rfl ?_
      refine oRun.iload_n 5 dX1_hasBody_4 1 rfl rfl rfl ?_
      refine oRun.aload_n 6 dX1_hasBody_5 0 rfl rfl (oLt66 (oO_lt ho)) rfl ?_
      refine oRun.getI 9 dX1_hasBody_6 fd_RX1_9 (oO_sh ho) rfl rfl ?_
      by_cases c9 : (m.1 o 0) ≤ x1
      · replace h := oIp c9 h
        refine oRun.icmp_ge_t 16 dX1_hasBody_9 c9 rfl ?_
        refine oRun.iconst 17 dX1_hasBody_16 oc_i0 rfl ?_
        rw [← Option.some.inj h]
        exact oRun.ret (r := some (.int 0)) dX1_hasBody_17
      · replace h := oIn c9 h
        refine oRun.icmp_ge_f 12 dX1_hasBody_9 rfl c9 rfl ?_
        refine oRun.iconst 13 dX1_hasBody_12 oc_i1 rfl ?_
        refine oRun.goto 17 dX1_hasBody_13 rfl ?_
        rw [← Option.some.inj h]
        exact oRun.ret (r := some (.int 1)) dX1_hasBody_17
  · show oROK (some .boolean) (some (.int w))
    by_cases c1 : x1 < 0
    · replace h := oIp c1 h
      rw [← Option.some.inj h]
      exact Or.inl rfl
    · replace h := oIn c1 h
      by_cases c9 : (m.1 o 0) ≤ x1
      · replace h := oIp c9 h
        rw [← Option.some.inj h]
        exact Or.inl rfl
      · replace h := oIn c9 h
        rw [← Option.some.inj h]
        exact Or.inr rfl
set_option maxRecDepth 100000 in
set_option maxHeartbeats 4000000 in
theorem E_X8_at {G : oG} {p0 : Nat} (hp0 : oIA p0) {m : oM} {x1 : Int32} {w : Int32} (h : F_X8_at p0 m x1 = some w) : oEv G M_X8_at [.ref p0, .int x1] m (some (.int w)) m := by
  unfold F_X8_at at h
  refine ⟨?_, ?_⟩
  · show oRun G M_X8_at 0 [(0, .ref p0), (1, .int x1)] [] m (some (.int w)) m
    refine oRun.iload_n 1 dX8_at_0 1 rfl rfl rfl ?_
    by_cases c1 : x1 < 0
    · replace h := oIp c1 h
      refine oRun.if_lt_t 16 dX8_at_1 c1 rfl ?_
      refine oRun.iconst 17 dX8_at_16 oc_i0 rfl ?_
      rw [← Option.some.inj h]
      exact oRun.ret (r := some (.int 0)) dX8_at_17
    · replace h := oIn c1 h
      refine oRun.if_lt_f 4 dX8_at_1 rfl c1 rfl ?_
      refine oRun.iload_n 5 dX8_at_4 1 rfl rfl rfl ?_
      refine oRun.aload_n 6 dX8_at_5 0 rfl rfl (oIA_lt hp0) rfl ?_
      refine oRun.aleni 7 dX8_at_6 hp0 rfl ?_
      by_cases c7 : (Int32.ofNat (oLn p0)) ≤ x1
      · replace h := oIp c7 h
        refine oRun.icmp_ge_t 16 dX8_at_7 c7 rfl ?_
        refine oRun.iconst 17 dX8_at_16 oc_i0 rfl ?_
        rw [← Option.some.inj h]
        exact oRun.ret (r := some (.int 0)) dX8_at_17
      · replace h := oIn c7 h
        refine oRun.icmp_ge_f 10 dX8_at_7 rfl c7 rfl ?_
        refine oRun.aload_n 11 dX8_at_10 0 rfl rfl (oIA_lt hp0) rfl ?_
        refine oRun.iload_n 12 dX8_at_11 1 rfl rfl rfl ?_
        obtain ⟨v12, hv12, h⟩ := oB1 h
        refine oRun.iaload 13 dX8_at_12 hp0 hv12 rfl ?_
        refine oRun.goto 17 dX8_at_13 rfl ?_
        rw [← Option.some.inj h]
        exact oRun.ret (r := some (.int v12)) dX8_at_17
  · exact True.intro
set_option maxRecDepth 100000 in
set_option maxHeartbeats 4000000 in
theorem E_X8_ratio {G : oG} {m : oM} {x1 : Int32} {x2 : Int32} {x3 : Int32} {w : Int32 × oM} (h : F_X8_ratio m x1 x2 x3 = some w) : oEv G M_X8_ratio [.ref 0, .int x1, .int x2, .int x3] m (some (.int w.1)) w.2 := by
  unfold F_X8_ratio at h
  refine ⟨?_, ?_⟩
  · show oRun G M_X8_ratio 0 [(0, .ref 0), (1, .int x1), (2, .int x2), (3, .int x3)] [] m (some (.int w.1)) w.2
    refine oRun.aload_n 1 dX8_ratio_0 0 rfl rfl (Nat.le_of_ble_eq_true rfl) rfl ?_
    refine oRun.getR 4 dX8_ratio_1 fd_RX8_12 rfl rfl (Nat.le_of_ble_eq_true rfl) rfl ?_
    refine oRun.iload_n 5 dX8_ratio_4 1 rfl rfl rfl ?_
    obtain ⟨r5, hr5, h⟩ := oB1 h
    refine oRun.callV (as := [.int x1]) 8 dX8_ratio_5 lk_RX8_68 (oFit_i (Nat.le_of_ble_eq_true rfl) (Nat.le_of_ble_eq_true rfl)) rfl rfl rfl rfl (Nat.le_of_ble_eq_true rfl) (Nat.le_of_ble_eq_true rfl) rfl (E_X1_hasBody rfl hr5) rfl ?_
    show oRun G _ 8 _ [.int r5] _ _ _
    by_cases c8 : r5 = 0
    · replace h := oIp c8 h
      refine oRun.if_ne_f 11 dX8_ratio_8 rfl c8 rfl ?_
      refine oRun.iconst 12 dX8_ratio_11 oc_im1 rfl ?_
      rw [← Option.some.inj h]
      exact oRun.ret (r := some (.int (-1))) dX8_ratio_12
    · replace h := oIn c8 h
      refine oRun.if_ne_t 13 dX8_ratio_8 c8 rfl ?_
      refine oRun.iload_n 14 dX8_ratio_13 2 rfl rfl rfl ?_
      refine oRun.iload_n 15 dX8_ratio_14 3 rfl rfl rfl ?_
      obtain ⟨r15, hr15, h⟩ := oB1 h
      refine oRun.callS (as := [.int x2, .int x3]) 18 dX8_ratio_15 lk_RX8_56 (oFit_i (Nat.le_of_ble_eq_true rfl) (Nat.le_of_ble_eq_true rfl)) rfl (Nat.le_of_ble_eq_true rfl) (Nat.le_of_ble_eq_true rfl) rfl (E_X8_isRatio hr15) rfl ?_
      show oRun G _ 18 _ [.int r15] _ _ _
      by_cases c18 : r15 = 0
      · replace h := oIp c18 h
        refine oRun.if_ne_f 21 dX8_ratio_18 rfl c18 rfl ?_
        refine oRun.bipush 23 dX8_ratio_21 oc_bm2 rfl ?_
        rw [← Option.some.inj h]
        exact oRun.ret (r := some (.int (-2))) dX8_ratio_23
      · replace h := oIn c18 h
        refine oRun.if_ne_t 24 dX8_ratio_18 c18 rfl ?_
        refine oRun.sipush 27 dX8_ratio_24 oc_s10000 rfl ?_
        refine oRun.aload_n 28 dX8_ratio_27 0 rfl rfl (Nat.le_of_ble_eq_true rfl) rfl ?_
        refine oRun.getR 31 dX8_ratio_28 fd_RX8_12 rfl rfl (Nat.le_of_ble_eq_true rfl) rfl ?_
        refine oRun.getR 34 dX8_ratio_31 fd_RX8_72 rfl rfl (Nat.le_of_ble_eq_true rfl) rfl ?_
        refine oRun.iload_n 35 dX8_ratio_34 1 rfl rfl rfl ?_
        obtain ⟨r35, hr35, h⟩ := oB1 h
        refine oRun.callS (as := [.ref 2, .int x1]) 38 dX8_ratio_35 lk_RX8_76 (oFit_i (Nat.le_of_ble_eq_true rfl) (Nat.le_of_ble_eq_true rfl)) rfl (Nat.le_of_ble_eq_true rfl) (Nat.le_of_ble_eq_true rfl) rfl (E_X8_at (Or.inr ⟨_, rfl⟩) hr35) rfl ?_
        show oRun G _ 38 _ [.int r35, .int 10000] _ _ _
        refine oRun.imul 39 dX8_ratio_38 rfl ?_
        refine oRun.aload_n 40 dX8_ratio_39 0 rfl rfl (Nat.le_of_ble_eq_true rfl) rfl ?_
        refine oRun.getR 43 dX8_ratio_40 fd_RX8_12 rfl rfl (Nat.le_of_ble_eq_true rfl) rfl ?_
        refine oRun.getR 46 dX8_ratio_43 fd_RX8_80 rfl rfl (Nat.le_of_ble_eq_true rfl) rfl ?_
        refine oRun.iload_n 47 dX8_ratio_46 1 rfl rfl rfl ?_
        obtain ⟨r47, hr47, h⟩ := oB1 h
        refine oRun.callS (as := [.ref 3, .int x1]) 50 dX8_ratio_47 lk_RX8_76 (oFit_i (Nat.le_of_ble_eq_true rfl) (Nat.le_of_ble_eq_true rfl)) rfl (Nat.le_of_ble_eq_true rfl) (Nat.le_of_ble_eq_true rfl) rfl (E_X8_at (Or.inr ⟨_, rfl⟩) hr47) rfl ?_
        show oRun G _ 50 _ [.int r47, .int (10000 * r35)] _ _ _
        refine oRun.iadd 51 dX8_ratio_50 rfl ?_
        obtain ⟨x4_51, hx4_51, h⟩ := oB1 h
        refine oRun.nameI hx4_51 ?_
        refine oRun.istore 53 dX8_ratio_51 (Nat.le_of_ble_eq_true rfl) rfl rfl ?_
        refine oRun.aload_n 54 dX8_ratio_53 1 rfl rfl (Nat.le_of_ble_eq_true rfl) rfl ?_
        refine oRun.getR 57 dX8_ratio_54 fd_RX8_12 rfl rfl (Nat.le_of_ble_eq_true rfl) rfl ?_
        refine oRun.iload_n 58 dX8_ratio_57 2 rfl rfl rfl ?_
        refine oRun.iload_n 59 dX8_ratio_58 3 rfl rfl rfl ?_
        refine oRun.iload_n 60 dX8_ratio_59 4 rfl rfl rfl ?_
        obtain ⟨r60, hr60, h⟩ := oB1 h
        refine oRun.callV (as := [.int x1, .int x2, .int x3]) 63 dX8_ratio_60 lk_RX8_64 (oFit_i (Nat.le_of_ble_eq_true rfl) (Nat.le_of_ble_eq_true rfl)) rfl rfl rfl rfl (Nat.le_of_ble_eq_true rfl) (Nat.le_of_ble_eq_true rfl) rfl (E_X1_wish rfl hr60) rfl ?_
        show oRun G _ 63 _ [] _ _ _
        refine oRun.iload 65 dX8_ratio_63 0 rfl rfl ?_
        rw [← Option.some.inj h]
        exact oRun.ret (r := some (.int x4_51)) dX8_ratio_65
  · exact True.intro
set_option maxRecDepth 100000 in
set_option maxHeartbeats 4000000 in
theorem E_X9_isBody {G : oG} {m : oM} {x1 : Int32} {w : Int32} (h : F_X9_isBody m x1 = some w) : oEv G M_X9_isBody [.ref 51, .int x1] m (some (.int w)) m := by
  unfold F_X9_isBody at h
  refine ⟨?_, ?_⟩
  · show oRun G M_X9_isBody 0 [(0, .ref 51), (1, .int x1)] [] m (some (.int w)) m
    refine oRun.iload_n 1 dX9_isBody_0 1 rfl rfl rfl ?_
    refine oRun.i2l 2 dX9_isBody_1 rfl ?_
    refine oRun.lconst 3 dX9_isBody_2 oc_l0 rfl ?_
    refine oRun.aload_n 4 dX9_isBody_3 0 rfl rfl (Nat.le_of_ble_eq_true rfl) rfl ?_
    refine oRun.getR 7 dX9_isBody_4 fd_RX9_11 rfl rfl (Nat.le_of_ble_eq_true rfl) rfl ?_
    refine oRun.iconst 8 dX9_isBody_7 oc_i0 rfl ?_
    refine oRun.iaload (x := m.1 52 0) 9 dX9_isBody_8 (Or.inr ⟨_, rfl⟩) (oAL_lit (i := 0) rfl) rfl ?_
    refine oRun.iconst 10 dX9_isBody_9 oc_i1 rfl ?_
    refine oRun.isub 11 dX9_isBody_10 rfl ?_
    refine oRun.i2l 12 dX9_isBody_11 rfl ?_
    obtain ⟨r12, hr12, h⟩ := oB1 h
    refine oRun.callS (as := [.long x1.toInt64, .long 0, .long (((m.1 52 0) - 1)).toInt64]) 15 dX9_isBody_12 lk_RX9_44 (oFit_i (Nat.le_of_ble_eq_true rfl) (Nat.le_of_ble_eq_true rfl)) rfl (Nat.le_of_ble_eq_true rfl) (Nat.le_of_ble_eq_true rfl) rfl (E_X9_isIn hr12) rfl ?_
    show oRun G _ 15 _ [.int r12] _ _ _
    rw [← Option.some.inj h]
    exact oRun.ret (r := some (.int r12)) dX9_isBody_15
  · show oROK (some .boolean) (some (.int w))
    obtain ⟨r12, hr12, h⟩ := oB1 h
    rw [← Option.some.inj h]
    exact (E_X9_isIn (G := G) (m := m) hr12).2
set_option maxRecDepth 100000 in
set_option maxHeartbeats 4000000 in
theorem E_X9_ratio {G : oG} {m : oM} {x1 : Int32} {x2 : Int32} {x3 : Int32} {w : Int32 × oM} (h : F_X9_ratio m x1 x2 x3 = some w) : oEv G M_X9_ratio [.ref 51, .int x1, .int x2, .int x3] m (some (.int w.1)) w.2 := by
  unfold F_X9_ratio at h
  refine ⟨?_, ?_⟩
  · show oRun G M_X9_ratio 0 [(0, .ref 51), (1, .int x1), (2, .int x2), (3, .int x3)] [] m (some (.int w.1)) w.2
    refine oRun.aload_n 1 dX9_ratio_0 0 rfl rfl (Nat.le_of_ble_eq_true rfl) rfl ?_
    refine oRun.iload_n 2 dX9_ratio_1 1 rfl rfl rfl ?_
    obtain ⟨r2, hr2, h⟩ := oB1 h
    refine oRun.callV (as := [.int x1]) 5 dX9_ratio_2 lk_RX9_62 (oFit_i (Nat.le_of_ble_eq_true rfl) (Nat.le_of_ble_eq_true rfl)) rfl rfl rfl rfl (Nat.le_of_ble_eq_true rfl) (Nat.le_of_ble_eq_true rfl) rfl (E_X9_isBody hr2) rfl ?_
    show oRun G _ 5 _ [.int r2] _ _ _
    by_cases c5 : r2 = 0
    · replace h := oIp c5 h
      refine oRun.if_ne_f 8 dX9_ratio_5 rfl c5 rfl ?_
      refine oRun.iconst 9 dX9_ratio_8 oc_im1 rfl ?_
      rw [← Option.some.inj h]
      exact oRun.ret (r := some (.int (-1))) dX9_ratio_9
    · replace h := oIn c5 h
      refine oRun.if_ne_t 10 dX9_ratio_5 c5 rfl ?_
      refine oRun.iload_n 11 dX9_ratio_10 2 rfl rfl rfl ?_
      refine oRun.iload_n 12 dX9_ratio_11 3 rfl rfl rfl ?_
      obtain ⟨r12, hr12, h⟩ := oB1 h
      refine oRun.callS (as := [.int x2, .int x3]) 15 dX9_ratio_12 lk_RX9_54 (oFit_i (Nat.le_of_ble_eq_true rfl) (Nat.le_of_ble_eq_true rfl)) rfl (Nat.le_of_ble_eq_true rfl) (Nat.le_of_ble_eq_true rfl) rfl (E_X9_isRatio hr12) rfl ?_
      show oRun G _ 15 _ [.int r12] _ _ _
      by_cases c15 : r12 = 0
      · replace h := oIp c15 h
        refine oRun.if_ne_f 18 dX9_ratio_15 rfl c15 rfl ?_
        refine oRun.bipush 20 dX9_ratio_18 oc_bm2 rfl ?_
        rw [← Option.some.inj h]
        exact oRun.ret (r := some (.int (-2))) dX9_ratio_20
      · replace h := oIn c15 h
        refine oRun.if_ne_t 21 dX9_ratio_15 c15 rfl ?_
        refine oRun.sipush 24 dX9_ratio_21 oc_s10000 rfl ?_
        refine oRun.aload_n 25 dX9_ratio_24 0 rfl rfl (Nat.le_of_ble_eq_true rfl) rfl ?_
        refine oRun.getR 28 dX9_ratio_25 fd_RX9_11 rfl rfl (Nat.le_of_ble_eq_true rfl) rfl ?_
        refine oRun.bipush 30 dX9_ratio_28 oc_b7 rfl ?_
        refine oRun.iload_n 31 dX9_ratio_30 1 rfl rfl rfl ?_
        refine oRun.iadd 32 dX9_ratio_31 rfl ?_
        obtain ⟨v32, hv32, h⟩ := oB1 h
        refine oRun.iaload 33 dX9_ratio_32 (Or.inr ⟨_, rfl⟩) hv32 rfl ?_
        refine oRun.imul 34 dX9_ratio_33 rfl ?_
        refine oRun.aload_n 35 dX9_ratio_34 0 rfl rfl (Nat.le_of_ble_eq_true rfl) rfl ?_
        refine oRun.getR 38 dX9_ratio_35 fd_RX9_11 rfl rfl (Nat.le_of_ble_eq_true rfl) rfl ?_
        refine oRun.bipush 40 dX9_ratio_38 oc_b13 rfl ?_
        refine oRun.iload_n 41 dX9_ratio_40 1 rfl rfl rfl ?_
        refine oRun.iadd 42 dX9_ratio_41 rfl ?_
        obtain ⟨v42, hv42, h⟩ := oB1 h
        refine oRun.iaload 43 dX9_ratio_42 (Or.inr ⟨_, rfl⟩) hv42 rfl ?_
        refine oRun.iadd 44 dX9_ratio_43 rfl ?_
        obtain ⟨x4_44, hx4_44, h⟩ := oB1 h
        refine oRun.nameI hx4_44 ?_
        refine oRun.istore 46 dX9_ratio_44 (Nat.le_of_ble_eq_true rfl) rfl rfl ?_
        refine oRun.aload_n 47 dX9_ratio_46 1 rfl rfl (Nat.le_of_ble_eq_true rfl) rfl ?_
        refine oRun.iload_n 48 dX9_ratio_47 2 rfl rfl rfl ?_
        refine oRun.iload_n 49 dX9_ratio_48 3 rfl rfl rfl ?_
        refine oRun.iload_n 50 dX9_ratio_49 4 rfl rfl rfl ?_
        obtain ⟨r50, hr50, h⟩ := oB1 h
        refine oRun.callV (as := [.int x1, .int x2, .int x3]) 53 dX9_ratio_50 lk_RX9_58 (oFit_i (Nat.le_of_ble_eq_true rfl) (Nat.le_of_ble_eq_true rfl)) rfl rfl rfl rfl (Nat.le_of_ble_eq_true rfl) (Nat.le_of_ble_eq_true rfl) rfl (E_X9_becomesRatio hr50) rfl ?_
        show oRun G _ 53 _ [] _ _ _
        refine oRun.iload 55 dX9_ratio_53 0 rfl rfl ?_
        rw [← Option.some.inj h]
        exact oRun.ret (r := some (.int x4_44)) dX9_ratio_55
  · exact True.intro
set_option maxRecDepth 100000 in
set_option maxHeartbeats 4000000 in
theorem E_X8_term_L44 {G : oG} {m : oM} {x2 : Int32} {r : Option Value} {m' : oM} : ∀ (n : Nat) (x3 : Int32) (x4 : Int32) (x5 : Int32) (x6 : Int32) (b : (Int32) ⊕ (Int32)), oLoop (fun s : Int32 × Int32 × Int32 × Int32 => F_X8_term_L44 m x2 s.1 s.2.1 s.2.2.1 s.2.2.2) n (x3, x4, x5, x6) = some b → Sum.elim (fun yy => oRun G M_X8_term 89 [(2, .int x2), (5, .int yy)] [] m r m') (fun zz => r = (some (.int zz)) ∧ m' = m) b → oRun G M_X8_term 44 [(2, .int x2), (3, .int x3), (4, .int x4), (5, .int x5), (6, .int x6)] [] m r m' := by
  intro n
  induction n with
  | zero => intro x3 x4 x5 x6 b h _; exact (oLoop_zero h).elim
  | succ n ih =>
    intro x3 x4 x5 x6 b h he
    obtain ⟨q', hq', h⟩ := oLoop_succ h
    have hc : ∀ s' : Int32 × Int32 × Int32 × Int32, q' = .inl s' → oRun G M_X8_term 44 [(2, .int x2), (3, .int s'.1), (4, .int s'.2.1), (5, .int s'.2.2.1), (6, .int s'.2.2.2)] [] m r m' := by
      rintro s' rfl
      exact ih (s'.1) (s'.2.1) (s'.2.2.1) (s'.2.2.2) b h he
    have hx : ∀ b' : (Int32) ⊕ (Int32), q' = .inr b' → Sum.elim (fun yy => oRun G M_X8_term 89 [(2, .int x2), (5, .int yy)] [] m r m') (fun zz => r = (some (.int zz)) ∧ m' = m) b' := by
      rintro b' rfl
      have h : b' = b := h
      rw [h]
      exact he
    clear h he ih
    have h := hq'
    clear hq'
    replace h : F_X8_term_L44 m x2 x3 x4 x5 x6 = some q' := h
    unfold F_X8_term_L44 at h
    refine oRun.iload 46 dX8_term_44 4 rfl rfl ?_
    refine oRun.bipush 48 dX8_term_46 oc_b100 rfl ?_
    by_cases c48 : 100 ≤ x6
    · replace h := oIp c48 h
      refine oRun.icmp_ge_t 89 dX8_term_48 c48 rfl ?_
      cases h
      refine oRun.sub [0, 3] rfl ?_
      exact hx _ rfl
    · replace h := oIn c48 h
      refine oRun.icmp_ge_f 51 dX8_term_48 rfl c48 rfl ?_
      refine oRun.iload 53 dX8_term_51 2 rfl rfl ?_
      by_cases c53 : x4 = 0
      · replace h := oIp c53 h
        refine oRun.if_eq_t 89 dX8_term_53 c53 rfl ?_
        cases h
        refine oRun.sub [0, 3] rfl ?_
        exact hx _ rfl
      · replace h := oIn c53 h
        refine oRun.if_eq_f 56 dX8_term_53 rfl c53 rfl ?_
        refine oRun.iload 58 dX8_term_56 4 rfl rfl ?_
        refine oRun.iload_n 59 dX8_term_58 0 rfl rfl rfl ?_
        by_cases c59 : x6 = x2
        · replace h := oIp c59 h
          refine oRun.icmp_ne_f 62 dX8_term_59 rfl c59 rfl ?_
          refine oRun.iload_n 63 dX8_term_62 1 rfl rfl rfl ?_
          refine oRun.iload 65 dX8_term_63 2 rfl rfl ?_
          obtain ⟨v65, hv65, h⟩ := oB1 h
          obtain ⟨hz65, hv65⟩ := oDz hv65
          refine oRun.idiv 66 dX8_term_65 hz65 rfl ?_
          refine oRun.nameI hv65 ?_
          cases h
          obtain ⟨hr1, hr2⟩ := hx _ rfl
          rw [hr1, hr2]
          exact oRun.ret (r := some (.int v65)) dX8_term_66
        · replace h := oIn c59 h
          refine oRun.icmp_ne_t 67 dX8_term_59 c59 rfl ?_
          refine oRun.iload_n 68 dX8_term_67 1 rfl rfl rfl ?_
          refine oRun.iload 70 dX8_term_68 2 rfl rfl ?_
          obtain ⟨v70, hv70, h⟩ := oB1 h
          obtain ⟨hz70, hv70⟩ := oDz hv70
          refine oRun.irem 71 dX8_term_70 hz70 rfl ?_
          refine oRun.nameI hv70 ?_
          refine oRun.istore 73 dX8_term_71 (Nat.le_of_ble_eq_true rfl) rfl rfl ?_
          refine oRun.iload 75 dX8_term_73 3 rfl rfl ?_
          refine oRun.istore_n 76 dX8_term_75 rfl (Nat.le_of_ble_eq_true rfl) rfl rfl ?_
          refine oRun.iload 78 dX8_term_76 1 rfl rfl ?_
          refine oRun.istore 80 dX8_term_78 (Nat.le_of_ble_eq_true rfl) rfl rfl ?_
          refine oRun.iinc 83 dX8_term_80 4 rfl (oAddC oc_i1) (Nat.le_of_ble_eq_true rfl) rfl rfl ?_
          refine oRun.iinc 86 dX8_term_83 5 rfl (oAddC oc_i1) (Nat.le_of_ble_eq_true rfl) rfl rfl ?_
          refine oRun.goto 44 dX8_term_86 rfl ?_
          cases h
          refine oRun.sub [5, 3, 2, 1, 0] rfl ?_
          exact hc _ rfl
set_option maxRecDepth 100000 in
set_option maxHeartbeats 4000000 in
theorem E_X8_term {G : oG} {m : oM} {x1 : Int32} {x2 : Int32} {w : Int32} (h : F_X8_term m x1 x2 = some w) : oEv G M_X8_term [.ref 0, .int x1, .int x2] m (some (.int w)) m := by
  unfold F_X8_term at h
  refine ⟨?_, ?_⟩
  · show oRun G M_X8_term 0 [(0, .ref 0), (1, .int x1), (2, .int x2)] [] m (some (.int w)) m
    refine oRun.aload_n 1 dX8_term_0 0 rfl rfl (Nat.le_of_ble_eq_true rfl) rfl ?_
    refine oRun.getR 4 dX8_term_1 fd_RX8_12 rfl rfl (Nat.le_of_ble_eq_true rfl) rfl ?_
    refine oRun.iload_n 5 dX8_term_4 1 rfl rfl rfl ?_
    obtain ⟨r5, hr5, h⟩ := oB1 h
    refine oRun.callV (as := [.int x1]) 8 dX8_term_5 lk_RX8_68 (oFit_i (Nat.le_of_ble_eq_true rfl) (Nat.le_of_ble_eq_true rfl)) rfl rfl rfl rfl (Nat.le_of_ble_eq_true rfl) (Nat.le_of_ble_eq_true rfl) rfl (E_X1_hasBody rfl hr5) rfl ?_
    show oRun G _ 8 _ [.int r5] _ _ _
    by_cases c8 : r5 = 0
    · replace h := oIp c8 h
      refine oRun.if_ne_f 11 dX8_term_8 rfl c8 rfl ?_
      refine oRun.iconst 12 dX8_term_11 oc_im1 rfl ?_
      rw [← Option.some.inj h]
      exact oRun.ret (r := some (.int (-1))) dX8_term_12
    · replace h := oIn c8 h
      refine oRun.if_ne_t 13 dX8_term_8 c8 rfl ?_
      refine oRun.aload_n 14 dX8_term_13 0 rfl rfl (Nat.le_of_ble_eq_true rfl) rfl ?_
      refine oRun.getR 17 dX8_term_14 fd_RX8_12 rfl rfl (Nat.le_of_ble_eq_true rfl) rfl ?_
      refine oRun.getR 20 dX8_term_17 fd_RX8_72 rfl rfl (Nat.le_of_ble_eq_true rfl) rfl ?_
      refine oRun.iload_n 21 dX8_term_20 1 rfl rfl rfl ?_
      obtain ⟨r21, hr21, h⟩ := oB1 h
      refine oRun.callS (as := [.ref 2, .int x1]) 24 dX8_term_21 lk_RX8_76 (oFit_i (Nat.le_of_ble_eq_true rfl) (Nat.le_of_ble_eq_true rfl)) rfl (Nat.le_of_ble_eq_true rfl) (Nat.le_of_ble_eq_true rfl) rfl (E_X8_at (Or.inr ⟨_, rfl⟩) hr21) rfl ?_
      show oRun G _ 24 _ [.int r21] _ _ _
      refine oRun.istore_n 25 dX8_term_24 rfl (Nat.le_of_ble_eq_true rfl) rfl rfl ?_
      refine oRun.aload_n 26 dX8_term_25 1 rfl rfl (Nat.le_of_ble_eq_true rfl) rfl ?_
      refine oRun.getR 29 dX8_term_26 fd_RX8_12 rfl rfl (Nat.le_of_ble_eq_true rfl) rfl ?_
      refine oRun.getR 32 dX8_term_29 fd_RX8_80 rfl rfl (Nat.le_of_ble_eq_true rfl) rfl ?_
      refine oRun.iload_n 33 dX8_term_32 2 rfl rfl rfl ?_
      obtain ⟨r33, hr33, h⟩ := oB1 h
      refine oRun.callS (as := [.ref 3, .int x1]) 36 dX8_term_33 lk_RX8_76 (oFit_i (Nat.le_of_ble_eq_true rfl) (Nat.le_of_ble_eq_true rfl)) rfl (Nat.le_of_ble_eq_true rfl) (Nat.le_of_ble_eq_true rfl) rfl (E_X8_at (Or.inr ⟨_, rfl⟩) hr33) rfl ?_
      show oRun G _ 36 _ [.int r33] _ _ _
      refine oRun.istore 38 dX8_term_36 (Nat.le_of_ble_eq_true rfl) rfl rfl ?_
      refine oRun.iconst 39 dX8_term_38 oc_i0 rfl ?_
      refine oRun.istore 41 dX8_term_39 (Nat.le_of_ble_eq_true rfl) rfl rfl ?_
      refine oRun.iconst 42 dX8_term_41 oc_i0 rfl ?_
      refine oRun.istore 44 dX8_term_42 (Nat.le_of_ble_eq_true rfl) rfl rfl ?_
      obtain ⟨b44, hb44, h⟩ := oB1 h
      refine oRun.sub [6, 3, 2, 1, 0] rfl ?_
      refine E_X8_term_L44 _ _ _ _ _ _ hb44 ?_
      rcases b44 with y44 | z44
      · replace h := oSl h
        show oRun G _ _ _ _ _ _ _
        refine oRun.iload_n 90 dX8_term_89 0 rfl rfl rfl ?_
        refine oRun.iconst 91 dX8_term_90 oc_im1 rfl ?_
        by_cases c91 : x2 = (-1)
        · replace h := oIp c91 h
          refine oRun.icmp_ne_f 94 dX8_term_91 rfl c91 rfl ?_
          refine oRun.iload 96 dX8_term_94 1 rfl rfl ?_
          refine oRun.goto 101 dX8_term_96 rfl ?_
          rw [← Option.some.inj h]
          exact oRun.ret (r := some (.int y44)) dX8_term_101
        · replace h := oIn c91 h
          refine oRun.icmp_ne_t 99 dX8_term_91 c91 rfl ?_
          refine oRun.bipush 101 dX8_term_99 oc_bm5 rfl ?_
          rw [← Option.some.inj h]
          exact oRun.ret (r := some (.int (-5))) dX8_term_101
      · replace h := oSr h
        cases h
        exact ⟨rfl, rfl⟩
  · exact True.intro
set_option maxRecDepth 100000 in
set_option maxHeartbeats 4000000 in
theorem E_X9_terms_L23 {G : oG} {r : Option Value} {m' : oM} : ∀ (n : Nat) (x2 : Int32) (x3 : Int32) (x4 : Int32) (m : oM) (b : Int32 × oM), oLoop (fun s : Int32 × Int32 × Int32 × oM => F_X9_terms_L23 s.1 s.2.1 s.2.2.1 s.2.2.2) n (x2, x3, x4, m) = some b → oRun G M_X9_terms 53 [(4, .int b.1)] [] b.2 r m' → oRun G M_X9_terms 23 [(0, .ref 51), (2, .int x2), (3, .int x3), (4, .int x4)] [] m r m' := by
  intro n
  induction n with
  | zero => intro x2 x3 x4 m b h _; exact (oLoop_zero h).elim
  | succ n ih =>
    intro x2 x3 x4 m b h he
    obtain ⟨q', hq', h⟩ := oLoop_succ h
    have hc : ∀ s' : Int32 × Int32 × Int32 × oM, q' = .inl s' → oRun G M_X9_terms 23 [(0, .ref 51), (2, .int s'.1), (3, .int s'.2.1), (4, .int s'.2.2.1)] [] s'.2.2.2 r m' := by
      rintro s' rfl
      exact ih (s'.1) (s'.2.1) (s'.2.2.1) (s'.2.2.2) b h he
    have hx : ∀ b' : Int32 × oM, q' = .inr b' → oRun G M_X9_terms 53 [(4, .int b'.1)] [] b'.2 r m' := by
      rintro b' rfl
      have h : b' = b := h
      rw [h]
      exact he
    clear h he ih
    have h := hq'
    clear hq'
    replace h : F_X9_terms_L23 x2 x3 x4 m = some q' := h
    unfold F_X9_terms_L23 at h
    refine oRun.iload_n 24 dX9_terms_23 2 rfl rfl rfl ?_
    by_cases c24 : x3 = 0
    · replace h := oIp c24 h
      refine oRun.if_eq_t 53 dX9_terms_24 c24 rfl ?_
      cases h
      refine oRun.sub [3] rfl ?_
      exact hx _ rfl
    · replace h := oIn c24 h
      refine oRun.if_eq_f 27 dX9_terms_24 rfl c24 rfl ?_
      refine oRun.aload_n 28 dX9_terms_27 0 rfl rfl (Nat.le_of_ble_eq_true rfl) rfl ?_
      refine oRun.getR 31 dX9_terms_28 fd_RX9_34 rfl rfl (Nat.le_of_ble_eq_true rfl) rfl ?_
      refine oRun.iload 33 dX9_terms_31 3 rfl rfl ?_
      refine oRun.iload_n 34 dX9_terms_33 1 rfl rfl rfl ?_
      refine oRun.iload_n 35 dX9_terms_34 2 rfl rfl rfl ?_
      obtain ⟨v35, hv35, h⟩ := oB1 h
      obtain ⟨hz35, hv35⟩ := oDz hv35
      refine oRun.idiv 36 dX9_terms_35 hz35 rfl ?_
      refine oRun.nameI hv35 ?_
      obtain ⟨m36, hm36, h⟩ := oB1 h
      refine oRun.iastore 37 dX9_terms_36 rfl hm36 rfl ?_
      refine oRun.iinc 40 dX9_terms_37 3 rfl (oAddC oc_i1) (Nat.le_of_ble_eq_true rfl) rfl rfl ?_
      refine oRun.iload_n 41 dX9_terms_40 2 rfl rfl rfl ?_
      refine oRun.iload_n 42 dX9_terms_41 3 rfl rfl rfl ?_
      obtain ⟨v42, hv42, h⟩ := oB1 h
      obtain ⟨hz42, hv42⟩ := oDz hv42
      refine oRun.irem 43 dX9_terms_42 hz42 rfl ?_
      refine oRun.nameI hv42 ?_
      refine oRun.istore 45 dX9_terms_43 (Nat.le_of_ble_eq_true rfl) rfl rfl ?_
      refine oRun.iload_n 46 dX9_terms_45 4 rfl rfl rfl ?_
      refine oRun.istore_n 47 dX9_terms_46 rfl (Nat.le_of_ble_eq_true rfl) rfl rfl ?_
      refine oRun.iload 49 dX9_terms_47 1 rfl rfl ?_
      refine oRun.istore_n 50 dX9_terms_49 rfl (Nat.le_of_ble_eq_true rfl) rfl rfl ?_
      refine oRun.goto 23 dX9_terms_50 rfl ?_
      cases h
      refine oRun.sub [4, 1, 0, 3] rfl ?_
      exact hc _ rfl
set_option maxRecDepth 100000 in
set_option maxHeartbeats 4000000 in
theorem E_X9_terms {G : oG} {m : oM} {x1 : Int32} {w : Int32 × oM} (h : F_X9_terms m x1 = some w) : oEv G M_X9_terms [.ref 51, .int x1] m (some (.int w.1)) w.2 := by
  unfold F_X9_terms at h
  refine ⟨?_, ?_⟩
  · show oRun G M_X9_terms 0 [(0, .ref 51), (1, .int x1)] [] m (some (.int w.1)) w.2
    refine oRun.aload_n 1 dX9_terms_0 0 rfl rfl (Nat.le_of_ble_eq_true rfl) rfl ?_
    refine oRun.getR 4 dX9_terms_1 fd_RX9_11 rfl rfl (Nat.le_of_ble_eq_true rfl) rfl ?_
    refine oRun.bipush 6 dX9_terms_4 oc_b7 rfl ?_
    refine oRun.iload_n 7 dX9_terms_6 1 rfl rfl rfl ?_
    refine oRun.iadd 8 dX9_terms_7 rfl ?_
    obtain ⟨v8, hv8, h⟩ := oB1 h
    refine oRun.iaload 9 dX9_terms_8 (Or.inr ⟨_, rfl⟩) hv8 rfl ?_
    refine oRun.istore_n 10 dX9_terms_9 rfl (Nat.le_of_ble_eq_true rfl) rfl rfl ?_
    refine oRun.aload_n 11 dX9_terms_10 1 rfl rfl (Nat.le_of_ble_eq_true rfl) rfl ?_
    refine oRun.getR 14 dX9_terms_11 fd_RX9_11 rfl rfl (Nat.le_of_ble_eq_true rfl) rfl ?_
    refine oRun.bipush 16 dX9_terms_14 oc_b13 rfl ?_
    refine oRun.iload_n 17 dX9_terms_16 2 rfl rfl rfl ?_
    refine oRun.iadd 18 dX9_terms_17 rfl ?_
    obtain ⟨v18, hv18, h⟩ := oB1 h
    refine oRun.iaload 19 dX9_terms_18 (Or.inr ⟨_, rfl⟩) hv18 rfl ?_
    refine oRun.istore_n 20 dX9_terms_19 rfl (Nat.le_of_ble_eq_true rfl) rfl rfl ?_
    refine oRun.iconst 21 dX9_terms_20 oc_i0 rfl ?_
    refine oRun.istore 23 dX9_terms_21 (Nat.le_of_ble_eq_true rfl) rfl rfl ?_
    obtain ⟨b23, hb23, h⟩ := oB1 h
    refine oRun.sub [3, 2, 1, 0] rfl ?_
    refine E_X9_terms_L23 _ _ _ _ _ _ hb23 ?_
    refine oRun.iload 55 dX9_terms_53 0 rfl rfl ?_
    rw [← Option.some.inj h]
    exact oRun.ret (r := some (.int b23.1)) dX9_terms_55
  · exact True.intro
set_option maxRecDepth 100000 in
set_option maxHeartbeats 4000000 in
theorem E_X9_term {G : oG} {m : oM} {x1 : Int32} {x2 : Int32} {w : Int32 × oM} (h : F_X9_term m x1 x2 = some w) : oEv G M_X9_term [.ref 51, .int x1, .int x2] m (some (.int w.1)) w.2 := by
  unfold F_X9_term at h
  refine ⟨?_, ?_⟩
  · show oRun G M_X9_term 0 [(0, .ref 51), (1, .int x1), (2, .int x2)] [] m (some (.int w.1)) w.2
    refine oRun.aload_n 1 dX9_term_0 0 rfl rfl (Nat.le_of_ble_eq_true rfl) rfl ?_
    refine oRun.iload_n 2 dX9_term_1 1 rfl rfl rfl ?_
    obtain ⟨r2, hr2, h⟩ := oB1 h
    refine oRun.callV (as := [.int x1]) 5 dX9_term_2 lk_RX9_62 (oFit_i (Nat.le_of_ble_eq_true rfl) (Nat.le_of_ble_eq_true rfl)) rfl rfl rfl rfl (Nat.le_of_ble_eq_true rfl) (Nat.le_of_ble_eq_true rfl) rfl (E_X9_isBody hr2) rfl ?_
    show oRun G _ 5 _ [.int r2] _ _ _
    by_cases c5 : r2 = 0
    · replace h := oIp c5 h
      refine oRun.if_ne_f 8 dX9_term_5 rfl c5 rfl ?_
      refine oRun.iconst 9 dX9_term_8 oc_im1 rfl ?_
      rw [← Option.some.inj h]
      exact oRun.ret (r := some (.int (-1))) dX9_term_9
    · replace h := oIn c5 h
      refine oRun.if_ne_t 10 dX9_term_5 c5 rfl ?_
      refine oRun.aload_n 11 dX9_term_10 0 rfl rfl (Nat.le_of_ble_eq_true rfl) rfl ?_
      refine oRun.iload_n 12 dX9_term_11 1 rfl rfl rfl ?_
      obtain ⟨r12, hr12, h⟩ := oB1 h
      refine oRun.callV (as := [.int x1]) 15 dX9_term_12 lk_RX9_66 (oFit_i (Nat.le_of_ble_eq_true rfl) (Nat.le_of_ble_eq_true rfl)) rfl rfl rfl rfl (Nat.le_of_ble_eq_true rfl) (Nat.le_of_ble_eq_true rfl) rfl (E_X9_terms hr12) rfl ?_
      show oRun G _ 15 _ [.int r12.1] _ _ _
      refine oRun.istore_n 16 dX9_term_15 rfl (Nat.le_of_ble_eq_true rfl) rfl rfl ?_
      refine oRun.iload_n 17 dX9_term_16 3 rfl rfl rfl ?_
      refine oRun.iconst 18 dX9_term_17 oc_im1 rfl ?_
      by_cases c18 : x2 = (-1)
      · replace h := oIp c18 h
        refine oRun.icmp_ne_f 21 dX9_term_18 rfl c18 rfl ?_
        refine oRun.iload_n 22 dX9_term_21 0 rfl rfl rfl ?_
        rw [← Option.some.inj h]
        exact oRun.ret (r := some (.int r12.1)) dX9_term_22
      · replace h := oIn c18 h
        refine oRun.icmp_ne_t 23 dX9_term_18 c18 rfl ?_
        refine oRun.iload_n 24 dX9_term_23 3 rfl rfl rfl ?_
        refine oRun.i2l 25 dX9_term_24 rfl ?_
        refine oRun.lconst 26 dX9_term_25 oc_l0 rfl ?_
        refine oRun.iload_n 27 dX9_term_26 0 rfl rfl rfl ?_
        refine oRun.iconst 28 dX9_term_27 oc_i1 rfl ?_
        refine oRun.isub 29 dX9_term_28 rfl ?_
        refine oRun.i2l 30 dX9_term_29 rfl ?_
        obtain ⟨r30, hr30, h⟩ := oB1 h
        refine oRun.callS (as := [.long x2.toInt64, .long 0, .long ((r12.1 - 1)).toInt64]) 33 dX9_term_30 lk_RX9_44 (oFit_i (Nat.le_of_ble_eq_true rfl) (Nat.le_of_ble_eq_true rfl)) rfl (Nat.le_of_ble_eq_true rfl) (Nat.le_of_ble_eq_true rfl) rfl (E_X9_isIn hr30) rfl ?_
        show oRun G _ 33 _ [.int r30] _ _ _
        by_cases c33 : r30 = 0
        · replace h := oIp c33 h
          refine oRun.if_eq_t 45 dX9_term_33 c33 rfl ?_
          refine oRun.bipush 47 dX9_term_45 oc_bm5 rfl ?_
          rw [← Option.some.inj h]
          exact oRun.ret (r := some (.int (-5))) dX9_term_47
        · replace h := oIn c33 h
          refine oRun.if_eq_f 36 dX9_term_33 rfl c33 rfl ?_
          refine oRun.aload_n 37 dX9_term_36 1 rfl rfl (Nat.le_of_ble_eq_true rfl) rfl ?_
          refine oRun.getR 40 dX9_term_37 fd_RX9_34 rfl rfl (Nat.le_of_ble_eq_true rfl) rfl ?_
          refine oRun.iload_n 41 dX9_term_40 3 rfl rfl rfl ?_
          obtain ⟨v41, hv41, h⟩ := oB1 h
          refine oRun.iaload 42 dX9_term_41 (Or.inr ⟨_, rfl⟩) hv41 rfl ?_
          refine oRun.goto 47 dX9_term_42 rfl ?_
          rw [← Option.some.inj h]
          exact oRun.ret (r := some (.int v41)) dX9_term_47
  · exact True.intro
set_option maxRecDepth 100000 in
set_option maxHeartbeats 4000000 in
theorem E_X8_isPart {G : oG} {m : oM} {x0 : Int32} {w : Int32} (h : F_X8_isPart x0 = some w) : oEv G M_X8_isPart [.int x0] m (some (.int w)) m := by
  unfold F_X8_isPart at h
  refine ⟨?_, ?_⟩
  · show oRun G M_X8_isPart 0 [(0, .int x0)] [] m (some (.int w)) m
    refine oRun.iload_n 1 dX8_isPart_0 0 rfl rfl rfl ?_
    by_cases c1 : x0 = 0
    · replace h := oIp c1 h
      refine oRun.if_eq_t 9 dX8_isPart_1 c1 rfl ?_
      refine oRun.iconst 10 dX8_isPart_9 oc_i1 rfl ?_
      refine oRun.goto 14 dX8_isPart_10 rfl ?_
      rw [← Option.some.inj h]
      exact oRun.ret (r := some (.int 1)) dX8_isPart_14
    · replace h := oIn c1 h
      refine oRun.if_eq_f 4 dX8_isPart_1 rfl c1 rfl ?_
      refine oRun.iload_n 5 dX8_isPart_4 0 rfl rfl rfl ?_
      refine oRun.iconst 6 dX8_isPart_5 oc_i1 rfl ?_
      by_cases c6 : x0 = 1
      · replace h := oIp c6 h
        refine oRun.icmp_ne_f 9 dX8_isPart_6 rfl c6 rfl ?_
        refine oRun.iconst 10 dX8_isPart_9 oc_i1 rfl ?_
        refine oRun.goto 14 dX8_isPart_10 rfl ?_
        rw [← Option.some.inj h]
        exact oRun.ret (r := some (.int 1)) dX8_isPart_14
      · replace h := oIn c6 h
        refine oRun.icmp_ne_t 13 dX8_isPart_6 c6 rfl ?_
        refine oRun.iconst 14 dX8_isPart_13 oc_i0 rfl ?_
        rw [← Option.some.inj h]
        exact oRun.ret (r := some (.int 0)) dX8_isPart_14
  · show oROK (some .boolean) (some (.int w))
    by_cases c1 : x0 = 0
    · replace h := oIp c1 h
      rw [← Option.some.inj h]
      exact Or.inr rfl
    · replace h := oIn c1 h
      by_cases c6 : x0 = 1
      · replace h := oIp c6 h
        rw [← Option.some.inj h]
        exact Or.inr rfl
      · replace h := oIn c6 h
        rw [← Option.some.inj h]
        exact Or.inl rfl
set_option maxRecDepth 100000 in
set_option maxHeartbeats 4000000 in
theorem E_X8_convergent_L63 {G : oG} {m : oM} {x2 : Int32} {x3 : Int32} {r : Option Value} {m' : oM} : ∀ (n : Nat) (x4 : Int32) (x5 : Int32) (x6 : Int64) (x8 : Int64) (x10 : Int64) (x12 : Int64) (x14 : Int32) (b : (Unit) ⊕ (Int64)), oLoop (fun s : Int32 × Int32 × Int64 × Int64 × Int64 × Int64 × Int32 => F_X8_convergent_L63 m x2 x3 s.1 s.2.1 s.2.2.1 s.2.2.2.1 s.2.2.2.2.1 s.2.2.2.2.2.1 s.2.2.2.2.2.2) n (x4, x5, x6, x8, x10, x12, x14) = some b → Sum.elim (fun yy => oRun G M_X8_convergent 155 [] [] m r m') (fun zz => r = (some (.long zz)) ∧ m' = m) b → oRun G M_X8_convergent 63 [(2, .int x2), (3, .int x3), (4, .int x4), (5, .int x5), (6, .long x6), (8, .long x8), (10, .long x10), (12, .long x12), (14, .int x14)] [] m r m' := by
  intro n
  induction n with
  | zero => intro x4 x5 x6 x8 x10 x12 x14 b h _; exact (oLoop_zero h).elim
  | succ n ih =>
    intro x4 x5 x6 x8 x10 x12 x14 b h he
    obtain ⟨q', hq', h⟩ := oLoop_succ h
    have hc : ∀ s' : Int32 × Int32 × Int64 × Int64 × Int64 × Int64 × Int32, q' = .inl s' → oRun G M_X8_convergent 63 [(2, .int x2), (3, .int x3), (4, .int s'.1), (5, .int s'.2.1), (6, .long s'.2.2.1), (8, .long s'.2.2.2.1), (10, .long s'.2.2.2.2.1), (12, .long s'.2.2.2.2.2.1), (14, .int s'.2.2.2.2.2.2)] [] m r m' := by
      rintro s' rfl
      exact ih (s'.1) (s'.2.1) (s'.2.2.1) (s'.2.2.2.1) (s'.2.2.2.2.1) (s'.2.2.2.2.2.1) (s'.2.2.2.2.2.2) b h he
    have hx : ∀ b' : (Unit) ⊕ (Int64), q' = .inr b' → Sum.elim (fun yy => oRun G M_X8_convergent 155 [] [] m r m') (fun zz => r = (some (.long zz)) ∧ m' = m) b' := by
      rintro b' rfl
      have h : b' = b := h
      rw [h]
      exact he
    clear h he ih
    have h := hq'
    clear hq'
    replace h : F_X8_convergent_L63 m x2 x3 x4 x5 x6 x8 x10 x12 x14 = some q' := h
    unfold F_X8_convergent_L63 at h
    refine oRun.iload 65 dX8_convergent_63 8 rfl rfl ?_
    refine oRun.bipush 67 dX8_convergent_65 oc_b100 rfl ?_
    by_cases c67 : 100 ≤ x14
    · replace h := oIp c67 h
      refine oRun.icmp_ge_t 155 dX8_convergent_67 c67 rfl ?_
      cases h
      refine oRun.sub [] rfl ?_
      exact hx _ rfl
    · replace h := oIn c67 h
      refine oRun.icmp_ge_f 70 dX8_convergent_67 rfl c67 rfl ?_
      refine oRun.iload 72 dX8_convergent_70 3 rfl rfl ?_
      by_cases c72 : x5 = 0
      · replace h := oIp c72 h
        refine oRun.if_eq_t 155 dX8_convergent_72 c72 rfl ?_
        cases h
        refine oRun.sub [] rfl ?_
        exact hx _ rfl
      · replace h := oIn c72 h
        refine oRun.if_eq_f 75 dX8_convergent_72 rfl c72 rfl ?_
        refine oRun.iload 77 dX8_convergent_75 2 rfl rfl ?_
        refine oRun.iload 79 dX8_convergent_77 3 rfl rfl ?_
        obtain ⟨v79, hv79, h⟩ := oB1 h
        obtain ⟨hz79, hv79⟩ := oDz hv79
        refine oRun.idiv 80 dX8_convergent_79 hz79 rfl ?_
        refine oRun.nameI hv79 ?_
        refine oRun.i2l 81 dX8_convergent_80 rfl ?_
        refine oRun.lstore 83 dX8_convergent_81 (Nat.le_of_ble_eq_true rfl) rfl rfl ?_
        refine oRun.lload 85 dX8_convergent_83 0 rfl rfl ?_
        refine oRun.lload 87 dX8_convergent_85 5 rfl rfl ?_
        refine oRun.lmul 88 dX8_convergent_87 rfl ?_
        refine oRun.lload 90 dX8_convergent_88 7 rfl rfl ?_
        refine oRun.ladd 91 dX8_convergent_90 rfl ?_
        obtain ⟨x17_91, hx17_91, h⟩ := oB1 h
        refine oRun.nameJ hx17_91 ?_
        refine oRun.lstore 93 dX8_convergent_91 (Nat.le_of_ble_eq_true rfl) rfl rfl ?_
        refine oRun.lload 95 dX8_convergent_93 1 rfl rfl ?_
        refine oRun.lload 97 dX8_convergent_95 7 rfl rfl ?_
        refine oRun.lmul 98 dX8_convergent_97 rfl ?_
        refine oRun.lload 100 dX8_convergent_98 9 rfl rfl ?_
        refine oRun.ladd 101 dX8_convergent_100 rfl ?_
        obtain ⟨x19_101, hx19_101, h⟩ := oB1 h
        refine oRun.nameJ hx19_101 ?_
        refine oRun.lstore 103 dX8_convergent_101 (Nat.le_of_ble_eq_true rfl) rfl rfl ?_
        refine oRun.iload 105 dX8_convergent_103 11 rfl rfl ?_
        refine oRun.iload_n 106 dX8_convergent_105 3 rfl rfl rfl ?_
        by_cases c106 : x14 = x2
        · replace h := oIp c106 h
          refine oRun.icmp_ne_f 109 dX8_convergent_106 rfl c106 rfl ?_
          refine oRun.lload 111 dX8_convergent_109 1 rfl rfl ?_
          refine oRun.lload 113 dX8_convergent_111 0 rfl rfl ?_
          refine oRun.iload_n 114 dX8_convergent_113 4 rfl rfl rfl ?_
          obtain ⟨r114, hr114, h⟩ := oB1 h
          refine oRun.callS (as := [.long x17_91, .long x19_101, .int x3]) 117 dX8_convergent_114 lk_RX8_88 (oFit_i (Nat.le_of_ble_eq_true rfl) (Nat.le_of_ble_eq_true rfl)) rfl (Nat.le_of_ble_eq_true rfl) (Nat.le_of_ble_eq_true rfl) rfl (E_X8_lowest hr114) rfl ?_
          show oRun G _ 117 _ [.long r114] _ _ _
          cases h
          obtain ⟨hr1, hr2⟩ := hx _ rfl
          rw [hr1, hr2]
          exact oRun.ret (r := some (.long r114)) dX8_convergent_117
        · replace h := oIn c106 h
          refine oRun.icmp_ne_t 118 dX8_convergent_106 c106 rfl ?_
          refine oRun.lload 120 dX8_convergent_118 7 rfl rfl ?_
          refine oRun.lstore 122 dX8_convergent_120 (Nat.le_of_ble_eq_true rfl) rfl rfl ?_
          refine oRun.lload 124 dX8_convergent_122 9 rfl rfl ?_
          refine oRun.lstore 126 dX8_convergent_124 (Nat.le_of_ble_eq_true rfl) rfl rfl ?_
          refine oRun.lload 128 dX8_convergent_126 3 rfl rfl ?_
          refine oRun.lstore 130 dX8_convergent_128 (Nat.le_of_ble_eq_true rfl) rfl rfl ?_
          refine oRun.lload 132 dX8_convergent_130 3 rfl rfl ?_
          refine oRun.lstore 134 dX8_convergent_132 (Nat.le_of_ble_eq_true rfl) rfl rfl ?_
          refine oRun.iload 136 dX8_convergent_134 9 rfl rfl ?_
          refine oRun.iload 138 dX8_convergent_136 10 rfl rfl ?_
          obtain ⟨v138, hv138, h⟩ := oB1 h
          obtain ⟨hz138, hv138⟩ := oDz hv138
          refine oRun.irem 139 dX8_convergent_138 hz138 rfl ?_
          refine oRun.nameI hv138 ?_
          refine oRun.istore 141 dX8_convergent_139 (Nat.le_of_ble_eq_true rfl) rfl rfl ?_
          refine oRun.iload 143 dX8_convergent_141 11 rfl rfl ?_
          refine oRun.istore 145 dX8_convergent_143 (Nat.le_of_ble_eq_true rfl) rfl rfl ?_
          refine oRun.iload 147 dX8_convergent_145 1 rfl rfl ?_
          refine oRun.istore 149 dX8_convergent_147 (Nat.le_of_ble_eq_true rfl) rfl rfl ?_
          refine oRun.iinc 152 dX8_convergent_149 12 rfl (oAddC oc_i1) (Nat.le_of_ble_eq_true rfl) rfl rfl ?_
          refine oRun.goto 63 dX8_convergent_152 rfl ?_
          cases h
          refine oRun.sub [11, 12, 2, 1, 5, 4, 7, 6, 0] rfl ?_
          exact hc _ rfl
set_option maxRecDepth 100000 in
set_option maxHeartbeats 4000000 in
theorem E_X8_convergent {G : oG} {m : oM} {x1 : Int32} {x2 : Int32} {x3 : Int32} {w : Int64} (h : F_X8_convergent m x1 x2 x3 = some w) : oEv G M_X8_convergent [.ref 0, .int x1, .int x2, .int x3] m (some (.long w)) m := by
  unfold F_X8_convergent at h
  refine ⟨?_, ?_⟩
  · show oRun G M_X8_convergent 0 [(0, .ref 0), (1, .int x1), (2, .int x2), (3, .int x3)] [] m (some (.long w)) m
    refine oRun.aload_n 1 dX8_convergent_0 0 rfl rfl (Nat.le_of_ble_eq_true rfl) rfl ?_
    refine oRun.getR 4 dX8_convergent_1 fd_RX8_12 rfl rfl (Nat.le_of_ble_eq_true rfl) rfl ?_
    refine oRun.iload_n 5 dX8_convergent_4 1 rfl rfl rfl ?_
    obtain ⟨r5, hr5, h⟩ := oB1 h
    refine oRun.callV (as := [.int x1]) 8 dX8_convergent_5 lk_RX8_68 (oFit_i (Nat.le_of_ble_eq_true rfl) (Nat.le_of_ble_eq_true rfl)) rfl rfl rfl rfl (Nat.le_of_ble_eq_true rfl) (Nat.le_of_ble_eq_true rfl) rfl (E_X1_hasBody rfl hr5) rfl ?_
    show oRun G _ 8 _ [.int r5] _ _ _
    by_cases c8 : r5 = 0
    · replace h := oIp c8 h
      refine oRun.if_eq_t 18 dX8_convergent_8 c8 rfl ?_
      refine oRun.ldc2 21 dX8_convergent_18 wd_2_48 rfl ?_
      rw [← Option.some.inj h]
      exact oRun.ret (r := some (.long (-9223372036854775808))) dX8_convergent_21
    · replace h := oIn c8 h
      refine oRun.if_eq_f 11 dX8_convergent_8 rfl c8 rfl ?_
      refine oRun.iload_n 12 dX8_convergent_11 3 rfl rfl rfl ?_
      obtain ⟨r12, hr12, h⟩ := oB1 h
      refine oRun.callS (as := [.int x3]) 15 dX8_convergent_12 lk_RX8_83 (oFit_i (Nat.le_of_ble_eq_true rfl) (Nat.le_of_ble_eq_true rfl)) rfl (Nat.le_of_ble_eq_true rfl) (Nat.le_of_ble_eq_true rfl) rfl (E_X8_isPart hr12) rfl ?_
      show oRun G _ 15 _ [.int r12] _ _ _
      by_cases c15 : r12 = 0
      · replace h := oIp c15 h
        refine oRun.if_ne_f 18 dX8_convergent_15 rfl c15 rfl ?_
        refine oRun.ldc2 21 dX8_convergent_18 wd_2_48 rfl ?_
        rw [← Option.some.inj h]
        exact oRun.ret (r := some (.long (-9223372036854775808))) dX8_convergent_21
      · replace h := oIn c15 h
        refine oRun.if_ne_t 22 dX8_convergent_15 c15 rfl ?_
        refine oRun.aload_n 23 dX8_convergent_22 0 rfl rfl (Nat.le_of_ble_eq_true rfl) rfl ?_
        refine oRun.getR 26 dX8_convergent_23 fd_RX8_12 rfl rfl (Nat.le_of_ble_eq_true rfl) rfl ?_
        refine oRun.getR 29 dX8_convergent_26 fd_RX8_72 rfl rfl (Nat.le_of_ble_eq_true rfl) rfl ?_
        refine oRun.iload_n 30 dX8_convergent_29 1 rfl rfl rfl ?_
        obtain ⟨r30, hr30, h⟩ := oB1 h
        refine oRun.callS (as := [.ref 2, .int x1]) 33 dX8_convergent_30 lk_RX8_76 (oFit_i (Nat.le_of_ble_eq_true rfl) (Nat.le_of_ble_eq_true rfl)) rfl (Nat.le_of_ble_eq_true rfl) (Nat.le_of_ble_eq_true rfl) rfl (E_X8_at (Or.inr ⟨_, rfl⟩) hr30) rfl ?_
        show oRun G _ 33 _ [.int r30] _ _ _
        refine oRun.istore 35 dX8_convergent_33 (Nat.le_of_ble_eq_true rfl) rfl rfl ?_
        refine oRun.aload_n 36 dX8_convergent_35 1 rfl rfl (Nat.le_of_ble_eq_true rfl) rfl ?_
        refine oRun.getR 39 dX8_convergent_36 fd_RX8_12 rfl rfl (Nat.le_of_ble_eq_true rfl) rfl ?_
        refine oRun.getR 42 dX8_convergent_39 fd_RX8_80 rfl rfl (Nat.le_of_ble_eq_true rfl) rfl ?_
        refine oRun.iload_n 43 dX8_convergent_42 2 rfl rfl rfl ?_
        obtain ⟨r43, hr43, h⟩ := oB1 h
        refine oRun.callS (as := [.ref 3, .int x1]) 46 dX8_convergent_43 lk_RX8_76 (oFit_i (Nat.le_of_ble_eq_true rfl) (Nat.le_of_ble_eq_true rfl)) rfl (Nat.le_of_ble_eq_true rfl) (Nat.le_of_ble_eq_true rfl) rfl (E_X8_at (Or.inr ⟨_, rfl⟩) hr43) rfl ?_
        show oRun G _ 46 _ [.int r43] _ _ _
        refine oRun.istore 48 dX8_convergent_46 (Nat.le_of_ble_eq_true rfl) rfl rfl ?_
        refine oRun.lconst 49 dX8_convergent_48 oc_l1 rfl ?_
        refine oRun.lstore 51 dX8_convergent_49 (Nat.le_of_ble_eq_true rfl) rfl rfl ?_
        refine oRun.lconst 52 dX8_convergent_51 oc_l0 rfl ?_
        refine oRun.lstore 54 dX8_convergent_52 (Nat.le_of_ble_eq_true rfl) rfl rfl ?_
        refine oRun.lconst 55 dX8_convergent_54 oc_l0 rfl ?_
        refine oRun.lstore 57 dX8_convergent_55 (Nat.le_of_ble_eq_true rfl) rfl rfl ?_
        refine oRun.lconst 58 dX8_convergent_57 oc_l1 rfl ?_
        refine oRun.lstore 60 dX8_convergent_58 (Nat.le_of_ble_eq_true rfl) rfl rfl ?_
        refine oRun.iconst 61 dX8_convergent_60 oc_i0 rfl ?_
        refine oRun.istore 63 dX8_convergent_61 (Nat.le_of_ble_eq_true rfl) rfl rfl ?_
        obtain ⟨b63, hb63, h⟩ := oB1 h
        refine oRun.sub [9, 10, 6, 5, 4, 3, 2, 1, 0] rfl ?_
        refine E_X8_convergent_L63 _ _ _ _ _ _ _ _ _ hb63 ?_
        rcases b63 with y63 | z63
        · replace h := oSl h
          show oRun G _ _ _ _ _ _ _
          refine oRun.ldc2 158 dX8_convergent_155 wd_2_48 rfl ?_
          rw [← Option.some.inj h]
          exact oRun.ret (r := some (.long (-9223372036854775808))) dX8_convergent_158
        · replace h := oSr h
          cases h
          exact ⟨rfl, rfl⟩
  · exact True.intro
set_option maxRecDepth 100000 in
set_option maxHeartbeats 4000000 in
theorem E_X9_isPart {G : oG} {m : oM} {x0 : Int32} {w : Int32} (h : F_X9_isPart x0 = some w) : oEv G M_X9_isPart [.int x0] m (some (.int w)) m := by
  unfold F_X9_isPart at h
  refine ⟨?_, ?_⟩
  · show oRun G M_X9_isPart 0 [(0, .int x0)] [] m (some (.int w)) m
    refine oRun.iload_n 1 dX9_isPart_0 0 rfl rfl rfl ?_
    refine oRun.i2l 2 dX9_isPart_1 rfl ?_
    refine oRun.lconst 3 dX9_isPart_2 oc_l0 rfl ?_
    refine oRun.lconst 4 dX9_isPart_3 oc_l1 rfl ?_
    obtain ⟨r4, hr4, h⟩ := oB1 h
    refine oRun.callS (as := [.long x0.toInt64, .long 0, .long 1]) 7 dX9_isPart_4 lk_RX9_44 (oFit_i (Nat.le_of_ble_eq_true rfl) (Nat.le_of_ble_eq_true rfl)) rfl (Nat.le_of_ble_eq_true rfl) (Nat.le_of_ble_eq_true rfl) rfl (E_X9_isIn hr4) rfl ?_
    show oRun G _ 7 _ [.int r4] _ _ _
    rw [← Option.some.inj h]
    exact oRun.ret (r := some (.int r4)) dX9_isPart_7
  · show oROK (some .boolean) (some (.int w))
    obtain ⟨r4, hr4, h⟩ := oB1 h
    rw [← Option.some.inj h]
    exact (E_X9_isIn (G := G) (m := m) hr4).2
set_option maxRecDepth 100000 in
set_option maxHeartbeats 4000000 in
theorem E_X9_convergent_L45 {G : oG} {m : oM} {x3 : Int32} {r : Option Value} {m' : oM} : ∀ (n : Nat) (x4 : Int64) (x6 : Int64) (x8 : Int32) (b : Int64 × Int64), oLoop (fun s : Int64 × Int64 × Int32 => F_X9_convergent_L45 m x3 s.1 s.2.1 s.2.2) n (x4, x6, x8) = some b → oRun G M_X9_convergent 80 [(3, .int x3), (4, .long b.1), (6, .long b.2)] [] m r m' → oRun G M_X9_convergent 45 [(0, .ref 51), (3, .int x3), (4, .long x4), (6, .long x6), (8, .int x8)] [] m r m' := by
  intro n
  induction n with
  | zero => intro x4 x6 x8 b h _; exact (oLoop_zero h).elim
  | succ n ih =>
    intro x4 x6 x8 b h he
    obtain ⟨q', hq', h⟩ := oLoop_succ h
    have hc : ∀ s' : Int64 × Int64 × Int32, q' = .inl s' → oRun G M_X9_convergent 45 [(0, .ref 51), (3, .int x3), (4, .long s'.1), (6, .long s'.2.1), (8, .int s'.2.2)] [] m r m' := by
      rintro s' rfl
      exact ih (s'.1) (s'.2.1) (s'.2.2) b h he
    have hx : ∀ b' : Int64 × Int64, q' = .inr b' → oRun G M_X9_convergent 80 [(3, .int x3), (4, .long b'.1), (6, .long b'.2)] [] m r m' := by
      rintro b' rfl
      have h : b' = b := h
      rw [h]
      exact he
    clear h he ih
    have h := hq'
    clear hq'
    replace h : F_X9_convergent_L45 m x3 x4 x6 x8 = some q' := h
    unfold F_X9_convergent_L45 at h
    refine oRun.iload 47 dX9_convergent_45 4 rfl rfl ?_
    by_cases c47 : x8 < 0
    · replace h := oIp c47 h
      refine oRun.if_lt_t 80 dX9_convergent_47 c47 rfl ?_
      cases h
      refine oRun.sub [1, 2, 3] rfl ?_
      exact hx _ rfl
    · replace h := oIn c47 h
      refine oRun.if_lt_f 50 dX9_convergent_47 rfl c47 rfl ?_
      refine oRun.aload_n 51 dX9_convergent_50 0 rfl rfl (Nat.le_of_ble_eq_true rfl) rfl ?_
      refine oRun.getR 54 dX9_convergent_51 fd_RX9_34 rfl rfl (Nat.le_of_ble_eq_true rfl) rfl ?_
      refine oRun.iload 56 dX9_convergent_54 4 rfl rfl ?_
      obtain ⟨v56, hv56, h⟩ := oB1 h
      refine oRun.iaload 57 dX9_convergent_56 (Or.inr ⟨_, rfl⟩) hv56 rfl ?_
      refine oRun.i2l 58 dX9_convergent_57 rfl ?_
      refine oRun.lload 60 dX9_convergent_58 2 rfl rfl ?_
      refine oRun.lmul 61 dX9_convergent_60 rfl ?_
      refine oRun.lload 63 dX9_convergent_61 3 rfl rfl ?_
      refine oRun.ladd 64 dX9_convergent_63 rfl ?_
      obtain ⟨x9_64, hx9_64, h⟩ := oB1 h
      refine oRun.nameJ hx9_64 ?_
      refine oRun.lstore 66 dX9_convergent_64 (Nat.le_of_ble_eq_true rfl) rfl rfl ?_
      refine oRun.lload 68 dX9_convergent_66 3 rfl rfl ?_
      refine oRun.lstore 70 dX9_convergent_68 (Nat.le_of_ble_eq_true rfl) rfl rfl ?_
      refine oRun.lload 72 dX9_convergent_70 1 rfl rfl ?_
      refine oRun.lstore 74 dX9_convergent_72 (Nat.le_of_ble_eq_true rfl) rfl rfl ?_
      refine oRun.iinc 77 dX9_convergent_74 5 rfl (oAddC oc_im1) (Nat.le_of_ble_eq_true rfl) rfl rfl ?_
      refine oRun.goto 45 dX9_convergent_77 rfl ?_
      cases h
      refine oRun.sub [4, 5, 1, 2, 0] rfl ?_
      exact hc _ rfl
set_option maxRecDepth 100000 in
set_option maxHeartbeats 4000000 in
theorem E_X9_convergent {G : oG} {m : oM} {x1 : Int32} {x2 : Int32} {x3 : Int32} {w : Int64 × oM} (h : F_X9_convergent m x1 x2 x3 = some w) : oEv G M_X9_convergent [.ref 51, .int x1, .int x2, .int x3] m (some (.long w.1)) w.2 := by
  unfold F_X9_convergent at h
  refine ⟨?_, ?_⟩
  · show oRun G M_X9_convergent 0 [(0, .ref 51), (1, .int x1), (2, .int x2), (3, .int x3)] [] m (some (.long w.1)) w.2
    refine oRun.aload_n 1 dX9_convergent_0 0 rfl rfl (Nat.le_of_ble_eq_true rfl) rfl ?_
    refine oRun.iload_n 2 dX9_convergent_1 1 rfl rfl rfl ?_
    obtain ⟨r2, hr2, h⟩ := oB1 h
    refine oRun.callV (as := [.int x1]) 5 dX9_convergent_2 lk_RX9_62 (oFit_i (Nat.le_of_ble_eq_true rfl) (Nat.le_of_ble_eq_true rfl)) rfl rfl rfl rfl (Nat.le_of_ble_eq_true rfl) (Nat.le_of_ble_eq_true rfl) rfl (E_X9_isBody hr2) rfl ?_
    show oRun G _ 5 _ [.int r2] _ _ _
    by_cases c5 : r2 = 0
    · replace h := oIp c5 h
      refine oRun.if_eq_t 32 dX9_convergent_5 c5 rfl ?_
      refine oRun.ldc2 35 dX9_convergent_32 wd_4_201 rfl ?_
      rw [← Option.some.inj h]
      exact oRun.ret (r := some (.long (-9223372036854775808))) dX9_convergent_35
    · replace h := oIn c5 h
      refine oRun.if_eq_f 8 dX9_convergent_5 rfl c5 rfl ?_
      refine oRun.iload_n 9 dX9_convergent_8 3 rfl rfl rfl ?_
      obtain ⟨r9, hr9, h⟩ := oB1 h
      refine oRun.callS (as := [.int x3]) 12 dX9_convergent_9 lk_RX9_70 (oFit_i (Nat.le_of_ble_eq_true rfl) (Nat.le_of_ble_eq_true rfl)) rfl (Nat.le_of_ble_eq_true rfl) (Nat.le_of_ble_eq_true rfl) rfl (E_X9_isPart hr9) rfl ?_
      show oRun G _ 12 _ [.int r9] _ _ _
      by_cases c12 : r9 = 0
      · replace h := oIp c12 h
        refine oRun.if_eq_t 32 dX9_convergent_12 c12 rfl ?_
        refine oRun.ldc2 35 dX9_convergent_32 wd_4_201 rfl ?_
        rw [← Option.some.inj h]
        exact oRun.ret (r := some (.long (-9223372036854775808))) dX9_convergent_35
      · replace h := oIn c12 h
        refine oRun.if_eq_f 15 dX9_convergent_12 rfl c12 rfl ?_
        refine oRun.iload_n 16 dX9_convergent_15 2 rfl rfl rfl ?_
        refine oRun.i2l 17 dX9_convergent_16 rfl ?_
        refine oRun.lconst 18 dX9_convergent_17 oc_l0 rfl ?_
        refine oRun.aload_n 19 dX9_convergent_18 0 rfl rfl (Nat.le_of_ble_eq_true rfl) rfl ?_
        refine oRun.iload_n 20 dX9_convergent_19 1 rfl rfl rfl ?_
        obtain ⟨r20, hr20, h⟩ := oB1 h
        refine oRun.callV (as := [.int x1]) 23 dX9_convergent_20 lk_RX9_66 (oFit_i (Nat.le_of_ble_eq_true rfl) (Nat.le_of_ble_eq_true rfl)) rfl rfl rfl rfl (Nat.le_of_ble_eq_true rfl) (Nat.le_of_ble_eq_true rfl) rfl (E_X9_terms hr20) rfl ?_
        show oRun G _ 23 _ [.int r20.1, .long 0, .long x2.toInt64] _ _ _
        refine oRun.iconst 24 dX9_convergent_23 oc_i1 rfl ?_
        refine oRun.isub 25 dX9_convergent_24 rfl ?_
        refine oRun.i2l 26 dX9_convergent_25 rfl ?_
        obtain ⟨r26, hr26, h⟩ := oB1 h
        refine oRun.callS (as := [.long x2.toInt64, .long 0, .long ((r20.1 - 1)).toInt64]) 29 dX9_convergent_26 lk_RX9_44 (oFit_i (Nat.le_of_ble_eq_true rfl) (Nat.le_of_ble_eq_true rfl)) rfl (Nat.le_of_ble_eq_true rfl) (Nat.le_of_ble_eq_true rfl) rfl (E_X9_isIn hr26) rfl ?_
        show oRun G _ 29 _ [.int r26] _ _ _
        by_cases c29 : r26 = 0
        · replace h := oIp c29 h
          refine oRun.if_ne_f 32 dX9_convergent_29 rfl c29 rfl ?_
          refine oRun.ldc2 35 dX9_convergent_32 wd_4_201 rfl ?_
          rw [← Option.some.inj h]
          exact oRun.ret (r := some (.long (-9223372036854775808))) dX9_convergent_35
        · replace h := oIn c29 h
          refine oRun.if_ne_t 36 dX9_convergent_29 c29 rfl ?_
          refine oRun.lconst 37 dX9_convergent_36 oc_l1 rfl ?_
          refine oRun.lstore 39 dX9_convergent_37 (Nat.le_of_ble_eq_true rfl) rfl rfl ?_
          refine oRun.lconst 40 dX9_convergent_39 oc_l0 rfl ?_
          refine oRun.lstore 42 dX9_convergent_40 (Nat.le_of_ble_eq_true rfl) rfl rfl ?_
          refine oRun.iload_n 43 dX9_convergent_42 4 rfl rfl rfl ?_
          refine oRun.istore 45 dX9_convergent_43 (Nat.le_of_ble_eq_true rfl) rfl rfl ?_
          obtain ⟨b45, hb45, h⟩ := oB1 h
          refine oRun.sub [3, 6, 2, 1, 0] rfl ?_
          refine E_X9_convergent_L45 _ _ _ _ _ hb45 ?_
          refine oRun.lload 82 dX9_convergent_80 1 rfl rfl ?_
          refine oRun.lload 84 dX9_convergent_82 2 rfl rfl ?_
          refine oRun.iload_n 85 dX9_convergent_84 0 rfl rfl rfl ?_
          obtain ⟨r85, hr85, h⟩ := oB1 h
          refine oRun.callS (as := [.long b45.1, .long b45.2, .int x3]) 88 dX9_convergent_85 lk_RX9_50 (oFit_i (Nat.le_of_ble_eq_true rfl) (Nat.le_of_ble_eq_true rfl)) rfl (Nat.le_of_ble_eq_true rfl) (Nat.le_of_ble_eq_true rfl) rfl (E_X9_told hr85) rfl ?_
          show oRun G _ 88 _ [.long r85] _ _ _
          rw [← Option.some.inj h]
          exact oRun.ret (r := some (.long r85)) dX9_convergent_88
  · exact True.intro
set_option maxRecDepth 100000 in
set_option maxHeartbeats 4000000 in
theorem E_X8_near_L100 {G : oG} {m : oM} {x2 : Int32} {x3 : Int32} {x4 : Int64} {x6 : Int64} {x12 : Int64} {x14 : Int64} {r : Option Value} {m' : oM} : ∀ (n : Nat) (x8 : Int64) (x10 : Int64) (x16 : Int64) (b : Int64 × Int64), oLoop (fun s : Int64 × Int64 × Int64 => F_X8_near_L100 m x2 x3 x4 x6 x12 x14 s.1 s.2.1 s.2.2) n (x8, x10, x16) = some b → oRun G M_X8_near 165 [(2, .int x2), (3, .int x3), (4, .long x4), (6, .long x6), (8, .long b.1), (10, .long b.2), (12, .long x12)] [] m r m' → oRun G M_X8_near 100 [(2, .int x2), (3, .int x3), (4, .long x4), (6, .long x6), (8, .long x8), (10, .long x10), (12, .long x12), (14, .long x14), (16, .long x16)] [] m r m' := by
  intro n
  induction n with
  | zero => intro x8 x10 x16 b h _; exact (oLoop_zero h).elim
  | succ n ih =>
    intro x8 x10 x16 b h he
    obtain ⟨q', hq', h⟩ := oLoop_succ h
    have hc : ∀ s' : Int64 × Int64 × Int64, q' = .inl s' → oRun G M_X8_near 100 [(2, .int x2), (3, .int x3), (4, .long x4), (6, .long x6), (8, .long s'.1), (10, .long s'.2.1), (12, .long x12), (14, .long x14), (16, .long s'.2.2)] [] m r m' := by
      rintro s' rfl
      exact ih (s'.1) (s'.2.1) (s'.2.2) b h he
    have hx : ∀ b' : Int64 × Int64, q' = .inr b' → oRun G M_X8_near 165 [(2, .int x2), (3, .int x3), (4, .long x4), (6, .long x6), (8, .long b'.1), (10, .long b'.2), (12, .long x12)] [] m r m' := by
      rintro b' rfl
      have h : b' = b := h
      rw [h]
      exact he
    clear h he ih
    have h := hq'
    clear hq'
    replace h : F_X8_near_L100 m x2 x3 x4 x6 x12 x14 x8 x10 x16 = some q' := h
    unfold F_X8_near_L100 at h
    refine oRun.lload 102 dX8_near_100 8 rfl rfl ?_
    refine oRun.lload 104 dX8_near_102 7 rfl rfl ?_
    refine oRun.lconst 105 dX8_near_104 oc_l1 rfl ?_
    refine oRun.ladd 106 dX8_near_105 rfl ?_
    refine oRun.lcmp 107 dX8_near_106 rfl ?_
    by_cases c107 : (x14 + 1) < x16
    · replace h := oIp c107 h
      refine oRun.if_gt_t 165 dX8_near_107 ((oLc_gt _ _).mpr c107) rfl ?_
      cases h
      refine oRun.sub [0, 1, 2, 3, 4, 5, 6] rfl ?_
      exact hx _ rfl
    · replace h := oIn c107 h
      refine oRun.if_gt_f 110 dX8_near_107 rfl (mt (oLc_gt _ _).mp c107) rfl ?_
      refine oRun.lload 112 dX8_near_110 8 rfl rfl ?_
      refine oRun.lload 114 dX8_near_112 3 rfl rfl ?_
      refine oRun.lmul 115 dX8_near_114 rfl ?_
      refine oRun.lload 117 dX8_near_115 2 rfl rfl ?_
      refine oRun.lload 119 dX8_near_117 6 rfl rfl ?_
      refine oRun.lmul 120 dX8_near_119 rfl ?_
      refine oRun.lsub 121 dX8_near_120 rfl ?_
      obtain ⟨r121, hr121, h⟩ := oB1 h
      refine oRun.callS (as := [.long ((x16 * x6) - (x4 * x12))]) 124 dX8_near_121 lk_RX8_96 (oFit_i (Nat.le_of_ble_eq_true rfl) (Nat.le_of_ble_eq_true rfl)) rfl (Nat.le_of_ble_eq_true rfl) (Nat.le_of_ble_eq_true rfl) rfl (E_J9_abs_067f4 hr121) rfl ?_
      show oRun G _ 124 _ [.long r121] _ _ _
      refine oRun.lload 126 dX8_near_124 5 rfl rfl ?_
      refine oRun.lmul 127 dX8_near_126 rfl ?_
      refine oRun.lload 129 dX8_near_127 4 rfl rfl ?_
      refine oRun.lload 131 dX8_near_129 3 rfl rfl ?_
      refine oRun.lmul 132 dX8_near_131 rfl ?_
      refine oRun.lload 134 dX8_near_132 2 rfl rfl ?_
      refine oRun.lload 136 dX8_near_134 5 rfl rfl ?_
      refine oRun.lmul 137 dX8_near_136 rfl ?_
      refine oRun.lsub 138 dX8_near_137 rfl ?_
      obtain ⟨r138, hr138, h⟩ := oB1 h
      refine oRun.callS (as := [.long ((x8 * x6) - (x4 * x10))]) 141 dX8_near_138 lk_RX8_96 (oFit_i (Nat.le_of_ble_eq_true rfl) (Nat.le_of_ble_eq_true rfl)) rfl (Nat.le_of_ble_eq_true rfl) (Nat.le_of_ble_eq_true rfl) rfl (E_J9_abs_067f4 hr138) rfl ?_
      show oRun G _ 141 _ [.long r138, .long (r121 * x10)] _ _ _
      refine oRun.lload 143 dX8_near_141 6 rfl rfl ?_
      refine oRun.lmul 144 dX8_near_143 rfl ?_
      refine oRun.lcmp 145 dX8_near_144 rfl ?_
      by_cases c145 : (r138 * x12) ≤ (r121 * x10)
      · replace h := oIp c145 h
        refine oRun.if_ge_t 156 dX8_near_145 ((oLc_ge _ _).mpr c145) rfl ?_
        refine oRun.lload 158 dX8_near_156 8 rfl rfl ?_
        refine oRun.lconst 159 dX8_near_158 oc_l1 rfl ?_
        refine oRun.ladd 160 dX8_near_159 rfl ?_
        obtain ⟨x16_160, hx16_160, h⟩ := oB1 h
        refine oRun.nameJ hx16_160 ?_
        refine oRun.lstore 162 dX8_near_160 (Nat.le_of_ble_eq_true rfl) rfl rfl ?_
        refine oRun.goto 100 dX8_near_162 rfl ?_
        cases h
        refine oRun.sub [1, 2, 3, 4, 5, 6, 7, 8, 0] rfl ?_
        exact hc _ rfl
      · replace h := oIn c145 h
        refine oRun.if_ge_f 148 dX8_near_145 rfl (mt (oLc_ge _ _).mp c145) rfl ?_
        refine oRun.lload 150 dX8_near_148 8 rfl rfl ?_
        refine oRun.lstore 152 dX8_near_150 (Nat.le_of_ble_eq_true rfl) rfl rfl ?_
        refine oRun.lload 154 dX8_near_152 6 rfl rfl ?_
        refine oRun.lstore 156 dX8_near_154 (Nat.le_of_ble_eq_true rfl) rfl rfl ?_
        refine oRun.lload 158 dX8_near_156 8 rfl rfl ?_
        refine oRun.lconst 159 dX8_near_158 oc_l1 rfl ?_
        refine oRun.ladd 160 dX8_near_159 rfl ?_
        obtain ⟨x16_160, hx16_160, h⟩ := oB1 h
        refine oRun.nameJ hx16_160 ?_
        refine oRun.lstore 162 dX8_near_160 (Nat.le_of_ble_eq_true rfl) rfl rfl ?_
        refine oRun.goto 100 dX8_near_162 rfl ?_
        cases h
        refine oRun.sub [3, 4, 5, 6, 2, 1, 7, 8, 0] rfl ?_
        exact hc _ rfl
set_option maxRecDepth 100000 in
set_option maxHeartbeats 4000000 in
theorem E_X8_near_L76 {G : oG} {m : oM} {x2 : Int32} {x3 : Int32} {x4 : Int64} {x6 : Int64} {r : Option Value} {m' : oM} : ∀ (n : Nat) (x8 : Int64) (x10 : Int64) (x12 : Int64) (b : Int64 × Int64), oLoop (fun s : Int64 × Int64 × Int64 => F_X8_near_L76 m x2 x3 x4 x6 s.1 s.2.1 s.2.2) n (x8, x10, x12) = some b → oRun G M_X8_near 174 [(3, .int x3), (8, .long b.1), (10, .long b.2)] [] m r m' → oRun G M_X8_near 76 [(2, .int x2), (3, .int x3), (4, .long x4), (6, .long x6), (8, .long x8), (10, .long x10), (12, .long x12)] [] m r m' := by
  intro n
  induction n with
  | zero => intro x8 x10 x12 b h _; exact (oLoop_zero h).elim
  | succ n ih =>
    intro x8 x10 x12 b h he
    obtain ⟨q', hq', h⟩ := oLoop_succ h
    have hc : ∀ s' : Int64 × Int64 × Int64, q' = .inl s' → oRun G M_X8_near 76 [(2, .int x2), (3, .int x3), (4, .long x4), (6, .long x6), (8, .long s'.1), (10, .long s'.2.1), (12, .long s'.2.2)] [] m r m' := by
      rintro s' rfl
      exact ih (s'.1) (s'.2.1) (s'.2.2) b h he
    have hx : ∀ b' : Int64 × Int64, q' = .inr b' → oRun G M_X8_near 174 [(3, .int x3), (8, .long b'.1), (10, .long b'.2)] [] m r m' := by
      rintro b' rfl
      have h : b' = b := h
      rw [h]
      exact he
    clear h he ih
    have h := hq'
    clear hq'
    replace h : F_X8_near_L76 m x2 x3 x4 x6 x8 x10 x12 = some q' := h
    unfold F_X8_near_L76 at h
    refine oRun.lload 78 dX8_near_76 6 rfl rfl ?_
    refine oRun.iload_n 79 dX8_near_78 0 rfl rfl rfl ?_
    refine oRun.i2l 80 dX8_near_79 rfl ?_
    refine oRun.lcmp 81 dX8_near_80 rfl ?_
    by_cases c81 : x2.toInt64 < x12
    · replace h := oIp c81 h
      refine oRun.if_gt_t 174 dX8_near_81 ((oLc_gt _ _).mpr c81) rfl ?_
      cases h
      refine oRun.sub [1, 4, 5] rfl ?_
      exact hx _ rfl
    · replace h := oIn c81 h
      refine oRun.if_gt_f 84 dX8_near_81 rfl (mt (oLc_gt _ _).mp c81) rfl ?_
      refine oRun.lload 86 dX8_near_84 2 rfl rfl ?_
      refine oRun.lload 88 dX8_near_86 6 rfl rfl ?_
      refine oRun.lmul 89 dX8_near_88 rfl ?_
      refine oRun.lload 91 dX8_near_89 3 rfl rfl ?_
      obtain ⟨r91, hr91, h⟩ := oB1 h
      refine oRun.callS (as := [.long (x4 * x12), .long x6]) 94 dX8_near_91 lk_RX8_92 (oFit_i (Nat.le_of_ble_eq_true rfl) (Nat.le_of_ble_eq_true rfl)) rfl (Nat.le_of_ble_eq_true rfl) (Nat.le_of_ble_eq_true rfl) rfl (E_X8_quotient hr91) rfl ?_
      show oRun G _ 94 _ [.long r91] _ _ _
      refine oRun.lstore 96 dX8_near_94 (Nat.le_of_ble_eq_true rfl) rfl rfl ?_
      refine oRun.lload 98 dX8_near_96 0 rfl rfl ?_
      refine oRun.lstore 100 dX8_near_98 (Nat.le_of_ble_eq_true rfl) rfl rfl ?_
      obtain ⟨b100, hb100, h⟩ := oB1 h
      refine oRun.sub [2, 3, 4, 5, 6, 7, 8, 1, 0] rfl ?_
      refine E_X8_near_L100 _ _ _ _ _ hb100 ?_
      refine oRun.lload 167 dX8_near_165 6 rfl rfl ?_
      refine oRun.lconst 168 dX8_near_167 oc_l1 rfl ?_
      refine oRun.ladd 169 dX8_near_168 rfl ?_
      obtain ⟨x12_169, hx12_169, h⟩ := oB1 h
      refine oRun.nameJ hx12_169 ?_
      refine oRun.lstore 171 dX8_near_169 (Nat.le_of_ble_eq_true rfl) rfl rfl ?_
      refine oRun.goto 76 dX8_near_171 rfl ?_
      cases h
      refine oRun.sub [1, 2, 3, 4, 5, 6, 0] rfl ?_
      exact hc _ rfl
set_option maxRecDepth 100000 in
set_option maxHeartbeats 4000000 in
theorem E_X8_near {G : oG} {m : oM} {x1 : Int32} {x2 : Int32} {x3 : Int32} {w : Int64} (h : F_X8_near m x1 x2 x3 = some w) : oEv G M_X8_near [.ref 0, .int x1, .int x2, .int x3] m (some (.long w)) m := by
  unfold F_X8_near at h
  refine ⟨?_, ?_⟩
  · show oRun G M_X8_near 0 [(0, .ref 0), (1, .int x1), (2, .int x2), (3, .int x3)] [] m (some (.long w)) m
    refine oRun.aload_n 1 dX8_near_0 0 rfl rfl (Nat.le_of_ble_eq_true rfl) rfl ?_
    refine oRun.getR 4 dX8_near_1 fd_RX8_12 rfl rfl (Nat.le_of_ble_eq_true rfl) rfl ?_
    refine oRun.iload_n 5 dX8_near_4 1 rfl rfl rfl ?_
    obtain ⟨r5, hr5, h⟩ := oB1 h
    refine oRun.callV (as := [.int x1]) 8 dX8_near_5 lk_RX8_68 (oFit_i (Nat.le_of_ble_eq_true rfl) (Nat.le_of_ble_eq_true rfl)) rfl rfl rfl rfl (Nat.le_of_ble_eq_true rfl) (Nat.le_of_ble_eq_true rfl) rfl (E_X1_hasBody rfl hr5) rfl ?_
    show oRun G _ 8 _ [.int r5] _ _ _
    by_cases c8 : r5 = 0
    · replace h := oIp c8 h
      refine oRun.if_eq_t 29 dX8_near_8 c8 rfl ?_
      refine oRun.ldc2 32 dX8_near_29 wd_2_48 rfl ?_
      rw [← Option.some.inj h]
      exact oRun.ret (r := some (.long (-9223372036854775808))) dX8_near_32
    · replace h := oIn c8 h
      refine oRun.if_eq_f 11 dX8_near_8 rfl c8 rfl ?_
      refine oRun.iload_n 12 dX8_near_11 2 rfl rfl rfl ?_
      refine oRun.iconst 13 dX8_near_12 oc_i1 rfl ?_
      by_cases c13 : x2 < 1
      · replace h := oIp c13 h
        refine oRun.icmp_lt_t 29 dX8_near_13 c13 rfl ?_
        refine oRun.ldc2 32 dX8_near_29 wd_2_48 rfl ?_
        rw [← Option.some.inj h]
        exact oRun.ret (r := some (.long (-9223372036854775808))) dX8_near_32
      · replace h := oIn c13 h
        refine oRun.icmp_lt_f 16 dX8_near_13 rfl c13 rfl ?_
        refine oRun.iload_n 17 dX8_near_16 2 rfl rfl rfl ?_
        refine oRun.bipush 19 dX8_near_17 oc_b99 rfl ?_
        by_cases c19 : 99 < x2
        · replace h := oIp c19 h
          refine oRun.icmp_gt_t 29 dX8_near_19 c19 rfl ?_
          refine oRun.ldc2 32 dX8_near_29 wd_2_48 rfl ?_
          rw [← Option.some.inj h]
          exact oRun.ret (r := some (.long (-9223372036854775808))) dX8_near_32
        · replace h := oIn c19 h
          refine oRun.icmp_gt_f 22 dX8_near_19 rfl c19 rfl ?_
          refine oRun.iload_n 23 dX8_near_22 3 rfl rfl rfl ?_
          obtain ⟨r23, hr23, h⟩ := oB1 h
          refine oRun.callS (as := [.int x3]) 26 dX8_near_23 lk_RX8_83 (oFit_i (Nat.le_of_ble_eq_true rfl) (Nat.le_of_ble_eq_true rfl)) rfl (Nat.le_of_ble_eq_true rfl) (Nat.le_of_ble_eq_true rfl) rfl (E_X8_isPart hr23) rfl ?_
          show oRun G _ 26 _ [.int r23] _ _ _
          by_cases c26 : r23 = 0
          · replace h := oIp c26 h
            refine oRun.if_ne_f 29 dX8_near_26 rfl c26 rfl ?_
            refine oRun.ldc2 32 dX8_near_29 wd_2_48 rfl ?_
            rw [← Option.some.inj h]
            exact oRun.ret (r := some (.long (-9223372036854775808))) dX8_near_32
          · replace h := oIn c26 h
            refine oRun.if_ne_t 33 dX8_near_26 c26 rfl ?_
            refine oRun.aload_n 34 dX8_near_33 0 rfl rfl (Nat.le_of_ble_eq_true rfl) rfl ?_
            refine oRun.getR 37 dX8_near_34 fd_RX8_12 rfl rfl (Nat.le_of_ble_eq_true rfl) rfl ?_
            refine oRun.getR 40 dX8_near_37 fd_RX8_72 rfl rfl (Nat.le_of_ble_eq_true rfl) rfl ?_
            refine oRun.iload_n 41 dX8_near_40 1 rfl rfl rfl ?_
            obtain ⟨r41, hr41, h⟩ := oB1 h
            refine oRun.callS (as := [.ref 2, .int x1]) 44 dX8_near_41 lk_RX8_76 (oFit_i (Nat.le_of_ble_eq_true rfl) (Nat.le_of_ble_eq_true rfl)) rfl (Nat.le_of_ble_eq_true rfl) (Nat.le_of_ble_eq_true rfl) rfl (E_X8_at (Or.inr ⟨_, rfl⟩) hr41) rfl ?_
            show oRun G _ 44 _ [.int r41] _ _ _
            refine oRun.i2l 45 dX8_near_44 rfl ?_
            refine oRun.lstore 47 dX8_near_45 (Nat.le_of_ble_eq_true rfl) rfl rfl ?_
            refine oRun.aload_n 48 dX8_near_47 1 rfl rfl (Nat.le_of_ble_eq_true rfl) rfl ?_
            refine oRun.getR 51 dX8_near_48 fd_RX8_12 rfl rfl (Nat.le_of_ble_eq_true rfl) rfl ?_
            refine oRun.getR 54 dX8_near_51 fd_RX8_80 rfl rfl (Nat.le_of_ble_eq_true rfl) rfl ?_
            refine oRun.iload_n 55 dX8_near_54 2 rfl rfl rfl ?_
            obtain ⟨r55, hr55, h⟩ := oB1 h
            refine oRun.callS (as := [.ref 3, .int x1]) 58 dX8_near_55 lk_RX8_76 (oFit_i (Nat.le_of_ble_eq_true rfl) (Nat.le_of_ble_eq_true rfl)) rfl (Nat.le_of_ble_eq_true rfl) (Nat.le_of_ble_eq_true rfl) rfl (E_X8_at (Or.inr ⟨_, rfl⟩) hr55) rfl ?_
            show oRun G _ 58 _ [.int r55] _ _ _
            refine oRun.i2l 59 dX8_near_58 rfl ?_
            refine oRun.lstore 61 dX8_near_59 (Nat.le_of_ble_eq_true rfl) rfl rfl ?_
            refine oRun.lload 63 dX8_near_61 1 rfl rfl ?_
            refine oRun.lload 65 dX8_near_63 0 rfl rfl ?_
            obtain ⟨r65, hr65, h⟩ := oB1 h
            refine oRun.callS (as := [.long r41.toInt64, .long r55.toInt64]) 68 dX8_near_65 lk_RX8_92 (oFit_i (Nat.le_of_ble_eq_true rfl) (Nat.le_of_ble_eq_true rfl)) rfl (Nat.le_of_ble_eq_true rfl) (Nat.le_of_ble_eq_true rfl) rfl (E_X8_quotient hr65) rfl ?_
            show oRun G _ 68 _ [.long r65] _ _ _
            refine oRun.lstore 70 dX8_near_68 (Nat.le_of_ble_eq_true rfl) rfl rfl ?_
            refine oRun.lconst 71 dX8_near_70 oc_l1 rfl ?_
            refine oRun.lstore 73 dX8_near_71 (Nat.le_of_ble_eq_true rfl) rfl rfl ?_
            refine oRun.lconst 74 dX8_near_73 oc_l1 rfl ?_
            refine oRun.lstore 76 dX8_near_74 (Nat.le_of_ble_eq_true rfl) rfl rfl ?_
            obtain ⟨b76, hb76, h⟩ := oB1 h
            refine oRun.sub [7, 8, 4, 3, 2, 1, 0] rfl ?_
            refine E_X8_near_L76 _ _ _ _ _ hb76 ?_
            refine oRun.lload 176 dX8_near_174 1 rfl rfl ?_
            refine oRun.lload 178 dX8_near_176 2 rfl rfl ?_
            refine oRun.iload_n 179 dX8_near_178 0 rfl rfl rfl ?_
            obtain ⟨r179, hr179, h⟩ := oB1 h
            refine oRun.callS (as := [.long b76.1, .long b76.2, .int x3]) 182 dX8_near_179 lk_RX8_88 (oFit_i (Nat.le_of_ble_eq_true rfl) (Nat.le_of_ble_eq_true rfl)) rfl (Nat.le_of_ble_eq_true rfl) (Nat.le_of_ble_eq_true rfl) rfl (E_X8_lowest hr179) rfl ?_
            show oRun G _ 182 _ [.long r179] _ _ _
            rw [← Option.some.inj h]
            exact oRun.ret (r := some (.long r179)) dX8_near_182
  · exact True.intro
set_option maxRecDepth 100000 in
set_option maxHeartbeats 4000000 in
theorem E_X9_near_J127 {G : oG} {m : oM} {x2 : Int32} {x3 : Int32} {x4 : Int64} {x6 : Int64} {x8 : Int64} {x10 : Int64} {x12 : Int64} {x14 : Int32} {x15 : Int64} {x17 : Int64} {r : Option Value} {m' : oM} {q' : (Int64 × Int64 × Int64 × Int64) ⊕ (Int64 × Int64 × Int64)} (h : F_X9_near_J127 m x2 x3 x4 x6 x8 x10 x12 x14 x15 x17 = some q') (hc : ∀ s' : Int64 × Int64 × Int64 × Int64, q' = .inl s' → oRun G M_X9_near 84 [(2, .int x2), (3, .int x3), (4, .long x4), (6, .long x6), (8, .long s'.1), (10, .long s'.2.1), (12, .long s'.2.2.1), (14, .int x14), (15, .long s'.2.2.2)] [] m r m') (hx : ∀ b' : Int64 × Int64 × Int64, q' = .inr b' → oRun G M_X9_near 174 [(2, .int x2), (3, .int x3), (4, .long x4), (6, .long x6), (8, .long b'.1), (10, .long b'.2.1), (12, .long b'.2.2), (14, .int x14)] [] m r m') : oRun G M_X9_near 127 [(2, .int x2), (3, .int x3), (4, .long x4), (6, .long x6), (8, .long x8), (10, .long x10), (12, .long x12), (14, .int x14), (15, .long x15), (17, .long x17)] [] m r m' := by
  unfold F_X9_near_J127 at h
  refine oRun.lload 129 dX9_near_127 5 rfl rfl ?_
  refine oRun.lconst 130 dX9_near_129 oc_l0 rfl ?_
  refine oRun.lcmp 131 dX9_near_130 rfl ?_
  by_cases c131 : x10 ≤ 0
  · replace h := oIp c131 h
    refine oRun.if_le_t 152 dX9_near_131 ((oLc_le _ _).mpr c131) rfl ?_
    refine oRun.lload 154 dX9_near_152 8 rfl rfl ?_
    refine oRun.lstore 156 dX9_near_154 (Nat.le_of_ble_eq_true rfl) rfl rfl ?_
    refine oRun.iload 158 dX9_near_156 7 rfl rfl ?_
    refine oRun.i2l 159 dX9_near_158 rfl ?_
    refine oRun.lstore 161 dX9_near_159 (Nat.le_of_ble_eq_true rfl) rfl rfl ?_
    refine oRun.lload 163 dX9_near_161 9 rfl rfl ?_
    refine oRun.lstore 165 dX9_near_163 (Nat.le_of_ble_eq_true rfl) rfl rfl ?_
    refine oRun.lload 167 dX9_near_165 8 rfl rfl ?_
    refine oRun.lconst 168 dX9_near_167 oc_l1 rfl ?_
    refine oRun.ladd 169 dX9_near_168 rfl ?_
    obtain ⟨x15_169, hx15_169, h⟩ := oB1 h
    refine oRun.nameJ hx15_169 ?_
    refine oRun.lstore 171 dX9_near_169 (Nat.le_of_ble_eq_true rfl) rfl rfl ?_
    refine oRun.goto 84 dX9_near_171 rfl ?_
    cases h
    refine oRun.sub [4, 5, 6, 7, 3, 2, 1, 8, 0] rfl ?_
    exact hc _ rfl
  · replace h := oIn c131 h
    refine oRun.if_le_f 134 dX9_near_131 rfl (mt (oLc_le _ _).mp c131) rfl ?_
    refine oRun.lload 136 dX9_near_134 9 rfl rfl ?_
    refine oRun.lload 138 dX9_near_136 5 rfl rfl ?_
    refine oRun.lmul 139 dX9_near_138 rfl ?_
    refine oRun.lload 141 dX9_near_139 6 rfl rfl ?_
    refine oRun.iload 143 dX9_near_141 7 rfl rfl ?_
    refine oRun.i2l 144 dX9_near_143 rfl ?_
    refine oRun.lmul 145 dX9_near_144 rfl ?_
    refine oRun.lcmp 146 dX9_near_145 rfl ?_
    by_cases c146 : (x17 * x10) < (x12 * x14.toInt64)
    · replace h := oIp c146 h
      refine oRun.if_lt_t 152 dX9_near_146 ((oLc_lt _ _).mpr c146) rfl ?_
      refine oRun.lload 154 dX9_near_152 8 rfl rfl ?_
      refine oRun.lstore 156 dX9_near_154 (Nat.le_of_ble_eq_true rfl) rfl rfl ?_
      refine oRun.iload 158 dX9_near_156 7 rfl rfl ?_
      refine oRun.i2l 159 dX9_near_158 rfl ?_
      refine oRun.lstore 161 dX9_near_159 (Nat.le_of_ble_eq_true rfl) rfl rfl ?_
      refine oRun.lload 163 dX9_near_161 9 rfl rfl ?_
      refine oRun.lstore 165 dX9_near_163 (Nat.le_of_ble_eq_true rfl) rfl rfl ?_
      refine oRun.lload 167 dX9_near_165 8 rfl rfl ?_
      refine oRun.lconst 168 dX9_near_167 oc_l1 rfl ?_
      refine oRun.ladd 169 dX9_near_168 rfl ?_
      obtain ⟨x15_169, hx15_169, h⟩ := oB1 h
      refine oRun.nameJ hx15_169 ?_
      refine oRun.lstore 171 dX9_near_169 (Nat.le_of_ble_eq_true rfl) rfl rfl ?_
      refine oRun.goto 84 dX9_near_171 rfl ?_
      cases h
      refine oRun.sub [4, 5, 6, 7, 3, 2, 1, 8, 0] rfl ?_
      exact hc _ rfl
    · replace h := oIn c146 h
      refine oRun.if_lt_f 149 dX9_near_146 rfl (mt (oLc_lt _ _).mp c146) rfl ?_
      refine oRun.goto 165 dX9_near_149 rfl ?_
      refine oRun.lload 167 dX9_near_165 8 rfl rfl ?_
      refine oRun.lconst 168 dX9_near_167 oc_l1 rfl ?_
      refine oRun.ladd 169 dX9_near_168 rfl ?_
      obtain ⟨x15_169, hx15_169, h⟩ := oB1 h
      refine oRun.nameJ hx15_169 ?_
      refine oRun.lstore 171 dX9_near_169 (Nat.le_of_ble_eq_true rfl) rfl rfl ?_
      refine oRun.goto 84 dX9_near_171 rfl ?_
      cases h
      refine oRun.sub [1, 2, 3, 4, 5, 6, 7, 8, 0] rfl ?_
      exact hc _ rfl
set_option maxRecDepth 100000 in
set_option maxHeartbeats 4000000 in
theorem E_X9_near_L84 {G : oG} {m : oM} {x2 : Int32} {x3 : Int32} {x4 : Int64} {x6 : Int64} {x14 : Int32} {r : Option Value} {m' : oM} : ∀ (n : Nat) (x8 : Int64) (x10 : Int64) (x12 : Int64) (x15 : Int64) (b : Int64 × Int64 × Int64), oLoop (fun s : Int64 × Int64 × Int64 × Int64 => F_X9_near_L84 m x2 x3 x4 x6 x14 s.1 s.2.1 s.2.2.1 s.2.2.2) n (x8, x10, x12, x15) = some b → oRun G M_X9_near 174 [(2, .int x2), (3, .int x3), (4, .long x4), (6, .long x6), (8, .long b.1), (10, .long b.2.1), (12, .long b.2.2), (14, .int x14)] [] m r m' → oRun G M_X9_near 84 [(2, .int x2), (3, .int x3), (4, .long x4), (6, .long x6), (8, .long x8), (10, .long x10), (12, .long x12), (14, .int x14), (15, .long x15)] [] m r m' := by
  intro n
  induction n with
  | zero => intro x8 x10 x12 x15 b h _; exact (oLoop_zero h).elim
  | succ n ih =>
    intro x8 x10 x12 x15 b h he
    obtain ⟨q', hq', h⟩ := oLoop_succ h
    have hc : ∀ s' : Int64 × Int64 × Int64 × Int64, q' = .inl s' → oRun G M_X9_near 84 [(2, .int x2), (3, .int x3), (4, .long x4), (6, .long x6), (8, .long s'.1), (10, .long s'.2.1), (12, .long s'.2.2.1), (14, .int x14), (15, .long s'.2.2.2)] [] m r m' := by
      rintro s' rfl
      exact ih (s'.1) (s'.2.1) (s'.2.2.1) (s'.2.2.2) b h he
    have hx : ∀ b' : Int64 × Int64 × Int64, q' = .inr b' → oRun G M_X9_near 174 [(2, .int x2), (3, .int x3), (4, .long x4), (6, .long x6), (8, .long b'.1), (10, .long b'.2.1), (12, .long b'.2.2), (14, .int x14)] [] m r m' := by
      rintro b' rfl
      have h : b' = b := h
      rw [h]
      exact he
    clear h he ih
    have h := hq'
    clear hq'
    replace h : F_X9_near_L84 m x2 x3 x4 x6 x14 x8 x10 x12 x15 = some q' := h
    unfold F_X9_near_L84 at h
    refine oRun.lload 86 dX9_near_84 8 rfl rfl ?_
    refine oRun.lload 88 dX9_near_86 2 rfl rfl ?_
    refine oRun.iload 90 dX9_near_88 7 rfl rfl ?_
    refine oRun.i2l 91 dX9_near_90 rfl ?_
    refine oRun.lmul 92 dX9_near_91 rfl ?_
    refine oRun.lload 94 dX9_near_92 3 rfl rfl ?_
    obtain ⟨v94, hv94, h⟩ := oB1 h
    obtain ⟨hz94, hv94⟩ := oDz hv94
    refine oRun.ldiv 95 dX9_near_94 hz94 rfl ?_
    refine oRun.nameJ hv94 ?_
    refine oRun.lconst 96 dX9_near_95 oc_l1 rfl ?_
    refine oRun.ladd 97 dX9_near_96 rfl ?_
    refine oRun.lcmp 98 dX9_near_97 rfl ?_
    by_cases c98 : (v94 + 1) < x15
    · replace h := oIp c98 h
      refine oRun.if_gt_t 174 dX9_near_98 ((oLc_gt _ _).mpr c98) rfl ?_
      cases h
      refine oRun.sub [0, 1, 2, 3, 4, 5, 6, 7] rfl ?_
      exact hx _ rfl
    · replace h := oIn c98 h
      refine oRun.if_gt_f 101 dX9_near_98 rfl (mt (oLc_gt _ _).mp c98) rfl ?_
      refine oRun.lload 103 dX9_near_101 8 rfl rfl ?_
      refine oRun.lload 105 dX9_near_103 3 rfl rfl ?_
      refine oRun.lmul 106 dX9_near_105 rfl ?_
      refine oRun.lload 108 dX9_near_106 2 rfl rfl ?_
      refine oRun.iload 110 dX9_near_108 7 rfl rfl ?_
      refine oRun.i2l 111 dX9_near_110 rfl ?_
      refine oRun.lmul 112 dX9_near_111 rfl ?_
      refine oRun.lsub 113 dX9_near_112 rfl ?_
      obtain ⟨x17_113, hx17_113, h⟩ := oB1 h
      refine oRun.nameJ hx17_113 ?_
      refine oRun.lstore 115 dX9_near_113 (Nat.le_of_ble_eq_true rfl) rfl rfl ?_
      refine oRun.lload 117 dX9_near_115 0 rfl rfl ?_
      refine oRun.lconst 118 dX9_near_117 oc_l0 rfl ?_
      refine oRun.lcmp 119 dX9_near_118 rfl ?_
      by_cases c119 : 0 ≤ x17_113
      · replace h := oIp c119 h
        refine oRun.if_ge_t 127 dX9_near_119 ((oLc_ge _ _).mpr c119) rfl ?_
        refine oRun.sub [1, 2, 3, 4, 5, 6, 7, 8, 9, 0] rfl ?_
        exact E_X9_near_J127 h hc hx
      · replace h := oIn c119 h
        refine oRun.if_ge_f 122 dX9_near_119 rfl (mt (oLc_ge _ _).mp c119) rfl ?_
        refine oRun.lload 124 dX9_near_122 0 rfl rfl ?_
        refine oRun.lneg 125 dX9_near_124 rfl ?_
        obtain ⟨x17_125, hx17_125, h⟩ := oB1 h
        refine oRun.nameJ hx17_125 ?_
        refine oRun.lstore 127 dX9_near_125 (Nat.le_of_ble_eq_true rfl) rfl rfl ?_
        refine oRun.sub [1, 2, 3, 4, 5, 6, 7, 8, 9, 0] rfl ?_
        exact E_X9_near_J127 h hc hx
set_option maxRecDepth 100000 in
set_option maxHeartbeats 4000000 in
theorem E_X9_near_L67 {G : oG} {m : oM} {x2 : Int32} {x3 : Int32} {x4 : Int64} {x6 : Int64} {r : Option Value} {m' : oM} : ∀ (n : Nat) (x8 : Int64) (x10 : Int64) (x12 : Int64) (x14 : Int32) (b : Int64 × Int64), oLoop (fun s : Int64 × Int64 × Int64 × Int32 => F_X9_near_L67 m x2 x3 x4 x6 s.1 s.2.1 s.2.2.1 s.2.2.2) n (x8, x10, x12, x14) = some b → oRun G M_X9_near 180 [(3, .int x3), (8, .long b.1), (10, .long b.2)] [] m r m' → oRun G M_X9_near 67 [(2, .int x2), (3, .int x3), (4, .long x4), (6, .long x6), (8, .long x8), (10, .long x10), (12, .long x12), (14, .int x14)] [] m r m' := by
  intro n
  induction n with
  | zero => intro x8 x10 x12 x14 b h _; exact (oLoop_zero h).elim
  | succ n ih =>
    intro x8 x10 x12 x14 b h he
    obtain ⟨q', hq', h⟩ := oLoop_succ h
    have hc : ∀ s' : Int64 × Int64 × Int64 × Int32, q' = .inl s' → oRun G M_X9_near 67 [(2, .int x2), (3, .int x3), (4, .long x4), (6, .long x6), (8, .long s'.1), (10, .long s'.2.1), (12, .long s'.2.2.1), (14, .int s'.2.2.2)] [] m r m' := by
      rintro s' rfl
      exact ih (s'.1) (s'.2.1) (s'.2.2.1) (s'.2.2.2) b h he
    have hx : ∀ b' : Int64 × Int64, q' = .inr b' → oRun G M_X9_near 180 [(3, .int x3), (8, .long b'.1), (10, .long b'.2)] [] m r m' := by
      rintro b' rfl
      have h : b' = b := h
      rw [h]
      exact he
    clear h he ih
    have h := hq'
    clear hq'
    replace h : F_X9_near_L67 m x2 x3 x4 x6 x8 x10 x12 x14 = some q' := h
    unfold F_X9_near_L67 at h
    refine oRun.iload 69 dX9_near_67 7 rfl rfl ?_
    refine oRun.iload_n 70 dX9_near_69 0 rfl rfl rfl ?_
    by_cases c70 : x2 < x14
    · replace h := oIp c70 h
      refine oRun.icmp_gt_t 180 dX9_near_70 c70 rfl ?_
      cases h
      refine oRun.sub [1, 4, 5] rfl ?_
      exact hx _ rfl
    · replace h := oIn c70 h
      refine oRun.icmp_gt_f 73 dX9_near_70 rfl c70 rfl ?_
      refine oRun.lload 75 dX9_near_73 2 rfl rfl ?_
      refine oRun.iload 77 dX9_near_75 7 rfl rfl ?_
      refine oRun.i2l 78 dX9_near_77 rfl ?_
      refine oRun.lmul 79 dX9_near_78 rfl ?_
      refine oRun.lload 81 dX9_near_79 3 rfl rfl ?_
      obtain ⟨v81, hv81, h⟩ := oB1 h
      obtain ⟨hz81, hv81⟩ := oDz hv81
      refine oRun.ldiv 82 dX9_near_81 hz81 rfl ?_
      refine oRun.nameJ hv81 ?_
      refine oRun.lstore 84 dX9_near_82 (Nat.le_of_ble_eq_true rfl) rfl rfl ?_
      obtain ⟨b84, hb84, h⟩ := oB1 h
      refine oRun.sub [1, 2, 3, 4, 5, 6, 7, 8, 0] rfl ?_
      refine E_X9_near_L84 _ _ _ _ _ _ hb84 ?_
      refine oRun.iinc 177 dX9_near_174 7 rfl (oAddC oc_i1) (Nat.le_of_ble_eq_true rfl) rfl rfl ?_
      refine oRun.goto 67 dX9_near_177 rfl ?_
      cases h
      refine oRun.sub [1, 2, 3, 4, 5, 6, 7, 0] rfl ?_
      exact hc _ rfl
set_option maxRecDepth 100000 in
set_option maxHeartbeats 4000000 in
theorem E_X9_near {G : oG} {m : oM} {x1 : Int32} {x2 : Int32} {x3 : Int32} {w : Int64} (h : F_X9_near m x1 x2 x3 = some w) : oEv G M_X9_near [.ref 51, .int x1, .int x2, .int x3] m (some (.long w)) m := by
  unfold F_X9_near at h
  refine ⟨?_, ?_⟩
  · show oRun G M_X9_near 0 [(0, .ref 51), (1, .int x1), (2, .int x2), (3, .int x3)] [] m (some (.long w)) m
    refine oRun.aload_n 1 dX9_near_0 0 rfl rfl (Nat.le_of_ble_eq_true rfl) rfl ?_
    refine oRun.iload_n 2 dX9_near_1 1 rfl rfl rfl ?_
    obtain ⟨r2, hr2, h⟩ := oB1 h
    refine oRun.callV (as := [.int x1]) 5 dX9_near_2 lk_RX9_62 (oFit_i (Nat.le_of_ble_eq_true rfl) (Nat.le_of_ble_eq_true rfl)) rfl rfl rfl rfl (Nat.le_of_ble_eq_true rfl) (Nat.le_of_ble_eq_true rfl) rfl (E_X9_isBody hr2) rfl ?_
    show oRun G _ 5 _ [.int r2] _ _ _
    by_cases c5 : r2 = 0
    · replace h := oIp c5 h
      refine oRun.if_eq_t 27 dX9_near_5 c5 rfl ?_
      refine oRun.ldc2 30 dX9_near_27 wd_4_201 rfl ?_
      rw [← Option.some.inj h]
      exact oRun.ret (r := some (.long (-9223372036854775808))) dX9_near_30
    · replace h := oIn c5 h
      refine oRun.if_eq_f 8 dX9_near_5 rfl c5 rfl ?_
      refine oRun.iload_n 9 dX9_near_8 2 rfl rfl rfl ?_
      refine oRun.i2l 10 dX9_near_9 rfl ?_
      refine oRun.lconst 11 dX9_near_10 oc_l1 rfl ?_
      refine oRun.ldc2 14 dX9_near_11 wd_4_206 rfl ?_
      obtain ⟨r14, hr14, h⟩ := oB1 h
      refine oRun.callS (as := [.long x2.toInt64, .long 1, .long 99]) 17 dX9_near_14 lk_RX9_44 (oFit_i (Nat.le_of_ble_eq_true rfl) (Nat.le_of_ble_eq_true rfl)) rfl (Nat.le_of_ble_eq_true rfl) (Nat.le_of_ble_eq_true rfl) rfl (E_X9_isIn hr14) rfl ?_
      show oRun G _ 17 _ [.int r14] _ _ _
      by_cases c17 : r14 = 0
      · replace h := oIp c17 h
        refine oRun.if_eq_t 27 dX9_near_17 c17 rfl ?_
        refine oRun.ldc2 30 dX9_near_27 wd_4_201 rfl ?_
        rw [← Option.some.inj h]
        exact oRun.ret (r := some (.long (-9223372036854775808))) dX9_near_30
      · replace h := oIn c17 h
        refine oRun.if_eq_f 20 dX9_near_17 rfl c17 rfl ?_
        refine oRun.iload_n 21 dX9_near_20 3 rfl rfl rfl ?_
        obtain ⟨r21, hr21, h⟩ := oB1 h
        refine oRun.callS (as := [.int x3]) 24 dX9_near_21 lk_RX9_70 (oFit_i (Nat.le_of_ble_eq_true rfl) (Nat.le_of_ble_eq_true rfl)) rfl (Nat.le_of_ble_eq_true rfl) (Nat.le_of_ble_eq_true rfl) rfl (E_X9_isPart hr21) rfl ?_
        show oRun G _ 24 _ [.int r21] _ _ _
        by_cases c24 : r21 = 0
        · replace h := oIp c24 h
          refine oRun.if_ne_f 27 dX9_near_24 rfl c24 rfl ?_
          refine oRun.ldc2 30 dX9_near_27 wd_4_201 rfl ?_
          rw [← Option.some.inj h]
          exact oRun.ret (r := some (.long (-9223372036854775808))) dX9_near_30
        · replace h := oIn c24 h
          refine oRun.if_ne_t 31 dX9_near_24 c24 rfl ?_
          refine oRun.aload_n 32 dX9_near_31 0 rfl rfl (Nat.le_of_ble_eq_true rfl) rfl ?_
          refine oRun.getR 35 dX9_near_32 fd_RX9_11 rfl rfl (Nat.le_of_ble_eq_true rfl) rfl ?_
          refine oRun.bipush 37 dX9_near_35 oc_b7 rfl ?_
          refine oRun.iload_n 38 dX9_near_37 1 rfl rfl rfl ?_
          refine oRun.iadd 39 dX9_near_38 rfl ?_
          obtain ⟨v39, hv39, h⟩ := oB1 h
          refine oRun.iaload 40 dX9_near_39 (Or.inr ⟨_, rfl⟩) hv39 rfl ?_
          refine oRun.i2l 41 dX9_near_40 rfl ?_
          refine oRun.lstore 43 dX9_near_41 (Nat.le_of_ble_eq_true rfl) rfl rfl ?_
          refine oRun.aload_n 44 dX9_near_43 1 rfl rfl (Nat.le_of_ble_eq_true rfl) rfl ?_
          refine oRun.getR 47 dX9_near_44 fd_RX9_11 rfl rfl (Nat.le_of_ble_eq_true rfl) rfl ?_
          refine oRun.bipush 49 dX9_near_47 oc_b13 rfl ?_
          refine oRun.iload_n 50 dX9_near_49 2 rfl rfl rfl ?_
          refine oRun.iadd 51 dX9_near_50 rfl ?_
          obtain ⟨v51, hv51, h⟩ := oB1 h
          refine oRun.iaload 52 dX9_near_51 (Or.inr ⟨_, rfl⟩) hv51 rfl ?_
          refine oRun.i2l 53 dX9_near_52 rfl ?_
          refine oRun.lstore 55 dX9_near_53 (Nat.le_of_ble_eq_true rfl) rfl rfl ?_
          refine oRun.lconst 56 dX9_near_55 oc_l0 rfl ?_
          refine oRun.lstore 58 dX9_near_56 (Nat.le_of_ble_eq_true rfl) rfl rfl ?_
          refine oRun.lconst 59 dX9_near_58 oc_l0 rfl ?_
          refine oRun.lstore 61 dX9_near_59 (Nat.le_of_ble_eq_true rfl) rfl rfl ?_
          refine oRun.lconst 62 dX9_near_61 oc_l0 rfl ?_
          refine oRun.lstore 64 dX9_near_62 (Nat.le_of_ble_eq_true rfl) rfl rfl ?_
          refine oRun.iconst 65 dX9_near_64 oc_i1 rfl ?_
          refine oRun.istore 67 dX9_near_65 (Nat.le_of_ble_eq_true rfl) rfl rfl ?_
          obtain ⟨b67, hb67, h⟩ := oB1 h
          refine oRun.sub [8, 9, 5, 4, 3, 2, 1, 0] rfl ?_
          refine E_X9_near_L67 _ _ _ _ _ _ hb67 ?_
          refine oRun.lload 182 dX9_near_180 1 rfl rfl ?_
          refine oRun.lload 184 dX9_near_182 2 rfl rfl ?_
          refine oRun.iload_n 185 dX9_near_184 0 rfl rfl rfl ?_
          obtain ⟨r185, hr185, h⟩ := oB1 h
          refine oRun.callS (as := [.long b67.1, .long b67.2, .int x3]) 188 dX9_near_185 lk_RX9_50 (oFit_i (Nat.le_of_ble_eq_true rfl) (Nat.le_of_ble_eq_true rfl)) rfl (Nat.le_of_ble_eq_true rfl) (Nat.le_of_ble_eq_true rfl) rfl (E_X9_told hr185) rfl ?_
          show oRun G _ 188 _ [.long r185] _ _ _
          rw [← Option.some.inj h]
          exact oRun.ret (r := some (.long r185)) dX9_near_188
  · exact True.intro
set_option maxRecDepth 100000 in
set_option maxHeartbeats 4000000 in
theorem E_X8_isTeeth {G : oG} {m : oM} {x0 : Int32} {w : Int32} (h : F_X8_isTeeth x0 = some w) : oEv G M_X8_isTeeth [.int x0] m (some (.int w)) m := by
  unfold F_X8_isTeeth at h
  refine ⟨?_, ?_⟩
  · show oRun G M_X8_isTeeth 0 [(0, .int x0)] [] m (some (.int w)) m
    refine oRun.iload_n 1 dX8_isTeeth_0 0 rfl rfl rfl ?_
    refine oRun.bipush 3 dX8_isTeeth_1 oc_b10 rfl ?_
    by_cases c3 : x0 < 10
    · replace h := oIp c3 h
      refine oRun.icmp_lt_t 16 dX8_isTeeth_3 c3 rfl ?_
      refine oRun.iconst 17 dX8_isTeeth_16 oc_i0 rfl ?_
      rw [← Option.some.inj h]
      exact oRun.ret (r := some (.int 0)) dX8_isTeeth_17
    · replace h := oIn c3 h
      refine oRun.icmp_lt_f 6 dX8_isTeeth_3 rfl c3 rfl ?_
      refine oRun.iload_n 7 dX8_isTeeth_6 0 rfl rfl rfl ?_
      refine oRun.bipush 9 dX8_isTeeth_7 oc_b99 rfl ?_
      by_cases c9 : 99 < x0
      · replace h := oIp c9 h
        refine oRun.icmp_gt_t 16 dX8_isTeeth_9 c9 rfl ?_
        refine oRun.iconst 17 dX8_isTeeth_16 oc_i0 rfl ?_
        rw [← Option.some.inj h]
        exact oRun.ret (r := some (.int 0)) dX8_isTeeth_17
      · replace h := oIn c9 h
        refine oRun.icmp_gt_f 12 dX8_isTeeth_9 rfl c9 rfl ?_
        refine oRun.iconst 13 dX8_isTeeth_12 oc_i1 rfl ?_
        refine oRun.goto 17 dX8_isTeeth_13 rfl ?_
        rw [← Option.some.inj h]
        exact oRun.ret (r := some (.int 1)) dX8_isTeeth_17
  · show oROK (some .boolean) (some (.int w))
    by_cases c3 : x0 < 10
    · replace h := oIp c3 h
      rw [← Option.some.inj h]
      exact Or.inl rfl
    · replace h := oIn c3 h
      by_cases c9 : 99 < x0
      · replace h := oIp c9 h
        rw [← Option.some.inj h]
        exact Or.inl rfl
      · replace h := oIn c9 h
        rw [← Option.some.inj h]
        exact Or.inr rfl
set_option maxRecDepth 100000 in
set_option maxHeartbeats 4000000 in
theorem E_X8_bounds {G : oG} {m : oM} {x1 : Int32} {x2 : Int32} {w : Int32 × oM} (h : F_X8_bounds m x1 x2 = some w) : oEv G M_X8_bounds [.ref 0, .int x1, .int x2] m (some (.int w.1)) w.2 := by
  unfold F_X8_bounds at h
  refine ⟨?_, ?_⟩
  · show oRun G M_X8_bounds 0 [(0, .ref 0), (1, .int x1), (2, .int x2)] [] m (some (.int w.1)) w.2
    refine oRun.iload_n 1 dX8_bounds_0 1 rfl rfl rfl ?_
    obtain ⟨r1, hr1, h⟩ := oB1 h
    refine oRun.callS (as := [.int x1]) 4 dX8_bounds_1 lk_RX8_102 (oFit_i (Nat.le_of_ble_eq_true rfl) (Nat.le_of_ble_eq_true rfl)) rfl (Nat.le_of_ble_eq_true rfl) (Nat.le_of_ble_eq_true rfl) rfl (E_X8_isTeeth hr1) rfl ?_
    show oRun G _ 4 _ [.int r1] _ _ _
    by_cases c4 : r1 = 0
    · replace h := oIp c4 h
      refine oRun.if_eq_t 27 dX8_bounds_4 c4 rfl ?_
      refine oRun.bipush 29 dX8_bounds_27 oc_bm2 rfl ?_
      rw [← Option.some.inj h]
      exact oRun.ret (r := some (.int (-2))) dX8_bounds_29
    · replace h := oIn c4 h
      refine oRun.if_eq_f 7 dX8_bounds_4 rfl c4 rfl ?_
      refine oRun.iload_n 8 dX8_bounds_7 2 rfl rfl rfl ?_
      obtain ⟨r8, hr8, h⟩ := oB1 h
      refine oRun.callS (as := [.int x2]) 11 dX8_bounds_8 lk_RX8_102 (oFit_i (Nat.le_of_ble_eq_true rfl) (Nat.le_of_ble_eq_true rfl)) rfl (Nat.le_of_ble_eq_true rfl) (Nat.le_of_ble_eq_true rfl) rfl (E_X8_isTeeth hr8) rfl ?_
      show oRun G _ 11 _ [.int r8] _ _ _
      by_cases c11 : r8 = 0
      · replace h := oIp c11 h
        refine oRun.if_eq_t 27 dX8_bounds_11 c11 rfl ?_
        refine oRun.bipush 29 dX8_bounds_27 oc_bm2 rfl ?_
        rw [← Option.some.inj h]
        exact oRun.ret (r := some (.int (-2))) dX8_bounds_29
      · replace h := oIn c11 h
        refine oRun.if_eq_f 14 dX8_bounds_11 rfl c11 rfl ?_
        refine oRun.iload_n 15 dX8_bounds_14 2 rfl rfl rfl ?_
        refine oRun.iload_n 16 dX8_bounds_15 1 rfl rfl rfl ?_
        by_cases c16 : x2 < x1
        · replace h := oIp c16 h
          refine oRun.icmp_lt_t 27 dX8_bounds_16 c16 rfl ?_
          refine oRun.bipush 29 dX8_bounds_27 oc_bm2 rfl ?_
          rw [← Option.some.inj h]
          exact oRun.ret (r := some (.int (-2))) dX8_bounds_29
        · replace h := oIn c16 h
          refine oRun.icmp_lt_f 19 dX8_bounds_16 rfl c16 rfl ?_
          refine oRun.iload_n 20 dX8_bounds_19 2 rfl rfl rfl ?_
          refine oRun.iload_n 21 dX8_bounds_20 1 rfl rfl rfl ?_
          refine oRun.bipush 23 dX8_bounds_21 oc_b14 rfl ?_
          refine oRun.iadd 24 dX8_bounds_23 rfl ?_
          by_cases c24 : x2 ≤ (x1 + 14)
          · replace h := oIp c24 h
            refine oRun.icmp_le_t 30 dX8_bounds_24 c24 rfl ?_
            refine oRun.bipush 32 dX8_bounds_30 oc_b100 rfl ?_
            refine oRun.aload_n 33 dX8_bounds_32 0 rfl rfl (Nat.le_of_ble_eq_true rfl) rfl ?_
            refine oRun.getR 36 dX8_bounds_33 fd_RX8_12 rfl rfl (Nat.le_of_ble_eq_true rfl) rfl ?_
            refine oRun.getI 39 dX8_bounds_36 fd_RX8_105 rfl rfl rfl ?_
            refine oRun.imul 40 dX8_bounds_39 rfl ?_
            refine oRun.aload_n 41 dX8_bounds_40 0 rfl rfl (Nat.le_of_ble_eq_true rfl) rfl ?_
            refine oRun.getR 44 dX8_bounds_41 fd_RX8_12 rfl rfl (Nat.le_of_ble_eq_true rfl) rfl ?_
            refine oRun.getI 47 dX8_bounds_44 fd_RX8_108 rfl rfl rfl ?_
            refine oRun.iadd 48 dX8_bounds_47 rfl ?_
            obtain ⟨x3_48, hx3_48, h⟩ := oB1 h
            refine oRun.nameI hx3_48 ?_
            refine oRun.istore_n 49 dX8_bounds_48 rfl (Nat.le_of_ble_eq_true rfl) rfl rfl ?_
            refine oRun.aload_n 50 dX8_bounds_49 1 rfl rfl (Nat.le_of_ble_eq_true rfl) rfl ?_
            refine oRun.getR 53 dX8_bounds_50 fd_RX8_12 rfl rfl (Nat.le_of_ble_eq_true rfl) rfl ?_
            refine oRun.iload_n 54 dX8_bounds_53 2 rfl rfl rfl ?_
            obtain ⟨m54, hm54, h⟩ := oB1 h
            refine oRun.putI 57 dX8_bounds_54 fp_RX8_105 rfl rfl rfl ?_
            refine oRun.nameM hm54 ?_
            refine oRun.aload_n 58 dX8_bounds_57 1 rfl rfl (Nat.le_of_ble_eq_true rfl) rfl ?_
            refine oRun.getR 61 dX8_bounds_58 fd_RX8_12 rfl rfl (Nat.le_of_ble_eq_true rfl) rfl ?_
            refine oRun.iload_n 62 dX8_bounds_61 3 rfl rfl rfl ?_
            obtain ⟨m62, hm62, h⟩ := oB1 h
            refine oRun.putI 65 dX8_bounds_62 fp_RX8_108 rfl rfl rfl ?_
            refine oRun.nameM hm62 ?_
            refine oRun.iload_n 66 dX8_bounds_65 0 rfl rfl rfl ?_
            rw [← Option.some.inj h]
            exact oRun.ret (r := some (.int x3_48)) dX8_bounds_66
          · replace h := oIn c24 h
            refine oRun.icmp_le_f 27 dX8_bounds_24 rfl c24 rfl ?_
            refine oRun.bipush 29 dX8_bounds_27 oc_bm2 rfl ?_
            rw [← Option.some.inj h]
            exact oRun.ret (r := some (.int (-2))) dX8_bounds_29
  · exact True.intro
set_option maxRecDepth 100000 in
set_option maxHeartbeats 4000000 in
theorem E_X9_bounds {G : oG} {m : oM} {x1 : Int32} {x2 : Int32} {w : Int32 × oM} (h : F_X9_bounds m x1 x2 = some w) : oEv G M_X9_bounds [.ref 51, .int x1, .int x2] m (some (.int w.1)) w.2 := by
  unfold F_X9_bounds at h
  refine ⟨?_, ?_⟩
  · show oRun G M_X9_bounds 0 [(0, .ref 51), (1, .int x1), (2, .int x2)] [] m (some (.int w.1)) w.2
    refine oRun.iload_n 1 dX9_bounds_0 1 rfl rfl rfl ?_
    refine oRun.i2l 2 dX9_bounds_1 rfl ?_
    refine oRun.ldc2 5 dX9_bounds_2 wd_4_211 rfl ?_
    refine oRun.ldc2 8 dX9_bounds_5 wd_4_206 rfl ?_
    obtain ⟨r8, hr8, h⟩ := oB1 h
    refine oRun.callS (as := [.long x1.toInt64, .long 10, .long 99]) 11 dX9_bounds_8 lk_RX9_44 (oFit_i (Nat.le_of_ble_eq_true rfl) (Nat.le_of_ble_eq_true rfl)) rfl (Nat.le_of_ble_eq_true rfl) (Nat.le_of_ble_eq_true rfl) rfl (E_X9_isIn hr8) rfl ?_
    show oRun G _ 11 _ [.int r8] _ _ _
    by_cases c11 : r8 = 0
    · replace h := oIp c11 h
      refine oRun.if_eq_t 35 dX9_bounds_11 c11 rfl ?_
      refine oRun.bipush 37 dX9_bounds_35 oc_bm2 rfl ?_
      rw [← Option.some.inj h]
      exact oRun.ret (r := some (.int (-2))) dX9_bounds_37
    · replace h := oIn c11 h
      refine oRun.if_eq_f 14 dX9_bounds_11 rfl c11 rfl ?_
      refine oRun.iload_n 15 dX9_bounds_14 2 rfl rfl rfl ?_
      refine oRun.i2l 16 dX9_bounds_15 rfl ?_
      refine oRun.iload_n 17 dX9_bounds_16 1 rfl rfl rfl ?_
      refine oRun.i2l 18 dX9_bounds_17 rfl ?_
      refine oRun.iload_n 19 dX9_bounds_18 1 rfl rfl rfl ?_
      refine oRun.bipush 21 dX9_bounds_19 oc_b14 rfl ?_
      refine oRun.iadd 22 dX9_bounds_21 rfl ?_
      refine oRun.i2l 23 dX9_bounds_22 rfl ?_
      obtain ⟨r23, hr23, h⟩ := oB1 h
      refine oRun.callS (as := [.long x2.toInt64, .long x1.toInt64, .long ((x1 + 14)).toInt64]) 26 dX9_bounds_23 lk_RX9_44 (oFit_i (Nat.le_of_ble_eq_true rfl) (Nat.le_of_ble_eq_true rfl)) rfl (Nat.le_of_ble_eq_true rfl) (Nat.le_of_ble_eq_true rfl) rfl (E_X9_isIn hr23) rfl ?_
      show oRun G _ 26 _ [.int r23] _ _ _
      by_cases c26 : r23 = 0
      · replace h := oIp c26 h
        refine oRun.if_eq_t 35 dX9_bounds_26 c26 rfl ?_
        refine oRun.bipush 37 dX9_bounds_35 oc_bm2 rfl ?_
        rw [← Option.some.inj h]
        exact oRun.ret (r := some (.int (-2))) dX9_bounds_37
      · replace h := oIn c26 h
        refine oRun.if_eq_f 29 dX9_bounds_26 rfl c26 rfl ?_
        refine oRun.iload_n 30 dX9_bounds_29 2 rfl rfl rfl ?_
        refine oRun.bipush 32 dX9_bounds_30 oc_b99 rfl ?_
        by_cases c32 : x2 ≤ 99
        · replace h := oIp c32 h
          refine oRun.icmp_le_t 38 dX9_bounds_32 c32 rfl ?_
          refine oRun.bipush 40 dX9_bounds_38 oc_b100 rfl ?_
          refine oRun.aload_n 41 dX9_bounds_40 0 rfl rfl (Nat.le_of_ble_eq_true rfl) rfl ?_
          refine oRun.getR 44 dX9_bounds_41 fd_RX9_11 rfl rfl (Nat.le_of_ble_eq_true rfl) rfl ?_
          refine oRun.iconst 45 dX9_bounds_44 oc_i1 rfl ?_
          refine oRun.iaload (x := m.1 52 1) 46 dX9_bounds_45 (Or.inr ⟨_, rfl⟩) (oAL_lit (i := 1) rfl) rfl ?_
          refine oRun.imul 47 dX9_bounds_46 rfl ?_
          refine oRun.aload_n 48 dX9_bounds_47 0 rfl rfl (Nat.le_of_ble_eq_true rfl) rfl ?_
          refine oRun.getR 51 dX9_bounds_48 fd_RX9_11 rfl rfl (Nat.le_of_ble_eq_true rfl) rfl ?_
          refine oRun.iconst 52 dX9_bounds_51 oc_i2 rfl ?_
          refine oRun.iaload (x := m.1 52 2) 53 dX9_bounds_52 (Or.inr ⟨_, rfl⟩) (oAL_lit (i := 2) rfl) rfl ?_
          refine oRun.iadd 54 dX9_bounds_53 rfl ?_
          obtain ⟨x3_54, hx3_54, h⟩ := oB1 h
          refine oRun.nameI hx3_54 ?_
          refine oRun.istore_n 55 dX9_bounds_54 rfl (Nat.le_of_ble_eq_true rfl) rfl rfl ?_
          refine oRun.aload_n 56 dX9_bounds_55 1 rfl rfl (Nat.le_of_ble_eq_true rfl) rfl ?_
          refine oRun.getR 59 dX9_bounds_56 fd_RX9_11 rfl rfl (Nat.le_of_ble_eq_true rfl) rfl ?_
          refine oRun.iconst 60 dX9_bounds_59 oc_i1 rfl ?_
          refine oRun.iload_n 61 dX9_bounds_60 2 rfl rfl rfl ?_
          obtain ⟨m61, hm61, h⟩ := oB1 h
          refine oRun.iastore 62 dX9_bounds_61 rfl (oAS_lit (i := 1) rfl hm61) rfl ?_
          refine oRun.aload_n 63 dX9_bounds_62 1 rfl rfl (Nat.le_of_ble_eq_true rfl) rfl ?_
          refine oRun.getR 66 dX9_bounds_63 fd_RX9_11 rfl rfl (Nat.le_of_ble_eq_true rfl) rfl ?_
          refine oRun.iconst 67 dX9_bounds_66 oc_i2 rfl ?_
          refine oRun.iload_n 68 dX9_bounds_67 3 rfl rfl rfl ?_
          obtain ⟨m68, hm68, h⟩ := oB1 h
          refine oRun.iastore 69 dX9_bounds_68 rfl (oAS_lit (i := 2) rfl hm68) rfl ?_
          refine oRun.iload_n 70 dX9_bounds_69 0 rfl rfl rfl ?_
          rw [← Option.some.inj h]
          exact oRun.ret (r := some (.int x3_54)) dX9_bounds_70
        · replace h := oIn c32 h
          refine oRun.icmp_le_f 35 dX9_bounds_32 rfl c32 rfl ?_
          refine oRun.bipush 37 dX9_bounds_35 oc_bm2 rfl ?_
          rw [← Option.some.inj h]
          exact oRun.ret (r := some (.int (-2))) dX9_bounds_37
  · exact True.intro
set_option maxRecDepth 100000 in
set_option maxHeartbeats 4000000 in
theorem E_X8_splitIntoOne {G : oG} {m : oM} {x1 : Int32} {x2 : Int32} {w : Int32} (h : F_X8_splitIntoOne x1 x2 = some w) : oEv G M_X8_splitIntoOne [.ref 0, .int x1, .int x2] m (some (.int w)) m := by
  unfold F_X8_splitIntoOne at h
  refine ⟨?_, ?_⟩
  · show oRun G M_X8_splitIntoOne 0 [(0, .ref 0), (1, .int x1), (2, .int x2)] [] m (some (.int w)) m
    refine oRun.iload_n 1 dX8_splitIntoOne_0 1 rfl rfl rfl ?_
    refine oRun.iload_n 2 dX8_splitIntoOne_1 2 rfl rfl rfl ?_
    by_cases c2 : x1 = x2
    · replace h := oIp c2 h
      refine oRun.icmp_ne_f 5 dX8_splitIntoOne_2 rfl c2 rfl ?_
      refine oRun.iload_n 6 dX8_splitIntoOne_5 1 rfl rfl rfl ?_
      refine oRun.goto 10 dX8_splitIntoOne_6 rfl ?_
      rw [← Option.some.inj h]
      exact oRun.ret (r := some (.int x1)) dX8_splitIntoOne_10
    · replace h := oIn c2 h
      refine oRun.icmp_ne_t 9 dX8_splitIntoOne_2 c2 rfl ?_
      refine oRun.iconst 10 dX8_splitIntoOne_9 oc_i0 rfl ?_
      rw [← Option.some.inj h]
      exact oRun.ret (r := some (.int 0)) dX8_splitIntoOne_10
  · exact True.intro
set_option maxRecDepth 100000 in
set_option maxHeartbeats 4000000 in
theorem E_X8_splitIntoTwo {G : oG} {m : oM} {x1 : Int32} {x2 : Int32} {w : Int32} (h : F_X8_splitIntoTwo m x1 x2 = some w) : oEv G M_X8_splitIntoTwo [.ref 0, .int x1, .int x2] m (some (.int w)) m := by
  unfold F_X8_splitIntoTwo at h
  refine ⟨?_, ?_⟩
  · show oRun G M_X8_splitIntoTwo 0 [(0, .ref 0), (1, .int x1), (2, .int x2)] [] m (some (.int w)) m
    refine oRun.iload_n 1 dX8_splitIntoTwo_0 2 rfl rfl rfl ?_
    refine oRun.iconst 2 dX8_splitIntoTwo_1 oc_i1 rfl ?_
    by_cases c2 : x2 < 1
    · replace h := oIp c2 h
      refine oRun.icmp_lt_t 11 dX8_splitIntoTwo_2 c2 rfl ?_
      refine oRun.iconst 12 dX8_splitIntoTwo_11 oc_i0 rfl ?_
      rw [← Option.some.inj h]
      exact oRun.ret (r := some (.int 0)) dX8_splitIntoTwo_12
    · replace h := oIn c2 h
      refine oRun.icmp_lt_f 5 dX8_splitIntoTwo_2 rfl c2 rfl ?_
      refine oRun.iload_n 6 dX8_splitIntoTwo_5 1 rfl rfl rfl ?_
      refine oRun.iload_n 7 dX8_splitIntoTwo_6 2 rfl rfl rfl ?_
      obtain ⟨v7, hv7, h⟩ := oB1 h
      obtain ⟨hz7, hv7⟩ := oDz hv7
      refine oRun.irem 8 dX8_splitIntoTwo_7 hz7 rfl ?_
      refine oRun.nameI hv7 ?_
      by_cases c8 : v7 = 0
      · replace h := oIp c8 h
        refine oRun.if_eq_t 13 dX8_splitIntoTwo_8 c8 rfl ?_
        refine oRun.iload_n 14 dX8_splitIntoTwo_13 1 rfl rfl rfl ?_
        refine oRun.iload_n 15 dX8_splitIntoTwo_14 2 rfl rfl rfl ?_
        obtain ⟨v15, hv15, h⟩ := oB1 h
        obtain ⟨hz15, hv15⟩ := oDz hv15
        refine oRun.idiv 16 dX8_splitIntoTwo_15 hz15 rfl ?_
        refine oRun.nameI hv15 ?_
        refine oRun.istore_n 17 dX8_splitIntoTwo_16 rfl (Nat.le_of_ble_eq_true rfl) rfl rfl ?_
        refine oRun.iload_n 18 dX8_splitIntoTwo_17 0 rfl rfl rfl ?_
        refine oRun.iload_n 19 dX8_splitIntoTwo_18 3 rfl rfl rfl ?_
        by_cases c19 : v15 < x2
        · replace h := oIp c19 h
          refine oRun.icmp_lt_t 42 dX8_splitIntoTwo_19 c19 rfl ?_
          refine oRun.iconst 43 dX8_splitIntoTwo_42 oc_i0 rfl ?_
          rw [← Option.some.inj h]
          exact oRun.ret (r := some (.int 0)) dX8_splitIntoTwo_43
        · replace h := oIn c19 h
          refine oRun.icmp_lt_f 22 dX8_splitIntoTwo_19 rfl c19 rfl ?_
          refine oRun.iload_n 23 dX8_splitIntoTwo_22 0 rfl rfl rfl ?_
          refine oRun.aload_n 24 dX8_splitIntoTwo_23 1 rfl rfl (Nat.le_of_ble_eq_true rfl) rfl ?_
          refine oRun.getR 27 dX8_splitIntoTwo_24 fd_RX8_12 rfl rfl (Nat.le_of_ble_eq_true rfl) rfl ?_
          refine oRun.getI 30 dX8_splitIntoTwo_27 fd_RX8_108 rfl rfl rfl ?_
          by_cases c30 : (m.1 1 4) < v15
          · replace h := oIp c30 h
            refine oRun.icmp_gt_t 42 dX8_splitIntoTwo_30 c30 rfl ?_
            refine oRun.iconst 43 dX8_splitIntoTwo_42 oc_i0 rfl ?_
            rw [← Option.some.inj h]
            exact oRun.ret (r := some (.int 0)) dX8_splitIntoTwo_43
          · replace h := oIn c30 h
            refine oRun.icmp_gt_f 33 dX8_splitIntoTwo_30 rfl c30 rfl ?_
            refine oRun.bipush 35 dX8_splitIntoTwo_33 oc_b100 rfl ?_
            refine oRun.iload_n 36 dX8_splitIntoTwo_35 3 rfl rfl rfl ?_
            refine oRun.imul 37 dX8_splitIntoTwo_36 rfl ?_
            refine oRun.iload_n 38 dX8_splitIntoTwo_37 0 rfl rfl rfl ?_
            refine oRun.iadd 39 dX8_splitIntoTwo_38 rfl ?_
            refine oRun.goto 43 dX8_splitIntoTwo_39 rfl ?_
            rw [← Option.some.inj h]
            exact oRun.ret (r := some (.int ((100 * x2) + v15))) dX8_splitIntoTwo_43
      · replace h := oIn c8 h
        refine oRun.if_eq_f 11 dX8_splitIntoTwo_8 rfl c8 rfl ?_
        refine oRun.iconst 12 dX8_splitIntoTwo_11 oc_i0 rfl ?_
        rw [← Option.some.inj h]
        exact oRun.ret (r := some (.int 0)) dX8_splitIntoTwo_12
  · exact True.intro
set_option maxRecDepth 100000 in
set_option maxHeartbeats 4000000 in
theorem E_X8_split_J71 {G : oG} {m : oM} {x1 : Int32} {x2 : Int32} {x3 : Int32} {x4 : Int32} {x5 : Int32} {t0 : Int32} {r : Option Value} {m' : oM} {q' : (Int32 × Int32) ⊕ ((Int32) ⊕ (Int32))} (h : F_X8_split_J71 m x1 x2 x3 x4 x5 t0 = some q') (hc : ∀ s' : Int32 × Int32, q' = .inl s' → oRun G M_X8_split 37 [(0, .ref 0), (1, .int x1), (2, .int x2), (3, .int x3), (4, .int s'.1), (5, .int s'.2)] [] m r m') (hx : ∀ b' : (Int32) ⊕ (Int32), q' = .inr b' → Sum.elim (fun yy => oRun G M_X8_split 99 [(3, .int x3), (4, .int yy)] [] m r m') (fun zz => r = (some (.int zz)) ∧ m' = m) b') : oRun G M_X8_split 71 [(0, .ref 0), (1, .int x1), (2, .int x2), (3, .int x3), (4, .int x4), (5, .int x5)] [.int t0] m r m' := by
  unfold F_X8_split_J71 at h
  refine oRun.istore 73 dX8_split_71 (Nat.le_of_ble_eq_true rfl) rfl rfl ?_
  refine oRun.iload 75 dX8_split_73 0 rfl rfl ?_
  by_cases c75 : t0 = 0
  · replace h := oIp c75 h
    refine oRun.if_ne_f 78 dX8_split_75 rfl c75 rfl ?_
    refine oRun.goto 93 dX8_split_78 rfl ?_
    refine oRun.iinc 96 dX8_split_93 6 rfl (oAddC oc_i1) (Nat.le_of_ble_eq_true rfl) rfl rfl ?_
    refine oRun.goto 37 dX8_split_96 rfl ?_
    cases h
    refine oRun.sub [2, 3, 4, 5, 6, 0] rfl ?_
    exact hc _ rfl
  · replace h := oIn c75 h
    refine oRun.if_ne_t 81 dX8_split_75 c75 rfl ?_
    refine oRun.iload 83 dX8_split_81 5 rfl rfl ?_
    refine oRun.iload_n 84 dX8_split_83 4 rfl rfl rfl ?_
    by_cases c84 : x4 = x3
    · replace h := oIp c84 h
      refine oRun.icmp_ne_f 87 dX8_split_84 rfl c84 rfl ?_
      refine oRun.iload 89 dX8_split_87 0 rfl rfl ?_
      cases h
      obtain ⟨hr1, hr2⟩ := hx _ rfl
      rw [hr1, hr2]
      exact oRun.ret (r := some (.int t0)) dX8_split_89
    · replace h := oIn c84 h
      refine oRun.icmp_ne_t 90 dX8_split_84 c84 rfl ?_
      refine oRun.iinc 93 dX8_split_90 5 rfl (oAddC oc_i1) (Nat.le_of_ble_eq_true rfl) rfl rfl ?_
      refine oRun.iinc 96 dX8_split_93 6 rfl (oAddC oc_i1) (Nat.le_of_ble_eq_true rfl) rfl rfl ?_
      refine oRun.goto 37 dX8_split_96 rfl ?_
      cases h
      refine oRun.sub [3, 4, 5, 6, 1, 0] rfl ?_
      exact hc _ rfl
set_option maxRecDepth 100000 in
set_option maxHeartbeats 4000000 in
theorem E_X8_split_L37 {G : oG} {m : oM} {x1 : Int32} {x2 : Int32} {x3 : Int32} {r : Option Value} {m' : oM} : ∀ (n : Nat) (x4 : Int32) (x5 : Int32) (b : (Int32) ⊕ (Int32)), oLoop (fun s : Int32 × Int32 => F_X8_split_L37 m x1 x2 x3 s.1 s.2) n (x4, x5) = some b → Sum.elim (fun yy => oRun G M_X8_split 99 [(3, .int x3), (4, .int yy)] [] m r m') (fun zz => r = (some (.int zz)) ∧ m' = m) b → oRun G M_X8_split 37 [(0, .ref 0), (1, .int x1), (2, .int x2), (3, .int x3), (4, .int x4), (5, .int x5)] [] m r m' := by
  intro n
  induction n with
  | zero => intro x4 x5 b h _; exact (oLoop_zero h).elim
  | succ n ih =>
    intro x4 x5 b h he
    obtain ⟨q', hq', h⟩ := oLoop_succ h
    have hc : ∀ s' : Int32 × Int32, q' = .inl s' → oRun G M_X8_split 37 [(0, .ref 0), (1, .int x1), (2, .int x2), (3, .int x3), (4, .int s'.1), (5, .int s'.2)] [] m r m' := by
      rintro s' rfl
      exact ih (s'.1) (s'.2) b h he
    have hx : ∀ b' : (Int32) ⊕ (Int32), q' = .inr b' → Sum.elim (fun yy => oRun G M_X8_split 99 [(3, .int x3), (4, .int yy)] [] m r m') (fun zz => r = (some (.int zz)) ∧ m' = m) b' := by
      rintro b' rfl
      have h : b' = b := h
      rw [h]
      exact he
    clear h he ih
    have h := hq'
    clear hq'
    replace h : F_X8_split_L37 m x1 x2 x3 x4 x5 = some q' := h
    unfold F_X8_split_L37 at h
    refine oRun.iload 39 dX8_split_37 5 rfl rfl ?_
    refine oRun.aload_n 40 dX8_split_39 0 rfl rfl (Nat.le_of_ble_eq_true rfl) rfl ?_
    refine oRun.getR 43 dX8_split_40 fd_RX8_12 rfl rfl (Nat.le_of_ble_eq_true rfl) rfl ?_
    refine oRun.getI 46 dX8_split_43 fd_RX8_108 rfl rfl rfl ?_
    by_cases c46 : (m.1 1 4) < x5
    · replace h := oIp c46 h
      refine oRun.icmp_gt_t 99 dX8_split_46 c46 rfl ?_
      cases h
      refine oRun.sub [3, 4] rfl ?_
      exact hx _ rfl
    · replace h := oIn c46 h
      refine oRun.icmp_gt_f 49 dX8_split_46 rfl c46 rfl ?_
      refine oRun.iload_n 50 dX8_split_49 2 rfl rfl rfl ?_
      refine oRun.iconst 51 dX8_split_50 oc_i1 rfl ?_
      by_cases c51 : x2 = 1
      · replace h := oIp c51 h
        refine oRun.icmp_ne_f 54 dX8_split_51 rfl c51 rfl ?_
        refine oRun.aload_n 55 dX8_split_54 0 rfl rfl (Nat.le_of_ble_eq_true rfl) rfl ?_
        refine oRun.iload_n 56 dX8_split_55 1 rfl rfl rfl ?_
        refine oRun.iload 58 dX8_split_56 5 rfl rfl ?_
        obtain ⟨r58, hr58, h⟩ := oB1 h
        refine oRun.callV (as := [.int x1, .int x5]) 61 dX8_split_58 lk_RX8_111 (oFit_i (Nat.le_of_ble_eq_true rfl) (Nat.le_of_ble_eq_true rfl)) rfl rfl rfl rfl (Nat.le_of_ble_eq_true rfl) (Nat.le_of_ble_eq_true rfl) rfl (E_X8_splitIntoOne hr58) rfl ?_
        show oRun G _ 61 _ [.int r58] _ _ _
        refine oRun.goto 71 dX8_split_61 rfl ?_
        refine oRun.sub [0, 1, 2, 3, 4, 5] rfl ?_
        exact E_X8_split_J71 h hc hx
      · replace h := oIn c51 h
        refine oRun.icmp_ne_t 64 dX8_split_51 c51 rfl ?_
        refine oRun.aload_n 65 dX8_split_64 0 rfl rfl (Nat.le_of_ble_eq_true rfl) rfl ?_
        refine oRun.iload_n 66 dX8_split_65 1 rfl rfl rfl ?_
        refine oRun.iload 68 dX8_split_66 5 rfl rfl ?_
        obtain ⟨r68, hr68, h⟩ := oB1 h
        refine oRun.callV (as := [.int x1, .int x5]) 71 dX8_split_68 lk_RX8_115 (oFit_i (Nat.le_of_ble_eq_true rfl) (Nat.le_of_ble_eq_true rfl)) rfl rfl rfl rfl (Nat.le_of_ble_eq_true rfl) (Nat.le_of_ble_eq_true rfl) rfl (E_X8_splitIntoTwo hr68) rfl ?_
        show oRun G _ 71 _ [.int r68] _ _ _
        refine oRun.sub [0, 1, 2, 3, 4, 5] rfl ?_
        exact E_X8_split_J71 h hc hx
set_option maxRecDepth 100000 in
set_option maxHeartbeats 4000000 in
theorem E_X8_split {G : oG} {m : oM} {x1 : Int32} {x2 : Int32} {x3 : Int32} {w : Int32} (h : F_X8_split m x1 x2 x3 = some w) : oEv G M_X8_split [.ref 0, .int x1, .int x2, .int x3] m (some (.int w)) m := by
  unfold F_X8_split at h
  refine ⟨?_, ?_⟩
  · show oRun G M_X8_split 0 [(0, .ref 0), (1, .int x1), (2, .int x2), (3, .int x3)] [] m (some (.int w)) m
    refine oRun.iload_n 1 dX8_split_0 1 rfl rfl rfl ?_
    refine oRun.iconst 2 dX8_split_1 oc_i1 rfl ?_
    by_cases c2 : x1 < 1
    · replace h := oIp c2 h
      refine oRun.icmp_lt_t 22 dX8_split_2 c2 rfl ?_
      refine oRun.bipush 24 dX8_split_22 oc_bm2 rfl ?_
      rw [← Option.some.inj h]
      exact oRun.ret (r := some (.int (-2))) dX8_split_24
    · replace h := oIn c2 h
      refine oRun.icmp_lt_f 5 dX8_split_2 rfl c2 rfl ?_
      refine oRun.iload_n 6 dX8_split_5 1 rfl rfl rfl ?_
      refine oRun.sipush 9 dX8_split_6 oc_s9999 rfl ?_
      by_cases c9 : 9999 < x1
      · replace h := oIp c9 h
        refine oRun.icmp_gt_t 22 dX8_split_9 c9 rfl ?_
        refine oRun.bipush 24 dX8_split_22 oc_bm2 rfl ?_
        rw [← Option.some.inj h]
        exact oRun.ret (r := some (.int (-2))) dX8_split_24
      · replace h := oIn c9 h
        refine oRun.icmp_gt_f 12 dX8_split_9 rfl c9 rfl ?_
        refine oRun.iload_n 13 dX8_split_12 2 rfl rfl rfl ?_
        refine oRun.iconst 14 dX8_split_13 oc_i1 rfl ?_
        by_cases c14 : x2 < 1
        · replace h := oIp c14 h
          refine oRun.icmp_lt_t 22 dX8_split_14 c14 rfl ?_
          refine oRun.bipush 24 dX8_split_22 oc_bm2 rfl ?_
          rw [← Option.some.inj h]
          exact oRun.ret (r := some (.int (-2))) dX8_split_24
        · replace h := oIn c14 h
          refine oRun.icmp_lt_f 17 dX8_split_14 rfl c14 rfl ?_
          refine oRun.iload_n 18 dX8_split_17 2 rfl rfl rfl ?_
          refine oRun.iconst 19 dX8_split_18 oc_i2 rfl ?_
          by_cases c19 : x2 ≤ 2
          · replace h := oIp c19 h
            refine oRun.icmp_le_t 25 dX8_split_19 c19 rfl ?_
            refine oRun.iconst 26 dX8_split_25 oc_i0 rfl ?_
            refine oRun.istore 28 dX8_split_26 (Nat.le_of_ble_eq_true rfl) rfl rfl ?_
            refine oRun.aload_n 29 dX8_split_28 1 rfl rfl (Nat.le_of_ble_eq_true rfl) rfl ?_
            refine oRun.getR 32 dX8_split_29 fd_RX8_12 rfl rfl (Nat.le_of_ble_eq_true rfl) rfl ?_
            refine oRun.getI 35 dX8_split_32 fd_RX8_105 rfl rfl rfl ?_
            obtain ⟨x5_35, hx5_35, h⟩ := oB1 h
            refine oRun.nameI hx5_35 ?_
            refine oRun.istore 37 dX8_split_35 (Nat.le_of_ble_eq_true rfl) rfl rfl ?_
            obtain ⟨b37, hb37, h⟩ := oB1 h
            refine oRun.sub [2, 3, 4, 5, 1, 0] rfl ?_
            refine E_X8_split_L37 _ _ _ _ hb37 ?_
            rcases b37 with y37 | z37
            · replace h := oSl h
              show oRun G _ _ _ _ _ _ _
              refine oRun.iload_n 100 dX8_split_99 0 rfl rfl rfl ?_
              refine oRun.iconst 101 dX8_split_100 oc_im1 rfl ?_
              by_cases c101 : x3 = (-1)
              · replace h := oIp c101 h
                refine oRun.icmp_ne_f 104 dX8_split_101 rfl c101 rfl ?_
                refine oRun.iload 106 dX8_split_104 1 rfl rfl ?_
                refine oRun.goto 111 dX8_split_106 rfl ?_
                rw [← Option.some.inj h]
                exact oRun.ret (r := some (.int y37)) dX8_split_111
              · replace h := oIn c101 h
                refine oRun.icmp_ne_t 109 dX8_split_101 c101 rfl ?_
                refine oRun.bipush 111 dX8_split_109 oc_bm5 rfl ?_
                rw [← Option.some.inj h]
                exact oRun.ret (r := some (.int (-5))) dX8_split_111
            · replace h := oSr h
              cases h
              exact ⟨rfl, rfl⟩
          · replace h := oIn c19 h
            refine oRun.icmp_le_f 22 dX8_split_19 rfl c19 rfl ?_
            refine oRun.bipush 24 dX8_split_22 oc_bm2 rfl ?_
            rw [← Option.some.inj h]
            exact oRun.ret (r := some (.int (-2))) dX8_split_24
  · exact True.intro
set_option maxRecDepth 100000 in
set_option maxHeartbeats 4000000 in
theorem E_X9_isWithin {G : oG} {m : oM} {x1 : Int32} {w : Int32} (h : F_X9_isWithin m x1 = some w) : oEv G M_X9_isWithin [.ref 51, .int x1] m (some (.int w)) m := by
  unfold F_X9_isWithin at h
  refine ⟨?_, ?_⟩
  · show oRun G M_X9_isWithin 0 [(0, .ref 51), (1, .int x1)] [] m (some (.int w)) m
    refine oRun.iload_n 1 dX9_isWithin_0 1 rfl rfl rfl ?_
    refine oRun.i2l 2 dX9_isWithin_1 rfl ?_
    refine oRun.aload_n 3 dX9_isWithin_2 0 rfl rfl (Nat.le_of_ble_eq_true rfl) rfl ?_
    refine oRun.getR 6 dX9_isWithin_3 fd_RX9_11 rfl rfl (Nat.le_of_ble_eq_true rfl) rfl ?_
    refine oRun.iconst 7 dX9_isWithin_6 oc_i1 rfl ?_
    refine oRun.iaload (x := m.1 52 1) 8 dX9_isWithin_7 (Or.inr ⟨_, rfl⟩) (oAL_lit (i := 1) rfl) rfl ?_
    refine oRun.i2l 9 dX9_isWithin_8 rfl ?_
    refine oRun.aload_n 10 dX9_isWithin_9 0 rfl rfl (Nat.le_of_ble_eq_true rfl) rfl ?_
    refine oRun.getR 13 dX9_isWithin_10 fd_RX9_11 rfl rfl (Nat.le_of_ble_eq_true rfl) rfl ?_
    refine oRun.iconst 14 dX9_isWithin_13 oc_i2 rfl ?_
    refine oRun.iaload (x := m.1 52 2) 15 dX9_isWithin_14 (Or.inr ⟨_, rfl⟩) (oAL_lit (i := 2) rfl) rfl ?_
    refine oRun.i2l 16 dX9_isWithin_15 rfl ?_
    obtain ⟨r16, hr16, h⟩ := oB1 h
    refine oRun.callS (as := [.long x1.toInt64, .long ((m.1 52 1)).toInt64, .long ((m.1 52 2)).toInt64]) 19 dX9_isWithin_16 lk_RX9_44 (oFit_i (Nat.le_of_ble_eq_true rfl) (Nat.le_of_ble_eq_true rfl)) rfl (Nat.le_of_ble_eq_true rfl) (Nat.le_of_ble_eq_true rfl) rfl (E_X9_isIn hr16) rfl ?_
    show oRun G _ 19 _ [.int r16] _ _ _
    rw [← Option.some.inj h]
    exact oRun.ret (r := some (.int r16)) dX9_isWithin_19
  · show oROK (some .boolean) (some (.int w))
    obtain ⟨r16, hr16, h⟩ := oB1 h
    rw [← Option.some.inj h]
    exact (E_X9_isIn (G := G) (m := m) hr16).2
set_option maxRecDepth 100000 in
set_option maxHeartbeats 4000000 in
theorem E_X9_split_J104 {G : oG} {m : oM} {x1 : Int32} {x2 : Int32} {x3 : Int32} {x4 : Int32} {x5 : Int32} {x6 : Int32} {t0 : Int32} {r : Option Value} {m' : oM} {q' : (Int32 × Int32 × Int32) ⊕ (Int32 × Int32)} (h : F_X9_split_J104 m x1 x2 x3 x4 x5 x6 t0 = some q') (hc : ∀ s' : Int32 × Int32 × Int32, q' = .inl s' → oRun G M_X9_split 42 [(0, .ref 51), (1, .int x1), (2, .int x2), (3, .int x3), (4, .int s'.1), (5, .int s'.2.1), (6, .int s'.2.2)] [] m r m') (hx : ∀ b' : Int32 × Int32, q' = .inr b' → oRun G M_X9_split 150 [(3, .int x3), (4, .int b'.1), (5, .int b'.2)] [] m r m') : oRun G M_X9_split 104 [(0, .ref 51), (1, .int x1), (2, .int x2), (3, .int x3), (4, .int x4), (5, .int x5), (6, .int x6)] [.int t0] m r m' := by
  unfold F_X9_split_J104 at h
  refine oRun.istore 106 dX9_split_104 (Nat.le_of_ble_eq_true rfl) rfl rfl ?_
  refine oRun.iload 108 dX9_split_106 0 rfl rfl ?_
  by_cases c108 : t0 = 0
  · replace h := oIp c108 h
    refine oRun.if_ne_f 111 dX9_split_108 rfl c108 rfl ?_
    refine oRun.goto 144 dX9_split_111 rfl ?_
    refine oRun.iinc 147 dX9_split_144 7 rfl (oAddC oc_i1) (Nat.le_of_ble_eq_true rfl) rfl rfl ?_
    refine oRun.goto 42 dX9_split_147 rfl ?_
    cases h
    refine oRun.sub [2, 3, 4, 5, 6, 7, 0] rfl ?_
    exact hc _ rfl
  · replace h := oIn c108 h
    refine oRun.if_ne_t 114 dX9_split_108 c108 rfl ?_
    refine oRun.iload 116 dX9_split_114 5 rfl rfl ?_
    refine oRun.iload_n 117 dX9_split_116 4 rfl rfl rfl ?_
    by_cases c117 : x4 = x3
    · replace h := oIp c117 h
      refine oRun.icmp_ne_f 120 dX9_split_117 rfl c117 rfl ?_
      refine oRun.iload_n 121 dX9_split_120 3 rfl rfl rfl ?_
      refine oRun.iconst 122 dX9_split_121 oc_i1 rfl ?_
      by_cases c122 : x2 = 1
      · replace h := oIp c122 h
        refine oRun.icmp_ne_f 125 dX9_split_122 rfl c122 rfl ?_
        refine oRun.iload_n 126 dX9_split_125 2 rfl rfl rfl ?_
        refine oRun.goto 139 dX9_split_126 rfl ?_
        refine oRun.istore 141 dX9_split_139 (Nat.le_of_ble_eq_true rfl) rfl rfl ?_
        refine oRun.iinc 144 dX9_split_141 6 rfl (oAddC oc_i1) (Nat.le_of_ble_eq_true rfl) rfl rfl ?_
        refine oRun.iinc 147 dX9_split_144 7 rfl (oAddC oc_i1) (Nat.le_of_ble_eq_true rfl) rfl rfl ?_
        refine oRun.goto 42 dX9_split_147 rfl ?_
        cases h
        refine oRun.sub [4, 5, 6, 7, 1, 2, 0] rfl ?_
        exact hc _ rfl
      · replace h := oIn c122 h
        refine oRun.icmp_ne_t 129 dX9_split_122 c122 rfl ?_
        refine oRun.bipush 131 dX9_split_129 oc_b100 rfl ?_
        refine oRun.iload 133 dX9_split_131 7 rfl rfl ?_
        refine oRun.imul 134 dX9_split_133 rfl ?_
        refine oRun.iload_n 135 dX9_split_134 2 rfl rfl rfl ?_
        refine oRun.iload 137 dX9_split_135 7 rfl rfl ?_
        obtain ⟨v137, hv137, h⟩ := oB1 h
        obtain ⟨hz137, hv137⟩ := oDz hv137
        refine oRun.idiv 138 dX9_split_137 hz137 rfl ?_
        refine oRun.nameI hv137 ?_
        refine oRun.iadd 139 dX9_split_138 rfl ?_
        obtain ⟨x5_139, hx5_139, h⟩ := oB1 h
        refine oRun.nameI hx5_139 ?_
        refine oRun.istore 141 dX9_split_139 (Nat.le_of_ble_eq_true rfl) rfl rfl ?_
        refine oRun.iinc 144 dX9_split_141 6 rfl (oAddC oc_i1) (Nat.le_of_ble_eq_true rfl) rfl rfl ?_
        refine oRun.iinc 147 dX9_split_144 7 rfl (oAddC oc_i1) (Nat.le_of_ble_eq_true rfl) rfl rfl ?_
        refine oRun.goto 42 dX9_split_147 rfl ?_
        cases h
        refine oRun.sub [4, 5, 6, 7, 1, 2, 0] rfl ?_
        exact hc _ rfl
    · replace h := oIn c117 h
      refine oRun.icmp_ne_t 141 dX9_split_117 c117 rfl ?_
      refine oRun.iinc 144 dX9_split_141 5 rfl (oAddC oc_i1) (Nat.le_of_ble_eq_true rfl) rfl rfl ?_
      refine oRun.iinc 147 dX9_split_144 7 rfl (oAddC oc_i1) (Nat.le_of_ble_eq_true rfl) rfl rfl ?_
      refine oRun.goto 42 dX9_split_147 rfl ?_
      cases h
      refine oRun.sub [3, 4, 5, 6, 1, 7, 0] rfl ?_
      exact hc _ rfl
set_option maxRecDepth 100000 in
set_option maxHeartbeats 4000000 in
theorem E_X9_split_J103 {G : oG} {m : oM} {x1 : Int32} {x2 : Int32} {x3 : Int32} {x4 : Int32} {x5 : Int32} {x6 : Int32} {r : Option Value} {m' : oM} {q' : (Int32 × Int32 × Int32) ⊕ (Int32 × Int32)} (h : F_X9_split_J103 m x1 x2 x3 x4 x5 x6 = some q') (hc : ∀ s' : Int32 × Int32 × Int32, q' = .inl s' → oRun G M_X9_split 42 [(0, .ref 51), (1, .int x1), (2, .int x2), (3, .int x3), (4, .int s'.1), (5, .int s'.2.1), (6, .int s'.2.2)] [] m r m') (hx : ∀ b' : Int32 × Int32, q' = .inr b' → oRun G M_X9_split 150 [(3, .int x3), (4, .int b'.1), (5, .int b'.2)] [] m r m') : oRun G M_X9_split 103 [(0, .ref 51), (1, .int x1), (2, .int x2), (3, .int x3), (4, .int x4), (5, .int x5), (6, .int x6)] [] m r m' := by
  unfold F_X9_split_J103 at h
  refine oRun.iconst 104 dX9_split_103 oc_i0 rfl ?_
  refine oRun.sub [0, 1, 2, 3, 4, 5, 6] rfl ?_
  exact E_X9_split_J104 h hc hx
set_option maxRecDepth 100000 in
set_option maxHeartbeats 4000000 in
theorem E_X9_split_L42 {G : oG} {m : oM} {x1 : Int32} {x2 : Int32} {x3 : Int32} {r : Option Value} {m' : oM} : ∀ (n : Nat) (x4 : Int32) (x5 : Int32) (x6 : Int32) (b : Int32 × Int32), oLoop (fun s : Int32 × Int32 × Int32 => F_X9_split_L42 m x1 x2 x3 s.1 s.2.1 s.2.2) n (x4, x5, x6) = some b → oRun G M_X9_split 150 [(3, .int x3), (4, .int b.1), (5, .int b.2)] [] m r m' → oRun G M_X9_split 42 [(0, .ref 51), (1, .int x1), (2, .int x2), (3, .int x3), (4, .int x4), (5, .int x5), (6, .int x6)] [] m r m' := by
  intro n
  induction n with
  | zero => intro x4 x5 x6 b h _; exact (oLoop_zero h).elim
  | succ n ih =>
    intro x4 x5 x6 b h he
    obtain ⟨q', hq', h⟩ := oLoop_succ h
    have hc : ∀ s' : Int32 × Int32 × Int32, q' = .inl s' → oRun G M_X9_split 42 [(0, .ref 51), (1, .int x1), (2, .int x2), (3, .int x3), (4, .int s'.1), (5, .int s'.2.1), (6, .int s'.2.2)] [] m r m' := by
      rintro s' rfl
      exact ih (s'.1) (s'.2.1) (s'.2.2) b h he
    have hx : ∀ b' : Int32 × Int32, q' = .inr b' → oRun G M_X9_split 150 [(3, .int x3), (4, .int b'.1), (5, .int b'.2)] [] m r m' := by
      rintro b' rfl
      have h : b' = b := h
      rw [h]
      exact he
    clear h he ih
    have h := hq'
    clear hq'
    replace h : F_X9_split_L42 m x1 x2 x3 x4 x5 x6 = some q' := h
    unfold F_X9_split_L42 at h
    refine oRun.iload 44 dX9_split_42 6 rfl rfl ?_
    refine oRun.aload_n 45 dX9_split_44 0 rfl rfl (Nat.le_of_ble_eq_true rfl) rfl ?_
    refine oRun.getR 48 dX9_split_45 fd_RX9_11 rfl rfl (Nat.le_of_ble_eq_true rfl) rfl ?_
    refine oRun.iconst 49 dX9_split_48 oc_i2 rfl ?_
    refine oRun.iaload (x := m.1 52 2) 50 dX9_split_49 (Or.inr ⟨_, rfl⟩) (oAL_lit (i := 2) rfl) rfl ?_
    by_cases c50 : (m.1 52 2) < x6
    · replace h := oIp c50 h
      refine oRun.icmp_gt_t 150 dX9_split_50 c50 rfl ?_
      cases h
      refine oRun.sub [3, 4, 5] rfl ?_
      exact hx _ rfl
    · replace h := oIn c50 h
      refine oRun.icmp_gt_f 53 dX9_split_50 rfl c50 rfl ?_
      refine oRun.iload_n 54 dX9_split_53 2 rfl rfl rfl ?_
      refine oRun.iconst 55 dX9_split_54 oc_i1 rfl ?_
      by_cases c55 : x2 = 1
      · replace h := oIp c55 h
        refine oRun.icmp_ne_f 58 dX9_split_55 rfl c55 rfl ?_
        refine oRun.iload 60 dX9_split_58 6 rfl rfl ?_
        refine oRun.iload_n 61 dX9_split_60 1 rfl rfl rfl ?_
        by_cases c61 : x6 = x1
        · replace h := oIp c61 h
          refine oRun.icmp_ne_f 64 dX9_split_61 rfl c61 rfl ?_
          refine oRun.iconst 65 dX9_split_64 oc_i1 rfl ?_
          refine oRun.goto 104 dX9_split_65 rfl ?_
          refine oRun.sub [0, 1, 2, 3, 4, 5, 6] rfl ?_
          exact E_X9_split_J104 h hc hx
        · replace h := oIn c61 h
          refine oRun.icmp_ne_t 68 dX9_split_61 c61 rfl ?_
          refine oRun.iconst 69 dX9_split_68 oc_i0 rfl ?_
          refine oRun.goto 104 dX9_split_69 rfl ?_
          refine oRun.sub [0, 1, 2, 3, 4, 5, 6] rfl ?_
          exact E_X9_split_J104 h hc hx
      · replace h := oIn c55 h
        refine oRun.icmp_ne_t 72 dX9_split_55 c55 rfl ?_
        refine oRun.iload_n 73 dX9_split_72 1 rfl rfl rfl ?_
        refine oRun.iload 75 dX9_split_73 6 rfl rfl ?_
        obtain ⟨v75, hv75, h⟩ := oB1 h
        obtain ⟨hz75, hv75⟩ := oDz hv75
        refine oRun.irem 76 dX9_split_75 hz75 rfl ?_
        refine oRun.nameI hv75 ?_
        by_cases c76 : v75 = 0
        · replace h := oIp c76 h
          refine oRun.if_ne_f 79 dX9_split_76 rfl c76 rfl ?_
          refine oRun.iload_n 80 dX9_split_79 1 rfl rfl rfl ?_
          refine oRun.iload 82 dX9_split_80 6 rfl rfl ?_
          obtain ⟨v82, hv82, h⟩ := oB1 h
          obtain ⟨hz82, hv82⟩ := oDz hv82
          refine oRun.idiv 83 dX9_split_82 hz82 rfl ?_
          refine oRun.nameI hv82 ?_
          refine oRun.iload 85 dX9_split_83 6 rfl rfl ?_
          by_cases c85 : v82 < x6
          · replace h := oIp c85 h
            refine oRun.icmp_lt_t 103 dX9_split_85 c85 rfl ?_
            refine oRun.sub [0, 1, 2, 3, 4, 5, 6] rfl ?_
            exact E_X9_split_J103 h hc hx
          · replace h := oIn c85 h
            refine oRun.icmp_lt_f 88 dX9_split_85 rfl c85 rfl ?_
            refine oRun.aload_n 89 dX9_split_88 0 rfl rfl (Nat.le_of_ble_eq_true rfl) rfl ?_
            refine oRun.iload_n 90 dX9_split_89 1 rfl rfl rfl ?_
            refine oRun.iload 92 dX9_split_90 6 rfl rfl ?_
            obtain ⟨v92, hv92, h⟩ := oB1 h
            obtain ⟨hz92, hv92⟩ := oDz hv92
            refine oRun.idiv 93 dX9_split_92 hz92 rfl ?_
            refine oRun.nameI hv92 ?_
            obtain ⟨r93, hr93, h⟩ := oB1 h
            refine oRun.callV (as := [.int v92]) 96 dX9_split_93 lk_RX9_81 (oFit_i (Nat.le_of_ble_eq_true rfl) (Nat.le_of_ble_eq_true rfl)) rfl rfl rfl rfl (Nat.le_of_ble_eq_true rfl) (Nat.le_of_ble_eq_true rfl) rfl (E_X9_isWithin hr93) rfl ?_
            show oRun G _ 96 _ [.int r93] _ _ _
            by_cases c96 : r93 = 0
            · replace h := oIp c96 h
              refine oRun.if_eq_t 103 dX9_split_96 c96 rfl ?_
              refine oRun.sub [0, 1, 2, 3, 4, 5, 6] rfl ?_
              exact E_X9_split_J103 h hc hx
            · replace h := oIn c96 h
              refine oRun.if_eq_f 99 dX9_split_96 rfl c96 rfl ?_
              refine oRun.iconst 100 dX9_split_99 oc_i1 rfl ?_
              refine oRun.goto 104 dX9_split_100 rfl ?_
              refine oRun.sub [0, 1, 2, 3, 4, 5, 6] rfl ?_
              exact E_X9_split_J104 h hc hx
        · replace h := oIn c76 h
          refine oRun.if_ne_t 103 dX9_split_76 c76 rfl ?_
          refine oRun.sub [0, 1, 2, 3, 4, 5, 6] rfl ?_
          exact E_X9_split_J103 h hc hx
set_option maxRecDepth 100000 in
set_option maxHeartbeats 4000000 in
theorem E_X9_split {G : oG} {m : oM} {x1 : Int32} {x2 : Int32} {x3 : Int32} {w : Int32} (h : F_X9_split m x1 x2 x3 = some w) : oEv G M_X9_split [.ref 51, .int x1, .int x2, .int x3] m (some (.int w)) m := by
  unfold F_X9_split at h
  refine ⟨?_, ?_⟩
  · show oRun G M_X9_split 0 [(0, .ref 51), (1, .int x1), (2, .int x2), (3, .int x3)] [] m (some (.int w)) m
    refine oRun.iload_n 1 dX9_split_0 1 rfl rfl rfl ?_
    refine oRun.i2l 2 dX9_split_1 rfl ?_
    refine oRun.lconst 3 dX9_split_2 oc_l1 rfl ?_
    refine oRun.ldc2 6 dX9_split_3 wd_4_164 rfl ?_
    obtain ⟨r6, hr6, h⟩ := oB1 h
    refine oRun.callS (as := [.long x1.toInt64, .long 1, .long 9999]) 9 dX9_split_6 lk_RX9_44 (oFit_i (Nat.le_of_ble_eq_true rfl) (Nat.le_of_ble_eq_true rfl)) rfl (Nat.le_of_ble_eq_true rfl) (Nat.le_of_ble_eq_true rfl) rfl (E_X9_isIn hr6) rfl ?_
    show oRun G _ 9 _ [.int r6] _ _ _
    by_cases c9 : r6 = 0
    · replace h := oIp c9 h
      refine oRun.if_eq_t 24 dX9_split_9 c9 rfl ?_
      refine oRun.bipush 26 dX9_split_24 oc_bm2 rfl ?_
      rw [← Option.some.inj h]
      exact oRun.ret (r := some (.int (-2))) dX9_split_26
    · replace h := oIn c9 h
      refine oRun.if_eq_f 12 dX9_split_9 rfl c9 rfl ?_
      refine oRun.iload_n 13 dX9_split_12 2 rfl rfl rfl ?_
      refine oRun.i2l 14 dX9_split_13 rfl ?_
      refine oRun.lconst 15 dX9_split_14 oc_l1 rfl ?_
      refine oRun.ldc2 18 dX9_split_15 wd_4_216 rfl ?_
      obtain ⟨r18, hr18, h⟩ := oB1 h
      refine oRun.callS (as := [.long x2.toInt64, .long 1, .long 2]) 21 dX9_split_18 lk_RX9_44 (oFit_i (Nat.le_of_ble_eq_true rfl) (Nat.le_of_ble_eq_true rfl)) rfl (Nat.le_of_ble_eq_true rfl) (Nat.le_of_ble_eq_true rfl) rfl (E_X9_isIn hr18) rfl ?_
      show oRun G _ 21 _ [.int r18] _ _ _
      by_cases c21 : r18 = 0
      · replace h := oIp c21 h
        refine oRun.if_ne_f 24 dX9_split_21 rfl c21 rfl ?_
        refine oRun.bipush 26 dX9_split_24 oc_bm2 rfl ?_
        rw [← Option.some.inj h]
        exact oRun.ret (r := some (.int (-2))) dX9_split_26
      · replace h := oIn c21 h
        refine oRun.if_ne_t 27 dX9_split_21 c21 rfl ?_
        refine oRun.iconst 28 dX9_split_27 oc_i0 rfl ?_
        refine oRun.istore 30 dX9_split_28 (Nat.le_of_ble_eq_true rfl) rfl rfl ?_
        refine oRun.bipush 32 dX9_split_30 oc_bm5 rfl ?_
        refine oRun.istore 34 dX9_split_32 (Nat.le_of_ble_eq_true rfl) rfl rfl ?_
        refine oRun.aload_n 35 dX9_split_34 2 rfl rfl (Nat.le_of_ble_eq_true rfl) rfl ?_
        refine oRun.getR 38 dX9_split_35 fd_RX9_11 rfl rfl (Nat.le_of_ble_eq_true rfl) rfl ?_
        refine oRun.iconst 39 dX9_split_38 oc_i1 rfl ?_
        refine oRun.iaload (x := m.1 52 1) 40 dX9_split_39 (Or.inr ⟨_, rfl⟩) (oAL_lit (i := 1) rfl) rfl ?_
        obtain ⟨x6_40, hx6_40, h⟩ := oB1 h
        refine oRun.nameI hx6_40 ?_
        refine oRun.istore 42 dX9_split_40 (Nat.le_of_ble_eq_true rfl) rfl rfl ?_
        obtain ⟨b42, hb42, h⟩ := oB1 h
        refine oRun.sub [3, 4, 5, 6, 2, 1, 0] rfl ?_
        refine E_X9_split_L42 _ _ _ _ _ hb42 ?_
        refine oRun.iload_n 151 dX9_split_150 0 rfl rfl rfl ?_
        refine oRun.iconst 152 dX9_split_151 oc_im1 rfl ?_
        by_cases c152 : x3 = (-1)
        · replace h := oIp c152 h
          refine oRun.icmp_ne_f 155 dX9_split_152 rfl c152 rfl ?_
          refine oRun.iload 157 dX9_split_155 1 rfl rfl ?_
          refine oRun.goto 162 dX9_split_157 rfl ?_
          rw [← Option.some.inj h]
          exact oRun.ret (r := some (.int b42.1)) dX9_split_162
        · replace h := oIn c152 h
          refine oRun.icmp_ne_t 160 dX9_split_152 c152 rfl ?_
          refine oRun.iload 162 dX9_split_160 2 rfl rfl ?_
          rw [← Option.some.inj h]
          exact oRun.ret (r := some (.int b42.2)) dX9_split_162
  · exact True.intro
set_option maxRecDepth 100000 in
set_option maxHeartbeats 4000000 in
theorem E_X8_prime_L26 {G : oG} {m : oM} {x2 : Int32} {r : Option Value} {m' : oM} : ∀ (n : Nat) (x3 : Int32) (x4 : Int32) (x5 : Int32) (x6 : Int32) (b : (Int32) ⊕ (Int32)), oLoop (fun s : Int32 × Int32 × Int32 × Int32 => F_X8_prime_L26 x2 s.1 s.2.1 s.2.2.1 s.2.2.2) n (x3, x4, x5, x6) = some b → Sum.elim (fun yy => oRun G M_X8_prime 81 [(2, .int x2), (5, .int yy)] [] m r m') (fun zz => r = (some (.int zz)) ∧ m' = m) b → oRun G M_X8_prime 26 [(2, .int x2), (3, .int x3), (4, .int x4), (5, .int x5), (6, .int x6)] [] m r m' := by
  intro n
  induction n with
  | zero => intro x3 x4 x5 x6 b h _; exact (oLoop_zero h).elim
  | succ n ih =>
    intro x3 x4 x5 x6 b h he
    obtain ⟨q', hq', h⟩ := oLoop_succ h
    have hc : ∀ s' : Int32 × Int32 × Int32 × Int32, q' = .inl s' → oRun G M_X8_prime 26 [(2, .int x2), (3, .int s'.1), (4, .int s'.2.1), (5, .int s'.2.2.1), (6, .int s'.2.2.2)] [] m r m' := by
      rintro s' rfl
      exact ih (s'.1) (s'.2.1) (s'.2.2.1) (s'.2.2.2) b h he
    have hx : ∀ b' : (Int32) ⊕ (Int32), q' = .inr b' → Sum.elim (fun yy => oRun G M_X8_prime 81 [(2, .int x2), (5, .int yy)] [] m r m') (fun zz => r = (some (.int zz)) ∧ m' = m) b' := by
      rintro b' rfl
      have h : b' = b := h
      rw [h]
      exact he
    clear h he ih
    have h := hq'
    clear hq'
    replace h : F_X8_prime_L26 x2 x3 x4 x5 x6 = some q' := h
    unfold F_X8_prime_L26 at h
    refine oRun.iload 28 dX8_prime_26 4 rfl rfl ?_
    refine oRun.sipush 31 dX8_prime_28 oc_s4094 rfl ?_
    by_cases c31 : 4094 ≤ x6
    · replace h := oIp c31 h
      refine oRun.icmp_ge_t 81 dX8_prime_31 c31 rfl ?_
      cases h
      refine oRun.sub [0, 3] rfl ?_
      exact hx _ rfl
    · replace h := oIn c31 h
      refine oRun.icmp_ge_f 34 dX8_prime_31 rfl c31 rfl ?_
      refine oRun.iload_n 35 dX8_prime_34 1 rfl rfl rfl ?_
      refine oRun.iconst 36 dX8_prime_35 oc_i1 rfl ?_
      by_cases c36 : x3 ≤ 1
      · replace h := oIp c36 h
        refine oRun.icmp_le_t 81 dX8_prime_36 c36 rfl ?_
        cases h
        refine oRun.sub [0, 3] rfl ?_
        exact hx _ rfl
      · replace h := oIn c36 h
        refine oRun.icmp_le_f 39 dX8_prime_36 rfl c36 rfl ?_
        refine oRun.iload 41 dX8_prime_39 2 rfl rfl ?_
        refine oRun.iconst 42 dX8_prime_41 oc_i1 rfl ?_
        by_cases c42 : x4 ≤ 1
        · replace h := oIp c42 h
          refine oRun.icmp_le_t 81 dX8_prime_42 c42 rfl ?_
          cases h
          refine oRun.sub [0, 3] rfl ?_
          exact hx _ rfl
        · replace h := oIn c42 h
          refine oRun.icmp_le_f 45 dX8_prime_42 rfl c42 rfl ?_
          refine oRun.iload_n 46 dX8_prime_45 1 rfl rfl rfl ?_
          refine oRun.iload 48 dX8_prime_46 2 rfl rfl ?_
          obtain ⟨v48, hv48, h⟩ := oB1 h
          obtain ⟨hz48, hv48⟩ := oDz hv48
          refine oRun.irem 49 dX8_prime_48 hz48 rfl ?_
          refine oRun.nameI hv48 ?_
          by_cases c49 : v48 = 0
          · replace h := oIp c49 h
            refine oRun.if_eq_t 58 dX8_prime_49 c49 rfl ?_
            refine oRun.iload 60 dX8_prime_58 3 rfl rfl ?_
            refine oRun.iload_n 61 dX8_prime_60 0 rfl rfl rfl ?_
            by_cases c61 : x5 = x2
            · replace h := oIp c61 h
              refine oRun.icmp_ne_f 64 dX8_prime_61 rfl c61 rfl ?_
              refine oRun.iload 66 dX8_prime_64 2 rfl rfl ?_
              cases h
              obtain ⟨hr1, hr2⟩ := hx _ rfl
              rw [hr1, hr2]
              exact oRun.ret (r := some (.int x4)) dX8_prime_66
            · replace h := oIn c61 h
              refine oRun.icmp_ne_t 67 dX8_prime_61 c61 rfl ?_
              refine oRun.iinc 70 dX8_prime_67 3 rfl (oAddC oc_i1) (Nat.le_of_ble_eq_true rfl) rfl rfl ?_
              refine oRun.iload_n 71 dX8_prime_70 2 rfl rfl rfl ?_
              refine oRun.iload 73 dX8_prime_71 3 rfl rfl ?_
              obtain ⟨v73, hv73, h⟩ := oB1 h
              obtain ⟨hz73, hv73⟩ := oDz hv73
              refine oRun.idiv 74 dX8_prime_73 hz73 rfl ?_
              refine oRun.nameI hv73 ?_
              refine oRun.istore_n 75 dX8_prime_74 rfl (Nat.le_of_ble_eq_true rfl) rfl rfl ?_
              refine oRun.iinc 78 dX8_prime_75 4 rfl (oAddC oc_i1) (Nat.le_of_ble_eq_true rfl) rfl rfl ?_
              refine oRun.goto 26 dX8_prime_78 rfl ?_
              cases h
              refine oRun.sub [3, 1, 4, 2, 0] rfl ?_
              exact hc _ rfl
          · replace h := oIn c49 h
            refine oRun.if_eq_f 52 dX8_prime_49 rfl c49 rfl ?_
            refine oRun.iinc 55 dX8_prime_52 2 rfl (oAddC oc_i1) (Nat.le_of_ble_eq_true rfl) rfl rfl ?_
            refine oRun.goto 75 dX8_prime_55 rfl ?_
            refine oRun.iinc 78 dX8_prime_75 4 rfl (oAddC oc_i1) (Nat.le_of_ble_eq_true rfl) rfl rfl ?_
            refine oRun.goto 26 dX8_prime_78 rfl ?_
            cases h
            refine oRun.sub [2, 3, 1, 4, 0] rfl ?_
            exact hc _ rfl
set_option maxRecDepth 100000 in
set_option maxHeartbeats 4000000 in
theorem E_X8_prime {G : oG} {m : oM} {x1 : Int32} {x2 : Int32} {w : Int32} (h : F_X8_prime x1 x2 = some w) : oEv G M_X8_prime [.ref 0, .int x1, .int x2] m (some (.int w)) m := by
  unfold F_X8_prime at h
  refine ⟨?_, ?_⟩
  · show oRun G M_X8_prime 0 [(0, .ref 0), (1, .int x1), (2, .int x2)] [] m (some (.int w)) m
    refine oRun.iload_n 1 dX8_prime_0 1 rfl rfl rfl ?_
    refine oRun.iconst 2 dX8_prime_1 oc_i1 rfl ?_
    by_cases c2 : x1 < 1
    · replace h := oIp c2 h
      refine oRun.icmp_lt_t 12 dX8_prime_2 c2 rfl ?_
      refine oRun.bipush 14 dX8_prime_12 oc_bm2 rfl ?_
      rw [← Option.some.inj h]
      exact oRun.ret (r := some (.int (-2))) dX8_prime_14
    · replace h := oIn c2 h
      refine oRun.icmp_lt_f 5 dX8_prime_2 rfl c2 rfl ?_
      refine oRun.iload_n 6 dX8_prime_5 1 rfl rfl rfl ?_
      refine oRun.sipush 9 dX8_prime_6 oc_s2047 rfl ?_
      by_cases c9 : x1 ≤ 2047
      · replace h := oIp c9 h
        refine oRun.icmp_le_t 15 dX8_prime_9 c9 rfl ?_
        refine oRun.iload_n 16 dX8_prime_15 1 rfl rfl rfl ?_
        refine oRun.istore_n 17 dX8_prime_16 rfl (Nat.le_of_ble_eq_true rfl) rfl rfl ?_
        refine oRun.iconst 18 dX8_prime_17 oc_i2 rfl ?_
        refine oRun.istore 20 dX8_prime_18 (Nat.le_of_ble_eq_true rfl) rfl rfl ?_
        refine oRun.iconst 21 dX8_prime_20 oc_i0 rfl ?_
        refine oRun.istore 23 dX8_prime_21 (Nat.le_of_ble_eq_true rfl) rfl rfl ?_
        refine oRun.iconst 24 dX8_prime_23 oc_i0 rfl ?_
        refine oRun.istore 26 dX8_prime_24 (Nat.le_of_ble_eq_true rfl) rfl rfl ?_
        obtain ⟨b26, hb26, h⟩ := oB1 h
        refine oRun.sub [6, 3, 2, 1, 0] rfl ?_
        refine E_X8_prime_L26 _ _ _ _ _ _ hb26 ?_
        rcases b26 with y26 | z26
        · replace h := oSl h
          show oRun G _ _ _ _ _ _ _
          refine oRun.iload_n 82 dX8_prime_81 0 rfl rfl rfl ?_
          refine oRun.iconst 83 dX8_prime_82 oc_im1 rfl ?_
          by_cases c83 : x2 = (-1)
          · replace h := oIp c83 h
            refine oRun.icmp_ne_f 86 dX8_prime_83 rfl c83 rfl ?_
            refine oRun.iload 88 dX8_prime_86 1 rfl rfl ?_
            refine oRun.goto 93 dX8_prime_88 rfl ?_
            rw [← Option.some.inj h]
            exact oRun.ret (r := some (.int y26)) dX8_prime_93
          · replace h := oIn c83 h
            refine oRun.icmp_ne_t 91 dX8_prime_83 c83 rfl ?_
            refine oRun.bipush 93 dX8_prime_91 oc_bm5 rfl ?_
            rw [← Option.some.inj h]
            exact oRun.ret (r := some (.int (-5))) dX8_prime_93
        · replace h := oSr h
          cases h
          exact ⟨rfl, rfl⟩
      · replace h := oIn c9 h
        refine oRun.icmp_le_f 12 dX8_prime_9 rfl c9 rfl ?_
        refine oRun.bipush 14 dX8_prime_12 oc_bm2 rfl ?_
        rw [← Option.some.inj h]
        exact oRun.ret (r := some (.int (-2))) dX8_prime_14
  · exact True.intro
set_option maxRecDepth 100000 in
set_option maxHeartbeats 4000000 in
theorem E_X9_prime_L23 {G : oG} {m : oM} {x2 : Int32} {r : Option Value} {m' : oM} : ∀ (n : Nat) (x3 : Int32) (x4 : Int32) (x5 : Int32) (b : (Int32) ⊕ (Int32)), oLoop (fun s : Int32 × Int32 × Int32 => F_X9_prime_L23 x2 s.1 s.2.1 s.2.2) n (x3, x4, x5) = some b → Sum.elim (fun yy => oRun G M_X9_prime 61 [(2, .int x2), (4, .int yy)] [] m r m') (fun zz => r = (some (.int zz)) ∧ m' = m) b → oRun G M_X9_prime 23 [(2, .int x2), (3, .int x3), (4, .int x4), (5, .int x5)] [] m r m' := by
  intro n
  induction n with
  | zero => intro x3 x4 x5 b h _; exact (oLoop_zero h).elim
  | succ n ih =>
    intro x3 x4 x5 b h he
    obtain ⟨q', hq', h⟩ := oLoop_succ h
    have hc : ∀ s' : Int32 × Int32 × Int32, q' = .inl s' → oRun G M_X9_prime 23 [(2, .int x2), (3, .int s'.1), (4, .int s'.2.1), (5, .int s'.2.2)] [] m r m' := by
      rintro s' rfl
      exact ih (s'.1) (s'.2.1) (s'.2.2) b h he
    have hx : ∀ b' : (Int32) ⊕ (Int32), q' = .inr b' → Sum.elim (fun yy => oRun G M_X9_prime 61 [(2, .int x2), (4, .int yy)] [] m r m') (fun zz => r = (some (.int zz)) ∧ m' = m) b' := by
      rintro b' rfl
      have h : b' = b := h
      rw [h]
      exact he
    clear h he ih
    have h := hq'
    clear hq'
    replace h : F_X9_prime_L23 x2 x3 x4 x5 = some q' := h
    unfold F_X9_prime_L23 at h
    refine oRun.iload_n 24 dX9_prime_23 1 rfl rfl rfl ?_
    refine oRun.iconst 25 dX9_prime_24 oc_i1 rfl ?_
    by_cases c25 : x3 ≤ 1
    · replace h := oIp c25 h
      refine oRun.icmp_le_t 61 dX9_prime_25 c25 rfl ?_
      cases h
      refine oRun.sub [0, 2] rfl ?_
      exact hx _ rfl
    · replace h := oIn c25 h
      refine oRun.icmp_le_f 28 dX9_prime_25 rfl c25 rfl ?_
      refine oRun.iload_n 29 dX9_prime_28 1 rfl rfl rfl ?_
      refine oRun.iload 31 dX9_prime_29 3 rfl rfl ?_
      obtain ⟨v31, hv31, h⟩ := oB1 h
      obtain ⟨hz31, hv31⟩ := oDz hv31
      refine oRun.irem 32 dX9_prime_31 hz31 rfl ?_
      refine oRun.nameI hv31 ?_
      by_cases c32 : v31 = 0
      · replace h := oIp c32 h
        refine oRun.if_eq_t 41 dX9_prime_32 c32 rfl ?_
        refine oRun.iload 43 dX9_prime_41 2 rfl rfl ?_
        refine oRun.iload_n 44 dX9_prime_43 0 rfl rfl rfl ?_
        by_cases c44 : x4 = x2
        · replace h := oIp c44 h
          refine oRun.icmp_ne_f 47 dX9_prime_44 rfl c44 rfl ?_
          refine oRun.iload 49 dX9_prime_47 3 rfl rfl ?_
          cases h
          obtain ⟨hr1, hr2⟩ := hx _ rfl
          rw [hr1, hr2]
          exact oRun.ret (r := some (.int x5)) dX9_prime_49
        · replace h := oIn c44 h
          refine oRun.icmp_ne_t 50 dX9_prime_44 c44 rfl ?_
          refine oRun.iload_n 51 dX9_prime_50 1 rfl rfl rfl ?_
          refine oRun.iload 53 dX9_prime_51 3 rfl rfl ?_
          obtain ⟨v53, hv53, h⟩ := oB1 h
          obtain ⟨hz53, hv53⟩ := oDz hv53
          refine oRun.idiv 54 dX9_prime_53 hz53 rfl ?_
          refine oRun.nameI hv53 ?_
          refine oRun.istore_n 55 dX9_prime_54 rfl (Nat.le_of_ble_eq_true rfl) rfl rfl ?_
          refine oRun.iinc 58 dX9_prime_55 2 rfl (oAddC oc_i1) (Nat.le_of_ble_eq_true rfl) rfl rfl ?_
          refine oRun.goto 23 dX9_prime_58 rfl ?_
          cases h
          refine oRun.sub [2, 1, 0, 3] rfl ?_
          exact hc _ rfl
      · replace h := oIn c32 h
        refine oRun.if_eq_f 35 dX9_prime_32 rfl c32 rfl ?_
        refine oRun.iinc 38 dX9_prime_35 3 rfl (oAddC oc_i1) (Nat.le_of_ble_eq_true rfl) rfl rfl ?_
        refine oRun.goto 23 dX9_prime_38 rfl ?_
        cases h
        refine oRun.sub [1, 2, 3, 0] rfl ?_
        exact hc _ rfl
set_option maxRecDepth 100000 in
set_option maxHeartbeats 4000000 in
theorem E_X9_prime {G : oG} {m : oM} {x1 : Int32} {x2 : Int32} {w : Int32} (h : F_X9_prime x1 x2 = some w) : oEv G M_X9_prime [.ref 51, .int x1, .int x2] m (some (.int w)) m := by
  unfold F_X9_prime at h
  refine ⟨?_, ?_⟩
  · show oRun G M_X9_prime 0 [(0, .ref 51), (1, .int x1), (2, .int x2)] [] m (some (.int w)) m
    refine oRun.iload_n 1 dX9_prime_0 1 rfl rfl rfl ?_
    refine oRun.i2l 2 dX9_prime_1 rfl ?_
    refine oRun.lconst 3 dX9_prime_2 oc_l1 rfl ?_
    refine oRun.ldc2 6 dX9_prime_3 wd_4_225 rfl ?_
    obtain ⟨r6, hr6, h⟩ := oB1 h
    refine oRun.callS (as := [.long x1.toInt64, .long 1, .long 2047]) 9 dX9_prime_6 lk_RX9_44 (oFit_i (Nat.le_of_ble_eq_true rfl) (Nat.le_of_ble_eq_true rfl)) rfl (Nat.le_of_ble_eq_true rfl) (Nat.le_of_ble_eq_true rfl) rfl (E_X9_isIn hr6) rfl ?_
    show oRun G _ 9 _ [.int r6] _ _ _
    by_cases c9 : r6 = 0
    · replace h := oIp c9 h
      refine oRun.if_ne_f 12 dX9_prime_9 rfl c9 rfl ?_
      refine oRun.bipush 14 dX9_prime_12 oc_bm2 rfl ?_
      rw [← Option.some.inj h]
      exact oRun.ret (r := some (.int (-2))) dX9_prime_14
    · replace h := oIn c9 h
      refine oRun.if_ne_t 15 dX9_prime_9 c9 rfl ?_
      refine oRun.iload_n 16 dX9_prime_15 1 rfl rfl rfl ?_
      refine oRun.istore_n 17 dX9_prime_16 rfl (Nat.le_of_ble_eq_true rfl) rfl rfl ?_
      refine oRun.iconst 18 dX9_prime_17 oc_i0 rfl ?_
      refine oRun.istore 20 dX9_prime_18 (Nat.le_of_ble_eq_true rfl) rfl rfl ?_
      refine oRun.iconst 21 dX9_prime_20 oc_i2 rfl ?_
      refine oRun.istore 23 dX9_prime_21 (Nat.le_of_ble_eq_true rfl) rfl rfl ?_
      obtain ⟨b23, hb23, h⟩ := oB1 h
      refine oRun.sub [5, 2, 1, 0] rfl ?_
      refine E_X9_prime_L23 _ _ _ _ _ hb23 ?_
      rcases b23 with y23 | z23
      · replace h := oSl h
        show oRun G _ _ _ _ _ _ _
        refine oRun.iload_n 62 dX9_prime_61 0 rfl rfl rfl ?_
        refine oRun.iconst 63 dX9_prime_62 oc_im1 rfl ?_
        by_cases c63 : x2 = (-1)
        · replace h := oIp c63 h
          refine oRun.icmp_ne_f 66 dX9_prime_63 rfl c63 rfl ?_
          refine oRun.iload 68 dX9_prime_66 1 rfl rfl ?_
          refine oRun.goto 73 dX9_prime_68 rfl ?_
          rw [← Option.some.inj h]
          exact oRun.ret (r := some (.int y23)) dX9_prime_73
        · replace h := oIn c63 h
          refine oRun.icmp_ne_t 71 dX9_prime_63 c63 rfl ?_
          refine oRun.bipush 73 dX9_prime_71 oc_bm5 rfl ?_
          rw [← Option.some.inj h]
          exact oRun.ret (r := some (.int (-5))) dX9_prime_73
      · replace h := oSr h
        cases h
        exact ⟨rfl, rfl⟩
  · exact True.intro
set_option maxRecDepth 100000 in
set_option maxHeartbeats 4000000 in
theorem E_X8_feed {G : oG} {m : oM} {x1 : Int32} {w : Int32 × oM} (h : F_X8_feed m x1 = some w) : oEv G M_X8_feed [.ref 0, .int x1] m (some (.int w.1)) w.2 := by
  unfold F_X8_feed at h
  refine ⟨?_, ?_⟩
  · show oRun G M_X8_feed 0 [(0, .ref 0), (1, .int x1)] [] m (some (.int w.1)) w.2
    refine oRun.iload_n 1 dX8_feed_0 1 rfl rfl rfl ?_
    refine oRun.iconst 2 dX8_feed_1 oc_i1 rfl ?_
    by_cases c2 : x1 < 1
    · replace h := oIp c2 h
      refine oRun.icmp_lt_t 11 dX8_feed_2 c2 rfl ?_
      refine oRun.bipush 13 dX8_feed_11 oc_bm2 rfl ?_
      rw [← Option.some.inj h]
      exact oRun.ret (r := some (.int (-2))) dX8_feed_13
    · replace h := oIn c2 h
      refine oRun.icmp_lt_f 5 dX8_feed_2 rfl c2 rfl ?_
      refine oRun.iload_n 6 dX8_feed_5 1 rfl rfl rfl ?_
      refine oRun.bipush 8 dX8_feed_6 oc_b127 rfl ?_
      by_cases c8 : x1 ≤ 127
      · replace h := oIp c8 h
        refine oRun.icmp_le_t 14 dX8_feed_8 c8 rfl ?_
        refine oRun.aload_n 15 dX8_feed_14 0 rfl rfl (Nat.le_of_ble_eq_true rfl) rfl ?_
        refine oRun.getR 18 dX8_feed_15 fd_RX8_31 rfl rfl (Nat.le_of_ble_eq_true rfl) rfl ?_
        refine oRun.getI 21 dX8_feed_18 fd_RX8_118 rfl rfl rfl ?_
        refine oRun.bipush 23 dX8_feed_21 oc_b60 rfl ?_
        by_cases c23 : (m.1 43 0) < 60
        · replace h := oIp c23 h
          refine oRun.icmp_lt_t 29 dX8_feed_23 c23 rfl ?_
          refine oRun.aload_n 30 dX8_feed_29 0 rfl rfl (Nat.le_of_ble_eq_true rfl) rfl ?_
          refine oRun.getR 33 dX8_feed_30 fd_RX8_31 rfl rfl (Nat.le_of_ble_eq_true rfl) rfl ?_
          refine oRun.getR 36 dX8_feed_33 fd_RX8_121 rfl rfl (Nat.le_of_ble_eq_true rfl) rfl ?_
          refine oRun.aload_n 37 dX8_feed_36 0 rfl rfl (Nat.le_of_ble_eq_true rfl) rfl ?_
          refine oRun.getR 40 dX8_feed_37 fd_RX8_31 rfl rfl (Nat.le_of_ble_eq_true rfl) rfl ?_
          refine oRun.getI 43 dX8_feed_40 fd_RX8_118 rfl rfl rfl ?_
          refine oRun.iload_n 44 dX8_feed_43 1 rfl rfl rfl ?_
          obtain ⟨r44, hr44, h⟩ := oB1 h
          refine oRun.callS (as := [.ref 44, .int (m.1 43 0), .int x1]) 47 dX8_feed_44 lk_RX8_124 (oFit_i (Nat.le_of_ble_eq_true rfl) (Nat.le_of_ble_eq_true rfl)) rfl (Nat.le_of_ble_eq_true rfl) (Nat.le_of_ble_eq_true rfl) rfl (E_X8_set (oWA_i rfl) hr44) rfl ?_
          show oRun G _ 47 _ [] _ _ _
          refine oRun.aload_n 48 dX8_feed_47 0 rfl rfl (Nat.le_of_ble_eq_true rfl) rfl ?_
          refine oRun.getR 51 dX8_feed_48 fd_RX8_31 rfl rfl (Nat.le_of_ble_eq_true rfl) rfl ?_
          refine oRun.dup 52 dX8_feed_51 rfl rfl ?_
          refine oRun.getI 55 dX8_feed_52 fd_RX8_118 rfl rfl rfl ?_
          refine oRun.iconst 56 dX8_feed_55 oc_i1 rfl ?_
          refine oRun.iadd 57 dX8_feed_56 rfl ?_
          obtain ⟨m57, hm57, h⟩ := oB1 h
          refine oRun.putI 60 dX8_feed_57 fp_RX8_118 rfl rfl rfl ?_
          refine oRun.nameM hm57 ?_
          refine oRun.aload_n 61 dX8_feed_60 0 rfl rfl (Nat.le_of_ble_eq_true rfl) rfl ?_
          refine oRun.getR 64 dX8_feed_61 fd_RX8_31 rfl rfl (Nat.le_of_ble_eq_true rfl) rfl ?_
          refine oRun.getI 67 dX8_feed_64 fd_RX8_118 rfl rfl rfl ?_
          rw [← Option.some.inj h]
          exact oRun.ret (r := some (.int (m57.1 43 0))) dX8_feed_67
        · replace h := oIn c23 h
          refine oRun.icmp_lt_f 26 dX8_feed_23 rfl c23 rfl ?_
          refine oRun.bipush 28 dX8_feed_26 oc_bm4 rfl ?_
          rw [← Option.some.inj h]
          exact oRun.ret (r := some (.int (-4))) dX8_feed_28
      · replace h := oIn c8 h
        refine oRun.icmp_le_f 11 dX8_feed_8 rfl c8 rfl ?_
        refine oRun.bipush 13 dX8_feed_11 oc_bm2 rfl ?_
        rw [← Option.some.inj h]
        exact oRun.ret (r := some (.int (-2))) dX8_feed_13
  · exact True.intro
set_option maxRecDepth 100000 in
set_option maxHeartbeats 4000000 in
theorem E_X9_feed {G : oG} {m : oM} {x1 : Int32} {w : Int32 × oM} (h : F_X9_feed m x1 = some w) : oEv G M_X9_feed [.ref 51, .int x1] m (some (.int w.1)) w.2 := by
  unfold F_X9_feed at h
  refine ⟨?_, ?_⟩
  · show oRun G M_X9_feed 0 [(0, .ref 51), (1, .int x1)] [] m (some (.int w.1)) w.2
    refine oRun.iload_n 1 dX9_feed_0 1 rfl rfl rfl ?_
    refine oRun.i2l 2 dX9_feed_1 rfl ?_
    refine oRun.lconst 3 dX9_feed_2 oc_l1 rfl ?_
    refine oRun.ldc2 6 dX9_feed_3 wd_4_230 rfl ?_
    obtain ⟨r6, hr6, h⟩ := oB1 h
    refine oRun.callS (as := [.long x1.toInt64, .long 1, .long 127]) 9 dX9_feed_6 lk_RX9_44 (oFit_i (Nat.le_of_ble_eq_true rfl) (Nat.le_of_ble_eq_true rfl)) rfl (Nat.le_of_ble_eq_true rfl) (Nat.le_of_ble_eq_true rfl) rfl (E_X9_isIn hr6) rfl ?_
    show oRun G _ 9 _ [.int r6] _ _ _
    by_cases c9 : r6 = 0
    · replace h := oIp c9 h
      refine oRun.if_ne_f 12 dX9_feed_9 rfl c9 rfl ?_
      refine oRun.bipush 14 dX9_feed_12 oc_bm2 rfl ?_
      rw [← Option.some.inj h]
      exact oRun.ret (r := some (.int (-2))) dX9_feed_14
    · replace h := oIn c9 h
      refine oRun.if_ne_t 15 dX9_feed_9 c9 rfl ?_
      refine oRun.aload_n 16 dX9_feed_15 0 rfl rfl (Nat.le_of_ble_eq_true rfl) rfl ?_
      refine oRun.getI 19 dX9_feed_16 fd_RX9_92 rfl rfl rfl ?_
      refine oRun.bipush 21 dX9_feed_19 oc_b60 rfl ?_
      by_cases c21 : (m.1 51 8) = 60
      · replace h := oIp c21 h
        refine oRun.icmp_ne_f 24 dX9_feed_21 rfl c21 rfl ?_
        refine oRun.bipush 26 dX9_feed_24 oc_bm4 rfl ?_
        rw [← Option.some.inj h]
        exact oRun.ret (r := some (.int (-4))) dX9_feed_26
      · replace h := oIn c21 h
        refine oRun.icmp_ne_t 27 dX9_feed_21 c21 rfl ?_
        refine oRun.aload_n 28 dX9_feed_27 0 rfl rfl (Nat.le_of_ble_eq_true rfl) rfl ?_
        refine oRun.getR 31 dX9_feed_28 fd_RX9_21 rfl rfl (Nat.le_of_ble_eq_true rfl) rfl ?_
        refine oRun.aload_n 32 dX9_feed_31 0 rfl rfl (Nat.le_of_ble_eq_true rfl) rfl ?_
        refine oRun.getI 35 dX9_feed_32 fd_RX9_92 rfl rfl rfl ?_
        refine oRun.iload_n 36 dX9_feed_35 1 rfl rfl rfl ?_
        obtain ⟨m36, hm36, h⟩ := oB1 h
        refine oRun.iastore 37 dX9_feed_36 rfl hm36 rfl ?_
        refine oRun.aload_n 38 dX9_feed_37 0 rfl rfl (Nat.le_of_ble_eq_true rfl) rfl ?_
        refine oRun.dup 39 dX9_feed_38 rfl rfl ?_
        refine oRun.getI 42 dX9_feed_39 fd_RX9_92 rfl rfl rfl ?_
        refine oRun.iconst 43 dX9_feed_42 oc_i1 rfl ?_
        refine oRun.iadd 44 dX9_feed_43 rfl ?_
        obtain ⟨m44, hm44, h⟩ := oB1 h
        refine oRun.putI 47 dX9_feed_44 fp_RX9_92 rfl rfl rfl ?_
        refine oRun.nameM hm44 ?_
        refine oRun.aload_n 48 dX9_feed_47 0 rfl rfl (Nat.le_of_ble_eq_true rfl) rfl ?_
        refine oRun.getI 51 dX9_feed_48 fd_RX9_92 rfl rfl rfl ?_
        rw [← Option.some.inj h]
        exact oRun.ret (r := some (.int (m44.1 51 8))) dX9_feed_51
  · exact True.intro
set_option maxRecDepth 100000 in
set_option maxHeartbeats 4000000 in
theorem E_X8_kindOf_L2 {G : oG} {m : oM} {x0 : Int32} {r : Option Value} {m' : oM} : ∀ (n : Nat) (x1 : Int32) (b : (Unit) ⊕ (Int32)), oLoop (fun s : Int32 => F_X8_kindOf_L2 x0 s) n x1 = some b → Sum.elim (fun yy => oRun G M_X8_kindOf 27 [] [] m r m') (fun zz => r = (some (.int zz)) ∧ m' = m) b → oRun G M_X8_kindOf 2 [(0, .int x0), (1, .int x1)] [] m r m' := by
  intro n
  induction n with
  | zero => intro x1 b h _; exact (oLoop_zero h).elim
  | succ n ih =>
    intro x1 b h he
    obtain ⟨q', hq', h⟩ := oLoop_succ h
    have hc : ∀ s' : Int32, q' = .inl s' → oRun G M_X8_kindOf 2 [(0, .int x0), (1, .int s')] [] m r m' := by
      rintro s' rfl
      exact ih (s') b h he
    have hx : ∀ b' : (Unit) ⊕ (Int32), q' = .inr b' → Sum.elim (fun yy => oRun G M_X8_kindOf 27 [] [] m r m') (fun zz => r = (some (.int zz)) ∧ m' = m) b' := by
      rintro b' rfl
      have h : b' = b := h
      rw [h]
      exact he
    clear h he ih
    have h := hq'
    clear hq'
    replace h : F_X8_kindOf_L2 x0 x1 = some q' := h
    unfold F_X8_kindOf_L2 at h
    refine oRun.iload_n 3 dX8_kindOf_2 1 rfl rfl rfl ?_
    refine oRun.gets61 6 dX8_kindOf_3 wd_2_97 rfl ?_
    refine oRun.clen 7 dX8_kindOf_6 rfl ?_
    by_cases c7 : 6 ≤ x1
    · replace h := oIp c7 h
      refine oRun.icmp_ge_t 27 dX8_kindOf_7 c7 rfl ?_
      cases h
      refine oRun.sub [] rfl ?_
      exact hx _ rfl
    · replace h := oIn c7 h
      refine oRun.icmp_ge_f 10 dX8_kindOf_7 rfl c7 rfl ?_
      refine oRun.gets61 13 dX8_kindOf_10 wd_2_97 rfl ?_
      refine oRun.iload_n 14 dX8_kindOf_13 1 rfl rfl rfl ?_
      obtain ⟨v14, hv14, h⟩ := oB1 h
      obtain ⟨hz14, hv14⟩ := oXA_ok hv14
      refine oRun.caload 15 dX8_kindOf_14 hz14 rfl ?_
      refine oRun.nameI hv14 ?_
      refine oRun.iload_n 16 dX8_kindOf_15 0 rfl rfl rfl ?_
      by_cases c16 : v14 = x0
      · replace h := oIp c16 h
        refine oRun.icmp_ne_f 19 dX8_kindOf_16 rfl c16 rfl ?_
        refine oRun.iload_n 20 dX8_kindOf_19 1 rfl rfl rfl ?_
        cases h
        obtain ⟨hr1, hr2⟩ := hx _ rfl
        rw [hr1, hr2]
        exact oRun.ret (r := some (.int x1)) dX8_kindOf_20
      · replace h := oIn c16 h
        refine oRun.icmp_ne_t 21 dX8_kindOf_16 c16 rfl ?_
        refine oRun.iinc 24 dX8_kindOf_21 1 rfl (oAddC oc_i1) (Nat.le_of_ble_eq_true rfl) rfl rfl ?_
        refine oRun.goto 2 dX8_kindOf_24 rfl ?_
        cases h
        refine oRun.sub [1, 0] rfl ?_
        exact hc _ rfl
set_option maxRecDepth 100000 in
set_option maxHeartbeats 4000000 in
theorem E_X8_kindOf {G : oG} {m : oM} {x0 : Int32} {w : Int32} (h : F_X8_kindOf x0 = some w) : oEv G M_X8_kindOf [.int x0] m (some (.int w)) m := by
  unfold F_X8_kindOf at h
  refine ⟨?_, ?_⟩
  · show oRun G M_X8_kindOf 0 [(0, .int x0)] [] m (some (.int w)) m
    refine oRun.iconst 1 dX8_kindOf_0 oc_i0 rfl ?_
    refine oRun.istore_n 2 dX8_kindOf_1 rfl (Nat.le_of_ble_eq_true rfl) rfl rfl ?_
    obtain ⟨b2, hb2, h⟩ := oB1 h
    refine oRun.sub [1, 0] rfl ?_
    refine E_X8_kindOf_L2 _ _ _ hb2 ?_
    rcases b2 with y2 | z2
    · replace h := oSl h
      show oRun G _ _ _ _ _ _ _
      refine oRun.iconst 28 dX8_kindOf_27 oc_im1 rfl ?_
      rw [← Option.some.inj h]
      exact oRun.ret (r := some (.int (-1))) dX8_kindOf_28
    · replace h := oSr h
      cases h
      exact ⟨rfl, rfl⟩
  · exact True.intro
set_option maxRecDepth 100000 in
set_option maxHeartbeats 4000000 in
theorem E_X6_fitsClause {G : oG} {m : oM} {x0 : Int32} {x1 : Int32} {w : Int32} (h : F_X6_fitsClause x0 x1 = some w) : oEv G M_X6_fitsClause [.int x0, .int x1] m (some (.int w)) m := by
  unfold F_X6_fitsClause at h
  refine ⟨?_, ?_⟩
  · show oRun G M_X6_fitsClause 0 [(0, .int x0), (1, .int x1)] [] m (some (.int w)) m
    refine oRun.iload_n 1 dX6_fitsClause_0 0 rfl rfl rfl ?_
    by_cases c1_0 : x0 = 0
    · replace h := oIp c1_0 h
      refine oRun.tsin 52 dX6_fitsClause_1 (q := 0) (by rw [c1_0]; rfl) (by decide) (by decide) rfl rfl ?_
      refine oRun.iload_n 53 dX6_fitsClause_52 1 rfl rfl rfl ?_
      obtain ⟨r53, hr53, h⟩ := oB1 h
      refine oRun.callN (as := [.int x1]) 56 dX6_fitsClause_53 lk_RX6_27 (oFit_i (Nat.le_of_ble_eq_true rfl) (Nat.le_of_ble_eq_true rfl)) rfl (Nat.le_of_ble_eq_true rfl) (Nat.le_of_ble_eq_true rfl) rfl (E_X8_kindOf hr53) rfl ?_
      show oRun G _ 56 _ [.int r53] _ _ _
      refine oRun.iconst 57 dX6_fitsClause_56 oc_im1 rfl ?_
      by_cases c57 : r53 = (-1)
      · replace h := oIp c57 h
        refine oRun.icmp_eq_t 64 dX6_fitsClause_57 c57 rfl ?_
        refine oRun.iconst 65 dX6_fitsClause_64 oc_i0 rfl ?_
        rw [← Option.some.inj h]
        exact oRun.ret (r := some (.int 0)) dX6_fitsClause_65
      · replace h := oIn c57 h
        refine oRun.icmp_eq_f 60 dX6_fitsClause_57 rfl c57 rfl ?_
        refine oRun.iconst 61 dX6_fitsClause_60 oc_i1 rfl ?_
        refine oRun.goto 65 dX6_fitsClause_61 rfl ?_
        rw [← Option.some.inj h]
        exact oRun.ret (r := some (.int 1)) dX6_fitsClause_65
    · replace h := oIn c1_0 h
      by_cases c1_2 : x0 = 2
      · replace h := oIp c1_2 h
        refine oRun.tsin 66 dX6_fitsClause_1 (q := 2) (by rw [c1_2]; rfl) (by decide) (by decide) rfl rfl ?_
        refine oRun.iload_n 67 dX6_fitsClause_66 1 rfl rfl rfl ?_
        refine oRun.bipush 69 dX6_fitsClause_67 oc_b32 rfl ?_
        by_cases c69 : x1 = 32
        · replace h := oIp c69 h
          refine oRun.icmp_ne_f 72 dX6_fitsClause_69 rfl c69 rfl ?_
          refine oRun.iconst 73 dX6_fitsClause_72 oc_i1 rfl ?_
          refine oRun.goto 77 dX6_fitsClause_73 rfl ?_
          rw [← Option.some.inj h]
          exact oRun.ret (r := some (.int 1)) dX6_fitsClause_77
        · replace h := oIn c69 h
          refine oRun.icmp_ne_t 76 dX6_fitsClause_69 c69 rfl ?_
          refine oRun.iconst 77 dX6_fitsClause_76 oc_i0 rfl ?_
          rw [← Option.some.inj h]
          exact oRun.ret (r := some (.int 0)) dX6_fitsClause_77
      · replace h := oIn c1_2 h
        by_cases c1_3 : x0 = 3
        · replace h := oIp c1_3 h
          refine oRun.tsin 78 dX6_fitsClause_1 (q := 3) (by rw [c1_3]; rfl) (by decide) (by decide) rfl rfl ?_
          refine oRun.iload_n 79 dX6_fitsClause_78 1 rfl rfl rfl ?_
          refine oRun.bipush 81 dX6_fitsClause_79 oc_b49 rfl ?_
          by_cases c81 : x1 < 49
          · replace h := oIp c81 h
            refine oRun.icmp_lt_t 94 dX6_fitsClause_81 c81 rfl ?_
            refine oRun.iconst 95 dX6_fitsClause_94 oc_i0 rfl ?_
            rw [← Option.some.inj h]
            exact oRun.ret (r := some (.int 0)) dX6_fitsClause_95
          · replace h := oIn c81 h
            refine oRun.icmp_lt_f 84 dX6_fitsClause_81 rfl c81 rfl ?_
            refine oRun.iload_n 85 dX6_fitsClause_84 1 rfl rfl rfl ?_
            refine oRun.bipush 87 dX6_fitsClause_85 oc_b57 rfl ?_
            by_cases c87 : 57 < x1
            · replace h := oIp c87 h
              refine oRun.icmp_gt_t 94 dX6_fitsClause_87 c87 rfl ?_
              refine oRun.iconst 95 dX6_fitsClause_94 oc_i0 rfl ?_
              rw [← Option.some.inj h]
              exact oRun.ret (r := some (.int 0)) dX6_fitsClause_95
            · replace h := oIn c87 h
              refine oRun.icmp_gt_f 90 dX6_fitsClause_87 rfl c87 rfl ?_
              refine oRun.iconst 91 dX6_fitsClause_90 oc_i1 rfl ?_
              refine oRun.goto 95 dX6_fitsClause_91 rfl ?_
              rw [← Option.some.inj h]
              exact oRun.ret (r := some (.int 1)) dX6_fitsClause_95
        · replace h := oIn c1_3 h
          by_cases c1_5 : x0 = 5
          · replace h := oIp c1_5 h
            refine oRun.tsin 96 dX6_fitsClause_1 (q := 5) (by rw [c1_5]; rfl) (by decide) (by decide) rfl rfl ?_
            refine oRun.iload_n 97 dX6_fitsClause_96 1 rfl rfl rfl ?_
            refine oRun.bipush 99 dX6_fitsClause_97 oc_b47 rfl ?_
            by_cases c99 : x1 = 47
            · replace h := oIp c99 h
              refine oRun.icmp_ne_f 102 dX6_fitsClause_99 rfl c99 rfl ?_
              refine oRun.iconst 103 dX6_fitsClause_102 oc_i1 rfl ?_
              refine oRun.goto 107 dX6_fitsClause_103 rfl ?_
              rw [← Option.some.inj h]
              exact oRun.ret (r := some (.int 1)) dX6_fitsClause_107
            · replace h := oIn c99 h
              refine oRun.icmp_ne_t 106 dX6_fitsClause_99 c99 rfl ?_
              refine oRun.iconst 107 dX6_fitsClause_106 oc_i0 rfl ?_
              rw [← Option.some.inj h]
              exact oRun.ret (r := some (.int 0)) dX6_fitsClause_107
          · replace h := oIn c1_5 h
            by_cases c1_6 : x0 = 6
            · replace h := oIp c1_6 h
              refine oRun.tsin 78 dX6_fitsClause_1 (q := 6) (by rw [c1_6]; rfl) (by decide) (by decide) rfl rfl ?_
              refine oRun.iload_n 79 dX6_fitsClause_78 1 rfl rfl rfl ?_
              refine oRun.bipush 81 dX6_fitsClause_79 oc_b49 rfl ?_
              by_cases c81 : x1 < 49
              · replace h := oIp c81 h
                refine oRun.icmp_lt_t 94 dX6_fitsClause_81 c81 rfl ?_
                refine oRun.iconst 95 dX6_fitsClause_94 oc_i0 rfl ?_
                rw [← Option.some.inj h]
                exact oRun.ret (r := some (.int 0)) dX6_fitsClause_95
              · replace h := oIn c81 h
                refine oRun.icmp_lt_f 84 dX6_fitsClause_81 rfl c81 rfl ?_
                refine oRun.iload_n 85 dX6_fitsClause_84 1 rfl rfl rfl ?_
                refine oRun.bipush 87 dX6_fitsClause_85 oc_b57 rfl ?_
                by_cases c87 : 57 < x1
                · replace h := oIp c87 h
                  refine oRun.icmp_gt_t 94 dX6_fitsClause_87 c87 rfl ?_
                  refine oRun.iconst 95 dX6_fitsClause_94 oc_i0 rfl ?_
                  rw [← Option.some.inj h]
                  exact oRun.ret (r := some (.int 0)) dX6_fitsClause_95
                · replace h := oIn c87 h
                  refine oRun.icmp_gt_f 90 dX6_fitsClause_87 rfl c87 rfl ?_
                  refine oRun.iconst 91 dX6_fitsClause_90 oc_i1 rfl ?_
                  refine oRun.goto 95 dX6_fitsClause_91 rfl ?_
                  rw [← Option.some.inj h]
                  exact oRun.ret (r := some (.int 1)) dX6_fitsClause_95
            · replace h := oIn c1_6 h
              by_cases c1_8 : x0 = 8
              · replace h := oIp c1_8 h
                refine oRun.tsin 108 dX6_fitsClause_1 (q := 8) (by rw [c1_8]; rfl) (by decide) (by decide) rfl rfl ?_
                refine oRun.iload_n 109 dX6_fitsClause_108 1 rfl rfl rfl ?_
                refine oRun.bipush 111 dX6_fitsClause_109 oc_b59 rfl ?_
                by_cases c111 : x1 = 59
                · replace h := oIp c111 h
                  refine oRun.icmp_ne_f 114 dX6_fitsClause_111 rfl c111 rfl ?_
                  refine oRun.iconst 115 dX6_fitsClause_114 oc_i1 rfl ?_
                  refine oRun.goto 119 dX6_fitsClause_115 rfl ?_
                  rw [← Option.some.inj h]
                  exact oRun.ret (r := some (.int 1)) dX6_fitsClause_119
                · replace h := oIn c111 h
                  refine oRun.icmp_ne_t 118 dX6_fitsClause_111 c111 rfl ?_
                  refine oRun.iconst 119 dX6_fitsClause_118 oc_i0 rfl ?_
                  rw [← Option.some.inj h]
                  exact oRun.ret (r := some (.int 0)) dX6_fitsClause_119
              · replace h := oIn c1_8 h
                have dk : oRun G M_X6_fitsClause 120 [(0, .int x0), (1, .int x1)] [] m (some (.int w)) m := by
                  refine oRun.iload_n 121 dX6_fitsClause_120 1 rfl rfl rfl ?_
                  refine oRun.bipush 123 dX6_fitsClause_121 oc_b48 rfl ?_
                  by_cases c123 : x1 < 48
                  · replace h := oIp c123 h
                    refine oRun.icmp_lt_t 136 dX6_fitsClause_123 c123 rfl ?_
                    refine oRun.iconst 137 dX6_fitsClause_136 oc_i0 rfl ?_
                    rw [← Option.some.inj h]
                    exact oRun.ret (r := some (.int 0)) dX6_fitsClause_137
                  · replace h := oIn c123 h
                    refine oRun.icmp_lt_f 126 dX6_fitsClause_123 rfl c123 rfl ?_
                    refine oRun.iload_n 127 dX6_fitsClause_126 1 rfl rfl rfl ?_
                    refine oRun.bipush 129 dX6_fitsClause_127 oc_b57 rfl ?_
                    by_cases c129 : 57 < x1
                    · replace h := oIp c129 h
                      refine oRun.icmp_gt_t 136 dX6_fitsClause_129 c129 rfl ?_
                      refine oRun.iconst 137 dX6_fitsClause_136 oc_i0 rfl ?_
                      rw [← Option.some.inj h]
                      exact oRun.ret (r := some (.int 0)) dX6_fitsClause_137
                    · replace h := oIn c129 h
                      refine oRun.icmp_gt_f 132 dX6_fitsClause_129 rfl c129 rfl ?_
                      refine oRun.iconst 133 dX6_fitsClause_132 oc_i1 rfl ?_
                      refine oRun.goto 137 dX6_fitsClause_133 rfl ?_
                      rw [← Option.some.inj h]
                      exact oRun.ret (r := some (.int 1)) dX6_fitsClause_137
                by_cases hl1 : x0.toInt < 0 ∨ 8 < x0.toInt
                · exact oRun.tsout 120 dX6_fitsClause_1 hl1 rfl dk
                · have hq : x0.toInt = 0 ∨ x0.toInt = 1 ∨ x0.toInt = 2 ∨ x0.toInt = 3 ∨ x0.toInt = 4 ∨ x0.toInt = 5 ∨ x0.toInt = 6 ∨ x0.toInt = 7 ∨ x0.toInt = 8 := by omega
                  rcases hq with hq | hq | hq | hq | hq | hq | hq | hq | hq
                  · exact absurd (oTs (k := 0) rfl hq) c1_0
                  · exact oRun.tsin 120 dX6_fitsClause_1 (q := 1) hq (by decide) (by decide) rfl rfl dk
                  · exact absurd (oTs (k := 2) rfl hq) c1_2
                  · exact absurd (oTs (k := 3) rfl hq) c1_3
                  · exact oRun.tsin 120 dX6_fitsClause_1 (q := 4) hq (by decide) (by decide) rfl rfl dk
                  · exact absurd (oTs (k := 5) rfl hq) c1_5
                  · exact absurd (oTs (k := 6) rfl hq) c1_6
                  · exact oRun.tsin 120 dX6_fitsClause_1 (q := 7) hq (by decide) (by decide) rfl rfl dk
                  · exact absurd (oTs (k := 8) rfl hq) c1_8
  · show oROK (some .boolean) (some (.int w))
    by_cases c1_0 : x0 = 0
    · replace h := oIp c1_0 h
      obtain ⟨r53, hr53, h⟩ := oB1 h
      by_cases c57 : r53 = (-1)
      · replace h := oIp c57 h
        rw [← Option.some.inj h]
        exact Or.inl rfl
      · replace h := oIn c57 h
        rw [← Option.some.inj h]
        exact Or.inr rfl
    · replace h := oIn c1_0 h
      by_cases c1_2 : x0 = 2
      · replace h := oIp c1_2 h
        by_cases c69 : x1 = 32
        · replace h := oIp c69 h
          rw [← Option.some.inj h]
          exact Or.inr rfl
        · replace h := oIn c69 h
          rw [← Option.some.inj h]
          exact Or.inl rfl
      · replace h := oIn c1_2 h
        by_cases c1_3 : x0 = 3
        · replace h := oIp c1_3 h
          by_cases c81 : x1 < 49
          · replace h := oIp c81 h
            rw [← Option.some.inj h]
            exact Or.inl rfl
          · replace h := oIn c81 h
            by_cases c87 : 57 < x1
            · replace h := oIp c87 h
              rw [← Option.some.inj h]
              exact Or.inl rfl
            · replace h := oIn c87 h
              rw [← Option.some.inj h]
              exact Or.inr rfl
        · replace h := oIn c1_3 h
          by_cases c1_5 : x0 = 5
          · replace h := oIp c1_5 h
            by_cases c99 : x1 = 47
            · replace h := oIp c99 h
              rw [← Option.some.inj h]
              exact Or.inr rfl
            · replace h := oIn c99 h
              rw [← Option.some.inj h]
              exact Or.inl rfl
          · replace h := oIn c1_5 h
            by_cases c1_6 : x0 = 6
            · replace h := oIp c1_6 h
              by_cases c81 : x1 < 49
              · replace h := oIp c81 h
                rw [← Option.some.inj h]
                exact Or.inl rfl
              · replace h := oIn c81 h
                by_cases c87 : 57 < x1
                · replace h := oIp c87 h
                  rw [← Option.some.inj h]
                  exact Or.inl rfl
                · replace h := oIn c87 h
                  rw [← Option.some.inj h]
                  exact Or.inr rfl
            · replace h := oIn c1_6 h
              by_cases c1_8 : x0 = 8
              · replace h := oIp c1_8 h
                by_cases c111 : x1 = 59
                · replace h := oIp c111 h
                  rw [← Option.some.inj h]
                  exact Or.inr rfl
                · replace h := oIn c111 h
                  rw [← Option.some.inj h]
                  exact Or.inl rfl
              · replace h := oIn c1_8 h
                by_cases c123 : x1 < 48
                · replace h := oIp c123 h
                  rw [← Option.some.inj h]
                  exact Or.inl rfl
                · replace h := oIn c123 h
                  by_cases c129 : 57 < x1
                  · replace h := oIp c129 h
                    rw [← Option.some.inj h]
                    exact Or.inl rfl
                  · replace h := oIn c129 h
                    rw [← Option.some.inj h]
                    exact Or.inr rfl
